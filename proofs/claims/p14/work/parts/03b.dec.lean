theorem dX1_init_0 : decode cX1_init 0 = .ok (.aload_n 0, 1) := by decide +kernel
theorem dX1_init_1 : decode cX1_init 1 = .ok (.invokespecial 3, 3) := by decide +kernel
theorem dX1_init_4 : decode cX1_init 4 = .ok (.aload_n 0, 1) := by decide +kernel
theorem dX1_init_5 : decode cX1_init 5 = .ok (.new 9, 3) := by decide +kernel
theorem dX1_init_8 : decode cX1_init 8 = .ok (.dup, 1) := by decide +kernel
theorem dX1_init_9 : decode cX1_init 9 = .ok (.sipush 1200, 3) := by decide +kernel
theorem dX1_init_12 : decode cX1_init 12 = .ok (.invokespecial 13, 3) := by decide +kernel
theorem dX1_init_15 : decode cX1_init 15 = .ok (.putfield 16, 3) := by decide +kernel
theorem dX1_init_18 : decode cX1_init 18 = .ok (.aload_n 0, 1) := by decide +kernel
theorem dX1_init_19 : decode cX1_init 19 = .ok (.new 20, 3) := by decide +kernel
theorem dX1_init_22 : decode cX1_init 22 = .ok (.dup, 1) := by decide +kernel
theorem dX1_init_23 : decode cX1_init 23 = .ok (.sipush 400, 3) := by decide +kernel
theorem dX1_init_26 : decode cX1_init 26 = .ok (.invokespecial 22, 3) := by decide +kernel
theorem dX1_init_29 : decode cX1_init 29 = .ok (.putfield 23, 3) := by decide +kernel
theorem dX1_init_32 : decode cX1_init 32 = .ok (.aload_n 0, 1) := by decide +kernel
theorem dX1_init_33 : decode cX1_init 33 = .ok (.new 27, 3) := by decide +kernel
theorem dX1_init_36 : decode cX1_init 36 = .ok (.dup, 1) := by decide +kernel
theorem dX1_init_37 : decode cX1_init 37 = .ok (.invokespecial 29, 3) := by decide +kernel
theorem dX1_init_40 : decode cX1_init 40 = .ok (.putfield 30, 3) := by decide +kernel
theorem dX1_init_43 : decode cX1_init 43 = .ok (.aload_n 0, 1) := by decide +kernel
theorem dX1_init_44 : decode cX1_init 44 = .ok (.sipush 4411, 3) := by decide +kernel
theorem dX1_init_47 : decode cX1_init 47 = .ok (.newarray .int, 2) := by decide +kernel
theorem dX1_init_49 : decode cX1_init 49 = .ok (.putfield 34, 3) := by decide +kernel
theorem dX1_init_52 : decode cX1_init 52 = .ok (.aload_n 0, 1) := by decide +kernel
theorem dX1_init_53 : decode cX1_init 53 = .ok (.sipush 400, 3) := by decide +kernel
theorem dX1_init_56 : decode cX1_init 56 = .ok (.newarray .int, 2) := by decide +kernel
theorem dX1_init_58 : decode cX1_init 58 = .ok (.putfield 38, 3) := by decide +kernel
theorem dX1_init_61 : decode cX1_init 61 = .ok (.aload_n 0, 1) := by decide +kernel
theorem dX1_init_62 : decode cX1_init 62 = .ok (.sipush 400, 3) := by decide +kernel
theorem dX1_init_65 : decode cX1_init 65 = .ok (.newarray .int, 2) := by decide +kernel
theorem dX1_init_67 : decode cX1_init 67 = .ok (.putfield 41, 3) := by decide +kernel
theorem dX1_init_70 : decode cX1_init 70 = .ok (.return_, 1) := by decide +kernel
theorem dX1_run_0 : decode cX1_run 0 = .ok (.aload_n 0, 1) := by decide +kernel
theorem dX1_run_1 : decode cX1_run 1 = .ok (.getfield 16, 3) := by decide +kernel
theorem dX1_run_4 : decode cX1_run 4 = .ok (.invokevirtual 44, 3) := by decide +kernel
theorem dX1_run_7 : decode cX1_run 7 = .ok (.aload_n 0, 1) := by decide +kernel
theorem dX1_run_8 : decode cX1_run 8 = .ok (.iconst 0, 1) := by decide +kernel
theorem dX1_run_9 : decode cX1_run 9 = .ok (.putfield 47, 3) := by decide +kernel
theorem dX1_run_12 : decode cX1_run 12 = .ok (.aload_n 0, 1) := by decide +kernel
theorem dX1_run_13 : decode cX1_run 13 = .ok (.iconst 0, 1) := by decide +kernel
theorem dX1_run_14 : decode cX1_run 14 = .ok (.putfield 51, 3) := by decide +kernel
theorem dX1_run_17 : decode cX1_run 17 = .ok (.iconst 0, 1) := by decide +kernel
theorem dX1_run_18 : decode cX1_run 18 = .ok (.istore_n 2, 1) := by decide +kernel
theorem dX1_run_19 : decode cX1_run 19 = .ok (.iload_n 2, 1) := by decide +kernel
theorem dX1_run_20 : decode cX1_run 20 = .ok (.aload_n 1, 1) := by decide +kernel
theorem dX1_run_21 : decode cX1_run 21 = .ok (.getfield 54, 3) := by decide +kernel
theorem dX1_run_24 : decode cX1_run 24 = .ok (.if_icmp .ge 97, 3) := by decide +kernel
theorem dX1_run_27 : decode cX1_run 27 = .ok (.aload_n 1, 1) := by decide +kernel
theorem dX1_run_28 : decode cX1_run 28 = .ok (.iload_n 2, 1) := by decide +kernel
theorem dX1_run_29 : decode cX1_run 29 = .ok (.invokevirtual 57, 3) := by decide +kernel
theorem dX1_run_32 : decode cX1_run 32 = .ok (.istore_n 3, 1) := by decide +kernel
theorem dX1_run_33 : decode cX1_run 33 = .ok (.aload_n 0, 1) := by decide +kernel
theorem dX1_run_34 : decode cX1_run 34 = .ok (.getfield 16, 3) := by decide +kernel
theorem dX1_run_37 : decode cX1_run 37 = .ok (.getfield 61, 3) := by decide +kernel
theorem dX1_run_40 : decode cX1_run 40 = .ok (.iconst 1, 1) := by decide +kernel
theorem dX1_run_41 : decode cX1_run 41 = .ok (.invokevirtual 64, 3) := by decide +kernel
theorem dX1_run_44 : decode cX1_run 44 = .ok (.ifCond .ne 5, 3) := by decide +kernel
theorem dX1_run_47 : decode cX1_run 47 = .ok (.iconst 0, 1) := by decide +kernel
theorem dX1_run_48 : decode cX1_run 48 = .ok (.ireturn, 1) := by decide +kernel
theorem dX1_run_49 : decode cX1_run 49 = .ok (.iload_n 3, 1) := by decide +kernel
theorem dX1_run_50 : decode cX1_run 50 = .ok (.bipush 6, 2) := by decide +kernel
theorem dX1_run_52 : decode cX1_run 52 = .ok (.if_icmp .ge 15, 3) := by decide +kernel
theorem dX1_run_55 : decode cX1_run 55 = .ok (.aload_n 0, 1) := by decide +kernel
theorem dX1_run_56 : decode cX1_run 56 = .ok (.getfield 16, 3) := by decide +kernel
theorem dX1_run_59 : decode cX1_run 59 = .ok (.aload_n 1, 1) := by decide +kernel
theorem dX1_run_60 : decode cX1_run 60 = .ok (.iload_n 2, 1) := by decide +kernel
theorem dX1_run_61 : decode cX1_run 61 = .ok (.invokevirtual 68, 3) := by decide +kernel
theorem dX1_run_64 : decode cX1_run 64 = .ok (.goto 36, 3) := by decide +kernel
theorem dX1_run_67 : decode cX1_run 67 = .ok (.iload_n 3, 1) := by decide +kernel
theorem dX1_run_68 : decode cX1_run 68 = .ok (.bipush 8, 2) := by decide +kernel
theorem dX1_run_70 : decode cX1_run 70 = .ok (.if_icmp .ge 14, 3) := by decide +kernel
theorem dX1_run_73 : decode cX1_run 73 = .ok (.aload_n 0, 1) := by decide +kernel
theorem dX1_run_74 : decode cX1_run 74 = .ok (.getfield 16, 3) := by decide +kernel
theorem dX1_run_77 : decode cX1_run 77 = .ok (.iload_n 3, 1) := by decide +kernel
theorem dX1_run_78 : decode cX1_run 78 = .ok (.invokevirtual 72, 3) := by decide +kernel
theorem dX1_run_81 : decode cX1_run 81 = .ok (.goto 19, 3) := by decide +kernel
theorem dX1_run_84 : decode cX1_run 84 = .ok (.aload_n 0, 1) := by decide +kernel
theorem dX1_run_85 : decode cX1_run 85 = .ok (.iload_n 3, 1) := by decide +kernel
theorem dX1_run_86 : decode cX1_run 86 = .ok (.aload_n 1, 1) := by decide +kernel
theorem dX1_run_87 : decode cX1_run 87 = .ok (.iload_n 2, 1) := by decide +kernel
theorem dX1_run_88 : decode cX1_run 88 = .ok (.iconst 0, 1) := by decide +kernel
theorem dX1_run_89 : decode cX1_run 89 = .ok (.invokevirtual 75, 3) := by decide +kernel
theorem dX1_run_92 : decode cX1_run 92 = .ok (.invokevirtual 79, 3) := by decide +kernel
theorem dX1_run_95 : decode cX1_run 95 = .ok (.ifCond .ne 5, 3) := by decide +kernel
theorem dX1_run_98 : decode cX1_run 98 = .ok (.iconst 0, 1) := by decide +kernel
theorem dX1_run_99 : decode cX1_run 99 = .ok (.ireturn, 1) := by decide +kernel
theorem dX1_run_100 : decode cX1_run 100 = .ok (.aload_n 0, 1) := by decide +kernel
theorem dX1_run_101 : decode cX1_run 101 = .ok (.getfield 16, 3) := by decide +kernel
theorem dX1_run_104 : decode cX1_run 104 = .ok (.invokevirtual 83, 3) := by decide +kernel
theorem dX1_run_107 : decode cX1_run 107 = .ok (.sipush 400, 3) := by decide +kernel
theorem dX1_run_110 : decode cX1_run 110 = .ok (.if_icmp .le 5, 3) := by decide +kernel
theorem dX1_run_113 : decode cX1_run 113 = .ok (.iconst 0, 1) := by decide +kernel
theorem dX1_run_114 : decode cX1_run 114 = .ok (.ireturn, 1) := by decide +kernel
theorem dX1_run_115 : decode cX1_run 115 = .ok (.iinc 2 1, 3) := by decide +kernel
theorem dX1_run_118 : decode cX1_run 118 = .ok (.goto (-99), 3) := by decide +kernel
theorem dX1_run_121 : decode cX1_run 121 = .ok (.iconst 1, 1) := by decide +kernel
theorem dX1_run_122 : decode cX1_run 122 = .ok (.ireturn, 1) := by decide +kernel
theorem dX1_putValue_0 : decode cX1_putValue 0 = .ok (.aload_n 0, 1) := by decide +kernel
theorem dX1_putValue_1 : decode cX1_putValue 1 = .ok (.getfield 16, 3) := by decide +kernel
theorem dX1_putValue_4 : decode cX1_putValue 4 = .ok (.invokevirtual 44, 3) := by decide +kernel
theorem dX1_putValue_7 : decode cX1_putValue 7 = .ok (.aload_n 0, 1) := by decide +kernel
theorem dX1_putValue_8 : decode cX1_putValue 8 = .ok (.getfield 34, 3) := by decide +kernel
theorem dX1_putValue_11 : decode cX1_putValue 11 = .ok (.iconst 0, 1) := by decide +kernel
theorem dX1_putValue_12 : decode cX1_putValue 12 = .ok (.bipush 11, 2) := by decide +kernel
theorem dX1_putValue_14 : decode cX1_putValue 14 = .ok (.iconst 0, 1) := by decide +kernel
theorem dX1_putValue_15 : decode cX1_putValue 15 = .ok (.invokestatic 87, 3) := by decide +kernel
theorem dX1_putValue_18 : decode cX1_putValue 18 = .ok (.aload_n 0, 1) := by decide +kernel
theorem dX1_putValue_19 : decode cX1_putValue 19 = .ok (.getfield 34, 3) := by decide +kernel
theorem dX1_putValue_22 : decode cX1_putValue 22 = .ok (.bipush 9, 2) := by decide +kernel
theorem dX1_putValue_24 : decode cX1_putValue 24 = .ok (.iload_n 3, 1) := by decide +kernel
theorem dX1_putValue_25 : decode cX1_putValue 25 = .ok (.iastore, 1) := by decide +kernel
theorem dX1_putValue_26 : decode cX1_putValue 26 = .ok (.aload_n 0, 1) := by decide +kernel
theorem dX1_putValue_27 : decode cX1_putValue 27 = .ok (.getfield 34, 3) := by decide +kernel
theorem dX1_putValue_30 : decode cX1_putValue 30 = .ok (.bipush 10, 2) := by decide +kernel
theorem dX1_putValue_32 : decode cX1_putValue 32 = .ok (.iload 4, 2) := by decide +kernel
theorem dX1_putValue_34 : decode cX1_putValue 34 = .ok (.iastore, 1) := by decide +kernel
theorem dX1_putValue_35 : decode cX1_putValue 35 = .ok (.aload_n 0, 1) := by decide +kernel
theorem dX1_putValue_36 : decode cX1_putValue 36 = .ok (.aload_n 1, 1) := by decide +kernel
theorem dX1_putValue_37 : decode cX1_putValue 37 = .ok (.iload_n 2, 1) := by decide +kernel
theorem dX1_putValue_38 : decode cX1_putValue 38 = .ok (.invokevirtual 93, 3) := by decide +kernel
theorem dX1_putValue_41 : decode cX1_putValue 41 = .ok (.aload_n 1, 1) := by decide +kernel
theorem dX1_putValue_42 : decode cX1_putValue 42 = .ok (.getfield 54, 3) := by decide +kernel
theorem dX1_putValue_45 : decode cX1_putValue 45 = .ok (.sipush 400, 3) := by decide +kernel
theorem dX1_putValue_48 : decode cX1_putValue 48 = .ok (.invokestatic 96, 3) := by decide +kernel
theorem dX1_putValue_51 : decode cX1_putValue 51 = .ok (.istore 5, 2) := by decide +kernel
theorem dX1_putValue_53 : decode cX1_putValue 53 = .ok (.iconst 0, 1) := by decide +kernel
theorem dX1_putValue_54 : decode cX1_putValue 54 = .ok (.istore 6, 2) := by decide +kernel
theorem dX1_putValue_56 : decode cX1_putValue 56 = .ok (.iload 6, 2) := by decide +kernel
theorem dX1_putValue_58 : decode cX1_putValue 58 = .ok (.iload 5, 2) := by decide +kernel
theorem dX1_putValue_60 : decode cX1_putValue 60 = .ok (.if_icmp .ge 110, 3) := by decide +kernel
theorem dX1_putValue_63 : decode cX1_putValue 63 = .ok (.aload_n 1, 1) := by decide +kernel
theorem dX1_putValue_64 : decode cX1_putValue 64 = .ok (.iload 6, 2) := by decide +kernel
theorem dX1_putValue_66 : decode cX1_putValue 66 = .ok (.invokevirtual 57, 3) := by decide +kernel
theorem dX1_putValue_69 : decode cX1_putValue 69 = .ok (.istore 7, 2) := by decide +kernel
theorem dX1_putValue_71 : decode cX1_putValue 71 = .ok (.iload 7, 2) := by decide +kernel
theorem dX1_putValue_73 : decode cX1_putValue 73 = .ok (.bipush 8, 2) := by decide +kernel
theorem dX1_putValue_75 : decode cX1_putValue 75 = .ok (.if_icmp .lt 22, 3) := by decide +kernel
theorem dX1_putValue_78 : decode cX1_putValue 78 = .ok (.aload_n 0, 1) := by decide +kernel
theorem dX1_putValue_79 : decode cX1_putValue 79 = .ok (.getfield 16, 3) := by decide +kernel
theorem dX1_putValue_82 : decode cX1_putValue 82 = .ok (.iload 7, 2) := by decide +kernel
theorem dX1_putValue_84 : decode cX1_putValue 84 = .ok (.aload_n 1, 1) := by decide +kernel
theorem dX1_putValue_85 : decode cX1_putValue 85 = .ok (.iload 6, 2) := by decide +kernel
theorem dX1_putValue_87 : decode cX1_putValue 87 = .ok (.iconst 0, 1) := by decide +kernel
theorem dX1_putValue_88 : decode cX1_putValue 88 = .ok (.invokevirtual 75, 3) := by decide +kernel
theorem dX1_putValue_91 : decode cX1_putValue 91 = .ok (.invokevirtual 101, 3) := by decide +kernel
theorem dX1_putValue_94 : decode cX1_putValue 94 = .ok (.goto 70, 3) := by decide +kernel
theorem dX1_putValue_97 : decode cX1_putValue 97 = .ok (.iload 7, 2) := by decide +kernel
theorem dX1_putValue_99 : decode cX1_putValue 99 = .ok (.bipush 6, 2) := by decide +kernel
theorem dX1_putValue_101 : decode cX1_putValue 101 = .ok (.if_icmp .lt 15, 3) := by decide +kernel
theorem dX1_putValue_104 : decode cX1_putValue 104 = .ok (.aload_n 0, 1) := by decide +kernel
theorem dX1_putValue_105 : decode cX1_putValue 105 = .ok (.getfield 16, 3) := by decide +kernel
theorem dX1_putValue_108 : decode cX1_putValue 108 = .ok (.iload 7, 2) := by decide +kernel
theorem dX1_putValue_110 : decode cX1_putValue 110 = .ok (.invokevirtual 72, 3) := by decide +kernel
theorem dX1_putValue_113 : decode cX1_putValue 113 = .ok (.goto 51, 3) := by decide +kernel
theorem dX1_putValue_116 : decode cX1_putValue 116 = .ok (.aload_n 1, 1) := by decide +kernel
theorem dX1_putValue_117 : decode cX1_putValue 117 = .ok (.iload 6, 2) := by decide +kernel
theorem dX1_putValue_119 : decode cX1_putValue 119 = .ok (.iload_n 2, 1) := by decide +kernel
theorem dX1_putValue_120 : decode cX1_putValue 120 = .ok (.invokevirtual 75, 3) := by decide +kernel
theorem dX1_putValue_123 : decode cX1_putValue 123 = .ok (.ifCond .eq 14, 3) := by decide +kernel
theorem dX1_putValue_126 : decode cX1_putValue 126 = .ok (.aload_n 0, 1) := by decide +kernel
theorem dX1_putValue_127 : decode cX1_putValue 127 = .ok (.getfield 41, 3) := by decide +kernel
theorem dX1_putValue_130 : decode cX1_putValue 130 = .ok (.iload 6, 2) := by decide +kernel
theorem dX1_putValue_132 : decode cX1_putValue 132 = .ok (.iaload, 1) := by decide +kernel
theorem dX1_putValue_133 : decode cX1_putValue 133 = .ok (.iconst 1, 1) := by decide +kernel
theorem dX1_putValue_134 : decode cX1_putValue 134 = .ok (.if_icmp .ne 16, 3) := by decide +kernel
theorem dX1_putValue_137 : decode cX1_putValue 137 = .ok (.aload_n 0, 1) := by decide +kernel
theorem dX1_putValue_138 : decode cX1_putValue 138 = .ok (.getfield 16, 3) := by decide +kernel
theorem dX1_putValue_141 : decode cX1_putValue 141 = .ok (.aload_n 1, 1) := by decide +kernel
theorem dX1_putValue_142 : decode cX1_putValue 142 = .ok (.iload 6, 2) := by decide +kernel
theorem dX1_putValue_144 : decode cX1_putValue 144 = .ok (.invokevirtual 68, 3) := by decide +kernel
theorem dX1_putValue_147 : decode cX1_putValue 147 = .ok (.goto 17, 3) := by decide +kernel
theorem dX1_putValue_150 : decode cX1_putValue 150 = .ok (.aload_n 0, 1) := by decide +kernel
theorem dX1_putValue_151 : decode cX1_putValue 151 = .ok (.aload_n 1, 1) := by decide +kernel
theorem dX1_putValue_152 : decode cX1_putValue 152 = .ok (.iload 6, 2) := by decide +kernel
theorem dX1_putValue_154 : decode cX1_putValue 154 = .ok (.iload_n 2, 1) := by decide +kernel
theorem dX1_putValue_155 : decode cX1_putValue 155 = .ok (.iconst 0, 1) := by decide +kernel
theorem dX1_putValue_156 : decode cX1_putValue 156 = .ok (.invokevirtual 105, 3) := by decide +kernel
theorem dX1_putValue_159 : decode cX1_putValue 159 = .ok (.ifCond .ne 5, 3) := by decide +kernel
theorem dX1_putValue_162 : decode cX1_putValue 162 = .ok (.iconst 0, 1) := by decide +kernel
theorem dX1_putValue_163 : decode cX1_putValue 163 = .ok (.ireturn, 1) := by decide +kernel
theorem dX1_putValue_164 : decode cX1_putValue 164 = .ok (.iinc 6 1, 3) := by decide +kernel
theorem dX1_putValue_167 : decode cX1_putValue 167 = .ok (.goto (-111), 3) := by decide +kernel
theorem dX1_putValue_170 : decode cX1_putValue 170 = .ok (.iconst 1, 1) := by decide +kernel
theorem dX1_putValue_171 : decode cX1_putValue 171 = .ok (.ireturn, 1) := by decide +kernel
theorem dX1_markBound_0 : decode cX1_markBound 0 = .ok (.aload_n 1, 1) := by decide +kernel
theorem dX1_markBound_1 : decode cX1_markBound 1 = .ok (.getfield 54, 3) := by decide +kernel
theorem dX1_markBound_4 : decode cX1_markBound 4 = .ok (.sipush 400, 3) := by decide +kernel
theorem dX1_markBound_7 : decode cX1_markBound 7 = .ok (.invokestatic 96, 3) := by decide +kernel
theorem dX1_markBound_10 : decode cX1_markBound 10 = .ok (.istore_n 3, 1) := by decide +kernel
theorem dX1_markBound_11 : decode cX1_markBound 11 = .ok (.aload_n 1, 1) := by decide +kernel
theorem dX1_markBound_12 : decode cX1_markBound 12 = .ok (.aload_n 0, 1) := by decide +kernel
theorem dX1_markBound_13 : decode cX1_markBound 13 = .ok (.getfield 38, 3) := by decide +kernel
theorem dX1_markBound_16 : decode cX1_markBound 16 = .ok (.invokevirtual 109, 3) := by decide +kernel
theorem dX1_markBound_19 : decode cX1_markBound 19 = .ok (.aload_n 0, 1) := by decide +kernel
theorem dX1_markBound_20 : decode cX1_markBound 20 = .ok (.getfield 41, 3) := by decide +kernel
theorem dX1_markBound_23 : decode cX1_markBound 23 = .ok (.iconst 0, 1) := by decide +kernel
theorem dX1_markBound_24 : decode cX1_markBound 24 = .ok (.invokestatic 113, 3) := by decide +kernel
theorem dX1_markBound_27 : decode cX1_markBound 27 = .ok (.iconst 0, 1) := by decide +kernel
theorem dX1_markBound_28 : decode cX1_markBound 28 = .ok (.istore 4, 2) := by decide +kernel
theorem dX1_markBound_30 : decode cX1_markBound 30 = .ok (.iload 4, 2) := by decide +kernel
theorem dX1_markBound_32 : decode cX1_markBound 32 = .ok (.iload_n 3, 1) := by decide +kernel
theorem dX1_markBound_33 : decode cX1_markBound 33 = .ok (.if_icmp .ge 65, 3) := by decide +kernel
theorem dX1_markBound_36 : decode cX1_markBound 36 = .ok (.aload_n 1, 1) := by decide +kernel
theorem dX1_markBound_37 : decode cX1_markBound 37 = .ok (.iload 4, 2) := by decide +kernel
theorem dX1_markBound_39 : decode cX1_markBound 39 = .ok (.invokevirtual 57, 3) := by decide +kernel
theorem dX1_markBound_42 : decode cX1_markBound 42 = .ok (.bipush 8, 2) := by decide +kernel
theorem dX1_markBound_44 : decode cX1_markBound 44 = .ok (.if_icmp .lt 48, 3) := by decide +kernel
theorem dX1_markBound_47 : decode cX1_markBound 47 = .ok (.aload_n 1, 1) := by decide +kernel
theorem dX1_markBound_48 : decode cX1_markBound 48 = .ok (.iload 4, 2) := by decide +kernel
theorem dX1_markBound_50 : decode cX1_markBound 50 = .ok (.iconst 0, 1) := by decide +kernel
theorem dX1_markBound_51 : decode cX1_markBound 51 = .ok (.invokevirtual 75, 3) := by decide +kernel
theorem dX1_markBound_54 : decode cX1_markBound 54 = .ok (.iload_n 2, 1) := by decide +kernel
theorem dX1_markBound_55 : decode cX1_markBound 55 = .ok (.if_icmp .ne 37, 3) := by decide +kernel
theorem dX1_markBound_58 : decode cX1_markBound 58 = .ok (.aload_n 0, 1) := by decide +kernel
theorem dX1_markBound_59 : decode cX1_markBound 59 = .ok (.getfield 38, 3) := by decide +kernel
theorem dX1_markBound_62 : decode cX1_markBound 62 = .ok (.iload 4, 2) := by decide +kernel
theorem dX1_markBound_64 : decode cX1_markBound 64 = .ok (.iaload, 1) := by decide +kernel
theorem dX1_markBound_65 : decode cX1_markBound 65 = .ok (.iconst 0, 1) := by decide +kernel
theorem dX1_markBound_66 : decode cX1_markBound 66 = .ok (.invokestatic 116, 3) := by decide +kernel
theorem dX1_markBound_69 : decode cX1_markBound 69 = .ok (.istore 5, 2) := by decide +kernel
theorem dX1_markBound_71 : decode cX1_markBound 71 = .ok (.iload 5, 2) := by decide +kernel
theorem dX1_markBound_73 : decode cX1_markBound 73 = .ok (.iload 4, 2) := by decide +kernel
theorem dX1_markBound_75 : decode cX1_markBound 75 = .ok (.if_icmp .ge 17, 3) := by decide +kernel
theorem dX1_markBound_78 : decode cX1_markBound 78 = .ok (.aload_n 0, 1) := by decide +kernel
theorem dX1_markBound_79 : decode cX1_markBound 79 = .ok (.getfield 41, 3) := by decide +kernel
theorem dX1_markBound_82 : decode cX1_markBound 82 = .ok (.iload 5, 2) := by decide +kernel
theorem dX1_markBound_84 : decode cX1_markBound 84 = .ok (.iconst 1, 1) := by decide +kernel
theorem dX1_markBound_85 : decode cX1_markBound 85 = .ok (.iastore, 1) := by decide +kernel
theorem dX1_markBound_86 : decode cX1_markBound 86 = .ok (.iinc 5 1, 3) := by decide +kernel
theorem dX1_markBound_89 : decode cX1_markBound 89 = .ok (.goto (-18), 3) := by decide +kernel
theorem dX1_markBound_92 : decode cX1_markBound 92 = .ok (.iinc 4 1, 3) := by decide +kernel
theorem dX1_markBound_95 : decode cX1_markBound 95 = .ok (.goto (-65), 3) := by decide +kernel
theorem dX1_markBound_98 : decode cX1_markBound 98 = .ok (.return_, 1) := by decide +kernel
theorem dX1_takeOut_0 : decode cX1_takeOut 0 = .ok (.aload_n 0, 1) := by decide +kernel
theorem dX1_takeOut_1 : decode cX1_takeOut 1 = .ok (.getfield 16, 3) := by decide +kernel
theorem dX1_takeOut_4 : decode cX1_takeOut 4 = .ok (.invokevirtual 119, 3) := by decide +kernel
theorem dX1_takeOut_7 : decode cX1_takeOut 7 = .ok (.iload_n 2, 1) := by decide +kernel
theorem dX1_takeOut_8 : decode cX1_takeOut 8 = .ok (.ishr, 1) := by decide +kernel
theorem dX1_takeOut_9 : decode cX1_takeOut 9 = .ok (.iconst 1, 1) := by decide +kernel
theorem dX1_takeOut_10 : decode cX1_takeOut 10 = .ok (.iand, 1) := by decide +kernel
theorem dX1_takeOut_11 : decode cX1_takeOut 11 = .ok (.ifCond .ne 5, 3) := by decide +kernel
theorem dX1_takeOut_14 : decode cX1_takeOut 14 = .ok (.iconst 1, 1) := by decide +kernel
theorem dX1_takeOut_15 : decode cX1_takeOut 15 = .ok (.ireturn, 1) := by decide +kernel
theorem dX1_takeOut_16 : decode cX1_takeOut 16 = .ok (.iload_n 1, 1) := by decide +kernel
theorem dX1_takeOut_17 : decode cX1_takeOut 17 = .ok (.bipush 9, 2) := by decide +kernel
theorem dX1_takeOut_19 : decode cX1_takeOut 19 = .ok (.if_icmp .ne 10, 3) := by decide +kernel
theorem dX1_takeOut_22 : decode cX1_takeOut 22 = .ok (.aload_n 0, 1) := by decide +kernel
theorem dX1_takeOut_23 : decode cX1_takeOut 23 = .ok (.getfield 16, 3) := by decide +kernel
theorem dX1_takeOut_26 : decode cX1_takeOut 26 = .ok (.invokevirtual 122, 3) := by decide +kernel
theorem dX1_takeOut_29 : decode cX1_takeOut 29 = .ok (.aload_n 0, 1) := by decide +kernel
theorem dX1_takeOut_30 : decode cX1_takeOut 30 = .ok (.getfield 16, 3) := by decide +kernel
theorem dX1_takeOut_33 : decode cX1_takeOut 33 = .ok (.aload_n 0, 1) := by decide +kernel
theorem dX1_takeOut_34 : decode cX1_takeOut 34 = .ok (.getfield 23, 3) := by decide +kernel
theorem dX1_takeOut_37 : decode cX1_takeOut 37 = .ok (.invokevirtual 125, 3) := by decide +kernel
theorem dX1_takeOut_40 : decode cX1_takeOut 40 = .ok (.aload_n 0, 1) := by decide +kernel
theorem dX1_takeOut_41 : decode cX1_takeOut 41 = .ok (.iload_n 2, 1) := by decide +kernel
theorem dX1_takeOut_42 : decode cX1_takeOut 42 = .ok (.invokevirtual 129, 3) := by decide +kernel
theorem dX1_takeOut_45 : decode cX1_takeOut 45 = .ok (.iconst 0, 1) := by decide +kernel
theorem dX1_takeOut_46 : decode cX1_takeOut 46 = .ok (.istore_n 3, 1) := by decide +kernel
theorem dX1_takeOut_47 : decode cX1_takeOut 47 = .ok (.iload_n 3, 1) := by decide +kernel
theorem dX1_takeOut_48 : decode cX1_takeOut 48 = .ok (.aload_n 0, 1) := by decide +kernel
theorem dX1_takeOut_49 : decode cX1_takeOut 49 = .ok (.getfield 132, 3) := by decide +kernel
theorem dX1_takeOut_52 : decode cX1_takeOut 52 = .ok (.if_icmp .ge 93, 3) := by decide +kernel
theorem dX1_takeOut_55 : decode cX1_takeOut 55 = .ok (.aload_n 0, 1) := by decide +kernel
theorem dX1_takeOut_56 : decode cX1_takeOut 56 = .ok (.dup, 1) := by decide +kernel
theorem dX1_takeOut_57 : decode cX1_takeOut 57 = .ok (.getfield 47, 3) := by decide +kernel
theorem dX1_takeOut_60 : decode cX1_takeOut 60 = .ok (.iconst 1, 1) := by decide +kernel
theorem dX1_takeOut_61 : decode cX1_takeOut 61 = .ok (.iadd, 1) := by decide +kernel
theorem dX1_takeOut_62 : decode cX1_takeOut 62 = .ok (.putfield 47, 3) := by decide +kernel
theorem dX1_takeOut_65 : decode cX1_takeOut 65 = .ok (.aload_n 0, 1) := by decide +kernel
theorem dX1_takeOut_66 : decode cX1_takeOut 66 = .ok (.getfield 16, 3) := by decide +kernel
theorem dX1_takeOut_69 : decode cX1_takeOut 69 = .ok (.getfield 61, 3) := by decide +kernel
theorem dX1_takeOut_72 : decode cX1_takeOut 72 = .ok (.aload_n 0, 1) := by decide +kernel
theorem dX1_takeOut_73 : decode cX1_takeOut 73 = .ok (.getfield 23, 3) := by decide +kernel
theorem dX1_takeOut_76 : decode cX1_takeOut 76 = .ok (.getfield 54, 3) := by decide +kernel
theorem dX1_takeOut_79 : decode cX1_takeOut 79 = .ok (.iconst 1, 1) := by decide +kernel
theorem dX1_takeOut_80 : decode cX1_takeOut 80 = .ok (.iadd, 1) := by decide +kernel
theorem dX1_takeOut_81 : decode cX1_takeOut 81 = .ok (.invokevirtual 64, 3) := by decide +kernel
theorem dX1_takeOut_84 : decode cX1_takeOut 84 = .ok (.ifCond .eq 12, 3) := by decide +kernel
theorem dX1_takeOut_87 : decode cX1_takeOut 87 = .ok (.aload_n 0, 1) := by decide +kernel
theorem dX1_takeOut_88 : decode cX1_takeOut 88 = .ok (.iload_n 2, 1) := by decide +kernel
theorem dX1_takeOut_89 : decode cX1_takeOut 89 = .ok (.iload_n 3, 1) := by decide +kernel
theorem dX1_takeOut_90 : decode cX1_takeOut 90 = .ok (.invokevirtual 135, 3) := by decide +kernel
theorem dX1_takeOut_93 : decode cX1_takeOut 93 = .ok (.ifCond .ne 5, 3) := by decide +kernel
theorem dX1_takeOut_96 : decode cX1_takeOut 96 = .ok (.iconst 0, 1) := by decide +kernel
theorem dX1_takeOut_97 : decode cX1_takeOut 97 = .ok (.ireturn, 1) := by decide +kernel
theorem dX1_takeOut_98 : decode cX1_takeOut 98 = .ok (.iload_n 3, 1) := by decide +kernel
theorem dX1_takeOut_99 : decode cX1_takeOut 99 = .ok (.ifCond .eq 12, 3) := by decide +kernel
theorem dX1_takeOut_102 : decode cX1_takeOut 102 = .ok (.aload_n 0, 1) := by decide +kernel
theorem dX1_takeOut_103 : decode cX1_takeOut 103 = .ok (.getfield 16, 3) := by decide +kernel
theorem dX1_takeOut_106 : decode cX1_takeOut 106 = .ok (.bipush 7, 2) := by decide +kernel
theorem dX1_takeOut_108 : decode cX1_takeOut 108 = .ok (.invokevirtual 72, 3) := by decide +kernel
theorem dX1_takeOut_111 : decode cX1_takeOut 111 = .ok (.aload_n 0, 1) := by decide +kernel
theorem dX1_takeOut_112 : decode cX1_takeOut 112 = .ok (.getfield 16, 3) := by decide +kernel
theorem dX1_takeOut_115 : decode cX1_takeOut 115 = .ok (.invokevirtual 83, 3) := by decide +kernel
theorem dX1_takeOut_118 : decode cX1_takeOut 118 = .ok (.sipush 400, 3) := by decide +kernel
theorem dX1_takeOut_121 : decode cX1_takeOut 121 = .ok (.if_icmp .le 5, 3) := by decide +kernel
theorem dX1_takeOut_124 : decode cX1_takeOut 124 = .ok (.iconst 0, 1) := by decide +kernel
theorem dX1_takeOut_125 : decode cX1_takeOut 125 = .ok (.ireturn, 1) := by decide +kernel
theorem dX1_takeOut_126 : decode cX1_takeOut 126 = .ok (.aload_n 0, 1) := by decide +kernel
theorem dX1_takeOut_127 : decode cX1_takeOut 127 = .ok (.getfield 16, 3) := by decide +kernel
theorem dX1_takeOut_130 : decode cX1_takeOut 130 = .ok (.invokevirtual 138, 3) := by decide +kernel
theorem dX1_takeOut_133 : decode cX1_takeOut 133 = .ok (.ifCond .ne 6, 3) := by decide +kernel
theorem dX1_takeOut_136 : decode cX1_takeOut 136 = .ok (.goto 9, 3) := by decide +kernel
theorem dX1_takeOut_139 : decode cX1_takeOut 139 = .ok (.iinc 3 1, 3) := by decide +kernel
theorem dX1_takeOut_142 : decode cX1_takeOut 142 = .ok (.goto (-95), 3) := by decide +kernel
theorem dX1_takeOut_145 : decode cX1_takeOut 145 = .ok (.aload_n 0, 1) := by decide +kernel
theorem dX1_takeOut_146 : decode cX1_takeOut 146 = .ok (.dup, 1) := by decide +kernel
theorem dX1_takeOut_147 : decode cX1_takeOut 147 = .ok (.getfield 51, 3) := by decide +kernel
theorem dX1_takeOut_150 : decode cX1_takeOut 150 = .ok (.iconst 1, 1) := by decide +kernel
theorem dX1_takeOut_151 : decode cX1_takeOut 151 = .ok (.iadd, 1) := by decide +kernel
theorem dX1_takeOut_152 : decode cX1_takeOut 152 = .ok (.putfield 51, 3) := by decide +kernel
theorem dX1_takeOut_155 : decode cX1_takeOut 155 = .ok (.iload_n 1, 1) := by decide +kernel
theorem dX1_takeOut_156 : decode cX1_takeOut 156 = .ok (.bipush 9, 2) := by decide +kernel
theorem dX1_takeOut_158 : decode cX1_takeOut 158 = .ok (.if_icmp .ne 10, 3) := by decide +kernel
theorem dX1_takeOut_161 : decode cX1_takeOut 161 = .ok (.aload_n 0, 1) := by decide +kernel
theorem dX1_takeOut_162 : decode cX1_takeOut 162 = .ok (.getfield 16, 3) := by decide +kernel
theorem dX1_takeOut_165 : decode cX1_takeOut 165 = .ok (.invokevirtual 122, 3) := by decide +kernel
theorem dX1_takeOut_168 : decode cX1_takeOut 168 = .ok (.iconst 1, 1) := by decide +kernel
theorem dX1_takeOut_169 : decode cX1_takeOut 169 = .ok (.ireturn, 1) := by decide +kernel
theorem dX1_collectPoints_0 : decode cX1_collectPoints 0 = .ok (.aload_n 0, 1) := by decide +kernel
theorem dX1_collectPoints_1 : decode cX1_collectPoints 1 = .ok (.iconst 1, 1) := by decide +kernel
theorem dX1_collectPoints_2 : decode cX1_collectPoints 2 = .ok (.putfield 132, 3) := by decide +kernel
theorem dX1_collectPoints_5 : decode cX1_collectPoints 5 = .ok (.iconst 0, 1) := by decide +kernel
theorem dX1_collectPoints_6 : decode cX1_collectPoints 6 = .ok (.istore_n 2, 1) := by decide +kernel
theorem dX1_collectPoints_7 : decode cX1_collectPoints 7 = .ok (.iload_n 2, 1) := by decide +kernel
theorem dX1_collectPoints_8 : decode cX1_collectPoints 8 = .ok (.aload_n 0, 1) := by decide +kernel
theorem dX1_collectPoints_9 : decode cX1_collectPoints 9 = .ok (.getfield 23, 3) := by decide +kernel
theorem dX1_collectPoints_12 : decode cX1_collectPoints 12 = .ok (.getfield 54, 3) := by decide +kernel
theorem dX1_collectPoints_15 : decode cX1_collectPoints 15 = .ok (.if_icmp .ge 90, 3) := by decide +kernel
theorem dX1_collectPoints_18 : decode cX1_collectPoints 18 = .ok (.aload_n 0, 1) := by decide +kernel
theorem dX1_collectPoints_19 : decode cX1_collectPoints 19 = .ok (.getfield 23, 3) := by decide +kernel
theorem dX1_collectPoints_22 : decode cX1_collectPoints 22 = .ok (.iload_n 2, 1) := by decide +kernel
theorem dX1_collectPoints_23 : decode cX1_collectPoints 23 = .ok (.iload_n 1, 1) := by decide +kernel
theorem dX1_collectPoints_24 : decode cX1_collectPoints 24 = .ok (.invokevirtual 75, 3) := by decide +kernel
theorem dX1_collectPoints_27 : decode cX1_collectPoints 27 = .ok (.istore_n 3, 1) := by decide +kernel
theorem dX1_collectPoints_28 : decode cX1_collectPoints 28 = .ok (.aload_n 0, 1) := by decide +kernel
theorem dX1_collectPoints_29 : decode cX1_collectPoints 29 = .ok (.getfield 23, 3) := by decide +kernel
theorem dX1_collectPoints_32 : decode cX1_collectPoints 32 = .ok (.iload_n 2, 1) := by decide +kernel
theorem dX1_collectPoints_33 : decode cX1_collectPoints 33 = .ok (.invokevirtual 57, 3) := by decide +kernel
theorem dX1_collectPoints_36 : decode cX1_collectPoints 36 = .ok (.istore 4, 2) := by decide +kernel
theorem dX1_collectPoints_38 : decode cX1_collectPoints 38 = .ok (.iload 4, 2) := by decide +kernel
theorem dX1_collectPoints_40 : decode cX1_collectPoints 40 = .ok (.iconst 2, 1) := by decide +kernel
theorem dX1_collectPoints_41 : decode cX1_collectPoints 41 = .ok (.if_icmp .lt 13, 3) := by decide +kernel
theorem dX1_collectPoints_44 : decode cX1_collectPoints 44 = .ok (.iload 4, 2) := by decide +kernel
theorem dX1_collectPoints_46 : decode cX1_collectPoints 46 = .ok (.iconst 5, 1) := by decide +kernel
theorem dX1_collectPoints_47 : decode cX1_collectPoints 47 = .ok (.if_icmp .gt 7, 3) := by decide +kernel
theorem dX1_collectPoints_50 : decode cX1_collectPoints 50 = .ok (.iconst 1, 1) := by decide +kernel
theorem dX1_collectPoints_51 : decode cX1_collectPoints 51 = .ok (.goto 4, 3) := by decide +kernel
theorem dX1_collectPoints_54 : decode cX1_collectPoints 54 = .ok (.iconst 0, 1) := by decide +kernel
theorem dX1_collectPoints_55 : decode cX1_collectPoints 55 = .ok (.istore 5, 2) := by decide +kernel
theorem dX1_collectPoints_57 : decode cX1_collectPoints 57 = .ok (.iload 5, 2) := by decide +kernel
theorem dX1_collectPoints_59 : decode cX1_collectPoints 59 = .ok (.ifCond .eq 40, 3) := by decide +kernel
theorem dX1_collectPoints_62 : decode cX1_collectPoints 62 = .ok (.iload_n 3, 1) := by decide +kernel
theorem dX1_collectPoints_63 : decode cX1_collectPoints 63 = .ok (.ifCond .eq 36, 3) := by decide +kernel
theorem dX1_collectPoints_66 : decode cX1_collectPoints 66 = .ok (.iload 4, 2) := by decide +kernel
theorem dX1_collectPoints_68 : decode cX1_collectPoints 68 = .ok (.iconst 3, 1) := by decide +kernel
theorem dX1_collectPoints_69 : decode cX1_collectPoints 69 = .ok (.if_icmp .le 7, 3) := by decide +kernel
theorem dX1_collectPoints_72 : decode cX1_collectPoints 72 = .ok (.iload_n 3, 1) := by decide +kernel
theorem dX1_collectPoints_73 : decode cX1_collectPoints 73 = .ok (.ifCond .ge 26, 3) := by decide +kernel
theorem dX1_collectPoints_76 : decode cX1_collectPoints 76 = .ok (.aload_n 0, 1) := by decide +kernel
theorem dX1_collectPoints_77 : decode cX1_collectPoints 77 = .ok (.iload_n 2, 1) := by decide +kernel
theorem dX1_collectPoints_78 : decode cX1_collectPoints 78 = .ok (.iload_n 1, 1) := by decide +kernel
theorem dX1_collectPoints_79 : decode cX1_collectPoints 79 = .ok (.iload 4, 2) := by decide +kernel
theorem dX1_collectPoints_81 : decode cX1_collectPoints 81 = .ok (.iconst 3, 1) := by decide +kernel
theorem dX1_collectPoints_82 : decode cX1_collectPoints 82 = .ok (.if_icmp .eq 9, 3) := by decide +kernel
theorem dX1_collectPoints_85 : decode cX1_collectPoints 85 = .ok (.iload 4, 2) := by decide +kernel
theorem dX1_collectPoints_87 : decode cX1_collectPoints 87 = .ok (.iconst 4, 1) := by decide +kernel
theorem dX1_collectPoints_88 : decode cX1_collectPoints 88 = .ok (.if_icmp .ne 7, 3) := by decide +kernel
theorem dX1_collectPoints_91 : decode cX1_collectPoints 91 = .ok (.iconst 1, 1) := by decide +kernel
theorem dX1_collectPoints_92 : decode cX1_collectPoints 92 = .ok (.goto 4, 3) := by decide +kernel
theorem dX1_collectPoints_95 : decode cX1_collectPoints 95 = .ok (.iconst 0, 1) := by decide +kernel
theorem dX1_collectPoints_96 : decode cX1_collectPoints 96 = .ok (.invokevirtual 141, 3) := by decide +kernel
theorem dX1_collectPoints_99 : decode cX1_collectPoints 99 = .ok (.iinc 2 1, 3) := by decide +kernel
theorem dX1_collectPoints_102 : decode cX1_collectPoints 102 = .ok (.goto (-95), 3) := by decide +kernel
theorem dX1_collectPoints_105 : decode cX1_collectPoints 105 = .ok (.return_, 1) := by decide +kernel
theorem dX1_addPoint_0 : decode cX1_addPoint 0 = .ok (.aload_n 0, 1) := by decide +kernel
theorem dX1_addPoint_1 : decode cX1_addPoint 1 = .ok (.getfield 132, 3) := by decide +kernel
theorem dX1_addPoint_4 : decode cX1_addPoint 4 = .ok (.sipush 400, 3) := by decide +kernel
theorem dX1_addPoint_7 : decode cX1_addPoint 7 = .ok (.if_icmp .le 4, 3) := by decide +kernel
theorem dX1_addPoint_10 : decode cX1_addPoint 10 = .ok (.return_, 1) := by decide +kernel
theorem dX1_addPoint_11 : decode cX1_addPoint 11 = .ok (.aload_n 0, 1) := by decide +kernel
theorem dX1_addPoint_12 : decode cX1_addPoint 12 = .ok (.getfield 132, 3) := by decide +kernel
theorem dX1_addPoint_15 : decode cX1_addPoint 15 = .ok (.bipush 11, 2) := by decide +kernel
theorem dX1_addPoint_17 : decode cX1_addPoint 17 = .ok (.imul, 1) := by decide +kernel
theorem dX1_addPoint_18 : decode cX1_addPoint 18 = .ok (.istore 4, 2) := by decide +kernel
theorem dX1_addPoint_20 : decode cX1_addPoint 20 = .ok (.aload_n 0, 1) := by decide +kernel
theorem dX1_addPoint_21 : decode cX1_addPoint 21 = .ok (.getfield 23, 3) := by decide +kernel
theorem dX1_addPoint_24 : decode cX1_addPoint 24 = .ok (.iload_n 1, 1) := by decide +kernel
theorem dX1_addPoint_25 : decode cX1_addPoint 25 = .ok (.iload_n 2, 1) := by decide +kernel
theorem dX1_addPoint_26 : decode cX1_addPoint 26 = .ok (.invokevirtual 75, 3) := by decide +kernel
theorem dX1_addPoint_29 : decode cX1_addPoint 29 = .ok (.istore 5, 2) := by decide +kernel
theorem dX1_addPoint_31 : decode cX1_addPoint 31 = .ok (.iload 5, 2) := by decide +kernel
theorem dX1_addPoint_33 : decode cX1_addPoint 33 = .ok (.ifCond .ge 7, 3) := by decide +kernel
theorem dX1_addPoint_36 : decode cX1_addPoint 36 = .ok (.iconst 1, 1) := by decide +kernel
theorem dX1_addPoint_37 : decode cX1_addPoint 37 = .ok (.goto 4, 3) := by decide +kernel
theorem dX1_addPoint_40 : decode cX1_addPoint 40 = .ok (.iconst (-1), 1) := by decide +kernel
theorem dX1_addPoint_41 : decode cX1_addPoint 41 = .ok (.istore 6, 2) := by decide +kernel
theorem dX1_addPoint_43 : decode cX1_addPoint 43 = .ok (.aload_n 0, 1) := by decide +kernel
theorem dX1_addPoint_44 : decode cX1_addPoint 44 = .ok (.getfield 34, 3) := by decide +kernel
theorem dX1_addPoint_47 : decode cX1_addPoint 47 = .ok (.iload 4, 2) := by decide +kernel
theorem dX1_addPoint_49 : decode cX1_addPoint 49 = .ok (.iload_n 3, 1) := by decide +kernel
theorem dX1_addPoint_50 : decode cX1_addPoint 50 = .ok (.iastore, 1) := by decide +kernel
theorem dX1_addPoint_51 : decode cX1_addPoint 51 = .ok (.iconst 0, 1) := by decide +kernel
theorem dX1_addPoint_52 : decode cX1_addPoint 52 = .ok (.istore 7, 2) := by decide +kernel
theorem dX1_addPoint_54 : decode cX1_addPoint 54 = .ok (.iload 7, 2) := by decide +kernel
theorem dX1_addPoint_56 : decode cX1_addPoint 56 = .ok (.bipush 9, 2) := by decide +kernel
theorem dX1_addPoint_58 : decode cX1_addPoint 58 = .ok (.if_icmp .ge 44, 3) := by decide +kernel
theorem dX1_addPoint_61 : decode cX1_addPoint 61 = .ok (.aload_n 0, 1) := by decide +kernel
theorem dX1_addPoint_62 : decode cX1_addPoint 62 = .ok (.getfield 34, 3) := by decide +kernel
theorem dX1_addPoint_65 : decode cX1_addPoint 65 = .ok (.iload 4, 2) := by decide +kernel
theorem dX1_addPoint_67 : decode cX1_addPoint 67 = .ok (.iconst 1, 1) := by decide +kernel
theorem dX1_addPoint_68 : decode cX1_addPoint 68 = .ok (.iadd, 1) := by decide +kernel
theorem dX1_addPoint_69 : decode cX1_addPoint 69 = .ok (.iload 7, 2) := by decide +kernel
theorem dX1_addPoint_71 : decode cX1_addPoint 71 = .ok (.iadd, 1) := by decide +kernel
theorem dX1_addPoint_72 : decode cX1_addPoint 72 = .ok (.iload 7, 2) := by decide +kernel
theorem dX1_addPoint_74 : decode cX1_addPoint 74 = .ok (.iload_n 2, 1) := by decide +kernel
theorem dX1_addPoint_75 : decode cX1_addPoint 75 = .ok (.if_icmp .ne 7, 3) := by decide +kernel
theorem dX1_addPoint_78 : decode cX1_addPoint 78 = .ok (.iconst 0, 1) := by decide +kernel
theorem dX1_addPoint_79 : decode cX1_addPoint 79 = .ok (.goto 16, 3) := by decide +kernel
theorem dX1_addPoint_82 : decode cX1_addPoint 82 = .ok (.iload 6, 2) := by decide +kernel
theorem dX1_addPoint_84 : decode cX1_addPoint 84 = .ok (.aload_n 0, 1) := by decide +kernel
theorem dX1_addPoint_85 : decode cX1_addPoint 85 = .ok (.getfield 23, 3) := by decide +kernel
theorem dX1_addPoint_88 : decode cX1_addPoint 88 = .ok (.iload_n 1, 1) := by decide +kernel
theorem dX1_addPoint_89 : decode cX1_addPoint 89 = .ok (.iload 7, 2) := by decide +kernel
theorem dX1_addPoint_91 : decode cX1_addPoint 91 = .ok (.invokevirtual 75, 3) := by decide +kernel
theorem dX1_addPoint_94 : decode cX1_addPoint 94 = .ok (.imul, 1) := by decide +kernel
theorem dX1_addPoint_95 : decode cX1_addPoint 95 = .ok (.iastore, 1) := by decide +kernel
theorem dX1_addPoint_96 : decode cX1_addPoint 96 = .ok (.iinc 7 1, 3) := by decide +kernel
theorem dX1_addPoint_99 : decode cX1_addPoint 99 = .ok (.goto (-45), 3) := by decide +kernel
theorem dX1_addPoint_102 : decode cX1_addPoint 102 = .ok (.aload_n 0, 1) := by decide +kernel
theorem dX1_addPoint_103 : decode cX1_addPoint 103 = .ok (.getfield 34, 3) := by decide +kernel
theorem dX1_addPoint_106 : decode cX1_addPoint 106 = .ok (.iload 4, 2) := by decide +kernel
theorem dX1_addPoint_108 : decode cX1_addPoint 108 = .ok (.iconst 1, 1) := by decide +kernel
theorem dX1_addPoint_109 : decode cX1_addPoint 109 = .ok (.iadd, 1) := by decide +kernel
theorem dX1_addPoint_110 : decode cX1_addPoint 110 = .ok (.bipush 9, 2) := by decide +kernel
theorem dX1_addPoint_112 : decode cX1_addPoint 112 = .ok (.iadd, 1) := by decide +kernel
theorem dX1_addPoint_113 : decode cX1_addPoint 113 = .ok (.iload 5, 2) := by decide +kernel
theorem dX1_addPoint_115 : decode cX1_addPoint 115 = .ok (.invokestatic 145, 3) := by decide +kernel
theorem dX1_addPoint_118 : decode cX1_addPoint 118 = .ok (.iastore, 1) := by decide +kernel
theorem dX1_addPoint_119 : decode cX1_addPoint 119 = .ok (.iconst 1, 1) := by decide +kernel
theorem dX1_addPoint_120 : decode cX1_addPoint 120 = .ok (.istore 7, 2) := by decide +kernel
theorem dX1_addPoint_122 : decode cX1_addPoint 122 = .ok (.iload 7, 2) := by decide +kernel
theorem dX1_addPoint_124 : decode cX1_addPoint 124 = .ok (.aload_n 0, 1) := by decide +kernel
theorem dX1_addPoint_125 : decode cX1_addPoint 125 = .ok (.getfield 132, 3) := by decide +kernel
theorem dX1_addPoint_128 : decode cX1_addPoint 128 = .ok (.if_icmp .ge 24, 3) := by decide +kernel
theorem dX1_addPoint_131 : decode cX1_addPoint 131 = .ok (.aload_n 0, 1) := by decide +kernel
theorem dX1_addPoint_132 : decode cX1_addPoint 132 = .ok (.iload 7, 2) := by decide +kernel
theorem dX1_addPoint_134 : decode cX1_addPoint 134 = .ok (.bipush 11, 2) := by decide +kernel
theorem dX1_addPoint_136 : decode cX1_addPoint 136 = .ok (.imul, 1) := by decide +kernel
theorem dX1_addPoint_137 : decode cX1_addPoint 137 = .ok (.iload 4, 2) := by decide +kernel
theorem dX1_addPoint_139 : decode cX1_addPoint 139 = .ok (.invokevirtual 148, 3) := by decide +kernel
theorem dX1_addPoint_142 : decode cX1_addPoint 142 = .ok (.ifCond .eq 4, 3) := by decide +kernel
theorem dX1_addPoint_145 : decode cX1_addPoint 145 = .ok (.return_, 1) := by decide +kernel
theorem dX1_addPoint_146 : decode cX1_addPoint 146 = .ok (.iinc 7 1, 3) := by decide +kernel
theorem dX1_addPoint_149 : decode cX1_addPoint 149 = .ok (.goto (-27), 3) := by decide +kernel
theorem dX1_addPoint_152 : decode cX1_addPoint 152 = .ok (.aload_n 0, 1) := by decide +kernel
theorem dX1_addPoint_153 : decode cX1_addPoint 153 = .ok (.dup, 1) := by decide +kernel
theorem dX1_addPoint_154 : decode cX1_addPoint 154 = .ok (.getfield 132, 3) := by decide +kernel
theorem dX1_addPoint_157 : decode cX1_addPoint 157 = .ok (.iconst 1, 1) := by decide +kernel
theorem dX1_addPoint_158 : decode cX1_addPoint 158 = .ok (.iadd, 1) := by decide +kernel
theorem dX1_addPoint_159 : decode cX1_addPoint 159 = .ok (.putfield 132, 3) := by decide +kernel
theorem dX1_addPoint_162 : decode cX1_addPoint 162 = .ok (.return_, 1) := by decide +kernel
theorem dX1_isSamePoint_0 : decode cX1_isSamePoint 0 = .ok (.iconst 0, 1) := by decide +kernel
theorem dX1_isSamePoint_1 : decode cX1_isSamePoint 1 = .ok (.istore_n 3, 1) := by decide +kernel
theorem dX1_isSamePoint_2 : decode cX1_isSamePoint 2 = .ok (.iload_n 3, 1) := by decide +kernel
theorem dX1_isSamePoint_3 : decode cX1_isSamePoint 3 = .ok (.bipush 11, 2) := by decide +kernel
theorem dX1_isSamePoint_5 : decode cX1_isSamePoint 5 = .ok (.if_icmp .ge 30, 3) := by decide +kernel
theorem dX1_isSamePoint_8 : decode cX1_isSamePoint 8 = .ok (.aload_n 0, 1) := by decide +kernel
theorem dX1_isSamePoint_9 : decode cX1_isSamePoint 9 = .ok (.getfield 34, 3) := by decide +kernel
theorem dX1_isSamePoint_12 : decode cX1_isSamePoint 12 = .ok (.iload_n 1, 1) := by decide +kernel
theorem dX1_isSamePoint_13 : decode cX1_isSamePoint 13 = .ok (.iload_n 3, 1) := by decide +kernel
theorem dX1_isSamePoint_14 : decode cX1_isSamePoint 14 = .ok (.iadd, 1) := by decide +kernel
theorem dX1_isSamePoint_15 : decode cX1_isSamePoint 15 = .ok (.iaload, 1) := by decide +kernel
theorem dX1_isSamePoint_16 : decode cX1_isSamePoint 16 = .ok (.aload_n 0, 1) := by decide +kernel
theorem dX1_isSamePoint_17 : decode cX1_isSamePoint 17 = .ok (.getfield 34, 3) := by decide +kernel
theorem dX1_isSamePoint_20 : decode cX1_isSamePoint 20 = .ok (.iload_n 2, 1) := by decide +kernel
theorem dX1_isSamePoint_21 : decode cX1_isSamePoint 21 = .ok (.iload_n 3, 1) := by decide +kernel
theorem dX1_isSamePoint_22 : decode cX1_isSamePoint 22 = .ok (.iadd, 1) := by decide +kernel
theorem dX1_isSamePoint_23 : decode cX1_isSamePoint 23 = .ok (.iaload, 1) := by decide +kernel
theorem dX1_isSamePoint_24 : decode cX1_isSamePoint 24 = .ok (.if_icmp .eq 5, 3) := by decide +kernel
theorem dX1_isSamePoint_27 : decode cX1_isSamePoint 27 = .ok (.iconst 0, 1) := by decide +kernel
theorem dX1_isSamePoint_28 : decode cX1_isSamePoint 28 = .ok (.ireturn, 1) := by decide +kernel
theorem dX1_isSamePoint_29 : decode cX1_isSamePoint 29 = .ok (.iinc 3 1, 3) := by decide +kernel
theorem dX1_isSamePoint_32 : decode cX1_isSamePoint 32 = .ok (.goto (-30), 3) := by decide +kernel
theorem dX1_isSamePoint_35 : decode cX1_isSamePoint 35 = .ok (.iconst 1, 1) := by decide +kernel
theorem dX1_isSamePoint_36 : decode cX1_isSamePoint 36 = .ok (.ireturn, 1) := by decide +kernel
theorem dX1_putIn_0 : decode cX1_putIn 0 = .ok (.iconst 0, 1) := by decide +kernel
theorem dX1_putIn_1 : decode cX1_putIn 1 = .ok (.istore_n 3, 1) := by decide +kernel
theorem dX1_putIn_2 : decode cX1_putIn 2 = .ok (.iload_n 3, 1) := by decide +kernel
theorem dX1_putIn_3 : decode cX1_putIn 3 = .ok (.aload_n 0, 1) := by decide +kernel
theorem dX1_putIn_4 : decode cX1_putIn 4 = .ok (.getfield 23, 3) := by decide +kernel
theorem dX1_putIn_7 : decode cX1_putIn 7 = .ok (.getfield 54, 3) := by decide +kernel
theorem dX1_putIn_10 : decode cX1_putIn 10 = .ok (.if_icmp .ge 121, 3) := by decide +kernel
theorem dX1_putIn_13 : decode cX1_putIn 13 = .ok (.aload_n 0, 1) := by decide +kernel
theorem dX1_putIn_14 : decode cX1_putIn 14 = .ok (.getfield 23, 3) := by decide +kernel
theorem dX1_putIn_17 : decode cX1_putIn 17 = .ok (.iload_n 3, 1) := by decide +kernel
theorem dX1_putIn_18 : decode cX1_putIn 18 = .ok (.invokevirtual 57, 3) := by decide +kernel
theorem dX1_putIn_21 : decode cX1_putIn 21 = .ok (.istore 4, 2) := by decide +kernel
theorem dX1_putIn_23 : decode cX1_putIn 23 = .ok (.aload_n 0, 1) := by decide +kernel
theorem dX1_putIn_24 : decode cX1_putIn 24 = .ok (.getfield 23, 3) := by decide +kernel
theorem dX1_putIn_27 : decode cX1_putIn 27 = .ok (.iload_n 3, 1) := by decide +kernel
theorem dX1_putIn_28 : decode cX1_putIn 28 = .ok (.iload_n 1, 1) := by decide +kernel
theorem dX1_putIn_29 : decode cX1_putIn 29 = .ok (.invokevirtual 75, 3) := by decide +kernel
theorem dX1_putIn_32 : decode cX1_putIn 32 = .ok (.istore 5, 2) := by decide +kernel
theorem dX1_putIn_34 : decode cX1_putIn 34 = .ok (.iload 4, 2) := by decide +kernel
theorem dX1_putIn_36 : decode cX1_putIn 36 = .ok (.bipush 6, 2) := by decide +kernel
theorem dX1_putIn_38 : decode cX1_putIn 38 = .ok (.if_icmp .lt 15, 3) := by decide +kernel
theorem dX1_putIn_41 : decode cX1_putIn 41 = .ok (.aload_n 0, 1) := by decide +kernel
theorem dX1_putIn_42 : decode cX1_putIn 42 = .ok (.getfield 16, 3) := by decide +kernel
theorem dX1_putIn_45 : decode cX1_putIn 45 = .ok (.iload 4, 2) := by decide +kernel
theorem dX1_putIn_47 : decode cX1_putIn 47 = .ok (.invokevirtual 72, 3) := by decide +kernel
theorem dX1_putIn_50 : decode cX1_putIn 50 = .ok (.goto 75, 3) := by decide +kernel
theorem dX1_putIn_53 : decode cX1_putIn 53 = .ok (.iload 5, 2) := by decide +kernel
theorem dX1_putIn_55 : decode cX1_putIn 55 = .ok (.ifCond .ne 18, 3) := by decide +kernel
theorem dX1_putIn_58 : decode cX1_putIn 58 = .ok (.aload_n 0, 1) := by decide +kernel
theorem dX1_putIn_59 : decode cX1_putIn 59 = .ok (.getfield 16, 3) := by decide +kernel
theorem dX1_putIn_62 : decode cX1_putIn 62 = .ok (.aload_n 0, 1) := by decide +kernel
theorem dX1_putIn_63 : decode cX1_putIn 63 = .ok (.getfield 23, 3) := by decide +kernel
theorem dX1_putIn_66 : decode cX1_putIn 66 = .ok (.iload_n 3, 1) := by decide +kernel
theorem dX1_putIn_67 : decode cX1_putIn 67 = .ok (.invokevirtual 68, 3) := by decide +kernel
theorem dX1_putIn_70 : decode cX1_putIn 70 = .ok (.goto 55, 3) := by decide +kernel
theorem dX1_putIn_73 : decode cX1_putIn 73 = .ok (.iload_n 2, 1) := by decide +kernel
theorem dX1_putIn_74 : decode cX1_putIn 74 = .ok (.ifCond .ne 35, 3) := by decide +kernel
theorem dX1_putIn_77 : decode cX1_putIn 77 = .ok (.aload_n 0, 1) := by decide +kernel
theorem dX1_putIn_78 : decode cX1_putIn 78 = .ok (.getfield 16, 3) := by decide +kernel
theorem dX1_putIn_81 : decode cX1_putIn 81 = .ok (.iload 4, 2) := by decide +kernel
theorem dX1_putIn_83 : decode cX1_putIn 83 = .ok (.iconst 3, 1) := by decide +kernel
theorem dX1_putIn_84 : decode cX1_putIn 84 = .ok (.if_icmp .eq 14, 3) := by decide +kernel
theorem dX1_putIn_87 : decode cX1_putIn 87 = .ok (.iload 4, 2) := by decide +kernel
theorem dX1_putIn_89 : decode cX1_putIn 89 = .ok (.iconst 4, 1) := by decide +kernel
theorem dX1_putIn_90 : decode cX1_putIn 90 = .ok (.if_icmp .lt 12, 3) := by decide +kernel
theorem dX1_putIn_93 : decode cX1_putIn 93 = .ok (.iload 5, 2) := by decide +kernel
theorem dX1_putIn_95 : decode cX1_putIn 95 = .ok (.ifCond .le 7, 3) := by decide +kernel
theorem dX1_putIn_98 : decode cX1_putIn 98 = .ok (.iconst 0, 1) := by decide +kernel
theorem dX1_putIn_99 : decode cX1_putIn 99 = .ok (.goto 4, 3) := by decide +kernel
theorem dX1_putIn_102 : decode cX1_putIn 102 = .ok (.iconst 1, 1) := by decide +kernel
theorem dX1_putIn_103 : decode cX1_putIn 103 = .ok (.invokevirtual 151, 3) := by decide +kernel
theorem dX1_putIn_106 : decode cX1_putIn 106 = .ok (.goto 19, 3) := by decide +kernel
theorem dX1_putIn_109 : decode cX1_putIn 109 = .ok (.aload_n 0, 1) := by decide +kernel
theorem dX1_putIn_110 : decode cX1_putIn 110 = .ok (.aload_n 0, 1) := by decide +kernel
theorem dX1_putIn_111 : decode cX1_putIn 111 = .ok (.getfield 23, 3) := by decide +kernel
theorem dX1_putIn_114 : decode cX1_putIn 114 = .ok (.iload_n 3, 1) := by decide +kernel
theorem dX1_putIn_115 : decode cX1_putIn 115 = .ok (.iload_n 1, 1) := by decide +kernel
theorem dX1_putIn_116 : decode cX1_putIn 116 = .ok (.iload_n 2, 1) := by decide +kernel
theorem dX1_putIn_117 : decode cX1_putIn 117 = .ok (.invokevirtual 105, 3) := by decide +kernel
theorem dX1_putIn_120 : decode cX1_putIn 120 = .ok (.ifCond .ne 5, 3) := by decide +kernel
theorem dX1_putIn_123 : decode cX1_putIn 123 = .ok (.iconst 0, 1) := by decide +kernel
theorem dX1_putIn_124 : decode cX1_putIn 124 = .ok (.ireturn, 1) := by decide +kernel
theorem dX1_putIn_125 : decode cX1_putIn 125 = .ok (.iinc 3 1, 3) := by decide +kernel
theorem dX1_putIn_128 : decode cX1_putIn 128 = .ok (.goto (-126), 3) := by decide +kernel
theorem dX1_putIn_131 : decode cX1_putIn 131 = .ok (.iconst 1, 1) := by decide +kernel
theorem dX1_putIn_132 : decode cX1_putIn 132 = .ok (.ireturn, 1) := by decide +kernel
theorem dX1_replace_0 : decode cX1_replace 0 = .ok (.iload 4, 2) := by decide +kernel
theorem dX1_replace_2 : decode cX1_replace 2 = .ok (.ifCond .lt 11, 3) := by decide +kernel
theorem dX1_replace_5 : decode cX1_replace 5 = .ok (.iload 4, 2) := by decide +kernel
theorem dX1_replace_7 : decode cX1_replace 7 = .ok (.sipush 400, 3) := by decide +kernel
theorem dX1_replace_10 : decode cX1_replace 10 = .ok (.if_icmp .le 5, 3) := by decide +kernel
theorem dX1_replace_13 : decode cX1_replace 13 = .ok (.iconst 0, 1) := by decide +kernel
theorem dX1_replace_14 : decode cX1_replace 14 = .ok (.ireturn, 1) := by decide +kernel
theorem dX1_replace_15 : decode cX1_replace 15 = .ok (.iload 4, 2) := by decide +kernel
theorem dX1_replace_17 : decode cX1_replace 17 = .ok (.bipush 11, 2) := by decide +kernel
theorem dX1_replace_19 : decode cX1_replace 19 = .ok (.imul, 1) := by decide +kernel
theorem dX1_replace_20 : decode cX1_replace 20 = .ok (.istore 5, 2) := by decide +kernel
theorem dX1_replace_22 : decode cX1_replace 22 = .ok (.aload_n 1, 1) := by decide +kernel
theorem dX1_replace_23 : decode cX1_replace 23 = .ok (.iload_n 2, 1) := by decide +kernel
theorem dX1_replace_24 : decode cX1_replace 24 = .ok (.invokevirtual 57, 3) := by decide +kernel
theorem dX1_replace_27 : decode cX1_replace 27 = .ok (.istore 6, 2) := by decide +kernel
theorem dX1_replace_29 : decode cX1_replace 29 = .ok (.aload_n 1, 1) := by decide +kernel
theorem dX1_replace_30 : decode cX1_replace 30 = .ok (.iload_n 2, 1) := by decide +kernel
theorem dX1_replace_31 : decode cX1_replace 31 = .ok (.iload_n 3, 1) := by decide +kernel
theorem dX1_replace_32 : decode cX1_replace 32 = .ok (.invokevirtual 75, 3) := by decide +kernel
theorem dX1_replace_35 : decode cX1_replace 35 = .ok (.i2l, 1) := by decide +kernel
theorem dX1_replace_36 : decode cX1_replace 36 = .ok (.lstore 7, 2) := by decide +kernel
theorem dX1_replace_38 : decode cX1_replace 38 = .ok (.aload_n 0, 1) := by decide +kernel
theorem dX1_replace_39 : decode cX1_replace 39 = .ok (.getfield 34, 3) := by decide +kernel
theorem dX1_replace_42 : decode cX1_replace 42 = .ok (.iload 5, 2) := by decide +kernel
theorem dX1_replace_44 : decode cX1_replace 44 = .ok (.iaload, 1) := by decide +kernel
theorem dX1_replace_45 : decode cX1_replace 45 = .ok (.iconst 1, 1) := by decide +kernel
theorem dX1_replace_46 : decode cX1_replace 46 = .ok (.if_icmp .ne 49, 3) := by decide +kernel
theorem dX1_replace_49 : decode cX1_replace 49 = .ok (.iload 6, 2) := by decide +kernel
theorem dX1_replace_51 : decode cX1_replace 51 = .ok (.iconst 2, 1) := by decide +kernel
theorem dX1_replace_52 : decode cX1_replace 52 = .ok (.if_icmp .eq 9, 3) := by decide +kernel
theorem dX1_replace_55 : decode cX1_replace 55 = .ok (.iload 6, 2) := by decide +kernel
theorem dX1_replace_57 : decode cX1_replace 57 = .ok (.iconst 3, 1) := by decide +kernel
theorem dX1_replace_58 : decode cX1_replace 58 = .ok (.if_icmp .ne 23, 3) := by decide +kernel
theorem dX1_replace_61 : decode cX1_replace 61 = .ok (.aload_n 0, 1) := by decide +kernel
theorem dX1_replace_62 : decode cX1_replace 62 = .ok (.getfield 16, 3) := by decide +kernel
theorem dX1_replace_65 : decode cX1_replace 65 = .ok (.iload 6, 2) := by decide +kernel
theorem dX1_replace_67 : decode cX1_replace 67 = .ok (.iconst 3, 1) := by decide +kernel
theorem dX1_replace_68 : decode cX1_replace 68 = .ok (.if_icmp .ne 7, 3) := by decide +kernel
theorem dX1_replace_71 : decode cX1_replace 71 = .ok (.iconst 0, 1) := by decide +kernel
theorem dX1_replace_72 : decode cX1_replace 72 = .ok (.goto 4, 3) := by decide +kernel
theorem dX1_replace_75 : decode cX1_replace 75 = .ok (.iconst 1, 1) := by decide +kernel
theorem dX1_replace_76 : decode cX1_replace 76 = .ok (.invokevirtual 151, 3) := by decide +kernel
theorem dX1_replace_79 : decode cX1_replace 79 = .ok (.iconst 1, 1) := by decide +kernel
theorem dX1_replace_80 : decode cX1_replace 80 = .ok (.ireturn, 1) := by decide +kernel
theorem dX1_replace_81 : decode cX1_replace 81 = .ok (.lload 7, 2) := by decide +kernel
theorem dX1_replace_83 : decode cX1_replace 83 = .ok (.lconst 0, 1) := by decide +kernel
theorem dX1_replace_84 : decode cX1_replace 84 = .ok (.lcmp, 1) := by decide +kernel
theorem dX1_replace_85 : decode cX1_replace 85 = .ok (.ifCond .le 7, 3) := by decide +kernel
theorem dX1_replace_88 : decode cX1_replace 88 = .ok (.iconst 4, 1) := by decide +kernel
theorem dX1_replace_89 : decode cX1_replace 89 = .ok (.goto 4, 3) := by decide +kernel
theorem dX1_replace_92 : decode cX1_replace 92 = .ok (.iconst 5, 1) := by decide +kernel
theorem dX1_replace_93 : decode cX1_replace 93 = .ok (.istore 6, 2) := by decide +kernel
theorem dX1_replace_95 : decode cX1_replace 95 = .ok (.aload_n 0, 1) := by decide +kernel
theorem dX1_replace_96 : decode cX1_replace 96 = .ok (.getfield 34, 3) := by decide +kernel
theorem dX1_replace_99 : decode cX1_replace 99 = .ok (.iload 5, 2) := by decide +kernel
theorem dX1_replace_101 : decode cX1_replace 101 = .ok (.iconst 1, 1) := by decide +kernel
theorem dX1_replace_102 : decode cX1_replace 102 = .ok (.iadd, 1) := by decide +kernel
theorem dX1_replace_103 : decode cX1_replace 103 = .ok (.bipush 9, 2) := by decide +kernel
theorem dX1_replace_105 : decode cX1_replace 105 = .ok (.iadd, 1) := by decide +kernel
theorem dX1_replace_106 : decode cX1_replace 106 = .ok (.iaload, 1) := by decide +kernel
theorem dX1_replace_107 : decode cX1_replace 107 = .ok (.i2l, 1) := by decide +kernel
theorem dX1_replace_108 : decode cX1_replace 108 = .ok (.lstore 9, 2) := by decide +kernel
theorem dX1_replace_110 : decode cX1_replace 110 = .ok (.aload_n 0, 1) := by decide +kernel
theorem dX1_replace_111 : decode cX1_replace 111 = .ok (.getfield 30, 3) := by decide +kernel
theorem dX1_replace_114 : decode cX1_replace 114 = .ok (.invokevirtual 154, 3) := by decide +kernel
theorem dX1_replace_117 : decode cX1_replace 117 = .ok (.iconst 0, 1) := by decide +kernel
theorem dX1_replace_118 : decode cX1_replace 118 = .ok (.istore 11, 2) := by decide +kernel
theorem dX1_replace_120 : decode cX1_replace 120 = .ok (.iload 11, 2) := by decide +kernel
theorem dX1_replace_122 : decode cX1_replace 122 = .ok (.bipush 9, 2) := by decide +kernel
theorem dX1_replace_124 : decode cX1_replace 124 = .ok (.if_icmp .ge 60, 3) := by decide +kernel
theorem dX1_replace_127 : decode cX1_replace 127 = .ok (.iload 11, 2) := by decide +kernel
theorem dX1_replace_129 : decode cX1_replace 129 = .ok (.iload_n 3, 1) := by decide +kernel
theorem dX1_replace_130 : decode cX1_replace 130 = .ok (.if_icmp .ne 7, 3) := by decide +kernel
theorem dX1_replace_133 : decode cX1_replace 133 = .ok (.lconst 0, 1) := by decide +kernel
theorem dX1_replace_134 : decode cX1_replace 134 = .ok (.goto 11, 3) := by decide +kernel
theorem dX1_replace_137 : decode cX1_replace 137 = .ok (.aload_n 1, 1) := by decide +kernel
theorem dX1_replace_138 : decode cX1_replace 138 = .ok (.iload_n 2, 1) := by decide +kernel
theorem dX1_replace_139 : decode cX1_replace 139 = .ok (.iload 11, 2) := by decide +kernel
theorem dX1_replace_141 : decode cX1_replace 141 = .ok (.invokevirtual 75, 3) := by decide +kernel
theorem dX1_replace_144 : decode cX1_replace 144 = .ok (.i2l, 1) := by decide +kernel
theorem dX1_replace_145 : decode cX1_replace 145 = .ok (.lstore 12, 2) := by decide +kernel
theorem dX1_replace_147 : decode cX1_replace 147 = .ok (.aload_n 0, 1) := by decide +kernel
theorem dX1_replace_148 : decode cX1_replace 148 = .ok (.getfield 30, 3) := by decide +kernel
theorem dX1_replace_151 : decode cX1_replace 151 = .ok (.iload 11, 2) := by decide +kernel
theorem dX1_replace_153 : decode cX1_replace 153 = .ok (.lload 12, 2) := by decide +kernel
theorem dX1_replace_155 : decode cX1_replace 155 = .ok (.lload 9, 2) := by decide +kernel
theorem dX1_replace_157 : decode cX1_replace 157 = .ok (.lmul, 1) := by decide +kernel
theorem dX1_replace_158 : decode cX1_replace 158 = .ok (.lload 7, 2) := by decide +kernel
theorem dX1_replace_160 : decode cX1_replace 160 = .ok (.aload_n 0, 1) := by decide +kernel
theorem dX1_replace_161 : decode cX1_replace 161 = .ok (.getfield 34, 3) := by decide +kernel
theorem dX1_replace_164 : decode cX1_replace 164 = .ok (.iload 5, 2) := by decide +kernel
theorem dX1_replace_166 : decode cX1_replace 166 = .ok (.iconst 1, 1) := by decide +kernel
theorem dX1_replace_167 : decode cX1_replace 167 = .ok (.iadd, 1) := by decide +kernel
theorem dX1_replace_168 : decode cX1_replace 168 = .ok (.iload 11, 2) := by decide +kernel
theorem dX1_replace_170 : decode cX1_replace 170 = .ok (.iadd, 1) := by decide +kernel
theorem dX1_replace_171 : decode cX1_replace 171 = .ok (.iaload, 1) := by decide +kernel
theorem dX1_replace_172 : decode cX1_replace 172 = .ok (.i2l, 1) := by decide +kernel
theorem dX1_replace_173 : decode cX1_replace 173 = .ok (.lmul, 1) := by decide +kernel
theorem dX1_replace_174 : decode cX1_replace 174 = .ok (.ladd, 1) := by decide +kernel
theorem dX1_replace_175 : decode cX1_replace 175 = .ok (.invokevirtual 157, 3) := by decide +kernel
theorem dX1_replace_178 : decode cX1_replace 178 = .ok (.iinc 11 1, 3) := by decide +kernel
theorem dX1_replace_181 : decode cX1_replace 181 = .ok (.goto (-61), 3) := by decide +kernel
theorem dX1_replace_184 : decode cX1_replace 184 = .ok (.aload_n 0, 1) := by decide +kernel
theorem dX1_replace_185 : decode cX1_replace 185 = .ok (.getfield 30, 3) := by decide +kernel
theorem dX1_replace_188 : decode cX1_replace 188 = .ok (.iload 6, 2) := by decide +kernel
theorem dX1_replace_190 : decode cX1_replace 190 = .ok (.invokevirtual 161, 3) := by decide +kernel
theorem dX1_replace_193 : decode cX1_replace 193 = .ok (.istore 11, 2) := by decide +kernel
theorem dX1_replace_195 : decode cX1_replace 195 = .ok (.iload 11, 2) := by decide +kernel
theorem dX1_replace_197 : decode cX1_replace 197 = .ok (.bipush (-2), 2) := by decide +kernel
theorem dX1_replace_199 : decode cX1_replace 199 = .ok (.if_icmp .ne 5, 3) := by decide +kernel
theorem dX1_replace_202 : decode cX1_replace 202 = .ok (.iconst 0, 1) := by decide +kernel
theorem dX1_replace_203 : decode cX1_replace 203 = .ok (.ireturn, 1) := by decide +kernel
theorem dX1_replace_204 : decode cX1_replace 204 = .ok (.aload_n 0, 1) := by decide +kernel
theorem dX1_replace_205 : decode cX1_replace 205 = .ok (.getfield 16, 3) := by decide +kernel
theorem dX1_replace_208 : decode cX1_replace 208 = .ok (.aload_n 0, 1) := by decide +kernel
theorem dX1_replace_209 : decode cX1_replace 209 = .ok (.getfield 30, 3) := by decide +kernel
theorem dX1_replace_212 : decode cX1_replace 212 = .ok (.iload 11, 2) := by decide +kernel
theorem dX1_replace_214 : decode cX1_replace 214 = .ok (.invokevirtual 164, 3) := by decide +kernel
theorem dX1_replace_217 : decode cX1_replace 217 = .ok (.iconst 1, 1) := by decide +kernel
theorem dX1_replace_218 : decode cX1_replace 218 = .ok (.ireturn, 1) := by decide +kernel
theorem dX2_init_0 : decode cX2_init 0 = .ok (.aload_n 0, 1) := by decide +kernel
theorem dX2_init_1 : decode cX2_init 1 = .ok (.invokespecial 3, 3) := by decide +kernel
theorem dX2_init_4 : decode cX2_init 4 = .ok (.aload_n 0, 1) := by decide +kernel
theorem dX2_init_5 : decode cX2_init 5 = .ok (.sipush 240, 3) := by decide +kernel
theorem dX2_init_8 : decode cX2_init 8 = .ok (.newarray .byte, 2) := by decide +kernel
theorem dX2_init_10 : decode cX2_init 10 = .ok (.putfield 9, 3) := by decide +kernel
theorem dX2_init_13 : decode cX2_init 13 = .ok (.aload_n 0, 1) := by decide +kernel
theorem dX2_init_14 : decode cX2_init 14 = .ok (.new 15, 3) := by decide +kernel
theorem dX2_init_17 : decode cX2_init 17 = .ok (.dup, 1) := by decide +kernel
theorem dX2_init_18 : decode cX2_init 18 = .ok (.sipush 240, 3) := by decide +kernel
theorem dX2_init_21 : decode cX2_init 21 = .ok (.invokespecial 17, 3) := by decide +kernel
theorem dX2_init_24 : decode cX2_init 24 = .ok (.putfield 20, 3) := by decide +kernel
theorem dX2_init_27 : decode cX2_init 27 = .ok (.aload_n 0, 1) := by decide +kernel
theorem dX2_init_28 : decode cX2_init 28 = .ok (.new 24, 3) := by decide +kernel
theorem dX2_init_31 : decode cX2_init 31 = .ok (.dup, 1) := by decide +kernel
theorem dX2_init_32 : decode cX2_init 32 = .ok (.invokespecial 26, 3) := by decide +kernel
theorem dX2_init_35 : decode cX2_init 35 = .ok (.putfield 27, 3) := by decide +kernel
theorem dX2_init_38 : decode cX2_init 38 = .ok (.aload_n 0, 1) := by decide +kernel
theorem dX2_init_39 : decode cX2_init 39 = .ok (.sipush 240, 3) := by decide +kernel
theorem dX2_init_42 : decode cX2_init 42 = .ok (.newarray .int, 2) := by decide +kernel
theorem dX2_init_44 : decode cX2_init 44 = .ok (.putfield 31, 3) := by decide +kernel
theorem dX2_init_47 : decode cX2_init 47 = .ok (.return_, 1) := by decide +kernel
theorem dX2_take_0 : decode cX2_take 0 = .ok (.aload_n 0, 1) := by decide +kernel
theorem dX2_take_1 : decode cX2_take 1 = .ok (.getfield 35, 3) := by decide +kernel
theorem dX2_take_4 : decode cX2_take 4 = .ok (.sipush 240, 3) := by decide +kernel
theorem dX2_take_7 : decode cX2_take 7 = .ok (.if_icmp .ge 23, 3) := by decide +kernel
theorem dX2_take_10 : decode cX2_take 10 = .ok (.aload_n 0, 1) := by decide +kernel
theorem dX2_take_11 : decode cX2_take 11 = .ok (.getfield 9, 3) := by decide +kernel
theorem dX2_take_14 : decode cX2_take 14 = .ok (.aload_n 0, 1) := by decide +kernel
theorem dX2_take_15 : decode cX2_take 15 = .ok (.getfield 35, 3) := by decide +kernel
theorem dX2_take_18 : decode cX2_take 18 = .ok (.iload_n 1, 1) := by decide +kernel
theorem dX2_take_19 : decode cX2_take 19 = .ok (.bastore, 1) := by decide +kernel
theorem dX2_take_20 : decode cX2_take 20 = .ok (.aload_n 0, 1) := by decide +kernel
theorem dX2_take_21 : decode cX2_take 21 = .ok (.dup, 1) := by decide +kernel
theorem dX2_take_22 : decode cX2_take 22 = .ok (.getfield 35, 3) := by decide +kernel
theorem dX2_take_25 : decode cX2_take 25 = .ok (.iconst 1, 1) := by decide +kernel
theorem dX2_take_26 : decode cX2_take 26 = .ok (.iadd, 1) := by decide +kernel
theorem dX2_take_27 : decode cX2_take 27 = .ok (.putfield 35, 3) := by decide +kernel
theorem dX2_take_30 : decode cX2_take 30 = .ok (.return_, 1) := by decide +kernel
theorem dX2_parse_0 : decode cX2_parse 0 = .ok (.aload_n 0, 1) := by decide +kernel
theorem dX2_parse_1 : decode cX2_parse 1 = .ok (.getfield 20, 3) := by decide +kernel
theorem dX2_parse_4 : decode cX2_parse 4 = .ok (.invokevirtual 39, 3) := by decide +kernel
theorem dX2_parse_7 : decode cX2_parse 7 = .ok (.aload_n 0, 1) := by decide +kernel
theorem dX2_parse_8 : decode cX2_parse 8 = .ok (.iconst 0, 1) := by decide +kernel
theorem dX2_parse_9 : decode cX2_parse 9 = .ok (.putfield 42, 3) := by decide +kernel
theorem dX2_parse_12 : decode cX2_parse 12 = .ok (.aload_n 0, 1) := by decide +kernel
theorem dX2_parse_13 : decode cX2_parse 13 = .ok (.iconst 0, 1) := by decide +kernel
theorem dX2_parse_14 : decode cX2_parse 14 = .ok (.putfield 45, 3) := by decide +kernel
theorem dX2_parse_17 : decode cX2_parse 17 = .ok (.aload_n 0, 1) := by decide +kernel
theorem dX2_parse_18 : decode cX2_parse 18 = .ok (.iconst 0, 1) := by decide +kernel
theorem dX2_parse_19 : decode cX2_parse 19 = .ok (.putfield 48, 3) := by decide +kernel
theorem dX2_parse_22 : decode cX2_parse 22 = .ok (.aload_n 0, 1) := by decide +kernel
theorem dX2_parse_23 : decode cX2_parse 23 = .ok (.iconst 0, 1) := by decide +kernel
theorem dX2_parse_24 : decode cX2_parse 24 = .ok (.putfield 51, 3) := by decide +kernel
theorem dX2_parse_27 : decode cX2_parse 27 = .ok (.aload_n 0, 1) := by decide +kernel
theorem dX2_parse_28 : decode cX2_parse 28 = .ok (.iconst 0, 1) := by decide +kernel
theorem dX2_parse_29 : decode cX2_parse 29 = .ok (.putfield 54, 3) := by decide +kernel
theorem dX2_parse_32 : decode cX2_parse 32 = .ok (.iconst 0, 1) := by decide +kernel
theorem dX2_parse_33 : decode cX2_parse 33 = .ok (.istore_n 1, 1) := by decide +kernel
theorem dX2_parse_34 : decode cX2_parse 34 = .ok (.iload_n 1, 1) := by decide +kernel
theorem dX2_parse_35 : decode cX2_parse 35 = .ok (.sipush 240, 3) := by decide +kernel
theorem dX2_parse_38 : decode cX2_parse 38 = .ok (.if_icmp .gt 63, 3) := by decide +kernel
theorem dX2_parse_41 : decode cX2_parse 41 = .ok (.aload_n 0, 1) := by decide +kernel
theorem dX2_parse_42 : decode cX2_parse 42 = .ok (.invokevirtual 58, 3) := by decide +kernel
theorem dX2_parse_45 : decode cX2_parse 45 = .ok (.ifCond .eq 17, 3) := by decide +kernel
theorem dX2_parse_48 : decode cX2_parse 48 = .ok (.aload_n 0, 1) := by decide +kernel
theorem dX2_parse_49 : decode cX2_parse 49 = .ok (.invokevirtual 62, 3) := by decide +kernel
theorem dX2_parse_52 : decode cX2_parse 52 = .ok (.ifCond .eq 10, 3) := by decide +kernel
theorem dX2_parse_55 : decode cX2_parse 55 = .ok (.aload_n 0, 1) := by decide +kernel
theorem dX2_parse_56 : decode cX2_parse 56 = .ok (.invokevirtual 65, 3) := by decide +kernel
theorem dX2_parse_59 : decode cX2_parse 59 = .ok (.ifCond .ne 8, 3) := by decide +kernel
theorem dX2_parse_62 : decode cX2_parse 62 = .ok (.aload_n 0, 1) := by decide +kernel
theorem dX2_parse_63 : decode cX2_parse 63 = .ok (.getfield 45, 3) := by decide +kernel
theorem dX2_parse_66 : decode cX2_parse 66 = .ok (.ireturn, 1) := by decide +kernel
theorem dX2_parse_67 : decode cX2_parse 67 = .ok (.aload_n 0, 1) := by decide +kernel
theorem dX2_parse_68 : decode cX2_parse 68 = .ok (.getfield 45, 3) := by decide +kernel
theorem dX2_parse_71 : decode cX2_parse 71 = .ok (.aload_n 0, 1) := by decide +kernel
theorem dX2_parse_72 : decode cX2_parse 72 = .ok (.getfield 35, 3) := by decide +kernel
theorem dX2_parse_75 : decode cX2_parse 75 = .ok (.if_icmp .lt 8, 3) := by decide +kernel
theorem dX2_parse_78 : decode cX2_parse 78 = .ok (.aload_n 0, 1) := by decide +kernel
theorem dX2_parse_79 : decode cX2_parse 79 = .ok (.invokevirtual 68, 3) := by decide +kernel
theorem dX2_parse_82 : decode cX2_parse 82 = .ok (.ireturn, 1) := by decide +kernel
theorem dX2_parse_83 : decode cX2_parse 83 = .ok (.aload_n 0, 1) := by decide +kernel
theorem dX2_parse_84 : decode cX2_parse 84 = .ok (.invokevirtual 72, 3) := by decide +kernel
theorem dX2_parse_87 : decode cX2_parse 87 = .ok (.ifCond .ne 8, 3) := by decide +kernel
theorem dX2_parse_90 : decode cX2_parse 90 = .ok (.aload_n 0, 1) := by decide +kernel
theorem dX2_parse_91 : decode cX2_parse 91 = .ok (.getfield 45, 3) := by decide +kernel
theorem dX2_parse_94 : decode cX2_parse 94 = .ok (.ireturn, 1) := by decide +kernel
theorem dX2_parse_95 : decode cX2_parse 95 = .ok (.iinc 1 1, 3) := by decide +kernel
theorem dX2_parse_98 : decode cX2_parse 98 = .ok (.goto (-64), 3) := by decide +kernel
theorem dX2_parse_101 : decode cX2_parse 101 = .ok (.aload_n 0, 1) := by decide +kernel
theorem dX2_parse_102 : decode cX2_parse 102 = .ok (.getfield 45, 3) := by decide +kernel
theorem dX2_parse_105 : decode cX2_parse 105 = .ok (.ireturn, 1) := by decide +kernel
theorem dX2_openings_0 : decode cX2_openings 0 = .ok (.iconst 0, 1) := by decide +kernel
theorem dX2_openings_1 : decode cX2_openings 1 = .ok (.istore_n 1, 1) := by decide +kernel
theorem dX2_openings_2 : decode cX2_openings 2 = .ok (.iload_n 1, 1) := by decide +kernel
theorem dX2_openings_3 : decode cX2_openings 3 = .ok (.sipush 240, 3) := by decide +kernel
theorem dX2_openings_6 : decode cX2_openings 6 = .ok (.if_icmp .gt 133, 3) := by decide +kernel
theorem dX2_openings_9 : decode cX2_openings 9 = .ok (.aload_n 0, 1) := by decide +kernel
theorem dX2_openings_10 : decode cX2_openings 10 = .ok (.invokevirtual 75, 3) := by decide +kernel
theorem dX2_openings_13 : decode cX2_openings 13 = .ok (.istore_n 2, 1) := by decide +kernel
theorem dX2_openings_14 : decode cX2_openings 14 = .ok (.iload_n 2, 1) := by decide +kernel
theorem dX2_openings_15 : decode cX2_openings 15 = .ok (.bipush 33, 2) := by decide +kernel
theorem dX2_openings_17 : decode cX2_openings 17 = .ok (.if_icmp .eq 23, 3) := by decide +kernel
theorem dX2_openings_20 : decode cX2_openings 20 = .ok (.iload_n 2, 1) := by decide +kernel
theorem dX2_openings_21 : decode cX2_openings 21 = .ok (.bipush 69, 2) := by decide +kernel
theorem dX2_openings_23 : decode cX2_openings 23 = .ok (.if_icmp .eq 17, 3) := by decide +kernel
theorem dX2_openings_26 : decode cX2_openings 26 = .ok (.iload_n 2, 1) := by decide +kernel
theorem dX2_openings_27 : decode cX2_openings 27 = .ok (.bipush 65, 2) := by decide +kernel
theorem dX2_openings_29 : decode cX2_openings 29 = .ok (.if_icmp .eq 11, 3) := by decide +kernel
theorem dX2_openings_32 : decode cX2_openings 32 = .ok (.iload_n 2, 1) := by decide +kernel
theorem dX2_openings_33 : decode cX2_openings 33 = .ok (.bipush 40, 2) := by decide +kernel
theorem dX2_openings_35 : decode cX2_openings 35 = .ok (.if_icmp .eq 5, 3) := by decide +kernel
theorem dX2_openings_38 : decode cX2_openings 38 = .ok (.iconst 1, 1) := by decide +kernel
theorem dX2_openings_39 : decode cX2_openings 39 = .ok (.ireturn, 1) := by decide +kernel
theorem dX2_openings_40 : decode cX2_openings 40 = .ok (.aload_n 0, 1) := by decide +kernel
theorem dX2_openings_41 : decode cX2_openings 41 = .ok (.getfield 48, 3) := by decide +kernel
theorem dX2_openings_44 : decode cX2_openings 44 = .ok (.bipush 20, 2) := by decide +kernel
theorem dX2_openings_46 : decode cX2_openings 46 = .ok (.if_icmp .lt 5, 3) := by decide +kernel
theorem dX2_openings_49 : decode cX2_openings 49 = .ok (.iconst 0, 1) := by decide +kernel
theorem dX2_openings_50 : decode cX2_openings 50 = .ok (.ireturn, 1) := by decide +kernel
theorem dX2_openings_51 : decode cX2_openings 51 = .ok (.aload_n 0, 1) := by decide +kernel
theorem dX2_openings_52 : decode cX2_openings 52 = .ok (.dup, 1) := by decide +kernel
theorem dX2_openings_53 : decode cX2_openings 53 = .ok (.getfield 48, 3) := by decide +kernel
theorem dX2_openings_56 : decode cX2_openings 56 = .ok (.iconst 1, 1) := by decide +kernel
theorem dX2_openings_57 : decode cX2_openings 57 = .ok (.iadd, 1) := by decide +kernel
theorem dX2_openings_58 : decode cX2_openings 58 = .ok (.putfield 48, 3) := by decide +kernel
theorem dX2_openings_61 : decode cX2_openings 61 = .ok (.aload_n 0, 1) := by decide +kernel
theorem dX2_openings_62 : decode cX2_openings 62 = .ok (.dup, 1) := by decide +kernel
theorem dX2_openings_63 : decode cX2_openings 63 = .ok (.getfield 45, 3) := by decide +kernel
theorem dX2_openings_66 : decode cX2_openings 66 = .ok (.iconst 1, 1) := by decide +kernel
theorem dX2_openings_67 : decode cX2_openings 67 = .ok (.iadd, 1) := by decide +kernel
theorem dX2_openings_68 : decode cX2_openings 68 = .ok (.putfield 45, 3) := by decide +kernel
theorem dX2_openings_71 : decode cX2_openings 71 = .ok (.iload_n 2, 1) := by decide +kernel
theorem dX2_openings_72 : decode cX2_openings 72 = .ok (.bipush 33, 2) := by decide +kernel
theorem dX2_openings_74 : decode cX2_openings 74 = .ok (.if_icmp .ne 12, 3) := by decide +kernel
theorem dX2_openings_77 : decode cX2_openings 77 = .ok (.aload_n 0, 1) := by decide +kernel
theorem dX2_openings_78 : decode cX2_openings 78 = .ok (.bipush 12, 2) := by decide +kernel
theorem dX2_openings_80 : decode cX2_openings 80 = .ok (.invokevirtual 78, 3) := by decide +kernel
theorem dX2_openings_83 : decode cX2_openings 83 = .ok (.goto 50, 3) := by decide +kernel
theorem dX2_openings_86 : decode cX2_openings 86 = .ok (.iload_n 2, 1) := by decide +kernel
theorem dX2_openings_87 : decode cX2_openings 87 = .ok (.bipush 40, 2) := by decide +kernel
theorem dX2_openings_89 : decode cX2_openings 89 = .ok (.if_icmp .ne 22, 3) := by decide +kernel
theorem dX2_openings_92 : decode cX2_openings 92 = .ok (.aload_n 0, 1) := by decide +kernel
theorem dX2_openings_93 : decode cX2_openings 93 = .ok (.dup, 1) := by decide +kernel
theorem dX2_openings_94 : decode cX2_openings 94 = .ok (.getfield 51, 3) := by decide +kernel
theorem dX2_openings_97 : decode cX2_openings 97 = .ok (.iconst 1, 1) := by decide +kernel
theorem dX2_openings_98 : decode cX2_openings 98 = .ok (.iadd, 1) := by decide +kernel
theorem dX2_openings_99 : decode cX2_openings 99 = .ok (.putfield 51, 3) := by decide +kernel
theorem dX2_openings_102 : decode cX2_openings 102 = .ok (.aload_n 0, 1) := by decide +kernel
theorem dX2_openings_103 : decode cX2_openings 103 = .ok (.bipush 11, 2) := by decide +kernel
theorem dX2_openings_105 : decode cX2_openings 105 = .ok (.invokevirtual 78, 3) := by decide +kernel
theorem dX2_openings_108 : decode cX2_openings 108 = .ok (.goto 25, 3) := by decide +kernel
theorem dX2_openings_111 : decode cX2_openings 111 = .ok (.aload_n 0, 1) := by decide +kernel
theorem dX2_openings_112 : decode cX2_openings 112 = .ok (.iload_n 2, 1) := by decide +kernel
theorem dX2_openings_113 : decode cX2_openings 113 = .ok (.bipush 69, 2) := by decide +kernel
theorem dX2_openings_115 : decode cX2_openings 115 = .ok (.if_icmp .ne 8, 3) := by decide +kernel
theorem dX2_openings_118 : decode cX2_openings 118 = .ok (.bipush 8, 2) := by decide +kernel
theorem dX2_openings_120 : decode cX2_openings 120 = .ok (.goto 5, 3) := by decide +kernel
theorem dX2_openings_123 : decode cX2_openings 123 = .ok (.bipush 9, 2) := by decide +kernel
theorem dX2_openings_125 : decode cX2_openings 125 = .ok (.invokevirtual 81, 3) := by decide +kernel
theorem dX2_openings_128 : decode cX2_openings 128 = .ok (.ifCond .ne 5, 3) := by decide +kernel
theorem dX2_openings_131 : decode cX2_openings 131 = .ok (.iconst 0, 1) := by decide +kernel
theorem dX2_openings_132 : decode cX2_openings 132 = .ok (.ireturn, 1) := by decide +kernel
theorem dX2_openings_133 : decode cX2_openings 133 = .ok (.iinc 1 1, 3) := by decide +kernel
theorem dX2_openings_136 : decode cX2_openings 136 = .ok (.goto (-134), 3) := by decide +kernel
theorem dX2_openings_139 : decode cX2_openings 139 = .ok (.iconst 0, 1) := by decide +kernel
theorem dX2_openings_140 : decode cX2_openings 140 = .ok (.ireturn, 1) := by decide +kernel
theorem dX2_binder_0 : decode cX2_binder 0 = .ok (.aload_n 0, 1) := by decide +kernel
theorem dX2_binder_1 : decode cX2_binder 1 = .ok (.invokevirtual 75, 3) := by decide +kernel
theorem dX2_binder_4 : decode cX2_binder 4 = .ok (.invokestatic 85, 3) := by decide +kernel
theorem dX2_binder_7 : decode cX2_binder 7 = .ok (.istore_n 2, 1) := by decide +kernel
theorem dX2_binder_8 : decode cX2_binder 8 = .ok (.iload_n 2, 1) := by decide +kernel
theorem dX2_binder_9 : decode cX2_binder 9 = .ok (.iconst (-1), 1) := by decide +kernel
theorem dX2_binder_10 : decode cX2_binder 10 = .ok (.if_icmp .ne 5, 3) := by decide +kernel
theorem dX2_binder_13 : decode cX2_binder 13 = .ok (.iconst 0, 1) := by decide +kernel
theorem dX2_binder_14 : decode cX2_binder 14 = .ok (.ireturn, 1) := by decide +kernel
theorem dX2_binder_15 : decode cX2_binder 15 = .ok (.aload_n 0, 1) := by decide +kernel
theorem dX2_binder_16 : decode cX2_binder 16 = .ok (.dup, 1) := by decide +kernel
theorem dX2_binder_17 : decode cX2_binder 17 = .ok (.getfield 45, 3) := by decide +kernel
theorem dX2_binder_20 : decode cX2_binder 20 = .ok (.iconst 1, 1) := by decide +kernel
theorem dX2_binder_21 : decode cX2_binder 21 = .ok (.iadd, 1) := by decide +kernel
theorem dX2_binder_22 : decode cX2_binder 22 = .ok (.putfield 45, 3) := by decide +kernel
theorem dX2_binder_25 : decode cX2_binder 25 = .ok (.aload_n 0, 1) := by decide +kernel
theorem dX2_binder_26 : decode cX2_binder 26 = .ok (.invokevirtual 75, 3) := by decide +kernel
theorem dX2_binder_29 : decode cX2_binder 29 = .ok (.bipush 46, 2) := by decide +kernel
theorem dX2_binder_31 : decode cX2_binder 31 = .ok (.if_icmp .eq 5, 3) := by decide +kernel
theorem dX2_binder_34 : decode cX2_binder 34 = .ok (.iconst 0, 1) := by decide +kernel
theorem dX2_binder_35 : decode cX2_binder 35 = .ok (.ireturn, 1) := by decide +kernel
theorem dX2_binder_36 : decode cX2_binder 36 = .ok (.aload_n 0, 1) := by decide +kernel
theorem dX2_binder_37 : decode cX2_binder 37 = .ok (.dup, 1) := by decide +kernel
theorem dX2_binder_38 : decode cX2_binder 38 = .ok (.getfield 45, 3) := by decide +kernel
theorem dX2_binder_41 : decode cX2_binder 41 = .ok (.iconst 1, 1) := by decide +kernel
theorem dX2_binder_42 : decode cX2_binder 42 = .ok (.iadd, 1) := by decide +kernel
theorem dX2_binder_43 : decode cX2_binder 43 = .ok (.putfield 45, 3) := by decide +kernel
theorem dX2_binder_46 : decode cX2_binder 46 = .ok (.aload_n 0, 1) := by decide +kernel
theorem dX2_binder_47 : decode cX2_binder 47 = .ok (.iload_n 1, 1) := by decide +kernel
theorem dX2_binder_48 : decode cX2_binder 48 = .ok (.iload_n 2, 1) := by decide +kernel
theorem dX2_binder_49 : decode cX2_binder 49 = .ok (.iconst 4, 1) := by decide +kernel
theorem dX2_binder_50 : decode cX2_binder 50 = .ok (.ishl, 1) := by decide +kernel
theorem dX2_binder_51 : decode cX2_binder 51 = .ok (.ior, 1) := by decide +kernel
theorem dX2_binder_52 : decode cX2_binder 52 = .ok (.invokevirtual 78, 3) := by decide +kernel
theorem dX2_binder_55 : decode cX2_binder 55 = .ok (.iconst 1, 1) := by decide +kernel
theorem dX2_binder_56 : decode cX2_binder 56 = .ok (.ireturn, 1) := by decide +kernel
theorem dX2_plainUnit_0 : decode cX2_plainUnit 0 = .ok (.aload_n 0, 1) := by decide +kernel
theorem dX2_plainUnit_1 : decode cX2_plainUnit 1 = .ok (.invokevirtual 75, 3) := by decide +kernel
theorem dX2_plainUnit_4 : decode cX2_plainUnit 4 = .ok (.istore_n 1, 1) := by decide +kernel
theorem dX2_plainUnit_5 : decode cX2_plainUnit 5 = .ok (.iload_n 1, 1) := by decide +kernel
theorem dX2_plainUnit_6 : decode cX2_plainUnit 6 = .ok (.bipush 84, 2) := by decide +kernel
theorem dX2_plainUnit_8 : decode cX2_plainUnit 8 = .ok (.if_icmp .eq 9, 3) := by decide +kernel
theorem dX2_plainUnit_11 : decode cX2_plainUnit 11 = .ok (.iload_n 1, 1) := by decide +kernel
theorem dX2_plainUnit_12 : decode cX2_plainUnit 12 = .ok (.bipush 70, 2) := by decide +kernel
theorem dX2_plainUnit_14 : decode cX2_plainUnit 14 = .ok (.if_icmp .ne 33, 3) := by decide +kernel
theorem dX2_plainUnit_17 : decode cX2_plainUnit 17 = .ok (.aload_n 0, 1) := by decide +kernel
theorem dX2_plainUnit_18 : decode cX2_plainUnit 18 = .ok (.dup, 1) := by decide +kernel
theorem dX2_plainUnit_19 : decode cX2_plainUnit 19 = .ok (.getfield 45, 3) := by decide +kernel
theorem dX2_plainUnit_22 : decode cX2_plainUnit 22 = .ok (.iconst 1, 1) := by decide +kernel
theorem dX2_plainUnit_23 : decode cX2_plainUnit 23 = .ok (.iadd, 1) := by decide +kernel
theorem dX2_plainUnit_24 : decode cX2_plainUnit 24 = .ok (.putfield 45, 3) := by decide +kernel
theorem dX2_plainUnit_27 : decode cX2_plainUnit 27 = .ok (.aload_n 0, 1) := by decide +kernel
theorem dX2_plainUnit_28 : decode cX2_plainUnit 28 = .ok (.getfield 20, 3) := by decide +kernel
theorem dX2_plainUnit_31 : decode cX2_plainUnit 31 = .ok (.iload_n 1, 1) := by decide +kernel
theorem dX2_plainUnit_32 : decode cX2_plainUnit 32 = .ok (.bipush 84, 2) := by decide +kernel
theorem dX2_plainUnit_34 : decode cX2_plainUnit 34 = .ok (.if_icmp .ne 7, 3) := by decide +kernel
theorem dX2_plainUnit_37 : decode cX2_plainUnit 37 = .ok (.iconst 0, 1) := by decide +kernel
theorem dX2_plainUnit_38 : decode cX2_plainUnit 38 = .ok (.goto 4, 3) := by decide +kernel
theorem dX2_plainUnit_41 : decode cX2_plainUnit 41 = .ok (.iconst 1, 1) := by decide +kernel
theorem dX2_plainUnit_42 : decode cX2_plainUnit 42 = .ok (.invokevirtual 89, 3) := by decide +kernel
theorem dX2_plainUnit_45 : decode cX2_plainUnit 45 = .ok (.iconst 1, 1) := by decide +kernel
theorem dX2_plainUnit_46 : decode cX2_plainUnit 46 = .ok (.ireturn, 1) := by decide +kernel
theorem dX2_plainUnit_47 : decode cX2_plainUnit 47 = .ok (.aload_n 0, 1) := by decide +kernel
theorem dX2_plainUnit_48 : decode cX2_plainUnit 48 = .ok (.invokevirtual 92, 3) := by decide +kernel
theorem dX2_plainUnit_51 : decode cX2_plainUnit 51 = .ok (.ireturn, 1) := by decide +kernel
theorem dX2_endings_0 : decode cX2_endings 0 = .ok (.iconst 0, 1) := by decide +kernel
theorem dX2_endings_1 : decode cX2_endings 1 = .ok (.istore_n 1, 1) := by decide +kernel
theorem dX2_endings_2 : decode cX2_endings 2 = .ok (.iload_n 1, 1) := by decide +kernel
theorem dX2_endings_3 : decode cX2_endings 3 = .ok (.sipush 240, 3) := by decide +kernel
theorem dX2_endings_6 : decode cX2_endings 6 = .ok (.if_icmp .gt 83, 3) := by decide +kernel
theorem dX2_endings_9 : decode cX2_endings 9 = .ok (.aload_n 0, 1) := by decide +kernel
theorem dX2_endings_10 : decode cX2_endings 10 = .ok (.iconst 4, 1) := by decide +kernel
theorem dX2_endings_11 : decode cX2_endings 11 = .ok (.invokevirtual 95, 3) := by decide +kernel
theorem dX2_endings_14 : decode cX2_endings 14 = .ok (.aload_n 0, 1) := by decide +kernel
theorem dX2_endings_15 : decode cX2_endings 15 = .ok (.invokevirtual 75, 3) := by decide +kernel
theorem dX2_endings_18 : decode cX2_endings 18 = .ok (.bipush 41, 2) := by decide +kernel
theorem dX2_endings_20 : decode cX2_endings 20 = .ok (.if_icmp .eq 5, 3) := by decide +kernel
theorem dX2_endings_23 : decode cX2_endings 23 = .ok (.iconst 1, 1) := by decide +kernel
theorem dX2_endings_24 : decode cX2_endings 24 = .ok (.ireturn, 1) := by decide +kernel
theorem dX2_endings_25 : decode cX2_endings 25 = .ok (.aload_n 0, 1) := by decide +kernel
theorem dX2_endings_26 : decode cX2_endings 26 = .ok (.getfield 51, 3) := by decide +kernel
theorem dX2_endings_29 : decode cX2_endings 29 = .ok (.ifCond .ne 5, 3) := by decide +kernel
theorem dX2_endings_32 : decode cX2_endings 32 = .ok (.iconst 0, 1) := by decide +kernel
theorem dX2_endings_33 : decode cX2_endings 33 = .ok (.ireturn, 1) := by decide +kernel
theorem dX2_endings_34 : decode cX2_endings 34 = .ok (.aload_n 0, 1) := by decide +kernel
theorem dX2_endings_35 : decode cX2_endings 35 = .ok (.iconst 1, 1) := by decide +kernel
theorem dX2_endings_36 : decode cX2_endings 36 = .ok (.invokevirtual 95, 3) := by decide +kernel
theorem dX2_endings_39 : decode cX2_endings 39 = .ok (.aload_n 0, 1) := by decide +kernel
theorem dX2_endings_40 : decode cX2_endings 40 = .ok (.dup, 1) := by decide +kernel
theorem dX2_endings_41 : decode cX2_endings 41 = .ok (.getfield 51, 3) := by decide +kernel
theorem dX2_endings_44 : decode cX2_endings 44 = .ok (.iconst 1, 1) := by decide +kernel
theorem dX2_endings_45 : decode cX2_endings 45 = .ok (.isub, 1) := by decide +kernel
theorem dX2_endings_46 : decode cX2_endings 46 = .ok (.putfield 51, 3) := by decide +kernel
theorem dX2_endings_49 : decode cX2_endings 49 = .ok (.aload_n 0, 1) := by decide +kernel
theorem dX2_endings_50 : decode cX2_endings 50 = .ok (.dup, 1) := by decide +kernel
theorem dX2_endings_51 : decode cX2_endings 51 = .ok (.getfield 48, 3) := by decide +kernel
theorem dX2_endings_54 : decode cX2_endings 54 = .ok (.iconst 1, 1) := by decide +kernel
theorem dX2_endings_55 : decode cX2_endings 55 = .ok (.isub, 1) := by decide +kernel
theorem dX2_endings_56 : decode cX2_endings 56 = .ok (.putfield 48, 3) := by decide +kernel
theorem dX2_endings_59 : decode cX2_endings 59 = .ok (.aload_n 0, 1) := by decide +kernel
theorem dX2_endings_60 : decode cX2_endings 60 = .ok (.aload_n 0, 1) := by decide +kernel
theorem dX2_endings_61 : decode cX2_endings 61 = .ok (.getfield 42, 3) := by decide +kernel
theorem dX2_endings_64 : decode cX2_endings 64 = .ok (.iconst 1, 1) := by decide +kernel
theorem dX2_endings_65 : decode cX2_endings 65 = .ok (.isub, 1) := by decide +kernel
theorem dX2_endings_66 : decode cX2_endings 66 = .ok (.iconst 0, 1) := by decide +kernel
theorem dX2_endings_67 : decode cX2_endings 67 = .ok (.invokestatic 98, 3) := by decide +kernel
theorem dX2_endings_70 : decode cX2_endings 70 = .ok (.putfield 42, 3) := by decide +kernel
theorem dX2_endings_73 : decode cX2_endings 73 = .ok (.aload_n 0, 1) := by decide +kernel
theorem dX2_endings_74 : decode cX2_endings 74 = .ok (.dup, 1) := by decide +kernel
theorem dX2_endings_75 : decode cX2_endings 75 = .ok (.getfield 45, 3) := by decide +kernel
theorem dX2_endings_78 : decode cX2_endings 78 = .ok (.iconst 1, 1) := by decide +kernel
theorem dX2_endings_79 : decode cX2_endings 79 = .ok (.iadd, 1) := by decide +kernel
theorem dX2_endings_80 : decode cX2_endings 80 = .ok (.putfield 45, 3) := by decide +kernel
theorem dX2_endings_83 : decode cX2_endings 83 = .ok (.iinc 1 1, 3) := by decide +kernel
theorem dX2_endings_86 : decode cX2_endings 86 = .ok (.goto (-84), 3) := by decide +kernel
theorem dX2_endings_89 : decode cX2_endings 89 = .ok (.iconst 0, 1) := by decide +kernel
theorem dX2_endings_90 : decode cX2_endings 90 = .ok (.ireturn, 1) := by decide +kernel
theorem dX2_connective_0 : decode cX2_connective 0 = .ok (.aload_n 0, 1) := by decide +kernel
theorem dX2_connective_1 : decode cX2_connective 1 = .ok (.invokevirtual 75, 3) := by decide +kernel
theorem dX2_connective_4 : decode cX2_connective 4 = .ok (.istore_n 1, 1) := by decide +kernel
theorem dX2_connective_5 : decode cX2_connective 5 = .ok (.iload_n 1, 1) := by decide +kernel
theorem dX2_connective_6 : decode cX2_connective 6 = .ok (.bipush 38, 2) := by decide +kernel
theorem dX2_connective_8 : decode cX2_connective 8 = .ok (.if_icmp .ne 17, 3) := by decide +kernel
theorem dX2_connective_11 : decode cX2_connective 11 = .ok (.aload_n 0, 1) := by decide +kernel
theorem dX2_connective_12 : decode cX2_connective 12 = .ok (.iconst 3, 1) := by decide +kernel
theorem dX2_connective_13 : decode cX2_connective 13 = .ok (.invokevirtual 95, 3) := by decide +kernel
theorem dX2_connective_16 : decode cX2_connective 16 = .ok (.aload_n 0, 1) := by decide +kernel
theorem dX2_connective_17 : decode cX2_connective 17 = .ok (.bipush 6, 2) := by decide +kernel
theorem dX2_connective_19 : decode cX2_connective 19 = .ok (.invokevirtual 78, 3) := by decide +kernel
theorem dX2_connective_22 : decode cX2_connective 22 = .ok (.goto 70, 3) := by decide +kernel
theorem dX2_connective_25 : decode cX2_connective 25 = .ok (.iload_n 1, 1) := by decide +kernel
theorem dX2_connective_26 : decode cX2_connective 26 = .ok (.bipush 124, 2) := by decide +kernel
theorem dX2_connective_28 : decode cX2_connective 28 = .ok (.if_icmp .ne 17, 3) := by decide +kernel
theorem dX2_connective_31 : decode cX2_connective 31 = .ok (.aload_n 0, 1) := by decide +kernel
theorem dX2_connective_32 : decode cX2_connective 32 = .ok (.iconst 2, 1) := by decide +kernel
theorem dX2_connective_33 : decode cX2_connective 33 = .ok (.invokevirtual 95, 3) := by decide +kernel
theorem dX2_connective_36 : decode cX2_connective 36 = .ok (.aload_n 0, 1) := by decide +kernel
theorem dX2_connective_37 : decode cX2_connective 37 = .ok (.bipush 7, 2) := by decide +kernel
theorem dX2_connective_39 : decode cX2_connective 39 = .ok (.invokevirtual 78, 3) := by decide +kernel
theorem dX2_connective_42 : decode cX2_connective 42 = .ok (.goto 50, 3) := by decide +kernel
theorem dX2_connective_45 : decode cX2_connective 45 = .ok (.iload_n 1, 1) := by decide +kernel
theorem dX2_connective_46 : decode cX2_connective 46 = .ok (.bipush 45, 2) := by decide +kernel
theorem dX2_connective_48 : decode cX2_connective 48 = .ok (.if_icmp .ne 42, 3) := by decide +kernel
theorem dX2_connective_51 : decode cX2_connective 51 = .ok (.aload_n 0, 1) := by decide +kernel
theorem dX2_connective_52 : decode cX2_connective 52 = .ok (.dup, 1) := by decide +kernel
theorem dX2_connective_53 : decode cX2_connective 53 = .ok (.getfield 45, 3) := by decide +kernel
theorem dX2_connective_56 : decode cX2_connective 56 = .ok (.iconst 1, 1) := by decide +kernel
theorem dX2_connective_57 : decode cX2_connective 57 = .ok (.iadd, 1) := by decide +kernel
theorem dX2_connective_58 : decode cX2_connective 58 = .ok (.putfield 45, 3) := by decide +kernel
theorem dX2_connective_61 : decode cX2_connective 61 = .ok (.aload_n 0, 1) := by decide +kernel
theorem dX2_connective_62 : decode cX2_connective 62 = .ok (.aload_n 0, 1) := by decide +kernel
theorem dX2_connective_63 : decode cX2_connective 63 = .ok (.getfield 45, 3) := by decide +kernel
theorem dX2_connective_66 : decode cX2_connective 66 = .ok (.invokevirtual 104, 3) := by decide +kernel
theorem dX2_connective_69 : decode cX2_connective 69 = .ok (.bipush 62, 2) := by decide +kernel
theorem dX2_connective_71 : decode cX2_connective 71 = .ok (.if_icmp .eq 5, 3) := by decide +kernel
theorem dX2_connective_74 : decode cX2_connective 74 = .ok (.iconst 0, 1) := by decide +kernel
theorem dX2_connective_75 : decode cX2_connective 75 = .ok (.ireturn, 1) := by decide +kernel
theorem dX2_connective_76 : decode cX2_connective 76 = .ok (.aload_n 0, 1) := by decide +kernel
theorem dX2_connective_77 : decode cX2_connective 77 = .ok (.iconst 2, 1) := by decide +kernel
theorem dX2_connective_78 : decode cX2_connective 78 = .ok (.invokevirtual 95, 3) := by decide +kernel
theorem dX2_connective_81 : decode cX2_connective 81 = .ok (.aload_n 0, 1) := by decide +kernel
theorem dX2_connective_82 : decode cX2_connective 82 = .ok (.bipush 10, 2) := by decide +kernel
theorem dX2_connective_84 : decode cX2_connective 84 = .ok (.invokevirtual 78, 3) := by decide +kernel
theorem dX2_connective_87 : decode cX2_connective 87 = .ok (.goto 5, 3) := by decide +kernel
theorem dX2_connective_90 : decode cX2_connective 90 = .ok (.iconst 0, 1) := by decide +kernel
theorem dX2_connective_91 : decode cX2_connective 91 = .ok (.ireturn, 1) := by decide +kernel
theorem dX2_connective_92 : decode cX2_connective 92 = .ok (.aload_n 0, 1) := by decide +kernel
theorem dX2_connective_93 : decode cX2_connective 93 = .ok (.dup, 1) := by decide +kernel
theorem dX2_connective_94 : decode cX2_connective 94 = .ok (.getfield 45, 3) := by decide +kernel
theorem dX2_connective_97 : decode cX2_connective 97 = .ok (.iconst 1, 1) := by decide +kernel
theorem dX2_connective_98 : decode cX2_connective 98 = .ok (.iadd, 1) := by decide +kernel
theorem dX2_connective_99 : decode cX2_connective 99 = .ok (.putfield 45, 3) := by decide +kernel
theorem dX2_connective_102 : decode cX2_connective 102 = .ok (.iconst 1, 1) := by decide +kernel
theorem dX2_connective_103 : decode cX2_connective 103 = .ok (.ireturn, 1) := by decide +kernel
theorem dX2_finish_0 : decode cX2_finish 0 = .ok (.aload_n 0, 1) := by decide +kernel
theorem dX2_finish_1 : decode cX2_finish 1 = .ok (.getfield 51, 3) := by decide +kernel
theorem dX2_finish_4 : decode cX2_finish 4 = .ok (.ifCond .le 8, 3) := by decide +kernel
theorem dX2_finish_7 : decode cX2_finish 7 = .ok (.aload_n 0, 1) := by decide +kernel
theorem dX2_finish_8 : decode cX2_finish 8 = .ok (.getfield 45, 3) := by decide +kernel
theorem dX2_finish_11 : decode cX2_finish 11 = .ok (.ireturn, 1) := by decide +kernel
theorem dX2_finish_12 : decode cX2_finish 12 = .ok (.aload_n 0, 1) := by decide +kernel
theorem dX2_finish_13 : decode cX2_finish 13 = .ok (.iconst 1, 1) := by decide +kernel
theorem dX2_finish_14 : decode cX2_finish 14 = .ok (.invokevirtual 95, 3) := by decide +kernel
theorem dX2_finish_17 : decode cX2_finish 17 = .ok (.aload_n 0, 1) := by decide +kernel
theorem dX2_finish_18 : decode cX2_finish 18 = .ok (.getfield 54, 3) := by decide +kernel
theorem dX2_finish_21 : decode cX2_finish 21 = .ok (.ifCond .eq 8, 3) := by decide +kernel
theorem dX2_finish_24 : decode cX2_finish 24 = .ok (.bipush (-2), 2) := by decide +kernel
theorem dX2_finish_26 : decode cX2_finish 26 = .ok (.goto 4, 3) := by decide +kernel
theorem dX2_finish_29 : decode cX2_finish 29 = .ok (.iconst (-1), 1) := by decide +kernel
theorem dX2_finish_30 : decode cX2_finish 30 = .ok (.ireturn, 1) := by decide +kernel
theorem dX2_await_0 : decode cX2_await 0 = .ok (.aload_n 0, 1) := by decide +kernel
theorem dX2_await_1 : decode cX2_await 1 = .ok (.getfield 42, 3) := by decide +kernel
theorem dX2_await_4 : decode cX2_await 4 = .ok (.sipush 240, 3) := by decide +kernel
theorem dX2_await_7 : decode cX2_await 7 = .ok (.if_icmp .ge 23, 3) := by decide +kernel
theorem dX2_await_10 : decode cX2_await 10 = .ok (.aload_n 0, 1) := by decide +kernel
theorem dX2_await_11 : decode cX2_await 11 = .ok (.getfield 31, 3) := by decide +kernel
theorem dX2_await_14 : decode cX2_await 14 = .ok (.aload_n 0, 1) := by decide +kernel
theorem dX2_await_15 : decode cX2_await 15 = .ok (.getfield 42, 3) := by decide +kernel
theorem dX2_await_18 : decode cX2_await 18 = .ok (.iload_n 1, 1) := by decide +kernel
theorem dX2_await_19 : decode cX2_await 19 = .ok (.iastore, 1) := by decide +kernel
theorem dX2_await_20 : decode cX2_await 20 = .ok (.aload_n 0, 1) := by decide +kernel
theorem dX2_await_21 : decode cX2_await 21 = .ok (.dup, 1) := by decide +kernel
theorem dX2_await_22 : decode cX2_await 22 = .ok (.getfield 42, 3) := by decide +kernel
theorem dX2_await_25 : decode cX2_await 25 = .ok (.iconst 1, 1) := by decide +kernel
theorem dX2_await_26 : decode cX2_await 26 = .ok (.iadd, 1) := by decide +kernel
theorem dX2_await_27 : decode cX2_await 27 = .ok (.putfield 42, 3) := by decide +kernel
theorem dX2_await_30 : decode cX2_await 30 = .ok (.return_, 1) := by decide +kernel
theorem dX2_carryOut_0 : decode cX2_carryOut 0 = .ok (.iconst 0, 1) := by decide +kernel
theorem dX2_carryOut_1 : decode cX2_carryOut 1 = .ok (.istore_n 2, 1) := by decide +kernel
theorem dX2_carryOut_2 : decode cX2_carryOut 2 = .ok (.iload_n 2, 1) := by decide +kernel
theorem dX2_carryOut_3 : decode cX2_carryOut 3 = .ok (.sipush 240, 3) := by decide +kernel
theorem dX2_carryOut_6 : decode cX2_carryOut 6 = .ok (.if_icmp .gt 68, 3) := by decide +kernel
theorem dX2_carryOut_9 : decode cX2_carryOut 9 = .ok (.aload_n 0, 1) := by decide +kernel
theorem dX2_carryOut_10 : decode cX2_carryOut 10 = .ok (.getfield 42, 3) := by decide +kernel
theorem dX2_carryOut_13 : decode cX2_carryOut 13 = .ok (.ifCond .le 17, 3) := by decide +kernel
theorem dX2_carryOut_16 : decode cX2_carryOut 16 = .ok (.aload_n 0, 1) := by decide +kernel
theorem dX2_carryOut_17 : decode cX2_carryOut 17 = .ok (.getfield 31, 3) := by decide +kernel
theorem dX2_carryOut_20 : decode cX2_carryOut 20 = .ok (.aload_n 0, 1) := by decide +kernel
theorem dX2_carryOut_21 : decode cX2_carryOut 21 = .ok (.getfield 42, 3) := by decide +kernel
theorem dX2_carryOut_24 : decode cX2_carryOut 24 = .ok (.iconst 1, 1) := by decide +kernel
theorem dX2_carryOut_25 : decode cX2_carryOut 25 = .ok (.isub, 1) := by decide +kernel
theorem dX2_carryOut_26 : decode cX2_carryOut 26 = .ok (.iaload, 1) := by decide +kernel
theorem dX2_carryOut_27 : decode cX2_carryOut 27 = .ok (.goto 5, 3) := by decide +kernel
theorem dX2_carryOut_30 : decode cX2_carryOut 30 = .ok (.bipush 11, 2) := by decide +kernel
theorem dX2_carryOut_32 : decode cX2_carryOut 32 = .ok (.istore_n 3, 1) := by decide +kernel
theorem dX2_carryOut_33 : decode cX2_carryOut 33 = .ok (.iload_n 3, 1) := by decide +kernel
theorem dX2_carryOut_34 : decode cX2_carryOut 34 = .ok (.bipush 15, 2) := by decide +kernel
theorem dX2_carryOut_36 : decode cX2_carryOut 36 = .ok (.iand, 1) := by decide +kernel
theorem dX2_carryOut_37 : decode cX2_carryOut 37 = .ok (.istore 4, 2) := by decide +kernel
theorem dX2_carryOut_39 : decode cX2_carryOut 39 = .ok (.iload 4, 2) := by decide +kernel
theorem dX2_carryOut_41 : decode cX2_carryOut 41 = .ok (.invokestatic 107, 3) := by decide +kernel
theorem dX2_carryOut_44 : decode cX2_carryOut 44 = .ok (.iload_n 1, 1) := by decide +kernel
theorem dX2_carryOut_45 : decode cX2_carryOut 45 = .ok (.if_icmp .ge 4, 3) := by decide +kernel
theorem dX2_carryOut_48 : decode cX2_carryOut 48 = .ok (.return_, 1) := by decide +kernel
theorem dX2_carryOut_49 : decode cX2_carryOut 49 = .ok (.aload_n 0, 1) := by decide +kernel
theorem dX2_carryOut_50 : decode cX2_carryOut 50 = .ok (.dup, 1) := by decide +kernel
theorem dX2_carryOut_51 : decode cX2_carryOut 51 = .ok (.getfield 42, 3) := by decide +kernel
theorem dX2_carryOut_54 : decode cX2_carryOut 54 = .ok (.iconst 1, 1) := by decide +kernel
theorem dX2_carryOut_55 : decode cX2_carryOut 55 = .ok (.isub, 1) := by decide +kernel
theorem dX2_carryOut_56 : decode cX2_carryOut 56 = .ok (.putfield 42, 3) := by decide +kernel
theorem dX2_carryOut_59 : decode cX2_carryOut 59 = .ok (.aload_n 0, 1) := by decide +kernel
theorem dX2_carryOut_60 : decode cX2_carryOut 60 = .ok (.iload 4, 2) := by decide +kernel
theorem dX2_carryOut_62 : decode cX2_carryOut 62 = .ok (.iload_n 3, 1) := by decide +kernel
theorem dX2_carryOut_63 : decode cX2_carryOut 63 = .ok (.iconst 4, 1) := by decide +kernel
theorem dX2_carryOut_64 : decode cX2_carryOut 64 = .ok (.ishr, 1) := by decide +kernel
theorem dX2_carryOut_65 : decode cX2_carryOut 65 = .ok (.invokevirtual 110, 3) := by decide +kernel
theorem dX2_carryOut_68 : decode cX2_carryOut 68 = .ok (.iinc 2 1, 3) := by decide +kernel
theorem dX2_carryOut_71 : decode cX2_carryOut 71 = .ok (.goto (-69), 3) := by decide +kernel
theorem dX2_carryOut_74 : decode cX2_carryOut 74 = .ok (.return_, 1) := by decide +kernel
theorem dX2_tightness_0 : decode cX2_tightness 0 = .ok (.iload_n 0, 1) := by decide +kernel
theorem dX2_tightness_1 : decode cX2_tightness 1 = .ok (.tableswitch 47 6 11 #[45, 43, 47, 47, 41, 39], 39) := by decide +kernel
theorem dX2_tightness_40 : decode cX2_tightness 40 = .ok (.iconst 0, 1) := by decide +kernel
theorem dX2_tightness_41 : decode cX2_tightness 41 = .ok (.ireturn, 1) := by decide +kernel
theorem dX2_tightness_42 : decode cX2_tightness 42 = .ok (.iconst 1, 1) := by decide +kernel
theorem dX2_tightness_43 : decode cX2_tightness 43 = .ok (.ireturn, 1) := by decide +kernel
theorem dX2_tightness_44 : decode cX2_tightness 44 = .ok (.iconst 2, 1) := by decide +kernel
theorem dX2_tightness_45 : decode cX2_tightness 45 = .ok (.ireturn, 1) := by decide +kernel
theorem dX2_tightness_46 : decode cX2_tightness 46 = .ok (.iconst 3, 1) := by decide +kernel
theorem dX2_tightness_47 : decode cX2_tightness 47 = .ok (.ireturn, 1) := by decide +kernel
theorem dX2_tightness_48 : decode cX2_tightness 48 = .ok (.iconst 4, 1) := by decide +kernel
theorem dX2_tightness_49 : decode cX2_tightness 49 = .ok (.ireturn, 1) := by decide +kernel
theorem dX2_carryOutOne_0 : decode cX2_carryOutOne 0 = .ok (.iload_n 1, 1) := by decide +kernel
theorem dX2_carryOutOne_1 : decode cX2_carryOutOne 1 = .ok (.bipush 6, 2) := by decide +kernel
theorem dX2_carryOutOne_3 : decode cX2_carryOutOne 3 = .ok (.if_icmp .eq 9, 3) := by decide +kernel
theorem dX2_carryOutOne_6 : decode cX2_carryOutOne 6 = .ok (.iload_n 1, 1) := by decide +kernel
theorem dX2_carryOutOne_7 : decode cX2_carryOutOne 7 = .ok (.bipush 7, 2) := by decide +kernel
theorem dX2_carryOutOne_9 : decode cX2_carryOutOne 9 = .ok (.if_icmp .ne 14, 3) := by decide +kernel
theorem dX2_carryOutOne_12 : decode cX2_carryOutOne 12 = .ok (.aload_n 0, 1) := by decide +kernel
theorem dX2_carryOutOne_13 : decode cX2_carryOutOne 13 = .ok (.getfield 20, 3) := by decide +kernel
theorem dX2_carryOutOne_16 : decode cX2_carryOutOne 16 = .ok (.iload_n 1, 1) := by decide +kernel
theorem dX2_carryOutOne_17 : decode cX2_carryOutOne 17 = .ok (.invokevirtual 114, 3) := by decide +kernel
theorem dX2_carryOutOne_20 : decode cX2_carryOutOne 20 = .ok (.goto 63, 3) := by decide +kernel
theorem dX2_carryOutOne_23 : decode cX2_carryOutOne 23 = .ok (.iload_n 1, 1) := by decide +kernel
theorem dX2_carryOutOne_24 : decode cX2_carryOutOne 24 = .ok (.bipush 10, 2) := by decide +kernel
theorem dX2_carryOutOne_26 : decode cX2_carryOutOne 26 = .ok (.if_icmp .ne 22, 3) := by decide +kernel
theorem dX2_carryOutOne_29 : decode cX2_carryOutOne 29 = .ok (.aload_n 0, 1) := by decide +kernel
theorem dX2_carryOutOne_30 : decode cX2_carryOutOne 30 = .ok (.getfield 20, 3) := by decide +kernel
theorem dX2_carryOutOne_33 : decode cX2_carryOutOne 33 = .ok (.invokevirtual 117, 3) := by decide +kernel
theorem dX2_carryOutOne_36 : decode cX2_carryOutOne 36 = .ok (.aload_n 0, 1) := by decide +kernel
theorem dX2_carryOutOne_37 : decode cX2_carryOutOne 37 = .ok (.getfield 20, 3) := by decide +kernel
theorem dX2_carryOutOne_40 : decode cX2_carryOutOne 40 = .ok (.bipush 7, 2) := by decide +kernel
theorem dX2_carryOutOne_42 : decode cX2_carryOutOne 42 = .ok (.invokevirtual 114, 3) := by decide +kernel
theorem dX2_carryOutOne_45 : decode cX2_carryOutOne 45 = .ok (.goto 38, 3) := by decide +kernel
theorem dX2_carryOutOne_48 : decode cX2_carryOutOne 48 = .ok (.aload_n 0, 1) := by decide +kernel
theorem dX2_carryOutOne_49 : decode cX2_carryOutOne 49 = .ok (.dup, 1) := by decide +kernel
theorem dX2_carryOutOne_50 : decode cX2_carryOutOne 50 = .ok (.getfield 48, 3) := by decide +kernel
theorem dX2_carryOutOne_53 : decode cX2_carryOutOne 53 = .ok (.iconst 1, 1) := by decide +kernel
theorem dX2_carryOutOne_54 : decode cX2_carryOutOne 54 = .ok (.isub, 1) := by decide +kernel
theorem dX2_carryOutOne_55 : decode cX2_carryOutOne 55 = .ok (.putfield 48, 3) := by decide +kernel
theorem dX2_carryOutOne_58 : decode cX2_carryOutOne 58 = .ok (.iload_n 1, 1) := by decide +kernel
theorem dX2_carryOutOne_59 : decode cX2_carryOutOne 59 = .ok (.bipush 12, 2) := by decide +kernel
theorem dX2_carryOutOne_61 : decode cX2_carryOutOne 61 = .ok (.if_icmp .ne 13, 3) := by decide +kernel
theorem dX2_carryOutOne_64 : decode cX2_carryOutOne 64 = .ok (.aload_n 0, 1) := by decide +kernel
theorem dX2_carryOutOne_65 : decode cX2_carryOutOne 65 = .ok (.getfield 20, 3) := by decide +kernel
theorem dX2_carryOutOne_68 : decode cX2_carryOutOne 68 = .ok (.invokevirtual 120, 3) := by decide +kernel
theorem dX2_carryOutOne_71 : decode cX2_carryOutOne 71 = .ok (.goto 12, 3) := by decide +kernel
theorem dX2_carryOutOne_74 : decode cX2_carryOutOne 74 = .ok (.aload_n 0, 1) := by decide +kernel
theorem dX2_carryOutOne_75 : decode cX2_carryOutOne 75 = .ok (.getfield 20, 3) := by decide +kernel
theorem dX2_carryOutOne_78 : decode cX2_carryOutOne 78 = .ok (.iload_n 1, 1) := by decide +kernel
theorem dX2_carryOutOne_79 : decode cX2_carryOutOne 79 = .ok (.iload_n 2, 1) := by decide +kernel
theorem dX2_carryOutOne_80 : decode cX2_carryOutOne 80 = .ok (.invokevirtual 123, 3) := by decide +kernel
theorem dX2_carryOutOne_83 : decode cX2_carryOutOne 83 = .ok (.return_, 1) := by decide +kernel
theorem dX2_atom_0 : decode cX2_atom 0 = .ok (.aload_n 0, 1) := by decide +kernel
theorem dX2_atom_1 : decode cX2_atom 1 = .ok (.getfield 27, 3) := by decide +kernel
theorem dX2_atom_4 : decode cX2_atom 4 = .ok (.invokevirtual 126, 3) := by decide +kernel
theorem dX2_atom_7 : decode cX2_atom 7 = .ok (.aload_n 0, 1) := by decide +kernel
theorem dX2_atom_8 : decode cX2_atom 8 = .ok (.iconst 1, 1) := by decide +kernel
theorem dX2_atom_9 : decode cX2_atom 9 = .ok (.invokevirtual 129, 3) := by decide +kernel
theorem dX2_atom_12 : decode cX2_atom 12 = .ok (.ifCond .ne 5, 3) := by decide +kernel
theorem dX2_atom_15 : decode cX2_atom 15 = .ok (.iconst 0, 1) := by decide +kernel
theorem dX2_atom_16 : decode cX2_atom 16 = .ok (.ireturn, 1) := by decide +kernel
theorem dX2_atom_17 : decode cX2_atom 17 = .ok (.aload_n 0, 1) := by decide +kernel
theorem dX2_atom_18 : decode cX2_atom 18 = .ok (.invokevirtual 75, 3) := by decide +kernel
theorem dX2_atom_21 : decode cX2_atom 21 = .ok (.istore_n 1, 1) := by decide +kernel
theorem dX2_atom_22 : decode cX2_atom 22 = .ok (.iload_n 1, 1) := by decide +kernel
theorem dX2_atom_23 : decode cX2_atom 23 = .ok (.bipush 60, 2) := by decide +kernel
theorem dX2_atom_25 : decode cX2_atom 25 = .ok (.if_icmp .eq 23, 3) := by decide +kernel
theorem dX2_atom_28 : decode cX2_atom 28 = .ok (.iload_n 1, 1) := by decide +kernel
theorem dX2_atom_29 : decode cX2_atom 29 = .ok (.bipush 61, 2) := by decide +kernel
theorem dX2_atom_31 : decode cX2_atom 31 = .ok (.if_icmp .eq 17, 3) := by decide +kernel
theorem dX2_atom_34 : decode cX2_atom 34 = .ok (.iload_n 1, 1) := by decide +kernel
theorem dX2_atom_35 : decode cX2_atom 35 = .ok (.bipush 33, 2) := by decide +kernel
theorem dX2_atom_37 : decode cX2_atom 37 = .ok (.if_icmp .eq 11, 3) := by decide +kernel
theorem dX2_atom_40 : decode cX2_atom 40 = .ok (.iload_n 1, 1) := by decide +kernel
theorem dX2_atom_41 : decode cX2_atom 41 = .ok (.bipush 62, 2) := by decide +kernel
theorem dX2_atom_43 : decode cX2_atom 43 = .ok (.if_icmp .eq 5, 3) := by decide +kernel
theorem dX2_atom_46 : decode cX2_atom 46 = .ok (.iconst 0, 1) := by decide +kernel
theorem dX2_atom_47 : decode cX2_atom 47 = .ok (.ireturn, 1) := by decide +kernel
theorem dX2_atom_48 : decode cX2_atom 48 = .ok (.aload_n 0, 1) := by decide +kernel
theorem dX2_atom_49 : decode cX2_atom 49 = .ok (.dup, 1) := by decide +kernel
theorem dX2_atom_50 : decode cX2_atom 50 = .ok (.getfield 45, 3) := by decide +kernel
theorem dX2_atom_53 : decode cX2_atom 53 = .ok (.iconst 1, 1) := by decide +kernel
theorem dX2_atom_54 : decode cX2_atom 54 = .ok (.iadd, 1) := by decide +kernel
theorem dX2_atom_55 : decode cX2_atom 55 = .ok (.putfield 45, 3) := by decide +kernel
theorem dX2_atom_58 : decode cX2_atom 58 = .ok (.iload_n 1, 1) := by decide +kernel
theorem dX2_atom_59 : decode cX2_atom 59 = .ok (.bipush 61, 2) := by decide +kernel
theorem dX2_atom_61 : decode cX2_atom 61 = .ok (.if_icmp .eq 20, 3) := by decide +kernel
theorem dX2_atom_64 : decode cX2_atom 64 = .ok (.aload_n 0, 1) := by decide +kernel
theorem dX2_atom_65 : decode cX2_atom 65 = .ok (.aload_n 0, 1) := by decide +kernel
theorem dX2_atom_66 : decode cX2_atom 66 = .ok (.getfield 45, 3) := by decide +kernel
theorem dX2_atom_69 : decode cX2_atom 69 = .ok (.invokevirtual 104, 3) := by decide +kernel
theorem dX2_atom_72 : decode cX2_atom 72 = .ok (.bipush 61, 2) := by decide +kernel
theorem dX2_atom_74 : decode cX2_atom 74 = .ok (.if_icmp .ne 7, 3) := by decide +kernel
theorem dX2_atom_77 : decode cX2_atom 77 = .ok (.iconst 1, 1) := by decide +kernel
theorem dX2_atom_78 : decode cX2_atom 78 = .ok (.goto 4, 3) := by decide +kernel
theorem dX2_atom_81 : decode cX2_atom 81 = .ok (.iconst 0, 1) := by decide +kernel
theorem dX2_atom_82 : decode cX2_atom 82 = .ok (.istore_n 2, 1) := by decide +kernel
theorem dX2_atom_83 : decode cX2_atom 83 = .ok (.iload_n 1, 1) := by decide +kernel
theorem dX2_atom_84 : decode cX2_atom 84 = .ok (.bipush 33, 2) := by decide +kernel
theorem dX2_atom_86 : decode cX2_atom 86 = .ok (.if_icmp .ne 9, 3) := by decide +kernel
theorem dX2_atom_89 : decode cX2_atom 89 = .ok (.iload_n 2, 1) := by decide +kernel
theorem dX2_atom_90 : decode cX2_atom 90 = .ok (.ifCond .ne 5, 3) := by decide +kernel
theorem dX2_atom_93 : decode cX2_atom 93 = .ok (.iconst 0, 1) := by decide +kernel
theorem dX2_atom_94 : decode cX2_atom 94 = .ok (.ireturn, 1) := by decide +kernel
theorem dX2_atom_95 : decode cX2_atom 95 = .ok (.iload_n 2, 1) := by decide +kernel
theorem dX2_atom_96 : decode cX2_atom 96 = .ok (.ifCond .eq 13, 3) := by decide +kernel
theorem dX2_atom_99 : decode cX2_atom 99 = .ok (.aload_n 0, 1) := by decide +kernel
theorem dX2_atom_100 : decode cX2_atom 100 = .ok (.dup, 1) := by decide +kernel
theorem dX2_atom_101 : decode cX2_atom 101 = .ok (.getfield 45, 3) := by decide +kernel
theorem dX2_atom_104 : decode cX2_atom 104 = .ok (.iconst 1, 1) := by decide +kernel
theorem dX2_atom_105 : decode cX2_atom 105 = .ok (.iadd, 1) := by decide +kernel
theorem dX2_atom_106 : decode cX2_atom 106 = .ok (.putfield 45, 3) := by decide +kernel
theorem dX2_atom_109 : decode cX2_atom 109 = .ok (.aload_n 0, 1) := by decide +kernel
theorem dX2_atom_110 : decode cX2_atom 110 = .ok (.iconst (-1), 1) := by decide +kernel
theorem dX2_atom_111 : decode cX2_atom 111 = .ok (.invokevirtual 129, 3) := by decide +kernel
theorem dX2_atom_114 : decode cX2_atom 114 = .ok (.ifCond .ne 5, 3) := by decide +kernel
theorem dX2_atom_117 : decode cX2_atom 117 = .ok (.iconst 0, 1) := by decide +kernel
theorem dX2_atom_118 : decode cX2_atom 118 = .ok (.ireturn, 1) := by decide +kernel
theorem dX2_atom_119 : decode cX2_atom 119 = .ok (.iload_n 1, 1) := by decide +kernel
theorem dX2_atom_120 : decode cX2_atom 120 = .ok (.bipush 62, 2) := by decide +kernel
theorem dX2_atom_122 : decode cX2_atom 122 = .ok (.if_icmp .ne 10, 3) := by decide +kernel
theorem dX2_atom_125 : decode cX2_atom 125 = .ok (.aload_n 0, 1) := by decide +kernel
theorem dX2_atom_126 : decode cX2_atom 126 = .ok (.getfield 27, 3) := by decide +kernel
theorem dX2_atom_129 : decode cX2_atom 129 = .ok (.invokevirtual 132, 3) := by decide +kernel
theorem dX2_atom_132 : decode cX2_atom 132 = .ok (.aload_n 0, 1) := by decide +kernel
theorem dX2_atom_133 : decode cX2_atom 133 = .ok (.iload_n 1, 1) := by decide +kernel
theorem dX2_atom_134 : decode cX2_atom 134 = .ok (.bipush 61, 2) := by decide +kernel
theorem dX2_atom_136 : decode cX2_atom 136 = .ok (.if_icmp .ne 7, 3) := by decide +kernel
theorem dX2_atom_139 : decode cX2_atom 139 = .ok (.iconst 2, 1) := by decide +kernel
theorem dX2_atom_140 : decode cX2_atom 140 = .ok (.goto 22, 3) := by decide +kernel
theorem dX2_atom_143 : decode cX2_atom 143 = .ok (.iload_n 1, 1) := by decide +kernel
theorem dX2_atom_144 : decode cX2_atom 144 = .ok (.bipush 33, 2) := by decide +kernel
theorem dX2_atom_146 : decode cX2_atom 146 = .ok (.if_icmp .ne 7, 3) := by decide +kernel
theorem dX2_atom_149 : decode cX2_atom 149 = .ok (.iconst 3, 1) := by decide +kernel
theorem dX2_atom_150 : decode cX2_atom 150 = .ok (.goto 12, 3) := by decide +kernel
theorem dX2_atom_153 : decode cX2_atom 153 = .ok (.iload_n 2, 1) := by decide +kernel
theorem dX2_atom_154 : decode cX2_atom 154 = .ok (.ifCond .eq 7, 3) := by decide +kernel
theorem dX2_atom_157 : decode cX2_atom 157 = .ok (.iconst 5, 1) := by decide +kernel
theorem dX2_atom_158 : decode cX2_atom 158 = .ok (.goto 4, 3) := by decide +kernel
theorem dX2_atom_161 : decode cX2_atom 161 = .ok (.iconst 4, 1) := by decide +kernel
theorem dX2_atom_162 : decode cX2_atom 162 = .ok (.invokevirtual 135, 3) := by decide +kernel
theorem dX2_atom_165 : decode cX2_atom 165 = .ok (.iconst 1, 1) := by decide +kernel
theorem dX2_atom_166 : decode cX2_atom 166 = .ok (.ireturn, 1) := by decide +kernel
theorem dX2_pushAtom_0 : decode cX2_pushAtom 0 = .ok (.aload_n 0, 1) := by decide +kernel
theorem dX2_pushAtom_1 : decode cX2_pushAtom 1 = .ok (.getfield 27, 3) := by decide +kernel
theorem dX2_pushAtom_4 : decode cX2_pushAtom 4 = .ok (.iload_n 1, 1) := by decide +kernel
theorem dX2_pushAtom_5 : decode cX2_pushAtom 5 = .ok (.invokevirtual 138, 3) := by decide +kernel
theorem dX2_pushAtom_8 : decode cX2_pushAtom 8 = .ok (.istore_n 2, 1) := by decide +kernel
theorem dX2_pushAtom_9 : decode cX2_pushAtom 9 = .ok (.aload_n 0, 1) := by decide +kernel
theorem dX2_pushAtom_10 : decode cX2_pushAtom 10 = .ok (.dup, 1) := by decide +kernel
theorem dX2_pushAtom_11 : decode cX2_pushAtom 11 = .ok (.getfield 54, 3) := by decide +kernel
theorem dX2_pushAtom_14 : decode cX2_pushAtom 14 = .ok (.iload_n 2, 1) := by decide +kernel
theorem dX2_pushAtom_15 : decode cX2_pushAtom 15 = .ok (.bipush (-2), 2) := by decide +kernel
theorem dX2_pushAtom_17 : decode cX2_pushAtom 17 = .ok (.if_icmp .ne 7, 3) := by decide +kernel
theorem dX2_pushAtom_20 : decode cX2_pushAtom 20 = .ok (.iconst 1, 1) := by decide +kernel
theorem dX2_pushAtom_21 : decode cX2_pushAtom 21 = .ok (.goto 4, 3) := by decide +kernel
theorem dX2_pushAtom_24 : decode cX2_pushAtom 24 = .ok (.iconst 0, 1) := by decide +kernel
theorem dX2_pushAtom_25 : decode cX2_pushAtom 25 = .ok (.ior, 1) := by decide +kernel
theorem dX2_pushAtom_26 : decode cX2_pushAtom 26 = .ok (.putfield 54, 3) := by decide +kernel
theorem dX2_pushAtom_29 : decode cX2_pushAtom 29 = .ok (.aload_n 0, 1) := by decide +kernel
theorem dX2_pushAtom_30 : decode cX2_pushAtom 30 = .ok (.getfield 20, 3) := by decide +kernel
theorem dX2_pushAtom_33 : decode cX2_pushAtom 33 = .ok (.aload_n 0, 1) := by decide +kernel
theorem dX2_pushAtom_34 : decode cX2_pushAtom 34 = .ok (.getfield 27, 3) := by decide +kernel
theorem dX2_pushAtom_37 : decode cX2_pushAtom 37 = .ok (.iload_n 2, 1) := by decide +kernel
theorem dX2_pushAtom_38 : decode cX2_pushAtom 38 = .ok (.bipush (-2), 2) := by decide +kernel
theorem dX2_pushAtom_40 : decode cX2_pushAtom 40 = .ok (.if_icmp .ne 7, 3) := by decide +kernel
theorem dX2_pushAtom_43 : decode cX2_pushAtom 43 = .ok (.iconst 0, 1) := by decide +kernel
theorem dX2_pushAtom_44 : decode cX2_pushAtom 44 = .ok (.goto 4, 3) := by decide +kernel
theorem dX2_pushAtom_47 : decode cX2_pushAtom 47 = .ok (.iload_n 2, 1) := by decide +kernel
theorem dX2_pushAtom_48 : decode cX2_pushAtom 48 = .ok (.invokevirtual 141, 3) := by decide +kernel
theorem dX2_pushAtom_51 : decode cX2_pushAtom 51 = .ok (.return_, 1) := by decide +kernel
theorem dX2_side_0 : decode cX2_side 0 = .ok (.iload_n 1, 1) := by decide +kernel
theorem dX2_side_1 : decode cX2_side 1 = .ok (.istore_n 2, 1) := by decide +kernel
theorem dX2_side_2 : decode cX2_side 2 = .ok (.aload_n 0, 1) := by decide +kernel
theorem dX2_side_3 : decode cX2_side 3 = .ok (.invokevirtual 75, 3) := by decide +kernel
theorem dX2_side_6 : decode cX2_side 6 = .ok (.bipush 45, 2) := by decide +kernel
theorem dX2_side_8 : decode cX2_side 8 = .ok (.if_icmp .ne 16, 3) := by decide +kernel
theorem dX2_side_11 : decode cX2_side 11 = .ok (.iload_n 1, 1) := by decide +kernel
theorem dX2_side_12 : decode cX2_side 12 = .ok (.ineg, 1) := by decide +kernel
theorem dX2_side_13 : decode cX2_side 13 = .ok (.istore_n 2, 1) := by decide +kernel
theorem dX2_side_14 : decode cX2_side 14 = .ok (.aload_n 0, 1) := by decide +kernel
theorem dX2_side_15 : decode cX2_side 15 = .ok (.dup, 1) := by decide +kernel
theorem dX2_side_16 : decode cX2_side 16 = .ok (.getfield 45, 3) := by decide +kernel
theorem dX2_side_19 : decode cX2_side 19 = .ok (.iconst 1, 1) := by decide +kernel
theorem dX2_side_20 : decode cX2_side 20 = .ok (.iadd, 1) := by decide +kernel
theorem dX2_side_21 : decode cX2_side 21 = .ok (.putfield 45, 3) := by decide +kernel
theorem dX2_side_24 : decode cX2_side 24 = .ok (.iconst 0, 1) := by decide +kernel
theorem dX2_side_25 : decode cX2_side 25 = .ok (.istore_n 3, 1) := by decide +kernel
theorem dX2_side_26 : decode cX2_side 26 = .ok (.iload_n 3, 1) := by decide +kernel
theorem dX2_side_27 : decode cX2_side 27 = .ok (.sipush 240, 3) := by decide +kernel
theorem dX2_side_30 : decode cX2_side 30 = .ok (.if_icmp .gt 96, 3) := by decide +kernel
theorem dX2_side_33 : decode cX2_side 33 = .ok (.aload_n 0, 1) := by decide +kernel
theorem dX2_side_34 : decode cX2_side 34 = .ok (.iload_n 2, 1) := by decide +kernel
theorem dX2_side_35 : decode cX2_side 35 = .ok (.invokevirtual 145, 3) := by decide +kernel
theorem dX2_side_38 : decode cX2_side 38 = .ok (.ifCond .ne 5, 3) := by decide +kernel
theorem dX2_side_41 : decode cX2_side 41 = .ok (.iconst 0, 1) := by decide +kernel
theorem dX2_side_42 : decode cX2_side 42 = .ok (.ireturn, 1) := by decide +kernel
theorem dX2_side_43 : decode cX2_side 43 = .ok (.aload_n 0, 1) := by decide +kernel
theorem dX2_side_44 : decode cX2_side 44 = .ok (.invokevirtual 75, 3) := by decide +kernel
theorem dX2_side_47 : decode cX2_side 47 = .ok (.istore 4, 2) := by decide +kernel
theorem dX2_side_49 : decode cX2_side 49 = .ok (.iload_n 1, 1) := by decide +kernel
theorem dX2_side_50 : decode cX2_side 50 = .ok (.ifCond .ge 22, 3) := by decide +kernel
theorem dX2_side_53 : decode cX2_side 53 = .ok (.aload_n 0, 1) := by decide +kernel
theorem dX2_side_54 : decode cX2_side 54 = .ok (.aload_n 0, 1) := by decide +kernel
theorem dX2_side_55 : decode cX2_side 55 = .ok (.getfield 45, 3) := by decide +kernel
theorem dX2_side_58 : decode cX2_side 58 = .ok (.iconst 1, 1) := by decide +kernel
theorem dX2_side_59 : decode cX2_side 59 = .ok (.iadd, 1) := by decide +kernel
theorem dX2_side_60 : decode cX2_side 60 = .ok (.invokevirtual 104, 3) := by decide +kernel
theorem dX2_side_63 : decode cX2_side 63 = .ok (.bipush 62, 2) := by decide +kernel
theorem dX2_side_65 : decode cX2_side 65 = .ok (.if_icmp .ne 7, 3) := by decide +kernel
theorem dX2_side_68 : decode cX2_side 68 = .ok (.iconst 1, 1) := by decide +kernel
theorem dX2_side_69 : decode cX2_side 69 = .ok (.goto 4, 3) := by decide +kernel
theorem dX2_side_72 : decode cX2_side 72 = .ok (.iconst 0, 1) := by decide +kernel
theorem dX2_side_73 : decode cX2_side 73 = .ok (.istore 5, 2) := by decide +kernel
theorem dX2_side_75 : decode cX2_side 75 = .ok (.iload 4, 2) := by decide +kernel
theorem dX2_side_77 : decode cX2_side 77 = .ok (.bipush 43, 2) := by decide +kernel
theorem dX2_side_79 : decode cX2_side 79 = .ok (.if_icmp .eq 17, 3) := by decide +kernel
theorem dX2_side_82 : decode cX2_side 82 = .ok (.iload 4, 2) := by decide +kernel
theorem dX2_side_84 : decode cX2_side 84 = .ok (.bipush 45, 2) := by decide +kernel
theorem dX2_side_86 : decode cX2_side 86 = .ok (.if_icmp .ne 8, 3) := by decide +kernel
theorem dX2_side_89 : decode cX2_side 89 = .ok (.iload 5, 2) := by decide +kernel
theorem dX2_side_91 : decode cX2_side 91 = .ok (.ifCond .eq 5, 3) := by decide +kernel
theorem dX2_side_94 : decode cX2_side 94 = .ok (.iconst 1, 1) := by decide +kernel
theorem dX2_side_95 : decode cX2_side 95 = .ok (.ireturn, 1) := by decide +kernel
theorem dX2_side_96 : decode cX2_side 96 = .ok (.iload 4, 2) := by decide +kernel
theorem dX2_side_98 : decode cX2_side 98 = .ok (.bipush 43, 2) := by decide +kernel
theorem dX2_side_100 : decode cX2_side 100 = .ok (.if_icmp .ne 7, 3) := by decide +kernel
theorem dX2_side_103 : decode cX2_side 103 = .ok (.iload_n 1, 1) := by decide +kernel
theorem dX2_side_104 : decode cX2_side 104 = .ok (.goto 5, 3) := by decide +kernel
theorem dX2_side_107 : decode cX2_side 107 = .ok (.iload_n 1, 1) := by decide +kernel
theorem dX2_side_108 : decode cX2_side 108 = .ok (.ineg, 1) := by decide +kernel
theorem dX2_side_109 : decode cX2_side 109 = .ok (.istore_n 2, 1) := by decide +kernel
theorem dX2_side_110 : decode cX2_side 110 = .ok (.aload_n 0, 1) := by decide +kernel
theorem dX2_side_111 : decode cX2_side 111 = .ok (.dup, 1) := by decide +kernel
theorem dX2_side_112 : decode cX2_side 112 = .ok (.getfield 45, 3) := by decide +kernel
theorem dX2_side_115 : decode cX2_side 115 = .ok (.iconst 1, 1) := by decide +kernel
theorem dX2_side_116 : decode cX2_side 116 = .ok (.iadd, 1) := by decide +kernel
theorem dX2_side_117 : decode cX2_side 117 = .ok (.putfield 45, 3) := by decide +kernel
theorem dX2_side_120 : decode cX2_side 120 = .ok (.iinc 3 1, 3) := by decide +kernel
theorem dX2_side_123 : decode cX2_side 123 = .ok (.goto (-97), 3) := by decide +kernel
theorem dX2_side_126 : decode cX2_side 126 = .ok (.iconst 0, 1) := by decide +kernel
theorem dX2_side_127 : decode cX2_side 127 = .ok (.ireturn, 1) := by decide +kernel
theorem dX2_item_0 : decode cX2_item 0 = .ok (.aload_n 0, 1) := by decide +kernel
theorem dX2_item_1 : decode cX2_item 1 = .ok (.invokevirtual 75, 3) := by decide +kernel
theorem dX2_item_4 : decode cX2_item 4 = .ok (.istore_n 2, 1) := by decide +kernel
theorem dX2_item_5 : decode cX2_item 5 = .ok (.iload_n 2, 1) := by decide +kernel
theorem dX2_item_6 : decode cX2_item 6 = .ok (.invokestatic 85, 3) := by decide +kernel
theorem dX2_item_9 : decode cX2_item 9 = .ok (.istore_n 3, 1) := by decide +kernel
theorem dX2_item_10 : decode cX2_item 10 = .ok (.iload_n 3, 1) := by decide +kernel
theorem dX2_item_11 : decode cX2_item 11 = .ok (.iconst (-1), 1) := by decide +kernel
theorem dX2_item_12 : decode cX2_item 12 = .ok (.if_icmp .eq 29, 3) := by decide +kernel
theorem dX2_item_15 : decode cX2_item 15 = .ok (.aload_n 0, 1) := by decide +kernel
theorem dX2_item_16 : decode cX2_item 16 = .ok (.dup, 1) := by decide +kernel
theorem dX2_item_17 : decode cX2_item 17 = .ok (.getfield 45, 3) := by decide +kernel
theorem dX2_item_20 : decode cX2_item 20 = .ok (.iconst 1, 1) := by decide +kernel
theorem dX2_item_21 : decode cX2_item 21 = .ok (.iadd, 1) := by decide +kernel
theorem dX2_item_22 : decode cX2_item 22 = .ok (.putfield 45, 3) := by decide +kernel
theorem dX2_item_25 : decode cX2_item 25 = .ok (.aload_n 0, 1) := by decide +kernel
theorem dX2_item_26 : decode cX2_item 26 = .ok (.getfield 27, 3) := by decide +kernel
theorem dX2_item_29 : decode cX2_item 29 = .ok (.iload_n 3, 1) := by decide +kernel
theorem dX2_item_30 : decode cX2_item 30 = .ok (.iload_n 1, 1) := by decide +kernel
theorem dX2_item_31 : decode cX2_item 31 = .ok (.i2l, 1) := by decide +kernel
theorem dX2_item_32 : decode cX2_item 32 = .ok (.ldc2_w 148, 3) := by decide +kernel
theorem dX2_item_35 : decode cX2_item 35 = .ok (.lmul, 1) := by decide +kernel
theorem dX2_item_36 : decode cX2_item 36 = .ok (.invokevirtual 150, 3) := by decide +kernel
theorem dX2_item_39 : decode cX2_item 39 = .ok (.iconst 1, 1) := by decide +kernel
theorem dX2_item_40 : decode cX2_item 40 = .ok (.ireturn, 1) := by decide +kernel
theorem dX2_item_41 : decode cX2_item 41 = .ok (.iload_n 2, 1) := by decide +kernel
theorem dX2_item_42 : decode cX2_item 42 = .ok (.invokestatic 154, 3) := by decide +kernel
theorem dX2_item_45 : decode cX2_item 45 = .ok (.iconst (-1), 1) := by decide +kernel
theorem dX2_item_46 : decode cX2_item 46 = .ok (.if_icmp .ne 5, 3) := by decide +kernel
theorem dX2_item_49 : decode cX2_item 49 = .ok (.iconst 0, 1) := by decide +kernel
theorem dX2_item_50 : decode cX2_item 50 = .ok (.ireturn, 1) := by decide +kernel
theorem dX2_item_51 : decode cX2_item 51 = .ok (.aload_n 0, 1) := by decide +kernel
theorem dX2_item_52 : decode cX2_item 52 = .ok (.invokevirtual 157, 3) := by decide +kernel
theorem dX2_item_55 : decode cX2_item 55 = .ok (.istore 4, 2) := by decide +kernel
theorem dX2_item_57 : decode cX2_item 57 = .ok (.aload_n 0, 1) := by decide +kernel
theorem dX2_item_58 : decode cX2_item 58 = .ok (.aload_n 0, 1) := by decide +kernel
theorem dX2_item_59 : decode cX2_item 59 = .ok (.getfield 45, 3) := by decide +kernel
theorem dX2_item_62 : decode cX2_item 62 = .ok (.invokevirtual 104, 3) := by decide +kernel
theorem dX2_item_65 : decode cX2_item 65 = .ok (.bipush 47, 2) := by decide +kernel
theorem dX2_item_67 : decode cX2_item 67 = .ok (.if_icmp .ne 10, 3) := by decide +kernel
theorem dX2_item_70 : decode cX2_item 70 = .ok (.aload_n 0, 1) := by decide +kernel
theorem dX2_item_71 : decode cX2_item 71 = .ok (.invokevirtual 160, 3) := by decide +kernel
theorem dX2_item_74 : decode cX2_item 74 = .ok (.goto 4, 3) := by decide +kernel
theorem dX2_item_77 : decode cX2_item 77 = .ok (.iconst 1, 1) := by decide +kernel
theorem dX2_item_78 : decode cX2_item 78 = .ok (.istore 5, 2) := by decide +kernel
theorem dX2_item_80 : decode cX2_item 80 = .ok (.iload 5, 2) := by decide +kernel
theorem dX2_item_82 : decode cX2_item 82 = .ok (.iconst 1, 1) := by decide +kernel
theorem dX2_item_83 : decode cX2_item 83 = .ok (.if_icmp .ge 5, 3) := by decide +kernel
theorem dX2_item_86 : decode cX2_item 86 = .ok (.iconst 0, 1) := by decide +kernel
theorem dX2_item_87 : decode cX2_item 87 = .ok (.ireturn, 1) := by decide +kernel
theorem dX2_item_88 : decode cX2_item 88 = .ok (.aload_n 0, 1) := by decide +kernel
theorem dX2_item_89 : decode cX2_item 89 = .ok (.invokevirtual 75, 3) := by decide +kernel
theorem dX2_item_92 : decode cX2_item 92 = .ok (.invokestatic 85, 3) := by decide +kernel
theorem dX2_item_95 : decode cX2_item 95 = .ok (.istore_n 3, 1) := by decide +kernel
theorem dX2_item_96 : decode cX2_item 96 = .ok (.iload_n 3, 1) := by decide +kernel
theorem dX2_item_97 : decode cX2_item 97 = .ok (.iconst (-1), 1) := by decide +kernel
theorem dX2_item_98 : decode cX2_item 98 = .ok (.if_icmp .eq 13, 3) := by decide +kernel
theorem dX2_item_101 : decode cX2_item 101 = .ok (.aload_n 0, 1) := by decide +kernel
theorem dX2_item_102 : decode cX2_item 102 = .ok (.dup, 1) := by decide +kernel
theorem dX2_item_103 : decode cX2_item 103 = .ok (.getfield 45, 3) := by decide +kernel
theorem dX2_item_106 : decode cX2_item 106 = .ok (.iconst 1, 1) := by decide +kernel
theorem dX2_item_107 : decode cX2_item 107 = .ok (.iadd, 1) := by decide +kernel
theorem dX2_item_108 : decode cX2_item 108 = .ok (.putfield 45, 3) := by decide +kernel
theorem dX2_item_111 : decode cX2_item 111 = .ok (.aload_n 0, 1) := by decide +kernel
theorem dX2_item_112 : decode cX2_item 112 = .ok (.getfield 27, 3) := by decide +kernel
theorem dX2_item_115 : decode cX2_item 115 = .ok (.iload_n 3, 1) := by decide +kernel
theorem dX2_item_116 : decode cX2_item 116 = .ok (.iconst (-1), 1) := by decide +kernel
theorem dX2_item_117 : decode cX2_item 117 = .ok (.if_icmp .ne 8, 3) := by decide +kernel
theorem dX2_item_120 : decode cX2_item 120 = .ok (.bipush 8, 2) := by decide +kernel
theorem dX2_item_122 : decode cX2_item 122 = .ok (.goto 4, 3) := by decide +kernel
theorem dX2_item_125 : decode cX2_item 125 = .ok (.iload_n 3, 1) := by decide +kernel
theorem dX2_item_126 : decode cX2_item 126 = .ok (.iload_n 1, 1) := by decide +kernel
theorem dX2_item_127 : decode cX2_item 127 = .ok (.i2l, 1) := by decide +kernel
theorem dX2_item_128 : decode cX2_item 128 = .ok (.iload 4, 2) := by decide +kernel
theorem dX2_item_130 : decode cX2_item 130 = .ok (.i2l, 1) := by decide +kernel
theorem dX2_item_131 : decode cX2_item 131 = .ok (.lmul, 1) := by decide +kernel
theorem dX2_item_132 : decode cX2_item 132 = .ok (.sipush 27720, 3) := by decide +kernel
theorem dX2_item_135 : decode cX2_item 135 = .ok (.iload 5, 2) := by decide +kernel
theorem dX2_item_137 : decode cX2_item 137 = .ok (.idiv, 1) := by decide +kernel
theorem dX2_item_138 : decode cX2_item 138 = .ok (.i2l, 1) := by decide +kernel
theorem dX2_item_139 : decode cX2_item 139 = .ok (.lmul, 1) := by decide +kernel
theorem dX2_item_140 : decode cX2_item 140 = .ok (.invokevirtual 150, 3) := by decide +kernel
theorem dX2_item_143 : decode cX2_item 143 = .ok (.iconst 1, 1) := by decide +kernel
theorem dX2_item_144 : decode cX2_item 144 = .ok (.ireturn, 1) := by decide +kernel
theorem dX2_wholeNumber_0 : decode cX2_wholeNumber 0 = .ok (.iconst 0, 1) := by decide +kernel
theorem dX2_wholeNumber_1 : decode cX2_wholeNumber 1 = .ok (.istore_n 1, 1) := by decide +kernel
theorem dX2_wholeNumber_2 : decode cX2_wholeNumber 2 = .ok (.iconst 0, 1) := by decide +kernel
theorem dX2_wholeNumber_3 : decode cX2_wholeNumber 3 = .ok (.istore_n 2, 1) := by decide +kernel
theorem dX2_wholeNumber_4 : decode cX2_wholeNumber 4 = .ok (.iload_n 2, 1) := by decide +kernel
theorem dX2_wholeNumber_5 : decode cX2_wholeNumber 5 = .ok (.iconst 4, 1) := by decide +kernel
theorem dX2_wholeNumber_6 : decode cX2_wholeNumber 6 = .ok (.if_icmp .ge 46, 3) := by decide +kernel
theorem dX2_wholeNumber_9 : decode cX2_wholeNumber 9 = .ok (.aload_n 0, 1) := by decide +kernel
theorem dX2_wholeNumber_10 : decode cX2_wholeNumber 10 = .ok (.aload_n 0, 1) := by decide +kernel
theorem dX2_wholeNumber_11 : decode cX2_wholeNumber 11 = .ok (.getfield 45, 3) := by decide +kernel
theorem dX2_wholeNumber_14 : decode cX2_wholeNumber 14 = .ok (.invokevirtual 104, 3) := by decide +kernel
theorem dX2_wholeNumber_17 : decode cX2_wholeNumber 17 = .ok (.invokestatic 154, 3) := by decide +kernel
theorem dX2_wholeNumber_20 : decode cX2_wholeNumber 20 = .ok (.istore_n 3, 1) := by decide +kernel
theorem dX2_wholeNumber_21 : decode cX2_wholeNumber 21 = .ok (.iload_n 3, 1) := by decide +kernel
theorem dX2_wholeNumber_22 : decode cX2_wholeNumber 22 = .ok (.iconst (-1), 1) := by decide +kernel
theorem dX2_wholeNumber_23 : decode cX2_wholeNumber 23 = .ok (.if_icmp .ne 6, 3) := by decide +kernel
theorem dX2_wholeNumber_26 : decode cX2_wholeNumber 26 = .ok (.goto 26, 3) := by decide +kernel
theorem dX2_wholeNumber_29 : decode cX2_wholeNumber 29 = .ok (.bipush 10, 2) := by decide +kernel
theorem dX2_wholeNumber_31 : decode cX2_wholeNumber 31 = .ok (.iload_n 1, 1) := by decide +kernel
theorem dX2_wholeNumber_32 : decode cX2_wholeNumber 32 = .ok (.imul, 1) := by decide +kernel
theorem dX2_wholeNumber_33 : decode cX2_wholeNumber 33 = .ok (.iload_n 3, 1) := by decide +kernel
theorem dX2_wholeNumber_34 : decode cX2_wholeNumber 34 = .ok (.iadd, 1) := by decide +kernel
theorem dX2_wholeNumber_35 : decode cX2_wholeNumber 35 = .ok (.istore_n 1, 1) := by decide +kernel
theorem dX2_wholeNumber_36 : decode cX2_wholeNumber 36 = .ok (.aload_n 0, 1) := by decide +kernel
theorem dX2_wholeNumber_37 : decode cX2_wholeNumber 37 = .ok (.dup, 1) := by decide +kernel
theorem dX2_wholeNumber_38 : decode cX2_wholeNumber 38 = .ok (.getfield 45, 3) := by decide +kernel
theorem dX2_wholeNumber_41 : decode cX2_wholeNumber 41 = .ok (.iconst 1, 1) := by decide +kernel
theorem dX2_wholeNumber_42 : decode cX2_wholeNumber 42 = .ok (.iadd, 1) := by decide +kernel
theorem dX2_wholeNumber_43 : decode cX2_wholeNumber 43 = .ok (.putfield 45, 3) := by decide +kernel
theorem dX2_wholeNumber_46 : decode cX2_wholeNumber 46 = .ok (.iinc 2 1, 3) := by decide +kernel
theorem dX2_wholeNumber_49 : decode cX2_wholeNumber 49 = .ok (.goto (-45), 3) := by decide +kernel
theorem dX2_wholeNumber_52 : decode cX2_wholeNumber 52 = .ok (.iload_n 1, 1) := by decide +kernel
theorem dX2_wholeNumber_53 : decode cX2_wholeNumber 53 = .ok (.ireturn, 1) := by decide +kernel
theorem dX2_numberBelow_0 : decode cX2_numberBelow 0 = .ok (.aload_n 0, 1) := by decide +kernel
theorem dX2_numberBelow_1 : decode cX2_numberBelow 1 = .ok (.dup, 1) := by decide +kernel
theorem dX2_numberBelow_2 : decode cX2_numberBelow 2 = .ok (.getfield 45, 3) := by decide +kernel
theorem dX2_numberBelow_5 : decode cX2_numberBelow 5 = .ok (.iconst 1, 1) := by decide +kernel
theorem dX2_numberBelow_6 : decode cX2_numberBelow 6 = .ok (.iadd, 1) := by decide +kernel
theorem dX2_numberBelow_7 : decode cX2_numberBelow 7 = .ok (.putfield 45, 3) := by decide +kernel
theorem dX2_numberBelow_10 : decode cX2_numberBelow 10 = .ok (.aload_n 0, 1) := by decide +kernel
theorem dX2_numberBelow_11 : decode cX2_numberBelow 11 = .ok (.aload_n 0, 1) := by decide +kernel
theorem dX2_numberBelow_12 : decode cX2_numberBelow 12 = .ok (.getfield 45, 3) := by decide +kernel
theorem dX2_numberBelow_15 : decode cX2_numberBelow 15 = .ok (.invokevirtual 104, 3) := by decide +kernel
theorem dX2_numberBelow_18 : decode cX2_numberBelow 18 = .ok (.invokestatic 154, 3) := by decide +kernel
theorem dX2_numberBelow_21 : decode cX2_numberBelow 21 = .ok (.istore_n 1, 1) := by decide +kernel
theorem dX2_numberBelow_22 : decode cX2_numberBelow 22 = .ok (.iload_n 1, 1) := by decide +kernel
theorem dX2_numberBelow_23 : decode cX2_numberBelow 23 = .ok (.iconst 1, 1) := by decide +kernel
theorem dX2_numberBelow_24 : decode cX2_numberBelow 24 = .ok (.if_icmp .ge 5, 3) := by decide +kernel
theorem dX2_numberBelow_27 : decode cX2_numberBelow 27 = .ok (.iconst (-1), 1) := by decide +kernel
theorem dX2_numberBelow_28 : decode cX2_numberBelow 28 = .ok (.ireturn, 1) := by decide +kernel
theorem dX2_numberBelow_29 : decode cX2_numberBelow 29 = .ok (.aload_n 0, 1) := by decide +kernel
theorem dX2_numberBelow_30 : decode cX2_numberBelow 30 = .ok (.dup, 1) := by decide +kernel
theorem dX2_numberBelow_31 : decode cX2_numberBelow 31 = .ok (.getfield 45, 3) := by decide +kernel
theorem dX2_numberBelow_34 : decode cX2_numberBelow 34 = .ok (.iconst 1, 1) := by decide +kernel
theorem dX2_numberBelow_35 : decode cX2_numberBelow 35 = .ok (.iadd, 1) := by decide +kernel
theorem dX2_numberBelow_36 : decode cX2_numberBelow 36 = .ok (.putfield 45, 3) := by decide +kernel
theorem dX2_numberBelow_39 : decode cX2_numberBelow 39 = .ok (.aload_n 0, 1) := by decide +kernel
theorem dX2_numberBelow_40 : decode cX2_numberBelow 40 = .ok (.aload_n 0, 1) := by decide +kernel
theorem dX2_numberBelow_41 : decode cX2_numberBelow 41 = .ok (.getfield 45, 3) := by decide +kernel
theorem dX2_numberBelow_44 : decode cX2_numberBelow 44 = .ok (.invokevirtual 104, 3) := by decide +kernel
theorem dX2_numberBelow_47 : decode cX2_numberBelow 47 = .ok (.invokestatic 154, 3) := by decide +kernel
theorem dX2_numberBelow_50 : decode cX2_numberBelow 50 = .ok (.istore_n 2, 1) := by decide +kernel
theorem dX2_numberBelow_51 : decode cX2_numberBelow 51 = .ok (.iload_n 1, 1) := by decide +kernel
theorem dX2_numberBelow_52 : decode cX2_numberBelow 52 = .ok (.iconst 1, 1) := by decide +kernel
theorem dX2_numberBelow_53 : decode cX2_numberBelow 53 = .ok (.if_icmp .ne 27, 3) := by decide +kernel
theorem dX2_numberBelow_56 : decode cX2_numberBelow 56 = .ok (.iload_n 2, 1) := by decide +kernel
theorem dX2_numberBelow_57 : decode cX2_numberBelow 57 = .ok (.ifCond .lt 23, 3) := by decide +kernel
theorem dX2_numberBelow_60 : decode cX2_numberBelow 60 = .ok (.iload_n 2, 1) := by decide +kernel
theorem dX2_numberBelow_61 : decode cX2_numberBelow 61 = .ok (.iconst 2, 1) := by decide +kernel
theorem dX2_numberBelow_62 : decode cX2_numberBelow 62 = .ok (.if_icmp .gt 18, 3) := by decide +kernel
theorem dX2_numberBelow_65 : decode cX2_numberBelow 65 = .ok (.bipush 10, 2) := by decide +kernel
theorem dX2_numberBelow_67 : decode cX2_numberBelow 67 = .ok (.iload_n 2, 1) := by decide +kernel
theorem dX2_numberBelow_68 : decode cX2_numberBelow 68 = .ok (.iadd, 1) := by decide +kernel
theorem dX2_numberBelow_69 : decode cX2_numberBelow 69 = .ok (.istore_n 1, 1) := by decide +kernel
theorem dX2_numberBelow_70 : decode cX2_numberBelow 70 = .ok (.aload_n 0, 1) := by decide +kernel
theorem dX2_numberBelow_71 : decode cX2_numberBelow 71 = .ok (.dup, 1) := by decide +kernel
theorem dX2_numberBelow_72 : decode cX2_numberBelow 72 = .ok (.getfield 45, 3) := by decide +kernel
theorem dX2_numberBelow_75 : decode cX2_numberBelow 75 = .ok (.iconst 1, 1) := by decide +kernel
theorem dX2_numberBelow_76 : decode cX2_numberBelow 76 = .ok (.iadd, 1) := by decide +kernel
theorem dX2_numberBelow_77 : decode cX2_numberBelow 77 = .ok (.putfield 45, 3) := by decide +kernel
theorem dX2_numberBelow_80 : decode cX2_numberBelow 80 = .ok (.iload_n 1, 1) := by decide +kernel
theorem dX2_numberBelow_81 : decode cX2_numberBelow 81 = .ok (.ireturn, 1) := by decide +kernel
theorem dX2_nextLetter_0 : decode cX2_nextLetter 0 = .ok (.iconst 0, 1) := by decide +kernel
theorem dX2_nextLetter_1 : decode cX2_nextLetter 1 = .ok (.istore_n 1, 1) := by decide +kernel
theorem dX2_nextLetter_2 : decode cX2_nextLetter 2 = .ok (.iload_n 1, 1) := by decide +kernel
theorem dX2_nextLetter_3 : decode cX2_nextLetter 3 = .ok (.sipush 240, 3) := by decide +kernel
theorem dX2_nextLetter_6 : decode cX2_nextLetter 6 = .ok (.if_icmp .ge 32, 3) := by decide +kernel
theorem dX2_nextLetter_9 : decode cX2_nextLetter 9 = .ok (.aload_n 0, 1) := by decide +kernel
theorem dX2_nextLetter_10 : decode cX2_nextLetter 10 = .ok (.aload_n 0, 1) := by decide +kernel
theorem dX2_nextLetter_11 : decode cX2_nextLetter 11 = .ok (.getfield 45, 3) := by decide +kernel
theorem dX2_nextLetter_14 : decode cX2_nextLetter 14 = .ok (.invokevirtual 104, 3) := by decide +kernel
theorem dX2_nextLetter_17 : decode cX2_nextLetter 17 = .ok (.bipush 32, 2) := by decide +kernel
theorem dX2_nextLetter_19 : decode cX2_nextLetter 19 = .ok (.if_icmp .ne 19, 3) := by decide +kernel
theorem dX2_nextLetter_22 : decode cX2_nextLetter 22 = .ok (.aload_n 0, 1) := by decide +kernel
theorem dX2_nextLetter_23 : decode cX2_nextLetter 23 = .ok (.dup, 1) := by decide +kernel
theorem dX2_nextLetter_24 : decode cX2_nextLetter 24 = .ok (.getfield 45, 3) := by decide +kernel
theorem dX2_nextLetter_27 : decode cX2_nextLetter 27 = .ok (.iconst 1, 1) := by decide +kernel
theorem dX2_nextLetter_28 : decode cX2_nextLetter 28 = .ok (.iadd, 1) := by decide +kernel
theorem dX2_nextLetter_29 : decode cX2_nextLetter 29 = .ok (.putfield 45, 3) := by decide +kernel
theorem dX2_nextLetter_32 : decode cX2_nextLetter 32 = .ok (.iinc 1 1, 3) := by decide +kernel
theorem dX2_nextLetter_35 : decode cX2_nextLetter 35 = .ok (.goto (-33), 3) := by decide +kernel
theorem dX2_nextLetter_38 : decode cX2_nextLetter 38 = .ok (.aload_n 0, 1) := by decide +kernel
theorem dX2_nextLetter_39 : decode cX2_nextLetter 39 = .ok (.aload_n 0, 1) := by decide +kernel
theorem dX2_nextLetter_40 : decode cX2_nextLetter 40 = .ok (.getfield 45, 3) := by decide +kernel
theorem dX2_nextLetter_43 : decode cX2_nextLetter 43 = .ok (.invokevirtual 104, 3) := by decide +kernel
theorem dX2_nextLetter_46 : decode cX2_nextLetter 46 = .ok (.ireturn, 1) := by decide +kernel
theorem dX2_letterAt_0 : decode cX2_letterAt 0 = .ok (.iload_n 1, 1) := by decide +kernel
theorem dX2_letterAt_1 : decode cX2_letterAt 1 = .ok (.ifCond .lt 31, 3) := by decide +kernel
theorem dX2_letterAt_4 : decode cX2_letterAt 4 = .ok (.iload_n 1, 1) := by decide +kernel
theorem dX2_letterAt_5 : decode cX2_letterAt 5 = .ok (.aload_n 0, 1) := by decide +kernel
theorem dX2_letterAt_6 : decode cX2_letterAt 6 = .ok (.getfield 35, 3) := by decide +kernel
theorem dX2_letterAt_9 : decode cX2_letterAt 9 = .ok (.if_icmp .ge 23, 3) := by decide +kernel
theorem dX2_letterAt_12 : decode cX2_letterAt 12 = .ok (.iload_n 1, 1) := by decide +kernel
theorem dX2_letterAt_13 : decode cX2_letterAt 13 = .ok (.sipush 240, 3) := by decide +kernel
theorem dX2_letterAt_16 : decode cX2_letterAt 16 = .ok (.if_icmp .ge 16, 3) := by decide +kernel
theorem dX2_letterAt_19 : decode cX2_letterAt 19 = .ok (.aload_n 0, 1) := by decide +kernel
theorem dX2_letterAt_20 : decode cX2_letterAt 20 = .ok (.getfield 9, 3) := by decide +kernel
theorem dX2_letterAt_23 : decode cX2_letterAt 23 = .ok (.iload_n 1, 1) := by decide +kernel
theorem dX2_letterAt_24 : decode cX2_letterAt 24 = .ok (.baload, 1) := by decide +kernel
theorem dX2_letterAt_25 : decode cX2_letterAt 25 = .ok (.sipush 255, 3) := by decide +kernel
theorem dX2_letterAt_28 : decode cX2_letterAt 28 = .ok (.iand, 1) := by decide +kernel
theorem dX2_letterAt_29 : decode cX2_letterAt 29 = .ok (.goto 4, 3) := by decide +kernel
theorem dX2_letterAt_32 : decode cX2_letterAt 32 = .ok (.iconst (-1), 1) := by decide +kernel
theorem dX2_letterAt_33 : decode cX2_letterAt 33 = .ok (.ireturn, 1) := by decide +kernel
theorem dX2_variableOf_0 : decode cX2_variableOf 0 = .ok (.iload_n 0, 1) := by decide +kernel
theorem dX2_variableOf_1 : decode cX2_variableOf 1 = .ok (.bipush 97, 2) := by decide +kernel
theorem dX2_variableOf_3 : decode cX2_variableOf 3 = .ok (.if_icmp .lt 16, 3) := by decide +kernel
theorem dX2_variableOf_6 : decode cX2_variableOf 6 = .ok (.iload_n 0, 1) := by decide +kernel
theorem dX2_variableOf_7 : decode cX2_variableOf 7 = .ok (.bipush 105, 2) := by decide +kernel
theorem dX2_variableOf_9 : decode cX2_variableOf 9 = .ok (.if_icmp .ge 10, 3) := by decide +kernel
theorem dX2_variableOf_12 : decode cX2_variableOf 12 = .ok (.iload_n 0, 1) := by decide +kernel
theorem dX2_variableOf_13 : decode cX2_variableOf 13 = .ok (.bipush 97, 2) := by decide +kernel
theorem dX2_variableOf_15 : decode cX2_variableOf 15 = .ok (.isub, 1) := by decide +kernel
theorem dX2_variableOf_16 : decode cX2_variableOf 16 = .ok (.goto 4, 3) := by decide +kernel
theorem dX2_variableOf_19 : decode cX2_variableOf 19 = .ok (.iconst (-1), 1) := by decide +kernel
theorem dX2_variableOf_20 : decode cX2_variableOf 20 = .ok (.ireturn, 1) := by decide +kernel
theorem dX2_digitOf_0 : decode cX2_digitOf 0 = .ok (.iload_n 0, 1) := by decide +kernel
theorem dX2_digitOf_1 : decode cX2_digitOf 1 = .ok (.bipush 48, 2) := by decide +kernel
theorem dX2_digitOf_3 : decode cX2_digitOf 3 = .ok (.if_icmp .lt 16, 3) := by decide +kernel
theorem dX2_digitOf_6 : decode cX2_digitOf 6 = .ok (.iload_n 0, 1) := by decide +kernel
theorem dX2_digitOf_7 : decode cX2_digitOf 7 = .ok (.bipush 57, 2) := by decide +kernel
theorem dX2_digitOf_9 : decode cX2_digitOf 9 = .ok (.if_icmp .gt 10, 3) := by decide +kernel
theorem dX2_digitOf_12 : decode cX2_digitOf 12 = .ok (.iload_n 0, 1) := by decide +kernel
theorem dX2_digitOf_13 : decode cX2_digitOf 13 = .ok (.bipush 48, 2) := by decide +kernel
theorem dX2_digitOf_15 : decode cX2_digitOf 15 = .ok (.isub, 1) := by decide +kernel
theorem dX2_digitOf_16 : decode cX2_digitOf 16 = .ok (.goto 4, 3) := by decide +kernel
theorem dX2_digitOf_19 : decode cX2_digitOf 19 = .ok (.iconst (-1), 1) := by decide +kernel
theorem dX2_digitOf_20 : decode cX2_digitOf 20 = .ok (.ireturn, 1) := by decide +kernel
theorem dX6_init_0 : decode cX6_init 0 = .ok (.aload_n 0, 1) := by decide +kernel
theorem dX6_init_1 : decode cX6_init 1 = .ok (.invokespecial 3, 3) := by decide +kernel
theorem dX6_init_4 : decode cX6_init 4 = .ok (.aload_n 0, 1) := by decide +kernel
theorem dX6_init_5 : decode cX6_init 5 = .ok (.new 9, 3) := by decide +kernel
theorem dX6_init_8 : decode cX6_init 8 = .ok (.dup, 1) := by decide +kernel
theorem dX6_init_9 : decode cX6_init 9 = .ok (.invokespecial 11, 3) := by decide +kernel
theorem dX6_init_12 : decode cX6_init 12 = .ok (.putfield 12, 3) := by decide +kernel
theorem dX6_init_15 : decode cX6_init 15 = .ok (.aload_n 0, 1) := by decide +kernel
theorem dX6_init_16 : decode cX6_init 16 = .ok (.new 16, 3) := by decide +kernel
theorem dX6_init_19 : decode cX6_init 19 = .ok (.dup, 1) := by decide +kernel
theorem dX6_init_20 : decode cX6_init 20 = .ok (.invokespecial 18, 3) := by decide +kernel
theorem dX6_init_23 : decode cX6_init 23 = .ok (.putfield 19, 3) := by decide +kernel
theorem dX6_init_26 : decode cX6_init 26 = .ok (.aload_n 0, 1) := by decide +kernel
theorem dX6_init_27 : decode cX6_init 27 = .ok (.new 23, 3) := by decide +kernel
theorem dX6_init_30 : decode cX6_init 30 = .ok (.dup, 1) := by decide +kernel
theorem dX6_init_31 : decode cX6_init 31 = .ok (.invokespecial 25, 3) := by decide +kernel
theorem dX6_init_34 : decode cX6_init 34 = .ok (.putfield 26, 3) := by decide +kernel
theorem dX6_init_37 : decode cX6_init 37 = .ok (.aload_n 0, 1) := by decide +kernel
theorem dX6_init_38 : decode cX6_init 38 = .ok (.new 30, 3) := by decide +kernel
theorem dX6_init_41 : decode cX6_init 41 = .ok (.dup, 1) := by decide +kernel
theorem dX6_init_42 : decode cX6_init 42 = .ok (.sipush 400, 3) := by decide +kernel
theorem dX6_init_45 : decode cX6_init 45 = .ok (.invokespecial 32, 3) := by decide +kernel
theorem dX6_init_48 : decode cX6_init 48 = .ok (.putfield 35, 3) := by decide +kernel
theorem dX6_init_51 : decode cX6_init 51 = .ok (.aload_n 0, 1) := by decide +kernel
theorem dX6_init_52 : decode cX6_init 52 = .ok (.new 30, 3) := by decide +kernel
theorem dX6_init_55 : decode cX6_init 55 = .ok (.dup, 1) := by decide +kernel
theorem dX6_init_56 : decode cX6_init 56 = .ok (.sipush 400, 3) := by decide +kernel
theorem dX6_init_59 : decode cX6_init 59 = .ok (.invokespecial 32, 3) := by decide +kernel
theorem dX6_init_62 : decode cX6_init 62 = .ok (.putfield 39, 3) := by decide +kernel
theorem dX6_init_65 : decode cX6_init 65 = .ok (.aload_n 0, 1) := by decide +kernel
theorem dX6_init_66 : decode cX6_init 66 = .ok (.bipush 8, 2) := by decide +kernel
theorem dX6_init_68 : decode cX6_init 68 = .ok (.newarray .int, 2) := by decide +kernel
theorem dX6_init_70 : decode cX6_init 70 = .ok (.putfield 42, 3) := by decide +kernel
theorem dX6_init_73 : decode cX6_init 73 = .ok (.aload_n 0, 1) := by decide +kernel
theorem dX6_init_74 : decode cX6_init 74 = .ok (.bipush 8, 2) := by decide +kernel
theorem dX6_init_76 : decode cX6_init 76 = .ok (.newarray .int, 2) := by decide +kernel
theorem dX6_init_78 : decode cX6_init 78 = .ok (.putfield 46, 3) := by decide +kernel
theorem dX6_init_81 : decode cX6_init 81 = .ok (.aload_n 0, 1) := by decide +kernel
theorem dX6_init_82 : decode cX6_init 82 = .ok (.sipush 400, 3) := by decide +kernel
theorem dX6_init_85 : decode cX6_init 85 = .ok (.newarray .int, 2) := by decide +kernel
theorem dX6_init_87 : decode cX6_init 87 = .ok (.putfield 49, 3) := by decide +kernel
theorem dX6_init_90 : decode cX6_init 90 = .ok (.aload_n 0, 1) := by decide +kernel
theorem dX6_init_91 : decode cX6_init 91 = .ok (.sipush 400, 3) := by decide +kernel
theorem dX6_init_94 : decode cX6_init 94 = .ok (.newarray .int, 2) := by decide +kernel
theorem dX6_init_96 : decode cX6_init 96 = .ok (.putfield 52, 3) := by decide +kernel
theorem dX6_init_99 : decode cX6_init 99 = .ok (.aload_n 0, 1) := by decide +kernel
theorem dX6_init_100 : decode cX6_init 100 = .ok (.getfield 46, 3) := by decide +kernel
theorem dX6_init_103 : decode cX6_init 103 = .ok (.iconst 1, 1) := by decide +kernel
theorem dX6_init_104 : decode cX6_init 104 = .ok (.invokestatic 55, 3) := by decide +kernel
theorem dX6_init_107 : decode cX6_init 107 = .ok (.aload_n 0, 1) := by decide +kernel
theorem dX6_init_108 : decode cX6_init 108 = .ok (.getfield 35, 3) := by decide +kernel
theorem dX6_init_111 : decode cX6_init 111 = .ok (.iconst 0, 1) := by decide +kernel
theorem dX6_init_112 : decode cX6_init 112 = .ok (.invokevirtual 61, 3) := by decide +kernel
theorem dX6_init_115 : decode cX6_init 115 = .ok (.return_, 1) := by decide +kernel
theorem dX6_type_0 : decode cX6_type 0 = .ok (.iload_n 3, 1) := by decide +kernel
theorem dX6_type_1 : decode cX6_type 1 = .ok (.ifCond .lt 9, 3) := by decide +kernel
theorem dX6_type_4 : decode cX6_type 4 = .ok (.iload_n 3, 1) := by decide +kernel
theorem dX6_type_5 : decode cX6_type 5 = .ok (.bipush 8, 2) := by decide +kernel
theorem dX6_type_7 : decode cX6_type 7 = .ok (.if_icmp .le 13, 3) := by decide +kernel
theorem dX6_type_10 : decode cX6_type 10 = .ok (.new 64, 3) := by decide +kernel
theorem dX6_type_13 : decode cX6_type 13 = .ok (.dup, 1) := by decide +kernel
theorem dX6_type_14 : decode cX6_type 14 = .ok (.ldc 66, 2) := by decide +kernel
theorem dX6_type_16 : decode cX6_type 16 = .ok (.invokespecial 68, 3) := by decide +kernel
theorem dX6_type_19 : decode cX6_type 19 = .ok (.athrow, 1) := by decide +kernel
theorem dX6_type_20 : decode cX6_type 20 = .ok (.aload_n 0, 1) := by decide +kernel
theorem dX6_type_21 : decode cX6_type 21 = .ok (.getfield 12, 3) := by decide +kernel
theorem dX6_type_24 : decode cX6_type 24 = .ok (.getfield 71, 3) := by decide +kernel
theorem dX6_type_27 : decode cX6_type 27 = .ok (.iload_n 3, 1) := by decide +kernel
theorem dX6_type_28 : decode cX6_type 28 = .ok (.iadd, 1) := by decide +kernel
theorem dX6_type_29 : decode cX6_type 29 = .ok (.sipush 240, 3) := by decide +kernel
theorem dX6_type_32 : decode cX6_type 32 = .ok (.if_icmp .le 13, 3) := by decide +kernel
theorem dX6_type_35 : decode cX6_type 35 = .ok (.new 75, 3) := by decide +kernel
theorem dX6_type_38 : decode cX6_type 38 = .ok (.dup, 1) := by decide +kernel
theorem dX6_type_39 : decode cX6_type 39 = .ok (.ldc 77, 2) := by decide +kernel
theorem dX6_type_41 : decode cX6_type 41 = .ok (.invokespecial 79, 3) := by decide +kernel
theorem dX6_type_44 : decode cX6_type 44 = .ok (.athrow, 1) := by decide +kernel
theorem dX6_type_45 : decode cX6_type 45 = .ok (.iconst 0, 1) := by decide +kernel
theorem dX6_type_46 : decode cX6_type 46 = .ok (.istore 4, 2) := by decide +kernel
theorem dX6_type_48 : decode cX6_type 48 = .ok (.iload 4, 2) := by decide +kernel
theorem dX6_type_50 : decode cX6_type 50 = .ok (.iload_n 3, 1) := by decide +kernel
theorem dX6_type_51 : decode cX6_type 51 = .ok (.if_icmp .ge 25, 3) := by decide +kernel
theorem dX6_type_54 : decode cX6_type 54 = .ok (.aload_n 0, 1) := by decide +kernel
theorem dX6_type_55 : decode cX6_type 55 = .ok (.getfield 12, 3) := by decide +kernel
theorem dX6_type_58 : decode cX6_type 58 = .ok (.lload_n 1, 1) := by decide +kernel
theorem dX6_type_59 : decode cX6_type 59 = .ok (.bipush 8, 2) := by decide +kernel
theorem dX6_type_61 : decode cX6_type 61 = .ok (.iload 4, 2) := by decide +kernel
theorem dX6_type_63 : decode cX6_type 63 = .ok (.imul, 1) := by decide +kernel
theorem dX6_type_64 : decode cX6_type 64 = .ok (.lushr, 1) := by decide +kernel
theorem dX6_type_65 : decode cX6_type 65 = .ok (.l2i, 1) := by decide +kernel
theorem dX6_type_66 : decode cX6_type 66 = .ok (.i2b, 1) := by decide +kernel
theorem dX6_type_67 : decode cX6_type 67 = .ok (.invokevirtual 80, 3) := by decide +kernel
theorem dX6_type_70 : decode cX6_type 70 = .ok (.iinc 4 1, 3) := by decide +kernel
theorem dX6_type_73 : decode cX6_type 73 = .ok (.goto (-25), 3) := by decide +kernel
theorem dX6_type_76 : decode cX6_type 76 = .ok (.aload_n 0, 1) := by decide +kernel
theorem dX6_type_77 : decode cX6_type 77 = .ok (.getfield 12, 3) := by decide +kernel
theorem dX6_type_80 : decode cX6_type 80 = .ok (.getfield 71, 3) := by decide +kernel
theorem dX6_type_83 : decode cX6_type 83 = .ok (.ireturn, 1) := by decide +kernel
theorem dX6_clear_0 : decode cX6_clear 0 = .ok (.aload_n 0, 1) := by decide +kernel
theorem dX6_clear_1 : decode cX6_clear 1 = .ok (.getfield 12, 3) := by decide +kernel
theorem dX6_clear_4 : decode cX6_clear 4 = .ok (.getfield 71, 3) := by decide +kernel
theorem dX6_clear_7 : decode cX6_clear 7 = .ok (.istore_n 1, 1) := by decide +kernel
theorem dX6_clear_8 : decode cX6_clear 8 = .ok (.aload_n 0, 1) := by decide +kernel
theorem dX6_clear_9 : decode cX6_clear 9 = .ok (.getfield 12, 3) := by decide +kernel
theorem dX6_clear_12 : decode cX6_clear 12 = .ok (.iconst 0, 1) := by decide +kernel
theorem dX6_clear_13 : decode cX6_clear 13 = .ok (.putfield 71, 3) := by decide +kernel
theorem dX6_clear_16 : decode cX6_clear 16 = .ok (.iload_n 1, 1) := by decide +kernel
theorem dX6_clear_17 : decode cX6_clear 17 = .ok (.ireturn, 1) := by decide +kernel
theorem dX6_read_0 : decode cX6_read 0 = .ok (.aload_n 0, 1) := by decide +kernel
theorem dX6_read_1 : decode cX6_read 1 = .ok (.getfield 12, 3) := by decide +kernel
theorem dX6_read_4 : decode cX6_read 4 = .ok (.invokevirtual 84, 3) := by decide +kernel
theorem dX6_read_7 : decode cX6_read 7 = .ok (.istore_n 1, 1) := by decide +kernel
theorem dX6_read_8 : decode cX6_read 8 = .ok (.iload_n 1, 1) := by decide +kernel
theorem dX6_read_9 : decode cX6_read 9 = .ok (.iconst (-1), 1) := by decide +kernel
theorem dX6_read_10 : decode cX6_read 10 = .ok (.if_icmp .ne 14, 3) := by decide +kernel
theorem dX6_read_13 : decode cX6_read 13 = .ok (.aload_n 0, 1) := by decide +kernel
theorem dX6_read_14 : decode cX6_read 14 = .ok (.aload_n 0, 1) := by decide +kernel
theorem dX6_read_15 : decode cX6_read 15 = .ok (.getfield 12, 3) := by decide +kernel
theorem dX6_read_18 : decode cX6_read 18 = .ok (.getfield 88, 3) := by decide +kernel
theorem dX6_read_21 : decode cX6_read 21 = .ok (.invokevirtual 92, 3) := by decide +kernel
theorem dX6_read_24 : decode cX6_read 24 = .ok (.iload_n 1, 1) := by decide +kernel
theorem dX6_read_25 : decode cX6_read 25 = .ok (.ireturn, 1) := by decide +kernel
theorem dX6_free_0 : decode cX6_free 0 = .ok (.aload_n 0, 1) := by decide +kernel
theorem dX6_free_1 : decode cX6_free 1 = .ok (.getfield 96, 3) := by decide +kernel
theorem dX6_free_4 : decode cX6_free 4 = .ok (.ireturn, 1) := by decide +kernel
theorem dX6_frees_0 : decode cX6_frees 0 = .ok (.aload_n 0, 1) := by decide +kernel
theorem dX6_frees_1 : decode cX6_frees 1 = .ok (.getfield 19, 3) := by decide +kernel
theorem dX6_frees_4 : decode cX6_frees 4 = .ok (.aload_n 0, 1) := by decide +kernel
theorem dX6_frees_5 : decode cX6_frees 5 = .ok (.getfield 35, 3) := by decide +kernel
theorem dX6_frees_8 : decode cX6_frees 8 = .ok (.invokevirtual 99, 3) := by decide +kernel
theorem dX6_frees_11 : decode cX6_frees 11 = .ok (.ifCond .ne 6, 3) := by decide +kernel
theorem dX6_frees_14 : decode cX6_frees 14 = .ok (.bipush (-2), 2) := by decide +kernel
theorem dX6_frees_16 : decode cX6_frees 16 = .ok (.ireturn, 1) := by decide +kernel
theorem dX6_frees_17 : decode cX6_frees 17 = .ok (.aload_n 0, 1) := by decide +kernel
theorem dX6_frees_18 : decode cX6_frees 18 = .ok (.aload_n 0, 1) := by decide +kernel
theorem dX6_frees_19 : decode cX6_frees 19 = .ok (.getfield 19, 3) := by decide +kernel
theorem dX6_frees_22 : decode cX6_frees 22 = .ok (.getfield 103, 3) := by decide +kernel
theorem dX6_frees_25 : decode cX6_frees 25 = .ok (.invokevirtual 92, 3) := by decide +kernel
theorem dX6_frees_28 : decode cX6_frees 28 = .ok (.aload_n 0, 1) := by decide +kernel
theorem dX6_frees_29 : decode cX6_frees 29 = .ok (.getfield 35, 3) := by decide +kernel
theorem dX6_frees_32 : decode cX6_frees 32 = .ok (.getfield 104, 3) := by decide +kernel
theorem dX6_frees_35 : decode cX6_frees 35 = .ok (.ireturn, 1) := by decide +kernel
theorem dX6_value_0 : decode cX6_value 0 = .ok (.iload_n 1, 1) := by decide +kernel
theorem dX6_value_1 : decode cX6_value 1 = .ok (.ifCond .lt 9, 3) := by decide +kernel
theorem dX6_value_4 : decode cX6_value 4 = .ok (.iload_n 1, 1) := by decide +kernel
theorem dX6_value_5 : decode cX6_value 5 = .ok (.bipush 8, 2) := by decide +kernel
theorem dX6_value_7 : decode cX6_value 7 = .ok (.if_icmp .lt 13, 3) := by decide +kernel
theorem dX6_value_10 : decode cX6_value 10 = .ok (.new 64, 3) := by decide +kernel
theorem dX6_value_13 : decode cX6_value 13 = .ok (.dup, 1) := by decide +kernel
theorem dX6_value_14 : decode cX6_value 14 = .ok (.ldc 107, 2) := by decide +kernel
theorem dX6_value_16 : decode cX6_value 16 = .ok (.invokespecial 68, 3) := by decide +kernel
theorem dX6_value_19 : decode cX6_value 19 = .ok (.athrow, 1) := by decide +kernel
theorem dX6_value_20 : decode cX6_value 20 = .ok (.iload_n 2, 1) := by decide +kernel
theorem dX6_value_21 : decode cX6_value 21 = .ok (.bipush (-99), 2) := by decide +kernel
theorem dX6_value_23 : decode cX6_value 23 = .ok (.if_icmp .lt 9, 3) := by decide +kernel
theorem dX6_value_26 : decode cX6_value 26 = .ok (.iload_n 2, 1) := by decide +kernel
theorem dX6_value_27 : decode cX6_value 27 = .ok (.bipush 99, 2) := by decide +kernel
theorem dX6_value_29 : decode cX6_value 29 = .ok (.if_icmp .le 13, 3) := by decide +kernel
theorem dX6_value_32 : decode cX6_value 32 = .ok (.new 64, 3) := by decide +kernel
theorem dX6_value_35 : decode cX6_value 35 = .ok (.dup, 1) := by decide +kernel
theorem dX6_value_36 : decode cX6_value 36 = .ok (.ldc 109, 2) := by decide +kernel
theorem dX6_value_38 : decode cX6_value 38 = .ok (.invokespecial 68, 3) := by decide +kernel
theorem dX6_value_41 : decode cX6_value 41 = .ok (.athrow, 1) := by decide +kernel
theorem dX6_value_42 : decode cX6_value 42 = .ok (.iload_n 3, 1) := by decide +kernel
theorem dX6_value_43 : decode cX6_value 43 = .ok (.iconst 1, 1) := by decide +kernel
theorem dX6_value_44 : decode cX6_value 44 = .ok (.if_icmp .lt 9, 3) := by decide +kernel
theorem dX6_value_47 : decode cX6_value 47 = .ok (.iload_n 3, 1) := by decide +kernel
theorem dX6_value_48 : decode cX6_value 48 = .ok (.bipush 9, 2) := by decide +kernel
theorem dX6_value_50 : decode cX6_value 50 = .ok (.if_icmp .le 13, 3) := by decide +kernel
theorem dX6_value_53 : decode cX6_value 53 = .ok (.new 64, 3) := by decide +kernel
theorem dX6_value_56 : decode cX6_value 56 = .ok (.dup, 1) := by decide +kernel
theorem dX6_value_57 : decode cX6_value 57 = .ok (.ldc 111, 2) := by decide +kernel
theorem dX6_value_59 : decode cX6_value 59 = .ok (.invokespecial 68, 3) := by decide +kernel
theorem dX6_value_62 : decode cX6_value 62 = .ok (.athrow, 1) := by decide +kernel
theorem dX6_value_63 : decode cX6_value 63 = .ok (.aload_n 0, 1) := by decide +kernel
theorem dX6_value_64 : decode cX6_value 64 = .ok (.getfield 42, 3) := by decide +kernel
theorem dX6_value_67 : decode cX6_value 67 = .ok (.iload_n 1, 1) := by decide +kernel
theorem dX6_value_68 : decode cX6_value 68 = .ok (.iload_n 2, 1) := by decide +kernel
theorem dX6_value_69 : decode cX6_value 69 = .ok (.iastore, 1) := by decide +kernel
theorem dX6_value_70 : decode cX6_value 70 = .ok (.aload_n 0, 1) := by decide +kernel
theorem dX6_value_71 : decode cX6_value 71 = .ok (.getfield 46, 3) := by decide +kernel
theorem dX6_value_74 : decode cX6_value 74 = .ok (.iload_n 1, 1) := by decide +kernel
theorem dX6_value_75 : decode cX6_value 75 = .ok (.iload_n 3, 1) := by decide +kernel
theorem dX6_value_76 : decode cX6_value 76 = .ok (.iastore, 1) := by decide +kernel
theorem dX6_value_77 : decode cX6_value 77 = .ok (.return_, 1) := by decide +kernel
theorem dX6_holds_0 : decode cX6_holds 0 = .ok (.aload_n 0, 1) := by decide +kernel
theorem dX6_holds_1 : decode cX6_holds 1 = .ok (.getfield 35, 3) := by decide +kernel
theorem dX6_holds_4 : decode cX6_holds 4 = .ok (.bipush 8, 2) := by decide +kernel
theorem dX6_holds_6 : decode cX6_holds 6 = .ok (.bipush 9, 2) := by decide +kernel
theorem dX6_holds_8 : decode cX6_holds 8 = .ok (.invokevirtual 113, 3) := by decide +kernel
theorem dX6_holds_11 : decode cX6_holds 11 = .ok (.ifCond .le 13, 3) := by decide +kernel
theorem dX6_holds_14 : decode cX6_holds 14 = .ok (.new 117, 3) := by decide +kernel
theorem dX6_holds_17 : decode cX6_holds 17 = .ok (.dup, 1) := by decide +kernel
theorem dX6_holds_18 : decode cX6_holds 18 = .ok (.ldc 119, 2) := by decide +kernel
theorem dX6_holds_20 : decode cX6_holds 20 = .ok (.invokespecial 121, 3) := by decide +kernel
theorem dX6_holds_23 : decode cX6_holds 23 = .ok (.athrow, 1) := by decide +kernel
theorem dX6_holds_24 : decode cX6_holds 24 = .ok (.aload_n 0, 1) := by decide +kernel
theorem dX6_holds_25 : decode cX6_holds 25 = .ok (.getfield 35, 3) := by decide +kernel
theorem dX6_holds_28 : decode cX6_holds 28 = .ok (.getfield 104, 3) := by decide +kernel
theorem dX6_holds_31 : decode cX6_holds 31 = .ok (.sipush 400, 3) := by decide +kernel
theorem dX6_holds_34 : decode cX6_holds 34 = .ok (.invokestatic 122, 3) := by decide +kernel
theorem dX6_holds_37 : decode cX6_holds 37 = .ok (.istore_n 1, 1) := by decide +kernel
theorem dX6_holds_38 : decode cX6_holds 38 = .ok (.aload_n 0, 1) := by decide +kernel
theorem dX6_holds_39 : decode cX6_holds 39 = .ok (.getfield 35, 3) := by decide +kernel
theorem dX6_holds_42 : decode cX6_holds 42 = .ok (.aload_n 0, 1) := by decide +kernel
theorem dX6_holds_43 : decode cX6_holds 43 = .ok (.getfield 49, 3) := by decide +kernel
theorem dX6_holds_46 : decode cX6_holds 46 = .ok (.invokevirtual 127, 3) := by decide +kernel
theorem dX6_holds_49 : decode cX6_holds 49 = .ok (.iconst 0, 1) := by decide +kernel
theorem dX6_holds_50 : decode cX6_holds 50 = .ok (.istore_n 2, 1) := by decide +kernel
theorem dX6_holds_51 : decode cX6_holds 51 = .ok (.iload_n 2, 1) := by decide +kernel
theorem dX6_holds_52 : decode cX6_holds 52 = .ok (.iload_n 1, 1) := by decide +kernel
theorem dX6_holds_53 : decode cX6_holds 53 = .ok (.if_icmp .ge 28, 3) := by decide +kernel
theorem dX6_holds_56 : decode cX6_holds 56 = .ok (.aload_n 0, 1) := by decide +kernel
theorem dX6_holds_57 : decode cX6_holds 57 = .ok (.getfield 52, 3) := by decide +kernel
theorem dX6_holds_60 : decode cX6_holds 60 = .ok (.iload_n 2, 1) := by decide +kernel
theorem dX6_holds_61 : decode cX6_holds 61 = .ok (.aload_n 0, 1) := by decide +kernel
theorem dX6_holds_62 : decode cX6_holds 62 = .ok (.iload_n 2, 1) := by decide +kernel
theorem dX6_holds_63 : decode cX6_holds 63 = .ok (.invokevirtual 131, 3) := by decide +kernel
theorem dX6_holds_66 : decode cX6_holds 66 = .ok (.ifCond .eq 7, 3) := by decide +kernel
theorem dX6_holds_69 : decode cX6_holds 69 = .ok (.iconst 1, 1) := by decide +kernel
theorem dX6_holds_70 : decode cX6_holds 70 = .ok (.goto 4, 3) := by decide +kernel
theorem dX6_holds_73 : decode cX6_holds 73 = .ok (.iconst 0, 1) := by decide +kernel
theorem dX6_holds_74 : decode cX6_holds 74 = .ok (.iastore, 1) := by decide +kernel
theorem dX6_holds_75 : decode cX6_holds 75 = .ok (.iinc 2 1, 3) := by decide +kernel
theorem dX6_holds_78 : decode cX6_holds 78 = .ok (.goto (-27), 3) := by decide +kernel
theorem dX6_holds_81 : decode cX6_holds 81 = .ok (.iload_n 1, 1) := by decide +kernel
theorem dX6_holds_82 : decode cX6_holds 82 = .ok (.ifCond .le 14, 3) := by decide +kernel
theorem dX6_holds_85 : decode cX6_holds 85 = .ok (.aload_n 0, 1) := by decide +kernel
theorem dX6_holds_86 : decode cX6_holds 86 = .ok (.getfield 52, 3) := by decide +kernel
theorem dX6_holds_89 : decode cX6_holds 89 = .ok (.iload_n 1, 1) := by decide +kernel
theorem dX6_holds_90 : decode cX6_holds 90 = .ok (.iconst 1, 1) := by decide +kernel
theorem dX6_holds_91 : decode cX6_holds 91 = .ok (.isub, 1) := by decide +kernel
theorem dX6_holds_92 : decode cX6_holds 92 = .ok (.iaload, 1) := by decide +kernel
theorem dX6_holds_93 : decode cX6_holds 93 = .ok (.goto 4, 3) := by decide +kernel
theorem dX6_holds_96 : decode cX6_holds 96 = .ok (.iconst 1, 1) := by decide +kernel
theorem dX6_holds_97 : decode cX6_holds 97 = .ok (.ireturn, 1) := by decide +kernel
theorem dX6_decide_0 : decode cX6_decide 0 = .ok (.aload_n 0, 1) := by decide +kernel
theorem dX6_decide_1 : decode cX6_decide 1 = .ok (.getfield 39, 3) := by decide +kernel
theorem dX6_decide_4 : decode cX6_decide 4 = .ok (.aload_n 0, 1) := by decide +kernel
theorem dX6_decide_5 : decode cX6_decide 5 = .ok (.getfield 35, 3) := by decide +kernel
theorem dX6_decide_8 : decode cX6_decide 8 = .ok (.iconst 0, 1) := by decide +kernel
theorem dX6_decide_9 : decode cX6_decide 9 = .ok (.aload_n 0, 1) := by decide +kernel
theorem dX6_decide_10 : decode cX6_decide 10 = .ok (.getfield 35, 3) := by decide +kernel
theorem dX6_decide_13 : decode cX6_decide 13 = .ok (.getfield 104, 3) := by decide +kernel
theorem dX6_decide_16 : decode cX6_decide 16 = .ok (.invokevirtual 135, 3) := by decide +kernel
theorem dX6_decide_19 : decode cX6_decide 19 = .ok (.aload_n 0, 1) := by decide +kernel
theorem dX6_decide_20 : decode cX6_decide 20 = .ok (.getfield 96, 3) := by decide +kernel
theorem dX6_decide_23 : decode cX6_decide 23 = .ok (.istore_n 1, 1) := by decide +kernel
theorem dX6_decide_24 : decode cX6_decide 24 = .ok (.iconst 0, 1) := by decide +kernel
theorem dX6_decide_25 : decode cX6_decide 25 = .ok (.istore_n 2, 1) := by decide +kernel
theorem dX6_decide_26 : decode cX6_decide 26 = .ok (.iload_n 2, 1) := by decide +kernel
theorem dX6_decide_27 : decode cX6_decide 27 = .ok (.bipush 8, 2) := by decide +kernel
theorem dX6_decide_29 : decode cX6_decide 29 = .ok (.if_icmp .ge 90, 3) := by decide +kernel
theorem dX6_decide_32 : decode cX6_decide 32 = .ok (.iload_n 1, 1) := by decide +kernel
theorem dX6_decide_33 : decode cX6_decide 33 = .ok (.iload_n 2, 1) := by decide +kernel
theorem dX6_decide_34 : decode cX6_decide 34 = .ok (.ishr, 1) := by decide +kernel
theorem dX6_decide_35 : decode cX6_decide 35 = .ok (.iconst 1, 1) := by decide +kernel
theorem dX6_decide_36 : decode cX6_decide 36 = .ok (.iand, 1) := by decide +kernel
theorem dX6_decide_37 : decode cX6_decide 37 = .ok (.iconst 1, 1) := by decide +kernel
theorem dX6_decide_38 : decode cX6_decide 38 = .ok (.if_icmp .ne 75, 3) := by decide +kernel
theorem dX6_decide_41 : decode cX6_decide 41 = .ok (.aload_n 0, 1) := by decide +kernel
theorem dX6_decide_42 : decode cX6_decide 42 = .ok (.getfield 19, 3) := by decide +kernel
theorem dX6_decide_45 : decode cX6_decide 45 = .ok (.aload_n 0, 1) := by decide +kernel
theorem dX6_decide_46 : decode cX6_decide 46 = .ok (.getfield 39, 3) := by decide +kernel
theorem dX6_decide_49 : decode cX6_decide 49 = .ok (.iload_n 2, 1) := by decide +kernel
theorem dX6_decide_50 : decode cX6_decide 50 = .ok (.aload_n 0, 1) := by decide +kernel
theorem dX6_decide_51 : decode cX6_decide 51 = .ok (.getfield 42, 3) := by decide +kernel
theorem dX6_decide_54 : decode cX6_decide 54 = .ok (.iload_n 2, 1) := by decide +kernel
theorem dX6_decide_55 : decode cX6_decide 55 = .ok (.iaload, 1) := by decide +kernel
theorem dX6_decide_56 : decode cX6_decide 56 = .ok (.aload_n 0, 1) := by decide +kernel
theorem dX6_decide_57 : decode cX6_decide 57 = .ok (.getfield 46, 3) := by decide +kernel
theorem dX6_decide_60 : decode cX6_decide 60 = .ok (.iload_n 2, 1) := by decide +kernel
theorem dX6_decide_61 : decode cX6_decide 61 = .ok (.iaload, 1) := by decide +kernel
theorem dX6_decide_62 : decode cX6_decide 62 = .ok (.invokevirtual 138, 3) := by decide +kernel
theorem dX6_decide_65 : decode cX6_decide 65 = .ok (.ifCond .ne 6, 3) := by decide +kernel
theorem dX6_decide_68 : decode cX6_decide 68 = .ok (.bipush (-2), 2) := by decide +kernel
theorem dX6_decide_70 : decode cX6_decide 70 = .ok (.ireturn, 1) := by decide +kernel
theorem dX6_decide_71 : decode cX6_decide 71 = .ok (.aload_n 0, 1) := by decide +kernel
theorem dX6_decide_72 : decode cX6_decide 72 = .ok (.getfield 19, 3) := by decide +kernel
theorem dX6_decide_75 : decode cX6_decide 75 = .ok (.getfield 103, 3) := by decide +kernel
theorem dX6_decide_78 : decode cX6_decide 78 = .ok (.invokevirtual 142, 3) := by decide +kernel
theorem dX6_decide_81 : decode cX6_decide 81 = .ok (.istore_n 1, 1) := by decide +kernel
theorem dX6_decide_82 : decode cX6_decide 82 = .ok (.aload_n 0, 1) := by decide +kernel
theorem dX6_decide_83 : decode cX6_decide 83 = .ok (.getfield 39, 3) := by decide +kernel
theorem dX6_decide_86 : decode cX6_decide 86 = .ok (.aload_n 0, 1) := by decide +kernel
theorem dX6_decide_87 : decode cX6_decide 87 = .ok (.getfield 19, 3) := by decide +kernel
theorem dX6_decide_90 : decode cX6_decide 90 = .ok (.getfield 103, 3) := by decide +kernel
theorem dX6_decide_93 : decode cX6_decide 93 = .ok (.getfield 147, 3) := by decide +kernel
theorem dX6_decide_96 : decode cX6_decide 96 = .ok (.iconst 0, 1) := by decide +kernel
theorem dX6_decide_97 : decode cX6_decide 97 = .ok (.aload_n 0, 1) := by decide +kernel
theorem dX6_decide_98 : decode cX6_decide 98 = .ok (.getfield 19, 3) := by decide +kernel
theorem dX6_decide_101 : decode cX6_decide 101 = .ok (.getfield 103, 3) := by decide +kernel
theorem dX6_decide_104 : decode cX6_decide 104 = .ok (.getfield 147, 3) := by decide +kernel
theorem dX6_decide_107 : decode cX6_decide 107 = .ok (.getfield 104, 3) := by decide +kernel
theorem dX6_decide_110 : decode cX6_decide 110 = .ok (.invokevirtual 135, 3) := by decide +kernel
theorem dX6_decide_113 : decode cX6_decide 113 = .ok (.iinc 2 1, 3) := by decide +kernel
theorem dX6_decide_116 : decode cX6_decide 116 = .ok (.goto (-90), 3) := by decide +kernel
theorem dX6_decide_119 : decode cX6_decide 119 = .ok (.aload_n 0, 1) := by decide +kernel
theorem dX6_decide_120 : decode cX6_decide 120 = .ok (.getfield 19, 3) := by decide +kernel
theorem dX6_decide_123 : decode cX6_decide 123 = .ok (.aload_n 0, 1) := by decide +kernel
theorem dX6_decide_124 : decode cX6_decide 124 = .ok (.getfield 39, 3) := by decide +kernel
theorem dX6_decide_127 : decode cX6_decide 127 = .ok (.invokevirtual 99, 3) := by decide +kernel
theorem dX6_decide_130 : decode cX6_decide 130 = .ok (.ifCond .ne 6, 3) := by decide +kernel
theorem dX6_decide_133 : decode cX6_decide 133 = .ok (.bipush (-2), 2) := by decide +kernel
theorem dX6_decide_135 : decode cX6_decide 135 = .ok (.ireturn, 1) := by decide +kernel
theorem dX6_decide_136 : decode cX6_decide 136 = .ok (.aload_n 0, 1) := by decide +kernel
theorem dX6_decide_137 : decode cX6_decide 137 = .ok (.getfield 19, 3) := by decide +kernel
theorem dX6_decide_140 : decode cX6_decide 140 = .ok (.getfield 103, 3) := by decide +kernel
theorem dX6_decide_143 : decode cX6_decide 143 = .ok (.invokevirtual 150, 3) := by decide +kernel
theorem dX6_decide_146 : decode cX6_decide 146 = .ok (.ifCond .ne 7, 3) := by decide +kernel
theorem dX6_decide_149 : decode cX6_decide 149 = .ok (.iconst 1, 1) := by decide +kernel
theorem dX6_decide_150 : decode cX6_decide 150 = .ok (.goto 4, 3) := by decide +kernel
theorem dX6_decide_153 : decode cX6_decide 153 = .ok (.iconst 0, 1) := by decide +kernel
theorem dX6_decide_154 : decode cX6_decide 154 = .ok (.ireturn, 1) := by decide +kernel
theorem dX6_not_0 : decode cX6_not 0 = .ok (.aload_n 0, 1) := by decide +kernel
theorem dX6_not_1 : decode cX6_not 1 = .ok (.getfield 35, 3) := by decide +kernel
theorem dX6_not_4 : decode cX6_not 4 = .ok (.iconst 0, 1) := by decide +kernel
theorem dX6_not_5 : decode cX6_not 5 = .ok (.aload_n 0, 1) := by decide +kernel
theorem dX6_not_6 : decode cX6_not 6 = .ok (.getfield 35, 3) := by decide +kernel
theorem dX6_not_9 : decode cX6_not 9 = .ok (.getfield 104, 3) := by decide +kernel
theorem dX6_not_12 : decode cX6_not 12 = .ok (.invokevirtual 153, 3) := by decide +kernel
theorem dX6_not_15 : decode cX6_not 15 = .ok (.aload_n 0, 1) := by decide +kernel
theorem dX6_not_16 : decode cX6_not 16 = .ok (.getfield 35, 3) := by decide +kernel
theorem dX6_not_19 : decode cX6_not 19 = .ok (.getfield 104, 3) := by decide +kernel
theorem dX6_not_22 : decode cX6_not 22 = .ok (.ireturn, 1) := by decide +kernel
theorem dX6_told_0 : decode cX6_told 0 = .ok (.iload_n 1, 1) := by decide +kernel
theorem dX6_told_1 : decode cX6_told 1 = .ok (.tableswitch 90 0 5 #[39, 47, 57, 69, 74, 82], 39) := by decide +kernel
theorem dX6_told_40 : decode cX6_told 40 = .ok (.aload_n 0, 1) := by decide +kernel
theorem dX6_told_41 : decode cX6_told 41 = .ok (.getfield 35, 3) := by decide +kernel
theorem dX6_told_44 : decode cX6_told 44 = .ok (.getfield 104, 3) := by decide +kernel
theorem dX6_told_47 : decode cX6_told 47 = .ok (.ireturn, 1) := by decide +kernel
theorem dX6_told_48 : decode cX6_told 48 = .ok (.aload_n 0, 1) := by decide +kernel
theorem dX6_told_49 : decode cX6_told 49 = .ok (.getfield 35, 3) := by decide +kernel
theorem dX6_told_52 : decode cX6_told 52 = .ok (.iconst 2, 1) := by decide +kernel
theorem dX6_told_53 : decode cX6_told 53 = .ok (.iconst 5, 1) := by decide +kernel
theorem dX6_told_54 : decode cX6_told 54 = .ok (.invokevirtual 113, 3) := by decide +kernel
theorem dX6_told_57 : decode cX6_told 57 = .ok (.ireturn, 1) := by decide +kernel
theorem dX6_told_58 : decode cX6_told 58 = .ok (.aload_n 0, 1) := by decide +kernel
theorem dX6_told_59 : decode cX6_told 59 = .ok (.getfield 35, 3) := by decide +kernel
theorem dX6_told_62 : decode cX6_told 62 = .ok (.bipush 8, 2) := by decide +kernel
theorem dX6_told_64 : decode cX6_told 64 = .ok (.bipush 9, 2) := by decide +kernel
theorem dX6_told_66 : decode cX6_told 66 = .ok (.invokevirtual 113, 3) := by decide +kernel
theorem dX6_told_69 : decode cX6_told 69 = .ok (.ireturn, 1) := by decide +kernel
theorem dX6_told_70 : decode cX6_told 70 = .ok (.aload_n 0, 1) := by decide +kernel
theorem dX6_told_71 : decode cX6_told 71 = .ok (.invokevirtual 157, 3) := by decide +kernel
theorem dX6_told_74 : decode cX6_told 74 = .ok (.ireturn, 1) := by decide +kernel
theorem dX6_told_75 : decode cX6_told 75 = .ok (.aload_n 0, 1) := by decide +kernel
theorem dX6_told_76 : decode cX6_told 76 = .ok (.getfield 19, 3) := by decide +kernel
theorem dX6_told_79 : decode cX6_told 79 = .ok (.getfield 160, 3) := by decide +kernel
theorem dX6_told_82 : decode cX6_told 82 = .ok (.ireturn, 1) := by decide +kernel
theorem dX6_told_83 : decode cX6_told 83 = .ok (.aload_n 0, 1) := by decide +kernel
theorem dX6_told_84 : decode cX6_told 84 = .ok (.getfield 19, 3) := by decide +kernel
theorem dX6_told_87 : decode cX6_told 87 = .ok (.getfield 163, 3) := by decide +kernel
theorem dX6_told_90 : decode cX6_told 90 = .ok (.ireturn, 1) := by decide +kernel
theorem dX6_told_91 : decode cX6_told 91 = .ok (.new 64, 3) := by decide +kernel
theorem dX6_told_94 : decode cX6_told 94 = .ok (.dup, 1) := by decide +kernel
theorem dX6_told_95 : decode cX6_told 95 = .ok (.ldc 166, 2) := by decide +kernel
theorem dX6_told_97 : decode cX6_told 97 = .ok (.invokespecial 68, 3) := by decide +kernel
theorem dX6_told_100 : decode cX6_told 100 = .ok (.athrow, 1) := by decide +kernel
theorem dX6_write_0 : decode cX6_write 0 = .ok (.aload_n 0, 1) := by decide +kernel
theorem dX6_write_1 : decode cX6_write 1 = .ok (.getfield 26, 3) := by decide +kernel
theorem dX6_write_4 : decode cX6_write 4 = .ok (.aload_n 0, 1) := by decide +kernel
theorem dX6_write_5 : decode cX6_write 5 = .ok (.getfield 35, 3) := by decide +kernel
theorem dX6_write_8 : decode cX6_write 8 = .ok (.invokevirtual 168, 3) := by decide +kernel
theorem dX6_write_11 : decode cX6_write 11 = .ok (.aload_n 0, 1) := by decide +kernel
theorem dX6_write_12 : decode cX6_write 12 = .ok (.getfield 26, 3) := by decide +kernel
theorem dX6_write_15 : decode cX6_write 15 = .ok (.getfield 172, 3) := by decide +kernel
theorem dX6_write_18 : decode cX6_write 18 = .ok (.ireturn, 1) := by decide +kernel
theorem dX6_out_0 : decode cX6_out 0 = .ok (.lconst 0, 1) := by decide +kernel
theorem dX6_out_1 : decode cX6_out 1 = .ok (.lstore_n 2, 1) := by decide +kernel
theorem dX6_out_2 : decode cX6_out 2 = .ok (.iconst 0, 1) := by decide +kernel
theorem dX6_out_3 : decode cX6_out 3 = .ok (.istore 4, 2) := by decide +kernel
theorem dX6_out_5 : decode cX6_out 5 = .ok (.iload 4, 2) := by decide +kernel
theorem dX6_out_7 : decode cX6_out 7 = .ok (.bipush 8, 2) := by decide +kernel
theorem dX6_out_9 : decode cX6_out 9 = .ok (.if_icmp .ge 32, 3) := by decide +kernel
theorem dX6_out_12 : decode cX6_out 12 = .ok (.lload_n 2, 1) := by decide +kernel
theorem dX6_out_13 : decode cX6_out 13 = .ok (.aload_n 0, 1) := by decide +kernel
theorem dX6_out_14 : decode cX6_out 14 = .ok (.getfield 26, 3) := by decide +kernel
theorem dX6_out_17 : decode cX6_out 17 = .ok (.iload_n 1, 1) := by decide +kernel
theorem dX6_out_18 : decode cX6_out 18 = .ok (.i2l, 1) := by decide +kernel
theorem dX6_out_19 : decode cX6_out 19 = .ok (.iload 4, 2) := by decide +kernel
theorem dX6_out_21 : decode cX6_out 21 = .ok (.i2l, 1) := by decide +kernel
theorem dX6_out_22 : decode cX6_out 22 = .ok (.ladd, 1) := by decide +kernel
theorem dX6_out_23 : decode cX6_out 23 = .ok (.invokevirtual 173, 3) := by decide +kernel
theorem dX6_out_26 : decode cX6_out 26 = .ok (.i2l, 1) := by decide +kernel
theorem dX6_out_27 : decode cX6_out 27 = .ok (.bipush 8, 2) := by decide +kernel
theorem dX6_out_29 : decode cX6_out 29 = .ok (.iload 4, 2) := by decide +kernel
theorem dX6_out_31 : decode cX6_out 31 = .ok (.imul, 1) := by decide +kernel
theorem dX6_out_32 : decode cX6_out 32 = .ok (.lshl, 1) := by decide +kernel
theorem dX6_out_33 : decode cX6_out 33 = .ok (.lor, 1) := by decide +kernel
theorem dX6_out_34 : decode cX6_out 34 = .ok (.lstore_n 2, 1) := by decide +kernel
theorem dX6_out_35 : decode cX6_out 35 = .ok (.iinc 4 1, 3) := by decide +kernel
theorem dX6_out_38 : decode cX6_out 38 = .ok (.goto (-33), 3) := by decide +kernel
theorem dX6_out_41 : decode cX6_out 41 = .ok (.lload_n 2, 1) := by decide +kernel
theorem dX6_out_42 : decode cX6_out 42 = .ok (.lreturn, 1) := by decide +kernel
theorem dX6_pass_0 : decode cX6_pass 0 = .ok (.aload_n 0, 1) := by decide +kernel
theorem dX6_pass_1 : decode cX6_pass 1 = .ok (.getfield 26, 3) := by decide +kernel
theorem dX6_pass_4 : decode cX6_pass 4 = .ok (.getfield 172, 3) := by decide +kernel
theorem dX6_pass_7 : decode cX6_pass 7 = .ok (.sipush 240, 3) := by decide +kernel
theorem dX6_pass_10 : decode cX6_pass 10 = .ok (.invokestatic 122, 3) := by decide +kernel
theorem dX6_pass_13 : decode cX6_pass 13 = .ok (.istore_n 1, 1) := by decide +kernel
theorem dX6_pass_14 : decode cX6_pass 14 = .ok (.aload_n 0, 1) := by decide +kernel
theorem dX6_pass_15 : decode cX6_pass 15 = .ok (.getfield 12, 3) := by decide +kernel
theorem dX6_pass_18 : decode cX6_pass 18 = .ok (.iconst 0, 1) := by decide +kernel
theorem dX6_pass_19 : decode cX6_pass 19 = .ok (.putfield 71, 3) := by decide +kernel
theorem dX6_pass_22 : decode cX6_pass 22 = .ok (.iconst 0, 1) := by decide +kernel
theorem dX6_pass_23 : decode cX6_pass 23 = .ok (.istore_n 2, 1) := by decide +kernel
theorem dX6_pass_24 : decode cX6_pass 24 = .ok (.iload_n 2, 1) := by decide +kernel
theorem dX6_pass_25 : decode cX6_pass 25 = .ok (.iload_n 1, 1) := by decide +kernel
theorem dX6_pass_26 : decode cX6_pass 26 = .ok (.if_icmp .ge 26, 3) := by decide +kernel
theorem dX6_pass_29 : decode cX6_pass 29 = .ok (.aload_n 0, 1) := by decide +kernel
theorem dX6_pass_30 : decode cX6_pass 30 = .ok (.getfield 12, 3) := by decide +kernel
theorem dX6_pass_33 : decode cX6_pass 33 = .ok (.aload_n 0, 1) := by decide +kernel
theorem dX6_pass_34 : decode cX6_pass 34 = .ok (.getfield 26, 3) := by decide +kernel
theorem dX6_pass_37 : decode cX6_pass 37 = .ok (.iload_n 2, 1) := by decide +kernel
theorem dX6_pass_38 : decode cX6_pass 38 = .ok (.i2l, 1) := by decide +kernel
theorem dX6_pass_39 : decode cX6_pass 39 = .ok (.invokevirtual 173, 3) := by decide +kernel
theorem dX6_pass_42 : decode cX6_pass 42 = .ok (.i2b, 1) := by decide +kernel
theorem dX6_pass_43 : decode cX6_pass 43 = .ok (.invokevirtual 80, 3) := by decide +kernel
theorem dX6_pass_46 : decode cX6_pass 46 = .ok (.iinc 2 1, 3) := by decide +kernel
theorem dX6_pass_49 : decode cX6_pass 49 = .ok (.goto (-25), 3) := by decide +kernel
theorem dX6_pass_52 : decode cX6_pass 52 = .ok (.aload_n 0, 1) := by decide +kernel
theorem dX6_pass_53 : decode cX6_pass 53 = .ok (.getfield 12, 3) := by decide +kernel
theorem dX6_pass_56 : decode cX6_pass 56 = .ok (.getfield 71, 3) := by decide +kernel
theorem dX6_pass_59 : decode cX6_pass 59 = .ok (.ireturn, 1) := by decide +kernel
theorem dX6_become_0 : decode cX6_become 0 = .ok (.aload_n 0, 1) := by decide +kernel
theorem dX6_become_1 : decode cX6_become 1 = .ok (.getfield 35, 3) := by decide +kernel
theorem dX6_become_4 : decode cX6_become 4 = .ok (.aload_n 1, 1) := by decide +kernel
theorem dX6_become_5 : decode cX6_become 5 = .ok (.getfield 147, 3) := by decide +kernel
theorem dX6_become_8 : decode cX6_become 8 = .ok (.iconst 0, 1) := by decide +kernel
theorem dX6_become_9 : decode cX6_become 9 = .ok (.aload_n 1, 1) := by decide +kernel
theorem dX6_become_10 : decode cX6_become 10 = .ok (.getfield 147, 3) := by decide +kernel
theorem dX6_become_13 : decode cX6_become 13 = .ok (.getfield 104, 3) := by decide +kernel
theorem dX6_become_16 : decode cX6_become 16 = .ok (.invokevirtual 135, 3) := by decide +kernel
theorem dX6_become_19 : decode cX6_become 19 = .ok (.aload_n 0, 1) := by decide +kernel
theorem dX6_become_20 : decode cX6_become 20 = .ok (.aload_n 1, 1) := by decide +kernel
theorem dX6_become_21 : decode cX6_become 21 = .ok (.invokevirtual 142, 3) := by decide +kernel
theorem dX6_become_24 : decode cX6_become 24 = .ok (.putfield 96, 3) := by decide +kernel
theorem dX6_become_27 : decode cX6_become 27 = .ok (.return_, 1) := by decide +kernel
theorem dX6_isTrue_0 : decode cX6_isTrue 0 = .ok (.aload_n 0, 1) := by decide +kernel
theorem dX6_isTrue_1 : decode cX6_isTrue 1 = .ok (.getfield 35, 3) := by decide +kernel
theorem dX6_isTrue_4 : decode cX6_isTrue 4 = .ok (.iload_n 1, 1) := by decide +kernel
theorem dX6_isTrue_5 : decode cX6_isTrue 5 = .ok (.invokevirtual 177, 3) := by decide +kernel
theorem dX6_isTrue_8 : decode cX6_isTrue 8 = .ok (.istore_n 2, 1) := by decide +kernel
theorem dX6_isTrue_9 : decode cX6_isTrue 9 = .ok (.iload_n 2, 1) := by decide +kernel
theorem dX6_isTrue_10 : decode cX6_isTrue 10 = .ok (.ifCond .eq 8, 3) := by decide +kernel
theorem dX6_isTrue_13 : decode cX6_isTrue 13 = .ok (.iload_n 2, 1) := by decide +kernel
theorem dX6_isTrue_14 : decode cX6_isTrue 14 = .ok (.iconst 1, 1) := by decide +kernel
theorem dX6_isTrue_15 : decode cX6_isTrue 15 = .ok (.if_icmp .ne 13, 3) := by decide +kernel
theorem dX6_isTrue_18 : decode cX6_isTrue 18 = .ok (.iload_n 2, 1) := by decide +kernel
theorem dX6_isTrue_19 : decode cX6_isTrue 19 = .ok (.ifCond .ne 7, 3) := by decide +kernel
theorem dX6_isTrue_22 : decode cX6_isTrue 22 = .ok (.iconst 1, 1) := by decide +kernel
theorem dX6_isTrue_23 : decode cX6_isTrue 23 = .ok (.goto 4, 3) := by decide +kernel
theorem dX6_isTrue_26 : decode cX6_isTrue 26 = .ok (.iconst 0, 1) := by decide +kernel
theorem dX6_isTrue_27 : decode cX6_isTrue 27 = .ok (.ireturn, 1) := by decide +kernel
theorem dX6_isTrue_28 : decode cX6_isTrue 28 = .ok (.iload_n 2, 1) := by decide +kernel
theorem dX6_isTrue_29 : decode cX6_isTrue 29 = .ok (.iconst 5, 1) := by decide +kernel
theorem dX6_isTrue_30 : decode cX6_isTrue 30 = .ok (.if_icmp .gt 13, 3) := by decide +kernel
theorem dX6_isTrue_33 : decode cX6_isTrue 33 = .ok (.iload_n 2, 1) := by decide +kernel
theorem dX6_isTrue_34 : decode cX6_isTrue 34 = .ok (.aload_n 0, 1) := by decide +kernel
theorem dX6_isTrue_35 : decode cX6_isTrue 35 = .ok (.iload_n 1, 1) := by decide +kernel
theorem dX6_isTrue_36 : decode cX6_isTrue 36 = .ok (.invokevirtual 181, 3) := by decide +kernel
theorem dX6_isTrue_39 : decode cX6_isTrue 39 = .ok (.invokestatic 185, 3) := by decide +kernel
theorem dX6_isTrue_42 : decode cX6_isTrue 42 = .ok (.ireturn, 1) := by decide +kernel
theorem dX6_isTrue_43 : decode cX6_isTrue 43 = .ok (.iload_n 1, 1) := by decide +kernel
theorem dX6_isTrue_44 : decode cX6_isTrue 44 = .ok (.iconst 1, 1) := by decide +kernel
theorem dX6_isTrue_45 : decode cX6_isTrue 45 = .ok (.isub, 1) := by decide +kernel
theorem dX6_isTrue_46 : decode cX6_isTrue 46 = .ok (.istore_n 3, 1) := by decide +kernel
theorem dX6_isTrue_47 : decode cX6_isTrue 47 = .ok (.iload_n 3, 1) := by decide +kernel
theorem dX6_isTrue_48 : decode cX6_isTrue 48 = .ok (.ifCond .lt 14, 3) := by decide +kernel
theorem dX6_isTrue_51 : decode cX6_isTrue 51 = .ok (.aload_n 0, 1) := by decide +kernel
theorem dX6_isTrue_52 : decode cX6_isTrue 52 = .ok (.getfield 49, 3) := by decide +kernel
theorem dX6_isTrue_55 : decode cX6_isTrue 55 = .ok (.iload_n 3, 1) := by decide +kernel
theorem dX6_isTrue_56 : decode cX6_isTrue 56 = .ok (.iaload, 1) := by decide +kernel
theorem dX6_isTrue_57 : decode cX6_isTrue 57 = .ok (.iconst 1, 1) := by decide +kernel
theorem dX6_isTrue_58 : decode cX6_isTrue 58 = .ok (.isub, 1) := by decide +kernel
theorem dX6_isTrue_59 : decode cX6_isTrue 59 = .ok (.goto 4, 3) := by decide +kernel
theorem dX6_isTrue_62 : decode cX6_isTrue 62 = .ok (.iconst (-1), 1) := by decide +kernel
theorem dX6_isTrue_63 : decode cX6_isTrue 63 = .ok (.istore 4, 2) := by decide +kernel
theorem dX6_isTrue_65 : decode cX6_isTrue 65 = .ok (.iload 4, 2) := by decide +kernel
theorem dX6_isTrue_67 : decode cX6_isTrue 67 = .ok (.ifCond .ge 5, 3) := by decide +kernel
theorem dX6_isTrue_70 : decode cX6_isTrue 70 = .ok (.iconst 0, 1) := by decide +kernel
theorem dX6_isTrue_71 : decode cX6_isTrue 71 = .ok (.ireturn, 1) := by decide +kernel
theorem dX6_isTrue_72 : decode cX6_isTrue 72 = .ok (.iload_n 2, 1) := by decide +kernel
theorem dX6_isTrue_73 : decode cX6_isTrue 73 = .ok (.bipush 6, 2) := by decide +kernel
theorem dX6_isTrue_75 : decode cX6_isTrue 75 = .ok (.if_icmp .ne 32, 3) := by decide +kernel
theorem dX6_isTrue_78 : decode cX6_isTrue 78 = .ok (.aload_n 0, 1) := by decide +kernel
theorem dX6_isTrue_79 : decode cX6_isTrue 79 = .ok (.getfield 52, 3) := by decide +kernel
theorem dX6_isTrue_82 : decode cX6_isTrue 82 = .ok (.iload 4, 2) := by decide +kernel
theorem dX6_isTrue_84 : decode cX6_isTrue 84 = .ok (.iaload, 1) := by decide +kernel
theorem dX6_isTrue_85 : decode cX6_isTrue 85 = .ok (.iconst 1, 1) := by decide +kernel
theorem dX6_isTrue_86 : decode cX6_isTrue 86 = .ok (.if_icmp .ne 17, 3) := by decide +kernel
theorem dX6_isTrue_89 : decode cX6_isTrue 89 = .ok (.aload_n 0, 1) := by decide +kernel
theorem dX6_isTrue_90 : decode cX6_isTrue 90 = .ok (.getfield 52, 3) := by decide +kernel
theorem dX6_isTrue_93 : decode cX6_isTrue 93 = .ok (.iload_n 3, 1) := by decide +kernel
theorem dX6_isTrue_94 : decode cX6_isTrue 94 = .ok (.iaload, 1) := by decide +kernel
theorem dX6_isTrue_95 : decode cX6_isTrue 95 = .ok (.iconst 1, 1) := by decide +kernel
theorem dX6_isTrue_96 : decode cX6_isTrue 96 = .ok (.if_icmp .ne 7, 3) := by decide +kernel
theorem dX6_isTrue_99 : decode cX6_isTrue 99 = .ok (.iconst 1, 1) := by decide +kernel
theorem dX6_isTrue_100 : decode cX6_isTrue 100 = .ok (.goto 33, 3) := by decide +kernel
theorem dX6_isTrue_103 : decode cX6_isTrue 103 = .ok (.iconst 0, 1) := by decide +kernel
theorem dX6_isTrue_104 : decode cX6_isTrue 104 = .ok (.goto 29, 3) := by decide +kernel
theorem dX6_isTrue_107 : decode cX6_isTrue 107 = .ok (.aload_n 0, 1) := by decide +kernel
theorem dX6_isTrue_108 : decode cX6_isTrue 108 = .ok (.getfield 52, 3) := by decide +kernel
theorem dX6_isTrue_111 : decode cX6_isTrue 111 = .ok (.iload 4, 2) := by decide +kernel
theorem dX6_isTrue_113 : decode cX6_isTrue 113 = .ok (.iaload, 1) := by decide +kernel
theorem dX6_isTrue_114 : decode cX6_isTrue 114 = .ok (.iconst 1, 1) := by decide +kernel
theorem dX6_isTrue_115 : decode cX6_isTrue 115 = .ok (.if_icmp .eq 13, 3) := by decide +kernel
theorem dX6_isTrue_118 : decode cX6_isTrue 118 = .ok (.aload_n 0, 1) := by decide +kernel
theorem dX6_isTrue_119 : decode cX6_isTrue 119 = .ok (.getfield 52, 3) := by decide +kernel
theorem dX6_isTrue_122 : decode cX6_isTrue 122 = .ok (.iload_n 3, 1) := by decide +kernel
theorem dX6_isTrue_123 : decode cX6_isTrue 123 = .ok (.iaload, 1) := by decide +kernel
theorem dX6_isTrue_124 : decode cX6_isTrue 124 = .ok (.iconst 1, 1) := by decide +kernel
theorem dX6_isTrue_125 : decode cX6_isTrue 125 = .ok (.if_icmp .ne 7, 3) := by decide +kernel
theorem dX6_isTrue_128 : decode cX6_isTrue 128 = .ok (.iconst 1, 1) := by decide +kernel
theorem dX6_isTrue_129 : decode cX6_isTrue 129 = .ok (.goto 4, 3) := by decide +kernel
theorem dX6_isTrue_132 : decode cX6_isTrue 132 = .ok (.iconst 0, 1) := by decide +kernel
theorem dX6_isTrue_133 : decode cX6_isTrue 133 = .ok (.ireturn, 1) := by decide +kernel
theorem dX6_sumWithValues_0 : decode cX6_sumWithValues 0 = .ok (.aload_n 0, 1) := by decide +kernel
theorem dX6_sumWithValues_1 : decode cX6_sumWithValues 1 = .ok (.getfield 35, 3) := by decide +kernel
theorem dX6_sumWithValues_4 : decode cX6_sumWithValues 4 = .ok (.iload_n 1, 1) := by decide +kernel
theorem dX6_sumWithValues_5 : decode cX6_sumWithValues 5 = .ok (.bipush 8, 2) := by decide +kernel
theorem dX6_sumWithValues_7 : decode cX6_sumWithValues 7 = .ok (.invokevirtual 190, 3) := by decide +kernel
theorem dX6_sumWithValues_10 : decode cX6_sumWithValues 10 = .ok (.i2l, 1) := by decide +kernel
theorem dX6_sumWithValues_11 : decode cX6_sumWithValues 11 = .ok (.ldc2_w 193, 3) := by decide +kernel
theorem dX6_sumWithValues_14 : decode cX6_sumWithValues 14 = .ok (.lmul, 1) := by decide +kernel
theorem dX6_sumWithValues_15 : decode cX6_sumWithValues 15 = .ok (.lstore_n 2, 1) := by decide +kernel
theorem dX6_sumWithValues_16 : decode cX6_sumWithValues 16 = .ok (.iconst 0, 1) := by decide +kernel
theorem dX6_sumWithValues_17 : decode cX6_sumWithValues 17 = .ok (.istore 4, 2) := by decide +kernel
theorem dX6_sumWithValues_19 : decode cX6_sumWithValues 19 = .ok (.iload 4, 2) := by decide +kernel
theorem dX6_sumWithValues_21 : decode cX6_sumWithValues 21 = .ok (.bipush 8, 2) := by decide +kernel
theorem dX6_sumWithValues_23 : decode cX6_sumWithValues 23 = .ok (.if_icmp .ge 53, 3) := by decide +kernel
theorem dX6_sumWithValues_26 : decode cX6_sumWithValues 26 = .ok (.aload_n 0, 1) := by decide +kernel
theorem dX6_sumWithValues_27 : decode cX6_sumWithValues 27 = .ok (.getfield 46, 3) := by decide +kernel
theorem dX6_sumWithValues_30 : decode cX6_sumWithValues 30 = .ok (.iload 4, 2) := by decide +kernel
theorem dX6_sumWithValues_32 : decode cX6_sumWithValues 32 = .ok (.iaload, 1) := by decide +kernel
theorem dX6_sumWithValues_33 : decode cX6_sumWithValues 33 = .ok (.iconst 1, 1) := by decide +kernel
theorem dX6_sumWithValues_34 : decode cX6_sumWithValues 34 = .ok (.invokestatic 195, 3) := by decide +kernel
theorem dX6_sumWithValues_37 : decode cX6_sumWithValues 37 = .ok (.istore 5, 2) := by decide +kernel
theorem dX6_sumWithValues_39 : decode cX6_sumWithValues 39 = .ok (.lload_n 2, 1) := by decide +kernel
theorem dX6_sumWithValues_40 : decode cX6_sumWithValues 40 = .ok (.aload_n 0, 1) := by decide +kernel
theorem dX6_sumWithValues_41 : decode cX6_sumWithValues 41 = .ok (.getfield 35, 3) := by decide +kernel
theorem dX6_sumWithValues_44 : decode cX6_sumWithValues 44 = .ok (.iload_n 1, 1) := by decide +kernel
theorem dX6_sumWithValues_45 : decode cX6_sumWithValues 45 = .ok (.iload 4, 2) := by decide +kernel
theorem dX6_sumWithValues_47 : decode cX6_sumWithValues 47 = .ok (.invokevirtual 190, 3) := by decide +kernel
theorem dX6_sumWithValues_50 : decode cX6_sumWithValues 50 = .ok (.i2l, 1) := by decide +kernel
theorem dX6_sumWithValues_51 : decode cX6_sumWithValues 51 = .ok (.aload_n 0, 1) := by decide +kernel
theorem dX6_sumWithValues_52 : decode cX6_sumWithValues 52 = .ok (.getfield 42, 3) := by decide +kernel
theorem dX6_sumWithValues_55 : decode cX6_sumWithValues 55 = .ok (.iload 4, 2) := by decide +kernel
theorem dX6_sumWithValues_57 : decode cX6_sumWithValues 57 = .ok (.iaload, 1) := by decide +kernel
theorem dX6_sumWithValues_58 : decode cX6_sumWithValues 58 = .ok (.i2l, 1) := by decide +kernel
theorem dX6_sumWithValues_59 : decode cX6_sumWithValues 59 = .ok (.lmul, 1) := by decide +kernel
theorem dX6_sumWithValues_60 : decode cX6_sumWithValues 60 = .ok (.sipush 2520, 3) := by decide +kernel
theorem dX6_sumWithValues_63 : decode cX6_sumWithValues 63 = .ok (.iload 5, 2) := by decide +kernel
theorem dX6_sumWithValues_65 : decode cX6_sumWithValues 65 = .ok (.idiv, 1) := by decide +kernel
theorem dX6_sumWithValues_66 : decode cX6_sumWithValues 66 = .ok (.i2l, 1) := by decide +kernel
theorem dX6_sumWithValues_67 : decode cX6_sumWithValues 67 = .ok (.lmul, 1) := by decide +kernel
theorem dX6_sumWithValues_68 : decode cX6_sumWithValues 68 = .ok (.ladd, 1) := by decide +kernel
theorem dX6_sumWithValues_69 : decode cX6_sumWithValues 69 = .ok (.lstore_n 2, 1) := by decide +kernel
theorem dX6_sumWithValues_70 : decode cX6_sumWithValues 70 = .ok (.iinc 4 1, 3) := by decide +kernel
theorem dX6_sumWithValues_73 : decode cX6_sumWithValues 73 = .ok (.goto (-54), 3) := by decide +kernel
theorem dX6_sumWithValues_76 : decode cX6_sumWithValues 76 = .ok (.lload_n 2, 1) := by decide +kernel
theorem dX6_sumWithValues_77 : decode cX6_sumWithValues 77 = .ok (.lreturn, 1) := by decide +kernel
theorem dX6_depth_0 : decode cX6_depth 0 = .ok (.aload_n 0, 1) := by decide +kernel
theorem dX6_depth_1 : decode cX6_depth 1 = .ok (.getfield 35, 3) := by decide +kernel
theorem dX6_depth_4 : decode cX6_depth 4 = .ok (.getfield 104, 3) := by decide +kernel
theorem dX6_depth_7 : decode cX6_depth 7 = .ok (.sipush 400, 3) := by decide +kernel
theorem dX6_depth_10 : decode cX6_depth 10 = .ok (.invokestatic 122, 3) := by decide +kernel
theorem dX6_depth_13 : decode cX6_depth 13 = .ok (.istore_n 1, 1) := by decide +kernel
theorem dX6_depth_14 : decode cX6_depth 14 = .ok (.aload_n 0, 1) := by decide +kernel
theorem dX6_depth_15 : decode cX6_depth 15 = .ok (.getfield 35, 3) := by decide +kernel
theorem dX6_depth_18 : decode cX6_depth 18 = .ok (.aload_n 0, 1) := by decide +kernel
theorem dX6_depth_19 : decode cX6_depth 19 = .ok (.getfield 49, 3) := by decide +kernel
theorem dX6_depth_22 : decode cX6_depth 22 = .ok (.invokevirtual 127, 3) := by decide +kernel
theorem dX6_depth_25 : decode cX6_depth 25 = .ok (.iconst 0, 1) := by decide +kernel
theorem dX6_depth_26 : decode cX6_depth 26 = .ok (.istore_n 2, 1) := by decide +kernel
theorem dX6_depth_27 : decode cX6_depth 27 = .ok (.iload_n 2, 1) := by decide +kernel
theorem dX6_depth_28 : decode cX6_depth 28 = .ok (.iload_n 1, 1) := by decide +kernel
theorem dX6_depth_29 : decode cX6_depth 29 = .ok (.if_icmp .ge 112, 3) := by decide +kernel
theorem dX6_depth_32 : decode cX6_depth 32 = .ok (.aload_n 0, 1) := by decide +kernel
theorem dX6_depth_33 : decode cX6_depth 33 = .ok (.getfield 35, 3) := by decide +kernel
theorem dX6_depth_36 : decode cX6_depth 36 = .ok (.iload_n 2, 1) := by decide +kernel
theorem dX6_depth_37 : decode cX6_depth 37 = .ok (.invokevirtual 177, 3) := by decide +kernel
theorem dX6_depth_40 : decode cX6_depth 40 = .ok (.istore_n 3, 1) := by decide +kernel
theorem dX6_depth_41 : decode cX6_depth 41 = .ok (.iload_n 2, 1) := by decide +kernel
theorem dX6_depth_42 : decode cX6_depth 42 = .ok (.iconst 1, 1) := by decide +kernel
theorem dX6_depth_43 : decode cX6_depth 43 = .ok (.isub, 1) := by decide +kernel
theorem dX6_depth_44 : decode cX6_depth 44 = .ok (.istore 4, 2) := by decide +kernel
theorem dX6_depth_46 : decode cX6_depth 46 = .ok (.iload_n 3, 1) := by decide +kernel
theorem dX6_depth_47 : decode cX6_depth 47 = .ok (.bipush 6, 2) := by decide +kernel
theorem dX6_depth_49 : decode cX6_depth 49 = .ok (.if_icmp .eq 9, 3) := by decide +kernel
theorem dX6_depth_52 : decode cX6_depth 52 = .ok (.iload_n 3, 1) := by decide +kernel
theorem dX6_depth_53 : decode cX6_depth 53 = .ok (.bipush 7, 2) := by decide +kernel
theorem dX6_depth_55 : decode cX6_depth 55 = .ok (.if_icmp .ne 24, 3) := by decide +kernel
theorem dX6_depth_58 : decode cX6_depth 58 = .ok (.iload 4, 2) := by decide +kernel
theorem dX6_depth_60 : decode cX6_depth 60 = .ok (.ifCond .lt 15, 3) := by decide +kernel
theorem dX6_depth_63 : decode cX6_depth 63 = .ok (.aload_n 0, 1) := by decide +kernel
theorem dX6_depth_64 : decode cX6_depth 64 = .ok (.getfield 49, 3) := by decide +kernel
theorem dX6_depth_67 : decode cX6_depth 67 = .ok (.iload 4, 2) := by decide +kernel
theorem dX6_depth_69 : decode cX6_depth 69 = .ok (.iaload, 1) := by decide +kernel
theorem dX6_depth_70 : decode cX6_depth 70 = .ok (.iconst 1, 1) := by decide +kernel
theorem dX6_depth_71 : decode cX6_depth 71 = .ok (.isub, 1) := by decide +kernel
theorem dX6_depth_72 : decode cX6_depth 72 = .ok (.goto 8, 3) := by decide +kernel
theorem dX6_depth_75 : decode cX6_depth 75 = .ok (.iconst (-1), 1) := by decide +kernel
theorem dX6_depth_76 : decode cX6_depth 76 = .ok (.goto 4, 3) := by decide +kernel
theorem dX6_depth_79 : decode cX6_depth 79 = .ok (.iconst (-1), 1) := by decide +kernel
theorem dX6_depth_80 : decode cX6_depth 80 = .ok (.istore 5, 2) := by decide +kernel
theorem dX6_depth_82 : decode cX6_depth 82 = .ok (.iload_n 3, 1) := by decide +kernel
theorem dX6_depth_83 : decode cX6_depth 83 = .ok (.bipush 6, 2) := by decide +kernel
theorem dX6_depth_85 : decode cX6_depth 85 = .ok (.if_icmp .lt 18, 3) := by decide +kernel
theorem dX6_depth_88 : decode cX6_depth 88 = .ok (.iload 4, 2) := by decide +kernel
theorem dX6_depth_90 : decode cX6_depth 90 = .ok (.ifCond .lt 13, 3) := by decide +kernel
theorem dX6_depth_93 : decode cX6_depth 93 = .ok (.aload_n 0, 1) := by decide +kernel
theorem dX6_depth_94 : decode cX6_depth 94 = .ok (.getfield 52, 3) := by decide +kernel
theorem dX6_depth_97 : decode cX6_depth 97 = .ok (.iload 4, 2) := by decide +kernel
theorem dX6_depth_99 : decode cX6_depth 99 = .ok (.iaload, 1) := by decide +kernel
theorem dX6_depth_100 : decode cX6_depth 100 = .ok (.goto 4, 3) := by decide +kernel
theorem dX6_depth_103 : decode cX6_depth 103 = .ok (.iconst 0, 1) := by decide +kernel
theorem dX6_depth_104 : decode cX6_depth 104 = .ok (.istore 6, 2) := by decide +kernel
theorem dX6_depth_106 : decode cX6_depth 106 = .ok (.aload_n 0, 1) := by decide +kernel
theorem dX6_depth_107 : decode cX6_depth 107 = .ok (.getfield 52, 3) := by decide +kernel
theorem dX6_depth_110 : decode cX6_depth 110 = .ok (.iload_n 2, 1) := by decide +kernel
theorem dX6_depth_111 : decode cX6_depth 111 = .ok (.iconst 1, 1) := by decide +kernel
theorem dX6_depth_112 : decode cX6_depth 112 = .ok (.iload 6, 2) := by decide +kernel
theorem dX6_depth_114 : decode cX6_depth 114 = .ok (.iload 5, 2) := by decide +kernel
theorem dX6_depth_116 : decode cX6_depth 116 = .ok (.ifCond .lt 13, 3) := by decide +kernel
theorem dX6_depth_119 : decode cX6_depth 119 = .ok (.aload_n 0, 1) := by decide +kernel
theorem dX6_depth_120 : decode cX6_depth 120 = .ok (.getfield 52, 3) := by decide +kernel
theorem dX6_depth_123 : decode cX6_depth 123 = .ok (.iload 5, 2) := by decide +kernel
theorem dX6_depth_125 : decode cX6_depth 125 = .ok (.iaload, 1) := by decide +kernel
theorem dX6_depth_126 : decode cX6_depth 126 = .ok (.goto 4, 3) := by decide +kernel
theorem dX6_depth_129 : decode cX6_depth 129 = .ok (.iconst 0, 1) := by decide +kernel
theorem dX6_depth_130 : decode cX6_depth 130 = .ok (.invokestatic 195, 3) := by decide +kernel
theorem dX6_depth_133 : decode cX6_depth 133 = .ok (.iadd, 1) := by decide +kernel
theorem dX6_depth_134 : decode cX6_depth 134 = .ok (.iastore, 1) := by decide +kernel
theorem dX6_depth_135 : decode cX6_depth 135 = .ok (.iinc 2 1, 3) := by decide +kernel
theorem dX6_depth_138 : decode cX6_depth 138 = .ok (.goto (-111), 3) := by decide +kernel
theorem dX6_depth_141 : decode cX6_depth 141 = .ok (.iload_n 1, 1) := by decide +kernel
theorem dX6_depth_142 : decode cX6_depth 142 = .ok (.ifCond .le 14, 3) := by decide +kernel
theorem dX6_depth_145 : decode cX6_depth 145 = .ok (.aload_n 0, 1) := by decide +kernel
theorem dX6_depth_146 : decode cX6_depth 146 = .ok (.getfield 52, 3) := by decide +kernel
theorem dX6_depth_149 : decode cX6_depth 149 = .ok (.iload_n 1, 1) := by decide +kernel
theorem dX6_depth_150 : decode cX6_depth 150 = .ok (.iconst 1, 1) := by decide +kernel
theorem dX6_depth_151 : decode cX6_depth 151 = .ok (.isub, 1) := by decide +kernel
theorem dX6_depth_152 : decode cX6_depth 152 = .ok (.iaload, 1) := by decide +kernel
theorem dX6_depth_153 : decode cX6_depth 153 = .ok (.goto 4, 3) := by decide +kernel
theorem dX6_depth_156 : decode cX6_depth 156 = .ok (.iconst 0, 1) := by decide +kernel
theorem dX6_depth_157 : decode cX6_depth 157 = .ok (.ireturn, 1) := by decide +kernel
