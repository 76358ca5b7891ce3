theorem dL_sum_12 : decode cL_sum 12 = .ok (.if_icmp .ge 112, 3) := by decide +kernel
theorem dL_sum_15 : decode cL_sum 15 = .ok (.ldc2_w 265, 3) := by decide +kernel
theorem dL_sum_18 : decode cL_sum 18 = .ok (.lload_n 2, 1) := by decide +kernel
theorem dL_sum_19 : decode cL_sum 19 = .ok (.lmul, 1) := by decide +kernel
theorem dL_sum_20 : decode cL_sum 20 = .ok (.aload_n 0, 1) := by decide +kernel
theorem dL_sum_21 : decode cL_sum 21 = .ok (.iload 4, 2) := by decide +kernel
theorem dL_sum_23 : decode cL_sum 23 = .ok (.invokestatic 193, 3) := by decide +kernel
theorem dL_sum_26 : decode cL_sum 26 = .ok (.i2l, 1) := by decide +kernel
theorem dL_sum_27 : decode cL_sum 27 = .ok (.ladd, 1) := by decide +kernel
theorem dL_sum_28 : decode cL_sum 28 = .ok (.ldc2_w 267, 3) := by decide +kernel
theorem dL_sum_31 : decode cL_sum 31 = .ok (.aload_n 0, 1) := by decide +kernel
theorem dL_sum_32 : decode cL_sum 32 = .ok (.iload 4, 2) := by decide +kernel
theorem dL_sum_34 : decode cL_sum 34 = .ok (.invokestatic 199, 3) := by decide +kernel
theorem dL_sum_37 : decode cL_sum 37 = .ok (.i2l, 1) := by decide +kernel
theorem dL_sum_38 : decode cL_sum 38 = .ok (.lmul, 1) := by decide +kernel
theorem dL_sum_39 : decode cL_sum 39 = .ok (.ladd, 1) := by decide +kernel
theorem dL_sum_40 : decode cL_sum 40 = .ok (.ldc2_w 269, 3) := by decide +kernel
theorem dL_sum_43 : decode cL_sum 43 = .ok (.aload_n 0, 1) := by decide +kernel
theorem dL_sum_44 : decode cL_sum 44 = .ok (.bipush 119, 2) := by decide +kernel
theorem dL_sum_46 : decode cL_sum 46 = .ok (.iload 4, 2) := by decide +kernel
theorem dL_sum_48 : decode cL_sum 48 = .ok (.invokestatic 211, 3) := by decide +kernel
theorem dL_sum_51 : decode cL_sum 51 = .ok (.lmul, 1) := by decide +kernel
theorem dL_sum_52 : decode cL_sum 52 = .ok (.ladd, 1) := by decide +kernel
theorem dL_sum_53 : decode cL_sum 53 = .ok (.ldc2_w 271, 3) := by decide +kernel
theorem dL_sum_56 : decode cL_sum 56 = .ok (.aload_n 0, 1) := by decide +kernel
theorem dL_sum_57 : decode cL_sum 57 = .ok (.bipush 119, 2) := by decide +kernel
theorem dL_sum_59 : decode cL_sum 59 = .ok (.iload 4, 2) := by decide +kernel
theorem dL_sum_61 : decode cL_sum 61 = .ok (.invokestatic 214, 3) := by decide +kernel
theorem dL_sum_64 : decode cL_sum 64 = .ok (.lmul, 1) := by decide +kernel
theorem dL_sum_65 : decode cL_sum 65 = .ok (.ladd, 1) := by decide +kernel
theorem dL_sum_66 : decode cL_sum 66 = .ok (.ldc2_w 273, 3) := by decide +kernel
theorem dL_sum_69 : decode cL_sum 69 = .ok (.aload_n 0, 1) := by decide +kernel
theorem dL_sum_70 : decode cL_sum 70 = .ok (.bipush 114, 2) := by decide +kernel
theorem dL_sum_72 : decode cL_sum 72 = .ok (.iload 4, 2) := by decide +kernel
theorem dL_sum_74 : decode cL_sum 74 = .ok (.invokestatic 211, 3) := by decide +kernel
theorem dL_sum_77 : decode cL_sum 77 = .ok (.lmul, 1) := by decide +kernel
theorem dL_sum_78 : decode cL_sum 78 = .ok (.ladd, 1) := by decide +kernel
theorem dL_sum_79 : decode cL_sum 79 = .ok (.lstore_n 2, 1) := by decide +kernel
theorem dL_sum_80 : decode cL_sum 80 = .ok (.iconst 0, 1) := by decide +kernel
theorem dL_sum_81 : decode cL_sum 81 = .ok (.istore 5, 2) := by decide +kernel
theorem dL_sum_83 : decode cL_sum 83 = .ok (.iload 5, 2) := by decide +kernel
theorem dL_sum_85 : decode cL_sum 85 = .ok (.aload_n 0, 1) := by decide +kernel
theorem dL_sum_86 : decode cL_sum 86 = .ok (.iload 4, 2) := by decide +kernel
theorem dL_sum_88 : decode cL_sum 88 = .ok (.invokestatic 199, 3) := by decide +kernel
theorem dL_sum_91 : decode cL_sum 91 = .ok (.if_icmp .ge 27, 3) := by decide +kernel
theorem dL_sum_94 : decode cL_sum 94 = .ok (.ldc2_w 265, 3) := by decide +kernel
theorem dL_sum_97 : decode cL_sum 97 = .ok (.lload_n 2, 1) := by decide +kernel
theorem dL_sum_98 : decode cL_sum 98 = .ok (.lmul, 1) := by decide +kernel
theorem dL_sum_99 : decode cL_sum 99 = .ok (.aload_n 0, 1) := by decide +kernel
theorem dL_sum_100 : decode cL_sum 100 = .ok (.iload 4, 2) := by decide +kernel
theorem dL_sum_102 : decode cL_sum 102 = .ok (.iload 5, 2) := by decide +kernel
theorem dL_sum_104 : decode cL_sum 104 = .ok (.iload 4, 2) := by decide +kernel
theorem dL_sum_106 : decode cL_sum 106 = .ok (.invokestatic 250, 3) := by decide +kernel
theorem dL_sum_109 : decode cL_sum 109 = .ok (.i2l, 1) := by decide +kernel
theorem dL_sum_110 : decode cL_sum 110 = .ok (.ladd, 1) := by decide +kernel
theorem dL_sum_111 : decode cL_sum 111 = .ok (.lstore_n 2, 1) := by decide +kernel
theorem dL_sum_112 : decode cL_sum 112 = .ok (.iinc 5 1, 3) := by decide +kernel
theorem dL_sum_115 : decode cL_sum 115 = .ok (.goto (-32), 3) := by decide +kernel
theorem dL_sum_118 : decode cL_sum 118 = .ok (.iinc 4 1, 3) := by decide +kernel
theorem dL_sum_121 : decode cL_sum 121 = .ok (.goto (-112), 3) := by decide +kernel
theorem dL_sum_124 : decode cL_sum 124 = .ok (.lload_n 2, 1) := by decide +kernel
theorem dL_sum_125 : decode cL_sum 125 = .ok (.lreturn, 1) := by decide +kernel
theorem dL_isRefused_0 : decode cL_isRefused 0 = .ok (.aload_n 0, 1) := by decide +kernel
theorem dL_isRefused_1 : decode cL_isRefused 1 = .ok (.iload_n 1, 1) := by decide +kernel
theorem dL_isRefused_2 : decode cL_isRefused 2 = .ok (.invokestatic 275, 3) := by decide +kernel
theorem dL_isRefused_5 : decode cL_isRefused 5 = .ok (.lstore_n 2, 1) := by decide +kernel
theorem dL_isRefused_6 : decode cL_isRefused 6 = .ok (.aload_n 0, 1) := by decide +kernel
theorem dL_isRefused_7 : decode cL_isRefused 7 = .ok (.bipush 120, 2) := by decide +kernel
theorem dL_isRefused_9 : decode cL_isRefused 9 = .ok (.iconst 0, 1) := by decide +kernel
theorem dL_isRefused_10 : decode cL_isRefused 10 = .ok (.invokestatic 155, 3) := by decide +kernel
theorem dL_isRefused_13 : decode cL_isRefused 13 = .ok (.bipush (-78), 2) := by decide +kernel
theorem dL_isRefused_15 : decode cL_isRefused 15 = .ok (.if_icmp .ne 142, 3) := by decide +kernel
theorem dL_isRefused_18 : decode cL_isRefused 18 = .ok (.aload_n 0, 1) := by decide +kernel
theorem dL_isRefused_19 : decode cL_isRefused 19 = .ok (.iload_n 1, 1) := by decide +kernel
theorem dL_isRefused_20 : decode cL_isRefused 20 = .ok (.iconst 0, 1) := by decide +kernel
theorem dL_isRefused_21 : decode cL_isRefused 21 = .ok (.iconst 0, 1) := by decide +kernel
theorem dL_isRefused_22 : decode cL_isRefused 22 = .ok (.invokestatic 161, 3) := by decide +kernel
theorem dL_isRefused_25 : decode cL_isRefused 25 = .ok (.bipush (-77), 2) := by decide +kernel
theorem dL_isRefused_27 : decode cL_isRefused 27 = .ok (.if_icmp .ne 130, 3) := by decide +kernel
theorem dL_isRefused_30 : decode cL_isRefused 30 = .ok (.aload_n 0, 1) := by decide +kernel
theorem dL_isRefused_31 : decode cL_isRefused 31 = .ok (.iconst 0, 1) := by decide +kernel
theorem dL_isRefused_32 : decode cL_isRefused 32 = .ok (.bipush 10, 2) := by decide +kernel
theorem dL_isRefused_34 : decode cL_isRefused 34 = .ok (.iconst 0, 1) := by decide +kernel
theorem dL_isRefused_35 : decode cL_isRefused 35 = .ok (.invokestatic 161, 3) := by decide +kernel
theorem dL_isRefused_38 : decode cL_isRefused 38 = .ok (.bipush (-78), 2) := by decide +kernel
theorem dL_isRefused_40 : decode cL_isRefused 40 = .ok (.if_icmp .ne 117, 3) := by decide +kernel
theorem dL_isRefused_43 : decode cL_isRefused 43 = .ok (.aload_n 0, 1) := by decide +kernel
theorem dL_isRefused_44 : decode cL_isRefused 44 = .ok (.iconst 0, 1) := by decide +kernel
theorem dL_isRefused_45 : decode cL_isRefused 45 = .ok (.iconst 0, 1) := by decide +kernel
theorem dL_isRefused_46 : decode cL_isRefused 46 = .ok (.iconst 0, 1) := by decide +kernel
theorem dL_isRefused_47 : decode cL_isRefused 47 = .ok (.bipush 7, 2) := by decide +kernel
theorem dL_isRefused_49 : decode cL_isRefused 49 = .ok (.invokestatic 164, 3) := by decide +kernel
theorem dL_isRefused_52 : decode cL_isRefused 52 = .ok (.bipush (-78), 2) := by decide +kernel
theorem dL_isRefused_54 : decode cL_isRefused 54 = .ok (.if_icmp .ne 103, 3) := by decide +kernel
theorem dL_isRefused_57 : decode cL_isRefused 57 = .ok (.aload_n 0, 1) := by decide +kernel
theorem dL_isRefused_58 : decode cL_isRefused 58 = .ok (.iconst 0, 1) := by decide +kernel
theorem dL_isRefused_59 : decode cL_isRefused 59 = .ok (.iconst 3, 1) := by decide +kernel
theorem dL_isRefused_60 : decode cL_isRefused 60 = .ok (.iconst 0, 1) := by decide +kernel
theorem dL_isRefused_61 : decode cL_isRefused 61 = .ok (.iconst 1, 1) := by decide +kernel
theorem dL_isRefused_62 : decode cL_isRefused 62 = .ok (.invokestatic 164, 3) := by decide +kernel
theorem dL_isRefused_65 : decode cL_isRefused 65 = .ok (.bipush (-77), 2) := by decide +kernel
theorem dL_isRefused_67 : decode cL_isRefused 67 = .ok (.if_icmp .ne 90, 3) := by decide +kernel
theorem dL_isRefused_70 : decode cL_isRefused 70 = .ok (.aload_n 0, 1) := by decide +kernel
theorem dL_isRefused_71 : decode cL_isRefused 71 = .ok (.iconst 3, 1) := by decide +kernel
theorem dL_isRefused_72 : decode cL_isRefused 72 = .ok (.iconst 2, 1) := by decide +kernel
theorem dL_isRefused_73 : decode cL_isRefused 73 = .ok (.invokestatic 278, 3) := by decide +kernel
theorem dL_isRefused_76 : decode cL_isRefused 76 = .ok (.bipush (-78), 2) := by decide +kernel
theorem dL_isRefused_78 : decode cL_isRefused 78 = .ok (.if_icmp .ne 79, 3) := by decide +kernel
theorem dL_isRefused_81 : decode cL_isRefused 81 = .ok (.aload_n 0, 1) := by decide +kernel
theorem dL_isRefused_82 : decode cL_isRefused 82 = .ok (.iconst 4, 1) := by decide +kernel
theorem dL_isRefused_83 : decode cL_isRefused 83 = .ok (.iconst 4, 1) := by decide +kernel
theorem dL_isRefused_84 : decode cL_isRefused 84 = .ok (.invokestatic 280, 3) := by decide +kernel
theorem dL_isRefused_87 : decode cL_isRefused 87 = .ok (.bipush (-78), 2) := by decide +kernel
theorem dL_isRefused_89 : decode cL_isRefused 89 = .ok (.if_icmp .ne 68, 3) := by decide +kernel
theorem dL_isRefused_92 : decode cL_isRefused 92 = .ok (.aload_n 0, 1) := by decide +kernel
theorem dL_isRefused_93 : decode cL_isRefused 93 = .ok (.iconst 0, 1) := by decide +kernel
theorem dL_isRefused_94 : decode cL_isRefused 94 = .ok (.iconst 3, 1) := by decide +kernel
theorem dL_isRefused_95 : decode cL_isRefused 95 = .ok (.invokestatic 282, 3) := by decide +kernel
theorem dL_isRefused_98 : decode cL_isRefused 98 = .ok (.bipush (-77), 2) := by decide +kernel
theorem dL_isRefused_100 : decode cL_isRefused 100 = .ok (.if_icmp .ne 57, 3) := by decide +kernel
theorem dL_isRefused_103 : decode cL_isRefused 103 = .ok (.aload_n 0, 1) := by decide +kernel
theorem dL_isRefused_104 : decode cL_isRefused 104 = .ok (.bipush 112, 2) := by decide +kernel
theorem dL_isRefused_106 : decode cL_isRefused 106 = .ok (.invokestatic 196, 3) := by decide +kernel
theorem dL_isRefused_109 : decode cL_isRefused 109 = .ok (.bipush (-78), 2) := by decide +kernel
theorem dL_isRefused_111 : decode cL_isRefused 111 = .ok (.if_icmp .ne 46, 3) := by decide +kernel
theorem dL_isRefused_114 : decode cL_isRefused 114 = .ok (.aload_n 0, 1) := by decide +kernel
theorem dL_isRefused_115 : decode cL_isRefused 115 = .ok (.iconst 0, 1) := by decide +kernel
theorem dL_isRefused_116 : decode cL_isRefused 116 = .ok (.iconst (-1), 1) := by decide +kernel
theorem dL_isRefused_117 : decode cL_isRefused 117 = .ok (.invokestatic 236, 3) := by decide +kernel
theorem dL_isRefused_120 : decode cL_isRefused 120 = .ok (.ldc2_w 86, 3) := by decide +kernel
theorem dL_isRefused_123 : decode cL_isRefused 123 = .ok (.dcmp .l, 1) := by decide +kernel
theorem dL_isRefused_124 : decode cL_isRefused 124 = .ok (.ifCond .ne 33, 3) := by decide +kernel
theorem dL_isRefused_127 : decode cL_isRefused 127 = .ok (.aload_n 0, 1) := by decide +kernel
theorem dL_isRefused_128 : decode cL_isRefused 128 = .ok (.iconst 0, 1) := by decide +kernel
theorem dL_isRefused_129 : decode cL_isRefused 129 = .ok (.bipush 7, 2) := by decide +kernel
theorem dL_isRefused_131 : decode cL_isRefused 131 = .ok (.invokestatic 254, 3) := by decide +kernel
theorem dL_isRefused_134 : decode cL_isRefused 134 = .ok (.ifCond .ge 23, 3) := by decide +kernel
theorem dL_isRefused_137 : decode cL_isRefused 137 = .ok (.aload_n 0, 1) := by decide +kernel
theorem dL_isRefused_138 : decode cL_isRefused 138 = .ok (.bipush 120, 2) := by decide +kernel
theorem dL_isRefused_140 : decode cL_isRefused 140 = .ok (.bipush 114, 2) := by decide +kernel
theorem dL_isRefused_142 : decode cL_isRefused 142 = .ok (.iconst 0, 1) := by decide +kernel
theorem dL_isRefused_143 : decode cL_isRefused 143 = .ok (.invokestatic 224, 3) := by decide +kernel
theorem dL_isRefused_146 : decode cL_isRefused 146 = .ok (.ldc2_w 58, 3) := by decide +kernel
theorem dL_isRefused_149 : decode cL_isRefused 149 = .ok (.lcmp, 1) := by decide +kernel
theorem dL_isRefused_150 : decode cL_isRefused 150 = .ok (.ifCond .ne 7, 3) := by decide +kernel
theorem dL_isRefused_153 : decode cL_isRefused 153 = .ok (.iconst 1, 1) := by decide +kernel
theorem dL_isRefused_154 : decode cL_isRefused 154 = .ok (.goto 4, 3) := by decide +kernel
theorem dL_isRefused_157 : decode cL_isRefused 157 = .ok (.iconst 0, 1) := by decide +kernel
theorem dL_isRefused_158 : decode cL_isRefused 158 = .ok (.istore 4, 2) := by decide +kernel
theorem dL_isRefused_160 : decode cL_isRefused 160 = .ok (.iload 4, 2) := by decide +kernel
theorem dL_isRefused_162 : decode cL_isRefused 162 = .ok (.ifCond .eq 17, 3) := by decide +kernel
theorem dL_isRefused_165 : decode cL_isRefused 165 = .ok (.aload_n 0, 1) := by decide +kernel
theorem dL_isRefused_166 : decode cL_isRefused 166 = .ok (.iload_n 1, 1) := by decide +kernel
theorem dL_isRefused_167 : decode cL_isRefused 167 = .ok (.invokestatic 275, 3) := by decide +kernel
theorem dL_isRefused_170 : decode cL_isRefused 170 = .ok (.lload_n 2, 1) := by decide +kernel
theorem dL_isRefused_171 : decode cL_isRefused 171 = .ok (.lcmp, 1) := by decide +kernel
theorem dL_isRefused_172 : decode cL_isRefused 172 = .ok (.ifCond .ne 7, 3) := by decide +kernel
theorem dL_isRefused_175 : decode cL_isRefused 175 = .ok (.iconst 1, 1) := by decide +kernel
theorem dL_isRefused_176 : decode cL_isRefused 176 = .ok (.goto 4, 3) := by decide +kernel
theorem dL_isRefused_179 : decode cL_isRefused 179 = .ok (.iconst 0, 1) := by decide +kernel
theorem dL_isRefused_180 : decode cL_isRefused 180 = .ok (.ireturn, 1) := by decide +kernel
