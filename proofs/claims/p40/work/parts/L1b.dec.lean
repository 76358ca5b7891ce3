theorem dL_isBest_133 : decode cL_isBest 133 = .ok (.lcmp, 1) := by decide +kernel
theorem dL_isBest_134 : decode cL_isBest 134 = .ok (.ifCond .ne 7, 3) := by decide +kernel
theorem dL_isBest_137 : decode cL_isBest 137 = .ok (.iconst 1, 1) := by decide +kernel
theorem dL_isBest_138 : decode cL_isBest 138 = .ok (.goto 4, 3) := by decide +kernel
theorem dL_isBest_141 : decode cL_isBest 141 = .ok (.iconst 0, 1) := by decide +kernel
theorem dL_isBest_142 : decode cL_isBest 142 = .ok (.iand, 1) := by decide +kernel
theorem dL_isBest_143 : decode cL_isBest 143 = .ok (.istore 7, 2) := by decide +kernel
theorem dL_isBest_145 : decode cL_isBest 145 = .ok (.iload 7, 2) := by decide +kernel
theorem dL_isBest_147 : decode cL_isBest 147 = .ok (.ifCond .eq 75, 3) := by decide +kernel
theorem dL_isBest_150 : decode cL_isBest 150 = .ok (.iload_n 1, 1) := by decide +kernel
theorem dL_isBest_151 : decode cL_isBest 151 = .ok (.bipush 114, 2) := by decide +kernel
theorem dL_isBest_153 : decode cL_isBest 153 = .ok (.if_icmp .ne 49, 3) := by decide +kernel
theorem dL_isBest_156 : decode cL_isBest 156 = .ok (.lload_n 3, 1) := by decide +kernel
theorem dL_isBest_157 : decode cL_isBest 157 = .ok (.lload 5, 2) := by decide +kernel
theorem dL_isBest_159 : decode cL_isBest 159 = .ok (.lcmp, 1) := by decide +kernel
theorem dL_isBest_160 : decode cL_isBest 160 = .ok (.ifCond .gt 62, 3) := by decide +kernel
theorem dL_isBest_163 : decode cL_isBest 163 = .ok (.aload_n 0, 1) := by decide +kernel
theorem dL_isBest_164 : decode cL_isBest 164 = .ok (.iload_n 2, 1) := by decide +kernel
theorem dL_isBest_165 : decode cL_isBest 165 = .ok (.invokestatic 229, 3) := by decide +kernel
theorem dL_isBest_168 : decode cL_isBest 168 = .ok (.lload_n 3, 1) := by decide +kernel
theorem dL_isBest_169 : decode cL_isBest 169 = .ok (.lconst 0, 1) := by decide +kernel
theorem dL_isBest_170 : decode cL_isBest 170 = .ok (.lcmp, 1) := by decide +kernel
theorem dL_isBest_171 : decode cL_isBest 171 = .ok (.ifCond .ne 7, 3) := by decide +kernel
theorem dL_isBest_174 : decode cL_isBest 174 = .ok (.iconst 1, 1) := by decide +kernel
theorem dL_isBest_175 : decode cL_isBest 175 = .ok (.goto 4, 3) := by decide +kernel
theorem dL_isBest_178 : decode cL_isBest 178 = .ok (.iconst 0, 1) := by decide +kernel
theorem dL_isBest_179 : decode cL_isBest 179 = .ok (.if_icmp .ne 43, 3) := by decide +kernel
theorem dL_isBest_182 : decode cL_isBest 182 = .ok (.aload_n 0, 1) := by decide +kernel
theorem dL_isBest_183 : decode cL_isBest 183 = .ok (.iload_n 2, 1) := by decide +kernel
theorem dL_isBest_184 : decode cL_isBest 184 = .ok (.invokestatic 231, 3) := by decide +kernel
theorem dL_isBest_187 : decode cL_isBest 187 = .ok (.lload_n 3, 1) := by decide +kernel
theorem dL_isBest_188 : decode cL_isBest 188 = .ok (.lload 5, 2) := by decide +kernel
theorem dL_isBest_190 : decode cL_isBest 190 = .ok (.lcmp, 1) := by decide +kernel
theorem dL_isBest_191 : decode cL_isBest 191 = .ok (.ifCond .ne 7, 3) := by decide +kernel
theorem dL_isBest_194 : decode cL_isBest 194 = .ok (.iconst 1, 1) := by decide +kernel
theorem dL_isBest_195 : decode cL_isBest 195 = .ok (.goto 4, 3) := by decide +kernel
theorem dL_isBest_198 : decode cL_isBest 198 = .ok (.iconst 0, 1) := by decide +kernel
theorem dL_isBest_199 : decode cL_isBest 199 = .ok (.if_icmp .ne 23, 3) := by decide +kernel
theorem dL_isBest_202 : decode cL_isBest 202 = .ok (.aload_n 0, 1) := by decide +kernel
theorem dL_isBest_203 : decode cL_isBest 203 = .ok (.iload_n 1, 1) := by decide +kernel
theorem dL_isBest_204 : decode cL_isBest 204 = .ok (.iload_n 2, 1) := by decide +kernel
theorem dL_isBest_205 : decode cL_isBest 205 = .ok (.invokestatic 233, 3) := by decide +kernel
theorem dL_isBest_208 : decode cL_isBest 208 = .ok (.lload_n 3, 1) := by decide +kernel
theorem dL_isBest_209 : decode cL_isBest 209 = .ok (.l2f, 1) := by decide +kernel
theorem dL_isBest_210 : decode cL_isBest 210 = .ok (.lload 5, 2) := by decide +kernel
theorem dL_isBest_212 : decode cL_isBest 212 = .ok (.l2f, 1) := by decide +kernel
theorem dL_isBest_213 : decode cL_isBest 213 = .ok (.fdiv, 1) := by decide +kernel
theorem dL_isBest_214 : decode cL_isBest 214 = .ok (.fcmp .l, 1) := by decide +kernel
theorem dL_isBest_215 : decode cL_isBest 215 = .ok (.ifCond .ne 7, 3) := by decide +kernel
theorem dL_isBest_218 : decode cL_isBest 218 = .ok (.iconst 1, 1) := by decide +kernel
theorem dL_isBest_219 : decode cL_isBest 219 = .ok (.goto 4, 3) := by decide +kernel
theorem dL_isBest_222 : decode cL_isBest 222 = .ok (.iconst 0, 1) := by decide +kernel
theorem dL_isBest_223 : decode cL_isBest 223 = .ok (.ireturn, 1) := by decide +kernel
theorem dL_areBounds_0 : decode cL_areBounds 0 = .ok (.iconst 1, 1) := by decide +kernel
theorem dL_areBounds_1 : decode cL_areBounds 1 = .ok (.istore_n 3, 1) := by decide +kernel
theorem dL_areBounds_2 : decode cL_areBounds 2 = .ok (.iconst 0, 1) := by decide +kernel
theorem dL_areBounds_3 : decode cL_areBounds 3 = .ok (.istore 4, 2) := by decide +kernel
theorem dL_areBounds_5 : decode cL_areBounds 5 = .ok (.iload 4, 2) := by decide +kernel
theorem dL_areBounds_7 : decode cL_areBounds 7 = .ok (.iload_n 1, 1) := by decide +kernel
theorem dL_areBounds_8 : decode cL_areBounds 8 = .ok (.if_icmp .ge 133, 3) := by decide +kernel
theorem dL_areBounds_11 : decode cL_areBounds 11 = .ok (.dconst 0, 1) := by decide +kernel
theorem dL_areBounds_12 : decode cL_areBounds 12 = .ok (.dstore 5, 2) := by decide +kernel
theorem dL_areBounds_14 : decode cL_areBounds 14 = .ok (.aload_n 0, 1) := by decide +kernel
theorem dL_areBounds_15 : decode cL_areBounds 15 = .ok (.bipush 114, 2) := by decide +kernel
theorem dL_areBounds_17 : decode cL_areBounds 17 = .ok (.iload 4, 2) := by decide +kernel
theorem dL_areBounds_19 : decode cL_areBounds 19 = .ok (.invokestatic 211, 3) := by decide +kernel
theorem dL_areBounds_22 : decode cL_areBounds 22 = .ok (.l2d, 1) := by decide +kernel
theorem dL_areBounds_23 : decode cL_areBounds 23 = .ok (.aload_n 0, 1) := by decide +kernel
theorem dL_areBounds_24 : decode cL_areBounds 24 = .ok (.bipush 114, 2) := by decide +kernel
theorem dL_areBounds_26 : decode cL_areBounds 26 = .ok (.iload 4, 2) := by decide +kernel
theorem dL_areBounds_28 : decode cL_areBounds 28 = .ok (.invokestatic 214, 3) := by decide +kernel
theorem dL_areBounds_31 : decode cL_areBounds 31 = .ok (.l2d, 1) := by decide +kernel
theorem dL_areBounds_32 : decode cL_areBounds 32 = .ok (.ddiv, 1) := by decide +kernel
theorem dL_areBounds_33 : decode cL_areBounds 33 = .ok (.dstore 7, 2) := by decide +kernel
theorem dL_areBounds_35 : decode cL_areBounds 35 = .ok (.iconst 0, 1) := by decide +kernel
theorem dL_areBounds_36 : decode cL_areBounds 36 = .ok (.istore 9, 2) := by decide +kernel
theorem dL_areBounds_38 : decode cL_areBounds 38 = .ok (.iload 9, 2) := by decide +kernel
theorem dL_areBounds_40 : decode cL_areBounds 40 = .ok (.bipush 20, 2) := by decide +kernel
theorem dL_areBounds_42 : decode cL_areBounds 42 = .ok (.if_icmp .ge 55, 3) := by decide +kernel
theorem dL_areBounds_45 : decode cL_areBounds 45 = .ok (.aload_n 0, 1) := by decide +kernel
theorem dL_areBounds_46 : decode cL_areBounds 46 = .ok (.iload 4, 2) := by decide +kernel
theorem dL_areBounds_48 : decode cL_areBounds 48 = .ok (.iload 9, 2) := by decide +kernel
theorem dL_areBounds_50 : decode cL_areBounds 50 = .ok (.invokestatic 236, 3) := by decide +kernel
theorem dL_areBounds_53 : decode cL_areBounds 53 = .ok (.dstore 10, 2) := by decide +kernel
theorem dL_areBounds_55 : decode cL_areBounds 55 = .ok (.iload_n 3, 1) := by decide +kernel
theorem dL_areBounds_56 : decode cL_areBounds 56 = .ok (.dload 10, 2) := by decide +kernel
theorem dL_areBounds_58 : decode cL_areBounds 58 = .ok (.dload 5, 2) := by decide +kernel
theorem dL_areBounds_60 : decode cL_areBounds 60 = .ok (.ldc2_w 239, 3) := by decide +kernel
theorem dL_areBounds_63 : decode cL_areBounds 63 = .ok (.dsub, 1) := by decide +kernel
theorem dL_areBounds_64 : decode cL_areBounds 64 = .ok (.dcmp .l, 1) := by decide +kernel
theorem dL_areBounds_65 : decode cL_areBounds 65 = .ok (.ifCond .lt 19, 3) := by decide +kernel
theorem dL_areBounds_68 : decode cL_areBounds 68 = .ok (.dload 10, 2) := by decide +kernel
theorem dL_areBounds_70 : decode cL_areBounds 70 = .ok (.dload 7, 2) := by decide +kernel
theorem dL_areBounds_72 : decode cL_areBounds 72 = .ok (.ldc2_w 239, 3) := by decide +kernel
theorem dL_areBounds_75 : decode cL_areBounds 75 = .ok (.dadd, 1) := by decide +kernel
theorem dL_areBounds_76 : decode cL_areBounds 76 = .ok (.dcmp .g, 1) := by decide +kernel
theorem dL_areBounds_77 : decode cL_areBounds 77 = .ok (.ifCond .gt 7, 3) := by decide +kernel
theorem dL_areBounds_80 : decode cL_areBounds 80 = .ok (.iconst 1, 1) := by decide +kernel
theorem dL_areBounds_81 : decode cL_areBounds 81 = .ok (.goto 4, 3) := by decide +kernel
theorem dL_areBounds_84 : decode cL_areBounds 84 = .ok (.iconst 0, 1) := by decide +kernel
theorem dL_areBounds_85 : decode cL_areBounds 85 = .ok (.iand, 1) := by decide +kernel
theorem dL_areBounds_86 : decode cL_areBounds 86 = .ok (.istore_n 3, 1) := by decide +kernel
theorem dL_areBounds_87 : decode cL_areBounds 87 = .ok (.dload 10, 2) := by decide +kernel
theorem dL_areBounds_89 : decode cL_areBounds 89 = .ok (.dstore 5, 2) := by decide +kernel
theorem dL_areBounds_91 : decode cL_areBounds 91 = .ok (.iinc 9 3, 3) := by decide +kernel
theorem dL_areBounds_94 : decode cL_areBounds 94 = .ok (.goto (-56), 3) := by decide +kernel
theorem dL_areBounds_97 : decode cL_areBounds 97 = .ok (.iload_n 3, 1) := by decide +kernel
theorem dL_areBounds_98 : decode cL_areBounds 98 = .ok (.aload_n 2, 1) := by decide +kernel
theorem dL_areBounds_99 : decode cL_areBounds 99 = .ok (.iload 4, 2) := by decide +kernel
theorem dL_areBounds_101 : decode cL_areBounds 101 = .ok (.baload, 1) := by decide +kernel
theorem dL_areBounds_102 : decode cL_areBounds 102 = .ok (.ifCond .eq 26, 3) := by decide +kernel
theorem dL_areBounds_105 : decode cL_areBounds 105 = .ok (.aload_n 0, 1) := by decide +kernel
theorem dL_areBounds_106 : decode cL_areBounds 106 = .ok (.iload 4, 2) := by decide +kernel
theorem dL_areBounds_108 : decode cL_areBounds 108 = .ok (.invokestatic 231, 3) := by decide +kernel
theorem dL_areBounds_111 : decode cL_areBounds 111 = .ok (.iconst 1, 1) := by decide +kernel
theorem dL_areBounds_112 : decode cL_areBounds 112 = .ok (.if_icmp .ne 20, 3) := by decide +kernel
theorem dL_areBounds_115 : decode cL_areBounds 115 = .ok (.aload_n 0, 1) := by decide +kernel
theorem dL_areBounds_116 : decode cL_areBounds 116 = .ok (.iload 4, 2) := by decide +kernel
theorem dL_areBounds_118 : decode cL_areBounds 118 = .ok (.bipush 7, 2) := by decide +kernel
theorem dL_areBounds_120 : decode cL_areBounds 120 = .ok (.invokestatic 236, 3) := by decide +kernel
theorem dL_areBounds_123 : decode cL_areBounds 123 = .ok (.dconst 1, 1) := by decide +kernel
theorem dL_areBounds_124 : decode cL_areBounds 124 = .ok (.dcmp .l, 1) := by decide +kernel
theorem dL_areBounds_125 : decode cL_areBounds 125 = .ok (.ifCond .ne 7, 3) := by decide +kernel
theorem dL_areBounds_128 : decode cL_areBounds 128 = .ok (.iconst 1, 1) := by decide +kernel
theorem dL_areBounds_129 : decode cL_areBounds 129 = .ok (.goto 4, 3) := by decide +kernel
theorem dL_areBounds_132 : decode cL_areBounds 132 = .ok (.iconst 0, 1) := by decide +kernel
theorem dL_areBounds_133 : decode cL_areBounds 133 = .ok (.iand, 1) := by decide +kernel
theorem dL_areBounds_134 : decode cL_areBounds 134 = .ok (.istore_n 3, 1) := by decide +kernel
theorem dL_areBounds_135 : decode cL_areBounds 135 = .ok (.iinc 4 1, 3) := by decide +kernel
theorem dL_areBounds_138 : decode cL_areBounds 138 = .ok (.goto (-133), 3) := by decide +kernel
theorem dL_areBounds_141 : decode cL_areBounds 141 = .ok (.iload_n 3, 1) := by decide +kernel
theorem dL_areBounds_142 : decode cL_areBounds 142 = .ok (.ireturn, 1) := by decide +kernel
theorem dL_areClasses_0 : decode cL_areClasses 0 = .ok (.iconst 0, 1) := by decide +kernel
theorem dL_areClasses_1 : decode cL_areClasses 1 = .ok (.istore_n 2, 1) := by decide +kernel
theorem dL_areClasses_2 : decode cL_areClasses 2 = .ok (.iconst 1, 1) := by decide +kernel
theorem dL_areClasses_3 : decode cL_areClasses 3 = .ok (.istore_n 3, 1) := by decide +kernel
theorem dL_areClasses_4 : decode cL_areClasses 4 = .ok (.iconst 0, 1) := by decide +kernel
theorem dL_areClasses_5 : decode cL_areClasses 5 = .ok (.istore 4, 2) := by decide +kernel
theorem dL_areClasses_7 : decode cL_areClasses 7 = .ok (.iload 4, 2) := by decide +kernel
theorem dL_areClasses_9 : decode cL_areClasses 9 = .ok (.iload_n 1, 1) := by decide +kernel
theorem dL_areClasses_10 : decode cL_areClasses 10 = .ok (.if_icmp .ge 140, 3) := by decide +kernel
theorem dL_areClasses_13 : decode cL_areClasses 13 = .ok (.aload_n 0, 1) := by decide +kernel
theorem dL_areClasses_14 : decode cL_areClasses 14 = .ok (.iload 4, 2) := by decide +kernel
theorem dL_areClasses_16 : decode cL_areClasses 16 = .ok (.invokestatic 241, 3) := by decide +kernel
theorem dL_areClasses_19 : decode cL_areClasses 19 = .ok (.istore 5, 2) := by decide +kernel
theorem dL_areClasses_21 : decode cL_areClasses 21 = .ok (.iload_n 2, 1) := by decide +kernel
theorem dL_areClasses_22 : decode cL_areClasses 22 = .ok (.iload 5, 2) := by decide +kernel
theorem dL_areClasses_24 : decode cL_areClasses 24 = .ok (.iload 4, 2) := by decide +kernel
theorem dL_areClasses_26 : decode cL_areClasses 26 = .ok (.if_icmp .ne 7, 3) := by decide +kernel
theorem dL_areClasses_29 : decode cL_areClasses 29 = .ok (.iconst 1, 1) := by decide +kernel
theorem dL_areClasses_30 : decode cL_areClasses 30 = .ok (.goto 4, 3) := by decide +kernel
theorem dL_areClasses_33 : decode cL_areClasses 33 = .ok (.iconst 0, 1) := by decide +kernel
theorem dL_areClasses_34 : decode cL_areClasses 34 = .ok (.iadd, 1) := by decide +kernel
theorem dL_areClasses_35 : decode cL_areClasses 35 = .ok (.istore_n 2, 1) := by decide +kernel
theorem dL_areClasses_36 : decode cL_areClasses 36 = .ok (.iload_n 3, 1) := by decide +kernel
theorem dL_areClasses_37 : decode cL_areClasses 37 = .ok (.iload 5, 2) := by decide +kernel
theorem dL_areClasses_39 : decode cL_areClasses 39 = .ok (.iload 4, 2) := by decide +kernel
theorem dL_areClasses_41 : decode cL_areClasses 41 = .ok (.if_icmp .gt 28, 3) := by decide +kernel
theorem dL_areClasses_44 : decode cL_areClasses 44 = .ok (.aload_n 0, 1) := by decide +kernel
theorem dL_areClasses_45 : decode cL_areClasses 45 = .ok (.iload 5, 2) := by decide +kernel
theorem dL_areClasses_47 : decode cL_areClasses 47 = .ok (.invokestatic 241, 3) := by decide +kernel
theorem dL_areClasses_50 : decode cL_areClasses 50 = .ok (.iload 5, 2) := by decide +kernel
theorem dL_areClasses_52 : decode cL_areClasses 52 = .ok (.if_icmp .ne 17, 3) := by decide +kernel
theorem dL_areClasses_55 : decode cL_areClasses 55 = .ok (.aload_n 0, 1) := by decide +kernel
theorem dL_areClasses_56 : decode cL_areClasses 56 = .ok (.iload 4, 2) := by decide +kernel
theorem dL_areClasses_58 : decode cL_areClasses 58 = .ok (.invokestatic 199, 3) := by decide +kernel
theorem dL_areClasses_61 : decode cL_areClasses 61 = .ok (.iconst 1, 1) := by decide +kernel
theorem dL_areClasses_62 : decode cL_areClasses 62 = .ok (.if_icmp .lt 7, 3) := by decide +kernel
theorem dL_areClasses_65 : decode cL_areClasses 65 = .ok (.iconst 1, 1) := by decide +kernel
theorem dL_areClasses_66 : decode cL_areClasses 66 = .ok (.goto 4, 3) := by decide +kernel
theorem dL_areClasses_69 : decode cL_areClasses 69 = .ok (.iconst 0, 1) := by decide +kernel
theorem dL_areClasses_70 : decode cL_areClasses 70 = .ok (.iand, 1) := by decide +kernel
theorem dL_areClasses_71 : decode cL_areClasses 71 = .ok (.istore_n 3, 1) := by decide +kernel
theorem dL_areClasses_72 : decode cL_areClasses 72 = .ok (.iconst 0, 1) := by decide +kernel
theorem dL_areClasses_73 : decode cL_areClasses 73 = .ok (.istore 6, 2) := by decide +kernel
theorem dL_areClasses_75 : decode cL_areClasses 75 = .ok (.iload 6, 2) := by decide +kernel
theorem dL_areClasses_77 : decode cL_areClasses 77 = .ok (.iconst 4, 1) := by decide +kernel
theorem dL_areClasses_78 : decode cL_areClasses 78 = .ok (.if_icmp .ge 66, 3) := by decide +kernel
theorem dL_areClasses_81 : decode cL_areClasses 81 = .ok (.ldc 185, 2) := by decide +kernel
theorem dL_areClasses_83 : decode cL_areClasses 83 = .ok (.iload 6, 2) := by decide +kernel
theorem dL_areClasses_85 : decode cL_areClasses 85 = .ok (.invokevirtual 187, 3) := by decide +kernel
theorem dL_areClasses_88 : decode cL_areClasses 88 = .ok (.istore 7, 2) := by decide +kernel
theorem dL_areClasses_90 : decode cL_areClasses 90 = .ok (.iload_n 3, 1) := by decide +kernel
theorem dL_areClasses_91 : decode cL_areClasses 91 = .ok (.aload_n 0, 1) := by decide +kernel
theorem dL_areClasses_92 : decode cL_areClasses 92 = .ok (.iload 7, 2) := by decide +kernel
theorem dL_areClasses_94 : decode cL_areClasses 94 = .ok (.iload 5, 2) := by decide +kernel
theorem dL_areClasses_96 : decode cL_areClasses 96 = .ok (.invokestatic 211, 3) := by decide +kernel
theorem dL_areClasses_99 : decode cL_areClasses 99 = .ok (.aload_n 0, 1) := by decide +kernel
theorem dL_areClasses_100 : decode cL_areClasses 100 = .ok (.iload 7, 2) := by decide +kernel
theorem dL_areClasses_102 : decode cL_areClasses 102 = .ok (.iload 4, 2) := by decide +kernel
theorem dL_areClasses_104 : decode cL_areClasses 104 = .ok (.invokestatic 211, 3) := by decide +kernel
theorem dL_areClasses_107 : decode cL_areClasses 107 = .ok (.lcmp, 1) := by decide +kernel
theorem dL_areClasses_108 : decode cL_areClasses 108 = .ok (.ifCond .ne 27, 3) := by decide +kernel
theorem dL_areClasses_111 : decode cL_areClasses 111 = .ok (.aload_n 0, 1) := by decide +kernel
theorem dL_areClasses_112 : decode cL_areClasses 112 = .ok (.iload 7, 2) := by decide +kernel
theorem dL_areClasses_114 : decode cL_areClasses 114 = .ok (.iload 5, 2) := by decide +kernel
theorem dL_areClasses_116 : decode cL_areClasses 116 = .ok (.invokestatic 214, 3) := by decide +kernel
theorem dL_areClasses_119 : decode cL_areClasses 119 = .ok (.aload_n 0, 1) := by decide +kernel
theorem dL_areClasses_120 : decode cL_areClasses 120 = .ok (.iload 7, 2) := by decide +kernel
theorem dL_areClasses_122 : decode cL_areClasses 122 = .ok (.iload 4, 2) := by decide +kernel
theorem dL_areClasses_124 : decode cL_areClasses 124 = .ok (.invokestatic 214, 3) := by decide +kernel
theorem dL_areClasses_127 : decode cL_areClasses 127 = .ok (.lcmp, 1) := by decide +kernel
theorem dL_areClasses_128 : decode cL_areClasses 128 = .ok (.ifCond .ne 7, 3) := by decide +kernel
theorem dL_areClasses_131 : decode cL_areClasses 131 = .ok (.iconst 1, 1) := by decide +kernel
theorem dL_areClasses_132 : decode cL_areClasses 132 = .ok (.goto 4, 3) := by decide +kernel
theorem dL_areClasses_135 : decode cL_areClasses 135 = .ok (.iconst 0, 1) := by decide +kernel
theorem dL_areClasses_136 : decode cL_areClasses 136 = .ok (.iand, 1) := by decide +kernel
theorem dL_areClasses_137 : decode cL_areClasses 137 = .ok (.istore_n 3, 1) := by decide +kernel
theorem dL_areClasses_138 : decode cL_areClasses 138 = .ok (.iinc 6 1, 3) := by decide +kernel
theorem dL_areClasses_141 : decode cL_areClasses 141 = .ok (.goto (-66), 3) := by decide +kernel
theorem dL_areClasses_144 : decode cL_areClasses 144 = .ok (.iinc 4 1, 3) := by decide +kernel
theorem dL_areClasses_147 : decode cL_areClasses 147 = .ok (.goto (-140), 3) := by decide +kernel
theorem dL_areClasses_150 : decode cL_areClasses 150 = .ok (.iload_n 3, 1) := by decide +kernel
theorem dL_areClasses_151 : decode cL_areClasses 151 = .ok (.ifCond .eq 15, 3) := by decide +kernel
theorem dL_areClasses_154 : decode cL_areClasses 154 = .ok (.aload_n 0, 1) := by decide +kernel
theorem dL_areClasses_155 : decode cL_areClasses 155 = .ok (.invokestatic 243, 3) := by decide +kernel
theorem dL_areClasses_158 : decode cL_areClasses 158 = .ok (.iload_n 2, 1) := by decide +kernel
theorem dL_areClasses_159 : decode cL_areClasses 159 = .ok (.if_icmp .ne 7, 3) := by decide +kernel
theorem dL_areClasses_162 : decode cL_areClasses 162 = .ok (.iconst 1, 1) := by decide +kernel
theorem dL_areClasses_163 : decode cL_areClasses 163 = .ok (.goto 4, 3) := by decide +kernel
theorem dL_areClasses_166 : decode cL_areClasses 166 = .ok (.iconst 0, 1) := by decide +kernel
theorem dL_areClasses_167 : decode cL_areClasses 167 = .ok (.ireturn, 1) := by decide +kernel
theorem dL_areClosed_0 : decode cL_areClosed 0 = .ok (.iconst 1, 1) := by decide +kernel
theorem dL_areClosed_1 : decode cL_areClosed 1 = .ok (.istore_n 2, 1) := by decide +kernel
theorem dL_areClosed_2 : decode cL_areClosed 2 = .ok (.iconst 0, 1) := by decide +kernel
theorem dL_areClosed_3 : decode cL_areClosed 3 = .ok (.istore_n 3, 1) := by decide +kernel
theorem dL_areClosed_4 : decode cL_areClosed 4 = .ok (.iconst 0, 1) := by decide +kernel
theorem dL_areClosed_5 : decode cL_areClosed 5 = .ok (.istore 4, 2) := by decide +kernel
theorem dL_areClosed_7 : decode cL_areClosed 7 = .ok (.iload 4, 2) := by decide +kernel
theorem dL_areClosed_9 : decode cL_areClosed 9 = .ok (.iload_n 1, 1) := by decide +kernel
theorem dL_areClosed_10 : decode cL_areClosed 10 = .ok (.if_icmp .ge 140, 3) := by decide +kernel
theorem dL_areClosed_13 : decode cL_areClosed 13 = .ok (.aload_n 0, 1) := by decide +kernel
theorem dL_areClosed_14 : decode cL_areClosed 14 = .ok (.iload 4, 2) := by decide +kernel
theorem dL_areClosed_16 : decode cL_areClosed 16 = .ok (.invokestatic 246, 3) := by decide +kernel
theorem dL_areClosed_19 : decode cL_areClosed 19 = .ok (.istore 5, 2) := by decide +kernel
theorem dL_areClosed_21 : decode cL_areClosed 21 = .ok (.aload_n 0, 1) := by decide +kernel
theorem dL_areClosed_22 : decode cL_areClosed 22 = .ok (.iload 4, 2) := by decide +kernel
theorem dL_areClosed_24 : decode cL_areClosed 24 = .ok (.invokestatic 248, 3) := by decide +kernel
theorem dL_areClosed_27 : decode cL_areClosed 27 = .ok (.istore 6, 2) := by decide +kernel
theorem dL_areClosed_29 : decode cL_areClosed 29 = .ok (.iload_n 3, 1) := by decide +kernel
theorem dL_areClosed_30 : decode cL_areClosed 30 = .ok (.iload 5, 2) := by decide +kernel
theorem dL_areClosed_32 : decode cL_areClosed 32 = .ok (.ifCond .lt 7, 3) := by decide +kernel
theorem dL_areClosed_35 : decode cL_areClosed 35 = .ok (.iconst 1, 1) := by decide +kernel
theorem dL_areClosed_36 : decode cL_areClosed 36 = .ok (.goto 4, 3) := by decide +kernel
theorem dL_areClosed_39 : decode cL_areClosed 39 = .ok (.iconst 0, 1) := by decide +kernel
theorem dL_areClosed_40 : decode cL_areClosed 40 = .ok (.ior, 1) := by decide +kernel
theorem dL_areClosed_41 : decode cL_areClosed 41 = .ok (.istore_n 3, 1) := by decide +kernel
theorem dL_areClosed_42 : decode cL_areClosed 42 = .ok (.iload_n 2, 1) := by decide +kernel
theorem dL_areClosed_43 : decode cL_areClosed 43 = .ok (.iload 5, 2) := by decide +kernel
theorem dL_areClosed_45 : decode cL_areClosed 45 = .ok (.bipush (-75), 2) := by decide +kernel
theorem dL_areClosed_47 : decode cL_areClosed 47 = .ok (.if_icmp .eq 33, 3) := by decide +kernel
theorem dL_areClosed_50 : decode cL_areClosed 50 = .ok (.iload 5, 2) := by decide +kernel
theorem dL_areClosed_52 : decode cL_areClosed 52 = .ok (.iload 4, 2) := by decide +kernel
theorem dL_areClosed_54 : decode cL_areClosed 54 = .ok (.if_icmp .gt 30, 3) := by decide +kernel
theorem dL_areClosed_57 : decode cL_areClosed 57 = .ok (.aload_n 0, 1) := by decide +kernel
theorem dL_areClosed_58 : decode cL_areClosed 58 = .ok (.iload 5, 2) := by decide +kernel
theorem dL_areClosed_60 : decode cL_areClosed 60 = .ok (.invokestatic 246, 3) := by decide +kernel
theorem dL_areClosed_63 : decode cL_areClosed 63 = .ok (.iload 5, 2) := by decide +kernel
theorem dL_areClosed_65 : decode cL_areClosed 65 = .ok (.if_icmp .ne 19, 3) := by decide +kernel
theorem dL_areClosed_68 : decode cL_areClosed 68 = .ok (.iload 6, 2) := by decide +kernel
theorem dL_areClosed_70 : decode cL_areClosed 70 = .ok (.ifCond .lt 14, 3) := by decide +kernel
theorem dL_areClosed_73 : decode cL_areClosed 73 = .ok (.iload 6, 2) := by decide +kernel
theorem dL_areClosed_75 : decode cL_areClosed 75 = .ok (.iload 5, 2) := by decide +kernel
theorem dL_areClosed_77 : decode cL_areClosed 77 = .ok (.if_icmp .gt 7, 3) := by decide +kernel
theorem dL_areClosed_80 : decode cL_areClosed 80 = .ok (.iconst 1, 1) := by decide +kernel
theorem dL_areClosed_81 : decode cL_areClosed 81 = .ok (.goto 4, 3) := by decide +kernel
theorem dL_areClosed_84 : decode cL_areClosed 84 = .ok (.iconst 0, 1) := by decide +kernel
theorem dL_areClosed_85 : decode cL_areClosed 85 = .ok (.iand, 1) := by decide +kernel
theorem dL_areClosed_86 : decode cL_areClosed 86 = .ok (.istore_n 2, 1) := by decide +kernel
theorem dL_areClosed_87 : decode cL_areClosed 87 = .ok (.iconst 0, 1) := by decide +kernel
theorem dL_areClosed_88 : decode cL_areClosed 88 = .ok (.istore 7, 2) := by decide +kernel
theorem dL_areClosed_90 : decode cL_areClosed 90 = .ok (.iload 7, 2) := by decide +kernel
theorem dL_areClosed_92 : decode cL_areClosed 92 = .ok (.iload_n 1, 1) := by decide +kernel
theorem dL_areClosed_93 : decode cL_areClosed 93 = .ok (.if_icmp .ge 51, 3) := by decide +kernel
theorem dL_areClosed_96 : decode cL_areClosed 96 = .ok (.iload 5, 2) := by decide +kernel
theorem dL_areClosed_98 : decode cL_areClosed 98 = .ok (.ifCond .lt 46, 3) := by decide +kernel
theorem dL_areClosed_101 : decode cL_areClosed 101 = .ok (.iload_n 2, 1) := by decide +kernel
theorem dL_areClosed_102 : decode cL_areClosed 102 = .ok (.aload_n 0, 1) := by decide +kernel
theorem dL_areClosed_103 : decode cL_areClosed 103 = .ok (.iload 4, 2) := by decide +kernel
theorem dL_areClosed_105 : decode cL_areClosed 105 = .ok (.aload_n 0, 1) := by decide +kernel
theorem dL_areClosed_106 : decode cL_areClosed 106 = .ok (.iload 4, 2) := by decide +kernel
theorem dL_areClosed_108 : decode cL_areClosed 108 = .ok (.invokestatic 193, 3) := by decide +kernel
theorem dL_areClosed_111 : decode cL_areClosed 111 = .ok (.iload 7, 2) := by decide +kernel
theorem dL_areClosed_113 : decode cL_areClosed 113 = .ok (.invokestatic 250, 3) := by decide +kernel
theorem dL_areClosed_116 : decode cL_areClosed 116 = .ok (.iconst 1, 1) := by decide +kernel
theorem dL_areClosed_117 : decode cL_areClosed 117 = .ok (.if_icmp .eq 14, 3) := by decide +kernel
theorem dL_areClosed_120 : decode cL_areClosed 120 = .ok (.aload_n 0, 1) := by decide +kernel
theorem dL_areClosed_121 : decode cL_areClosed 121 = .ok (.iload 7, 2) := by decide +kernel
theorem dL_areClosed_123 : decode cL_areClosed 123 = .ok (.invokestatic 246, 3) := by decide +kernel
theorem dL_areClosed_126 : decode cL_areClosed 126 = .ok (.iload 5, 2) := by decide +kernel
theorem dL_areClosed_128 : decode cL_areClosed 128 = .ok (.if_icmp .ne 7, 3) := by decide +kernel
theorem dL_areClosed_131 : decode cL_areClosed 131 = .ok (.iconst 1, 1) := by decide +kernel
theorem dL_areClosed_132 : decode cL_areClosed 132 = .ok (.goto 4, 3) := by decide +kernel
theorem dL_areClosed_135 : decode cL_areClosed 135 = .ok (.iconst 0, 1) := by decide +kernel
theorem dL_areClosed_136 : decode cL_areClosed 136 = .ok (.iand, 1) := by decide +kernel
theorem dL_areClosed_137 : decode cL_areClosed 137 = .ok (.istore_n 2, 1) := by decide +kernel
theorem dL_areClosed_138 : decode cL_areClosed 138 = .ok (.iinc 7 1, 3) := by decide +kernel
theorem dL_areClosed_141 : decode cL_areClosed 141 = .ok (.goto (-51), 3) := by decide +kernel
theorem dL_areClosed_144 : decode cL_areClosed 144 = .ok (.iinc 4 1, 3) := by decide +kernel
theorem dL_areClosed_147 : decode cL_areClosed 147 = .ok (.goto (-140), 3) := by decide +kernel
theorem dL_areClosed_150 : decode cL_areClosed 150 = .ok (.iload_n 2, 1) := by decide +kernel
theorem dL_areClosed_151 : decode cL_areClosed 151 = .ok (.ifCond .eq 11, 3) := by decide +kernel
theorem dL_areClosed_154 : decode cL_areClosed 154 = .ok (.iload_n 3, 1) := by decide +kernel
theorem dL_areClosed_155 : decode cL_areClosed 155 = .ok (.ifCond .eq 7, 3) := by decide +kernel
theorem dL_areClosed_158 : decode cL_areClosed 158 = .ok (.iconst 1, 1) := by decide +kernel
theorem dL_areClosed_159 : decode cL_areClosed 159 = .ok (.goto 4, 3) := by decide +kernel
theorem dL_areClosed_162 : decode cL_areClosed 162 = .ok (.iconst 0, 1) := by decide +kernel
theorem dL_areClosed_163 : decode cL_areClosed 163 = .ok (.ireturn, 1) := by decide +kernel
theorem dL_areTraces_0 : decode cL_areTraces 0 = .ok (.iconst 1, 1) := by decide +kernel
theorem dL_areTraces_1 : decode cL_areTraces 1 = .ok (.istore_n 3, 1) := by decide +kernel
theorem dL_areTraces_2 : decode cL_areTraces 2 = .ok (.iconst 0, 1) := by decide +kernel
theorem dL_areTraces_3 : decode cL_areTraces 3 = .ok (.istore 4, 2) := by decide +kernel
theorem dL_areTraces_5 : decode cL_areTraces 5 = .ok (.iload 4, 2) := by decide +kernel
theorem dL_areTraces_7 : decode cL_areTraces 7 = .ok (.iload_n 1, 1) := by decide +kernel
theorem dL_areTraces_8 : decode cL_areTraces 8 = .ok (.if_icmp .ge 286, 3) := by decide +kernel
theorem dL_areTraces_11 : decode cL_areTraces 11 = .ok (.aload_n 0, 1) := by decide +kernel
theorem dL_areTraces_12 : decode cL_areTraces 12 = .ok (.iload 4, 2) := by decide +kernel
theorem dL_areTraces_14 : decode cL_areTraces 14 = .ok (.invokestatic 252, 3) := by decide +kernel
theorem dL_areTraces_17 : decode cL_areTraces 17 = .ok (.istore 5, 2) := by decide +kernel
theorem dL_areTraces_19 : decode cL_areTraces 19 = .ok (.dconst 1, 1) := by decide +kernel
theorem dL_areTraces_20 : decode cL_areTraces 20 = .ok (.dstore 6, 2) := by decide +kernel
theorem dL_areTraces_22 : decode cL_areTraces 22 = .ok (.iload_n 3, 1) := by decide +kernel
theorem dL_areTraces_23 : decode cL_areTraces 23 = .ok (.iload 5, 2) := by decide +kernel
theorem dL_areTraces_25 : decode cL_areTraces 25 = .ok (.bipush (-75), 2) := by decide +kernel
theorem dL_areTraces_27 : decode cL_areTraces 27 = .ok (.if_icmp .ne 24, 3) := by decide +kernel
theorem dL_areTraces_30 : decode cL_areTraces 30 = .ok (.aload_n 0, 1) := by decide +kernel
theorem dL_areTraces_31 : decode cL_areTraces 31 = .ok (.bipush 114, 2) := by decide +kernel
theorem dL_areTraces_33 : decode cL_areTraces 33 = .ok (.iload 4, 2) := by decide +kernel
theorem dL_areTraces_35 : decode cL_areTraces 35 = .ok (.invokestatic 220, 3) := by decide +kernel
theorem dL_areTraces_38 : decode cL_areTraces 38 = .ok (.lconst 0, 1) := by decide +kernel
theorem dL_areTraces_39 : decode cL_areTraces 39 = .ok (.lcmp, 1) := by decide +kernel
theorem dL_areTraces_40 : decode cL_areTraces 40 = .ok (.ifCond .ne 7, 3) := by decide +kernel
theorem dL_areTraces_43 : decode cL_areTraces 43 = .ok (.iconst 1, 1) := by decide +kernel
theorem dL_areTraces_44 : decode cL_areTraces 44 = .ok (.goto 51, 3) := by decide +kernel
theorem dL_areTraces_47 : decode cL_areTraces 47 = .ok (.iconst 0, 1) := by decide +kernel
theorem dL_areTraces_48 : decode cL_areTraces 48 = .ok (.goto 47, 3) := by decide +kernel
theorem dL_areTraces_51 : decode cL_areTraces 51 = .ok (.iload 5, 2) := by decide +kernel
theorem dL_areTraces_53 : decode cL_areTraces 53 = .ok (.iconst 1, 1) := by decide +kernel
theorem dL_areTraces_54 : decode cL_areTraces 54 = .ok (.if_icmp .lt 40, 3) := by decide +kernel
theorem dL_areTraces_57 : decode cL_areTraces 57 = .ok (.iload 5, 2) := by decide +kernel
theorem dL_areTraces_59 : decode cL_areTraces 59 = .ok (.iload_n 1, 1) := by decide +kernel
theorem dL_areTraces_60 : decode cL_areTraces 60 = .ok (.if_icmp .gt 34, 3) := by decide +kernel
theorem dL_areTraces_63 : decode cL_areTraces 63 = .ok (.aload_n 0, 1) := by decide +kernel
theorem dL_areTraces_64 : decode cL_areTraces 64 = .ok (.iload 4, 2) := by decide +kernel
theorem dL_areTraces_66 : decode cL_areTraces 66 = .ok (.iconst 0, 1) := by decide +kernel
theorem dL_areTraces_67 : decode cL_areTraces 67 = .ok (.invokestatic 254, 3) := by decide +kernel
theorem dL_areTraces_70 : decode cL_areTraces 70 = .ok (.iload 4, 2) := by decide +kernel
theorem dL_areTraces_72 : decode cL_areTraces 72 = .ok (.if_icmp .ne 22, 3) := by decide +kernel
theorem dL_areTraces_75 : decode cL_areTraces 75 = .ok (.aload_n 2, 1) := by decide +kernel
theorem dL_areTraces_76 : decode cL_areTraces 76 = .ok (.aload_n 0, 1) := by decide +kernel
theorem dL_areTraces_77 : decode cL_areTraces 77 = .ok (.iload 4, 2) := by decide +kernel
theorem dL_areTraces_79 : decode cL_areTraces 79 = .ok (.iload 5, 2) := by decide +kernel
theorem dL_areTraces_81 : decode cL_areTraces 81 = .ok (.iconst 1, 1) := by decide +kernel
theorem dL_areTraces_82 : decode cL_areTraces 82 = .ok (.isub, 1) := by decide +kernel
theorem dL_areTraces_83 : decode cL_areTraces 83 = .ok (.invokestatic 254, 3) := by decide +kernel
theorem dL_areTraces_86 : decode cL_areTraces 86 = .ok (.baload, 1) := by decide +kernel
theorem dL_areTraces_87 : decode cL_areTraces 87 = .ok (.ifCond .eq 7, 3) := by decide +kernel
theorem dL_areTraces_90 : decode cL_areTraces 90 = .ok (.iconst 1, 1) := by decide +kernel
theorem dL_areTraces_91 : decode cL_areTraces 91 = .ok (.goto 4, 3) := by decide +kernel
theorem dL_areTraces_94 : decode cL_areTraces 94 = .ok (.iconst 0, 1) := by decide +kernel
theorem dL_areTraces_95 : decode cL_areTraces 95 = .ok (.iand, 1) := by decide +kernel
theorem dL_areTraces_96 : decode cL_areTraces 96 = .ok (.istore_n 3, 1) := by decide +kernel
theorem dL_areTraces_97 : decode cL_areTraces 97 = .ok (.iconst 0, 1) := by decide +kernel
theorem dL_areTraces_98 : decode cL_areTraces 98 = .ok (.istore 8, 2) := by decide +kernel
theorem dL_areTraces_100 : decode cL_areTraces 100 = .ok (.iload 8, 2) := by decide +kernel
theorem dL_areTraces_102 : decode cL_areTraces 102 = .ok (.iconst 1, 1) := by decide +kernel
theorem dL_areTraces_103 : decode cL_areTraces 103 = .ok (.iadd, 1) := by decide +kernel
theorem dL_areTraces_104 : decode cL_areTraces 104 = .ok (.iload 5, 2) := by decide +kernel
theorem dL_areTraces_106 : decode cL_areTraces 106 = .ok (.if_icmp .ge 82, 3) := by decide +kernel
theorem dL_areTraces_109 : decode cL_areTraces 109 = .ok (.aload_n 0, 1) := by decide +kernel
theorem dL_areTraces_110 : decode cL_areTraces 110 = .ok (.iload 4, 2) := by decide +kernel
theorem dL_areTraces_112 : decode cL_areTraces 112 = .ok (.iload 8, 2) := by decide +kernel
theorem dL_areTraces_114 : decode cL_areTraces 114 = .ok (.invokestatic 254, 3) := by decide +kernel
theorem dL_areTraces_117 : decode cL_areTraces 117 = .ok (.istore 9, 2) := by decide +kernel
theorem dL_areTraces_119 : decode cL_areTraces 119 = .ok (.aload_n 0, 1) := by decide +kernel
theorem dL_areTraces_120 : decode cL_areTraces 120 = .ok (.iload 9, 2) := by decide +kernel
theorem dL_areTraces_122 : decode cL_areTraces 122 = .ok (.aload_n 0, 1) := by decide +kernel
theorem dL_areTraces_123 : decode cL_areTraces 123 = .ok (.iload 9, 2) := by decide +kernel
theorem dL_areTraces_125 : decode cL_areTraces 125 = .ok (.invokestatic 193, 3) := by decide +kernel
theorem dL_areTraces_128 : decode cL_areTraces 128 = .ok (.aload_n 0, 1) := by decide +kernel
theorem dL_areTraces_129 : decode cL_areTraces 129 = .ok (.iload 4, 2) := by decide +kernel
theorem dL_areTraces_131 : decode cL_areTraces 131 = .ok (.iload 8, 2) := by decide +kernel
theorem dL_areTraces_133 : decode cL_areTraces 133 = .ok (.iconst 1, 1) := by decide +kernel
theorem dL_areTraces_134 : decode cL_areTraces 134 = .ok (.iadd, 1) := by decide +kernel
theorem dL_areTraces_135 : decode cL_areTraces 135 = .ok (.invokestatic 254, 3) := by decide +kernel
theorem dL_areTraces_138 : decode cL_areTraces 138 = .ok (.invokestatic 250, 3) := by decide +kernel
theorem dL_areTraces_141 : decode cL_areTraces 141 = .ok (.istore 10, 2) := by decide +kernel
theorem dL_areTraces_143 : decode cL_areTraces 143 = .ok (.iload_n 3, 1) := by decide +kernel
theorem dL_areTraces_144 : decode cL_areTraces 144 = .ok (.aload_n 2, 1) := by decide +kernel
theorem dL_areTraces_145 : decode cL_areTraces 145 = .ok (.iload 9, 2) := by decide +kernel
theorem dL_areTraces_147 : decode cL_areTraces 147 = .ok (.baload, 1) := by decide +kernel
theorem dL_areTraces_148 : decode cL_areTraces 148 = .ok (.ifCond .ne 13, 3) := by decide +kernel
theorem dL_areTraces_151 : decode cL_areTraces 151 = .ok (.iload 10, 2) := by decide +kernel
theorem dL_areTraces_153 : decode cL_areTraces 153 = .ok (.iconst 1, 1) := by decide +kernel
theorem dL_areTraces_154 : decode cL_areTraces 154 = .ok (.if_icmp .le 7, 3) := by decide +kernel
theorem dL_areTraces_157 : decode cL_areTraces 157 = .ok (.iconst 1, 1) := by decide +kernel
theorem dL_areTraces_158 : decode cL_areTraces 158 = .ok (.goto 4, 3) := by decide +kernel
theorem dL_areTraces_161 : decode cL_areTraces 161 = .ok (.iconst 0, 1) := by decide +kernel
theorem dL_areTraces_162 : decode cL_areTraces 162 = .ok (.iand, 1) := by decide +kernel
theorem dL_areTraces_163 : decode cL_areTraces 163 = .ok (.istore_n 3, 1) := by decide +kernel
theorem dL_areTraces_164 : decode cL_areTraces 164 = .ok (.dload 6, 2) := by decide +kernel
theorem dL_areTraces_166 : decode cL_areTraces 166 = .ok (.iload 10, 2) := by decide +kernel
theorem dL_areTraces_168 : decode cL_areTraces 168 = .ok (.bipush 10, 2) := by decide +kernel
theorem dL_areTraces_170 : decode cL_areTraces 170 = .ok (.idiv, 1) := by decide +kernel
theorem dL_areTraces_171 : decode cL_areTraces 171 = .ok (.i2d, 1) := by decide +kernel
theorem dL_areTraces_172 : decode cL_areTraces 172 = .ok (.iload 10, 2) := by decide +kernel
theorem dL_areTraces_174 : decode cL_areTraces 174 = .ok (.bipush 10, 2) := by decide +kernel
theorem dL_areTraces_176 : decode cL_areTraces 176 = .ok (.irem, 1) := by decide +kernel
theorem dL_areTraces_177 : decode cL_areTraces 177 = .ok (.i2d, 1) := by decide +kernel
theorem dL_areTraces_178 : decode cL_areTraces 178 = .ok (.ddiv, 1) := by decide +kernel
theorem dL_areTraces_179 : decode cL_areTraces 179 = .ok (.dmul, 1) := by decide +kernel
theorem dL_areTraces_180 : decode cL_areTraces 180 = .ok (.dstore 6, 2) := by decide +kernel
theorem dL_areTraces_182 : decode cL_areTraces 182 = .ok (.iinc 8 1, 3) := by decide +kernel
theorem dL_areTraces_185 : decode cL_areTraces 185 = .ok (.goto (-85), 3) := by decide +kernel
theorem dL_areTraces_188 : decode cL_areTraces 188 = .ok (.iload 5, 2) := by decide +kernel
theorem dL_areTraces_190 : decode cL_areTraces 190 = .ok (.bipush (-75), 2) := by decide +kernel
theorem dL_areTraces_192 : decode cL_areTraces 192 = .ok (.if_icmp .ne 7, 3) := by decide +kernel
theorem dL_areTraces_195 : decode cL_areTraces 195 = .ok (.dconst 0, 1) := by decide +kernel
theorem dL_areTraces_196 : decode cL_areTraces 196 = .ok (.goto 18, 3) := by decide +kernel
theorem dL_areTraces_199 : decode cL_areTraces 199 = .ok (.aload_n 0, 1) := by decide +kernel
theorem dL_areTraces_200 : decode cL_areTraces 200 = .ok (.iload 4, 2) := by decide +kernel
theorem dL_areTraces_202 : decode cL_areTraces 202 = .ok (.invokestatic 257, 3) := by decide +kernel
theorem dL_areTraces_205 : decode cL_areTraces 205 = .ok (.l2d, 1) := by decide +kernel
theorem dL_areTraces_206 : decode cL_areTraces 206 = .ok (.aload_n 0, 1) := by decide +kernel
theorem dL_areTraces_207 : decode cL_areTraces 207 = .ok (.iload 4, 2) := by decide +kernel
theorem dL_areTraces_209 : decode cL_areTraces 209 = .ok (.invokestatic 260, 3) := by decide +kernel
theorem dL_areTraces_212 : decode cL_areTraces 212 = .ok (.l2d, 1) := by decide +kernel
theorem dL_areTraces_213 : decode cL_areTraces 213 = .ok (.ddiv, 1) := by decide +kernel
theorem dL_areTraces_214 : decode cL_areTraces 214 = .ok (.dstore 8, 2) := by decide +kernel
theorem dL_areTraces_216 : decode cL_areTraces 216 = .ok (.aload_n 0, 1) := by decide +kernel
theorem dL_areTraces_217 : decode cL_areTraces 217 = .ok (.bipush 114, 2) := by decide +kernel
theorem dL_areTraces_219 : decode cL_areTraces 219 = .ok (.iload 4, 2) := by decide +kernel
theorem dL_areTraces_221 : decode cL_areTraces 221 = .ok (.invokestatic 220, 3) := by decide +kernel
theorem dL_areTraces_224 : decode cL_areTraces 224 = .ok (.l2d, 1) := by decide +kernel
theorem dL_areTraces_225 : decode cL_areTraces 225 = .ok (.aload_n 0, 1) := by decide +kernel
theorem dL_areTraces_226 : decode cL_areTraces 226 = .ok (.bipush 114, 2) := by decide +kernel
theorem dL_areTraces_228 : decode cL_areTraces 228 = .ok (.iload 4, 2) := by decide +kernel
theorem dL_areTraces_230 : decode cL_areTraces 230 = .ok (.invokestatic 222, 3) := by decide +kernel
theorem dL_areTraces_233 : decode cL_areTraces 233 = .ok (.l2d, 1) := by decide +kernel
theorem dL_areTraces_234 : decode cL_areTraces 234 = .ok (.ddiv, 1) := by decide +kernel
theorem dL_areTraces_235 : decode cL_areTraces 235 = .ok (.dstore 10, 2) := by decide +kernel
theorem dL_areTraces_237 : decode cL_areTraces 237 = .ok (.iload_n 3, 1) := by decide +kernel
theorem dL_areTraces_238 : decode cL_areTraces 238 = .ok (.dload 8, 2) := by decide +kernel
theorem dL_areTraces_240 : decode cL_areTraces 240 = .ok (.dload 10, 2) := by decide +kernel
theorem dL_areTraces_242 : decode cL_areTraces 242 = .ok (.ldc2_w 239, 3) := by decide +kernel
theorem dL_areTraces_245 : decode cL_areTraces 245 = .ok (.dadd, 1) := by decide +kernel
theorem dL_areTraces_246 : decode cL_areTraces 246 = .ok (.dcmp .g, 1) := by decide +kernel
theorem dL_areTraces_247 : decode cL_areTraces 247 = .ok (.ifCond .gt 38, 3) := by decide +kernel
theorem dL_areTraces_250 : decode cL_areTraces 250 = .ok (.iload 5, 2) := by decide +kernel
theorem dL_areTraces_252 : decode cL_areTraces 252 = .ok (.bipush (-75), 2) := by decide +kernel
theorem dL_areTraces_254 : decode cL_areTraces 254 = .ok (.if_icmp .eq 27, 3) := by decide +kernel
theorem dL_areTraces_257 : decode cL_areTraces 257 = .ok (.dload 8, 2) := by decide +kernel
theorem dL_areTraces_259 : decode cL_areTraces 259 = .ok (.dload 6, 2) := by decide +kernel
theorem dL_areTraces_261 : decode cL_areTraces 261 = .ok (.ldc2_w 239, 3) := by decide +kernel
theorem dL_areTraces_264 : decode cL_areTraces 264 = .ok (.dadd, 1) := by decide +kernel
theorem dL_areTraces_265 : decode cL_areTraces 265 = .ok (.dcmp .g, 1) := by decide +kernel
theorem dL_areTraces_266 : decode cL_areTraces 266 = .ok (.ifCond .gt 19, 3) := by decide +kernel
theorem dL_areTraces_269 : decode cL_areTraces 269 = .ok (.dload 6, 2) := by decide +kernel
theorem dL_areTraces_271 : decode cL_areTraces 271 = .ok (.dload 8, 2) := by decide +kernel
theorem dL_areTraces_273 : decode cL_areTraces 273 = .ok (.ldc2_w 239, 3) := by decide +kernel
theorem dL_areTraces_276 : decode cL_areTraces 276 = .ok (.dadd, 1) := by decide +kernel
theorem dL_areTraces_277 : decode cL_areTraces 277 = .ok (.dcmp .g, 1) := by decide +kernel
theorem dL_areTraces_278 : decode cL_areTraces 278 = .ok (.ifCond .gt 7, 3) := by decide +kernel
theorem dL_areTraces_281 : decode cL_areTraces 281 = .ok (.iconst 1, 1) := by decide +kernel
theorem dL_areTraces_282 : decode cL_areTraces 282 = .ok (.goto 4, 3) := by decide +kernel
theorem dL_areTraces_285 : decode cL_areTraces 285 = .ok (.iconst 0, 1) := by decide +kernel
theorem dL_areTraces_286 : decode cL_areTraces 286 = .ok (.iand, 1) := by decide +kernel
theorem dL_areTraces_287 : decode cL_areTraces 287 = .ok (.istore_n 3, 1) := by decide +kernel
theorem dL_areTraces_288 : decode cL_areTraces 288 = .ok (.iinc 4 1, 3) := by decide +kernel
theorem dL_areTraces_291 : decode cL_areTraces 291 = .ok (.goto (-286), 3) := by decide +kernel
theorem dL_areTraces_294 : decode cL_areTraces 294 = .ok (.iload_n 3, 1) := by decide +kernel
theorem dL_areTraces_295 : decode cL_areTraces 295 = .ok (.ireturn, 1) := by decide +kernel
theorem dL_sum_0 : decode cL_sum 0 = .ok (.aload_n 0, 1) := by decide +kernel
theorem dL_sum_1 : decode cL_sum 1 = .ok (.invokevirtual 262, 3) := by decide +kernel
theorem dL_sum_4 : decode cL_sum 4 = .ok (.i2l, 1) := by decide +kernel
theorem dL_sum_5 : decode cL_sum 5 = .ok (.lstore_n 2, 1) := by decide +kernel
theorem dL_sum_6 : decode cL_sum 6 = .ok (.iconst 0, 1) := by decide +kernel
theorem dL_sum_7 : decode cL_sum 7 = .ok (.istore 4, 2) := by decide +kernel
theorem dL_sum_9 : decode cL_sum 9 = .ok (.iload 4, 2) := by decide +kernel
theorem dL_sum_11 : decode cL_sum 11 = .ok (.iload_n 1, 1) := by decide +kernel
