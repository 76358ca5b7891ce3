theorem dX12_init_0 : decode cX12_init 0 = .ok (.aload_n 0, 1) := by decide +kernel
theorem dX12_init_1 : decode cX12_init 1 = .ok (.invokespecial 1, 3) := by decide +kernel
theorem dX12_init_4 : decode cX12_init 4 = .ok (.aload_n 0, 1) := by decide +kernel
theorem dX12_init_5 : decode cX12_init 5 = .ok (.bipush 7, 2) := by decide +kernel
theorem dX12_init_7 : decode cX12_init 7 = .ok (.newarray .int, 2) := by decide +kernel
theorem dX12_init_9 : decode cX12_init 9 = .ok (.putfield 7, 3) := by decide +kernel
theorem dX12_init_12 : decode cX12_init 12 = .ok (.aload_n 0, 1) := by decide +kernel
theorem dX12_init_13 : decode cX12_init 13 = .ok (.bipush 7, 2) := by decide +kernel
theorem dX12_init_15 : decode cX12_init 15 = .ok (.newarray .int, 2) := by decide +kernel
theorem dX12_init_17 : decode cX12_init 17 = .ok (.putfield 13, 3) := by decide +kernel
theorem dX12_init_20 : decode cX12_init 20 = .ok (.aload_n 0, 1) := by decide +kernel
theorem dX12_init_21 : decode cX12_init 21 = .ok (.bipush 7, 2) := by decide +kernel
theorem dX12_init_23 : decode cX12_init 23 = .ok (.newarray .int, 2) := by decide +kernel
theorem dX12_init_25 : decode cX12_init 25 = .ok (.putfield 16, 3) := by decide +kernel
theorem dX12_init_28 : decode cX12_init 28 = .ok (.aload_n 0, 1) := by decide +kernel
theorem dX12_init_29 : decode cX12_init 29 = .ok (.bipush 7, 2) := by decide +kernel
theorem dX12_init_31 : decode cX12_init 31 = .ok (.newarray .int, 2) := by decide +kernel
theorem dX12_init_33 : decode cX12_init 33 = .ok (.putfield 19, 3) := by decide +kernel
theorem dX12_init_36 : decode cX12_init 36 = .ok (.aload_n 0, 1) := by decide +kernel
theorem dX12_init_37 : decode cX12_init 37 = .ok (.bipush 7, 2) := by decide +kernel
theorem dX12_init_39 : decode cX12_init 39 = .ok (.newarray .int, 2) := by decide +kernel
theorem dX12_init_41 : decode cX12_init 41 = .ok (.putfield 22, 3) := by decide +kernel
theorem dX12_init_44 : decode cX12_init 44 = .ok (.aload_n 0, 1) := by decide +kernel
theorem dX12_init_45 : decode cX12_init 45 = .ok (.bipush 7, 2) := by decide +kernel
theorem dX12_init_47 : decode cX12_init 47 = .ok (.newarray .int, 2) := by decide +kernel
theorem dX12_init_49 : decode cX12_init 49 = .ok (.putfield 25, 3) := by decide +kernel
theorem dX12_init_52 : decode cX12_init 52 = .ok (.aload_n 0, 1) := by decide +kernel
theorem dX12_init_53 : decode cX12_init 53 = .ok (.bipush 21, 2) := by decide +kernel
theorem dX12_init_55 : decode cX12_init 55 = .ok (.newarray .int, 2) := by decide +kernel
theorem dX12_init_57 : decode cX12_init 57 = .ok (.putfield 28, 3) := by decide +kernel
theorem dX12_init_60 : decode cX12_init 60 = .ok (.aload_n 0, 1) := by decide +kernel
theorem dX12_init_61 : decode cX12_init 61 = .ok (.bipush 21, 2) := by decide +kernel
theorem dX12_init_63 : decode cX12_init 63 = .ok (.newarray .int, 2) := by decide +kernel
theorem dX12_init_65 : decode cX12_init 65 = .ok (.putfield 31, 3) := by decide +kernel
theorem dX12_init_68 : decode cX12_init 68 = .ok (.aload_n 0, 1) := by decide +kernel
theorem dX12_init_69 : decode cX12_init 69 = .ok (.bipush 21, 2) := by decide +kernel
theorem dX12_init_71 : decode cX12_init 71 = .ok (.newarray .int, 2) := by decide +kernel
theorem dX12_init_73 : decode cX12_init 73 = .ok (.putfield 34, 3) := by decide +kernel
theorem dX12_init_76 : decode cX12_init 76 = .ok (.aload_n 0, 1) := by decide +kernel
theorem dX12_init_77 : decode cX12_init 77 = .ok (.sipush 147, 3) := by decide +kernel
theorem dX12_init_80 : decode cX12_init 80 = .ok (.newarray .int, 2) := by decide +kernel
theorem dX12_init_82 : decode cX12_init 82 = .ok (.putfield 37, 3) := by decide +kernel
theorem dX12_init_85 : decode cX12_init 85 = .ok (.aload_n 0, 1) := by decide +kernel
theorem dX12_init_86 : decode cX12_init 86 = .ok (.bipush 7, 2) := by decide +kernel
theorem dX12_init_88 : decode cX12_init 88 = .ok (.newarray .boolean, 2) := by decide +kernel
theorem dX12_init_90 : decode cX12_init 90 = .ok (.putfield 40, 3) := by decide +kernel
theorem dX12_init_93 : decode cX12_init 93 = .ok (.aload_n 0, 1) := by decide +kernel
theorem dX12_init_94 : decode cX12_init 94 = .ok (.bipush 7, 2) := by decide +kernel
theorem dX12_init_96 : decode cX12_init 96 = .ok (.newarray .boolean, 2) := by decide +kernel
theorem dX12_init_98 : decode cX12_init 98 = .ok (.putfield 44, 3) := by decide +kernel
theorem dX12_init_101 : decode cX12_init 101 = .ok (.aload_n 0, 1) := by decide +kernel
theorem dX12_init_102 : decode cX12_init 102 = .ok (.bipush 7, 2) := by decide +kernel
theorem dX12_init_104 : decode cX12_init 104 = .ok (.newarray .boolean, 2) := by decide +kernel
theorem dX12_init_106 : decode cX12_init 106 = .ok (.putfield 47, 3) := by decide +kernel
theorem dX12_init_109 : decode cX12_init 109 = .ok (.aload_n 0, 1) := by decide +kernel
theorem dX12_init_110 : decode cX12_init 110 = .ok (.iconst 4, 1) := by decide +kernel
theorem dX12_init_111 : decode cX12_init 111 = .ok (.newarray .boolean, 2) := by decide +kernel
theorem dX12_init_113 : decode cX12_init 113 = .ok (.putfield 50, 3) := by decide +kernel
theorem dX12_init_116 : decode cX12_init 116 = .ok (.aload_n 0, 1) := by decide +kernel
theorem dX12_init_117 : decode cX12_init 117 = .ok (.bipush 7, 2) := by decide +kernel
theorem dX12_init_119 : decode cX12_init 119 = .ok (.newarray .boolean, 2) := by decide +kernel
theorem dX12_init_121 : decode cX12_init 121 = .ok (.putfield 53, 3) := by decide +kernel
theorem dX12_init_124 : decode cX12_init 124 = .ok (.aload_n 0, 1) := by decide +kernel
theorem dX12_init_125 : decode cX12_init 125 = .ok (.bipush 56, 2) := by decide +kernel
theorem dX12_init_127 : decode cX12_init 127 = .ok (.newarray .long, 2) := by decide +kernel
theorem dX12_init_129 : decode cX12_init 129 = .ok (.putfield 56, 3) := by decide +kernel
theorem dX12_init_132 : decode cX12_init 132 = .ok (.aload_n 0, 1) := by decide +kernel
theorem dX12_init_133 : decode cX12_init 133 = .ok (.bipush 7, 2) := by decide +kernel
theorem dX12_init_135 : decode cX12_init 135 = .ok (.newarray .long, 2) := by decide +kernel
theorem dX12_init_137 : decode cX12_init 137 = .ok (.putfield 60, 3) := by decide +kernel
theorem dX12_init_140 : decode cX12_init 140 = .ok (.aload_n 0, 1) := by decide +kernel
theorem dX12_init_141 : decode cX12_init 141 = .ok (.bipush 7, 2) := by decide +kernel
theorem dX12_init_143 : decode cX12_init 143 = .ok (.newarray .long, 2) := by decide +kernel
theorem dX12_init_145 : decode cX12_init 145 = .ok (.putfield 63, 3) := by decide +kernel
theorem dX12_init_148 : decode cX12_init 148 = .ok (.aload_n 0, 1) := by decide +kernel
theorem dX12_init_149 : decode cX12_init 149 = .ok (.bipush 7, 2) := by decide +kernel
theorem dX12_init_151 : decode cX12_init 151 = .ok (.newarray .long, 2) := by decide +kernel
theorem dX12_init_153 : decode cX12_init 153 = .ok (.putfield 66, 3) := by decide +kernel
theorem dX12_init_156 : decode cX12_init 156 = .ok (.aload_n 0, 1) := by decide +kernel
theorem dX12_init_157 : decode cX12_init 157 = .ok (.bipush 7, 2) := by decide +kernel
theorem dX12_init_159 : decode cX12_init 159 = .ok (.newarray .long, 2) := by decide +kernel
theorem dX12_init_161 : decode cX12_init 161 = .ok (.putfield 69, 3) := by decide +kernel
theorem dX12_init_164 : decode cX12_init 164 = .ok (.aload_n 0, 1) := by decide +kernel
theorem dX12_init_165 : decode cX12_init 165 = .ok (.bipush 7, 2) := by decide +kernel
theorem dX12_init_167 : decode cX12_init 167 = .ok (.newarray .long, 2) := by decide +kernel
theorem dX12_init_169 : decode cX12_init 169 = .ok (.putfield 72, 3) := by decide +kernel
theorem dX12_init_172 : decode cX12_init 172 = .ok (.aload_n 0, 1) := by decide +kernel
theorem dX12_init_173 : decode cX12_init 173 = .ok (.bipush 7, 2) := by decide +kernel
theorem dX12_init_175 : decode cX12_init 175 = .ok (.newarray .long, 2) := by decide +kernel
theorem dX12_init_177 : decode cX12_init 177 = .ok (.putfield 75, 3) := by decide +kernel
theorem dX12_init_180 : decode cX12_init 180 = .ok (.aload_n 0, 1) := by decide +kernel
theorem dX12_init_181 : decode cX12_init 181 = .ok (.bipush 28, 2) := by decide +kernel
theorem dX12_init_183 : decode cX12_init 183 = .ok (.newarray .long, 2) := by decide +kernel
theorem dX12_init_185 : decode cX12_init 185 = .ok (.putfield 78, 3) := by decide +kernel
theorem dX12_init_188 : decode cX12_init 188 = .ok (.aload_n 0, 1) := by decide +kernel
theorem dX12_init_189 : decode cX12_init 189 = .ok (.bipush 28, 2) := by decide +kernel
theorem dX12_init_191 : decode cX12_init 191 = .ok (.newarray .long, 2) := by decide +kernel
theorem dX12_init_193 : decode cX12_init 193 = .ok (.putfield 81, 3) := by decide +kernel
theorem dX12_init_196 : decode cX12_init 196 = .ok (.aload_n 0, 1) := by decide +kernel
theorem dX12_init_197 : decode cX12_init 197 = .ok (.bipush 7, 2) := by decide +kernel
theorem dX12_init_199 : decode cX12_init 199 = .ok (.newarray .long, 2) := by decide +kernel
theorem dX12_init_201 : decode cX12_init 201 = .ok (.putfield 84, 3) := by decide +kernel
theorem dX12_init_204 : decode cX12_init 204 = .ok (.aload_n 0, 1) := by decide +kernel
theorem dX12_init_205 : decode cX12_init 205 = .ok (.bipush 49, 2) := by decide +kernel
theorem dX12_init_207 : decode cX12_init 207 = .ok (.newarray .boolean, 2) := by decide +kernel
theorem dX12_init_209 : decode cX12_init 209 = .ok (.putfield 87, 3) := by decide +kernel
theorem dX12_init_212 : decode cX12_init 212 = .ok (.aload_n 0, 1) := by decide +kernel
theorem dX12_init_213 : decode cX12_init 213 = .ok (.bipush 7, 2) := by decide +kernel
theorem dX12_init_215 : decode cX12_init 215 = .ok (.newarray .int, 2) := by decide +kernel
theorem dX12_init_217 : decode cX12_init 217 = .ok (.putfield 90, 3) := by decide +kernel
theorem dX12_init_220 : decode cX12_init 220 = .ok (.aload_n 0, 1) := by decide +kernel
theorem dX12_init_221 : decode cX12_init 221 = .ok (.bipush 7, 2) := by decide +kernel
theorem dX12_init_223 : decode cX12_init 223 = .ok (.newarray .int, 2) := by decide +kernel
theorem dX12_init_225 : decode cX12_init 225 = .ok (.putfield 93, 3) := by decide +kernel
theorem dX12_init_228 : decode cX12_init 228 = .ok (.aload_n 0, 1) := by decide +kernel
theorem dX12_init_229 : decode cX12_init 229 = .ok (.bipush 7, 2) := by decide +kernel
theorem dX12_init_231 : decode cX12_init 231 = .ok (.newarray .int, 2) := by decide +kernel
theorem dX12_init_233 : decode cX12_init 233 = .ok (.putfield 96, 3) := by decide +kernel
theorem dX12_init_236 : decode cX12_init 236 = .ok (.aload_n 0, 1) := by decide +kernel
theorem dX12_init_237 : decode cX12_init 237 = .ok (.bipush 7, 2) := by decide +kernel
theorem dX12_init_239 : decode cX12_init 239 = .ok (.newarray .int, 2) := by decide +kernel
theorem dX12_init_241 : decode cX12_init 241 = .ok (.putfield 99, 3) := by decide +kernel
theorem dX12_init_244 : decode cX12_init 244 = .ok (.aload_n 0, 1) := by decide +kernel
theorem dX12_init_245 : decode cX12_init 245 = .ok (.bipush 7, 2) := by decide +kernel
theorem dX12_init_247 : decode cX12_init 247 = .ok (.newarray .double, 2) := by decide +kernel
theorem dX12_init_249 : decode cX12_init 249 = .ok (.putfield 102, 3) := by decide +kernel
theorem dX12_init_252 : decode cX12_init 252 = .ok (.aload_n 0, 1) := by decide +kernel
theorem dX12_init_253 : decode cX12_init 253 = .ok (.bipush 7, 2) := by decide +kernel
theorem dX12_init_255 : decode cX12_init 255 = .ok (.newarray .double, 2) := by decide +kernel
theorem dX12_init_257 : decode cX12_init 257 = .ok (.putfield 106, 3) := by decide +kernel
theorem dX12_init_260 : decode cX12_init 260 = .ok (.aload_n 0, 1) := by decide +kernel
theorem dX12_init_261 : decode cX12_init 261 = .ok (.iconst 1, 1) := by decide +kernel
theorem dX12_init_262 : decode cX12_init 262 = .ok (.putfield 109, 3) := by decide +kernel
theorem dX12_init_265 : decode cX12_init 265 = .ok (.aload_n 0, 1) := by decide +kernel
theorem dX12_init_266 : decode cX12_init 266 = .ok (.iconst 2, 1) := by decide +kernel
theorem dX12_init_267 : decode cX12_init 267 = .ok (.putfield 113, 3) := by decide +kernel
theorem dX12_init_270 : decode cX12_init 270 = .ok (.aload_n 0, 1) := by decide +kernel
theorem dX12_init_271 : decode cX12_init 271 = .ok (.iconst 1, 1) := by decide +kernel
theorem dX12_init_272 : decode cX12_init 272 = .ok (.putfield 116, 3) := by decide +kernel
theorem dX12_init_275 : decode cX12_init 275 = .ok (.aload_n 0, 1) := by decide +kernel
theorem dX12_init_276 : decode cX12_init 276 = .ok (.iconst 1, 1) := by decide +kernel
theorem dX12_init_277 : decode cX12_init 277 = .ok (.putfield 119, 3) := by decide +kernel
theorem dX12_init_280 : decode cX12_init 280 = .ok (.return_, 1) := by decide +kernel
theorem dX12_thrown_0 : decode cX12_thrown 0 = .ok (.aload_n 0, 1) := by decide +kernel
theorem dX12_thrown_1 : decode cX12_thrown 1 = .ok (.getfield 122, 3) := by decide +kernel
theorem dX12_thrown_4 : decode cX12_thrown 4 = .ok (.ireturn, 1) := by decide +kernel
theorem dX12_fails_0 : decode cX12_fails 0 = .ok (.aload_n 0, 1) := by decide +kernel
theorem dX12_fails_1 : decode cX12_fails 1 = .ok (.iload_n 1, 1) := by decide +kernel
theorem dX12_fails_2 : decode cX12_fails 2 = .ok (.putfield 122, 3) := by decide +kernel
theorem dX12_fails_5 : decode cX12_fails 5 = .ok (.iconst 0, 1) := by decide +kernel
theorem dX12_fails_6 : decode cX12_fails 6 = .ok (.ireturn, 1) := by decide +kernel
theorem dX12_in_0 : decode cX12_in 0 = .ok (.iload_n 0, 1) := by decide +kernel
theorem dX12_in_1 : decode cX12_in 1 = .ok (.iload_n 1, 1) := by decide +kernel
theorem dX12_in_2 : decode cX12_in 2 = .ok (.if_icmp .lt 12, 3) := by decide +kernel
theorem dX12_in_5 : decode cX12_in 5 = .ok (.iload_n 0, 1) := by decide +kernel
theorem dX12_in_6 : decode cX12_in 6 = .ok (.iload_n 2, 1) := by decide +kernel
theorem dX12_in_7 : decode cX12_in 7 = .ok (.if_icmp .gt 7, 3) := by decide +kernel
theorem dX12_in_10 : decode cX12_in 10 = .ok (.iconst 1, 1) := by decide +kernel
theorem dX12_in_11 : decode cX12_in 11 = .ok (.goto 4, 3) := by decide +kernel
theorem dX12_in_14 : decode cX12_in 14 = .ok (.iconst 0, 1) := by decide +kernel
theorem dX12_in_15 : decode cX12_in 15 = .ok (.ireturn, 1) := by decide +kernel
theorem dX12_changes_0 : decode cX12_changes 0 = .ok (.aload_n 0, 1) := by decide +kernel
theorem dX12_changes_1 : decode cX12_changes 1 = .ok (.iconst 0, 1) := by decide +kernel
theorem dX12_changes_2 : decode cX12_changes 2 = .ok (.putfield 122, 3) := by decide +kernel
theorem dX12_changes_5 : decode cX12_changes 5 = .ok (.iconst 0, 1) := by decide +kernel
theorem dX12_changes_6 : decode cX12_changes 6 = .ok (.istore_n 1, 1) := by decide +kernel
theorem dX12_changes_7 : decode cX12_changes 7 = .ok (.iload_n 1, 1) := by decide +kernel
theorem dX12_changes_8 : decode cX12_changes 8 = .ok (.iconst 4, 1) := by decide +kernel
theorem dX12_changes_9 : decode cX12_changes 9 = .ok (.if_icmp .ge 16, 3) := by decide +kernel
theorem dX12_changes_12 : decode cX12_changes 12 = .ok (.aload_n 0, 1) := by decide +kernel
theorem dX12_changes_13 : decode cX12_changes 13 = .ok (.getfield 50, 3) := by decide +kernel
theorem dX12_changes_16 : decode cX12_changes 16 = .ok (.iload_n 1, 1) := by decide +kernel
theorem dX12_changes_17 : decode cX12_changes 17 = .ok (.iconst 0, 1) := by decide +kernel
theorem dX12_changes_18 : decode cX12_changes 18 = .ok (.bastore, 1) := by decide +kernel
theorem dX12_changes_19 : decode cX12_changes 19 = .ok (.iinc 1 1, 3) := by decide +kernel
theorem dX12_changes_22 : decode cX12_changes 22 = .ok (.goto (-15), 3) := by decide +kernel
theorem dX12_changes_25 : decode cX12_changes 25 = .ok (.return_, 1) := by decide +kernel
theorem dX12_divisor_0 : decode cX12_divisor 0 = .ok (.lload_n 0, 1) := by decide +kernel
theorem dX12_divisor_1 : decode cX12_divisor 1 = .ok (.lconst 0, 1) := by decide +kernel
theorem dX12_divisor_2 : decode cX12_divisor 2 = .ok (.lcmp, 1) := by decide +kernel
theorem dX12_divisor_3 : decode cX12_divisor 3 = .ok (.ifCond .ge 8, 3) := by decide +kernel
theorem dX12_divisor_6 : decode cX12_divisor 6 = .ok (.lload_n 0, 1) := by decide +kernel
theorem dX12_divisor_7 : decode cX12_divisor 7 = .ok (.lneg, 1) := by decide +kernel
theorem dX12_divisor_8 : decode cX12_divisor 8 = .ok (.goto 4, 3) := by decide +kernel
theorem dX12_divisor_11 : decode cX12_divisor 11 = .ok (.lload_n 0, 1) := by decide +kernel
theorem dX12_divisor_12 : decode cX12_divisor 12 = .ok (.lstore 4, 2) := by decide +kernel
theorem dX12_divisor_14 : decode cX12_divisor 14 = .ok (.lload_n 2, 1) := by decide +kernel
theorem dX12_divisor_15 : decode cX12_divisor 15 = .ok (.lconst 0, 1) := by decide +kernel
theorem dX12_divisor_16 : decode cX12_divisor 16 = .ok (.lcmp, 1) := by decide +kernel
theorem dX12_divisor_17 : decode cX12_divisor 17 = .ok (.ifCond .ge 8, 3) := by decide +kernel
theorem dX12_divisor_20 : decode cX12_divisor 20 = .ok (.lload_n 2, 1) := by decide +kernel
theorem dX12_divisor_21 : decode cX12_divisor 21 = .ok (.lneg, 1) := by decide +kernel
theorem dX12_divisor_22 : decode cX12_divisor 22 = .ok (.goto 4, 3) := by decide +kernel
theorem dX12_divisor_25 : decode cX12_divisor 25 = .ok (.lload_n 2, 1) := by decide +kernel
theorem dX12_divisor_26 : decode cX12_divisor 26 = .ok (.lstore 6, 2) := by decide +kernel
theorem dX12_divisor_28 : decode cX12_divisor 28 = .ok (.lload 6, 2) := by decide +kernel
theorem dX12_divisor_30 : decode cX12_divisor 30 = .ok (.lconst 0, 1) := by decide +kernel
theorem dX12_divisor_31 : decode cX12_divisor 31 = .ok (.lcmp, 1) := by decide +kernel
theorem dX12_divisor_32 : decode cX12_divisor 32 = .ok (.ifCond .eq 21, 3) := by decide +kernel
theorem dX12_divisor_35 : decode cX12_divisor 35 = .ok (.lload 4, 2) := by decide +kernel
theorem dX12_divisor_37 : decode cX12_divisor 37 = .ok (.lload 6, 2) := by decide +kernel
theorem dX12_divisor_39 : decode cX12_divisor 39 = .ok (.lrem, 1) := by decide +kernel
theorem dX12_divisor_40 : decode cX12_divisor 40 = .ok (.lstore 8, 2) := by decide +kernel
theorem dX12_divisor_42 : decode cX12_divisor 42 = .ok (.lload 6, 2) := by decide +kernel
theorem dX12_divisor_44 : decode cX12_divisor 44 = .ok (.lstore 4, 2) := by decide +kernel
theorem dX12_divisor_46 : decode cX12_divisor 46 = .ok (.lload 8, 2) := by decide +kernel
theorem dX12_divisor_48 : decode cX12_divisor 48 = .ok (.lstore 6, 2) := by decide +kernel
theorem dX12_divisor_50 : decode cX12_divisor 50 = .ok (.goto (-22), 3) := by decide +kernel
theorem dX12_divisor_53 : decode cX12_divisor 53 = .ok (.lload 4, 2) := by decide +kernel
theorem dX12_divisor_55 : decode cX12_divisor 55 = .ok (.lreturn, 1) := by decide +kernel
theorem dX12_lowers_0 : decode cX12_lowers 0 = .ok (.lload_n 1, 1) := by decide +kernel
theorem dX12_lowers_1 : decode cX12_lowers 1 = .ok (.lload_n 3, 1) := by decide +kernel
theorem dX12_lowers_2 : decode cX12_lowers 2 = .ok (.invokestatic 125, 3) := by decide +kernel
theorem dX12_lowers_5 : decode cX12_lowers 5 = .ok (.lload_n 3, 1) := by decide +kernel
theorem dX12_lowers_6 : decode cX12_lowers 6 = .ok (.lconst 0, 1) := by decide +kernel
theorem dX12_lowers_7 : decode cX12_lowers 7 = .ok (.lcmp, 1) := by decide +kernel
theorem dX12_lowers_8 : decode cX12_lowers 8 = .ok (.ifCond .ge 9, 3) := by decide +kernel
theorem dX12_lowers_11 : decode cX12_lowers 11 = .ok (.ldc2_w 129, 3) := by decide +kernel
theorem dX12_lowers_14 : decode cX12_lowers 14 = .ok (.goto 4, 3) := by decide +kernel
theorem dX12_lowers_17 : decode cX12_lowers 17 = .ok (.lconst 1, 1) := by decide +kernel
theorem dX12_lowers_18 : decode cX12_lowers 18 = .ok (.lmul, 1) := by decide +kernel
theorem dX12_lowers_19 : decode cX12_lowers 19 = .ok (.lstore 5, 2) := by decide +kernel
theorem dX12_lowers_21 : decode cX12_lowers 21 = .ok (.aload_n 0, 1) := by decide +kernel
theorem dX12_lowers_22 : decode cX12_lowers 22 = .ok (.lload_n 1, 1) := by decide +kernel
theorem dX12_lowers_23 : decode cX12_lowers 23 = .ok (.lload 5, 2) := by decide +kernel
theorem dX12_lowers_25 : decode cX12_lowers 25 = .ok (.ldiv, 1) := by decide +kernel
theorem dX12_lowers_26 : decode cX12_lowers 26 = .ok (.putfield 131, 3) := by decide +kernel
theorem dX12_lowers_29 : decode cX12_lowers 29 = .ok (.aload_n 0, 1) := by decide +kernel
theorem dX12_lowers_30 : decode cX12_lowers 30 = .ok (.lload_n 3, 1) := by decide +kernel
theorem dX12_lowers_31 : decode cX12_lowers 31 = .ok (.lload 5, 2) := by decide +kernel
theorem dX12_lowers_33 : decode cX12_lowers 33 = .ok (.ldiv, 1) := by decide +kernel
theorem dX12_lowers_34 : decode cX12_lowers 34 = .ok (.putfield 135, 3) := by decide +kernel
theorem dX12_lowers_37 : decode cX12_lowers 37 = .ok (.return_, 1) := by decide +kernel
theorem dX12_adds_0 : decode cX12_adds 0 = .ok (.aload_n 0, 1) := by decide +kernel
theorem dX12_adds_1 : decode cX12_adds 1 = .ok (.getfield 135, 3) := by decide +kernel
theorem dX12_adds_4 : decode cX12_adds 4 = .ok (.lload_n 3, 1) := by decide +kernel
theorem dX12_adds_5 : decode cX12_adds 5 = .ok (.invokestatic 125, 3) := by decide +kernel
theorem dX12_adds_8 : decode cX12_adds 8 = .ok (.lstore 5, 2) := by decide +kernel
theorem dX12_adds_10 : decode cX12_adds 10 = .ok (.aload_n 0, 1) := by decide +kernel
theorem dX12_adds_11 : decode cX12_adds 11 = .ok (.aload_n 0, 1) := by decide +kernel
theorem dX12_adds_12 : decode cX12_adds 12 = .ok (.getfield 131, 3) := by decide +kernel
theorem dX12_adds_15 : decode cX12_adds 15 = .ok (.lload_n 3, 1) := by decide +kernel
theorem dX12_adds_16 : decode cX12_adds 16 = .ok (.lload 5, 2) := by decide +kernel
theorem dX12_adds_18 : decode cX12_adds 18 = .ok (.ldiv, 1) := by decide +kernel
theorem dX12_adds_19 : decode cX12_adds 19 = .ok (.lmul, 1) := by decide +kernel
theorem dX12_adds_20 : decode cX12_adds 20 = .ok (.lload_n 1, 1) := by decide +kernel
theorem dX12_adds_21 : decode cX12_adds 21 = .ok (.aload_n 0, 1) := by decide +kernel
theorem dX12_adds_22 : decode cX12_adds 22 = .ok (.getfield 135, 3) := by decide +kernel
theorem dX12_adds_25 : decode cX12_adds 25 = .ok (.lload 5, 2) := by decide +kernel
theorem dX12_adds_27 : decode cX12_adds 27 = .ok (.ldiv, 1) := by decide +kernel
theorem dX12_adds_28 : decode cX12_adds 28 = .ok (.lmul, 1) := by decide +kernel
theorem dX12_adds_29 : decode cX12_adds 29 = .ok (.ladd, 1) := by decide +kernel
theorem dX12_adds_30 : decode cX12_adds 30 = .ok (.aload_n 0, 1) := by decide +kernel
theorem dX12_adds_31 : decode cX12_adds 31 = .ok (.getfield 135, 3) := by decide +kernel
theorem dX12_adds_34 : decode cX12_adds 34 = .ok (.lload 5, 2) := by decide +kernel
theorem dX12_adds_36 : decode cX12_adds 36 = .ok (.ldiv, 1) := by decide +kernel
theorem dX12_adds_37 : decode cX12_adds 37 = .ok (.lload_n 3, 1) := by decide +kernel
theorem dX12_adds_38 : decode cX12_adds 38 = .ok (.lmul, 1) := by decide +kernel
theorem dX12_adds_39 : decode cX12_adds 39 = .ok (.invokevirtual 138, 3) := by decide +kernel
theorem dX12_adds_42 : decode cX12_adds 42 = .ok (.return_, 1) := by decide +kernel
theorem dX12_compare_0 : decode cX12_compare 0 = .ok (.lload_n 0, 1) := by decide +kernel
theorem dX12_compare_1 : decode cX12_compare 1 = .ok (.lstore 8, 2) := by decide +kernel
theorem dX12_compare_3 : decode cX12_compare 3 = .ok (.lload_n 2, 1) := by decide +kernel
theorem dX12_compare_4 : decode cX12_compare 4 = .ok (.lstore 10, 2) := by decide +kernel
theorem dX12_compare_6 : decode cX12_compare 6 = .ok (.lload 4, 2) := by decide +kernel
theorem dX12_compare_8 : decode cX12_compare 8 = .ok (.lstore 12, 2) := by decide +kernel
theorem dX12_compare_10 : decode cX12_compare 10 = .ok (.lload 6, 2) := by decide +kernel
theorem dX12_compare_12 : decode cX12_compare 12 = .ok (.lstore 14, 2) := by decide +kernel
theorem dX12_compare_14 : decode cX12_compare 14 = .ok (.iconst 1, 1) := by decide +kernel
theorem dX12_compare_15 : decode cX12_compare 15 = .ok (.istore 16, 2) := by decide +kernel
theorem dX12_compare_17 : decode cX12_compare 17 = .ok (.lload 8, 2) := by decide +kernel
theorem dX12_compare_19 : decode cX12_compare 19 = .ok (.lload 10, 2) := by decide +kernel
theorem dX12_compare_21 : decode cX12_compare 21 = .ok (.ldiv, 1) := by decide +kernel
theorem dX12_compare_22 : decode cX12_compare 22 = .ok (.lstore 17, 2) := by decide +kernel
theorem dX12_compare_24 : decode cX12_compare 24 = .ok (.lload 12, 2) := by decide +kernel
theorem dX12_compare_26 : decode cX12_compare 26 = .ok (.lload 14, 2) := by decide +kernel
theorem dX12_compare_28 : decode cX12_compare 28 = .ok (.ldiv, 1) := by decide +kernel
theorem dX12_compare_29 : decode cX12_compare 29 = .ok (.lstore 19, 2) := by decide +kernel
theorem dX12_compare_31 : decode cX12_compare 31 = .ok (.lload 17, 2) := by decide +kernel
theorem dX12_compare_33 : decode cX12_compare 33 = .ok (.lload 19, 2) := by decide +kernel
theorem dX12_compare_35 : decode cX12_compare 35 = .ok (.lcmp, 1) := by decide +kernel
theorem dX12_compare_36 : decode cX12_compare 36 = .ok (.ifCond .eq 20, 3) := by decide +kernel
theorem dX12_compare_39 : decode cX12_compare 39 = .ok (.lload 17, 2) := by decide +kernel
theorem dX12_compare_41 : decode cX12_compare 41 = .ok (.lload 19, 2) := by decide +kernel
theorem dX12_compare_43 : decode cX12_compare 43 = .ok (.lcmp, 1) := by decide +kernel
theorem dX12_compare_44 : decode cX12_compare 44 = .ok (.ifCond .ge 9, 3) := by decide +kernel
theorem dX12_compare_47 : decode cX12_compare 47 = .ok (.iload 16, 2) := by decide +kernel
theorem dX12_compare_49 : decode cX12_compare 49 = .ok (.ineg, 1) := by decide +kernel
theorem dX12_compare_50 : decode cX12_compare 50 = .ok (.goto 5, 3) := by decide +kernel
theorem dX12_compare_53 : decode cX12_compare 53 = .ok (.iload 16, 2) := by decide +kernel
theorem dX12_compare_55 : decode cX12_compare 55 = .ok (.ireturn, 1) := by decide +kernel
theorem dX12_compare_56 : decode cX12_compare 56 = .ok (.lload 8, 2) := by decide +kernel
theorem dX12_compare_58 : decode cX12_compare 58 = .ok (.lload 10, 2) := by decide +kernel
theorem dX12_compare_60 : decode cX12_compare 60 = .ok (.lrem, 1) := by decide +kernel
theorem dX12_compare_61 : decode cX12_compare 61 = .ok (.lstore 8, 2) := by decide +kernel
theorem dX12_compare_63 : decode cX12_compare 63 = .ok (.lload 12, 2) := by decide +kernel
theorem dX12_compare_65 : decode cX12_compare 65 = .ok (.lload 14, 2) := by decide +kernel
theorem dX12_compare_67 : decode cX12_compare 67 = .ok (.lrem, 1) := by decide +kernel
theorem dX12_compare_68 : decode cX12_compare 68 = .ok (.lstore 12, 2) := by decide +kernel
theorem dX12_compare_70 : decode cX12_compare 70 = .ok (.lload 8, 2) := by decide +kernel
theorem dX12_compare_72 : decode cX12_compare 72 = .ok (.lconst 0, 1) := by decide +kernel
theorem dX12_compare_73 : decode cX12_compare 73 = .ok (.lcmp, 1) := by decide +kernel
theorem dX12_compare_74 : decode cX12_compare 74 = .ok (.ifCond .eq 10, 3) := by decide +kernel
theorem dX12_compare_77 : decode cX12_compare 77 = .ok (.lload 12, 2) := by decide +kernel
theorem dX12_compare_79 : decode cX12_compare 79 = .ok (.lconst 0, 1) := by decide +kernel
theorem dX12_compare_80 : decode cX12_compare 80 = .ok (.lcmp, 1) := by decide +kernel
theorem dX12_compare_81 : decode cX12_compare 81 = .ok (.ifCond .ne 31, 3) := by decide +kernel
theorem dX12_compare_84 : decode cX12_compare 84 = .ok (.lload 8, 2) := by decide +kernel
theorem dX12_compare_86 : decode cX12_compare 86 = .ok (.lload 12, 2) := by decide +kernel
theorem dX12_compare_88 : decode cX12_compare 88 = .ok (.lcmp, 1) := by decide +kernel
theorem dX12_compare_89 : decode cX12_compare 89 = .ok (.ifCond .ne 7, 3) := by decide +kernel
theorem dX12_compare_92 : decode cX12_compare 92 = .ok (.iconst 0, 1) := by decide +kernel
theorem dX12_compare_93 : decode cX12_compare 93 = .ok (.goto 18, 3) := by decide +kernel
theorem dX12_compare_96 : decode cX12_compare 96 = .ok (.lload 8, 2) := by decide +kernel
theorem dX12_compare_98 : decode cX12_compare 98 = .ok (.lconst 0, 1) := by decide +kernel
theorem dX12_compare_99 : decode cX12_compare 99 = .ok (.lcmp, 1) := by decide +kernel
theorem dX12_compare_100 : decode cX12_compare 100 = .ok (.ifCond .ne 9, 3) := by decide +kernel
theorem dX12_compare_103 : decode cX12_compare 103 = .ok (.iload 16, 2) := by decide +kernel
theorem dX12_compare_105 : decode cX12_compare 105 = .ok (.ineg, 1) := by decide +kernel
theorem dX12_compare_106 : decode cX12_compare 106 = .ok (.goto 5, 3) := by decide +kernel
theorem dX12_compare_109 : decode cX12_compare 109 = .ok (.iload 16, 2) := by decide +kernel
theorem dX12_compare_111 : decode cX12_compare 111 = .ok (.ireturn, 1) := by decide +kernel
theorem dX12_compare_112 : decode cX12_compare 112 = .ok (.lload 8, 2) := by decide +kernel
theorem dX12_compare_114 : decode cX12_compare 114 = .ok (.lstore 21, 2) := by decide +kernel
theorem dX12_compare_116 : decode cX12_compare 116 = .ok (.lload 10, 2) := by decide +kernel
theorem dX12_compare_118 : decode cX12_compare 118 = .ok (.lstore 8, 2) := by decide +kernel
theorem dX12_compare_120 : decode cX12_compare 120 = .ok (.lload 21, 2) := by decide +kernel
theorem dX12_compare_122 : decode cX12_compare 122 = .ok (.lstore 10, 2) := by decide +kernel
theorem dX12_compare_124 : decode cX12_compare 124 = .ok (.lload 12, 2) := by decide +kernel
theorem dX12_compare_126 : decode cX12_compare 126 = .ok (.lstore 21, 2) := by decide +kernel
theorem dX12_compare_128 : decode cX12_compare 128 = .ok (.lload 14, 2) := by decide +kernel
theorem dX12_compare_130 : decode cX12_compare 130 = .ok (.lstore 12, 2) := by decide +kernel
theorem dX12_compare_132 : decode cX12_compare 132 = .ok (.lload 21, 2) := by decide +kernel
theorem dX12_compare_134 : decode cX12_compare 134 = .ok (.lstore 14, 2) := by decide +kernel
theorem dX12_compare_136 : decode cX12_compare 136 = .ok (.iload 16, 2) := by decide +kernel
theorem dX12_compare_138 : decode cX12_compare 138 = .ok (.ineg, 1) := by decide +kernel
theorem dX12_compare_139 : decode cX12_compare 139 = .ok (.istore 16, 2) := by decide +kernel
theorem dX12_compare_141 : decode cX12_compare 141 = .ok (.goto (-124), 3) := by decide +kernel
theorem dX12_at_0 : decode cX12_at 0 = .ok (.iconst 3, 1) := by decide +kernel
theorem dX12_at_1 : decode cX12_at 1 = .ok (.iload_n 1, 1) := by decide +kernel
theorem dX12_at_2 : decode cX12_at 2 = .ok (.imul, 1) := by decide +kernel
theorem dX12_at_3 : decode cX12_at 3 = .ok (.aload_n 0, 1) := by decide +kernel
theorem dX12_at_4 : decode cX12_at 4 = .ok (.getfield 22, 3) := by decide +kernel
theorem dX12_at_7 : decode cX12_at 7 = .ok (.iload_n 1, 1) := by decide +kernel
theorem dX12_at_8 : decode cX12_at 8 = .ok (.iaload, 1) := by decide +kernel
theorem dX12_at_9 : decode cX12_at 9 = .ok (.iadd, 1) := by decide +kernel
theorem dX12_at_10 : decode cX12_at 10 = .ok (.ireturn, 1) := by decide +kernel
theorem dX12_weightTo_0 : decode cX12_weightTo 0 = .ok (.aload_n 0, 1) := by decide +kernel
theorem dX12_weightTo_1 : decode cX12_weightTo 1 = .ok (.getfield 37, 3) := by decide +kernel
theorem dX12_weightTo_4 : decode cX12_weightTo 4 = .ok (.bipush 7, 2) := by decide +kernel
theorem dX12_weightTo_6 : decode cX12_weightTo 6 = .ok (.aload_n 0, 1) := by decide +kernel
theorem dX12_weightTo_7 : decode cX12_weightTo 7 = .ok (.iload_n 1, 1) := by decide +kernel
theorem dX12_weightTo_8 : decode cX12_weightTo 8 = .ok (.invokevirtual 142, 3) := by decide +kernel
theorem dX12_weightTo_11 : decode cX12_weightTo 11 = .ok (.imul, 1) := by decide +kernel
theorem dX12_weightTo_12 : decode cX12_weightTo 12 = .ok (.iload_n 2, 1) := by decide +kernel
theorem dX12_weightTo_13 : decode cX12_weightTo 13 = .ok (.iadd, 1) := by decide +kernel
theorem dX12_weightTo_14 : decode cX12_weightTo 14 = .ok (.iaload, 1) := by decide +kernel
theorem dX12_weightTo_15 : decode cX12_weightTo 15 = .ok (.ireturn, 1) := by decide +kernel
theorem dX12_reaches_0 : decode cX12_reaches 0 = .ok (.iconst 0, 1) := by decide +kernel
theorem dX12_reaches_1 : decode cX12_reaches 1 = .ok (.istore_n 1, 1) := by decide +kernel
theorem dX12_reaches_2 : decode cX12_reaches 2 = .ok (.iload_n 1, 1) := by decide +kernel
theorem dX12_reaches_3 : decode cX12_reaches 3 = .ok (.aload_n 0, 1) := by decide +kernel
theorem dX12_reaches_4 : decode cX12_reaches 4 = .ok (.getfield 146, 3) := by decide +kernel
theorem dX12_reaches_7 : decode cX12_reaches 7 = .ok (.if_icmp .ge 50, 3) := by decide +kernel
theorem dX12_reaches_10 : decode cX12_reaches 10 = .ok (.iconst 0, 1) := by decide +kernel
theorem dX12_reaches_11 : decode cX12_reaches 11 = .ok (.istore_n 2, 1) := by decide +kernel
theorem dX12_reaches_12 : decode cX12_reaches 12 = .ok (.iload_n 2, 1) := by decide +kernel
theorem dX12_reaches_13 : decode cX12_reaches 13 = .ok (.aload_n 0, 1) := by decide +kernel
theorem dX12_reaches_14 : decode cX12_reaches 14 = .ok (.getfield 146, 3) := by decide +kernel
theorem dX12_reaches_17 : decode cX12_reaches 17 = .ok (.if_icmp .ge 34, 3) := by decide +kernel
theorem dX12_reaches_20 : decode cX12_reaches 20 = .ok (.aload_n 0, 1) := by decide +kernel
theorem dX12_reaches_21 : decode cX12_reaches 21 = .ok (.getfield 87, 3) := by decide +kernel
theorem dX12_reaches_24 : decode cX12_reaches 24 = .ok (.bipush 7, 2) := by decide +kernel
theorem dX12_reaches_26 : decode cX12_reaches 26 = .ok (.iload_n 1, 1) := by decide +kernel
theorem dX12_reaches_27 : decode cX12_reaches 27 = .ok (.imul, 1) := by decide +kernel
theorem dX12_reaches_28 : decode cX12_reaches 28 = .ok (.iload_n 2, 1) := by decide +kernel
theorem dX12_reaches_29 : decode cX12_reaches 29 = .ok (.iadd, 1) := by decide +kernel
theorem dX12_reaches_30 : decode cX12_reaches 30 = .ok (.aload_n 0, 1) := by decide +kernel
theorem dX12_reaches_31 : decode cX12_reaches 31 = .ok (.iload_n 1, 1) := by decide +kernel
theorem dX12_reaches_32 : decode cX12_reaches 32 = .ok (.iload_n 2, 1) := by decide +kernel
theorem dX12_reaches_33 : decode cX12_reaches 33 = .ok (.invokevirtual 149, 3) := by decide +kernel
theorem dX12_reaches_36 : decode cX12_reaches 36 = .ok (.ifCond .le 7, 3) := by decide +kernel
theorem dX12_reaches_39 : decode cX12_reaches 39 = .ok (.iconst 1, 1) := by decide +kernel
theorem dX12_reaches_40 : decode cX12_reaches 40 = .ok (.goto 4, 3) := by decide +kernel
theorem dX12_reaches_43 : decode cX12_reaches 43 = .ok (.iconst 0, 1) := by decide +kernel
theorem dX12_reaches_44 : decode cX12_reaches 44 = .ok (.bastore, 1) := by decide +kernel
theorem dX12_reaches_45 : decode cX12_reaches 45 = .ok (.iinc 2 1, 3) := by decide +kernel
theorem dX12_reaches_48 : decode cX12_reaches 48 = .ok (.goto (-36), 3) := by decide +kernel
theorem dX12_reaches_51 : decode cX12_reaches 51 = .ok (.iinc 1 1, 3) := by decide +kernel
theorem dX12_reaches_54 : decode cX12_reaches 54 = .ok (.goto (-52), 3) := by decide +kernel
theorem dX12_reaches_57 : decode cX12_reaches 57 = .ok (.iconst 0, 1) := by decide +kernel
theorem dX12_reaches_58 : decode cX12_reaches 58 = .ok (.istore_n 1, 1) := by decide +kernel
theorem dX12_reaches_59 : decode cX12_reaches 59 = .ok (.iload_n 1, 1) := by decide +kernel
theorem dX12_reaches_60 : decode cX12_reaches 60 = .ok (.aload_n 0, 1) := by decide +kernel
theorem dX12_reaches_61 : decode cX12_reaches 61 = .ok (.getfield 146, 3) := by decide +kernel
theorem dX12_reaches_64 : decode cX12_reaches 64 = .ok (.if_icmp .ge 99, 3) := by decide +kernel
theorem dX12_reaches_67 : decode cX12_reaches 67 = .ok (.iconst 0, 1) := by decide +kernel
theorem dX12_reaches_68 : decode cX12_reaches 68 = .ok (.istore_n 2, 1) := by decide +kernel
theorem dX12_reaches_69 : decode cX12_reaches 69 = .ok (.iload_n 2, 1) := by decide +kernel
theorem dX12_reaches_70 : decode cX12_reaches 70 = .ok (.aload_n 0, 1) := by decide +kernel
theorem dX12_reaches_71 : decode cX12_reaches 71 = .ok (.getfield 146, 3) := by decide +kernel
theorem dX12_reaches_74 : decode cX12_reaches 74 = .ok (.if_icmp .ge 83, 3) := by decide +kernel
theorem dX12_reaches_77 : decode cX12_reaches 77 = .ok (.iconst 0, 1) := by decide +kernel
theorem dX12_reaches_78 : decode cX12_reaches 78 = .ok (.istore_n 3, 1) := by decide +kernel
theorem dX12_reaches_79 : decode cX12_reaches 79 = .ok (.iload_n 3, 1) := by decide +kernel
theorem dX12_reaches_80 : decode cX12_reaches 80 = .ok (.aload_n 0, 1) := by decide +kernel
theorem dX12_reaches_81 : decode cX12_reaches 81 = .ok (.getfield 146, 3) := by decide +kernel
theorem dX12_reaches_84 : decode cX12_reaches 84 = .ok (.if_icmp .ge 67, 3) := by decide +kernel
theorem dX12_reaches_87 : decode cX12_reaches 87 = .ok (.aload_n 0, 1) := by decide +kernel
theorem dX12_reaches_88 : decode cX12_reaches 88 = .ok (.getfield 87, 3) := by decide +kernel
theorem dX12_reaches_91 : decode cX12_reaches 91 = .ok (.bipush 7, 2) := by decide +kernel
theorem dX12_reaches_93 : decode cX12_reaches 93 = .ok (.iload_n 2, 1) := by decide +kernel
theorem dX12_reaches_94 : decode cX12_reaches 94 = .ok (.imul, 1) := by decide +kernel
theorem dX12_reaches_95 : decode cX12_reaches 95 = .ok (.iload_n 3, 1) := by decide +kernel
theorem dX12_reaches_96 : decode cX12_reaches 96 = .ok (.iadd, 1) := by decide +kernel
theorem dX12_reaches_97 : decode cX12_reaches 97 = .ok (.aload_n 0, 1) := by decide +kernel
theorem dX12_reaches_98 : decode cX12_reaches 98 = .ok (.getfield 87, 3) := by decide +kernel
theorem dX12_reaches_101 : decode cX12_reaches 101 = .ok (.bipush 7, 2) := by decide +kernel
theorem dX12_reaches_103 : decode cX12_reaches 103 = .ok (.iload_n 2, 1) := by decide +kernel
theorem dX12_reaches_104 : decode cX12_reaches 104 = .ok (.imul, 1) := by decide +kernel
theorem dX12_reaches_105 : decode cX12_reaches 105 = .ok (.iload_n 3, 1) := by decide +kernel
theorem dX12_reaches_106 : decode cX12_reaches 106 = .ok (.iadd, 1) := by decide +kernel
theorem dX12_reaches_107 : decode cX12_reaches 107 = .ok (.baload, 1) := by decide +kernel
theorem dX12_reaches_108 : decode cX12_reaches 108 = .ok (.ifCond .ne 31, 3) := by decide +kernel
theorem dX12_reaches_111 : decode cX12_reaches 111 = .ok (.aload_n 0, 1) := by decide +kernel
theorem dX12_reaches_112 : decode cX12_reaches 112 = .ok (.getfield 87, 3) := by decide +kernel
theorem dX12_reaches_115 : decode cX12_reaches 115 = .ok (.bipush 7, 2) := by decide +kernel
theorem dX12_reaches_117 : decode cX12_reaches 117 = .ok (.iload_n 2, 1) := by decide +kernel
theorem dX12_reaches_118 : decode cX12_reaches 118 = .ok (.imul, 1) := by decide +kernel
theorem dX12_reaches_119 : decode cX12_reaches 119 = .ok (.iload_n 1, 1) := by decide +kernel
theorem dX12_reaches_120 : decode cX12_reaches 120 = .ok (.iadd, 1) := by decide +kernel
theorem dX12_reaches_121 : decode cX12_reaches 121 = .ok (.baload, 1) := by decide +kernel
theorem dX12_reaches_122 : decode cX12_reaches 122 = .ok (.ifCond .eq 21, 3) := by decide +kernel
theorem dX12_reaches_125 : decode cX12_reaches 125 = .ok (.aload_n 0, 1) := by decide +kernel
theorem dX12_reaches_126 : decode cX12_reaches 126 = .ok (.getfield 87, 3) := by decide +kernel
theorem dX12_reaches_129 : decode cX12_reaches 129 = .ok (.bipush 7, 2) := by decide +kernel
theorem dX12_reaches_131 : decode cX12_reaches 131 = .ok (.iload_n 1, 1) := by decide +kernel
theorem dX12_reaches_132 : decode cX12_reaches 132 = .ok (.imul, 1) := by decide +kernel
theorem dX12_reaches_133 : decode cX12_reaches 133 = .ok (.iload_n 3, 1) := by decide +kernel
theorem dX12_reaches_134 : decode cX12_reaches 134 = .ok (.iadd, 1) := by decide +kernel
theorem dX12_reaches_135 : decode cX12_reaches 135 = .ok (.baload, 1) := by decide +kernel
theorem dX12_reaches_136 : decode cX12_reaches 136 = .ok (.ifCond .eq 7, 3) := by decide +kernel
theorem dX12_reaches_139 : decode cX12_reaches 139 = .ok (.iconst 1, 1) := by decide +kernel
theorem dX12_reaches_140 : decode cX12_reaches 140 = .ok (.goto 4, 3) := by decide +kernel
theorem dX12_reaches_143 : decode cX12_reaches 143 = .ok (.iconst 0, 1) := by decide +kernel
theorem dX12_reaches_144 : decode cX12_reaches 144 = .ok (.bastore, 1) := by decide +kernel
theorem dX12_reaches_145 : decode cX12_reaches 145 = .ok (.iinc 3 1, 3) := by decide +kernel
theorem dX12_reaches_148 : decode cX12_reaches 148 = .ok (.goto (-69), 3) := by decide +kernel
theorem dX12_reaches_151 : decode cX12_reaches 151 = .ok (.iinc 2 1, 3) := by decide +kernel
theorem dX12_reaches_154 : decode cX12_reaches 154 = .ok (.goto (-85), 3) := by decide +kernel
theorem dX12_reaches_157 : decode cX12_reaches 157 = .ok (.iinc 1 1, 3) := by decide +kernel
theorem dX12_reaches_160 : decode cX12_reaches 160 = .ok (.goto (-101), 3) := by decide +kernel
theorem dX12_reaches_163 : decode cX12_reaches 163 = .ok (.return_, 1) := by decide +kernel
theorem dX12_laysNumber_0 : decode cX12_laysNumber 0 = .ok (.iconst 0, 1) := by decide +kernel
theorem dX12_laysNumber_1 : decode cX12_laysNumber 1 = .ok (.istore 4, 2) := by decide +kernel
theorem dX12_laysNumber_3 : decode cX12_laysNumber 3 = .ok (.iload 4, 2) := by decide +kernel
theorem dX12_laysNumber_5 : decode cX12_laysNumber 5 = .ok (.bipush 8, 2) := by decide +kernel
theorem dX12_laysNumber_7 : decode cX12_laysNumber 7 = .ok (.if_icmp .ge 22, 3) := by decide +kernel
theorem dX12_laysNumber_10 : decode cX12_laysNumber 10 = .ok (.aload_n 0, 1) := by decide +kernel
theorem dX12_laysNumber_11 : decode cX12_laysNumber 11 = .ok (.getfield 56, 3) := by decide +kernel
theorem dX12_laysNumber_14 : decode cX12_laysNumber 14 = .ok (.bipush 8, 2) := by decide +kernel
theorem dX12_laysNumber_16 : decode cX12_laysNumber 16 = .ok (.iload_n 1, 1) := by decide +kernel
theorem dX12_laysNumber_17 : decode cX12_laysNumber 17 = .ok (.imul, 1) := by decide +kernel
theorem dX12_laysNumber_18 : decode cX12_laysNumber 18 = .ok (.iload 4, 2) := by decide +kernel
theorem dX12_laysNumber_20 : decode cX12_laysNumber 20 = .ok (.iadd, 1) := by decide +kernel
theorem dX12_laysNumber_21 : decode cX12_laysNumber 21 = .ok (.lconst 0, 1) := by decide +kernel
theorem dX12_laysNumber_22 : decode cX12_laysNumber 22 = .ok (.lastore, 1) := by decide +kernel
theorem dX12_laysNumber_23 : decode cX12_laysNumber 23 = .ok (.iinc 4 1, 3) := by decide +kernel
theorem dX12_laysNumber_26 : decode cX12_laysNumber 26 = .ok (.goto (-23), 3) := by decide +kernel
theorem dX12_laysNumber_29 : decode cX12_laysNumber 29 = .ok (.aload_n 0, 1) := by decide +kernel
theorem dX12_laysNumber_30 : decode cX12_laysNumber 30 = .ok (.getfield 56, 3) := by decide +kernel
theorem dX12_laysNumber_33 : decode cX12_laysNumber 33 = .ok (.bipush 8, 2) := by decide +kernel
theorem dX12_laysNumber_35 : decode cX12_laysNumber 35 = .ok (.iload_n 1, 1) := by decide +kernel
theorem dX12_laysNumber_36 : decode cX12_laysNumber 36 = .ok (.imul, 1) := by decide +kernel
theorem dX12_laysNumber_37 : decode cX12_laysNumber 37 = .ok (.iload_n 1, 1) := by decide +kernel
theorem dX12_laysNumber_38 : decode cX12_laysNumber 38 = .ok (.iadd, 1) := by decide +kernel
theorem dX12_laysNumber_39 : decode cX12_laysNumber 39 = .ok (.lconst 1, 1) := by decide +kernel
theorem dX12_laysNumber_40 : decode cX12_laysNumber 40 = .ok (.lastore, 1) := by decide +kernel
theorem dX12_laysNumber_41 : decode cX12_laysNumber 41 = .ok (.aload_n 0, 1) := by decide +kernel
theorem dX12_laysNumber_42 : decode cX12_laysNumber 42 = .ok (.getfield 56, 3) := by decide +kernel
theorem dX12_laysNumber_45 : decode cX12_laysNumber 45 = .ok (.bipush 8, 2) := by decide +kernel
theorem dX12_laysNumber_47 : decode cX12_laysNumber 47 = .ok (.iload_n 1, 1) := by decide +kernel
theorem dX12_laysNumber_48 : decode cX12_laysNumber 48 = .ok (.imul, 1) := by decide +kernel
theorem dX12_laysNumber_49 : decode cX12_laysNumber 49 = .ok (.bipush 7, 2) := by decide +kernel
theorem dX12_laysNumber_51 : decode cX12_laysNumber 51 = .ok (.iadd, 1) := by decide +kernel
theorem dX12_laysNumber_52 : decode cX12_laysNumber 52 = .ok (.lload_n 2, 1) := by decide +kernel
theorem dX12_laysNumber_53 : decode cX12_laysNumber 53 = .ok (.lastore, 1) := by decide +kernel
theorem dX12_laysNumber_54 : decode cX12_laysNumber 54 = .ok (.return_, 1) := by decide +kernel
theorem dX12_laysStep_0 : decode cX12_laysStep 0 = .ok (.iconst 0, 1) := by decide +kernel
theorem dX12_laysStep_1 : decode cX12_laysStep 1 = .ok (.istore 6, 2) := by decide +kernel
theorem dX12_laysStep_3 : decode cX12_laysStep 3 = .ok (.iload 6, 2) := by decide +kernel
theorem dX12_laysStep_5 : decode cX12_laysStep 5 = .ok (.bipush 7, 2) := by decide +kernel
theorem dX12_laysStep_7 : decode cX12_laysStep 7 = .ok (.if_icmp .ge 46, 3) := by decide +kernel
theorem dX12_laysStep_10 : decode cX12_laysStep 10 = .ok (.aload_n 0, 1) := by decide +kernel
theorem dX12_laysStep_11 : decode cX12_laysStep 11 = .ok (.getfield 56, 3) := by decide +kernel
theorem dX12_laysStep_14 : decode cX12_laysStep 14 = .ok (.bipush 8, 2) := by decide +kernel
theorem dX12_laysStep_16 : decode cX12_laysStep 16 = .ok (.iload_n 1, 1) := by decide +kernel
theorem dX12_laysStep_17 : decode cX12_laysStep 17 = .ok (.imul, 1) := by decide +kernel
theorem dX12_laysStep_18 : decode cX12_laysStep 18 = .ok (.iload 6, 2) := by decide +kernel
theorem dX12_laysStep_20 : decode cX12_laysStep 20 = .ok (.iadd, 1) := by decide +kernel
theorem dX12_laysStep_21 : decode cX12_laysStep 21 = .ok (.iload 6, 2) := by decide +kernel
theorem dX12_laysStep_23 : decode cX12_laysStep 23 = .ok (.aload_n 0, 1) := by decide +kernel
theorem dX12_laysStep_24 : decode cX12_laysStep 24 = .ok (.getfield 146, 3) := by decide +kernel
theorem dX12_laysStep_27 : decode cX12_laysStep 27 = .ok (.if_icmp .ge 18, 3) := by decide +kernel
theorem dX12_laysStep_30 : decode cX12_laysStep 30 = .ok (.iload 4, 2) := by decide +kernel
theorem dX12_laysStep_32 : decode cX12_laysStep 32 = .ok (.ineg, 1) := by decide +kernel
theorem dX12_laysStep_33 : decode cX12_laysStep 33 = .ok (.aload_n 0, 1) := by decide +kernel
theorem dX12_laysStep_34 : decode cX12_laysStep 34 = .ok (.iload_n 1, 1) := by decide +kernel
theorem dX12_laysStep_35 : decode cX12_laysStep 35 = .ok (.iload 6, 2) := by decide +kernel
theorem dX12_laysStep_37 : decode cX12_laysStep 37 = .ok (.invokevirtual 149, 3) := by decide +kernel
theorem dX12_laysStep_40 : decode cX12_laysStep 40 = .ok (.imul, 1) := by decide +kernel
theorem dX12_laysStep_41 : decode cX12_laysStep 41 = .ok (.i2l, 1) := by decide +kernel
theorem dX12_laysStep_42 : decode cX12_laysStep 42 = .ok (.goto 4, 3) := by decide +kernel
theorem dX12_laysStep_45 : decode cX12_laysStep 45 = .ok (.lconst 0, 1) := by decide +kernel
theorem dX12_laysStep_46 : decode cX12_laysStep 46 = .ok (.lastore, 1) := by decide +kernel
theorem dX12_laysStep_47 : decode cX12_laysStep 47 = .ok (.iinc 6 1, 3) := by decide +kernel
theorem dX12_laysStep_50 : decode cX12_laysStep 50 = .ok (.goto (-47), 3) := by decide +kernel
theorem dX12_laysStep_53 : decode cX12_laysStep 53 = .ok (.aload_n 0, 1) := by decide +kernel
theorem dX12_laysStep_54 : decode cX12_laysStep 54 = .ok (.getfield 56, 3) := by decide +kernel
theorem dX12_laysStep_57 : decode cX12_laysStep 57 = .ok (.bipush 8, 2) := by decide +kernel
theorem dX12_laysStep_59 : decode cX12_laysStep 59 = .ok (.iload_n 1, 1) := by decide +kernel
theorem dX12_laysStep_60 : decode cX12_laysStep 60 = .ok (.imul, 1) := by decide +kernel
theorem dX12_laysStep_61 : decode cX12_laysStep 61 = .ok (.iload_n 1, 1) := by decide +kernel
theorem dX12_laysStep_62 : decode cX12_laysStep 62 = .ok (.iadd, 1) := by decide +kernel
theorem dX12_laysStep_63 : decode cX12_laysStep 63 = .ok (.dup2, 1) := by decide +kernel
theorem dX12_laysStep_64 : decode cX12_laysStep 64 = .ok (.laload, 1) := by decide +kernel
theorem dX12_laysStep_65 : decode cX12_laysStep 65 = .ok (.iload 5, 2) := by decide +kernel
theorem dX12_laysStep_67 : decode cX12_laysStep 67 = .ok (.aload_n 0, 1) := by decide +kernel
theorem dX12_laysStep_68 : decode cX12_laysStep 68 = .ok (.getfield 34, 3) := by decide +kernel
theorem dX12_laysStep_71 : decode cX12_laysStep 71 = .ok (.aload_n 0, 1) := by decide +kernel
theorem dX12_laysStep_72 : decode cX12_laysStep 72 = .ok (.iload_n 1, 1) := by decide +kernel
theorem dX12_laysStep_73 : decode cX12_laysStep 73 = .ok (.invokevirtual 142, 3) := by decide +kernel
theorem dX12_laysStep_76 : decode cX12_laysStep 76 = .ok (.iaload, 1) := by decide +kernel
theorem dX12_laysStep_77 : decode cX12_laysStep 77 = .ok (.imul, 1) := by decide +kernel
theorem dX12_laysStep_78 : decode cX12_laysStep 78 = .ok (.i2l, 1) := by decide +kernel
theorem dX12_laysStep_79 : decode cX12_laysStep 79 = .ok (.ladd, 1) := by decide +kernel
theorem dX12_laysStep_80 : decode cX12_laysStep 80 = .ok (.lastore, 1) := by decide +kernel
theorem dX12_laysStep_81 : decode cX12_laysStep 81 = .ok (.aload_n 0, 1) := by decide +kernel
theorem dX12_laysStep_82 : decode cX12_laysStep 82 = .ok (.getfield 56, 3) := by decide +kernel
theorem dX12_laysStep_85 : decode cX12_laysStep 85 = .ok (.bipush 8, 2) := by decide +kernel
theorem dX12_laysStep_87 : decode cX12_laysStep 87 = .ok (.iload_n 1, 1) := by decide +kernel
theorem dX12_laysStep_88 : decode cX12_laysStep 88 = .ok (.imul, 1) := by decide +kernel
theorem dX12_laysStep_89 : decode cX12_laysStep 89 = .ok (.bipush 7, 2) := by decide +kernel
theorem dX12_laysStep_91 : decode cX12_laysStep 91 = .ok (.iadd, 1) := by decide +kernel
theorem dX12_laysStep_92 : decode cX12_laysStep 92 = .ok (.iload 5, 2) := by decide +kernel
theorem dX12_laysStep_94 : decode cX12_laysStep 94 = .ok (.aload_n 0, 1) := by decide +kernel
theorem dX12_laysStep_95 : decode cX12_laysStep 95 = .ok (.getfield 34, 3) := by decide +kernel
theorem dX12_laysStep_98 : decode cX12_laysStep 98 = .ok (.aload_n 0, 1) := by decide +kernel
theorem dX12_laysStep_99 : decode cX12_laysStep 99 = .ok (.iload_n 1, 1) := by decide +kernel
theorem dX12_laysStep_100 : decode cX12_laysStep 100 = .ok (.invokevirtual 142, 3) := by decide +kernel
theorem dX12_laysStep_103 : decode cX12_laysStep 103 = .ok (.iaload, 1) := by decide +kernel
theorem dX12_laysStep_104 : decode cX12_laysStep 104 = .ok (.imul, 1) := by decide +kernel
theorem dX12_laysStep_105 : decode cX12_laysStep 105 = .ok (.i2l, 1) := by decide +kernel
theorem dX12_laysStep_106 : decode cX12_laysStep 106 = .ok (.lload_n 2, 1) := by decide +kernel
theorem dX12_laysStep_107 : decode cX12_laysStep 107 = .ok (.lmul, 1) := by decide +kernel
theorem dX12_laysStep_108 : decode cX12_laysStep 108 = .ok (.lastore, 1) := by decide +kernel
theorem dX12_laysStep_109 : decode cX12_laysStep 109 = .ok (.return_, 1) := by decide +kernel
theorem dX12_solves_0 : decode cX12_solves 0 = .ok (.lconst 1, 1) := by decide +kernel
theorem dX12_solves_1 : decode cX12_solves 1 = .ok (.lstore_n 1, 1) := by decide +kernel
theorem dX12_solves_2 : decode cX12_solves 2 = .ok (.aload_n 0, 1) := by decide +kernel
theorem dX12_solves_3 : decode cX12_solves 3 = .ok (.getfield 146, 3) := by decide +kernel
theorem dX12_solves_6 : decode cX12_solves 6 = .ok (.istore_n 3, 1) := by decide +kernel
theorem dX12_solves_7 : decode cX12_solves 7 = .ok (.iload_n 3, 1) := by decide +kernel
theorem dX12_solves_8 : decode cX12_solves 8 = .ok (.bipush 7, 2) := by decide +kernel
theorem dX12_solves_10 : decode cX12_solves 10 = .ok (.if_icmp .ge 15, 3) := by decide +kernel
theorem dX12_solves_13 : decode cX12_solves 13 = .ok (.aload_n 0, 1) := by decide +kernel
theorem dX12_solves_14 : decode cX12_solves 14 = .ok (.iload_n 3, 1) := by decide +kernel
theorem dX12_solves_15 : decode cX12_solves 15 = .ok (.lconst 0, 1) := by decide +kernel
theorem dX12_solves_16 : decode cX12_solves 16 = .ok (.invokevirtual 153, 3) := by decide +kernel
theorem dX12_solves_19 : decode cX12_solves 19 = .ok (.iinc 3 1, 3) := by decide +kernel
theorem dX12_solves_22 : decode cX12_solves 22 = .ok (.goto (-15), 3) := by decide +kernel
theorem dX12_solves_25 : decode cX12_solves 25 = .ok (.iconst 0, 1) := by decide +kernel
theorem dX12_solves_26 : decode cX12_solves 26 = .ok (.istore_n 3, 1) := by decide +kernel
theorem dX12_solves_27 : decode cX12_solves 27 = .ok (.iload_n 3, 1) := by decide +kernel
theorem dX12_solves_28 : decode cX12_solves 28 = .ok (.bipush 7, 2) := by decide +kernel
theorem dX12_solves_30 : decode cX12_solves 30 = .ok (.if_icmp .ge 124, 3) := by decide +kernel
theorem dX12_solves_33 : decode cX12_solves 33 = .ok (.aload_n 0, 1) := by decide +kernel
theorem dX12_solves_34 : decode cX12_solves 34 = .ok (.getfield 56, 3) := by decide +kernel
theorem dX12_solves_37 : decode cX12_solves 37 = .ok (.bipush 8, 2) := by decide +kernel
theorem dX12_solves_39 : decode cX12_solves 39 = .ok (.iload_n 3, 1) := by decide +kernel
theorem dX12_solves_40 : decode cX12_solves 40 = .ok (.imul, 1) := by decide +kernel
theorem dX12_solves_41 : decode cX12_solves 41 = .ok (.iload_n 3, 1) := by decide +kernel
theorem dX12_solves_42 : decode cX12_solves 42 = .ok (.iadd, 1) := by decide +kernel
theorem dX12_solves_43 : decode cX12_solves 43 = .ok (.laload, 1) := by decide +kernel
theorem dX12_solves_44 : decode cX12_solves 44 = .ok (.lstore 4, 2) := by decide +kernel
theorem dX12_solves_46 : decode cX12_solves 46 = .ok (.iconst 0, 1) := by decide +kernel
theorem dX12_solves_47 : decode cX12_solves 47 = .ok (.istore 6, 2) := by decide +kernel
theorem dX12_solves_49 : decode cX12_solves 49 = .ok (.iload 6, 2) := by decide +kernel
theorem dX12_solves_51 : decode cX12_solves 51 = .ok (.bipush 7, 2) := by decide +kernel
theorem dX12_solves_53 : decode cX12_solves 53 = .ok (.if_icmp .ge 92, 3) := by decide +kernel
theorem dX12_solves_56 : decode cX12_solves 56 = .ok (.aload_n 0, 1) := by decide +kernel
theorem dX12_solves_57 : decode cX12_solves 57 = .ok (.getfield 56, 3) := by decide +kernel
theorem dX12_solves_60 : decode cX12_solves 60 = .ok (.bipush 8, 2) := by decide +kernel
theorem dX12_solves_62 : decode cX12_solves 62 = .ok (.iload 6, 2) := by decide +kernel
theorem dX12_solves_64 : decode cX12_solves 64 = .ok (.imul, 1) := by decide +kernel
theorem dX12_solves_65 : decode cX12_solves 65 = .ok (.iload_n 3, 1) := by decide +kernel
theorem dX12_solves_66 : decode cX12_solves 66 = .ok (.iadd, 1) := by decide +kernel
theorem dX12_solves_67 : decode cX12_solves 67 = .ok (.laload, 1) := by decide +kernel
theorem dX12_solves_68 : decode cX12_solves 68 = .ok (.lstore 7, 2) := by decide +kernel
theorem dX12_solves_70 : decode cX12_solves 70 = .ok (.iconst 0, 1) := by decide +kernel
theorem dX12_solves_71 : decode cX12_solves 71 = .ok (.istore 9, 2) := by decide +kernel
theorem dX12_solves_73 : decode cX12_solves 73 = .ok (.iload 9, 2) := by decide +kernel
theorem dX12_solves_75 : decode cX12_solves 75 = .ok (.bipush 8, 2) := by decide +kernel
theorem dX12_solves_77 : decode cX12_solves 77 = .ok (.if_icmp .ge 62, 3) := by decide +kernel
theorem dX12_solves_80 : decode cX12_solves 80 = .ok (.iload 6, 2) := by decide +kernel
theorem dX12_solves_82 : decode cX12_solves 82 = .ok (.iload_n 3, 1) := by decide +kernel
theorem dX12_solves_83 : decode cX12_solves 83 = .ok (.if_icmp .eq 56, 3) := by decide +kernel
theorem dX12_solves_86 : decode cX12_solves 86 = .ok (.aload_n 0, 1) := by decide +kernel
theorem dX12_solves_87 : decode cX12_solves 87 = .ok (.getfield 56, 3) := by decide +kernel
theorem dX12_solves_90 : decode cX12_solves 90 = .ok (.bipush 8, 2) := by decide +kernel
theorem dX12_solves_92 : decode cX12_solves 92 = .ok (.iload 6, 2) := by decide +kernel
theorem dX12_solves_94 : decode cX12_solves 94 = .ok (.imul, 1) := by decide +kernel
theorem dX12_solves_95 : decode cX12_solves 95 = .ok (.iload 9, 2) := by decide +kernel
theorem dX12_solves_97 : decode cX12_solves 97 = .ok (.iadd, 1) := by decide +kernel
theorem dX12_solves_98 : decode cX12_solves 98 = .ok (.lload 4, 2) := by decide +kernel
theorem dX12_solves_100 : decode cX12_solves 100 = .ok (.aload_n 0, 1) := by decide +kernel
theorem dX12_solves_101 : decode cX12_solves 101 = .ok (.getfield 56, 3) := by decide +kernel
theorem dX12_solves_104 : decode cX12_solves 104 = .ok (.bipush 8, 2) := by decide +kernel
theorem dX12_solves_106 : decode cX12_solves 106 = .ok (.iload 6, 2) := by decide +kernel
theorem dX12_solves_108 : decode cX12_solves 108 = .ok (.imul, 1) := by decide +kernel
theorem dX12_solves_109 : decode cX12_solves 109 = .ok (.iload 9, 2) := by decide +kernel
theorem dX12_solves_111 : decode cX12_solves 111 = .ok (.iadd, 1) := by decide +kernel
theorem dX12_solves_112 : decode cX12_solves 112 = .ok (.laload, 1) := by decide +kernel
theorem dX12_solves_113 : decode cX12_solves 113 = .ok (.lmul, 1) := by decide +kernel
theorem dX12_solves_114 : decode cX12_solves 114 = .ok (.lload 7, 2) := by decide +kernel
theorem dX12_solves_116 : decode cX12_solves 116 = .ok (.aload_n 0, 1) := by decide +kernel
theorem dX12_solves_117 : decode cX12_solves 117 = .ok (.getfield 56, 3) := by decide +kernel
theorem dX12_solves_120 : decode cX12_solves 120 = .ok (.bipush 8, 2) := by decide +kernel
theorem dX12_solves_122 : decode cX12_solves 122 = .ok (.iload_n 3, 1) := by decide +kernel
theorem dX12_solves_123 : decode cX12_solves 123 = .ok (.imul, 1) := by decide +kernel
theorem dX12_solves_124 : decode cX12_solves 124 = .ok (.iload 9, 2) := by decide +kernel
theorem dX12_solves_126 : decode cX12_solves 126 = .ok (.iadd, 1) := by decide +kernel
theorem dX12_solves_127 : decode cX12_solves 127 = .ok (.laload, 1) := by decide +kernel
theorem dX12_solves_128 : decode cX12_solves 128 = .ok (.lmul, 1) := by decide +kernel
theorem dX12_solves_129 : decode cX12_solves 129 = .ok (.lsub, 1) := by decide +kernel
theorem dX12_solves_130 : decode cX12_solves 130 = .ok (.lload_n 1, 1) := by decide +kernel
theorem dX12_solves_131 : decode cX12_solves 131 = .ok (.ldiv, 1) := by decide +kernel
theorem dX12_solves_132 : decode cX12_solves 132 = .ok (.lastore, 1) := by decide +kernel
theorem dX12_solves_133 : decode cX12_solves 133 = .ok (.iinc 9 1, 3) := by decide +kernel
theorem dX12_solves_136 : decode cX12_solves 136 = .ok (.goto (-63), 3) := by decide +kernel
theorem dX12_solves_139 : decode cX12_solves 139 = .ok (.iinc 6 1, 3) := by decide +kernel
theorem dX12_solves_142 : decode cX12_solves 142 = .ok (.goto (-93), 3) := by decide +kernel
theorem dX12_solves_145 : decode cX12_solves 145 = .ok (.lload 4, 2) := by decide +kernel
theorem dX12_solves_147 : decode cX12_solves 147 = .ok (.lstore_n 1, 1) := by decide +kernel
theorem dX12_solves_148 : decode cX12_solves 148 = .ok (.iinc 3 1, 3) := by decide +kernel
theorem dX12_solves_151 : decode cX12_solves 151 = .ok (.goto (-124), 3) := by decide +kernel
theorem dX12_solves_154 : decode cX12_solves 154 = .ok (.aload_n 0, 1) := by decide +kernel
theorem dX12_solves_155 : decode cX12_solves 155 = .ok (.lload_n 1, 1) := by decide +kernel
theorem dX12_solves_156 : decode cX12_solves 156 = .ok (.putfield 157, 3) := by decide +kernel
theorem dX12_solves_159 : decode cX12_solves 159 = .ok (.return_, 1) := by decide +kernel
theorem dX12_solved_0 : decode cX12_solved 0 = .ok (.aload_n 0, 1) := by decide +kernel
theorem dX12_solved_1 : decode cX12_solved 1 = .ok (.getfield 56, 3) := by decide +kernel
theorem dX12_solved_4 : decode cX12_solved 4 = .ok (.bipush 8, 2) := by decide +kernel
theorem dX12_solved_6 : decode cX12_solved 6 = .ok (.iload_n 1, 1) := by decide +kernel
theorem dX12_solved_7 : decode cX12_solved 7 = .ok (.imul, 1) := by decide +kernel
theorem dX12_solved_8 : decode cX12_solved 8 = .ok (.bipush 7, 2) := by decide +kernel
theorem dX12_solved_10 : decode cX12_solved 10 = .ok (.iadd, 1) := by decide +kernel
theorem dX12_solved_11 : decode cX12_solved 11 = .ok (.laload, 1) := by decide +kernel
theorem dX12_solved_12 : decode cX12_solved 12 = .ok (.lreturn, 1) := by decide +kernel
theorem dX12_tellsAll_0 : decode cX12_tellsAll 0 = .ok (.iconst 0, 1) := by decide +kernel
theorem dX12_tellsAll_1 : decode cX12_tellsAll 1 = .ok (.istore_n 1, 1) := by decide +kernel
theorem dX12_tellsAll_2 : decode cX12_tellsAll 2 = .ok (.iload_n 1, 1) := by decide +kernel
theorem dX12_tellsAll_3 : decode cX12_tellsAll 3 = .ok (.aload_n 0, 1) := by decide +kernel
theorem dX12_tellsAll_4 : decode cX12_tellsAll 4 = .ok (.getfield 146, 3) := by decide +kernel
theorem dX12_tellsAll_7 : decode cX12_tellsAll 7 = .ok (.if_icmp .ge 42, 3) := by decide +kernel
theorem dX12_tellsAll_10 : decode cX12_tellsAll 10 = .ok (.aload_n 0, 1) := by decide +kernel
theorem dX12_tellsAll_11 : decode cX12_tellsAll 11 = .ok (.aload_n 0, 1) := by decide +kernel
theorem dX12_tellsAll_12 : decode cX12_tellsAll 12 = .ok (.iload_n 1, 1) := by decide +kernel
theorem dX12_tellsAll_13 : decode cX12_tellsAll 13 = .ok (.invokevirtual 160, 3) := by decide +kernel
theorem dX12_tellsAll_16 : decode cX12_tellsAll 16 = .ok (.aload_n 0, 1) := by decide +kernel
theorem dX12_tellsAll_17 : decode cX12_tellsAll 17 = .ok (.getfield 157, 3) := by decide +kernel
theorem dX12_tellsAll_20 : decode cX12_tellsAll 20 = .ok (.invokevirtual 138, 3) := by decide +kernel
theorem dX12_tellsAll_23 : decode cX12_tellsAll 23 = .ok (.aload_n 0, 1) := by decide +kernel
theorem dX12_tellsAll_24 : decode cX12_tellsAll 24 = .ok (.getfield 60, 3) := by decide +kernel
theorem dX12_tellsAll_27 : decode cX12_tellsAll 27 = .ok (.iload_n 1, 1) := by decide +kernel
theorem dX12_tellsAll_28 : decode cX12_tellsAll 28 = .ok (.aload_n 0, 1) := by decide +kernel
theorem dX12_tellsAll_29 : decode cX12_tellsAll 29 = .ok (.getfield 131, 3) := by decide +kernel
theorem dX12_tellsAll_32 : decode cX12_tellsAll 32 = .ok (.lastore, 1) := by decide +kernel
theorem dX12_tellsAll_33 : decode cX12_tellsAll 33 = .ok (.aload_n 0, 1) := by decide +kernel
theorem dX12_tellsAll_34 : decode cX12_tellsAll 34 = .ok (.getfield 63, 3) := by decide +kernel
theorem dX12_tellsAll_37 : decode cX12_tellsAll 37 = .ok (.iload_n 1, 1) := by decide +kernel
theorem dX12_tellsAll_38 : decode cX12_tellsAll 38 = .ok (.aload_n 0, 1) := by decide +kernel
theorem dX12_tellsAll_39 : decode cX12_tellsAll 39 = .ok (.getfield 135, 3) := by decide +kernel
theorem dX12_tellsAll_42 : decode cX12_tellsAll 42 = .ok (.lastore, 1) := by decide +kernel
theorem dX12_tellsAll_43 : decode cX12_tellsAll 43 = .ok (.iinc 1 1, 3) := by decide +kernel
theorem dX12_tellsAll_46 : decode cX12_tellsAll 46 = .ok (.goto (-44), 3) := by decide +kernel
theorem dX12_tellsAll_49 : decode cX12_tellsAll 49 = .ok (.return_, 1) := by decide +kernel
theorem dX12_chances_0 : decode cX12_chances 0 = .ok (.aload_n 0, 1) := by decide +kernel
theorem dX12_chances_1 : decode cX12_chances 1 = .ok (.invokevirtual 164, 3) := by decide +kernel
theorem dX12_chances_4 : decode cX12_chances 4 = .ok (.iconst 0, 1) := by decide +kernel
theorem dX12_chances_5 : decode cX12_chances 5 = .ok (.istore_n 1, 1) := by decide +kernel
theorem dX12_chances_6 : decode cX12_chances 6 = .ok (.iload_n 1, 1) := by decide +kernel
theorem dX12_chances_7 : decode cX12_chances 7 = .ok (.aload_n 0, 1) := by decide +kernel
theorem dX12_chances_8 : decode cX12_chances 8 = .ok (.getfield 146, 3) := by decide +kernel
theorem dX12_chances_11 : decode cX12_chances 11 = .ok (.if_icmp .ge 103, 3) := by decide +kernel
theorem dX12_chances_14 : decode cX12_chances 14 = .ok (.iconst 0, 1) := by decide +kernel
theorem dX12_chances_15 : decode cX12_chances 15 = .ok (.istore_n 2, 1) := by decide +kernel
theorem dX12_chances_16 : decode cX12_chances 16 = .ok (.iconst 0, 1) := by decide +kernel
theorem dX12_chances_17 : decode cX12_chances 17 = .ok (.istore_n 3, 1) := by decide +kernel
theorem dX12_chances_18 : decode cX12_chances 18 = .ok (.iload_n 3, 1) := by decide +kernel
theorem dX12_chances_19 : decode cX12_chances 19 = .ok (.aload_n 0, 1) := by decide +kernel
theorem dX12_chances_20 : decode cX12_chances 20 = .ok (.getfield 146, 3) := by decide +kernel
theorem dX12_chances_23 : decode cX12_chances 23 = .ok (.if_icmp .ge 42, 3) := by decide +kernel
theorem dX12_chances_26 : decode cX12_chances 26 = .ok (.iload_n 2, 1) := by decide +kernel
theorem dX12_chances_27 : decode cX12_chances 27 = .ok (.ifCond .ne 26, 3) := by decide +kernel
theorem dX12_chances_30 : decode cX12_chances 30 = .ok (.aload_n 0, 1) := by decide +kernel
theorem dX12_chances_31 : decode cX12_chances 31 = .ok (.getfield 44, 3) := by decide +kernel
theorem dX12_chances_34 : decode cX12_chances 34 = .ok (.iload_n 3, 1) := by decide +kernel
theorem dX12_chances_35 : decode cX12_chances 35 = .ok (.baload, 1) := by decide +kernel
theorem dX12_chances_36 : decode cX12_chances 36 = .ok (.ifCond .eq 21, 3) := by decide +kernel
theorem dX12_chances_39 : decode cX12_chances 39 = .ok (.aload_n 0, 1) := by decide +kernel
theorem dX12_chances_40 : decode cX12_chances 40 = .ok (.getfield 87, 3) := by decide +kernel
theorem dX12_chances_43 : decode cX12_chances 43 = .ok (.bipush 7, 2) := by decide +kernel
theorem dX12_chances_45 : decode cX12_chances 45 = .ok (.iload_n 1, 1) := by decide +kernel
theorem dX12_chances_46 : decode cX12_chances 46 = .ok (.imul, 1) := by decide +kernel
theorem dX12_chances_47 : decode cX12_chances 47 = .ok (.iload_n 3, 1) := by decide +kernel
theorem dX12_chances_48 : decode cX12_chances 48 = .ok (.iadd, 1) := by decide +kernel
theorem dX12_chances_49 : decode cX12_chances 49 = .ok (.baload, 1) := by decide +kernel
theorem dX12_chances_50 : decode cX12_chances 50 = .ok (.ifCond .eq 7, 3) := by decide +kernel
theorem dX12_chances_53 : decode cX12_chances 53 = .ok (.iconst 1, 1) := by decide +kernel
theorem dX12_chances_54 : decode cX12_chances 54 = .ok (.goto 4, 3) := by decide +kernel
theorem dX12_chances_57 : decode cX12_chances 57 = .ok (.iconst 0, 1) := by decide +kernel
theorem dX12_chances_58 : decode cX12_chances 58 = .ok (.istore_n 2, 1) := by decide +kernel
theorem dX12_chances_59 : decode cX12_chances 59 = .ok (.iinc 3 1, 3) := by decide +kernel
theorem dX12_chances_62 : decode cX12_chances 62 = .ok (.goto (-44), 3) := by decide +kernel
theorem dX12_chances_65 : decode cX12_chances 65 = .ok (.aload_n 0, 1) := by decide +kernel
theorem dX12_chances_66 : decode cX12_chances 66 = .ok (.getfield 44, 3) := by decide +kernel
theorem dX12_chances_69 : decode cX12_chances 69 = .ok (.iload_n 1, 1) := by decide +kernel
theorem dX12_chances_70 : decode cX12_chances 70 = .ok (.baload, 1) := by decide +kernel
theorem dX12_chances_71 : decode cX12_chances 71 = .ok (.ifCond .ne 7, 3) := by decide +kernel
theorem dX12_chances_74 : decode cX12_chances 74 = .ok (.iload_n 2, 1) := by decide +kernel
theorem dX12_chances_75 : decode cX12_chances 75 = .ok (.ifCond .ne 25, 3) := by decide +kernel
theorem dX12_chances_78 : decode cX12_chances 78 = .ok (.aload_n 0, 1) := by decide +kernel
theorem dX12_chances_79 : decode cX12_chances 79 = .ok (.iload_n 1, 1) := by decide +kernel
theorem dX12_chances_80 : decode cX12_chances 80 = .ok (.aload_n 0, 1) := by decide +kernel
theorem dX12_chances_81 : decode cX12_chances 81 = .ok (.getfield 44, 3) := by decide +kernel
theorem dX12_chances_84 : decode cX12_chances 84 = .ok (.iload_n 1, 1) := by decide +kernel
theorem dX12_chances_85 : decode cX12_chances 85 = .ok (.baload, 1) := by decide +kernel
theorem dX12_chances_86 : decode cX12_chances 86 = .ok (.ifCond .eq 7, 3) := by decide +kernel
theorem dX12_chances_89 : decode cX12_chances 89 = .ok (.lconst 1, 1) := by decide +kernel
theorem dX12_chances_90 : decode cX12_chances 90 = .ok (.goto 4, 3) := by decide +kernel
theorem dX12_chances_93 : decode cX12_chances 93 = .ok (.lconst 0, 1) := by decide +kernel
theorem dX12_chances_94 : decode cX12_chances 94 = .ok (.invokevirtual 153, 3) := by decide +kernel
theorem dX12_chances_97 : decode cX12_chances 97 = .ok (.goto 11, 3) := by decide +kernel
theorem dX12_chances_100 : decode cX12_chances 100 = .ok (.aload_n 0, 1) := by decide +kernel
theorem dX12_chances_101 : decode cX12_chances 101 = .ok (.iload_n 1, 1) := by decide +kernel
theorem dX12_chances_102 : decode cX12_chances 102 = .ok (.lconst 0, 1) := by decide +kernel
theorem dX12_chances_103 : decode cX12_chances 103 = .ok (.iconst 1, 1) := by decide +kernel
theorem dX12_chances_104 : decode cX12_chances 104 = .ok (.iconst 1, 1) := by decide +kernel
theorem dX12_chances_105 : decode cX12_chances 105 = .ok (.invokevirtual 167, 3) := by decide +kernel
theorem dX12_chances_108 : decode cX12_chances 108 = .ok (.iinc 1 1, 3) := by decide +kernel
theorem dX12_chances_111 : decode cX12_chances 111 = .ok (.goto (-105), 3) := by decide +kernel
theorem dX12_chances_114 : decode cX12_chances 114 = .ok (.aload_n 0, 1) := by decide +kernel
theorem dX12_chances_115 : decode cX12_chances 115 = .ok (.invokevirtual 171, 3) := by decide +kernel
theorem dX12_chances_118 : decode cX12_chances 118 = .ok (.return_, 1) := by decide +kernel
theorem dX12_cost_0 : decode cX12_cost 0 = .ok (.iload_n 1, 1) := by decide +kernel
theorem dX12_cost_1 : decode cX12_cost 1 = .ok (.bipush 102, 2) := by decide +kernel
theorem dX12_cost_3 : decode cX12_cost 3 = .ok (.if_icmp .eq 9, 3) := by decide +kernel
theorem dX12_cost_6 : decode cX12_cost 6 = .ok (.iload_n 1, 1) := by decide +kernel
theorem dX12_cost_7 : decode cX12_cost 7 = .ok (.bipush 109, 2) := by decide +kernel
theorem dX12_cost_9 : decode cX12_cost 9 = .ok (.if_icmp .ne 12, 3) := by decide +kernel
theorem dX12_cost_12 : decode cX12_cost 12 = .ok (.aload_n 0, 1) := by decide +kernel
theorem dX12_cost_13 : decode cX12_cost 13 = .ok (.getfield 28, 3) := by decide +kernel
theorem dX12_cost_16 : decode cX12_cost 16 = .ok (.iload_n 2, 1) := by decide +kernel
theorem dX12_cost_17 : decode cX12_cost 17 = .ok (.iaload, 1) := by decide +kernel
theorem dX12_cost_18 : decode cX12_cost 18 = .ok (.goto 41, 3) := by decide +kernel
theorem dX12_cost_21 : decode cX12_cost 21 = .ok (.iload_n 1, 1) := by decide +kernel
theorem dX12_cost_22 : decode cX12_cost 22 = .ok (.bipush 115, 2) := by decide +kernel
theorem dX12_cost_24 : decode cX12_cost 24 = .ok (.if_icmp .ne 12, 3) := by decide +kernel
theorem dX12_cost_27 : decode cX12_cost 27 = .ok (.aload_n 0, 1) := by decide +kernel
theorem dX12_cost_28 : decode cX12_cost 28 = .ok (.getfield 31, 3) := by decide +kernel
theorem dX12_cost_31 : decode cX12_cost 31 = .ok (.iload_n 2, 1) := by decide +kernel
theorem dX12_cost_32 : decode cX12_cost 32 = .ok (.iaload, 1) := by decide +kernel
theorem dX12_cost_33 : decode cX12_cost 33 = .ok (.goto 26, 3) := by decide +kernel
theorem dX12_cost_36 : decode cX12_cost 36 = .ok (.aload_n 0, 1) := by decide +kernel
theorem dX12_cost_37 : decode cX12_cost 37 = .ok (.getfield 116, 3) := by decide +kernel
theorem dX12_cost_40 : decode cX12_cost 40 = .ok (.aload_n 0, 1) := by decide +kernel
theorem dX12_cost_41 : decode cX12_cost 41 = .ok (.getfield 28, 3) := by decide +kernel
theorem dX12_cost_44 : decode cX12_cost 44 = .ok (.iload_n 2, 1) := by decide +kernel
theorem dX12_cost_45 : decode cX12_cost 45 = .ok (.iaload, 1) := by decide +kernel
theorem dX12_cost_46 : decode cX12_cost 46 = .ok (.imul, 1) := by decide +kernel
theorem dX12_cost_47 : decode cX12_cost 47 = .ok (.aload_n 0, 1) := by decide +kernel
theorem dX12_cost_48 : decode cX12_cost 48 = .ok (.getfield 119, 3) := by decide +kernel
theorem dX12_cost_51 : decode cX12_cost 51 = .ok (.aload_n 0, 1) := by decide +kernel
theorem dX12_cost_52 : decode cX12_cost 52 = .ok (.getfield 31, 3) := by decide +kernel
theorem dX12_cost_55 : decode cX12_cost 55 = .ok (.iload_n 2, 1) := by decide +kernel
theorem dX12_cost_56 : decode cX12_cost 56 = .ok (.iaload, 1) := by decide +kernel
theorem dX12_cost_57 : decode cX12_cost 57 = .ok (.imul, 1) := by decide +kernel
theorem dX12_cost_58 : decode cX12_cost 58 = .ok (.iadd, 1) := by decide +kernel
theorem dX12_cost_59 : decode cX12_cost 59 = .ok (.ireturn, 1) := by decide +kernel
theorem dX12_isClosed_0 : decode cX12_isClosed 0 = .ok (.iconst 0, 1) := by decide +kernel
theorem dX12_isClosed_1 : decode cX12_isClosed 1 = .ok (.istore_n 2, 1) := by decide +kernel
theorem dX12_isClosed_2 : decode cX12_isClosed 2 = .ok (.iload_n 2, 1) := by decide +kernel
theorem dX12_isClosed_3 : decode cX12_isClosed 3 = .ok (.aload_n 0, 1) := by decide +kernel
theorem dX12_isClosed_4 : decode cX12_isClosed 4 = .ok (.getfield 146, 3) := by decide +kernel
theorem dX12_isClosed_7 : decode cX12_isClosed 7 = .ok (.if_icmp .ge 39, 3) := by decide +kernel
theorem dX12_isClosed_10 : decode cX12_isClosed 10 = .ok (.aload_n 0, 1) := by decide +kernel
theorem dX12_isClosed_11 : decode cX12_isClosed 11 = .ok (.getfield 87, 3) := by decide +kernel
theorem dX12_isClosed_14 : decode cX12_isClosed 14 = .ok (.bipush 7, 2) := by decide +kernel
theorem dX12_isClosed_16 : decode cX12_isClosed 16 = .ok (.iload_n 1, 1) := by decide +kernel
theorem dX12_isClosed_17 : decode cX12_isClosed 17 = .ok (.imul, 1) := by decide +kernel
theorem dX12_isClosed_18 : decode cX12_isClosed 18 = .ok (.iload_n 2, 1) := by decide +kernel
theorem dX12_isClosed_19 : decode cX12_isClosed 19 = .ok (.iadd, 1) := by decide +kernel
theorem dX12_isClosed_20 : decode cX12_isClosed 20 = .ok (.baload, 1) := by decide +kernel
theorem dX12_isClosed_21 : decode cX12_isClosed 21 = .ok (.ifCond .eq 19, 3) := by decide +kernel
theorem dX12_isClosed_24 : decode cX12_isClosed 24 = .ok (.aload_n 0, 1) := by decide +kernel
theorem dX12_isClosed_25 : decode cX12_isClosed 25 = .ok (.getfield 87, 3) := by decide +kernel
theorem dX12_isClosed_28 : decode cX12_isClosed 28 = .ok (.bipush 7, 2) := by decide +kernel
theorem dX12_isClosed_30 : decode cX12_isClosed 30 = .ok (.iload_n 2, 1) := by decide +kernel
theorem dX12_isClosed_31 : decode cX12_isClosed 31 = .ok (.imul, 1) := by decide +kernel
theorem dX12_isClosed_32 : decode cX12_isClosed 32 = .ok (.iload_n 1, 1) := by decide +kernel
theorem dX12_isClosed_33 : decode cX12_isClosed 33 = .ok (.iadd, 1) := by decide +kernel
theorem dX12_isClosed_34 : decode cX12_isClosed 34 = .ok (.baload, 1) := by decide +kernel
theorem dX12_isClosed_35 : decode cX12_isClosed 35 = .ok (.ifCond .ne 5, 3) := by decide +kernel
theorem dX12_isClosed_38 : decode cX12_isClosed 38 = .ok (.iconst 0, 1) := by decide +kernel
theorem dX12_isClosed_39 : decode cX12_isClosed 39 = .ok (.ireturn, 1) := by decide +kernel
theorem dX12_isClosed_40 : decode cX12_isClosed 40 = .ok (.iinc 2 1, 3) := by decide +kernel
theorem dX12_isClosed_43 : decode cX12_isClosed 43 = .ok (.goto (-41), 3) := by decide +kernel
theorem dX12_isClosed_46 : decode cX12_isClosed 46 = .ok (.aload_n 0, 1) := by decide +kernel
theorem dX12_isClosed_47 : decode cX12_isClosed 47 = .ok (.getfield 87, 3) := by decide +kernel
theorem dX12_isClosed_50 : decode cX12_isClosed 50 = .ok (.bipush 7, 2) := by decide +kernel
theorem dX12_isClosed_52 : decode cX12_isClosed 52 = .ok (.iload_n 1, 1) := by decide +kernel
theorem dX12_isClosed_53 : decode cX12_isClosed 53 = .ok (.imul, 1) := by decide +kernel
theorem dX12_isClosed_54 : decode cX12_isClosed 54 = .ok (.iload_n 1, 1) := by decide +kernel
theorem dX12_isClosed_55 : decode cX12_isClosed 55 = .ok (.iadd, 1) := by decide +kernel
theorem dX12_isClosed_56 : decode cX12_isClosed 56 = .ok (.baload, 1) := by decide +kernel
theorem dX12_isClosed_57 : decode cX12_isClosed 57 = .ok (.ireturn, 1) := by decide +kernel
theorem dX12_areTogether_0 : decode cX12_areTogether 0 = .ok (.iload_n 1, 1) := by decide +kernel
theorem dX12_areTogether_1 : decode cX12_areTogether 1 = .ok (.iload_n 2, 1) := by decide +kernel
theorem dX12_areTogether_2 : decode cX12_areTogether 2 = .ok (.if_icmp .eq 31, 3) := by decide +kernel
theorem dX12_areTogether_5 : decode cX12_areTogether 5 = .ok (.aload_n 0, 1) := by decide +kernel
theorem dX12_areTogether_6 : decode cX12_areTogether 6 = .ok (.getfield 87, 3) := by decide +kernel
theorem dX12_areTogether_9 : decode cX12_areTogether 9 = .ok (.bipush 7, 2) := by decide +kernel
theorem dX12_areTogether_11 : decode cX12_areTogether 11 = .ok (.iload_n 1, 1) := by decide +kernel
theorem dX12_areTogether_12 : decode cX12_areTogether 12 = .ok (.imul, 1) := by decide +kernel
theorem dX12_areTogether_13 : decode cX12_areTogether 13 = .ok (.iload_n 2, 1) := by decide +kernel
theorem dX12_areTogether_14 : decode cX12_areTogether 14 = .ok (.iadd, 1) := by decide +kernel
theorem dX12_areTogether_15 : decode cX12_areTogether 15 = .ok (.baload, 1) := by decide +kernel
theorem dX12_areTogether_16 : decode cX12_areTogether 16 = .ok (.ifCond .eq 21, 3) := by decide +kernel
theorem dX12_areTogether_19 : decode cX12_areTogether 19 = .ok (.aload_n 0, 1) := by decide +kernel
theorem dX12_areTogether_20 : decode cX12_areTogether 20 = .ok (.getfield 87, 3) := by decide +kernel
theorem dX12_areTogether_23 : decode cX12_areTogether 23 = .ok (.bipush 7, 2) := by decide +kernel
theorem dX12_areTogether_25 : decode cX12_areTogether 25 = .ok (.iload_n 2, 1) := by decide +kernel
theorem dX12_areTogether_26 : decode cX12_areTogether 26 = .ok (.imul, 1) := by decide +kernel
theorem dX12_areTogether_27 : decode cX12_areTogether 27 = .ok (.iload_n 1, 1) := by decide +kernel
theorem dX12_areTogether_28 : decode cX12_areTogether 28 = .ok (.iadd, 1) := by decide +kernel
theorem dX12_areTogether_29 : decode cX12_areTogether 29 = .ok (.baload, 1) := by decide +kernel
theorem dX12_areTogether_30 : decode cX12_areTogether 30 = .ok (.ifCond .eq 7, 3) := by decide +kernel
theorem dX12_areTogether_33 : decode cX12_areTogether 33 = .ok (.iconst 1, 1) := by decide +kernel
theorem dX12_areTogether_34 : decode cX12_areTogether 34 = .ok (.goto 4, 3) := by decide +kernel
theorem dX12_areTogether_37 : decode cX12_areTogether 37 = .ok (.iconst 0, 1) := by decide +kernel
theorem dX12_areTogether_38 : decode cX12_areTogether 38 = .ok (.ireturn, 1) := by decide +kernel
theorem dX12_lowestOf_0 : decode cX12_lowestOf 0 = .ok (.iconst 0, 1) := by decide +kernel
theorem dX12_lowestOf_1 : decode cX12_lowestOf 1 = .ok (.istore_n 2, 1) := by decide +kernel
theorem dX12_lowestOf_2 : decode cX12_lowestOf 2 = .ok (.iload_n 2, 1) := by decide +kernel
theorem dX12_lowestOf_3 : decode cX12_lowestOf 3 = .ok (.iload_n 1, 1) := by decide +kernel
theorem dX12_lowestOf_4 : decode cX12_lowestOf 4 = .ok (.if_icmp .ge 20, 3) := by decide +kernel
theorem dX12_lowestOf_7 : decode cX12_lowestOf 7 = .ok (.aload_n 0, 1) := by decide +kernel
theorem dX12_lowestOf_8 : decode cX12_lowestOf 8 = .ok (.iload_n 2, 1) := by decide +kernel
theorem dX12_lowestOf_9 : decode cX12_lowestOf 9 = .ok (.iload_n 1, 1) := by decide +kernel
theorem dX12_lowestOf_10 : decode cX12_lowestOf 10 = .ok (.invokevirtual 174, 3) := by decide +kernel
theorem dX12_lowestOf_13 : decode cX12_lowestOf 13 = .ok (.ifCond .eq 5, 3) := by decide +kernel
theorem dX12_lowestOf_16 : decode cX12_lowestOf 16 = .ok (.iload_n 2, 1) := by decide +kernel
theorem dX12_lowestOf_17 : decode cX12_lowestOf 17 = .ok (.ireturn, 1) := by decide +kernel
theorem dX12_lowestOf_18 : decode cX12_lowestOf 18 = .ok (.iinc 2 1, 3) := by decide +kernel
theorem dX12_lowestOf_21 : decode cX12_lowestOf 21 = .ok (.goto (-19), 3) := by decide +kernel
theorem dX12_lowestOf_24 : decode cX12_lowestOf 24 = .ok (.iload_n 1, 1) := by decide +kernel
theorem dX12_lowestOf_25 : decode cX12_lowestOf 25 = .ok (.ireturn, 1) := by decide +kernel
theorem dX12_cycle_0 : decode cX12_cycle 0 = .ok (.iconst 0, 1) := by decide +kernel
theorem dX12_cycle_1 : decode cX12_cycle 1 = .ok (.istore_n 3, 1) := by decide +kernel
theorem dX12_cycle_2 : decode cX12_cycle 2 = .ok (.iload_n 3, 1) := by decide +kernel
theorem dX12_cycle_3 : decode cX12_cycle 3 = .ok (.aload_n 0, 1) := by decide +kernel
theorem dX12_cycle_4 : decode cX12_cycle 4 = .ok (.getfield 146, 3) := by decide +kernel
theorem dX12_cycle_7 : decode cX12_cycle 7 = .ok (.if_icmp .ge 59, 3) := by decide +kernel
theorem dX12_cycle_10 : decode cX12_cycle 10 = .ok (.iload_n 3, 1) := by decide +kernel
theorem dX12_cycle_11 : decode cX12_cycle 11 = .ok (.iload_n 1, 1) := by decide +kernel
theorem dX12_cycle_12 : decode cX12_cycle 12 = .ok (.if_icmp .eq 12, 3) := by decide +kernel
theorem dX12_cycle_15 : decode cX12_cycle 15 = .ok (.aload_n 0, 1) := by decide +kernel
theorem dX12_cycle_16 : decode cX12_cycle 16 = .ok (.iload_n 3, 1) := by decide +kernel
theorem dX12_cycle_17 : decode cX12_cycle 17 = .ok (.iload_n 1, 1) := by decide +kernel
theorem dX12_cycle_18 : decode cX12_cycle 18 = .ok (.invokevirtual 174, 3) := by decide +kernel
theorem dX12_cycle_21 : decode cX12_cycle 21 = .ok (.ifCond .ne 12, 3) := by decide +kernel
theorem dX12_cycle_24 : decode cX12_cycle 24 = .ok (.aload_n 0, 1) := by decide +kernel
theorem dX12_cycle_25 : decode cX12_cycle 25 = .ok (.iload_n 3, 1) := by decide +kernel
theorem dX12_cycle_26 : decode cX12_cycle 26 = .ok (.lconst 0, 1) := by decide +kernel
theorem dX12_cycle_27 : decode cX12_cycle 27 = .ok (.invokevirtual 153, 3) := by decide +kernel
theorem dX12_cycle_30 : decode cX12_cycle 30 = .ok (.goto 30, 3) := by decide +kernel
theorem dX12_cycle_33 : decode cX12_cycle 33 = .ok (.aload_n 0, 1) := by decide +kernel
theorem dX12_cycle_34 : decode cX12_cycle 34 = .ok (.iload_n 3, 1) := by decide +kernel
theorem dX12_cycle_35 : decode cX12_cycle 35 = .ok (.iload_n 2, 1) := by decide +kernel
theorem dX12_cycle_36 : decode cX12_cycle 36 = .ok (.ifCond .eq 18, 3) := by decide +kernel
theorem dX12_cycle_39 : decode cX12_cycle 39 = .ok (.aload_n 0, 1) := by decide +kernel
theorem dX12_cycle_40 : decode cX12_cycle 40 = .ok (.bipush 109, 2) := by decide +kernel
theorem dX12_cycle_42 : decode cX12_cycle 42 = .ok (.aload_n 0, 1) := by decide +kernel
theorem dX12_cycle_43 : decode cX12_cycle 43 = .ok (.iload_n 3, 1) := by decide +kernel
theorem dX12_cycle_44 : decode cX12_cycle 44 = .ok (.invokevirtual 142, 3) := by decide +kernel
theorem dX12_cycle_47 : decode cX12_cycle 47 = .ok (.invokevirtual 178, 3) := by decide +kernel
theorem dX12_cycle_50 : decode cX12_cycle 50 = .ok (.i2l, 1) := by decide +kernel
theorem dX12_cycle_51 : decode cX12_cycle 51 = .ok (.goto 4, 3) := by decide +kernel
theorem dX12_cycle_54 : decode cX12_cycle 54 = .ok (.lconst 1, 1) := by decide +kernel
theorem dX12_cycle_55 : decode cX12_cycle 55 = .ok (.iconst 1, 1) := by decide +kernel
theorem dX12_cycle_56 : decode cX12_cycle 56 = .ok (.iconst 1, 1) := by decide +kernel
theorem dX12_cycle_57 : decode cX12_cycle 57 = .ok (.invokevirtual 167, 3) := by decide +kernel
theorem dX12_cycle_60 : decode cX12_cycle 60 = .ok (.iinc 3 1, 3) := by decide +kernel
theorem dX12_cycle_63 : decode cX12_cycle 63 = .ok (.goto (-61), 3) := by decide +kernel
theorem dX12_cycle_66 : decode cX12_cycle 66 = .ok (.aload_n 0, 1) := by decide +kernel
theorem dX12_cycle_67 : decode cX12_cycle 67 = .ok (.invokevirtual 171, 3) := by decide +kernel
theorem dX12_cycle_70 : decode cX12_cycle 70 = .ok (.aload_n 0, 1) := by decide +kernel
theorem dX12_cycle_71 : decode cX12_cycle 71 = .ok (.getfield 34, 3) := by decide +kernel
theorem dX12_cycle_74 : decode cX12_cycle 74 = .ok (.aload_n 0, 1) := by decide +kernel
theorem dX12_cycle_75 : decode cX12_cycle 75 = .ok (.iload_n 1, 1) := by decide +kernel
theorem dX12_cycle_76 : decode cX12_cycle 76 = .ok (.invokevirtual 142, 3) := by decide +kernel
theorem dX12_cycle_79 : decode cX12_cycle 79 = .ok (.iaload, 1) := by decide +kernel
theorem dX12_cycle_80 : decode cX12_cycle 80 = .ok (.i2l, 1) := by decide +kernel
theorem dX12_cycle_81 : decode cX12_cycle 81 = .ok (.iload_n 2, 1) := by decide +kernel
theorem dX12_cycle_82 : decode cX12_cycle 82 = .ok (.ifCond .eq 18, 3) := by decide +kernel
theorem dX12_cycle_85 : decode cX12_cycle 85 = .ok (.aload_n 0, 1) := by decide +kernel
theorem dX12_cycle_86 : decode cX12_cycle 86 = .ok (.bipush 109, 2) := by decide +kernel
theorem dX12_cycle_88 : decode cX12_cycle 88 = .ok (.aload_n 0, 1) := by decide +kernel
theorem dX12_cycle_89 : decode cX12_cycle 89 = .ok (.iload_n 1, 1) := by decide +kernel
theorem dX12_cycle_90 : decode cX12_cycle 90 = .ok (.invokevirtual 142, 3) := by decide +kernel
theorem dX12_cycle_93 : decode cX12_cycle 93 = .ok (.invokevirtual 178, 3) := by decide +kernel
theorem dX12_cycle_96 : decode cX12_cycle 96 = .ok (.i2l, 1) := by decide +kernel
theorem dX12_cycle_97 : decode cX12_cycle 97 = .ok (.goto 4, 3) := by decide +kernel
theorem dX12_cycle_100 : decode cX12_cycle 100 = .ok (.lconst 1, 1) := by decide +kernel
theorem dX12_cycle_101 : decode cX12_cycle 101 = .ok (.lmul, 1) := by decide +kernel
theorem dX12_cycle_102 : decode cX12_cycle 102 = .ok (.aload_n 0, 1) := by decide +kernel
theorem dX12_cycle_103 : decode cX12_cycle 103 = .ok (.getfield 157, 3) := by decide +kernel
theorem dX12_cycle_106 : decode cX12_cycle 106 = .ok (.lmul, 1) := by decide +kernel
theorem dX12_cycle_107 : decode cX12_cycle 107 = .ok (.lstore_n 3, 1) := by decide +kernel
theorem dX12_cycle_108 : decode cX12_cycle 108 = .ok (.iconst 0, 1) := by decide +kernel
theorem dX12_cycle_109 : decode cX12_cycle 109 = .ok (.istore 5, 2) := by decide +kernel
theorem dX12_cycle_111 : decode cX12_cycle 111 = .ok (.iload 5, 2) := by decide +kernel
theorem dX12_cycle_113 : decode cX12_cycle 113 = .ok (.aload_n 0, 1) := by decide +kernel
theorem dX12_cycle_114 : decode cX12_cycle 114 = .ok (.getfield 146, 3) := by decide +kernel
theorem dX12_cycle_117 : decode cX12_cycle 117 = .ok (.if_icmp .ge 27, 3) := by decide +kernel
theorem dX12_cycle_120 : decode cX12_cycle 120 = .ok (.lload_n 3, 1) := by decide +kernel
theorem dX12_cycle_121 : decode cX12_cycle 121 = .ok (.aload_n 0, 1) := by decide +kernel
theorem dX12_cycle_122 : decode cX12_cycle 122 = .ok (.iload_n 1, 1) := by decide +kernel
theorem dX12_cycle_123 : decode cX12_cycle 123 = .ok (.iload 5, 2) := by decide +kernel
theorem dX12_cycle_125 : decode cX12_cycle 125 = .ok (.invokevirtual 149, 3) := by decide +kernel
theorem dX12_cycle_128 : decode cX12_cycle 128 = .ok (.i2l, 1) := by decide +kernel
theorem dX12_cycle_129 : decode cX12_cycle 129 = .ok (.aload_n 0, 1) := by decide +kernel
theorem dX12_cycle_130 : decode cX12_cycle 130 = .ok (.iload 5, 2) := by decide +kernel
theorem dX12_cycle_132 : decode cX12_cycle 132 = .ok (.invokevirtual 160, 3) := by decide +kernel
theorem dX12_cycle_135 : decode cX12_cycle 135 = .ok (.lmul, 1) := by decide +kernel
theorem dX12_cycle_136 : decode cX12_cycle 136 = .ok (.ladd, 1) := by decide +kernel
theorem dX12_cycle_137 : decode cX12_cycle 137 = .ok (.lstore_n 3, 1) := by decide +kernel
theorem dX12_cycle_138 : decode cX12_cycle 138 = .ok (.iinc 5 1, 3) := by decide +kernel
theorem dX12_cycle_141 : decode cX12_cycle 141 = .ok (.goto (-30), 3) := by decide +kernel
theorem dX12_cycle_144 : decode cX12_cycle 144 = .ok (.lload_n 3, 1) := by decide +kernel
theorem dX12_cycle_145 : decode cX12_cycle 145 = .ok (.lreturn, 1) := by decide +kernel
theorem dX12_means_0 : decode cX12_means 0 = .ok (.aload_n 0, 1) := by decide +kernel
theorem dX12_means_1 : decode cX12_means 1 = .ok (.invokevirtual 164, 3) := by decide +kernel
theorem dX12_means_4 : decode cX12_means 4 = .ok (.iconst 0, 1) := by decide +kernel
theorem dX12_means_5 : decode cX12_means 5 = .ok (.istore_n 1, 1) := by decide +kernel
theorem dX12_means_6 : decode cX12_means 6 = .ok (.iload_n 1, 1) := by decide +kernel
theorem dX12_means_7 : decode cX12_means 7 = .ok (.aload_n 0, 1) := by decide +kernel
theorem dX12_means_8 : decode cX12_means 8 = .ok (.getfield 146, 3) := by decide +kernel
theorem dX12_means_11 : decode cX12_means 11 = .ok (.if_icmp .ge 23, 3) := by decide +kernel
theorem dX12_means_14 : decode cX12_means 14 = .ok (.aload_n 0, 1) := by decide +kernel
theorem dX12_means_15 : decode cX12_means 15 = .ok (.getfield 60, 3) := by decide +kernel
theorem dX12_means_18 : decode cX12_means 18 = .ok (.iload_n 1, 1) := by decide +kernel
theorem dX12_means_19 : decode cX12_means 19 = .ok (.lconst 0, 1) := by decide +kernel
theorem dX12_means_20 : decode cX12_means 20 = .ok (.lastore, 1) := by decide +kernel
theorem dX12_means_21 : decode cX12_means 21 = .ok (.aload_n 0, 1) := by decide +kernel
theorem dX12_means_22 : decode cX12_means 22 = .ok (.getfield 63, 3) := by decide +kernel
theorem dX12_means_25 : decode cX12_means 25 = .ok (.iload_n 1, 1) := by decide +kernel
theorem dX12_means_26 : decode cX12_means 26 = .ok (.lconst 1, 1) := by decide +kernel
theorem dX12_means_27 : decode cX12_means 27 = .ok (.lastore, 1) := by decide +kernel
theorem dX12_means_28 : decode cX12_means 28 = .ok (.iinc 1 1, 3) := by decide +kernel
theorem dX12_means_31 : decode cX12_means 31 = .ok (.goto (-25), 3) := by decide +kernel
theorem dX12_means_34 : decode cX12_means 34 = .ok (.iconst 0, 1) := by decide +kernel
theorem dX12_means_35 : decode cX12_means 35 = .ok (.istore_n 1, 1) := by decide +kernel
theorem dX12_means_36 : decode cX12_means 36 = .ok (.iload_n 1, 1) := by decide +kernel
theorem dX12_means_37 : decode cX12_means 37 = .ok (.aload_n 0, 1) := by decide +kernel
theorem dX12_means_38 : decode cX12_means 38 = .ok (.getfield 146, 3) := by decide +kernel
theorem dX12_means_41 : decode cX12_means 41 = .ok (.if_icmp .ge 235, 3) := by decide +kernel
theorem dX12_means_44 : decode cX12_means 44 = .ok (.aload_n 0, 1) := by decide +kernel
theorem dX12_means_45 : decode cX12_means 45 = .ok (.invokevirtual 164, 3) := by decide +kernel
theorem dX12_means_48 : decode cX12_means 48 = .ok (.aload_n 0, 1) := by decide +kernel
theorem dX12_means_49 : decode cX12_means 49 = .ok (.iload_n 1, 1) := by decide +kernel
theorem dX12_means_50 : decode cX12_means 50 = .ok (.invokevirtual 181, 3) := by decide +kernel
theorem dX12_means_53 : decode cX12_means 53 = .ok (.ifCond .eq 217, 3) := by decide +kernel
theorem dX12_means_56 : decode cX12_means 56 = .ok (.aload_n 0, 1) := by decide +kernel
theorem dX12_means_57 : decode cX12_means 57 = .ok (.iload_n 1, 1) := by decide +kernel
theorem dX12_means_58 : decode cX12_means 58 = .ok (.invokevirtual 185, 3) := by decide +kernel
theorem dX12_means_61 : decode cX12_means 61 = .ok (.iload_n 1, 1) := by decide +kernel
theorem dX12_means_62 : decode cX12_means 62 = .ok (.if_icmp .eq 6, 3) := by decide +kernel
theorem dX12_means_65 : decode cX12_means 65 = .ok (.goto 205, 3) := by decide +kernel
theorem dX12_means_68 : decode cX12_means 68 = .ok (.aload_n 0, 1) := by decide +kernel
theorem dX12_means_69 : decode cX12_means 69 = .ok (.iload_n 1, 1) := by decide +kernel
theorem dX12_means_70 : decode cX12_means 70 = .ok (.iconst 1, 1) := by decide +kernel
theorem dX12_means_71 : decode cX12_means 71 = .ok (.invokevirtual 188, 3) := by decide +kernel
theorem dX12_means_74 : decode cX12_means 74 = .ok (.lstore_n 2, 1) := by decide +kernel
theorem dX12_means_75 : decode cX12_means 75 = .ok (.aload_n 0, 1) := by decide +kernel
theorem dX12_means_76 : decode cX12_means 76 = .ok (.iload_n 1, 1) := by decide +kernel
theorem dX12_means_77 : decode cX12_means 77 = .ok (.iconst 0, 1) := by decide +kernel
theorem dX12_means_78 : decode cX12_means 78 = .ok (.invokevirtual 188, 3) := by decide +kernel
theorem dX12_means_81 : decode cX12_means 81 = .ok (.lstore 4, 2) := by decide +kernel
theorem dX12_means_83 : decode cX12_means 83 = .ok (.aload_n 0, 1) := by decide +kernel
theorem dX12_means_84 : decode cX12_means 84 = .ok (.lload_n 2, 1) := by decide +kernel
theorem dX12_means_85 : decode cX12_means 85 = .ok (.lload 4, 2) := by decide +kernel
theorem dX12_means_87 : decode cX12_means 87 = .ok (.invokevirtual 138, 3) := by decide +kernel
theorem dX12_means_90 : decode cX12_means 90 = .ok (.aload_n 0, 1) := by decide +kernel
theorem dX12_means_91 : decode cX12_means 91 = .ok (.getfield 131, 3) := by decide +kernel
theorem dX12_means_94 : decode cX12_means 94 = .ok (.lstore 6, 2) := by decide +kernel
theorem dX12_means_96 : decode cX12_means 96 = .ok (.aload_n 0, 1) := by decide +kernel
theorem dX12_means_97 : decode cX12_means 97 = .ok (.getfield 135, 3) := by decide +kernel
theorem dX12_means_100 : decode cX12_means 100 = .ok (.lstore 8, 2) := by decide +kernel
theorem dX12_means_102 : decode cX12_means 102 = .ok (.iconst 0, 1) := by decide +kernel
theorem dX12_means_103 : decode cX12_means 103 = .ok (.istore 10, 2) := by decide +kernel
theorem dX12_means_105 : decode cX12_means 105 = .ok (.iload 10, 2) := by decide +kernel
theorem dX12_means_107 : decode cX12_means 107 = .ok (.aload_n 0, 1) := by decide +kernel
theorem dX12_means_108 : decode cX12_means 108 = .ok (.getfield 146, 3) := by decide +kernel
theorem dX12_means_111 : decode cX12_means 111 = .ok (.if_icmp .ge 23, 3) := by decide +kernel
theorem dX12_means_114 : decode cX12_means 114 = .ok (.aload_n 0, 1) := by decide +kernel
theorem dX12_means_115 : decode cX12_means 115 = .ok (.getfield 44, 3) := by decide +kernel
theorem dX12_means_118 : decode cX12_means 118 = .ok (.iload 10, 2) := by decide +kernel
theorem dX12_means_120 : decode cX12_means 120 = .ok (.aload_n 0, 1) := by decide +kernel
theorem dX12_means_121 : decode cX12_means 121 = .ok (.iload 10, 2) := by decide +kernel
theorem dX12_means_123 : decode cX12_means 123 = .ok (.iload_n 1, 1) := by decide +kernel
theorem dX12_means_124 : decode cX12_means 124 = .ok (.invokevirtual 174, 3) := by decide +kernel
theorem dX12_means_127 : decode cX12_means 127 = .ok (.bastore, 1) := by decide +kernel
theorem dX12_means_128 : decode cX12_means 128 = .ok (.iinc 10 1, 3) := by decide +kernel
theorem dX12_means_131 : decode cX12_means 131 = .ok (.goto (-26), 3) := by decide +kernel
theorem dX12_means_134 : decode cX12_means 134 = .ok (.aload_n 0, 1) := by decide +kernel
theorem dX12_means_135 : decode cX12_means 135 = .ok (.invokevirtual 192, 3) := by decide +kernel
theorem dX12_means_138 : decode cX12_means 138 = .ok (.iconst 0, 1) := by decide +kernel
theorem dX12_means_139 : decode cX12_means 139 = .ok (.istore 10, 2) := by decide +kernel
theorem dX12_means_141 : decode cX12_means 141 = .ok (.iload 10, 2) := by decide +kernel
theorem dX12_means_143 : decode cX12_means 143 = .ok (.aload_n 0, 1) := by decide +kernel
theorem dX12_means_144 : decode cX12_means 144 = .ok (.getfield 146, 3) := by decide +kernel
theorem dX12_means_147 : decode cX12_means 147 = .ok (.if_icmp .ge 123, 3) := by decide +kernel
theorem dX12_means_150 : decode cX12_means 150 = .ok (.aload_n 0, 1) := by decide +kernel
theorem dX12_means_151 : decode cX12_means 151 = .ok (.aload_n 0, 1) := by decide +kernel
theorem dX12_means_152 : decode cX12_means 152 = .ok (.iload 10, 2) := by decide +kernel
theorem dX12_means_154 : decode cX12_means 154 = .ok (.invokevirtual 160, 3) := by decide +kernel
theorem dX12_means_157 : decode cX12_means 157 = .ok (.aload_n 0, 1) := by decide +kernel
theorem dX12_means_158 : decode cX12_means 158 = .ok (.getfield 157, 3) := by decide +kernel
theorem dX12_means_161 : decode cX12_means 161 = .ok (.invokevirtual 138, 3) := by decide +kernel
theorem dX12_means_164 : decode cX12_means 164 = .ok (.aload_n 0, 1) := by decide +kernel
theorem dX12_means_165 : decode cX12_means 165 = .ok (.getfield 131, 3) := by decide +kernel
theorem dX12_means_168 : decode cX12_means 168 = .ok (.lload 8, 2) := by decide +kernel
theorem dX12_means_170 : decode cX12_means 170 = .ok (.invokestatic 125, 3) := by decide +kernel
theorem dX12_means_173 : decode cX12_means 173 = .ok (.lstore 11, 2) := by decide +kernel
theorem dX12_means_175 : decode cX12_means 175 = .ok (.lload 6, 2) := by decide +kernel
theorem dX12_means_177 : decode cX12_means 177 = .ok (.aload_n 0, 1) := by decide +kernel
theorem dX12_means_178 : decode cX12_means 178 = .ok (.getfield 135, 3) := by decide +kernel
theorem dX12_means_181 : decode cX12_means 181 = .ok (.invokestatic 125, 3) := by decide +kernel
theorem dX12_means_184 : decode cX12_means 184 = .ok (.lstore 13, 2) := by decide +kernel
theorem dX12_means_186 : decode cX12_means 186 = .ok (.aload_n 0, 1) := by decide +kernel
theorem dX12_means_187 : decode cX12_means 187 = .ok (.getfield 131, 3) := by decide +kernel
theorem dX12_means_190 : decode cX12_means 190 = .ok (.lload 11, 2) := by decide +kernel
theorem dX12_means_192 : decode cX12_means 192 = .ok (.ldiv, 1) := by decide +kernel
theorem dX12_means_193 : decode cX12_means 193 = .ok (.lload 6, 2) := by decide +kernel
theorem dX12_means_195 : decode cX12_means 195 = .ok (.lload 13, 2) := by decide +kernel
theorem dX12_means_197 : decode cX12_means 197 = .ok (.ldiv, 1) := by decide +kernel
theorem dX12_means_198 : decode cX12_means 198 = .ok (.lmul, 1) := by decide +kernel
theorem dX12_means_199 : decode cX12_means 199 = .ok (.lstore 15, 2) := by decide +kernel
theorem dX12_means_201 : decode cX12_means 201 = .ok (.aload_n 0, 1) := by decide +kernel
theorem dX12_means_202 : decode cX12_means 202 = .ok (.getfield 135, 3) := by decide +kernel
theorem dX12_means_205 : decode cX12_means 205 = .ok (.lload 13, 2) := by decide +kernel
theorem dX12_means_207 : decode cX12_means 207 = .ok (.ldiv, 1) := by decide +kernel
theorem dX12_means_208 : decode cX12_means 208 = .ok (.lload 8, 2) := by decide +kernel
theorem dX12_means_210 : decode cX12_means 210 = .ok (.lload 11, 2) := by decide +kernel
theorem dX12_means_212 : decode cX12_means 212 = .ok (.ldiv, 1) := by decide +kernel
theorem dX12_means_213 : decode cX12_means 213 = .ok (.lmul, 1) := by decide +kernel
theorem dX12_means_214 : decode cX12_means 214 = .ok (.lstore 17, 2) := by decide +kernel
theorem dX12_means_216 : decode cX12_means 216 = .ok (.aload_n 0, 1) := by decide +kernel
theorem dX12_means_217 : decode cX12_means 217 = .ok (.aload_n 0, 1) := by decide +kernel
theorem dX12_means_218 : decode cX12_means 218 = .ok (.getfield 60, 3) := by decide +kernel
theorem dX12_means_221 : decode cX12_means 221 = .ok (.iload 10, 2) := by decide +kernel
theorem dX12_means_223 : decode cX12_means 223 = .ok (.laload, 1) := by decide +kernel
theorem dX12_means_224 : decode cX12_means 224 = .ok (.aload_n 0, 1) := by decide +kernel
theorem dX12_means_225 : decode cX12_means 225 = .ok (.getfield 63, 3) := by decide +kernel
theorem dX12_means_228 : decode cX12_means 228 = .ok (.iload 10, 2) := by decide +kernel
theorem dX12_means_230 : decode cX12_means 230 = .ok (.laload, 1) := by decide +kernel
theorem dX12_means_231 : decode cX12_means 231 = .ok (.invokevirtual 138, 3) := by decide +kernel
theorem dX12_means_234 : decode cX12_means 234 = .ok (.aload_n 0, 1) := by decide +kernel
theorem dX12_means_235 : decode cX12_means 235 = .ok (.lload 15, 2) := by decide +kernel
theorem dX12_means_237 : decode cX12_means 237 = .ok (.lload 17, 2) := by decide +kernel
theorem dX12_means_239 : decode cX12_means 239 = .ok (.invokevirtual 195, 3) := by decide +kernel
theorem dX12_means_242 : decode cX12_means 242 = .ok (.aload_n 0, 1) := by decide +kernel
theorem dX12_means_243 : decode cX12_means 243 = .ok (.getfield 60, 3) := by decide +kernel
theorem dX12_means_246 : decode cX12_means 246 = .ok (.iload 10, 2) := by decide +kernel
theorem dX12_means_248 : decode cX12_means 248 = .ok (.aload_n 0, 1) := by decide +kernel
theorem dX12_means_249 : decode cX12_means 249 = .ok (.getfield 131, 3) := by decide +kernel
theorem dX12_means_252 : decode cX12_means 252 = .ok (.lastore, 1) := by decide +kernel
theorem dX12_means_253 : decode cX12_means 253 = .ok (.aload_n 0, 1) := by decide +kernel
theorem dX12_means_254 : decode cX12_means 254 = .ok (.getfield 63, 3) := by decide +kernel
theorem dX12_means_257 : decode cX12_means 257 = .ok (.iload 10, 2) := by decide +kernel
theorem dX12_means_259 : decode cX12_means 259 = .ok (.aload_n 0, 1) := by decide +kernel
theorem dX12_means_260 : decode cX12_means 260 = .ok (.getfield 135, 3) := by decide +kernel
theorem dX12_means_263 : decode cX12_means 263 = .ok (.lastore, 1) := by decide +kernel
theorem dX12_means_264 : decode cX12_means 264 = .ok (.iinc 10 1, 3) := by decide +kernel
theorem dX12_means_267 : decode cX12_means 267 = .ok (.goto (-126), 3) := by decide +kernel
theorem dX12_means_270 : decode cX12_means 270 = .ok (.iinc 1 1, 3) := by decide +kernel
theorem dX12_means_273 : decode cX12_means 273 = .ok (.goto (-237), 3) := by decide +kernel
theorem dX12_means_276 : decode cX12_means 276 = .ok (.return_, 1) := by decide +kernel
theorem dX12_parities_0 : decode cX12_parities 0 = .ok (.aload_n 0, 1) := by decide +kernel
theorem dX12_parities_1 : decode cX12_parities 1 = .ok (.invokevirtual 164, 3) := by decide +kernel
theorem dX12_parities_4 : decode cX12_parities 4 = .ok (.iconst 0, 1) := by decide +kernel
theorem dX12_parities_5 : decode cX12_parities 5 = .ok (.istore_n 1, 1) := by decide +kernel
theorem dX12_parities_6 : decode cX12_parities 6 = .ok (.iload_n 1, 1) := by decide +kernel
theorem dX12_parities_7 : decode cX12_parities 7 = .ok (.aload_n 0, 1) := by decide +kernel
theorem dX12_parities_8 : decode cX12_parities 8 = .ok (.getfield 146, 3) := by decide +kernel
theorem dX12_parities_11 : decode cX12_parities 11 = .ok (.if_icmp .ge 83, 3) := by decide +kernel
theorem dX12_parities_14 : decode cX12_parities 14 = .ok (.bipush 9, 2) := by decide +kernel
theorem dX12_parities_16 : decode cX12_parities 16 = .ok (.istore_n 2, 1) := by decide +kernel
theorem dX12_parities_17 : decode cX12_parities 17 = .ok (.iconst 0, 1) := by decide +kernel
theorem dX12_parities_18 : decode cX12_parities 18 = .ok (.istore_n 3, 1) := by decide +kernel
theorem dX12_parities_19 : decode cX12_parities 19 = .ok (.iload_n 3, 1) := by decide +kernel
theorem dX12_parities_20 : decode cX12_parities 20 = .ok (.aload_n 0, 1) := by decide +kernel
theorem dX12_parities_21 : decode cX12_parities 21 = .ok (.getfield 146, 3) := by decide +kernel
theorem dX12_parities_24 : decode cX12_parities 24 = .ok (.if_icmp .ge 39, 3) := by decide +kernel
theorem dX12_parities_27 : decode cX12_parities 27 = .ok (.aload_n 0, 1) := by decide +kernel
theorem dX12_parities_28 : decode cX12_parities 28 = .ok (.iload_n 1, 1) := by decide +kernel
theorem dX12_parities_29 : decode cX12_parities 29 = .ok (.iload_n 3, 1) := by decide +kernel
theorem dX12_parities_30 : decode cX12_parities 30 = .ok (.invokevirtual 174, 3) := by decide +kernel
theorem dX12_parities_33 : decode cX12_parities 33 = .ok (.ifCond .eq 22, 3) := by decide +kernel
theorem dX12_parities_36 : decode cX12_parities 36 = .ok (.aload_n 0, 1) := by decide +kernel
theorem dX12_parities_37 : decode cX12_parities 37 = .ok (.getfield 13, 3) := by decide +kernel
theorem dX12_parities_40 : decode cX12_parities 40 = .ok (.iload_n 3, 1) := by decide +kernel
theorem dX12_parities_41 : decode cX12_parities 41 = .ok (.iaload, 1) := by decide +kernel
theorem dX12_parities_42 : decode cX12_parities 42 = .ok (.iload_n 2, 1) := by decide +kernel
theorem dX12_parities_43 : decode cX12_parities 43 = .ok (.if_icmp .ge 12, 3) := by decide +kernel
theorem dX12_parities_46 : decode cX12_parities 46 = .ok (.aload_n 0, 1) := by decide +kernel
theorem dX12_parities_47 : decode cX12_parities 47 = .ok (.getfield 13, 3) := by decide +kernel
theorem dX12_parities_50 : decode cX12_parities 50 = .ok (.iload_n 3, 1) := by decide +kernel
theorem dX12_parities_51 : decode cX12_parities 51 = .ok (.iaload, 1) := by decide +kernel
theorem dX12_parities_52 : decode cX12_parities 52 = .ok (.goto 4, 3) := by decide +kernel
theorem dX12_parities_55 : decode cX12_parities 55 = .ok (.iload_n 2, 1) := by decide +kernel
theorem dX12_parities_56 : decode cX12_parities 56 = .ok (.istore_n 2, 1) := by decide +kernel
theorem dX12_parities_57 : decode cX12_parities 57 = .ok (.iinc 3 1, 3) := by decide +kernel
theorem dX12_parities_60 : decode cX12_parities 60 = .ok (.goto (-41), 3) := by decide +kernel
theorem dX12_parities_63 : decode cX12_parities 63 = .ok (.aload_n 0, 1) := by decide +kernel
theorem dX12_parities_64 : decode cX12_parities 64 = .ok (.getfield 47, 3) := by decide +kernel
theorem dX12_parities_67 : decode cX12_parities 67 = .ok (.iload_n 1, 1) := by decide +kernel
theorem dX12_parities_68 : decode cX12_parities 68 = .ok (.aload_n 0, 1) := by decide +kernel
theorem dX12_parities_69 : decode cX12_parities 69 = .ok (.iload_n 1, 1) := by decide +kernel
theorem dX12_parities_70 : decode cX12_parities 70 = .ok (.invokevirtual 181, 3) := by decide +kernel
theorem dX12_parities_73 : decode cX12_parities 73 = .ok (.ifCond .eq 13, 3) := by decide +kernel
theorem dX12_parities_76 : decode cX12_parities 76 = .ok (.iload_n 2, 1) := by decide +kernel
theorem dX12_parities_77 : decode cX12_parities 77 = .ok (.iconst 2, 1) := by decide +kernel
theorem dX12_parities_78 : decode cX12_parities 78 = .ok (.irem, 1) := by decide +kernel
theorem dX12_parities_79 : decode cX12_parities 79 = .ok (.ifCond .ne 7, 3) := by decide +kernel
theorem dX12_parities_82 : decode cX12_parities 82 = .ok (.iconst 1, 1) := by decide +kernel
theorem dX12_parities_83 : decode cX12_parities 83 = .ok (.goto 4, 3) := by decide +kernel
theorem dX12_parities_86 : decode cX12_parities 86 = .ok (.iconst 0, 1) := by decide +kernel
theorem dX12_parities_87 : decode cX12_parities 87 = .ok (.bastore, 1) := by decide +kernel
theorem dX12_parities_88 : decode cX12_parities 88 = .ok (.iinc 1 1, 3) := by decide +kernel
theorem dX12_parities_91 : decode cX12_parities 91 = .ok (.goto (-85), 3) := by decide +kernel
theorem dX12_parities_94 : decode cX12_parities 94 = .ok (.iconst 0, 1) := by decide +kernel
theorem dX12_parities_95 : decode cX12_parities 95 = .ok (.istore_n 1, 1) := by decide +kernel
theorem dX12_parities_96 : decode cX12_parities 96 = .ok (.iload_n 1, 1) := by decide +kernel
theorem dX12_parities_97 : decode cX12_parities 97 = .ok (.aload_n 0, 1) := by decide +kernel
theorem dX12_parities_98 : decode cX12_parities 98 = .ok (.getfield 146, 3) := by decide +kernel
theorem dX12_parities_101 : decode cX12_parities 101 = .ok (.if_icmp .ge 21, 3) := by decide +kernel
theorem dX12_parities_104 : decode cX12_parities 104 = .ok (.aload_n 0, 1) := by decide +kernel
theorem dX12_parities_105 : decode cX12_parities 105 = .ok (.getfield 44, 3) := by decide +kernel
theorem dX12_parities_108 : decode cX12_parities 108 = .ok (.iload_n 1, 1) := by decide +kernel
theorem dX12_parities_109 : decode cX12_parities 109 = .ok (.aload_n 0, 1) := by decide +kernel
theorem dX12_parities_110 : decode cX12_parities 110 = .ok (.getfield 47, 3) := by decide +kernel
theorem dX12_parities_113 : decode cX12_parities 113 = .ok (.iload_n 1, 1) := by decide +kernel
theorem dX12_parities_114 : decode cX12_parities 114 = .ok (.baload, 1) := by decide +kernel
theorem dX12_parities_115 : decode cX12_parities 115 = .ok (.bastore, 1) := by decide +kernel
theorem dX12_parities_116 : decode cX12_parities 116 = .ok (.iinc 1 1, 3) := by decide +kernel
theorem dX12_parities_119 : decode cX12_parities 119 = .ok (.goto (-23), 3) := by decide +kernel
theorem dX12_parities_122 : decode cX12_parities 122 = .ok (.aload_n 0, 1) := by decide +kernel
theorem dX12_parities_123 : decode cX12_parities 123 = .ok (.invokevirtual 192, 3) := by decide +kernel
theorem dX12_parities_126 : decode cX12_parities 126 = .ok (.aload_n 0, 1) := by decide +kernel
theorem dX12_parities_127 : decode cX12_parities 127 = .ok (.invokevirtual 198, 3) := by decide +kernel
theorem dX12_parities_130 : decode cX12_parities 130 = .ok (.return_, 1) := by decide +kernel
theorem dX12_gets_0 : decode cX12_gets 0 = .ok (.iload_n 1, 1) := by decide +kernel
theorem dX12_gets_1 : decode cX12_gets 1 = .ok (.bipush 109, 2) := by decide +kernel
theorem dX12_gets_3 : decode cX12_gets 3 = .ok (.if_icmp .ne 8, 3) := by decide +kernel
theorem dX12_gets_6 : decode cX12_gets 6 = .ok (.aload_n 0, 1) := by decide +kernel
theorem dX12_gets_7 : decode cX12_gets 7 = .ok (.invokevirtual 201, 3) := by decide +kernel
theorem dX12_gets_10 : decode cX12_gets 10 = .ok (.return_, 1) := by decide +kernel
theorem dX12_gets_11 : decode cX12_gets 11 = .ok (.iload_n 1, 1) := by decide +kernel
theorem dX12_gets_12 : decode cX12_gets 12 = .ok (.bipush 112, 2) := by decide +kernel
theorem dX12_gets_14 : decode cX12_gets 14 = .ok (.if_icmp .ne 8, 3) := by decide +kernel
theorem dX12_gets_17 : decode cX12_gets 17 = .ok (.aload_n 0, 1) := by decide +kernel
theorem dX12_gets_18 : decode cX12_gets 18 = .ok (.invokevirtual 204, 3) := by decide +kernel
theorem dX12_gets_21 : decode cX12_gets 21 = .ok (.return_, 1) := by decide +kernel
theorem dX12_gets_22 : decode cX12_gets 22 = .ok (.iconst 0, 1) := by decide +kernel
theorem dX12_gets_23 : decode cX12_gets 23 = .ok (.istore_n 2, 1) := by decide +kernel
theorem dX12_gets_24 : decode cX12_gets 24 = .ok (.iload_n 2, 1) := by decide +kernel
theorem dX12_gets_25 : decode cX12_gets 25 = .ok (.aload_n 0, 1) := by decide +kernel
theorem dX12_gets_26 : decode cX12_gets 26 = .ok (.getfield 146, 3) := by decide +kernel
theorem dX12_gets_29 : decode cX12_gets 29 = .ok (.if_icmp .ge 21, 3) := by decide +kernel
theorem dX12_gets_32 : decode cX12_gets 32 = .ok (.aload_n 0, 1) := by decide +kernel
theorem dX12_gets_33 : decode cX12_gets 33 = .ok (.getfield 44, 3) := by decide +kernel
theorem dX12_gets_36 : decode cX12_gets 36 = .ok (.iload_n 2, 1) := by decide +kernel
theorem dX12_gets_37 : decode cX12_gets 37 = .ok (.aload_n 0, 1) := by decide +kernel
theorem dX12_gets_38 : decode cX12_gets 38 = .ok (.getfield 40, 3) := by decide +kernel
theorem dX12_gets_41 : decode cX12_gets 41 = .ok (.iload_n 2, 1) := by decide +kernel
theorem dX12_gets_42 : decode cX12_gets 42 = .ok (.baload, 1) := by decide +kernel
theorem dX12_gets_43 : decode cX12_gets 43 = .ok (.bastore, 1) := by decide +kernel
theorem dX12_gets_44 : decode cX12_gets 44 = .ok (.iinc 2 1, 3) := by decide +kernel
theorem dX12_gets_47 : decode cX12_gets 47 = .ok (.goto (-23), 3) := by decide +kernel
theorem dX12_gets_50 : decode cX12_gets 50 = .ok (.iload_n 1, 1) := by decide +kernel
theorem dX12_gets_51 : decode cX12_gets 51 = .ok (.bipush 114, 2) := by decide +kernel
theorem dX12_gets_53 : decode cX12_gets 53 = .ok (.if_icmp .ne 7, 3) := by decide +kernel
theorem dX12_gets_56 : decode cX12_gets 56 = .ok (.aload_n 0, 1) := by decide +kernel
theorem dX12_gets_57 : decode cX12_gets 57 = .ok (.invokevirtual 192, 3) := by decide +kernel
theorem dX12_gets_60 : decode cX12_gets 60 = .ok (.iconst 0, 1) := by decide +kernel
theorem dX12_gets_61 : decode cX12_gets 61 = .ok (.istore_n 2, 1) := by decide +kernel
theorem dX12_gets_62 : decode cX12_gets 62 = .ok (.iload_n 2, 1) := by decide +kernel
theorem dX12_gets_63 : decode cX12_gets 63 = .ok (.aload_n 0, 1) := by decide +kernel
theorem dX12_gets_64 : decode cX12_gets 64 = .ok (.getfield 146, 3) := by decide +kernel
theorem dX12_gets_67 : decode cX12_gets 67 = .ok (.if_icmp .ge 39, 3) := by decide +kernel
theorem dX12_gets_70 : decode cX12_gets 70 = .ok (.iload_n 1, 1) := by decide +kernel
theorem dX12_gets_71 : decode cX12_gets 71 = .ok (.bipush 114, 2) := by decide +kernel
theorem dX12_gets_73 : decode cX12_gets 73 = .ok (.if_icmp .eq 33, 3) := by decide +kernel
theorem dX12_gets_76 : decode cX12_gets 76 = .ok (.aload_n 0, 1) := by decide +kernel
theorem dX12_gets_77 : decode cX12_gets 77 = .ok (.iload_n 2, 1) := by decide +kernel
theorem dX12_gets_78 : decode cX12_gets 78 = .ok (.aload_n 0, 1) := by decide +kernel
theorem dX12_gets_79 : decode cX12_gets 79 = .ok (.iload_n 1, 1) := by decide +kernel
theorem dX12_gets_80 : decode cX12_gets 80 = .ok (.aload_n 0, 1) := by decide +kernel
theorem dX12_gets_81 : decode cX12_gets 81 = .ok (.iload_n 2, 1) := by decide +kernel
theorem dX12_gets_82 : decode cX12_gets 82 = .ok (.invokevirtual 142, 3) := by decide +kernel
theorem dX12_gets_85 : decode cX12_gets 85 = .ok (.invokevirtual 178, 3) := by decide +kernel
theorem dX12_gets_88 : decode cX12_gets 88 = .ok (.i2l, 1) := by decide +kernel
theorem dX12_gets_89 : decode cX12_gets 89 = .ok (.aload_n 0, 1) := by decide +kernel
theorem dX12_gets_90 : decode cX12_gets 90 = .ok (.getfield 109, 3) := by decide +kernel
theorem dX12_gets_93 : decode cX12_gets 93 = .ok (.aload_n 0, 1) := by decide +kernel
theorem dX12_gets_94 : decode cX12_gets 94 = .ok (.getfield 113, 3) := by decide +kernel
theorem dX12_gets_97 : decode cX12_gets 97 = .ok (.invokevirtual 167, 3) := by decide +kernel
theorem dX12_gets_100 : decode cX12_gets 100 = .ok (.iinc 2 1, 3) := by decide +kernel
theorem dX12_gets_103 : decode cX12_gets 103 = .ok (.goto (-41), 3) := by decide +kernel
theorem dX12_gets_106 : decode cX12_gets 106 = .ok (.iload_n 1, 1) := by decide +kernel
theorem dX12_gets_107 : decode cX12_gets 107 = .ok (.bipush 114, 2) := by decide +kernel
theorem dX12_gets_109 : decode cX12_gets 109 = .ok (.if_icmp .eq 7, 3) := by decide +kernel
theorem dX12_gets_112 : decode cX12_gets 112 = .ok (.aload_n 0, 1) := by decide +kernel
theorem dX12_gets_113 : decode cX12_gets 113 = .ok (.invokevirtual 171, 3) := by decide +kernel
theorem dX12_gets_116 : decode cX12_gets 116 = .ok (.aload_n 0, 1) := by decide +kernel
theorem dX12_gets_117 : decode cX12_gets 117 = .ok (.invokevirtual 198, 3) := by decide +kernel
theorem dX12_gets_120 : decode cX12_gets 120 = .ok (.return_, 1) := by decide +kernel
theorem dX12_goesOn_0 : decode cX12_goesOn 0 = .ok (.iconst 0, 1) := by decide +kernel
theorem dX12_goesOn_1 : decode cX12_goesOn 1 = .ok (.istore_n 2, 1) := by decide +kernel
theorem dX12_goesOn_2 : decode cX12_goesOn 2 = .ok (.iload_n 2, 1) := by decide +kernel
theorem dX12_goesOn_3 : decode cX12_goesOn 3 = .ok (.aload_n 0, 1) := by decide +kernel
theorem dX12_goesOn_4 : decode cX12_goesOn 4 = .ok (.getfield 146, 3) := by decide +kernel
theorem dX12_goesOn_7 : decode cX12_goesOn 7 = .ok (.if_icmp .ge 56, 3) := by decide +kernel
theorem dX12_goesOn_10 : decode cX12_goesOn 10 = .ok (.aload_n 0, 1) := by decide +kernel
theorem dX12_goesOn_11 : decode cX12_goesOn 11 = .ok (.getfield 7, 3) := by decide +kernel
theorem dX12_goesOn_14 : decode cX12_goesOn 14 = .ok (.iload_n 2, 1) := by decide +kernel
theorem dX12_goesOn_15 : decode cX12_goesOn 15 = .ok (.iaload, 1) := by decide +kernel
theorem dX12_goesOn_16 : decode cX12_goesOn 16 = .ok (.iload_n 1, 1) := by decide +kernel
theorem dX12_goesOn_17 : decode cX12_goesOn 17 = .ok (.if_icmp .eq 6, 3) := by decide +kernel
theorem dX12_goesOn_20 : decode cX12_goesOn 20 = .ok (.goto 37, 3) := by decide +kernel
theorem dX12_goesOn_23 : decode cX12_goesOn 23 = .ok (.aload_n 0, 1) := by decide +kernel
theorem dX12_goesOn_24 : decode cX12_goesOn 24 = .ok (.getfield 22, 3) := by decide +kernel
theorem dX12_goesOn_27 : decode cX12_goesOn 27 = .ok (.iload_n 2, 1) := by decide +kernel
theorem dX12_goesOn_28 : decode cX12_goesOn 28 = .ok (.dup2, 1) := by decide +kernel
theorem dX12_goesOn_29 : decode cX12_goesOn 29 = .ok (.iaload, 1) := by decide +kernel
theorem dX12_goesOn_30 : decode cX12_goesOn 30 = .ok (.iconst 1, 1) := by decide +kernel
theorem dX12_goesOn_31 : decode cX12_goesOn 31 = .ok (.iadd, 1) := by decide +kernel
theorem dX12_goesOn_32 : decode cX12_goesOn 32 = .ok (.iastore, 1) := by decide +kernel
theorem dX12_goesOn_33 : decode cX12_goesOn 33 = .ok (.aload_n 0, 1) := by decide +kernel
theorem dX12_goesOn_34 : decode cX12_goesOn 34 = .ok (.getfield 22, 3) := by decide +kernel
theorem dX12_goesOn_37 : decode cX12_goesOn 37 = .ok (.iload_n 2, 1) := by decide +kernel
theorem dX12_goesOn_38 : decode cX12_goesOn 38 = .ok (.iaload, 1) := by decide +kernel
theorem dX12_goesOn_39 : decode cX12_goesOn 39 = .ok (.aload_n 0, 1) := by decide +kernel
theorem dX12_goesOn_40 : decode cX12_goesOn 40 = .ok (.getfield 16, 3) := by decide +kernel
theorem dX12_goesOn_43 : decode cX12_goesOn 43 = .ok (.iload_n 2, 1) := by decide +kernel
theorem dX12_goesOn_44 : decode cX12_goesOn 44 = .ok (.iaload, 1) := by decide +kernel
theorem dX12_goesOn_45 : decode cX12_goesOn 45 = .ok (.if_icmp .ge 5, 3) := by decide +kernel
theorem dX12_goesOn_48 : decode cX12_goesOn 48 = .ok (.iconst 1, 1) := by decide +kernel
theorem dX12_goesOn_49 : decode cX12_goesOn 49 = .ok (.ireturn, 1) := by decide +kernel
theorem dX12_goesOn_50 : decode cX12_goesOn 50 = .ok (.aload_n 0, 1) := by decide +kernel
theorem dX12_goesOn_51 : decode cX12_goesOn 51 = .ok (.getfield 22, 3) := by decide +kernel
theorem dX12_goesOn_54 : decode cX12_goesOn 54 = .ok (.iload_n 2, 1) := by decide +kernel
theorem dX12_goesOn_55 : decode cX12_goesOn 55 = .ok (.iconst 0, 1) := by decide +kernel
theorem dX12_goesOn_56 : decode cX12_goesOn 56 = .ok (.iastore, 1) := by decide +kernel
theorem dX12_goesOn_57 : decode cX12_goesOn 57 = .ok (.iinc 2 1, 3) := by decide +kernel
theorem dX12_goesOn_60 : decode cX12_goesOn 60 = .ok (.goto (-58), 3) := by decide +kernel
theorem dX12_goesOn_63 : decode cX12_goesOn 63 = .ok (.iconst 0, 1) := by decide +kernel
theorem dX12_goesOn_64 : decode cX12_goesOn 64 = .ok (.ireturn, 1) := by decide +kernel
theorem dX12_begins_0 : decode cX12_begins 0 = .ok (.iconst 0, 1) := by decide +kernel
theorem dX12_begins_1 : decode cX12_begins 1 = .ok (.istore_n 2, 1) := by decide +kernel
theorem dX12_begins_2 : decode cX12_begins 2 = .ok (.iload_n 2, 1) := by decide +kernel
theorem dX12_begins_3 : decode cX12_begins 3 = .ok (.aload_n 0, 1) := by decide +kernel
theorem dX12_begins_4 : decode cX12_begins 4 = .ok (.getfield 146, 3) := by decide +kernel
theorem dX12_begins_7 : decode cX12_begins 7 = .ok (.if_icmp .ge 35, 3) := by decide +kernel
theorem dX12_begins_10 : decode cX12_begins 10 = .ok (.aload_n 0, 1) := by decide +kernel
theorem dX12_begins_11 : decode cX12_begins 11 = .ok (.getfield 22, 3) := by decide +kernel
theorem dX12_begins_14 : decode cX12_begins 14 = .ok (.iload_n 2, 1) := by decide +kernel
theorem dX12_begins_15 : decode cX12_begins 15 = .ok (.aload_n 0, 1) := by decide +kernel
theorem dX12_begins_16 : decode cX12_begins 16 = .ok (.getfield 7, 3) := by decide +kernel
theorem dX12_begins_19 : decode cX12_begins 19 = .ok (.iload_n 2, 1) := by decide +kernel
theorem dX12_begins_20 : decode cX12_begins 20 = .ok (.iaload, 1) := by decide +kernel
theorem dX12_begins_21 : decode cX12_begins 21 = .ok (.iload_n 1, 1) := by decide +kernel
theorem dX12_begins_22 : decode cX12_begins 22 = .ok (.if_icmp .ne 7, 3) := by decide +kernel
theorem dX12_begins_25 : decode cX12_begins 25 = .ok (.iconst 0, 1) := by decide +kernel
theorem dX12_begins_26 : decode cX12_begins 26 = .ok (.goto 9, 3) := by decide +kernel
theorem dX12_begins_29 : decode cX12_begins 29 = .ok (.aload_n 0, 1) := by decide +kernel
theorem dX12_begins_30 : decode cX12_begins 30 = .ok (.getfield 22, 3) := by decide +kernel
theorem dX12_begins_33 : decode cX12_begins 33 = .ok (.iload_n 2, 1) := by decide +kernel
theorem dX12_begins_34 : decode cX12_begins 34 = .ok (.iaload, 1) := by decide +kernel
theorem dX12_begins_35 : decode cX12_begins 35 = .ok (.iastore, 1) := by decide +kernel
theorem dX12_begins_36 : decode cX12_begins 36 = .ok (.iinc 2 1, 3) := by decide +kernel
theorem dX12_begins_39 : decode cX12_begins 39 = .ok (.goto (-37), 3) := by decide +kernel
theorem dX12_begins_42 : decode cX12_begins 42 = .ok (.return_, 1) := by decide +kernel
theorem dX12_answers_0 : decode cX12_answers 0 = .ok (.iload_n 1, 1) := by decide +kernel
theorem dX12_answers_1 : decode cX12_answers 1 = .ok (.bipush 98, 2) := by decide +kernel
theorem dX12_answers_3 : decode cX12_answers 3 = .ok (.if_icmp .ne 7, 3) := by decide +kernel
theorem dX12_answers_6 : decode cX12_answers 6 = .ok (.iconst (-1), 1) := by decide +kernel
theorem dX12_answers_7 : decode cX12_answers 7 = .ok (.goto 4, 3) := by decide +kernel
theorem dX12_answers_10 : decode cX12_answers 10 = .ok (.iconst 1, 1) := by decide +kernel
theorem dX12_answers_11 : decode cX12_answers 11 = .ok (.istore_n 3, 1) := by decide +kernel
theorem dX12_answers_12 : decode cX12_answers 12 = .ok (.iconst 1, 1) := by decide +kernel
theorem dX12_answers_13 : decode cX12_answers 13 = .ok (.istore 4, 2) := by decide +kernel
theorem dX12_answers_15 : decode cX12_answers 15 = .ok (.iconst 1, 1) := by decide +kernel
theorem dX12_answers_16 : decode cX12_answers 16 = .ok (.istore 5, 2) := by decide +kernel
theorem dX12_answers_18 : decode cX12_answers 18 = .ok (.aload_n 0, 1) := by decide +kernel
theorem dX12_answers_19 : decode cX12_answers 19 = .ok (.iload_n 1, 1) := by decide +kernel
theorem dX12_answers_20 : decode cX12_answers 20 = .ok (.invokevirtual 207, 3) := by decide +kernel
theorem dX12_answers_23 : decode cX12_answers 23 = .ok (.iload 5, 2) := by decide +kernel
theorem dX12_answers_25 : decode cX12_answers 25 = .ok (.ifCond .eq 111, 3) := by decide +kernel
theorem dX12_answers_28 : decode cX12_answers 28 = .ok (.aload_n 0, 1) := by decide +kernel
theorem dX12_answers_29 : decode cX12_answers 29 = .ok (.iload_n 2, 1) := by decide +kernel
theorem dX12_answers_30 : decode cX12_answers 30 = .ok (.invokevirtual 211, 3) := by decide +kernel
theorem dX12_answers_33 : decode cX12_answers 33 = .ok (.iconst 0, 1) := by decide +kernel
theorem dX12_answers_34 : decode cX12_answers 34 = .ok (.istore 6, 2) := by decide +kernel
theorem dX12_answers_36 : decode cX12_answers 36 = .ok (.iload 6, 2) := by decide +kernel
theorem dX12_answers_38 : decode cX12_answers 38 = .ok (.aload_n 0, 1) := by decide +kernel
theorem dX12_answers_39 : decode cX12_answers 39 = .ok (.getfield 146, 3) := by decide +kernel
theorem dX12_answers_42 : decode cX12_answers 42 = .ok (.if_icmp .ge 81, 3) := by decide +kernel
theorem dX12_answers_45 : decode cX12_answers 45 = .ok (.iload 4, 2) := by decide +kernel
theorem dX12_answers_47 : decode cX12_answers 47 = .ok (.ifCond .ne 42, 3) := by decide +kernel
theorem dX12_answers_50 : decode cX12_answers 50 = .ok (.iload_n 3, 1) := by decide +kernel
theorem dX12_answers_51 : decode cX12_answers 51 = .ok (.aload_n 0, 1) := by decide +kernel
theorem dX12_answers_52 : decode cX12_answers 52 = .ok (.getfield 60, 3) := by decide +kernel
theorem dX12_answers_55 : decode cX12_answers 55 = .ok (.iload 6, 2) := by decide +kernel
theorem dX12_answers_57 : decode cX12_answers 57 = .ok (.laload, 1) := by decide +kernel
theorem dX12_answers_58 : decode cX12_answers 58 = .ok (.aload_n 0, 1) := by decide +kernel
theorem dX12_answers_59 : decode cX12_answers 59 = .ok (.getfield 63, 3) := by decide +kernel
theorem dX12_answers_62 : decode cX12_answers 62 = .ok (.iload 6, 2) := by decide +kernel
theorem dX12_answers_64 : decode cX12_answers 64 = .ok (.laload, 1) := by decide +kernel
theorem dX12_answers_65 : decode cX12_answers 65 = .ok (.aload_n 0, 1) := by decide +kernel
theorem dX12_answers_66 : decode cX12_answers 66 = .ok (.getfield 66, 3) := by decide +kernel
theorem dX12_answers_69 : decode cX12_answers 69 = .ok (.iload 6, 2) := by decide +kernel
theorem dX12_answers_71 : decode cX12_answers 71 = .ok (.laload, 1) := by decide +kernel
theorem dX12_answers_72 : decode cX12_answers 72 = .ok (.aload_n 0, 1) := by decide +kernel
theorem dX12_answers_73 : decode cX12_answers 73 = .ok (.getfield 69, 3) := by decide +kernel
theorem dX12_answers_76 : decode cX12_answers 76 = .ok (.iload 6, 2) := by decide +kernel
theorem dX12_answers_78 : decode cX12_answers 78 = .ok (.laload, 1) := by decide +kernel
theorem dX12_answers_79 : decode cX12_answers 79 = .ok (.invokestatic 214, 3) := by decide +kernel
theorem dX12_answers_82 : decode cX12_answers 82 = .ok (.imul, 1) := by decide +kernel
theorem dX12_answers_83 : decode cX12_answers 83 = .ok (.ifCond .gt 6, 3) := by decide +kernel
theorem dX12_answers_86 : decode cX12_answers 86 = .ok (.goto 31, 3) := by decide +kernel
theorem dX12_answers_89 : decode cX12_answers 89 = .ok (.aload_n 0, 1) := by decide +kernel
theorem dX12_answers_90 : decode cX12_answers 90 = .ok (.getfield 66, 3) := by decide +kernel
theorem dX12_answers_93 : decode cX12_answers 93 = .ok (.iload 6, 2) := by decide +kernel
theorem dX12_answers_95 : decode cX12_answers 95 = .ok (.aload_n 0, 1) := by decide +kernel
theorem dX12_answers_96 : decode cX12_answers 96 = .ok (.getfield 60, 3) := by decide +kernel
theorem dX12_answers_99 : decode cX12_answers 99 = .ok (.iload 6, 2) := by decide +kernel
theorem dX12_answers_101 : decode cX12_answers 101 = .ok (.laload, 1) := by decide +kernel
theorem dX12_answers_102 : decode cX12_answers 102 = .ok (.lastore, 1) := by decide +kernel
theorem dX12_answers_103 : decode cX12_answers 103 = .ok (.aload_n 0, 1) := by decide +kernel
theorem dX12_answers_104 : decode cX12_answers 104 = .ok (.getfield 69, 3) := by decide +kernel
theorem dX12_answers_107 : decode cX12_answers 107 = .ok (.iload 6, 2) := by decide +kernel
theorem dX12_answers_109 : decode cX12_answers 109 = .ok (.aload_n 0, 1) := by decide +kernel
theorem dX12_answers_110 : decode cX12_answers 110 = .ok (.getfield 63, 3) := by decide +kernel
theorem dX12_answers_113 : decode cX12_answers 113 = .ok (.iload 6, 2) := by decide +kernel
theorem dX12_answers_115 : decode cX12_answers 115 = .ok (.laload, 1) := by decide +kernel
theorem dX12_answers_116 : decode cX12_answers 116 = .ok (.lastore, 1) := by decide +kernel
theorem dX12_answers_117 : decode cX12_answers 117 = .ok (.iinc 6 1, 3) := by decide +kernel
theorem dX12_answers_120 : decode cX12_answers 120 = .ok (.goto (-84), 3) := by decide +kernel
theorem dX12_answers_123 : decode cX12_answers 123 = .ok (.iconst 0, 1) := by decide +kernel
theorem dX12_answers_124 : decode cX12_answers 124 = .ok (.istore 4, 2) := by decide +kernel
theorem dX12_answers_126 : decode cX12_answers 126 = .ok (.aload_n 0, 1) := by decide +kernel
theorem dX12_answers_127 : decode cX12_answers 127 = .ok (.iload_n 1, 1) := by decide +kernel
theorem dX12_answers_128 : decode cX12_answers 128 = .ok (.invokevirtual 218, 3) := by decide +kernel
theorem dX12_answers_131 : decode cX12_answers 131 = .ok (.istore 5, 2) := by decide +kernel
theorem dX12_answers_133 : decode cX12_answers 133 = .ok (.goto (-110), 3) := by decide +kernel
theorem dX12_answers_136 : decode cX12_answers 136 = .ok (.return_, 1) := by decide +kernel
theorem dX12_numberOf_0 : decode cX12_numberOf 0 = .ok (.iload_n 0, 1) := by decide +kernel
theorem dX12_numberOf_1 : decode cX12_numberOf 1 = .ok (.bipush 114, 2) := by decide +kernel
theorem dX12_numberOf_3 : decode cX12_numberOf 3 = .ok (.if_icmp .ne 7, 3) := by decide +kernel
theorem dX12_numberOf_6 : decode cX12_numberOf 6 = .ok (.iconst 0, 1) := by decide +kernel
theorem dX12_numberOf_7 : decode cX12_numberOf 7 = .ok (.goto 34, 3) := by decide +kernel
theorem dX12_numberOf_10 : decode cX12_numberOf 10 = .ok (.iload_n 0, 1) := by decide +kernel
theorem dX12_numberOf_11 : decode cX12_numberOf 11 = .ok (.bipush 102, 2) := by decide +kernel
theorem dX12_numberOf_13 : decode cX12_numberOf 13 = .ok (.if_icmp .ne 7, 3) := by decide +kernel
theorem dX12_numberOf_16 : decode cX12_numberOf 16 = .ok (.iconst 1, 1) := by decide +kernel
theorem dX12_numberOf_17 : decode cX12_numberOf 17 = .ok (.goto 24, 3) := by decide +kernel
theorem dX12_numberOf_20 : decode cX12_numberOf 20 = .ok (.iload_n 0, 1) := by decide +kernel
theorem dX12_numberOf_21 : decode cX12_numberOf 21 = .ok (.bipush 115, 2) := by decide +kernel
theorem dX12_numberOf_23 : decode cX12_numberOf 23 = .ok (.if_icmp .ne 7, 3) := by decide +kernel
theorem dX12_numberOf_26 : decode cX12_numberOf 26 = .ok (.iconst 2, 1) := by decide +kernel
theorem dX12_numberOf_27 : decode cX12_numberOf 27 = .ok (.goto 14, 3) := by decide +kernel
theorem dX12_numberOf_30 : decode cX12_numberOf 30 = .ok (.iload_n 0, 1) := by decide +kernel
theorem dX12_numberOf_31 : decode cX12_numberOf 31 = .ok (.bipush 119, 2) := by decide +kernel
theorem dX12_numberOf_33 : decode cX12_numberOf 33 = .ok (.if_icmp .ne 7, 3) := by decide +kernel
theorem dX12_numberOf_36 : decode cX12_numberOf 36 = .ok (.iconst 3, 1) := by decide +kernel
theorem dX12_numberOf_37 : decode cX12_numberOf 37 = .ok (.goto 4, 3) := by decide +kernel
theorem dX12_numberOf_40 : decode cX12_numberOf 40 = .ok (.iconst (-1), 1) := by decide +kernel
theorem dX12_numberOf_41 : decode cX12_numberOf 41 = .ok (.ireturn, 1) := by decide +kernel
theorem dX12_values_0 : decode cX12_values 0 = .ok (.iload_n 1, 1) := by decide +kernel
theorem dX12_values_1 : decode cX12_values 1 = .ok (.invokestatic 221, 3) := by decide +kernel
theorem dX12_values_4 : decode cX12_values 4 = .ok (.istore_n 2, 1) := by decide +kernel
theorem dX12_values_5 : decode cX12_values 5 = .ok (.aload_n 0, 1) := by decide +kernel
theorem dX12_values_6 : decode cX12_values 6 = .ok (.getfield 50, 3) := by decide +kernel
theorem dX12_values_9 : decode cX12_values 9 = .ok (.iload_n 2, 1) := by decide +kernel
theorem dX12_values_10 : decode cX12_values 10 = .ok (.baload, 1) := by decide +kernel
theorem dX12_values_11 : decode cX12_values 11 = .ok (.ifCond .eq 4, 3) := by decide +kernel
theorem dX12_values_14 : decode cX12_values 14 = .ok (.return_, 1) := by decide +kernel
theorem dX12_values_15 : decode cX12_values 15 = .ok (.aload_n 0, 1) := by decide +kernel
theorem dX12_values_16 : decode cX12_values 16 = .ok (.getfield 50, 3) := by decide +kernel
theorem dX12_values_19 : decode cX12_values 19 = .ok (.iload_n 2, 1) := by decide +kernel
theorem dX12_values_20 : decode cX12_values 20 = .ok (.iconst 1, 1) := by decide +kernel
theorem dX12_values_21 : decode cX12_values 21 = .ok (.bastore, 1) := by decide +kernel
theorem dX12_values_22 : decode cX12_values 22 = .ok (.iconst 1, 1) := by decide +kernel
theorem dX12_values_23 : decode cX12_values 23 = .ok (.istore_n 3, 1) := by decide +kernel
theorem dX12_values_24 : decode cX12_values 24 = .ok (.iconst 1, 1) := by decide +kernel
theorem dX12_values_25 : decode cX12_values 25 = .ok (.istore 4, 2) := by decide +kernel
theorem dX12_values_27 : decode cX12_values 27 = .ok (.aload_n 0, 1) := by decide +kernel
theorem dX12_values_28 : decode cX12_values 28 = .ok (.bipush 97, 2) := by decide +kernel
theorem dX12_values_30 : decode cX12_values 30 = .ok (.invokevirtual 207, 3) := by decide +kernel
theorem dX12_values_33 : decode cX12_values 33 = .ok (.iload 4, 2) := by decide +kernel
theorem dX12_values_35 : decode cX12_values 35 = .ok (.ifCond .eq 130, 3) := by decide +kernel
theorem dX12_values_38 : decode cX12_values 38 = .ok (.aload_n 0, 1) := by decide +kernel
theorem dX12_values_39 : decode cX12_values 39 = .ok (.bipush 98, 2) := by decide +kernel
theorem dX12_values_41 : decode cX12_values 41 = .ok (.iload_n 1, 1) := by decide +kernel
theorem dX12_values_42 : decode cX12_values 42 = .ok (.invokevirtual 224, 3) := by decide +kernel
theorem dX12_values_45 : decode cX12_values 45 = .ok (.iconst 0, 1) := by decide +kernel
theorem dX12_values_46 : decode cX12_values 46 = .ok (.istore 5, 2) := by decide +kernel
theorem dX12_values_48 : decode cX12_values 48 = .ok (.iload 5, 2) := by decide +kernel
theorem dX12_values_50 : decode cX12_values 50 = .ok (.aload_n 0, 1) := by decide +kernel
theorem dX12_values_51 : decode cX12_values 51 = .ok (.getfield 146, 3) := by decide +kernel
theorem dX12_values_54 : decode cX12_values 54 = .ok (.if_icmp .ge 98, 3) := by decide +kernel
theorem dX12_values_57 : decode cX12_values 57 = .ok (.iload_n 3, 1) := by decide +kernel
theorem dX12_values_58 : decode cX12_values 58 = .ok (.ifCond .ne 50, 3) := by decide +kernel
theorem dX12_values_61 : decode cX12_values 61 = .ok (.aload_n 0, 1) := by decide +kernel
theorem dX12_values_62 : decode cX12_values 62 = .ok (.getfield 66, 3) := by decide +kernel
theorem dX12_values_65 : decode cX12_values 65 = .ok (.iload 5, 2) := by decide +kernel
theorem dX12_values_67 : decode cX12_values 67 = .ok (.laload, 1) := by decide +kernel
theorem dX12_values_68 : decode cX12_values 68 = .ok (.aload_n 0, 1) := by decide +kernel
theorem dX12_values_69 : decode cX12_values 69 = .ok (.getfield 69, 3) := by decide +kernel
theorem dX12_values_72 : decode cX12_values 72 = .ok (.iload 5, 2) := by decide +kernel
theorem dX12_values_74 : decode cX12_values 74 = .ok (.laload, 1) := by decide +kernel
theorem dX12_values_75 : decode cX12_values 75 = .ok (.aload_n 0, 1) := by decide +kernel
theorem dX12_values_76 : decode cX12_values 76 = .ok (.getfield 78, 3) := by decide +kernel
theorem dX12_values_79 : decode cX12_values 79 = .ok (.bipush 7, 2) := by decide +kernel
theorem dX12_values_81 : decode cX12_values 81 = .ok (.iload_n 2, 1) := by decide +kernel
theorem dX12_values_82 : decode cX12_values 82 = .ok (.imul, 1) := by decide +kernel
theorem dX12_values_83 : decode cX12_values 83 = .ok (.iload 5, 2) := by decide +kernel
theorem dX12_values_85 : decode cX12_values 85 = .ok (.iadd, 1) := by decide +kernel
theorem dX12_values_86 : decode cX12_values 86 = .ok (.laload, 1) := by decide +kernel
theorem dX12_values_87 : decode cX12_values 87 = .ok (.aload_n 0, 1) := by decide +kernel
theorem dX12_values_88 : decode cX12_values 88 = .ok (.getfield 81, 3) := by decide +kernel
theorem dX12_values_91 : decode cX12_values 91 = .ok (.bipush 7, 2) := by decide +kernel
theorem dX12_values_93 : decode cX12_values 93 = .ok (.iload_n 2, 1) := by decide +kernel
theorem dX12_values_94 : decode cX12_values 94 = .ok (.imul, 1) := by decide +kernel
theorem dX12_values_95 : decode cX12_values 95 = .ok (.iload 5, 2) := by decide +kernel
theorem dX12_values_97 : decode cX12_values 97 = .ok (.iadd, 1) := by decide +kernel
theorem dX12_values_98 : decode cX12_values 98 = .ok (.laload, 1) := by decide +kernel
theorem dX12_values_99 : decode cX12_values 99 = .ok (.invokestatic 214, 3) := by decide +kernel
theorem dX12_values_102 : decode cX12_values 102 = .ok (.ifCond .gt 6, 3) := by decide +kernel
theorem dX12_values_105 : decode cX12_values 105 = .ok (.goto 41, 3) := by decide +kernel
theorem dX12_values_108 : decode cX12_values 108 = .ok (.aload_n 0, 1) := by decide +kernel
theorem dX12_values_109 : decode cX12_values 109 = .ok (.getfield 78, 3) := by decide +kernel
theorem dX12_values_112 : decode cX12_values 112 = .ok (.bipush 7, 2) := by decide +kernel
theorem dX12_values_114 : decode cX12_values 114 = .ok (.iload_n 2, 1) := by decide +kernel
theorem dX12_values_115 : decode cX12_values 115 = .ok (.imul, 1) := by decide +kernel
theorem dX12_values_116 : decode cX12_values 116 = .ok (.iload 5, 2) := by decide +kernel
theorem dX12_values_118 : decode cX12_values 118 = .ok (.iadd, 1) := by decide +kernel
theorem dX12_values_119 : decode cX12_values 119 = .ok (.aload_n 0, 1) := by decide +kernel
theorem dX12_values_120 : decode cX12_values 120 = .ok (.getfield 66, 3) := by decide +kernel
theorem dX12_values_123 : decode cX12_values 123 = .ok (.iload 5, 2) := by decide +kernel
theorem dX12_values_125 : decode cX12_values 125 = .ok (.laload, 1) := by decide +kernel
theorem dX12_values_126 : decode cX12_values 126 = .ok (.lastore, 1) := by decide +kernel
theorem dX12_values_127 : decode cX12_values 127 = .ok (.aload_n 0, 1) := by decide +kernel
theorem dX12_values_128 : decode cX12_values 128 = .ok (.getfield 81, 3) := by decide +kernel
theorem dX12_values_131 : decode cX12_values 131 = .ok (.bipush 7, 2) := by decide +kernel
theorem dX12_values_133 : decode cX12_values 133 = .ok (.iload_n 2, 1) := by decide +kernel
theorem dX12_values_134 : decode cX12_values 134 = .ok (.imul, 1) := by decide +kernel
theorem dX12_values_135 : decode cX12_values 135 = .ok (.iload 5, 2) := by decide +kernel
theorem dX12_values_137 : decode cX12_values 137 = .ok (.iadd, 1) := by decide +kernel
theorem dX12_values_138 : decode cX12_values 138 = .ok (.aload_n 0, 1) := by decide +kernel
theorem dX12_values_139 : decode cX12_values 139 = .ok (.getfield 69, 3) := by decide +kernel
theorem dX12_values_142 : decode cX12_values 142 = .ok (.iload 5, 2) := by decide +kernel
theorem dX12_values_144 : decode cX12_values 144 = .ok (.laload, 1) := by decide +kernel
theorem dX12_values_145 : decode cX12_values 145 = .ok (.lastore, 1) := by decide +kernel
theorem dX12_values_146 : decode cX12_values 146 = .ok (.iinc 5 1, 3) := by decide +kernel
theorem dX12_values_149 : decode cX12_values 149 = .ok (.goto (-101), 3) := by decide +kernel
theorem dX12_values_152 : decode cX12_values 152 = .ok (.iconst 0, 1) := by decide +kernel
theorem dX12_values_153 : decode cX12_values 153 = .ok (.istore_n 3, 1) := by decide +kernel
theorem dX12_values_154 : decode cX12_values 154 = .ok (.aload_n 0, 1) := by decide +kernel
theorem dX12_values_155 : decode cX12_values 155 = .ok (.bipush 97, 2) := by decide +kernel
theorem dX12_values_157 : decode cX12_values 157 = .ok (.invokevirtual 218, 3) := by decide +kernel
theorem dX12_values_160 : decode cX12_values 160 = .ok (.istore 4, 2) := by decide +kernel
theorem dX12_values_162 : decode cX12_values 162 = .ok (.goto (-129), 3) := by decide +kernel
theorem dX12_values_165 : decode cX12_values 165 = .ok (.return_, 1) := by decide +kernel
theorem dX12_isState_0 : decode cX12_isState 0 = .ok (.iload_n 1, 1) := by decide +kernel
theorem dX12_isState_1 : decode cX12_isState 1 = .ok (.iconst 0, 1) := by decide +kernel
theorem dX12_isState_2 : decode cX12_isState 2 = .ok (.aload_n 0, 1) := by decide +kernel
theorem dX12_isState_3 : decode cX12_isState 3 = .ok (.getfield 146, 3) := by decide +kernel
theorem dX12_isState_6 : decode cX12_isState 6 = .ok (.iconst 1, 1) := by decide +kernel
theorem dX12_isState_7 : decode cX12_isState 7 = .ok (.isub, 1) := by decide +kernel
theorem dX12_isState_8 : decode cX12_isState 8 = .ok (.invokestatic 228, 3) := by decide +kernel
theorem dX12_isState_11 : decode cX12_isState 11 = .ok (.ireturn, 1) := by decide +kernel
theorem dX12_isChoice_0 : decode cX12_isChoice 0 = .ok (.aload_n 0, 1) := by decide +kernel
theorem dX12_isChoice_1 : decode cX12_isChoice 1 = .ok (.iload_n 1, 1) := by decide +kernel
theorem dX12_isChoice_2 : decode cX12_isChoice 2 = .ok (.invokevirtual 232, 3) := by decide +kernel
theorem dX12_isChoice_5 : decode cX12_isChoice 5 = .ok (.ifCond .eq 23, 3) := by decide +kernel
theorem dX12_isChoice_8 : decode cX12_isChoice 8 = .ok (.iload_n 2, 1) := by decide +kernel
theorem dX12_isChoice_9 : decode cX12_isChoice 9 = .ok (.iconst 0, 1) := by decide +kernel
theorem dX12_isChoice_10 : decode cX12_isChoice 10 = .ok (.aload_n 0, 1) := by decide +kernel
theorem dX12_isChoice_11 : decode cX12_isChoice 11 = .ok (.getfield 16, 3) := by decide +kernel
theorem dX12_isChoice_14 : decode cX12_isChoice 14 = .ok (.iload_n 1, 1) := by decide +kernel
theorem dX12_isChoice_15 : decode cX12_isChoice 15 = .ok (.iaload, 1) := by decide +kernel
theorem dX12_isChoice_16 : decode cX12_isChoice 16 = .ok (.iconst 1, 1) := by decide +kernel
theorem dX12_isChoice_17 : decode cX12_isChoice 17 = .ok (.isub, 1) := by decide +kernel
theorem dX12_isChoice_18 : decode cX12_isChoice 18 = .ok (.invokestatic 228, 3) := by decide +kernel
theorem dX12_isChoice_21 : decode cX12_isChoice 21 = .ok (.ifCond .eq 7, 3) := by decide +kernel
theorem dX12_isChoice_24 : decode cX12_isChoice 24 = .ok (.iconst 1, 1) := by decide +kernel
theorem dX12_isChoice_25 : decode cX12_isChoice 25 = .ok (.goto 4, 3) := by decide +kernel
theorem dX12_isChoice_28 : decode cX12_isChoice 28 = .ok (.iconst 0, 1) := by decide +kernel
theorem dX12_isChoice_29 : decode cX12_isChoice 29 = .ok (.ireturn, 1) := by decide +kernel
theorem dX12_addState_0 : decode cX12_addState 0 = .ok (.iload_n 1, 1) := by decide +kernel
theorem dX12_addState_1 : decode cX12_addState 1 = .ok (.bipush 97, 2) := by decide +kernel
theorem dX12_addState_3 : decode cX12_addState 3 = .ok (.if_icmp .eq 9, 3) := by decide +kernel
theorem dX12_addState_6 : decode cX12_addState 6 = .ok (.iload_n 1, 1) := by decide +kernel
theorem dX12_addState_7 : decode cX12_addState 7 = .ok (.bipush 98, 2) := by decide +kernel
theorem dX12_addState_9 : decode cX12_addState 9 = .ok (.if_icmp .ne 12, 3) := by decide +kernel
theorem dX12_addState_12 : decode cX12_addState 12 = .ok (.iload_n 2, 1) := by decide +kernel
theorem dX12_addState_13 : decode cX12_addState 13 = .ok (.iconst 0, 1) := by decide +kernel
theorem dX12_addState_14 : decode cX12_addState 14 = .ok (.iconst 3, 1) := by decide +kernel
theorem dX12_addState_15 : decode cX12_addState 15 = .ok (.invokestatic 228, 3) := by decide +kernel
theorem dX12_addState_18 : decode cX12_addState 18 = .ok (.ifCond .ne 9, 3) := by decide +kernel
theorem dX12_addState_21 : decode cX12_addState 21 = .ok (.aload_n 0, 1) := by decide +kernel
theorem dX12_addState_22 : decode cX12_addState 22 = .ok (.iconst 1, 1) := by decide +kernel
theorem dX12_addState_23 : decode cX12_addState 23 = .ok (.invokevirtual 235, 3) := by decide +kernel
theorem dX12_addState_26 : decode cX12_addState 26 = .ok (.ireturn, 1) := by decide +kernel
theorem dX12_addState_27 : decode cX12_addState 27 = .ok (.aload_n 0, 1) := by decide +kernel
theorem dX12_addState_28 : decode cX12_addState 28 = .ok (.getfield 146, 3) := by decide +kernel
theorem dX12_addState_31 : decode cX12_addState 31 = .ok (.bipush 7, 2) := by decide +kernel
theorem dX12_addState_33 : decode cX12_addState 33 = .ok (.if_icmp .ne 9, 3) := by decide +kernel
theorem dX12_addState_36 : decode cX12_addState 36 = .ok (.aload_n 0, 1) := by decide +kernel
theorem dX12_addState_37 : decode cX12_addState 37 = .ok (.iconst 2, 1) := by decide +kernel
theorem dX12_addState_38 : decode cX12_addState 38 = .ok (.invokevirtual 235, 3) := by decide +kernel
theorem dX12_addState_41 : decode cX12_addState 41 = .ok (.ireturn, 1) := by decide +kernel
theorem dX12_addState_42 : decode cX12_addState 42 = .ok (.aload_n 0, 1) := by decide +kernel
theorem dX12_addState_43 : decode cX12_addState 43 = .ok (.invokevirtual 238, 3) := by decide +kernel
theorem dX12_addState_46 : decode cX12_addState 46 = .ok (.aload_n 0, 1) := by decide +kernel
theorem dX12_addState_47 : decode cX12_addState 47 = .ok (.getfield 7, 3) := by decide +kernel
theorem dX12_addState_50 : decode cX12_addState 50 = .ok (.aload_n 0, 1) := by decide +kernel
theorem dX12_addState_51 : decode cX12_addState 51 = .ok (.getfield 146, 3) := by decide +kernel
theorem dX12_addState_54 : decode cX12_addState 54 = .ok (.iload_n 1, 1) := by decide +kernel
theorem dX12_addState_55 : decode cX12_addState 55 = .ok (.iastore, 1) := by decide +kernel
theorem dX12_addState_56 : decode cX12_addState 56 = .ok (.aload_n 0, 1) := by decide +kernel
theorem dX12_addState_57 : decode cX12_addState 57 = .ok (.getfield 13, 3) := by decide +kernel
theorem dX12_addState_60 : decode cX12_addState 60 = .ok (.aload_n 0, 1) := by decide +kernel
theorem dX12_addState_61 : decode cX12_addState 61 = .ok (.getfield 146, 3) := by decide +kernel
theorem dX12_addState_64 : decode cX12_addState 64 = .ok (.iload_n 2, 1) := by decide +kernel
theorem dX12_addState_65 : decode cX12_addState 65 = .ok (.iastore, 1) := by decide +kernel
theorem dX12_addState_66 : decode cX12_addState 66 = .ok (.aload_n 0, 1) := by decide +kernel
theorem dX12_addState_67 : decode cX12_addState 67 = .ok (.dup, 1) := by decide +kernel
theorem dX12_addState_68 : decode cX12_addState 68 = .ok (.getfield 146, 3) := by decide +kernel
theorem dX12_addState_71 : decode cX12_addState 71 = .ok (.iconst 1, 1) := by decide +kernel
theorem dX12_addState_72 : decode cX12_addState 72 = .ok (.iadd, 1) := by decide +kernel
theorem dX12_addState_73 : decode cX12_addState 73 = .ok (.putfield 146, 3) := by decide +kernel
theorem dX12_addState_76 : decode cX12_addState 76 = .ok (.aload_n 0, 1) := by decide +kernel
theorem dX12_addState_77 : decode cX12_addState 77 = .ok (.getfield 146, 3) := by decide +kernel
theorem dX12_addState_80 : decode cX12_addState 80 = .ok (.iconst 1, 1) := by decide +kernel
theorem dX12_addState_81 : decode cX12_addState 81 = .ok (.isub, 1) := by decide +kernel
theorem dX12_addState_82 : decode cX12_addState 82 = .ok (.ireturn, 1) := by decide +kernel
theorem dX12_addChoice_0 : decode cX12_addChoice 0 = .ok (.aload_n 0, 1) := by decide +kernel
theorem dX12_addChoice_1 : decode cX12_addChoice 1 = .ok (.iload_n 1, 1) := by decide +kernel
theorem dX12_addChoice_2 : decode cX12_addChoice 2 = .ok (.invokevirtual 232, 3) := by decide +kernel
theorem dX12_addChoice_5 : decode cX12_addChoice 5 = .ok (.ifCond .ne 9, 3) := by decide +kernel
theorem dX12_addChoice_8 : decode cX12_addChoice 8 = .ok (.aload_n 0, 1) := by decide +kernel
theorem dX12_addChoice_9 : decode cX12_addChoice 9 = .ok (.iconst 1, 1) := by decide +kernel
theorem dX12_addChoice_10 : decode cX12_addChoice 10 = .ok (.invokevirtual 235, 3) := by decide +kernel
theorem dX12_addChoice_13 : decode cX12_addChoice 13 = .ok (.ireturn, 1) := by decide +kernel
theorem dX12_addChoice_14 : decode cX12_addChoice 14 = .ok (.iload_n 2, 1) := by decide +kernel
theorem dX12_addChoice_15 : decode cX12_addChoice 15 = .ok (.iconst 0, 1) := by decide +kernel
theorem dX12_addChoice_16 : decode cX12_addChoice 16 = .ok (.bipush 9, 2) := by decide +kernel
theorem dX12_addChoice_18 : decode cX12_addChoice 18 = .ok (.invokestatic 228, 3) := by decide +kernel
theorem dX12_addChoice_21 : decode cX12_addChoice 21 = .ok (.ifCond .eq 13, 3) := by decide +kernel
theorem dX12_addChoice_24 : decode cX12_addChoice 24 = .ok (.iload_n 3, 1) := by decide +kernel
theorem dX12_addChoice_25 : decode cX12_addChoice 25 = .ok (.iconst 0, 1) := by decide +kernel
theorem dX12_addChoice_26 : decode cX12_addChoice 26 = .ok (.bipush 9, 2) := by decide +kernel
theorem dX12_addChoice_28 : decode cX12_addChoice 28 = .ok (.invokestatic 228, 3) := by decide +kernel
theorem dX12_addChoice_31 : decode cX12_addChoice 31 = .ok (.ifCond .ne 9, 3) := by decide +kernel
theorem dX12_addChoice_34 : decode cX12_addChoice 34 = .ok (.aload_n 0, 1) := by decide +kernel
theorem dX12_addChoice_35 : decode cX12_addChoice 35 = .ok (.iconst 2, 1) := by decide +kernel
theorem dX12_addChoice_36 : decode cX12_addChoice 36 = .ok (.invokevirtual 235, 3) := by decide +kernel
theorem dX12_addChoice_39 : decode cX12_addChoice 39 = .ok (.ireturn, 1) := by decide +kernel
theorem dX12_addChoice_40 : decode cX12_addChoice 40 = .ok (.aload_n 0, 1) := by decide +kernel
theorem dX12_addChoice_41 : decode cX12_addChoice 41 = .ok (.getfield 16, 3) := by decide +kernel
theorem dX12_addChoice_44 : decode cX12_addChoice 44 = .ok (.iload_n 1, 1) := by decide +kernel
theorem dX12_addChoice_45 : decode cX12_addChoice 45 = .ok (.iaload, 1) := by decide +kernel
theorem dX12_addChoice_46 : decode cX12_addChoice 46 = .ok (.iconst 3, 1) := by decide +kernel
theorem dX12_addChoice_47 : decode cX12_addChoice 47 = .ok (.if_icmp .ne 9, 3) := by decide +kernel
theorem dX12_addChoice_50 : decode cX12_addChoice 50 = .ok (.aload_n 0, 1) := by decide +kernel
theorem dX12_addChoice_51 : decode cX12_addChoice 51 = .ok (.iconst 3, 1) := by decide +kernel
theorem dX12_addChoice_52 : decode cX12_addChoice 52 = .ok (.invokevirtual 235, 3) := by decide +kernel
theorem dX12_addChoice_55 : decode cX12_addChoice 55 = .ok (.ireturn, 1) := by decide +kernel
theorem dX12_addChoice_56 : decode cX12_addChoice 56 = .ok (.aload_n 0, 1) := by decide +kernel
theorem dX12_addChoice_57 : decode cX12_addChoice 57 = .ok (.invokevirtual 238, 3) := by decide +kernel
theorem dX12_addChoice_60 : decode cX12_addChoice 60 = .ok (.iconst 3, 1) := by decide +kernel
theorem dX12_addChoice_61 : decode cX12_addChoice 61 = .ok (.iload_n 1, 1) := by decide +kernel
theorem dX12_addChoice_62 : decode cX12_addChoice 62 = .ok (.imul, 1) := by decide +kernel
theorem dX12_addChoice_63 : decode cX12_addChoice 63 = .ok (.aload_n 0, 1) := by decide +kernel
theorem dX12_addChoice_64 : decode cX12_addChoice 64 = .ok (.getfield 16, 3) := by decide +kernel
theorem dX12_addChoice_67 : decode cX12_addChoice 67 = .ok (.iload_n 1, 1) := by decide +kernel
theorem dX12_addChoice_68 : decode cX12_addChoice 68 = .ok (.iaload, 1) := by decide +kernel
theorem dX12_addChoice_69 : decode cX12_addChoice 69 = .ok (.iadd, 1) := by decide +kernel
theorem dX12_addChoice_70 : decode cX12_addChoice 70 = .ok (.istore 4, 2) := by decide +kernel
theorem dX12_addChoice_72 : decode cX12_addChoice 72 = .ok (.aload_n 0, 1) := by decide +kernel
theorem dX12_addChoice_73 : decode cX12_addChoice 73 = .ok (.getfield 28, 3) := by decide +kernel
theorem dX12_addChoice_76 : decode cX12_addChoice 76 = .ok (.iload 4, 2) := by decide +kernel
theorem dX12_addChoice_78 : decode cX12_addChoice 78 = .ok (.iload_n 2, 1) := by decide +kernel
theorem dX12_addChoice_79 : decode cX12_addChoice 79 = .ok (.iastore, 1) := by decide +kernel
theorem dX12_addChoice_80 : decode cX12_addChoice 80 = .ok (.aload_n 0, 1) := by decide +kernel
theorem dX12_addChoice_81 : decode cX12_addChoice 81 = .ok (.getfield 31, 3) := by decide +kernel
theorem dX12_addChoice_84 : decode cX12_addChoice 84 = .ok (.iload 4, 2) := by decide +kernel
theorem dX12_addChoice_86 : decode cX12_addChoice 86 = .ok (.iload_n 3, 1) := by decide +kernel
theorem dX12_addChoice_87 : decode cX12_addChoice 87 = .ok (.iastore, 1) := by decide +kernel
theorem dX12_addChoice_88 : decode cX12_addChoice 88 = .ok (.aload_n 0, 1) := by decide +kernel
theorem dX12_addChoice_89 : decode cX12_addChoice 89 = .ok (.getfield 16, 3) := by decide +kernel
theorem dX12_addChoice_92 : decode cX12_addChoice 92 = .ok (.iload_n 1, 1) := by decide +kernel
theorem dX12_addChoice_93 : decode cX12_addChoice 93 = .ok (.dup2, 1) := by decide +kernel
theorem dX12_addChoice_94 : decode cX12_addChoice 94 = .ok (.iaload, 1) := by decide +kernel
theorem dX12_addChoice_95 : decode cX12_addChoice 95 = .ok (.iconst 1, 1) := by decide +kernel
theorem dX12_addChoice_96 : decode cX12_addChoice 96 = .ok (.iadd, 1) := by decide +kernel
theorem dX12_addChoice_97 : decode cX12_addChoice 97 = .ok (.iastore, 1) := by decide +kernel
theorem dX12_addChoice_98 : decode cX12_addChoice 98 = .ok (.aload_n 0, 1) := by decide +kernel
theorem dX12_addChoice_99 : decode cX12_addChoice 99 = .ok (.getfield 16, 3) := by decide +kernel
theorem dX12_addChoice_102 : decode cX12_addChoice 102 = .ok (.iload_n 1, 1) := by decide +kernel
theorem dX12_addChoice_103 : decode cX12_addChoice 103 = .ok (.iaload, 1) := by decide +kernel
theorem dX12_addChoice_104 : decode cX12_addChoice 104 = .ok (.iconst 1, 1) := by decide +kernel
theorem dX12_addChoice_105 : decode cX12_addChoice 105 = .ok (.isub, 1) := by decide +kernel
theorem dX12_addChoice_106 : decode cX12_addChoice 106 = .ok (.ireturn, 1) := by decide +kernel
theorem dX12_addWeight_0 : decode cX12_addWeight 0 = .ok (.aload_n 0, 1) := by decide +kernel
theorem dX12_addWeight_1 : decode cX12_addWeight 1 = .ok (.iload_n 1, 1) := by decide +kernel
theorem dX12_addWeight_2 : decode cX12_addWeight 2 = .ok (.iload_n 2, 1) := by decide +kernel
theorem dX12_addWeight_3 : decode cX12_addWeight 3 = .ok (.invokevirtual 241, 3) := by decide +kernel
theorem dX12_addWeight_6 : decode cX12_addWeight 6 = .ok (.ifCond .eq 11, 3) := by decide +kernel
theorem dX12_addWeight_9 : decode cX12_addWeight 9 = .ok (.aload_n 0, 1) := by decide +kernel
theorem dX12_addWeight_10 : decode cX12_addWeight 10 = .ok (.iload_n 3, 1) := by decide +kernel
theorem dX12_addWeight_11 : decode cX12_addWeight 11 = .ok (.invokevirtual 232, 3) := by decide +kernel
theorem dX12_addWeight_14 : decode cX12_addWeight 14 = .ok (.ifCond .ne 9, 3) := by decide +kernel
theorem dX12_addWeight_17 : decode cX12_addWeight 17 = .ok (.aload_n 0, 1) := by decide +kernel
theorem dX12_addWeight_18 : decode cX12_addWeight 18 = .ok (.iconst 1, 1) := by decide +kernel
theorem dX12_addWeight_19 : decode cX12_addWeight 19 = .ok (.invokevirtual 235, 3) := by decide +kernel
theorem dX12_addWeight_22 : decode cX12_addWeight 22 = .ok (.ireturn, 1) := by decide +kernel
theorem dX12_addWeight_23 : decode cX12_addWeight 23 = .ok (.iload 4, 2) := by decide +kernel
theorem dX12_addWeight_25 : decode cX12_addWeight 25 = .ok (.iconst 1, 1) := by decide +kernel
theorem dX12_addWeight_26 : decode cX12_addWeight 26 = .ok (.bipush 6, 2) := by decide +kernel
theorem dX12_addWeight_28 : decode cX12_addWeight 28 = .ok (.invokestatic 228, 3) := by decide +kernel
theorem dX12_addWeight_31 : decode cX12_addWeight 31 = .ok (.ifCond .ne 9, 3) := by decide +kernel
theorem dX12_addWeight_34 : decode cX12_addWeight 34 = .ok (.aload_n 0, 1) := by decide +kernel
theorem dX12_addWeight_35 : decode cX12_addWeight 35 = .ok (.iconst 2, 1) := by decide +kernel
theorem dX12_addWeight_36 : decode cX12_addWeight 36 = .ok (.invokevirtual 235, 3) := by decide +kernel
theorem dX12_addWeight_39 : decode cX12_addWeight 39 = .ok (.ireturn, 1) := by decide +kernel
theorem dX12_addWeight_40 : decode cX12_addWeight 40 = .ok (.iconst 3, 1) := by decide +kernel
theorem dX12_addWeight_41 : decode cX12_addWeight 41 = .ok (.iload_n 1, 1) := by decide +kernel
theorem dX12_addWeight_42 : decode cX12_addWeight 42 = .ok (.imul, 1) := by decide +kernel
theorem dX12_addWeight_43 : decode cX12_addWeight 43 = .ok (.iload_n 2, 1) := by decide +kernel
theorem dX12_addWeight_44 : decode cX12_addWeight 44 = .ok (.iadd, 1) := by decide +kernel
theorem dX12_addWeight_45 : decode cX12_addWeight 45 = .ok (.istore 5, 2) := by decide +kernel
theorem dX12_addWeight_47 : decode cX12_addWeight 47 = .ok (.aload_n 0, 1) := by decide +kernel
theorem dX12_addWeight_48 : decode cX12_addWeight 48 = .ok (.getfield 34, 3) := by decide +kernel
theorem dX12_addWeight_51 : decode cX12_addWeight 51 = .ok (.iload 5, 2) := by decide +kernel
theorem dX12_addWeight_53 : decode cX12_addWeight 53 = .ok (.iaload, 1) := by decide +kernel
theorem dX12_addWeight_54 : decode cX12_addWeight 54 = .ok (.iload 4, 2) := by decide +kernel
theorem dX12_addWeight_56 : decode cX12_addWeight 56 = .ok (.iadd, 1) := by decide +kernel
theorem dX12_addWeight_57 : decode cX12_addWeight 57 = .ok (.bipush 6, 2) := by decide +kernel
theorem dX12_addWeight_59 : decode cX12_addWeight 59 = .ok (.if_icmp .le 9, 3) := by decide +kernel
theorem dX12_addWeight_62 : decode cX12_addWeight 62 = .ok (.aload_n 0, 1) := by decide +kernel
theorem dX12_addWeight_63 : decode cX12_addWeight 63 = .ok (.iconst 3, 1) := by decide +kernel
theorem dX12_addWeight_64 : decode cX12_addWeight 64 = .ok (.invokevirtual 235, 3) := by decide +kernel
theorem dX12_addWeight_67 : decode cX12_addWeight 67 = .ok (.ireturn, 1) := by decide +kernel
theorem dX12_addWeight_68 : decode cX12_addWeight 68 = .ok (.aload_n 0, 1) := by decide +kernel
theorem dX12_addWeight_69 : decode cX12_addWeight 69 = .ok (.invokevirtual 238, 3) := by decide +kernel
theorem dX12_addWeight_72 : decode cX12_addWeight 72 = .ok (.aload_n 0, 1) := by decide +kernel
theorem dX12_addWeight_73 : decode cX12_addWeight 73 = .ok (.getfield 37, 3) := by decide +kernel
theorem dX12_addWeight_76 : decode cX12_addWeight 76 = .ok (.bipush 7, 2) := by decide +kernel
theorem dX12_addWeight_78 : decode cX12_addWeight 78 = .ok (.iload 5, 2) := by decide +kernel
theorem dX12_addWeight_80 : decode cX12_addWeight 80 = .ok (.imul, 1) := by decide +kernel
theorem dX12_addWeight_81 : decode cX12_addWeight 81 = .ok (.iload_n 3, 1) := by decide +kernel
theorem dX12_addWeight_82 : decode cX12_addWeight 82 = .ok (.iadd, 1) := by decide +kernel
theorem dX12_addWeight_83 : decode cX12_addWeight 83 = .ok (.dup2, 1) := by decide +kernel
theorem dX12_addWeight_84 : decode cX12_addWeight 84 = .ok (.iaload, 1) := by decide +kernel
theorem dX12_addWeight_85 : decode cX12_addWeight 85 = .ok (.iload 4, 2) := by decide +kernel
theorem dX12_addWeight_87 : decode cX12_addWeight 87 = .ok (.iadd, 1) := by decide +kernel
theorem dX12_addWeight_88 : decode cX12_addWeight 88 = .ok (.iastore, 1) := by decide +kernel
theorem dX12_addWeight_89 : decode cX12_addWeight 89 = .ok (.aload_n 0, 1) := by decide +kernel
theorem dX12_addWeight_90 : decode cX12_addWeight 90 = .ok (.getfield 34, 3) := by decide +kernel
theorem dX12_addWeight_93 : decode cX12_addWeight 93 = .ok (.iload 5, 2) := by decide +kernel
theorem dX12_addWeight_95 : decode cX12_addWeight 95 = .ok (.dup2, 1) := by decide +kernel
theorem dX12_addWeight_96 : decode cX12_addWeight 96 = .ok (.iaload, 1) := by decide +kernel
theorem dX12_addWeight_97 : decode cX12_addWeight 97 = .ok (.iload 4, 2) := by decide +kernel
theorem dX12_addWeight_99 : decode cX12_addWeight 99 = .ok (.iadd, 1) := by decide +kernel
theorem dX12_addWeight_100 : decode cX12_addWeight 100 = .ok (.iastore, 1) := by decide +kernel
theorem dX12_addWeight_101 : decode cX12_addWeight 101 = .ok (.aload_n 0, 1) := by decide +kernel
theorem dX12_addWeight_102 : decode cX12_addWeight 102 = .ok (.getfield 34, 3) := by decide +kernel
theorem dX12_addWeight_105 : decode cX12_addWeight 105 = .ok (.iload 5, 2) := by decide +kernel
theorem dX12_addWeight_107 : decode cX12_addWeight 107 = .ok (.iaload, 1) := by decide +kernel
theorem dX12_addWeight_108 : decode cX12_addWeight 108 = .ok (.ireturn, 1) := by decide +kernel
theorem dX12_setTarget_0 : decode cX12_setTarget 0 = .ok (.aload_n 0, 1) := by decide +kernel
theorem dX12_setTarget_1 : decode cX12_setTarget 1 = .ok (.iload_n 1, 1) := by decide +kernel
theorem dX12_setTarget_2 : decode cX12_setTarget 2 = .ok (.invokevirtual 232, 3) := by decide +kernel
theorem dX12_setTarget_5 : decode cX12_setTarget 5 = .ok (.ifCond .ne 10, 3) := by decide +kernel
theorem dX12_setTarget_8 : decode cX12_setTarget 8 = .ok (.aload_n 0, 1) := by decide +kernel
theorem dX12_setTarget_9 : decode cX12_setTarget 9 = .ok (.iconst 1, 1) := by decide +kernel
theorem dX12_setTarget_10 : decode cX12_setTarget 10 = .ok (.putfield 122, 3) := by decide +kernel
theorem dX12_setTarget_13 : decode cX12_setTarget 13 = .ok (.iconst 0, 1) := by decide +kernel
theorem dX12_setTarget_14 : decode cX12_setTarget 14 = .ok (.ireturn, 1) := by decide +kernel
theorem dX12_setTarget_15 : decode cX12_setTarget 15 = .ok (.aload_n 0, 1) := by decide +kernel
theorem dX12_setTarget_16 : decode cX12_setTarget 16 = .ok (.invokevirtual 238, 3) := by decide +kernel
theorem dX12_setTarget_19 : decode cX12_setTarget 19 = .ok (.aload_n 0, 1) := by decide +kernel
theorem dX12_setTarget_20 : decode cX12_setTarget 20 = .ok (.getfield 40, 3) := by decide +kernel
theorem dX12_setTarget_23 : decode cX12_setTarget 23 = .ok (.iload_n 1, 1) := by decide +kernel
theorem dX12_setTarget_24 : decode cX12_setTarget 24 = .ok (.baload, 1) := by decide +kernel
theorem dX12_setTarget_25 : decode cX12_setTarget 25 = .ok (.istore_n 3, 1) := by decide +kernel
theorem dX12_setTarget_26 : decode cX12_setTarget 26 = .ok (.aload_n 0, 1) := by decide +kernel
theorem dX12_setTarget_27 : decode cX12_setTarget 27 = .ok (.getfield 40, 3) := by decide +kernel
theorem dX12_setTarget_30 : decode cX12_setTarget 30 = .ok (.iload_n 1, 1) := by decide +kernel
theorem dX12_setTarget_31 : decode cX12_setTarget 31 = .ok (.iload_n 2, 1) := by decide +kernel
theorem dX12_setTarget_32 : decode cX12_setTarget 32 = .ok (.bastore, 1) := by decide +kernel
theorem dX12_setTarget_33 : decode cX12_setTarget 33 = .ok (.iload_n 3, 1) := by decide +kernel
theorem dX12_setTarget_34 : decode cX12_setTarget 34 = .ok (.ireturn, 1) := by decide +kernel
theorem dX12_setDiscount_0 : decode cX12_setDiscount 0 = .ok (.iload_n 1, 1) := by decide +kernel
theorem dX12_setDiscount_1 : decode cX12_setDiscount 1 = .ok (.iconst 1, 1) := by decide +kernel
theorem dX12_setDiscount_2 : decode cX12_setDiscount 2 = .ok (.iconst 2, 1) := by decide +kernel
theorem dX12_setDiscount_3 : decode cX12_setDiscount 3 = .ok (.invokestatic 228, 3) := by decide +kernel
theorem dX12_setDiscount_6 : decode cX12_setDiscount 6 = .ok (.ifCond .eq 17, 3) := by decide +kernel
theorem dX12_setDiscount_9 : decode cX12_setDiscount 9 = .ok (.iload_n 2, 1) := by decide +kernel
theorem dX12_setDiscount_10 : decode cX12_setDiscount 10 = .ok (.iconst 2, 1) := by decide +kernel
theorem dX12_setDiscount_11 : decode cX12_setDiscount 11 = .ok (.iconst 3, 1) := by decide +kernel
theorem dX12_setDiscount_12 : decode cX12_setDiscount 12 = .ok (.invokestatic 228, 3) := by decide +kernel
theorem dX12_setDiscount_15 : decode cX12_setDiscount 15 = .ok (.ifCond .eq 8, 3) := by decide +kernel
theorem dX12_setDiscount_18 : decode cX12_setDiscount 18 = .ok (.iload_n 1, 1) := by decide +kernel
theorem dX12_setDiscount_19 : decode cX12_setDiscount 19 = .ok (.iload_n 2, 1) := by decide +kernel
theorem dX12_setDiscount_20 : decode cX12_setDiscount 20 = .ok (.if_icmp .lt 9, 3) := by decide +kernel
theorem dX12_setDiscount_23 : decode cX12_setDiscount 23 = .ok (.aload_n 0, 1) := by decide +kernel
theorem dX12_setDiscount_24 : decode cX12_setDiscount 24 = .ok (.iconst 1, 1) := by decide +kernel
theorem dX12_setDiscount_25 : decode cX12_setDiscount 25 = .ok (.invokevirtual 235, 3) := by decide +kernel
theorem dX12_setDiscount_28 : decode cX12_setDiscount 28 = .ok (.ireturn, 1) := by decide +kernel
theorem dX12_setDiscount_29 : decode cX12_setDiscount 29 = .ok (.aload_n 0, 1) := by decide +kernel
theorem dX12_setDiscount_30 : decode cX12_setDiscount 30 = .ok (.invokevirtual 238, 3) := by decide +kernel
theorem dX12_setDiscount_33 : decode cX12_setDiscount 33 = .ok (.bipush 10, 2) := by decide +kernel
theorem dX12_setDiscount_35 : decode cX12_setDiscount 35 = .ok (.aload_n 0, 1) := by decide +kernel
theorem dX12_setDiscount_36 : decode cX12_setDiscount 36 = .ok (.getfield 109, 3) := by decide +kernel
theorem dX12_setDiscount_39 : decode cX12_setDiscount 39 = .ok (.imul, 1) := by decide +kernel
theorem dX12_setDiscount_40 : decode cX12_setDiscount 40 = .ok (.aload_n 0, 1) := by decide +kernel
theorem dX12_setDiscount_41 : decode cX12_setDiscount 41 = .ok (.getfield 113, 3) := by decide +kernel
theorem dX12_setDiscount_44 : decode cX12_setDiscount 44 = .ok (.iadd, 1) := by decide +kernel
theorem dX12_setDiscount_45 : decode cX12_setDiscount 45 = .ok (.istore_n 3, 1) := by decide +kernel
theorem dX12_setDiscount_46 : decode cX12_setDiscount 46 = .ok (.aload_n 0, 1) := by decide +kernel
theorem dX12_setDiscount_47 : decode cX12_setDiscount 47 = .ok (.iload_n 1, 1) := by decide +kernel
theorem dX12_setDiscount_48 : decode cX12_setDiscount 48 = .ok (.putfield 109, 3) := by decide +kernel
theorem dX12_setDiscount_51 : decode cX12_setDiscount 51 = .ok (.aload_n 0, 1) := by decide +kernel
theorem dX12_setDiscount_52 : decode cX12_setDiscount 52 = .ok (.iload_n 2, 1) := by decide +kernel
theorem dX12_setDiscount_53 : decode cX12_setDiscount 53 = .ok (.putfield 113, 3) := by decide +kernel
theorem dX12_setDiscount_56 : decode cX12_setDiscount 56 = .ok (.iload_n 3, 1) := by decide +kernel
theorem dX12_setDiscount_57 : decode cX12_setDiscount 57 = .ok (.ireturn, 1) := by decide +kernel
theorem dX12_setWeights_0 : decode cX12_setWeights 0 = .ok (.iload_n 1, 1) := by decide +kernel
theorem dX12_setWeights_1 : decode cX12_setWeights 1 = .ok (.iconst 0, 1) := by decide +kernel
theorem dX12_setWeights_2 : decode cX12_setWeights 2 = .ok (.iconst 3, 1) := by decide +kernel
theorem dX12_setWeights_3 : decode cX12_setWeights 3 = .ok (.invokestatic 228, 3) := by decide +kernel
theorem dX12_setWeights_6 : decode cX12_setWeights 6 = .ok (.ifCond .eq 12, 3) := by decide +kernel
theorem dX12_setWeights_9 : decode cX12_setWeights 9 = .ok (.iload_n 2, 1) := by decide +kernel
theorem dX12_setWeights_10 : decode cX12_setWeights 10 = .ok (.iconst 0, 1) := by decide +kernel
theorem dX12_setWeights_11 : decode cX12_setWeights 11 = .ok (.iconst 3, 1) := by decide +kernel
theorem dX12_setWeights_12 : decode cX12_setWeights 12 = .ok (.invokestatic 228, 3) := by decide +kernel
theorem dX12_setWeights_15 : decode cX12_setWeights 15 = .ok (.ifCond .ne 9, 3) := by decide +kernel
theorem dX12_setWeights_18 : decode cX12_setWeights 18 = .ok (.aload_n 0, 1) := by decide +kernel
theorem dX12_setWeights_19 : decode cX12_setWeights 19 = .ok (.iconst 1, 1) := by decide +kernel
theorem dX12_setWeights_20 : decode cX12_setWeights 20 = .ok (.invokevirtual 235, 3) := by decide +kernel
theorem dX12_setWeights_23 : decode cX12_setWeights 23 = .ok (.ireturn, 1) := by decide +kernel
theorem dX12_setWeights_24 : decode cX12_setWeights 24 = .ok (.aload_n 0, 1) := by decide +kernel
theorem dX12_setWeights_25 : decode cX12_setWeights 25 = .ok (.invokevirtual 238, 3) := by decide +kernel
theorem dX12_setWeights_28 : decode cX12_setWeights 28 = .ok (.bipush 10, 2) := by decide +kernel
theorem dX12_setWeights_30 : decode cX12_setWeights 30 = .ok (.aload_n 0, 1) := by decide +kernel
theorem dX12_setWeights_31 : decode cX12_setWeights 31 = .ok (.getfield 116, 3) := by decide +kernel
theorem dX12_setWeights_34 : decode cX12_setWeights 34 = .ok (.imul, 1) := by decide +kernel
theorem dX12_setWeights_35 : decode cX12_setWeights 35 = .ok (.aload_n 0, 1) := by decide +kernel
theorem dX12_setWeights_36 : decode cX12_setWeights 36 = .ok (.getfield 119, 3) := by decide +kernel
theorem dX12_setWeights_39 : decode cX12_setWeights 39 = .ok (.iadd, 1) := by decide +kernel
theorem dX12_setWeights_40 : decode cX12_setWeights 40 = .ok (.istore_n 3, 1) := by decide +kernel
theorem dX12_setWeights_41 : decode cX12_setWeights 41 = .ok (.aload_n 0, 1) := by decide +kernel
theorem dX12_setWeights_42 : decode cX12_setWeights 42 = .ok (.iload_n 1, 1) := by decide +kernel
theorem dX12_setWeights_43 : decode cX12_setWeights 43 = .ok (.putfield 116, 3) := by decide +kernel
theorem dX12_setWeights_46 : decode cX12_setWeights 46 = .ok (.aload_n 0, 1) := by decide +kernel
theorem dX12_setWeights_47 : decode cX12_setWeights 47 = .ok (.iload_n 2, 1) := by decide +kernel
theorem dX12_setWeights_48 : decode cX12_setWeights 48 = .ok (.putfield 119, 3) := by decide +kernel
theorem dX12_setWeights_51 : decode cX12_setWeights 51 = .ok (.iload_n 3, 1) := by decide +kernel
theorem dX12_setWeights_52 : decode cX12_setWeights 52 = .ok (.ireturn, 1) := by decide +kernel
theorem dX12_states_0 : decode cX12_states 0 = .ok (.aload_n 0, 1) := by decide +kernel
theorem dX12_states_1 : decode cX12_states 1 = .ok (.iconst 0, 1) := by decide +kernel
theorem dX12_states_2 : decode cX12_states 2 = .ok (.putfield 122, 3) := by decide +kernel
theorem dX12_states_5 : decode cX12_states 5 = .ok (.aload_n 0, 1) := by decide +kernel
theorem dX12_states_6 : decode cX12_states 6 = .ok (.getfield 146, 3) := by decide +kernel
theorem dX12_states_9 : decode cX12_states 9 = .ok (.ireturn, 1) := by decide +kernel
theorem dX12_choices_0 : decode cX12_choices 0 = .ok (.aload_n 0, 1) := by decide +kernel
theorem dX12_choices_1 : decode cX12_choices 1 = .ok (.iload_n 1, 1) := by decide +kernel
theorem dX12_choices_2 : decode cX12_choices 2 = .ok (.invokevirtual 232, 3) := by decide +kernel
theorem dX12_choices_5 : decode cX12_choices 5 = .ok (.ifCond .ne 9, 3) := by decide +kernel
theorem dX12_choices_8 : decode cX12_choices 8 = .ok (.aload_n 0, 1) := by decide +kernel
theorem dX12_choices_9 : decode cX12_choices 9 = .ok (.iconst 1, 1) := by decide +kernel
theorem dX12_choices_10 : decode cX12_choices 10 = .ok (.invokevirtual 235, 3) := by decide +kernel
theorem dX12_choices_13 : decode cX12_choices 13 = .ok (.ireturn, 1) := by decide +kernel
theorem dX12_choices_14 : decode cX12_choices 14 = .ok (.aload_n 0, 1) := by decide +kernel
theorem dX12_choices_15 : decode cX12_choices 15 = .ok (.iconst 0, 1) := by decide +kernel
theorem dX12_choices_16 : decode cX12_choices 16 = .ok (.putfield 122, 3) := by decide +kernel
theorem dX12_choices_19 : decode cX12_choices 19 = .ok (.aload_n 0, 1) := by decide +kernel
theorem dX12_choices_20 : decode cX12_choices 20 = .ok (.getfield 16, 3) := by decide +kernel
theorem dX12_choices_23 : decode cX12_choices 23 = .ok (.iload_n 1, 1) := by decide +kernel
theorem dX12_choices_24 : decode cX12_choices 24 = .ok (.iaload, 1) := by decide +kernel
theorem dX12_choices_25 : decode cX12_choices 25 = .ok (.ireturn, 1) := by decide +kernel
theorem dX12_chance_0 : decode cX12_chance 0 = .ok (.aload_n 0, 1) := by decide +kernel
theorem dX12_chance_1 : decode cX12_chance 1 = .ok (.iload_n 1, 1) := by decide +kernel
theorem dX12_chance_2 : decode cX12_chance 2 = .ok (.iload_n 2, 1) := by decide +kernel
theorem dX12_chance_3 : decode cX12_chance 3 = .ok (.invokevirtual 241, 3) := by decide +kernel
theorem dX12_chance_6 : decode cX12_chance 6 = .ok (.ifCond .eq 11, 3) := by decide +kernel
theorem dX12_chance_9 : decode cX12_chance 9 = .ok (.aload_n 0, 1) := by decide +kernel
theorem dX12_chance_10 : decode cX12_chance 10 = .ok (.iload_n 3, 1) := by decide +kernel
theorem dX12_chance_11 : decode cX12_chance 11 = .ok (.invokevirtual 232, 3) := by decide +kernel
theorem dX12_chance_14 : decode cX12_chance 14 = .ok (.ifCond .ne 9, 3) := by decide +kernel
theorem dX12_chance_17 : decode cX12_chance 17 = .ok (.aload_n 0, 1) := by decide +kernel
theorem dX12_chance_18 : decode cX12_chance 18 = .ok (.iconst 1, 1) := by decide +kernel
theorem dX12_chance_19 : decode cX12_chance 19 = .ok (.invokevirtual 235, 3) := by decide +kernel
theorem dX12_chance_22 : decode cX12_chance 22 = .ok (.ireturn, 1) := by decide +kernel
theorem dX12_chance_23 : decode cX12_chance 23 = .ok (.iconst 3, 1) := by decide +kernel
theorem dX12_chance_24 : decode cX12_chance 24 = .ok (.iload_n 1, 1) := by decide +kernel
theorem dX12_chance_25 : decode cX12_chance 25 = .ok (.imul, 1) := by decide +kernel
theorem dX12_chance_26 : decode cX12_chance 26 = .ok (.iload_n 2, 1) := by decide +kernel
theorem dX12_chance_27 : decode cX12_chance 27 = .ok (.iadd, 1) := by decide +kernel
theorem dX12_chance_28 : decode cX12_chance 28 = .ok (.istore 4, 2) := by decide +kernel
theorem dX12_chance_30 : decode cX12_chance 30 = .ok (.aload_n 0, 1) := by decide +kernel
theorem dX12_chance_31 : decode cX12_chance 31 = .ok (.getfield 34, 3) := by decide +kernel
theorem dX12_chance_34 : decode cX12_chance 34 = .ok (.iload 4, 2) := by decide +kernel
theorem dX12_chance_36 : decode cX12_chance 36 = .ok (.iaload, 1) := by decide +kernel
theorem dX12_chance_37 : decode cX12_chance 37 = .ok (.ifCond .ne 9, 3) := by decide +kernel
theorem dX12_chance_40 : decode cX12_chance 40 = .ok (.aload_n 0, 1) := by decide +kernel
theorem dX12_chance_41 : decode cX12_chance 41 = .ok (.iconst 2, 1) := by decide +kernel
theorem dX12_chance_42 : decode cX12_chance 42 = .ok (.invokevirtual 235, 3) := by decide +kernel
theorem dX12_chance_45 : decode cX12_chance 45 = .ok (.ireturn, 1) := by decide +kernel
theorem dX12_chance_46 : decode cX12_chance 46 = .ok (.aload_n 0, 1) := by decide +kernel
theorem dX12_chance_47 : decode cX12_chance 47 = .ok (.iconst 0, 1) := by decide +kernel
theorem dX12_chance_48 : decode cX12_chance 48 = .ok (.putfield 122, 3) := by decide +kernel
theorem dX12_chance_51 : decode cX12_chance 51 = .ok (.aload_n 0, 1) := by decide +kernel
theorem dX12_chance_52 : decode cX12_chance 52 = .ok (.aload_n 0, 1) := by decide +kernel
theorem dX12_chance_53 : decode cX12_chance 53 = .ok (.getfield 37, 3) := by decide +kernel
theorem dX12_chance_56 : decode cX12_chance 56 = .ok (.bipush 7, 2) := by decide +kernel
theorem dX12_chance_58 : decode cX12_chance 58 = .ok (.iload 4, 2) := by decide +kernel
theorem dX12_chance_60 : decode cX12_chance 60 = .ok (.imul, 1) := by decide +kernel
theorem dX12_chance_61 : decode cX12_chance 61 = .ok (.iload_n 3, 1) := by decide +kernel
theorem dX12_chance_62 : decode cX12_chance 62 = .ok (.iadd, 1) := by decide +kernel
theorem dX12_chance_63 : decode cX12_chance 63 = .ok (.iaload, 1) := by decide +kernel
theorem dX12_chance_64 : decode cX12_chance 64 = .ok (.i2l, 1) := by decide +kernel
theorem dX12_chance_65 : decode cX12_chance 65 = .ok (.aload_n 0, 1) := by decide +kernel
theorem dX12_chance_66 : decode cX12_chance 66 = .ok (.getfield 34, 3) := by decide +kernel
theorem dX12_chance_69 : decode cX12_chance 69 = .ok (.iload 4, 2) := by decide +kernel
theorem dX12_chance_71 : decode cX12_chance 71 = .ok (.iaload, 1) := by decide +kernel
theorem dX12_chance_72 : decode cX12_chance 72 = .ok (.i2l, 1) := by decide +kernel
theorem dX12_chance_73 : decode cX12_chance 73 = .ok (.invokevirtual 138, 3) := by decide +kernel
theorem dX12_chance_76 : decode cX12_chance 76 = .ok (.ldc2_w 244, 3) := by decide +kernel
theorem dX12_chance_79 : decode cX12_chance 79 = .ok (.aload_n 0, 1) := by decide +kernel
theorem dX12_chance_80 : decode cX12_chance 80 = .ok (.getfield 131, 3) := by decide +kernel
theorem dX12_chance_83 : decode cX12_chance 83 = .ok (.lmul, 1) := by decide +kernel
theorem dX12_chance_84 : decode cX12_chance 84 = .ok (.aload_n 0, 1) := by decide +kernel
theorem dX12_chance_85 : decode cX12_chance 85 = .ok (.getfield 135, 3) := by decide +kernel
theorem dX12_chance_88 : decode cX12_chance 88 = .ok (.ladd, 1) := by decide +kernel
theorem dX12_chance_89 : decode cX12_chance 89 = .ok (.l2i, 1) := by decide +kernel
theorem dX12_chance_90 : decode cX12_chance 90 = .ok (.ireturn, 1) := by decide +kernel
theorem dX12_isAll_0 : decode cX12_isAll 0 = .ok (.iconst 0, 1) := by decide +kernel
theorem dX12_isAll_1 : decode cX12_isAll 1 = .ok (.istore_n 1, 1) := by decide +kernel
theorem dX12_isAll_2 : decode cX12_isAll 2 = .ok (.iload_n 1, 1) := by decide +kernel
theorem dX12_isAll_3 : decode cX12_isAll 3 = .ok (.aload_n 0, 1) := by decide +kernel
theorem dX12_isAll_4 : decode cX12_isAll 4 = .ok (.getfield 146, 3) := by decide +kernel
theorem dX12_isAll_7 : decode cX12_isAll 7 = .ok (.if_icmp .ge 53, 3) := by decide +kernel
theorem dX12_isAll_10 : decode cX12_isAll 10 = .ok (.aload_n 0, 1) := by decide +kernel
theorem dX12_isAll_11 : decode cX12_isAll 11 = .ok (.getfield 16, 3) := by decide +kernel
theorem dX12_isAll_14 : decode cX12_isAll 14 = .ok (.iload_n 1, 1) := by decide +kernel
theorem dX12_isAll_15 : decode cX12_isAll 15 = .ok (.iaload, 1) := by decide +kernel
theorem dX12_isAll_16 : decode cX12_isAll 16 = .ok (.ifCond .ne 5, 3) := by decide +kernel
theorem dX12_isAll_19 : decode cX12_isAll 19 = .ok (.iconst 0, 1) := by decide +kernel
theorem dX12_isAll_20 : decode cX12_isAll 20 = .ok (.ireturn, 1) := by decide +kernel
theorem dX12_isAll_21 : decode cX12_isAll 21 = .ok (.iconst 0, 1) := by decide +kernel
theorem dX12_isAll_22 : decode cX12_isAll 22 = .ok (.istore_n 2, 1) := by decide +kernel
theorem dX12_isAll_23 : decode cX12_isAll 23 = .ok (.iload_n 2, 1) := by decide +kernel
theorem dX12_isAll_24 : decode cX12_isAll 24 = .ok (.aload_n 0, 1) := by decide +kernel
theorem dX12_isAll_25 : decode cX12_isAll 25 = .ok (.getfield 16, 3) := by decide +kernel
theorem dX12_isAll_28 : decode cX12_isAll 28 = .ok (.iload_n 1, 1) := by decide +kernel
theorem dX12_isAll_29 : decode cX12_isAll 29 = .ok (.iaload, 1) := by decide +kernel
theorem dX12_isAll_30 : decode cX12_isAll 30 = .ok (.if_icmp .ge 24, 3) := by decide +kernel
theorem dX12_isAll_33 : decode cX12_isAll 33 = .ok (.aload_n 0, 1) := by decide +kernel
theorem dX12_isAll_34 : decode cX12_isAll 34 = .ok (.getfield 34, 3) := by decide +kernel
theorem dX12_isAll_37 : decode cX12_isAll 37 = .ok (.iconst 3, 1) := by decide +kernel
theorem dX12_isAll_38 : decode cX12_isAll 38 = .ok (.iload_n 1, 1) := by decide +kernel
theorem dX12_isAll_39 : decode cX12_isAll 39 = .ok (.imul, 1) := by decide +kernel
theorem dX12_isAll_40 : decode cX12_isAll 40 = .ok (.iload_n 2, 1) := by decide +kernel
theorem dX12_isAll_41 : decode cX12_isAll 41 = .ok (.iadd, 1) := by decide +kernel
theorem dX12_isAll_42 : decode cX12_isAll 42 = .ok (.iaload, 1) := by decide +kernel
theorem dX12_isAll_43 : decode cX12_isAll 43 = .ok (.ifCond .ne 5, 3) := by decide +kernel
theorem dX12_isAll_46 : decode cX12_isAll 46 = .ok (.iconst 0, 1) := by decide +kernel
theorem dX12_isAll_47 : decode cX12_isAll 47 = .ok (.ireturn, 1) := by decide +kernel
theorem dX12_isAll_48 : decode cX12_isAll 48 = .ok (.iinc 2 1, 3) := by decide +kernel
theorem dX12_isAll_51 : decode cX12_isAll 51 = .ok (.goto (-28), 3) := by decide +kernel
theorem dX12_isAll_54 : decode cX12_isAll 54 = .ok (.iinc 1 1, 3) := by decide +kernel
theorem dX12_isAll_57 : decode cX12_isAll 57 = .ok (.goto (-55), 3) := by decide +kernel
theorem dX12_isAll_60 : decode cX12_isAll 60 = .ok (.aload_n 0, 1) := by decide +kernel
theorem dX12_isAll_61 : decode cX12_isAll 61 = .ok (.getfield 146, 3) := by decide +kernel
theorem dX12_isAll_64 : decode cX12_isAll 64 = .ok (.ifCond .le 7, 3) := by decide +kernel
theorem dX12_isAll_67 : decode cX12_isAll 67 = .ok (.iconst 1, 1) := by decide +kernel
theorem dX12_isAll_68 : decode cX12_isAll 68 = .ok (.goto 4, 3) := by decide +kernel
theorem dX12_isAll_71 : decode cX12_isAll 71 = .ok (.iconst 0, 1) := by decide +kernel
theorem dX12_isAll_72 : decode cX12_isAll 72 = .ok (.ireturn, 1) := by decide +kernel
theorem dX12_isWhole_0 : decode cX12_isWhole 0 = .ok (.aload_n 0, 1) := by decide +kernel
theorem dX12_isWhole_1 : decode cX12_isWhole 1 = .ok (.iconst 0, 1) := by decide +kernel
theorem dX12_isWhole_2 : decode cX12_isWhole 2 = .ok (.putfield 122, 3) := by decide +kernel
theorem dX12_isWhole_5 : decode cX12_isWhole 5 = .ok (.aload_n 0, 1) := by decide +kernel
theorem dX12_isWhole_6 : decode cX12_isWhole 6 = .ok (.invokevirtual 246, 3) := by decide +kernel
theorem dX12_isWhole_9 : decode cX12_isWhole 9 = .ok (.ireturn, 1) := by decide +kernel
theorem dX12_isAsked_0 : decode cX12_isAsked 0 = .ok (.aload_n 0, 1) := by decide +kernel
theorem dX12_isAsked_1 : decode cX12_isAsked 1 = .ok (.iload_n 1, 1) := by decide +kernel
theorem dX12_isAsked_2 : decode cX12_isAsked 2 = .ok (.invokestatic 221, 3) := by decide +kernel
theorem dX12_isAsked_5 : decode cX12_isAsked 5 = .ok (.iconst (-1), 1) := by decide +kernel
theorem dX12_isAsked_6 : decode cX12_isAsked 6 = .ok (.if_icmp .ne 7, 3) := by decide +kernel
theorem dX12_isAsked_9 : decode cX12_isAsked 9 = .ok (.iconst 1, 1) := by decide +kernel
theorem dX12_isAsked_10 : decode cX12_isAsked 10 = .ok (.goto 27, 3) := by decide +kernel
theorem dX12_isAsked_13 : decode cX12_isAsked 13 = .ok (.aload_n 0, 1) := by decide +kernel
theorem dX12_isAsked_14 : decode cX12_isAsked 14 = .ok (.iload_n 2, 1) := by decide +kernel
theorem dX12_isAsked_15 : decode cX12_isAsked 15 = .ok (.invokevirtual 232, 3) := by decide +kernel
theorem dX12_isAsked_18 : decode cX12_isAsked 18 = .ok (.ifCond .ne 7, 3) := by decide +kernel
theorem dX12_isAsked_21 : decode cX12_isAsked 21 = .ok (.iconst 2, 1) := by decide +kernel
theorem dX12_isAsked_22 : decode cX12_isAsked 22 = .ok (.goto 15, 3) := by decide +kernel
theorem dX12_isAsked_25 : decode cX12_isAsked 25 = .ok (.aload_n 0, 1) := by decide +kernel
theorem dX12_isAsked_26 : decode cX12_isAsked 26 = .ok (.invokevirtual 246, 3) := by decide +kernel
theorem dX12_isAsked_29 : decode cX12_isAsked 29 = .ok (.ifCond .ne 7, 3) := by decide +kernel
theorem dX12_isAsked_32 : decode cX12_isAsked 32 = .ok (.iconst 3, 1) := by decide +kernel
theorem dX12_isAsked_33 : decode cX12_isAsked 33 = .ok (.goto 4, 3) := by decide +kernel
theorem dX12_isAsked_36 : decode cX12_isAsked 36 = .ok (.iconst 0, 1) := by decide +kernel
theorem dX12_isAsked_37 : decode cX12_isAsked 37 = .ok (.putfield 122, 3) := by decide +kernel
theorem dX12_isAsked_40 : decode cX12_isAsked 40 = .ok (.aload_n 0, 1) := by decide +kernel
theorem dX12_isAsked_41 : decode cX12_isAsked 41 = .ok (.getfield 122, 3) := by decide +kernel
theorem dX12_isAsked_44 : decode cX12_isAsked 44 = .ok (.ifCond .le 5, 3) := by decide +kernel
theorem dX12_isAsked_47 : decode cX12_isAsked 47 = .ok (.iconst 0, 1) := by decide +kernel
theorem dX12_isAsked_48 : decode cX12_isAsked 48 = .ok (.ireturn, 1) := by decide +kernel
theorem dX12_isAsked_49 : decode cX12_isAsked 49 = .ok (.aload_n 0, 1) := by decide +kernel
theorem dX12_isAsked_50 : decode cX12_isAsked 50 = .ok (.iload_n 1, 1) := by decide +kernel
theorem dX12_isAsked_51 : decode cX12_isAsked 51 = .ok (.invokevirtual 250, 3) := by decide +kernel
theorem dX12_isAsked_54 : decode cX12_isAsked 54 = .ok (.aload_n 0, 1) := by decide +kernel
theorem dX12_isAsked_55 : decode cX12_isAsked 55 = .ok (.aload_n 0, 1) := by decide +kernel
theorem dX12_isAsked_56 : decode cX12_isAsked 56 = .ok (.getfield 78, 3) := by decide +kernel
theorem dX12_isAsked_59 : decode cX12_isAsked 59 = .ok (.bipush 7, 2) := by decide +kernel
theorem dX12_isAsked_61 : decode cX12_isAsked 61 = .ok (.iload_n 1, 1) := by decide +kernel
theorem dX12_isAsked_62 : decode cX12_isAsked 62 = .ok (.invokestatic 221, 3) := by decide +kernel
theorem dX12_isAsked_65 : decode cX12_isAsked 65 = .ok (.imul, 1) := by decide +kernel
theorem dX12_isAsked_66 : decode cX12_isAsked 66 = .ok (.iload_n 2, 1) := by decide +kernel
theorem dX12_isAsked_67 : decode cX12_isAsked 67 = .ok (.iadd, 1) := by decide +kernel
theorem dX12_isAsked_68 : decode cX12_isAsked 68 = .ok (.laload, 1) := by decide +kernel
theorem dX12_isAsked_69 : decode cX12_isAsked 69 = .ok (.putfield 131, 3) := by decide +kernel
theorem dX12_isAsked_72 : decode cX12_isAsked 72 = .ok (.aload_n 0, 1) := by decide +kernel
theorem dX12_isAsked_73 : decode cX12_isAsked 73 = .ok (.aload_n 0, 1) := by decide +kernel
theorem dX12_isAsked_74 : decode cX12_isAsked 74 = .ok (.getfield 81, 3) := by decide +kernel
theorem dX12_isAsked_77 : decode cX12_isAsked 77 = .ok (.bipush 7, 2) := by decide +kernel
theorem dX12_isAsked_79 : decode cX12_isAsked 79 = .ok (.iload_n 1, 1) := by decide +kernel
theorem dX12_isAsked_80 : decode cX12_isAsked 80 = .ok (.invokestatic 221, 3) := by decide +kernel
theorem dX12_isAsked_83 : decode cX12_isAsked 83 = .ok (.imul, 1) := by decide +kernel
theorem dX12_isAsked_84 : decode cX12_isAsked 84 = .ok (.iload_n 2, 1) := by decide +kernel
theorem dX12_isAsked_85 : decode cX12_isAsked 85 = .ok (.iadd, 1) := by decide +kernel
theorem dX12_isAsked_86 : decode cX12_isAsked 86 = .ok (.laload, 1) := by decide +kernel
theorem dX12_isAsked_87 : decode cX12_isAsked 87 = .ok (.putfield 135, 3) := by decide +kernel
theorem dX12_isAsked_90 : decode cX12_isAsked 90 = .ok (.iconst 1, 1) := by decide +kernel
theorem dX12_isAsked_91 : decode cX12_isAsked 91 = .ok (.ireturn, 1) := by decide +kernel
theorem dX12_above_0 : decode cX12_above 0 = .ok (.aload_n 0, 1) := by decide +kernel
theorem dX12_above_1 : decode cX12_above 1 = .ok (.iload_n 1, 1) := by decide +kernel
theorem dX12_above_2 : decode cX12_above 2 = .ok (.iload_n 2, 1) := by decide +kernel
theorem dX12_above_3 : decode cX12_above 3 = .ok (.invokevirtual 253, 3) := by decide +kernel
theorem dX12_above_6 : decode cX12_above 6 = .ok (.ifCond .eq 10, 3) := by decide +kernel
theorem dX12_above_9 : decode cX12_above 9 = .ok (.aload_n 0, 1) := by decide +kernel
theorem dX12_above_10 : decode cX12_above 10 = .ok (.getfield 131, 3) := by decide +kernel
theorem dX12_above_13 : decode cX12_above 13 = .ok (.goto 4, 3) := by decide +kernel
theorem dX12_above_16 : decode cX12_above 16 = .ok (.lconst 0, 1) := by decide +kernel
theorem dX12_above_17 : decode cX12_above 17 = .ok (.lreturn, 1) := by decide +kernel
theorem dX12_below_0 : decode cX12_below 0 = .ok (.aload_n 0, 1) := by decide +kernel
theorem dX12_below_1 : decode cX12_below 1 = .ok (.iload_n 1, 1) := by decide +kernel
theorem dX12_below_2 : decode cX12_below 2 = .ok (.iload_n 2, 1) := by decide +kernel
theorem dX12_below_3 : decode cX12_below 3 = .ok (.invokevirtual 253, 3) := by decide +kernel
theorem dX12_below_6 : decode cX12_below 6 = .ok (.ifCond .eq 10, 3) := by decide +kernel
theorem dX12_below_9 : decode cX12_below 9 = .ok (.aload_n 0, 1) := by decide +kernel
theorem dX12_below_10 : decode cX12_below 10 = .ok (.getfield 135, 3) := by decide +kernel
theorem dX12_below_13 : decode cX12_below 13 = .ok (.goto 4, 3) := by decide +kernel
theorem dX12_below_16 : decode cX12_below 16 = .ok (.lconst 0, 1) := by decide +kernel
theorem dX12_below_17 : decode cX12_below 17 = .ok (.lreturn, 1) := by decide +kernel
theorem dX12_aboveByAll_0 : decode cX12_aboveByAll 0 = .ok (.aload_n 0, 1) := by decide +kernel
theorem dX12_aboveByAll_1 : decode cX12_aboveByAll 1 = .ok (.iload_n 1, 1) := by decide +kernel
theorem dX12_aboveByAll_2 : decode cX12_aboveByAll 2 = .ok (.iload_n 2, 1) := by decide +kernel
theorem dX12_aboveByAll_3 : decode cX12_aboveByAll 3 = .ok (.invokevirtual 256, 3) := by decide +kernel
theorem dX12_aboveByAll_6 : decode cX12_aboveByAll 6 = .ok (.lreturn, 1) := by decide +kernel
theorem dX12_belowByAll_0 : decode cX12_belowByAll 0 = .ok (.aload_n 0, 1) := by decide +kernel
theorem dX12_belowByAll_1 : decode cX12_belowByAll 1 = .ok (.iload_n 1, 1) := by decide +kernel
theorem dX12_belowByAll_2 : decode cX12_belowByAll 2 = .ok (.iload_n 2, 1) := by decide +kernel
theorem dX12_belowByAll_3 : decode cX12_belowByAll 3 = .ok (.invokevirtual 259, 3) := by decide +kernel
theorem dX12_belowByAll_6 : decode cX12_belowByAll 6 = .ok (.lreturn, 1) := by decide +kernel
theorem dX12_valueFloat_0 : decode cX12_valueFloat 0 = .ok (.aload_n 0, 1) := by decide +kernel
theorem dX12_valueFloat_1 : decode cX12_valueFloat 1 = .ok (.iload_n 1, 1) := by decide +kernel
theorem dX12_valueFloat_2 : decode cX12_valueFloat 2 = .ok (.iload_n 2, 1) := by decide +kernel
theorem dX12_valueFloat_3 : decode cX12_valueFloat 3 = .ok (.invokevirtual 253, 3) := by decide +kernel
theorem dX12_valueFloat_6 : decode cX12_valueFloat 6 = .ok (.ifCond .eq 17, 3) := by decide +kernel
theorem dX12_valueFloat_9 : decode cX12_valueFloat 9 = .ok (.aload_n 0, 1) := by decide +kernel
theorem dX12_valueFloat_10 : decode cX12_valueFloat 10 = .ok (.getfield 131, 3) := by decide +kernel
theorem dX12_valueFloat_13 : decode cX12_valueFloat 13 = .ok (.l2f, 1) := by decide +kernel
theorem dX12_valueFloat_14 : decode cX12_valueFloat 14 = .ok (.aload_n 0, 1) := by decide +kernel
theorem dX12_valueFloat_15 : decode cX12_valueFloat 15 = .ok (.getfield 135, 3) := by decide +kernel
theorem dX12_valueFloat_18 : decode cX12_valueFloat 18 = .ok (.l2f, 1) := by decide +kernel
theorem dX12_valueFloat_19 : decode cX12_valueFloat 19 = .ok (.fdiv, 1) := by decide +kernel
theorem dX12_valueFloat_20 : decode cX12_valueFloat 20 = .ok (.goto 4, 3) := by decide +kernel
theorem dX12_valueFloat_23 : decode cX12_valueFloat 23 = .ok (.fconst 0, 1) := by decide +kernel
theorem dX12_valueFloat_24 : decode cX12_valueFloat 24 = .ok (.freturn, 1) := by decide +kernel
theorem dX12_restFloat_0 : decode cX12_restFloat 0 = .ok (.aload_n 0, 1) := by decide +kernel
theorem dX12_restFloat_1 : decode cX12_restFloat 1 = .ok (.iload_n 1, 1) := by decide +kernel
theorem dX12_restFloat_2 : decode cX12_restFloat 2 = .ok (.iload_n 2, 1) := by decide +kernel
theorem dX12_restFloat_3 : decode cX12_restFloat 3 = .ok (.invokevirtual 253, 3) := by decide +kernel
theorem dX12_restFloat_6 : decode cX12_restFloat 6 = .ok (.ifCond .eq 21, 3) := by decide +kernel
theorem dX12_restFloat_9 : decode cX12_restFloat 9 = .ok (.aload_n 0, 1) := by decide +kernel
theorem dX12_restFloat_10 : decode cX12_restFloat 10 = .ok (.getfield 131, 3) := by decide +kernel
theorem dX12_restFloat_13 : decode cX12_restFloat 13 = .ok (.l2f, 1) := by decide +kernel
theorem dX12_restFloat_14 : decode cX12_restFloat 14 = .ok (.aload_n 0, 1) := by decide +kernel
theorem dX12_restFloat_15 : decode cX12_restFloat 15 = .ok (.getfield 135, 3) := by decide +kernel
theorem dX12_restFloat_18 : decode cX12_restFloat 18 = .ok (.l2f, 1) := by decide +kernel
theorem dX12_restFloat_19 : decode cX12_restFloat 19 = .ok (.fdiv, 1) := by decide +kernel
theorem dX12_restFloat_20 : decode cX12_restFloat 20 = .ok (.ldc_w 261, 3) := by decide +kernel
theorem dX12_restFloat_23 : decode cX12_restFloat 23 = .ok (.frem, 1) := by decide +kernel
theorem dX12_restFloat_24 : decode cX12_restFloat 24 = .ok (.goto 4, 3) := by decide +kernel
theorem dX12_restFloat_27 : decode cX12_restFloat 27 = .ok (.fconst 0, 1) := by decide +kernel
theorem dX12_restFloat_28 : decode cX12_restFloat 28 = .ok (.freturn, 1) := by decide +kernel
theorem dX12_rounded_0 : decode cX12_rounded 0 = .ok (.aload_n 0, 1) := by decide +kernel
theorem dX12_rounded_1 : decode cX12_rounded 1 = .ok (.iload_n 1, 1) := by decide +kernel
theorem dX12_rounded_2 : decode cX12_rounded 2 = .ok (.iload_n 2, 1) := by decide +kernel
theorem dX12_rounded_3 : decode cX12_rounded 3 = .ok (.invokevirtual 253, 3) := by decide +kernel
theorem dX12_rounded_6 : decode cX12_rounded 6 = .ok (.ifCond .ne 5, 3) := by decide +kernel
theorem dX12_rounded_9 : decode cX12_rounded 9 = .ok (.lconst 0, 1) := by decide +kernel
theorem dX12_rounded_10 : decode cX12_rounded 10 = .ok (.lreturn, 1) := by decide +kernel
theorem dX12_rounded_11 : decode cX12_rounded 11 = .ok (.ldc2_w 262, 3) := by decide +kernel
theorem dX12_rounded_14 : decode cX12_rounded 14 = .ok (.aload_n 0, 1) := by decide +kernel
theorem dX12_rounded_15 : decode cX12_rounded 15 = .ok (.getfield 131, 3) := by decide +kernel
theorem dX12_rounded_18 : decode cX12_rounded 18 = .ok (.lmul, 1) := by decide +kernel
theorem dX12_rounded_19 : decode cX12_rounded 19 = .ok (.lstore_n 3, 1) := by decide +kernel
theorem dX12_rounded_20 : decode cX12_rounded 20 = .ok (.aload_n 0, 1) := by decide +kernel
theorem dX12_rounded_21 : decode cX12_rounded 21 = .ok (.getfield 131, 3) := by decide +kernel
theorem dX12_rounded_24 : decode cX12_rounded 24 = .ok (.l2d, 1) := by decide +kernel
theorem dX12_rounded_25 : decode cX12_rounded 25 = .ok (.aload_n 0, 1) := by decide +kernel
theorem dX12_rounded_26 : decode cX12_rounded 26 = .ok (.getfield 135, 3) := by decide +kernel
theorem dX12_rounded_29 : decode cX12_rounded 29 = .ok (.l2d, 1) := by decide +kernel
theorem dX12_rounded_30 : decode cX12_rounded 30 = .ok (.ddiv, 1) := by decide +kernel
theorem dX12_rounded_31 : decode cX12_rounded 31 = .ok (.dstore 5, 2) := by decide +kernel
theorem dX12_rounded_33 : decode cX12_rounded 33 = .ok (.dload 5, 2) := by decide +kernel
theorem dX12_rounded_35 : decode cX12_rounded 35 = .ok (.d2l, 1) := by decide +kernel
theorem dX12_rounded_36 : decode cX12_rounded 36 = .ok (.lstore 7, 2) := by decide +kernel
theorem dX12_rounded_38 : decode cX12_rounded 38 = .ok (.dload 5, 2) := by decide +kernel
theorem dX12_rounded_40 : decode cX12_rounded 40 = .ok (.lload 7, 2) := by decide +kernel
theorem dX12_rounded_42 : decode cX12_rounded 42 = .ok (.l2d, 1) := by decide +kernel
theorem dX12_rounded_43 : decode cX12_rounded 43 = .ok (.dsub, 1) := by decide +kernel
theorem dX12_rounded_44 : decode cX12_rounded 44 = .ok (.dstore 9, 2) := by decide +kernel
theorem dX12_rounded_46 : decode cX12_rounded 46 = .ok (.dload 9, 2) := by decide +kernel
theorem dX12_rounded_48 : decode cX12_rounded 48 = .ok (.ldc2_w 264, 3) := by decide +kernel
theorem dX12_rounded_51 : decode cX12_rounded 51 = .ok (.dcmp .l, 1) := by decide +kernel
theorem dX12_rounded_52 : decode cX12_rounded 52 = .ok (.ifCond .gt 29, 3) := by decide +kernel
theorem dX12_rounded_55 : decode cX12_rounded 55 = .ok (.dload 9, 2) := by decide +kernel
theorem dX12_rounded_57 : decode cX12_rounded 57 = .ok (.ldc2_w 264, 3) := by decide +kernel
theorem dX12_rounded_60 : decode cX12_rounded 60 = .ok (.dcmp .l, 1) := by decide +kernel
theorem dX12_rounded_61 : decode cX12_rounded 61 = .ok (.ifCond .ne 27, 3) := by decide +kernel
theorem dX12_rounded_64 : decode cX12_rounded 64 = .ok (.lload 7, 2) := by decide +kernel
theorem dX12_rounded_66 : decode cX12_rounded 66 = .ok (.ldc2_w 262, 3) := by decide +kernel
theorem dX12_rounded_69 : decode cX12_rounded 69 = .ok (.lrem, 1) := by decide +kernel
theorem dX12_rounded_70 : decode cX12_rounded 70 = .ok (.lconst 1, 1) := by decide +kernel
theorem dX12_rounded_71 : decode cX12_rounded 71 = .ok (.lcmp, 1) := by decide +kernel
theorem dX12_rounded_72 : decode cX12_rounded 72 = .ok (.ifCond .ne 16, 3) := by decide +kernel
theorem dX12_rounded_75 : decode cX12_rounded 75 = .ok (.lload_n 3, 1) := by decide +kernel
theorem dX12_rounded_76 : decode cX12_rounded 76 = .ok (.lconst 0, 1) := by decide +kernel
theorem dX12_rounded_77 : decode cX12_rounded 77 = .ok (.lcmp, 1) := by decide +kernel
theorem dX12_rounded_78 : decode cX12_rounded 78 = .ok (.ifCond .le 10, 3) := by decide +kernel
theorem dX12_rounded_81 : decode cX12_rounded 81 = .ok (.lload 7, 2) := by decide +kernel
theorem dX12_rounded_83 : decode cX12_rounded 83 = .ok (.lconst 1, 1) := by decide +kernel
theorem dX12_rounded_84 : decode cX12_rounded 84 = .ok (.ladd, 1) := by decide +kernel
theorem dX12_rounded_85 : decode cX12_rounded 85 = .ok (.goto 5, 3) := by decide +kernel
theorem dX12_rounded_88 : decode cX12_rounded 88 = .ok (.lload 7, 2) := by decide +kernel
theorem dX12_rounded_90 : decode cX12_rounded 90 = .ok (.lreturn, 1) := by decide +kernel
theorem dX12_isGame_0 : decode cX12_isGame 0 = .ok (.aload_n 0, 1) := by decide +kernel
theorem dX12_isGame_1 : decode cX12_isGame 1 = .ok (.aload_n 0, 1) := by decide +kernel
theorem dX12_isGame_2 : decode cX12_isGame 2 = .ok (.iload_n 1, 1) := by decide +kernel
theorem dX12_isGame_3 : decode cX12_isGame 3 = .ok (.invokevirtual 232, 3) := by decide +kernel
theorem dX12_isGame_6 : decode cX12_isGame 6 = .ok (.ifCond .ne 7, 3) := by decide +kernel
theorem dX12_isGame_9 : decode cX12_isGame 9 = .ok (.iconst 1, 1) := by decide +kernel
theorem dX12_isGame_10 : decode cX12_isGame 10 = .ok (.goto 15, 3) := by decide +kernel
theorem dX12_isGame_13 : decode cX12_isGame 13 = .ok (.aload_n 0, 1) := by decide +kernel
theorem dX12_isGame_14 : decode cX12_isGame 14 = .ok (.invokevirtual 246, 3) := by decide +kernel
theorem dX12_isGame_17 : decode cX12_isGame 17 = .ok (.ifCond .ne 7, 3) := by decide +kernel
theorem dX12_isGame_20 : decode cX12_isGame 20 = .ok (.iconst 2, 1) := by decide +kernel
theorem dX12_isGame_21 : decode cX12_isGame 21 = .ok (.goto 4, 3) := by decide +kernel
theorem dX12_isGame_24 : decode cX12_isGame 24 = .ok (.iconst 0, 1) := by decide +kernel
theorem dX12_isGame_25 : decode cX12_isGame 25 = .ok (.putfield 122, 3) := by decide +kernel
theorem dX12_isGame_28 : decode cX12_isGame 28 = .ok (.aload_n 0, 1) := by decide +kernel
theorem dX12_isGame_29 : decode cX12_isGame 29 = .ok (.getfield 122, 3) := by decide +kernel
theorem dX12_isGame_32 : decode cX12_isGame 32 = .ok (.ifCond .ne 7, 3) := by decide +kernel
theorem dX12_isGame_35 : decode cX12_isGame 35 = .ok (.iconst 1, 1) := by decide +kernel
theorem dX12_isGame_36 : decode cX12_isGame 36 = .ok (.goto 4, 3) := by decide +kernel
theorem dX12_isGame_39 : decode cX12_isGame 39 = .ok (.iconst 0, 1) := by decide +kernel
theorem dX12_isGame_40 : decode cX12_isGame 40 = .ok (.ireturn, 1) := by decide +kernel
theorem dX12_lowOf_0 : decode cX12_lowOf 0 = .ok (.dconst 0, 1) := by decide +kernel
theorem dX12_lowOf_1 : decode cX12_lowOf 1 = .ok (.dstore_n 2, 1) := by decide +kernel
theorem dX12_lowOf_2 : decode cX12_lowOf 2 = .ok (.iconst 0, 1) := by decide +kernel
theorem dX12_lowOf_3 : decode cX12_lowOf 3 = .ok (.istore 4, 2) := by decide +kernel
theorem dX12_lowOf_5 : decode cX12_lowOf 5 = .ok (.iload 4, 2) := by decide +kernel
theorem dX12_lowOf_7 : decode cX12_lowOf 7 = .ok (.aload_n 0, 1) := by decide +kernel
theorem dX12_lowOf_8 : decode cX12_lowOf 8 = .ok (.getfield 146, 3) := by decide +kernel
theorem dX12_lowOf_11 : decode cX12_lowOf 11 = .ok (.if_icmp .ge 33, 3) := by decide +kernel
theorem dX12_lowOf_14 : decode cX12_lowOf 14 = .ok (.dload_n 2, 1) := by decide +kernel
theorem dX12_lowOf_15 : decode cX12_lowOf 15 = .ok (.aload_n 0, 1) := by decide +kernel
theorem dX12_lowOf_16 : decode cX12_lowOf 16 = .ok (.getfield 37, 3) := by decide +kernel
theorem dX12_lowOf_19 : decode cX12_lowOf 19 = .ok (.bipush 7, 2) := by decide +kernel
theorem dX12_lowOf_21 : decode cX12_lowOf 21 = .ok (.iload_n 1, 1) := by decide +kernel
theorem dX12_lowOf_22 : decode cX12_lowOf 22 = .ok (.imul, 1) := by decide +kernel
theorem dX12_lowOf_23 : decode cX12_lowOf 23 = .ok (.iload 4, 2) := by decide +kernel
theorem dX12_lowOf_25 : decode cX12_lowOf 25 = .ok (.iadd, 1) := by decide +kernel
theorem dX12_lowOf_26 : decode cX12_lowOf 26 = .ok (.iaload, 1) := by decide +kernel
theorem dX12_lowOf_27 : decode cX12_lowOf 27 = .ok (.i2d, 1) := by decide +kernel
theorem dX12_lowOf_28 : decode cX12_lowOf 28 = .ok (.aload_n 0, 1) := by decide +kernel
theorem dX12_lowOf_29 : decode cX12_lowOf 29 = .ok (.getfield 102, 3) := by decide +kernel
theorem dX12_lowOf_32 : decode cX12_lowOf 32 = .ok (.iload 4, 2) := by decide +kernel
theorem dX12_lowOf_34 : decode cX12_lowOf 34 = .ok (.daload, 1) := by decide +kernel
theorem dX12_lowOf_35 : decode cX12_lowOf 35 = .ok (.dmul, 1) := by decide +kernel
theorem dX12_lowOf_36 : decode cX12_lowOf 36 = .ok (.dadd, 1) := by decide +kernel
theorem dX12_lowOf_37 : decode cX12_lowOf 37 = .ok (.dstore_n 2, 1) := by decide +kernel
theorem dX12_lowOf_38 : decode cX12_lowOf 38 = .ok (.iinc 4 1, 3) := by decide +kernel
theorem dX12_lowOf_41 : decode cX12_lowOf 41 = .ok (.goto (-36), 3) := by decide +kernel
theorem dX12_lowOf_44 : decode cX12_lowOf 44 = .ok (.dload_n 2, 1) := by decide +kernel
theorem dX12_lowOf_45 : decode cX12_lowOf 45 = .ok (.aload_n 0, 1) := by decide +kernel
theorem dX12_lowOf_46 : decode cX12_lowOf 46 = .ok (.getfield 34, 3) := by decide +kernel
theorem dX12_lowOf_49 : decode cX12_lowOf 49 = .ok (.iload_n 1, 1) := by decide +kernel
theorem dX12_lowOf_50 : decode cX12_lowOf 50 = .ok (.iaload, 1) := by decide +kernel
theorem dX12_lowOf_51 : decode cX12_lowOf 51 = .ok (.i2d, 1) := by decide +kernel
theorem dX12_lowOf_52 : decode cX12_lowOf 52 = .ok (.ddiv, 1) := by decide +kernel
theorem dX12_lowOf_53 : decode cX12_lowOf 53 = .ok (.dreturn, 1) := by decide +kernel
theorem dX12_bound_0 : decode cX12_bound 0 = .ok (.aload_n 0, 1) := by decide +kernel
theorem dX12_bound_1 : decode cX12_bound 1 = .ok (.aload_n 0, 1) := by decide +kernel
theorem dX12_bound_2 : decode cX12_bound 2 = .ok (.iload_n 1, 1) := by decide +kernel
theorem dX12_bound_3 : decode cX12_bound 3 = .ok (.invokevirtual 232, 3) := by decide +kernel
theorem dX12_bound_6 : decode cX12_bound 6 = .ok (.ifCond .ne 7, 3) := by decide +kernel
theorem dX12_bound_9 : decode cX12_bound 9 = .ok (.iconst 1, 1) := by decide +kernel
theorem dX12_bound_10 : decode cX12_bound 10 = .ok (.goto 29, 3) := by decide +kernel
theorem dX12_bound_13 : decode cX12_bound 13 = .ok (.iload_n 2, 1) := by decide +kernel
theorem dX12_bound_14 : decode cX12_bound 14 = .ok (.iconst 0, 1) := by decide +kernel
theorem dX12_bound_15 : decode cX12_bound 15 = .ok (.bipush 60, 2) := by decide +kernel
theorem dX12_bound_17 : decode cX12_bound 17 = .ok (.invokestatic 228, 3) := by decide +kernel
theorem dX12_bound_20 : decode cX12_bound 20 = .ok (.ifCond .ne 7, 3) := by decide +kernel
theorem dX12_bound_23 : decode cX12_bound 23 = .ok (.iconst 2, 1) := by decide +kernel
theorem dX12_bound_24 : decode cX12_bound 24 = .ok (.goto 15, 3) := by decide +kernel
theorem dX12_bound_27 : decode cX12_bound 27 = .ok (.aload_n 0, 1) := by decide +kernel
theorem dX12_bound_28 : decode cX12_bound 28 = .ok (.invokevirtual 246, 3) := by decide +kernel
theorem dX12_bound_31 : decode cX12_bound 31 = .ok (.ifCond .ne 7, 3) := by decide +kernel
theorem dX12_bound_34 : decode cX12_bound 34 = .ok (.iconst 3, 1) := by decide +kernel
theorem dX12_bound_35 : decode cX12_bound 35 = .ok (.goto 4, 3) := by decide +kernel
theorem dX12_bound_38 : decode cX12_bound 38 = .ok (.iconst 0, 1) := by decide +kernel
theorem dX12_bound_39 : decode cX12_bound 39 = .ok (.putfield 122, 3) := by decide +kernel
theorem dX12_bound_42 : decode cX12_bound 42 = .ok (.aload_n 0, 1) := by decide +kernel
theorem dX12_bound_43 : decode cX12_bound 43 = .ok (.getfield 122, 3) := by decide +kernel
theorem dX12_bound_46 : decode cX12_bound 46 = .ok (.ifCond .le 5, 3) := by decide +kernel
theorem dX12_bound_49 : decode cX12_bound 49 = .ok (.dconst 0, 1) := by decide +kernel
theorem dX12_bound_50 : decode cX12_bound 50 = .ok (.dreturn, 1) := by decide +kernel
theorem dX12_bound_51 : decode cX12_bound 51 = .ok (.iconst 0, 1) := by decide +kernel
theorem dX12_bound_52 : decode cX12_bound 52 = .ok (.istore_n 3, 1) := by decide +kernel
theorem dX12_bound_53 : decode cX12_bound 53 = .ok (.iload_n 3, 1) := by decide +kernel
theorem dX12_bound_54 : decode cX12_bound 54 = .ok (.aload_n 0, 1) := by decide +kernel
theorem dX12_bound_55 : decode cX12_bound 55 = .ok (.getfield 146, 3) := by decide +kernel
theorem dX12_bound_58 : decode cX12_bound 58 = .ok (.if_icmp .ge 29, 3) := by decide +kernel
theorem dX12_bound_61 : decode cX12_bound 61 = .ok (.aload_n 0, 1) := by decide +kernel
theorem dX12_bound_62 : decode cX12_bound 62 = .ok (.getfield 102, 3) := by decide +kernel
theorem dX12_bound_65 : decode cX12_bound 65 = .ok (.iload_n 3, 1) := by decide +kernel
theorem dX12_bound_66 : decode cX12_bound 66 = .ok (.aload_n 0, 1) := by decide +kernel
theorem dX12_bound_67 : decode cX12_bound 67 = .ok (.getfield 40, 3) := by decide +kernel
theorem dX12_bound_70 : decode cX12_bound 70 = .ok (.iload_n 3, 1) := by decide +kernel
theorem dX12_bound_71 : decode cX12_bound 71 = .ok (.baload, 1) := by decide +kernel
theorem dX12_bound_72 : decode cX12_bound 72 = .ok (.ifCond .eq 7, 3) := by decide +kernel
theorem dX12_bound_75 : decode cX12_bound 75 = .ok (.dconst 1, 1) := by decide +kernel
theorem dX12_bound_76 : decode cX12_bound 76 = .ok (.goto 4, 3) := by decide +kernel
theorem dX12_bound_79 : decode cX12_bound 79 = .ok (.dconst 0, 1) := by decide +kernel
theorem dX12_bound_80 : decode cX12_bound 80 = .ok (.dastore, 1) := by decide +kernel
theorem dX12_bound_81 : decode cX12_bound 81 = .ok (.iinc 3 1, 3) := by decide +kernel
theorem dX12_bound_84 : decode cX12_bound 84 = .ok (.goto (-31), 3) := by decide +kernel
theorem dX12_bound_87 : decode cX12_bound 87 = .ok (.iconst 0, 1) := by decide +kernel
theorem dX12_bound_88 : decode cX12_bound 88 = .ok (.istore_n 3, 1) := by decide +kernel
theorem dX12_bound_89 : decode cX12_bound 89 = .ok (.iload_n 3, 1) := by decide +kernel
theorem dX12_bound_90 : decode cX12_bound 90 = .ok (.iload_n 2, 1) := by decide +kernel
theorem dX12_bound_91 : decode cX12_bound 91 = .ok (.if_icmp .ge 173, 3) := by decide +kernel
theorem dX12_bound_94 : decode cX12_bound 94 = .ok (.iconst 0, 1) := by decide +kernel
theorem dX12_bound_95 : decode cX12_bound 95 = .ok (.istore 4, 2) := by decide +kernel
theorem dX12_bound_97 : decode cX12_bound 97 = .ok (.iload 4, 2) := by decide +kernel
theorem dX12_bound_99 : decode cX12_bound 99 = .ok (.aload_n 0, 1) := by decide +kernel
theorem dX12_bound_100 : decode cX12_bound 100 = .ok (.getfield 146, 3) := by decide +kernel
theorem dX12_bound_103 : decode cX12_bound 103 = .ok (.if_icmp .ge 123, 3) := by decide +kernel
theorem dX12_bound_106 : decode cX12_bound 106 = .ok (.aload_n 0, 1) := by decide +kernel
theorem dX12_bound_107 : decode cX12_bound 107 = .ok (.iconst 3, 1) := by decide +kernel
theorem dX12_bound_108 : decode cX12_bound 108 = .ok (.iload 4, 2) := by decide +kernel
theorem dX12_bound_110 : decode cX12_bound 110 = .ok (.imul, 1) := by decide +kernel
theorem dX12_bound_111 : decode cX12_bound 111 = .ok (.invokevirtual 266, 3) := by decide +kernel
theorem dX12_bound_114 : decode cX12_bound 114 = .ok (.dstore 5, 2) := by decide +kernel
theorem dX12_bound_116 : decode cX12_bound 116 = .ok (.iconst 1, 1) := by decide +kernel
theorem dX12_bound_117 : decode cX12_bound 117 = .ok (.istore 7, 2) := by decide +kernel
theorem dX12_bound_119 : decode cX12_bound 119 = .ok (.iload 7, 2) := by decide +kernel
theorem dX12_bound_121 : decode cX12_bound 121 = .ok (.aload_n 0, 1) := by decide +kernel
theorem dX12_bound_122 : decode cX12_bound 122 = .ok (.getfield 16, 3) := by decide +kernel
theorem dX12_bound_125 : decode cX12_bound 125 = .ok (.iload 4, 2) := by decide +kernel
theorem dX12_bound_127 : decode cX12_bound 127 = .ok (.iaload, 1) := by decide +kernel
theorem dX12_bound_128 : decode cX12_bound 128 = .ok (.if_icmp .ge 69, 3) := by decide +kernel
theorem dX12_bound_131 : decode cX12_bound 131 = .ok (.aload_n 0, 1) := by decide +kernel
theorem dX12_bound_132 : decode cX12_bound 132 = .ok (.iconst 3, 1) := by decide +kernel
theorem dX12_bound_133 : decode cX12_bound 133 = .ok (.iload 4, 2) := by decide +kernel
theorem dX12_bound_135 : decode cX12_bound 135 = .ok (.imul, 1) := by decide +kernel
theorem dX12_bound_136 : decode cX12_bound 136 = .ok (.iload 7, 2) := by decide +kernel
theorem dX12_bound_138 : decode cX12_bound 138 = .ok (.iadd, 1) := by decide +kernel
theorem dX12_bound_139 : decode cX12_bound 139 = .ok (.invokevirtual 266, 3) := by decide +kernel
theorem dX12_bound_142 : decode cX12_bound 142 = .ok (.dstore 8, 2) := by decide +kernel
theorem dX12_bound_144 : decode cX12_bound 144 = .ok (.aload_n 0, 1) := by decide +kernel
theorem dX12_bound_145 : decode cX12_bound 145 = .ok (.getfield 7, 3) := by decide +kernel
theorem dX12_bound_148 : decode cX12_bound 148 = .ok (.iload 4, 2) := by decide +kernel
theorem dX12_bound_150 : decode cX12_bound 150 = .ok (.iaload, 1) := by decide +kernel
theorem dX12_bound_151 : decode cX12_bound 151 = .ok (.bipush 97, 2) := by decide +kernel
theorem dX12_bound_153 : decode cX12_bound 153 = .ok (.if_icmp .ne 21, 3) := by decide +kernel
theorem dX12_bound_156 : decode cX12_bound 156 = .ok (.dload 8, 2) := by decide +kernel
theorem dX12_bound_158 : decode cX12_bound 158 = .ok (.dload 5, 2) := by decide +kernel
theorem dX12_bound_160 : decode cX12_bound 160 = .ok (.dcmp .l, 1) := by decide +kernel
theorem dX12_bound_161 : decode cX12_bound 161 = .ok (.ifCond .le 8, 3) := by decide +kernel
theorem dX12_bound_164 : decode cX12_bound 164 = .ok (.dload 8, 2) := by decide +kernel
theorem dX12_bound_166 : decode cX12_bound 166 = .ok (.goto 23, 3) := by decide +kernel
theorem dX12_bound_169 : decode cX12_bound 169 = .ok (.dload 5, 2) := by decide +kernel
theorem dX12_bound_171 : decode cX12_bound 171 = .ok (.goto 18, 3) := by decide +kernel
theorem dX12_bound_174 : decode cX12_bound 174 = .ok (.dload 8, 2) := by decide +kernel
theorem dX12_bound_176 : decode cX12_bound 176 = .ok (.dload 5, 2) := by decide +kernel
theorem dX12_bound_178 : decode cX12_bound 178 = .ok (.dcmp .g, 1) := by decide +kernel
theorem dX12_bound_179 : decode cX12_bound 179 = .ok (.ifCond .ge 8, 3) := by decide +kernel
theorem dX12_bound_182 : decode cX12_bound 182 = .ok (.dload 8, 2) := by decide +kernel
theorem dX12_bound_184 : decode cX12_bound 184 = .ok (.goto 5, 3) := by decide +kernel
theorem dX12_bound_187 : decode cX12_bound 187 = .ok (.dload 5, 2) := by decide +kernel
theorem dX12_bound_189 : decode cX12_bound 189 = .ok (.dstore 5, 2) := by decide +kernel
theorem dX12_bound_191 : decode cX12_bound 191 = .ok (.iinc 7 1, 3) := by decide +kernel
theorem dX12_bound_194 : decode cX12_bound 194 = .ok (.goto (-75), 3) := by decide +kernel
theorem dX12_bound_197 : decode cX12_bound 197 = .ok (.aload_n 0, 1) := by decide +kernel
theorem dX12_bound_198 : decode cX12_bound 198 = .ok (.getfield 106, 3) := by decide +kernel
theorem dX12_bound_201 : decode cX12_bound 201 = .ok (.iload 4, 2) := by decide +kernel
theorem dX12_bound_203 : decode cX12_bound 203 = .ok (.aload_n 0, 1) := by decide +kernel
theorem dX12_bound_204 : decode cX12_bound 204 = .ok (.getfield 40, 3) := by decide +kernel
theorem dX12_bound_207 : decode cX12_bound 207 = .ok (.iload 4, 2) := by decide +kernel
theorem dX12_bound_209 : decode cX12_bound 209 = .ok (.baload, 1) := by decide +kernel
theorem dX12_bound_210 : decode cX12_bound 210 = .ok (.ifCond .eq 7, 3) := by decide +kernel
theorem dX12_bound_213 : decode cX12_bound 213 = .ok (.dconst 1, 1) := by decide +kernel
theorem dX12_bound_214 : decode cX12_bound 214 = .ok (.goto 5, 3) := by decide +kernel
theorem dX12_bound_217 : decode cX12_bound 217 = .ok (.dload 5, 2) := by decide +kernel
theorem dX12_bound_219 : decode cX12_bound 219 = .ok (.dastore, 1) := by decide +kernel
theorem dX12_bound_220 : decode cX12_bound 220 = .ok (.iinc 4 1, 3) := by decide +kernel
theorem dX12_bound_223 : decode cX12_bound 223 = .ok (.goto (-126), 3) := by decide +kernel
theorem dX12_bound_226 : decode cX12_bound 226 = .ok (.iconst 0, 1) := by decide +kernel
theorem dX12_bound_227 : decode cX12_bound 227 = .ok (.istore 4, 2) := by decide +kernel
theorem dX12_bound_229 : decode cX12_bound 229 = .ok (.iload 4, 2) := by decide +kernel
theorem dX12_bound_231 : decode cX12_bound 231 = .ok (.aload_n 0, 1) := by decide +kernel
theorem dX12_bound_232 : decode cX12_bound 232 = .ok (.getfield 146, 3) := by decide +kernel
theorem dX12_bound_235 : decode cX12_bound 235 = .ok (.if_icmp .ge 23, 3) := by decide +kernel
theorem dX12_bound_238 : decode cX12_bound 238 = .ok (.aload_n 0, 1) := by decide +kernel
theorem dX12_bound_239 : decode cX12_bound 239 = .ok (.getfield 102, 3) := by decide +kernel
theorem dX12_bound_242 : decode cX12_bound 242 = .ok (.iload 4, 2) := by decide +kernel
theorem dX12_bound_244 : decode cX12_bound 244 = .ok (.aload_n 0, 1) := by decide +kernel
theorem dX12_bound_245 : decode cX12_bound 245 = .ok (.getfield 106, 3) := by decide +kernel
theorem dX12_bound_248 : decode cX12_bound 248 = .ok (.iload 4, 2) := by decide +kernel
theorem dX12_bound_250 : decode cX12_bound 250 = .ok (.daload, 1) := by decide +kernel
theorem dX12_bound_251 : decode cX12_bound 251 = .ok (.dastore, 1) := by decide +kernel
theorem dX12_bound_252 : decode cX12_bound 252 = .ok (.iinc 4 1, 3) := by decide +kernel
theorem dX12_bound_255 : decode cX12_bound 255 = .ok (.goto (-26), 3) := by decide +kernel
theorem dX12_bound_258 : decode cX12_bound 258 = .ok (.iinc 3 1, 3) := by decide +kernel
theorem dX12_bound_261 : decode cX12_bound 261 = .ok (.goto (-172), 3) := by decide +kernel
theorem dX12_bound_264 : decode cX12_bound 264 = .ok (.aload_n 0, 1) := by decide +kernel
theorem dX12_bound_265 : decode cX12_bound 265 = .ok (.getfield 102, 3) := by decide +kernel
theorem dX12_bound_268 : decode cX12_bound 268 = .ok (.iload_n 1, 1) := by decide +kernel
theorem dX12_bound_269 : decode cX12_bound 269 = .ok (.daload, 1) := by decide +kernel
theorem dX12_bound_270 : decode cX12_bound 270 = .ok (.dreturn, 1) := by decide +kernel
theorem dX12_isZero_0 : decode cX12_isZero 0 = .ok (.aload_n 0, 1) := by decide +kernel
theorem dX12_isZero_1 : decode cX12_isZero 1 = .ok (.iload_n 1, 1) := by decide +kernel
theorem dX12_isZero_2 : decode cX12_isZero 2 = .ok (.invokevirtual 270, 3) := by decide +kernel
theorem dX12_isZero_5 : decode cX12_isZero 5 = .ok (.ifCond .ne 5, 3) := by decide +kernel
theorem dX12_isZero_8 : decode cX12_isZero 8 = .ok (.iconst 0, 1) := by decide +kernel
theorem dX12_isZero_9 : decode cX12_isZero 9 = .ok (.ireturn, 1) := by decide +kernel
theorem dX12_isZero_10 : decode cX12_isZero 10 = .ok (.aload_n 0, 1) := by decide +kernel
theorem dX12_isZero_11 : decode cX12_isZero 11 = .ok (.bipush 114, 2) := by decide +kernel
theorem dX12_isZero_13 : decode cX12_isZero 13 = .ok (.invokevirtual 250, 3) := by decide +kernel
theorem dX12_isZero_16 : decode cX12_isZero 16 = .ok (.aload_n 0, 1) := by decide +kernel
theorem dX12_isZero_17 : decode cX12_isZero 17 = .ok (.getfield 78, 3) := by decide +kernel
theorem dX12_isZero_20 : decode cX12_isZero 20 = .ok (.iload_n 1, 1) := by decide +kernel
theorem dX12_isZero_21 : decode cX12_isZero 21 = .ok (.laload, 1) := by decide +kernel
theorem dX12_isZero_22 : decode cX12_isZero 22 = .ok (.lconst 0, 1) := by decide +kernel
theorem dX12_isZero_23 : decode cX12_isZero 23 = .ok (.lcmp, 1) := by decide +kernel
theorem dX12_isZero_24 : decode cX12_isZero 24 = .ok (.ifCond .ne 7, 3) := by decide +kernel
theorem dX12_isZero_27 : decode cX12_isZero 27 = .ok (.iconst 1, 1) := by decide +kernel
theorem dX12_isZero_28 : decode cX12_isZero 28 = .ok (.goto 4, 3) := by decide +kernel
theorem dX12_isZero_31 : decode cX12_isZero 31 = .ok (.iconst 0, 1) := by decide +kernel
theorem dX12_isZero_32 : decode cX12_isZero 32 = .ok (.ireturn, 1) := by decide +kernel
theorem dX12_isOne_0 : decode cX12_isOne 0 = .ok (.aload_n 0, 1) := by decide +kernel
theorem dX12_isOne_1 : decode cX12_isOne 1 = .ok (.iload_n 1, 1) := by decide +kernel
theorem dX12_isOne_2 : decode cX12_isOne 2 = .ok (.invokevirtual 270, 3) := by decide +kernel
theorem dX12_isOne_5 : decode cX12_isOne 5 = .ok (.ifCond .ne 5, 3) := by decide +kernel
theorem dX12_isOne_8 : decode cX12_isOne 8 = .ok (.iconst 0, 1) := by decide +kernel
theorem dX12_isOne_9 : decode cX12_isOne 9 = .ok (.ireturn, 1) := by decide +kernel
theorem dX12_isOne_10 : decode cX12_isOne 10 = .ok (.aload_n 0, 1) := by decide +kernel
theorem dX12_isOne_11 : decode cX12_isOne 11 = .ok (.bipush 114, 2) := by decide +kernel
theorem dX12_isOne_13 : decode cX12_isOne 13 = .ok (.invokevirtual 250, 3) := by decide +kernel
theorem dX12_isOne_16 : decode cX12_isOne 16 = .ok (.aload_n 0, 1) := by decide +kernel
theorem dX12_isOne_17 : decode cX12_isOne 17 = .ok (.getfield 78, 3) := by decide +kernel
theorem dX12_isOne_20 : decode cX12_isOne 20 = .ok (.iload_n 1, 1) := by decide +kernel
theorem dX12_isOne_21 : decode cX12_isOne 21 = .ok (.laload, 1) := by decide +kernel
theorem dX12_isOne_22 : decode cX12_isOne 22 = .ok (.aload_n 0, 1) := by decide +kernel
theorem dX12_isOne_23 : decode cX12_isOne 23 = .ok (.getfield 81, 3) := by decide +kernel
theorem dX12_isOne_26 : decode cX12_isOne 26 = .ok (.iload_n 1, 1) := by decide +kernel
theorem dX12_isOne_27 : decode cX12_isOne 27 = .ok (.laload, 1) := by decide +kernel
theorem dX12_isOne_28 : decode cX12_isOne 28 = .ok (.lcmp, 1) := by decide +kernel
theorem dX12_isOne_29 : decode cX12_isOne 29 = .ok (.ifCond .ne 7, 3) := by decide +kernel
theorem dX12_isOne_32 : decode cX12_isOne 32 = .ok (.iconst 1, 1) := by decide +kernel
theorem dX12_isOne_33 : decode cX12_isOne 33 = .ok (.goto 4, 3) := by decide +kernel
theorem dX12_isOne_36 : decode cX12_isOne 36 = .ok (.iconst 0, 1) := by decide +kernel
theorem dX12_isOne_37 : decode cX12_isOne 37 = .ok (.ireturn, 1) := by decide +kernel
theorem dX12_isGood_0 : decode cX12_isGood 0 = .ok (.iload_n 1, 1) := by decide +kernel
theorem dX12_isGood_1 : decode cX12_isGood 1 = .ok (.bipush 114, 2) := by decide +kernel
theorem dX12_isGood_3 : decode cX12_isGood 3 = .ok (.if_icmp .ne 14, 3) := by decide +kernel
theorem dX12_isGood_6 : decode cX12_isGood 6 = .ok (.aload_n 0, 1) := by decide +kernel
theorem dX12_isGood_7 : decode cX12_isGood 7 = .ok (.getfield 40, 3) := by decide +kernel
theorem dX12_isGood_10 : decode cX12_isGood 10 = .ok (.iload_n 2, 1) := by decide +kernel
theorem dX12_isGood_11 : decode cX12_isGood 11 = .ok (.baload, 1) := by decide +kernel
theorem dX12_isGood_12 : decode cX12_isGood 12 = .ok (.ifCond .eq 5, 3) := by decide +kernel
theorem dX12_isGood_15 : decode cX12_isGood 15 = .ok (.iconst 1, 1) := by decide +kernel
theorem dX12_isGood_16 : decode cX12_isGood 16 = .ok (.ireturn, 1) := by decide +kernel
theorem dX12_isGood_17 : decode cX12_isGood 17 = .ok (.iload_n 1, 1) := by decide +kernel
theorem dX12_isGood_18 : decode cX12_isGood 18 = .ok (.invokestatic 221, 3) := by decide +kernel
theorem dX12_isGood_21 : decode cX12_isGood 21 = .ok (.istore 4, 2) := by decide +kernel
theorem dX12_isGood_23 : decode cX12_isGood 23 = .ok (.iconst 3, 1) := by decide +kernel
theorem dX12_isGood_24 : decode cX12_isGood 24 = .ok (.iload_n 2, 1) := by decide +kernel
theorem dX12_isGood_25 : decode cX12_isGood 25 = .ok (.imul, 1) := by decide +kernel
theorem dX12_isGood_26 : decode cX12_isGood 26 = .ok (.iload_n 3, 1) := by decide +kernel
theorem dX12_isGood_27 : decode cX12_isGood 27 = .ok (.iadd, 1) := by decide +kernel
theorem dX12_isGood_28 : decode cX12_isGood 28 = .ok (.istore 5, 2) := by decide +kernel
theorem dX12_isGood_30 : decode cX12_isGood 30 = .ok (.iload_n 1, 1) := by decide +kernel
theorem dX12_isGood_31 : decode cX12_isGood 31 = .ok (.bipush 114, 2) := by decide +kernel
theorem dX12_isGood_33 : decode cX12_isGood 33 = .ok (.if_icmp .ne 7, 3) := by decide +kernel
theorem dX12_isGood_36 : decode cX12_isGood 36 = .ok (.iconst 1, 1) := by decide +kernel
theorem dX12_isGood_37 : decode cX12_isGood 37 = .ok (.goto 7, 3) := by decide +kernel
theorem dX12_isGood_40 : decode cX12_isGood 40 = .ok (.aload_n 0, 1) := by decide +kernel
theorem dX12_isGood_41 : decode cX12_isGood 41 = .ok (.getfield 109, 3) := by decide +kernel
theorem dX12_isGood_44 : decode cX12_isGood 44 = .ok (.istore 6, 2) := by decide +kernel
theorem dX12_isGood_46 : decode cX12_isGood 46 = .ok (.iload_n 1, 1) := by decide +kernel
theorem dX12_isGood_47 : decode cX12_isGood 47 = .ok (.bipush 114, 2) := by decide +kernel
theorem dX12_isGood_49 : decode cX12_isGood 49 = .ok (.if_icmp .ne 7, 3) := by decide +kernel
theorem dX12_isGood_52 : decode cX12_isGood 52 = .ok (.iconst 1, 1) := by decide +kernel
theorem dX12_isGood_53 : decode cX12_isGood 53 = .ok (.goto 7, 3) := by decide +kernel
theorem dX12_isGood_56 : decode cX12_isGood 56 = .ok (.aload_n 0, 1) := by decide +kernel
theorem dX12_isGood_57 : decode cX12_isGood 57 = .ok (.getfield 113, 3) := by decide +kernel
theorem dX12_isGood_60 : decode cX12_isGood 60 = .ok (.istore 7, 2) := by decide +kernel
theorem dX12_isGood_62 : decode cX12_isGood 62 = .ok (.aload_n 0, 1) := by decide +kernel
theorem dX12_isGood_63 : decode cX12_isGood 63 = .ok (.iload_n 1, 1) := by decide +kernel
theorem dX12_isGood_64 : decode cX12_isGood 64 = .ok (.bipush 114, 2) := by decide +kernel
theorem dX12_isGood_66 : decode cX12_isGood 66 = .ok (.if_icmp .ne 7, 3) := by decide +kernel
theorem dX12_isGood_69 : decode cX12_isGood 69 = .ok (.lconst 0, 1) := by decide +kernel
theorem dX12_isGood_70 : decode cX12_isGood 70 = .ok (.goto 11, 3) := by decide +kernel
theorem dX12_isGood_73 : decode cX12_isGood 73 = .ok (.aload_n 0, 1) := by decide +kernel
theorem dX12_isGood_74 : decode cX12_isGood 74 = .ok (.iload_n 1, 1) := by decide +kernel
theorem dX12_isGood_75 : decode cX12_isGood 75 = .ok (.iload 5, 2) := by decide +kernel
theorem dX12_isGood_77 : decode cX12_isGood 77 = .ok (.invokevirtual 178, 3) := by decide +kernel
theorem dX12_isGood_80 : decode cX12_isGood 80 = .ok (.i2l, 1) := by decide +kernel
theorem dX12_isGood_81 : decode cX12_isGood 81 = .ok (.lconst 1, 1) := by decide +kernel
theorem dX12_isGood_82 : decode cX12_isGood 82 = .ok (.invokevirtual 138, 3) := by decide +kernel
theorem dX12_isGood_85 : decode cX12_isGood 85 = .ok (.aload_n 0, 1) := by decide +kernel
theorem dX12_isGood_86 : decode cX12_isGood 86 = .ok (.getfield 131, 3) := by decide +kernel
theorem dX12_isGood_89 : decode cX12_isGood 89 = .ok (.lstore 8, 2) := by decide +kernel
theorem dX12_isGood_91 : decode cX12_isGood 91 = .ok (.aload_n 0, 1) := by decide +kernel
theorem dX12_isGood_92 : decode cX12_isGood 92 = .ok (.getfield 135, 3) := by decide +kernel
theorem dX12_isGood_95 : decode cX12_isGood 95 = .ok (.lstore 10, 2) := by decide +kernel
theorem dX12_isGood_97 : decode cX12_isGood 97 = .ok (.aload_n 0, 1) := by decide +kernel
theorem dX12_isGood_98 : decode cX12_isGood 98 = .ok (.lconst 0, 1) := by decide +kernel
theorem dX12_isGood_99 : decode cX12_isGood 99 = .ok (.lconst 1, 1) := by decide +kernel
theorem dX12_isGood_100 : decode cX12_isGood 100 = .ok (.invokevirtual 138, 3) := by decide +kernel
theorem dX12_isGood_103 : decode cX12_isGood 103 = .ok (.iconst 0, 1) := by decide +kernel
theorem dX12_isGood_104 : decode cX12_isGood 104 = .ok (.istore 12, 2) := by decide +kernel
theorem dX12_isGood_106 : decode cX12_isGood 106 = .ok (.iload 12, 2) := by decide +kernel
theorem dX12_isGood_108 : decode cX12_isGood 108 = .ok (.aload_n 0, 1) := by decide +kernel
theorem dX12_isGood_109 : decode cX12_isGood 109 = .ok (.getfield 146, 3) := by decide +kernel
theorem dX12_isGood_112 : decode cX12_isGood 112 = .ok (.if_icmp .ge 54, 3) := by decide +kernel
theorem dX12_isGood_115 : decode cX12_isGood 115 = .ok (.aload_n 0, 1) := by decide +kernel
theorem dX12_isGood_116 : decode cX12_isGood 116 = .ok (.aload_n 0, 1) := by decide +kernel
theorem dX12_isGood_117 : decode cX12_isGood 117 = .ok (.getfield 37, 3) := by decide +kernel
theorem dX12_isGood_120 : decode cX12_isGood 120 = .ok (.bipush 7, 2) := by decide +kernel
theorem dX12_isGood_122 : decode cX12_isGood 122 = .ok (.iload 5, 2) := by decide +kernel
theorem dX12_isGood_124 : decode cX12_isGood 124 = .ok (.imul, 1) := by decide +kernel
theorem dX12_isGood_125 : decode cX12_isGood 125 = .ok (.iload 12, 2) := by decide +kernel
theorem dX12_isGood_127 : decode cX12_isGood 127 = .ok (.iadd, 1) := by decide +kernel
theorem dX12_isGood_128 : decode cX12_isGood 128 = .ok (.iaload, 1) := by decide +kernel
theorem dX12_isGood_129 : decode cX12_isGood 129 = .ok (.i2l, 1) := by decide +kernel
theorem dX12_isGood_130 : decode cX12_isGood 130 = .ok (.aload_n 0, 1) := by decide +kernel
theorem dX12_isGood_131 : decode cX12_isGood 131 = .ok (.getfield 78, 3) := by decide +kernel
theorem dX12_isGood_134 : decode cX12_isGood 134 = .ok (.bipush 7, 2) := by decide +kernel
theorem dX12_isGood_136 : decode cX12_isGood 136 = .ok (.iload 4, 2) := by decide +kernel
theorem dX12_isGood_138 : decode cX12_isGood 138 = .ok (.imul, 1) := by decide +kernel
theorem dX12_isGood_139 : decode cX12_isGood 139 = .ok (.iload 12, 2) := by decide +kernel
theorem dX12_isGood_141 : decode cX12_isGood 141 = .ok (.iadd, 1) := by decide +kernel
theorem dX12_isGood_142 : decode cX12_isGood 142 = .ok (.laload, 1) := by decide +kernel
theorem dX12_isGood_143 : decode cX12_isGood 143 = .ok (.lmul, 1) := by decide +kernel
theorem dX12_isGood_144 : decode cX12_isGood 144 = .ok (.aload_n 0, 1) := by decide +kernel
theorem dX12_isGood_145 : decode cX12_isGood 145 = .ok (.getfield 81, 3) := by decide +kernel
theorem dX12_isGood_148 : decode cX12_isGood 148 = .ok (.bipush 7, 2) := by decide +kernel
theorem dX12_isGood_150 : decode cX12_isGood 150 = .ok (.iload 4, 2) := by decide +kernel
theorem dX12_isGood_152 : decode cX12_isGood 152 = .ok (.imul, 1) := by decide +kernel
theorem dX12_isGood_153 : decode cX12_isGood 153 = .ok (.iload 12, 2) := by decide +kernel
theorem dX12_isGood_155 : decode cX12_isGood 155 = .ok (.iadd, 1) := by decide +kernel
theorem dX12_isGood_156 : decode cX12_isGood 156 = .ok (.laload, 1) := by decide +kernel
theorem dX12_isGood_157 : decode cX12_isGood 157 = .ok (.invokevirtual 195, 3) := by decide +kernel
theorem dX12_isGood_160 : decode cX12_isGood 160 = .ok (.iinc 12 1, 3) := by decide +kernel
theorem dX12_isGood_163 : decode cX12_isGood 163 = .ok (.goto (-57), 3) := by decide +kernel
theorem dX12_isGood_166 : decode cX12_isGood 166 = .ok (.aload_n 0, 1) := by decide +kernel
theorem dX12_isGood_167 : decode cX12_isGood 167 = .ok (.aload_n 0, 1) := by decide +kernel
theorem dX12_isGood_168 : decode cX12_isGood 168 = .ok (.getfield 131, 3) := by decide +kernel
theorem dX12_isGood_171 : decode cX12_isGood 171 = .ok (.iload 6, 2) := by decide +kernel
theorem dX12_isGood_173 : decode cX12_isGood 173 = .ok (.i2l, 1) := by decide +kernel
theorem dX12_isGood_174 : decode cX12_isGood 174 = .ok (.lmul, 1) := by decide +kernel
theorem dX12_isGood_175 : decode cX12_isGood 175 = .ok (.aload_n 0, 1) := by decide +kernel
theorem dX12_isGood_176 : decode cX12_isGood 176 = .ok (.getfield 135, 3) := by decide +kernel
theorem dX12_isGood_179 : decode cX12_isGood 179 = .ok (.aload_n 0, 1) := by decide +kernel
theorem dX12_isGood_180 : decode cX12_isGood 180 = .ok (.getfield 34, 3) := by decide +kernel
theorem dX12_isGood_183 : decode cX12_isGood 183 = .ok (.iload 5, 2) := by decide +kernel
theorem dX12_isGood_185 : decode cX12_isGood 185 = .ok (.iaload, 1) := by decide +kernel
theorem dX12_isGood_186 : decode cX12_isGood 186 = .ok (.iload 7, 2) := by decide +kernel
theorem dX12_isGood_188 : decode cX12_isGood 188 = .ok (.imul, 1) := by decide +kernel
theorem dX12_isGood_189 : decode cX12_isGood 189 = .ok (.i2l, 1) := by decide +kernel
theorem dX12_isGood_190 : decode cX12_isGood 190 = .ok (.lmul, 1) := by decide +kernel
theorem dX12_isGood_191 : decode cX12_isGood 191 = .ok (.invokevirtual 138, 3) := by decide +kernel
theorem dX12_isGood_194 : decode cX12_isGood 194 = .ok (.aload_n 0, 1) := by decide +kernel
theorem dX12_isGood_195 : decode cX12_isGood 195 = .ok (.lload 8, 2) := by decide +kernel
theorem dX12_isGood_197 : decode cX12_isGood 197 = .ok (.lload 10, 2) := by decide +kernel
theorem dX12_isGood_199 : decode cX12_isGood 199 = .ok (.invokevirtual 195, 3) := by decide +kernel
theorem dX12_isGood_202 : decode cX12_isGood 202 = .ok (.aload_n 0, 1) := by decide +kernel
theorem dX12_isGood_203 : decode cX12_isGood 203 = .ok (.getfield 131, 3) := by decide +kernel
theorem dX12_isGood_206 : decode cX12_isGood 206 = .ok (.aload_n 0, 1) := by decide +kernel
theorem dX12_isGood_207 : decode cX12_isGood 207 = .ok (.getfield 78, 3) := by decide +kernel
theorem dX12_isGood_210 : decode cX12_isGood 210 = .ok (.bipush 7, 2) := by decide +kernel
theorem dX12_isGood_212 : decode cX12_isGood 212 = .ok (.iload 4, 2) := by decide +kernel
theorem dX12_isGood_214 : decode cX12_isGood 214 = .ok (.imul, 1) := by decide +kernel
theorem dX12_isGood_215 : decode cX12_isGood 215 = .ok (.iload_n 2, 1) := by decide +kernel
theorem dX12_isGood_216 : decode cX12_isGood 216 = .ok (.iadd, 1) := by decide +kernel
theorem dX12_isGood_217 : decode cX12_isGood 217 = .ok (.laload, 1) := by decide +kernel
theorem dX12_isGood_218 : decode cX12_isGood 218 = .ok (.lcmp, 1) := by decide +kernel
theorem dX12_isGood_219 : decode cX12_isGood 219 = .ok (.ifCond .ne 27, 3) := by decide +kernel
theorem dX12_isGood_222 : decode cX12_isGood 222 = .ok (.aload_n 0, 1) := by decide +kernel
theorem dX12_isGood_223 : decode cX12_isGood 223 = .ok (.getfield 135, 3) := by decide +kernel
theorem dX12_isGood_226 : decode cX12_isGood 226 = .ok (.aload_n 0, 1) := by decide +kernel
theorem dX12_isGood_227 : decode cX12_isGood 227 = .ok (.getfield 81, 3) := by decide +kernel
theorem dX12_isGood_230 : decode cX12_isGood 230 = .ok (.bipush 7, 2) := by decide +kernel
theorem dX12_isGood_232 : decode cX12_isGood 232 = .ok (.iload 4, 2) := by decide +kernel
theorem dX12_isGood_234 : decode cX12_isGood 234 = .ok (.imul, 1) := by decide +kernel
theorem dX12_isGood_235 : decode cX12_isGood 235 = .ok (.iload_n 2, 1) := by decide +kernel
theorem dX12_isGood_236 : decode cX12_isGood 236 = .ok (.iadd, 1) := by decide +kernel
theorem dX12_isGood_237 : decode cX12_isGood 237 = .ok (.laload, 1) := by decide +kernel
theorem dX12_isGood_238 : decode cX12_isGood 238 = .ok (.lcmp, 1) := by decide +kernel
theorem dX12_isGood_239 : decode cX12_isGood 239 = .ok (.ifCond .ne 7, 3) := by decide +kernel
theorem dX12_isGood_242 : decode cX12_isGood 242 = .ok (.iconst 1, 1) := by decide +kernel
theorem dX12_isGood_243 : decode cX12_isGood 243 = .ok (.goto 4, 3) := by decide +kernel
theorem dX12_isGood_246 : decode cX12_isGood 246 = .ok (.iconst 0, 1) := by decide +kernel
theorem dX12_isGood_247 : decode cX12_isGood 247 = .ok (.ireturn, 1) := by decide +kernel
theorem dX12_leadsLower_0 : decode cX12_leadsLower 0 = .ok (.iconst 0, 1) := by decide +kernel
theorem dX12_leadsLower_1 : decode cX12_leadsLower 1 = .ok (.istore 4, 2) := by decide +kernel
theorem dX12_leadsLower_3 : decode cX12_leadsLower 3 = .ok (.iload 4, 2) := by decide +kernel
theorem dX12_leadsLower_5 : decode cX12_leadsLower 5 = .ok (.aload_n 0, 1) := by decide +kernel
theorem dX12_leadsLower_6 : decode cX12_leadsLower 6 = .ok (.getfield 146, 3) := by decide +kernel
theorem dX12_leadsLower_9 : decode cX12_leadsLower 9 = .ok (.if_icmp .ge 52, 3) := by decide +kernel
theorem dX12_leadsLower_12 : decode cX12_leadsLower 12 = .ok (.aload_n 0, 1) := by decide +kernel
theorem dX12_leadsLower_13 : decode cX12_leadsLower 13 = .ok (.getfield 37, 3) := by decide +kernel
theorem dX12_leadsLower_16 : decode cX12_leadsLower 16 = .ok (.bipush 7, 2) := by decide +kernel
theorem dX12_leadsLower_18 : decode cX12_leadsLower 18 = .ok (.iconst 3, 1) := by decide +kernel
theorem dX12_leadsLower_19 : decode cX12_leadsLower 19 = .ok (.iload_n 1, 1) := by decide +kernel
theorem dX12_leadsLower_20 : decode cX12_leadsLower 20 = .ok (.imul, 1) := by decide +kernel
theorem dX12_leadsLower_21 : decode cX12_leadsLower 21 = .ok (.iload_n 2, 1) := by decide +kernel
theorem dX12_leadsLower_22 : decode cX12_leadsLower 22 = .ok (.iadd, 1) := by decide +kernel
theorem dX12_leadsLower_23 : decode cX12_leadsLower 23 = .ok (.imul, 1) := by decide +kernel
theorem dX12_leadsLower_24 : decode cX12_leadsLower 24 = .ok (.iload 4, 2) := by decide +kernel
theorem dX12_leadsLower_26 : decode cX12_leadsLower 26 = .ok (.iadd, 1) := by decide +kernel
theorem dX12_leadsLower_27 : decode cX12_leadsLower 27 = .ok (.iaload, 1) := by decide +kernel
theorem dX12_leadsLower_28 : decode cX12_leadsLower 28 = .ok (.ifCond .le 27, 3) := by decide +kernel
theorem dX12_leadsLower_31 : decode cX12_leadsLower 31 = .ok (.aload_n 0, 1) := by decide +kernel
theorem dX12_leadsLower_32 : decode cX12_leadsLower 32 = .ok (.getfield 25, 3) := by decide +kernel
theorem dX12_leadsLower_35 : decode cX12_leadsLower 35 = .ok (.iload 4, 2) := by decide +kernel
theorem dX12_leadsLower_37 : decode cX12_leadsLower 37 = .ok (.iaload, 1) := by decide +kernel
theorem dX12_leadsLower_38 : decode cX12_leadsLower 38 = .ok (.iconst (-1), 1) := by decide +kernel
theorem dX12_leadsLower_39 : decode cX12_leadsLower 39 = .ok (.if_icmp .eq 16, 3) := by decide +kernel
theorem dX12_leadsLower_42 : decode cX12_leadsLower 42 = .ok (.aload_n 0, 1) := by decide +kernel
theorem dX12_leadsLower_43 : decode cX12_leadsLower 43 = .ok (.getfield 25, 3) := by decide +kernel
theorem dX12_leadsLower_46 : decode cX12_leadsLower 46 = .ok (.iload 4, 2) := by decide +kernel
theorem dX12_leadsLower_48 : decode cX12_leadsLower 48 = .ok (.iaload, 1) := by decide +kernel
theorem dX12_leadsLower_49 : decode cX12_leadsLower 49 = .ok (.iload_n 3, 1) := by decide +kernel
theorem dX12_leadsLower_50 : decode cX12_leadsLower 50 = .ok (.if_icmp .ge 5, 3) := by decide +kernel
theorem dX12_leadsLower_53 : decode cX12_leadsLower 53 = .ok (.iconst 1, 1) := by decide +kernel
theorem dX12_leadsLower_54 : decode cX12_leadsLower 54 = .ok (.ireturn, 1) := by decide +kernel
theorem dX12_leadsLower_55 : decode cX12_leadsLower 55 = .ok (.iinc 4 1, 3) := by decide +kernel
theorem dX12_leadsLower_58 : decode cX12_leadsLower 58 = .ok (.goto (-55), 3) := by decide +kernel
theorem dX12_leadsLower_61 : decode cX12_leadsLower 61 = .ok (.iconst 0, 1) := by decide +kernel
theorem dX12_leadsLower_62 : decode cX12_leadsLower 62 = .ok (.ireturn, 1) := by decide +kernel
theorem dX12_isRanked_0 : decode cX12_isRanked 0 = .ok (.iconst 0, 1) := by decide +kernel
theorem dX12_isRanked_1 : decode cX12_isRanked 1 = .ok (.istore_n 3, 1) := by decide +kernel
theorem dX12_isRanked_2 : decode cX12_isRanked 2 = .ok (.iconst 1, 1) := by decide +kernel
theorem dX12_isRanked_3 : decode cX12_isRanked 3 = .ok (.istore 4, 2) := by decide +kernel
theorem dX12_isRanked_5 : decode cX12_isRanked 5 = .ok (.iconst 0, 1) := by decide +kernel
theorem dX12_isRanked_6 : decode cX12_isRanked 6 = .ok (.istore 5, 2) := by decide +kernel
theorem dX12_isRanked_8 : decode cX12_isRanked 8 = .ok (.iload 5, 2) := by decide +kernel
theorem dX12_isRanked_10 : decode cX12_isRanked 10 = .ok (.aload_n 0, 1) := by decide +kernel
theorem dX12_isRanked_11 : decode cX12_isRanked 11 = .ok (.getfield 16, 3) := by decide +kernel
theorem dX12_isRanked_14 : decode cX12_isRanked 14 = .ok (.iload_n 1, 1) := by decide +kernel
theorem dX12_isRanked_15 : decode cX12_isRanked 15 = .ok (.iaload, 1) := by decide +kernel
theorem dX12_isRanked_16 : decode cX12_isRanked 16 = .ok (.if_icmp .ge 66, 3) := by decide +kernel
theorem dX12_isRanked_19 : decode cX12_isRanked 19 = .ok (.aload_n 0, 1) := by decide +kernel
theorem dX12_isRanked_20 : decode cX12_isRanked 20 = .ok (.bipush 114, 2) := by decide +kernel
theorem dX12_isRanked_22 : decode cX12_isRanked 22 = .ok (.iload_n 1, 1) := by decide +kernel
theorem dX12_isRanked_23 : decode cX12_isRanked 23 = .ok (.iload 5, 2) := by decide +kernel
theorem dX12_isRanked_25 : decode cX12_isRanked 25 = .ok (.invokevirtual 273, 3) := by decide +kernel
theorem dX12_isRanked_28 : decode cX12_isRanked 28 = .ok (.ifCond .ne 6, 3) := by decide +kernel
theorem dX12_isRanked_31 : decode cX12_isRanked 31 = .ok (.goto 45, 3) := by decide +kernel
theorem dX12_isRanked_34 : decode cX12_isRanked 34 = .ok (.aload_n 0, 1) := by decide +kernel
theorem dX12_isRanked_35 : decode cX12_isRanked 35 = .ok (.iload_n 1, 1) := by decide +kernel
theorem dX12_isRanked_36 : decode cX12_isRanked 36 = .ok (.iload 5, 2) := by decide +kernel
theorem dX12_isRanked_38 : decode cX12_isRanked 38 = .ok (.iload_n 2, 1) := by decide +kernel
theorem dX12_isRanked_39 : decode cX12_isRanked 39 = .ok (.invokevirtual 276, 3) := by decide +kernel
theorem dX12_isRanked_42 : decode cX12_isRanked 42 = .ok (.istore 6, 2) := by decide +kernel
theorem dX12_isRanked_44 : decode cX12_isRanked 44 = .ok (.iload_n 3, 1) := by decide +kernel
theorem dX12_isRanked_45 : decode cX12_isRanked 45 = .ok (.ifCond .ne 8, 3) := by decide +kernel
theorem dX12_isRanked_48 : decode cX12_isRanked 48 = .ok (.iload 6, 2) := by decide +kernel
theorem dX12_isRanked_50 : decode cX12_isRanked 50 = .ok (.ifCond .eq 7, 3) := by decide +kernel
theorem dX12_isRanked_53 : decode cX12_isRanked 53 = .ok (.iconst 1, 1) := by decide +kernel
theorem dX12_isRanked_54 : decode cX12_isRanked 54 = .ok (.goto 4, 3) := by decide +kernel
theorem dX12_isRanked_57 : decode cX12_isRanked 57 = .ok (.iconst 0, 1) := by decide +kernel
theorem dX12_isRanked_58 : decode cX12_isRanked 58 = .ok (.istore_n 3, 1) := by decide +kernel
theorem dX12_isRanked_59 : decode cX12_isRanked 59 = .ok (.iload 4, 2) := by decide +kernel
theorem dX12_isRanked_61 : decode cX12_isRanked 61 = .ok (.ifCond .eq 12, 3) := by decide +kernel
theorem dX12_isRanked_64 : decode cX12_isRanked 64 = .ok (.iload 6, 2) := by decide +kernel
theorem dX12_isRanked_66 : decode cX12_isRanked 66 = .ok (.ifCond .eq 7, 3) := by decide +kernel
theorem dX12_isRanked_69 : decode cX12_isRanked 69 = .ok (.iconst 1, 1) := by decide +kernel
theorem dX12_isRanked_70 : decode cX12_isRanked 70 = .ok (.goto 4, 3) := by decide +kernel
theorem dX12_isRanked_73 : decode cX12_isRanked 73 = .ok (.iconst 0, 1) := by decide +kernel
theorem dX12_isRanked_74 : decode cX12_isRanked 74 = .ok (.istore 4, 2) := by decide +kernel
theorem dX12_isRanked_76 : decode cX12_isRanked 76 = .ok (.iinc 5 1, 3) := by decide +kernel
theorem dX12_isRanked_79 : decode cX12_isRanked 79 = .ok (.goto (-71), 3) := by decide +kernel
theorem dX12_isRanked_82 : decode cX12_isRanked 82 = .ok (.aload_n 0, 1) := by decide +kernel
theorem dX12_isRanked_83 : decode cX12_isRanked 83 = .ok (.getfield 7, 3) := by decide +kernel
theorem dX12_isRanked_86 : decode cX12_isRanked 86 = .ok (.iload_n 1, 1) := by decide +kernel
theorem dX12_isRanked_87 : decode cX12_isRanked 87 = .ok (.iaload, 1) := by decide +kernel
theorem dX12_isRanked_88 : decode cX12_isRanked 88 = .ok (.bipush 97, 2) := by decide +kernel
theorem dX12_isRanked_90 : decode cX12_isRanked 90 = .ok (.if_icmp .ne 7, 3) := by decide +kernel
theorem dX12_isRanked_93 : decode cX12_isRanked 93 = .ok (.iload_n 3, 1) := by decide +kernel
theorem dX12_isRanked_94 : decode cX12_isRanked 94 = .ok (.goto 5, 3) := by decide +kernel
theorem dX12_isRanked_97 : decode cX12_isRanked 97 = .ok (.iload 4, 2) := by decide +kernel
theorem dX12_isRanked_99 : decode cX12_isRanked 99 = .ok (.ireturn, 1) := by decide +kernel
theorem dX12_ranks_0 : decode cX12_ranks 0 = .ok (.iconst 0, 1) := by decide +kernel
theorem dX12_ranks_1 : decode cX12_ranks 1 = .ok (.istore_n 1, 1) := by decide +kernel
theorem dX12_ranks_2 : decode cX12_ranks 2 = .ok (.iload_n 1, 1) := by decide +kernel
theorem dX12_ranks_3 : decode cX12_ranks 3 = .ok (.aload_n 0, 1) := by decide +kernel
theorem dX12_ranks_4 : decode cX12_ranks 4 = .ok (.getfield 146, 3) := by decide +kernel
theorem dX12_ranks_7 : decode cX12_ranks 7 = .ok (.if_icmp .ge 29, 3) := by decide +kernel
theorem dX12_ranks_10 : decode cX12_ranks 10 = .ok (.aload_n 0, 1) := by decide +kernel
theorem dX12_ranks_11 : decode cX12_ranks 11 = .ok (.getfield 25, 3) := by decide +kernel
theorem dX12_ranks_14 : decode cX12_ranks 14 = .ok (.iload_n 1, 1) := by decide +kernel
theorem dX12_ranks_15 : decode cX12_ranks 15 = .ok (.aload_n 0, 1) := by decide +kernel
theorem dX12_ranks_16 : decode cX12_ranks 16 = .ok (.getfield 40, 3) := by decide +kernel
theorem dX12_ranks_19 : decode cX12_ranks 19 = .ok (.iload_n 1, 1) := by decide +kernel
theorem dX12_ranks_20 : decode cX12_ranks 20 = .ok (.baload, 1) := by decide +kernel
theorem dX12_ranks_21 : decode cX12_ranks 21 = .ok (.ifCond .eq 7, 3) := by decide +kernel
theorem dX12_ranks_24 : decode cX12_ranks 24 = .ok (.iconst 0, 1) := by decide +kernel
theorem dX12_ranks_25 : decode cX12_ranks 25 = .ok (.goto 4, 3) := by decide +kernel
theorem dX12_ranks_28 : decode cX12_ranks 28 = .ok (.iconst (-1), 1) := by decide +kernel
theorem dX12_ranks_29 : decode cX12_ranks 29 = .ok (.iastore, 1) := by decide +kernel
theorem dX12_ranks_30 : decode cX12_ranks 30 = .ok (.iinc 1 1, 3) := by decide +kernel
theorem dX12_ranks_33 : decode cX12_ranks 33 = .ok (.goto (-31), 3) := by decide +kernel
theorem dX12_ranks_36 : decode cX12_ranks 36 = .ok (.iconst 1, 1) := by decide +kernel
theorem dX12_ranks_37 : decode cX12_ranks 37 = .ok (.istore_n 1, 1) := by decide +kernel
theorem dX12_ranks_38 : decode cX12_ranks 38 = .ok (.iload_n 1, 1) := by decide +kernel
theorem dX12_ranks_39 : decode cX12_ranks 39 = .ok (.bipush 7, 2) := by decide +kernel
theorem dX12_ranks_41 : decode cX12_ranks 41 = .ok (.if_icmp .gt 62, 3) := by decide +kernel
theorem dX12_ranks_44 : decode cX12_ranks 44 = .ok (.iconst 0, 1) := by decide +kernel
theorem dX12_ranks_45 : decode cX12_ranks 45 = .ok (.istore_n 2, 1) := by decide +kernel
theorem dX12_ranks_46 : decode cX12_ranks 46 = .ok (.iload_n 2, 1) := by decide +kernel
theorem dX12_ranks_47 : decode cX12_ranks 47 = .ok (.aload_n 0, 1) := by decide +kernel
theorem dX12_ranks_48 : decode cX12_ranks 48 = .ok (.getfield 146, 3) := by decide +kernel
theorem dX12_ranks_51 : decode cX12_ranks 51 = .ok (.if_icmp .ge 46, 3) := by decide +kernel
theorem dX12_ranks_54 : decode cX12_ranks 54 = .ok (.aload_n 0, 1) := by decide +kernel
theorem dX12_ranks_55 : decode cX12_ranks 55 = .ok (.getfield 25, 3) := by decide +kernel
theorem dX12_ranks_58 : decode cX12_ranks 58 = .ok (.iload_n 2, 1) := by decide +kernel
theorem dX12_ranks_59 : decode cX12_ranks 59 = .ok (.iaload, 1) := by decide +kernel
theorem dX12_ranks_60 : decode cX12_ranks 60 = .ok (.iconst (-1), 1) := by decide +kernel
theorem dX12_ranks_61 : decode cX12_ranks 61 = .ok (.if_icmp .ne 30, 3) := by decide +kernel
theorem dX12_ranks_64 : decode cX12_ranks 64 = .ok (.aload_n 0, 1) := by decide +kernel
theorem dX12_ranks_65 : decode cX12_ranks 65 = .ok (.getfield 78, 3) := by decide +kernel
theorem dX12_ranks_68 : decode cX12_ranks 68 = .ok (.iload_n 2, 1) := by decide +kernel
theorem dX12_ranks_69 : decode cX12_ranks 69 = .ok (.laload, 1) := by decide +kernel
theorem dX12_ranks_70 : decode cX12_ranks 70 = .ok (.lconst 0, 1) := by decide +kernel
theorem dX12_ranks_71 : decode cX12_ranks 71 = .ok (.lcmp, 1) := by decide +kernel
theorem dX12_ranks_72 : decode cX12_ranks 72 = .ok (.ifCond .le 19, 3) := by decide +kernel
theorem dX12_ranks_75 : decode cX12_ranks 75 = .ok (.aload_n 0, 1) := by decide +kernel
theorem dX12_ranks_76 : decode cX12_ranks 76 = .ok (.iload_n 2, 1) := by decide +kernel
theorem dX12_ranks_77 : decode cX12_ranks 77 = .ok (.iload_n 1, 1) := by decide +kernel
theorem dX12_ranks_78 : decode cX12_ranks 78 = .ok (.invokevirtual 279, 3) := by decide +kernel
theorem dX12_ranks_81 : decode cX12_ranks 81 = .ok (.ifCond .eq 10, 3) := by decide +kernel
theorem dX12_ranks_84 : decode cX12_ranks 84 = .ok (.aload_n 0, 1) := by decide +kernel
theorem dX12_ranks_85 : decode cX12_ranks 85 = .ok (.getfield 25, 3) := by decide +kernel
theorem dX12_ranks_88 : decode cX12_ranks 88 = .ok (.iload_n 2, 1) := by decide +kernel
theorem dX12_ranks_89 : decode cX12_ranks 89 = .ok (.iload_n 1, 1) := by decide +kernel
theorem dX12_ranks_90 : decode cX12_ranks 90 = .ok (.iastore, 1) := by decide +kernel
theorem dX12_ranks_91 : decode cX12_ranks 91 = .ok (.iinc 2 1, 3) := by decide +kernel
theorem dX12_ranks_94 : decode cX12_ranks 94 = .ok (.goto (-48), 3) := by decide +kernel
theorem dX12_ranks_97 : decode cX12_ranks 97 = .ok (.iinc 1 1, 3) := by decide +kernel
theorem dX12_ranks_100 : decode cX12_ranks 100 = .ok (.goto (-62), 3) := by decide +kernel
theorem dX12_ranks_103 : decode cX12_ranks 103 = .ok (.return_, 1) := by decide +kernel
theorem dX12_best_0 : decode cX12_best 0 = .ok (.iload_n 1, 1) := by decide +kernel
theorem dX12_best_1 : decode cX12_best 1 = .ok (.bipush 114, 2) := by decide +kernel
theorem dX12_best_3 : decode cX12_best 3 = .ok (.if_icmp .ne 38, 3) := by decide +kernel
theorem dX12_best_6 : decode cX12_best 6 = .ok (.aload_n 0, 1) := by decide +kernel
theorem dX12_best_7 : decode cX12_best 7 = .ok (.getfield 7, 3) := by decide +kernel
theorem dX12_best_10 : decode cX12_best 10 = .ok (.iload_n 2, 1) := by decide +kernel
theorem dX12_best_11 : decode cX12_best 11 = .ok (.iaload, 1) := by decide +kernel
theorem dX12_best_12 : decode cX12_best 12 = .ok (.bipush 97, 2) := by decide +kernel
theorem dX12_best_14 : decode cX12_best 14 = .ok (.if_icmp .ne 27, 3) := by decide +kernel
theorem dX12_best_17 : decode cX12_best 17 = .ok (.aload_n 0, 1) := by decide +kernel
theorem dX12_best_18 : decode cX12_best 18 = .ok (.getfield 40, 3) := by decide +kernel
theorem dX12_best_21 : decode cX12_best 21 = .ok (.iload_n 2, 1) := by decide +kernel
theorem dX12_best_22 : decode cX12_best 22 = .ok (.baload, 1) := by decide +kernel
theorem dX12_best_23 : decode cX12_best 23 = .ok (.ifCond .ne 18, 3) := by decide +kernel
theorem dX12_best_26 : decode cX12_best 26 = .ok (.aload_n 0, 1) := by decide +kernel
theorem dX12_best_27 : decode cX12_best 27 = .ok (.getfield 78, 3) := by decide +kernel
theorem dX12_best_30 : decode cX12_best 30 = .ok (.iload_n 2, 1) := by decide +kernel
theorem dX12_best_31 : decode cX12_best 31 = .ok (.laload, 1) := by decide +kernel
theorem dX12_best_32 : decode cX12_best 32 = .ok (.lconst 0, 1) := by decide +kernel
theorem dX12_best_33 : decode cX12_best 33 = .ok (.lcmp, 1) := by decide +kernel
theorem dX12_best_34 : decode cX12_best 34 = .ok (.ifCond .le 7, 3) := by decide +kernel
theorem dX12_best_37 : decode cX12_best 37 = .ok (.iconst 1, 1) := by decide +kernel
theorem dX12_best_38 : decode cX12_best 38 = .ok (.goto 4, 3) := by decide +kernel
theorem dX12_best_41 : decode cX12_best 41 = .ok (.iconst 0, 1) := by decide +kernel
theorem dX12_best_42 : decode cX12_best 42 = .ok (.istore_n 3, 1) := by decide +kernel
theorem dX12_best_43 : decode cX12_best 43 = .ok (.iconst 0, 1) := by decide +kernel
theorem dX12_best_44 : decode cX12_best 44 = .ok (.istore 4, 2) := by decide +kernel
theorem dX12_best_46 : decode cX12_best 46 = .ok (.iload 4, 2) := by decide +kernel
theorem dX12_best_48 : decode cX12_best 48 = .ok (.aload_n 0, 1) := by decide +kernel
theorem dX12_best_49 : decode cX12_best 49 = .ok (.getfield 16, 3) := by decide +kernel
theorem dX12_best_52 : decode cX12_best 52 = .ok (.iload_n 2, 1) := by decide +kernel
theorem dX12_best_53 : decode cX12_best 53 = .ok (.iaload, 1) := by decide +kernel
theorem dX12_best_54 : decode cX12_best 54 = .ok (.if_icmp .ge 43, 3) := by decide +kernel
theorem dX12_best_57 : decode cX12_best 57 = .ok (.aload_n 0, 1) := by decide +kernel
theorem dX12_best_58 : decode cX12_best 58 = .ok (.iload_n 1, 1) := by decide +kernel
theorem dX12_best_59 : decode cX12_best 59 = .ok (.iload_n 2, 1) := by decide +kernel
theorem dX12_best_60 : decode cX12_best 60 = .ok (.iload 4, 2) := by decide +kernel
theorem dX12_best_62 : decode cX12_best 62 = .ok (.invokevirtual 273, 3) := by decide +kernel
theorem dX12_best_65 : decode cX12_best 65 = .ok (.ifCond .eq 26, 3) := by decide +kernel
theorem dX12_best_68 : decode cX12_best 68 = .ok (.iload_n 3, 1) := by decide +kernel
theorem dX12_best_69 : decode cX12_best 69 = .ok (.ifCond .eq 19, 3) := by decide +kernel
theorem dX12_best_72 : decode cX12_best 72 = .ok (.aload_n 0, 1) := by decide +kernel
theorem dX12_best_73 : decode cX12_best 73 = .ok (.iload_n 2, 1) := by decide +kernel
theorem dX12_best_74 : decode cX12_best 74 = .ok (.iload 4, 2) := by decide +kernel
theorem dX12_best_76 : decode cX12_best 76 = .ok (.aload_n 0, 1) := by decide +kernel
theorem dX12_best_77 : decode cX12_best 77 = .ok (.getfield 25, 3) := by decide +kernel
theorem dX12_best_80 : decode cX12_best 80 = .ok (.iload_n 2, 1) := by decide +kernel
theorem dX12_best_81 : decode cX12_best 81 = .ok (.iaload, 1) := by decide +kernel
theorem dX12_best_82 : decode cX12_best 82 = .ok (.invokevirtual 276, 3) := by decide +kernel
theorem dX12_best_85 : decode cX12_best 85 = .ok (.ifCond .eq 6, 3) := by decide +kernel
theorem dX12_best_88 : decode cX12_best 88 = .ok (.iload 4, 2) := by decide +kernel
theorem dX12_best_90 : decode cX12_best 90 = .ok (.ireturn, 1) := by decide +kernel
theorem dX12_best_91 : decode cX12_best 91 = .ok (.iinc 4 1, 3) := by decide +kernel
theorem dX12_best_94 : decode cX12_best 94 = .ok (.goto (-48), 3) := by decide +kernel
theorem dX12_best_97 : decode cX12_best 97 = .ok (.iconst 0, 1) := by decide +kernel
theorem dX12_best_98 : decode cX12_best 98 = .ok (.ireturn, 1) := by decide +kernel
theorem dX12_solve_0 : decode cX12_solve 0 = .ok (.aload_n 0, 1) := by decide +kernel
theorem dX12_solve_1 : decode cX12_solve 1 = .ok (.iload_n 1, 1) := by decide +kernel
theorem dX12_solve_2 : decode cX12_solve 2 = .ok (.invokestatic 221, 3) := by decide +kernel
theorem dX12_solve_5 : decode cX12_solve 5 = .ok (.iconst (-1), 1) := by decide +kernel
theorem dX12_solve_6 : decode cX12_solve 6 = .ok (.if_icmp .ne 7, 3) := by decide +kernel
theorem dX12_solve_9 : decode cX12_solve 9 = .ok (.iconst 1, 1) := by decide +kernel
theorem dX12_solve_10 : decode cX12_solve 10 = .ok (.goto 15, 3) := by decide +kernel
theorem dX12_solve_13 : decode cX12_solve 13 = .ok (.aload_n 0, 1) := by decide +kernel
theorem dX12_solve_14 : decode cX12_solve 14 = .ok (.invokevirtual 246, 3) := by decide +kernel
theorem dX12_solve_17 : decode cX12_solve 17 = .ok (.ifCond .ne 7, 3) := by decide +kernel
theorem dX12_solve_20 : decode cX12_solve 20 = .ok (.iconst 2, 1) := by decide +kernel
theorem dX12_solve_21 : decode cX12_solve 21 = .ok (.goto 4, 3) := by decide +kernel
theorem dX12_solve_24 : decode cX12_solve 24 = .ok (.iconst 0, 1) := by decide +kernel
theorem dX12_solve_25 : decode cX12_solve 25 = .ok (.putfield 122, 3) := by decide +kernel
theorem dX12_solve_28 : decode cX12_solve 28 = .ok (.aload_n 0, 1) := by decide +kernel
theorem dX12_solve_29 : decode cX12_solve 29 = .ok (.getfield 122, 3) := by decide +kernel
theorem dX12_solve_32 : decode cX12_solve 32 = .ok (.ifCond .le 5, 3) := by decide +kernel
theorem dX12_solve_35 : decode cX12_solve 35 = .ok (.iconst 0, 1) := by decide +kernel
theorem dX12_solve_36 : decode cX12_solve 36 = .ok (.ireturn, 1) := by decide +kernel
theorem dX12_solve_37 : decode cX12_solve 37 = .ok (.aload_n 0, 1) := by decide +kernel
theorem dX12_solve_38 : decode cX12_solve 38 = .ok (.iload_n 1, 1) := by decide +kernel
theorem dX12_solve_39 : decode cX12_solve 39 = .ok (.invokevirtual 250, 3) := by decide +kernel
theorem dX12_solve_42 : decode cX12_solve 42 = .ok (.iload_n 1, 1) := by decide +kernel
theorem dX12_solve_43 : decode cX12_solve 43 = .ok (.bipush 114, 2) := by decide +kernel
theorem dX12_solve_45 : decode cX12_solve 45 = .ok (.if_icmp .ne 7, 3) := by decide +kernel
theorem dX12_solve_48 : decode cX12_solve 48 = .ok (.aload_n 0, 1) := by decide +kernel
theorem dX12_solve_49 : decode cX12_solve 49 = .ok (.invokevirtual 282, 3) := by decide +kernel
theorem dX12_solve_52 : decode cX12_solve 52 = .ok (.iconst 0, 1) := by decide +kernel
theorem dX12_solve_53 : decode cX12_solve 53 = .ok (.istore_n 2, 1) := by decide +kernel
theorem dX12_solve_54 : decode cX12_solve 54 = .ok (.iconst 0, 1) := by decide +kernel
theorem dX12_solve_55 : decode cX12_solve 55 = .ok (.istore_n 3, 1) := by decide +kernel
theorem dX12_solve_56 : decode cX12_solve 56 = .ok (.iload_n 3, 1) := by decide +kernel
theorem dX12_solve_57 : decode cX12_solve 57 = .ok (.aload_n 0, 1) := by decide +kernel
theorem dX12_solve_58 : decode cX12_solve 58 = .ok (.getfield 146, 3) := by decide +kernel
theorem dX12_solve_61 : decode cX12_solve 61 = .ok (.if_icmp .ge 44, 3) := by decide +kernel
theorem dX12_solve_64 : decode cX12_solve 64 = .ok (.aload_n 0, 1) := by decide +kernel
theorem dX12_solve_65 : decode cX12_solve 65 = .ok (.iload_n 1, 1) := by decide +kernel
theorem dX12_solve_66 : decode cX12_solve 66 = .ok (.iload_n 3, 1) := by decide +kernel
theorem dX12_solve_67 : decode cX12_solve 67 = .ok (.invokevirtual 285, 3) := by decide +kernel
theorem dX12_solve_70 : decode cX12_solve 70 = .ok (.istore 4, 2) := by decide +kernel
theorem dX12_solve_72 : decode cX12_solve 72 = .ok (.iload_n 2, 1) := by decide +kernel
theorem dX12_solve_73 : decode cX12_solve 73 = .ok (.iload 4, 2) := by decide +kernel
theorem dX12_solve_75 : decode cX12_solve 75 = .ok (.aload_n 0, 1) := by decide +kernel
theorem dX12_solve_76 : decode cX12_solve 76 = .ok (.getfield 19, 3) := by decide +kernel
theorem dX12_solve_79 : decode cX12_solve 79 = .ok (.iload_n 3, 1) := by decide +kernel
theorem dX12_solve_80 : decode cX12_solve 80 = .ok (.iaload, 1) := by decide +kernel
theorem dX12_solve_81 : decode cX12_solve 81 = .ok (.if_icmp .ne 7, 3) := by decide +kernel
theorem dX12_solve_84 : decode cX12_solve 84 = .ok (.iconst 0, 1) := by decide +kernel
theorem dX12_solve_85 : decode cX12_solve 85 = .ok (.goto 4, 3) := by decide +kernel
theorem dX12_solve_88 : decode cX12_solve 88 = .ok (.iconst 1, 1) := by decide +kernel
theorem dX12_solve_89 : decode cX12_solve 89 = .ok (.iadd, 1) := by decide +kernel
theorem dX12_solve_90 : decode cX12_solve 90 = .ok (.istore_n 2, 1) := by decide +kernel
theorem dX12_solve_91 : decode cX12_solve 91 = .ok (.aload_n 0, 1) := by decide +kernel
theorem dX12_solve_92 : decode cX12_solve 92 = .ok (.getfield 19, 3) := by decide +kernel
theorem dX12_solve_95 : decode cX12_solve 95 = .ok (.iload_n 3, 1) := by decide +kernel
theorem dX12_solve_96 : decode cX12_solve 96 = .ok (.iload 4, 2) := by decide +kernel
theorem dX12_solve_98 : decode cX12_solve 98 = .ok (.iastore, 1) := by decide +kernel
theorem dX12_solve_99 : decode cX12_solve 99 = .ok (.iinc 3 1, 3) := by decide +kernel
theorem dX12_solve_102 : decode cX12_solve 102 = .ok (.goto (-46), 3) := by decide +kernel
theorem dX12_solve_105 : decode cX12_solve 105 = .ok (.iload_n 2, 1) := by decide +kernel
theorem dX12_solve_106 : decode cX12_solve 106 = .ok (.ireturn, 1) := by decide +kernel
theorem dX12_tell_0 : decode cX12_tell 0 = .ok (.aload_n 0, 1) := by decide +kernel
theorem dX12_tell_1 : decode cX12_tell 1 = .ok (.iload_n 1, 1) := by decide +kernel
theorem dX12_tell_2 : decode cX12_tell 2 = .ok (.iload_n 2, 1) := by decide +kernel
theorem dX12_tell_3 : decode cX12_tell 3 = .ok (.invokevirtual 241, 3) := by decide +kernel
theorem dX12_tell_6 : decode cX12_tell 6 = .ok (.ifCond .ne 9, 3) := by decide +kernel
theorem dX12_tell_9 : decode cX12_tell 9 = .ok (.aload_n 0, 1) := by decide +kernel
theorem dX12_tell_10 : decode cX12_tell 10 = .ok (.iconst 1, 1) := by decide +kernel
theorem dX12_tell_11 : decode cX12_tell 11 = .ok (.invokevirtual 235, 3) := by decide +kernel
theorem dX12_tell_14 : decode cX12_tell 14 = .ok (.ireturn, 1) := by decide +kernel
theorem dX12_tell_15 : decode cX12_tell 15 = .ok (.aload_n 0, 1) := by decide +kernel
theorem dX12_tell_16 : decode cX12_tell 16 = .ok (.iconst 0, 1) := by decide +kernel
theorem dX12_tell_17 : decode cX12_tell 17 = .ok (.putfield 122, 3) := by decide +kernel
theorem dX12_tell_20 : decode cX12_tell 20 = .ok (.aload_n 0, 1) := by decide +kernel
theorem dX12_tell_21 : decode cX12_tell 21 = .ok (.getfield 19, 3) := by decide +kernel
theorem dX12_tell_24 : decode cX12_tell 24 = .ok (.iload_n 1, 1) := by decide +kernel
theorem dX12_tell_25 : decode cX12_tell 25 = .ok (.iaload, 1) := by decide +kernel
theorem dX12_tell_26 : decode cX12_tell 26 = .ok (.istore_n 3, 1) := by decide +kernel
theorem dX12_tell_27 : decode cX12_tell 27 = .ok (.aload_n 0, 1) := by decide +kernel
theorem dX12_tell_28 : decode cX12_tell 28 = .ok (.getfield 19, 3) := by decide +kernel
theorem dX12_tell_31 : decode cX12_tell 31 = .ok (.iload_n 1, 1) := by decide +kernel
theorem dX12_tell_32 : decode cX12_tell 32 = .ok (.iload_n 2, 1) := by decide +kernel
theorem dX12_tell_33 : decode cX12_tell 33 = .ok (.iastore, 1) := by decide +kernel
theorem dX12_tell_34 : decode cX12_tell 34 = .ok (.iload_n 3, 1) := by decide +kernel
theorem dX12_tell_35 : decode cX12_tell 35 = .ok (.ireturn, 1) := by decide +kernel
theorem dX12_told_0 : decode cX12_told 0 = .ok (.aload_n 0, 1) := by decide +kernel
theorem dX12_told_1 : decode cX12_told 1 = .ok (.iload_n 1, 1) := by decide +kernel
theorem dX12_told_2 : decode cX12_told 2 = .ok (.invokevirtual 232, 3) := by decide +kernel
theorem dX12_told_5 : decode cX12_told 5 = .ok (.ifCond .ne 9, 3) := by decide +kernel
theorem dX12_told_8 : decode cX12_told 8 = .ok (.aload_n 0, 1) := by decide +kernel
theorem dX12_told_9 : decode cX12_told 9 = .ok (.iconst 1, 1) := by decide +kernel
theorem dX12_told_10 : decode cX12_told 10 = .ok (.invokevirtual 235, 3) := by decide +kernel
theorem dX12_told_13 : decode cX12_told 13 = .ok (.ireturn, 1) := by decide +kernel
theorem dX12_told_14 : decode cX12_told 14 = .ok (.aload_n 0, 1) := by decide +kernel
theorem dX12_told_15 : decode cX12_told 15 = .ok (.iconst 0, 1) := by decide +kernel
theorem dX12_told_16 : decode cX12_told 16 = .ok (.putfield 122, 3) := by decide +kernel
theorem dX12_told_19 : decode cX12_told 19 = .ok (.aload_n 0, 1) := by decide +kernel
theorem dX12_told_20 : decode cX12_told 20 = .ok (.getfield 19, 3) := by decide +kernel
theorem dX12_told_23 : decode cX12_told 23 = .ok (.iload_n 1, 1) := by decide +kernel
theorem dX12_told_24 : decode cX12_told 24 = .ok (.iaload, 1) := by decide +kernel
theorem dX12_told_25 : decode cX12_told 25 = .ok (.ireturn, 1) := by decide +kernel
theorem dX12_picksTold_0 : decode cX12_picksTold 0 = .ok (.iconst 0, 1) := by decide +kernel
theorem dX12_picksTold_1 : decode cX12_picksTold 1 = .ok (.istore_n 1, 1) := by decide +kernel
theorem dX12_picksTold_2 : decode cX12_picksTold 2 = .ok (.iload_n 1, 1) := by decide +kernel
theorem dX12_picksTold_3 : decode cX12_picksTold 3 = .ok (.aload_n 0, 1) := by decide +kernel
theorem dX12_picksTold_4 : decode cX12_picksTold 4 = .ok (.getfield 146, 3) := by decide +kernel
theorem dX12_picksTold_7 : decode cX12_picksTold 7 = .ok (.if_icmp .ge 21, 3) := by decide +kernel
theorem dX12_picksTold_10 : decode cX12_picksTold 10 = .ok (.aload_n 0, 1) := by decide +kernel
theorem dX12_picksTold_11 : decode cX12_picksTold 11 = .ok (.getfield 22, 3) := by decide +kernel
theorem dX12_picksTold_14 : decode cX12_picksTold 14 = .ok (.iload_n 1, 1) := by decide +kernel
theorem dX12_picksTold_15 : decode cX12_picksTold 15 = .ok (.aload_n 0, 1) := by decide +kernel
theorem dX12_picksTold_16 : decode cX12_picksTold 16 = .ok (.getfield 19, 3) := by decide +kernel
theorem dX12_picksTold_19 : decode cX12_picksTold 19 = .ok (.iload_n 1, 1) := by decide +kernel
theorem dX12_picksTold_20 : decode cX12_picksTold 20 = .ok (.iaload, 1) := by decide +kernel
theorem dX12_picksTold_21 : decode cX12_picksTold 21 = .ok (.iastore, 1) := by decide +kernel
theorem dX12_picksTold_22 : decode cX12_picksTold 22 = .ok (.iinc 1 1, 3) := by decide +kernel
theorem dX12_picksTold_25 : decode cX12_picksTold 25 = .ok (.goto (-23), 3) := by decide +kernel
theorem dX12_picksTold_28 : decode cX12_picksTold 28 = .ok (.return_, 1) := by decide +kernel
theorem dX12_isChain_0 : decode cX12_isChain 0 = .ok (.aload_n 0, 1) := by decide +kernel
theorem dX12_isChain_1 : decode cX12_isChain 1 = .ok (.iload_n 1, 1) := by decide +kernel
theorem dX12_isChain_2 : decode cX12_isChain 2 = .ok (.invokestatic 221, 3) := by decide +kernel
theorem dX12_isChain_5 : decode cX12_isChain 5 = .ok (.iconst (-1), 1) := by decide +kernel
theorem dX12_isChain_6 : decode cX12_isChain 6 = .ok (.if_icmp .ne 19, 3) := by decide +kernel
theorem dX12_isChain_9 : decode cX12_isChain 9 = .ok (.iload_n 1, 1) := by decide +kernel
theorem dX12_isChain_10 : decode cX12_isChain 10 = .ok (.bipush 109, 2) := by decide +kernel
theorem dX12_isChain_12 : decode cX12_isChain 12 = .ok (.if_icmp .eq 13, 3) := by decide +kernel
theorem dX12_isChain_15 : decode cX12_isChain 15 = .ok (.iload_n 1, 1) := by decide +kernel
theorem dX12_isChain_16 : decode cX12_isChain 16 = .ok (.bipush 112, 2) := by decide +kernel
theorem dX12_isChain_18 : decode cX12_isChain 18 = .ok (.if_icmp .eq 7, 3) := by decide +kernel
theorem dX12_isChain_21 : decode cX12_isChain 21 = .ok (.iconst 1, 1) := by decide +kernel
theorem dX12_isChain_22 : decode cX12_isChain 22 = .ok (.goto 27, 3) := by decide +kernel
theorem dX12_isChain_25 : decode cX12_isChain 25 = .ok (.aload_n 0, 1) := by decide +kernel
theorem dX12_isChain_26 : decode cX12_isChain 26 = .ok (.iload_n 2, 1) := by decide +kernel
theorem dX12_isChain_27 : decode cX12_isChain 27 = .ok (.invokevirtual 232, 3) := by decide +kernel
theorem dX12_isChain_30 : decode cX12_isChain 30 = .ok (.ifCond .ne 7, 3) := by decide +kernel
theorem dX12_isChain_33 : decode cX12_isChain 33 = .ok (.iconst 2, 1) := by decide +kernel
theorem dX12_isChain_34 : decode cX12_isChain 34 = .ok (.goto 15, 3) := by decide +kernel
theorem dX12_isChain_37 : decode cX12_isChain 37 = .ok (.aload_n 0, 1) := by decide +kernel
theorem dX12_isChain_38 : decode cX12_isChain 38 = .ok (.invokevirtual 246, 3) := by decide +kernel
theorem dX12_isChain_41 : decode cX12_isChain 41 = .ok (.ifCond .ne 7, 3) := by decide +kernel
theorem dX12_isChain_44 : decode cX12_isChain 44 = .ok (.iconst 3, 1) := by decide +kernel
theorem dX12_isChain_45 : decode cX12_isChain 45 = .ok (.goto 4, 3) := by decide +kernel
theorem dX12_isChain_48 : decode cX12_isChain 48 = .ok (.iconst 0, 1) := by decide +kernel
theorem dX12_isChain_49 : decode cX12_isChain 49 = .ok (.putfield 122, 3) := by decide +kernel
theorem dX12_isChain_52 : decode cX12_isChain 52 = .ok (.aload_n 0, 1) := by decide +kernel
theorem dX12_isChain_53 : decode cX12_isChain 53 = .ok (.getfield 122, 3) := by decide +kernel
theorem dX12_isChain_56 : decode cX12_isChain 56 = .ok (.ifCond .le 5, 3) := by decide +kernel
theorem dX12_isChain_59 : decode cX12_isChain 59 = .ok (.iconst 0, 1) := by decide +kernel
theorem dX12_isChain_60 : decode cX12_isChain 60 = .ok (.ireturn, 1) := by decide +kernel
theorem dX12_isChain_61 : decode cX12_isChain 61 = .ok (.aload_n 0, 1) := by decide +kernel
theorem dX12_isChain_62 : decode cX12_isChain 62 = .ok (.invokevirtual 288, 3) := by decide +kernel
theorem dX12_isChain_65 : decode cX12_isChain 65 = .ok (.aload_n 0, 1) := by decide +kernel
theorem dX12_isChain_66 : decode cX12_isChain 66 = .ok (.iload_n 1, 1) := by decide +kernel
theorem dX12_isChain_67 : decode cX12_isChain 67 = .ok (.invokevirtual 211, 3) := by decide +kernel
theorem dX12_isChain_70 : decode cX12_isChain 70 = .ok (.iconst 1, 1) := by decide +kernel
theorem dX12_isChain_71 : decode cX12_isChain 71 = .ok (.ireturn, 1) := by decide +kernel
theorem dX12_chainAbove_0 : decode cX12_chainAbove 0 = .ok (.aload_n 0, 1) := by decide +kernel
theorem dX12_chainAbove_1 : decode cX12_chainAbove 1 = .ok (.iload_n 1, 1) := by decide +kernel
theorem dX12_chainAbove_2 : decode cX12_chainAbove 2 = .ok (.iload_n 2, 1) := by decide +kernel
theorem dX12_chainAbove_3 : decode cX12_chainAbove 3 = .ok (.invokevirtual 291, 3) := by decide +kernel
theorem dX12_chainAbove_6 : decode cX12_chainAbove 6 = .ok (.ifCond .eq 12, 3) := by decide +kernel
theorem dX12_chainAbove_9 : decode cX12_chainAbove 9 = .ok (.aload_n 0, 1) := by decide +kernel
theorem dX12_chainAbove_10 : decode cX12_chainAbove 10 = .ok (.getfield 60, 3) := by decide +kernel
theorem dX12_chainAbove_13 : decode cX12_chainAbove 13 = .ok (.iload_n 2, 1) := by decide +kernel
theorem dX12_chainAbove_14 : decode cX12_chainAbove 14 = .ok (.laload, 1) := by decide +kernel
theorem dX12_chainAbove_15 : decode cX12_chainAbove 15 = .ok (.goto 4, 3) := by decide +kernel
theorem dX12_chainAbove_18 : decode cX12_chainAbove 18 = .ok (.lconst 0, 1) := by decide +kernel
theorem dX12_chainAbove_19 : decode cX12_chainAbove 19 = .ok (.lreturn, 1) := by decide +kernel
theorem dX12_chainBelow_0 : decode cX12_chainBelow 0 = .ok (.aload_n 0, 1) := by decide +kernel
theorem dX12_chainBelow_1 : decode cX12_chainBelow 1 = .ok (.iload_n 1, 1) := by decide +kernel
theorem dX12_chainBelow_2 : decode cX12_chainBelow 2 = .ok (.iload_n 2, 1) := by decide +kernel
theorem dX12_chainBelow_3 : decode cX12_chainBelow 3 = .ok (.invokevirtual 291, 3) := by decide +kernel
theorem dX12_chainBelow_6 : decode cX12_chainBelow 6 = .ok (.ifCond .eq 12, 3) := by decide +kernel
theorem dX12_chainBelow_9 : decode cX12_chainBelow 9 = .ok (.aload_n 0, 1) := by decide +kernel
theorem dX12_chainBelow_10 : decode cX12_chainBelow 10 = .ok (.getfield 63, 3) := by decide +kernel
theorem dX12_chainBelow_13 : decode cX12_chainBelow 13 = .ok (.iload_n 2, 1) := by decide +kernel
theorem dX12_chainBelow_14 : decode cX12_chainBelow 14 = .ok (.laload, 1) := by decide +kernel
theorem dX12_chainBelow_15 : decode cX12_chainBelow 15 = .ok (.goto 4, 3) := by decide +kernel
theorem dX12_chainBelow_18 : decode cX12_chainBelow 18 = .ok (.lconst 0, 1) := by decide +kernel
theorem dX12_chainBelow_19 : decode cX12_chainBelow 19 = .ok (.lreturn, 1) := by decide +kernel
theorem dX12_isResponse_0 : decode cX12_isResponse 0 = .ok (.aload_n 0, 1) := by decide +kernel
theorem dX12_isResponse_1 : decode cX12_isResponse 1 = .ok (.iload_n 1, 1) := by decide +kernel
theorem dX12_isResponse_2 : decode cX12_isResponse 2 = .ok (.bipush 97, 2) := by decide +kernel
theorem dX12_isResponse_4 : decode cX12_isResponse 4 = .ok (.if_icmp .eq 9, 3) := by decide +kernel
theorem dX12_isResponse_7 : decode cX12_isResponse 7 = .ok (.iload_n 1, 1) := by decide +kernel
theorem dX12_isResponse_8 : decode cX12_isResponse 8 = .ok (.bipush 98, 2) := by decide +kernel
theorem dX12_isResponse_10 : decode cX12_isResponse 10 = .ok (.if_icmp .ne 11, 3) := by decide +kernel
theorem dX12_isResponse_13 : decode cX12_isResponse 13 = .ok (.iload_n 2, 1) := by decide +kernel
theorem dX12_isResponse_14 : decode cX12_isResponse 14 = .ok (.invokestatic 221, 3) := by decide +kernel
theorem dX12_isResponse_17 : decode cX12_isResponse 17 = .ok (.iconst (-1), 1) := by decide +kernel
theorem dX12_isResponse_18 : decode cX12_isResponse 18 = .ok (.if_icmp .ne 7, 3) := by decide +kernel
theorem dX12_isResponse_21 : decode cX12_isResponse 21 = .ok (.iconst 1, 1) := by decide +kernel
theorem dX12_isResponse_22 : decode cX12_isResponse 22 = .ok (.goto 27, 3) := by decide +kernel
theorem dX12_isResponse_25 : decode cX12_isResponse 25 = .ok (.aload_n 0, 1) := by decide +kernel
theorem dX12_isResponse_26 : decode cX12_isResponse 26 = .ok (.iload_n 3, 1) := by decide +kernel
theorem dX12_isResponse_27 : decode cX12_isResponse 27 = .ok (.invokevirtual 232, 3) := by decide +kernel
theorem dX12_isResponse_30 : decode cX12_isResponse 30 = .ok (.ifCond .ne 7, 3) := by decide +kernel
theorem dX12_isResponse_33 : decode cX12_isResponse 33 = .ok (.iconst 2, 1) := by decide +kernel
theorem dX12_isResponse_34 : decode cX12_isResponse 34 = .ok (.goto 15, 3) := by decide +kernel
theorem dX12_isResponse_37 : decode cX12_isResponse 37 = .ok (.aload_n 0, 1) := by decide +kernel
theorem dX12_isResponse_38 : decode cX12_isResponse 38 = .ok (.invokevirtual 246, 3) := by decide +kernel
theorem dX12_isResponse_41 : decode cX12_isResponse 41 = .ok (.ifCond .ne 7, 3) := by decide +kernel
theorem dX12_isResponse_44 : decode cX12_isResponse 44 = .ok (.iconst 3, 1) := by decide +kernel
theorem dX12_isResponse_45 : decode cX12_isResponse 45 = .ok (.goto 4, 3) := by decide +kernel
theorem dX12_isResponse_48 : decode cX12_isResponse 48 = .ok (.iconst 0, 1) := by decide +kernel
theorem dX12_isResponse_49 : decode cX12_isResponse 49 = .ok (.putfield 122, 3) := by decide +kernel
theorem dX12_isResponse_52 : decode cX12_isResponse 52 = .ok (.aload_n 0, 1) := by decide +kernel
theorem dX12_isResponse_53 : decode cX12_isResponse 53 = .ok (.getfield 122, 3) := by decide +kernel
theorem dX12_isResponse_56 : decode cX12_isResponse 56 = .ok (.ifCond .le 5, 3) := by decide +kernel
theorem dX12_isResponse_59 : decode cX12_isResponse 59 = .ok (.iconst 0, 1) := by decide +kernel
theorem dX12_isResponse_60 : decode cX12_isResponse 60 = .ok (.ireturn, 1) := by decide +kernel
theorem dX12_isResponse_61 : decode cX12_isResponse 61 = .ok (.aload_n 0, 1) := by decide +kernel
theorem dX12_isResponse_62 : decode cX12_isResponse 62 = .ok (.invokevirtual 288, 3) := by decide +kernel
theorem dX12_isResponse_65 : decode cX12_isResponse 65 = .ok (.aload_n 0, 1) := by decide +kernel
theorem dX12_isResponse_66 : decode cX12_isResponse 66 = .ok (.iload_n 1, 1) := by decide +kernel
theorem dX12_isResponse_67 : decode cX12_isResponse 67 = .ok (.bipush 97, 2) := by decide +kernel
theorem dX12_isResponse_69 : decode cX12_isResponse 69 = .ok (.if_icmp .ne 8, 3) := by decide +kernel
theorem dX12_isResponse_72 : decode cX12_isResponse 72 = .ok (.bipush 98, 2) := by decide +kernel
theorem dX12_isResponse_74 : decode cX12_isResponse 74 = .ok (.goto 5, 3) := by decide +kernel
theorem dX12_isResponse_77 : decode cX12_isResponse 77 = .ok (.bipush 97, 2) := by decide +kernel
theorem dX12_isResponse_79 : decode cX12_isResponse 79 = .ok (.iload_n 2, 1) := by decide +kernel
theorem dX12_isResponse_80 : decode cX12_isResponse 80 = .ok (.invokevirtual 224, 3) := by decide +kernel
theorem dX12_isResponse_83 : decode cX12_isResponse 83 = .ok (.iconst 1, 1) := by decide +kernel
theorem dX12_isResponse_84 : decode cX12_isResponse 84 = .ok (.ireturn, 1) := by decide +kernel
theorem dX12_responseAbove_0 : decode cX12_responseAbove 0 = .ok (.aload_n 0, 1) := by decide +kernel
theorem dX12_responseAbove_1 : decode cX12_responseAbove 1 = .ok (.iload_n 1, 1) := by decide +kernel
theorem dX12_responseAbove_2 : decode cX12_responseAbove 2 = .ok (.iload_n 2, 1) := by decide +kernel
theorem dX12_responseAbove_3 : decode cX12_responseAbove 3 = .ok (.iload_n 3, 1) := by decide +kernel
theorem dX12_responseAbove_4 : decode cX12_responseAbove 4 = .ok (.invokevirtual 294, 3) := by decide +kernel
theorem dX12_responseAbove_7 : decode cX12_responseAbove 7 = .ok (.ifCond .eq 12, 3) := by decide +kernel
theorem dX12_responseAbove_10 : decode cX12_responseAbove 10 = .ok (.aload_n 0, 1) := by decide +kernel
theorem dX12_responseAbove_11 : decode cX12_responseAbove 11 = .ok (.getfield 66, 3) := by decide +kernel
theorem dX12_responseAbove_14 : decode cX12_responseAbove 14 = .ok (.iload_n 3, 1) := by decide +kernel
theorem dX12_responseAbove_15 : decode cX12_responseAbove 15 = .ok (.laload, 1) := by decide +kernel
theorem dX12_responseAbove_16 : decode cX12_responseAbove 16 = .ok (.goto 4, 3) := by decide +kernel
theorem dX12_responseAbove_19 : decode cX12_responseAbove 19 = .ok (.lconst 0, 1) := by decide +kernel
theorem dX12_responseAbove_20 : decode cX12_responseAbove 20 = .ok (.lreturn, 1) := by decide +kernel
theorem dX12_responseBelow_0 : decode cX12_responseBelow 0 = .ok (.aload_n 0, 1) := by decide +kernel
theorem dX12_responseBelow_1 : decode cX12_responseBelow 1 = .ok (.iload_n 1, 1) := by decide +kernel
theorem dX12_responseBelow_2 : decode cX12_responseBelow 2 = .ok (.iload_n 2, 1) := by decide +kernel
theorem dX12_responseBelow_3 : decode cX12_responseBelow 3 = .ok (.iload_n 3, 1) := by decide +kernel
theorem dX12_responseBelow_4 : decode cX12_responseBelow 4 = .ok (.invokevirtual 294, 3) := by decide +kernel
theorem dX12_responseBelow_7 : decode cX12_responseBelow 7 = .ok (.ifCond .eq 12, 3) := by decide +kernel
theorem dX12_responseBelow_10 : decode cX12_responseBelow 10 = .ok (.aload_n 0, 1) := by decide +kernel
theorem dX12_responseBelow_11 : decode cX12_responseBelow 11 = .ok (.getfield 69, 3) := by decide +kernel
theorem dX12_responseBelow_14 : decode cX12_responseBelow 14 = .ok (.iload_n 3, 1) := by decide +kernel
theorem dX12_responseBelow_15 : decode cX12_responseBelow 15 = .ok (.laload, 1) := by decide +kernel
theorem dX12_responseBelow_16 : decode cX12_responseBelow 16 = .ok (.goto 4, 3) := by decide +kernel
theorem dX12_responseBelow_19 : decode cX12_responseBelow 19 = .ok (.lconst 0, 1) := by decide +kernel
theorem dX12_responseBelow_20 : decode cX12_responseBelow 20 = .ok (.lreturn, 1) := by decide +kernel
theorem dX12_closedOf_0 : decode cX12_closedOf 0 = .ok (.aload_n 0, 1) := by decide +kernel
theorem dX12_closedOf_1 : decode cX12_closedOf 1 = .ok (.iload_n 1, 1) := by decide +kernel
theorem dX12_closedOf_2 : decode cX12_closedOf 2 = .ok (.invokevirtual 270, 3) := by decide +kernel
theorem dX12_closedOf_5 : decode cX12_closedOf 5 = .ok (.ifCond .ne 5, 3) := by decide +kernel
theorem dX12_closedOf_8 : decode cX12_closedOf 8 = .ok (.iconst 0, 1) := by decide +kernel
theorem dX12_closedOf_9 : decode cX12_closedOf 9 = .ok (.ireturn, 1) := by decide +kernel
theorem dX12_closedOf_10 : decode cX12_closedOf 10 = .ok (.aload_n 0, 1) := by decide +kernel
theorem dX12_closedOf_11 : decode cX12_closedOf 11 = .ok (.invokevirtual 288, 3) := by decide +kernel
theorem dX12_closedOf_14 : decode cX12_closedOf 14 = .ok (.aload_n 0, 1) := by decide +kernel
theorem dX12_closedOf_15 : decode cX12_closedOf 15 = .ok (.invokevirtual 164, 3) := by decide +kernel
theorem dX12_closedOf_18 : decode cX12_closedOf 18 = .ok (.aload_n 0, 1) := by decide +kernel
theorem dX12_closedOf_19 : decode cX12_closedOf 19 = .ok (.iload_n 1, 1) := by decide +kernel
theorem dX12_closedOf_20 : decode cX12_closedOf 20 = .ok (.invokevirtual 181, 3) := by decide +kernel
theorem dX12_closedOf_23 : decode cX12_closedOf 23 = .ok (.ifCond .eq 11, 3) := by decide +kernel
theorem dX12_closedOf_26 : decode cX12_closedOf 26 = .ok (.aload_n 0, 1) := by decide +kernel
theorem dX12_closedOf_27 : decode cX12_closedOf 27 = .ok (.iload_n 1, 1) := by decide +kernel
theorem dX12_closedOf_28 : decode cX12_closedOf 28 = .ok (.invokevirtual 185, 3) := by decide +kernel
theorem dX12_closedOf_31 : decode cX12_closedOf 31 = .ok (.goto 8, 3) := by decide +kernel
theorem dX12_closedOf_34 : decode cX12_closedOf 34 = .ok (.aload_n 0, 1) := by decide +kernel
theorem dX12_closedOf_35 : decode cX12_closedOf 35 = .ok (.iconst 3, 1) := by decide +kernel
theorem dX12_closedOf_36 : decode cX12_closedOf 36 = .ok (.invokevirtual 235, 3) := by decide +kernel
theorem dX12_closedOf_39 : decode cX12_closedOf 39 = .ok (.ireturn, 1) := by decide +kernel
theorem dX12_staysIn_0 : decode cX12_staysIn 0 = .ok (.iconst 0, 1) := by decide +kernel
theorem dX12_staysIn_1 : decode cX12_staysIn 1 = .ok (.istore_n 2, 1) := by decide +kernel
theorem dX12_staysIn_2 : decode cX12_staysIn 2 = .ok (.iload_n 2, 1) := by decide +kernel
theorem dX12_staysIn_3 : decode cX12_staysIn 3 = .ok (.aload_n 0, 1) := by decide +kernel
theorem dX12_staysIn_4 : decode cX12_staysIn 4 = .ok (.getfield 146, 3) := by decide +kernel
theorem dX12_staysIn_7 : decode cX12_staysIn 7 = .ok (.if_icmp .ge 34, 3) := by decide +kernel
theorem dX12_staysIn_10 : decode cX12_staysIn 10 = .ok (.aload_n 0, 1) := by decide +kernel
theorem dX12_staysIn_11 : decode cX12_staysIn 11 = .ok (.getfield 37, 3) := by decide +kernel
theorem dX12_staysIn_14 : decode cX12_staysIn 14 = .ok (.bipush 7, 2) := by decide +kernel
theorem dX12_staysIn_16 : decode cX12_staysIn 16 = .ok (.iload_n 1, 1) := by decide +kernel
theorem dX12_staysIn_17 : decode cX12_staysIn 17 = .ok (.imul, 1) := by decide +kernel
theorem dX12_staysIn_18 : decode cX12_staysIn 18 = .ok (.iload_n 2, 1) := by decide +kernel
theorem dX12_staysIn_19 : decode cX12_staysIn 19 = .ok (.iadd, 1) := by decide +kernel
theorem dX12_staysIn_20 : decode cX12_staysIn 20 = .ok (.iaload, 1) := by decide +kernel
theorem dX12_staysIn_21 : decode cX12_staysIn 21 = .ok (.ifCond .le 14, 3) := by decide +kernel
theorem dX12_staysIn_24 : decode cX12_staysIn 24 = .ok (.aload_n 0, 1) := by decide +kernel
theorem dX12_staysIn_25 : decode cX12_staysIn 25 = .ok (.getfield 44, 3) := by decide +kernel
theorem dX12_staysIn_28 : decode cX12_staysIn 28 = .ok (.iload_n 2, 1) := by decide +kernel
theorem dX12_staysIn_29 : decode cX12_staysIn 29 = .ok (.baload, 1) := by decide +kernel
theorem dX12_staysIn_30 : decode cX12_staysIn 30 = .ok (.ifCond .ne 5, 3) := by decide +kernel
theorem dX12_staysIn_33 : decode cX12_staysIn 33 = .ok (.iconst 0, 1) := by decide +kernel
theorem dX12_staysIn_34 : decode cX12_staysIn 34 = .ok (.ireturn, 1) := by decide +kernel
theorem dX12_staysIn_35 : decode cX12_staysIn 35 = .ok (.iinc 2 1, 3) := by decide +kernel
theorem dX12_staysIn_38 : decode cX12_staysIn 38 = .ok (.goto (-36), 3) := by decide +kernel
theorem dX12_staysIn_41 : decode cX12_staysIn 41 = .ok (.iconst 1, 1) := by decide +kernel
theorem dX12_staysIn_42 : decode cX12_staysIn 42 = .ok (.ireturn, 1) := by decide +kernel
theorem dX12_reachesIn_0 : decode cX12_reachesIn 0 = .ok (.iconst 0, 1) := by decide +kernel
theorem dX12_reachesIn_1 : decode cX12_reachesIn 1 = .ok (.istore_n 1, 1) := by decide +kernel
theorem dX12_reachesIn_2 : decode cX12_reachesIn 2 = .ok (.iload_n 1, 1) := by decide +kernel
theorem dX12_reachesIn_3 : decode cX12_reachesIn 3 = .ok (.bipush 49, 2) := by decide +kernel
theorem dX12_reachesIn_5 : decode cX12_reachesIn 5 = .ok (.if_icmp .ge 16, 3) := by decide +kernel
theorem dX12_reachesIn_8 : decode cX12_reachesIn 8 = .ok (.aload_n 0, 1) := by decide +kernel
theorem dX12_reachesIn_9 : decode cX12_reachesIn 9 = .ok (.getfield 87, 3) := by decide +kernel
theorem dX12_reachesIn_12 : decode cX12_reachesIn 12 = .ok (.iload_n 1, 1) := by decide +kernel
theorem dX12_reachesIn_13 : decode cX12_reachesIn 13 = .ok (.iconst 0, 1) := by decide +kernel
theorem dX12_reachesIn_14 : decode cX12_reachesIn 14 = .ok (.bastore, 1) := by decide +kernel
theorem dX12_reachesIn_15 : decode cX12_reachesIn 15 = .ok (.iinc 1 1, 3) := by decide +kernel
theorem dX12_reachesIn_18 : decode cX12_reachesIn 18 = .ok (.goto (-16), 3) := by decide +kernel
theorem dX12_reachesIn_21 : decode cX12_reachesIn 21 = .ok (.iconst 0, 1) := by decide +kernel
theorem dX12_reachesIn_22 : decode cX12_reachesIn 22 = .ok (.istore_n 1, 1) := by decide +kernel
theorem dX12_reachesIn_23 : decode cX12_reachesIn 23 = .ok (.iload_n 1, 1) := by decide +kernel
theorem dX12_reachesIn_24 : decode cX12_reachesIn 24 = .ok (.aload_n 0, 1) := by decide +kernel
theorem dX12_reachesIn_25 : decode cX12_reachesIn 25 = .ok (.getfield 146, 3) := by decide +kernel
theorem dX12_reachesIn_28 : decode cX12_reachesIn 28 = .ok (.if_icmp .ge 115, 3) := by decide +kernel
theorem dX12_reachesIn_31 : decode cX12_reachesIn 31 = .ok (.iconst 0, 1) := by decide +kernel
theorem dX12_reachesIn_32 : decode cX12_reachesIn 32 = .ok (.istore_n 2, 1) := by decide +kernel
theorem dX12_reachesIn_33 : decode cX12_reachesIn 33 = .ok (.iload_n 2, 1) := by decide +kernel
theorem dX12_reachesIn_34 : decode cX12_reachesIn 34 = .ok (.aload_n 0, 1) := by decide +kernel
theorem dX12_reachesIn_35 : decode cX12_reachesIn 35 = .ok (.getfield 16, 3) := by decide +kernel
theorem dX12_reachesIn_38 : decode cX12_reachesIn 38 = .ok (.iload_n 1, 1) := by decide +kernel
theorem dX12_reachesIn_39 : decode cX12_reachesIn 39 = .ok (.iaload, 1) := by decide +kernel
theorem dX12_reachesIn_40 : decode cX12_reachesIn 40 = .ok (.if_icmp .ge 97, 3) := by decide +kernel
theorem dX12_reachesIn_43 : decode cX12_reachesIn 43 = .ok (.aload_n 0, 1) := by decide +kernel
theorem dX12_reachesIn_44 : decode cX12_reachesIn 44 = .ok (.getfield 44, 3) := by decide +kernel
theorem dX12_reachesIn_47 : decode cX12_reachesIn 47 = .ok (.iload_n 1, 1) := by decide +kernel
theorem dX12_reachesIn_48 : decode cX12_reachesIn 48 = .ok (.baload, 1) := by decide +kernel
theorem dX12_reachesIn_49 : decode cX12_reachesIn 49 = .ok (.ifCond .eq 88, 3) := by decide +kernel
theorem dX12_reachesIn_52 : decode cX12_reachesIn 52 = .ok (.iconst 3, 1) := by decide +kernel
theorem dX12_reachesIn_53 : decode cX12_reachesIn 53 = .ok (.iload_n 1, 1) := by decide +kernel
theorem dX12_reachesIn_54 : decode cX12_reachesIn 54 = .ok (.imul, 1) := by decide +kernel
theorem dX12_reachesIn_55 : decode cX12_reachesIn 55 = .ok (.iload_n 2, 1) := by decide +kernel
theorem dX12_reachesIn_56 : decode cX12_reachesIn 56 = .ok (.iadd, 1) := by decide +kernel
theorem dX12_reachesIn_57 : decode cX12_reachesIn 57 = .ok (.istore_n 3, 1) := by decide +kernel
theorem dX12_reachesIn_58 : decode cX12_reachesIn 58 = .ok (.iconst 0, 1) := by decide +kernel
theorem dX12_reachesIn_59 : decode cX12_reachesIn 59 = .ok (.istore 4, 2) := by decide +kernel
theorem dX12_reachesIn_61 : decode cX12_reachesIn 61 = .ok (.iload 4, 2) := by decide +kernel
theorem dX12_reachesIn_63 : decode cX12_reachesIn 63 = .ok (.aload_n 0, 1) := by decide +kernel
theorem dX12_reachesIn_64 : decode cX12_reachesIn 64 = .ok (.getfield 146, 3) := by decide +kernel
theorem dX12_reachesIn_67 : decode cX12_reachesIn 67 = .ok (.if_icmp .ge 64, 3) := by decide +kernel
theorem dX12_reachesIn_70 : decode cX12_reachesIn 70 = .ok (.aload_n 0, 1) := by decide +kernel
theorem dX12_reachesIn_71 : decode cX12_reachesIn 71 = .ok (.iload_n 3, 1) := by decide +kernel
theorem dX12_reachesIn_72 : decode cX12_reachesIn 72 = .ok (.invokevirtual 297, 3) := by decide +kernel
theorem dX12_reachesIn_75 : decode cX12_reachesIn 75 = .ok (.ifCond .eq 56, 3) := by decide +kernel
theorem dX12_reachesIn_78 : decode cX12_reachesIn 78 = .ok (.aload_n 0, 1) := by decide +kernel
theorem dX12_reachesIn_79 : decode cX12_reachesIn 79 = .ok (.getfield 87, 3) := by decide +kernel
theorem dX12_reachesIn_82 : decode cX12_reachesIn 82 = .ok (.bipush 7, 2) := by decide +kernel
theorem dX12_reachesIn_84 : decode cX12_reachesIn 84 = .ok (.iload_n 1, 1) := by decide +kernel
theorem dX12_reachesIn_85 : decode cX12_reachesIn 85 = .ok (.imul, 1) := by decide +kernel
theorem dX12_reachesIn_86 : decode cX12_reachesIn 86 = .ok (.iload 4, 2) := by decide +kernel
theorem dX12_reachesIn_88 : decode cX12_reachesIn 88 = .ok (.iadd, 1) := by decide +kernel
theorem dX12_reachesIn_89 : decode cX12_reachesIn 89 = .ok (.aload_n 0, 1) := by decide +kernel
theorem dX12_reachesIn_90 : decode cX12_reachesIn 90 = .ok (.getfield 87, 3) := by decide +kernel
theorem dX12_reachesIn_93 : decode cX12_reachesIn 93 = .ok (.bipush 7, 2) := by decide +kernel
theorem dX12_reachesIn_95 : decode cX12_reachesIn 95 = .ok (.iload_n 1, 1) := by decide +kernel
theorem dX12_reachesIn_96 : decode cX12_reachesIn 96 = .ok (.imul, 1) := by decide +kernel
theorem dX12_reachesIn_97 : decode cX12_reachesIn 97 = .ok (.iload 4, 2) := by decide +kernel
theorem dX12_reachesIn_99 : decode cX12_reachesIn 99 = .ok (.iadd, 1) := by decide +kernel
theorem dX12_reachesIn_100 : decode cX12_reachesIn 100 = .ok (.baload, 1) := by decide +kernel
theorem dX12_reachesIn_101 : decode cX12_reachesIn 101 = .ok (.ifCond .ne 18, 3) := by decide +kernel
theorem dX12_reachesIn_104 : decode cX12_reachesIn 104 = .ok (.aload_n 0, 1) := by decide +kernel
theorem dX12_reachesIn_105 : decode cX12_reachesIn 105 = .ok (.getfield 37, 3) := by decide +kernel
theorem dX12_reachesIn_108 : decode cX12_reachesIn 108 = .ok (.bipush 7, 2) := by decide +kernel
theorem dX12_reachesIn_110 : decode cX12_reachesIn 110 = .ok (.iload_n 3, 1) := by decide +kernel
theorem dX12_reachesIn_111 : decode cX12_reachesIn 111 = .ok (.imul, 1) := by decide +kernel
theorem dX12_reachesIn_112 : decode cX12_reachesIn 112 = .ok (.iload 4, 2) := by decide +kernel
theorem dX12_reachesIn_114 : decode cX12_reachesIn 114 = .ok (.iadd, 1) := by decide +kernel
theorem dX12_reachesIn_115 : decode cX12_reachesIn 115 = .ok (.iaload, 1) := by decide +kernel
theorem dX12_reachesIn_116 : decode cX12_reachesIn 116 = .ok (.ifCond .le 7, 3) := by decide +kernel
theorem dX12_reachesIn_119 : decode cX12_reachesIn 119 = .ok (.iconst 1, 1) := by decide +kernel
theorem dX12_reachesIn_120 : decode cX12_reachesIn 120 = .ok (.goto 4, 3) := by decide +kernel
theorem dX12_reachesIn_123 : decode cX12_reachesIn 123 = .ok (.iconst 0, 1) := by decide +kernel
theorem dX12_reachesIn_124 : decode cX12_reachesIn 124 = .ok (.bastore, 1) := by decide +kernel
theorem dX12_reachesIn_125 : decode cX12_reachesIn 125 = .ok (.iinc 4 1, 3) := by decide +kernel
theorem dX12_reachesIn_128 : decode cX12_reachesIn 128 = .ok (.goto (-67), 3) := by decide +kernel
theorem dX12_reachesIn_131 : decode cX12_reachesIn 131 = .ok (.iinc 2 1, 3) := by decide +kernel
theorem dX12_reachesIn_134 : decode cX12_reachesIn 134 = .ok (.goto (-101), 3) := by decide +kernel
theorem dX12_reachesIn_137 : decode cX12_reachesIn 137 = .ok (.iinc 1 1, 3) := by decide +kernel
theorem dX12_reachesIn_140 : decode cX12_reachesIn 140 = .ok (.goto (-117), 3) := by decide +kernel
theorem dX12_reachesIn_143 : decode cX12_reachesIn 143 = .ok (.iconst 0, 1) := by decide +kernel
theorem dX12_reachesIn_144 : decode cX12_reachesIn 144 = .ok (.istore_n 1, 1) := by decide +kernel
theorem dX12_reachesIn_145 : decode cX12_reachesIn 145 = .ok (.iload_n 1, 1) := by decide +kernel
theorem dX12_reachesIn_146 : decode cX12_reachesIn 146 = .ok (.aload_n 0, 1) := by decide +kernel
theorem dX12_reachesIn_147 : decode cX12_reachesIn 147 = .ok (.getfield 146, 3) := by decide +kernel
theorem dX12_reachesIn_150 : decode cX12_reachesIn 150 = .ok (.if_icmp .ge 99, 3) := by decide +kernel
theorem dX12_reachesIn_153 : decode cX12_reachesIn 153 = .ok (.iconst 0, 1) := by decide +kernel
theorem dX12_reachesIn_154 : decode cX12_reachesIn 154 = .ok (.istore_n 2, 1) := by decide +kernel
theorem dX12_reachesIn_155 : decode cX12_reachesIn 155 = .ok (.iload_n 2, 1) := by decide +kernel
theorem dX12_reachesIn_156 : decode cX12_reachesIn 156 = .ok (.aload_n 0, 1) := by decide +kernel
theorem dX12_reachesIn_157 : decode cX12_reachesIn 157 = .ok (.getfield 146, 3) := by decide +kernel
theorem dX12_reachesIn_160 : decode cX12_reachesIn 160 = .ok (.if_icmp .ge 83, 3) := by decide +kernel
theorem dX12_reachesIn_163 : decode cX12_reachesIn 163 = .ok (.iconst 0, 1) := by decide +kernel
theorem dX12_reachesIn_164 : decode cX12_reachesIn 164 = .ok (.istore_n 3, 1) := by decide +kernel
theorem dX12_reachesIn_165 : decode cX12_reachesIn 165 = .ok (.iload_n 3, 1) := by decide +kernel
theorem dX12_reachesIn_166 : decode cX12_reachesIn 166 = .ok (.aload_n 0, 1) := by decide +kernel
theorem dX12_reachesIn_167 : decode cX12_reachesIn 167 = .ok (.getfield 146, 3) := by decide +kernel
theorem dX12_reachesIn_170 : decode cX12_reachesIn 170 = .ok (.if_icmp .ge 67, 3) := by decide +kernel
theorem dX12_reachesIn_173 : decode cX12_reachesIn 173 = .ok (.aload_n 0, 1) := by decide +kernel
theorem dX12_reachesIn_174 : decode cX12_reachesIn 174 = .ok (.getfield 87, 3) := by decide +kernel
theorem dX12_reachesIn_177 : decode cX12_reachesIn 177 = .ok (.bipush 7, 2) := by decide +kernel
theorem dX12_reachesIn_179 : decode cX12_reachesIn 179 = .ok (.iload_n 2, 1) := by decide +kernel
theorem dX12_reachesIn_180 : decode cX12_reachesIn 180 = .ok (.imul, 1) := by decide +kernel
theorem dX12_reachesIn_181 : decode cX12_reachesIn 181 = .ok (.iload_n 3, 1) := by decide +kernel
theorem dX12_reachesIn_182 : decode cX12_reachesIn 182 = .ok (.iadd, 1) := by decide +kernel
theorem dX12_reachesIn_183 : decode cX12_reachesIn 183 = .ok (.aload_n 0, 1) := by decide +kernel
theorem dX12_reachesIn_184 : decode cX12_reachesIn 184 = .ok (.getfield 87, 3) := by decide +kernel
theorem dX12_reachesIn_187 : decode cX12_reachesIn 187 = .ok (.bipush 7, 2) := by decide +kernel
theorem dX12_reachesIn_189 : decode cX12_reachesIn 189 = .ok (.iload_n 2, 1) := by decide +kernel
theorem dX12_reachesIn_190 : decode cX12_reachesIn 190 = .ok (.imul, 1) := by decide +kernel
theorem dX12_reachesIn_191 : decode cX12_reachesIn 191 = .ok (.iload_n 3, 1) := by decide +kernel
theorem dX12_reachesIn_192 : decode cX12_reachesIn 192 = .ok (.iadd, 1) := by decide +kernel
theorem dX12_reachesIn_193 : decode cX12_reachesIn 193 = .ok (.baload, 1) := by decide +kernel
theorem dX12_reachesIn_194 : decode cX12_reachesIn 194 = .ok (.ifCond .ne 31, 3) := by decide +kernel
theorem dX12_reachesIn_197 : decode cX12_reachesIn 197 = .ok (.aload_n 0, 1) := by decide +kernel
theorem dX12_reachesIn_198 : decode cX12_reachesIn 198 = .ok (.getfield 87, 3) := by decide +kernel
theorem dX12_reachesIn_201 : decode cX12_reachesIn 201 = .ok (.bipush 7, 2) := by decide +kernel
theorem dX12_reachesIn_203 : decode cX12_reachesIn 203 = .ok (.iload_n 2, 1) := by decide +kernel
theorem dX12_reachesIn_204 : decode cX12_reachesIn 204 = .ok (.imul, 1) := by decide +kernel
theorem dX12_reachesIn_205 : decode cX12_reachesIn 205 = .ok (.iload_n 1, 1) := by decide +kernel
theorem dX12_reachesIn_206 : decode cX12_reachesIn 206 = .ok (.iadd, 1) := by decide +kernel
theorem dX12_reachesIn_207 : decode cX12_reachesIn 207 = .ok (.baload, 1) := by decide +kernel
theorem dX12_reachesIn_208 : decode cX12_reachesIn 208 = .ok (.ifCond .eq 21, 3) := by decide +kernel
theorem dX12_reachesIn_211 : decode cX12_reachesIn 211 = .ok (.aload_n 0, 1) := by decide +kernel
theorem dX12_reachesIn_212 : decode cX12_reachesIn 212 = .ok (.getfield 87, 3) := by decide +kernel
theorem dX12_reachesIn_215 : decode cX12_reachesIn 215 = .ok (.bipush 7, 2) := by decide +kernel
theorem dX12_reachesIn_217 : decode cX12_reachesIn 217 = .ok (.iload_n 1, 1) := by decide +kernel
theorem dX12_reachesIn_218 : decode cX12_reachesIn 218 = .ok (.imul, 1) := by decide +kernel
theorem dX12_reachesIn_219 : decode cX12_reachesIn 219 = .ok (.iload_n 3, 1) := by decide +kernel
theorem dX12_reachesIn_220 : decode cX12_reachesIn 220 = .ok (.iadd, 1) := by decide +kernel
theorem dX12_reachesIn_221 : decode cX12_reachesIn 221 = .ok (.baload, 1) := by decide +kernel
theorem dX12_reachesIn_222 : decode cX12_reachesIn 222 = .ok (.ifCond .eq 7, 3) := by decide +kernel
theorem dX12_reachesIn_225 : decode cX12_reachesIn 225 = .ok (.iconst 1, 1) := by decide +kernel
theorem dX12_reachesIn_226 : decode cX12_reachesIn 226 = .ok (.goto 4, 3) := by decide +kernel
theorem dX12_reachesIn_229 : decode cX12_reachesIn 229 = .ok (.iconst 0, 1) := by decide +kernel
theorem dX12_reachesIn_230 : decode cX12_reachesIn 230 = .ok (.bastore, 1) := by decide +kernel
theorem dX12_reachesIn_231 : decode cX12_reachesIn 231 = .ok (.iinc 3 1, 3) := by decide +kernel
theorem dX12_reachesIn_234 : decode cX12_reachesIn 234 = .ok (.goto (-69), 3) := by decide +kernel
theorem dX12_reachesIn_237 : decode cX12_reachesIn 237 = .ok (.iinc 2 1, 3) := by decide +kernel
theorem dX12_reachesIn_240 : decode cX12_reachesIn 240 = .ok (.goto (-85), 3) := by decide +kernel
theorem dX12_reachesIn_243 : decode cX12_reachesIn 243 = .ok (.iinc 1 1, 3) := by decide +kernel
theorem dX12_reachesIn_246 : decode cX12_reachesIn 246 = .ok (.goto (-101), 3) := by decide +kernel
theorem dX12_reachesIn_249 : decode cX12_reachesIn 249 = .ok (.return_, 1) := by decide +kernel
theorem dX12_isEnd_0 : decode cX12_isEnd 0 = .ok (.aload_n 0, 1) := by decide +kernel
theorem dX12_isEnd_1 : decode cX12_isEnd 1 = .ok (.invokevirtual 300, 3) := by decide +kernel
theorem dX12_isEnd_4 : decode cX12_isEnd 4 = .ok (.iconst 0, 1) := by decide +kernel
theorem dX12_isEnd_5 : decode cX12_isEnd 5 = .ok (.istore_n 1, 1) := by decide +kernel
theorem dX12_isEnd_6 : decode cX12_isEnd 6 = .ok (.iload_n 1, 1) := by decide +kernel
theorem dX12_isEnd_7 : decode cX12_isEnd 7 = .ok (.aload_n 0, 1) := by decide +kernel
theorem dX12_isEnd_8 : decode cX12_isEnd 8 = .ok (.getfield 146, 3) := by decide +kernel
theorem dX12_isEnd_11 : decode cX12_isEnd 11 = .ok (.if_icmp .ge 59, 3) := by decide +kernel
theorem dX12_isEnd_14 : decode cX12_isEnd 14 = .ok (.iconst 0, 1) := by decide +kernel
theorem dX12_isEnd_15 : decode cX12_isEnd 15 = .ok (.istore_n 2, 1) := by decide +kernel
theorem dX12_isEnd_16 : decode cX12_isEnd 16 = .ok (.iload_n 2, 1) := by decide +kernel
theorem dX12_isEnd_17 : decode cX12_isEnd 17 = .ok (.aload_n 0, 1) := by decide +kernel
theorem dX12_isEnd_18 : decode cX12_isEnd 18 = .ok (.getfield 146, 3) := by decide +kernel
theorem dX12_isEnd_21 : decode cX12_isEnd 21 = .ok (.if_icmp .ge 43, 3) := by decide +kernel
theorem dX12_isEnd_24 : decode cX12_isEnd 24 = .ok (.aload_n 0, 1) := by decide +kernel
theorem dX12_isEnd_25 : decode cX12_isEnd 25 = .ok (.getfield 44, 3) := by decide +kernel
theorem dX12_isEnd_28 : decode cX12_isEnd 28 = .ok (.iload_n 1, 1) := by decide +kernel
theorem dX12_isEnd_29 : decode cX12_isEnd 29 = .ok (.baload, 1) := by decide +kernel
theorem dX12_isEnd_30 : decode cX12_isEnd 30 = .ok (.ifCond .eq 28, 3) := by decide +kernel
theorem dX12_isEnd_33 : decode cX12_isEnd 33 = .ok (.aload_n 0, 1) := by decide +kernel
theorem dX12_isEnd_34 : decode cX12_isEnd 34 = .ok (.getfield 44, 3) := by decide +kernel
theorem dX12_isEnd_37 : decode cX12_isEnd 37 = .ok (.iload_n 2, 1) := by decide +kernel
theorem dX12_isEnd_38 : decode cX12_isEnd 38 = .ok (.baload, 1) := by decide +kernel
theorem dX12_isEnd_39 : decode cX12_isEnd 39 = .ok (.ifCond .eq 19, 3) := by decide +kernel
theorem dX12_isEnd_42 : decode cX12_isEnd 42 = .ok (.aload_n 0, 1) := by decide +kernel
theorem dX12_isEnd_43 : decode cX12_isEnd 43 = .ok (.getfield 87, 3) := by decide +kernel
theorem dX12_isEnd_46 : decode cX12_isEnd 46 = .ok (.bipush 7, 2) := by decide +kernel
theorem dX12_isEnd_48 : decode cX12_isEnd 48 = .ok (.iload_n 1, 1) := by decide +kernel
theorem dX12_isEnd_49 : decode cX12_isEnd 49 = .ok (.imul, 1) := by decide +kernel
theorem dX12_isEnd_50 : decode cX12_isEnd 50 = .ok (.iload_n 2, 1) := by decide +kernel
theorem dX12_isEnd_51 : decode cX12_isEnd 51 = .ok (.iadd, 1) := by decide +kernel
theorem dX12_isEnd_52 : decode cX12_isEnd 52 = .ok (.baload, 1) := by decide +kernel
theorem dX12_isEnd_53 : decode cX12_isEnd 53 = .ok (.ifCond .ne 5, 3) := by decide +kernel
theorem dX12_isEnd_56 : decode cX12_isEnd 56 = .ok (.iconst 0, 1) := by decide +kernel
theorem dX12_isEnd_57 : decode cX12_isEnd 57 = .ok (.ireturn, 1) := by decide +kernel
theorem dX12_isEnd_58 : decode cX12_isEnd 58 = .ok (.iinc 2 1, 3) := by decide +kernel
theorem dX12_isEnd_61 : decode cX12_isEnd 61 = .ok (.goto (-45), 3) := by decide +kernel
theorem dX12_isEnd_64 : decode cX12_isEnd 64 = .ok (.iinc 1 1, 3) := by decide +kernel
theorem dX12_isEnd_67 : decode cX12_isEnd 67 = .ok (.goto (-61), 3) := by decide +kernel
theorem dX12_isEnd_70 : decode cX12_isEnd 70 = .ok (.iconst 1, 1) := by decide +kernel
theorem dX12_isEnd_71 : decode cX12_isEnd 71 = .ok (.ireturn, 1) := by decide +kernel
theorem dX12_endOf_0 : decode cX12_endOf 0 = .ok (.aload_n 0, 1) := by decide +kernel
theorem dX12_endOf_1 : decode cX12_endOf 1 = .ok (.iload_n 1, 1) := by decide +kernel
theorem dX12_endOf_2 : decode cX12_endOf 2 = .ok (.invokevirtual 270, 3) := by decide +kernel
theorem dX12_endOf_5 : decode cX12_endOf 5 = .ok (.ifCond .ne 5, 3) := by decide +kernel
theorem dX12_endOf_8 : decode cX12_endOf 8 = .ok (.iconst 0, 1) := by decide +kernel
theorem dX12_endOf_9 : decode cX12_endOf 9 = .ok (.ireturn, 1) := by decide +kernel
theorem dX12_endOf_10 : decode cX12_endOf 10 = .ok (.iconst (-1), 1) := by decide +kernel
theorem dX12_endOf_11 : decode cX12_endOf 11 = .ok (.istore_n 2, 1) := by decide +kernel
theorem dX12_endOf_12 : decode cX12_endOf 12 = .ok (.iconst 1, 1) := by decide +kernel
theorem dX12_endOf_13 : decode cX12_endOf 13 = .ok (.istore_n 3, 1) := by decide +kernel
theorem dX12_endOf_14 : decode cX12_endOf 14 = .ok (.iload_n 3, 1) := by decide +kernel
theorem dX12_endOf_15 : decode cX12_endOf 15 = .ok (.iconst 1, 1) := by decide +kernel
theorem dX12_endOf_16 : decode cX12_endOf 16 = .ok (.aload_n 0, 1) := by decide +kernel
theorem dX12_endOf_17 : decode cX12_endOf 17 = .ok (.getfield 146, 3) := by decide +kernel
theorem dX12_endOf_20 : decode cX12_endOf 20 = .ok (.ishl, 1) := by decide +kernel
theorem dX12_endOf_21 : decode cX12_endOf 21 = .ok (.if_icmp .ge 107, 3) := by decide +kernel
theorem dX12_endOf_24 : decode cX12_endOf 24 = .ok (.iload_n 3, 1) := by decide +kernel
theorem dX12_endOf_25 : decode cX12_endOf 25 = .ok (.iload_n 1, 1) := by decide +kernel
theorem dX12_endOf_26 : decode cX12_endOf 26 = .ok (.ishr, 1) := by decide +kernel
theorem dX12_endOf_27 : decode cX12_endOf 27 = .ok (.iconst 1, 1) := by decide +kernel
theorem dX12_endOf_28 : decode cX12_endOf 28 = .ok (.iand, 1) := by decide +kernel
theorem dX12_endOf_29 : decode cX12_endOf 29 = .ok (.ifCond .ne 6, 3) := by decide +kernel
theorem dX12_endOf_32 : decode cX12_endOf 32 = .ok (.goto 90, 3) := by decide +kernel
theorem dX12_endOf_35 : decode cX12_endOf 35 = .ok (.iconst 0, 1) := by decide +kernel
theorem dX12_endOf_36 : decode cX12_endOf 36 = .ok (.istore 4, 2) := by decide +kernel
theorem dX12_endOf_38 : decode cX12_endOf 38 = .ok (.iload 4, 2) := by decide +kernel
theorem dX12_endOf_40 : decode cX12_endOf 40 = .ok (.aload_n 0, 1) := by decide +kernel
theorem dX12_endOf_41 : decode cX12_endOf 41 = .ok (.getfield 146, 3) := by decide +kernel
theorem dX12_endOf_44 : decode cX12_endOf 44 = .ok (.if_icmp .ge 31, 3) := by decide +kernel
theorem dX12_endOf_47 : decode cX12_endOf 47 = .ok (.aload_n 0, 1) := by decide +kernel
theorem dX12_endOf_48 : decode cX12_endOf 48 = .ok (.getfield 44, 3) := by decide +kernel
theorem dX12_endOf_51 : decode cX12_endOf 51 = .ok (.iload 4, 2) := by decide +kernel
theorem dX12_endOf_53 : decode cX12_endOf 53 = .ok (.iload_n 3, 1) := by decide +kernel
theorem dX12_endOf_54 : decode cX12_endOf 54 = .ok (.iload 4, 2) := by decide +kernel
theorem dX12_endOf_56 : decode cX12_endOf 56 = .ok (.ishr, 1) := by decide +kernel
theorem dX12_endOf_57 : decode cX12_endOf 57 = .ok (.iconst 1, 1) := by decide +kernel
theorem dX12_endOf_58 : decode cX12_endOf 58 = .ok (.iand, 1) := by decide +kernel
theorem dX12_endOf_59 : decode cX12_endOf 59 = .ok (.iconst 1, 1) := by decide +kernel
theorem dX12_endOf_60 : decode cX12_endOf 60 = .ok (.if_icmp .ne 7, 3) := by decide +kernel
theorem dX12_endOf_63 : decode cX12_endOf 63 = .ok (.iconst 1, 1) := by decide +kernel
theorem dX12_endOf_64 : decode cX12_endOf 64 = .ok (.goto 4, 3) := by decide +kernel
theorem dX12_endOf_67 : decode cX12_endOf 67 = .ok (.iconst 0, 1) := by decide +kernel
theorem dX12_endOf_68 : decode cX12_endOf 68 = .ok (.bastore, 1) := by decide +kernel
theorem dX12_endOf_69 : decode cX12_endOf 69 = .ok (.iinc 4 1, 3) := by decide +kernel
theorem dX12_endOf_72 : decode cX12_endOf 72 = .ok (.goto (-34), 3) := by decide +kernel
theorem dX12_endOf_75 : decode cX12_endOf 75 = .ok (.aload_n 0, 1) := by decide +kernel
theorem dX12_endOf_76 : decode cX12_endOf 76 = .ok (.invokevirtual 303, 3) := by decide +kernel
theorem dX12_endOf_79 : decode cX12_endOf 79 = .ok (.ifCond .ne 6, 3) := by decide +kernel
theorem dX12_endOf_82 : decode cX12_endOf 82 = .ok (.goto 40, 3) := by decide +kernel
theorem dX12_endOf_85 : decode cX12_endOf 85 = .ok (.iconst 0, 1) := by decide +kernel
theorem dX12_endOf_86 : decode cX12_endOf 86 = .ok (.istore 4, 2) := by decide +kernel
theorem dX12_endOf_88 : decode cX12_endOf 88 = .ok (.aload_n 0, 1) := by decide +kernel
theorem dX12_endOf_89 : decode cX12_endOf 89 = .ok (.getfield 44, 3) := by decide +kernel
theorem dX12_endOf_92 : decode cX12_endOf 92 = .ok (.iload 4, 2) := by decide +kernel
theorem dX12_endOf_94 : decode cX12_endOf 94 = .ok (.baload, 1) := by decide +kernel
theorem dX12_endOf_95 : decode cX12_endOf 95 = .ok (.ifCond .ne 9, 3) := by decide +kernel
theorem dX12_endOf_98 : decode cX12_endOf 98 = .ok (.iinc 4 1, 3) := by decide +kernel
theorem dX12_endOf_101 : decode cX12_endOf 101 = .ok (.goto (-13), 3) := by decide +kernel
theorem dX12_endOf_104 : decode cX12_endOf 104 = .ok (.iload_n 2, 1) := by decide +kernel
theorem dX12_endOf_105 : decode cX12_endOf 105 = .ok (.iconst (-1), 1) := by decide +kernel
theorem dX12_endOf_106 : decode cX12_endOf 106 = .ok (.if_icmp .eq 9, 3) := by decide +kernel
theorem dX12_endOf_109 : decode cX12_endOf 109 = .ok (.iload 4, 2) := by decide +kernel
theorem dX12_endOf_111 : decode cX12_endOf 111 = .ok (.iload_n 2, 1) := by decide +kernel
theorem dX12_endOf_112 : decode cX12_endOf 112 = .ok (.if_icmp .ge 8, 3) := by decide +kernel
theorem dX12_endOf_115 : decode cX12_endOf 115 = .ok (.iload 4, 2) := by decide +kernel
theorem dX12_endOf_117 : decode cX12_endOf 117 = .ok (.goto 4, 3) := by decide +kernel
theorem dX12_endOf_120 : decode cX12_endOf 120 = .ok (.iload_n 2, 1) := by decide +kernel
theorem dX12_endOf_121 : decode cX12_endOf 121 = .ok (.istore_n 2, 1) := by decide +kernel
theorem dX12_endOf_122 : decode cX12_endOf 122 = .ok (.iinc 3 1, 3) := by decide +kernel
theorem dX12_endOf_125 : decode cX12_endOf 125 = .ok (.goto (-111), 3) := by decide +kernel
theorem dX12_endOf_128 : decode cX12_endOf 128 = .ok (.iload_n 2, 1) := by decide +kernel
theorem dX12_endOf_129 : decode cX12_endOf 129 = .ok (.iconst (-1), 1) := by decide +kernel
theorem dX12_endOf_130 : decode cX12_endOf 130 = .ok (.if_icmp .ne 11, 3) := by decide +kernel
theorem dX12_endOf_133 : decode cX12_endOf 133 = .ok (.aload_n 0, 1) := by decide +kernel
theorem dX12_endOf_134 : decode cX12_endOf 134 = .ok (.iconst 3, 1) := by decide +kernel
theorem dX12_endOf_135 : decode cX12_endOf 135 = .ok (.invokevirtual 235, 3) := by decide +kernel
theorem dX12_endOf_138 : decode cX12_endOf 138 = .ok (.goto 4, 3) := by decide +kernel
theorem dX12_endOf_141 : decode cX12_endOf 141 = .ok (.iload_n 2, 1) := by decide +kernel
theorem dX12_endOf_142 : decode cX12_endOf 142 = .ok (.ireturn, 1) := by decide +kernel
theorem dX12_weightInto_0 : decode cX12_weightInto 0 = .ok (.iconst 0, 1) := by decide +kernel
theorem dX12_weightInto_1 : decode cX12_weightInto 1 = .ok (.istore_n 3, 1) := by decide +kernel
theorem dX12_weightInto_2 : decode cX12_weightInto 2 = .ok (.iconst 0, 1) := by decide +kernel
theorem dX12_weightInto_3 : decode cX12_weightInto 3 = .ok (.istore 4, 2) := by decide +kernel
theorem dX12_weightInto_5 : decode cX12_weightInto 5 = .ok (.iload 4, 2) := by decide +kernel
theorem dX12_weightInto_7 : decode cX12_weightInto 7 = .ok (.aload_n 0, 1) := by decide +kernel
theorem dX12_weightInto_8 : decode cX12_weightInto 8 = .ok (.getfield 146, 3) := by decide +kernel
theorem dX12_weightInto_11 : decode cX12_weightInto 11 = .ok (.if_icmp .ge 39, 3) := by decide +kernel
theorem dX12_weightInto_14 : decode cX12_weightInto 14 = .ok (.iload_n 3, 1) := by decide +kernel
theorem dX12_weightInto_15 : decode cX12_weightInto 15 = .ok (.aload_n 0, 1) := by decide +kernel
theorem dX12_weightInto_16 : decode cX12_weightInto 16 = .ok (.getfield 90, 3) := by decide +kernel
theorem dX12_weightInto_19 : decode cX12_weightInto 19 = .ok (.iload 4, 2) := by decide +kernel
theorem dX12_weightInto_21 : decode cX12_weightInto 21 = .ok (.iaload, 1) := by decide +kernel
theorem dX12_weightInto_22 : decode cX12_weightInto 22 = .ok (.iload_n 2, 1) := by decide +kernel
theorem dX12_weightInto_23 : decode cX12_weightInto 23 = .ok (.if_icmp .ne 18, 3) := by decide +kernel
theorem dX12_weightInto_26 : decode cX12_weightInto 26 = .ok (.aload_n 0, 1) := by decide +kernel
theorem dX12_weightInto_27 : decode cX12_weightInto 27 = .ok (.getfield 37, 3) := by decide +kernel
theorem dX12_weightInto_30 : decode cX12_weightInto 30 = .ok (.bipush 7, 2) := by decide +kernel
theorem dX12_weightInto_32 : decode cX12_weightInto 32 = .ok (.iload_n 1, 1) := by decide +kernel
theorem dX12_weightInto_33 : decode cX12_weightInto 33 = .ok (.imul, 1) := by decide +kernel
theorem dX12_weightInto_34 : decode cX12_weightInto 34 = .ok (.iload 4, 2) := by decide +kernel
theorem dX12_weightInto_36 : decode cX12_weightInto 36 = .ok (.iadd, 1) := by decide +kernel
theorem dX12_weightInto_37 : decode cX12_weightInto 37 = .ok (.iaload, 1) := by decide +kernel
theorem dX12_weightInto_38 : decode cX12_weightInto 38 = .ok (.goto 4, 3) := by decide +kernel
theorem dX12_weightInto_41 : decode cX12_weightInto 41 = .ok (.iconst 0, 1) := by decide +kernel
theorem dX12_weightInto_42 : decode cX12_weightInto 42 = .ok (.iadd, 1) := by decide +kernel
theorem dX12_weightInto_43 : decode cX12_weightInto 43 = .ok (.istore_n 3, 1) := by decide +kernel
theorem dX12_weightInto_44 : decode cX12_weightInto 44 = .ok (.iinc 4 1, 3) := by decide +kernel
theorem dX12_weightInto_47 : decode cX12_weightInto 47 = .ok (.goto (-42), 3) := by decide +kernel
theorem dX12_weightInto_50 : decode cX12_weightInto 50 = .ok (.iload_n 3, 1) := by decide +kernel
theorem dX12_weightInto_51 : decode cX12_weightInto 51 = .ok (.ireturn, 1) := by decide +kernel
theorem dX12_isLikeChoice_0 : decode cX12_isLikeChoice 0 = .ok (.aload_n 0, 1) := by decide +kernel
theorem dX12_isLikeChoice_1 : decode cX12_isLikeChoice 1 = .ok (.getfield 28, 3) := by decide +kernel
theorem dX12_isLikeChoice_4 : decode cX12_isLikeChoice 4 = .ok (.iload_n 1, 1) := by decide +kernel
theorem dX12_isLikeChoice_5 : decode cX12_isLikeChoice 5 = .ok (.iaload, 1) := by decide +kernel
theorem dX12_isLikeChoice_6 : decode cX12_isLikeChoice 6 = .ok (.aload_n 0, 1) := by decide +kernel
theorem dX12_isLikeChoice_7 : decode cX12_isLikeChoice 7 = .ok (.getfield 28, 3) := by decide +kernel
theorem dX12_isLikeChoice_10 : decode cX12_isLikeChoice 10 = .ok (.iload_n 2, 1) := by decide +kernel
theorem dX12_isLikeChoice_11 : decode cX12_isLikeChoice 11 = .ok (.iaload, 1) := by decide +kernel
theorem dX12_isLikeChoice_12 : decode cX12_isLikeChoice 12 = .ok (.if_icmp .ne 18, 3) := by decide +kernel
theorem dX12_isLikeChoice_15 : decode cX12_isLikeChoice 15 = .ok (.aload_n 0, 1) := by decide +kernel
theorem dX12_isLikeChoice_16 : decode cX12_isLikeChoice 16 = .ok (.getfield 31, 3) := by decide +kernel
theorem dX12_isLikeChoice_19 : decode cX12_isLikeChoice 19 = .ok (.iload_n 1, 1) := by decide +kernel
theorem dX12_isLikeChoice_20 : decode cX12_isLikeChoice 20 = .ok (.iaload, 1) := by decide +kernel
theorem dX12_isLikeChoice_21 : decode cX12_isLikeChoice 21 = .ok (.aload_n 0, 1) := by decide +kernel
theorem dX12_isLikeChoice_22 : decode cX12_isLikeChoice 22 = .ok (.getfield 31, 3) := by decide +kernel
theorem dX12_isLikeChoice_25 : decode cX12_isLikeChoice 25 = .ok (.iload_n 2, 1) := by decide +kernel
theorem dX12_isLikeChoice_26 : decode cX12_isLikeChoice 26 = .ok (.iaload, 1) := by decide +kernel
theorem dX12_isLikeChoice_27 : decode cX12_isLikeChoice 27 = .ok (.if_icmp .eq 5, 3) := by decide +kernel
theorem dX12_isLikeChoice_30 : decode cX12_isLikeChoice 30 = .ok (.iconst 0, 1) := by decide +kernel
theorem dX12_isLikeChoice_31 : decode cX12_isLikeChoice 31 = .ok (.ireturn, 1) := by decide +kernel
theorem dX12_isLikeChoice_32 : decode cX12_isLikeChoice 32 = .ok (.iconst 0, 1) := by decide +kernel
theorem dX12_isLikeChoice_33 : decode cX12_isLikeChoice 33 = .ok (.istore_n 3, 1) := by decide +kernel
theorem dX12_isLikeChoice_34 : decode cX12_isLikeChoice 34 = .ok (.iload_n 3, 1) := by decide +kernel
theorem dX12_isLikeChoice_35 : decode cX12_isLikeChoice 35 = .ok (.aload_n 0, 1) := by decide +kernel
theorem dX12_isLikeChoice_36 : decode cX12_isLikeChoice 36 = .ok (.getfield 146, 3) := by decide +kernel
theorem dX12_isLikeChoice_39 : decode cX12_isLikeChoice 39 = .ok (.if_icmp .ge 40, 3) := by decide +kernel
theorem dX12_isLikeChoice_42 : decode cX12_isLikeChoice 42 = .ok (.aload_n 0, 1) := by decide +kernel
theorem dX12_isLikeChoice_43 : decode cX12_isLikeChoice 43 = .ok (.iload_n 1, 1) := by decide +kernel
theorem dX12_isLikeChoice_44 : decode cX12_isLikeChoice 44 = .ok (.iload_n 3, 1) := by decide +kernel
theorem dX12_isLikeChoice_45 : decode cX12_isLikeChoice 45 = .ok (.invokevirtual 306, 3) := by decide +kernel
theorem dX12_isLikeChoice_48 : decode cX12_isLikeChoice 48 = .ok (.aload_n 0, 1) := by decide +kernel
theorem dX12_isLikeChoice_49 : decode cX12_isLikeChoice 49 = .ok (.getfield 34, 3) := by decide +kernel
theorem dX12_isLikeChoice_52 : decode cX12_isLikeChoice 52 = .ok (.iload_n 2, 1) := by decide +kernel
theorem dX12_isLikeChoice_53 : decode cX12_isLikeChoice 53 = .ok (.iaload, 1) := by decide +kernel
theorem dX12_isLikeChoice_54 : decode cX12_isLikeChoice 54 = .ok (.imul, 1) := by decide +kernel
theorem dX12_isLikeChoice_55 : decode cX12_isLikeChoice 55 = .ok (.aload_n 0, 1) := by decide +kernel
theorem dX12_isLikeChoice_56 : decode cX12_isLikeChoice 56 = .ok (.iload_n 2, 1) := by decide +kernel
theorem dX12_isLikeChoice_57 : decode cX12_isLikeChoice 57 = .ok (.iload_n 3, 1) := by decide +kernel
theorem dX12_isLikeChoice_58 : decode cX12_isLikeChoice 58 = .ok (.invokevirtual 306, 3) := by decide +kernel
theorem dX12_isLikeChoice_61 : decode cX12_isLikeChoice 61 = .ok (.aload_n 0, 1) := by decide +kernel
theorem dX12_isLikeChoice_62 : decode cX12_isLikeChoice 62 = .ok (.getfield 34, 3) := by decide +kernel
theorem dX12_isLikeChoice_65 : decode cX12_isLikeChoice 65 = .ok (.iload_n 1, 1) := by decide +kernel
theorem dX12_isLikeChoice_66 : decode cX12_isLikeChoice 66 = .ok (.iaload, 1) := by decide +kernel
theorem dX12_isLikeChoice_67 : decode cX12_isLikeChoice 67 = .ok (.imul, 1) := by decide +kernel
theorem dX12_isLikeChoice_68 : decode cX12_isLikeChoice 68 = .ok (.if_icmp .eq 5, 3) := by decide +kernel
theorem dX12_isLikeChoice_71 : decode cX12_isLikeChoice 71 = .ok (.iconst 0, 1) := by decide +kernel
theorem dX12_isLikeChoice_72 : decode cX12_isLikeChoice 72 = .ok (.ireturn, 1) := by decide +kernel
theorem dX12_isLikeChoice_73 : decode cX12_isLikeChoice 73 = .ok (.iinc 3 1, 3) := by decide +kernel
theorem dX12_isLikeChoice_76 : decode cX12_isLikeChoice 76 = .ok (.goto (-42), 3) := by decide +kernel
theorem dX12_isLikeChoice_79 : decode cX12_isLikeChoice 79 = .ok (.iconst 1, 1) := by decide +kernel
theorem dX12_isLikeChoice_80 : decode cX12_isLikeChoice 80 = .ok (.ireturn, 1) := by decide +kernel
theorem dX12_follows_0 : decode cX12_follows 0 = .ok (.iconst 0, 1) := by decide +kernel
theorem dX12_follows_1 : decode cX12_follows 1 = .ok (.istore_n 3, 1) := by decide +kernel
theorem dX12_follows_2 : decode cX12_follows 2 = .ok (.iload_n 3, 1) := by decide +kernel
theorem dX12_follows_3 : decode cX12_follows 3 = .ok (.aload_n 0, 1) := by decide +kernel
theorem dX12_follows_4 : decode cX12_follows 4 = .ok (.getfield 16, 3) := by decide +kernel
theorem dX12_follows_7 : decode cX12_follows 7 = .ok (.iload_n 1, 1) := by decide +kernel
theorem dX12_follows_8 : decode cX12_follows 8 = .ok (.iaload, 1) := by decide +kernel
theorem dX12_follows_9 : decode cX12_follows 9 = .ok (.if_icmp .ge 69, 3) := by decide +kernel
theorem dX12_follows_12 : decode cX12_follows 12 = .ok (.iconst 0, 1) := by decide +kernel
theorem dX12_follows_13 : decode cX12_follows 13 = .ok (.istore 4, 2) := by decide +kernel
theorem dX12_follows_15 : decode cX12_follows 15 = .ok (.iconst 0, 1) := by decide +kernel
theorem dX12_follows_16 : decode cX12_follows 16 = .ok (.istore 5, 2) := by decide +kernel
theorem dX12_follows_18 : decode cX12_follows 18 = .ok (.iload 5, 2) := by decide +kernel
theorem dX12_follows_20 : decode cX12_follows 20 = .ok (.aload_n 0, 1) := by decide +kernel
theorem dX12_follows_21 : decode cX12_follows 21 = .ok (.getfield 16, 3) := by decide +kernel
theorem dX12_follows_24 : decode cX12_follows 24 = .ok (.iload_n 2, 1) := by decide +kernel
theorem dX12_follows_25 : decode cX12_follows 25 = .ok (.iaload, 1) := by decide +kernel
theorem dX12_follows_26 : decode cX12_follows 26 = .ok (.if_icmp .ge 39, 3) := by decide +kernel
theorem dX12_follows_29 : decode cX12_follows 29 = .ok (.iload 4, 2) := by decide +kernel
theorem dX12_follows_31 : decode cX12_follows 31 = .ok (.ifCond .ne 21, 3) := by decide +kernel
theorem dX12_follows_34 : decode cX12_follows 34 = .ok (.aload_n 0, 1) := by decide +kernel
theorem dX12_follows_35 : decode cX12_follows 35 = .ok (.iconst 3, 1) := by decide +kernel
theorem dX12_follows_36 : decode cX12_follows 36 = .ok (.iload_n 1, 1) := by decide +kernel
theorem dX12_follows_37 : decode cX12_follows 37 = .ok (.imul, 1) := by decide +kernel
theorem dX12_follows_38 : decode cX12_follows 38 = .ok (.iload_n 3, 1) := by decide +kernel
theorem dX12_follows_39 : decode cX12_follows 39 = .ok (.iadd, 1) := by decide +kernel
theorem dX12_follows_40 : decode cX12_follows 40 = .ok (.iconst 3, 1) := by decide +kernel
theorem dX12_follows_41 : decode cX12_follows 41 = .ok (.iload_n 2, 1) := by decide +kernel
theorem dX12_follows_42 : decode cX12_follows 42 = .ok (.imul, 1) := by decide +kernel
theorem dX12_follows_43 : decode cX12_follows 43 = .ok (.iload 5, 2) := by decide +kernel
theorem dX12_follows_45 : decode cX12_follows 45 = .ok (.iadd, 1) := by decide +kernel
theorem dX12_follows_46 : decode cX12_follows 46 = .ok (.invokevirtual 309, 3) := by decide +kernel
theorem dX12_follows_49 : decode cX12_follows 49 = .ok (.ifCond .eq 7, 3) := by decide +kernel
theorem dX12_follows_52 : decode cX12_follows 52 = .ok (.iconst 1, 1) := by decide +kernel
theorem dX12_follows_53 : decode cX12_follows 53 = .ok (.goto 4, 3) := by decide +kernel
theorem dX12_follows_56 : decode cX12_follows 56 = .ok (.iconst 0, 1) := by decide +kernel
theorem dX12_follows_57 : decode cX12_follows 57 = .ok (.istore 4, 2) := by decide +kernel
theorem dX12_follows_59 : decode cX12_follows 59 = .ok (.iinc 5 1, 3) := by decide +kernel
theorem dX12_follows_62 : decode cX12_follows 62 = .ok (.goto (-44), 3) := by decide +kernel
theorem dX12_follows_65 : decode cX12_follows 65 = .ok (.iload 4, 2) := by decide +kernel
theorem dX12_follows_67 : decode cX12_follows 67 = .ok (.ifCond .ne 5, 3) := by decide +kernel
theorem dX12_follows_70 : decode cX12_follows 70 = .ok (.iconst 0, 1) := by decide +kernel
theorem dX12_follows_71 : decode cX12_follows 71 = .ok (.ireturn, 1) := by decide +kernel
theorem dX12_follows_72 : decode cX12_follows 72 = .ok (.iinc 3 1, 3) := by decide +kernel
theorem dX12_follows_75 : decode cX12_follows 75 = .ok (.goto (-73), 3) := by decide +kernel
theorem dX12_follows_78 : decode cX12_follows 78 = .ok (.iconst 1, 1) := by decide +kernel
theorem dX12_follows_79 : decode cX12_follows 79 = .ok (.ireturn, 1) := by decide +kernel
theorem dX12_groups_0 : decode cX12_groups 0 = .ok (.iconst 0, 1) := by decide +kernel
theorem dX12_groups_1 : decode cX12_groups 1 = .ok (.istore_n 1, 1) := by decide +kernel
theorem dX12_groups_2 : decode cX12_groups 2 = .ok (.iload_n 1, 1) := by decide +kernel
theorem dX12_groups_3 : decode cX12_groups 3 = .ok (.aload_n 0, 1) := by decide +kernel
theorem dX12_groups_4 : decode cX12_groups 4 = .ok (.getfield 146, 3) := by decide +kernel
theorem dX12_groups_7 : decode cX12_groups 7 = .ok (.if_icmp .ge 82, 3) := by decide +kernel
theorem dX12_groups_10 : decode cX12_groups 10 = .ok (.aload_n 0, 1) := by decide +kernel
theorem dX12_groups_11 : decode cX12_groups 11 = .ok (.getfield 90, 3) := by decide +kernel
theorem dX12_groups_14 : decode cX12_groups 14 = .ok (.iload_n 1, 1) := by decide +kernel
theorem dX12_groups_15 : decode cX12_groups 15 = .ok (.iload_n 1, 1) := by decide +kernel
theorem dX12_groups_16 : decode cX12_groups 16 = .ok (.iastore, 1) := by decide +kernel
theorem dX12_groups_17 : decode cX12_groups 17 = .ok (.iload_n 1, 1) := by decide +kernel
theorem dX12_groups_18 : decode cX12_groups 18 = .ok (.iconst 1, 1) := by decide +kernel
theorem dX12_groups_19 : decode cX12_groups 19 = .ok (.isub, 1) := by decide +kernel
theorem dX12_groups_20 : decode cX12_groups 20 = .ok (.istore_n 2, 1) := by decide +kernel
theorem dX12_groups_21 : decode cX12_groups 21 = .ok (.iload_n 2, 1) := by decide +kernel
theorem dX12_groups_22 : decode cX12_groups 22 = .ok (.ifCond .lt 61, 3) := by decide +kernel
theorem dX12_groups_25 : decode cX12_groups 25 = .ok (.aload_n 0, 1) := by decide +kernel
theorem dX12_groups_26 : decode cX12_groups 26 = .ok (.getfield 7, 3) := by decide +kernel
theorem dX12_groups_29 : decode cX12_groups 29 = .ok (.iload_n 1, 1) := by decide +kernel
theorem dX12_groups_30 : decode cX12_groups 30 = .ok (.iaload, 1) := by decide +kernel
theorem dX12_groups_31 : decode cX12_groups 31 = .ok (.aload_n 0, 1) := by decide +kernel
theorem dX12_groups_32 : decode cX12_groups 32 = .ok (.getfield 7, 3) := by decide +kernel
theorem dX12_groups_35 : decode cX12_groups 35 = .ok (.iload_n 2, 1) := by decide +kernel
theorem dX12_groups_36 : decode cX12_groups 36 = .ok (.iaload, 1) := by decide +kernel
theorem dX12_groups_37 : decode cX12_groups 37 = .ok (.if_icmp .ne 40, 3) := by decide +kernel
theorem dX12_groups_40 : decode cX12_groups 40 = .ok (.aload_n 0, 1) := by decide +kernel
theorem dX12_groups_41 : decode cX12_groups 41 = .ok (.getfield 13, 3) := by decide +kernel
theorem dX12_groups_44 : decode cX12_groups 44 = .ok (.iload_n 1, 1) := by decide +kernel
theorem dX12_groups_45 : decode cX12_groups 45 = .ok (.iaload, 1) := by decide +kernel
theorem dX12_groups_46 : decode cX12_groups 46 = .ok (.aload_n 0, 1) := by decide +kernel
theorem dX12_groups_47 : decode cX12_groups 47 = .ok (.getfield 13, 3) := by decide +kernel
theorem dX12_groups_50 : decode cX12_groups 50 = .ok (.iload_n 2, 1) := by decide +kernel
theorem dX12_groups_51 : decode cX12_groups 51 = .ok (.iaload, 1) := by decide +kernel
theorem dX12_groups_52 : decode cX12_groups 52 = .ok (.if_icmp .ne 25, 3) := by decide +kernel
theorem dX12_groups_55 : decode cX12_groups 55 = .ok (.aload_n 0, 1) := by decide +kernel
theorem dX12_groups_56 : decode cX12_groups 56 = .ok (.getfield 40, 3) := by decide +kernel
theorem dX12_groups_59 : decode cX12_groups 59 = .ok (.iload_n 1, 1) := by decide +kernel
theorem dX12_groups_60 : decode cX12_groups 60 = .ok (.baload, 1) := by decide +kernel
theorem dX12_groups_61 : decode cX12_groups 61 = .ok (.aload_n 0, 1) := by decide +kernel
theorem dX12_groups_62 : decode cX12_groups 62 = .ok (.getfield 40, 3) := by decide +kernel
theorem dX12_groups_65 : decode cX12_groups 65 = .ok (.iload_n 2, 1) := by decide +kernel
theorem dX12_groups_66 : decode cX12_groups 66 = .ok (.baload, 1) := by decide +kernel
theorem dX12_groups_67 : decode cX12_groups 67 = .ok (.if_icmp .ne 10, 3) := by decide +kernel
theorem dX12_groups_70 : decode cX12_groups 70 = .ok (.aload_n 0, 1) := by decide +kernel
theorem dX12_groups_71 : decode cX12_groups 71 = .ok (.getfield 90, 3) := by decide +kernel
theorem dX12_groups_74 : decode cX12_groups 74 = .ok (.iload_n 1, 1) := by decide +kernel
theorem dX12_groups_75 : decode cX12_groups 75 = .ok (.iload_n 2, 1) := by decide +kernel
theorem dX12_groups_76 : decode cX12_groups 76 = .ok (.iastore, 1) := by decide +kernel
theorem dX12_groups_77 : decode cX12_groups 77 = .ok (.iinc 2 (-1), 3) := by decide +kernel
theorem dX12_groups_80 : decode cX12_groups 80 = .ok (.goto (-59), 3) := by decide +kernel
theorem dX12_groups_83 : decode cX12_groups 83 = .ok (.iinc 1 1, 3) := by decide +kernel
theorem dX12_groups_86 : decode cX12_groups 86 = .ok (.goto (-84), 3) := by decide +kernel
theorem dX12_groups_89 : decode cX12_groups 89 = .ok (.iconst 0, 1) := by decide +kernel
theorem dX12_groups_90 : decode cX12_groups 90 = .ok (.istore_n 1, 1) := by decide +kernel
theorem dX12_groups_91 : decode cX12_groups 91 = .ok (.iload_n 1, 1) := by decide +kernel
theorem dX12_groups_92 : decode cX12_groups 92 = .ok (.bipush 7, 2) := by decide +kernel
theorem dX12_groups_94 : decode cX12_groups 94 = .ok (.if_icmp .ge 114, 3) := by decide +kernel
theorem dX12_groups_97 : decode cX12_groups 97 = .ok (.iconst 0, 1) := by decide +kernel
theorem dX12_groups_98 : decode cX12_groups 98 = .ok (.istore_n 2, 1) := by decide +kernel
theorem dX12_groups_99 : decode cX12_groups 99 = .ok (.iload_n 2, 1) := by decide +kernel
theorem dX12_groups_100 : decode cX12_groups 100 = .ok (.aload_n 0, 1) := by decide +kernel
theorem dX12_groups_101 : decode cX12_groups 101 = .ok (.getfield 146, 3) := by decide +kernel
theorem dX12_groups_104 : decode cX12_groups 104 = .ok (.if_icmp .ge 70, 3) := by decide +kernel
theorem dX12_groups_107 : decode cX12_groups 107 = .ok (.aload_n 0, 1) := by decide +kernel
theorem dX12_groups_108 : decode cX12_groups 108 = .ok (.getfield 93, 3) := by decide +kernel
theorem dX12_groups_111 : decode cX12_groups 111 = .ok (.iload_n 2, 1) := by decide +kernel
theorem dX12_groups_112 : decode cX12_groups 112 = .ok (.iload_n 2, 1) := by decide +kernel
theorem dX12_groups_113 : decode cX12_groups 113 = .ok (.iastore, 1) := by decide +kernel
theorem dX12_groups_114 : decode cX12_groups 114 = .ok (.iload_n 2, 1) := by decide +kernel
theorem dX12_groups_115 : decode cX12_groups 115 = .ok (.iconst 1, 1) := by decide +kernel
theorem dX12_groups_116 : decode cX12_groups 116 = .ok (.isub, 1) := by decide +kernel
theorem dX12_groups_117 : decode cX12_groups 117 = .ok (.istore_n 3, 1) := by decide +kernel
theorem dX12_groups_118 : decode cX12_groups 118 = .ok (.iload_n 3, 1) := by decide +kernel
theorem dX12_groups_119 : decode cX12_groups 119 = .ok (.ifCond .lt 49, 3) := by decide +kernel
theorem dX12_groups_122 : decode cX12_groups 122 = .ok (.aload_n 0, 1) := by decide +kernel
theorem dX12_groups_123 : decode cX12_groups 123 = .ok (.getfield 90, 3) := by decide +kernel
theorem dX12_groups_126 : decode cX12_groups 126 = .ok (.iload_n 2, 1) := by decide +kernel
theorem dX12_groups_127 : decode cX12_groups 127 = .ok (.iaload, 1) := by decide +kernel
theorem dX12_groups_128 : decode cX12_groups 128 = .ok (.aload_n 0, 1) := by decide +kernel
theorem dX12_groups_129 : decode cX12_groups 129 = .ok (.getfield 90, 3) := by decide +kernel
theorem dX12_groups_132 : decode cX12_groups 132 = .ok (.iload_n 3, 1) := by decide +kernel
theorem dX12_groups_133 : decode cX12_groups 133 = .ok (.iaload, 1) := by decide +kernel
theorem dX12_groups_134 : decode cX12_groups 134 = .ok (.if_icmp .ne 28, 3) := by decide +kernel
theorem dX12_groups_137 : decode cX12_groups 137 = .ok (.aload_n 0, 1) := by decide +kernel
theorem dX12_groups_138 : decode cX12_groups 138 = .ok (.iload_n 2, 1) := by decide +kernel
theorem dX12_groups_139 : decode cX12_groups 139 = .ok (.iload_n 3, 1) := by decide +kernel
theorem dX12_groups_140 : decode cX12_groups 140 = .ok (.invokevirtual 312, 3) := by decide +kernel
theorem dX12_groups_143 : decode cX12_groups 143 = .ok (.ifCond .eq 19, 3) := by decide +kernel
theorem dX12_groups_146 : decode cX12_groups 146 = .ok (.aload_n 0, 1) := by decide +kernel
theorem dX12_groups_147 : decode cX12_groups 147 = .ok (.iload_n 3, 1) := by decide +kernel
theorem dX12_groups_148 : decode cX12_groups 148 = .ok (.iload_n 2, 1) := by decide +kernel
theorem dX12_groups_149 : decode cX12_groups 149 = .ok (.invokevirtual 312, 3) := by decide +kernel
theorem dX12_groups_152 : decode cX12_groups 152 = .ok (.ifCond .eq 10, 3) := by decide +kernel
theorem dX12_groups_155 : decode cX12_groups 155 = .ok (.aload_n 0, 1) := by decide +kernel
theorem dX12_groups_156 : decode cX12_groups 156 = .ok (.getfield 93, 3) := by decide +kernel
theorem dX12_groups_159 : decode cX12_groups 159 = .ok (.iload_n 2, 1) := by decide +kernel
theorem dX12_groups_160 : decode cX12_groups 160 = .ok (.iload_n 3, 1) := by decide +kernel
theorem dX12_groups_161 : decode cX12_groups 161 = .ok (.iastore, 1) := by decide +kernel
theorem dX12_groups_162 : decode cX12_groups 162 = .ok (.iinc 3 (-1), 3) := by decide +kernel
theorem dX12_groups_165 : decode cX12_groups 165 = .ok (.goto (-47), 3) := by decide +kernel
theorem dX12_groups_168 : decode cX12_groups 168 = .ok (.iinc 2 1, 3) := by decide +kernel
theorem dX12_groups_171 : decode cX12_groups 171 = .ok (.goto (-72), 3) := by decide +kernel
theorem dX12_groups_174 : decode cX12_groups 174 = .ok (.iconst 0, 1) := by decide +kernel
theorem dX12_groups_175 : decode cX12_groups 175 = .ok (.istore_n 2, 1) := by decide +kernel
theorem dX12_groups_176 : decode cX12_groups 176 = .ok (.iload_n 2, 1) := by decide +kernel
theorem dX12_groups_177 : decode cX12_groups 177 = .ok (.aload_n 0, 1) := by decide +kernel
theorem dX12_groups_178 : decode cX12_groups 178 = .ok (.getfield 146, 3) := by decide +kernel
theorem dX12_groups_181 : decode cX12_groups 181 = .ok (.if_icmp .ge 21, 3) := by decide +kernel
theorem dX12_groups_184 : decode cX12_groups 184 = .ok (.aload_n 0, 1) := by decide +kernel
theorem dX12_groups_185 : decode cX12_groups 185 = .ok (.getfield 90, 3) := by decide +kernel
theorem dX12_groups_188 : decode cX12_groups 188 = .ok (.iload_n 2, 1) := by decide +kernel
theorem dX12_groups_189 : decode cX12_groups 189 = .ok (.aload_n 0, 1) := by decide +kernel
theorem dX12_groups_190 : decode cX12_groups 190 = .ok (.getfield 93, 3) := by decide +kernel
theorem dX12_groups_193 : decode cX12_groups 193 = .ok (.iload_n 2, 1) := by decide +kernel
theorem dX12_groups_194 : decode cX12_groups 194 = .ok (.iaload, 1) := by decide +kernel
theorem dX12_groups_195 : decode cX12_groups 195 = .ok (.iastore, 1) := by decide +kernel
theorem dX12_groups_196 : decode cX12_groups 196 = .ok (.iinc 2 1, 3) := by decide +kernel
theorem dX12_groups_199 : decode cX12_groups 199 = .ok (.goto (-23), 3) := by decide +kernel
theorem dX12_groups_202 : decode cX12_groups 202 = .ok (.iinc 1 1, 3) := by decide +kernel
theorem dX12_groups_205 : decode cX12_groups 205 = .ok (.goto (-114), 3) := by decide +kernel
theorem dX12_groups_208 : decode cX12_groups 208 = .ok (.return_, 1) := by decide +kernel
theorem dX12_classOf_0 : decode cX12_classOf 0 = .ok (.aload_n 0, 1) := by decide +kernel
theorem dX12_classOf_1 : decode cX12_classOf 1 = .ok (.iload_n 1, 1) := by decide +kernel
theorem dX12_classOf_2 : decode cX12_classOf 2 = .ok (.invokevirtual 270, 3) := by decide +kernel
theorem dX12_classOf_5 : decode cX12_classOf 5 = .ok (.ifCond .ne 5, 3) := by decide +kernel
theorem dX12_classOf_8 : decode cX12_classOf 8 = .ok (.iconst 0, 1) := by decide +kernel
theorem dX12_classOf_9 : decode cX12_classOf 9 = .ok (.ireturn, 1) := by decide +kernel
theorem dX12_classOf_10 : decode cX12_classOf 10 = .ok (.aload_n 0, 1) := by decide +kernel
theorem dX12_classOf_11 : decode cX12_classOf 11 = .ok (.invokevirtual 315, 3) := by decide +kernel
theorem dX12_classOf_14 : decode cX12_classOf 14 = .ok (.aload_n 0, 1) := by decide +kernel
theorem dX12_classOf_15 : decode cX12_classOf 15 = .ok (.getfield 90, 3) := by decide +kernel
theorem dX12_classOf_18 : decode cX12_classOf 18 = .ok (.iload_n 1, 1) := by decide +kernel
theorem dX12_classOf_19 : decode cX12_classOf 19 = .ok (.iaload, 1) := by decide +kernel
theorem dX12_classOf_20 : decode cX12_classOf 20 = .ok (.ireturn, 1) := by decide +kernel
theorem dX12_classes_0 : decode cX12_classes 0 = .ok (.aload_n 0, 1) := by decide +kernel
theorem dX12_classes_1 : decode cX12_classes 1 = .ok (.aload_n 0, 1) := by decide +kernel
theorem dX12_classes_2 : decode cX12_classes 2 = .ok (.invokevirtual 246, 3) := by decide +kernel
theorem dX12_classes_5 : decode cX12_classes 5 = .ok (.ifCond .eq 7, 3) := by decide +kernel
theorem dX12_classes_8 : decode cX12_classes 8 = .ok (.iconst 0, 1) := by decide +kernel
theorem dX12_classes_9 : decode cX12_classes 9 = .ok (.goto 4, 3) := by decide +kernel
theorem dX12_classes_12 : decode cX12_classes 12 = .ok (.iconst 1, 1) := by decide +kernel
theorem dX12_classes_13 : decode cX12_classes 13 = .ok (.putfield 122, 3) := by decide +kernel
theorem dX12_classes_16 : decode cX12_classes 16 = .ok (.aload_n 0, 1) := by decide +kernel
theorem dX12_classes_17 : decode cX12_classes 17 = .ok (.getfield 122, 3) := by decide +kernel
theorem dX12_classes_20 : decode cX12_classes 20 = .ok (.ifCond .le 5, 3) := by decide +kernel
theorem dX12_classes_23 : decode cX12_classes 23 = .ok (.iconst 0, 1) := by decide +kernel
theorem dX12_classes_24 : decode cX12_classes 24 = .ok (.ireturn, 1) := by decide +kernel
theorem dX12_classes_25 : decode cX12_classes 25 = .ok (.aload_n 0, 1) := by decide +kernel
theorem dX12_classes_26 : decode cX12_classes 26 = .ok (.invokevirtual 315, 3) := by decide +kernel
theorem dX12_classes_29 : decode cX12_classes 29 = .ok (.iconst 0, 1) := by decide +kernel
theorem dX12_classes_30 : decode cX12_classes 30 = .ok (.istore_n 1, 1) := by decide +kernel
theorem dX12_classes_31 : decode cX12_classes 31 = .ok (.iconst 0, 1) := by decide +kernel
theorem dX12_classes_32 : decode cX12_classes 32 = .ok (.istore_n 2, 1) := by decide +kernel
theorem dX12_classes_33 : decode cX12_classes 33 = .ok (.iload_n 2, 1) := by decide +kernel
theorem dX12_classes_34 : decode cX12_classes 34 = .ok (.aload_n 0, 1) := by decide +kernel
theorem dX12_classes_35 : decode cX12_classes 35 = .ok (.getfield 146, 3) := by decide +kernel
theorem dX12_classes_38 : decode cX12_classes 38 = .ok (.if_icmp .ge 27, 3) := by decide +kernel
theorem dX12_classes_41 : decode cX12_classes 41 = .ok (.iload_n 1, 1) := by decide +kernel
theorem dX12_classes_42 : decode cX12_classes 42 = .ok (.aload_n 0, 1) := by decide +kernel
theorem dX12_classes_43 : decode cX12_classes 43 = .ok (.getfield 90, 3) := by decide +kernel
theorem dX12_classes_46 : decode cX12_classes 46 = .ok (.iload_n 2, 1) := by decide +kernel
theorem dX12_classes_47 : decode cX12_classes 47 = .ok (.iaload, 1) := by decide +kernel
theorem dX12_classes_48 : decode cX12_classes 48 = .ok (.iload_n 2, 1) := by decide +kernel
theorem dX12_classes_49 : decode cX12_classes 49 = .ok (.if_icmp .ne 7, 3) := by decide +kernel
theorem dX12_classes_52 : decode cX12_classes 52 = .ok (.iconst 1, 1) := by decide +kernel
theorem dX12_classes_53 : decode cX12_classes 53 = .ok (.goto 4, 3) := by decide +kernel
theorem dX12_classes_56 : decode cX12_classes 56 = .ok (.iconst 0, 1) := by decide +kernel
theorem dX12_classes_57 : decode cX12_classes 57 = .ok (.iadd, 1) := by decide +kernel
theorem dX12_classes_58 : decode cX12_classes 58 = .ok (.istore_n 1, 1) := by decide +kernel
theorem dX12_classes_59 : decode cX12_classes 59 = .ok (.iinc 2 1, 3) := by decide +kernel
theorem dX12_classes_62 : decode cX12_classes 62 = .ok (.goto (-29), 3) := by decide +kernel
theorem dX12_classes_65 : decode cX12_classes 65 = .ok (.iload_n 1, 1) := by decide +kernel
theorem dX12_classes_66 : decode cX12_classes 66 = .ok (.ireturn, 1) := by decide +kernel
theorem dX12_isBetter_0 : decode cX12_isBetter 0 = .ok (.aload_n 0, 1) := by decide +kernel
theorem dX12_isBetter_1 : decode cX12_isBetter 1 = .ok (.getfield 318, 3) := by decide +kernel
theorem dX12_isBetter_4 : decode cX12_isBetter 4 = .ok (.ifCond .ne 5, 3) := by decide +kernel
theorem dX12_isBetter_7 : decode cX12_isBetter 7 = .ok (.iconst 1, 1) := by decide +kernel
theorem dX12_isBetter_8 : decode cX12_isBetter 8 = .ok (.ireturn, 1) := by decide +kernel
theorem dX12_isBetter_9 : decode cX12_isBetter 9 = .ok (.lload_n 2, 1) := by decide +kernel
theorem dX12_isBetter_10 : decode cX12_isBetter 10 = .ok (.aload_n 0, 1) := by decide +kernel
theorem dX12_isBetter_11 : decode cX12_isBetter 11 = .ok (.getfield 321, 3) := by decide +kernel
theorem dX12_isBetter_14 : decode cX12_isBetter 14 = .ok (.lmul, 1) := by decide +kernel
theorem dX12_isBetter_15 : decode cX12_isBetter 15 = .ok (.aload_n 0, 1) := by decide +kernel
theorem dX12_isBetter_16 : decode cX12_isBetter 16 = .ok (.getfield 324, 3) := by decide +kernel
theorem dX12_isBetter_19 : decode cX12_isBetter 19 = .ok (.lload 4, 2) := by decide +kernel
theorem dX12_isBetter_21 : decode cX12_isBetter 21 = .ok (.lmul, 1) := by decide +kernel
theorem dX12_isBetter_22 : decode cX12_isBetter 22 = .ok (.lsub, 1) := by decide +kernel
theorem dX12_isBetter_23 : decode cX12_isBetter 23 = .ok (.lstore 6, 2) := by decide +kernel
theorem dX12_isBetter_25 : decode cX12_isBetter 25 = .ok (.lload 6, 2) := by decide +kernel
theorem dX12_isBetter_27 : decode cX12_isBetter 27 = .ok (.lconst 0, 1) := by decide +kernel
theorem dX12_isBetter_28 : decode cX12_isBetter 28 = .ok (.lcmp, 1) := by decide +kernel
theorem dX12_isBetter_29 : decode cX12_isBetter 29 = .ok (.ifCond .eq 16, 3) := by decide +kernel
theorem dX12_isBetter_32 : decode cX12_isBetter 32 = .ok (.lload 6, 2) := by decide +kernel
theorem dX12_isBetter_34 : decode cX12_isBetter 34 = .ok (.lconst 0, 1) := by decide +kernel
theorem dX12_isBetter_35 : decode cX12_isBetter 35 = .ok (.lcmp, 1) := by decide +kernel
theorem dX12_isBetter_36 : decode cX12_isBetter 36 = .ok (.ifCond .le 7, 3) := by decide +kernel
theorem dX12_isBetter_39 : decode cX12_isBetter 39 = .ok (.iconst 1, 1) := by decide +kernel
theorem dX12_isBetter_40 : decode cX12_isBetter 40 = .ok (.goto 4, 3) := by decide +kernel
theorem dX12_isBetter_43 : decode cX12_isBetter 43 = .ok (.iconst 0, 1) := by decide +kernel
theorem dX12_isBetter_44 : decode cX12_isBetter 44 = .ok (.ireturn, 1) := by decide +kernel
theorem dX12_isBetter_45 : decode cX12_isBetter 45 = .ok (.iload_n 1, 1) := by decide +kernel
theorem dX12_isBetter_46 : decode cX12_isBetter 46 = .ok (.aload_n 0, 1) := by decide +kernel
theorem dX12_isBetter_47 : decode cX12_isBetter 47 = .ok (.getfield 318, 3) := by decide +kernel
theorem dX12_isBetter_50 : decode cX12_isBetter 50 = .ok (.if_icmp .eq 17, 3) := by decide +kernel
theorem dX12_isBetter_53 : decode cX12_isBetter 53 = .ok (.iload_n 1, 1) := by decide +kernel
theorem dX12_isBetter_54 : decode cX12_isBetter 54 = .ok (.aload_n 0, 1) := by decide +kernel
theorem dX12_isBetter_55 : decode cX12_isBetter 55 = .ok (.getfield 318, 3) := by decide +kernel
theorem dX12_isBetter_58 : decode cX12_isBetter 58 = .ok (.if_icmp .ge 7, 3) := by decide +kernel
theorem dX12_isBetter_61 : decode cX12_isBetter 61 = .ok (.iconst 1, 1) := by decide +kernel
theorem dX12_isBetter_62 : decode cX12_isBetter 62 = .ok (.goto 4, 3) := by decide +kernel
theorem dX12_isBetter_65 : decode cX12_isBetter 65 = .ok (.iconst 0, 1) := by decide +kernel
theorem dX12_isBetter_66 : decode cX12_isBetter 66 = .ok (.ireturn, 1) := by decide +kernel
theorem dX12_isBetter_67 : decode cX12_isBetter 67 = .ok (.iconst 0, 1) := by decide +kernel
theorem dX12_isBetter_68 : decode cX12_isBetter 68 = .ok (.istore 8, 2) := by decide +kernel
theorem dX12_isBetter_70 : decode cX12_isBetter 70 = .ok (.iload 8, 2) := by decide +kernel
theorem dX12_isBetter_72 : decode cX12_isBetter 72 = .ok (.iload_n 1, 1) := by decide +kernel
theorem dX12_isBetter_73 : decode cX12_isBetter 73 = .ok (.if_icmp .ge 49, 3) := by decide +kernel
theorem dX12_isBetter_76 : decode cX12_isBetter 76 = .ok (.aload_n 0, 1) := by decide +kernel
theorem dX12_isBetter_77 : decode cX12_isBetter 77 = .ok (.getfield 96, 3) := by decide +kernel
theorem dX12_isBetter_80 : decode cX12_isBetter 80 = .ok (.iload 8, 2) := by decide +kernel
theorem dX12_isBetter_82 : decode cX12_isBetter 82 = .ok (.iaload, 1) := by decide +kernel
theorem dX12_isBetter_83 : decode cX12_isBetter 83 = .ok (.aload_n 0, 1) := by decide +kernel
theorem dX12_isBetter_84 : decode cX12_isBetter 84 = .ok (.getfield 99, 3) := by decide +kernel
theorem dX12_isBetter_87 : decode cX12_isBetter 87 = .ok (.iload 8, 2) := by decide +kernel
theorem dX12_isBetter_89 : decode cX12_isBetter 89 = .ok (.iaload, 1) := by decide +kernel
theorem dX12_isBetter_90 : decode cX12_isBetter 90 = .ok (.if_icmp .eq 26, 3) := by decide +kernel
theorem dX12_isBetter_93 : decode cX12_isBetter 93 = .ok (.aload_n 0, 1) := by decide +kernel
theorem dX12_isBetter_94 : decode cX12_isBetter 94 = .ok (.getfield 96, 3) := by decide +kernel
theorem dX12_isBetter_97 : decode cX12_isBetter 97 = .ok (.iload 8, 2) := by decide +kernel
theorem dX12_isBetter_99 : decode cX12_isBetter 99 = .ok (.iaload, 1) := by decide +kernel
theorem dX12_isBetter_100 : decode cX12_isBetter 100 = .ok (.aload_n 0, 1) := by decide +kernel
theorem dX12_isBetter_101 : decode cX12_isBetter 101 = .ok (.getfield 99, 3) := by decide +kernel
theorem dX12_isBetter_104 : decode cX12_isBetter 104 = .ok (.iload 8, 2) := by decide +kernel
theorem dX12_isBetter_106 : decode cX12_isBetter 106 = .ok (.iaload, 1) := by decide +kernel
theorem dX12_isBetter_107 : decode cX12_isBetter 107 = .ok (.if_icmp .ge 7, 3) := by decide +kernel
theorem dX12_isBetter_110 : decode cX12_isBetter 110 = .ok (.iconst 1, 1) := by decide +kernel
theorem dX12_isBetter_111 : decode cX12_isBetter 111 = .ok (.goto 4, 3) := by decide +kernel
theorem dX12_isBetter_114 : decode cX12_isBetter 114 = .ok (.iconst 0, 1) := by decide +kernel
theorem dX12_isBetter_115 : decode cX12_isBetter 115 = .ok (.ireturn, 1) := by decide +kernel
theorem dX12_isBetter_116 : decode cX12_isBetter 116 = .ok (.iinc 8 1, 3) := by decide +kernel
theorem dX12_isBetter_119 : decode cX12_isBetter 119 = .ok (.goto (-49), 3) := by decide +kernel
theorem dX12_isBetter_122 : decode cX12_isBetter 122 = .ok (.iconst 0, 1) := by decide +kernel
theorem dX12_isBetter_123 : decode cX12_isBetter 123 = .ok (.ireturn, 1) := by decide +kernel
theorem dX12_walks_0 : decode cX12_walks 0 = .ok (.aload_n 0, 1) := by decide +kernel
theorem dX12_walks_1 : decode cX12_walks 1 = .ok (.getfield 96, 3) := by decide +kernel
theorem dX12_walks_4 : decode cX12_walks 4 = .ok (.iload_n 1, 1) := by decide +kernel
theorem dX12_walks_5 : decode cX12_walks 5 = .ok (.iconst 1, 1) := by decide +kernel
theorem dX12_walks_6 : decode cX12_walks 6 = .ok (.isub, 1) := by decide +kernel
theorem dX12_walks_7 : decode cX12_walks 7 = .ok (.iaload, 1) := by decide +kernel
theorem dX12_walks_8 : decode cX12_walks 8 = .ok (.istore 6, 2) := by decide +kernel
theorem dX12_walks_10 : decode cX12_walks 10 = .ok (.aload_n 0, 1) := by decide +kernel
theorem dX12_walks_11 : decode cX12_walks 11 = .ok (.getfield 40, 3) := by decide +kernel
theorem dX12_walks_14 : decode cX12_walks 14 = .ok (.iload 6, 2) := by decide +kernel
theorem dX12_walks_16 : decode cX12_walks 16 = .ok (.baload, 1) := by decide +kernel
theorem dX12_walks_17 : decode cX12_walks 17 = .ok (.ifCond .eq 61, 3) := by decide +kernel
theorem dX12_walks_20 : decode cX12_walks 20 = .ok (.aload_n 0, 1) := by decide +kernel
theorem dX12_walks_21 : decode cX12_walks 21 = .ok (.iload_n 1, 1) := by decide +kernel
theorem dX12_walks_22 : decode cX12_walks 22 = .ok (.lload_n 2, 1) := by decide +kernel
theorem dX12_walks_23 : decode cX12_walks 23 = .ok (.lload 4, 2) := by decide +kernel
theorem dX12_walks_25 : decode cX12_walks 25 = .ok (.invokevirtual 327, 3) := by decide +kernel
theorem dX12_walks_28 : decode cX12_walks 28 = .ok (.ifCond .ne 4, 3) := by decide +kernel
theorem dX12_walks_31 : decode cX12_walks 31 = .ok (.return_, 1) := by decide +kernel
theorem dX12_walks_32 : decode cX12_walks 32 = .ok (.aload_n 0, 1) := by decide +kernel
theorem dX12_walks_33 : decode cX12_walks 33 = .ok (.iload_n 1, 1) := by decide +kernel
theorem dX12_walks_34 : decode cX12_walks 34 = .ok (.putfield 318, 3) := by decide +kernel
theorem dX12_walks_37 : decode cX12_walks 37 = .ok (.aload_n 0, 1) := by decide +kernel
theorem dX12_walks_38 : decode cX12_walks 38 = .ok (.lload_n 2, 1) := by decide +kernel
theorem dX12_walks_39 : decode cX12_walks 39 = .ok (.putfield 324, 3) := by decide +kernel
theorem dX12_walks_42 : decode cX12_walks 42 = .ok (.aload_n 0, 1) := by decide +kernel
theorem dX12_walks_43 : decode cX12_walks 43 = .ok (.lload 4, 2) := by decide +kernel
theorem dX12_walks_45 : decode cX12_walks 45 = .ok (.putfield 321, 3) := by decide +kernel
theorem dX12_walks_48 : decode cX12_walks 48 = .ok (.iconst 0, 1) := by decide +kernel
theorem dX12_walks_49 : decode cX12_walks 49 = .ok (.istore 7, 2) := by decide +kernel
theorem dX12_walks_51 : decode cX12_walks 51 = .ok (.iload 7, 2) := by decide +kernel
theorem dX12_walks_53 : decode cX12_walks 53 = .ok (.iload_n 1, 1) := by decide +kernel
theorem dX12_walks_54 : decode cX12_walks 54 = .ok (.if_icmp .ge 23, 3) := by decide +kernel
theorem dX12_walks_57 : decode cX12_walks 57 = .ok (.aload_n 0, 1) := by decide +kernel
theorem dX12_walks_58 : decode cX12_walks 58 = .ok (.getfield 99, 3) := by decide +kernel
theorem dX12_walks_61 : decode cX12_walks 61 = .ok (.iload 7, 2) := by decide +kernel
theorem dX12_walks_63 : decode cX12_walks 63 = .ok (.aload_n 0, 1) := by decide +kernel
theorem dX12_walks_64 : decode cX12_walks 64 = .ok (.getfield 96, 3) := by decide +kernel
theorem dX12_walks_67 : decode cX12_walks 67 = .ok (.iload 7, 2) := by decide +kernel
theorem dX12_walks_69 : decode cX12_walks 69 = .ok (.iaload, 1) := by decide +kernel
theorem dX12_walks_70 : decode cX12_walks 70 = .ok (.iastore, 1) := by decide +kernel
theorem dX12_walks_71 : decode cX12_walks 71 = .ok (.iinc 7 1, 3) := by decide +kernel
theorem dX12_walks_74 : decode cX12_walks 74 = .ok (.goto (-23), 3) := by decide +kernel
theorem dX12_walks_77 : decode cX12_walks 77 = .ok (.return_, 1) := by decide +kernel
theorem dX12_walks_78 : decode cX12_walks 78 = .ok (.aload_n 0, 1) := by decide +kernel
theorem dX12_walks_79 : decode cX12_walks 79 = .ok (.getfield 53, 3) := by decide +kernel
theorem dX12_walks_82 : decode cX12_walks 82 = .ok (.iload 6, 2) := by decide +kernel
theorem dX12_walks_84 : decode cX12_walks 84 = .ok (.iconst 1, 1) := by decide +kernel
theorem dX12_walks_85 : decode cX12_walks 85 = .ok (.bastore, 1) := by decide +kernel
theorem dX12_walks_86 : decode cX12_walks 86 = .ok (.iconst 0, 1) := by decide +kernel
theorem dX12_walks_87 : decode cX12_walks 87 = .ok (.istore 7, 2) := by decide +kernel
theorem dX12_walks_89 : decode cX12_walks 89 = .ok (.iload 7, 2) := by decide +kernel
theorem dX12_walks_91 : decode cX12_walks 91 = .ok (.aload_n 0, 1) := by decide +kernel
theorem dX12_walks_92 : decode cX12_walks 92 = .ok (.getfield 146, 3) := by decide +kernel
theorem dX12_walks_95 : decode cX12_walks 95 = .ok (.if_icmp .ge 74, 3) := by decide +kernel
theorem dX12_walks_98 : decode cX12_walks 98 = .ok (.aload_n 0, 1) := by decide +kernel
theorem dX12_walks_99 : decode cX12_walks 99 = .ok (.iload 6, 2) := by decide +kernel
theorem dX12_walks_101 : decode cX12_walks 101 = .ok (.iload 7, 2) := by decide +kernel
theorem dX12_walks_103 : decode cX12_walks 103 = .ok (.invokevirtual 149, 3) := by decide +kernel
theorem dX12_walks_106 : decode cX12_walks 106 = .ok (.ifCond .eq 57, 3) := by decide +kernel
theorem dX12_walks_109 : decode cX12_walks 109 = .ok (.aload_n 0, 1) := by decide +kernel
theorem dX12_walks_110 : decode cX12_walks 110 = .ok (.getfield 53, 3) := by decide +kernel
theorem dX12_walks_113 : decode cX12_walks 113 = .ok (.iload 7, 2) := by decide +kernel
theorem dX12_walks_115 : decode cX12_walks 115 = .ok (.baload, 1) := by decide +kernel
theorem dX12_walks_116 : decode cX12_walks 116 = .ok (.ifCond .eq 6, 3) := by decide +kernel
theorem dX12_walks_119 : decode cX12_walks 119 = .ok (.goto 44, 3) := by decide +kernel
theorem dX12_walks_122 : decode cX12_walks 122 = .ok (.aload_n 0, 1) := by decide +kernel
theorem dX12_walks_123 : decode cX12_walks 123 = .ok (.getfield 96, 3) := by decide +kernel
theorem dX12_walks_126 : decode cX12_walks 126 = .ok (.iload_n 1, 1) := by decide +kernel
theorem dX12_walks_127 : decode cX12_walks 127 = .ok (.iload 7, 2) := by decide +kernel
theorem dX12_walks_129 : decode cX12_walks 129 = .ok (.iastore, 1) := by decide +kernel
theorem dX12_walks_130 : decode cX12_walks 130 = .ok (.aload_n 0, 1) := by decide +kernel
theorem dX12_walks_131 : decode cX12_walks 131 = .ok (.iload_n 1, 1) := by decide +kernel
theorem dX12_walks_132 : decode cX12_walks 132 = .ok (.iconst 1, 1) := by decide +kernel
theorem dX12_walks_133 : decode cX12_walks 133 = .ok (.iadd, 1) := by decide +kernel
theorem dX12_walks_134 : decode cX12_walks 134 = .ok (.lload_n 2, 1) := by decide +kernel
theorem dX12_walks_135 : decode cX12_walks 135 = .ok (.aload_n 0, 1) := by decide +kernel
theorem dX12_walks_136 : decode cX12_walks 136 = .ok (.iload 6, 2) := by decide +kernel
theorem dX12_walks_138 : decode cX12_walks 138 = .ok (.iload 7, 2) := by decide +kernel
theorem dX12_walks_140 : decode cX12_walks 140 = .ok (.invokevirtual 149, 3) := by decide +kernel
theorem dX12_walks_143 : decode cX12_walks 143 = .ok (.i2l, 1) := by decide +kernel
theorem dX12_walks_144 : decode cX12_walks 144 = .ok (.lmul, 1) := by decide +kernel
theorem dX12_walks_145 : decode cX12_walks 145 = .ok (.lload 4, 2) := by decide +kernel
theorem dX12_walks_147 : decode cX12_walks 147 = .ok (.aload_n 0, 1) := by decide +kernel
theorem dX12_walks_148 : decode cX12_walks 148 = .ok (.getfield 34, 3) := by decide +kernel
theorem dX12_walks_151 : decode cX12_walks 151 = .ok (.aload_n 0, 1) := by decide +kernel
theorem dX12_walks_152 : decode cX12_walks 152 = .ok (.iload 6, 2) := by decide +kernel
theorem dX12_walks_154 : decode cX12_walks 154 = .ok (.invokevirtual 142, 3) := by decide +kernel
theorem dX12_walks_157 : decode cX12_walks 157 = .ok (.iaload, 1) := by decide +kernel
theorem dX12_walks_158 : decode cX12_walks 158 = .ok (.i2l, 1) := by decide +kernel
theorem dX12_walks_159 : decode cX12_walks 159 = .ok (.lmul, 1) := by decide +kernel
theorem dX12_walks_160 : decode cX12_walks 160 = .ok (.invokevirtual 331, 3) := by decide +kernel
theorem dX12_walks_163 : decode cX12_walks 163 = .ok (.iinc 7 1, 3) := by decide +kernel
theorem dX12_walks_166 : decode cX12_walks 166 = .ok (.goto (-77), 3) := by decide +kernel
theorem dX12_walks_169 : decode cX12_walks 169 = .ok (.aload_n 0, 1) := by decide +kernel
theorem dX12_walks_170 : decode cX12_walks 170 = .ok (.getfield 53, 3) := by decide +kernel
theorem dX12_walks_173 : decode cX12_walks 173 = .ok (.iload 6, 2) := by decide +kernel
theorem dX12_walks_175 : decode cX12_walks 175 = .ok (.iconst 0, 1) := by decide +kernel
theorem dX12_walks_176 : decode cX12_walks 176 = .ok (.bastore, 1) := by decide +kernel
theorem dX12_walks_177 : decode cX12_walks 177 = .ok (.return_, 1) := by decide +kernel
theorem dX12_isTrace_0 : decode cX12_isTrace 0 = .ok (.aload_n 0, 1) := by decide +kernel
theorem dX12_isTrace_1 : decode cX12_isTrace 1 = .ok (.iload_n 1, 1) := by decide +kernel
theorem dX12_isTrace_2 : decode cX12_isTrace 2 = .ok (.invokevirtual 270, 3) := by decide +kernel
theorem dX12_isTrace_5 : decode cX12_isTrace 5 = .ok (.ifCond .ne 5, 3) := by decide +kernel
theorem dX12_isTrace_8 : decode cX12_isTrace 8 = .ok (.iconst 0, 1) := by decide +kernel
theorem dX12_isTrace_9 : decode cX12_isTrace 9 = .ok (.ireturn, 1) := by decide +kernel
theorem dX12_isTrace_10 : decode cX12_isTrace 10 = .ok (.aload_n 0, 1) := by decide +kernel
theorem dX12_isTrace_11 : decode cX12_isTrace 11 = .ok (.invokevirtual 288, 3) := by decide +kernel
theorem dX12_isTrace_14 : decode cX12_isTrace 14 = .ok (.aload_n 0, 1) := by decide +kernel
theorem dX12_isTrace_15 : decode cX12_isTrace 15 = .ok (.iconst 0, 1) := by decide +kernel
theorem dX12_isTrace_16 : decode cX12_isTrace 16 = .ok (.putfield 318, 3) := by decide +kernel
theorem dX12_isTrace_19 : decode cX12_isTrace 19 = .ok (.aload_n 0, 1) := by decide +kernel
theorem dX12_isTrace_20 : decode cX12_isTrace 20 = .ok (.getfield 96, 3) := by decide +kernel
theorem dX12_isTrace_23 : decode cX12_isTrace 23 = .ok (.iconst 0, 1) := by decide +kernel
theorem dX12_isTrace_24 : decode cX12_isTrace 24 = .ok (.iload_n 1, 1) := by decide +kernel
theorem dX12_isTrace_25 : decode cX12_isTrace 25 = .ok (.iastore, 1) := by decide +kernel
theorem dX12_isTrace_26 : decode cX12_isTrace 26 = .ok (.iconst 0, 1) := by decide +kernel
theorem dX12_isTrace_27 : decode cX12_isTrace 27 = .ok (.istore_n 2, 1) := by decide +kernel
theorem dX12_isTrace_28 : decode cX12_isTrace 28 = .ok (.iload_n 2, 1) := by decide +kernel
theorem dX12_isTrace_29 : decode cX12_isTrace 29 = .ok (.aload_n 0, 1) := by decide +kernel
theorem dX12_isTrace_30 : decode cX12_isTrace 30 = .ok (.getfield 146, 3) := by decide +kernel
theorem dX12_isTrace_33 : decode cX12_isTrace 33 = .ok (.if_icmp .ge 16, 3) := by decide +kernel
theorem dX12_isTrace_36 : decode cX12_isTrace 36 = .ok (.aload_n 0, 1) := by decide +kernel
theorem dX12_isTrace_37 : decode cX12_isTrace 37 = .ok (.getfield 53, 3) := by decide +kernel
theorem dX12_isTrace_40 : decode cX12_isTrace 40 = .ok (.iload_n 2, 1) := by decide +kernel
theorem dX12_isTrace_41 : decode cX12_isTrace 41 = .ok (.iconst 0, 1) := by decide +kernel
theorem dX12_isTrace_42 : decode cX12_isTrace 42 = .ok (.bastore, 1) := by decide +kernel
theorem dX12_isTrace_43 : decode cX12_isTrace 43 = .ok (.iinc 2 1, 3) := by decide +kernel
theorem dX12_isTrace_46 : decode cX12_isTrace 46 = .ok (.goto (-18), 3) := by decide +kernel
theorem dX12_isTrace_49 : decode cX12_isTrace 49 = .ok (.aload_n 0, 1) := by decide +kernel
theorem dX12_isTrace_50 : decode cX12_isTrace 50 = .ok (.iconst 1, 1) := by decide +kernel
theorem dX12_isTrace_51 : decode cX12_isTrace 51 = .ok (.lconst 1, 1) := by decide +kernel
theorem dX12_isTrace_52 : decode cX12_isTrace 52 = .ok (.lconst 1, 1) := by decide +kernel
theorem dX12_isTrace_53 : decode cX12_isTrace 53 = .ok (.invokevirtual 331, 3) := by decide +kernel
theorem dX12_isTrace_56 : decode cX12_isTrace 56 = .ok (.aload_n 0, 1) := by decide +kernel
theorem dX12_isTrace_57 : decode cX12_isTrace 57 = .ok (.aload_n 0, 1) := by decide +kernel
theorem dX12_isTrace_58 : decode cX12_isTrace 58 = .ok (.getfield 318, 3) := by decide +kernel
theorem dX12_isTrace_61 : decode cX12_isTrace 61 = .ok (.ifCond .ne 7, 3) := by decide +kernel
theorem dX12_isTrace_64 : decode cX12_isTrace 64 = .ok (.iconst 3, 1) := by decide +kernel
theorem dX12_isTrace_65 : decode cX12_isTrace 65 = .ok (.goto 4, 3) := by decide +kernel
theorem dX12_isTrace_68 : decode cX12_isTrace 68 = .ok (.iconst 0, 1) := by decide +kernel
theorem dX12_isTrace_69 : decode cX12_isTrace 69 = .ok (.putfield 122, 3) := by decide +kernel
theorem dX12_isTrace_72 : decode cX12_isTrace 72 = .ok (.aload_n 0, 1) := by decide +kernel
theorem dX12_isTrace_73 : decode cX12_isTrace 73 = .ok (.aload_n 0, 1) := by decide +kernel
theorem dX12_isTrace_74 : decode cX12_isTrace 74 = .ok (.getfield 324, 3) := by decide +kernel
theorem dX12_isTrace_77 : decode cX12_isTrace 77 = .ok (.aload_n 0, 1) := by decide +kernel
theorem dX12_isTrace_78 : decode cX12_isTrace 78 = .ok (.getfield 318, 3) := by decide +kernel
theorem dX12_isTrace_81 : decode cX12_isTrace 81 = .ok (.ifCond .ne 7, 3) := by decide +kernel
theorem dX12_isTrace_84 : decode cX12_isTrace 84 = .ok (.lconst 1, 1) := by decide +kernel
theorem dX12_isTrace_85 : decode cX12_isTrace 85 = .ok (.goto 7, 3) := by decide +kernel
theorem dX12_isTrace_88 : decode cX12_isTrace 88 = .ok (.aload_n 0, 1) := by decide +kernel
theorem dX12_isTrace_89 : decode cX12_isTrace 89 = .ok (.getfield 321, 3) := by decide +kernel
theorem dX12_isTrace_92 : decode cX12_isTrace 92 = .ok (.invokevirtual 138, 3) := by decide +kernel
theorem dX12_isTrace_95 : decode cX12_isTrace 95 = .ok (.aload_n 0, 1) := by decide +kernel
theorem dX12_isTrace_96 : decode cX12_isTrace 96 = .ok (.getfield 122, 3) := by decide +kernel
theorem dX12_isTrace_99 : decode cX12_isTrace 99 = .ok (.ifCond .ne 7, 3) := by decide +kernel
theorem dX12_isTrace_102 : decode cX12_isTrace 102 = .ok (.iconst 1, 1) := by decide +kernel
theorem dX12_isTrace_103 : decode cX12_isTrace 103 = .ok (.goto 4, 3) := by decide +kernel
theorem dX12_isTrace_106 : decode cX12_isTrace 106 = .ok (.iconst 0, 1) := by decide +kernel
theorem dX12_isTrace_107 : decode cX12_isTrace 107 = .ok (.ireturn, 1) := by decide +kernel
theorem dX12_traceLength_0 : decode cX12_traceLength 0 = .ok (.aload_n 0, 1) := by decide +kernel
theorem dX12_traceLength_1 : decode cX12_traceLength 1 = .ok (.iload_n 1, 1) := by decide +kernel
theorem dX12_traceLength_2 : decode cX12_traceLength 2 = .ok (.invokevirtual 335, 3) := by decide +kernel
theorem dX12_traceLength_5 : decode cX12_traceLength 5 = .ok (.ifCond .eq 10, 3) := by decide +kernel
theorem dX12_traceLength_8 : decode cX12_traceLength 8 = .ok (.aload_n 0, 1) := by decide +kernel
theorem dX12_traceLength_9 : decode cX12_traceLength 9 = .ok (.getfield 318, 3) := by decide +kernel
theorem dX12_traceLength_12 : decode cX12_traceLength 12 = .ok (.goto 4, 3) := by decide +kernel
theorem dX12_traceLength_15 : decode cX12_traceLength 15 = .ok (.iconst 0, 1) := by decide +kernel
theorem dX12_traceLength_16 : decode cX12_traceLength 16 = .ok (.ireturn, 1) := by decide +kernel
theorem dX12_traceAt_0 : decode cX12_traceAt 0 = .ok (.aload_n 0, 1) := by decide +kernel
theorem dX12_traceAt_1 : decode cX12_traceAt 1 = .ok (.iload_n 1, 1) := by decide +kernel
theorem dX12_traceAt_2 : decode cX12_traceAt 2 = .ok (.invokevirtual 335, 3) := by decide +kernel
theorem dX12_traceAt_5 : decode cX12_traceAt 5 = .ok (.ifCond .ne 5, 3) := by decide +kernel
theorem dX12_traceAt_8 : decode cX12_traceAt 8 = .ok (.iconst 0, 1) := by decide +kernel
theorem dX12_traceAt_9 : decode cX12_traceAt 9 = .ok (.ireturn, 1) := by decide +kernel
theorem dX12_traceAt_10 : decode cX12_traceAt 10 = .ok (.iload_n 2, 1) := by decide +kernel
theorem dX12_traceAt_11 : decode cX12_traceAt 11 = .ok (.iconst 0, 1) := by decide +kernel
theorem dX12_traceAt_12 : decode cX12_traceAt 12 = .ok (.aload_n 0, 1) := by decide +kernel
theorem dX12_traceAt_13 : decode cX12_traceAt 13 = .ok (.getfield 318, 3) := by decide +kernel
theorem dX12_traceAt_16 : decode cX12_traceAt 16 = .ok (.iconst 1, 1) := by decide +kernel
theorem dX12_traceAt_17 : decode cX12_traceAt 17 = .ok (.isub, 1) := by decide +kernel
theorem dX12_traceAt_18 : decode cX12_traceAt 18 = .ok (.invokestatic 228, 3) := by decide +kernel
theorem dX12_traceAt_21 : decode cX12_traceAt 21 = .ok (.ifCond .eq 12, 3) := by decide +kernel
theorem dX12_traceAt_24 : decode cX12_traceAt 24 = .ok (.aload_n 0, 1) := by decide +kernel
theorem dX12_traceAt_25 : decode cX12_traceAt 25 = .ok (.getfield 99, 3) := by decide +kernel
theorem dX12_traceAt_28 : decode cX12_traceAt 28 = .ok (.iload_n 2, 1) := by decide +kernel
theorem dX12_traceAt_29 : decode cX12_traceAt 29 = .ok (.iaload, 1) := by decide +kernel
theorem dX12_traceAt_30 : decode cX12_traceAt 30 = .ok (.goto 8, 3) := by decide +kernel
theorem dX12_traceAt_33 : decode cX12_traceAt 33 = .ok (.aload_n 0, 1) := by decide +kernel
theorem dX12_traceAt_34 : decode cX12_traceAt 34 = .ok (.iconst 3, 1) := by decide +kernel
theorem dX12_traceAt_35 : decode cX12_traceAt 35 = .ok (.invokevirtual 235, 3) := by decide +kernel
theorem dX12_traceAt_38 : decode cX12_traceAt 38 = .ok (.ireturn, 1) := by decide +kernel
theorem dX12_traceAbove_0 : decode cX12_traceAbove 0 = .ok (.aload_n 0, 1) := by decide +kernel
theorem dX12_traceAbove_1 : decode cX12_traceAbove 1 = .ok (.iload_n 1, 1) := by decide +kernel
theorem dX12_traceAbove_2 : decode cX12_traceAbove 2 = .ok (.invokevirtual 335, 3) := by decide +kernel
theorem dX12_traceAbove_5 : decode cX12_traceAbove 5 = .ok (.ifCond .eq 10, 3) := by decide +kernel
theorem dX12_traceAbove_8 : decode cX12_traceAbove 8 = .ok (.aload_n 0, 1) := by decide +kernel
theorem dX12_traceAbove_9 : decode cX12_traceAbove 9 = .ok (.getfield 131, 3) := by decide +kernel
theorem dX12_traceAbove_12 : decode cX12_traceAbove 12 = .ok (.goto 4, 3) := by decide +kernel
theorem dX12_traceAbove_15 : decode cX12_traceAbove 15 = .ok (.lconst 0, 1) := by decide +kernel
theorem dX12_traceAbove_16 : decode cX12_traceAbove 16 = .ok (.lreturn, 1) := by decide +kernel
theorem dX12_traceBelow_0 : decode cX12_traceBelow 0 = .ok (.aload_n 0, 1) := by decide +kernel
theorem dX12_traceBelow_1 : decode cX12_traceBelow 1 = .ok (.iload_n 1, 1) := by decide +kernel
theorem dX12_traceBelow_2 : decode cX12_traceBelow 2 = .ok (.invokevirtual 335, 3) := by decide +kernel
theorem dX12_traceBelow_5 : decode cX12_traceBelow 5 = .ok (.ifCond .eq 10, 3) := by decide +kernel
theorem dX12_traceBelow_8 : decode cX12_traceBelow 8 = .ok (.aload_n 0, 1) := by decide +kernel
theorem dX12_traceBelow_9 : decode cX12_traceBelow 9 = .ok (.getfield 135, 3) := by decide +kernel
theorem dX12_traceBelow_12 : decode cX12_traceBelow 12 = .ok (.goto 4, 3) := by decide +kernel
theorem dX12_traceBelow_15 : decode cX12_traceBelow 15 = .ok (.lconst 0, 1) := by decide +kernel
theorem dX12_traceBelow_16 : decode cX12_traceBelow 16 = .ok (.lreturn, 1) := by decide +kernel
theorem dX12_meanChoices_0 : decode cX12_meanChoices 0 = .ok (.aload_n 0, 1) := by decide +kernel
theorem dX12_meanChoices_1 : decode cX12_meanChoices 1 = .ok (.aload_n 0, 1) := by decide +kernel
theorem dX12_meanChoices_2 : decode cX12_meanChoices 2 = .ok (.getfield 146, 3) := by decide +kernel
theorem dX12_meanChoices_5 : decode cX12_meanChoices 5 = .ok (.ifCond .ne 7, 3) := by decide +kernel
theorem dX12_meanChoices_8 : decode cX12_meanChoices 8 = .ok (.iconst 1, 1) := by decide +kernel
theorem dX12_meanChoices_9 : decode cX12_meanChoices 9 = .ok (.goto 4, 3) := by decide +kernel
theorem dX12_meanChoices_12 : decode cX12_meanChoices 12 = .ok (.iconst 0, 1) := by decide +kernel
theorem dX12_meanChoices_13 : decode cX12_meanChoices 13 = .ok (.putfield 122, 3) := by decide +kernel
theorem dX12_meanChoices_16 : decode cX12_meanChoices 16 = .ok (.iconst 0, 1) := by decide +kernel
theorem dX12_meanChoices_17 : decode cX12_meanChoices 17 = .ok (.istore_n 1, 1) := by decide +kernel
theorem dX12_meanChoices_18 : decode cX12_meanChoices 18 = .ok (.iconst 0, 1) := by decide +kernel
theorem dX12_meanChoices_19 : decode cX12_meanChoices 19 = .ok (.istore_n 2, 1) := by decide +kernel
theorem dX12_meanChoices_20 : decode cX12_meanChoices 20 = .ok (.iload_n 2, 1) := by decide +kernel
theorem dX12_meanChoices_21 : decode cX12_meanChoices 21 = .ok (.aload_n 0, 1) := by decide +kernel
theorem dX12_meanChoices_22 : decode cX12_meanChoices 22 = .ok (.getfield 146, 3) := by decide +kernel
theorem dX12_meanChoices_25 : decode cX12_meanChoices 25 = .ok (.if_icmp .ge 18, 3) := by decide +kernel
theorem dX12_meanChoices_28 : decode cX12_meanChoices 28 = .ok (.iload_n 1, 1) := by decide +kernel
theorem dX12_meanChoices_29 : decode cX12_meanChoices 29 = .ok (.aload_n 0, 1) := by decide +kernel
theorem dX12_meanChoices_30 : decode cX12_meanChoices 30 = .ok (.getfield 16, 3) := by decide +kernel
theorem dX12_meanChoices_33 : decode cX12_meanChoices 33 = .ok (.iload_n 2, 1) := by decide +kernel
theorem dX12_meanChoices_34 : decode cX12_meanChoices 34 = .ok (.iaload, 1) := by decide +kernel
theorem dX12_meanChoices_35 : decode cX12_meanChoices 35 = .ok (.iadd, 1) := by decide +kernel
theorem dX12_meanChoices_36 : decode cX12_meanChoices 36 = .ok (.istore_n 1, 1) := by decide +kernel
theorem dX12_meanChoices_37 : decode cX12_meanChoices 37 = .ok (.iinc 2 1, 3) := by decide +kernel
theorem dX12_meanChoices_40 : decode cX12_meanChoices 40 = .ok (.goto (-20), 3) := by decide +kernel
theorem dX12_meanChoices_43 : decode cX12_meanChoices 43 = .ok (.aload_n 0, 1) := by decide +kernel
theorem dX12_meanChoices_44 : decode cX12_meanChoices 44 = .ok (.getfield 146, 3) := by decide +kernel
theorem dX12_meanChoices_47 : decode cX12_meanChoices 47 = .ok (.ifCond .ne 7, 3) := by decide +kernel
theorem dX12_meanChoices_50 : decode cX12_meanChoices 50 = .ok (.dconst 0, 1) := by decide +kernel
theorem dX12_meanChoices_51 : decode cX12_meanChoices 51 = .ok (.goto 11, 3) := by decide +kernel
theorem dX12_meanChoices_54 : decode cX12_meanChoices 54 = .ok (.iload_n 1, 1) := by decide +kernel
theorem dX12_meanChoices_55 : decode cX12_meanChoices 55 = .ok (.i2d, 1) := by decide +kernel
theorem dX12_meanChoices_56 : decode cX12_meanChoices 56 = .ok (.aload_n 0, 1) := by decide +kernel
theorem dX12_meanChoices_57 : decode cX12_meanChoices 57 = .ok (.getfield 146, 3) := by decide +kernel
theorem dX12_meanChoices_60 : decode cX12_meanChoices 60 = .ok (.i2d, 1) := by decide +kernel
theorem dX12_meanChoices_61 : decode cX12_meanChoices 61 = .ok (.ddiv, 1) := by decide +kernel
theorem dX12_meanChoices_62 : decode cX12_meanChoices 62 = .ok (.dreturn, 1) := by decide +kernel
theorem dX12_isConsistent_0 : decode cX12_isConsistent 0 = .ok (.aload_n 0, 1) := by decide +kernel
theorem dX12_isConsistent_1 : decode cX12_isConsistent 1 = .ok (.iconst 0, 1) := by decide +kernel
theorem dX12_isConsistent_2 : decode cX12_isConsistent 2 = .ok (.putfield 122, 3) := by decide +kernel
theorem dX12_isConsistent_5 : decode cX12_isConsistent 5 = .ok (.iconst 1, 1) := by decide +kernel
theorem dX12_isConsistent_6 : decode cX12_isConsistent 6 = .ok (.ireturn, 1) := by decide +kernel
