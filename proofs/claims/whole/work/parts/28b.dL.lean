theorem dL_endOf_16 : decode cL_endOf 16 = .ok (.iconst 2, 1) := by decide +kernel
theorem dL_endOf_17 : decode cL_endOf 17 = .ok (.ireturn, 1) := by decide +kernel
theorem dL_endOf_18 : decode cL_endOf 18 = .ok (.astore_n 3, 1) := by decide +kernel
theorem dL_endOf_19 : decode cL_endOf 19 = .ok (.iconst 3, 1) := by decide +kernel
theorem dL_endOf_20 : decode cL_endOf 20 = .ok (.ireturn, 1) := by decide +kernel
theorem dL_endOf_21 : decode cL_endOf 21 = .ok (.iconst 0, 1) := by decide +kernel
theorem dL_endOf_22 : decode cL_endOf 22 = .ok (.ireturn, 1) := by decide +kernel
theorem dL_classOf_0 : decode cL_classOf 0 = .ok (.aload_n 2, 1) := by decide +kernel
theorem dL_classOf_1 : decode cL_classOf 1 = .ok (.iconst 0, 1) := by decide +kernel
theorem dL_classOf_2 : decode cL_classOf 2 = .ok (.aload_n 0, 1) := by decide +kernel
theorem dL_classOf_3 : decode cL_classOf 3 = .ok (.iload_n 1, 1) := by decide +kernel
theorem dL_classOf_4 : decode cL_classOf 4 = .ok (.invokevirtual 112, 3) := by decide +kernel
theorem dL_classOf_7 : decode cL_classOf 7 = .ok (.i2l, 1) := by decide +kernel
theorem dL_classOf_8 : decode cL_classOf 8 = .ok (.lastore, 1) := by decide +kernel
theorem dL_classOf_9 : decode cL_classOf 9 = .ok (.goto 9, 3) := by decide +kernel
theorem dL_classOf_12 : decode cL_classOf 12 = .ok (.astore_n 3, 1) := by decide +kernel
theorem dL_classOf_13 : decode cL_classOf 13 = .ok (.iconst 1, 1) := by decide +kernel
theorem dL_classOf_14 : decode cL_classOf 14 = .ok (.ireturn, 1) := by decide +kernel
theorem dL_classOf_15 : decode cL_classOf 15 = .ok (.astore_n 3, 1) := by decide +kernel
theorem dL_classOf_16 : decode cL_classOf 16 = .ok (.iconst 2, 1) := by decide +kernel
theorem dL_classOf_17 : decode cL_classOf 17 = .ok (.ireturn, 1) := by decide +kernel
theorem dL_classOf_18 : decode cL_classOf 18 = .ok (.iconst 0, 1) := by decide +kernel
theorem dL_classOf_19 : decode cL_classOf 19 = .ok (.ireturn, 1) := by decide +kernel
theorem dL_classes_0 : decode cL_classes 0 = .ok (.aload_n 1, 1) := by decide +kernel
theorem dL_classes_1 : decode cL_classes 1 = .ok (.iconst 0, 1) := by decide +kernel
theorem dL_classes_2 : decode cL_classes 2 = .ok (.aload_n 0, 1) := by decide +kernel
theorem dL_classes_3 : decode cL_classes 3 = .ok (.invokevirtual 115, 3) := by decide +kernel
theorem dL_classes_6 : decode cL_classes 6 = .ok (.i2l, 1) := by decide +kernel
theorem dL_classes_7 : decode cL_classes 7 = .ok (.lastore, 1) := by decide +kernel
theorem dL_classes_8 : decode cL_classes 8 = .ok (.goto 6, 3) := by decide +kernel
theorem dL_classes_11 : decode cL_classes 11 = .ok (.astore_n 2, 1) := by decide +kernel
theorem dL_classes_12 : decode cL_classes 12 = .ok (.iconst 1, 1) := by decide +kernel
theorem dL_classes_13 : decode cL_classes 13 = .ok (.ireturn, 1) := by decide +kernel
theorem dL_classes_14 : decode cL_classes 14 = .ok (.iconst 0, 1) := by decide +kernel
theorem dL_classes_15 : decode cL_classes 15 = .ok (.ireturn, 1) := by decide +kernel
theorem dL_traceLength_0 : decode cL_traceLength 0 = .ok (.aload_n 2, 1) := by decide +kernel
theorem dL_traceLength_1 : decode cL_traceLength 1 = .ok (.iconst 0, 1) := by decide +kernel
theorem dL_traceLength_2 : decode cL_traceLength 2 = .ok (.aload_n 0, 1) := by decide +kernel
theorem dL_traceLength_3 : decode cL_traceLength 3 = .ok (.iload_n 1, 1) := by decide +kernel
theorem dL_traceLength_4 : decode cL_traceLength 4 = .ok (.invokevirtual 119, 3) := by decide +kernel
theorem dL_traceLength_7 : decode cL_traceLength 7 = .ok (.i2l, 1) := by decide +kernel
theorem dL_traceLength_8 : decode cL_traceLength 8 = .ok (.lastore, 1) := by decide +kernel
theorem dL_traceLength_9 : decode cL_traceLength 9 = .ok (.goto 12, 3) := by decide +kernel
theorem dL_traceLength_12 : decode cL_traceLength 12 = .ok (.astore_n 3, 1) := by decide +kernel
theorem dL_traceLength_13 : decode cL_traceLength 13 = .ok (.iconst 1, 1) := by decide +kernel
theorem dL_traceLength_14 : decode cL_traceLength 14 = .ok (.ireturn, 1) := by decide +kernel
theorem dL_traceLength_15 : decode cL_traceLength 15 = .ok (.astore_n 3, 1) := by decide +kernel
theorem dL_traceLength_16 : decode cL_traceLength 16 = .ok (.iconst 2, 1) := by decide +kernel
theorem dL_traceLength_17 : decode cL_traceLength 17 = .ok (.ireturn, 1) := by decide +kernel
theorem dL_traceLength_18 : decode cL_traceLength 18 = .ok (.astore_n 3, 1) := by decide +kernel
theorem dL_traceLength_19 : decode cL_traceLength 19 = .ok (.iconst 3, 1) := by decide +kernel
theorem dL_traceLength_20 : decode cL_traceLength 20 = .ok (.ireturn, 1) := by decide +kernel
theorem dL_traceLength_21 : decode cL_traceLength 21 = .ok (.iconst 0, 1) := by decide +kernel
theorem dL_traceLength_22 : decode cL_traceLength 22 = .ok (.ireturn, 1) := by decide +kernel
theorem dL_traceAt_0 : decode cL_traceAt 0 = .ok (.aload_n 3, 1) := by decide +kernel
theorem dL_traceAt_1 : decode cL_traceAt 1 = .ok (.iconst 0, 1) := by decide +kernel
theorem dL_traceAt_2 : decode cL_traceAt 2 = .ok (.aload_n 0, 1) := by decide +kernel
theorem dL_traceAt_3 : decode cL_traceAt 3 = .ok (.iload_n 1, 1) := by decide +kernel
theorem dL_traceAt_4 : decode cL_traceAt 4 = .ok (.iload_n 2, 1) := by decide +kernel
theorem dL_traceAt_5 : decode cL_traceAt 5 = .ok (.invokevirtual 122, 3) := by decide +kernel
theorem dL_traceAt_8 : decode cL_traceAt 8 = .ok (.i2l, 1) := by decide +kernel
theorem dL_traceAt_9 : decode cL_traceAt 9 = .ok (.lastore, 1) := by decide +kernel
theorem dL_traceAt_10 : decode cL_traceAt 10 = .ok (.goto 15, 3) := by decide +kernel
theorem dL_traceAt_13 : decode cL_traceAt 13 = .ok (.astore 4, 2) := by decide +kernel
theorem dL_traceAt_15 : decode cL_traceAt 15 = .ok (.iconst 1, 1) := by decide +kernel
theorem dL_traceAt_16 : decode cL_traceAt 16 = .ok (.ireturn, 1) := by decide +kernel
theorem dL_traceAt_17 : decode cL_traceAt 17 = .ok (.astore 4, 2) := by decide +kernel
theorem dL_traceAt_19 : decode cL_traceAt 19 = .ok (.iconst 2, 1) := by decide +kernel
theorem dL_traceAt_20 : decode cL_traceAt 20 = .ok (.ireturn, 1) := by decide +kernel
theorem dL_traceAt_21 : decode cL_traceAt 21 = .ok (.astore 4, 2) := by decide +kernel
theorem dL_traceAt_23 : decode cL_traceAt 23 = .ok (.iconst 3, 1) := by decide +kernel
theorem dL_traceAt_24 : decode cL_traceAt 24 = .ok (.ireturn, 1) := by decide +kernel
theorem dL_traceAt_25 : decode cL_traceAt 25 = .ok (.iconst 0, 1) := by decide +kernel
theorem dL_traceAt_26 : decode cL_traceAt 26 = .ok (.ireturn, 1) := by decide +kernel
theorem dL_traceAbove_0 : decode cL_traceAbove 0 = .ok (.aload_n 2, 1) := by decide +kernel
theorem dL_traceAbove_1 : decode cL_traceAbove 1 = .ok (.iconst 0, 1) := by decide +kernel
theorem dL_traceAbove_2 : decode cL_traceAbove 2 = .ok (.aload_n 0, 1) := by decide +kernel
theorem dL_traceAbove_3 : decode cL_traceAbove 3 = .ok (.iload_n 1, 1) := by decide +kernel
theorem dL_traceAbove_4 : decode cL_traceAbove 4 = .ok (.invokevirtual 125, 3) := by decide +kernel
theorem dL_traceAbove_7 : decode cL_traceAbove 7 = .ok (.lastore, 1) := by decide +kernel
theorem dL_traceAbove_8 : decode cL_traceAbove 8 = .ok (.goto 12, 3) := by decide +kernel
theorem dL_traceAbove_11 : decode cL_traceAbove 11 = .ok (.astore_n 3, 1) := by decide +kernel
theorem dL_traceAbove_12 : decode cL_traceAbove 12 = .ok (.iconst 1, 1) := by decide +kernel
theorem dL_traceAbove_13 : decode cL_traceAbove 13 = .ok (.ireturn, 1) := by decide +kernel
theorem dL_traceAbove_14 : decode cL_traceAbove 14 = .ok (.astore_n 3, 1) := by decide +kernel
theorem dL_traceAbove_15 : decode cL_traceAbove 15 = .ok (.iconst 2, 1) := by decide +kernel
theorem dL_traceAbove_16 : decode cL_traceAbove 16 = .ok (.ireturn, 1) := by decide +kernel
theorem dL_traceAbove_17 : decode cL_traceAbove 17 = .ok (.astore_n 3, 1) := by decide +kernel
theorem dL_traceAbove_18 : decode cL_traceAbove 18 = .ok (.iconst 3, 1) := by decide +kernel
theorem dL_traceAbove_19 : decode cL_traceAbove 19 = .ok (.ireturn, 1) := by decide +kernel
theorem dL_traceAbove_20 : decode cL_traceAbove 20 = .ok (.iconst 0, 1) := by decide +kernel
theorem dL_traceAbove_21 : decode cL_traceAbove 21 = .ok (.ireturn, 1) := by decide +kernel
theorem dL_traceBelow_0 : decode cL_traceBelow 0 = .ok (.aload_n 2, 1) := by decide +kernel
theorem dL_traceBelow_1 : decode cL_traceBelow 1 = .ok (.iconst 0, 1) := by decide +kernel
theorem dL_traceBelow_2 : decode cL_traceBelow 2 = .ok (.aload_n 0, 1) := by decide +kernel
theorem dL_traceBelow_3 : decode cL_traceBelow 3 = .ok (.iload_n 1, 1) := by decide +kernel
theorem dL_traceBelow_4 : decode cL_traceBelow 4 = .ok (.invokevirtual 129, 3) := by decide +kernel
theorem dL_traceBelow_7 : decode cL_traceBelow 7 = .ok (.lastore, 1) := by decide +kernel
theorem dL_traceBelow_8 : decode cL_traceBelow 8 = .ok (.goto 12, 3) := by decide +kernel
theorem dL_traceBelow_11 : decode cL_traceBelow 11 = .ok (.astore_n 3, 1) := by decide +kernel
theorem dL_traceBelow_12 : decode cL_traceBelow 12 = .ok (.iconst 1, 1) := by decide +kernel
theorem dL_traceBelow_13 : decode cL_traceBelow 13 = .ok (.ireturn, 1) := by decide +kernel
theorem dL_traceBelow_14 : decode cL_traceBelow 14 = .ok (.astore_n 3, 1) := by decide +kernel
theorem dL_traceBelow_15 : decode cL_traceBelow 15 = .ok (.iconst 2, 1) := by decide +kernel
theorem dL_traceBelow_16 : decode cL_traceBelow 16 = .ok (.ireturn, 1) := by decide +kernel
theorem dL_traceBelow_17 : decode cL_traceBelow 17 = .ok (.astore_n 3, 1) := by decide +kernel
theorem dL_traceBelow_18 : decode cL_traceBelow 18 = .ok (.iconst 3, 1) := by decide +kernel
theorem dL_traceBelow_19 : decode cL_traceBelow 19 = .ok (.ireturn, 1) := by decide +kernel
theorem dL_traceBelow_20 : decode cL_traceBelow 20 = .ok (.iconst 0, 1) := by decide +kernel
theorem dL_traceBelow_21 : decode cL_traceBelow 21 = .ok (.ireturn, 1) := by decide +kernel
theorem dL_meanChoices_0 : decode cL_meanChoices 0 = .ok (.aload_n 1, 1) := by decide +kernel
theorem dL_meanChoices_1 : decode cL_meanChoices 1 = .ok (.iconst 0, 1) := by decide +kernel
theorem dL_meanChoices_2 : decode cL_meanChoices 2 = .ok (.aload_n 0, 1) := by decide +kernel
theorem dL_meanChoices_3 : decode cL_meanChoices 3 = .ok (.invokevirtual 132, 3) := by decide +kernel
theorem dL_meanChoices_6 : decode cL_meanChoices 6 = .ok (.dastore, 1) := by decide +kernel
theorem dL_meanChoices_7 : decode cL_meanChoices 7 = .ok (.goto 6, 3) := by decide +kernel
theorem dL_meanChoices_10 : decode cL_meanChoices 10 = .ok (.astore_n 2, 1) := by decide +kernel
theorem dL_meanChoices_11 : decode cL_meanChoices 11 = .ok (.iconst 1, 1) := by decide +kernel
theorem dL_meanChoices_12 : decode cL_meanChoices 12 = .ok (.ireturn, 1) := by decide +kernel
theorem dL_meanChoices_13 : decode cL_meanChoices 13 = .ok (.iconst 0, 1) := by decide +kernel
theorem dL_meanChoices_14 : decode cL_meanChoices 14 = .ok (.ireturn, 1) := by decide +kernel
theorem dL_law_0 : decode cL_law 0 = .ok (.new 8, 3) := by decide +kernel
theorem dL_law_3 : decode cL_law 3 = .ok (.dup, 1) := by decide +kernel
theorem dL_law_4 : decode cL_law 4 = .ok (.invokespecial 136, 3) := by decide +kernel
theorem dL_law_7 : decode cL_law 7 = .ok (.astore_n 1, 1) := by decide +kernel
theorem dL_law_8 : decode cL_law 8 = .ok (.new 137, 3) := by decide +kernel
theorem dL_law_11 : decode cL_law 11 = .ok (.dup, 1) := by decide +kernel
theorem dL_law_12 : decode cL_law 12 = .ok (.invokespecial 139, 3) := by decide +kernel
theorem dL_law_15 : decode cL_law 15 = .ok (.astore_n 2, 1) := by decide +kernel
theorem dL_law_16 : decode cL_law 16 = .ok (.iconst 1, 1) := by decide +kernel
theorem dL_law_17 : decode cL_law 17 = .ok (.newarray .long, 2) := by decide +kernel
theorem dL_law_19 : decode cL_law 19 = .ok (.astore_n 3, 1) := by decide +kernel
theorem dL_law_20 : decode cL_law 20 = .ok (.iconst 1, 1) := by decide +kernel
theorem dL_law_21 : decode cL_law 21 = .ok (.newarray .double, 2) := by decide +kernel
theorem dL_law_23 : decode cL_law 23 = .ok (.astore 4, 2) := by decide +kernel
theorem dL_law_25 : decode cL_law 25 = .ok (.iconst 0, 1) := by decide +kernel
theorem dL_law_26 : decode cL_law 26 = .ok (.istore 5, 2) := by decide +kernel
theorem dL_law_28 : decode cL_law 28 = .ok (.iload 5, 2) := by decide +kernel
theorem dL_law_30 : decode cL_law 30 = .ok (.aload_n 0, 1) := by decide +kernel
theorem dL_law_31 : decode cL_law 31 = .ok (.arraylength, 1) := by decide +kernel
theorem dL_law_32 : decode cL_law 32 = .ok (.iconst 5, 1) := by decide +kernel
theorem dL_law_33 : decode cL_law 33 = .ok (.isub, 1) := by decide +kernel
theorem dL_law_34 : decode cL_law 34 = .ok (.if_icmp .gt 2565, 3) := by decide +kernel
theorem dL_law_37 : decode cL_law 37 = .ok (.aload_n 0, 1) := by decide +kernel
theorem dL_law_38 : decode cL_law 38 = .ok (.iload 5, 2) := by decide +kernel
theorem dL_law_40 : decode cL_law 40 = .ok (.iaload, 1) := by decide +kernel
theorem dL_law_41 : decode cL_law 41 = .ok (.bipush 63, 2) := by decide +kernel
theorem dL_law_43 : decode cL_law 43 = .ok (.iand, 1) := by decide +kernel
theorem dL_law_44 : decode cL_law 44 = .ok (.tableswitch 2549 0 36 #[164, 234, 314, 406, 497, 565, 633, 646, 702, 782, 795, 864, 933, 1002, 1071, 1163, 1255, 1324, 1413, 1476, 1539, 1597, 1665, 1721, 1790, 1859, 1942, 2025, 2081, 2137, 2193, 2237, 2293, 2361, 2416, 2471, 2536], 164) := by decide +kernel
theorem dL_law_208 : decode cL_law 208 = .ok (.aload_n 1, 1) := by decide +kernel
theorem dL_law_209 : decode cL_law 209 = .ok (.aload_n 0, 1) := by decide +kernel
theorem dL_law_210 : decode cL_law 210 = .ok (.iload 5, 2) := by decide +kernel
theorem dL_law_212 : decode cL_law 212 = .ok (.iconst 1, 1) := by decide +kernel
theorem dL_law_213 : decode cL_law 213 = .ok (.iadd, 1) := by decide +kernel
theorem dL_law_214 : decode cL_law 214 = .ok (.iaload, 1) := by decide +kernel
theorem dL_law_215 : decode cL_law 215 = .ok (.i2c, 1) := by decide +kernel
theorem dL_law_216 : decode cL_law 216 = .ok (.aload_n 0, 1) := by decide +kernel
theorem dL_law_217 : decode cL_law 217 = .ok (.iload 5, 2) := by decide +kernel
theorem dL_law_219 : decode cL_law 219 = .ok (.iconst 2, 1) := by decide +kernel
theorem dL_law_220 : decode cL_law 220 = .ok (.iadd, 1) := by decide +kernel
theorem dL_law_221 : decode cL_law 221 = .ok (.iaload, 1) := by decide +kernel
theorem dL_law_222 : decode cL_law 222 = .ok (.aload_n 3, 1) := by decide +kernel
theorem dL_law_223 : decode cL_law 223 = .ok (.invokestatic 140, 3) := by decide +kernel
theorem dL_law_226 : decode cL_law 226 = .ok (.istore 6, 2) := by decide +kernel
theorem dL_law_228 : decode cL_law 228 = .ok (.aload_n 2, 1) := by decide +kernel
theorem dL_law_229 : decode cL_law 229 = .ok (.aload_n 0, 1) := by decide +kernel
theorem dL_law_230 : decode cL_law 230 = .ok (.iload 5, 2) := by decide +kernel
theorem dL_law_232 : decode cL_law 232 = .ok (.iconst 1, 1) := by decide +kernel
theorem dL_law_233 : decode cL_law 233 = .ok (.iadd, 1) := by decide +kernel
theorem dL_law_234 : decode cL_law 234 = .ok (.iaload, 1) := by decide +kernel
theorem dL_law_235 : decode cL_law 235 = .ok (.i2c, 1) := by decide +kernel
theorem dL_law_236 : decode cL_law 236 = .ok (.aload_n 0, 1) := by decide +kernel
theorem dL_law_237 : decode cL_law 237 = .ok (.iload 5, 2) := by decide +kernel
theorem dL_law_239 : decode cL_law 239 = .ok (.iconst 2, 1) := by decide +kernel
theorem dL_law_240 : decode cL_law 240 = .ok (.iadd, 1) := by decide +kernel
theorem dL_law_241 : decode cL_law 241 = .ok (.iaload, 1) := by decide +kernel
theorem dL_law_242 : decode cL_law 242 = .ok (.invokevirtual 145, 3) := by decide +kernel
theorem dL_law_245 : decode cL_law 245 = .ok (.istore 7, 2) := by decide +kernel
theorem dL_law_247 : decode cL_law 247 = .ok (.aload_n 2, 1) := by decide +kernel
theorem dL_law_248 : decode cL_law 248 = .ok (.invokevirtual 146, 3) := by decide +kernel
theorem dL_law_251 : decode cL_law 251 = .ok (.iload 6, 2) := by decide +kernel
theorem dL_law_253 : decode cL_law 253 = .ok (.if_icmp .eq 5, 3) := by decide +kernel
theorem dL_law_256 : decode cL_law 256 = .ok (.iconst 0, 1) := by decide +kernel
theorem dL_law_257 : decode cL_law 257 = .ok (.ireturn, 1) := by decide +kernel
theorem dL_law_258 : decode cL_law 258 = .ok (.iload 6, 2) := by decide +kernel
theorem dL_law_260 : decode cL_law 260 = .ok (.ifCond .ne 15, 3) := by decide +kernel
theorem dL_law_263 : decode cL_law 263 = .ok (.aload_n 3, 1) := by decide +kernel
theorem dL_law_264 : decode cL_law 264 = .ok (.iconst 0, 1) := by decide +kernel
theorem dL_law_265 : decode cL_law 265 = .ok (.laload, 1) := by decide +kernel
theorem dL_law_266 : decode cL_law 266 = .ok (.iload 7, 2) := by decide +kernel
theorem dL_law_268 : decode cL_law 268 = .ok (.i2l, 1) := by decide +kernel
theorem dL_law_269 : decode cL_law 269 = .ok (.lcmp, 1) := by decide +kernel
theorem dL_law_270 : decode cL_law 270 = .ok (.ifCond .eq 5, 3) := by decide +kernel
theorem dL_law_273 : decode cL_law 273 = .ok (.iconst 0, 1) := by decide +kernel
theorem dL_law_274 : decode cL_law 274 = .ok (.ireturn, 1) := by decide +kernel
theorem dL_law_275 : decode cL_law 275 = .ok (.goto 2318, 3) := by decide +kernel
theorem dL_law_278 : decode cL_law 278 = .ok (.aload_n 1, 1) := by decide +kernel
theorem dL_law_279 : decode cL_law 279 = .ok (.aload_n 0, 1) := by decide +kernel
theorem dL_law_280 : decode cL_law 280 = .ok (.iload 5, 2) := by decide +kernel
theorem dL_law_282 : decode cL_law 282 = .ok (.iconst 1, 1) := by decide +kernel
theorem dL_law_283 : decode cL_law 283 = .ok (.iadd, 1) := by decide +kernel
theorem dL_law_284 : decode cL_law 284 = .ok (.iaload, 1) := by decide +kernel
theorem dL_law_285 : decode cL_law 285 = .ok (.aload_n 0, 1) := by decide +kernel
theorem dL_law_286 : decode cL_law 286 = .ok (.iload 5, 2) := by decide +kernel
theorem dL_law_288 : decode cL_law 288 = .ok (.iconst 2, 1) := by decide +kernel
theorem dL_law_289 : decode cL_law 289 = .ok (.iadd, 1) := by decide +kernel
theorem dL_law_290 : decode cL_law 290 = .ok (.iaload, 1) := by decide +kernel
theorem dL_law_291 : decode cL_law 291 = .ok (.aload_n 0, 1) := by decide +kernel
theorem dL_law_292 : decode cL_law 292 = .ok (.iload 5, 2) := by decide +kernel
theorem dL_law_294 : decode cL_law 294 = .ok (.iconst 3, 1) := by decide +kernel
theorem dL_law_295 : decode cL_law 295 = .ok (.iadd, 1) := by decide +kernel
theorem dL_law_296 : decode cL_law 296 = .ok (.iaload, 1) := by decide +kernel
theorem dL_law_297 : decode cL_law 297 = .ok (.aload_n 3, 1) := by decide +kernel
theorem dL_law_298 : decode cL_law 298 = .ok (.invokestatic 149, 3) := by decide +kernel
theorem dL_law_301 : decode cL_law 301 = .ok (.istore 6, 2) := by decide +kernel
theorem dL_law_303 : decode cL_law 303 = .ok (.aload_n 2, 1) := by decide +kernel
theorem dL_law_304 : decode cL_law 304 = .ok (.aload_n 0, 1) := by decide +kernel
theorem dL_law_305 : decode cL_law 305 = .ok (.iload 5, 2) := by decide +kernel
theorem dL_law_307 : decode cL_law 307 = .ok (.iconst 1, 1) := by decide +kernel
theorem dL_law_308 : decode cL_law 308 = .ok (.iadd, 1) := by decide +kernel
theorem dL_law_309 : decode cL_law 309 = .ok (.iaload, 1) := by decide +kernel
theorem dL_law_310 : decode cL_law 310 = .ok (.aload_n 0, 1) := by decide +kernel
theorem dL_law_311 : decode cL_law 311 = .ok (.iload 5, 2) := by decide +kernel
theorem dL_law_313 : decode cL_law 313 = .ok (.iconst 2, 1) := by decide +kernel
theorem dL_law_314 : decode cL_law 314 = .ok (.iadd, 1) := by decide +kernel
theorem dL_law_315 : decode cL_law 315 = .ok (.iaload, 1) := by decide +kernel
theorem dL_law_316 : decode cL_law 316 = .ok (.aload_n 0, 1) := by decide +kernel
theorem dL_law_317 : decode cL_law 317 = .ok (.iload 5, 2) := by decide +kernel
theorem dL_law_319 : decode cL_law 319 = .ok (.iconst 3, 1) := by decide +kernel
theorem dL_law_320 : decode cL_law 320 = .ok (.iadd, 1) := by decide +kernel
theorem dL_law_321 : decode cL_law 321 = .ok (.iaload, 1) := by decide +kernel
theorem dL_law_322 : decode cL_law 322 = .ok (.invokevirtual 152, 3) := by decide +kernel
theorem dL_law_325 : decode cL_law 325 = .ok (.istore 7, 2) := by decide +kernel
theorem dL_law_327 : decode cL_law 327 = .ok (.aload_n 2, 1) := by decide +kernel
theorem dL_law_328 : decode cL_law 328 = .ok (.invokevirtual 146, 3) := by decide +kernel
theorem dL_law_331 : decode cL_law 331 = .ok (.iload 6, 2) := by decide +kernel
theorem dL_law_333 : decode cL_law 333 = .ok (.if_icmp .eq 5, 3) := by decide +kernel
theorem dL_law_336 : decode cL_law 336 = .ok (.iconst 0, 1) := by decide +kernel
theorem dL_law_337 : decode cL_law 337 = .ok (.ireturn, 1) := by decide +kernel
theorem dL_law_338 : decode cL_law 338 = .ok (.iload 6, 2) := by decide +kernel
theorem dL_law_340 : decode cL_law 340 = .ok (.ifCond .ne 15, 3) := by decide +kernel
theorem dL_law_343 : decode cL_law 343 = .ok (.aload_n 3, 1) := by decide +kernel
theorem dL_law_344 : decode cL_law 344 = .ok (.iconst 0, 1) := by decide +kernel
theorem dL_law_345 : decode cL_law 345 = .ok (.laload, 1) := by decide +kernel
theorem dL_law_346 : decode cL_law 346 = .ok (.iload 7, 2) := by decide +kernel
theorem dL_law_348 : decode cL_law 348 = .ok (.i2l, 1) := by decide +kernel
theorem dL_law_349 : decode cL_law 349 = .ok (.lcmp, 1) := by decide +kernel
theorem dL_law_350 : decode cL_law 350 = .ok (.ifCond .eq 5, 3) := by decide +kernel
theorem dL_law_353 : decode cL_law 353 = .ok (.iconst 0, 1) := by decide +kernel
theorem dL_law_354 : decode cL_law 354 = .ok (.ireturn, 1) := by decide +kernel
theorem dL_law_355 : decode cL_law 355 = .ok (.goto 2238, 3) := by decide +kernel
theorem dL_law_358 : decode cL_law 358 = .ok (.aload_n 1, 1) := by decide +kernel
theorem dL_law_359 : decode cL_law 359 = .ok (.aload_n 0, 1) := by decide +kernel
theorem dL_law_360 : decode cL_law 360 = .ok (.iload 5, 2) := by decide +kernel
theorem dL_law_362 : decode cL_law 362 = .ok (.iconst 1, 1) := by decide +kernel
theorem dL_law_363 : decode cL_law 363 = .ok (.iadd, 1) := by decide +kernel
theorem dL_law_364 : decode cL_law 364 = .ok (.iaload, 1) := by decide +kernel
theorem dL_law_365 : decode cL_law 365 = .ok (.aload_n 0, 1) := by decide +kernel
theorem dL_law_366 : decode cL_law 366 = .ok (.iload 5, 2) := by decide +kernel
theorem dL_law_368 : decode cL_law 368 = .ok (.iconst 2, 1) := by decide +kernel
theorem dL_law_369 : decode cL_law 369 = .ok (.iadd, 1) := by decide +kernel
theorem dL_law_370 : decode cL_law 370 = .ok (.iaload, 1) := by decide +kernel
theorem dL_law_371 : decode cL_law 371 = .ok (.aload_n 0, 1) := by decide +kernel
theorem dL_law_372 : decode cL_law 372 = .ok (.iload 5, 2) := by decide +kernel
theorem dL_law_374 : decode cL_law 374 = .ok (.iconst 3, 1) := by decide +kernel
theorem dL_law_375 : decode cL_law 375 = .ok (.iadd, 1) := by decide +kernel
theorem dL_law_376 : decode cL_law 376 = .ok (.iaload, 1) := by decide +kernel
theorem dL_law_377 : decode cL_law 377 = .ok (.aload_n 0, 1) := by decide +kernel
theorem dL_law_378 : decode cL_law 378 = .ok (.iload 5, 2) := by decide +kernel
theorem dL_law_380 : decode cL_law 380 = .ok (.iconst 4, 1) := by decide +kernel
theorem dL_law_381 : decode cL_law 381 = .ok (.iadd, 1) := by decide +kernel
theorem dL_law_382 : decode cL_law 382 = .ok (.iaload, 1) := by decide +kernel
theorem dL_law_383 : decode cL_law 383 = .ok (.aload_n 3, 1) := by decide +kernel
theorem dL_law_384 : decode cL_law 384 = .ok (.invokestatic 153, 3) := by decide +kernel
theorem dL_law_387 : decode cL_law 387 = .ok (.istore 6, 2) := by decide +kernel
theorem dL_law_389 : decode cL_law 389 = .ok (.aload_n 2, 1) := by decide +kernel
theorem dL_law_390 : decode cL_law 390 = .ok (.aload_n 0, 1) := by decide +kernel
theorem dL_law_391 : decode cL_law 391 = .ok (.iload 5, 2) := by decide +kernel
theorem dL_law_393 : decode cL_law 393 = .ok (.iconst 1, 1) := by decide +kernel
theorem dL_law_394 : decode cL_law 394 = .ok (.iadd, 1) := by decide +kernel
theorem dL_law_395 : decode cL_law 395 = .ok (.iaload, 1) := by decide +kernel
theorem dL_law_396 : decode cL_law 396 = .ok (.aload_n 0, 1) := by decide +kernel
theorem dL_law_397 : decode cL_law 397 = .ok (.iload 5, 2) := by decide +kernel
theorem dL_law_399 : decode cL_law 399 = .ok (.iconst 2, 1) := by decide +kernel
theorem dL_law_400 : decode cL_law 400 = .ok (.iadd, 1) := by decide +kernel
theorem dL_law_401 : decode cL_law 401 = .ok (.iaload, 1) := by decide +kernel
theorem dL_law_402 : decode cL_law 402 = .ok (.aload_n 0, 1) := by decide +kernel
theorem dL_law_403 : decode cL_law 403 = .ok (.iload 5, 2) := by decide +kernel
theorem dL_law_405 : decode cL_law 405 = .ok (.iconst 3, 1) := by decide +kernel
theorem dL_law_406 : decode cL_law 406 = .ok (.iadd, 1) := by decide +kernel
theorem dL_law_407 : decode cL_law 407 = .ok (.iaload, 1) := by decide +kernel
theorem dL_law_408 : decode cL_law 408 = .ok (.aload_n 0, 1) := by decide +kernel
theorem dL_law_409 : decode cL_law 409 = .ok (.iload 5, 2) := by decide +kernel
theorem dL_law_411 : decode cL_law 411 = .ok (.iconst 4, 1) := by decide +kernel
theorem dL_law_412 : decode cL_law 412 = .ok (.iadd, 1) := by decide +kernel
theorem dL_law_413 : decode cL_law 413 = .ok (.iaload, 1) := by decide +kernel
theorem dL_law_414 : decode cL_law 414 = .ok (.invokevirtual 156, 3) := by decide +kernel
theorem dL_law_417 : decode cL_law 417 = .ok (.istore 7, 2) := by decide +kernel
theorem dL_law_419 : decode cL_law 419 = .ok (.aload_n 2, 1) := by decide +kernel
theorem dL_law_420 : decode cL_law 420 = .ok (.invokevirtual 146, 3) := by decide +kernel
theorem dL_law_423 : decode cL_law 423 = .ok (.iload 6, 2) := by decide +kernel
theorem dL_law_425 : decode cL_law 425 = .ok (.if_icmp .eq 5, 3) := by decide +kernel
theorem dL_law_428 : decode cL_law 428 = .ok (.iconst 0, 1) := by decide +kernel
theorem dL_law_429 : decode cL_law 429 = .ok (.ireturn, 1) := by decide +kernel
theorem dL_law_430 : decode cL_law 430 = .ok (.iload 6, 2) := by decide +kernel
theorem dL_law_432 : decode cL_law 432 = .ok (.ifCond .ne 15, 3) := by decide +kernel
theorem dL_law_435 : decode cL_law 435 = .ok (.aload_n 3, 1) := by decide +kernel
theorem dL_law_436 : decode cL_law 436 = .ok (.iconst 0, 1) := by decide +kernel
theorem dL_law_437 : decode cL_law 437 = .ok (.laload, 1) := by decide +kernel
theorem dL_law_438 : decode cL_law 438 = .ok (.iload 7, 2) := by decide +kernel
theorem dL_law_440 : decode cL_law 440 = .ok (.i2l, 1) := by decide +kernel
theorem dL_law_441 : decode cL_law 441 = .ok (.lcmp, 1) := by decide +kernel
theorem dL_law_442 : decode cL_law 442 = .ok (.ifCond .eq 5, 3) := by decide +kernel
theorem dL_law_445 : decode cL_law 445 = .ok (.iconst 0, 1) := by decide +kernel
theorem dL_law_446 : decode cL_law 446 = .ok (.ireturn, 1) := by decide +kernel
theorem dL_law_447 : decode cL_law 447 = .ok (.goto 2146, 3) := by decide +kernel
theorem dL_law_450 : decode cL_law 450 = .ok (.aload_n 1, 1) := by decide +kernel
theorem dL_law_451 : decode cL_law 451 = .ok (.aload_n 0, 1) := by decide +kernel
theorem dL_law_452 : decode cL_law 452 = .ok (.iload 5, 2) := by decide +kernel
theorem dL_law_454 : decode cL_law 454 = .ok (.iconst 1, 1) := by decide +kernel
theorem dL_law_455 : decode cL_law 455 = .ok (.iadd, 1) := by decide +kernel
theorem dL_law_456 : decode cL_law 456 = .ok (.iaload, 1) := by decide +kernel
theorem dL_law_457 : decode cL_law 457 = .ok (.aload_n 0, 1) := by decide +kernel
theorem dL_law_458 : decode cL_law 458 = .ok (.iload 5, 2) := by decide +kernel
theorem dL_law_460 : decode cL_law 460 = .ok (.iconst 2, 1) := by decide +kernel
theorem dL_law_461 : decode cL_law 461 = .ok (.iadd, 1) := by decide +kernel
theorem dL_law_462 : decode cL_law 462 = .ok (.iaload, 1) := by decide +kernel
theorem dL_law_463 : decode cL_law 463 = .ok (.ifCond .eq 7, 3) := by decide +kernel
theorem dL_law_466 : decode cL_law 466 = .ok (.iconst 1, 1) := by decide +kernel
theorem dL_law_467 : decode cL_law 467 = .ok (.goto 4, 3) := by decide +kernel
theorem dL_law_470 : decode cL_law 470 = .ok (.iconst 0, 1) := by decide +kernel
theorem dL_law_471 : decode cL_law 471 = .ok (.aload_n 3, 1) := by decide +kernel
theorem dL_law_472 : decode cL_law 472 = .ok (.invokestatic 157, 3) := by decide +kernel
theorem dL_law_475 : decode cL_law 475 = .ok (.istore 6, 2) := by decide +kernel
theorem dL_law_477 : decode cL_law 477 = .ok (.aload_n 2, 1) := by decide +kernel
theorem dL_law_478 : decode cL_law 478 = .ok (.aload_n 0, 1) := by decide +kernel
theorem dL_law_479 : decode cL_law 479 = .ok (.iload 5, 2) := by decide +kernel
theorem dL_law_481 : decode cL_law 481 = .ok (.iconst 1, 1) := by decide +kernel
theorem dL_law_482 : decode cL_law 482 = .ok (.iadd, 1) := by decide +kernel
theorem dL_law_483 : decode cL_law 483 = .ok (.iaload, 1) := by decide +kernel
theorem dL_law_484 : decode cL_law 484 = .ok (.aload_n 0, 1) := by decide +kernel
theorem dL_law_485 : decode cL_law 485 = .ok (.iload 5, 2) := by decide +kernel
theorem dL_law_487 : decode cL_law 487 = .ok (.iconst 2, 1) := by decide +kernel
theorem dL_law_488 : decode cL_law 488 = .ok (.iadd, 1) := by decide +kernel
theorem dL_law_489 : decode cL_law 489 = .ok (.iaload, 1) := by decide +kernel
theorem dL_law_490 : decode cL_law 490 = .ok (.ifCond .eq 7, 3) := by decide +kernel
theorem dL_law_493 : decode cL_law 493 = .ok (.iconst 1, 1) := by decide +kernel
theorem dL_law_494 : decode cL_law 494 = .ok (.goto 4, 3) := by decide +kernel
theorem dL_law_497 : decode cL_law 497 = .ok (.iconst 0, 1) := by decide +kernel
theorem dL_law_498 : decode cL_law 498 = .ok (.invokevirtual 160, 3) := by decide +kernel
theorem dL_law_501 : decode cL_law 501 = .ok (.istore 7, 2) := by decide +kernel
theorem dL_law_503 : decode cL_law 503 = .ok (.aload_n 2, 1) := by decide +kernel
theorem dL_law_504 : decode cL_law 504 = .ok (.invokevirtual 146, 3) := by decide +kernel
theorem dL_law_507 : decode cL_law 507 = .ok (.iload 6, 2) := by decide +kernel
theorem dL_law_509 : decode cL_law 509 = .ok (.if_icmp .eq 5, 3) := by decide +kernel
theorem dL_law_512 : decode cL_law 512 = .ok (.iconst 0, 1) := by decide +kernel
theorem dL_law_513 : decode cL_law 513 = .ok (.ireturn, 1) := by decide +kernel
theorem dL_law_514 : decode cL_law 514 = .ok (.iload 6, 2) := by decide +kernel
theorem dL_law_516 : decode cL_law 516 = .ok (.ifCond .ne 22, 3) := by decide +kernel
theorem dL_law_519 : decode cL_law 519 = .ok (.aload_n 3, 1) := by decide +kernel
theorem dL_law_520 : decode cL_law 520 = .ok (.iconst 0, 1) := by decide +kernel
theorem dL_law_521 : decode cL_law 521 = .ok (.laload, 1) := by decide +kernel
theorem dL_law_522 : decode cL_law 522 = .ok (.iload 7, 2) := by decide +kernel
theorem dL_law_524 : decode cL_law 524 = .ok (.ifCond .eq 7, 3) := by decide +kernel
theorem dL_law_527 : decode cL_law 527 = .ok (.lconst 1, 1) := by decide +kernel
theorem dL_law_528 : decode cL_law 528 = .ok (.goto 4, 3) := by decide +kernel
theorem dL_law_531 : decode cL_law 531 = .ok (.lconst 0, 1) := by decide +kernel
theorem dL_law_532 : decode cL_law 532 = .ok (.lcmp, 1) := by decide +kernel
theorem dL_law_533 : decode cL_law 533 = .ok (.ifCond .eq 5, 3) := by decide +kernel
theorem dL_law_536 : decode cL_law 536 = .ok (.iconst 0, 1) := by decide +kernel
theorem dL_law_537 : decode cL_law 537 = .ok (.ireturn, 1) := by decide +kernel
theorem dL_law_538 : decode cL_law 538 = .ok (.goto 2055, 3) := by decide +kernel
theorem dL_law_541 : decode cL_law 541 = .ok (.aload_n 1, 1) := by decide +kernel
theorem dL_law_542 : decode cL_law 542 = .ok (.aload_n 0, 1) := by decide +kernel
theorem dL_law_543 : decode cL_law 543 = .ok (.iload 5, 2) := by decide +kernel
theorem dL_law_545 : decode cL_law 545 = .ok (.iconst 1, 1) := by decide +kernel
theorem dL_law_546 : decode cL_law 546 = .ok (.iadd, 1) := by decide +kernel
theorem dL_law_547 : decode cL_law 547 = .ok (.iaload, 1) := by decide +kernel
theorem dL_law_548 : decode cL_law 548 = .ok (.aload_n 0, 1) := by decide +kernel
theorem dL_law_549 : decode cL_law 549 = .ok (.iload 5, 2) := by decide +kernel
theorem dL_law_551 : decode cL_law 551 = .ok (.iconst 2, 1) := by decide +kernel
theorem dL_law_552 : decode cL_law 552 = .ok (.iadd, 1) := by decide +kernel
theorem dL_law_553 : decode cL_law 553 = .ok (.iaload, 1) := by decide +kernel
theorem dL_law_554 : decode cL_law 554 = .ok (.aload_n 3, 1) := by decide +kernel
theorem dL_law_555 : decode cL_law 555 = .ok (.invokestatic 161, 3) := by decide +kernel
theorem dL_law_558 : decode cL_law 558 = .ok (.istore 6, 2) := by decide +kernel
theorem dL_law_560 : decode cL_law 560 = .ok (.aload_n 2, 1) := by decide +kernel
theorem dL_law_561 : decode cL_law 561 = .ok (.aload_n 0, 1) := by decide +kernel
theorem dL_law_562 : decode cL_law 562 = .ok (.iload 5, 2) := by decide +kernel
theorem dL_law_564 : decode cL_law 564 = .ok (.iconst 1, 1) := by decide +kernel
theorem dL_law_565 : decode cL_law 565 = .ok (.iadd, 1) := by decide +kernel
theorem dL_law_566 : decode cL_law 566 = .ok (.iaload, 1) := by decide +kernel
theorem dL_law_567 : decode cL_law 567 = .ok (.aload_n 0, 1) := by decide +kernel
theorem dL_law_568 : decode cL_law 568 = .ok (.iload 5, 2) := by decide +kernel
theorem dL_law_570 : decode cL_law 570 = .ok (.iconst 2, 1) := by decide +kernel
theorem dL_law_571 : decode cL_law 571 = .ok (.iadd, 1) := by decide +kernel
theorem dL_law_572 : decode cL_law 572 = .ok (.iaload, 1) := by decide +kernel
theorem dL_law_573 : decode cL_law 573 = .ok (.invokevirtual 164, 3) := by decide +kernel
theorem dL_law_576 : decode cL_law 576 = .ok (.istore 7, 2) := by decide +kernel
theorem dL_law_578 : decode cL_law 578 = .ok (.aload_n 2, 1) := by decide +kernel
theorem dL_law_579 : decode cL_law 579 = .ok (.invokevirtual 146, 3) := by decide +kernel
theorem dL_law_582 : decode cL_law 582 = .ok (.iload 6, 2) := by decide +kernel
theorem dL_law_584 : decode cL_law 584 = .ok (.if_icmp .eq 5, 3) := by decide +kernel
theorem dL_law_587 : decode cL_law 587 = .ok (.iconst 0, 1) := by decide +kernel
theorem dL_law_588 : decode cL_law 588 = .ok (.ireturn, 1) := by decide +kernel
theorem dL_law_589 : decode cL_law 589 = .ok (.iload 6, 2) := by decide +kernel
theorem dL_law_591 : decode cL_law 591 = .ok (.ifCond .ne 15, 3) := by decide +kernel
theorem dL_law_594 : decode cL_law 594 = .ok (.aload_n 3, 1) := by decide +kernel
theorem dL_law_595 : decode cL_law 595 = .ok (.iconst 0, 1) := by decide +kernel
theorem dL_law_596 : decode cL_law 596 = .ok (.laload, 1) := by decide +kernel
theorem dL_law_597 : decode cL_law 597 = .ok (.iload 7, 2) := by decide +kernel
theorem dL_law_599 : decode cL_law 599 = .ok (.i2l, 1) := by decide +kernel
theorem dL_law_600 : decode cL_law 600 = .ok (.lcmp, 1) := by decide +kernel
theorem dL_law_601 : decode cL_law 601 = .ok (.ifCond .eq 5, 3) := by decide +kernel
theorem dL_law_604 : decode cL_law 604 = .ok (.iconst 0, 1) := by decide +kernel
theorem dL_law_605 : decode cL_law 605 = .ok (.ireturn, 1) := by decide +kernel
theorem dL_law_606 : decode cL_law 606 = .ok (.goto 1987, 3) := by decide +kernel
theorem dL_law_609 : decode cL_law 609 = .ok (.aload_n 1, 1) := by decide +kernel
theorem dL_law_610 : decode cL_law 610 = .ok (.aload_n 0, 1) := by decide +kernel
theorem dL_law_611 : decode cL_law 611 = .ok (.iload 5, 2) := by decide +kernel
theorem dL_law_613 : decode cL_law 613 = .ok (.iconst 1, 1) := by decide +kernel
theorem dL_law_614 : decode cL_law 614 = .ok (.iadd, 1) := by decide +kernel
theorem dL_law_615 : decode cL_law 615 = .ok (.iaload, 1) := by decide +kernel
theorem dL_law_616 : decode cL_law 616 = .ok (.aload_n 0, 1) := by decide +kernel
theorem dL_law_617 : decode cL_law 617 = .ok (.iload 5, 2) := by decide +kernel
theorem dL_law_619 : decode cL_law 619 = .ok (.iconst 2, 1) := by decide +kernel
theorem dL_law_620 : decode cL_law 620 = .ok (.iadd, 1) := by decide +kernel
theorem dL_law_621 : decode cL_law 621 = .ok (.iaload, 1) := by decide +kernel
theorem dL_law_622 : decode cL_law 622 = .ok (.aload_n 3, 1) := by decide +kernel
theorem dL_law_623 : decode cL_law 623 = .ok (.invokestatic 165, 3) := by decide +kernel
theorem dL_law_626 : decode cL_law 626 = .ok (.istore 6, 2) := by decide +kernel
theorem dL_law_628 : decode cL_law 628 = .ok (.aload_n 2, 1) := by decide +kernel
theorem dL_law_629 : decode cL_law 629 = .ok (.aload_n 0, 1) := by decide +kernel
theorem dL_law_630 : decode cL_law 630 = .ok (.iload 5, 2) := by decide +kernel
theorem dL_law_632 : decode cL_law 632 = .ok (.iconst 1, 1) := by decide +kernel
theorem dL_law_633 : decode cL_law 633 = .ok (.iadd, 1) := by decide +kernel
theorem dL_law_634 : decode cL_law 634 = .ok (.iaload, 1) := by decide +kernel
theorem dL_law_635 : decode cL_law 635 = .ok (.aload_n 0, 1) := by decide +kernel
theorem dL_law_636 : decode cL_law 636 = .ok (.iload 5, 2) := by decide +kernel
theorem dL_law_638 : decode cL_law 638 = .ok (.iconst 2, 1) := by decide +kernel
theorem dL_law_639 : decode cL_law 639 = .ok (.iadd, 1) := by decide +kernel
theorem dL_law_640 : decode cL_law 640 = .ok (.iaload, 1) := by decide +kernel
theorem dL_law_641 : decode cL_law 641 = .ok (.invokevirtual 167, 3) := by decide +kernel
theorem dL_law_644 : decode cL_law 644 = .ok (.istore 7, 2) := by decide +kernel
theorem dL_law_646 : decode cL_law 646 = .ok (.aload_n 2, 1) := by decide +kernel
theorem dL_law_647 : decode cL_law 647 = .ok (.invokevirtual 146, 3) := by decide +kernel
theorem dL_law_650 : decode cL_law 650 = .ok (.iload 6, 2) := by decide +kernel
theorem dL_law_652 : decode cL_law 652 = .ok (.if_icmp .eq 5, 3) := by decide +kernel
theorem dL_law_655 : decode cL_law 655 = .ok (.iconst 0, 1) := by decide +kernel
theorem dL_law_656 : decode cL_law 656 = .ok (.ireturn, 1) := by decide +kernel
theorem dL_law_657 : decode cL_law 657 = .ok (.iload 6, 2) := by decide +kernel
theorem dL_law_659 : decode cL_law 659 = .ok (.ifCond .ne 15, 3) := by decide +kernel
theorem dL_law_662 : decode cL_law 662 = .ok (.aload_n 3, 1) := by decide +kernel
theorem dL_law_663 : decode cL_law 663 = .ok (.iconst 0, 1) := by decide +kernel
theorem dL_law_664 : decode cL_law 664 = .ok (.laload, 1) := by decide +kernel
theorem dL_law_665 : decode cL_law 665 = .ok (.iload 7, 2) := by decide +kernel
theorem dL_law_667 : decode cL_law 667 = .ok (.i2l, 1) := by decide +kernel
theorem dL_law_668 : decode cL_law 668 = .ok (.lcmp, 1) := by decide +kernel
theorem dL_law_669 : decode cL_law 669 = .ok (.ifCond .eq 5, 3) := by decide +kernel
theorem dL_law_672 : decode cL_law 672 = .ok (.iconst 0, 1) := by decide +kernel
theorem dL_law_673 : decode cL_law 673 = .ok (.ireturn, 1) := by decide +kernel
theorem dL_law_674 : decode cL_law 674 = .ok (.goto 1919, 3) := by decide +kernel
theorem dL_law_677 : decode cL_law 677 = .ok (.aload_n 1, 1) := by decide +kernel
theorem dL_law_678 : decode cL_law 678 = .ok (.invokevirtual 168, 3) := by decide +kernel
theorem dL_law_681 : decode cL_law 681 = .ok (.aload_n 2, 1) := by decide +kernel
theorem dL_law_682 : decode cL_law 682 = .ok (.invokevirtual 171, 3) := by decide +kernel
theorem dL_law_685 : decode cL_law 685 = .ok (.if_icmp .eq 1908, 3) := by decide +kernel
theorem dL_law_688 : decode cL_law 688 = .ok (.iconst 0, 1) := by decide +kernel
theorem dL_law_689 : decode cL_law 689 = .ok (.ireturn, 1) := by decide +kernel
theorem dL_law_690 : decode cL_law 690 = .ok (.aload_n 1, 1) := by decide +kernel
theorem dL_law_691 : decode cL_law 691 = .ok (.aload_n 0, 1) := by decide +kernel
theorem dL_law_692 : decode cL_law 692 = .ok (.iload 5, 2) := by decide +kernel
theorem dL_law_694 : decode cL_law 694 = .ok (.iconst 1, 1) := by decide +kernel
theorem dL_law_695 : decode cL_law 695 = .ok (.iadd, 1) := by decide +kernel
theorem dL_law_696 : decode cL_law 696 = .ok (.iaload, 1) := by decide +kernel
theorem dL_law_697 : decode cL_law 697 = .ok (.aload_n 3, 1) := by decide +kernel
theorem dL_law_698 : decode cL_law 698 = .ok (.invokestatic 172, 3) := by decide +kernel
theorem dL_law_701 : decode cL_law 701 = .ok (.istore 6, 2) := by decide +kernel
theorem dL_law_703 : decode cL_law 703 = .ok (.aload_n 2, 1) := by decide +kernel
theorem dL_law_704 : decode cL_law 704 = .ok (.aload_n 0, 1) := by decide +kernel
