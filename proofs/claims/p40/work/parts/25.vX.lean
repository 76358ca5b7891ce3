theorem q_3_131 : Cond.classLink RX11 95 "java/lang/IllegalArgumentException" ∈ cg_T := cg_in3 131 (by decide +kernel) (by decide +kernel)
theorem q_1_16 : Cond.initialized "java/lang/IllegalArgumentException" ∈ cg_T := cg_in1 16 (by decide +kernel) (by decide +kernel)
theorem q_5_231 : Cond.methodLink RX11 354 yJ6_numberOfTrailingZeros_0f7a4 ∈ cg_T := cg_in5 231 (by decide +kernel) (by decide +kernel)
theorem q_2_126 : Cond.fieldLink RX11 23 "Chanceledger" "game" "LChanceledger$Game;" ∈ cg_T := cg_in2 126 (by decide +kernel) (by decide +kernel)
theorem q_4_18 : Cond.methodLink RX11 334 yX2_hasState ∈ cg_T := cg_in4 18 (by decide +kernel) (by decide +kernel)
theorem q_4_22 : Cond.classLink RX11 338 "java/lang/IndexOutOfBoundsException" ∈ cg_T := cg_in4 22 (by decide +kernel) (by decide +kernel)
theorem q_1_18 : Cond.initialized "java/lang/IndexOutOfBoundsException" ∈ cg_T := cg_in1 18 (by decide +kernel) (by decide +kernel)
theorem q_4_52 : Cond.methodLink RX11 343 yX2_hasChoice ∈ cg_T := cg_in4 52 (by decide +kernel) (by decide +kernel)
theorem q_4_53 : Cond.instanceMethod yX2_hasChoice ∈ cg_T := cg_in4 53 (by decide +kernel) (by decide +kernel)
theorem q_4_54 : Cond.selects RX2 yX2_hasChoice yX2_hasChoice ∈ cg_T := cg_in4 54 (by decide +kernel) (by decide +kernel)
theorem q_4_55 : Cond.code yX2_hasChoice cX2_hasChoice 3 (some .boolean) ∈ cg_T := cg_in4 55 (by decide +kernel) (by decide +kernel)
theorem q_2_164 : Cond.methodLink RX11 180 yX2_isReady ∈ cg_T := cg_in2 164 (by decide +kernel) (by decide +kernel)
theorem q_2_165 : Cond.instanceMethod yX2_isReady ∈ cg_T := cg_in2 165 (by decide +kernel) (by decide +kernel)
theorem q_2_166 : Cond.selects RX2 yX2_isReady yX2_isReady ∈ cg_T := cg_in2 166 (by decide +kernel) (by decide +kernel)
theorem q_2_167 : Cond.code yX2_isReady cX2_isReady 3 (some .boolean) ∈ cg_T := cg_in2 167 (by decide +kernel) (by decide +kernel)
theorem q_3_203 : Cond.classLink RX11 106 "java/lang/IllegalStateException" ∈ cg_T := cg_in3 203 (by decide +kernel) (by decide +kernel)
theorem q_1_17 : Cond.initialized "java/lang/IllegalStateException" ∈ cg_T := cg_in1 17 (by decide +kernel) (by decide +kernel)
theorem q_4_14 : Cond.methodLink RX11 115 yX11_needState ∈ cg_T := cg_in4 14 (by decide +kernel) (by decide +kernel)
theorem q_4_16 : Cond.instanceMethod yX11_needState ∈ cg_T := cg_in4 16 (by decide +kernel) (by decide +kernel)
theorem q_0_3 : Cond.selects RX11 yX11_needState yX11_needState ∈ cg_T := cg_in0 3 (by decide +kernel) (by decide +kernel)
theorem q_4_17 : Cond.code yX11_needState cX11_needState 2 none ∈ cg_T := cg_in4 17 (by decide +kernel) (by decide +kernel)
theorem q_4_95 : Cond.methodLink RX11 222 yX11_needWhole ∈ cg_T := cg_in4 95 (by decide +kernel) (by decide +kernel)
theorem q_4_97 : Cond.instanceMethod yX11_needWhole ∈ cg_T := cg_in4 97 (by decide +kernel) (by decide +kernel)
theorem q_0_5 : Cond.selects RX11 yX11_needWhole yX11_needWhole ∈ cg_T := cg_in0 5 (by decide +kernel) (by decide +kernel)
theorem q_4_98 : Cond.code yX11_needWhole cX11_needWhole 1 none ∈ cg_T := cg_in4 98 (by decide +kernel) (by decide +kernel)
theorem q_4_91 : Cond.methodLink RX11 243 yX11_needAim ∈ cg_T := cg_in4 91 (by decide +kernel) (by decide +kernel)
theorem q_4_92 : Cond.static yX11_needAim ∈ cg_T := cg_in4 92 (by decide +kernel) (by decide +kernel)
theorem q_4_93 : Cond.code yX11_needAim cX11_needAim 1 none ∈ cg_T := cg_in4 93 (by decide +kernel) (by decide +kernel)
theorem q_4_159 : Cond.methodLink RX11 229 yX11_needWholeFor ∈ cg_T := cg_in4 159 (by decide +kernel) (by decide +kernel)
theorem q_4_161 : Cond.instanceMethod yX11_needWholeFor ∈ cg_T := cg_in4 161 (by decide +kernel) (by decide +kernel)
theorem q_0_8 : Cond.selects RX11 yX11_needWholeFor yX11_needWholeFor ∈ cg_T := cg_in0 8 (by decide +kernel) (by decide +kernel)
theorem q_4_162 : Cond.code yX11_needWholeFor cX11_needWholeFor 2 none ∈ cg_T := cg_in4 162 (by decide +kernel) (by decide +kernel)
theorem q_4_155 : Cond.methodLink RX11 195 yX11_needSolvable ∈ cg_T := cg_in4 155 (by decide +kernel) (by decide +kernel)
theorem q_4_157 : Cond.instanceMethod yX11_needSolvable ∈ cg_T := cg_in4 157 (by decide +kernel) (by decide +kernel)
theorem q_0_7 : Cond.selects RX11 yX11_needSolvable yX11_needSolvable ∈ cg_T := cg_in0 7 (by decide +kernel) (by decide +kernel)
theorem q_4_158 : Cond.code yX11_needSolvable cX11_needSolvable 3 none ∈ cg_T := cg_in4 158 (by decide +kernel) (by decide +kernel)
theorem q_2_131 : Cond.fieldLink RX11 48 "Chanceledger" "improver" "LChanceledger$Improver;" ∈ cg_T := cg_in2 131 (by decide +kernel) (by decide +kernel)
theorem q_2_127 : Cond.fieldLink RX11 29 "Chanceledger" "toldChoice" "[I" ∈ cg_T := cg_in2 127 (by decide +kernel) (by decide +kernel)
theorem q_2_215 : Cond.methodLink RX11 304 yX4_improve ∈ cg_T := cg_in2 215 (by decide +kernel) (by decide +kernel)
theorem q_3_128 : Cond.methodLink RX11 91 yX11_needPlayer ∈ cg_T := cg_in3 128 (by decide +kernel) (by decide +kernel)
theorem q_3_129 : Cond.static yX11_needPlayer ∈ cg_T := cg_in3 129 (by decide +kernel) (by decide +kernel)
theorem q_3_130 : Cond.code yX11_needPlayer cX11_needPlayer 1 none ∈ cg_T := cg_in3 130 (by decide +kernel) (by decide +kernel)
theorem q_2_129 : Cond.fieldLink RX11 37 "Chanceledger" "chain" "LChanceledger$Chain;" ∈ cg_T := cg_in2 129 (by decide +kernel) (by decide +kernel)
theorem q_5_52 : Cond.methodLink RX11 325 yX0_evaluate ∈ cg_T := cg_in5 52 (by decide +kernel) (by decide +kernel)
theorem q_5_53 : Cond.instanceMethod yX0_evaluate ∈ cg_T := cg_in5 53 (by decide +kernel) (by decide +kernel)
theorem q_5_54 : Cond.selects RX0 yX0_evaluate yX0_evaluate ∈ cg_T := cg_in5 54 (by decide +kernel) (by decide +kernel)
theorem q_5_55 : Cond.code yX0_evaluate cX0_evaluate 3 none ∈ cg_T := cg_in5 55 (by decide +kernel) (by decide +kernel)
theorem q_2_130 : Cond.fieldLink RX11 44 "Chanceledger" "longRun" "LChanceledger$LongRun;" ∈ cg_T := cg_in2 130 (by decide +kernel) (by decide +kernel)
theorem q_5_34 : Cond.methodLink RX11 322 yX6_findParity ∈ cg_T := cg_in5 34 (by decide +kernel) (by decide +kernel)
theorem q_5_35 : Cond.instanceMethod yX6_findParity ∈ cg_T := cg_in5 35 (by decide +kernel) (by decide +kernel)
theorem q_5_36 : Cond.selects RX6 yX6_findParity yX6_findParity ∈ cg_T := cg_in5 36 (by decide +kernel) (by decide +kernel)
theorem q_5_37 : Cond.code yX6_findParity cX6_findParity 4 none ∈ cg_T := cg_in5 37 (by decide +kernel) (by decide +kernel)
theorem q_4_217 : Cond.methodLink RX11 319 yX6_findMeans ∈ cg_T := cg_in4 217 (by decide +kernel) (by decide +kernel)
theorem q_4_218 : Cond.instanceMethod yX6_findMeans ∈ cg_T := cg_in4 218 (by decide +kernel) (by decide +kernel)
theorem q_4_219 : Cond.selects RX6 yX6_findMeans yX6_findMeans ∈ cg_T := cg_in4 219 (by decide +kernel) (by decide +kernel)
theorem q_4_220 : Cond.code yX6_findMeans cX6_findMeans 3 none ∈ cg_T := cg_in4 220 (by decide +kernel) (by decide +kernel)
theorem q_2_135 : Cond.fieldLink RX11 80 "Chanceledger" "traces" "LChanceledger$Traces;" ∈ cg_T := cg_in2 135 (by decide +kernel) (by decide +kernel)
theorem q_6_46 : Cond.methodLink RX11 329 yX9_follow ∈ cg_T := cg_in6 46 (by decide +kernel) (by decide +kernel)
theorem q_6_47 : Cond.instanceMethod yX9_follow ∈ cg_T := cg_in6 47 (by decide +kernel) (by decide +kernel)
theorem q_6_48 : Cond.selects RX9 yX9_follow yX9_follow ∈ cg_T := cg_in6 48 (by decide +kernel) (by decide +kernel)
theorem q_6_49 : Cond.code yX9_follow cX9_follow 4 none ∈ cg_T := cg_in6 49 (by decide +kernel) (by decide +kernel)
theorem q_2_116 : Cond.fieldLink RX11 283 "Chanceledger$Traces" "length" "[I" ∈ cg_T := cg_in2 116 (by decide +kernel) (by decide +kernel)
theorem q_3_219 : Cond.methodLink RX11 111 yX2_placeState ∈ cg_T := cg_in3 219 (by decide +kernel) (by decide +kernel)
theorem q_3_220 : Cond.instanceMethod yX2_placeState ∈ cg_T := cg_in3 220 (by decide +kernel) (by decide +kernel)
theorem q_3_221 : Cond.selects RX2 yX2_placeState yX2_placeState ∈ cg_T := cg_in3 221 (by decide +kernel) (by decide +kernel)
theorem q_3_222 : Cond.code yX2_placeState cX2_placeState 4 (some .int) ∈ cg_T := cg_in3 222 (by decide +kernel) (by decide +kernel)
theorem q_1_50 : Cond.fieldLink RX11 102 "Chanceledger$Game" "count" "I" ∈ cg_T := cg_in1 50 (by decide +kernel) (by decide +kernel)
theorem q_1_78 : Cond.fieldLink RX11 121 "Chanceledger$Game" "choiceCount" "[I" ∈ cg_T := cg_in1 78 (by decide +kernel) (by decide +kernel)
theorem q_4_37 : Cond.methodLink RX11 126 yX2_placeChoice ∈ cg_T := cg_in4 37 (by decide +kernel) (by decide +kernel)
theorem q_4_38 : Cond.instanceMethod yX2_placeChoice ∈ cg_T := cg_in4 38 (by decide +kernel) (by decide +kernel)
theorem q_4_39 : Cond.selects RX2 yX2_placeChoice yX2_placeChoice ∈ cg_T := cg_in4 39 (by decide +kernel) (by decide +kernel)
theorem q_4_40 : Cond.code yX2_placeChoice cX2_placeChoice 6 (some .int) ∈ cg_T := cg_in4 40 (by decide +kernel) (by decide +kernel)
theorem q_4_48 : Cond.methodLink RX11 130 yX11_needChoice ∈ cg_T := cg_in4 48 (by decide +kernel) (by decide +kernel)
theorem q_4_50 : Cond.instanceMethod yX11_needChoice ∈ cg_T := cg_in4 50 (by decide +kernel) (by decide +kernel)
theorem q_0_4 : Cond.selects RX11 yX11_needChoice yX11_needChoice ∈ cg_T := cg_in0 4 (by decide +kernel) (by decide +kernel)
theorem q_4_51 : Cond.code yX11_needChoice cX11_needChoice 3 none ∈ cg_T := cg_in4 51 (by decide +kernel) (by decide +kernel)
theorem q_4_59 : Cond.methodLink RX11 136 yX2_moveOf ∈ cg_T := cg_in4 59 (by decide +kernel) (by decide +kernel)
theorem q_1_90 : Cond.fieldLink RX11 140 "Chanceledger$Game" "weightSum" "[I" ∈ cg_T := cg_in1 90 (by decide +kernel) (by decide +kernel)
theorem q_4_61 : Cond.methodLink RX11 145 yX2_placeWeight ∈ cg_T := cg_in4 61 (by decide +kernel) (by decide +kernel)
theorem q_4_62 : Cond.instanceMethod yX2_placeWeight ∈ cg_T := cg_in4 62 (by decide +kernel) (by decide +kernel)
theorem q_4_63 : Cond.selects RX2 yX2_placeWeight yX2_placeWeight ∈ cg_T := cg_in4 63 (by decide +kernel) (by decide +kernel)
theorem q_4_64 : Cond.code yX2_placeWeight cX2_placeWeight 4 (some .int) ∈ cg_T := cg_in4 64 (by decide +kernel) (by decide +kernel)
theorem q_4_72 : Cond.methodLink RX11 148 yX2_mark ∈ cg_T := cg_in4 72 (by decide +kernel) (by decide +kernel)
theorem q_4_73 : Cond.instanceMethod yX2_mark ∈ cg_T := cg_in4 73 (by decide +kernel) (by decide +kernel)
theorem q_4_74 : Cond.selects RX2 yX2_mark yX2_mark ∈ cg_T := cg_in4 74 (by decide +kernel) (by decide +kernel)
theorem q_4_75 : Cond.code yX2_mark cX2_mark 4 (some .boolean) ∈ cg_T := cg_in4 75 (by decide +kernel) (by decide +kernel)
theorem q_6_113 : Cond.methodLink RX11 154 yX2_changeDiscount ∈ cg_T := cg_in6 113 (by decide +kernel) (by decide +kernel)
theorem q_6_114 : Cond.instanceMethod yX2_changeDiscount ∈ cg_T := cg_in6 114 (by decide +kernel) (by decide +kernel)
theorem q_6_115 : Cond.selects RX2 yX2_changeDiscount yX2_changeDiscount ∈ cg_T := cg_in6 115 (by decide +kernel) (by decide +kernel)
theorem q_6_116 : Cond.code yX2_changeDiscount cX2_changeDiscount 4 (some .int) ∈ cg_T := cg_in6 116 (by decide +kernel) (by decide +kernel)
theorem q_6_125 : Cond.methodLink RX11 159 yX2_changeWeights ∈ cg_T := cg_in6 125 (by decide +kernel) (by decide +kernel)
theorem q_6_126 : Cond.instanceMethod yX2_changeWeights ∈ cg_T := cg_in6 126 (by decide +kernel) (by decide +kernel)
theorem q_6_127 : Cond.selects RX2 yX2_changeWeights yX2_changeWeights ∈ cg_T := cg_in6 127 (by decide +kernel) (by decide +kernel)
theorem q_6_128 : Cond.code yX2_changeWeights cX2_changeWeights 4 (some .int) ∈ cg_T := cg_in6 128 (by decide +kernel) (by decide +kernel)
theorem q_1_104 : Cond.fieldLink RX11 167 "Chanceledger$Game" "weight" "[[I" ∈ cg_T := cg_in1 104 (by decide +kernel) (by decide +kernel)
theorem q_6_31 : Cond.constantLong RX11 171 (10) ∈ cg_T := cg_in6 31 (by decide +kernel) (by decide +kernel)
theorem q_4_197 : Cond.methodLink RX11 173 yX11_lowestAbove ∈ cg_T := cg_in4 197 (by decide +kernel) (by decide +kernel)
theorem q_4_205 : Cond.methodLink RX11 177 yX11_lowestBelow ∈ cg_T := cg_in4 205 (by decide +kernel) (by decide +kernel)
theorem q_6_28 : Cond.classLink RX11 162 "java/lang/ArithmeticException" ∈ cg_T := cg_in6 28 (by decide +kernel) (by decide +kernel)
theorem q_1_22 : Cond.initialized "java/lang/ArithmeticException" ∈ cg_T := cg_in1 22 (by decide +kernel) (by decide +kernel)
theorem q_4_151 : Cond.methodLink RX11 184 yX11_findValues ∈ cg_T := cg_in4 151 (by decide +kernel) (by decide +kernel)
theorem q_4_153 : Cond.instanceMethod yX11_findValues ∈ cg_T := cg_in4 153 (by decide +kernel) (by decide +kernel)
theorem q_0_6 : Cond.selects RX11 yX11_findValues yX11_findValues ∈ cg_T := cg_in0 6 (by decide +kernel) (by decide +kernel)
theorem q_4_154 : Cond.code yX11_findValues cX11_findValues 3 none ∈ cg_T := cg_in4 154 (by decide +kernel) (by decide +kernel)
theorem q_4_163 : Cond.methodLink RX11 188 yX0_toldAbove ∈ cg_T := cg_in4 163 (by decide +kernel) (by decide +kernel)
theorem q_4_164 : Cond.instanceMethod yX0_toldAbove ∈ cg_T := cg_in4 164 (by decide +kernel) (by decide +kernel)
theorem q_4_165 : Cond.selects RX0 yX0_toldAbove yX0_toldAbove ∈ cg_T := cg_in4 165 (by decide +kernel) (by decide +kernel)
theorem q_4_166 : Cond.code yX0_toldAbove cX0_toldAbove 2 (some .long) ∈ cg_T := cg_in4 166 (by decide +kernel) (by decide +kernel)
theorem q_4_183 : Cond.methodLink RX11 192 yX0_toldBelow ∈ cg_T := cg_in4 183 (by decide +kernel) (by decide +kernel)
theorem q_4_184 : Cond.instanceMethod yX0_toldBelow ∈ cg_T := cg_in4 184 (by decide +kernel) (by decide +kernel)
theorem q_4_185 : Cond.selects RX0 yX0_toldBelow yX0_toldBelow ∈ cg_T := cg_in4 185 (by decide +kernel) (by decide +kernel)
theorem q_4_186 : Cond.code yX0_toldBelow cX0_toldBelow 2 (some .long) ∈ cg_T := cg_in4 186 (by decide +kernel) (by decide +kernel)
theorem q_2_132 : Cond.fieldLink RX11 57 "Chanceledger" "sweep" "LChanceledger$Sweep;" ∈ cg_T := cg_in2 132 (by decide +kernel) (by decide +kernel)
theorem q_3_64 : Cond.methodLink RX11 198 yX7_valuesFor ∈ cg_T := cg_in3 64 (by decide +kernel) (by decide +kernel)
theorem q_3_65 : Cond.instanceMethod yX7_valuesFor ∈ cg_T := cg_in3 65 (by decide +kernel) (by decide +kernel)
theorem q_3_66 : Cond.selects RX7 yX7_valuesFor yX7_valuesFor ∈ cg_T := cg_in3 66 (by decide +kernel) (by decide +kernel)
theorem q_3_67 : Cond.code yX7_valuesFor cX7_valuesFor 4 (some (.object "Chanceledger$Values")) ∈ cg_T := cg_in3 67 (by decide +kernel) (by decide +kernel)
theorem q_2_10 : Cond.fieldLink RX11 202 "Chanceledger$Values" "up" "[J" ∈ cg_T := cg_in2 10 (by decide +kernel) (by decide +kernel)
theorem q_2_15 : Cond.fieldLink RX11 206 "Chanceledger$Values" "down" "[J" ∈ cg_T := cg_in2 15 (by decide +kernel) (by decide +kernel)
theorem q_5_103 : Cond.methodLink RX11 209 yX11_floatOf ∈ cg_T := cg_in5 103 (by decide +kernel) (by decide +kernel)
theorem q_5_104 : Cond.static yX11_floatOf ∈ cg_T := cg_in5 104 (by decide +kernel) (by decide +kernel)
theorem q_5_105 : Cond.code yX11_floatOf cX11_floatOf 4 (some .float) ∈ cg_T := cg_in5 105 (by decide +kernel) (by decide +kernel)
theorem q_2_128 : Cond.fieldLink RX11 33 "Chanceledger" "graph" "LChanceledger$Graph;" ∈ cg_T := cg_in2 128 (by decide +kernel) (by decide +kernel)
theorem q_5_120 : Cond.methodLink RX11 225 yX3_boundAfter ∈ cg_T := cg_in5 120 (by decide +kernel) (by decide +kernel)
theorem q_5_121 : Cond.instanceMethod yX3_boundAfter ∈ cg_T := cg_in5 121 (by decide +kernel) (by decide +kernel)
theorem q_5_122 : Cond.selects RX3 yX3_boundAfter yX3_boundAfter ∈ cg_T := cg_in5 122 (by decide +kernel) (by decide +kernel)
theorem q_5_123 : Cond.code yX3_boundAfter cX3_boundAfter 5 (some .double) ∈ cg_T := cg_in5 123 (by decide +kernel) (by decide +kernel)
theorem q_3_99 : Cond.methodLink RX11 232 yX3_positive ∈ cg_T := cg_in3 99 (by decide +kernel) (by decide +kernel)
theorem q_3_100 : Cond.instanceMethod yX3_positive ∈ cg_T := cg_in3 100 (by decide +kernel) (by decide +kernel)
theorem q_3_101 : Cond.selects RX3 yX3_positive yX3_positive ∈ cg_T := cg_in3 101 (by decide +kernel) (by decide +kernel)
theorem q_3_102 : Cond.code yX3_positive cX3_positive 1 (some .int) ∈ cg_T := cg_in3 102 (by decide +kernel) (by decide +kernel)
theorem q_3_111 : Cond.methodLink RX11 236 yX2_holds ∈ cg_T := cg_in3 111 (by decide +kernel) (by decide +kernel)
theorem q_3_107 : Cond.methodLink RX11 240 yX3_sure ∈ cg_T := cg_in3 107 (by decide +kernel) (by decide +kernel)
theorem q_3_108 : Cond.instanceMethod yX3_sure ∈ cg_T := cg_in3 108 (by decide +kernel) (by decide +kernel)
theorem q_3_109 : Cond.selects RX3 yX3_sure yX3_sure ∈ cg_T := cg_in3 109 (by decide +kernel) (by decide +kernel)
theorem q_3_110 : Cond.code yX3_sure cX3_sure 3 (some .int) ∈ cg_T := cg_in3 110 (by decide +kernel) (by decide +kernel)
theorem q_2_133 : Cond.fieldLink RX11 66 "Chanceledger" "teller" "LChanceledger$Teller;" ∈ cg_T := cg_in2 133 (by decide +kernel) (by decide +kernel)
theorem q_4_100 : Cond.methodLink RX11 246 yX8_tellBest ∈ cg_T := cg_in4 100 (by decide +kernel) (by decide +kernel)
theorem q_4_101 : Cond.instanceMethod yX8_tellBest ∈ cg_T := cg_in4 101 (by decide +kernel) (by decide +kernel)
theorem q_4_102 : Cond.selects RX8 yX8_tellBest yX8_tellBest ∈ cg_T := cg_in4 102 (by decide +kernel) (by decide +kernel)
theorem q_4_103 : Cond.code yX8_tellBest cX8_tellBest 7 (some .int) ∈ cg_T := cg_in4 103 (by decide +kernel) (by decide +kernel)
theorem q_4_213 : Cond.methodLink RX11 250 yX11_followChain ∈ cg_T := cg_in4 213 (by decide +kernel) (by decide +kernel)
theorem q_4_215 : Cond.instanceMethod yX11_followChain ∈ cg_T := cg_in4 215 (by decide +kernel) (by decide +kernel)
theorem q_0_9 : Cond.selects RX11 yX11_followChain yX11_followChain ∈ cg_T := cg_in0 9 (by decide +kernel) (by decide +kernel)
theorem q_4_216 : Cond.code yX11_followChain cX11_followChain 3 none ∈ cg_T := cg_in4 216 (by decide +kernel) (by decide +kernel)
theorem q_5_71 : Cond.methodLink RX11 253 yX11_findResponse ∈ cg_T := cg_in5 71 (by decide +kernel) (by decide +kernel)
theorem q_5_73 : Cond.instanceMethod yX11_findResponse ∈ cg_T := cg_in5 73 (by decide +kernel) (by decide +kernel)
theorem q_0_10 : Cond.selects RX11 yX11_findResponse yX11_findResponse ∈ cg_T := cg_in0 10 (by decide +kernel) (by decide +kernel)
theorem q_5_74 : Cond.code yX11_findResponse cX11_findResponse 4 none ∈ cg_T := cg_in5 74 (by decide +kernel) (by decide +kernel)
theorem q_5_210 : Cond.methodLink RX11 257 yX3_follow ∈ cg_T := cg_in5 210 (by decide +kernel) (by decide +kernel)
theorem q_5_211 : Cond.methodLink RX11 261 yX3_closedSet ∈ cg_T := cg_in5 211 (by decide +kernel) (by decide +kernel)
theorem q_5_212 : Cond.methodLink RX11 265 yX11_lowestOf ∈ cg_T := cg_in5 212 (by decide +kernel) (by decide +kernel)
theorem q_5_213 : Cond.static yX11_lowestOf ∈ cg_T := cg_in5 213 (by decide +kernel) (by decide +kernel)
theorem q_5_214 : Cond.code yX11_lowestOf cX11_lowestOf 1 (some .int) ∈ cg_T := cg_in5 214 (by decide +kernel) (by decide +kernel)
theorem q_5_239 : Cond.methodLink RX11 268 yX3_endSet ∈ cg_T := cg_in5 239 (by decide +kernel) (by decide +kernel)
theorem q_6_0 : Cond.instanceMethod yX3_endSet ∈ cg_T := cg_in6 0 (by decide +kernel) (by decide +kernel)
theorem q_6_1 : Cond.selects RX3 yX3_endSet yX3_endSet ∈ cg_T := cg_in6 1 (by decide +kernel) (by decide +kernel)
theorem q_6_2 : Cond.code yX3_endSet cX3_endSet 5 (some .int) ∈ cg_T := cg_in6 2 (by decide +kernel) (by decide +kernel)
theorem q_2_134 : Cond.fieldLink RX11 73 "Chanceledger" "likeness" "LChanceledger$Likeness;" ∈ cg_T := cg_in2 134 (by decide +kernel) (by decide +kernel)
theorem q_2_175 : Cond.methodLink RX11 271 yX5_sort ∈ cg_T := cg_in2 175 (by decide +kernel) (by decide +kernel)
theorem q_2_176 : Cond.instanceMethod yX5_sort ∈ cg_T := cg_in2 176 (by decide +kernel) (by decide +kernel)
theorem q_2_177 : Cond.selects RX5 yX5_sort yX5_sort ∈ cg_T := cg_in2 177 (by decide +kernel) (by decide +kernel)
theorem q_2_178 : Cond.code yX5_sort cX5_sort 3 none ∈ cg_T := cg_in2 178 (by decide +kernel) (by decide +kernel)
theorem q_2_95 : Cond.fieldLink RX11 274 "Chanceledger$Likeness" "lowest" "[I" ∈ cg_T := cg_in2 95 (by decide +kernel) (by decide +kernel)
theorem q_5_195 : Cond.methodLink RX11 277 yX5_howMany ∈ cg_T := cg_in5 195 (by decide +kernel) (by decide +kernel)
theorem q_5_196 : Cond.instanceMethod yX5_howMany ∈ cg_T := cg_in5 196 (by decide +kernel) (by decide +kernel)
theorem q_5_197 : Cond.selects RX5 yX5_howMany yX5_howMany ∈ cg_T := cg_in5 197 (by decide +kernel) (by decide +kernel)
theorem q_5_198 : Cond.code yX5_howMany cX5_howMany 3 (some .int) ∈ cg_T := cg_in5 198 (by decide +kernel) (by decide +kernel)
theorem q_6_42 : Cond.methodLink RX11 280 yX11_findTrace ∈ cg_T := cg_in6 42 (by decide +kernel) (by decide +kernel)
theorem q_6_44 : Cond.instanceMethod yX11_findTrace ∈ cg_T := cg_in6 44 (by decide +kernel) (by decide +kernel)
theorem q_0_11 : Cond.selects RX11 yX11_findTrace yX11_findTrace ∈ cg_T := cg_in0 11 (by decide +kernel) (by decide +kernel)
theorem q_6_45 : Cond.code yX11_findTrace cX11_findTrace 2 none ∈ cg_T := cg_in6 45 (by decide +kernel) (by decide +kernel)
theorem q_6_67 : Cond.methodLink RX11 291 yX9_stateAt ∈ cg_T := cg_in6 67 (by decide +kernel) (by decide +kernel)
theorem q_6_68 : Cond.instanceMethod yX9_stateAt ∈ cg_T := cg_in6 68 (by decide +kernel) (by decide +kernel)
theorem q_6_69 : Cond.selects RX9 yX9_stateAt yX9_stateAt ∈ cg_T := cg_in6 69 (by decide +kernel) (by decide +kernel)
theorem q_6_70 : Cond.code yX9_stateAt cX9_stateAt 6 (some .int) ∈ cg_T := cg_in6 70 (by decide +kernel) (by decide +kernel)
theorem q_2_114 : Cond.fieldLink RX11 295 "Chanceledger$Traces" "weights" "LChanceledger$Values;" ∈ cg_T := cg_in2 114 (by decide +kernel) (by decide +kernel)
theorem q_2_136 : Cond.fieldLink RX11 87 "Chanceledger" "byStep" "LChanceledger$Values;" ∈ cg_T := cg_in2 136 (by decide +kernel) (by decide +kernel)
theorem q_3_95 : Cond.methodLink RX11 316 yX11_graphAgrees ∈ cg_T := cg_in3 95 (by decide +kernel) (by decide +kernel)
theorem q_3_97 : Cond.instanceMethod yX11_graphAgrees ∈ cg_T := cg_in3 97 (by decide +kernel) (by decide +kernel)
theorem q_0_1 : Cond.selects RX11 yX11_graphAgrees yX11_graphAgrees ∈ cg_T := cg_in0 1 (by decide +kernel) (by decide +kernel)
theorem q_3_98 : Cond.code yX11_graphAgrees cX11_graphAgrees 4 (some .boolean) ∈ cg_T := cg_in3 98 (by decide +kernel) (by decide +kernel)
theorem q_3_94 : Cond.methodLink RX11 312 yX11_compareFractions ∈ cg_T := cg_in3 94 (by decide +kernel) (by decide +kernel)
theorem q_3_56 : Cond.methodLink RX11 308 yX0_copyTo ∈ cg_T := cg_in3 56 (by decide +kernel) (by decide +kernel)
theorem q_3_57 : Cond.instanceMethod yX0_copyTo ∈ cg_T := cg_in3 57 (by decide +kernel) (by decide +kernel)
theorem q_3_58 : Cond.selects RX0 yX0_copyTo yX0_copyTo ∈ cg_T := cg_in3 58 (by decide +kernel) (by decide +kernel)
theorem q_3_59 : Cond.code yX0_copyTo cX0_copyTo 3 none ∈ cg_T := cg_in3 59 (by decide +kernel) (by decide +kernel)
theorem q_2_211 : Cond.methodLink RX11 300 yX11_agrees ∈ cg_T := cg_in2 211 (by decide +kernel) (by decide +kernel)
theorem q_2_213 : Cond.instanceMethod yX11_agrees ∈ cg_T := cg_in2 213 (by decide +kernel) (by decide +kernel)
theorem q_0_0 : Cond.selects RX11 yX11_agrees yX11_agrees ∈ cg_T := cg_in0 0 (by decide +kernel) (by decide +kernel)
theorem q_2_214 : Cond.code yX11_agrees cX11_agrees 4 (some .boolean) ∈ cg_T := cg_in2 214 (by decide +kernel) (by decide +kernel)
theorem xe1_IllegalArgumentException : ∀ w ∈ (vx_atS "Chanceledger" 99 "java/lang/IllegalArgumentException" ["java/lang/RuntimeException", "java/lang/Exception"]).filter goodWord, w ∈ cg_T := fun w hw => List.mem_filter.mpr ⟨(by decide +kernel : ∀ w ∈ (vx_atS "Chanceledger" 99 "java/lang/IllegalArgumentException" ["java/lang/RuntimeException", "java/lang/Exception"]).filter goodWord, w ∈ lw_tbl) w hw, (List.mem_filter.mp hw).2⟩
theorem xe2_IllegalArgumentException : ∀ w ∈ (vx_atS "Chanceledger" 99 "java/lang/IllegalArgumentException" ["java/lang/RuntimeException", "java/lang/Exception"]).filter (fun w => !goodWord w), w ∈ tables_1.filter cg_isN := by decide +kernel
theorem xe3_IllegalArgumentException : ∀ w ∈ Cond.classLink "Chanceledger" 95 "java/lang/IllegalArgumentException" :: Cond.initialized "java/lang/IllegalArgumentException" :: vx_atS "Chanceledger" 99 "java/lang/IllegalArgumentException" ["java/lang/RuntimeException", "java/lang/Exception"], vx_ot w = true := by decide +kernel
theorem xe1_IndexOutOfBoundsException : ∀ w ∈ (vx_atS "Chanceledger" 342 "java/lang/IndexOutOfBoundsException" ["java/lang/RuntimeException", "java/lang/Exception"]).filter goodWord, w ∈ cg_T := fun w hw => List.mem_filter.mpr ⟨(by decide +kernel : ∀ w ∈ (vx_atS "Chanceledger" 342 "java/lang/IndexOutOfBoundsException" ["java/lang/RuntimeException", "java/lang/Exception"]).filter goodWord, w ∈ lw_tbl) w hw, (List.mem_filter.mp hw).2⟩
theorem xe2_IndexOutOfBoundsException : ∀ w ∈ (vx_atS "Chanceledger" 342 "java/lang/IndexOutOfBoundsException" ["java/lang/RuntimeException", "java/lang/Exception"]).filter (fun w => !goodWord w), w ∈ tables_1.filter cg_isN := by decide +kernel
theorem xe3_IndexOutOfBoundsException : ∀ w ∈ Cond.classLink "Chanceledger" 338 "java/lang/IndexOutOfBoundsException" :: Cond.initialized "java/lang/IndexOutOfBoundsException" :: vx_atS "Chanceledger" 342 "java/lang/IndexOutOfBoundsException" ["java/lang/RuntimeException", "java/lang/Exception"], vx_ot w = true := by decide +kernel
theorem xe1_IllegalStateException : ∀ w ∈ (vx_atS "Chanceledger" 110 "java/lang/IllegalStateException" ["java/lang/RuntimeException", "java/lang/Exception"]).filter goodWord, w ∈ cg_T := fun w hw => List.mem_filter.mpr ⟨(by decide +kernel : ∀ w ∈ (vx_atS "Chanceledger" 110 "java/lang/IllegalStateException" ["java/lang/RuntimeException", "java/lang/Exception"]).filter goodWord, w ∈ lw_tbl) w hw, (List.mem_filter.mp hw).2⟩
theorem xe2_IllegalStateException : ∀ w ∈ (vx_atS "Chanceledger" 110 "java/lang/IllegalStateException" ["java/lang/RuntimeException", "java/lang/Exception"]).filter (fun w => !goodWord w), w ∈ tables_1.filter cg_isN := by decide +kernel
theorem xe3_IllegalStateException : ∀ w ∈ Cond.classLink "Chanceledger" 106 "java/lang/IllegalStateException" :: Cond.initialized "java/lang/IllegalStateException" :: vx_atS "Chanceledger" 110 "java/lang/IllegalStateException" ["java/lang/RuntimeException", "java/lang/Exception"], vx_ot w = true := by decide +kernel
theorem xe1_ArithmeticException : ∀ w ∈ (vx_atS "Chanceledger" 166 "java/lang/ArithmeticException" ["java/lang/RuntimeException", "java/lang/Exception"]).filter goodWord, w ∈ cg_T := fun w hw => List.mem_filter.mpr ⟨(by decide +kernel : ∀ w ∈ (vx_atS "Chanceledger" 166 "java/lang/ArithmeticException" ["java/lang/RuntimeException", "java/lang/Exception"]).filter goodWord, w ∈ lw_tbl) w hw, (List.mem_filter.mp hw).2⟩
theorem xe2_ArithmeticException : ∀ w ∈ (vx_atS "Chanceledger" 166 "java/lang/ArithmeticException" ["java/lang/RuntimeException", "java/lang/Exception"]).filter (fun w => !goodWord w), w ∈ tables_1.filter cg_isN := by decide +kernel
theorem xe3_ArithmeticException : ∀ w ∈ Cond.classLink "Chanceledger" 162 "java/lang/ArithmeticException" :: Cond.initialized "java/lang/ArithmeticException" :: vx_atS "Chanceledger" 166 "java/lang/ArithmeticException" ["java/lang/RuntimeException", "java/lang/Exception"], vx_ot w = true := by decide +kernel
def M_X11_needPlayer (v0 : Int32) (σ : cg_S) (Q : cg_S → Prop) (X : String → cg_S → Prop) : Prop := cg_MX cg_WC yX11_needPlayer cX11_needPlayer 1 none (cg_RX 0 1) 1 6 (fun ad => [.int v0]) σ (cg_qv Q) X
theorem M_X11_needPlayer.mono {v0 : Int32} {σ : cg_S} {Q Q2 : cg_S → Prop} {X X2 : String → cg_S → Prop} (h : M_X11_needPlayer v0 σ Q X) (hq : ∀ τ, Q τ → Q2 τ) (hx : ∀ E τ, X E τ → X2 E τ) : M_X11_needPlayer v0 σ Q2 X2 := cg_MX.mono h (fun ad v τ ⟨e, q⟩ => ⟨e, hq τ q⟩) hx
set_option maxRecDepth 100000 in
set_option maxHeartbeats 4000000 in
theorem v_X11_needPlayer {v0 : Int32} {σ : cg_S} {Q : cg_S → Prop} {X : String → cg_S → Prop}
    (h : (v0 = 97 → Q σ) ∧ (¬ v0 = 97 → (v0 = 98 → Q σ) ∧ (¬ v0 = 98 → X "java/lang/IllegalArgumentException" σ))) : M_X11_needPlayer v0 σ Q X := by
  refine cg_xentry (lv := fun ad => [(0, .int v0)]) (by decide +kernel) (fun _ => rfl) (fun _ => Nat.le_of_ble_eq_true rfl) ?_
  intro p l e s m args below meth c D cy ad hY
  have hC := hY.1
  refine ga_iload_n hC dX11_needPlayer_0 0 rfl rfl ?_
  refine ga_bipush (v := 97) hC dX11_needPlayer_1 (by decide) ?_
  refine ga_icmp_eq (tgt := 23) hC dX11_needPlayer_3 (by decide) (fun hc => ?_) (fun hc => ?_)
  · have h := h.1 hc
    exact gx_vret hC dX11_needPlayer_23 ⟨Nat.le_of_ble_eq_true rfl, Nat.le_of_ble_eq_true rfl⟩ ⟨rfl, h⟩
  · have h := h.2 hc
    refine ga_iload_n hC dX11_needPlayer_6 0 rfl rfl ?_
    refine ga_bipush (v := 98) hC dX11_needPlayer_7 (by decide) ?_
    refine ga_icmp_eq (tgt := 23) hC dX11_needPlayer_9 (by decide) (fun hc => ?_) (fun hc => ?_)
    · have h := h.1 hc
      exact gx_vret hC dX11_needPlayer_23 ⟨Nat.le_of_ble_eq_true rfl, Nat.le_of_ble_eq_true rfl⟩ ⟨rfl, h⟩
    · have h := h.2 hc
      exact gx_throwW hY (by decide +kernel) (by decide +kernel) q_3_131 q_1_16 (is := 348) (text := _) (List.mem_of_getElem? (i := 15) rfl) xe1_IllegalArgumentException xe2_IllegalArgumentException xe3_IllegalArgumentException dX11_needPlayer_12 dX11_needPlayer_15 dX11_needPlayer_16 dX11_needPlayer_19 dX11_needPlayer_22 (Nat.le_of_ble_eq_true rfl) (Nat.le_of_ble_eq_true rfl) ⟨Nat.le_of_ble_eq_true rfl, Nat.le_of_ble_eq_true rfl⟩ ⟨Nat.le_of_ble_eq_true rfl, Nat.le_of_ble_eq_true rfl⟩ h
def M_X11_needAim (v0 : Int32) (σ : cg_S) (Q : cg_S → Prop) (X : String → cg_S → Prop) : Prop := cg_MX cg_WC yX11_needAim cX11_needAim 1 none (cg_RX 0 1) 1 6 (fun ad => [.int v0]) σ (cg_qv Q) X
theorem M_X11_needAim.mono {v0 : Int32} {σ : cg_S} {Q Q2 : cg_S → Prop} {X X2 : String → cg_S → Prop} (h : M_X11_needAim v0 σ Q X) (hq : ∀ τ, Q τ → Q2 τ) (hx : ∀ E τ, X E τ → X2 E τ) : M_X11_needAim v0 σ Q2 X2 := cg_MX.mono h (fun ad v τ ⟨e, q⟩ => ⟨e, hq τ q⟩) hx
set_option maxRecDepth 100000 in
set_option maxHeartbeats 4000000 in
theorem v_X11_needAim {v0 : Int32} {σ : cg_S} {Q : cg_S → Prop} {X : String → cg_S → Prop}
    (h : (v0 = 114 → Q σ) ∧ (¬ v0 = 114 → (v0 = 102 → Q σ) ∧ (¬ v0 = 102 → (v0 = 115 → Q σ) ∧ (¬ v0 = 115 → (v0 = 119 → Q σ) ∧ (¬ v0 = 119 → X "java/lang/IllegalArgumentException" σ))))) : M_X11_needAim v0 σ Q X := by
  refine cg_xentry (lv := fun ad => [(0, .int v0)]) (by decide +kernel) (fun _ => rfl) (fun _ => Nat.le_of_ble_eq_true rfl) ?_
  intro p l e s m args below meth c D cy ad hY
  have hC := hY.1
  refine ga_iload_n hC dX11_needAim_0 0 rfl rfl ?_
  refine ga_bipush (v := 114) hC dX11_needAim_1 (by decide) ?_
  refine ga_icmp_eq (tgt := 35) hC dX11_needAim_3 (by decide) (fun hc => ?_) (fun hc => ?_)
  · have h := h.1 hc
    exact gx_vret hC dX11_needAim_35 ⟨Nat.le_of_ble_eq_true rfl, Nat.le_of_ble_eq_true rfl⟩ ⟨rfl, h⟩
  · have h := h.2 hc
    refine ga_iload_n hC dX11_needAim_6 0 rfl rfl ?_
    refine ga_bipush (v := 102) hC dX11_needAim_7 (by decide) ?_
    refine ga_icmp_eq (tgt := 35) hC dX11_needAim_9 (by decide) (fun hc => ?_) (fun hc => ?_)
    · have h := h.1 hc
      exact gx_vret hC dX11_needAim_35 ⟨Nat.le_of_ble_eq_true rfl, Nat.le_of_ble_eq_true rfl⟩ ⟨rfl, h⟩
    · have h := h.2 hc
      refine ga_iload_n hC dX11_needAim_12 0 rfl rfl ?_
      refine ga_bipush (v := 115) hC dX11_needAim_13 (by decide) ?_
      refine ga_icmp_eq (tgt := 35) hC dX11_needAim_15 (by decide) (fun hc => ?_) (fun hc => ?_)
      · have h := h.1 hc
        exact gx_vret hC dX11_needAim_35 ⟨Nat.le_of_ble_eq_true rfl, Nat.le_of_ble_eq_true rfl⟩ ⟨rfl, h⟩
      · have h := h.2 hc
        refine ga_iload_n hC dX11_needAim_18 0 rfl rfl ?_
        refine ga_bipush (v := 119) hC dX11_needAim_19 (by decide) ?_
        refine ga_icmp_eq (tgt := 35) hC dX11_needAim_21 (by decide) (fun hc => ?_) (fun hc => ?_)
        · have h := h.1 hc
          exact gx_vret hC dX11_needAim_35 ⟨Nat.le_of_ble_eq_true rfl, Nat.le_of_ble_eq_true rfl⟩ ⟨rfl, h⟩
        · have h := h.2 hc
          exact gx_throwW hY (by decide +kernel) (by decide +kernel) q_3_131 q_1_16 (is := 350) (text := _) (List.mem_of_getElem? (i := 16) rfl) xe1_IllegalArgumentException xe2_IllegalArgumentException xe3_IllegalArgumentException dX11_needAim_24 dX11_needAim_27 dX11_needAim_28 dX11_needAim_31 dX11_needAim_34 (Nat.le_of_ble_eq_true rfl) (Nat.le_of_ble_eq_true rfl) ⟨Nat.le_of_ble_eq_true rfl, Nat.le_of_ble_eq_true rfl⟩ ⟨Nat.le_of_ble_eq_true rfl, Nat.le_of_ble_eq_true rfl⟩ h
def M_X11_lowestOf (v0 : Int32) (σ : cg_S) (Q : Int32 → cg_S → Prop) (X : String → cg_S → Prop) : Prop := cg_MX cg_WC yX11_lowestOf cX11_lowestOf 1 (some .int) (cg_RX 1 1) 1 6 (fun ad => [.int v0]) σ (cg_qi Q) X
theorem M_X11_lowestOf.mono {v0 : Int32} {σ : cg_S} {Q Q2 : Int32 → cg_S → Prop} {X X2 : String → cg_S → Prop} (h : M_X11_lowestOf v0 σ Q X) (hq : ∀ r τ, Q r τ → Q2 r τ) (hx : ∀ E τ, X E τ → X2 E τ) : M_X11_lowestOf v0 σ Q2 X2 := cg_MX.mono h (fun ad v τ ⟨r, e, q⟩ => ⟨r, e, hq r τ q⟩) hx
set_option maxRecDepth 100000 in
set_option maxHeartbeats 4000000 in
theorem v_X11_lowestOf {v0 : Int32} {σ : cg_S} {Q : Int32 → cg_S → Prop} {X : String → cg_S → Prop}
    (h : (¬ v0 = 0 → M_J6_numberOfTrailingZeros_0f7a4 v0 σ (fun r1 s2 => Q r1 s2)) ∧ (v0 = 0 → X "java/util/NoSuchElementException" σ)) : M_X11_lowestOf v0 σ Q X := by
  refine cg_xentry (lv := fun ad => [(0, .int v0)]) (by decide +kernel) (fun _ => rfl) (fun _ => Nat.le_of_ble_eq_true rfl) ?_
  intro p l e s m args below meth c D cy ad hY
  have hC := hY.1
  refine ga_iload_n hC dX11_lowestOf_0 0 rfl rfl ?_
  refine ga_if_ne (tgt := 15) hC dX11_lowestOf_1 (by decide) (fun hc => ?_) (fun hc => ?_)
  · have h := h.1 hc
    refine ga_iload_n hC dX11_lowestOf_15 0 rfl rfl ?_
    refine ga_callS (As := [.int v0]) (st := []) (n := 1) hC h q_5_231 q_5_11 q_1_27 q_5_12 rfl rfl rfl (by decide +kernel) ⟨Nat.le_of_ble_eq_true rfl, Nat.le_of_ble_eq_true rfl⟩ ⟨Nat.le_of_ble_eq_true rfl, Nat.le_of_ble_eq_true rfl⟩ rfl rfl (Nat.le_of_ble_eq_true rfl) dX11_lowestOf_16 (fun v τ hq => ?_)
    obtain ⟨r1, rfl, h⟩ := hq
    obtain ⟨s2, es2⟩ : ∃ z, z = τ := ⟨_, rfl⟩
    rw [← es2] at h ⊢
    clear es2
    exact gx_iret hC dX11_lowestOf_19 ⟨Nat.le_of_ble_eq_true rfl, Nat.le_of_ble_eq_true rfl⟩ ⟨_, rfl, h⟩
  · have h := h.2 hc
    exact gx_throwNW hY (is := 352) (text := _) (List.mem_of_getElem? (i := 17) rfl) dX11_lowestOf_4 dX11_lowestOf_7 dX11_lowestOf_8 dX11_lowestOf_11 dX11_lowestOf_14 (Nat.le_of_ble_eq_true rfl) (Nat.le_of_ble_eq_true rfl) ⟨Nat.le_of_ble_eq_true rfl, Nat.le_of_ble_eq_true rfl⟩ ⟨Nat.le_of_ble_eq_true rfl, Nat.le_of_ble_eq_true rfl⟩ h
def M_X11_needState (v1 : Int32) (σ : cg_S) (Q : cg_S → Prop) (X : String → cg_S → Prop) : Prop := cg_MX cg_WC yX11_needState cX11_needState 2 none (cg_RX 1 1) 1 6 (fun ad => [.ref (ad 0), .int v1]) σ (cg_qv Q) X
theorem M_X11_needState.mono {v1 : Int32} {σ : cg_S} {Q Q2 : cg_S → Prop} {X X2 : String → cg_S → Prop} (h : M_X11_needState v1 σ Q X) (hq : ∀ τ, Q τ → Q2 τ) (hx : ∀ E τ, X E τ → X2 E τ) : M_X11_needState v1 σ Q2 X2 := cg_MX.mono h (fun ad v τ ⟨e, q⟩ => ⟨e, hq τ q⟩) hx
set_option maxRecDepth 100000 in
set_option maxHeartbeats 4000000 in
theorem v_X11_needState {v1 : Int32} {σ : cg_S} {Q : cg_S → Prop} {X : String → cg_S → Prop}
    (h : M_X2_hasState v1 σ (fun r1 s2 => (¬ r1 = 0 → Q s2) ∧ (r1 = 0 → X "java/lang/IndexOutOfBoundsException" s2))) : M_X11_needState v1 σ Q X := by
  refine cg_xentry (lv := fun ad => [(0, .ref (ad 0)), (1, .int v1)]) (by decide +kernel) (fun _ => rfl) (fun _ => Nat.le_of_ble_eq_true rfl) ?_
  intro p l e s m args below meth c D cy ad hY
  have hC := hY.1
  refine ga_aload_n hC dX11_needState_0 0 rfl rfl ?_
  refine gC_0_0 hC q_2_126 dX11_needState_1 ?_
  refine ga_iload_n hC dX11_needState_4 1 rfl rfl ?_
  refine ga_callV (As := [.int v1]) (st := []) (k := 1) (n := 1) hC h q_4_18 q_4_19 q_4_20 q_1_2 q_4_21 rfl rfl rfl (by decide +kernel) ⟨Nat.le_of_ble_eq_true rfl, Nat.le_of_ble_eq_true rfl⟩ ⟨Nat.le_of_ble_eq_true rfl, Nat.le_of_ble_eq_true rfl⟩ rfl rfl rfl (by decide) rfl (Nat.le_of_ble_eq_true rfl) dX11_needState_5 (fun v τ hq => ?_)
  obtain ⟨r1, rfl, h⟩ := hq
  obtain ⟨s2, es2⟩ : ∃ z, z = τ := ⟨_, rfl⟩
  rw [← es2] at h ⊢
  clear es2
  refine ga_if_ne (tgt := 22) hC dX11_needState_8 (by decide) (fun hc => ?_) (fun hc => ?_)
  · have h := h.1 hc
    exact gx_vret hC dX11_needState_22 ⟨Nat.le_of_ble_eq_true rfl, Nat.le_of_ble_eq_true rfl⟩ ⟨rfl, h⟩
  · have h := h.2 hc
    exact gx_throwW hY (by decide +kernel) (by decide +kernel) q_4_22 q_1_18 (is := 340) (text := _) (List.mem_of_getElem? (i := 13) rfl) xe1_IndexOutOfBoundsException xe2_IndexOutOfBoundsException xe3_IndexOutOfBoundsException dX11_needState_11 dX11_needState_14 dX11_needState_15 dX11_needState_18 dX11_needState_21 (Nat.le_of_ble_eq_true rfl) (Nat.le_of_ble_eq_true rfl) ⟨Nat.le_of_ble_eq_true rfl, Nat.le_of_ble_eq_true rfl⟩ ⟨Nat.le_of_ble_eq_true rfl, Nat.le_of_ble_eq_true rfl⟩ h
def M_X11_needChoice (v1 : Int32) (v2 : Int32) (σ : cg_S) (Q : cg_S → Prop) (X : String → cg_S → Prop) : Prop := cg_MX cg_WC yX11_needChoice cX11_needChoice 3 none (cg_RX 2 1) 1 6 (fun ad => [.ref (ad 0), .int v1, .int v2]) σ (cg_qv Q) X
theorem M_X11_needChoice.mono {v1 : Int32} {v2 : Int32} {σ : cg_S} {Q Q2 : cg_S → Prop} {X X2 : String → cg_S → Prop} (h : M_X11_needChoice v1 v2 σ Q X) (hq : ∀ τ, Q τ → Q2 τ) (hx : ∀ E τ, X E τ → X2 E τ) : M_X11_needChoice v1 v2 σ Q2 X2 := cg_MX.mono h (fun ad v τ ⟨e, q⟩ => ⟨e, hq τ q⟩) hx
set_option maxRecDepth 100000 in
set_option maxHeartbeats 4000000 in
theorem v_X11_needChoice {v1 : Int32} {v2 : Int32} {σ : cg_S} {Q : cg_S → Prop} {X : String → cg_S → Prop}
    (h : M_X2_hasChoice v1 v2 σ (fun r1 s2 => (¬ r1 = 0 → Q s2) ∧ (r1 = 0 → X "java/lang/IndexOutOfBoundsException" s2))) : M_X11_needChoice v1 v2 σ Q X := by
  refine cg_xentry (lv := fun ad => [(0, .ref (ad 0)), (1, .int v1), (2, .int v2)]) (by decide +kernel) (fun _ => rfl) (fun _ => Nat.le_of_ble_eq_true rfl) ?_
  intro p l e s m args below meth c D cy ad hY
  have hC := hY.1
  refine ga_aload_n hC dX11_needChoice_0 0 rfl rfl ?_
  refine gC_0_0 hC q_2_126 dX11_needChoice_1 ?_
  refine ga_iload_n hC dX11_needChoice_4 1 rfl rfl ?_
  refine ga_iload_n hC dX11_needChoice_5 2 rfl rfl ?_
  refine ga_callV (As := [.int v1, .int v2]) (st := []) (k := 1) (n := 2) hC h q_4_52 q_4_53 q_4_54 q_1_2 q_4_55 rfl rfl rfl (by decide +kernel) ⟨Nat.le_of_ble_eq_true rfl, Nat.le_of_ble_eq_true rfl⟩ ⟨Nat.le_of_ble_eq_true rfl, Nat.le_of_ble_eq_true rfl⟩ rfl rfl rfl (by decide) rfl (Nat.le_of_ble_eq_true rfl) dX11_needChoice_6 (fun v τ hq => ?_)
  obtain ⟨r1, rfl, h⟩ := hq
  obtain ⟨s2, es2⟩ : ∃ z, z = τ := ⟨_, rfl⟩
  rw [← es2] at h ⊢
  clear es2
  refine ga_if_ne (tgt := 23) hC dX11_needChoice_9 (by decide) (fun hc => ?_) (fun hc => ?_)
  · have h := h.1 hc
    exact gx_vret hC dX11_needChoice_23 ⟨Nat.le_of_ble_eq_true rfl, Nat.le_of_ble_eq_true rfl⟩ ⟨rfl, h⟩
  · have h := h.2 hc
    exact gx_throwW hY (by decide +kernel) (by decide +kernel) q_4_22 q_1_18 (is := 346) (text := _) (List.mem_of_getElem? (i := 14) rfl) xe1_IndexOutOfBoundsException xe2_IndexOutOfBoundsException xe3_IndexOutOfBoundsException dX11_needChoice_12 dX11_needChoice_15 dX11_needChoice_16 dX11_needChoice_19 dX11_needChoice_22 (Nat.le_of_ble_eq_true rfl) (Nat.le_of_ble_eq_true rfl) ⟨Nat.le_of_ble_eq_true rfl, Nat.le_of_ble_eq_true rfl⟩ ⟨Nat.le_of_ble_eq_true rfl, Nat.le_of_ble_eq_true rfl⟩ h
def M_X11_needWhole (σ : cg_S) (Q : cg_S → Prop) (X : String → cg_S → Prop) : Prop := cg_MX cg_WC yX11_needWhole cX11_needWhole 1 none (cg_RX 2 1) 1 6 (fun ad => [.ref (ad 0)]) σ (cg_qv Q) X
theorem M_X11_needWhole.mono {σ : cg_S} {Q Q2 : cg_S → Prop} {X X2 : String → cg_S → Prop} (h : M_X11_needWhole σ Q X) (hq : ∀ τ, Q τ → Q2 τ) (hx : ∀ E τ, X E τ → X2 E τ) : M_X11_needWhole σ Q2 X2 := cg_MX.mono h (fun ad v τ ⟨e, q⟩ => ⟨e, hq τ q⟩) hx
set_option maxRecDepth 100000 in
set_option maxHeartbeats 4000000 in
theorem v_X11_needWhole {σ : cg_S} {Q : cg_S → Prop} {X : String → cg_S → Prop}
    (h : M_X2_isReady σ (fun r1 s2 => (¬ r1 = 0 → Q s2) ∧ (r1 = 0 → X "java/lang/IllegalStateException" s2))) : M_X11_needWhole σ Q X := by
  refine cg_xentry (lv := fun ad => [(0, .ref (ad 0))]) (by decide +kernel) (fun _ => rfl) (fun _ => Nat.le_of_ble_eq_true rfl) ?_
  intro p l e s m args below meth c D cy ad hY
  have hC := hY.1
  refine ga_aload_n hC dX11_needWhole_0 0 rfl rfl ?_
  refine gC_0_0 hC q_2_126 dX11_needWhole_1 ?_
  refine ga_callV (As := []) (st := []) (k := 1) (n := 0) hC h q_2_164 q_2_165 q_2_166 q_1_2 q_2_167 rfl rfl rfl (by decide +kernel) ⟨Nat.le_of_ble_eq_true rfl, Nat.le_of_ble_eq_true rfl⟩ ⟨Nat.le_of_ble_eq_true rfl, Nat.le_of_ble_eq_true rfl⟩ rfl rfl rfl (by decide) rfl (Nat.le_of_ble_eq_true rfl) dX11_needWhole_4 (fun v τ hq => ?_)
  obtain ⟨r1, rfl, h⟩ := hq
  obtain ⟨s2, es2⟩ : ∃ z, z = τ := ⟨_, rfl⟩
  rw [← es2] at h ⊢
  clear es2
  refine ga_if_ne (tgt := 21) hC dX11_needWhole_7 (by decide) (fun hc => ?_) (fun hc => ?_)
  · have h := h.1 hc
    exact gx_vret hC dX11_needWhole_21 ⟨Nat.le_of_ble_eq_true rfl, Nat.le_of_ble_eq_true rfl⟩ ⟨rfl, h⟩
  · have h := h.2 hc
    exact gx_throwW hY (by decide +kernel) (by decide +kernel) q_3_203 q_1_17 (is := 332) (text := _) (List.mem_of_getElem? (i := 12) rfl) xe1_IllegalStateException xe2_IllegalStateException xe3_IllegalStateException dX11_needWhole_10 dX11_needWhole_13 dX11_needWhole_14 dX11_needWhole_17 dX11_needWhole_20 (Nat.le_of_ble_eq_true rfl) (Nat.le_of_ble_eq_true rfl) ⟨Nat.le_of_ble_eq_true rfl, Nat.le_of_ble_eq_true rfl⟩ ⟨Nat.le_of_ble_eq_true rfl, Nat.le_of_ble_eq_true rfl⟩ h
def M_X11_needWholeFor (v1 : Int32) (σ : cg_S) (Q : cg_S → Prop) (X : String → cg_S → Prop) : Prop := cg_MX cg_WC yX11_needWholeFor cX11_needWholeFor 2 none (cg_RX 3 2) 2 12 (fun ad => [.ref (ad 0), .int v1]) σ (cg_qv Q) X
theorem M_X11_needWholeFor.mono {v1 : Int32} {σ : cg_S} {Q Q2 : cg_S → Prop} {X X2 : String → cg_S → Prop} (h : M_X11_needWholeFor v1 σ Q X) (hq : ∀ τ, Q τ → Q2 τ) (hx : ∀ E τ, X E τ → X2 E τ) : M_X11_needWholeFor v1 σ Q2 X2 := cg_MX.mono h (fun ad v τ ⟨e, q⟩ => ⟨e, hq τ q⟩) hx
set_option maxRecDepth 100000 in
set_option maxHeartbeats 4000000 in
theorem v_X11_needWholeFor {v1 : Int32} {σ : cg_S} {Q : cg_S → Prop} {X : String → cg_S → Prop}
    (h : M_X11_needState v1 σ (fun s2 => M_X11_needWhole s2 (fun s5 => Q s5) X) X) : M_X11_needWholeFor v1 σ Q X := by
  refine cg_xentry (lv := fun ad => [(0, .ref (ad 0)), (1, .int v1)]) (by decide +kernel) (fun _ => rfl) (fun _ => Nat.le_of_ble_eq_true rfl) ?_
  intro p l e s m args below meth c D cy ad hY
  have hC := hY.1
  refine ga_aload_n hC dX11_needWholeFor_0 0 rfl rfl ?_
  refine ga_iload_n hC dX11_needWholeFor_1 1 rfl rfl ?_
  refine gx_callV (As := [.int v1]) (st := []) (k := 0) (n := 1) hY h q_4_14 q_4_16 q_0_3 q_1_1 q_4_17 rfl rfl rfl (by decide +kernel) ⟨Nat.le_of_ble_eq_true rfl, Nat.le_of_ble_eq_true rfl⟩ ⟨Nat.le_of_ble_eq_true rfl, Nat.le_of_ble_eq_true rfl⟩ ⟨Nat.le_of_ble_eq_true rfl, Nat.le_of_ble_eq_true rfl⟩ rfl rfl rfl (by decide) rfl (Nat.le_of_ble_eq_true rfl) dX11_needWholeFor_2 (fun v τ hq => ?_)
  obtain ⟨rfl, h⟩ := hq
  obtain ⟨s2, es2⟩ : ∃ z, z = τ := ⟨_, rfl⟩
  rw [← es2] at h ⊢
  clear es2
  refine ga_aload_n hC dX11_needWholeFor_5 0 rfl rfl ?_
  refine gx_callV (As := []) (st := []) (k := 0) (n := 0) hY h q_4_95 q_4_97 q_0_5 q_1_1 q_4_98 rfl rfl rfl (by decide +kernel) ⟨Nat.le_of_ble_eq_true rfl, Nat.le_of_ble_eq_true rfl⟩ ⟨Nat.le_of_ble_eq_true rfl, Nat.le_of_ble_eq_true rfl⟩ ⟨Nat.le_of_ble_eq_true rfl, Nat.le_of_ble_eq_true rfl⟩ rfl rfl rfl (by decide) rfl (Nat.le_of_ble_eq_true rfl) dX11_needWholeFor_6 (fun v τ hq => ?_)
  obtain ⟨rfl, h⟩ := hq
  obtain ⟨s5, es5⟩ : ∃ z, z = τ := ⟨_, rfl⟩
  rw [← es5] at h ⊢
  clear es5
  exact gx_vret hC dX11_needWholeFor_9 ⟨Nat.le_of_ble_eq_true rfl, Nat.le_of_ble_eq_true rfl⟩ ⟨rfl, h⟩
def M_X11_needSolvable (v1 : Int32) (v2 : Int32) (σ : cg_S) (Q : cg_S → Prop) (X : String → cg_S → Prop) : Prop := cg_MX cg_WC yX11_needSolvable cX11_needSolvable 3 none (cg_RX 4 3) 3 18 (fun ad => [.ref (ad 0), .int v1, .int v2]) σ (cg_qv Q) X
theorem M_X11_needSolvable.mono {v1 : Int32} {v2 : Int32} {σ : cg_S} {Q Q2 : cg_S → Prop} {X X2 : String → cg_S → Prop} (h : M_X11_needSolvable v1 v2 σ Q X) (hq : ∀ τ, Q τ → Q2 τ) (hx : ∀ E τ, X E τ → X2 E τ) : M_X11_needSolvable v1 v2 σ Q2 X2 := cg_MX.mono h (fun ad v τ ⟨e, q⟩ => ⟨e, hq τ q⟩) hx
set_option maxRecDepth 100000 in
set_option maxHeartbeats 4000000 in
theorem v_X11_needSolvable {v1 : Int32} {v2 : Int32} {σ : cg_S} {Q : cg_S → Prop} {X : String → cg_S → Prop}
    (h : M_X11_needAim v1 σ (fun s2 => M_X11_needWholeFor v2 s2 (fun s5 => Q s5) X) X) : M_X11_needSolvable v1 v2 σ Q X := by
  refine cg_xentry (lv := fun ad => [(0, .ref (ad 0)), (1, .int v1), (2, .int v2)]) (by decide +kernel) (fun _ => rfl) (fun _ => Nat.le_of_ble_eq_true rfl) ?_
  intro p l e s m args below meth c D cy ad hY
  have hC := hY.1
  refine ga_iload_n hC dX11_needSolvable_0 1 rfl rfl ?_
  refine gx_callS (As := [.int v1]) (st := []) (n := 1) hY h q_4_91 q_4_92 q_1_1 q_4_93 rfl rfl rfl (by decide +kernel) ⟨Nat.le_of_ble_eq_true rfl, Nat.le_of_ble_eq_true rfl⟩ ⟨Nat.le_of_ble_eq_true rfl, Nat.le_of_ble_eq_true rfl⟩ ⟨Nat.le_of_ble_eq_true rfl, Nat.le_of_ble_eq_true rfl⟩ rfl rfl (Nat.le_of_ble_eq_true rfl) dX11_needSolvable_1 (fun v τ hq => ?_)
  obtain ⟨rfl, h⟩ := hq
  obtain ⟨s2, es2⟩ : ∃ z, z = τ := ⟨_, rfl⟩
  rw [← es2] at h ⊢
  clear es2
  refine ga_aload_n hC dX11_needSolvable_4 0 rfl rfl ?_
  refine ga_iload_n hC dX11_needSolvable_5 2 rfl rfl ?_
  refine gx_callV (As := [.int v2]) (st := []) (k := 0) (n := 1) hY h q_4_159 q_4_161 q_0_8 q_1_1 q_4_162 rfl rfl rfl (by decide +kernel) ⟨Nat.le_of_ble_eq_true rfl, Nat.le_of_ble_eq_true rfl⟩ ⟨Nat.le_of_ble_eq_true rfl, Nat.le_of_ble_eq_true rfl⟩ ⟨Nat.le_of_ble_eq_true rfl, Nat.le_of_ble_eq_true rfl⟩ rfl rfl rfl (by decide) rfl (Nat.le_of_ble_eq_true rfl) dX11_needSolvable_6 (fun v τ hq => ?_)
  obtain ⟨rfl, h⟩ := hq
  obtain ⟨s5, es5⟩ : ∃ z, z = τ := ⟨_, rfl⟩
  rw [← es5] at h ⊢
  clear es5
  exact gx_vret hC dX11_needSolvable_9 ⟨Nat.le_of_ble_eq_true rfl, Nat.le_of_ble_eq_true rfl⟩ ⟨rfl, h⟩
def M_X11_findValues (v1 : Int32) (v2 : Int32) (σ : cg_S) (Q : cg_S → Prop) (X : String → cg_S → Prop) : Prop := cg_MX cg_WC yX11_findValues cX11_findValues 3 none (cg_RX 5 3) 3 18 (fun ad => [.ref (ad 0), .int v1, .int v2]) σ (cg_qv Q) X
theorem M_X11_findValues.mono {v1 : Int32} {v2 : Int32} {σ : cg_S} {Q Q2 : cg_S → Prop} {X X2 : String → cg_S → Prop} (h : M_X11_findValues v1 v2 σ Q X) (hq : ∀ τ, Q τ → Q2 τ) (hx : ∀ E τ, X E τ → X2 E τ) : M_X11_findValues v1 v2 σ Q2 X2 := cg_MX.mono h (fun ad v τ ⟨e, q⟩ => ⟨e, hq τ q⟩) hx
set_option maxRecDepth 100000 in
set_option maxHeartbeats 4000000 in
theorem v_X11_findValues {v1 : Int32} {v2 : Int32} {σ : cg_S} {Q : cg_S → Prop} {X : String → cg_S → Prop}
    (h : M_X11_needSolvable v1 v2 σ (fun s2 => M_X4_improve v1 19 1 1 s2 (fun s5 => Q s5)) X) : M_X11_findValues v1 v2 σ Q X := by
  refine cg_xentry (lv := fun ad => [(0, .ref (ad 0)), (1, .int v1), (2, .int v2)]) (by decide +kernel) (fun _ => rfl) (fun _ => Nat.le_of_ble_eq_true rfl) ?_
  intro p l e s m args below meth c D cy ad hY
  have hC := hY.1
  refine ga_aload_n hC dX11_findValues_0 0 rfl rfl ?_
  refine ga_iload_n hC dX11_findValues_1 1 rfl rfl ?_
  refine ga_iload_n hC dX11_findValues_2 2 rfl rfl ?_
  refine gx_callV (As := [.int v1, .int v2]) (st := []) (k := 0) (n := 2) hY h q_4_155 q_4_157 q_0_7 q_1_1 q_4_158 rfl rfl rfl (by decide +kernel) ⟨Nat.le_of_ble_eq_true rfl, Nat.le_of_ble_eq_true rfl⟩ ⟨Nat.le_of_ble_eq_true rfl, Nat.le_of_ble_eq_true rfl⟩ ⟨Nat.le_of_ble_eq_true rfl, Nat.le_of_ble_eq_true rfl⟩ rfl rfl rfl (by decide) rfl (Nat.le_of_ble_eq_true rfl) dX11_findValues_3 (fun v τ hq => ?_)
  obtain ⟨rfl, h⟩ := hq
  obtain ⟨s2, es2⟩ : ∃ z, z = τ := ⟨_, rfl⟩
  rw [← es2] at h ⊢
  clear es2
  refine ga_aload_n hC dX11_findValues_6 0 rfl rfl ?_
  refine gC_0_5 hC q_2_131 dX11_findValues_7 ?_
  refine ga_iload_n hC dX11_findValues_10 1 rfl rfl ?_
  refine ga_aload_n hC dX11_findValues_11 0 rfl rfl ?_
  refine gC_0_1 hC q_2_127 dX11_findValues_12 ?_
  refine ga_iconst (v := 1) hC dX11_findValues_15 (by decide) ?_
  refine ga_iconst (v := 1) hC dX11_findValues_16 (by decide) ?_
  refine ga_callV (As := [.int v1, .ref (ad 19), .int 1, .int 1]) (st := []) (k := 6) (n := 4) hC h q_2_215 q_2_216 q_2_217 q_1_6 q_2_218 rfl rfl rfl (by decide +kernel) ⟨Nat.le_of_ble_eq_true rfl, Nat.le_of_ble_eq_true rfl⟩ ⟨Nat.le_of_ble_eq_true rfl, Nat.le_of_ble_eq_true rfl⟩ rfl rfl rfl (by decide) rfl (Nat.le_of_ble_eq_true rfl) dX11_findValues_17 (fun v τ hq => ?_)
  obtain ⟨rfl, h⟩ := hq
  obtain ⟨s5, es5⟩ : ∃ z, z = τ := ⟨_, rfl⟩
  rw [← es5] at h ⊢
  clear es5
  exact gx_vret hC dX11_findValues_20 ⟨Nat.le_of_ble_eq_true rfl, Nat.le_of_ble_eq_true rfl⟩ ⟨rfl, h⟩
def M_X11_findResponse (v1 : Int32) (v2 : Int32) (v3 : Int32) (σ : cg_S) (Q : cg_S → Prop) (X : String → cg_S → Prop) : Prop := cg_MX cg_WC yX11_findResponse cX11_findResponse 4 none (cg_RX 5 4) 4 24 (fun ad => [.ref (ad 0), .int v1, .int v2, .int v3]) σ (cg_qv Q) X
theorem M_X11_findResponse.mono {v1 : Int32} {v2 : Int32} {v3 : Int32} {σ : cg_S} {Q Q2 : cg_S → Prop} {X X2 : String → cg_S → Prop} (h : M_X11_findResponse v1 v2 v3 σ Q X) (hq : ∀ τ, Q τ → Q2 τ) (hx : ∀ E τ, X E τ → X2 E τ) : M_X11_findResponse v1 v2 v3 σ Q2 X2 := cg_MX.mono h (fun ad v τ ⟨e, q⟩ => ⟨e, hq τ q⟩) hx
def L_X11_findResponse_30 (v1 : Int32) (t1 : Int32) (t3 : Int32) (σ : cg_S) (Q : cg_S → Prop) (X : String → cg_S → Prop) : Prop := cg_LX cg_WC RX11 cX11_findResponse 4 none (cg_RX 5 4) 4 24 30 (fun ad => [(1, .int v1)]) (fun ad => [.int t3, .ref (ad 19), .int t1, .ref (ad 6)]) 4 24 σ (cg_qv Q) X
set_option maxRecDepth 100000 in
set_option maxHeartbeats 4000000 in
theorem v_X11_findResponse_30 {v1 : Int32} {t1 : Int32} {t3 : Int32} {σ : cg_S} {Q : cg_S → Prop} {X : String → cg_S → Prop}
    (h : (¬ v1 = 97 → M_X4_improve t1 19 t3 0 σ (fun s2 => Q s2)) ∧ (v1 = 97 → M_X4_improve t1 19 t3 1 σ (fun s5 => Q s5))) : L_X11_findResponse_30 v1 t1 t3 σ Q X := by
  intro p l e s m args below meth c D cy ad hY
  have hC := hY.1
  refine ga_iload_n hC dX11_findResponse_30 0 rfl rfl ?_
  refine ga_bipush (v := 97) hC dX11_findResponse_31 (by decide) ?_
  refine ga_icmp_ne (tgt := 40) hC dX11_findResponse_33 (by decide) (fun hc => ?_) (fun hc => ?_)
  · have h := h.1 hc
    refine ga_iconst (v := 0) hC dX11_findResponse_40 (by decide) ?_
    refine ga_callV (As := [.int t1, .ref (ad 19), .int t3, .int 0]) (st := []) (k := 6) (n := 4) hC h q_2_215 q_2_216 q_2_217 q_1_6 q_2_218 rfl rfl rfl (by decide +kernel) ⟨Nat.le_of_ble_eq_true rfl, Nat.le_of_ble_eq_true rfl⟩ ⟨Nat.le_of_ble_eq_true rfl, Nat.le_of_ble_eq_true rfl⟩ rfl rfl rfl (by decide) rfl (Nat.le_of_ble_eq_true rfl) dX11_findResponse_41 (fun v τ hq => ?_)
    obtain ⟨rfl, h⟩ := hq
    obtain ⟨s2, es2⟩ : ∃ z, z = τ := ⟨_, rfl⟩
    rw [← es2] at h ⊢
    clear es2
    exact gx_vret hC dX11_findResponse_44 ⟨Nat.le_of_ble_eq_true rfl, Nat.le_of_ble_eq_true rfl⟩ ⟨rfl, h⟩
  · have h := h.2 hc
    refine ga_iconst (v := 1) hC dX11_findResponse_36 (by decide) ?_
    refine ga_goto (tgt := 41) hC dX11_findResponse_37 (by decide) ?_
    refine ga_callV (As := [.int t1, .ref (ad 19), .int t3, .int 1]) (st := []) (k := 6) (n := 4) hC h q_2_215 q_2_216 q_2_217 q_1_6 q_2_218 rfl rfl rfl (by decide +kernel) ⟨Nat.le_of_ble_eq_true rfl, Nat.le_of_ble_eq_true rfl⟩ ⟨Nat.le_of_ble_eq_true rfl, Nat.le_of_ble_eq_true rfl⟩ rfl rfl rfl (by decide) rfl (Nat.le_of_ble_eq_true rfl) dX11_findResponse_41 (fun v τ hq => ?_)
    obtain ⟨rfl, h⟩ := hq
    obtain ⟨s5, es5⟩ : ∃ z, z = τ := ⟨_, rfl⟩
    rw [← es5] at h ⊢
    clear es5
    exact gx_vret hC dX11_findResponse_44 ⟨Nat.le_of_ble_eq_true rfl, Nat.le_of_ble_eq_true rfl⟩ ⟨rfl, h⟩
set_option maxRecDepth 100000 in
set_option maxHeartbeats 4000000 in
theorem v_X11_findResponse {v1 : Int32} {v2 : Int32} {v3 : Int32} {σ : cg_S} {Q : cg_S → Prop} {X : String → cg_S → Prop}
    (h : M_X11_needPlayer v1 σ (fun s2 => M_X11_needSolvable v2 v3 s2 (fun s5 => (¬ v1 = 98 → L_X11_findResponse_30 v1 v2 0 s5 Q X) ∧ (v1 = 98 → L_X11_findResponse_30 v1 v2 1 s5 Q X)) X) X) : M_X11_findResponse v1 v2 v3 σ Q X := by
  refine cg_xentry (lv := fun ad => [(0, .ref (ad 0)), (1, .int v1), (2, .int v2), (3, .int v3)]) (by decide +kernel) (fun _ => rfl) (fun _ => Nat.le_of_ble_eq_true rfl) ?_
  intro p l e s m args below meth c D cy ad hY
  have hC := hY.1
  refine ga_iload_n hC dX11_findResponse_0 1 rfl rfl ?_
  refine gx_callS (As := [.int v1]) (st := []) (n := 1) hY h q_3_128 q_3_129 q_1_1 q_3_130 rfl rfl rfl (by decide +kernel) ⟨Nat.le_of_ble_eq_true rfl, Nat.le_of_ble_eq_true rfl⟩ ⟨Nat.le_of_ble_eq_true rfl, Nat.le_of_ble_eq_true rfl⟩ ⟨Nat.le_of_ble_eq_true rfl, Nat.le_of_ble_eq_true rfl⟩ rfl rfl (Nat.le_of_ble_eq_true rfl) dX11_findResponse_1 (fun v τ hq => ?_)
  obtain ⟨rfl, h⟩ := hq
  obtain ⟨s2, es2⟩ : ∃ z, z = τ := ⟨_, rfl⟩
  rw [← es2] at h ⊢
  clear es2
  refine ga_aload_n hC dX11_findResponse_4 0 rfl rfl ?_
  refine ga_iload_n hC dX11_findResponse_5 2 rfl rfl ?_
  refine ga_iload_n hC dX11_findResponse_6 3 rfl rfl ?_
  refine gx_callV (As := [.int v2, .int v3]) (st := []) (k := 0) (n := 2) hY h q_4_155 q_4_157 q_0_7 q_1_1 q_4_158 rfl rfl rfl (by decide +kernel) ⟨Nat.le_of_ble_eq_true rfl, Nat.le_of_ble_eq_true rfl⟩ ⟨Nat.le_of_ble_eq_true rfl, Nat.le_of_ble_eq_true rfl⟩ ⟨Nat.le_of_ble_eq_true rfl, Nat.le_of_ble_eq_true rfl⟩ rfl rfl rfl (by decide) rfl (Nat.le_of_ble_eq_true rfl) dX11_findResponse_7 (fun v τ hq => ?_)
  obtain ⟨rfl, h⟩ := hq
  obtain ⟨s5, es5⟩ : ∃ z, z = τ := ⟨_, rfl⟩
  rw [← es5] at h ⊢
  clear es5
  refine ga_aload_n hC dX11_findResponse_10 0 rfl rfl ?_
  refine gC_0_5 hC q_2_131 dX11_findResponse_11 ?_
  refine ga_iload_n hC dX11_findResponse_14 2 rfl rfl ?_
  refine ga_aload_n hC dX11_findResponse_15 0 rfl rfl ?_
  refine gC_0_1 hC q_2_127 dX11_findResponse_16 ?_
  refine ga_iload_n hC dX11_findResponse_19 1 rfl rfl ?_
  refine ga_bipush (v := 98) hC dX11_findResponse_20 (by decide) ?_
  refine ga_icmp_ne (tgt := 29) hC dX11_findResponse_22 (by decide) (fun hc => ?_) (fun hc => ?_)
  · have h := h.1 hc
    refine ga_iconst (v := 0) hC dX11_findResponse_29 (by decide) ?_
    refine ga_locals [1] rfl ?_
    exact h p l e s m args below meth c D cy ad hY
  · have h := h.2 hc
    refine ga_iconst (v := 1) hC dX11_findResponse_25 (by decide) ?_
    refine ga_goto (tgt := 30) hC dX11_findResponse_26 (by decide) ?_
    refine ga_locals [1] rfl ?_
    exact h p l e s m args below meth c D cy ad hY
def M_X11_followChain (v1 : Int32) (v2 : Int32) (σ : cg_S) (Q : cg_S → Prop) (X : String → cg_S → Prop) : Prop := cg_MX cg_WC yX11_followChain cX11_followChain 3 none (cg_RX 5 3) 3 18 (fun ad => [.ref (ad 0), .int v1, .int v2]) σ (cg_qv Q) X
theorem M_X11_followChain.mono {v1 : Int32} {v2 : Int32} {σ : cg_S} {Q Q2 : cg_S → Prop} {X X2 : String → cg_S → Prop} (h : M_X11_followChain v1 v2 σ Q X) (hq : ∀ τ, Q τ → Q2 τ) (hx : ∀ E τ, X E τ → X2 E τ) : M_X11_followChain v1 v2 σ Q2 X2 := cg_MX.mono h (fun ad v τ ⟨e, q⟩ => ⟨e, hq τ q⟩) hx
def L_X11_followChain_16 (v1 : Int32) (v2 : Int32) (σ : cg_S) (Q : cg_S → Prop) (X : String → cg_S → Prop) : Prop := cg_LX cg_WC RX11 cX11_followChain 3 none (cg_RX 5 3) 3 18 16 (fun ad => [(0, .ref (ad 0)), (1, .int v1), (2, .int v2)]) (fun ad => []) 1 6 σ (cg_qv Q) X
set_option maxRecDepth 100000 in
set_option maxHeartbeats 4000000 in
theorem v_X11_followChain_16 {v1 : Int32} {v2 : Int32} {σ : cg_S} {Q : cg_S → Prop} {X : String → cg_S → Prop}
    (h : M_X11_needWholeFor v2 σ (fun s2 => (¬ v1 = 109 → (¬ v1 = 112 → M_X0_evaluate v1 19 s2 (fun s5 => Q s5)) ∧ (v1 = 112 → M_X6_findParity 19 s2 (fun s8 => Q s8))) ∧ (v1 = 109 → M_X6_findMeans 19 s2 (fun s11 => Q s11))) X) : L_X11_followChain_16 v1 v2 σ Q X := by
  intro p l e s m args below meth c D cy ad hY
  have hC := hY.1
  refine ga_aload_n hC dX11_followChain_16 0 rfl rfl ?_
  refine ga_iload_n hC dX11_followChain_17 2 rfl rfl ?_
  refine gx_callV (As := [.int v2]) (st := []) (k := 0) (n := 1) hY h q_4_159 q_4_161 q_0_8 q_1_1 q_4_162 rfl rfl rfl (by decide +kernel) ⟨Nat.le_of_ble_eq_true rfl, Nat.le_of_ble_eq_true rfl⟩ ⟨Nat.le_of_ble_eq_true rfl, Nat.le_of_ble_eq_true rfl⟩ ⟨Nat.le_of_ble_eq_true rfl, Nat.le_of_ble_eq_true rfl⟩ rfl rfl rfl (by decide) rfl (Nat.le_of_ble_eq_true rfl) dX11_followChain_18 (fun v τ hq => ?_)
  obtain ⟨rfl, h⟩ := hq
  obtain ⟨s2, es2⟩ : ∃ z, z = τ := ⟨_, rfl⟩
  rw [← es2] at h ⊢
  clear es2
  refine ga_iload_n hC dX11_followChain_21 1 rfl rfl ?_
  refine ga_bipush (v := 109) hC dX11_followChain_22 (by decide) ?_
  refine ga_icmp_ne (tgt := 41) hC dX11_followChain_24 (by decide) (fun hc => ?_) (fun hc => ?_)
  · have h := h.1 hc
    refine ga_iload_n hC dX11_followChain_41 1 rfl rfl ?_
    refine ga_bipush (v := 112) hC dX11_followChain_42 (by decide) ?_
    refine ga_icmp_ne (tgt := 61) hC dX11_followChain_44 (by decide) (fun hc => ?_) (fun hc => ?_)
    · have h := h.1 hc
      refine ga_aload_n hC dX11_followChain_61 0 rfl rfl ?_
      refine gC_0_3 hC q_2_129 dX11_followChain_62 ?_
      refine ga_iload_n hC dX11_followChain_65 1 rfl rfl ?_
      refine ga_aload_n hC dX11_followChain_66 0 rfl rfl ?_
      refine gC_0_1 hC q_2_127 dX11_followChain_67 ?_
      refine ga_callV (As := [.int v1, .ref (ad 19)]) (st := []) (k := 3) (n := 2) hC h q_5_52 q_5_53 q_5_54 q_1_4 q_5_55 rfl rfl rfl (by decide +kernel) ⟨Nat.le_of_ble_eq_true rfl, Nat.le_of_ble_eq_true rfl⟩ ⟨Nat.le_of_ble_eq_true rfl, Nat.le_of_ble_eq_true rfl⟩ rfl rfl rfl (by decide) rfl (Nat.le_of_ble_eq_true rfl) dX11_followChain_70 (fun v τ hq => ?_)
      obtain ⟨rfl, h⟩ := hq
      obtain ⟨s5, es5⟩ : ∃ z, z = τ := ⟨_, rfl⟩
      rw [← es5] at h ⊢
      clear es5
      exact gx_vret hC dX11_followChain_73 ⟨Nat.le_of_ble_eq_true rfl, Nat.le_of_ble_eq_true rfl⟩ ⟨rfl, h⟩
    · have h := h.2 hc
      refine ga_aload_n hC dX11_followChain_47 0 rfl rfl ?_
      refine gC_0_4 hC q_2_130 dX11_followChain_48 ?_
      refine ga_aload_n hC dX11_followChain_51 0 rfl rfl ?_
      refine gC_0_1 hC q_2_127 dX11_followChain_52 ?_
      refine ga_callV (As := [.ref (ad 19)]) (st := []) (k := 5) (n := 1) hC h q_5_34 q_5_35 q_5_36 q_1_7 q_5_37 rfl rfl rfl (by decide +kernel) ⟨Nat.le_of_ble_eq_true rfl, Nat.le_of_ble_eq_true rfl⟩ ⟨Nat.le_of_ble_eq_true rfl, Nat.le_of_ble_eq_true rfl⟩ rfl rfl rfl (by decide) rfl (Nat.le_of_ble_eq_true rfl) dX11_followChain_55 (fun v τ hq => ?_)
      obtain ⟨rfl, h⟩ := hq
      obtain ⟨s8, es8⟩ : ∃ z, z = τ := ⟨_, rfl⟩
      rw [← es8] at h ⊢
      clear es8
      refine ga_goto (tgt := 73) hC dX11_followChain_58 (by decide) ?_
      exact gx_vret hC dX11_followChain_73 ⟨Nat.le_of_ble_eq_true rfl, Nat.le_of_ble_eq_true rfl⟩ ⟨rfl, h⟩
  · have h := h.2 hc
    refine ga_aload_n hC dX11_followChain_27 0 rfl rfl ?_
    refine gC_0_4 hC q_2_130 dX11_followChain_28 ?_
    refine ga_aload_n hC dX11_followChain_31 0 rfl rfl ?_
    refine gC_0_1 hC q_2_127 dX11_followChain_32 ?_
    refine ga_callV (As := [.ref (ad 19)]) (st := []) (k := 5) (n := 1) hC h q_4_217 q_4_218 q_4_219 q_1_7 q_4_220 rfl rfl rfl (by decide +kernel) ⟨Nat.le_of_ble_eq_true rfl, Nat.le_of_ble_eq_true rfl⟩ ⟨Nat.le_of_ble_eq_true rfl, Nat.le_of_ble_eq_true rfl⟩ rfl rfl rfl (by decide) rfl (Nat.le_of_ble_eq_true rfl) dX11_followChain_35 (fun v τ hq => ?_)
    obtain ⟨rfl, h⟩ := hq
    obtain ⟨s11, es11⟩ : ∃ z, z = τ := ⟨_, rfl⟩
    rw [← es11] at h ⊢
    clear es11
    refine ga_goto (tgt := 73) hC dX11_followChain_38 (by decide) ?_
    exact gx_vret hC dX11_followChain_73 ⟨Nat.le_of_ble_eq_true rfl, Nat.le_of_ble_eq_true rfl⟩ ⟨rfl, h⟩
set_option maxRecDepth 100000 in
set_option maxHeartbeats 4000000 in
theorem v_X11_followChain {v1 : Int32} {v2 : Int32} {σ : cg_S} {Q : cg_S → Prop} {X : String → cg_S → Prop}
    (h : (v1 = 109 → L_X11_followChain_16 v1 v2 σ Q X) ∧ (¬ v1 = 109 → (v1 = 112 → L_X11_followChain_16 v1 v2 σ Q X) ∧ (¬ v1 = 112 → M_X11_needAim v1 σ (fun s2 => L_X11_followChain_16 v1 v2 s2 Q X) X))) : M_X11_followChain v1 v2 σ Q X := by
  refine cg_xentry (lv := fun ad => [(0, .ref (ad 0)), (1, .int v1), (2, .int v2)]) (by decide +kernel) (fun _ => rfl) (fun _ => Nat.le_of_ble_eq_true rfl) ?_
  intro p l e s m args below meth c D cy ad hY
  have hC := hY.1
  refine ga_iload_n hC dX11_followChain_0 1 rfl rfl ?_
  refine ga_bipush (v := 109) hC dX11_followChain_1 (by decide) ?_
  refine ga_icmp_eq (tgt := 16) hC dX11_followChain_3 (by decide) (fun hc => ?_) (fun hc => ?_)
  · have h := h.1 hc
    refine ga_widen (k := 1) (n := 6) (by decide) (by decide) ?_
    refine ga_locals [0, 1, 2] rfl ?_
    exact h p l e s m args below meth c D cy ad hY
  · have h := h.2 hc
    refine ga_iload_n hC dX11_followChain_6 1 rfl rfl ?_
    refine ga_bipush (v := 112) hC dX11_followChain_7 (by decide) ?_
    refine ga_icmp_eq (tgt := 16) hC dX11_followChain_9 (by decide) (fun hc => ?_) (fun hc => ?_)
    · have h := h.1 hc
      refine ga_widen (k := 1) (n := 6) (by decide) (by decide) ?_
      refine ga_locals [0, 1, 2] rfl ?_
      exact h p l e s m args below meth c D cy ad hY
    · have h := h.2 hc
      refine ga_iload_n hC dX11_followChain_12 1 rfl rfl ?_
      refine gx_callS (As := [.int v1]) (st := []) (n := 1) hY h q_4_91 q_4_92 q_1_1 q_4_93 rfl rfl rfl (by decide +kernel) ⟨Nat.le_of_ble_eq_true rfl, Nat.le_of_ble_eq_true rfl⟩ ⟨Nat.le_of_ble_eq_true rfl, Nat.le_of_ble_eq_true rfl⟩ ⟨Nat.le_of_ble_eq_true rfl, Nat.le_of_ble_eq_true rfl⟩ rfl rfl (Nat.le_of_ble_eq_true rfl) dX11_followChain_13 (fun v τ hq => ?_)
      obtain ⟨rfl, h⟩ := hq
      obtain ⟨s2, es2⟩ : ∃ z, z = τ := ⟨_, rfl⟩
      rw [← es2] at h ⊢
      clear es2
      refine ga_locals [0, 1, 2] rfl ?_
      exact h p l e s m args below meth c D cy ad hY
def M_X11_findTrace (v1 : Int32) (σ : cg_S) (Q : cg_S → Prop) (X : String → cg_S → Prop) : Prop := cg_MX cg_WC yX11_findTrace cX11_findTrace 2 none (cg_RX 4 3) 3 18 (fun ad => [.ref (ad 0), .int v1]) σ (cg_qv Q) X
theorem M_X11_findTrace.mono {v1 : Int32} {σ : cg_S} {Q Q2 : cg_S → Prop} {X X2 : String → cg_S → Prop} (h : M_X11_findTrace v1 σ Q X) (hq : ∀ τ, Q τ → Q2 τ) (hx : ∀ E τ, X E τ → X2 E τ) : M_X11_findTrace v1 σ Q2 X2 := cg_MX.mono h (fun ad v τ ⟨e, q⟩ => ⟨e, hq τ q⟩) hx
set_option maxRecDepth 100000 in
set_option maxHeartbeats 4000000 in
theorem v_X11_findTrace {v1 : Int32} {σ : cg_S} {Q : cg_S → Prop} {X : String → cg_S → Prop}
    (h : M_X11_needWholeFor v1 σ (fun s2 => M_X9_follow 19 s2 (fun s5 => vp_in v1 7 ∧ (¬ (s5.1 35 v1.toNatClampNeg) = 0 → Q s5) ∧ ((s5.1 35 v1.toNatClampNeg) = 0 → X "java/util/NoSuchElementException" s5))) X) : M_X11_findTrace v1 σ Q X := by
  refine cg_xentry (lv := fun ad => [(0, .ref (ad 0)), (1, .int v1)]) (by decide +kernel) (fun _ => rfl) (fun _ => Nat.le_of_ble_eq_true rfl) ?_
  intro p l e s m args below meth c D cy ad hY
  have hC := hY.1
  refine ga_aload_n hC dX11_findTrace_0 0 rfl rfl ?_
  refine ga_iload_n hC dX11_findTrace_1 1 rfl rfl ?_
  refine gx_callV (As := [.int v1]) (st := []) (k := 0) (n := 1) hY h q_4_159 q_4_161 q_0_8 q_1_1 q_4_162 rfl rfl rfl (by decide +kernel) ⟨Nat.le_of_ble_eq_true rfl, Nat.le_of_ble_eq_true rfl⟩ ⟨Nat.le_of_ble_eq_true rfl, Nat.le_of_ble_eq_true rfl⟩ ⟨Nat.le_of_ble_eq_true rfl, Nat.le_of_ble_eq_true rfl⟩ rfl rfl rfl (by decide) rfl (Nat.le_of_ble_eq_true rfl) dX11_findTrace_2 (fun v τ hq => ?_)
  obtain ⟨rfl, h⟩ := hq
  obtain ⟨s2, es2⟩ : ∃ z, z = τ := ⟨_, rfl⟩
  rw [← es2] at h ⊢
  clear es2
  refine ga_aload_n hC dX11_findTrace_5 0 rfl rfl ?_
  refine gC_0_9 hC q_2_135 dX11_findTrace_6 ?_
  refine ga_aload_n hC dX11_findTrace_9 0 rfl rfl ?_
  refine gC_0_1 hC q_2_127 dX11_findTrace_10 ?_
  refine ga_callV (As := [.ref (ad 19)]) (st := []) (k := 10) (n := 1) hC h q_6_46 q_6_47 q_6_48 q_1_12 q_6_49 rfl rfl rfl (by decide +kernel) ⟨Nat.le_of_ble_eq_true rfl, Nat.le_of_ble_eq_true rfl⟩ ⟨Nat.le_of_ble_eq_true rfl, Nat.le_of_ble_eq_true rfl⟩ rfl rfl rfl (by decide) rfl (Nat.le_of_ble_eq_true rfl) dX11_findTrace_13 (fun v τ hq => ?_)
  obtain ⟨rfl, h⟩ := hq
  obtain ⟨s5, es5⟩ : ∃ z, z = τ := ⟨_, rfl⟩
  rw [← es5] at h ⊢
  clear es5
  refine ga_aload_n hC dX11_findTrace_16 0 rfl rfl ?_
  refine gC_0_9 hC q_2_135 dX11_findTrace_17 ?_
  refine gC_10_2 hC q_2_116 dX11_findTrace_20 ?_
  refine ga_iload_n hC dX11_findTrace_23 1 rfl rfl ?_
  obtain ⟨h7, h⟩ := h
  refine ga_iald hC aC_35 (by decide) h7 dX11_findTrace_24 ?_
  refine ga_if_ne (tgt := 39) hC dX11_findTrace_25 (by decide) (fun hc => ?_) (fun hc => ?_)
  · have h := h.1 hc
    exact gx_vret hC dX11_findTrace_39 ⟨Nat.le_of_ble_eq_true rfl, Nat.le_of_ble_eq_true rfl⟩ ⟨rfl, h⟩
  · have h := h.2 hc
    exact gx_throwNW hY (is := 330) (text := _) (List.mem_of_getElem? (i := 11) rfl) dX11_findTrace_28 dX11_findTrace_31 dX11_findTrace_32 dX11_findTrace_35 dX11_findTrace_38 (Nat.le_of_ble_eq_true rfl) (Nat.le_of_ble_eq_true rfl) ⟨Nat.le_of_ble_eq_true rfl, Nat.le_of_ble_eq_true rfl⟩ ⟨Nat.le_of_ble_eq_true rfl, Nat.le_of_ble_eq_true rfl⟩ h
def M_X11_addState (v1 : Int32) (v2 : Int32) (σ : cg_S) (Q : Int32 → cg_S → Prop) (X : String → cg_S → Prop) : Prop := cg_MX cg_WC yX11_addState cX11_addState 3 (some .int) (cg_RX 1 2) 2 12 (fun ad => [.ref (ad 0), .int v1, .int v2]) σ (cg_qi Q) X
theorem M_X11_addState.mono {v1 : Int32} {v2 : Int32} {σ : cg_S} {Q Q2 : Int32 → cg_S → Prop} {X X2 : String → cg_S → Prop} (h : M_X11_addState v1 v2 σ Q X) (hq : ∀ r τ, Q r τ → Q2 r τ) (hx : ∀ E τ, X E τ → X2 E τ) : M_X11_addState v1 v2 σ Q2 X2 := cg_MX.mono h (fun ad v τ ⟨r, e, q⟩ => ⟨r, e, hq r τ q⟩) hx
def L_X11_addState_60 (v2 : Int32) (t1 : Int32) (σ : cg_S) (Q : Int32 → cg_S → Prop) (X : String → cg_S → Prop) : Prop := cg_LX cg_WC RX11 cX11_addState 3 (some .int) (cg_RX 1 2) 2 12 60 (fun ad => [(2, .int v2)]) (fun ad => [.int t1, .ref (ad 1)]) 1 6 σ (cg_qi Q) X
set_option maxRecDepth 100000 in
set_option maxHeartbeats 4000000 in
theorem v_X11_addState_60 {v2 : Int32} {t1 : Int32} {σ : cg_S} {Q : Int32 → cg_S → Prop} {X : String → cg_S → Prop}
    (h : M_X2_placeState t1 v2 σ (fun r1 s2 => Q r1 s2)) : L_X11_addState_60 v2 t1 σ Q X := by
  intro p l e s m args below meth c D cy ad hY
  have hC := hY.1
  refine ga_iload_n hC dX11_addState_60 0 rfl rfl ?_
  refine ga_callV (As := [.int t1, .int v2]) (st := []) (k := 1) (n := 2) hC h q_3_219 q_3_220 q_3_221 q_1_2 q_3_222 rfl rfl rfl (by decide +kernel) ⟨Nat.le_of_ble_eq_true rfl, Nat.le_of_ble_eq_true rfl⟩ ⟨Nat.le_of_ble_eq_true rfl, Nat.le_of_ble_eq_true rfl⟩ rfl rfl rfl (by decide) rfl (Nat.le_of_ble_eq_true rfl) dX11_addState_61 (fun v τ hq => ?_)
  obtain ⟨r1, rfl, h⟩ := hq
  obtain ⟨s2, es2⟩ : ∃ z, z = τ := ⟨_, rfl⟩
  rw [← es2] at h ⊢
  clear es2
  exact gx_iret hC dX11_addState_64 ⟨Nat.le_of_ble_eq_true rfl, Nat.le_of_ble_eq_true rfl⟩ ⟨_, rfl, h⟩
set_option maxRecDepth 100000 in
set_option maxHeartbeats 4000000 in
theorem v_X11_addState {v1 : Int32} {v2 : Int32} {σ : cg_S} {Q : Int32 → cg_S → Prop} {X : String → cg_S → Prop}
    (h : M_X11_needPlayer v1 σ (fun s2 => (v2 < 0 → X "java/lang/IllegalArgumentException" s2) ∧ (¬ v2 < 0 → (v2 ≤ 3 → ((s2.1 1 0) < 7 → (¬ v1 = 97 → L_X11_addState_60 v2 0 s2 Q X) ∧ (v1 = 97 → L_X11_addState_60 v2 1 s2 Q X)) ∧ (¬ (s2.1 1 0) < 7 → X "java/lang/IllegalStateException" s2)) ∧ (¬ v2 ≤ 3 → X "java/lang/IllegalArgumentException" s2))) X) : M_X11_addState v1 v2 σ Q X := by
  refine cg_xentry (lv := fun ad => [(0, .ref (ad 0)), (1, .int v1), (2, .int v2)]) (by decide +kernel) (fun _ => rfl) (fun _ => Nat.le_of_ble_eq_true rfl) ?_
  intro p l e s m args below meth c D cy ad hY
  have hC := hY.1
  refine ga_iload_n hC dX11_addState_0 1 rfl rfl ?_
  refine gx_callS (As := [.int v1]) (st := []) (n := 1) hY h q_3_128 q_3_129 q_1_1 q_3_130 rfl rfl rfl (by decide +kernel) ⟨Nat.le_of_ble_eq_true rfl, Nat.le_of_ble_eq_true rfl⟩ ⟨Nat.le_of_ble_eq_true rfl, Nat.le_of_ble_eq_true rfl⟩ ⟨Nat.le_of_ble_eq_true rfl, Nat.le_of_ble_eq_true rfl⟩ rfl rfl (Nat.le_of_ble_eq_true rfl) dX11_addState_1 (fun v τ hq => ?_)
  obtain ⟨rfl, h⟩ := hq
  obtain ⟨s2, es2⟩ : ∃ z, z = τ := ⟨_, rfl⟩
  rw [← es2] at h ⊢
  clear es2
  refine ga_iload_n hC dX11_addState_4 2 rfl rfl ?_
  refine ga_if_lt (tgt := 13) hC dX11_addState_5 (by decide) (fun hc => ?_) (fun hc => ?_)
  · have h := h.1 hc
    exact gx_throw hY (by decide +kernel) (by decide +kernel) q_3_131 q_1_16 (is := 97) (text := _) (List.mem_of_getElem? (i := 0) rfl) xe1_IllegalArgumentException xe2_IllegalArgumentException xe3_IllegalArgumentException dX11_addState_13 dX11_addState_16 dX11_addState_17 dX11_addState_19 dX11_addState_22 (Nat.le_of_ble_eq_true rfl) (Nat.le_of_ble_eq_true rfl) ⟨Nat.le_of_ble_eq_true rfl, Nat.le_of_ble_eq_true rfl⟩ ⟨Nat.le_of_ble_eq_true rfl, Nat.le_of_ble_eq_true rfl⟩ h
  · have h := h.2 hc
    refine ga_iload_n hC dX11_addState_8 2 rfl rfl ?_
    refine ga_iconst (v := 3) hC dX11_addState_9 (by decide) ?_
    refine ga_icmp_le (tgt := 23) hC dX11_addState_10 (by decide) (fun hc => ?_) (fun hc => ?_)
    · have h := h.1 hc
      refine ga_aload_n hC dX11_addState_23 0 rfl rfl ?_
      refine gC_0_0 hC q_2_126 dX11_addState_24 ?_
      refine gC_1_0 hC q_1_50 dX11_addState_27 ?_
      refine ga_bipush (v := 7) hC dX11_addState_30 (by decide) ?_
      refine ga_icmp_lt (tgt := 45) hC dX11_addState_32 (by decide) (fun hc => ?_) (fun hc => ?_)
      · have h := h.1 hc
        refine ga_aload_n hC dX11_addState_45 0 rfl rfl ?_
        refine gC_0_0 hC q_2_126 dX11_addState_46 ?_
        refine ga_iload_n hC dX11_addState_49 1 rfl rfl ?_
        refine ga_bipush (v := 97) hC dX11_addState_50 (by decide) ?_
        refine ga_icmp_ne (tgt := 59) hC dX11_addState_52 (by decide) (fun hc => ?_) (fun hc => ?_)
        · have h := h.1 hc
          refine ga_iconst (v := 0) hC dX11_addState_59 (by decide) ?_
          refine ga_locals [2] rfl ?_
          exact h p l e s m args below meth c D cy ad hY
        · have h := h.2 hc
          refine ga_iconst (v := 1) hC dX11_addState_55 (by decide) ?_
          refine ga_goto (tgt := 60) hC dX11_addState_56 (by decide) ?_
          refine ga_locals [2] rfl ?_
          exact h p l e s m args below meth c D cy ad hY
      · have h := h.2 hc
        exact gx_throw hY (by decide +kernel) (by decide +kernel) q_3_203 q_1_17 (is := 108) (text := _) (List.mem_of_getElem? (i := 1) rfl) xe1_IllegalStateException xe2_IllegalStateException xe3_IllegalStateException dX11_addState_35 dX11_addState_38 dX11_addState_39 dX11_addState_41 dX11_addState_44 (Nat.le_of_ble_eq_true rfl) (Nat.le_of_ble_eq_true rfl) ⟨Nat.le_of_ble_eq_true rfl, Nat.le_of_ble_eq_true rfl⟩ ⟨Nat.le_of_ble_eq_true rfl, Nat.le_of_ble_eq_true rfl⟩ h
    · have h := h.2 hc
      exact gx_throw hY (by decide +kernel) (by decide +kernel) q_3_131 q_1_16 (is := 97) (text := _) (List.mem_of_getElem? (i := 0) rfl) xe1_IllegalArgumentException xe2_IllegalArgumentException xe3_IllegalArgumentException dX11_addState_13 dX11_addState_16 dX11_addState_17 dX11_addState_19 dX11_addState_22 (Nat.le_of_ble_eq_true rfl) (Nat.le_of_ble_eq_true rfl) ⟨Nat.le_of_ble_eq_true rfl, Nat.le_of_ble_eq_true rfl⟩ ⟨Nat.le_of_ble_eq_true rfl, Nat.le_of_ble_eq_true rfl⟩ h
def M_X11_addChoice (v1 : Int32) (v2 : Int32) (v3 : Int32) (σ : cg_S) (Q : Int32 → cg_S → Prop) (X : String → cg_S → Prop) : Prop := cg_MX cg_WC yX11_addChoice cX11_addChoice 4 (some .int) (cg_RX 2 2) 2 12 (fun ad => [.ref (ad 0), .int v1, .int v2, .int v3]) σ (cg_qi Q) X
theorem M_X11_addChoice.mono {v1 : Int32} {v2 : Int32} {v3 : Int32} {σ : cg_S} {Q Q2 : Int32 → cg_S → Prop} {X X2 : String → cg_S → Prop} (h : M_X11_addChoice v1 v2 v3 σ Q X) (hq : ∀ r τ, Q r τ → Q2 r τ) (hx : ∀ E τ, X E τ → X2 E τ) : M_X11_addChoice v1 v2 v3 σ Q2 X2 := cg_MX.mono h (fun ad v τ ⟨r, e, q⟩ => ⟨r, e, hq r τ q⟩) hx
set_option maxRecDepth 100000 in
set_option maxHeartbeats 4000000 in
theorem v_X11_addChoice {v1 : Int32} {v2 : Int32} {v3 : Int32} {σ : cg_S} {Q : Int32 → cg_S → Prop} {X : String → cg_S → Prop}
    (h : M_X11_needState v1 σ (fun s2 => (v2 < 0 → X "java/lang/IllegalArgumentException" s2) ∧ (¬ v2 < 0 → (9 < v2 → X "java/lang/IllegalArgumentException" s2) ∧ (¬ 9 < v2 → (v3 < 0 → X "java/lang/IllegalArgumentException" s2) ∧ (¬ v3 < 0 → (v3 ≤ 9 → vp_in v1 7 ∧ ((s2.1 21 v1.toNatClampNeg) < 3 → M_X2_placeChoice v1 v2 v3 s2 (fun r5 s6 => Q r5 s6)) ∧ (¬ (s2.1 21 v1.toNatClampNeg) < 3 → X "java/lang/IllegalStateException" s2)) ∧ (¬ v3 ≤ 9 → X "java/lang/IllegalArgumentException" s2))))) X) : M_X11_addChoice v1 v2 v3 σ Q X := by
  refine cg_xentry (lv := fun ad => [(0, .ref (ad 0)), (1, .int v1), (2, .int v2), (3, .int v3)]) (by decide +kernel) (fun _ => rfl) (fun _ => Nat.le_of_ble_eq_true rfl) ?_
  intro p l e s m args below meth c D cy ad hY
  have hC := hY.1
  refine ga_aload_n hC dX11_addChoice_0 0 rfl rfl ?_
  refine ga_iload_n hC dX11_addChoice_1 1 rfl rfl ?_
  refine gx_callV (As := [.int v1]) (st := []) (k := 0) (n := 1) hY h q_4_14 q_4_16 q_0_3 q_1_1 q_4_17 rfl rfl rfl (by decide +kernel) ⟨Nat.le_of_ble_eq_true rfl, Nat.le_of_ble_eq_true rfl⟩ ⟨Nat.le_of_ble_eq_true rfl, Nat.le_of_ble_eq_true rfl⟩ ⟨Nat.le_of_ble_eq_true rfl, Nat.le_of_ble_eq_true rfl⟩ rfl rfl rfl (by decide) rfl (Nat.le_of_ble_eq_true rfl) dX11_addChoice_2 (fun v τ hq => ?_)
  obtain ⟨rfl, h⟩ := hq
  obtain ⟨s2, es2⟩ : ∃ z, z = τ := ⟨_, rfl⟩
  rw [← es2] at h ⊢
  clear es2
  refine ga_iload_n hC dX11_addChoice_5 2 rfl rfl ?_
  refine ga_if_lt (tgt := 25) hC dX11_addChoice_6 (by decide) (fun hc => ?_) (fun hc => ?_)
  · have h := h.1 hc
    exact gx_throw hY (by decide +kernel) (by decide +kernel) q_3_131 q_1_16 (is := 119) (text := _) (List.mem_of_getElem? (i := 2) rfl) xe1_IllegalArgumentException xe2_IllegalArgumentException xe3_IllegalArgumentException dX11_addChoice_25 dX11_addChoice_28 dX11_addChoice_29 dX11_addChoice_31 dX11_addChoice_34 (Nat.le_of_ble_eq_true rfl) (Nat.le_of_ble_eq_true rfl) ⟨Nat.le_of_ble_eq_true rfl, Nat.le_of_ble_eq_true rfl⟩ ⟨Nat.le_of_ble_eq_true rfl, Nat.le_of_ble_eq_true rfl⟩ h
  · have h := h.2 hc
    refine ga_iload_n hC dX11_addChoice_9 2 rfl rfl ?_
    refine ga_bipush (v := 9) hC dX11_addChoice_10 (by decide) ?_
    refine ga_icmp_gt (tgt := 25) hC dX11_addChoice_12 (by decide) (fun hc => ?_) (fun hc => ?_)
    · have h := h.1 hc
      exact gx_throw hY (by decide +kernel) (by decide +kernel) q_3_131 q_1_16 (is := 119) (text := _) (List.mem_of_getElem? (i := 2) rfl) xe1_IllegalArgumentException xe2_IllegalArgumentException xe3_IllegalArgumentException dX11_addChoice_25 dX11_addChoice_28 dX11_addChoice_29 dX11_addChoice_31 dX11_addChoice_34 (Nat.le_of_ble_eq_true rfl) (Nat.le_of_ble_eq_true rfl) ⟨Nat.le_of_ble_eq_true rfl, Nat.le_of_ble_eq_true rfl⟩ ⟨Nat.le_of_ble_eq_true rfl, Nat.le_of_ble_eq_true rfl⟩ h
    · have h := h.2 hc
      refine ga_iload_n hC dX11_addChoice_15 3 rfl rfl ?_
      refine ga_if_lt (tgt := 25) hC dX11_addChoice_16 (by decide) (fun hc => ?_) (fun hc => ?_)
      · have h := h.1 hc
        exact gx_throw hY (by decide +kernel) (by decide +kernel) q_3_131 q_1_16 (is := 119) (text := _) (List.mem_of_getElem? (i := 2) rfl) xe1_IllegalArgumentException xe2_IllegalArgumentException xe3_IllegalArgumentException dX11_addChoice_25 dX11_addChoice_28 dX11_addChoice_29 dX11_addChoice_31 dX11_addChoice_34 (Nat.le_of_ble_eq_true rfl) (Nat.le_of_ble_eq_true rfl) ⟨Nat.le_of_ble_eq_true rfl, Nat.le_of_ble_eq_true rfl⟩ ⟨Nat.le_of_ble_eq_true rfl, Nat.le_of_ble_eq_true rfl⟩ h
      · have h := h.2 hc
        refine ga_iload_n hC dX11_addChoice_19 3 rfl rfl ?_
        refine ga_bipush (v := 9) hC dX11_addChoice_20 (by decide) ?_
        refine ga_icmp_le (tgt := 35) hC dX11_addChoice_22 (by decide) (fun hc => ?_) (fun hc => ?_)
        · have h := h.1 hc
          refine ga_aload_n hC dX11_addChoice_35 0 rfl rfl ?_
          refine gC_0_0 hC q_2_126 dX11_addChoice_36 ?_
          refine gC_1_9 hC q_1_78 dX11_addChoice_39 ?_
          refine ga_iload_n hC dX11_addChoice_42 1 rfl rfl ?_
          obtain ⟨h4, h⟩ := h
          refine ga_iald hC aC_21 (by decide) h4 dX11_addChoice_43 ?_
          refine ga_iconst (v := 3) hC dX11_addChoice_44 (by decide) ?_
          refine ga_icmp_lt (tgt := 58) hC dX11_addChoice_45 (by decide) (fun hc => ?_) (fun hc => ?_)
          · have h := h.1 hc
            refine ga_aload_n hC dX11_addChoice_58 0 rfl rfl ?_
            refine gC_0_0 hC q_2_126 dX11_addChoice_59 ?_
            refine ga_iload_n hC dX11_addChoice_62 1 rfl rfl ?_
            refine ga_iload_n hC dX11_addChoice_63 2 rfl rfl ?_
            refine ga_iload_n hC dX11_addChoice_64 3 rfl rfl ?_
            refine ga_callV (As := [.int v1, .int v2, .int v3]) (st := []) (k := 1) (n := 3) hC h q_4_37 q_4_38 q_4_39 q_1_2 q_4_40 rfl rfl rfl (by decide +kernel) ⟨Nat.le_of_ble_eq_true rfl, Nat.le_of_ble_eq_true rfl⟩ ⟨Nat.le_of_ble_eq_true rfl, Nat.le_of_ble_eq_true rfl⟩ rfl rfl rfl (by decide) rfl (Nat.le_of_ble_eq_true rfl) dX11_addChoice_65 (fun v τ hq => ?_)
            obtain ⟨r5, rfl, h⟩ := hq
            obtain ⟨s6, es6⟩ : ∃ z, z = τ := ⟨_, rfl⟩
            rw [← es6] at h ⊢
            clear es6
            exact gx_iret hC dX11_addChoice_68 ⟨Nat.le_of_ble_eq_true rfl, Nat.le_of_ble_eq_true rfl⟩ ⟨_, rfl, h⟩
          · have h := h.2 hc
            exact gx_throw hY (by decide +kernel) (by decide +kernel) q_3_203 q_1_17 (is := 124) (text := _) (List.mem_of_getElem? (i := 3) rfl) xe1_IllegalStateException xe2_IllegalStateException xe3_IllegalStateException dX11_addChoice_48 dX11_addChoice_51 dX11_addChoice_52 dX11_addChoice_54 dX11_addChoice_57 (Nat.le_of_ble_eq_true rfl) (Nat.le_of_ble_eq_true rfl) ⟨Nat.le_of_ble_eq_true rfl, Nat.le_of_ble_eq_true rfl⟩ ⟨Nat.le_of_ble_eq_true rfl, Nat.le_of_ble_eq_true rfl⟩ h
        · have h := h.2 hc
          exact gx_throw hY (by decide +kernel) (by decide +kernel) q_3_131 q_1_16 (is := 119) (text := _) (List.mem_of_getElem? (i := 2) rfl) xe1_IllegalArgumentException xe2_IllegalArgumentException xe3_IllegalArgumentException dX11_addChoice_25 dX11_addChoice_28 dX11_addChoice_29 dX11_addChoice_31 dX11_addChoice_34 (Nat.le_of_ble_eq_true rfl) (Nat.le_of_ble_eq_true rfl) ⟨Nat.le_of_ble_eq_true rfl, Nat.le_of_ble_eq_true rfl⟩ ⟨Nat.le_of_ble_eq_true rfl, Nat.le_of_ble_eq_true rfl⟩ h
def M_X11_addWeight (v1 : Int32) (v2 : Int32) (v3 : Int32) (v4 : Int32) (σ : cg_S) (Q : Int32 → cg_S → Prop) (X : String → cg_S → Prop) : Prop := cg_MX cg_WC yX11_addWeight cX11_addWeight 6 (some .int) (cg_RX 3 3) 3 18 (fun ad => [.ref (ad 0), .int v1, .int v2, .int v3, .int v4]) σ (cg_qi Q) X
theorem M_X11_addWeight.mono {v1 : Int32} {v2 : Int32} {v3 : Int32} {v4 : Int32} {σ : cg_S} {Q Q2 : Int32 → cg_S → Prop} {X X2 : String → cg_S → Prop} (h : M_X11_addWeight v1 v2 v3 v4 σ Q X) (hq : ∀ r τ, Q r τ → Q2 r τ) (hx : ∀ E τ, X E τ → X2 E τ) : M_X11_addWeight v1 v2 v3 v4 σ Q2 X2 := cg_MX.mono h (fun ad v τ ⟨r, e, q⟩ => ⟨r, e, hq r τ q⟩) hx
set_option maxRecDepth 100000 in
set_option maxHeartbeats 4000000 in
theorem v_X11_addWeight {v1 : Int32} {v2 : Int32} {v3 : Int32} {v4 : Int32} {σ : cg_S} {Q : Int32 → cg_S → Prop} {X : String → cg_S → Prop}
    (h : M_X11_needChoice v1 v2 σ (fun s2 => M_X11_needState v3 s2 (fun s5 => (v4 < 1 → X "java/lang/IllegalArgumentException" s5) ∧ (¬ v4 < 1 → (v4 ≤ 6 → M_X2_moveOf v1 v2 s5 (fun r7 s8 => vp_in r7 21 ∧ (((s8.1 24 r7.toNatClampNeg) + v4) ≤ 6 → M_X2_placeWeight r7 v3 v4 s8 (fun r11 s12 => Q r11 s12)) ∧ (¬ ((s8.1 24 r7.toNatClampNeg) + v4) ≤ 6 → X "java/lang/IllegalStateException" s8))) ∧ (¬ v4 ≤ 6 → X "java/lang/IllegalArgumentException" s5))) X) X) : M_X11_addWeight v1 v2 v3 v4 σ Q X := by
  refine cg_xentry (lv := fun ad => [(0, .ref (ad 0)), (1, .int v1), (2, .int v2), (3, .int v3), (4, .int v4)]) (by decide +kernel) (fun _ => rfl) (fun _ => Nat.le_of_ble_eq_true rfl) ?_
  intro p l e s m args below meth c D cy ad hY
  have hC := hY.1
  refine ga_aload_n hC dX11_addWeight_0 0 rfl rfl ?_
  refine ga_iload_n hC dX11_addWeight_1 1 rfl rfl ?_
  refine ga_iload_n hC dX11_addWeight_2 2 rfl rfl ?_
  refine gx_callV (As := [.int v1, .int v2]) (st := []) (k := 0) (n := 2) hY h q_4_48 q_4_50 q_0_4 q_1_1 q_4_51 rfl rfl rfl (by decide +kernel) ⟨Nat.le_of_ble_eq_true rfl, Nat.le_of_ble_eq_true rfl⟩ ⟨Nat.le_of_ble_eq_true rfl, Nat.le_of_ble_eq_true rfl⟩ ⟨Nat.le_of_ble_eq_true rfl, Nat.le_of_ble_eq_true rfl⟩ rfl rfl rfl (by decide) rfl (Nat.le_of_ble_eq_true rfl) dX11_addWeight_3 (fun v τ hq => ?_)
  obtain ⟨rfl, h⟩ := hq
  obtain ⟨s2, es2⟩ : ∃ z, z = τ := ⟨_, rfl⟩
  rw [← es2] at h ⊢
  clear es2
  refine ga_aload_n hC dX11_addWeight_6 0 rfl rfl ?_
  refine ga_iload_n hC dX11_addWeight_7 3 rfl rfl ?_
  refine gx_callV (As := [.int v3]) (st := []) (k := 0) (n := 1) hY h q_4_14 q_4_16 q_0_3 q_1_1 q_4_17 rfl rfl rfl (by decide +kernel) ⟨Nat.le_of_ble_eq_true rfl, Nat.le_of_ble_eq_true rfl⟩ ⟨Nat.le_of_ble_eq_true rfl, Nat.le_of_ble_eq_true rfl⟩ ⟨Nat.le_of_ble_eq_true rfl, Nat.le_of_ble_eq_true rfl⟩ rfl rfl rfl (by decide) rfl (Nat.le_of_ble_eq_true rfl) dX11_addWeight_8 (fun v τ hq => ?_)
  obtain ⟨rfl, h⟩ := hq
  obtain ⟨s5, es5⟩ : ∃ z, z = τ := ⟨_, rfl⟩
  rw [← es5] at h ⊢
  clear es5
  refine ga_iload hC dX11_addWeight_11 4 rfl ?_
  refine ga_iconst (v := 1) hC dX11_addWeight_13 (by decide) ?_
  refine ga_icmp_lt (tgt := 24) hC dX11_addWeight_14 (by decide) (fun hc => ?_) (fun hc => ?_)
  · have h := h.1 hc
    exact gx_throw hY (by decide +kernel) (by decide +kernel) q_3_131 q_1_16 (is := 134) (text := _) (List.mem_of_getElem? (i := 4) rfl) xe1_IllegalArgumentException xe2_IllegalArgumentException xe3_IllegalArgumentException dX11_addWeight_24 dX11_addWeight_27 dX11_addWeight_28 dX11_addWeight_30 dX11_addWeight_33 (Nat.le_of_ble_eq_true rfl) (Nat.le_of_ble_eq_true rfl) ⟨Nat.le_of_ble_eq_true rfl, Nat.le_of_ble_eq_true rfl⟩ ⟨Nat.le_of_ble_eq_true rfl, Nat.le_of_ble_eq_true rfl⟩ h
  · have h := h.2 hc
    refine ga_iload hC dX11_addWeight_17 4 rfl ?_
    refine ga_bipush (v := 6) hC dX11_addWeight_19 (by decide) ?_
    refine ga_icmp_le (tgt := 34) hC dX11_addWeight_21 (by decide) (fun hc => ?_) (fun hc => ?_)
    · have h := h.1 hc
      refine ga_iload_n hC dX11_addWeight_34 1 rfl rfl ?_
      refine ga_iload_n hC dX11_addWeight_35 2 rfl rfl ?_
      refine ga_callS (As := [.int v1, .int v2]) (st := []) (n := 2) hC h q_4_59 q_2_169 q_1_2 q_2_170 rfl rfl rfl (by decide +kernel) ⟨Nat.le_of_ble_eq_true rfl, Nat.le_of_ble_eq_true rfl⟩ ⟨Nat.le_of_ble_eq_true rfl, Nat.le_of_ble_eq_true rfl⟩ rfl rfl (Nat.le_of_ble_eq_true rfl) dX11_addWeight_36 (fun v τ hq => ?_)
      obtain ⟨r7, rfl, h⟩ := hq
      obtain ⟨s8, es8⟩ : ∃ z, z = τ := ⟨_, rfl⟩
      rw [← es8] at h ⊢
      clear es8
      refine ga_istore (lv' := [(5, .int r7), (0, .ref (ad 0)), (1, .int v1), (2, .int v2), (3, .int v3), (4, .int v4)]) hC dX11_addWeight_39 (by decide) rfl ?_
      refine ga_aload_n hC dX11_addWeight_41 1 rfl rfl ?_
      refine gC_0_0 hC q_2_126 dX11_addWeight_42 ?_
      refine gC_1_12 hC q_1_90 dX11_addWeight_45 ?_
      refine ga_iload hC dX11_addWeight_48 0 rfl ?_
      obtain ⟨h10, h⟩ := h
      refine ga_iald hC aC_24 (by decide) h10 dX11_addWeight_50 ?_
      refine ga_iload hC dX11_addWeight_51 5 rfl ?_
      refine ga_iadd hC dX11_addWeight_53 ?_
      refine ga_bipush (v := 6) hC dX11_addWeight_54 (by decide) ?_
      refine ga_icmp_le (tgt := 69) hC dX11_addWeight_56 (by decide) (fun hc => ?_) (fun hc => ?_)
      · have h := h.1 hc
        refine ga_aload_n hC dX11_addWeight_69 1 rfl rfl ?_
        refine gC_0_0 hC q_2_126 dX11_addWeight_70 ?_
        refine ga_iload hC dX11_addWeight_73 0 rfl ?_
        refine ga_iload_n hC dX11_addWeight_75 4 rfl rfl ?_
        refine ga_iload hC dX11_addWeight_76 5 rfl ?_
        refine ga_callV (As := [.int r7, .int v3, .int v4]) (st := []) (k := 1) (n := 3) hC h q_4_61 q_4_62 q_4_63 q_1_2 q_4_64 rfl rfl rfl (by decide +kernel) ⟨Nat.le_of_ble_eq_true rfl, Nat.le_of_ble_eq_true rfl⟩ ⟨Nat.le_of_ble_eq_true rfl, Nat.le_of_ble_eq_true rfl⟩ rfl rfl rfl (by decide) rfl (Nat.le_of_ble_eq_true rfl) dX11_addWeight_78 (fun v τ hq => ?_)
        obtain ⟨r11, rfl, h⟩ := hq
        obtain ⟨s12, es12⟩ : ∃ z, z = τ := ⟨_, rfl⟩
        rw [← es12] at h ⊢
        clear es12
        exact gx_iret hC dX11_addWeight_81 ⟨Nat.le_of_ble_eq_true rfl, Nat.le_of_ble_eq_true rfl⟩ ⟨_, rfl, h⟩
      · have h := h.2 hc
        exact gx_throw hY (by decide +kernel) (by decide +kernel) q_3_203 q_1_17 (is := 143) (text := _) (List.mem_of_getElem? (i := 5) rfl) xe1_IllegalStateException xe2_IllegalStateException xe3_IllegalStateException dX11_addWeight_59 dX11_addWeight_62 dX11_addWeight_63 dX11_addWeight_65 dX11_addWeight_68 (Nat.le_of_ble_eq_true rfl) (Nat.le_of_ble_eq_true rfl) ⟨Nat.le_of_ble_eq_true rfl, Nat.le_of_ble_eq_true rfl⟩ ⟨Nat.le_of_ble_eq_true rfl, Nat.le_of_ble_eq_true rfl⟩ h
    · have h := h.2 hc
      exact gx_throw hY (by decide +kernel) (by decide +kernel) q_3_131 q_1_16 (is := 134) (text := _) (List.mem_of_getElem? (i := 4) rfl) xe1_IllegalArgumentException xe2_IllegalArgumentException xe3_IllegalArgumentException dX11_addWeight_24 dX11_addWeight_27 dX11_addWeight_28 dX11_addWeight_30 dX11_addWeight_33 (Nat.le_of_ble_eq_true rfl) (Nat.le_of_ble_eq_true rfl) ⟨Nat.le_of_ble_eq_true rfl, Nat.le_of_ble_eq_true rfl⟩ ⟨Nat.le_of_ble_eq_true rfl, Nat.le_of_ble_eq_true rfl⟩ h
def M_X11_setTarget (v1 : Int32) (v2 : Int32) (σ : cg_S) (Q : Int32 → cg_S → Prop) (X : String → cg_S → Prop) : Prop := cg_MX cg_WC yX11_setTarget cX11_setTarget 3 (some .boolean) (cg_RX 3 1) 1 6 (fun ad => [.ref (ad 0), .int v1, .int v2]) σ (cg_qi Q) X
theorem M_X11_setTarget.mono {v1 : Int32} {v2 : Int32} {σ : cg_S} {Q Q2 : Int32 → cg_S → Prop} {X X2 : String → cg_S → Prop} (h : M_X11_setTarget v1 v2 σ Q X) (hq : ∀ r τ, Q r τ → Q2 r τ) (hx : ∀ E τ, X E τ → X2 E τ) : M_X11_setTarget v1 v2 σ Q2 X2 := cg_MX.mono h (fun ad v τ ⟨r, e, q⟩ => ⟨r, e, hq r τ q⟩) hx
set_option maxRecDepth 100000 in
set_option maxHeartbeats 4000000 in
theorem v_X11_setTarget {v1 : Int32} {v2 : Int32} {σ : cg_S} {Q : Int32 → cg_S → Prop} {X : String → cg_S → Prop}
    (h : M_X11_needState v1 σ (fun s2 => M_X2_mark v1 v2 s2 (fun r4 s5 => (r4 = 0 ∨ r4 = 1) ∧ Q r4 s5)) X) : M_X11_setTarget v1 v2 σ Q X := by
  refine cg_xentry (lv := fun ad => [(0, .ref (ad 0)), (1, .int v1), (2, .int v2)]) (by decide +kernel) (fun _ => rfl) (fun _ => Nat.le_of_ble_eq_true rfl) ?_
  intro p l e s m args below meth c D cy ad hY
  have hC := hY.1
  refine ga_aload_n hC dX11_setTarget_0 0 rfl rfl ?_
  refine ga_iload_n hC dX11_setTarget_1 1 rfl rfl ?_
  refine gx_callV (As := [.int v1]) (st := []) (k := 0) (n := 1) hY h q_4_14 q_4_16 q_0_3 q_1_1 q_4_17 rfl rfl rfl (by decide +kernel) ⟨Nat.le_of_ble_eq_true rfl, Nat.le_of_ble_eq_true rfl⟩ ⟨Nat.le_of_ble_eq_true rfl, Nat.le_of_ble_eq_true rfl⟩ ⟨Nat.le_of_ble_eq_true rfl, Nat.le_of_ble_eq_true rfl⟩ rfl rfl rfl (by decide) rfl (Nat.le_of_ble_eq_true rfl) dX11_setTarget_2 (fun v τ hq => ?_)
  obtain ⟨rfl, h⟩ := hq
  obtain ⟨s2, es2⟩ : ∃ z, z = τ := ⟨_, rfl⟩
  rw [← es2] at h ⊢
  clear es2
  refine ga_aload_n hC dX11_setTarget_5 0 rfl rfl ?_
  refine gC_0_0 hC q_2_126 dX11_setTarget_6 ?_
  refine ga_iload_n hC dX11_setTarget_9 1 rfl rfl ?_
  refine ga_iload_n hC dX11_setTarget_10 2 rfl rfl ?_
  refine ga_callV (As := [.int v1, .int v2]) (st := []) (k := 1) (n := 2) hC h q_4_72 q_4_73 q_4_74 q_1_2 q_4_75 rfl rfl rfl (by decide +kernel) ⟨Nat.le_of_ble_eq_true rfl, Nat.le_of_ble_eq_true rfl⟩ ⟨Nat.le_of_ble_eq_true rfl, Nat.le_of_ble_eq_true rfl⟩ rfl rfl rfl (by decide) rfl (Nat.le_of_ble_eq_true rfl) dX11_setTarget_11 (fun v τ hq => ?_)
  obtain ⟨r4, rfl, h⟩ := hq
  obtain ⟨s5, es5⟩ : ∃ z, z = τ := ⟨_, rfl⟩
  rw [← es5] at h ⊢
  clear es5
  exact gx_zret hC dX11_setTarget_14 ⟨Nat.le_of_ble_eq_true rfl, Nat.le_of_ble_eq_true rfl⟩ h.1 ⟨_, rfl, h.2⟩
def M_X11_setDiscount (v1 : Int32) (v2 : Int32) (σ : cg_S) (Q : Int32 → cg_S → Prop) (X : String → cg_S → Prop) : Prop := cg_MX cg_WC yX11_setDiscount cX11_setDiscount 3 (some .int) (cg_RX 1 1) 1 6 (fun ad => [.ref (ad 0), .int v1, .int v2]) σ (cg_qi Q) X
theorem M_X11_setDiscount.mono {v1 : Int32} {v2 : Int32} {σ : cg_S} {Q Q2 : Int32 → cg_S → Prop} {X X2 : String → cg_S → Prop} (h : M_X11_setDiscount v1 v2 σ Q X) (hq : ∀ r τ, Q r τ → Q2 r τ) (hx : ∀ E τ, X E τ → X2 E τ) : M_X11_setDiscount v1 v2 σ Q2 X2 := cg_MX.mono h (fun ad v τ ⟨r, e, q⟩ => ⟨r, e, hq r τ q⟩) hx
set_option maxRecDepth 100000 in
set_option maxHeartbeats 4000000 in
theorem v_X11_setDiscount {v1 : Int32} {v2 : Int32} {σ : cg_S} {Q : Int32 → cg_S → Prop} {X : String → cg_S → Prop}
    (h : (v1 < 1 → X "java/lang/IllegalArgumentException" σ) ∧ (¬ v1 < 1 → (2 < v1 → X "java/lang/IllegalArgumentException" σ) ∧ (¬ 2 < v1 → (v2 < 2 → X "java/lang/IllegalArgumentException" σ) ∧ (¬ v2 < 2 → (3 < v2 → X "java/lang/IllegalArgumentException" σ) ∧ (¬ 3 < v2 → (v1 < v2 → M_X2_changeDiscount v1 v2 σ (fun r1 s2 => Q r1 s2)) ∧ (¬ v1 < v2 → X "java/lang/IllegalArgumentException" σ)))))) : M_X11_setDiscount v1 v2 σ Q X := by
  refine cg_xentry (lv := fun ad => [(0, .ref (ad 0)), (1, .int v1), (2, .int v2)]) (by decide +kernel) (fun _ => rfl) (fun _ => Nat.le_of_ble_eq_true rfl) ?_
  intro p l e s m args below meth c D cy ad hY
  have hC := hY.1
  refine ga_iload_n hC dX11_setDiscount_0 1 rfl rfl ?_
  refine ga_iconst (v := 1) hC dX11_setDiscount_1 (by decide) ?_
  refine ga_icmp_lt (tgt := 25) hC dX11_setDiscount_2 (by decide) (fun hc => ?_) (fun hc => ?_)
  · have h := h.1 hc
    exact gx_throw hY (by decide +kernel) (by decide +kernel) q_3_131 q_1_16 (is := 152) (text := _) (List.mem_of_getElem? (i := 6) rfl) xe1_IllegalArgumentException xe2_IllegalArgumentException xe3_IllegalArgumentException dX11_setDiscount_25 dX11_setDiscount_28 dX11_setDiscount_29 dX11_setDiscount_31 dX11_setDiscount_34 (Nat.le_of_ble_eq_true rfl) (Nat.le_of_ble_eq_true rfl) ⟨Nat.le_of_ble_eq_true rfl, Nat.le_of_ble_eq_true rfl⟩ ⟨Nat.le_of_ble_eq_true rfl, Nat.le_of_ble_eq_true rfl⟩ h
  · have h := h.2 hc
    refine ga_iload_n hC dX11_setDiscount_5 1 rfl rfl ?_
    refine ga_iconst (v := 2) hC dX11_setDiscount_6 (by decide) ?_
    refine ga_icmp_gt (tgt := 25) hC dX11_setDiscount_7 (by decide) (fun hc => ?_) (fun hc => ?_)
    · have h := h.1 hc
      exact gx_throw hY (by decide +kernel) (by decide +kernel) q_3_131 q_1_16 (is := 152) (text := _) (List.mem_of_getElem? (i := 6) rfl) xe1_IllegalArgumentException xe2_IllegalArgumentException xe3_IllegalArgumentException dX11_setDiscount_25 dX11_setDiscount_28 dX11_setDiscount_29 dX11_setDiscount_31 dX11_setDiscount_34 (Nat.le_of_ble_eq_true rfl) (Nat.le_of_ble_eq_true rfl) ⟨Nat.le_of_ble_eq_true rfl, Nat.le_of_ble_eq_true rfl⟩ ⟨Nat.le_of_ble_eq_true rfl, Nat.le_of_ble_eq_true rfl⟩ h
    · have h := h.2 hc
      refine ga_iload_n hC dX11_setDiscount_10 2 rfl rfl ?_
      refine ga_iconst (v := 2) hC dX11_setDiscount_11 (by decide) ?_
      refine ga_icmp_lt (tgt := 25) hC dX11_setDiscount_12 (by decide) (fun hc => ?_) (fun hc => ?_)
      · have h := h.1 hc
        exact gx_throw hY (by decide +kernel) (by decide +kernel) q_3_131 q_1_16 (is := 152) (text := _) (List.mem_of_getElem? (i := 6) rfl) xe1_IllegalArgumentException xe2_IllegalArgumentException xe3_IllegalArgumentException dX11_setDiscount_25 dX11_setDiscount_28 dX11_setDiscount_29 dX11_setDiscount_31 dX11_setDiscount_34 (Nat.le_of_ble_eq_true rfl) (Nat.le_of_ble_eq_true rfl) ⟨Nat.le_of_ble_eq_true rfl, Nat.le_of_ble_eq_true rfl⟩ ⟨Nat.le_of_ble_eq_true rfl, Nat.le_of_ble_eq_true rfl⟩ h
      · have h := h.2 hc
        refine ga_iload_n hC dX11_setDiscount_15 2 rfl rfl ?_
        refine ga_iconst (v := 3) hC dX11_setDiscount_16 (by decide) ?_
        refine ga_icmp_gt (tgt := 25) hC dX11_setDiscount_17 (by decide) (fun hc => ?_) (fun hc => ?_)
        · have h := h.1 hc
          exact gx_throw hY (by decide +kernel) (by decide +kernel) q_3_131 q_1_16 (is := 152) (text := _) (List.mem_of_getElem? (i := 6) rfl) xe1_IllegalArgumentException xe2_IllegalArgumentException xe3_IllegalArgumentException dX11_setDiscount_25 dX11_setDiscount_28 dX11_setDiscount_29 dX11_setDiscount_31 dX11_setDiscount_34 (Nat.le_of_ble_eq_true rfl) (Nat.le_of_ble_eq_true rfl) ⟨Nat.le_of_ble_eq_true rfl, Nat.le_of_ble_eq_true rfl⟩ ⟨Nat.le_of_ble_eq_true rfl, Nat.le_of_ble_eq_true rfl⟩ h
        · have h := h.2 hc
          refine ga_iload_n hC dX11_setDiscount_20 2 rfl rfl ?_
          refine ga_iload_n hC dX11_setDiscount_21 1 rfl rfl ?_
          refine ga_icmp_gt (tgt := 35) hC dX11_setDiscount_22 (by decide) (fun hc => ?_) (fun hc => ?_)
          · have h := h.1 hc
            refine ga_aload_n hC dX11_setDiscount_35 0 rfl rfl ?_
            refine gC_0_0 hC q_2_126 dX11_setDiscount_36 ?_
            refine ga_iload_n hC dX11_setDiscount_39 1 rfl rfl ?_
            refine ga_iload_n hC dX11_setDiscount_40 2 rfl rfl ?_
            refine ga_callV (As := [.int v1, .int v2]) (st := []) (k := 1) (n := 2) hC h q_6_113 q_6_114 q_6_115 q_1_2 q_6_116 rfl rfl rfl (by decide +kernel) ⟨Nat.le_of_ble_eq_true rfl, Nat.le_of_ble_eq_true rfl⟩ ⟨Nat.le_of_ble_eq_true rfl, Nat.le_of_ble_eq_true rfl⟩ rfl rfl rfl (by decide) rfl (Nat.le_of_ble_eq_true rfl) dX11_setDiscount_41 (fun v τ hq => ?_)
            obtain ⟨r1, rfl, h⟩ := hq
            obtain ⟨s2, es2⟩ : ∃ z, z = τ := ⟨_, rfl⟩
            rw [← es2] at h ⊢
            clear es2
            exact gx_iret hC dX11_setDiscount_44 ⟨Nat.le_of_ble_eq_true rfl, Nat.le_of_ble_eq_true rfl⟩ ⟨_, rfl, h⟩
          · have h := h.2 hc
            exact gx_throw hY (by decide +kernel) (by decide +kernel) q_3_131 q_1_16 (is := 152) (text := _) (List.mem_of_getElem? (i := 6) rfl) xe1_IllegalArgumentException xe2_IllegalArgumentException xe3_IllegalArgumentException dX11_setDiscount_25 dX11_setDiscount_28 dX11_setDiscount_29 dX11_setDiscount_31 dX11_setDiscount_34 (Nat.le_of_ble_eq_true rfl) (Nat.le_of_ble_eq_true rfl) ⟨Nat.le_of_ble_eq_true rfl, Nat.le_of_ble_eq_true rfl⟩ ⟨Nat.le_of_ble_eq_true rfl, Nat.le_of_ble_eq_true rfl⟩ h
def M_X11_setWeights (v1 : Int32) (v2 : Int32) (σ : cg_S) (Q : Int32 → cg_S → Prop) (X : String → cg_S → Prop) : Prop := cg_MX cg_WC yX11_setWeights cX11_setWeights 3 (some .int) (cg_RX 1 1) 1 6 (fun ad => [.ref (ad 0), .int v1, .int v2]) σ (cg_qi Q) X
theorem M_X11_setWeights.mono {v1 : Int32} {v2 : Int32} {σ : cg_S} {Q Q2 : Int32 → cg_S → Prop} {X X2 : String → cg_S → Prop} (h : M_X11_setWeights v1 v2 σ Q X) (hq : ∀ r τ, Q r τ → Q2 r τ) (hx : ∀ E τ, X E τ → X2 E τ) : M_X11_setWeights v1 v2 σ Q2 X2 := cg_MX.mono h (fun ad v τ ⟨r, e, q⟩ => ⟨r, e, hq r τ q⟩) hx
set_option maxRecDepth 100000 in
set_option maxHeartbeats 4000000 in
theorem v_X11_setWeights {v1 : Int32} {v2 : Int32} {σ : cg_S} {Q : Int32 → cg_S → Prop} {X : String → cg_S → Prop}
    (h : (v1 < 0 → X "java/lang/IllegalArgumentException" σ) ∧ (¬ v1 < 0 → (3 < v1 → X "java/lang/IllegalArgumentException" σ) ∧ (¬ 3 < v1 → (v2 < 0 → X "java/lang/IllegalArgumentException" σ) ∧ (¬ v2 < 0 → (v2 ≤ 3 → M_X2_changeWeights v1 v2 σ (fun r1 s2 => Q r1 s2)) ∧ (¬ v2 ≤ 3 → X "java/lang/IllegalArgumentException" σ))))) : M_X11_setWeights v1 v2 σ Q X := by
  refine cg_xentry (lv := fun ad => [(0, .ref (ad 0)), (1, .int v1), (2, .int v2)]) (by decide +kernel) (fun _ => rfl) (fun _ => Nat.le_of_ble_eq_true rfl) ?_
  intro p l e s m args below meth c D cy ad hY
  have hC := hY.1
  refine ga_iload_n hC dX11_setWeights_0 1 rfl rfl ?_
  refine ga_if_lt (tgt := 18) hC dX11_setWeights_1 (by decide) (fun hc => ?_) (fun hc => ?_)
  · have h := h.1 hc
    exact gx_throw hY (by decide +kernel) (by decide +kernel) q_3_131 q_1_16 (is := 157) (text := _) (List.mem_of_getElem? (i := 7) rfl) xe1_IllegalArgumentException xe2_IllegalArgumentException xe3_IllegalArgumentException dX11_setWeights_18 dX11_setWeights_21 dX11_setWeights_22 dX11_setWeights_24 dX11_setWeights_27 (Nat.le_of_ble_eq_true rfl) (Nat.le_of_ble_eq_true rfl) ⟨Nat.le_of_ble_eq_true rfl, Nat.le_of_ble_eq_true rfl⟩ ⟨Nat.le_of_ble_eq_true rfl, Nat.le_of_ble_eq_true rfl⟩ h
  · have h := h.2 hc
    refine ga_iload_n hC dX11_setWeights_4 1 rfl rfl ?_
    refine ga_iconst (v := 3) hC dX11_setWeights_5 (by decide) ?_
    refine ga_icmp_gt (tgt := 18) hC dX11_setWeights_6 (by decide) (fun hc => ?_) (fun hc => ?_)
    · have h := h.1 hc
      exact gx_throw hY (by decide +kernel) (by decide +kernel) q_3_131 q_1_16 (is := 157) (text := _) (List.mem_of_getElem? (i := 7) rfl) xe1_IllegalArgumentException xe2_IllegalArgumentException xe3_IllegalArgumentException dX11_setWeights_18 dX11_setWeights_21 dX11_setWeights_22 dX11_setWeights_24 dX11_setWeights_27 (Nat.le_of_ble_eq_true rfl) (Nat.le_of_ble_eq_true rfl) ⟨Nat.le_of_ble_eq_true rfl, Nat.le_of_ble_eq_true rfl⟩ ⟨Nat.le_of_ble_eq_true rfl, Nat.le_of_ble_eq_true rfl⟩ h
    · have h := h.2 hc
      refine ga_iload_n hC dX11_setWeights_9 2 rfl rfl ?_
      refine ga_if_lt (tgt := 18) hC dX11_setWeights_10 (by decide) (fun hc => ?_) (fun hc => ?_)
      · have h := h.1 hc
        exact gx_throw hY (by decide +kernel) (by decide +kernel) q_3_131 q_1_16 (is := 157) (text := _) (List.mem_of_getElem? (i := 7) rfl) xe1_IllegalArgumentException xe2_IllegalArgumentException xe3_IllegalArgumentException dX11_setWeights_18 dX11_setWeights_21 dX11_setWeights_22 dX11_setWeights_24 dX11_setWeights_27 (Nat.le_of_ble_eq_true rfl) (Nat.le_of_ble_eq_true rfl) ⟨Nat.le_of_ble_eq_true rfl, Nat.le_of_ble_eq_true rfl⟩ ⟨Nat.le_of_ble_eq_true rfl, Nat.le_of_ble_eq_true rfl⟩ h
      · have h := h.2 hc
        refine ga_iload_n hC dX11_setWeights_13 2 rfl rfl ?_
        refine ga_iconst (v := 3) hC dX11_setWeights_14 (by decide) ?_
        refine ga_icmp_le (tgt := 28) hC dX11_setWeights_15 (by decide) (fun hc => ?_) (fun hc => ?_)
        · have h := h.1 hc
          refine ga_aload_n hC dX11_setWeights_28 0 rfl rfl ?_
          refine gC_0_0 hC q_2_126 dX11_setWeights_29 ?_
          refine ga_iload_n hC dX11_setWeights_32 1 rfl rfl ?_
          refine ga_iload_n hC dX11_setWeights_33 2 rfl rfl ?_
          refine ga_callV (As := [.int v1, .int v2]) (st := []) (k := 1) (n := 2) hC h q_6_125 q_6_126 q_6_127 q_1_2 q_6_128 rfl rfl rfl (by decide +kernel) ⟨Nat.le_of_ble_eq_true rfl, Nat.le_of_ble_eq_true rfl⟩ ⟨Nat.le_of_ble_eq_true rfl, Nat.le_of_ble_eq_true rfl⟩ rfl rfl rfl (by decide) rfl (Nat.le_of_ble_eq_true rfl) dX11_setWeights_34 (fun v τ hq => ?_)
          obtain ⟨r1, rfl, h⟩ := hq
          obtain ⟨s2, es2⟩ : ∃ z, z = τ := ⟨_, rfl⟩
          rw [← es2] at h ⊢
          clear es2
          exact gx_iret hC dX11_setWeights_37 ⟨Nat.le_of_ble_eq_true rfl, Nat.le_of_ble_eq_true rfl⟩ ⟨_, rfl, h⟩
        · have h := h.2 hc
          exact gx_throw hY (by decide +kernel) (by decide +kernel) q_3_131 q_1_16 (is := 157) (text := _) (List.mem_of_getElem? (i := 7) rfl) xe1_IllegalArgumentException xe2_IllegalArgumentException xe3_IllegalArgumentException dX11_setWeights_18 dX11_setWeights_21 dX11_setWeights_22 dX11_setWeights_24 dX11_setWeights_27 (Nat.le_of_ble_eq_true rfl) (Nat.le_of_ble_eq_true rfl) ⟨Nat.le_of_ble_eq_true rfl, Nat.le_of_ble_eq_true rfl⟩ ⟨Nat.le_of_ble_eq_true rfl, Nat.le_of_ble_eq_true rfl⟩ h
def M_X11_states (σ : cg_S) (Q : Int32 → cg_S → Prop) : Prop := cg_M cg_WC yX11_states cX11_states 1 (some .int) (cg_R 0) (fun ad => [.ref (ad 0)]) σ (cg_qi Q)
theorem M_X11_states.mono {σ : cg_S} {Q Q2 : Int32 → cg_S → Prop} (h : M_X11_states σ Q) (hq : ∀ r τ, Q r τ → Q2 r τ) : M_X11_states σ Q2 := cg_M.mono h (fun ad v τ ⟨r, e, q⟩ => ⟨r, e, hq r τ q⟩)
set_option maxRecDepth 100000 in
set_option maxHeartbeats 4000000 in
theorem v_X11_states {σ : cg_S} {Q : Int32 → cg_S → Prop}
    (h : Q (σ.1 1 0) σ) : M_X11_states σ Q := by
  refine cg_entry (lv := fun ad => [(0, .ref (ad 0))]) (by decide +kernel) (fun _ => rfl) (fun _ => Nat.le_of_ble_eq_true rfl) ?_
  intro p l e s m args below meth c D cy ad hC
  refine ga_aload_n hC dX11_states_0 0 rfl rfl ?_
  refine gC_0_0 hC q_2_126 dX11_states_1 ?_
  refine gC_1_0 hC q_1_50 dX11_states_4 ?_
  exact ga_iret hC dX11_states_7 ⟨_, rfl, h⟩
def M_X11_choices (v1 : Int32) (σ : cg_S) (Q : Int32 → cg_S → Prop) (X : String → cg_S → Prop) : Prop := cg_MX cg_WC yX11_choices cX11_choices 2 (some .int) (cg_RX 2 1) 1 6 (fun ad => [.ref (ad 0), .int v1]) σ (cg_qi Q) X
theorem M_X11_choices.mono {v1 : Int32} {σ : cg_S} {Q Q2 : Int32 → cg_S → Prop} {X X2 : String → cg_S → Prop} (h : M_X11_choices v1 σ Q X) (hq : ∀ r τ, Q r τ → Q2 r τ) (hx : ∀ E τ, X E τ → X2 E τ) : M_X11_choices v1 σ Q2 X2 := cg_MX.mono h (fun ad v τ ⟨r, e, q⟩ => ⟨r, e, hq r τ q⟩) hx
set_option maxRecDepth 100000 in
set_option maxHeartbeats 4000000 in
theorem v_X11_choices {v1 : Int32} {σ : cg_S} {Q : Int32 → cg_S → Prop} {X : String → cg_S → Prop}
    (h : M_X11_needState v1 σ (fun s2 => vp_in v1 7 ∧ Q (s2.1 21 v1.toNatClampNeg) s2) X) : M_X11_choices v1 σ Q X := by
  refine cg_xentry (lv := fun ad => [(0, .ref (ad 0)), (1, .int v1)]) (by decide +kernel) (fun _ => rfl) (fun _ => Nat.le_of_ble_eq_true rfl) ?_
  intro p l e s m args below meth c D cy ad hY
  have hC := hY.1
  refine ga_aload_n hC dX11_choices_0 0 rfl rfl ?_
  refine ga_iload_n hC dX11_choices_1 1 rfl rfl ?_
  refine gx_callV (As := [.int v1]) (st := []) (k := 0) (n := 1) hY h q_4_14 q_4_16 q_0_3 q_1_1 q_4_17 rfl rfl rfl (by decide +kernel) ⟨Nat.le_of_ble_eq_true rfl, Nat.le_of_ble_eq_true rfl⟩ ⟨Nat.le_of_ble_eq_true rfl, Nat.le_of_ble_eq_true rfl⟩ ⟨Nat.le_of_ble_eq_true rfl, Nat.le_of_ble_eq_true rfl⟩ rfl rfl rfl (by decide) rfl (Nat.le_of_ble_eq_true rfl) dX11_choices_2 (fun v τ hq => ?_)
  obtain ⟨rfl, h⟩ := hq
  obtain ⟨s2, es2⟩ : ∃ z, z = τ := ⟨_, rfl⟩
  rw [← es2] at h ⊢
  clear es2
  refine ga_aload_n hC dX11_choices_5 0 rfl rfl ?_
  refine gC_0_0 hC q_2_126 dX11_choices_6 ?_
  refine gC_1_9 hC q_1_78 dX11_choices_9 ?_
  refine ga_iload_n hC dX11_choices_12 1 rfl rfl ?_
  obtain ⟨h4, h⟩ := h
  refine ga_iald hC aC_21 (by decide) h4 dX11_choices_13 ?_
  exact gx_iret hC dX11_choices_14 ⟨Nat.le_of_ble_eq_true rfl, Nat.le_of_ble_eq_true rfl⟩ ⟨_, rfl, h⟩
def M_X11_chance (v1 : Int32) (v2 : Int32) (v3 : Int32) (σ : cg_S) (Q : Int32 → cg_S → Prop) (X : String → cg_S → Prop) : Prop := cg_MX cg_WC yX11_chance cX11_chance 7 (some .int) (cg_RX 3 3) 3 18 (fun ad => [.ref (ad 0), .int v1, .int v2, .int v3]) σ (cg_qi Q) X
theorem M_X11_chance.mono {v1 : Int32} {v2 : Int32} {v3 : Int32} {σ : cg_S} {Q Q2 : Int32 → cg_S → Prop} {X X2 : String → cg_S → Prop} (h : M_X11_chance v1 v2 v3 σ Q X) (hq : ∀ r τ, Q r τ → Q2 r τ) (hx : ∀ E τ, X E τ → X2 E τ) : M_X11_chance v1 v2 v3 σ Q2 X2 := cg_MX.mono h (fun ad v τ ⟨r, e, q⟩ => ⟨r, e, hq r τ q⟩) hx
set_option maxRecDepth 100000 in
set_option maxHeartbeats 4000000 in
theorem v_X11_chance {v1 : Int32} {v2 : Int32} {v3 : Int32} {σ : cg_S} {Q : Int32 → cg_S → Prop} {X : String → cg_S → Prop}
    (h : M_X11_needChoice v1 v2 σ (fun s2 => M_X11_needState v3 s2 (fun s5 => M_X2_moveOf v1 v2 s5 (fun r7 s8 => vp_in r7 21 ∧ ∀ x11 : Int32, x11 = s8.1 24 r7.toNatClampNeg → (¬ x11 = 0 → vp_in r7 21 ∧ vp_in v3 7 ∧ ∀ x14 : Int32, x14 = s8.1 (36 + r7.toNatClampNeg) v3.toNatClampNeg → M_X11_lowestAbove x14.toInt64 x11.toInt64 s8 (fun r15 s16 => M_X11_lowestBelow x14.toInt64 x11.toInt64 s16 (fun r18 s19 => Q (((10 * r15) + r18).toInt32) s19))) ∧ (x11 = 0 → X "java/lang/ArithmeticException" s8))) X) X) : M_X11_chance v1 v2 v3 σ Q X := by
  refine cg_xentry (lv := fun ad => [(0, .ref (ad 0)), (1, .int v1), (2, .int v2), (3, .int v3)]) (by decide +kernel) (fun _ => rfl) (fun _ => Nat.le_of_ble_eq_true rfl) ?_
  intro p l e s m args below meth c D cy ad hY
  have hC := hY.1
  refine ga_aload_n hC dX11_chance_0 0 rfl rfl ?_
  refine ga_iload_n hC dX11_chance_1 1 rfl rfl ?_
  refine ga_iload_n hC dX11_chance_2 2 rfl rfl ?_
  refine gx_callV (As := [.int v1, .int v2]) (st := []) (k := 0) (n := 2) hY h q_4_48 q_4_50 q_0_4 q_1_1 q_4_51 rfl rfl rfl (by decide +kernel) ⟨Nat.le_of_ble_eq_true rfl, Nat.le_of_ble_eq_true rfl⟩ ⟨Nat.le_of_ble_eq_true rfl, Nat.le_of_ble_eq_true rfl⟩ ⟨Nat.le_of_ble_eq_true rfl, Nat.le_of_ble_eq_true rfl⟩ rfl rfl rfl (by decide) rfl (Nat.le_of_ble_eq_true rfl) dX11_chance_3 (fun v τ hq => ?_)
  obtain ⟨rfl, h⟩ := hq
  obtain ⟨s2, es2⟩ : ∃ z, z = τ := ⟨_, rfl⟩
  rw [← es2] at h ⊢
  clear es2
  refine ga_aload_n hC dX11_chance_6 0 rfl rfl ?_
  refine ga_iload_n hC dX11_chance_7 3 rfl rfl ?_
  refine gx_callV (As := [.int v3]) (st := []) (k := 0) (n := 1) hY h q_4_14 q_4_16 q_0_3 q_1_1 q_4_17 rfl rfl rfl (by decide +kernel) ⟨Nat.le_of_ble_eq_true rfl, Nat.le_of_ble_eq_true rfl⟩ ⟨Nat.le_of_ble_eq_true rfl, Nat.le_of_ble_eq_true rfl⟩ ⟨Nat.le_of_ble_eq_true rfl, Nat.le_of_ble_eq_true rfl⟩ rfl rfl rfl (by decide) rfl (Nat.le_of_ble_eq_true rfl) dX11_chance_8 (fun v τ hq => ?_)
  obtain ⟨rfl, h⟩ := hq
  obtain ⟨s5, es5⟩ : ∃ z, z = τ := ⟨_, rfl⟩
  rw [← es5] at h ⊢
  clear es5
  refine ga_iload_n hC dX11_chance_11 1 rfl rfl ?_
  refine ga_iload_n hC dX11_chance_12 2 rfl rfl ?_
  refine ga_callS (As := [.int v1, .int v2]) (st := []) (n := 2) hC h q_4_59 q_2_169 q_1_2 q_2_170 rfl rfl rfl (by decide +kernel) ⟨Nat.le_of_ble_eq_true rfl, Nat.le_of_ble_eq_true rfl⟩ ⟨Nat.le_of_ble_eq_true rfl, Nat.le_of_ble_eq_true rfl⟩ rfl rfl (Nat.le_of_ble_eq_true rfl) dX11_chance_13 (fun v τ hq => ?_)
  obtain ⟨r7, rfl, h⟩ := hq
  obtain ⟨s8, es8⟩ : ∃ z, z = τ := ⟨_, rfl⟩
  rw [← es8] at h ⊢
  clear es8
  refine ga_istore (lv' := [(4, .int r7), (0, .ref (ad 0)), (1, .int v1), (2, .int v2), (3, .int v3)]) hC dX11_chance_16 (by decide) rfl ?_
  refine ga_aload_n hC dX11_chance_18 1 rfl rfl ?_
  refine gC_0_0 hC q_2_126 dX11_chance_19 ?_
  refine gC_1_12 hC q_1_90 dX11_chance_22 ?_
  refine ga_iload hC dX11_chance_25 0 rfl ?_
  obtain ⟨h10, h⟩ := h
  refine ga_iald hC aC_24 (by decide) h10 dX11_chance_27 ?_
  refine ga_topi (fun x11 ex11 => ?_)
  have h := h x11 ex11
  refine ga_istore (lv' := [(5, .int x11), (4, .int r7), (0, .ref (ad 0)), (1, .int v1), (2, .int v2), (3, .int v3)]) hC dX11_chance_28 (by decide) rfl ?_
  refine ga_iload hC dX11_chance_30 0 rfl ?_
  refine ga_if_ne (tgt := 45) hC dX11_chance_32 (by decide) (fun hc => ?_) (fun hc => ?_)
  · have h := h.1 hc
    refine ga_aload_n hC dX11_chance_45 2 rfl rfl ?_
    refine gC_0_0 hC q_2_126 dX11_chance_46 ?_
    refine gC_1_14 hC q_1_104 dX11_chance_49 ?_
    refine ga_iload hC dX11_chance_52 1 rfl ?_
    obtain ⟨h12, h⟩ := h
    refine ga_aald4 (b := 36) hC rfl (fun j hj => if_pos hj) (by decide) h12 dX11_chance_54 ?_
    refine ga_iload_n hC dX11_chance_55 5 rfl rfl ?_
    obtain ⟨h13, h⟩ := h
    refine ga_iald hC (aC_w (cg_lt h12)) (show 36 + _ < 88 by have := (cg_lt h12); omega) h13 dX11_chance_56 ?_
    refine ga_topi (fun x14 ex14 => ?_)
    have h := h x14 ex14
    refine ga_istore (lv' := [(6, .int x14), (5, .int x11), (4, .int r7), (0, .ref (ad 0)), (1, .int v1), (2, .int v2), (3, .int v3)]) hC dX11_chance_57 (by decide) rfl ?_
    refine ga_ldc2 hC q_6_31 dX11_chance_59 ?_
    refine ga_iload hC dX11_chance_62 0 rfl ?_
    refine ga_i2l hC dX11_chance_64 ?_
    refine ga_iload hC dX11_chance_65 1 rfl ?_
    refine ga_i2l hC dX11_chance_67 ?_
    refine ga_callS (As := [.long x14.toInt64, .long x11.toInt64]) (st := [.long 10]) (n := 2) hC h q_4_197 q_4_168 q_1_1 q_4_169 rfl rfl rfl (by decide +kernel) ⟨Nat.le_of_ble_eq_true rfl, Nat.le_of_ble_eq_true rfl⟩ ⟨Nat.le_of_ble_eq_true rfl, Nat.le_of_ble_eq_true rfl⟩ rfl rfl (Nat.le_of_ble_eq_true rfl) dX11_chance_68 (fun v τ hq => ?_)
    obtain ⟨r15, rfl, h⟩ := hq
    obtain ⟨s16, es16⟩ : ∃ z, z = τ := ⟨_, rfl⟩
    rw [← es16] at h ⊢
    clear es16
    refine ga_lmul hC dX11_chance_71 ?_
    refine ga_iload hC dX11_chance_72 0 rfl ?_
    refine ga_i2l hC dX11_chance_74 ?_
    refine ga_iload hC dX11_chance_75 1 rfl ?_
    refine ga_i2l hC dX11_chance_77 ?_
    refine ga_callS (As := [.long x14.toInt64, .long x11.toInt64]) (st := [.long (10 * r15)]) (n := 2) hC h q_4_205 q_4_188 q_1_1 q_4_189 rfl rfl rfl (by decide +kernel) ⟨Nat.le_of_ble_eq_true rfl, Nat.le_of_ble_eq_true rfl⟩ ⟨Nat.le_of_ble_eq_true rfl, Nat.le_of_ble_eq_true rfl⟩ rfl rfl (Nat.le_of_ble_eq_true rfl) dX11_chance_78 (fun v τ hq => ?_)
    obtain ⟨r18, rfl, h⟩ := hq
    obtain ⟨s19, es19⟩ : ∃ z, z = τ := ⟨_, rfl⟩
    rw [← es19] at h ⊢
    clear es19
    refine ga_ladd hC dX11_chance_81 ?_
    refine ga_l2i hC dX11_chance_82 ?_
    exact gx_iret hC dX11_chance_83 ⟨Nat.le_of_ble_eq_true rfl, Nat.le_of_ble_eq_true rfl⟩ ⟨_, rfl, h⟩
  · have h := h.2 hc
    exact gx_throw hY (by decide +kernel) (by decide +kernel) q_6_28 q_1_22 (is := 164) (text := _) (List.mem_of_getElem? (i := 8) rfl) xe1_ArithmeticException xe2_ArithmeticException xe3_ArithmeticException dX11_chance_35 dX11_chance_38 dX11_chance_39 dX11_chance_41 dX11_chance_44 (Nat.le_of_ble_eq_true rfl) (Nat.le_of_ble_eq_true rfl) ⟨Nat.le_of_ble_eq_true rfl, Nat.le_of_ble_eq_true rfl⟩ ⟨Nat.le_of_ble_eq_true rfl, Nat.le_of_ble_eq_true rfl⟩ h
def M_X11_isWhole (σ : cg_S) (Q : Int32 → cg_S → Prop) : Prop := cg_M cg_WC yX11_isWhole cX11_isWhole 1 (some .boolean) (cg_R 2) (fun ad => [.ref (ad 0)]) σ (cg_qi Q)
theorem M_X11_isWhole.mono {σ : cg_S} {Q Q2 : Int32 → cg_S → Prop} (h : M_X11_isWhole σ Q) (hq : ∀ r τ, Q r τ → Q2 r τ) : M_X11_isWhole σ Q2 := cg_M.mono h (fun ad v τ ⟨r, e, q⟩ => ⟨r, e, hq r τ q⟩)
set_option maxRecDepth 100000 in
set_option maxHeartbeats 4000000 in
theorem v_X11_isWhole {σ : cg_S} {Q : Int32 → cg_S → Prop}
    (h : M_X2_isReady σ (fun r1 s2 => (r1 = 0 ∨ r1 = 1) ∧ Q r1 s2)) : M_X11_isWhole σ Q := by
  refine cg_entry (lv := fun ad => [(0, .ref (ad 0))]) (by decide +kernel) (fun _ => rfl) (fun _ => Nat.le_of_ble_eq_true rfl) ?_
  intro p l e s m args below meth c D cy ad hC
  refine ga_aload_n hC dX11_isWhole_0 0 rfl rfl ?_
  refine gC_0_0 hC q_2_126 dX11_isWhole_1 ?_
  refine ga_callV (As := []) (st := []) (k := 1) (n := 0) hC h q_2_164 q_2_165 q_2_166 q_1_2 q_2_167 rfl rfl rfl (by decide +kernel) ⟨Nat.le_of_ble_eq_true rfl, Nat.le_of_ble_eq_true rfl⟩ ⟨Nat.le_of_ble_eq_true rfl, Nat.le_of_ble_eq_true rfl⟩ rfl rfl rfl (by decide) rfl (Nat.le_of_ble_eq_true rfl) dX11_isWhole_4 (fun v τ hq => ?_)
  obtain ⟨r1, rfl, h⟩ := hq
  obtain ⟨s2, es2⟩ : ∃ z, z = τ := ⟨_, rfl⟩
  rw [← es2] at h ⊢
  clear es2
  exact ga_zret hC dX11_isWhole_7 h.1 ⟨_, rfl, h.2⟩
def M_X11_above (v1 : Int32) (v2 : Int32) (σ : cg_S) (Q : Int64 → cg_S → Prop) (X : String → cg_S → Prop) : Prop := cg_MX cg_WC yX11_above cX11_above 3 (some .long) (cg_RX 6 3) 3 18 (fun ad => [.ref (ad 0), .int v1, .int v2]) σ (cg_ql Q) X
theorem M_X11_above.mono {v1 : Int32} {v2 : Int32} {σ : cg_S} {Q Q2 : Int64 → cg_S → Prop} {X X2 : String → cg_S → Prop} (h : M_X11_above v1 v2 σ Q X) (hq : ∀ r τ, Q r τ → Q2 r τ) (hx : ∀ E τ, X E τ → X2 E τ) : M_X11_above v1 v2 σ Q2 X2 := cg_MX.mono h (fun ad v τ ⟨r, e, q⟩ => ⟨r, e, hq r τ q⟩) hx
set_option maxRecDepth 100000 in
set_option maxHeartbeats 4000000 in
theorem v_X11_above {v1 : Int32} {v2 : Int32} {σ : cg_S} {Q : Int64 → cg_S → Prop} {X : String → cg_S → Prop}
    (h : M_X11_findValues v1 v2 σ (fun s2 => M_X0_toldAbove v2 s2 (fun r4 s5 => Q r4 s5)) X) : M_X11_above v1 v2 σ Q X := by
  refine cg_xentry (lv := fun ad => [(0, .ref (ad 0)), (1, .int v1), (2, .int v2)]) (by decide +kernel) (fun _ => rfl) (fun _ => Nat.le_of_ble_eq_true rfl) ?_
  intro p l e s m args below meth c D cy ad hY
  have hC := hY.1
  refine ga_aload_n hC dX11_above_0 0 rfl rfl ?_
  refine ga_iload_n hC dX11_above_1 1 rfl rfl ?_
  refine ga_iload_n hC dX11_above_2 2 rfl rfl ?_
  refine gx_callV (As := [.int v1, .int v2]) (st := []) (k := 0) (n := 2) hY h q_4_151 q_4_153 q_0_6 q_1_1 q_4_154 rfl rfl rfl (by decide +kernel) ⟨Nat.le_of_ble_eq_true rfl, Nat.le_of_ble_eq_true rfl⟩ ⟨Nat.le_of_ble_eq_true rfl, Nat.le_of_ble_eq_true rfl⟩ ⟨Nat.le_of_ble_eq_true rfl, Nat.le_of_ble_eq_true rfl⟩ rfl rfl rfl (by decide) rfl (Nat.le_of_ble_eq_true rfl) dX11_above_3 (fun v τ hq => ?_)
  obtain ⟨rfl, h⟩ := hq
  obtain ⟨s2, es2⟩ : ∃ z, z = τ := ⟨_, rfl⟩
  rw [← es2] at h ⊢
  clear es2
  refine ga_aload_n hC dX11_above_6 0 rfl rfl ?_
  refine gC_0_3 hC q_2_129 dX11_above_7 ?_
  refine ga_iload_n hC dX11_above_10 2 rfl rfl ?_
  refine ga_callV (As := [.int v2]) (st := []) (k := 3) (n := 1) hC h q_4_163 q_4_164 q_4_165 q_1_4 q_4_166 rfl rfl rfl (by decide +kernel) ⟨Nat.le_of_ble_eq_true rfl, Nat.le_of_ble_eq_true rfl⟩ ⟨Nat.le_of_ble_eq_true rfl, Nat.le_of_ble_eq_true rfl⟩ rfl rfl rfl (by decide) rfl (Nat.le_of_ble_eq_true rfl) dX11_above_11 (fun v τ hq => ?_)
  obtain ⟨r4, rfl, h⟩ := hq
  obtain ⟨s5, es5⟩ : ∃ z, z = τ := ⟨_, rfl⟩
  rw [← es5] at h ⊢
  clear es5
  exact gx_lret hC dX11_above_14 ⟨Nat.le_of_ble_eq_true rfl, Nat.le_of_ble_eq_true rfl⟩ ⟨_, rfl, h⟩
def M_X11_below (v1 : Int32) (v2 : Int32) (σ : cg_S) (Q : Int64 → cg_S → Prop) (X : String → cg_S → Prop) : Prop := cg_MX cg_WC yX11_below cX11_below 3 (some .long) (cg_RX 6 3) 3 18 (fun ad => [.ref (ad 0), .int v1, .int v2]) σ (cg_ql Q) X
theorem M_X11_below.mono {v1 : Int32} {v2 : Int32} {σ : cg_S} {Q Q2 : Int64 → cg_S → Prop} {X X2 : String → cg_S → Prop} (h : M_X11_below v1 v2 σ Q X) (hq : ∀ r τ, Q r τ → Q2 r τ) (hx : ∀ E τ, X E τ → X2 E τ) : M_X11_below v1 v2 σ Q2 X2 := cg_MX.mono h (fun ad v τ ⟨r, e, q⟩ => ⟨r, e, hq r τ q⟩) hx
set_option maxRecDepth 100000 in
set_option maxHeartbeats 4000000 in
theorem v_X11_below {v1 : Int32} {v2 : Int32} {σ : cg_S} {Q : Int64 → cg_S → Prop} {X : String → cg_S → Prop}
    (h : M_X11_findValues v1 v2 σ (fun s2 => M_X0_toldBelow v2 s2 (fun r4 s5 => Q r4 s5)) X) : M_X11_below v1 v2 σ Q X := by
  refine cg_xentry (lv := fun ad => [(0, .ref (ad 0)), (1, .int v1), (2, .int v2)]) (by decide +kernel) (fun _ => rfl) (fun _ => Nat.le_of_ble_eq_true rfl) ?_
  intro p l e s m args below meth c D cy ad hY
  have hC := hY.1
  refine ga_aload_n hC dX11_below_0 0 rfl rfl ?_
  refine ga_iload_n hC dX11_below_1 1 rfl rfl ?_
  refine ga_iload_n hC dX11_below_2 2 rfl rfl ?_
  refine gx_callV (As := [.int v1, .int v2]) (st := []) (k := 0) (n := 2) hY h q_4_151 q_4_153 q_0_6 q_1_1 q_4_154 rfl rfl rfl (by decide +kernel) ⟨Nat.le_of_ble_eq_true rfl, Nat.le_of_ble_eq_true rfl⟩ ⟨Nat.le_of_ble_eq_true rfl, Nat.le_of_ble_eq_true rfl⟩ ⟨Nat.le_of_ble_eq_true rfl, Nat.le_of_ble_eq_true rfl⟩ rfl rfl rfl (by decide) rfl (Nat.le_of_ble_eq_true rfl) dX11_below_3 (fun v τ hq => ?_)
  obtain ⟨rfl, h⟩ := hq
  obtain ⟨s2, es2⟩ : ∃ z, z = τ := ⟨_, rfl⟩
  rw [← es2] at h ⊢
  clear es2
  refine ga_aload_n hC dX11_below_6 0 rfl rfl ?_
  refine gC_0_3 hC q_2_129 dX11_below_7 ?_
  refine ga_iload_n hC dX11_below_10 2 rfl rfl ?_
  refine ga_callV (As := [.int v2]) (st := []) (k := 3) (n := 1) hC h q_4_183 q_4_184 q_4_185 q_1_4 q_4_186 rfl rfl rfl (by decide +kernel) ⟨Nat.le_of_ble_eq_true rfl, Nat.le_of_ble_eq_true rfl⟩ ⟨Nat.le_of_ble_eq_true rfl, Nat.le_of_ble_eq_true rfl⟩ rfl rfl rfl (by decide) rfl (Nat.le_of_ble_eq_true rfl) dX11_below_11 (fun v τ hq => ?_)
  obtain ⟨r4, rfl, h⟩ := hq
  obtain ⟨s5, es5⟩ : ∃ z, z = τ := ⟨_, rfl⟩
  rw [← es5] at h ⊢
  clear es5
  exact gx_lret hC dX11_below_14 ⟨Nat.le_of_ble_eq_true rfl, Nat.le_of_ble_eq_true rfl⟩ ⟨_, rfl, h⟩
def M_X11_aboveByAll (v1 : Int32) (v2 : Int32) (σ : cg_S) (Q : Int64 → cg_S → Prop) (X : String → cg_S → Prop) : Prop := cg_MX cg_WC yX11_aboveByAll cX11_aboveByAll 4 (some .long) (cg_RX 5 3) 3 18 (fun ad => [.ref (ad 0), .int v1, .int v2]) σ (cg_ql Q) X
theorem M_X11_aboveByAll.mono {v1 : Int32} {v2 : Int32} {σ : cg_S} {Q Q2 : Int64 → cg_S → Prop} {X X2 : String → cg_S → Prop} (h : M_X11_aboveByAll v1 v2 σ Q X) (hq : ∀ r τ, Q r τ → Q2 r τ) (hx : ∀ E τ, X E τ → X2 E τ) : M_X11_aboveByAll v1 v2 σ Q2 X2 := cg_MX.mono h (fun ad v τ ⟨r, e, q⟩ => ⟨r, e, hq r τ q⟩) hx
set_option maxRecDepth 100000 in
set_option maxHeartbeats 4000000 in
theorem v_X11_aboveByAll {v1 : Int32} {v2 : Int32} {σ : cg_S} {Q : Int64 → cg_S → Prop} {X : String → cg_S → Prop}
    (h : M_X11_needSolvable v1 v2 σ (fun s2 => M_X7_valuesFor v1 s2 (fun r4 s5 => (11 ≤ r4 ∧ r4 ≤ 18) ∧ vp_in v2 7 ∧ vp_in v2 7 ∧ M_X11_lowestAbove (s5.2.1 (r4 + 56) v2.toNatClampNeg) (s5.2.1 (r4 + 64) v2.toNatClampNeg) s5 (fun r9 s10 => Q r9 s10))) X) : M_X11_aboveByAll v1 v2 σ Q X := by
  refine cg_xentry (lv := fun ad => [(0, .ref (ad 0)), (1, .int v1), (2, .int v2)]) (by decide +kernel) (fun _ => rfl) (fun _ => Nat.le_of_ble_eq_true rfl) ?_
  intro p l e s m args below meth c D cy ad hY
  have hC := hY.1
  refine ga_aload_n hC dX11_aboveByAll_0 0 rfl rfl ?_
  refine ga_iload_n hC dX11_aboveByAll_1 1 rfl rfl ?_
  refine ga_iload_n hC dX11_aboveByAll_2 2 rfl rfl ?_
  refine gx_callV (As := [.int v1, .int v2]) (st := []) (k := 0) (n := 2) hY h q_4_155 q_4_157 q_0_7 q_1_1 q_4_158 rfl rfl rfl (by decide +kernel) ⟨Nat.le_of_ble_eq_true rfl, Nat.le_of_ble_eq_true rfl⟩ ⟨Nat.le_of_ble_eq_true rfl, Nat.le_of_ble_eq_true rfl⟩ ⟨Nat.le_of_ble_eq_true rfl, Nat.le_of_ble_eq_true rfl⟩ rfl rfl rfl (by decide) rfl (Nat.le_of_ble_eq_true rfl) dX11_aboveByAll_3 (fun v τ hq => ?_)
  obtain ⟨rfl, h⟩ := hq
  obtain ⟨s2, es2⟩ : ∃ z, z = τ := ⟨_, rfl⟩
  rw [← es2] at h ⊢
  clear es2
  refine ga_aload_n hC dX11_aboveByAll_6 0 rfl rfl ?_
  refine gC_0_6 hC q_2_132 dX11_aboveByAll_7 ?_
  refine ga_iload_n hC dX11_aboveByAll_10 1 rfl rfl ?_
  refine ga_callV (As := [.int v1]) (st := []) (k := 7) (n := 1) hC h q_3_64 q_3_65 q_3_66 q_1_9 q_3_67 rfl rfl rfl (by decide +kernel) ⟨Nat.le_of_ble_eq_true rfl, Nat.le_of_ble_eq_true rfl⟩ ⟨Nat.le_of_ble_eq_true rfl, Nat.le_of_ble_eq_true rfl⟩ rfl rfl rfl (by decide) rfl (Nat.le_of_ble_eq_true rfl) dX11_aboveByAll_11 (fun v τ hq => ?_)
  obtain ⟨r4, rfl, h⟩ := hq
  obtain ⟨s5, es5⟩ : ∃ z, z = τ := ⟨_, rfl⟩
  rw [← es5] at h ⊢
  clear es5
  obtain ⟨h6, h⟩ := h
  refine ga_astore_n (lv' := [(3, .ref (ad r4)), (0, .ref (ad 0)), (1, .int v1), (2, .int v2)]) hC dX11_aboveByAll_14 rfl (by decide) rfl ?_
  refine ga_aload_n hC dX11_aboveByAll_15 0 rfl rfl ?_
  refine gC_v_0 h6 hC q_2_10 dX11_aboveByAll_16 ?_
  refine ga_iload_n hC dX11_aboveByAll_19 3 rfl rfl ?_
  obtain ⟨h7, h⟩ := h
  refine ga_lald hC (aC_vu h6) (show _ + 56 < 88 by have := h6; omega) h7 dX11_aboveByAll_20 ?_
  refine ga_aload_n hC dX11_aboveByAll_21 0 rfl rfl ?_
  refine gC_v_1 h6 hC q_2_15 dX11_aboveByAll_22 ?_
  refine ga_iload_n hC dX11_aboveByAll_25 3 rfl rfl ?_
  obtain ⟨h8, h⟩ := h
  refine ga_lald hC (aC_vd h6) (show _ + 64 < 88 by have := h6; omega) h8 dX11_aboveByAll_26 ?_
  refine ga_callS (As := [.long (s5.2.1 (r4 + 56) v2.toNatClampNeg), .long (s5.2.1 (r4 + 64) v2.toNatClampNeg)]) (st := []) (n := 2) hC h q_4_197 q_4_168 q_1_1 q_4_169 rfl rfl rfl (by decide +kernel) ⟨Nat.le_of_ble_eq_true rfl, Nat.le_of_ble_eq_true rfl⟩ ⟨Nat.le_of_ble_eq_true rfl, Nat.le_of_ble_eq_true rfl⟩ rfl rfl (Nat.le_of_ble_eq_true rfl) dX11_aboveByAll_27 (fun v τ hq => ?_)
  obtain ⟨r9, rfl, h⟩ := hq
  obtain ⟨s10, es10⟩ : ∃ z, z = τ := ⟨_, rfl⟩
  rw [← es10] at h ⊢
  clear es10
  exact gx_lret hC dX11_aboveByAll_30 ⟨Nat.le_of_ble_eq_true rfl, Nat.le_of_ble_eq_true rfl⟩ ⟨_, rfl, h⟩
def M_X11_belowByAll (v1 : Int32) (v2 : Int32) (σ : cg_S) (Q : Int64 → cg_S → Prop) (X : String → cg_S → Prop) : Prop := cg_MX cg_WC yX11_belowByAll cX11_belowByAll 4 (some .long) (cg_RX 5 3) 3 18 (fun ad => [.ref (ad 0), .int v1, .int v2]) σ (cg_ql Q) X
theorem M_X11_belowByAll.mono {v1 : Int32} {v2 : Int32} {σ : cg_S} {Q Q2 : Int64 → cg_S → Prop} {X X2 : String → cg_S → Prop} (h : M_X11_belowByAll v1 v2 σ Q X) (hq : ∀ r τ, Q r τ → Q2 r τ) (hx : ∀ E τ, X E τ → X2 E τ) : M_X11_belowByAll v1 v2 σ Q2 X2 := cg_MX.mono h (fun ad v τ ⟨r, e, q⟩ => ⟨r, e, hq r τ q⟩) hx
set_option maxRecDepth 100000 in
set_option maxHeartbeats 4000000 in
theorem v_X11_belowByAll {v1 : Int32} {v2 : Int32} {σ : cg_S} {Q : Int64 → cg_S → Prop} {X : String → cg_S → Prop}
    (h : M_X11_needSolvable v1 v2 σ (fun s2 => M_X7_valuesFor v1 s2 (fun r4 s5 => (11 ≤ r4 ∧ r4 ≤ 18) ∧ vp_in v2 7 ∧ vp_in v2 7 ∧ M_X11_lowestBelow (s5.2.1 (r4 + 56) v2.toNatClampNeg) (s5.2.1 (r4 + 64) v2.toNatClampNeg) s5 (fun r9 s10 => Q r9 s10))) X) : M_X11_belowByAll v1 v2 σ Q X := by
  refine cg_xentry (lv := fun ad => [(0, .ref (ad 0)), (1, .int v1), (2, .int v2)]) (by decide +kernel) (fun _ => rfl) (fun _ => Nat.le_of_ble_eq_true rfl) ?_
  intro p l e s m args below meth c D cy ad hY
  have hC := hY.1
  refine ga_aload_n hC dX11_belowByAll_0 0 rfl rfl ?_
  refine ga_iload_n hC dX11_belowByAll_1 1 rfl rfl ?_
  refine ga_iload_n hC dX11_belowByAll_2 2 rfl rfl ?_
  refine gx_callV (As := [.int v1, .int v2]) (st := []) (k := 0) (n := 2) hY h q_4_155 q_4_157 q_0_7 q_1_1 q_4_158 rfl rfl rfl (by decide +kernel) ⟨Nat.le_of_ble_eq_true rfl, Nat.le_of_ble_eq_true rfl⟩ ⟨Nat.le_of_ble_eq_true rfl, Nat.le_of_ble_eq_true rfl⟩ ⟨Nat.le_of_ble_eq_true rfl, Nat.le_of_ble_eq_true rfl⟩ rfl rfl rfl (by decide) rfl (Nat.le_of_ble_eq_true rfl) dX11_belowByAll_3 (fun v τ hq => ?_)
  obtain ⟨rfl, h⟩ := hq
  obtain ⟨s2, es2⟩ : ∃ z, z = τ := ⟨_, rfl⟩
  rw [← es2] at h ⊢
  clear es2
  refine ga_aload_n hC dX11_belowByAll_6 0 rfl rfl ?_
  refine gC_0_6 hC q_2_132 dX11_belowByAll_7 ?_
  refine ga_iload_n hC dX11_belowByAll_10 1 rfl rfl ?_
  refine ga_callV (As := [.int v1]) (st := []) (k := 7) (n := 1) hC h q_3_64 q_3_65 q_3_66 q_1_9 q_3_67 rfl rfl rfl (by decide +kernel) ⟨Nat.le_of_ble_eq_true rfl, Nat.le_of_ble_eq_true rfl⟩ ⟨Nat.le_of_ble_eq_true rfl, Nat.le_of_ble_eq_true rfl⟩ rfl rfl rfl (by decide) rfl (Nat.le_of_ble_eq_true rfl) dX11_belowByAll_11 (fun v τ hq => ?_)
  obtain ⟨r4, rfl, h⟩ := hq
  obtain ⟨s5, es5⟩ : ∃ z, z = τ := ⟨_, rfl⟩
  rw [← es5] at h ⊢
  clear es5
  obtain ⟨h6, h⟩ := h
  refine ga_astore_n (lv' := [(3, .ref (ad r4)), (0, .ref (ad 0)), (1, .int v1), (2, .int v2)]) hC dX11_belowByAll_14 rfl (by decide) rfl ?_
  refine ga_aload_n hC dX11_belowByAll_15 0 rfl rfl ?_
  refine gC_v_0 h6 hC q_2_10 dX11_belowByAll_16 ?_
  refine ga_iload_n hC dX11_belowByAll_19 3 rfl rfl ?_
  obtain ⟨h7, h⟩ := h
  refine ga_lald hC (aC_vu h6) (show _ + 56 < 88 by have := h6; omega) h7 dX11_belowByAll_20 ?_
  refine ga_aload_n hC dX11_belowByAll_21 0 rfl rfl ?_
  refine gC_v_1 h6 hC q_2_15 dX11_belowByAll_22 ?_
  refine ga_iload_n hC dX11_belowByAll_25 3 rfl rfl ?_
  obtain ⟨h8, h⟩ := h
  refine ga_lald hC (aC_vd h6) (show _ + 64 < 88 by have := h6; omega) h8 dX11_belowByAll_26 ?_
  refine ga_callS (As := [.long (s5.2.1 (r4 + 56) v2.toNatClampNeg), .long (s5.2.1 (r4 + 64) v2.toNatClampNeg)]) (st := []) (n := 2) hC h q_4_205 q_4_188 q_1_1 q_4_189 rfl rfl rfl (by decide +kernel) ⟨Nat.le_of_ble_eq_true rfl, Nat.le_of_ble_eq_true rfl⟩ ⟨Nat.le_of_ble_eq_true rfl, Nat.le_of_ble_eq_true rfl⟩ rfl rfl (Nat.le_of_ble_eq_true rfl) dX11_belowByAll_27 (fun v τ hq => ?_)
  obtain ⟨r9, rfl, h⟩ := hq
  obtain ⟨s10, es10⟩ : ∃ z, z = τ := ⟨_, rfl⟩
  rw [← es10] at h ⊢
  clear es10
  exact gx_lret hC dX11_belowByAll_30 ⟨Nat.le_of_ble_eq_true rfl, Nat.le_of_ble_eq_true rfl⟩ ⟨_, rfl, h⟩
def M_X11_valueFloat (v1 : Int32) (v2 : Int32) (σ : cg_S) (Q : UInt32 → cg_S → Prop) (X : String → cg_S → Prop) : Prop := cg_MX cg_WC yX11_valueFloat cX11_valueFloat 3 (some .float) (cg_RX 6 3) 3 18 (fun ad => [.ref (ad 0), .int v1, .int v2]) σ (cg_qf Q) X
theorem M_X11_valueFloat.mono {v1 : Int32} {v2 : Int32} {σ : cg_S} {Q Q2 : UInt32 → cg_S → Prop} {X X2 : String → cg_S → Prop} (h : M_X11_valueFloat v1 v2 σ Q X) (hq : ∀ r τ, Q r τ → Q2 r τ) (hx : ∀ E τ, X E τ → X2 E τ) : M_X11_valueFloat v1 v2 σ Q2 X2 := cg_MX.mono h (fun ad v τ ⟨r, e, q⟩ => ⟨r, e, hq r τ q⟩) hx
set_option maxRecDepth 100000 in
set_option maxHeartbeats 4000000 in
theorem v_X11_valueFloat {v1 : Int32} {v2 : Int32} {σ : cg_S} {Q : UInt32 → cg_S → Prop} {X : String → cg_S → Prop}
    (h : M_X11_findValues v1 v2 σ (fun s2 => M_X0_toldAbove v2 s2 (fun r4 s5 => M_X0_toldBelow v2 s5 (fun r7 s8 => M_X11_floatOf r4 r7 s8 (fun r10 s11 => Q r10 s11)))) X) : M_X11_valueFloat v1 v2 σ Q X := by
  refine cg_xentry (lv := fun ad => [(0, .ref (ad 0)), (1, .int v1), (2, .int v2)]) (by decide +kernel) (fun _ => rfl) (fun _ => Nat.le_of_ble_eq_true rfl) ?_
  intro p l e s m args below meth c D cy ad hY
  have hC := hY.1
  refine ga_aload_n hC dX11_valueFloat_0 0 rfl rfl ?_
  refine ga_iload_n hC dX11_valueFloat_1 1 rfl rfl ?_
  refine ga_iload_n hC dX11_valueFloat_2 2 rfl rfl ?_
  refine gx_callV (As := [.int v1, .int v2]) (st := []) (k := 0) (n := 2) hY h q_4_151 q_4_153 q_0_6 q_1_1 q_4_154 rfl rfl rfl (by decide +kernel) ⟨Nat.le_of_ble_eq_true rfl, Nat.le_of_ble_eq_true rfl⟩ ⟨Nat.le_of_ble_eq_true rfl, Nat.le_of_ble_eq_true rfl⟩ ⟨Nat.le_of_ble_eq_true rfl, Nat.le_of_ble_eq_true rfl⟩ rfl rfl rfl (by decide) rfl (Nat.le_of_ble_eq_true rfl) dX11_valueFloat_3 (fun v τ hq => ?_)
  obtain ⟨rfl, h⟩ := hq
  obtain ⟨s2, es2⟩ : ∃ z, z = τ := ⟨_, rfl⟩
  rw [← es2] at h ⊢
  clear es2
  refine ga_aload_n hC dX11_valueFloat_6 0 rfl rfl ?_
  refine gC_0_3 hC q_2_129 dX11_valueFloat_7 ?_
  refine ga_iload_n hC dX11_valueFloat_10 2 rfl rfl ?_
  refine ga_callV (As := [.int v2]) (st := []) (k := 3) (n := 1) hC h q_4_163 q_4_164 q_4_165 q_1_4 q_4_166 rfl rfl rfl (by decide +kernel) ⟨Nat.le_of_ble_eq_true rfl, Nat.le_of_ble_eq_true rfl⟩ ⟨Nat.le_of_ble_eq_true rfl, Nat.le_of_ble_eq_true rfl⟩ rfl rfl rfl (by decide) rfl (Nat.le_of_ble_eq_true rfl) dX11_valueFloat_11 (fun v τ hq => ?_)
  obtain ⟨r4, rfl, h⟩ := hq
  obtain ⟨s5, es5⟩ : ∃ z, z = τ := ⟨_, rfl⟩
  rw [← es5] at h ⊢
  clear es5
  refine ga_aload_n hC dX11_valueFloat_14 0 rfl rfl ?_
  refine gC_0_3 hC q_2_129 dX11_valueFloat_15 ?_
  refine ga_iload_n hC dX11_valueFloat_18 2 rfl rfl ?_
  refine ga_callV (As := [.int v2]) (st := [.long r4]) (k := 3) (n := 1) hC h q_4_183 q_4_184 q_4_185 q_1_4 q_4_186 rfl rfl rfl (by decide +kernel) ⟨Nat.le_of_ble_eq_true rfl, Nat.le_of_ble_eq_true rfl⟩ ⟨Nat.le_of_ble_eq_true rfl, Nat.le_of_ble_eq_true rfl⟩ rfl rfl rfl (by decide) rfl (Nat.le_of_ble_eq_true rfl) dX11_valueFloat_19 (fun v τ hq => ?_)
  obtain ⟨r7, rfl, h⟩ := hq
  obtain ⟨s8, es8⟩ : ∃ z, z = τ := ⟨_, rfl⟩
  rw [← es8] at h ⊢
  clear es8
  refine ga_callS (As := [.long r4, .long r7]) (st := []) (n := 2) hC h q_5_103 q_5_104 q_1_1 q_5_105 rfl rfl rfl (by decide +kernel) ⟨Nat.le_of_ble_eq_true rfl, Nat.le_of_ble_eq_true rfl⟩ ⟨Nat.le_of_ble_eq_true rfl, Nat.le_of_ble_eq_true rfl⟩ rfl rfl (Nat.le_of_ble_eq_true rfl) dX11_valueFloat_22 (fun v τ hq => ?_)
  obtain ⟨r10, rfl, h⟩ := hq
  obtain ⟨s11, es11⟩ : ∃ z, z = τ := ⟨_, rfl⟩
  rw [← es11] at h ⊢
  clear es11
  exact gx_fret hC dX11_valueFloat_25 ⟨Nat.le_of_ble_eq_true rfl, Nat.le_of_ble_eq_true rfl⟩ ⟨_, rfl, h⟩
def M_X11_bound (v1 : Int32) (v2 : Int32) (σ : cg_S) (Q : UInt64 → cg_S → Prop) (X : String → cg_S → Prop) : Prop := cg_MX cg_WC yX11_bound cX11_bound 3 (some .double) (cg_RX 3 3) 3 18 (fun ad => [.ref (ad 0), .int v1, .int v2]) σ (cg_qd Q) X
theorem M_X11_bound.mono {v1 : Int32} {v2 : Int32} {σ : cg_S} {Q Q2 : UInt64 → cg_S → Prop} {X X2 : String → cg_S → Prop} (h : M_X11_bound v1 v2 σ Q X) (hq : ∀ r τ, Q r τ → Q2 r τ) (hx : ∀ E τ, X E τ → X2 E τ) : M_X11_bound v1 v2 σ Q2 X2 := cg_MX.mono h (fun ad v τ ⟨r, e, q⟩ => ⟨r, e, hq r τ q⟩) hx
set_option maxRecDepth 100000 in
set_option maxHeartbeats 4000000 in
theorem v_X11_bound {v1 : Int32} {v2 : Int32} {σ : cg_S} {Q : UInt64 → cg_S → Prop} {X : String → cg_S → Prop}
    (h : M_X11_needState v1 σ (fun s2 => (v2 < 0 → X "java/lang/IllegalArgumentException" s2) ∧ (¬ v2 < 0 → (v2 ≤ 60 → M_X11_needWhole s2 (fun s5 => M_X3_boundAfter v1 v2 s5 (fun r7 s8 => Q r7 s8)) X) ∧ (¬ v2 ≤ 60 → X "java/lang/IllegalArgumentException" s2))) X) : M_X11_bound v1 v2 σ Q X := by
  refine cg_xentry (lv := fun ad => [(0, .ref (ad 0)), (1, .int v1), (2, .int v2)]) (by decide +kernel) (fun _ => rfl) (fun _ => Nat.le_of_ble_eq_true rfl) ?_
  intro p l e s m args below meth c D cy ad hY
  have hC := hY.1
  refine ga_aload_n hC dX11_bound_0 0 rfl rfl ?_
  refine ga_iload_n hC dX11_bound_1 1 rfl rfl ?_
  refine gx_callV (As := [.int v1]) (st := []) (k := 0) (n := 1) hY h q_4_14 q_4_16 q_0_3 q_1_1 q_4_17 rfl rfl rfl (by decide +kernel) ⟨Nat.le_of_ble_eq_true rfl, Nat.le_of_ble_eq_true rfl⟩ ⟨Nat.le_of_ble_eq_true rfl, Nat.le_of_ble_eq_true rfl⟩ ⟨Nat.le_of_ble_eq_true rfl, Nat.le_of_ble_eq_true rfl⟩ rfl rfl rfl (by decide) rfl (Nat.le_of_ble_eq_true rfl) dX11_bound_2 (fun v τ hq => ?_)
  obtain ⟨rfl, h⟩ := hq
  obtain ⟨s2, es2⟩ : ∃ z, z = τ := ⟨_, rfl⟩
  rw [← es2] at h ⊢
  clear es2
  refine ga_iload_n hC dX11_bound_5 2 rfl rfl ?_
  refine ga_if_lt (tgt := 15) hC dX11_bound_6 (by decide) (fun hc => ?_) (fun hc => ?_)
  · have h := h.1 hc
    exact gx_throw hY (by decide +kernel) (by decide +kernel) q_3_131 q_1_16 (is := 220) (text := _) (List.mem_of_getElem? (i := 9) rfl) xe1_IllegalArgumentException xe2_IllegalArgumentException xe3_IllegalArgumentException dX11_bound_15 dX11_bound_18 dX11_bound_19 dX11_bound_21 dX11_bound_24 (Nat.le_of_ble_eq_true rfl) (Nat.le_of_ble_eq_true rfl) ⟨Nat.le_of_ble_eq_true rfl, Nat.le_of_ble_eq_true rfl⟩ ⟨Nat.le_of_ble_eq_true rfl, Nat.le_of_ble_eq_true rfl⟩ h
  · have h := h.2 hc
    refine ga_iload_n hC dX11_bound_9 2 rfl rfl ?_
    refine ga_bipush (v := 60) hC dX11_bound_10 (by decide) ?_
    refine ga_icmp_le (tgt := 25) hC dX11_bound_12 (by decide) (fun hc => ?_) (fun hc => ?_)
    · have h := h.1 hc
      refine ga_aload_n hC dX11_bound_25 0 rfl rfl ?_
      refine gx_callV (As := []) (st := []) (k := 0) (n := 0) hY h q_4_95 q_4_97 q_0_5 q_1_1 q_4_98 rfl rfl rfl (by decide +kernel) ⟨Nat.le_of_ble_eq_true rfl, Nat.le_of_ble_eq_true rfl⟩ ⟨Nat.le_of_ble_eq_true rfl, Nat.le_of_ble_eq_true rfl⟩ ⟨Nat.le_of_ble_eq_true rfl, Nat.le_of_ble_eq_true rfl⟩ rfl rfl rfl (by decide) rfl (Nat.le_of_ble_eq_true rfl) dX11_bound_26 (fun v τ hq => ?_)
      obtain ⟨rfl, h⟩ := hq
      obtain ⟨s5, es5⟩ : ∃ z, z = τ := ⟨_, rfl⟩
      rw [← es5] at h ⊢
      clear es5
      refine ga_aload_n hC dX11_bound_29 0 rfl rfl ?_
      refine gC_0_2 hC q_2_128 dX11_bound_30 ?_
      refine ga_iload_n hC dX11_bound_33 1 rfl rfl ?_
      refine ga_iload_n hC dX11_bound_34 2 rfl rfl ?_
      refine ga_callV (As := [.int v1, .int v2]) (st := []) (k := 2) (n := 2) hC h q_5_120 q_5_121 q_5_122 q_1_3 q_5_123 rfl rfl rfl (by decide +kernel) ⟨Nat.le_of_ble_eq_true rfl, Nat.le_of_ble_eq_true rfl⟩ ⟨Nat.le_of_ble_eq_true rfl, Nat.le_of_ble_eq_true rfl⟩ rfl rfl rfl (by decide) rfl (Nat.le_of_ble_eq_true rfl) dX11_bound_35 (fun v τ hq => ?_)
      obtain ⟨r7, rfl, h⟩ := hq
      obtain ⟨s8, es8⟩ : ∃ z, z = τ := ⟨_, rfl⟩
      rw [← es8] at h ⊢
      clear es8
      exact gx_dret hC dX11_bound_38 ⟨Nat.le_of_ble_eq_true rfl, Nat.le_of_ble_eq_true rfl⟩ ⟨_, rfl, h⟩
    · have h := h.2 hc
      exact gx_throw hY (by decide +kernel) (by decide +kernel) q_3_131 q_1_16 (is := 220) (text := _) (List.mem_of_getElem? (i := 9) rfl) xe1_IllegalArgumentException xe2_IllegalArgumentException xe3_IllegalArgumentException dX11_bound_15 dX11_bound_18 dX11_bound_19 dX11_bound_21 dX11_bound_24 (Nat.le_of_ble_eq_true rfl) (Nat.le_of_ble_eq_true rfl) ⟨Nat.le_of_ble_eq_true rfl, Nat.le_of_ble_eq_true rfl⟩ ⟨Nat.le_of_ble_eq_true rfl, Nat.le_of_ble_eq_true rfl⟩ h
def M_X11_isZero (v1 : Int32) (σ : cg_S) (Q : Int32 → cg_S → Prop) (X : String → cg_S → Prop) : Prop := cg_MX cg_WC yX11_isZero cX11_isZero 2 (some .boolean) (cg_RX 4 2) 2 12 (fun ad => [.ref (ad 0), .int v1]) σ (cg_qi Q) X
theorem M_X11_isZero.mono {v1 : Int32} {σ : cg_S} {Q Q2 : Int32 → cg_S → Prop} {X X2 : String → cg_S → Prop} (h : M_X11_isZero v1 σ Q X) (hq : ∀ r τ, Q r τ → Q2 r τ) (hx : ∀ E τ, X E τ → X2 E τ) : M_X11_isZero v1 σ Q2 X2 := cg_MX.mono h (fun ad v τ ⟨r, e, q⟩ => ⟨r, e, hq r τ q⟩) hx
set_option maxRecDepth 100000 in
set_option maxHeartbeats 4000000 in
theorem v_X11_isZero {v1 : Int32} {σ : cg_S} {Q : Int32 → cg_S → Prop} {X : String → cg_S → Prop}
    (h : M_X11_needWholeFor v1 σ (fun s2 => M_X3_positive s2 (fun r4 s5 => M_X2_holds r4 v1 s5 (fun r7 s8 => (¬ r7 = 0 → Q 0 s8) ∧ (r7 = 0 → Q 1 s8)))) X) : M_X11_isZero v1 σ Q X := by
  refine cg_xentry (lv := fun ad => [(0, .ref (ad 0)), (1, .int v1)]) (by decide +kernel) (fun _ => rfl) (fun _ => Nat.le_of_ble_eq_true rfl) ?_
  intro p l e s m args below meth c D cy ad hY
  have hC := hY.1
  refine ga_aload_n hC dX11_isZero_0 0 rfl rfl ?_
  refine ga_iload_n hC dX11_isZero_1 1 rfl rfl ?_
  refine gx_callV (As := [.int v1]) (st := []) (k := 0) (n := 1) hY h q_4_159 q_4_161 q_0_8 q_1_1 q_4_162 rfl rfl rfl (by decide +kernel) ⟨Nat.le_of_ble_eq_true rfl, Nat.le_of_ble_eq_true rfl⟩ ⟨Nat.le_of_ble_eq_true rfl, Nat.le_of_ble_eq_true rfl⟩ ⟨Nat.le_of_ble_eq_true rfl, Nat.le_of_ble_eq_true rfl⟩ rfl rfl rfl (by decide) rfl (Nat.le_of_ble_eq_true rfl) dX11_isZero_2 (fun v τ hq => ?_)
  obtain ⟨rfl, h⟩ := hq
  obtain ⟨s2, es2⟩ : ∃ z, z = τ := ⟨_, rfl⟩
  rw [← es2] at h ⊢
  clear es2
  refine ga_aload_n hC dX11_isZero_5 0 rfl rfl ?_
  refine gC_0_2 hC q_2_128 dX11_isZero_6 ?_
  refine ga_callV (As := []) (st := []) (k := 2) (n := 0) hC h q_3_99 q_3_100 q_3_101 q_1_3 q_3_102 rfl rfl rfl (by decide +kernel) ⟨Nat.le_of_ble_eq_true rfl, Nat.le_of_ble_eq_true rfl⟩ ⟨Nat.le_of_ble_eq_true rfl, Nat.le_of_ble_eq_true rfl⟩ rfl rfl rfl (by decide) rfl (Nat.le_of_ble_eq_true rfl) dX11_isZero_9 (fun v τ hq => ?_)
  obtain ⟨r4, rfl, h⟩ := hq
  obtain ⟨s5, es5⟩ : ∃ z, z = τ := ⟨_, rfl⟩
  rw [← es5] at h ⊢
  clear es5
  refine ga_iload_n hC dX11_isZero_12 1 rfl rfl ?_
  refine ga_callS (As := [.int r4, .int v1]) (st := []) (n := 2) hC h q_3_111 q_2_188 q_1_2 q_2_189 rfl rfl rfl (by decide +kernel) ⟨Nat.le_of_ble_eq_true rfl, Nat.le_of_ble_eq_true rfl⟩ ⟨Nat.le_of_ble_eq_true rfl, Nat.le_of_ble_eq_true rfl⟩ rfl rfl (Nat.le_of_ble_eq_true rfl) dX11_isZero_13 (fun v τ hq => ?_)
  obtain ⟨r7, rfl, h⟩ := hq
  obtain ⟨s8, es8⟩ : ∃ z, z = τ := ⟨_, rfl⟩
  rw [← es8] at h ⊢
  clear es8
  refine ga_if_ne (tgt := 23) hC dX11_isZero_16 (by decide) (fun hc => ?_) (fun hc => ?_)
  · have h := h.1 hc
    refine ga_iconst (v := 0) hC dX11_isZero_23 (by decide) ?_
    exact gx_zret hC dX11_isZero_24 ⟨Nat.le_of_ble_eq_true rfl, Nat.le_of_ble_eq_true rfl⟩ (by decide) ⟨_, rfl, h⟩
  · have h := h.2 hc
    refine ga_iconst (v := 1) hC dX11_isZero_19 (by decide) ?_
    refine ga_goto (tgt := 24) hC dX11_isZero_20 (by decide) ?_
    exact gx_zret hC dX11_isZero_24 ⟨Nat.le_of_ble_eq_true rfl, Nat.le_of_ble_eq_true rfl⟩ (by decide) ⟨_, rfl, h⟩
def M_X11_isOne (v1 : Int32) (σ : cg_S) (Q : Int32 → cg_S → Prop) (X : String → cg_S → Prop) : Prop := cg_MX cg_WC yX11_isOne cX11_isOne 2 (some .boolean) (cg_RX 4 2) 2 12 (fun ad => [.ref (ad 0), .int v1]) σ (cg_qi Q) X
theorem M_X11_isOne.mono {v1 : Int32} {σ : cg_S} {Q Q2 : Int32 → cg_S → Prop} {X X2 : String → cg_S → Prop} (h : M_X11_isOne v1 σ Q X) (hq : ∀ r τ, Q r τ → Q2 r τ) (hx : ∀ E τ, X E τ → X2 E τ) : M_X11_isOne v1 σ Q2 X2 := cg_MX.mono h (fun ad v τ ⟨r, e, q⟩ => ⟨r, e, hq r τ q⟩) hx
set_option maxRecDepth 100000 in
set_option maxHeartbeats 4000000 in
theorem v_X11_isOne {v1 : Int32} {σ : cg_S} {Q : Int32 → cg_S → Prop} {X : String → cg_S → Prop}
    (h : M_X11_needWholeFor v1 σ (fun s2 => M_X3_sure s2 (fun r4 s5 => M_X2_holds r4 v1 s5 (fun r7 s8 => (r7 = 0 ∨ r7 = 1) ∧ Q r7 s8))) X) : M_X11_isOne v1 σ Q X := by
  refine cg_xentry (lv := fun ad => [(0, .ref (ad 0)), (1, .int v1)]) (by decide +kernel) (fun _ => rfl) (fun _ => Nat.le_of_ble_eq_true rfl) ?_
  intro p l e s m args below meth c D cy ad hY
  have hC := hY.1
  refine ga_aload_n hC dX11_isOne_0 0 rfl rfl ?_
  refine ga_iload_n hC dX11_isOne_1 1 rfl rfl ?_
  refine gx_callV (As := [.int v1]) (st := []) (k := 0) (n := 1) hY h q_4_159 q_4_161 q_0_8 q_1_1 q_4_162 rfl rfl rfl (by decide +kernel) ⟨Nat.le_of_ble_eq_true rfl, Nat.le_of_ble_eq_true rfl⟩ ⟨Nat.le_of_ble_eq_true rfl, Nat.le_of_ble_eq_true rfl⟩ ⟨Nat.le_of_ble_eq_true rfl, Nat.le_of_ble_eq_true rfl⟩ rfl rfl rfl (by decide) rfl (Nat.le_of_ble_eq_true rfl) dX11_isOne_2 (fun v τ hq => ?_)
  obtain ⟨rfl, h⟩ := hq
  obtain ⟨s2, es2⟩ : ∃ z, z = τ := ⟨_, rfl⟩
  rw [← es2] at h ⊢
  clear es2
  refine ga_aload_n hC dX11_isOne_5 0 rfl rfl ?_
  refine gC_0_2 hC q_2_128 dX11_isOne_6 ?_
  refine ga_callV (As := []) (st := []) (k := 2) (n := 0) hC h q_3_107 q_3_108 q_3_109 q_1_3 q_3_110 rfl rfl rfl (by decide +kernel) ⟨Nat.le_of_ble_eq_true rfl, Nat.le_of_ble_eq_true rfl⟩ ⟨Nat.le_of_ble_eq_true rfl, Nat.le_of_ble_eq_true rfl⟩ rfl rfl rfl (by decide) rfl (Nat.le_of_ble_eq_true rfl) dX11_isOne_9 (fun v τ hq => ?_)
  obtain ⟨r4, rfl, h⟩ := hq
  obtain ⟨s5, es5⟩ : ∃ z, z = τ := ⟨_, rfl⟩
  rw [← es5] at h ⊢
  clear es5
  refine ga_iload_n hC dX11_isOne_12 1 rfl rfl ?_
  refine ga_callS (As := [.int r4, .int v1]) (st := []) (n := 2) hC h q_3_111 q_2_188 q_1_2 q_2_189 rfl rfl rfl (by decide +kernel) ⟨Nat.le_of_ble_eq_true rfl, Nat.le_of_ble_eq_true rfl⟩ ⟨Nat.le_of_ble_eq_true rfl, Nat.le_of_ble_eq_true rfl⟩ rfl rfl (Nat.le_of_ble_eq_true rfl) dX11_isOne_13 (fun v τ hq => ?_)
  obtain ⟨r7, rfl, h⟩ := hq
  obtain ⟨s8, es8⟩ : ∃ z, z = τ := ⟨_, rfl⟩
  rw [← es8] at h ⊢
  clear es8
  exact gx_zret hC dX11_isOne_16 ⟨Nat.le_of_ble_eq_true rfl, Nat.le_of_ble_eq_true rfl⟩ h.1 ⟨_, rfl, h.2⟩
def M_X11_solve (v1 : Int32) (σ : cg_S) (Q : Int32 → cg_S → Prop) (X : String → cg_S → Prop) : Prop := cg_MX cg_WC yX11_solve cX11_solve 2 (some .int) (cg_RX 6 2) 2 12 (fun ad => [.ref (ad 0), .int v1]) σ (cg_qi Q) X
theorem M_X11_solve.mono {v1 : Int32} {σ : cg_S} {Q Q2 : Int32 → cg_S → Prop} {X X2 : String → cg_S → Prop} (h : M_X11_solve v1 σ Q X) (hq : ∀ r τ, Q r τ → Q2 r τ) (hx : ∀ E τ, X E τ → X2 E τ) : M_X11_solve v1 σ Q2 X2 := cg_MX.mono h (fun ad v τ ⟨r, e, q⟩ => ⟨r, e, hq r τ q⟩) hx
set_option maxRecDepth 100000 in
set_option maxHeartbeats 4000000 in
theorem v_X11_solve {v1 : Int32} {σ : cg_S} {Q : Int32 → cg_S → Prop} {X : String → cg_S → Prop}
    (h : M_X11_needAim v1 σ (fun s2 => M_X11_needWhole s2 (fun s5 => M_X8_tellBest v1 19 s5 (fun r7 s8 => Q r7 s8)) X) X) : M_X11_solve v1 σ Q X := by
  refine cg_xentry (lv := fun ad => [(0, .ref (ad 0)), (1, .int v1)]) (by decide +kernel) (fun _ => rfl) (fun _ => Nat.le_of_ble_eq_true rfl) ?_
  intro p l e s m args below meth c D cy ad hY
  have hC := hY.1
  refine ga_iload_n hC dX11_solve_0 1 rfl rfl ?_
  refine gx_callS (As := [.int v1]) (st := []) (n := 1) hY h q_4_91 q_4_92 q_1_1 q_4_93 rfl rfl rfl (by decide +kernel) ⟨Nat.le_of_ble_eq_true rfl, Nat.le_of_ble_eq_true rfl⟩ ⟨Nat.le_of_ble_eq_true rfl, Nat.le_of_ble_eq_true rfl⟩ ⟨Nat.le_of_ble_eq_true rfl, Nat.le_of_ble_eq_true rfl⟩ rfl rfl (Nat.le_of_ble_eq_true rfl) dX11_solve_1 (fun v τ hq => ?_)
  obtain ⟨rfl, h⟩ := hq
  obtain ⟨s2, es2⟩ : ∃ z, z = τ := ⟨_, rfl⟩
  rw [← es2] at h ⊢
  clear es2
  refine ga_aload_n hC dX11_solve_4 0 rfl rfl ?_
  refine gx_callV (As := []) (st := []) (k := 0) (n := 0) hY h q_4_95 q_4_97 q_0_5 q_1_1 q_4_98 rfl rfl rfl (by decide +kernel) ⟨Nat.le_of_ble_eq_true rfl, Nat.le_of_ble_eq_true rfl⟩ ⟨Nat.le_of_ble_eq_true rfl, Nat.le_of_ble_eq_true rfl⟩ ⟨Nat.le_of_ble_eq_true rfl, Nat.le_of_ble_eq_true rfl⟩ rfl rfl rfl (by decide) rfl (Nat.le_of_ble_eq_true rfl) dX11_solve_5 (fun v τ hq => ?_)
  obtain ⟨rfl, h⟩ := hq
  obtain ⟨s5, es5⟩ : ∃ z, z = τ := ⟨_, rfl⟩
  rw [← es5] at h ⊢
  clear es5
  refine ga_aload_n hC dX11_solve_8 0 rfl rfl ?_
  refine gC_0_7 hC q_2_133 dX11_solve_9 ?_
  refine ga_iload_n hC dX11_solve_12 1 rfl rfl ?_
  refine ga_aload_n hC dX11_solve_13 0 rfl rfl ?_
  refine gC_0_1 hC q_2_127 dX11_solve_14 ?_
  refine ga_callV (As := [.int v1, .ref (ad 19)]) (st := []) (k := 8) (n := 2) hC h q_4_100 q_4_101 q_4_102 q_1_10 q_4_103 rfl rfl rfl (by decide +kernel) ⟨Nat.le_of_ble_eq_true rfl, Nat.le_of_ble_eq_true rfl⟩ ⟨Nat.le_of_ble_eq_true rfl, Nat.le_of_ble_eq_true rfl⟩ rfl rfl rfl (by decide) rfl (Nat.le_of_ble_eq_true rfl) dX11_solve_17 (fun v τ hq => ?_)
  obtain ⟨r7, rfl, h⟩ := hq
  obtain ⟨s8, es8⟩ : ∃ z, z = τ := ⟨_, rfl⟩
  rw [← es8] at h ⊢
  clear es8
  exact gx_iret hC dX11_solve_20 ⟨Nat.le_of_ble_eq_true rfl, Nat.le_of_ble_eq_true rfl⟩ ⟨_, rfl, h⟩
def M_X11_tell (v1 : Int32) (v2 : Int32) (σ : cg_S) (Q : Int32 → cg_S → Prop) (X : String → cg_S → Prop) : Prop := cg_MX cg_WC yX11_tell cX11_tell 4 (some .int) (cg_RX 3 1) 1 6 (fun ad => [.ref (ad 0), .int v1, .int v2]) σ (cg_qi Q) X
theorem M_X11_tell.mono {v1 : Int32} {v2 : Int32} {σ : cg_S} {Q Q2 : Int32 → cg_S → Prop} {X X2 : String → cg_S → Prop} (h : M_X11_tell v1 v2 σ Q X) (hq : ∀ r τ, Q r τ → Q2 r τ) (hx : ∀ E τ, X E τ → X2 E τ) : M_X11_tell v1 v2 σ Q2 X2 := cg_MX.mono h (fun ad v τ ⟨r, e, q⟩ => ⟨r, e, hq r τ q⟩) hx
set_option maxRecDepth 100000 in
set_option maxHeartbeats 4000000 in
theorem v_X11_tell {v1 : Int32} {v2 : Int32} {σ : cg_S} {Q : Int32 → cg_S → Prop} {X : String → cg_S → Prop}
    (h : M_X11_needChoice v1 v2 σ (fun s2 => vp_in v1 7 ∧ ∀ x5 : Int32, x5 = s2.1 19 v1.toNatClampNeg → vp_in v1 7 ∧ ∀ s7 : cg_S, s7 = cg_i s2 19 v1.toNatClampNeg v2 → Q x5 s7) X) : M_X11_tell v1 v2 σ Q X := by
  refine cg_xentry (lv := fun ad => [(0, .ref (ad 0)), (1, .int v1), (2, .int v2)]) (by decide +kernel) (fun _ => rfl) (fun _ => Nat.le_of_ble_eq_true rfl) ?_
  intro p l e s m args below meth c D cy ad hY
  have hC := hY.1
  refine ga_aload_n hC dX11_tell_0 0 rfl rfl ?_
  refine ga_iload_n hC dX11_tell_1 1 rfl rfl ?_
  refine ga_iload_n hC dX11_tell_2 2 rfl rfl ?_
  refine gx_callV (As := [.int v1, .int v2]) (st := []) (k := 0) (n := 2) hY h q_4_48 q_4_50 q_0_4 q_1_1 q_4_51 rfl rfl rfl (by decide +kernel) ⟨Nat.le_of_ble_eq_true rfl, Nat.le_of_ble_eq_true rfl⟩ ⟨Nat.le_of_ble_eq_true rfl, Nat.le_of_ble_eq_true rfl⟩ ⟨Nat.le_of_ble_eq_true rfl, Nat.le_of_ble_eq_true rfl⟩ rfl rfl rfl (by decide) rfl (Nat.le_of_ble_eq_true rfl) dX11_tell_3 (fun v τ hq => ?_)
  obtain ⟨rfl, h⟩ := hq
  obtain ⟨s2, es2⟩ : ∃ z, z = τ := ⟨_, rfl⟩
  rw [← es2] at h ⊢
  clear es2
  refine ga_aload_n hC dX11_tell_6 0 rfl rfl ?_
  refine gC_0_1 hC q_2_127 dX11_tell_7 ?_
  refine ga_iload_n hC dX11_tell_10 1 rfl rfl ?_
  obtain ⟨h4, h⟩ := h
  refine ga_iald hC aC_19 (by decide) h4 dX11_tell_11 ?_
  refine ga_topi (fun x5 ex5 => ?_)
  have h := h x5 ex5
  refine ga_istore_n (lv' := [(3, .int x5), (0, .ref (ad 0)), (1, .int v1), (2, .int v2)]) hC dX11_tell_12 rfl (by decide) rfl ?_
  refine ga_aload_n hC dX11_tell_13 1 rfl rfl ?_
  refine gC_0_1 hC q_2_127 dX11_tell_14 ?_
  refine ga_iload_n hC dX11_tell_17 2 rfl rfl ?_
  refine ga_iload_n hC dX11_tell_18 3 rfl rfl ?_
  obtain ⟨h6, h⟩ := h
  refine ga_iast hC aC_19 (by decide) h6 dX11_tell_19 ?_
  refine ga_sig (σ := cg_i s2 19 v1.toNatClampNeg v2) (fun s7 es7 => ?_)
  have h := h s7 es7
  refine ga_iload_n hC dX11_tell_20 0 rfl rfl ?_
  exact gx_iret hC dX11_tell_21 ⟨Nat.le_of_ble_eq_true rfl, Nat.le_of_ble_eq_true rfl⟩ ⟨_, rfl, h⟩
def M_X11_told (v1 : Int32) (σ : cg_S) (Q : Int32 → cg_S → Prop) (X : String → cg_S → Prop) : Prop := cg_MX cg_WC yX11_told cX11_told 2 (some .int) (cg_RX 2 1) 1 6 (fun ad => [.ref (ad 0), .int v1]) σ (cg_qi Q) X
theorem M_X11_told.mono {v1 : Int32} {σ : cg_S} {Q Q2 : Int32 → cg_S → Prop} {X X2 : String → cg_S → Prop} (h : M_X11_told v1 σ Q X) (hq : ∀ r τ, Q r τ → Q2 r τ) (hx : ∀ E τ, X E τ → X2 E τ) : M_X11_told v1 σ Q2 X2 := cg_MX.mono h (fun ad v τ ⟨r, e, q⟩ => ⟨r, e, hq r τ q⟩) hx
set_option maxRecDepth 100000 in
set_option maxHeartbeats 4000000 in
theorem v_X11_told {v1 : Int32} {σ : cg_S} {Q : Int32 → cg_S → Prop} {X : String → cg_S → Prop}
    (h : M_X11_needState v1 σ (fun s2 => vp_in v1 7 ∧ Q (s2.1 19 v1.toNatClampNeg) s2) X) : M_X11_told v1 σ Q X := by
  refine cg_xentry (lv := fun ad => [(0, .ref (ad 0)), (1, .int v1)]) (by decide +kernel) (fun _ => rfl) (fun _ => Nat.le_of_ble_eq_true rfl) ?_
  intro p l e s m args below meth c D cy ad hY
  have hC := hY.1
  refine ga_aload_n hC dX11_told_0 0 rfl rfl ?_
  refine ga_iload_n hC dX11_told_1 1 rfl rfl ?_
  refine gx_callV (As := [.int v1]) (st := []) (k := 0) (n := 1) hY h q_4_14 q_4_16 q_0_3 q_1_1 q_4_17 rfl rfl rfl (by decide +kernel) ⟨Nat.le_of_ble_eq_true rfl, Nat.le_of_ble_eq_true rfl⟩ ⟨Nat.le_of_ble_eq_true rfl, Nat.le_of_ble_eq_true rfl⟩ ⟨Nat.le_of_ble_eq_true rfl, Nat.le_of_ble_eq_true rfl⟩ rfl rfl rfl (by decide) rfl (Nat.le_of_ble_eq_true rfl) dX11_told_2 (fun v τ hq => ?_)
  obtain ⟨rfl, h⟩ := hq
  obtain ⟨s2, es2⟩ : ∃ z, z = τ := ⟨_, rfl⟩
  rw [← es2] at h ⊢
  clear es2
  refine ga_aload_n hC dX11_told_5 0 rfl rfl ?_
  refine gC_0_1 hC q_2_127 dX11_told_6 ?_
  refine ga_iload_n hC dX11_told_9 1 rfl rfl ?_
  obtain ⟨h4, h⟩ := h
  refine ga_iald hC aC_19 (by decide) h4 dX11_told_10 ?_
  exact gx_iret hC dX11_told_11 ⟨Nat.le_of_ble_eq_true rfl, Nat.le_of_ble_eq_true rfl⟩ ⟨_, rfl, h⟩
def M_X11_chainAbove (v1 : Int32) (v2 : Int32) (σ : cg_S) (Q : Int64 → cg_S → Prop) (X : String → cg_S → Prop) : Prop := cg_MX cg_WC yX11_chainAbove cX11_chainAbove 3 (some .long) (cg_RX 6 3) 3 18 (fun ad => [.ref (ad 0), .int v1, .int v2]) σ (cg_ql Q) X
theorem M_X11_chainAbove.mono {v1 : Int32} {v2 : Int32} {σ : cg_S} {Q Q2 : Int64 → cg_S → Prop} {X X2 : String → cg_S → Prop} (h : M_X11_chainAbove v1 v2 σ Q X) (hq : ∀ r τ, Q r τ → Q2 r τ) (hx : ∀ E τ, X E τ → X2 E τ) : M_X11_chainAbove v1 v2 σ Q2 X2 := cg_MX.mono h (fun ad v τ ⟨r, e, q⟩ => ⟨r, e, hq r τ q⟩) hx
set_option maxRecDepth 100000 in
set_option maxHeartbeats 4000000 in
theorem v_X11_chainAbove {v1 : Int32} {v2 : Int32} {σ : cg_S} {Q : Int64 → cg_S → Prop} {X : String → cg_S → Prop}
    (h : M_X11_followChain v1 v2 σ (fun s2 => M_X0_toldAbove v2 s2 (fun r4 s5 => Q r4 s5)) X) : M_X11_chainAbove v1 v2 σ Q X := by
  refine cg_xentry (lv := fun ad => [(0, .ref (ad 0)), (1, .int v1), (2, .int v2)]) (by decide +kernel) (fun _ => rfl) (fun _ => Nat.le_of_ble_eq_true rfl) ?_
  intro p l e s m args below meth c D cy ad hY
  have hC := hY.1
  refine ga_aload_n hC dX11_chainAbove_0 0 rfl rfl ?_
  refine ga_iload_n hC dX11_chainAbove_1 1 rfl rfl ?_
  refine ga_iload_n hC dX11_chainAbove_2 2 rfl rfl ?_
  refine gx_callV (As := [.int v1, .int v2]) (st := []) (k := 0) (n := 2) hY h q_4_213 q_4_215 q_0_9 q_1_1 q_4_216 rfl rfl rfl (by decide +kernel) ⟨Nat.le_of_ble_eq_true rfl, Nat.le_of_ble_eq_true rfl⟩ ⟨Nat.le_of_ble_eq_true rfl, Nat.le_of_ble_eq_true rfl⟩ ⟨Nat.le_of_ble_eq_true rfl, Nat.le_of_ble_eq_true rfl⟩ rfl rfl rfl (by decide) rfl (Nat.le_of_ble_eq_true rfl) dX11_chainAbove_3 (fun v τ hq => ?_)
  obtain ⟨rfl, h⟩ := hq
  obtain ⟨s2, es2⟩ : ∃ z, z = τ := ⟨_, rfl⟩
  rw [← es2] at h ⊢
  clear es2
  refine ga_aload_n hC dX11_chainAbove_6 0 rfl rfl ?_
  refine gC_0_3 hC q_2_129 dX11_chainAbove_7 ?_
  refine ga_iload_n hC dX11_chainAbove_10 2 rfl rfl ?_
  refine ga_callV (As := [.int v2]) (st := []) (k := 3) (n := 1) hC h q_4_163 q_4_164 q_4_165 q_1_4 q_4_166 rfl rfl rfl (by decide +kernel) ⟨Nat.le_of_ble_eq_true rfl, Nat.le_of_ble_eq_true rfl⟩ ⟨Nat.le_of_ble_eq_true rfl, Nat.le_of_ble_eq_true rfl⟩ rfl rfl rfl (by decide) rfl (Nat.le_of_ble_eq_true rfl) dX11_chainAbove_11 (fun v τ hq => ?_)
  obtain ⟨r4, rfl, h⟩ := hq
  obtain ⟨s5, es5⟩ : ∃ z, z = τ := ⟨_, rfl⟩
  rw [← es5] at h ⊢
  clear es5
  exact gx_lret hC dX11_chainAbove_14 ⟨Nat.le_of_ble_eq_true rfl, Nat.le_of_ble_eq_true rfl⟩ ⟨_, rfl, h⟩
def M_X11_chainBelow (v1 : Int32) (v2 : Int32) (σ : cg_S) (Q : Int64 → cg_S → Prop) (X : String → cg_S → Prop) : Prop := cg_MX cg_WC yX11_chainBelow cX11_chainBelow 3 (some .long) (cg_RX 6 3) 3 18 (fun ad => [.ref (ad 0), .int v1, .int v2]) σ (cg_ql Q) X
theorem M_X11_chainBelow.mono {v1 : Int32} {v2 : Int32} {σ : cg_S} {Q Q2 : Int64 → cg_S → Prop} {X X2 : String → cg_S → Prop} (h : M_X11_chainBelow v1 v2 σ Q X) (hq : ∀ r τ, Q r τ → Q2 r τ) (hx : ∀ E τ, X E τ → X2 E τ) : M_X11_chainBelow v1 v2 σ Q2 X2 := cg_MX.mono h (fun ad v τ ⟨r, e, q⟩ => ⟨r, e, hq r τ q⟩) hx
set_option maxRecDepth 100000 in
set_option maxHeartbeats 4000000 in
theorem v_X11_chainBelow {v1 : Int32} {v2 : Int32} {σ : cg_S} {Q : Int64 → cg_S → Prop} {X : String → cg_S → Prop}
    (h : M_X11_followChain v1 v2 σ (fun s2 => M_X0_toldBelow v2 s2 (fun r4 s5 => Q r4 s5)) X) : M_X11_chainBelow v1 v2 σ Q X := by
  refine cg_xentry (lv := fun ad => [(0, .ref (ad 0)), (1, .int v1), (2, .int v2)]) (by decide +kernel) (fun _ => rfl) (fun _ => Nat.le_of_ble_eq_true rfl) ?_
  intro p l e s m args below meth c D cy ad hY
  have hC := hY.1
  refine ga_aload_n hC dX11_chainBelow_0 0 rfl rfl ?_
  refine ga_iload_n hC dX11_chainBelow_1 1 rfl rfl ?_
  refine ga_iload_n hC dX11_chainBelow_2 2 rfl rfl ?_
  refine gx_callV (As := [.int v1, .int v2]) (st := []) (k := 0) (n := 2) hY h q_4_213 q_4_215 q_0_9 q_1_1 q_4_216 rfl rfl rfl (by decide +kernel) ⟨Nat.le_of_ble_eq_true rfl, Nat.le_of_ble_eq_true rfl⟩ ⟨Nat.le_of_ble_eq_true rfl, Nat.le_of_ble_eq_true rfl⟩ ⟨Nat.le_of_ble_eq_true rfl, Nat.le_of_ble_eq_true rfl⟩ rfl rfl rfl (by decide) rfl (Nat.le_of_ble_eq_true rfl) dX11_chainBelow_3 (fun v τ hq => ?_)
  obtain ⟨rfl, h⟩ := hq
  obtain ⟨s2, es2⟩ : ∃ z, z = τ := ⟨_, rfl⟩
  rw [← es2] at h ⊢
  clear es2
  refine ga_aload_n hC dX11_chainBelow_6 0 rfl rfl ?_
  refine gC_0_3 hC q_2_129 dX11_chainBelow_7 ?_
  refine ga_iload_n hC dX11_chainBelow_10 2 rfl rfl ?_
  refine ga_callV (As := [.int v2]) (st := []) (k := 3) (n := 1) hC h q_4_183 q_4_184 q_4_185 q_1_4 q_4_186 rfl rfl rfl (by decide +kernel) ⟨Nat.le_of_ble_eq_true rfl, Nat.le_of_ble_eq_true rfl⟩ ⟨Nat.le_of_ble_eq_true rfl, Nat.le_of_ble_eq_true rfl⟩ rfl rfl rfl (by decide) rfl (Nat.le_of_ble_eq_true rfl) dX11_chainBelow_11 (fun v τ hq => ?_)
  obtain ⟨r4, rfl, h⟩ := hq
  obtain ⟨s5, es5⟩ : ∃ z, z = τ := ⟨_, rfl⟩
  rw [← es5] at h ⊢
  clear es5
  exact gx_lret hC dX11_chainBelow_14 ⟨Nat.le_of_ble_eq_true rfl, Nat.le_of_ble_eq_true rfl⟩ ⟨_, rfl, h⟩
def M_X11_responseAbove (v1 : Int32) (v2 : Int32) (v3 : Int32) (σ : cg_S) (Q : Int64 → cg_S → Prop) (X : String → cg_S → Prop) : Prop := cg_MX cg_WC yX11_responseAbove cX11_responseAbove 4 (some .long) (cg_RX 6 4) 4 24 (fun ad => [.ref (ad 0), .int v1, .int v2, .int v3]) σ (cg_ql Q) X
theorem M_X11_responseAbove.mono {v1 : Int32} {v2 : Int32} {v3 : Int32} {σ : cg_S} {Q Q2 : Int64 → cg_S → Prop} {X X2 : String → cg_S → Prop} (h : M_X11_responseAbove v1 v2 v3 σ Q X) (hq : ∀ r τ, Q r τ → Q2 r τ) (hx : ∀ E τ, X E τ → X2 E τ) : M_X11_responseAbove v1 v2 v3 σ Q2 X2 := cg_MX.mono h (fun ad v τ ⟨r, e, q⟩ => ⟨r, e, hq r τ q⟩) hx
set_option maxRecDepth 100000 in
set_option maxHeartbeats 4000000 in
theorem v_X11_responseAbove {v1 : Int32} {v2 : Int32} {v3 : Int32} {σ : cg_S} {Q : Int64 → cg_S → Prop} {X : String → cg_S → Prop}
    (h : M_X11_findResponse v1 v2 v3 σ (fun s2 => M_X0_toldAbove v3 s2 (fun r4 s5 => Q r4 s5)) X) : M_X11_responseAbove v1 v2 v3 σ Q X := by
  refine cg_xentry (lv := fun ad => [(0, .ref (ad 0)), (1, .int v1), (2, .int v2), (3, .int v3)]) (by decide +kernel) (fun _ => rfl) (fun _ => Nat.le_of_ble_eq_true rfl) ?_
  intro p l e s m args below meth c D cy ad hY
  have hC := hY.1
  refine ga_aload_n hC dX11_responseAbove_0 0 rfl rfl ?_
  refine ga_iload_n hC dX11_responseAbove_1 1 rfl rfl ?_
  refine ga_iload_n hC dX11_responseAbove_2 2 rfl rfl ?_
  refine ga_iload_n hC dX11_responseAbove_3 3 rfl rfl ?_
  refine gx_callV (As := [.int v1, .int v2, .int v3]) (st := []) (k := 0) (n := 3) hY h q_5_71 q_5_73 q_0_10 q_1_1 q_5_74 rfl rfl rfl (by decide +kernel) ⟨Nat.le_of_ble_eq_true rfl, Nat.le_of_ble_eq_true rfl⟩ ⟨Nat.le_of_ble_eq_true rfl, Nat.le_of_ble_eq_true rfl⟩ ⟨Nat.le_of_ble_eq_true rfl, Nat.le_of_ble_eq_true rfl⟩ rfl rfl rfl (by decide) rfl (Nat.le_of_ble_eq_true rfl) dX11_responseAbove_4 (fun v τ hq => ?_)
  obtain ⟨rfl, h⟩ := hq
  obtain ⟨s2, es2⟩ : ∃ z, z = τ := ⟨_, rfl⟩
  rw [← es2] at h ⊢
  clear es2
  refine ga_aload_n hC dX11_responseAbove_7 0 rfl rfl ?_
  refine gC_0_3 hC q_2_129 dX11_responseAbove_8 ?_
  refine ga_iload_n hC dX11_responseAbove_11 3 rfl rfl ?_
  refine ga_callV (As := [.int v3]) (st := []) (k := 3) (n := 1) hC h q_4_163 q_4_164 q_4_165 q_1_4 q_4_166 rfl rfl rfl (by decide +kernel) ⟨Nat.le_of_ble_eq_true rfl, Nat.le_of_ble_eq_true rfl⟩ ⟨Nat.le_of_ble_eq_true rfl, Nat.le_of_ble_eq_true rfl⟩ rfl rfl rfl (by decide) rfl (Nat.le_of_ble_eq_true rfl) dX11_responseAbove_12 (fun v τ hq => ?_)
  obtain ⟨r4, rfl, h⟩ := hq
  obtain ⟨s5, es5⟩ : ∃ z, z = τ := ⟨_, rfl⟩
  rw [← es5] at h ⊢
  clear es5
  exact gx_lret hC dX11_responseAbove_15 ⟨Nat.le_of_ble_eq_true rfl, Nat.le_of_ble_eq_true rfl⟩ ⟨_, rfl, h⟩
def M_X11_responseBelow (v1 : Int32) (v2 : Int32) (v3 : Int32) (σ : cg_S) (Q : Int64 → cg_S → Prop) (X : String → cg_S → Prop) : Prop := cg_MX cg_WC yX11_responseBelow cX11_responseBelow 4 (some .long) (cg_RX 6 4) 4 24 (fun ad => [.ref (ad 0), .int v1, .int v2, .int v3]) σ (cg_ql Q) X
theorem M_X11_responseBelow.mono {v1 : Int32} {v2 : Int32} {v3 : Int32} {σ : cg_S} {Q Q2 : Int64 → cg_S → Prop} {X X2 : String → cg_S → Prop} (h : M_X11_responseBelow v1 v2 v3 σ Q X) (hq : ∀ r τ, Q r τ → Q2 r τ) (hx : ∀ E τ, X E τ → X2 E τ) : M_X11_responseBelow v1 v2 v3 σ Q2 X2 := cg_MX.mono h (fun ad v τ ⟨r, e, q⟩ => ⟨r, e, hq r τ q⟩) hx
set_option maxRecDepth 100000 in
set_option maxHeartbeats 4000000 in
theorem v_X11_responseBelow {v1 : Int32} {v2 : Int32} {v3 : Int32} {σ : cg_S} {Q : Int64 → cg_S → Prop} {X : String → cg_S → Prop}
    (h : M_X11_findResponse v1 v2 v3 σ (fun s2 => M_X0_toldBelow v3 s2 (fun r4 s5 => Q r4 s5)) X) : M_X11_responseBelow v1 v2 v3 σ Q X := by
  refine cg_xentry (lv := fun ad => [(0, .ref (ad 0)), (1, .int v1), (2, .int v2), (3, .int v3)]) (by decide +kernel) (fun _ => rfl) (fun _ => Nat.le_of_ble_eq_true rfl) ?_
  intro p l e s m args below meth c D cy ad hY
  have hC := hY.1
  refine ga_aload_n hC dX11_responseBelow_0 0 rfl rfl ?_
  refine ga_iload_n hC dX11_responseBelow_1 1 rfl rfl ?_
  refine ga_iload_n hC dX11_responseBelow_2 2 rfl rfl ?_
  refine ga_iload_n hC dX11_responseBelow_3 3 rfl rfl ?_
  refine gx_callV (As := [.int v1, .int v2, .int v3]) (st := []) (k := 0) (n := 3) hY h q_5_71 q_5_73 q_0_10 q_1_1 q_5_74 rfl rfl rfl (by decide +kernel) ⟨Nat.le_of_ble_eq_true rfl, Nat.le_of_ble_eq_true rfl⟩ ⟨Nat.le_of_ble_eq_true rfl, Nat.le_of_ble_eq_true rfl⟩ ⟨Nat.le_of_ble_eq_true rfl, Nat.le_of_ble_eq_true rfl⟩ rfl rfl rfl (by decide) rfl (Nat.le_of_ble_eq_true rfl) dX11_responseBelow_4 (fun v τ hq => ?_)
  obtain ⟨rfl, h⟩ := hq
  obtain ⟨s2, es2⟩ : ∃ z, z = τ := ⟨_, rfl⟩
  rw [← es2] at h ⊢
  clear es2
  refine ga_aload_n hC dX11_responseBelow_7 0 rfl rfl ?_
  refine gC_0_3 hC q_2_129 dX11_responseBelow_8 ?_
  refine ga_iload_n hC dX11_responseBelow_11 3 rfl rfl ?_
  refine ga_callV (As := [.int v3]) (st := []) (k := 3) (n := 1) hC h q_4_183 q_4_184 q_4_185 q_1_4 q_4_186 rfl rfl rfl (by decide +kernel) ⟨Nat.le_of_ble_eq_true rfl, Nat.le_of_ble_eq_true rfl⟩ ⟨Nat.le_of_ble_eq_true rfl, Nat.le_of_ble_eq_true rfl⟩ rfl rfl rfl (by decide) rfl (Nat.le_of_ble_eq_true rfl) dX11_responseBelow_12 (fun v τ hq => ?_)
  obtain ⟨r4, rfl, h⟩ := hq
  obtain ⟨s5, es5⟩ : ∃ z, z = τ := ⟨_, rfl⟩
  rw [← es5] at h ⊢
  clear es5
  exact gx_lret hC dX11_responseBelow_15 ⟨Nat.le_of_ble_eq_true rfl, Nat.le_of_ble_eq_true rfl⟩ ⟨_, rfl, h⟩
def M_X11_closedOf (v1 : Int32) (σ : cg_S) (Q : Int32 → cg_S → Prop) (X : String → cg_S → Prop) : Prop := cg_MX cg_WC yX11_closedOf cX11_closedOf 2 (some .int) (cg_RX 4 3) 3 18 (fun ad => [.ref (ad 0), .int v1]) σ (cg_qi Q) X
theorem M_X11_closedOf.mono {v1 : Int32} {σ : cg_S} {Q Q2 : Int32 → cg_S → Prop} {X X2 : String → cg_S → Prop} (h : M_X11_closedOf v1 σ Q X) (hq : ∀ r τ, Q r τ → Q2 r τ) (hx : ∀ E τ, X E τ → X2 E τ) : M_X11_closedOf v1 σ Q2 X2 := cg_MX.mono h (fun ad v τ ⟨r, e, q⟩ => ⟨r, e, hq r τ q⟩) hx
set_option maxRecDepth 100000 in
set_option maxHeartbeats 4000000 in
theorem v_X11_closedOf {v1 : Int32} {σ : cg_S} {Q : Int32 → cg_S → Prop} {X : String → cg_S → Prop}
    (h : M_X11_needWholeFor v1 σ (fun s2 => M_X3_follow 19 s2 (fun s5 => M_X3_closedSet v1 s5 (fun r7 s8 => M_X11_lowestOf r7 s8 (fun r10 s11 => Q r10 s11) X))) X) : M_X11_closedOf v1 σ Q X := by
  refine cg_xentry (lv := fun ad => [(0, .ref (ad 0)), (1, .int v1)]) (by decide +kernel) (fun _ => rfl) (fun _ => Nat.le_of_ble_eq_true rfl) ?_
  intro p l e s m args below meth c D cy ad hY
  have hC := hY.1
  refine ga_aload_n hC dX11_closedOf_0 0 rfl rfl ?_
  refine ga_iload_n hC dX11_closedOf_1 1 rfl rfl ?_
  refine gx_callV (As := [.int v1]) (st := []) (k := 0) (n := 1) hY h q_4_159 q_4_161 q_0_8 q_1_1 q_4_162 rfl rfl rfl (by decide +kernel) ⟨Nat.le_of_ble_eq_true rfl, Nat.le_of_ble_eq_true rfl⟩ ⟨Nat.le_of_ble_eq_true rfl, Nat.le_of_ble_eq_true rfl⟩ ⟨Nat.le_of_ble_eq_true rfl, Nat.le_of_ble_eq_true rfl⟩ rfl rfl rfl (by decide) rfl (Nat.le_of_ble_eq_true rfl) dX11_closedOf_2 (fun v τ hq => ?_)
  obtain ⟨rfl, h⟩ := hq
  obtain ⟨s2, es2⟩ : ∃ z, z = τ := ⟨_, rfl⟩
  rw [← es2] at h ⊢
  clear es2
  refine ga_aload_n hC dX11_closedOf_5 0 rfl rfl ?_
  refine gC_0_2 hC q_2_128 dX11_closedOf_6 ?_
  refine ga_aload_n hC dX11_closedOf_9 0 rfl rfl ?_
  refine gC_0_1 hC q_2_127 dX11_closedOf_10 ?_
  refine ga_callV (As := [.ref (ad 19)]) (st := []) (k := 2) (n := 1) hC h q_5_210 q_4_226 q_4_227 q_1_3 q_4_228 rfl rfl rfl (by decide +kernel) ⟨Nat.le_of_ble_eq_true rfl, Nat.le_of_ble_eq_true rfl⟩ ⟨Nat.le_of_ble_eq_true rfl, Nat.le_of_ble_eq_true rfl⟩ rfl rfl rfl (by decide) rfl (Nat.le_of_ble_eq_true rfl) dX11_closedOf_13 (fun v τ hq => ?_)
  obtain ⟨rfl, h⟩ := hq
  obtain ⟨s5, es5⟩ : ∃ z, z = τ := ⟨_, rfl⟩
  rw [← es5] at h ⊢
  clear es5
  refine ga_aload_n hC dX11_closedOf_16 0 rfl rfl ?_
  refine gC_0_2 hC q_2_128 dX11_closedOf_17 ?_
  refine ga_iload_n hC dX11_closedOf_20 1 rfl rfl ?_
  refine ga_callV (As := [.int v1]) (st := []) (k := 2) (n := 1) hC h q_5_211 q_4_234 q_4_235 q_1_3 q_4_236 rfl rfl rfl (by decide +kernel) ⟨Nat.le_of_ble_eq_true rfl, Nat.le_of_ble_eq_true rfl⟩ ⟨Nat.le_of_ble_eq_true rfl, Nat.le_of_ble_eq_true rfl⟩ rfl rfl rfl (by decide) rfl (Nat.le_of_ble_eq_true rfl) dX11_closedOf_21 (fun v τ hq => ?_)
  obtain ⟨r7, rfl, h⟩ := hq
  obtain ⟨s8, es8⟩ : ∃ z, z = τ := ⟨_, rfl⟩
  rw [← es8] at h ⊢
  clear es8
  refine gx_callS (As := [.int r7]) (st := []) (n := 1) hY h q_5_212 q_5_213 q_1_1 q_5_214 rfl rfl rfl (by decide +kernel) ⟨Nat.le_of_ble_eq_true rfl, Nat.le_of_ble_eq_true rfl⟩ ⟨Nat.le_of_ble_eq_true rfl, Nat.le_of_ble_eq_true rfl⟩ ⟨Nat.le_of_ble_eq_true rfl, Nat.le_of_ble_eq_true rfl⟩ rfl rfl (Nat.le_of_ble_eq_true rfl) dX11_closedOf_24 (fun v τ hq => ?_)
  obtain ⟨r10, rfl, h⟩ := hq
  obtain ⟨s11, es11⟩ : ∃ z, z = τ := ⟨_, rfl⟩
  rw [← es11] at h ⊢
  clear es11
  exact gx_iret hC dX11_closedOf_27 ⟨Nat.le_of_ble_eq_true rfl, Nat.le_of_ble_eq_true rfl⟩ ⟨_, rfl, h⟩
def M_X11_endOf (v1 : Int32) (σ : cg_S) (Q : Int32 → cg_S → Prop) (X : String → cg_S → Prop) : Prop := cg_MX cg_WC yX11_endOf cX11_endOf 2 (some .int) (cg_RX 4 3) 3 18 (fun ad => [.ref (ad 0), .int v1]) σ (cg_qi Q) X
theorem M_X11_endOf.mono {v1 : Int32} {σ : cg_S} {Q Q2 : Int32 → cg_S → Prop} {X X2 : String → cg_S → Prop} (h : M_X11_endOf v1 σ Q X) (hq : ∀ r τ, Q r τ → Q2 r τ) (hx : ∀ E τ, X E τ → X2 E τ) : M_X11_endOf v1 σ Q2 X2 := cg_MX.mono h (fun ad v τ ⟨r, e, q⟩ => ⟨r, e, hq r τ q⟩) hx
set_option maxRecDepth 100000 in
set_option maxHeartbeats 4000000 in
theorem v_X11_endOf {v1 : Int32} {σ : cg_S} {Q : Int32 → cg_S → Prop} {X : String → cg_S → Prop}
    (h : M_X11_needWholeFor v1 σ (fun s2 => M_X3_endSet v1 s2 (fun r4 s5 => M_X11_lowestOf r4 s5 (fun r7 s8 => Q r7 s8) X)) X) : M_X11_endOf v1 σ Q X := by
  refine cg_xentry (lv := fun ad => [(0, .ref (ad 0)), (1, .int v1)]) (by decide +kernel) (fun _ => rfl) (fun _ => Nat.le_of_ble_eq_true rfl) ?_
  intro p l e s m args below meth c D cy ad hY
  have hC := hY.1
  refine ga_aload_n hC dX11_endOf_0 0 rfl rfl ?_
  refine ga_iload_n hC dX11_endOf_1 1 rfl rfl ?_
  refine gx_callV (As := [.int v1]) (st := []) (k := 0) (n := 1) hY h q_4_159 q_4_161 q_0_8 q_1_1 q_4_162 rfl rfl rfl (by decide +kernel) ⟨Nat.le_of_ble_eq_true rfl, Nat.le_of_ble_eq_true rfl⟩ ⟨Nat.le_of_ble_eq_true rfl, Nat.le_of_ble_eq_true rfl⟩ ⟨Nat.le_of_ble_eq_true rfl, Nat.le_of_ble_eq_true rfl⟩ rfl rfl rfl (by decide) rfl (Nat.le_of_ble_eq_true rfl) dX11_endOf_2 (fun v τ hq => ?_)
  obtain ⟨rfl, h⟩ := hq
  obtain ⟨s2, es2⟩ : ∃ z, z = τ := ⟨_, rfl⟩
  rw [← es2] at h ⊢
  clear es2
  refine ga_aload_n hC dX11_endOf_5 0 rfl rfl ?_
  refine gC_0_2 hC q_2_128 dX11_endOf_6 ?_
  refine ga_iload_n hC dX11_endOf_9 1 rfl rfl ?_
  refine ga_callV (As := [.int v1]) (st := []) (k := 2) (n := 1) hC h q_5_239 q_6_0 q_6_1 q_1_3 q_6_2 rfl rfl rfl (by decide +kernel) ⟨Nat.le_of_ble_eq_true rfl, Nat.le_of_ble_eq_true rfl⟩ ⟨Nat.le_of_ble_eq_true rfl, Nat.le_of_ble_eq_true rfl⟩ rfl rfl rfl (by decide) rfl (Nat.le_of_ble_eq_true rfl) dX11_endOf_10 (fun v τ hq => ?_)
  obtain ⟨r4, rfl, h⟩ := hq
  obtain ⟨s5, es5⟩ : ∃ z, z = τ := ⟨_, rfl⟩
  rw [← es5] at h ⊢
  clear es5
  refine gx_callS (As := [.int r4]) (st := []) (n := 1) hY h q_5_212 q_5_213 q_1_1 q_5_214 rfl rfl rfl (by decide +kernel) ⟨Nat.le_of_ble_eq_true rfl, Nat.le_of_ble_eq_true rfl⟩ ⟨Nat.le_of_ble_eq_true rfl, Nat.le_of_ble_eq_true rfl⟩ ⟨Nat.le_of_ble_eq_true rfl, Nat.le_of_ble_eq_true rfl⟩ rfl rfl (Nat.le_of_ble_eq_true rfl) dX11_endOf_13 (fun v τ hq => ?_)
  obtain ⟨r7, rfl, h⟩ := hq
  obtain ⟨s8, es8⟩ : ∃ z, z = τ := ⟨_, rfl⟩
  rw [← es8] at h ⊢
  clear es8
  exact gx_iret hC dX11_endOf_16 ⟨Nat.le_of_ble_eq_true rfl, Nat.le_of_ble_eq_true rfl⟩ ⟨_, rfl, h⟩
def M_X11_classOf (v1 : Int32) (σ : cg_S) (Q : Int32 → cg_S → Prop) (X : String → cg_S → Prop) : Prop := cg_MX cg_WC yX11_classOf cX11_classOf 2 (some .int) (cg_RX 6 2) 2 12 (fun ad => [.ref (ad 0), .int v1]) σ (cg_qi Q) X
theorem M_X11_classOf.mono {v1 : Int32} {σ : cg_S} {Q Q2 : Int32 → cg_S → Prop} {X X2 : String → cg_S → Prop} (h : M_X11_classOf v1 σ Q X) (hq : ∀ r τ, Q r τ → Q2 r τ) (hx : ∀ E τ, X E τ → X2 E τ) : M_X11_classOf v1 σ Q2 X2 := cg_MX.mono h (fun ad v τ ⟨r, e, q⟩ => ⟨r, e, hq r τ q⟩) hx
set_option maxRecDepth 100000 in
set_option maxHeartbeats 4000000 in
theorem v_X11_classOf {v1 : Int32} {σ : cg_S} {Q : Int32 → cg_S → Prop} {X : String → cg_S → Prop}
    (h : M_X11_needWholeFor v1 σ (fun s2 => M_X5_sort s2 (fun s5 => vp_in v1 7 ∧ Q (s5.1 33 v1.toNatClampNeg) s5)) X) : M_X11_classOf v1 σ Q X := by
  refine cg_xentry (lv := fun ad => [(0, .ref (ad 0)), (1, .int v1)]) (by decide +kernel) (fun _ => rfl) (fun _ => Nat.le_of_ble_eq_true rfl) ?_
  intro p l e s m args below meth c D cy ad hY
  have hC := hY.1
  refine ga_aload_n hC dX11_classOf_0 0 rfl rfl ?_
  refine ga_iload_n hC dX11_classOf_1 1 rfl rfl ?_
  refine gx_callV (As := [.int v1]) (st := []) (k := 0) (n := 1) hY h q_4_159 q_4_161 q_0_8 q_1_1 q_4_162 rfl rfl rfl (by decide +kernel) ⟨Nat.le_of_ble_eq_true rfl, Nat.le_of_ble_eq_true rfl⟩ ⟨Nat.le_of_ble_eq_true rfl, Nat.le_of_ble_eq_true rfl⟩ ⟨Nat.le_of_ble_eq_true rfl, Nat.le_of_ble_eq_true rfl⟩ rfl rfl rfl (by decide) rfl (Nat.le_of_ble_eq_true rfl) dX11_classOf_2 (fun v τ hq => ?_)
  obtain ⟨rfl, h⟩ := hq
  obtain ⟨s2, es2⟩ : ∃ z, z = τ := ⟨_, rfl⟩
  rw [← es2] at h ⊢
  clear es2
  refine ga_aload_n hC dX11_classOf_5 0 rfl rfl ?_
  refine gC_0_8 hC q_2_134 dX11_classOf_6 ?_
  refine ga_callV (As := []) (st := []) (k := 9) (n := 0) hC h q_2_175 q_2_176 q_2_177 q_1_11 q_2_178 rfl rfl rfl (by decide +kernel) ⟨Nat.le_of_ble_eq_true rfl, Nat.le_of_ble_eq_true rfl⟩ ⟨Nat.le_of_ble_eq_true rfl, Nat.le_of_ble_eq_true rfl⟩ rfl rfl rfl (by decide) rfl (Nat.le_of_ble_eq_true rfl) dX11_classOf_9 (fun v τ hq => ?_)
  obtain ⟨rfl, h⟩ := hq
  obtain ⟨s5, es5⟩ : ∃ z, z = τ := ⟨_, rfl⟩
  rw [← es5] at h ⊢
  clear es5
  refine ga_aload_n hC dX11_classOf_12 0 rfl rfl ?_
  refine gC_0_8 hC q_2_134 dX11_classOf_13 ?_
  refine gC_9_1 hC q_2_95 dX11_classOf_16 ?_
  refine ga_iload_n hC dX11_classOf_19 1 rfl rfl ?_
  obtain ⟨h7, h⟩ := h
  refine ga_iald hC aC_33 (by decide) h7 dX11_classOf_20 ?_
  exact gx_iret hC dX11_classOf_21 ⟨Nat.le_of_ble_eq_true rfl, Nat.le_of_ble_eq_true rfl⟩ ⟨_, rfl, h⟩
def M_X11_classes (σ : cg_S) (Q : Int32 → cg_S → Prop) (X : String → cg_S → Prop) : Prop := cg_MX cg_WC yX11_classes cX11_classes 1 (some .int) (cg_RX 6 1) 1 6 (fun ad => [.ref (ad 0)]) σ (cg_qi Q) X
theorem M_X11_classes.mono {σ : cg_S} {Q Q2 : Int32 → cg_S → Prop} {X X2 : String → cg_S → Prop} (h : M_X11_classes σ Q X) (hq : ∀ r τ, Q r τ → Q2 r τ) (hx : ∀ E τ, X E τ → X2 E τ) : M_X11_classes σ Q2 X2 := cg_MX.mono h (fun ad v τ ⟨r, e, q⟩ => ⟨r, e, hq r τ q⟩) hx
set_option maxRecDepth 100000 in
set_option maxHeartbeats 4000000 in
theorem v_X11_classes {σ : cg_S} {Q : Int32 → cg_S → Prop} {X : String → cg_S → Prop}
    (h : M_X11_needWhole σ (fun s2 => M_X5_sort s2 (fun s5 => M_X5_howMany s5 (fun r7 s8 => Q r7 s8))) X) : M_X11_classes σ Q X := by
  refine cg_xentry (lv := fun ad => [(0, .ref (ad 0))]) (by decide +kernel) (fun _ => rfl) (fun _ => Nat.le_of_ble_eq_true rfl) ?_
  intro p l e s m args below meth c D cy ad hY
  have hC := hY.1
  refine ga_aload_n hC dX11_classes_0 0 rfl rfl ?_
  refine gx_callV (As := []) (st := []) (k := 0) (n := 0) hY h q_4_95 q_4_97 q_0_5 q_1_1 q_4_98 rfl rfl rfl (by decide +kernel) ⟨Nat.le_of_ble_eq_true rfl, Nat.le_of_ble_eq_true rfl⟩ ⟨Nat.le_of_ble_eq_true rfl, Nat.le_of_ble_eq_true rfl⟩ ⟨Nat.le_of_ble_eq_true rfl, Nat.le_of_ble_eq_true rfl⟩ rfl rfl rfl (by decide) rfl (Nat.le_of_ble_eq_true rfl) dX11_classes_1 (fun v τ hq => ?_)
  obtain ⟨rfl, h⟩ := hq
  obtain ⟨s2, es2⟩ : ∃ z, z = τ := ⟨_, rfl⟩
  rw [← es2] at h ⊢
  clear es2
  refine ga_aload_n hC dX11_classes_4 0 rfl rfl ?_
  refine gC_0_8 hC q_2_134 dX11_classes_5 ?_
  refine ga_callV (As := []) (st := []) (k := 9) (n := 0) hC h q_2_175 q_2_176 q_2_177 q_1_11 q_2_178 rfl rfl rfl (by decide +kernel) ⟨Nat.le_of_ble_eq_true rfl, Nat.le_of_ble_eq_true rfl⟩ ⟨Nat.le_of_ble_eq_true rfl, Nat.le_of_ble_eq_true rfl⟩ rfl rfl rfl (by decide) rfl (Nat.le_of_ble_eq_true rfl) dX11_classes_8 (fun v τ hq => ?_)
  obtain ⟨rfl, h⟩ := hq
  obtain ⟨s5, es5⟩ : ∃ z, z = τ := ⟨_, rfl⟩
  rw [← es5] at h ⊢
  clear es5
  refine ga_aload_n hC dX11_classes_11 0 rfl rfl ?_
  refine gC_0_8 hC q_2_134 dX11_classes_12 ?_
  refine ga_callV (As := []) (st := []) (k := 9) (n := 0) hC h q_5_195 q_5_196 q_5_197 q_1_11 q_5_198 rfl rfl rfl (by decide +kernel) ⟨Nat.le_of_ble_eq_true rfl, Nat.le_of_ble_eq_true rfl⟩ ⟨Nat.le_of_ble_eq_true rfl, Nat.le_of_ble_eq_true rfl⟩ rfl rfl rfl (by decide) rfl (Nat.le_of_ble_eq_true rfl) dX11_classes_15 (fun v τ hq => ?_)
  obtain ⟨r7, rfl, h⟩ := hq
  obtain ⟨s8, es8⟩ : ∃ z, z = τ := ⟨_, rfl⟩
  rw [← es8] at h ⊢
  clear es8
  exact gx_iret hC dX11_classes_18 ⟨Nat.le_of_ble_eq_true rfl, Nat.le_of_ble_eq_true rfl⟩ ⟨_, rfl, h⟩
def M_X11_traceLength (v1 : Int32) (σ : cg_S) (Q : Int32 → cg_S → Prop) (X : String → cg_S → Prop) : Prop := cg_MX cg_WC yX11_traceLength cX11_traceLength 2 (some .int) (cg_RX 5 3) 3 18 (fun ad => [.ref (ad 0), .int v1]) σ (cg_qi Q) X
theorem M_X11_traceLength.mono {v1 : Int32} {σ : cg_S} {Q Q2 : Int32 → cg_S → Prop} {X X2 : String → cg_S → Prop} (h : M_X11_traceLength v1 σ Q X) (hq : ∀ r τ, Q r τ → Q2 r τ) (hx : ∀ E τ, X E τ → X2 E τ) : M_X11_traceLength v1 σ Q2 X2 := cg_MX.mono h (fun ad v τ ⟨r, e, q⟩ => ⟨r, e, hq r τ q⟩) hx
set_option maxRecDepth 100000 in
set_option maxHeartbeats 4000000 in
theorem v_X11_traceLength {v1 : Int32} {σ : cg_S} {Q : Int32 → cg_S → Prop} {X : String → cg_S → Prop}
    (h : M_X11_findTrace v1 σ (fun s2 => vp_in v1 7 ∧ Q (s2.1 35 v1.toNatClampNeg) s2) X) : M_X11_traceLength v1 σ Q X := by
  refine cg_xentry (lv := fun ad => [(0, .ref (ad 0)), (1, .int v1)]) (by decide +kernel) (fun _ => rfl) (fun _ => Nat.le_of_ble_eq_true rfl) ?_
  intro p l e s m args below meth c D cy ad hY
  have hC := hY.1
  refine ga_aload_n hC dX11_traceLength_0 0 rfl rfl ?_
  refine ga_iload_n hC dX11_traceLength_1 1 rfl rfl ?_
  refine gx_callV (As := [.int v1]) (st := []) (k := 0) (n := 1) hY h q_6_42 q_6_44 q_0_11 q_1_1 q_6_45 rfl rfl rfl (by decide +kernel) ⟨Nat.le_of_ble_eq_true rfl, Nat.le_of_ble_eq_true rfl⟩ ⟨Nat.le_of_ble_eq_true rfl, Nat.le_of_ble_eq_true rfl⟩ ⟨Nat.le_of_ble_eq_true rfl, Nat.le_of_ble_eq_true rfl⟩ rfl rfl rfl (by decide) rfl (Nat.le_of_ble_eq_true rfl) dX11_traceLength_2 (fun v τ hq => ?_)
  obtain ⟨rfl, h⟩ := hq
  obtain ⟨s2, es2⟩ : ∃ z, z = τ := ⟨_, rfl⟩
  rw [← es2] at h ⊢
  clear es2
  refine ga_aload_n hC dX11_traceLength_5 0 rfl rfl ?_
  refine gC_0_9 hC q_2_135 dX11_traceLength_6 ?_
  refine gC_10_2 hC q_2_116 dX11_traceLength_9 ?_
  refine ga_iload_n hC dX11_traceLength_12 1 rfl rfl ?_
  obtain ⟨h4, h⟩ := h
  refine ga_iald hC aC_35 (by decide) h4 dX11_traceLength_13 ?_
  exact gx_iret hC dX11_traceLength_14 ⟨Nat.le_of_ble_eq_true rfl, Nat.le_of_ble_eq_true rfl⟩ ⟨_, rfl, h⟩
def M_X11_traceAt (v1 : Int32) (v2 : Int32) (σ : cg_S) (Q : Int32 → cg_S → Prop) (X : String → cg_S → Prop) : Prop := cg_MX cg_WC yX11_traceAt cX11_traceAt 3 (some .int) (cg_RX 5 4) 4 24 (fun ad => [.ref (ad 0), .int v1, .int v2]) σ (cg_qi Q) X
theorem M_X11_traceAt.mono {v1 : Int32} {v2 : Int32} {σ : cg_S} {Q Q2 : Int32 → cg_S → Prop} {X X2 : String → cg_S → Prop} (h : M_X11_traceAt v1 v2 σ Q X) (hq : ∀ r τ, Q r τ → Q2 r τ) (hx : ∀ E τ, X E τ → X2 E τ) : M_X11_traceAt v1 v2 σ Q2 X2 := cg_MX.mono h (fun ad v τ ⟨r, e, q⟩ => ⟨r, e, hq r τ q⟩) hx
set_option maxRecDepth 100000 in
set_option maxHeartbeats 4000000 in
theorem v_X11_traceAt {v1 : Int32} {v2 : Int32} {σ : cg_S} {Q : Int32 → cg_S → Prop} {X : String → cg_S → Prop}
    (h : M_X11_findTrace v1 σ (fun s2 => (v2 < 0 → X "java/util/NoSuchElementException" s2) ∧ (¬ v2 < 0 → vp_in v1 7 ∧ (v2 < (s2.1 35 v1.toNatClampNeg) → M_X9_stateAt v1 v2 19 s2 (fun r5 s6 => Q r5 s6)) ∧ (¬ v2 < (s2.1 35 v1.toNatClampNeg) → X "java/util/NoSuchElementException" s2))) X) : M_X11_traceAt v1 v2 σ Q X := by
  refine cg_xentry (lv := fun ad => [(0, .ref (ad 0)), (1, .int v1), (2, .int v2)]) (by decide +kernel) (fun _ => rfl) (fun _ => Nat.le_of_ble_eq_true rfl) ?_
  intro p l e s m args below meth c D cy ad hY
  have hC := hY.1
  refine ga_aload_n hC dX11_traceAt_0 0 rfl rfl ?_
  refine ga_iload_n hC dX11_traceAt_1 1 rfl rfl ?_
  refine gx_callV (As := [.int v1]) (st := []) (k := 0) (n := 1) hY h q_6_42 q_6_44 q_0_11 q_1_1 q_6_45 rfl rfl rfl (by decide +kernel) ⟨Nat.le_of_ble_eq_true rfl, Nat.le_of_ble_eq_true rfl⟩ ⟨Nat.le_of_ble_eq_true rfl, Nat.le_of_ble_eq_true rfl⟩ ⟨Nat.le_of_ble_eq_true rfl, Nat.le_of_ble_eq_true rfl⟩ rfl rfl rfl (by decide) rfl (Nat.le_of_ble_eq_true rfl) dX11_traceAt_2 (fun v τ hq => ?_)
  obtain ⟨rfl, h⟩ := hq
  obtain ⟨s2, es2⟩ : ∃ z, z = τ := ⟨_, rfl⟩
  rw [← es2] at h ⊢
  clear es2
  refine ga_iload_n hC dX11_traceAt_5 2 rfl rfl ?_
  refine ga_if_lt (tgt := 22) hC dX11_traceAt_6 (by decide) (fun hc => ?_) (fun hc => ?_)
  · have h := h.1 hc
    exact gx_throwNW hY (is := 288) (text := _) (List.mem_of_getElem? (i := 10) rfl) dX11_traceAt_22 dX11_traceAt_25 dX11_traceAt_26 dX11_traceAt_29 dX11_traceAt_32 (Nat.le_of_ble_eq_true rfl) (Nat.le_of_ble_eq_true rfl) ⟨Nat.le_of_ble_eq_true rfl, Nat.le_of_ble_eq_true rfl⟩ ⟨Nat.le_of_ble_eq_true rfl, Nat.le_of_ble_eq_true rfl⟩ h
  · have h := h.2 hc
    refine ga_iload_n hC dX11_traceAt_9 2 rfl rfl ?_
    refine ga_aload_n hC dX11_traceAt_10 0 rfl rfl ?_
    refine gC_0_9 hC q_2_135 dX11_traceAt_11 ?_
    refine gC_10_2 hC q_2_116 dX11_traceAt_14 ?_
    refine ga_iload_n hC dX11_traceAt_17 1 rfl rfl ?_
    obtain ⟨h4, h⟩ := h
    refine ga_iald hC aC_35 (by decide) h4 dX11_traceAt_18 ?_
    refine ga_icmp_lt (tgt := 33) hC dX11_traceAt_19 (by decide) (fun hc => ?_) (fun hc => ?_)
    · have h := h.1 hc
      refine ga_aload_n hC dX11_traceAt_33 0 rfl rfl ?_
      refine gC_0_9 hC q_2_135 dX11_traceAt_34 ?_
      refine ga_iload_n hC dX11_traceAt_37 1 rfl rfl ?_
      refine ga_iload_n hC dX11_traceAt_38 2 rfl rfl ?_
      refine ga_aload_n hC dX11_traceAt_39 0 rfl rfl ?_
      refine gC_0_1 hC q_2_127 dX11_traceAt_40 ?_
      refine ga_callV (As := [.int v1, .int v2, .ref (ad 19)]) (st := []) (k := 10) (n := 3) hC h q_6_67 q_6_68 q_6_69 q_1_12 q_6_70 rfl rfl rfl (by decide +kernel) ⟨Nat.le_of_ble_eq_true rfl, Nat.le_of_ble_eq_true rfl⟩ ⟨Nat.le_of_ble_eq_true rfl, Nat.le_of_ble_eq_true rfl⟩ rfl rfl rfl (by decide) rfl (Nat.le_of_ble_eq_true rfl) dX11_traceAt_43 (fun v τ hq => ?_)
      obtain ⟨r5, rfl, h⟩ := hq
      obtain ⟨s6, es6⟩ : ∃ z, z = τ := ⟨_, rfl⟩
      rw [← es6] at h ⊢
      clear es6
      exact gx_iret hC dX11_traceAt_46 ⟨Nat.le_of_ble_eq_true rfl, Nat.le_of_ble_eq_true rfl⟩ ⟨_, rfl, h⟩
    · have h := h.2 hc
      exact gx_throwNW hY (is := 288) (text := _) (List.mem_of_getElem? (i := 10) rfl) dX11_traceAt_22 dX11_traceAt_25 dX11_traceAt_26 dX11_traceAt_29 dX11_traceAt_32 (Nat.le_of_ble_eq_true rfl) (Nat.le_of_ble_eq_true rfl) ⟨Nat.le_of_ble_eq_true rfl, Nat.le_of_ble_eq_true rfl⟩ ⟨Nat.le_of_ble_eq_true rfl, Nat.le_of_ble_eq_true rfl⟩ h
def M_X11_traceAbove (v1 : Int32) (σ : cg_S) (Q : Int64 → cg_S → Prop) (X : String → cg_S → Prop) : Prop := cg_MX cg_WC yX11_traceAbove cX11_traceAbove 2 (some .long) (cg_RX 5 3) 3 18 (fun ad => [.ref (ad 0), .int v1]) σ (cg_ql Q) X
theorem M_X11_traceAbove.mono {v1 : Int32} {σ : cg_S} {Q Q2 : Int64 → cg_S → Prop} {X X2 : String → cg_S → Prop} (h : M_X11_traceAbove v1 σ Q X) (hq : ∀ r τ, Q r τ → Q2 r τ) (hx : ∀ E τ, X E τ → X2 E τ) : M_X11_traceAbove v1 σ Q2 X2 := cg_MX.mono h (fun ad v τ ⟨r, e, q⟩ => ⟨r, e, hq r τ q⟩) hx
set_option maxRecDepth 100000 in
set_option maxHeartbeats 4000000 in
theorem v_X11_traceAbove {v1 : Int32} {σ : cg_S} {Q : Int64 → cg_S → Prop} {X : String → cg_S → Prop}
    (h : M_X11_findTrace v1 σ (fun s2 => vp_in v1 7 ∧ vp_in v1 7 ∧ M_X11_lowestAbove (s2.2.1 (18 + 56) v1.toNatClampNeg) (s2.2.1 (18 + 64) v1.toNatClampNeg) s2 (fun r6 s7 => Q r6 s7)) X) : M_X11_traceAbove v1 σ Q X := by
  refine cg_xentry (lv := fun ad => [(0, .ref (ad 0)), (1, .int v1)]) (by decide +kernel) (fun _ => rfl) (fun _ => Nat.le_of_ble_eq_true rfl) ?_
  intro p l e s m args below meth c D cy ad hY
  have hC := hY.1
  refine ga_aload_n hC dX11_traceAbove_0 0 rfl rfl ?_
  refine ga_iload_n hC dX11_traceAbove_1 1 rfl rfl ?_
  refine gx_callV (As := [.int v1]) (st := []) (k := 0) (n := 1) hY h q_6_42 q_6_44 q_0_11 q_1_1 q_6_45 rfl rfl rfl (by decide +kernel) ⟨Nat.le_of_ble_eq_true rfl, Nat.le_of_ble_eq_true rfl⟩ ⟨Nat.le_of_ble_eq_true rfl, Nat.le_of_ble_eq_true rfl⟩ ⟨Nat.le_of_ble_eq_true rfl, Nat.le_of_ble_eq_true rfl⟩ rfl rfl rfl (by decide) rfl (Nat.le_of_ble_eq_true rfl) dX11_traceAbove_2 (fun v τ hq => ?_)
  obtain ⟨rfl, h⟩ := hq
  obtain ⟨s2, es2⟩ : ∃ z, z = τ := ⟨_, rfl⟩
  rw [← es2] at h ⊢
  clear es2
  refine ga_aload_n hC dX11_traceAbove_5 0 rfl rfl ?_
  refine gC_0_9 hC q_2_135 dX11_traceAbove_6 ?_
  refine gC_10_1 hC q_2_114 dX11_traceAbove_9 ?_
  refine gC_v_0 (show 11 ≤ 18 ∧ 18 ≤ 18 by decide) hC q_2_10 dX11_traceAbove_12 ?_
  refine ga_iload_n hC dX11_traceAbove_15 1 rfl rfl ?_
  obtain ⟨h4, h⟩ := h
  refine ga_lald hC (aC_vu (show 11 ≤ 18 ∧ 18 ≤ 18 by decide)) (show _ + 56 < 88 by have := (show 11 ≤ 18 ∧ 18 ≤ 18 by decide); omega) h4 dX11_traceAbove_16 ?_
  refine ga_aload_n hC dX11_traceAbove_17 0 rfl rfl ?_
  refine gC_0_9 hC q_2_135 dX11_traceAbove_18 ?_
  refine gC_10_1 hC q_2_114 dX11_traceAbove_21 ?_
  refine gC_v_1 (show 11 ≤ 18 ∧ 18 ≤ 18 by decide) hC q_2_15 dX11_traceAbove_24 ?_
  refine ga_iload_n hC dX11_traceAbove_27 1 rfl rfl ?_
  obtain ⟨h5, h⟩ := h
  refine ga_lald hC (aC_vd (show 11 ≤ 18 ∧ 18 ≤ 18 by decide)) (show _ + 64 < 88 by have := (show 11 ≤ 18 ∧ 18 ≤ 18 by decide); omega) h5 dX11_traceAbove_28 ?_
  refine ga_callS (As := [.long (s2.2.1 (18 + 56) v1.toNatClampNeg), .long (s2.2.1 (18 + 64) v1.toNatClampNeg)]) (st := []) (n := 2) hC h q_4_197 q_4_168 q_1_1 q_4_169 rfl rfl rfl (by decide +kernel) ⟨Nat.le_of_ble_eq_true rfl, Nat.le_of_ble_eq_true rfl⟩ ⟨Nat.le_of_ble_eq_true rfl, Nat.le_of_ble_eq_true rfl⟩ rfl rfl (Nat.le_of_ble_eq_true rfl) dX11_traceAbove_29 (fun v τ hq => ?_)
  obtain ⟨r6, rfl, h⟩ := hq
  obtain ⟨s7, es7⟩ : ∃ z, z = τ := ⟨_, rfl⟩
  rw [← es7] at h ⊢
  clear es7
  exact gx_lret hC dX11_traceAbove_32 ⟨Nat.le_of_ble_eq_true rfl, Nat.le_of_ble_eq_true rfl⟩ ⟨_, rfl, h⟩
def M_X11_traceBelow (v1 : Int32) (σ : cg_S) (Q : Int64 → cg_S → Prop) (X : String → cg_S → Prop) : Prop := cg_MX cg_WC yX11_traceBelow cX11_traceBelow 2 (some .long) (cg_RX 5 3) 3 18 (fun ad => [.ref (ad 0), .int v1]) σ (cg_ql Q) X
theorem M_X11_traceBelow.mono {v1 : Int32} {σ : cg_S} {Q Q2 : Int64 → cg_S → Prop} {X X2 : String → cg_S → Prop} (h : M_X11_traceBelow v1 σ Q X) (hq : ∀ r τ, Q r τ → Q2 r τ) (hx : ∀ E τ, X E τ → X2 E τ) : M_X11_traceBelow v1 σ Q2 X2 := cg_MX.mono h (fun ad v τ ⟨r, e, q⟩ => ⟨r, e, hq r τ q⟩) hx
set_option maxRecDepth 100000 in
set_option maxHeartbeats 4000000 in
theorem v_X11_traceBelow {v1 : Int32} {σ : cg_S} {Q : Int64 → cg_S → Prop} {X : String → cg_S → Prop}
    (h : M_X11_findTrace v1 σ (fun s2 => vp_in v1 7 ∧ vp_in v1 7 ∧ M_X11_lowestBelow (s2.2.1 (18 + 56) v1.toNatClampNeg) (s2.2.1 (18 + 64) v1.toNatClampNeg) s2 (fun r6 s7 => Q r6 s7)) X) : M_X11_traceBelow v1 σ Q X := by
  refine cg_xentry (lv := fun ad => [(0, .ref (ad 0)), (1, .int v1)]) (by decide +kernel) (fun _ => rfl) (fun _ => Nat.le_of_ble_eq_true rfl) ?_
  intro p l e s m args below meth c D cy ad hY
  have hC := hY.1
  refine ga_aload_n hC dX11_traceBelow_0 0 rfl rfl ?_
  refine ga_iload_n hC dX11_traceBelow_1 1 rfl rfl ?_
  refine gx_callV (As := [.int v1]) (st := []) (k := 0) (n := 1) hY h q_6_42 q_6_44 q_0_11 q_1_1 q_6_45 rfl rfl rfl (by decide +kernel) ⟨Nat.le_of_ble_eq_true rfl, Nat.le_of_ble_eq_true rfl⟩ ⟨Nat.le_of_ble_eq_true rfl, Nat.le_of_ble_eq_true rfl⟩ ⟨Nat.le_of_ble_eq_true rfl, Nat.le_of_ble_eq_true rfl⟩ rfl rfl rfl (by decide) rfl (Nat.le_of_ble_eq_true rfl) dX11_traceBelow_2 (fun v τ hq => ?_)
  obtain ⟨rfl, h⟩ := hq
  obtain ⟨s2, es2⟩ : ∃ z, z = τ := ⟨_, rfl⟩
  rw [← es2] at h ⊢
  clear es2
  refine ga_aload_n hC dX11_traceBelow_5 0 rfl rfl ?_
  refine gC_0_9 hC q_2_135 dX11_traceBelow_6 ?_
  refine gC_10_1 hC q_2_114 dX11_traceBelow_9 ?_
  refine gC_v_0 (show 11 ≤ 18 ∧ 18 ≤ 18 by decide) hC q_2_10 dX11_traceBelow_12 ?_
  refine ga_iload_n hC dX11_traceBelow_15 1 rfl rfl ?_
  obtain ⟨h4, h⟩ := h
  refine ga_lald hC (aC_vu (show 11 ≤ 18 ∧ 18 ≤ 18 by decide)) (show _ + 56 < 88 by have := (show 11 ≤ 18 ∧ 18 ≤ 18 by decide); omega) h4 dX11_traceBelow_16 ?_
  refine ga_aload_n hC dX11_traceBelow_17 0 rfl rfl ?_
  refine gC_0_9 hC q_2_135 dX11_traceBelow_18 ?_
  refine gC_10_1 hC q_2_114 dX11_traceBelow_21 ?_
  refine gC_v_1 (show 11 ≤ 18 ∧ 18 ≤ 18 by decide) hC q_2_15 dX11_traceBelow_24 ?_
  refine ga_iload_n hC dX11_traceBelow_27 1 rfl rfl ?_
  obtain ⟨h5, h⟩ := h
  refine ga_lald hC (aC_vd (show 11 ≤ 18 ∧ 18 ≤ 18 by decide)) (show _ + 64 < 88 by have := (show 11 ≤ 18 ∧ 18 ≤ 18 by decide); omega) h5 dX11_traceBelow_28 ?_
  refine ga_callS (As := [.long (s2.2.1 (18 + 56) v1.toNatClampNeg), .long (s2.2.1 (18 + 64) v1.toNatClampNeg)]) (st := []) (n := 2) hC h q_4_205 q_4_188 q_1_1 q_4_189 rfl rfl rfl (by decide +kernel) ⟨Nat.le_of_ble_eq_true rfl, Nat.le_of_ble_eq_true rfl⟩ ⟨Nat.le_of_ble_eq_true rfl, Nat.le_of_ble_eq_true rfl⟩ rfl rfl (Nat.le_of_ble_eq_true rfl) dX11_traceBelow_29 (fun v τ hq => ?_)
  obtain ⟨r6, rfl, h⟩ := hq
  obtain ⟨s7, es7⟩ : ∃ z, z = τ := ⟨_, rfl⟩
  rw [← es7] at h ⊢
  clear es7
  exact gx_lret hC dX11_traceBelow_32 ⟨Nat.le_of_ble_eq_true rfl, Nat.le_of_ble_eq_true rfl⟩ ⟨_, rfl, h⟩
def M_X11_graphAgrees (σ : cg_S) (Q : Int32 → cg_S → Prop) : Prop := cg_M cg_WC yX11_graphAgrees cX11_graphAgrees 4 (some .boolean) (cg_R 4) (fun ad => [.ref (ad 0)]) σ (cg_qi Q)
theorem M_X11_graphAgrees.mono {σ : cg_S} {Q Q2 : Int32 → cg_S → Prop} (h : M_X11_graphAgrees σ Q) (hq : ∀ r τ, Q r τ → Q2 r τ) : M_X11_graphAgrees σ Q2 := cg_M.mono h (fun ad v τ ⟨r, e, q⟩ => ⟨r, e, hq r τ q⟩)
def L_X11_graphAgrees_18 (v1 : Int32) (v2 : Int32) (v3 : Int32) (σ : cg_S) (Q : Int32 → cg_S → Prop) : Prop := cg_L cg_WC RX11 cX11_graphAgrees 4 (some .boolean) (cg_R 4) 18 (fun ad => [(0, .ref (ad 0)), (1, .int v1), (2, .int v2), (3, .int v3)]) (fun ad => []) σ (cg_qi Q)
def L_X11_graphAgrees_53 (v1 : Int32) (v2 : Int32) (v3 : Int32) (t0 : Int32) (t1 : Int32) (σ : cg_S) (Q : Int32 → cg_S → Prop) : Prop := cg_L cg_WC RX11 cX11_graphAgrees 4 (some .boolean) (cg_R 4) 53 (fun ad => [(0, .ref (ad 0)), (1, .int v1), (2, .int v2), (3, .int v3)]) (fun ad => [.int t1, .int t0]) σ (cg_qi Q)
set_option maxRecDepth 100000 in
set_option maxHeartbeats 4000000 in
theorem v_X11_graphAgrees_53 {v1 : Int32} {v2 : Int32} {v3 : Int32} {t0 : Int32} {t1 : Int32} {σ : cg_S} {Q : Int32 → cg_S → Prop}
    (h : (¬ t0 = t1 → Q 0 σ) ∧ (t0 = t1 → M_X2_holds v2 v3 σ (fun r1 s2 => vp_in v3 7 ∧ vp_in v3 7 ∧ (¬ (s2.2.1 (11 + 56) v3.toNatClampNeg) = (s2.2.1 (11 + 64) v3.toNatClampNeg) → (r1 = 0 → L_X11_graphAgrees_18 v1 v2 (v3 + 1) s2 Q) ∧ (¬ r1 = 0 → Q 0 s2)) ∧ ((s2.2.1 (11 + 56) v3.toNatClampNeg) = (s2.2.1 (11 + 64) v3.toNatClampNeg) → (r1 = 1 → L_X11_graphAgrees_18 v1 v2 (v3 + 1) s2 Q) ∧ (¬ r1 = 1 → Q 0 s2))))) : L_X11_graphAgrees_53 v1 v2 v3 t0 t1 σ Q := by
  intro p l e s m args below meth c D cy ad hC
  refine ga_icmp_ne (tgt := 91) hC dX11_graphAgrees_53 (by decide) (fun hc => ?_) (fun hc => ?_)
  · have h := h.1 hc
    refine ga_iconst (v := 0) hC dX11_graphAgrees_91 (by decide) ?_
    exact ga_zret hC dX11_graphAgrees_92 (by decide) ⟨_, rfl, h⟩
  · have h := h.2 hc
    refine ga_iload_n hC dX11_graphAgrees_56 2 rfl rfl ?_
    refine ga_iload_n hC dX11_graphAgrees_57 3 rfl rfl ?_
    refine ga_callS (As := [.int v2, .int v3]) (st := []) (n := 2) hC h q_3_111 q_2_188 q_1_2 q_2_189 rfl rfl rfl (by decide +kernel) ⟨Nat.le_of_ble_eq_true rfl, Nat.le_of_ble_eq_true rfl⟩ ⟨Nat.le_of_ble_eq_true rfl, Nat.le_of_ble_eq_true rfl⟩ rfl rfl (Nat.le_of_ble_eq_true rfl) dX11_graphAgrees_58 (fun v τ hq => ?_)
    obtain ⟨r1, rfl, h⟩ := hq
    obtain ⟨s2, es2⟩ : ∃ z, z = τ := ⟨_, rfl⟩
    rw [← es2] at h ⊢
    clear es2
    refine ga_aload_n hC dX11_graphAgrees_61 0 rfl rfl ?_
    refine gC_0_10 hC q_2_136 dX11_graphAgrees_62 ?_
    refine gC_v_0 (show 11 ≤ 11 ∧ 11 ≤ 18 by decide) hC q_2_10 dX11_graphAgrees_65 ?_
    refine ga_iload_n hC dX11_graphAgrees_68 3 rfl rfl ?_
    obtain ⟨h4, h⟩ := h
    refine ga_lald hC (aC_vu (show 11 ≤ 11 ∧ 11 ≤ 18 by decide)) (show _ + 56 < 88 by have := (show 11 ≤ 11 ∧ 11 ≤ 18 by decide); omega) h4 dX11_graphAgrees_69 ?_
    refine ga_aload_n hC dX11_graphAgrees_70 0 rfl rfl ?_
    refine gC_0_10 hC q_2_136 dX11_graphAgrees_71 ?_
    refine gC_v_1 (show 11 ≤ 11 ∧ 11 ≤ 18 by decide) hC q_2_15 dX11_graphAgrees_74 ?_
    refine ga_iload_n hC dX11_graphAgrees_77 3 rfl rfl ?_
    obtain ⟨h5, h⟩ := h
    refine ga_lald hC (aC_vd (show 11 ≤ 11 ∧ 11 ≤ 18 by decide)) (show _ + 64 < 88 by have := (show 11 ≤ 11 ∧ 11 ≤ 18 by decide); omega) h5 dX11_graphAgrees_78 ?_
    refine ga_lcmp hC dX11_graphAgrees_79 ?_
    refine ga_if_ne (tgt := 87) hC dX11_graphAgrees_80 (by decide) (fun hc => ?_) (fun hc => ?_)
    · have h := h.1 (cg_cmp_ne.1 hc)
      refine ga_iconst (v := 0) hC dX11_graphAgrees_87 (by decide) ?_
      refine ga_icmp_eq (tgt := 93) hC dX11_graphAgrees_88 (by decide) (fun hc => ?_) (fun hc => ?_)
      · have h := h.1 hc
        refine ga_iinc (v := v3 + 1) (lv' := [(3, .int (v3 + 1)), (0, .ref (ad 0)), (1, .int v1), (2, .int v2)]) hC dX11_graphAgrees_93 3 rfl rfl (by decide) rfl ?_
        refine ga_goto (tgt := 18) hC dX11_graphAgrees_96 (by decide) ?_
        refine ga_locals [1, 2, 3, 0] rfl ?_
        exact h p l e s m args below meth c D cy ad hC
      · have h := h.2 hc
        refine ga_iconst (v := 0) hC dX11_graphAgrees_91 (by decide) ?_
        exact ga_zret hC dX11_graphAgrees_92 (by decide) ⟨_, rfl, h⟩
    · have h := h.2 (cg_cmp_ne.2 hc)
      refine ga_iconst (v := 1) hC dX11_graphAgrees_83 (by decide) ?_
      refine ga_goto (tgt := 88) hC dX11_graphAgrees_84 (by decide) ?_
      refine ga_icmp_eq (tgt := 93) hC dX11_graphAgrees_88 (by decide) (fun hc => ?_) (fun hc => ?_)
      · have h := h.1 hc
        refine ga_iinc (v := v3 + 1) (lv' := [(3, .int (v3 + 1)), (0, .ref (ad 0)), (1, .int v1), (2, .int v2)]) hC dX11_graphAgrees_93 3 rfl rfl (by decide) rfl ?_
        refine ga_goto (tgt := 18) hC dX11_graphAgrees_96 (by decide) ?_
        refine ga_locals [1, 2, 3, 0] rfl ?_
        exact h p l e s m args below meth c D cy ad hC
      · have h := h.2 hc
        refine ga_iconst (v := 0) hC dX11_graphAgrees_91 (by decide) ?_
        exact ga_zret hC dX11_graphAgrees_92 (by decide) ⟨_, rfl, h⟩
set_option maxRecDepth 100000 in
set_option maxHeartbeats 4000000 in
theorem v_X11_graphAgrees_18 {v1 : Int32} {v2 : Int32} {v3 : Int32} {σ : cg_S} {Q : Int32 → cg_S → Prop}
    (h : ((σ.1 1 0) ≤ v3 → Q 1 σ) ∧ (¬ (σ.1 1 0) ≤ v3 → M_X2_holds v1 v3 σ (fun r1 s2 => vp_in v3 7 ∧ ((s2.2.1 (11 + 56) v3.toNatClampNeg) ≤ 0 → L_X11_graphAgrees_53 v1 v2 v3 r1 0 s2 Q) ∧ (¬ (s2.2.1 (11 + 56) v3.toNatClampNeg) ≤ 0 → L_X11_graphAgrees_53 v1 v2 v3 r1 1 s2 Q)))) : L_X11_graphAgrees_18 v1 v2 v3 σ Q := by
  intro p l e s m args below meth c D cy ad hC
  refine ga_iload_n hC dX11_graphAgrees_18 3 rfl rfl ?_
  refine ga_aload_n hC dX11_graphAgrees_19 0 rfl rfl ?_
  refine gC_0_0 hC q_2_126 dX11_graphAgrees_20 ?_
  refine gC_1_0 hC q_1_50 dX11_graphAgrees_23 ?_
  refine ga_icmp_ge (tgt := 99) hC dX11_graphAgrees_26 (by decide) (fun hc => ?_) (fun hc => ?_)
  · have h := h.1 hc
    refine ga_iconst (v := 1) hC dX11_graphAgrees_99 (by decide) ?_
    exact ga_zret hC dX11_graphAgrees_100 (by decide) ⟨_, rfl, h⟩
  · have h := h.2 hc
    refine ga_iload_n hC dX11_graphAgrees_29 1 rfl rfl ?_
    refine ga_iload_n hC dX11_graphAgrees_30 3 rfl rfl ?_
    refine ga_callS (As := [.int v1, .int v3]) (st := []) (n := 2) hC h q_3_111 q_2_188 q_1_2 q_2_189 rfl rfl rfl (by decide +kernel) ⟨Nat.le_of_ble_eq_true rfl, Nat.le_of_ble_eq_true rfl⟩ ⟨Nat.le_of_ble_eq_true rfl, Nat.le_of_ble_eq_true rfl⟩ rfl rfl (Nat.le_of_ble_eq_true rfl) dX11_graphAgrees_31 (fun v τ hq => ?_)
    obtain ⟨r1, rfl, h⟩ := hq
    obtain ⟨s2, es2⟩ : ∃ z, z = τ := ⟨_, rfl⟩
    rw [← es2] at h ⊢
    clear es2
    refine ga_aload_n hC dX11_graphAgrees_34 0 rfl rfl ?_
    refine gC_0_10 hC q_2_136 dX11_graphAgrees_35 ?_
    refine gC_v_0 (show 11 ≤ 11 ∧ 11 ≤ 18 by decide) hC q_2_10 dX11_graphAgrees_38 ?_
    refine ga_iload_n hC dX11_graphAgrees_41 3 rfl rfl ?_
    obtain ⟨h4, h⟩ := h
    refine ga_lald hC (aC_vu (show 11 ≤ 11 ∧ 11 ≤ 18 by decide)) (show _ + 56 < 88 by have := (show 11 ≤ 11 ∧ 11 ≤ 18 by decide); omega) h4 dX11_graphAgrees_42 ?_
    refine ga_lconst (v := 0) hC dX11_graphAgrees_43 (by decide) ?_
    refine ga_lcmp hC dX11_graphAgrees_44 ?_
    refine ga_if_le (tgt := 52) hC dX11_graphAgrees_45 (by decide) (fun hc => ?_) (fun hc => ?_)
    · have h := h.1 (cg_cmp_le.1 hc)
      refine ga_iconst (v := 0) hC dX11_graphAgrees_52 (by decide) ?_
      refine ga_locals [0, 1, 2, 3] rfl ?_
      exact h p l e s m args below meth c D cy ad hC
    · have h := h.2 (cg_cmp_le.2 hc)
      refine ga_iconst (v := 1) hC dX11_graphAgrees_48 (by decide) ?_
      refine ga_goto (tgt := 53) hC dX11_graphAgrees_49 (by decide) ?_
      refine ga_locals [0, 1, 2, 3] rfl ?_
      exact h p l e s m args below meth c D cy ad hC
set_option maxRecDepth 100000 in
set_option maxHeartbeats 4000000 in
theorem v_X11_graphAgrees {σ : cg_S} {Q : Int32 → cg_S → Prop}
    (h : M_X3_positive σ (fun r1 s2 => M_X3_sure s2 (fun r4 s5 => L_X11_graphAgrees_18 r1 r4 0 s5 Q))) : M_X11_graphAgrees σ Q := by
  refine cg_entry (lv := fun ad => [(0, .ref (ad 0))]) (by decide +kernel) (fun _ => rfl) (fun _ => Nat.le_of_ble_eq_true rfl) ?_
  intro p l e s m args below meth c D cy ad hC
  refine ga_aload_n hC dX11_graphAgrees_0 0 rfl rfl ?_
  refine gC_0_2 hC q_2_128 dX11_graphAgrees_1 ?_
  refine ga_callV (As := []) (st := []) (k := 2) (n := 0) hC h q_3_99 q_3_100 q_3_101 q_1_3 q_3_102 rfl rfl rfl (by decide +kernel) ⟨Nat.le_of_ble_eq_true rfl, Nat.le_of_ble_eq_true rfl⟩ ⟨Nat.le_of_ble_eq_true rfl, Nat.le_of_ble_eq_true rfl⟩ rfl rfl rfl (by decide) rfl (Nat.le_of_ble_eq_true rfl) dX11_graphAgrees_4 (fun v τ hq => ?_)
  obtain ⟨r1, rfl, h⟩ := hq
  obtain ⟨s2, es2⟩ : ∃ z, z = τ := ⟨_, rfl⟩
  rw [← es2] at h ⊢
  clear es2
  refine ga_istore_n (lv' := [(1, .int r1), (0, .ref (ad 0))]) hC dX11_graphAgrees_7 rfl (by decide) rfl ?_
  refine ga_aload_n hC dX11_graphAgrees_8 1 rfl rfl ?_
  refine gC_0_2 hC q_2_128 dX11_graphAgrees_9 ?_
  refine ga_callV (As := []) (st := []) (k := 2) (n := 0) hC h q_3_107 q_3_108 q_3_109 q_1_3 q_3_110 rfl rfl rfl (by decide +kernel) ⟨Nat.le_of_ble_eq_true rfl, Nat.le_of_ble_eq_true rfl⟩ ⟨Nat.le_of_ble_eq_true rfl, Nat.le_of_ble_eq_true rfl⟩ rfl rfl rfl (by decide) rfl (Nat.le_of_ble_eq_true rfl) dX11_graphAgrees_12 (fun v τ hq => ?_)
  obtain ⟨r4, rfl, h⟩ := hq
  obtain ⟨s5, es5⟩ : ∃ z, z = τ := ⟨_, rfl⟩
  rw [← es5] at h ⊢
  clear es5
  refine ga_istore_n (lv' := [(2, .int r4), (1, .int r1), (0, .ref (ad 0))]) hC dX11_graphAgrees_15 rfl (by decide) rfl ?_
  refine ga_iconst (v := 0) hC dX11_graphAgrees_16 (by decide) ?_
  refine ga_istore_n (lv' := [(3, .int 0), (2, .int r4), (1, .int r1), (0, .ref (ad 0))]) hC dX11_graphAgrees_17 rfl (by decide) rfl ?_
  refine ga_locals [3, 2, 1, 0] rfl ?_
  exact h p l e s m args below meth c D cy ad hC
def M_X11_agrees (v1 : Int32) (σ : cg_S) (Q : Int32 → cg_S → Prop) : Prop := cg_M cg_WC yX11_agrees cX11_agrees 4 (some .boolean) (cg_R 5) (fun ad => [.ref (ad 0), .int v1]) σ (cg_qi Q)
theorem M_X11_agrees.mono {v1 : Int32} {σ : cg_S} {Q Q2 : Int32 → cg_S → Prop} (h : M_X11_agrees v1 σ Q) (hq : ∀ r τ, Q r τ → Q2 r τ) : M_X11_agrees v1 σ Q2 := cg_M.mono h (fun ad v τ ⟨r, e, q⟩ => ⟨r, e, hq r τ q⟩)
def L_X11_agrees_36 (v1 : Int32) (v2 : Nat) (v3 : Int32) (σ : cg_S) (Q : Int32 → cg_S → Prop) : Prop := cg_L cg_WC RX11 cX11_agrees 4 (some .boolean) (cg_R 5) 36 (fun ad => [(0, .ref (ad 0)), (1, .int v1), (2, .ref (ad v2)), (3, .int v3)]) (fun ad => []) σ (cg_qi Q)
set_option maxRecDepth 100000 in
set_option maxHeartbeats 4000000 in
theorem v_X11_agrees_36 {v1 : Int32} {v2 : Nat} {v3 : Int32} {σ : cg_S} {Q : Int32 → cg_S → Prop} (h_v2 : 11 ≤ v2 ∧ v2 ≤ 18)
    (h : ((σ.1 1 0) ≤ v3 → (¬ v1 = 114 → Q 1 σ) ∧ (v1 = 114 → M_X11_graphAgrees σ (fun r1 s2 => (r1 = 0 → Q 0 s2) ∧ (¬ r1 = 0 → Q 1 s2)))) ∧ (¬ (σ.1 1 0) ≤ v3 → vp_in v3 7 ∧ vp_in v3 7 ∧ vp_in v3 7 ∧ vp_in v3 7 ∧ M_X11_compareFractions (σ.2.1 (11 + 56) v3.toNatClampNeg) (σ.2.1 (11 + 64) v3.toNatClampNeg) (σ.2.1 (v2 + 56) v3.toNatClampNeg) (σ.2.1 (v2 + 64) v3.toNatClampNeg) σ (fun r8 s9 => (¬ r8 = 0 → Q 0 s9) ∧ (r8 = 0 → vp_in v3 7 ∧ vp_in v3 7 ∧ vp_in (s9.1 33 v3.toNatClampNeg) 7 ∧ ((s9.2.1 (11 + 56) v3.toNatClampNeg) = (s9.2.1 (11 + 56) (s9.1 33 v3.toNatClampNeg).toNatClampNeg) → L_X11_agrees_36 v1 v2 (v3 + 1) s9 Q) ∧ (¬ (s9.2.1 (11 + 56) v3.toNatClampNeg) = (s9.2.1 (11 + 56) (s9.1 33 v3.toNatClampNeg).toNatClampNeg) → Q 0 s9))))) : L_X11_agrees_36 v1 v2 v3 σ Q := by
  intro p l e s m args below meth c D cy ad hC
  refine ga_iload_n hC dX11_agrees_36 3 rfl rfl ?_
  refine ga_aload_n hC dX11_agrees_37 0 rfl rfl ?_
  refine gC_0_0 hC q_2_126 dX11_agrees_38 ?_
  refine gC_1_0 hC q_1_50 dX11_agrees_41 ?_
  refine ga_icmp_ge (tgt := 121) hC dX11_agrees_44 (by decide) (fun hc => ?_) (fun hc => ?_)
  · have h := h.1 hc
    refine ga_iload_n hC dX11_agrees_121 1 rfl rfl ?_
    refine ga_bipush (v := 114) hC dX11_agrees_122 (by decide) ?_
    refine ga_icmp_ne (tgt := 134) hC dX11_agrees_124 (by decide) (fun hc => ?_) (fun hc => ?_)
    · have h := h.1 hc
      refine ga_iconst (v := 1) hC dX11_agrees_134 (by decide) ?_
      refine ga_goto (tgt := 139) hC dX11_agrees_135 (by decide) ?_
      exact ga_zret hC dX11_agrees_139 (by decide) ⟨_, rfl, h⟩
    · have h := h.2 hc
      refine ga_aload_n hC dX11_agrees_127 0 rfl rfl ?_
      refine ga_callV (As := []) (st := []) (k := 0) (n := 0) hC h q_3_95 q_3_97 q_0_1 q_1_1 q_3_98 rfl rfl rfl (by decide +kernel) ⟨Nat.le_of_ble_eq_true rfl, Nat.le_of_ble_eq_true rfl⟩ ⟨Nat.le_of_ble_eq_true rfl, Nat.le_of_ble_eq_true rfl⟩ rfl rfl rfl (by decide) rfl (Nat.le_of_ble_eq_true rfl) dX11_agrees_128 (fun v τ hq => ?_)
      obtain ⟨r1, rfl, h⟩ := hq
      obtain ⟨s2, es2⟩ : ∃ z, z = τ := ⟨_, rfl⟩
      rw [← es2] at h ⊢
      clear es2
      refine ga_if_eq (tgt := 138) hC dX11_agrees_131 (by decide) (fun hc => ?_) (fun hc => ?_)
      · have h := h.1 hc
        refine ga_iconst (v := 0) hC dX11_agrees_138 (by decide) ?_
        exact ga_zret hC dX11_agrees_139 (by decide) ⟨_, rfl, h⟩
      · have h := h.2 hc
        refine ga_iconst (v := 1) hC dX11_agrees_134 (by decide) ?_
        refine ga_goto (tgt := 139) hC dX11_agrees_135 (by decide) ?_
        exact ga_zret hC dX11_agrees_139 (by decide) ⟨_, rfl, h⟩
  · have h := h.2 hc
    refine ga_aload_n hC dX11_agrees_47 0 rfl rfl ?_
    refine gC_0_10 hC q_2_136 dX11_agrees_48 ?_
    refine gC_v_0 (show 11 ≤ 11 ∧ 11 ≤ 18 by decide) hC q_2_10 dX11_agrees_51 ?_
    refine ga_iload_n hC dX11_agrees_54 3 rfl rfl ?_
    obtain ⟨h4, h⟩ := h
    refine ga_lald hC (aC_vu (show 11 ≤ 11 ∧ 11 ≤ 18 by decide)) (show _ + 56 < 88 by have := (show 11 ≤ 11 ∧ 11 ≤ 18 by decide); omega) h4 dX11_agrees_55 ?_
    refine ga_aload_n hC dX11_agrees_56 0 rfl rfl ?_
    refine gC_0_10 hC q_2_136 dX11_agrees_57 ?_
    refine gC_v_1 (show 11 ≤ 11 ∧ 11 ≤ 18 by decide) hC q_2_15 dX11_agrees_60 ?_
    refine ga_iload_n hC dX11_agrees_63 3 rfl rfl ?_
    obtain ⟨h5, h⟩ := h
    refine ga_lald hC (aC_vd (show 11 ≤ 11 ∧ 11 ≤ 18 by decide)) (show _ + 64 < 88 by have := (show 11 ≤ 11 ∧ 11 ≤ 18 by decide); omega) h5 dX11_agrees_64 ?_
    refine ga_aload_n hC dX11_agrees_65 2 rfl rfl ?_
    refine gC_v_0 h_v2 hC q_2_10 dX11_agrees_66 ?_
    refine ga_iload_n hC dX11_agrees_69 3 rfl rfl ?_
    obtain ⟨h6, h⟩ := h
    refine ga_lald hC (aC_vu h_v2) (show _ + 56 < 88 by have := h_v2; omega) h6 dX11_agrees_70 ?_
    refine ga_aload_n hC dX11_agrees_71 2 rfl rfl ?_
    refine gC_v_1 h_v2 hC q_2_15 dX11_agrees_72 ?_
    refine ga_iload_n hC dX11_agrees_75 3 rfl rfl ?_
    obtain ⟨h7, h⟩ := h
    refine ga_lald hC (aC_vd h_v2) (show _ + 64 < 88 by have := h_v2; omega) h7 dX11_agrees_76 ?_
    refine ga_callS (As := [.long (σ.2.1 (11 + 56) v3.toNatClampNeg), .long (σ.2.1 (11 + 64) v3.toNatClampNeg), .long (σ.2.1 (v2 + 56) v3.toNatClampNeg), .long (σ.2.1 (v2 + 64) v3.toNatClampNeg)]) (st := []) (n := 4) hC h q_3_94 q_3_79 q_1_1 q_3_80 rfl rfl rfl (by decide +kernel) ⟨Nat.le_of_ble_eq_true rfl, Nat.le_of_ble_eq_true rfl⟩ ⟨Nat.le_of_ble_eq_true rfl, Nat.le_of_ble_eq_true rfl⟩ rfl rfl (Nat.le_of_ble_eq_true rfl) dX11_agrees_77 (fun v τ hq => ?_)
    obtain ⟨r8, rfl, h⟩ := hq
    obtain ⟨s9, es9⟩ : ∃ z, z = τ := ⟨_, rfl⟩
    rw [← es9] at h ⊢
    clear es9
    refine ga_if_ne (tgt := 113) hC dX11_agrees_80 (by decide) (fun hc => ?_) (fun hc => ?_)
    · have h := h.1 hc
      refine ga_iconst (v := 0) hC dX11_agrees_113 (by decide) ?_
      exact ga_zret hC dX11_agrees_114 (by decide) ⟨_, rfl, h⟩
    · have h := h.2 hc
      refine ga_aload_n hC dX11_agrees_83 0 rfl rfl ?_
      refine gC_0_10 hC q_2_136 dX11_agrees_84 ?_
      refine gC_v_0 (show 11 ≤ 11 ∧ 11 ≤ 18 by decide) hC q_2_10 dX11_agrees_87 ?_
      refine ga_iload_n hC dX11_agrees_90 3 rfl rfl ?_
      obtain ⟨h11, h⟩ := h
      refine ga_lald hC (aC_vu (show 11 ≤ 11 ∧ 11 ≤ 18 by decide)) (show _ + 56 < 88 by have := (show 11 ≤ 11 ∧ 11 ≤ 18 by decide); omega) h11 dX11_agrees_91 ?_
      refine ga_aload_n hC dX11_agrees_92 0 rfl rfl ?_
      refine gC_0_10 hC q_2_136 dX11_agrees_93 ?_
      refine gC_v_0 (show 11 ≤ 11 ∧ 11 ≤ 18 by decide) hC q_2_10 dX11_agrees_96 ?_
      refine ga_aload_n hC dX11_agrees_99 0 rfl rfl ?_
      refine gC_0_8 hC q_2_134 dX11_agrees_100 ?_
      refine gC_9_1 hC q_2_95 dX11_agrees_103 ?_
      refine ga_iload_n hC dX11_agrees_106 3 rfl rfl ?_
      obtain ⟨h12, h⟩ := h
      refine ga_iald hC aC_33 (by decide) h12 dX11_agrees_107 ?_
      obtain ⟨h13, h⟩ := h
      refine ga_lald hC (aC_vu (show 11 ≤ 11 ∧ 11 ≤ 18 by decide)) (show _ + 56 < 88 by have := (show 11 ≤ 11 ∧ 11 ≤ 18 by decide); omega) h13 dX11_agrees_108 ?_
      refine ga_lcmp hC dX11_agrees_109 ?_
      refine ga_if_eq (tgt := 115) hC dX11_agrees_110 (by decide) (fun hc => ?_) (fun hc => ?_)
      · have h := h.1 (cg_cmp_eq.1 hc)
        refine ga_iinc (v := v3 + 1) (lv' := [(3, .int (v3 + 1)), (0, .ref (ad 0)), (1, .int v1), (2, .ref (ad v2))]) hC dX11_agrees_115 3 rfl rfl (by decide) rfl ?_
        refine ga_goto (tgt := 36) hC dX11_agrees_118 (by decide) ?_
        refine ga_locals [1, 2, 3, 0] rfl ?_
        exact h p l e s m args below meth c D cy ad hC
      · have h := h.2 (cg_cmp_eq.2 hc)
        refine ga_iconst (v := 0) hC dX11_agrees_113 (by decide) ?_
        exact ga_zret hC dX11_agrees_114 (by decide) ⟨_, rfl, h⟩
set_option maxRecDepth 100000 in
set_option maxHeartbeats 4000000 in
theorem v_X11_agrees {v1 : Int32} {σ : cg_S} {Q : Int32 → cg_S → Prop}
    (h : M_X4_improve v1 19 1 1 σ (fun s2 => M_X0_copyTo 11 s2 (fun s5 => M_X7_valuesFor v1 s5 (fun r7 s8 => (11 ≤ r7 ∧ r7 ≤ 18) ∧ L_X11_agrees_36 v1 r7 0 s8 Q)))) : M_X11_agrees v1 σ Q := by
  refine cg_entry (lv := fun ad => [(0, .ref (ad 0)), (1, .int v1)]) (by decide +kernel) (fun _ => rfl) (fun _ => Nat.le_of_ble_eq_true rfl) ?_
  intro p l e s m args below meth c D cy ad hC
  refine ga_aload_n hC dX11_agrees_0 0 rfl rfl ?_
  refine gC_0_5 hC q_2_131 dX11_agrees_1 ?_
  refine ga_iload_n hC dX11_agrees_4 1 rfl rfl ?_
  refine ga_aload_n hC dX11_agrees_5 0 rfl rfl ?_
  refine gC_0_1 hC q_2_127 dX11_agrees_6 ?_
  refine ga_iconst (v := 1) hC dX11_agrees_9 (by decide) ?_
  refine ga_iconst (v := 1) hC dX11_agrees_10 (by decide) ?_
  refine ga_callV (As := [.int v1, .ref (ad 19), .int 1, .int 1]) (st := []) (k := 6) (n := 4) hC h q_2_215 q_2_216 q_2_217 q_1_6 q_2_218 rfl rfl rfl (by decide +kernel) ⟨Nat.le_of_ble_eq_true rfl, Nat.le_of_ble_eq_true rfl⟩ ⟨Nat.le_of_ble_eq_true rfl, Nat.le_of_ble_eq_true rfl⟩ rfl rfl rfl (by decide) rfl (Nat.le_of_ble_eq_true rfl) dX11_agrees_11 (fun v τ hq => ?_)
  obtain ⟨rfl, h⟩ := hq
  obtain ⟨s2, es2⟩ : ∃ z, z = τ := ⟨_, rfl⟩
  rw [← es2] at h ⊢
  clear es2
  refine ga_aload_n hC dX11_agrees_14 0 rfl rfl ?_
  refine gC_0_3 hC q_2_129 dX11_agrees_15 ?_
  refine ga_aload_n hC dX11_agrees_18 0 rfl rfl ?_
  refine gC_0_10 hC q_2_136 dX11_agrees_19 ?_
  refine ga_callV (As := [.ref (ad 11)]) (st := []) (k := 3) (n := 1) hC h q_3_56 q_3_57 q_3_58 q_1_4 q_3_59 rfl rfl rfl (by decide +kernel) ⟨Nat.le_of_ble_eq_true rfl, Nat.le_of_ble_eq_true rfl⟩ ⟨Nat.le_of_ble_eq_true rfl, Nat.le_of_ble_eq_true rfl⟩ rfl rfl rfl (by decide) rfl (Nat.le_of_ble_eq_true rfl) dX11_agrees_22 (fun v τ hq => ?_)
  obtain ⟨rfl, h⟩ := hq
  obtain ⟨s5, es5⟩ : ∃ z, z = τ := ⟨_, rfl⟩
  rw [← es5] at h ⊢
  clear es5
  refine ga_aload_n hC dX11_agrees_25 0 rfl rfl ?_
  refine gC_0_6 hC q_2_132 dX11_agrees_26 ?_
  refine ga_iload_n hC dX11_agrees_29 1 rfl rfl ?_
  refine ga_callV (As := [.int v1]) (st := []) (k := 7) (n := 1) hC h q_3_64 q_3_65 q_3_66 q_1_9 q_3_67 rfl rfl rfl (by decide +kernel) ⟨Nat.le_of_ble_eq_true rfl, Nat.le_of_ble_eq_true rfl⟩ ⟨Nat.le_of_ble_eq_true rfl, Nat.le_of_ble_eq_true rfl⟩ rfl rfl rfl (by decide) rfl (Nat.le_of_ble_eq_true rfl) dX11_agrees_30 (fun v τ hq => ?_)
  obtain ⟨r7, rfl, h⟩ := hq
  obtain ⟨s8, es8⟩ : ∃ z, z = τ := ⟨_, rfl⟩
  rw [← es8] at h ⊢
  clear es8
  obtain ⟨h9, h⟩ := h
  refine ga_astore_n (lv' := [(2, .ref (ad r7)), (0, .ref (ad 0)), (1, .int v1)]) hC dX11_agrees_33 rfl (by decide) rfl ?_
  refine ga_iconst (v := 0) hC dX11_agrees_34 (by decide) ?_
  refine ga_istore_n (lv' := [(3, .int 0), (2, .ref (ad r7)), (0, .ref (ad 0)), (1, .int v1)]) hC dX11_agrees_35 rfl (by decide) rfl ?_
  refine ga_locals [2, 3, 1, 0] rfl ?_
  exact h p l e s m args below meth c D cy ad hC
def M_X11_isConsistent (σ : cg_S) (Q : Int32 → cg_S → Prop) : Prop := cg_M cg_WC yX11_isConsistent cX11_isConsistent 1 (some .boolean) (cg_R 6) (fun ad => [.ref (ad 0)]) σ (cg_qi Q)
theorem M_X11_isConsistent.mono {σ : cg_S} {Q Q2 : Int32 → cg_S → Prop} (h : M_X11_isConsistent σ Q) (hq : ∀ r τ, Q r τ → Q2 r τ) : M_X11_isConsistent σ Q2 := cg_M.mono h (fun ad v τ ⟨r, e, q⟩ => ⟨r, e, hq r τ q⟩)
set_option maxRecDepth 100000 in
set_option maxHeartbeats 4000000 in
theorem v_X11_isConsistent {σ : cg_S} {Q : Int32 → cg_S → Prop}
    (h : M_X2_isReady σ (fun r1 s2 => (¬ r1 = 0 → M_X5_sort s2 (fun s5 => M_X11_agrees 114 s5 (fun r7 s8 => (r7 = 0 → Q 0 s8) ∧ (¬ r7 = 0 → M_X11_agrees 102 s8 (fun r10 s11 => (r10 = 0 → Q 0 s11) ∧ (¬ r10 = 0 → M_X11_agrees 115 s11 (fun r13 s14 => (r13 = 0 → Q 0 s14) ∧ (¬ r13 = 0 → M_X11_agrees 119 s14 (fun r16 s17 => (r16 = 0 → Q 0 s17) ∧ (¬ r16 = 0 → Q 1 s17)))))))))) ∧ (r1 = 0 → Q 1 s2))) : M_X11_isConsistent σ Q := by
  refine cg_entry (lv := fun ad => [(0, .ref (ad 0))]) (by decide +kernel) (fun _ => rfl) (fun _ => Nat.le_of_ble_eq_true rfl) ?_
  intro p l e s m args below meth c D cy ad hC
  refine ga_aload_n hC dX11_isConsistent_0 0 rfl rfl ?_
  refine gC_0_0 hC q_2_126 dX11_isConsistent_1 ?_
  refine ga_callV (As := []) (st := []) (k := 1) (n := 0) hC h q_2_164 q_2_165 q_2_166 q_1_2 q_2_167 rfl rfl rfl (by decide +kernel) ⟨Nat.le_of_ble_eq_true rfl, Nat.le_of_ble_eq_true rfl⟩ ⟨Nat.le_of_ble_eq_true rfl, Nat.le_of_ble_eq_true rfl⟩ rfl rfl rfl (by decide) rfl (Nat.le_of_ble_eq_true rfl) dX11_isConsistent_4 (fun v τ hq => ?_)
  obtain ⟨r1, rfl, h⟩ := hq
  obtain ⟨s2, es2⟩ : ∃ z, z = τ := ⟨_, rfl⟩
  rw [← es2] at h ⊢
  clear es2
  refine ga_if_ne (tgt := 12) hC dX11_isConsistent_7 (by decide) (fun hc => ?_) (fun hc => ?_)
  · have h := h.1 hc
    refine ga_aload_n hC dX11_isConsistent_12 0 rfl rfl ?_
    refine gC_0_8 hC q_2_134 dX11_isConsistent_13 ?_
    refine ga_callV (As := []) (st := []) (k := 9) (n := 0) hC h q_2_175 q_2_176 q_2_177 q_1_11 q_2_178 rfl rfl rfl (by decide +kernel) ⟨Nat.le_of_ble_eq_true rfl, Nat.le_of_ble_eq_true rfl⟩ ⟨Nat.le_of_ble_eq_true rfl, Nat.le_of_ble_eq_true rfl⟩ rfl rfl rfl (by decide) rfl (Nat.le_of_ble_eq_true rfl) dX11_isConsistent_16 (fun v τ hq => ?_)
    obtain ⟨rfl, h⟩ := hq
    obtain ⟨s5, es5⟩ : ∃ z, z = τ := ⟨_, rfl⟩
    rw [← es5] at h ⊢
    clear es5
    refine ga_aload_n hC dX11_isConsistent_19 0 rfl rfl ?_
    refine ga_bipush (v := 114) hC dX11_isConsistent_20 (by decide) ?_
    refine ga_callV (As := [.int 114]) (st := []) (k := 0) (n := 1) hC h q_2_211 q_2_213 q_0_0 q_1_1 q_2_214 rfl rfl rfl (by decide +kernel) ⟨Nat.le_of_ble_eq_true rfl, Nat.le_of_ble_eq_true rfl⟩ ⟨Nat.le_of_ble_eq_true rfl, Nat.le_of_ble_eq_true rfl⟩ rfl rfl rfl (by decide) rfl (Nat.le_of_ble_eq_true rfl) dX11_isConsistent_22 (fun v τ hq => ?_)
    obtain ⟨r7, rfl, h⟩ := hq
    obtain ⟨s8, es8⟩ : ∃ z, z = τ := ⟨_, rfl⟩
    rw [← es8] at h ⊢
    clear es8
    refine ga_if_eq (tgt := 59) hC dX11_isConsistent_25 (by decide) (fun hc => ?_) (fun hc => ?_)
    · have h := h.1 hc
      refine ga_iconst (v := 0) hC dX11_isConsistent_59 (by decide) ?_
      exact ga_zret hC dX11_isConsistent_60 (by decide) ⟨_, rfl, h⟩
    · have h := h.2 hc
      refine ga_aload_n hC dX11_isConsistent_28 0 rfl rfl ?_
      refine ga_bipush (v := 102) hC dX11_isConsistent_29 (by decide) ?_
      refine ga_callV (As := [.int 102]) (st := []) (k := 0) (n := 1) hC h q_2_211 q_2_213 q_0_0 q_1_1 q_2_214 rfl rfl rfl (by decide +kernel) ⟨Nat.le_of_ble_eq_true rfl, Nat.le_of_ble_eq_true rfl⟩ ⟨Nat.le_of_ble_eq_true rfl, Nat.le_of_ble_eq_true rfl⟩ rfl rfl rfl (by decide) rfl (Nat.le_of_ble_eq_true rfl) dX11_isConsistent_31 (fun v τ hq => ?_)
      obtain ⟨r10, rfl, h⟩ := hq
      obtain ⟨s11, es11⟩ : ∃ z, z = τ := ⟨_, rfl⟩
      rw [← es11] at h ⊢
      clear es11
      refine ga_if_eq (tgt := 59) hC dX11_isConsistent_34 (by decide) (fun hc => ?_) (fun hc => ?_)
      · have h := h.1 hc
        refine ga_iconst (v := 0) hC dX11_isConsistent_59 (by decide) ?_
        exact ga_zret hC dX11_isConsistent_60 (by decide) ⟨_, rfl, h⟩
      · have h := h.2 hc
        refine ga_aload_n hC dX11_isConsistent_37 0 rfl rfl ?_
        refine ga_bipush (v := 115) hC dX11_isConsistent_38 (by decide) ?_
        refine ga_callV (As := [.int 115]) (st := []) (k := 0) (n := 1) hC h q_2_211 q_2_213 q_0_0 q_1_1 q_2_214 rfl rfl rfl (by decide +kernel) ⟨Nat.le_of_ble_eq_true rfl, Nat.le_of_ble_eq_true rfl⟩ ⟨Nat.le_of_ble_eq_true rfl, Nat.le_of_ble_eq_true rfl⟩ rfl rfl rfl (by decide) rfl (Nat.le_of_ble_eq_true rfl) dX11_isConsistent_40 (fun v τ hq => ?_)
        obtain ⟨r13, rfl, h⟩ := hq
        obtain ⟨s14, es14⟩ : ∃ z, z = τ := ⟨_, rfl⟩
        rw [← es14] at h ⊢
        clear es14
        refine ga_if_eq (tgt := 59) hC dX11_isConsistent_43 (by decide) (fun hc => ?_) (fun hc => ?_)
        · have h := h.1 hc
          refine ga_iconst (v := 0) hC dX11_isConsistent_59 (by decide) ?_
          exact ga_zret hC dX11_isConsistent_60 (by decide) ⟨_, rfl, h⟩
        · have h := h.2 hc
          refine ga_aload_n hC dX11_isConsistent_46 0 rfl rfl ?_
          refine ga_bipush (v := 119) hC dX11_isConsistent_47 (by decide) ?_
          refine ga_callV (As := [.int 119]) (st := []) (k := 0) (n := 1) hC h q_2_211 q_2_213 q_0_0 q_1_1 q_2_214 rfl rfl rfl (by decide +kernel) ⟨Nat.le_of_ble_eq_true rfl, Nat.le_of_ble_eq_true rfl⟩ ⟨Nat.le_of_ble_eq_true rfl, Nat.le_of_ble_eq_true rfl⟩ rfl rfl rfl (by decide) rfl (Nat.le_of_ble_eq_true rfl) dX11_isConsistent_49 (fun v τ hq => ?_)
          obtain ⟨r16, rfl, h⟩ := hq
          obtain ⟨s17, es17⟩ : ∃ z, z = τ := ⟨_, rfl⟩
          rw [← es17] at h ⊢
          clear es17
          refine ga_if_eq (tgt := 59) hC dX11_isConsistent_52 (by decide) (fun hc => ?_) (fun hc => ?_)
          · have h := h.1 hc
            refine ga_iconst (v := 0) hC dX11_isConsistent_59 (by decide) ?_
            exact ga_zret hC dX11_isConsistent_60 (by decide) ⟨_, rfl, h⟩
          · have h := h.2 hc
            refine ga_iconst (v := 1) hC dX11_isConsistent_55 (by decide) ?_
            refine ga_goto (tgt := 60) hC dX11_isConsistent_56 (by decide) ?_
            exact ga_zret hC dX11_isConsistent_60 (by decide) ⟨_, rfl, h⟩
  · have h := h.2 hc
    refine ga_iconst (v := 1) hC dX11_isConsistent_10 (by decide) ?_
    exact ga_zret hC dX11_isConsistent_11 (by decide) ⟨_, rfl, h⟩
