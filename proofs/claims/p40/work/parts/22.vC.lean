theorem q_1_224 : Cond.fieldLink RX4 9 "Chanceledger$Improver" "pick" "[I" ∈ cg_T := cg_in1 224 (by decide +kernel) (by decide +kernel)
theorem q_1_221 : Cond.fieldLink RX4 15 "Chanceledger$Improver" "game" "LChanceledger$Game;" ∈ cg_T := cg_in1 221 (by decide +kernel) (by decide +kernel)
theorem q_1_79 : Cond.fieldLink RX4 64 "Chanceledger$Game" "choiceCount" "[I" ∈ cg_T := cg_in1 79 (by decide +kernel) (by decide +kernel)
theorem q_3_47 : Cond.methodLink RX4 67 yX2_moveOf ∈ cg_T := cg_in3 47 (by decide +kernel) (by decide +kernel)
theorem q_1_223 : Cond.fieldLink RX4 23 "Chanceledger$Improver" "chain" "LChanceledger$Chain;" ∈ cg_T := cg_in1 223 (by decide +kernel) (by decide +kernel)
theorem q_3_48 : Cond.methodLink RX4 71 yX0_ahead ∈ cg_T := cg_in3 48 (by decide +kernel) (by decide +kernel)
theorem q_1_91 : Cond.fieldLink RX4 75 "Chanceledger$Game" "weightSum" "[I" ∈ cg_T := cg_in1 91 (by decide +kernel) (by decide +kernel)
theorem q_1_47 : Cond.fieldLink RX4 27 "Chanceledger$Game" "count" "I" ∈ cg_T := cg_in1 47 (by decide +kernel) (by decide +kernel)
theorem q_1_68 : Cond.fieldLink RX4 33 "Chanceledger$Game" "isOfA" "[Z" ∈ cg_T := cg_in1 68 (by decide +kernel) (by decide +kernel)
theorem q_3_46 : Cond.methodLink RX4 60 yX2_isTarget ∈ cg_T := cg_in3 46 (by decide +kernel) (by decide +kernel)
theorem q_3_5 : Cond.methodLink RX4 56 yX0_evaluateFrom ∈ cg_T := cg_in3 5 (by decide +kernel) (by decide +kernel)
theorem q_3_42 : Cond.methodLink RX4 46 yX4_change ∈ cg_T := cg_in3 42 (by decide +kernel) (by decide +kernel)
theorem q_3_43 : Cond.instanceMethod yX4_change ∈ cg_T := cg_in3 43 (by decide +kernel) (by decide +kernel)
theorem q_3_44 : Cond.selects RX4 yX4_change yX4_change ∈ cg_T := cg_in3 44 (by decide +kernel) (by decide +kernel)
theorem q_1_6 : Cond.initialized RX4 ∈ cg_T := cg_in1 6 (by decide +kernel) (by decide +kernel)
theorem q_3_45 : Cond.code yX4_change cX4_change 13 (some .boolean) ∈ cg_T := cg_in3 45 (by decide +kernel) (by decide +kernel)
theorem q_1_222 : Cond.fieldLink RX4 19 "Chanceledger$Improver" "graph" "LChanceledger$Graph;" ∈ cg_T := cg_in1 222 (by decide +kernel) (by decide +kernel)
theorem q_2_227 : Cond.methodLink RX4 50 yX3_stayAway ∈ cg_T := cg_in2 227 (by decide +kernel) (by decide +kernel)
theorem q_2_228 : Cond.instanceMethod yX3_stayAway ∈ cg_T := cg_in2 228 (by decide +kernel) (by decide +kernel)
theorem q_2_229 : Cond.selects RX3 yX3_stayAway yX3_stayAway ∈ cg_T := cg_in2 229 (by decide +kernel) (by decide +kernel)
theorem q_2_230 : Cond.code yX3_stayAway cX3_stayAway 6 none ∈ cg_T := cg_in2 230 (by decide +kernel) (by decide +kernel)
theorem q_2_223 : Cond.methodLink RX4 42 yX4_respond ∈ cg_T := cg_in2 223 (by decide +kernel) (by decide +kernel)
theorem q_2_224 : Cond.instanceMethod yX4_respond ∈ cg_T := cg_in2 224 (by decide +kernel) (by decide +kernel)
theorem q_2_225 : Cond.selects RX4 yX4_respond yX4_respond ∈ cg_T := cg_in2 225 (by decide +kernel) (by decide +kernel)
theorem q_2_226 : Cond.code yX4_respond cX4_respond 5 none ∈ cg_T := cg_in2 226 (by decide +kernel) (by decide +kernel)
theorem q_2_219 : Cond.methodLink RX4 37 yX0_arrange ∈ cg_T := cg_in2 219 (by decide +kernel) (by decide +kernel)
theorem q_2_93 : Cond.fieldLink RX5 18 "Chanceledger$Likeness" "game" "LChanceledger$Game;" ∈ cg_T := cg_in2 93 (by decide +kernel) (by decide +kernel)
theorem q_1_45 : Cond.fieldLink RX5 22 "Chanceledger$Game" "count" "I" ∈ cg_T := cg_in1 45 (by decide +kernel) (by decide +kernel)
theorem q_2_94 : Cond.fieldLink RX5 9 "Chanceledger$Likeness" "lowest" "[I" ∈ cg_T := cg_in2 94 (by decide +kernel) (by decide +kernel)
theorem q_1_101 : Cond.fieldLink RX5 75 "Chanceledger$Game" "weight" "[[I" ∈ cg_T := cg_in1 101 (by decide +kernel) (by decide +kernel)
theorem q_2_207 : Cond.methodLink RX5 69 yX5_weightInto ∈ cg_T := cg_in2 207 (by decide +kernel) (by decide +kernel)
theorem q_2_208 : Cond.instanceMethod yX5_weightInto ∈ cg_T := cg_in2 208 (by decide +kernel) (by decide +kernel)
theorem q_2_209 : Cond.selects RX5 yX5_weightInto yX5_weightInto ∈ cg_T := cg_in2 209 (by decide +kernel) (by decide +kernel)
theorem q_1_11 : Cond.initialized RX5 ∈ cg_T := cg_in1 11 (by decide +kernel) (by decide +kernel)
theorem q_2_210 : Cond.code yX5_weightInto cX5_weightInto 5 (some .int) ∈ cg_T := cg_in2 210 (by decide +kernel) (by decide +kernel)
theorem q_1_92 : Cond.fieldLink RX5 72 "Chanceledger$Game" "weightSum" "[I" ∈ cg_T := cg_in1 92 (by decide +kernel) (by decide +kernel)
theorem q_1_84 : Cond.fieldLink RX5 63 "Chanceledger$Game" "firstCost" "[I" ∈ cg_T := cg_in1 84 (by decide +kernel) (by decide +kernel)
theorem q_1_87 : Cond.fieldLink RX5 66 "Chanceledger$Game" "secondCost" "[I" ∈ cg_T := cg_in1 87 (by decide +kernel) (by decide +kernel)
theorem q_1_80 : Cond.fieldLink RX5 50 "Chanceledger$Game" "choiceCount" "[I" ∈ cg_T := cg_in1 80 (by decide +kernel) (by decide +kernel)
theorem q_2_198 : Cond.methodLink RX5 53 yX2_moveOf ∈ cg_T := cg_in2 198 (by decide +kernel) (by decide +kernel)
theorem q_2_203 : Cond.methodLink RX5 60 yX5_isLike ∈ cg_T := cg_in2 203 (by decide +kernel) (by decide +kernel)
theorem q_2_204 : Cond.instanceMethod yX5_isLike ∈ cg_T := cg_in2 204 (by decide +kernel) (by decide +kernel)
theorem q_2_205 : Cond.selects RX5 yX5_isLike yX5_isLike ∈ cg_T := cg_in2 205 (by decide +kernel) (by decide +kernel)
theorem q_2_206 : Cond.code yX5_isLike cX5_isLike 5 (some .boolean) ∈ cg_T := cg_in2 206 (by decide +kernel) (by decide +kernel)
theorem q_2_199 : Cond.methodLink RX5 57 yX5_hasLike ∈ cg_T := cg_in2 199 (by decide +kernel) (by decide +kernel)
theorem q_2_200 : Cond.instanceMethod yX5_hasLike ∈ cg_T := cg_in2 200 (by decide +kernel) (by decide +kernel)
theorem q_2_201 : Cond.selects RX5 yX5_hasLike yX5_hasLike ∈ cg_T := cg_in2 201 (by decide +kernel) (by decide +kernel)
theorem q_2_202 : Cond.code yX5_hasLike cX5_hasLike 4 (some .boolean) ∈ cg_T := cg_in2 202 (by decide +kernel) (by decide +kernel)
theorem q_2_194 : Cond.methodLink RX5 46 yX5_isAnswered ∈ cg_T := cg_in2 194 (by decide +kernel) (by decide +kernel)
theorem q_2_195 : Cond.instanceMethod yX5_isAnswered ∈ cg_T := cg_in2 195 (by decide +kernel) (by decide +kernel)
theorem q_2_196 : Cond.selects RX5 yX5_isAnswered yX5_isAnswered ∈ cg_T := cg_in2 196 (by decide +kernel) (by decide +kernel)
theorem q_2_197 : Cond.code yX5_isAnswered cX5_isAnswered 4 (some .boolean) ∈ cg_T := cg_in2 197 (by decide +kernel) (by decide +kernel)
theorem q_1_71 : Cond.fieldLink RX5 35 "Chanceledger$Game" "isOfA" "[Z" ∈ cg_T := cg_in1 71 (by decide +kernel) (by decide +kernel)
theorem q_1_74 : Cond.fieldLink RX5 39 "Chanceledger$Game" "colour" "[I" ∈ cg_T := cg_in1 74 (by decide +kernel) (by decide +kernel)
theorem q_2_183 : Cond.methodLink RX5 42 yX2_isTarget ∈ cg_T := cg_in2 183 (by decide +kernel) (by decide +kernel)
theorem q_2_96 : Cond.fieldLink RX5 15 "Chanceledger$Likeness" "finer" "[I" ∈ cg_T := cg_in2 96 (by decide +kernel) (by decide +kernel)
theorem q_2_190 : Cond.methodLink RX5 32 yX5_lowestLike ∈ cg_T := cg_in2 190 (by decide +kernel) (by decide +kernel)
theorem q_2_191 : Cond.instanceMethod yX5_lowestLike ∈ cg_T := cg_in2 191 (by decide +kernel) (by decide +kernel)
theorem q_2_192 : Cond.selects RX5 yX5_lowestLike yX5_lowestLike ∈ cg_T := cg_in2 192 (by decide +kernel) (by decide +kernel)
theorem q_2_193 : Cond.code yX5_lowestLike cX5_lowestLike 3 (some .int) ∈ cg_T := cg_in2 193 (by decide +kernel) (by decide +kernel)
theorem q_2_179 : Cond.methodLink RX5 28 yX5_lowestLook ∈ cg_T := cg_in2 179 (by decide +kernel) (by decide +kernel)
theorem q_2_180 : Cond.instanceMethod yX5_lowestLook ∈ cg_T := cg_in2 180 (by decide +kernel) (by decide +kernel)
theorem q_2_181 : Cond.selects RX5 yX5_lowestLook yX5_lowestLook ∈ cg_T := cg_in2 181 (by decide +kernel) (by decide +kernel)
theorem q_2_182 : Cond.code yX5_lowestLook cX5_lowestLook 3 (some .int) ∈ cg_T := cg_in2 182 (by decide +kernel) (by decide +kernel)
theorem q_2_21 : Cond.fieldLink RX6 26 "Chanceledger$LongRun" "game" "LChanceledger$Game;" ∈ cg_T := cg_in2 21 (by decide +kernel) (by decide +kernel)
theorem q_1_49 : Cond.fieldLink RX6 44 "Chanceledger$Game" "count" "I" ∈ cg_T := cg_in1 49 (by decide +kernel) (by decide +kernel)
theorem q_2_24 : Cond.fieldLink RX6 9 "Chanceledger$LongRun" "closed" "[I" ∈ cg_T := cg_in2 24 (by decide +kernel) (by decide +kernel)
theorem q_2_22 : Cond.fieldLink RX6 30 "Chanceledger$LongRun" "graph" "LChanceledger$Graph;" ∈ cg_T := cg_in2 22 (by decide +kernel) (by decide +kernel)
theorem q_4_233 : Cond.methodLink RX6 50 yX3_closedSet ∈ cg_T := cg_in4 233 (by decide +kernel) (by decide +kernel)
theorem q_4_234 : Cond.instanceMethod yX3_closedSet ∈ cg_T := cg_in4 234 (by decide +kernel) (by decide +kernel)
theorem q_4_235 : Cond.selects RX3 yX3_closedSet yX3_closedSet ∈ cg_T := cg_in4 235 (by decide +kernel) (by decide +kernel)
theorem q_4_236 : Cond.code yX3_closedSet cX3_closedSet 3 (some .int) ∈ cg_T := cg_in4 236 (by decide +kernel) (by decide +kernel)
theorem q_4_225 : Cond.methodLink RX6 38 yX3_follow ∈ cg_T := cg_in4 225 (by decide +kernel) (by decide +kernel)
theorem q_4_226 : Cond.instanceMethod yX3_follow ∈ cg_T := cg_in4 226 (by decide +kernel) (by decide +kernel)
theorem q_4_227 : Cond.selects RX3 yX3_follow yX3_follow ∈ cg_T := cg_in4 227 (by decide +kernel) (by decide +kernel)
theorem q_4_228 : Cond.code yX3_follow cX3_follow 3 none ∈ cg_T := cg_in4 228 (by decide +kernel) (by decide +kernel)
theorem q_5_42 : Cond.methodLink RX6 66 yX2_holds ∈ cg_T := cg_in5 42 (by decide +kernel) (by decide +kernel)
theorem q_1_75 : Cond.fieldLink RX6 70 "Chanceledger$Game" "colour" "[I" ∈ cg_T := cg_in1 75 (by decide +kernel) (by decide +kernel)
theorem q_5_43 : Cond.methodLink RX6 73 yJ9_min_7cf53 ∈ cg_T := cg_in5 43 (by decide +kernel) (by decide +kernel)
theorem q_5_44 : Cond.static yJ9_min_7cf53 ∈ cg_T := cg_in5 44 (by decide +kernel) (by decide +kernel)
theorem q_1_28 : Cond.initialized RJ9 ∈ cg_T := cg_in1 28 (by decide +kernel) (by decide +kernel)
theorem q_5_45 : Cond.code yJ9_min_7cf53 cJ9_min_7cf53 2 (some .int) ∈ cg_T := cg_in5 45 (by decide +kernel) (by decide +kernel)
theorem q_2_23 : Cond.fieldLink RX6 34 "Chanceledger$LongRun" "chain" "LChanceledger$Chain;" ∈ cg_T := cg_in2 23 (by decide +kernel) (by decide +kernel)
theorem q_5_46 : Cond.methodLink RX6 60 yX0_evaluateReach ∈ cg_T := cg_in5 46 (by decide +kernel) (by decide +kernel)
theorem q_5_47 : Cond.instanceMethod yX0_evaluateReach ∈ cg_T := cg_in5 47 (by decide +kernel) (by decide +kernel)
theorem q_5_48 : Cond.selects RX0 yX0_evaluateReach yX0_evaluateReach ∈ cg_T := cg_in5 48 (by decide +kernel) (by decide +kernel)
theorem q_5_49 : Cond.code yX0_evaluateReach cX0_evaluateReach 4 none ∈ cg_T := cg_in5 49 (by decide +kernel) (by decide +kernel)
theorem q_5_38 : Cond.methodLink RX6 57 yX6_leastColour ∈ cg_T := cg_in5 38 (by decide +kernel) (by decide +kernel)
theorem q_5_39 : Cond.instanceMethod yX6_leastColour ∈ cg_T := cg_in5 39 (by decide +kernel) (by decide +kernel)
theorem q_5_40 : Cond.selects RX6 yX6_leastColour yX6_leastColour ∈ cg_T := cg_in5 40 (by decide +kernel) (by decide +kernel)
theorem q_1_7 : Cond.initialized RX6 ∈ cg_T := cg_in1 7 (by decide +kernel) (by decide +kernel)
theorem q_5_41 : Cond.code yX6_leastColour cX6_leastColour 4 (some .int) ∈ cg_T := cg_in5 41 (by decide +kernel) (by decide +kernel)
theorem q_4_221 : Cond.methodLink RX6 54 yX6_findClosed ∈ cg_T := cg_in4 221 (by decide +kernel) (by decide +kernel)
theorem q_4_222 : Cond.instanceMethod yX6_findClosed ∈ cg_T := cg_in4 222 (by decide +kernel) (by decide +kernel)
theorem q_4_223 : Cond.selects RX6 yX6_findClosed yX6_findClosed ∈ cg_T := cg_in4 223 (by decide +kernel) (by decide +kernel)
theorem q_4_224 : Cond.code yX6_findClosed cX6_findClosed 3 none ∈ cg_T := cg_in4 224 (by decide +kernel) (by decide +kernel)
theorem q_5_10 : Cond.methodLink RX6 109 yJ6_numberOfTrailingZeros_0f7a4 ∈ cg_T := cg_in5 10 (by decide +kernel) (by decide +kernel)
theorem q_5_11 : Cond.static yJ6_numberOfTrailingZeros_0f7a4 ∈ cg_T := cg_in5 11 (by decide +kernel) (by decide +kernel)
theorem q_1_27 : Cond.initialized RJ6 ∈ cg_T := cg_in1 27 (by decide +kernel) (by decide +kernel)
theorem q_5_12 : Cond.code yJ6_numberOfTrailingZeros_0f7a4 cJ6_numberOfTrailingZeros_0f7a4 2 (some .int) ∈ cg_T := cg_in5 12 (by decide +kernel) (by decide +kernel)
theorem q_1_205 : Cond.fieldLink RX6 86 "Chanceledger$Chain" "equations" "LChanceledger$Equations;" ∈ cg_T := cg_in1 205 (by decide +kernel) (by decide +kernel)
theorem q_5_14 : Cond.methodLink RX6 114 yX1_fix ∈ cg_T := cg_in5 14 (by decide +kernel) (by decide +kernel)
theorem q_5_17 : Cond.methodLink RX6 132 yX0_solveAll ∈ cg_T := cg_in5 17 (by decide +kernel) (by decide +kernel)
theorem q_5_6 : Cond.methodLink RX6 95 yX6_isReturn ∈ cg_T := cg_in5 6 (by decide +kernel) (by decide +kernel)
theorem q_5_7 : Cond.instanceMethod yX6_isReturn ∈ cg_T := cg_in5 7 (by decide +kernel) (by decide +kernel)
theorem q_5_8 : Cond.selects RX6 yX6_isReturn yX6_isReturn ∈ cg_T := cg_in5 8 (by decide +kernel) (by decide +kernel)
theorem q_5_9 : Cond.code yX6_isReturn cX6_isReturn 2 (some .boolean) ∈ cg_T := cg_in5 9 (by decide +kernel) (by decide +kernel)
theorem q_5_15 : Cond.methodLink RX6 99 yX2_moveOf ∈ cg_T := cg_in5 15 (by decide +kernel) (by decide +kernel)
theorem q_5_16 : Cond.methodLink RX6 118 yX0_step ∈ cg_T := cg_in5 16 (by decide +kernel) (by decide +kernel)
theorem q_1_180 : Cond.fieldLink RX6 122 "Chanceledger$Equations" "grid" "[[J" ∈ cg_T := cg_in1 180 (by decide +kernel) (by decide +kernel)
theorem q_1_93 : Cond.fieldLink RX6 126 "Chanceledger$Game" "weightSum" "[I" ∈ cg_T := cg_in1 93 (by decide +kernel) (by decide +kernel)
theorem q_1_85 : Cond.fieldLink RX6 129 "Chanceledger$Game" "firstCost" "[I" ∈ cg_T := cg_in1 85 (by decide +kernel) (by decide +kernel)
theorem q_2_26 : Cond.fieldLink RX6 22 "Chanceledger$LongRun" "means" "LChanceledger$Values;" ∈ cg_T := cg_in2 26 (by decide +kernel) (by decide +kernel)
theorem q_5_28 : Cond.methodLink RX6 154 yX10_put ∈ cg_T := cg_in5 28 (by decide +kernel) (by decide +kernel)
theorem q_1_102 : Cond.fieldLink RX6 143 "Chanceledger$Game" "weight" "[[I" ∈ cg_T := cg_in1 102 (by decide +kernel) (by decide +kernel)
theorem q_2_25 : Cond.fieldLink RX6 15 "Chanceledger$LongRun" "costs" "[J" ∈ cg_T := cg_in2 25 (by decide +kernel) (by decide +kernel)
theorem q_1_188 : Cond.fieldLink RX6 135 "Chanceledger$Equations" "divisor" "J" ∈ cg_T := cg_in1 188 (by decide +kernel) (by decide +kernel)
theorem q_5_25 : Cond.methodLink RX6 139 yX0_expected ∈ cg_T := cg_in5 25 (by decide +kernel) (by decide +kernel)
theorem q_2_9 : Cond.fieldLink RX6 161 "Chanceledger$Values" "up" "[J" ∈ cg_T := cg_in2 9 (by decide +kernel) (by decide +kernel)
theorem q_2_14 : Cond.fieldLink RX6 158 "Chanceledger$Values" "down" "[J" ∈ cg_T := cg_in2 14 (by decide +kernel) (by decide +kernel)
theorem q_5_29 : Cond.methodLink RX6 106 yX6_spreadMeans ∈ cg_T := cg_in5 29 (by decide +kernel) (by decide +kernel)
theorem q_5_30 : Cond.instanceMethod yX6_spreadMeans ∈ cg_T := cg_in5 30 (by decide +kernel) (by decide +kernel)
theorem q_5_31 : Cond.selects RX6 yX6_spreadMeans yX6_spreadMeans ∈ cg_T := cg_in5 31 (by decide +kernel) (by decide +kernel)
theorem q_5_32 : Cond.code yX6_spreadMeans cX6_spreadMeans 6 none ∈ cg_T := cg_in5 32 (by decide +kernel) (by decide +kernel)
theorem q_5_21 : Cond.methodLink RX6 102 yX6_findMean ∈ cg_T := cg_in5 21 (by decide +kernel) (by decide +kernel)
theorem q_5_22 : Cond.instanceMethod yX6_findMean ∈ cg_T := cg_in5 22 (by decide +kernel) (by decide +kernel)
theorem q_5_23 : Cond.selects RX6 yX6_findMean yX6_findMean ∈ cg_T := cg_in5 23 (by decide +kernel) (by decide +kernel)
theorem q_5_24 : Cond.code yX6_findMean cX6_findMean 8 none ∈ cg_T := cg_in5 24 (by decide +kernel) (by decide +kernel)
theorem q_5_2 : Cond.methodLink RX6 82 yX6_solveReturns ∈ cg_T := cg_in5 2 (by decide +kernel) (by decide +kernel)
theorem q_5_3 : Cond.instanceMethod yX6_solveReturns ∈ cg_T := cg_in5 3 (by decide +kernel) (by decide +kernel)
theorem q_5_4 : Cond.selects RX6 yX6_solveReturns yX6_solveReturns ∈ cg_T := cg_in5 4 (by decide +kernel) (by decide +kernel)
theorem q_5_5 : Cond.code yX6_solveReturns cX6_solveReturns 5 none ∈ cg_T := cg_in5 5 (by decide +kernel) (by decide +kernel)
theorem q_1_184 : Cond.fieldLink RX6 90 "Chanceledger$Equations" "answer" "[J" ∈ cg_T := cg_in1 184 (by decide +kernel) (by decide +kernel)
theorem q_5_1 : Cond.methodLink RX6 79 yX0_arrange ∈ cg_T := cg_in5 1 (by decide +kernel) (by decide +kernel)
theorem q_2_50 : Cond.fieldLink RX7 33 "Chanceledger$Sweep" "chain" "LChanceledger$Chain;" ∈ cg_T := cg_in2 50 (by decide +kernel) (by decide +kernel)
theorem q_1_204 : Cond.fieldLink RX7 74 "Chanceledger$Chain" "equations" "LChanceledger$Equations;" ∈ cg_T := cg_in1 204 (by decide +kernel) (by decide +kernel)
theorem q_1_178 : Cond.fieldLink RX7 105 "Chanceledger$Equations" "order" "[I" ∈ cg_T := cg_in1 178 (by decide +kernel) (by decide +kernel)
theorem q_2_51 : Cond.fieldLink RX7 9 "Chanceledger$Sweep" "pick" "[I" ∈ cg_T := cg_in2 51 (by decide +kernel) (by decide +kernel)
theorem q_2_49 : Cond.fieldLink RX7 29 "Chanceledger$Sweep" "game" "LChanceledger$Game;" ∈ cg_T := cg_in2 49 (by decide +kernel) (by decide +kernel)
theorem q_1_82 : Cond.fieldLink RX7 108 "Chanceledger$Game" "choiceCount" "[I" ∈ cg_T := cg_in1 82 (by decide +kernel) (by decide +kernel)
theorem q_1_175 : Cond.fieldLink RX7 102 "Chanceledger$Equations" "size" "I" ∈ cg_T := cg_in1 175 (by decide +kernel) (by decide +kernel)
theorem q_2_52 : Cond.fieldLink RX7 18 "Chanceledger$Sweep" "least" "LChanceledger$Values;" ∈ cg_T := cg_in2 52 (by decide +kernel) (by decide +kernel)
theorem q_3_85 : Cond.methodLink RX7 98 yX10_put ∈ cg_T := cg_in3 85 (by decide +kernel) (by decide +kernel)
theorem q_1_52 : Cond.fieldLink RX7 47 "Chanceledger$Game" "count" "I" ∈ cg_T := cg_in1 52 (by decide +kernel) (by decide +kernel)
theorem q_1_183 : Cond.fieldLink RX7 84 "Chanceledger$Equations" "answer" "[J" ∈ cg_T := cg_in1 183 (by decide +kernel) (by decide +kernel)
theorem q_2_8 : Cond.fieldLink RX7 88 "Chanceledger$Values" "up" "[J" ∈ cg_T := cg_in2 8 (by decide +kernel) (by decide +kernel)
theorem q_2_13 : Cond.fieldLink RX7 91 "Chanceledger$Values" "down" "[J" ∈ cg_T := cg_in2 13 (by decide +kernel) (by decide +kernel)
theorem q_3_79 : Cond.static yX11_compareFractions ∈ cg_T := cg_in3 79 (by decide +kernel) (by decide +kernel)
theorem q_3_80 : Cond.code yX11_compareFractions cX11_compareFractions 12 (some .int) ∈ cg_T := cg_in3 80 (by decide +kernel) (by decide +kernel)
theorem q_1_187 : Cond.fieldLink RX7 78 "Chanceledger$Equations" "divisor" "J" ∈ cg_T := cg_in1 187 (by decide +kernel) (by decide +kernel)
theorem q_3_90 : Cond.methodLink RX7 70 yX7_takeGreatest ∈ cg_T := cg_in3 90 (by decide +kernel) (by decide +kernel)
theorem q_3_91 : Cond.instanceMethod yX7_takeGreatest ∈ cg_T := cg_in3 91 (by decide +kernel) (by decide +kernel)
theorem q_3_92 : Cond.selects RX7 yX7_takeGreatest yX7_takeGreatest ∈ cg_T := cg_in3 92 (by decide +kernel) (by decide +kernel)
theorem q_1_9 : Cond.initialized RX7 ∈ cg_T := cg_in1 9 (by decide +kernel) (by decide +kernel)
theorem q_3_93 : Cond.code yX7_takeGreatest cX7_takeGreatest 4 none ∈ cg_T := cg_in3 93 (by decide +kernel) (by decide +kernel)
theorem q_3_73 : Cond.methodLink RX7 55 yX0_evaluateFrom ∈ cg_T := cg_in3 73 (by decide +kernel) (by decide +kernel)
theorem q_3_74 : Cond.methodLink RX7 59 yX7_takeLeast ∈ cg_T := cg_in3 74 (by decide +kernel) (by decide +kernel)
theorem q_3_75 : Cond.instanceMethod yX7_takeLeast ∈ cg_T := cg_in3 75 (by decide +kernel) (by decide +kernel)
theorem q_3_76 : Cond.selects RX7 yX7_takeLeast yX7_takeLeast ∈ cg_T := cg_in3 76 (by decide +kernel) (by decide +kernel)
theorem q_3_77 : Cond.code yX7_takeLeast cX7_takeLeast 7 none ∈ cg_T := cg_in3 77 (by decide +kernel) (by decide +kernel)
theorem q_3_86 : Cond.methodLink RX7 63 yX7_advance ∈ cg_T := cg_in3 86 (by decide +kernel) (by decide +kernel)
theorem q_3_87 : Cond.instanceMethod yX7_advance ∈ cg_T := cg_in3 87 (by decide +kernel) (by decide +kernel)
theorem q_3_88 : Cond.selects RX7 yX7_advance yX7_advance ∈ cg_T := cg_in3 88 (by decide +kernel) (by decide +kernel)
theorem q_3_89 : Cond.code yX7_advance cX7_advance 3 (some .int) ∈ cg_T := cg_in3 89 (by decide +kernel) (by decide +kernel)
theorem q_1_207 : Cond.fieldLink RX7 67 "Chanceledger$Chain" "statesOfA" "I" ∈ cg_T := cg_in1 207 (by decide +kernel) (by decide +kernel)
theorem q_3_72 : Cond.methodLink RX7 50 yX0_arrange ∈ cg_T := cg_in3 72 (by decide +kernel) (by decide +kernel)
theorem q_2_53 : Cond.fieldLink RX7 22 "Chanceledger$Sweep" "kept" "[LChanceledger$Values;" ∈ cg_T := cg_in2 53 (by decide +kernel) (by decide +kernel)
theorem q_2_54 : Cond.fieldLink RX7 26 "Chanceledger$Sweep" "keptAt" "[I" ∈ cg_T := cg_in2 54 (by decide +kernel) (by decide +kernel)
theorem q_1_65 : Cond.fieldLink RX7 37 "Chanceledger$Game" "changes" "I" ∈ cg_T := cg_in1 65 (by decide +kernel) (by decide +kernel)
theorem q_3_68 : Cond.methodLink RX7 43 yX7_sweepAll ∈ cg_T := cg_in3 68 (by decide +kernel) (by decide +kernel)
theorem q_3_69 : Cond.instanceMethod yX7_sweepAll ∈ cg_T := cg_in3 69 (by decide +kernel) (by decide +kernel)
theorem q_3_70 : Cond.selects RX7 yX7_sweepAll yX7_sweepAll ∈ cg_T := cg_in3 70 (by decide +kernel) (by decide +kernel)
theorem q_3_71 : Cond.code yX7_sweepAll cX7_sweepAll 7 none ∈ cg_T := cg_in3 71 (by decide +kernel) (by decide +kernel)
theorem q_2_74 : Cond.fieldLink RX8 15 "Chanceledger$Teller" "game" "LChanceledger$Game;" ∈ cg_T := cg_in2 74 (by decide +kernel) (by decide +kernel)
theorem q_1_77 : Cond.fieldLink RX8 67 "Chanceledger$Game" "choiceCount" "[I" ∈ cg_T := cg_in1 77 (by decide +kernel) (by decide +kernel)
theorem q_4_118 : Cond.methodLink RX8 70 yX2_moveOf ∈ cg_T := cg_in4 118 (by decide +kernel) (by decide +kernel)
theorem q_2_75 : Cond.fieldLink RX8 19 "Chanceledger$Teller" "chain" "LChanceledger$Chain;" ∈ cg_T := cg_in2 75 (by decide +kernel) (by decide +kernel)
theorem q_4_119 : Cond.methodLink RX8 74 yX0_isGood ∈ cg_T := cg_in4 119 (by decide +kernel) (by decide +kernel)
theorem q_4_120 : Cond.instanceMethod yX0_isGood ∈ cg_T := cg_in4 120 (by decide +kernel) (by decide +kernel)
theorem q_4_121 : Cond.selects RX0 yX0_isGood yX0_isGood ∈ cg_T := cg_in4 121 (by decide +kernel) (by decide +kernel)
theorem q_4_122 : Cond.code yX0_isGood cX0_isGood 6 (some .boolean) ∈ cg_T := cg_in4 122 (by decide +kernel) (by decide +kernel)
theorem q_1_97 : Cond.fieldLink RX8 78 "Chanceledger$Game" "leads" "[I" ∈ cg_T := cg_in1 97 (by decide +kernel) (by decide +kernel)
theorem q_1_70 : Cond.fieldLink RX8 42 "Chanceledger$Game" "isOfA" "[Z" ∈ cg_T := cg_in1 70 (by decide +kernel) (by decide +kernel)
theorem q_1_51 : Cond.fieldLink RX8 36 "Chanceledger$Game" "count" "I" ∈ cg_T := cg_in1 51 (by decide +kernel) (by decide +kernel)
theorem q_2_77 : Cond.fieldLink RX8 9 "Chanceledger$Teller" "rank" "[I" ∈ cg_T := cg_in2 77 (by decide +kernel) (by decide +kernel)
theorem q_4_110 : Cond.methodLink RX8 50 yX0_isNought ∈ cg_T := cg_in4 110 (by decide +kernel) (by decide +kernel)
theorem q_4_111 : Cond.instanceMethod yX0_isNought ∈ cg_T := cg_in4 111 (by decide +kernel) (by decide +kernel)
theorem q_4_112 : Cond.selects RX0 yX0_isNought yX0_isNought ∈ cg_T := cg_in4 112 (by decide +kernel) (by decide +kernel)
theorem q_4_113 : Cond.code yX0_isNought cX0_isNought 2 (some .boolean) ∈ cg_T := cg_in4 113 (by decide +kernel) (by decide +kernel)
theorem q_4_114 : Cond.methodLink RX8 84 yX8_isDrawn ∈ cg_T := cg_in4 114 (by decide +kernel) (by decide +kernel)
theorem q_4_115 : Cond.instanceMethod yX8_isDrawn ∈ cg_T := cg_in4 115 (by decide +kernel) (by decide +kernel)
theorem q_4_116 : Cond.selects RX8 yX8_isDrawn yX8_isDrawn ∈ cg_T := cg_in4 116 (by decide +kernel) (by decide +kernel)
theorem q_1_10 : Cond.initialized RX8 ∈ cg_T := cg_in1 10 (by decide +kernel) (by decide +kernel)
theorem q_4_117 : Cond.code yX8_isDrawn cX8_isDrawn 6 (some .boolean) ∈ cg_T := cg_in4 117 (by decide +kernel) (by decide +kernel)
theorem q_1_57 : Cond.fieldLink RX8 81 "Chanceledger$Game" "targets" "I" ∈ cg_T := cg_in1 57 (by decide +kernel) (by decide +kernel)
theorem q_4_109 : Cond.methodLink RX8 46 yX2_isTarget ∈ cg_T := cg_in4 109 (by decide +kernel) (by decide +kernel)
theorem q_4_130 : Cond.methodLink RX8 63 yX8_lowestGood ∈ cg_T := cg_in4 130 (by decide +kernel) (by decide +kernel)
theorem q_4_131 : Cond.instanceMethod yX8_lowestGood ∈ cg_T := cg_in4 131 (by decide +kernel) (by decide +kernel)
theorem q_4_132 : Cond.selects RX8 yX8_lowestGood yX8_lowestGood ∈ cg_T := cg_in4 132 (by decide +kernel) (by decide +kernel)
theorem q_4_133 : Cond.code yX8_lowestGood cX8_lowestGood 6 (some .int) ∈ cg_T := cg_in4 133 (by decide +kernel) (by decide +kernel)
theorem q_4_129 : Cond.methodLink RX8 59 yX2_everyState ∈ cg_T := cg_in4 129 (by decide +kernel) (by decide +kernel)
theorem q_4_125 : Cond.methodLink RX8 55 yX8_lowerThan ∈ cg_T := cg_in4 125 (by decide +kernel) (by decide +kernel)
theorem q_4_126 : Cond.instanceMethod yX8_lowerThan ∈ cg_T := cg_in4 126 (by decide +kernel) (by decide +kernel)
theorem q_4_127 : Cond.selects RX8 yX8_lowerThan yX8_lowerThan ∈ cg_T := cg_in4 127 (by decide +kernel) (by decide +kernel)
theorem q_4_128 : Cond.code yX8_lowerThan cX8_lowerThan 4 (some .int) ∈ cg_T := cg_in4 128 (by decide +kernel) (by decide +kernel)
theorem q_2_76 : Cond.fieldLink RX8 23 "Chanceledger$Teller" "improver" "LChanceledger$Improver;" ∈ cg_T := cg_in2 76 (by decide +kernel) (by decide +kernel)
theorem q_4_104 : Cond.methodLink RX8 27 yX4_improve ∈ cg_T := cg_in4 104 (by decide +kernel) (by decide +kernel)
theorem q_2_216 : Cond.instanceMethod yX4_improve ∈ cg_T := cg_in2 216 (by decide +kernel) (by decide +kernel)
theorem q_2_217 : Cond.selects RX4 yX4_improve yX4_improve ∈ cg_T := cg_in2 217 (by decide +kernel) (by decide +kernel)
theorem q_2_218 : Cond.code yX4_improve cX4_improve 7 none ∈ cg_T := cg_in2 218 (by decide +kernel) (by decide +kernel)
theorem q_4_105 : Cond.methodLink RX8 33 yX8_rankStates ∈ cg_T := cg_in4 105 (by decide +kernel) (by decide +kernel)
theorem q_4_106 : Cond.instanceMethod yX8_rankStates ∈ cg_T := cg_in4 106 (by decide +kernel) (by decide +kernel)
theorem q_4_107 : Cond.selects RX8 yX8_rankStates yX8_rankStates ∈ cg_T := cg_in4 107 (by decide +kernel) (by decide +kernel)
theorem q_4_108 : Cond.code yX8_rankStates cX8_rankStates 5 none ∈ cg_T := cg_in4 108 (by decide +kernel) (by decide +kernel)
theorem q_2_113 : Cond.fieldLink RX9 12 "Chanceledger$Traces" "weights" "LChanceledger$Values;" ∈ cg_T := cg_in2 113 (by decide +kernel) (by decide +kernel)
theorem q_6_51 : Cond.methodLink RX9 36 yX10_put ∈ cg_T := cg_in6 51 (by decide +kernel) (by decide +kernel)
theorem q_2_115 : Cond.fieldLink RX9 18 "Chanceledger$Traces" "length" "[I" ∈ cg_T := cg_in2 115 (by decide +kernel) (by decide +kernel)
theorem q_2_112 : Cond.fieldLink RX9 22 "Chanceledger$Traces" "game" "LChanceledger$Game;" ∈ cg_T := cg_in2 112 (by decide +kernel) (by decide +kernel)
theorem q_1_46 : Cond.fieldLink RX9 26 "Chanceledger$Game" "count" "I" ∈ cg_T := cg_in1 46 (by decide +kernel) (by decide +kernel)
theorem q_1_100 : Cond.fieldLink RX9 48 "Chanceledger$Game" "weight" "[[I" ∈ cg_T := cg_in1 100 (by decide +kernel) (by decide +kernel)
theorem q_2_7 : Cond.fieldLink RX9 52 "Chanceledger$Values" "up" "[J" ∈ cg_T := cg_in2 7 (by decide +kernel) (by decide +kernel)
theorem q_1_89 : Cond.fieldLink RX9 56 "Chanceledger$Game" "weightSum" "[I" ∈ cg_T := cg_in1 89 (by decide +kernel) (by decide +kernel)
theorem q_2_12 : Cond.fieldLink RX9 59 "Chanceledger$Values" "down" "[J" ∈ cg_T := cg_in2 12 (by decide +kernel) (by decide +kernel)
theorem q_6_50 : Cond.methodLink RX9 32 yX2_isTarget ∈ cg_T := cg_in6 50 (by decide +kernel) (by decide +kernel)
theorem q_6_52 : Cond.methodLink RX9 40 yX2_moveOf ∈ cg_T := cg_in6 52 (by decide +kernel) (by decide +kernel)
theorem q_6_53 : Cond.methodLink RX9 44 yX9_lengthen ∈ cg_T := cg_in6 53 (by decide +kernel) (by decide +kernel)
theorem q_6_54 : Cond.instanceMethod yX9_lengthen ∈ cg_T := cg_in6 54 (by decide +kernel) (by decide +kernel)
theorem q_6_55 : Cond.selects RX9 yX9_lengthen yX9_lengthen ∈ cg_T := cg_in6 55 (by decide +kernel) (by decide +kernel)
theorem q_1_12 : Cond.initialized RX9 ∈ cg_T := cg_in1 12 (by decide +kernel) (by decide +kernel)
theorem q_6_56 : Cond.code yX9_lengthen cX9_lengthen 9 none ∈ cg_T := cg_in6 56 (by decide +kernel) (by decide +kernel)
theorem q_6_71 : Cond.methodLink RX9 66 yX9_nextOf ∈ cg_T := cg_in6 71 (by decide +kernel) (by decide +kernel)
theorem q_6_72 : Cond.instanceMethod yX9_nextOf ∈ cg_T := cg_in6 72 (by decide +kernel) (by decide +kernel)
theorem q_6_73 : Cond.selects RX9 yX9_nextOf yX9_nextOf ∈ cg_T := cg_in6 73 (by decide +kernel) (by decide +kernel)
theorem q_6_74 : Cond.code yX9_nextOf cX9_nextOf 8 (some .int) ∈ cg_T := cg_in6 74 (by decide +kernel) (by decide +kernel)
def M_X4_change (v1 : Int32) (v2 : Int32) (σ : cg_S) (Q : Int32 → cg_S → Prop) : Prop := cg_M cg_WC yX4_change cX4_change 13 (some .boolean) (cg_R 2) (fun ad => [.ref (ad 6), .int v1, .int v2]) σ (cg_qi Q)
theorem M_X4_change.mono {v1 : Int32} {v2 : Int32} {σ : cg_S} {Q Q2 : Int32 → cg_S → Prop} (h : M_X4_change v1 v2 σ Q) (hq : ∀ r τ, Q r τ → Q2 r τ) : M_X4_change v1 v2 σ Q2 := cg_M.mono h (fun ad v τ ⟨r, e, q⟩ => ⟨r, e, hq r τ q⟩)
def L_X4_change_5 (v1 : Int32) (v2 : Int32) (v3 : Int32) (v4 : Int32) (σ : cg_S) (Q : Int32 → cg_S → Prop) : Prop := cg_L cg_WC RX4 cX4_change 13 (some .boolean) (cg_R 2) 5 (fun ad => [(0, .ref (ad 6)), (1, .int v1), (2, .int v2), (3, .int v3), (4, .int v4)]) (fun ad => []) σ (cg_qi Q)
def L_X4_change_59 (v1 : Int32) (v2 : Int32) (v3 : Int32) (v4 : Int32) (v5 : Int32) (v6 : Int32) (σ : cg_S) (Q : Int32 → cg_S → Prop) : Prop := cg_L cg_WC RX4 cX4_change 13 (some .boolean) (cg_R 2) 59 (fun ad => [(0, .ref (ad 6)), (1, .int v1), (2, .int v2), (3, .int v3), (4, .int v4), (5, .int v5), (6, .int v6)]) (fun ad => []) σ (cg_qi Q)
def L_X4_change_173 (v1 : Int32) (v2 : Int32) (v4 : Int32) (v5 : Int32) (v6 : Int32) (σ : cg_S) (Q : Int32 → cg_S → Prop) : Prop := cg_L cg_WC RX4 cX4_change 13 (some .boolean) (cg_R 2) 173 (fun ad => [(0, .ref (ad 6)), (1, .int v1), (2, .int v2), (4, .int v4), (5, .int v5), (6, .int v6)]) (fun ad => []) σ (cg_qi Q)
set_option maxRecDepth 100000 in
set_option maxHeartbeats 4000000 in
theorem v_X4_change_173 {v1 : Int32} {v2 : Int32} {v4 : Int32} {v5 : Int32} {v6 : Int32} {σ : cg_S} {Q : Int32 → cg_S → Prop}
    (h : vp_in v4 7 ∧ ∀ s2 : cg_S, s2 = cg_i σ 29 v4.toNatClampNeg v6 → L_X4_change_59 v1 v2 1 v4 v5 (v6 + 1) s2 Q) : L_X4_change_173 v1 v2 v4 v5 v6 σ Q := by
  intro p l e s m args below meth c D cy ad hC
  refine ga_aload_n hC dX4_change_173 0 rfl rfl ?_
  refine gC_6_3 hC q_1_224 dX4_change_174 ?_
  refine ga_iload hC dX4_change_177 3 rfl ?_
  refine ga_iload hC dX4_change_179 5 rfl ?_
  obtain ⟨h1, h⟩ := h
  refine ga_iast hC aC_29 (by decide) h1 dX4_change_181 ?_
  refine ga_sig (σ := cg_i σ 29 v4.toNatClampNeg v6) (fun s2 es2 => ?_)
  have h := h s2 es2
  refine ga_iconst (v := 1) hC dX4_change_182 (by decide) ?_
  refine ga_istore_n (lv' := [(3, .int 1), (0, .ref (ad 6)), (1, .int v1), (2, .int v2), (4, .int v4), (5, .int v5), (6, .int v6)]) hC dX4_change_183 rfl (by decide) rfl ?_
  refine ga_iinc (v := v6 + 1) (lv' := [(6, .int (v6 + 1)), (3, .int 1), (0, .ref (ad 6)), (1, .int v1), (2, .int v2), (4, .int v4), (5, .int v5)]) hC dX4_change_184 6 rfl rfl (by decide) rfl ?_
  refine ga_goto (tgt := 59) hC dX4_change_187 (by decide) ?_
  refine ga_locals [2, 3, 4, 1, 5, 6, 0] rfl ?_
  exact h p l e s m args below meth c D cy ad hC
set_option maxRecDepth 100000 in
set_option maxHeartbeats 4000000 in
theorem v_X4_change_59 {v1 : Int32} {v2 : Int32} {v3 : Int32} {v4 : Int32} {v5 : Int32} {v6 : Int32} {σ : cg_S} {Q : Int32 → cg_S → Prop}
    (h : (v5 = 0 → L_X4_change_5 v1 v2 v3 (v4 + 1) σ Q) ∧ (¬ v5 = 0 → vp_in v4 7 ∧ ((σ.1 21 v4.toNatClampNeg) ≤ v6 → L_X4_change_5 v1 v2 v3 (v4 + 1) σ Q) ∧ (¬ (σ.1 21 v4.toNatClampNeg) ≤ v6 → M_X2_moveOf v4 v6 σ (fun r2 s3 => vp_in v4 7 ∧ M_X2_moveOf v4 (s3.1 29 v4.toNatClampNeg) s3 (fun r6 s7 => M_X0_ahead v1 r2 s7 (fun r9 s10 => vp_in r6 21 ∧ ∀ x13 : Int64, x13 = r9 * ((s10.1 24 r6.toNatClampNeg).toInt64) → M_X0_ahead v1 r6 s10 (fun r14 s15 => vp_in r2 21 ∧ ∀ x18 : Int64, x18 = r14 * ((s15.1 24 r2.toNatClampNeg).toInt64) → (v2 = 0 → (x18 ≤ x13 → L_X4_change_59 v1 v2 v3 v4 v5 (v6 + 1) s15 Q) ∧ (¬ x18 ≤ x13 → L_X4_change_173 v1 v2 v4 v5 v6 s15 Q)) ∧ (¬ v2 = 0 → (x13 ≤ x18 → L_X4_change_59 v1 v2 v3 v4 v5 (v6 + 1) s15 Q) ∧ (¬ x13 ≤ x18 → L_X4_change_173 v1 v2 v4 v5 v6 s15 Q))))))))) : L_X4_change_59 v1 v2 v3 v4 v5 v6 σ Q := by
  intro p l e s m args below meth c D cy ad hC
  refine ga_iload hC dX4_change_59 5 rfl ?_
  refine ga_if_eq (tgt := 190) hC dX4_change_61 (by decide) (fun hc => ?_) (fun hc => ?_)
  · have h := h.1 hc
    refine ga_iinc (v := v4 + 1) (lv' := [(4, .int (v4 + 1)), (0, .ref (ad 6)), (1, .int v1), (2, .int v2), (3, .int v3), (5, .int v5), (6, .int v6)]) hC dX4_change_190 4 rfl rfl (by decide) rfl ?_
    refine ga_goto (tgt := 5) hC dX4_change_193 (by decide) ?_
    refine ga_locals [1, 2, 3, 4, 0] rfl ?_
    exact h p l e s m args below meth c D cy ad hC
  · have h := h.2 hc
    refine ga_iload hC dX4_change_64 6 rfl ?_
    refine ga_aload_n hC dX4_change_66 0 rfl rfl ?_
    refine gC_6_0 hC q_1_221 dX4_change_67 ?_
    refine gC_1_9 hC q_1_79 dX4_change_70 ?_
    refine ga_iload hC dX4_change_73 4 rfl ?_
    obtain ⟨h1, h⟩ := h
    refine ga_iald hC aC_21 (by decide) h1 dX4_change_75 ?_
    refine ga_icmp_ge (tgt := 190) hC dX4_change_76 (by decide) (fun hc => ?_) (fun hc => ?_)
    · have h := h.1 hc
      refine ga_iinc (v := v4 + 1) (lv' := [(4, .int (v4 + 1)), (0, .ref (ad 6)), (1, .int v1), (2, .int v2), (3, .int v3), (5, .int v5), (6, .int v6)]) hC dX4_change_190 4 rfl rfl (by decide) rfl ?_
      refine ga_goto (tgt := 5) hC dX4_change_193 (by decide) ?_
      refine ga_locals [1, 2, 3, 4, 0] rfl ?_
      exact h p l e s m args below meth c D cy ad hC
    · have h := h.2 hc
      refine ga_iload hC dX4_change_79 4 rfl ?_
      refine ga_iload hC dX4_change_81 6 rfl ?_
      refine ga_callS (As := [.int v4, .int v6]) (st := []) (n := 2) hC h q_3_47 q_2_169 q_1_2 q_2_170 rfl rfl rfl (by decide +kernel) ⟨Nat.le_of_ble_eq_true rfl, Nat.le_of_ble_eq_true rfl⟩ ⟨Nat.le_of_ble_eq_true rfl, Nat.le_of_ble_eq_true rfl⟩ rfl rfl (Nat.le_of_ble_eq_true rfl) dX4_change_83 (fun v τ hq => ?_)
      obtain ⟨r2, rfl, h⟩ := hq
      obtain ⟨s3, es3⟩ : ∃ z, z = τ := ⟨_, rfl⟩
      rw [← es3] at h ⊢
      clear es3
      refine ga_istore (lv' := [(7, .int r2), (0, .ref (ad 6)), (1, .int v1), (2, .int v2), (3, .int v3), (4, .int v4), (5, .int v5), (6, .int v6)]) hC dX4_change_86 (by decide) rfl ?_
      refine ga_iload hC dX4_change_88 5 rfl ?_
      refine ga_aload_n hC dX4_change_90 1 rfl rfl ?_
      refine gC_6_3 hC q_1_224 dX4_change_91 ?_
      refine ga_iload hC dX4_change_94 5 rfl ?_
      obtain ⟨h5, h⟩ := h
      refine ga_iald hC aC_29 (by decide) h5 dX4_change_96 ?_
      refine ga_callS (As := [.int v4, .int (s3.1 29 v4.toNatClampNeg)]) (st := []) (n := 2) hC h q_3_47 q_2_169 q_1_2 q_2_170 rfl rfl rfl (by decide +kernel) ⟨Nat.le_of_ble_eq_true rfl, Nat.le_of_ble_eq_true rfl⟩ ⟨Nat.le_of_ble_eq_true rfl, Nat.le_of_ble_eq_true rfl⟩ rfl rfl (Nat.le_of_ble_eq_true rfl) dX4_change_97 (fun v τ hq => ?_)
      obtain ⟨r6, rfl, h⟩ := hq
      obtain ⟨s7, es7⟩ : ∃ z, z = τ := ⟨_, rfl⟩
      rw [← es7] at h ⊢
      clear es7
      refine ga_istore (lv' := [(8, .int r6), (7, .int r2), (0, .ref (ad 6)), (1, .int v1), (2, .int v2), (3, .int v3), (4, .int v4), (5, .int v5), (6, .int v6)]) hC dX4_change_100 (by decide) rfl ?_
      refine ga_aload_n hC dX4_change_102 2 rfl rfl ?_
      refine gC_6_2 hC q_1_223 dX4_change_103 ?_
      refine ga_iload_n hC dX4_change_106 3 rfl rfl ?_
      refine ga_iload hC dX4_change_107 1 rfl ?_
      refine ga_callV (As := [.int v1, .int r2]) (st := []) (k := 3) (n := 2) hC h q_3_48 q_3_49 q_3_50 q_1_4 q_3_51 rfl rfl rfl (by decide +kernel) ⟨Nat.le_of_ble_eq_true rfl, Nat.le_of_ble_eq_true rfl⟩ ⟨Nat.le_of_ble_eq_true rfl, Nat.le_of_ble_eq_true rfl⟩ rfl rfl rfl (by decide) rfl (Nat.le_of_ble_eq_true rfl) dX4_change_109 (fun v τ hq => ?_)
      obtain ⟨r9, rfl, h⟩ := hq
      obtain ⟨s10, es10⟩ : ∃ z, z = τ := ⟨_, rfl⟩
      rw [← es10] at h ⊢
      clear es10
      refine ga_aload_n hC dX4_change_112 2 rfl rfl ?_
      refine gC_6_0 hC q_1_221 dX4_change_113 ?_
      refine gC_1_12 hC q_1_91 dX4_change_116 ?_
      refine ga_iload hC dX4_change_119 0 rfl ?_
      obtain ⟨h12, h⟩ := h
      refine ga_iald hC aC_24 (by decide) h12 dX4_change_121 ?_
      refine ga_i2l hC dX4_change_122 ?_
      refine ga_lmul hC dX4_change_123 ?_
      refine ga_topl (fun x13 ex13 => ?_)
      have h := h x13 ex13
      refine ga_lstore (lv' := [(9, .long x13), (8, .int r6), (7, .int r2), (0, .ref (ad 6)), (1, .int v1), (2, .int v2), (3, .int v3), (4, .int v4), (5, .int v5), (6, .int v6)]) hC dX4_change_124 (by decide) rfl ?_
      refine ga_aload_n hC dX4_change_126 3 rfl rfl ?_
      refine gC_6_2 hC q_1_223 dX4_change_127 ?_
      refine ga_iload_n hC dX4_change_130 4 rfl rfl ?_
      refine ga_iload hC dX4_change_131 1 rfl ?_
      refine ga_callV (As := [.int v1, .int r6]) (st := []) (k := 3) (n := 2) hC h q_3_48 q_3_49 q_3_50 q_1_4 q_3_51 rfl rfl rfl (by decide +kernel) ⟨Nat.le_of_ble_eq_true rfl, Nat.le_of_ble_eq_true rfl⟩ ⟨Nat.le_of_ble_eq_true rfl, Nat.le_of_ble_eq_true rfl⟩ rfl rfl rfl (by decide) rfl (Nat.le_of_ble_eq_true rfl) dX4_change_133 (fun v τ hq => ?_)
      obtain ⟨r14, rfl, h⟩ := hq
      obtain ⟨s15, es15⟩ : ∃ z, z = τ := ⟨_, rfl⟩
      rw [← es15] at h ⊢
      clear es15
      refine ga_aload_n hC dX4_change_136 3 rfl rfl ?_
      refine gC_6_0 hC q_1_221 dX4_change_137 ?_
      refine gC_1_12 hC q_1_91 dX4_change_140 ?_
      refine ga_iload hC dX4_change_143 2 rfl ?_
      obtain ⟨h17, h⟩ := h
      refine ga_iald hC aC_24 (by decide) h17 dX4_change_145 ?_
      refine ga_i2l hC dX4_change_146 ?_
      refine ga_lmul hC dX4_change_147 ?_
      refine ga_topl (fun x18 ex18 => ?_)
      have h := h x18 ex18
      refine ga_lstore (lv' := [(11, .long x18), (9, .long x13), (8, .int r6), (7, .int r2), (0, .ref (ad 6)), (1, .int v1), (2, .int v2), (3, .int v3), (4, .int v4), (5, .int v5), (6, .int v6)]) hC dX4_change_148 (by decide) rfl ?_
      refine ga_iload_n hC dX4_change_150 6 rfl rfl ?_
      refine ga_if_eq (tgt := 165) hC dX4_change_151 (by decide) (fun hc => ?_) (fun hc => ?_)
      · have h := h.1 hc
        refine ga_lload hC dX4_change_165 1 rfl ?_
        refine ga_lload hC dX4_change_167 0 rfl ?_
        refine ga_lcmp hC dX4_change_169 ?_
        refine ga_if_ge (tgt := 184) hC dX4_change_170 (by decide) (fun hc => ?_) (fun hc => ?_)
        · have h := h.1 (cg_cmp_ge.1 hc)
          refine ga_iinc (v := v6 + 1) (lv' := [(6, .int (v6 + 1)), (11, .long x18), (9, .long x13), (8, .int r6), (7, .int r2), (0, .ref (ad 6)), (1, .int v1), (2, .int v2), (3, .int v3), (4, .int v4), (5, .int v5)]) hC dX4_change_184 10 rfl rfl (by decide) rfl ?_
          refine ga_goto (tgt := 59) hC dX4_change_187 (by decide) ?_
          refine ga_locals [5, 6, 7, 8, 9, 10, 0] rfl ?_
          exact h p l e s m args below meth c D cy ad hC
        · have h := h.2 (cg_cmp_ge.2 hc)
          refine ga_locals [4, 5, 6, 8, 9, 10] rfl ?_
          exact h p l e s m args below meth c D cy ad hC
      · have h := h.2 hc
        refine ga_lload hC dX4_change_154 1 rfl ?_
        refine ga_lload hC dX4_change_156 0 rfl ?_
        refine ga_lcmp hC dX4_change_158 ?_
        refine ga_if_le (tgt := 184) hC dX4_change_159 (by decide) (fun hc => ?_) (fun hc => ?_)
        · have h := h.1 (cg_cmp_le.1 hc)
          refine ga_iinc (v := v6 + 1) (lv' := [(6, .int (v6 + 1)), (11, .long x18), (9, .long x13), (8, .int r6), (7, .int r2), (0, .ref (ad 6)), (1, .int v1), (2, .int v2), (3, .int v3), (4, .int v4), (5, .int v5)]) hC dX4_change_184 10 rfl rfl (by decide) rfl ?_
          refine ga_goto (tgt := 59) hC dX4_change_187 (by decide) ?_
          refine ga_locals [5, 6, 7, 8, 9, 10, 0] rfl ?_
          exact h p l e s m args below meth c D cy ad hC
        · have h := h.2 (cg_cmp_le.2 hc)
          refine ga_goto (tgt := 173) hC dX4_change_162 (by decide) ?_
          refine ga_locals [4, 5, 6, 8, 9, 10] rfl ?_
          exact h p l e s m args below meth c D cy ad hC
set_option maxRecDepth 100000 in
set_option maxHeartbeats 4000000 in
theorem v_X4_change_5 {v1 : Int32} {v2 : Int32} {v3 : Int32} {v4 : Int32} {σ : cg_S} {Q : Int32 → cg_S → Prop}
    (h : ((σ.1 1 0) ≤ v4 → (v3 = 0 ∨ v3 = 1) ∧ Q v3 σ) ∧ (¬ (σ.1 1 0) ≤ v4 → vp_in v4 7 ∧ (¬ (σ.1 57 v4.toNatClampNeg) = v2 → L_X4_change_59 v1 v2 v3 v4 0 0 σ Q) ∧ ((σ.1 57 v4.toNatClampNeg) = v2 → (¬ v1 = 114 → L_X4_change_59 v1 v2 v3 v4 1 0 σ Q) ∧ (v1 = 114 → M_X2_isTarget v4 σ (fun r2 s3 => (¬ r2 = 0 → L_X4_change_59 v1 v2 v3 v4 0 0 s3 Q) ∧ (r2 = 0 → L_X4_change_59 v1 v2 v3 v4 1 0 s3 Q)))))) : L_X4_change_5 v1 v2 v3 v4 σ Q := by
  intro p l e s m args below meth c D cy ad hC
  refine ga_iload hC dX4_change_5 4 rfl ?_
  refine ga_aload_n hC dX4_change_7 0 rfl rfl ?_
  refine gC_6_0 hC q_1_221 dX4_change_8 ?_
  refine gC_1_0 hC q_1_47 dX4_change_11 ?_
  refine ga_icmp_ge (tgt := 196) hC dX4_change_14 (by decide) (fun hc => ?_) (fun hc => ?_)
  · have h := h.1 hc
    refine ga_iload_n hC dX4_change_196 3 rfl rfl ?_
    exact ga_zret hC dX4_change_197 h.1 ⟨_, rfl, h.2⟩
  · have h := h.2 hc
    refine ga_aload_n hC dX4_change_17 0 rfl rfl ?_
    refine gC_6_0 hC q_1_221 dX4_change_18 ?_
    refine gC_1_7 hC q_1_68 dX4_change_21 ?_
    refine ga_iload hC dX4_change_24 4 rfl ?_
    obtain ⟨h1, h⟩ := h
    refine ga_zald hC aC_57 (by decide) h1 dX4_change_26 ?_
    refine ga_iload_n hC dX4_change_27 2 rfl rfl ?_
    refine ga_icmp_ne (tgt := 53) hC dX4_change_28 (by decide) (fun hc => ?_) (fun hc => ?_)
    · have h := h.1 hc
      refine ga_iconst (v := 0) hC dX4_change_53 (by decide) ?_
      refine ga_istore (lv' := [(5, .int 0), (0, .ref (ad 6)), (1, .int v1), (2, .int v2), (3, .int v3), (4, .int v4)]) hC dX4_change_54 (by decide) rfl ?_
      refine ga_iconst (v := 0) hC dX4_change_56 (by decide) ?_
      refine ga_istore (lv' := [(6, .int 0), (5, .int 0), (0, .ref (ad 6)), (1, .int v1), (2, .int v2), (3, .int v3), (4, .int v4)]) hC dX4_change_57 (by decide) rfl ?_
      refine ga_locals [2, 3, 4, 5, 6, 1, 0] rfl ?_
      exact h p l e s m args below meth c D cy ad hC
    · have h := h.2 hc
      refine ga_iload_n hC dX4_change_31 1 rfl rfl ?_
      refine ga_bipush (v := 114) hC dX4_change_32 (by decide) ?_
      refine ga_icmp_ne (tgt := 49) hC dX4_change_34 (by decide) (fun hc => ?_) (fun hc => ?_)
      · have h := h.1 hc
        refine ga_iconst (v := 1) hC dX4_change_49 (by decide) ?_
        refine ga_goto (tgt := 54) hC dX4_change_50 (by decide) ?_
        refine ga_istore (lv' := [(5, .int 1), (0, .ref (ad 6)), (1, .int v1), (2, .int v2), (3, .int v3), (4, .int v4)]) hC dX4_change_54 (by decide) rfl ?_
        refine ga_iconst (v := 0) hC dX4_change_56 (by decide) ?_
        refine ga_istore (lv' := [(6, .int 0), (5, .int 1), (0, .ref (ad 6)), (1, .int v1), (2, .int v2), (3, .int v3), (4, .int v4)]) hC dX4_change_57 (by decide) rfl ?_
        refine ga_locals [2, 3, 4, 5, 6, 1, 0] rfl ?_
        exact h p l e s m args below meth c D cy ad hC
      · have h := h.2 hc
        refine ga_aload_n hC dX4_change_37 0 rfl rfl ?_
        refine gC_6_0 hC q_1_221 dX4_change_38 ?_
        refine ga_iload hC dX4_change_41 4 rfl ?_
        refine ga_callV (As := [.int v4]) (st := []) (k := 1) (n := 1) hC h q_3_46 q_2_184 q_2_185 q_1_2 q_2_186 rfl rfl rfl (by decide +kernel) ⟨Nat.le_of_ble_eq_true rfl, Nat.le_of_ble_eq_true rfl⟩ ⟨Nat.le_of_ble_eq_true rfl, Nat.le_of_ble_eq_true rfl⟩ rfl rfl rfl (by decide) rfl (Nat.le_of_ble_eq_true rfl) dX4_change_43 (fun v τ hq => ?_)
        obtain ⟨r2, rfl, h⟩ := hq
        obtain ⟨s3, es3⟩ : ∃ z, z = τ := ⟨_, rfl⟩
        rw [← es3] at h ⊢
        clear es3
        refine ga_if_ne (tgt := 53) hC dX4_change_46 (by decide) (fun hc => ?_) (fun hc => ?_)
        · have h := h.1 hc
          refine ga_iconst (v := 0) hC dX4_change_53 (by decide) ?_
          refine ga_istore (lv' := [(5, .int 0), (0, .ref (ad 6)), (1, .int v1), (2, .int v2), (3, .int v3), (4, .int v4)]) hC dX4_change_54 (by decide) rfl ?_
          refine ga_iconst (v := 0) hC dX4_change_56 (by decide) ?_
          refine ga_istore (lv' := [(6, .int 0), (5, .int 0), (0, .ref (ad 6)), (1, .int v1), (2, .int v2), (3, .int v3), (4, .int v4)]) hC dX4_change_57 (by decide) rfl ?_
          refine ga_locals [2, 3, 4, 5, 6, 1, 0] rfl ?_
          exact h p l e s m args below meth c D cy ad hC
        · have h := h.2 hc
          refine ga_iconst (v := 1) hC dX4_change_49 (by decide) ?_
          refine ga_goto (tgt := 54) hC dX4_change_50 (by decide) ?_
          refine ga_istore (lv' := [(5, .int 1), (0, .ref (ad 6)), (1, .int v1), (2, .int v2), (3, .int v3), (4, .int v4)]) hC dX4_change_54 (by decide) rfl ?_
          refine ga_iconst (v := 0) hC dX4_change_56 (by decide) ?_
          refine ga_istore (lv' := [(6, .int 0), (5, .int 1), (0, .ref (ad 6)), (1, .int v1), (2, .int v2), (3, .int v3), (4, .int v4)]) hC dX4_change_57 (by decide) rfl ?_
          refine ga_locals [2, 3, 4, 5, 6, 1, 0] rfl ?_
          exact h p l e s m args below meth c D cy ad hC
set_option maxRecDepth 100000 in
set_option maxHeartbeats 4000000 in
theorem v_X4_change {v1 : Int32} {v2 : Int32} {σ : cg_S} {Q : Int32 → cg_S → Prop}
    (h : L_X4_change_5 v1 v2 0 0 σ Q) : M_X4_change v1 v2 σ Q := by
  refine cg_entry (lv := fun ad => [(0, .ref (ad 6)), (1, .int v1), (2, .int v2)]) (by decide +kernel) (fun _ => rfl) (fun _ => Nat.le_of_ble_eq_true rfl) ?_
  intro p l e s m args below meth c D cy ad hC
  refine ga_iconst (v := 0) hC dX4_change_0 (by decide) ?_
  refine ga_istore_n (lv' := [(3, .int 0), (0, .ref (ad 6)), (1, .int v1), (2, .int v2)]) hC dX4_change_1 rfl (by decide) rfl ?_
  refine ga_iconst (v := 0) hC dX4_change_2 (by decide) ?_
  refine ga_istore (lv' := [(4, .int 0), (3, .int 0), (0, .ref (ad 6)), (1, .int v1), (2, .int v2)]) hC dX4_change_3 (by decide) rfl ?_
  refine ga_locals [2, 3, 4, 1, 0] rfl ?_
  exact h p l e s m args below meth c D cy ad hC
def M_X4_respond (v1 : Int32) (v2 : Int32) (σ : cg_S) (Q : cg_S → Prop) : Prop := cg_M cg_WC yX4_respond cX4_respond 5 none (cg_R 3) (fun ad => [.ref (ad 6), .int v1, .int v2]) σ (cg_qv Q)
theorem M_X4_respond.mono {v1 : Int32} {v2 : Int32} {σ : cg_S} {Q Q2 : cg_S → Prop} (h : M_X4_respond v1 v2 σ Q) (hq : ∀ τ, Q τ → Q2 τ) : M_X4_respond v1 v2 σ Q2 := cg_M.mono h (fun ad v τ ⟨e, q⟩ => ⟨e, hq τ q⟩)
def L_X4_respond_26 (v1 : Int32) (v2 : Int32) (v3 : Int32) (v4 : Int32) (σ : cg_S) (Q : cg_S → Prop) : Prop := cg_L cg_WC RX4 cX4_respond 5 none (cg_R 3) 26 (fun ad => [(0, .ref (ad 6)), (1, .int v1), (2, .int v2), (3, .int v3), (4, .int v4)]) (fun ad => []) σ (cg_qv Q)
set_option maxRecDepth 100000 in
set_option maxHeartbeats 4000000 in
theorem v_X4_respond_26 {v1 : Int32} {v2 : Int32} {v3 : Int32} {v4 : Int32} {σ : cg_S} {Q : cg_S → Prop}
    (h : (v3 = 0 → Q σ) ∧ (¬ v3 = 0 → (2187 ≤ v4 → Q σ) ∧ (¬ 2187 ≤ v4 → M_X0_evaluateFrom v1 29 0 σ (fun s2 => (v2 = 0 → L_X4_respond_26 v1 v2 0 (v4 + 1) s2 Q) ∧ (¬ v2 = 0 → M_X4_change v1 0 s2 (fun r4 s5 => (r4 = 0 → L_X4_respond_26 v1 v2 0 (v4 + 1) s5 Q) ∧ (¬ r4 = 0 → L_X4_respond_26 v1 v2 1 (v4 + 1) s5 Q))))))) : L_X4_respond_26 v1 v2 v3 v4 σ Q := by
  intro p l e s m args below meth c D cy ad hC
  refine ga_iload_n hC dX4_respond_26 3 rfl rfl ?_
  refine ga_if_eq (tgt := 76) hC dX4_respond_27 (by decide) (fun hc => ?_) (fun hc => ?_)
  · have h := h.1 hc
    exact ga_vret hC dX4_respond_76 ⟨rfl, h⟩
  · have h := h.2 hc
    refine ga_iload hC dX4_respond_30 4 rfl ?_
    refine ga_sipush (v := 2187) hC dX4_respond_32 (by decide) ?_
    refine ga_icmp_ge (tgt := 76) hC dX4_respond_35 (by decide) (fun hc => ?_) (fun hc => ?_)
    · have h := h.1 hc
      exact ga_vret hC dX4_respond_76 ⟨rfl, h⟩
    · have h := h.2 hc
      refine ga_aload_n hC dX4_respond_38 0 rfl rfl ?_
      refine gC_6_2 hC q_1_223 dX4_respond_39 ?_
      refine ga_iload_n hC dX4_respond_42 1 rfl rfl ?_
      refine ga_aload_n hC dX4_respond_43 0 rfl rfl ?_
      refine gC_6_3 hC q_1_224 dX4_respond_44 ?_
      refine ga_iconst (v := 0) hC dX4_respond_47 (by decide) ?_
      refine ga_callV (As := [.int v1, .ref (ad 29), .int 0]) (st := []) (k := 3) (n := 3) hC h q_3_5 q_3_6 q_3_7 q_1_4 q_3_8 rfl rfl rfl (by decide +kernel) ⟨Nat.le_of_ble_eq_true rfl, Nat.le_of_ble_eq_true rfl⟩ ⟨Nat.le_of_ble_eq_true rfl, Nat.le_of_ble_eq_true rfl⟩ rfl rfl rfl (by decide) rfl (Nat.le_of_ble_eq_true rfl) dX4_respond_48 (fun v τ hq => ?_)
      obtain ⟨rfl, h⟩ := hq
      obtain ⟨s2, es2⟩ : ∃ z, z = τ := ⟨_, rfl⟩
      rw [← es2] at h ⊢
      clear es2
      refine ga_iload_n hC dX4_respond_51 2 rfl rfl ?_
      refine ga_if_eq (tgt := 68) hC dX4_respond_52 (by decide) (fun hc => ?_) (fun hc => ?_)
      · have h := h.1 hc
        refine ga_iconst (v := 0) hC dX4_respond_68 (by decide) ?_
        refine ga_istore_n (lv' := [(3, .int 0), (0, .ref (ad 6)), (1, .int v1), (2, .int v2), (4, .int v4)]) hC dX4_respond_69 rfl (by decide) rfl ?_
        refine ga_iinc (v := v4 + 1) (lv' := [(4, .int (v4 + 1)), (3, .int 0), (0, .ref (ad 6)), (1, .int v1), (2, .int v2)]) hC dX4_respond_70 4 rfl rfl (by decide) rfl ?_
        refine ga_goto (tgt := 26) hC dX4_respond_73 (by decide) ?_
        refine ga_locals [2, 3, 4, 1, 0] rfl ?_
        exact h p l e s m args below meth c D cy ad hC
      · have h := h.2 hc
        refine ga_aload_n hC dX4_respond_55 0 rfl rfl ?_
        refine ga_iload_n hC dX4_respond_56 1 rfl rfl ?_
        refine ga_iconst (v := 0) hC dX4_respond_57 (by decide) ?_
        refine ga_callV (As := [.int v1, .int 0]) (st := []) (k := 6) (n := 2) hC h q_3_42 q_3_43 q_3_44 q_1_6 q_3_45 rfl rfl rfl (by decide +kernel) ⟨Nat.le_of_ble_eq_true rfl, Nat.le_of_ble_eq_true rfl⟩ ⟨Nat.le_of_ble_eq_true rfl, Nat.le_of_ble_eq_true rfl⟩ rfl rfl rfl (by decide) rfl (Nat.le_of_ble_eq_true rfl) dX4_respond_58 (fun v τ hq => ?_)
        obtain ⟨r4, rfl, h⟩ := hq
        obtain ⟨s5, es5⟩ : ∃ z, z = τ := ⟨_, rfl⟩
        rw [← es5] at h ⊢
        clear es5
        refine ga_if_eq (tgt := 68) hC dX4_respond_61 (by decide) (fun hc => ?_) (fun hc => ?_)
        · have h := h.1 hc
          refine ga_iconst (v := 0) hC dX4_respond_68 (by decide) ?_
          refine ga_istore_n (lv' := [(3, .int 0), (0, .ref (ad 6)), (1, .int v1), (2, .int v2), (4, .int v4)]) hC dX4_respond_69 rfl (by decide) rfl ?_
          refine ga_iinc (v := v4 + 1) (lv' := [(4, .int (v4 + 1)), (3, .int 0), (0, .ref (ad 6)), (1, .int v1), (2, .int v2)]) hC dX4_respond_70 4 rfl rfl (by decide) rfl ?_
          refine ga_goto (tgt := 26) hC dX4_respond_73 (by decide) ?_
          refine ga_locals [2, 3, 4, 1, 0] rfl ?_
          exact h p l e s m args below meth c D cy ad hC
        · have h := h.2 hc
          refine ga_iconst (v := 1) hC dX4_respond_64 (by decide) ?_
          refine ga_goto (tgt := 69) hC dX4_respond_65 (by decide) ?_
          refine ga_istore_n (lv' := [(3, .int 1), (0, .ref (ad 6)), (1, .int v1), (2, .int v2), (4, .int v4)]) hC dX4_respond_69 rfl (by decide) rfl ?_
          refine ga_iinc (v := v4 + 1) (lv' := [(4, .int (v4 + 1)), (3, .int 1), (0, .ref (ad 6)), (1, .int v1), (2, .int v2)]) hC dX4_respond_70 4 rfl rfl (by decide) rfl ?_
          refine ga_goto (tgt := 26) hC dX4_respond_73 (by decide) ?_
          refine ga_locals [2, 3, 4, 1, 0] rfl ?_
          exact h p l e s m args below meth c D cy ad hC
set_option maxRecDepth 100000 in
set_option maxHeartbeats 4000000 in
theorem v_X4_respond {v1 : Int32} {v2 : Int32} {σ : cg_S} {Q : cg_S → Prop}
    (h : (¬ v1 = 114 → L_X4_respond_26 v1 v2 1 0 σ Q) ∧ (v1 = 114 → (v2 = 0 → L_X4_respond_26 v1 v2 1 0 σ Q) ∧ (¬ v2 = 0 → M_X3_stayAway 29 σ (fun s2 => L_X4_respond_26 v1 v2 1 0 s2 Q)))) : M_X4_respond v1 v2 σ Q := by
  refine cg_entry (lv := fun ad => [(0, .ref (ad 6)), (1, .int v1), (2, .int v2)]) (by decide +kernel) (fun _ => rfl) (fun _ => Nat.le_of_ble_eq_true rfl) ?_
  intro p l e s m args below meth c D cy ad hC
  refine ga_iload_n hC dX4_respond_0 1 rfl rfl ?_
  refine ga_bipush (v := 114) hC dX4_respond_1 (by decide) ?_
  refine ga_icmp_ne (tgt := 21) hC dX4_respond_3 (by decide) (fun hc => ?_) (fun hc => ?_)
  · have h := h.1 hc
    refine ga_iconst (v := 1) hC dX4_respond_21 (by decide) ?_
    refine ga_istore_n (lv' := [(3, .int 1), (0, .ref (ad 6)), (1, .int v1), (2, .int v2)]) hC dX4_respond_22 rfl (by decide) rfl ?_
    refine ga_iconst (v := 0) hC dX4_respond_23 (by decide) ?_
    refine ga_istore (lv' := [(4, .int 0), (3, .int 1), (0, .ref (ad 6)), (1, .int v1), (2, .int v2)]) hC dX4_respond_24 (by decide) rfl ?_
    refine ga_locals [2, 3, 4, 1, 0] rfl ?_
    exact h p l e s m args below meth c D cy ad hC
  · have h := h.2 hc
    refine ga_iload_n hC dX4_respond_6 2 rfl rfl ?_
    refine ga_if_eq (tgt := 21) hC dX4_respond_7 (by decide) (fun hc => ?_) (fun hc => ?_)
    · have h := h.1 hc
      refine ga_iconst (v := 1) hC dX4_respond_21 (by decide) ?_
      refine ga_istore_n (lv' := [(3, .int 1), (0, .ref (ad 6)), (1, .int v1), (2, .int v2)]) hC dX4_respond_22 rfl (by decide) rfl ?_
      refine ga_iconst (v := 0) hC dX4_respond_23 (by decide) ?_
      refine ga_istore (lv' := [(4, .int 0), (3, .int 1), (0, .ref (ad 6)), (1, .int v1), (2, .int v2)]) hC dX4_respond_24 (by decide) rfl ?_
      refine ga_locals [2, 3, 4, 1, 0] rfl ?_
      exact h p l e s m args below meth c D cy ad hC
    · have h := h.2 hc
      refine ga_aload_n hC dX4_respond_10 0 rfl rfl ?_
      refine gC_6_1 hC q_1_222 dX4_respond_11 ?_
      refine ga_aload_n hC dX4_respond_14 0 rfl rfl ?_
      refine gC_6_3 hC q_1_224 dX4_respond_15 ?_
      refine ga_callV (As := [.ref (ad 29)]) (st := []) (k := 2) (n := 1) hC h q_2_227 q_2_228 q_2_229 q_1_3 q_2_230 rfl rfl rfl (by decide +kernel) ⟨Nat.le_of_ble_eq_true rfl, Nat.le_of_ble_eq_true rfl⟩ ⟨Nat.le_of_ble_eq_true rfl, Nat.le_of_ble_eq_true rfl⟩ rfl rfl rfl (by decide) rfl (Nat.le_of_ble_eq_true rfl) dX4_respond_18 (fun v τ hq => ?_)
      obtain ⟨rfl, h⟩ := hq
      obtain ⟨s2, es2⟩ : ∃ z, z = τ := ⟨_, rfl⟩
      rw [← es2] at h ⊢
      clear es2
      refine ga_iconst (v := 1) hC dX4_respond_21 (by decide) ?_
      refine ga_istore_n (lv' := [(3, .int 1), (0, .ref (ad 6)), (1, .int v1), (2, .int v2)]) hC dX4_respond_22 rfl (by decide) rfl ?_
      refine ga_iconst (v := 0) hC dX4_respond_23 (by decide) ?_
      refine ga_istore (lv' := [(4, .int 0), (3, .int 1), (0, .ref (ad 6)), (1, .int v1), (2, .int v2)]) hC dX4_respond_24 (by decide) rfl ?_
      refine ga_locals [2, 3, 4, 1, 0] rfl ?_
      exact h p l e s m args below meth c D cy ad hC
def M_X4_improve (v1 : Int32) (v2 : Nat) (v3 : Int32) (v4 : Int32) (σ : cg_S) (Q : cg_S → Prop) : Prop := cg_M cg_WC yX4_improve cX4_improve 7 none (cg_R 4) (fun ad => [.ref (ad 6), .int v1, .ref (ad v2), .int v3, .int v4]) σ (cg_qv Q)
theorem M_X4_improve.mono {v1 : Int32} {v2 : Nat} {v3 : Int32} {v4 : Int32} {σ : cg_S} {Q Q2 : cg_S → Prop} (h : M_X4_improve v1 v2 v3 v4 σ Q) (hq : ∀ τ, Q τ → Q2 τ) : M_X4_improve v1 v2 v3 v4 σ Q2 := cg_M.mono h (fun ad v τ ⟨e, q⟩ => ⟨e, hq τ q⟩)
def L_X4_improve_3 (v1 : Int32) (v2 : Nat) (v3 : Int32) (v4 : Int32) (v5 : Int32) (σ : cg_S) (Q : cg_S → Prop) : Prop := cg_L cg_WC RX4 cX4_improve 7 none (cg_R 4) 3 (fun ad => [(0, .ref (ad 6)), (1, .int v1), (2, .ref (ad v2)), (3, .int v3), (4, .int v4), (5, .int v5)]) (fun ad => []) σ (cg_qv Q)
def L_X4_improve_34 (v1 : Int32) (v2 : Nat) (v3 : Int32) (v4 : Int32) (v5 : Int32) (t0 : Int32) (σ : cg_S) (Q : cg_S → Prop) : Prop := cg_L cg_WC RX4 cX4_improve 7 none (cg_R 4) 34 (fun ad => [(0, .ref (ad 6)), (1, .int v1), (2, .ref (ad v2)), (3, .int v3), (4, .int v4), (5, .int v5)]) (fun ad => [.int t0]) σ (cg_qv Q)
def L_X4_improve_75 (v1 : Int32) (v3 : Int32) (v4 : Int32) (v5 : Int32) (v6 : Int32) (σ : cg_S) (Q : cg_S → Prop) : Prop := cg_L cg_WC RX4 cX4_improve 7 none (cg_R 4) 75 (fun ad => [(0, .ref (ad 6)), (1, .int v1), (3, .int v3), (4, .int v4), (5, .int v5), (6, .int v6)]) (fun ad => []) σ (cg_qv Q)
set_option maxRecDepth 100000 in
set_option maxHeartbeats 4000000 in
theorem v_X4_improve_75 {v1 : Int32} {v3 : Int32} {v4 : Int32} {v5 : Int32} {v6 : Int32} {σ : cg_S} {Q : cg_S → Prop}
    (h : (v5 = 0 → Q σ) ∧ (¬ v5 = 0 → (2187 ≤ v6 → Q σ) ∧ (¬ 2187 ≤ v6 → M_X4_respond v1 v4 σ (fun s2 => (v3 = 0 → L_X4_improve_75 v1 v3 v4 0 (v6 + 1) s2 Q) ∧ (¬ v3 = 0 → M_X4_change v1 1 s2 (fun r4 s5 => (r4 = 0 → L_X4_improve_75 v1 v3 v4 0 (v6 + 1) s5 Q) ∧ (¬ r4 = 0 → L_X4_improve_75 v1 v3 v4 1 (v6 + 1) s5 Q))))))) : L_X4_improve_75 v1 v3 v4 v5 v6 σ Q := by
  intro p l e s m args below meth c D cy ad hC
  refine ga_iload hC dX4_improve_75 4 rfl ?_
  refine ga_if_eq (tgt := 121) hC dX4_improve_77 (by decide) (fun hc => ?_) (fun hc => ?_)
  · have h := h.1 hc
    exact ga_vret hC dX4_improve_121 ⟨rfl, h⟩
  · have h := h.2 hc
    refine ga_iload hC dX4_improve_80 5 rfl ?_
    refine ga_sipush (v := 2187) hC dX4_improve_82 (by decide) ?_
    refine ga_icmp_ge (tgt := 121) hC dX4_improve_85 (by decide) (fun hc => ?_) (fun hc => ?_)
    · have h := h.1 hc
      exact ga_vret hC dX4_improve_121 ⟨rfl, h⟩
    · have h := h.2 hc
      refine ga_aload_n hC dX4_improve_88 0 rfl rfl ?_
      refine ga_iload_n hC dX4_improve_89 1 rfl rfl ?_
      refine ga_iload hC dX4_improve_90 3 rfl ?_
      refine ga_callV (As := [.int v1, .int v4]) (st := []) (k := 6) (n := 2) hC h q_2_223 q_2_224 q_2_225 q_1_6 q_2_226 rfl rfl rfl (by decide +kernel) ⟨Nat.le_of_ble_eq_true rfl, Nat.le_of_ble_eq_true rfl⟩ ⟨Nat.le_of_ble_eq_true rfl, Nat.le_of_ble_eq_true rfl⟩ rfl rfl rfl (by decide) rfl (Nat.le_of_ble_eq_true rfl) dX4_improve_92 (fun v τ hq => ?_)
      obtain ⟨rfl, h⟩ := hq
      obtain ⟨s2, es2⟩ : ∃ z, z = τ := ⟨_, rfl⟩
      rw [← es2] at h ⊢
      clear es2
      refine ga_iload_n hC dX4_improve_95 2 rfl rfl ?_
      refine ga_if_eq (tgt := 112) hC dX4_improve_96 (by decide) (fun hc => ?_) (fun hc => ?_)
      · have h := h.1 hc
        refine ga_iconst (v := 0) hC dX4_improve_112 (by decide) ?_
        refine ga_istore (lv' := [(5, .int 0), (0, .ref (ad 6)), (1, .int v1), (3, .int v3), (4, .int v4), (6, .int v6)]) hC dX4_improve_113 (by decide) rfl ?_
        refine ga_iinc (v := v6 + 1) (lv' := [(6, .int (v6 + 1)), (5, .int 0), (0, .ref (ad 6)), (1, .int v1), (3, .int v3), (4, .int v4)]) hC dX4_improve_115 5 rfl rfl (by decide) rfl ?_
        refine ga_goto (tgt := 75) hC dX4_improve_118 (by decide) ?_
        refine ga_locals [2, 3, 4, 5, 1, 0] rfl ?_
        exact h p l e s m args below meth c D cy ad hC
      · have h := h.2 hc
        refine ga_aload_n hC dX4_improve_99 0 rfl rfl ?_
        refine ga_iload_n hC dX4_improve_100 1 rfl rfl ?_
        refine ga_iconst (v := 1) hC dX4_improve_101 (by decide) ?_
        refine ga_callV (As := [.int v1, .int 1]) (st := []) (k := 6) (n := 2) hC h q_3_42 q_3_43 q_3_44 q_1_6 q_3_45 rfl rfl rfl (by decide +kernel) ⟨Nat.le_of_ble_eq_true rfl, Nat.le_of_ble_eq_true rfl⟩ ⟨Nat.le_of_ble_eq_true rfl, Nat.le_of_ble_eq_true rfl⟩ rfl rfl rfl (by decide) rfl (Nat.le_of_ble_eq_true rfl) dX4_improve_102 (fun v τ hq => ?_)
        obtain ⟨r4, rfl, h⟩ := hq
        obtain ⟨s5, es5⟩ : ∃ z, z = τ := ⟨_, rfl⟩
        rw [← es5] at h ⊢
        clear es5
        refine ga_if_eq (tgt := 112) hC dX4_improve_105 (by decide) (fun hc => ?_) (fun hc => ?_)
        · have h := h.1 hc
          refine ga_iconst (v := 0) hC dX4_improve_112 (by decide) ?_
          refine ga_istore (lv' := [(5, .int 0), (0, .ref (ad 6)), (1, .int v1), (3, .int v3), (4, .int v4), (6, .int v6)]) hC dX4_improve_113 (by decide) rfl ?_
          refine ga_iinc (v := v6 + 1) (lv' := [(6, .int (v6 + 1)), (5, .int 0), (0, .ref (ad 6)), (1, .int v1), (3, .int v3), (4, .int v4)]) hC dX4_improve_115 5 rfl rfl (by decide) rfl ?_
          refine ga_goto (tgt := 75) hC dX4_improve_118 (by decide) ?_
          refine ga_locals [2, 3, 4, 5, 1, 0] rfl ?_
          exact h p l e s m args below meth c D cy ad hC
        · have h := h.2 hc
          refine ga_iconst (v := 1) hC dX4_improve_108 (by decide) ?_
          refine ga_goto (tgt := 113) hC dX4_improve_109 (by decide) ?_
          refine ga_istore (lv' := [(5, .int 1), (0, .ref (ad 6)), (1, .int v1), (3, .int v3), (4, .int v4), (6, .int v6)]) hC dX4_improve_113 (by decide) rfl ?_
          refine ga_iinc (v := v6 + 1) (lv' := [(6, .int (v6 + 1)), (5, .int 1), (0, .ref (ad 6)), (1, .int v1), (3, .int v3), (4, .int v4)]) hC dX4_improve_115 5 rfl rfl (by decide) rfl ?_
          refine ga_goto (tgt := 75) hC dX4_improve_118 (by decide) ?_
          refine ga_locals [2, 3, 4, 5, 1, 0] rfl ?_
          exact h p l e s m args below meth c D cy ad hC
set_option maxRecDepth 100000 in
set_option maxHeartbeats 4000000 in
theorem v_X4_improve_34 {v1 : Int32} {v2 : Nat} {v3 : Int32} {v4 : Int32} {v5 : Int32} {t0 : Int32} {σ : cg_S} {Q : cg_S → Prop} (h_v2 : v2 = 19 ∨ v2 = 29 ∨ v2 = 30)
    (h : (t0 = 0 → vp_in v5 7 ∧ vp_in v5 7 ∧ ∀ s3 : cg_S, s3 = cg_i σ 29 v5.toNatClampNeg (σ.1 v2 v5.toNatClampNeg) → L_X4_improve_3 v1 v2 v3 v4 (v5 + 1) s3 Q) ∧ (¬ t0 = 0 → vp_in v5 7 ∧ ∀ s5 : cg_S, s5 = cg_i σ 29 v5.toNatClampNeg 0 → L_X4_improve_3 v1 v2 v3 v4 (v5 + 1) s5 Q)) : L_X4_improve_34 v1 v2 v3 v4 v5 t0 σ Q := by
  intro p l e s m args below meth c D cy ad hC
  refine ga_istore (lv' := [(6, .int t0), (0, .ref (ad 6)), (1, .int v1), (2, .ref (ad v2)), (3, .int v3), (4, .int v4), (5, .int v5)]) hC dX4_improve_34 (by decide) rfl ?_
  refine ga_aload_n hC dX4_improve_36 1 rfl rfl ?_
  refine gC_6_3 hC q_1_224 dX4_improve_37 ?_
  refine ga_iload hC dX4_improve_40 6 rfl ?_
  refine ga_iload hC dX4_improve_42 0 rfl ?_
  refine ga_if_eq (tgt := 51) hC dX4_improve_44 (by decide) (fun hc => ?_) (fun hc => ?_)
  · have h := h.1 hc
    refine ga_aload_n hC dX4_improve_51 3 rfl rfl ?_
    refine ga_iload hC dX4_improve_52 6 rfl ?_
    obtain ⟨h1, h⟩ := h
    refine ga_iald hC (aC_p h_v2) (show _ < 88 by have := h_v2; omega) h1 dX4_improve_54 ?_
    obtain ⟨h2, h⟩ := h
    refine ga_iast hC aC_29 (by decide) h2 dX4_improve_55 ?_
    refine ga_sig (σ := cg_i σ 29 v5.toNatClampNeg (σ.1 v2 v5.toNatClampNeg)) (fun s3 es3 => ?_)
    have h := h s3 es3
    refine ga_iinc (v := v5 + 1) (lv' := [(5, .int (v5 + 1)), (6, .int t0), (0, .ref (ad 6)), (1, .int v1), (2, .ref (ad v2)), (3, .int v3), (4, .int v4)]) hC dX4_improve_56 6 rfl rfl (by decide) rfl ?_
    refine ga_goto (tgt := 3) hC dX4_improve_59 (by decide) ?_
    refine ga_locals [2, 3, 4, 5, 6, 0] rfl ?_
    exact h p l e s m args below meth c D cy ad hC
  · have h := h.2 hc
    refine ga_iconst (v := 0) hC dX4_improve_47 (by decide) ?_
    refine ga_goto (tgt := 55) hC dX4_improve_48 (by decide) ?_
    obtain ⟨h4, h⟩ := h
    refine ga_iast hC aC_29 (by decide) h4 dX4_improve_55 ?_
    refine ga_sig (σ := cg_i σ 29 v5.toNatClampNeg 0) (fun s5 es5 => ?_)
    have h := h s5 es5
    refine ga_iinc (v := v5 + 1) (lv' := [(5, .int (v5 + 1)), (6, .int t0), (0, .ref (ad 6)), (1, .int v1), (2, .ref (ad v2)), (3, .int v3), (4, .int v4)]) hC dX4_improve_56 6 rfl rfl (by decide) rfl ?_
    refine ga_goto (tgt := 3) hC dX4_improve_59 (by decide) ?_
    refine ga_locals [2, 3, 4, 5, 6, 0] rfl ?_
    exact h p l e s m args below meth c D cy ad hC
set_option maxRecDepth 100000 in
set_option maxHeartbeats 4000000 in
theorem v_X4_improve_3 {v1 : Int32} {v2 : Nat} {v3 : Int32} {v4 : Int32} {v5 : Int32} {σ : cg_S} {Q : cg_S → Prop} (h_v2 : v2 = 19 ∨ v2 = 29 ∨ v2 = 30)
    (h : ((σ.1 1 0) ≤ v5 → M_X0_arrange σ (fun s2 => L_X4_improve_75 v1 v3 v4 1 0 s2 Q)) ∧ (¬ (σ.1 1 0) ≤ v5 → vp_in v5 7 ∧ ((σ.1 57 v5.toNatClampNeg) = 0 → L_X4_improve_34 v1 v2 v3 v4 v5 v4 σ Q) ∧ (¬ (σ.1 57 v5.toNatClampNeg) = 0 → L_X4_improve_34 v1 v2 v3 v4 v5 v3 σ Q))) : L_X4_improve_3 v1 v2 v3 v4 v5 σ Q := by
  intro p l e s m args below meth c D cy ad hC
  refine ga_iload hC dX4_improve_3 5 rfl ?_
  refine ga_aload_n hC dX4_improve_5 0 rfl rfl ?_
  refine gC_6_0 hC q_1_221 dX4_improve_6 ?_
  refine gC_1_0 hC q_1_47 dX4_improve_9 ?_
  refine ga_icmp_ge (tgt := 62) hC dX4_improve_12 (by decide) (fun hc => ?_) (fun hc => ?_)
  · have h := h.1 hc
    refine ga_aload_n hC dX4_improve_62 0 rfl rfl ?_
    refine gC_6_2 hC q_1_223 dX4_improve_63 ?_
    refine ga_callV (As := []) (st := []) (k := 3) (n := 0) hC h q_2_219 q_2_220 q_2_221 q_1_4 q_2_222 rfl rfl rfl (by decide +kernel) ⟨Nat.le_of_ble_eq_true rfl, Nat.le_of_ble_eq_true rfl⟩ ⟨Nat.le_of_ble_eq_true rfl, Nat.le_of_ble_eq_true rfl⟩ rfl rfl rfl (by decide) rfl (Nat.le_of_ble_eq_true rfl) dX4_improve_66 (fun v τ hq => ?_)
    obtain ⟨rfl, h⟩ := hq
    obtain ⟨s2, es2⟩ : ∃ z, z = τ := ⟨_, rfl⟩
    rw [← es2] at h ⊢
    clear es2
    refine ga_iconst (v := 1) hC dX4_improve_69 (by decide) ?_
    refine ga_istore (lv' := [(5, .int 1), (0, .ref (ad 6)), (1, .int v1), (2, .ref (ad v2)), (3, .int v3), (4, .int v4)]) hC dX4_improve_70 (by decide) rfl ?_
    refine ga_iconst (v := 0) hC dX4_improve_72 (by decide) ?_
    refine ga_istore (lv' := [(6, .int 0), (5, .int 1), (0, .ref (ad 6)), (1, .int v1), (2, .ref (ad v2)), (3, .int v3), (4, .int v4)]) hC dX4_improve_73 (by decide) rfl ?_
    refine ga_locals [2, 3, 5, 6, 1, 0] rfl ?_
    exact h p l e s m args below meth c D cy ad hC
  · have h := h.2 hc
    refine ga_aload_n hC dX4_improve_15 0 rfl rfl ?_
    refine gC_6_0 hC q_1_221 dX4_improve_16 ?_
    refine gC_1_7 hC q_1_68 dX4_improve_19 ?_
    refine ga_iload hC dX4_improve_22 5 rfl ?_
    obtain ⟨h4, h⟩ := h
    refine ga_zald hC aC_57 (by decide) h4 dX4_improve_24 ?_
    refine ga_if_eq (tgt := 32) hC dX4_improve_25 (by decide) (fun hc => ?_) (fun hc => ?_)
    · have h := h.1 hc
      refine ga_iload hC dX4_improve_32 4 rfl ?_
      refine ga_locals [0, 1, 2, 3, 4, 5] rfl ?_
      exact h p l e s m args below meth c D cy ad hC
    · have h := h.2 hc
      refine ga_iload_n hC dX4_improve_28 3 rfl rfl ?_
      refine ga_goto (tgt := 34) hC dX4_improve_29 (by decide) ?_
      refine ga_locals [0, 1, 2, 3, 4, 5] rfl ?_
      exact h p l e s m args below meth c D cy ad hC
set_option maxRecDepth 100000 in
set_option maxHeartbeats 4000000 in
theorem v_X4_improve {v1 : Int32} {v2 : Nat} {v3 : Int32} {v4 : Int32} {σ : cg_S} {Q : cg_S → Prop} (h_v2 : v2 = 19 ∨ v2 = 29 ∨ v2 = 30)
    (h : L_X4_improve_3 v1 v2 v3 v4 0 σ Q) : M_X4_improve v1 v2 v3 v4 σ Q := by
  refine cg_entry (lv := fun ad => [(0, .ref (ad 6)), (1, .int v1), (2, .ref (ad v2)), (3, .int v3), (4, .int v4)]) (by decide +kernel) (fun _ => rfl) (fun _ => Nat.le_of_ble_eq_true rfl) ?_
  intro p l e s m args below meth c D cy ad hC
  refine ga_iconst (v := 0) hC dX4_improve_0 (by decide) ?_
  refine ga_istore (lv' := [(5, .int 0), (0, .ref (ad 6)), (1, .int v1), (2, .ref (ad v2)), (3, .int v3), (4, .int v4)]) hC dX4_improve_1 (by decide) rfl ?_
  refine ga_locals [1, 2, 3, 4, 5, 0] rfl ?_
  exact h p l e s m args below meth c D cy ad hC
def M_X5_weightInto (v1 : Int32) (v2 : Int32) (σ : cg_S) (Q : Int32 → cg_S → Prop) : Prop := cg_M cg_WC yX5_weightInto cX5_weightInto 5 (some .int) (cg_R 0) (fun ad => [.ref (ad 9), .int v1, .int v2]) σ (cg_qi Q)
theorem M_X5_weightInto.mono {v1 : Int32} {v2 : Int32} {σ : cg_S} {Q Q2 : Int32 → cg_S → Prop} (h : M_X5_weightInto v1 v2 σ Q) (hq : ∀ r τ, Q r τ → Q2 r τ) : M_X5_weightInto v1 v2 σ Q2 := cg_M.mono h (fun ad v τ ⟨r, e, q⟩ => ⟨r, e, hq r τ q⟩)
def L_X5_weightInto_5 (v1 : Int32) (v2 : Int32) (v3 : Int32) (v4 : Int32) (σ : cg_S) (Q : Int32 → cg_S → Prop) : Prop := cg_L cg_WC RX5 cX5_weightInto 5 (some .int) (cg_R 0) 5 (fun ad => [(0, .ref (ad 9)), (1, .int v1), (2, .int v2), (3, .int v3), (4, .int v4)]) (fun ad => []) σ (cg_qi Q)
set_option maxRecDepth 100000 in
set_option maxHeartbeats 4000000 in
theorem v_X5_weightInto_5 {v1 : Int32} {v2 : Int32} {v3 : Int32} {v4 : Int32} {σ : cg_S} {Q : Int32 → cg_S → Prop}
    (h : ((σ.1 1 0) ≤ v4 → Q v3 σ) ∧ (¬ (σ.1 1 0) ≤ v4 → vp_in v4 7 ∧ (¬ (σ.1 33 v4.toNatClampNeg) = v1 → L_X5_weightInto_5 v1 v2 v3 (v4 + 1) σ Q) ∧ ((σ.1 33 v4.toNatClampNeg) = v1 → vp_in v2 21 ∧ vp_in v4 7 ∧ ∀ x4 : Int32, x4 = v3 + (σ.1 (36 + v2.toNatClampNeg) v4.toNatClampNeg) → L_X5_weightInto_5 v1 v2 x4 (v4 + 1) σ Q))) : L_X5_weightInto_5 v1 v2 v3 v4 σ Q := by
  intro p l e s m args below meth c D cy ad hC
  refine ga_iload hC dX5_weightInto_5 4 rfl ?_
  refine ga_aload_n hC dX5_weightInto_7 0 rfl rfl ?_
  refine gC_9_0 hC q_2_93 dX5_weightInto_8 ?_
  refine gC_1_0 hC q_1_45 dX5_weightInto_11 ?_
  refine ga_icmp_ge (tgt := 49) hC dX5_weightInto_14 (by decide) (fun hc => ?_) (fun hc => ?_)
  · have h := h.1 hc
    refine ga_iload_n hC dX5_weightInto_49 3 rfl rfl ?_
    exact ga_iret hC dX5_weightInto_50 ⟨_, rfl, h⟩
  · have h := h.2 hc
    refine ga_aload_n hC dX5_weightInto_17 0 rfl rfl ?_
    refine gC_9_1 hC q_2_94 dX5_weightInto_18 ?_
    refine ga_iload hC dX5_weightInto_21 4 rfl ?_
    obtain ⟨h1, h⟩ := h
    refine ga_iald hC aC_33 (by decide) h1 dX5_weightInto_23 ?_
    refine ga_iload_n hC dX5_weightInto_24 1 rfl rfl ?_
    refine ga_icmp_ne (tgt := 43) hC dX5_weightInto_25 (by decide) (fun hc => ?_) (fun hc => ?_)
    · have h := h.1 hc
      refine ga_iinc (v := v4 + 1) (lv' := [(4, .int (v4 + 1)), (0, .ref (ad 9)), (1, .int v1), (2, .int v2), (3, .int v3)]) hC dX5_weightInto_43 4 rfl rfl (by decide) rfl ?_
      refine ga_goto (tgt := 5) hC dX5_weightInto_46 (by decide) ?_
      refine ga_locals [1, 2, 3, 4, 0] rfl ?_
      exact h p l e s m args below meth c D cy ad hC
    · have h := h.2 hc
      refine ga_iload_n hC dX5_weightInto_28 3 rfl rfl ?_
      refine ga_aload_n hC dX5_weightInto_29 0 rfl rfl ?_
      refine gC_9_0 hC q_2_93 dX5_weightInto_30 ?_
      refine gC_1_14 hC q_1_101 dX5_weightInto_33 ?_
      refine ga_iload_n hC dX5_weightInto_36 2 rfl rfl ?_
      obtain ⟨h2, h⟩ := h
      refine ga_aald4 (b := 36) hC rfl (fun j hj => if_pos hj) (by decide) h2 dX5_weightInto_37 ?_
      refine ga_iload hC dX5_weightInto_38 4 rfl ?_
      obtain ⟨h3, h⟩ := h
      refine ga_iald hC (aC_w (cg_lt h2)) (show 36 + _ < 88 by have := (cg_lt h2); omega) h3 dX5_weightInto_40 ?_
      refine ga_iadd hC dX5_weightInto_41 ?_
      refine ga_topi (fun x4 ex4 => ?_)
      have h := h x4 ex4
      refine ga_istore_n (lv' := [(3, .int x4), (0, .ref (ad 9)), (1, .int v1), (2, .int v2), (4, .int v4)]) hC dX5_weightInto_42 rfl (by decide) rfl ?_
      refine ga_iinc (v := v4 + 1) (lv' := [(4, .int (v4 + 1)), (3, .int x4), (0, .ref (ad 9)), (1, .int v1), (2, .int v2)]) hC dX5_weightInto_43 4 rfl rfl (by decide) rfl ?_
      refine ga_goto (tgt := 5) hC dX5_weightInto_46 (by decide) ?_
      refine ga_locals [2, 3, 4, 1, 0] rfl ?_
      exact h p l e s m args below meth c D cy ad hC
set_option maxRecDepth 100000 in
set_option maxHeartbeats 4000000 in
theorem v_X5_weightInto {v1 : Int32} {v2 : Int32} {σ : cg_S} {Q : Int32 → cg_S → Prop}
    (h : L_X5_weightInto_5 v1 v2 0 0 σ Q) : M_X5_weightInto v1 v2 σ Q := by
  refine cg_entry (lv := fun ad => [(0, .ref (ad 9)), (1, .int v1), (2, .int v2)]) (by decide +kernel) (fun _ => rfl) (fun _ => Nat.le_of_ble_eq_true rfl) ?_
  intro p l e s m args below meth c D cy ad hC
  refine ga_iconst (v := 0) hC dX5_weightInto_0 (by decide) ?_
  refine ga_istore_n (lv' := [(3, .int 0), (0, .ref (ad 9)), (1, .int v1), (2, .int v2)]) hC dX5_weightInto_1 rfl (by decide) rfl ?_
  refine ga_iconst (v := 0) hC dX5_weightInto_2 (by decide) ?_
  refine ga_istore (lv' := [(4, .int 0), (3, .int 0), (0, .ref (ad 9)), (1, .int v1), (2, .int v2)]) hC dX5_weightInto_3 (by decide) rfl ?_
  refine ga_locals [2, 3, 4, 1, 0] rfl ?_
  exact h p l e s m args below meth c D cy ad hC
def M_X5_isLike (v1 : Int32) (v2 : Int32) (σ : cg_S) (Q : Int32 → cg_S → Prop) : Prop := cg_M cg_WC yX5_isLike cX5_isLike 5 (some .boolean) (cg_R 1) (fun ad => [.ref (ad 9), .int v1, .int v2]) σ (cg_qi Q)
theorem M_X5_isLike.mono {v1 : Int32} {v2 : Int32} {σ : cg_S} {Q Q2 : Int32 → cg_S → Prop} (h : M_X5_isLike v1 v2 σ Q) (hq : ∀ r τ, Q r τ → Q2 r τ) : M_X5_isLike v1 v2 σ Q2 := cg_M.mono h (fun ad v τ ⟨r, e, q⟩ => ⟨r, e, hq r τ q⟩)
def L_X5_isLike_46 (v1 : Int32) (v2 : Int32) (v3 : Int32) (σ : cg_S) (Q : Int32 → cg_S → Prop) : Prop := cg_L cg_WC RX5 cX5_isLike 5 (some .boolean) (cg_R 1) 46 (fun ad => [(0, .ref (ad 9)), (1, .int v1), (2, .int v2), (3, .int v3)]) (fun ad => []) σ (cg_qi Q)
set_option maxRecDepth 100000 in
set_option maxHeartbeats 4000000 in
theorem v_X5_isLike_46 {v1 : Int32} {v2 : Int32} {v3 : Int32} {σ : cg_S} {Q : Int32 → cg_S → Prop}
    (h : ((σ.1 1 0) ≤ v3 → Q 1 σ) ∧ (¬ (σ.1 1 0) ≤ v3 → M_X5_weightInto v3 v1 σ (fun r1 s2 => vp_in v2 21 ∧ ∀ x5 : Int32, x5 = r1 * (s2.1 24 v2.toNatClampNeg) → M_X5_weightInto v3 v2 s2 (fun r6 s7 => vp_in v1 21 ∧ (x5 = (r6 * (s7.1 24 v1.toNatClampNeg)) → L_X5_isLike_46 v1 v2 (v3 + 1) s7 Q) ∧ (¬ x5 = (r6 * (s7.1 24 v1.toNatClampNeg)) → Q 0 s7))))) : L_X5_isLike_46 v1 v2 v3 σ Q := by
  intro p l e s m args below meth c D cy ad hC
  refine ga_iload_n hC dX5_isLike_46 3 rfl rfl ?_
  refine ga_aload_n hC dX5_isLike_47 0 rfl rfl ?_
  refine gC_9_0 hC q_2_93 dX5_isLike_48 ?_
  refine gC_1_0 hC q_1_45 dX5_isLike_51 ?_
  refine ga_icmp_ge (tgt := 104) hC dX5_isLike_54 (by decide) (fun hc => ?_) (fun hc => ?_)
  · have h := h.1 hc
    refine ga_iconst (v := 1) hC dX5_isLike_104 (by decide) ?_
    exact ga_zret hC dX5_isLike_105 (by decide) ⟨_, rfl, h⟩
  · have h := h.2 hc
    refine ga_aload_n hC dX5_isLike_57 0 rfl rfl ?_
    refine ga_iload_n hC dX5_isLike_58 3 rfl rfl ?_
    refine ga_iload_n hC dX5_isLike_59 1 rfl rfl ?_
    refine ga_callV (As := [.int v3, .int v1]) (st := []) (k := 9) (n := 2) hC h q_2_207 q_2_208 q_2_209 q_1_11 q_2_210 rfl rfl rfl (by decide +kernel) ⟨Nat.le_of_ble_eq_true rfl, Nat.le_of_ble_eq_true rfl⟩ ⟨Nat.le_of_ble_eq_true rfl, Nat.le_of_ble_eq_true rfl⟩ rfl rfl rfl (by decide) rfl (Nat.le_of_ble_eq_true rfl) dX5_isLike_60 (fun v τ hq => ?_)
    obtain ⟨r1, rfl, h⟩ := hq
    obtain ⟨s2, es2⟩ : ∃ z, z = τ := ⟨_, rfl⟩
    rw [← es2] at h ⊢
    clear es2
    refine ga_aload_n hC dX5_isLike_63 0 rfl rfl ?_
    refine gC_9_0 hC q_2_93 dX5_isLike_64 ?_
    refine gC_1_12 hC q_1_92 dX5_isLike_67 ?_
    refine ga_iload_n hC dX5_isLike_70 2 rfl rfl ?_
    obtain ⟨h4, h⟩ := h
    refine ga_iald hC aC_24 (by decide) h4 dX5_isLike_71 ?_
    refine ga_imul hC dX5_isLike_72 ?_
    refine ga_topi (fun x5 ex5 => ?_)
    have h := h x5 ex5
    refine ga_istore (lv' := [(4, .int x5), (0, .ref (ad 9)), (1, .int v1), (2, .int v2), (3, .int v3)]) hC dX5_isLike_73 (by decide) rfl ?_
    refine ga_iload hC dX5_isLike_75 0 rfl ?_
    refine ga_aload_n hC dX5_isLike_77 1 rfl rfl ?_
    refine ga_iload_n hC dX5_isLike_78 4 rfl rfl ?_
    refine ga_iload_n hC dX5_isLike_79 3 rfl rfl ?_
    refine ga_callV (As := [.int v3, .int v2]) (st := [.int x5]) (k := 9) (n := 2) hC h q_2_207 q_2_208 q_2_209 q_1_11 q_2_210 rfl rfl rfl (by decide +kernel) ⟨Nat.le_of_ble_eq_true rfl, Nat.le_of_ble_eq_true rfl⟩ ⟨Nat.le_of_ble_eq_true rfl, Nat.le_of_ble_eq_true rfl⟩ rfl rfl rfl (by decide) rfl (Nat.le_of_ble_eq_true rfl) dX5_isLike_80 (fun v τ hq => ?_)
    obtain ⟨r6, rfl, h⟩ := hq
    obtain ⟨s7, es7⟩ : ∃ z, z = τ := ⟨_, rfl⟩
    rw [← es7] at h ⊢
    clear es7
    refine ga_aload_n hC dX5_isLike_83 1 rfl rfl ?_
    refine gC_9_0 hC q_2_93 dX5_isLike_84 ?_
    refine gC_1_12 hC q_1_92 dX5_isLike_87 ?_
    refine ga_iload_n hC dX5_isLike_90 2 rfl rfl ?_
    obtain ⟨h9, h⟩ := h
    refine ga_iald hC aC_24 (by decide) h9 dX5_isLike_91 ?_
    refine ga_imul hC dX5_isLike_92 ?_
    refine ga_icmp_eq (tgt := 98) hC dX5_isLike_93 (by decide) (fun hc => ?_) (fun hc => ?_)
    · have h := h.1 hc
      refine ga_iinc (v := v3 + 1) (lv' := [(3, .int (v3 + 1)), (4, .int x5), (0, .ref (ad 9)), (1, .int v1), (2, .int v2)]) hC dX5_isLike_98 4 rfl rfl (by decide) rfl ?_
      refine ga_goto (tgt := 46) hC dX5_isLike_101 (by decide) ?_
      refine ga_locals [2, 3, 4, 0] rfl ?_
      exact h p l e s m args below meth c D cy ad hC
    · have h := h.2 hc
      refine ga_iconst (v := 0) hC dX5_isLike_96 (by decide) ?_
      exact ga_zret hC dX5_isLike_97 (by decide) ⟨_, rfl, h⟩
set_option maxRecDepth 100000 in
set_option maxHeartbeats 4000000 in
theorem v_X5_isLike {v1 : Int32} {v2 : Int32} {σ : cg_S} {Q : Int32 → cg_S → Prop}
    (h : vp_in v1 21 ∧ vp_in v2 21 ∧ (¬ (σ.1 22 v1.toNatClampNeg) = (σ.1 22 v2.toNatClampNeg) → Q 0 σ) ∧ ((σ.1 22 v1.toNatClampNeg) = (σ.1 22 v2.toNatClampNeg) → vp_in v1 21 ∧ vp_in v2 21 ∧ ((σ.1 23 v1.toNatClampNeg) = (σ.1 23 v2.toNatClampNeg) → L_X5_isLike_46 v1 v2 0 σ Q) ∧ (¬ (σ.1 23 v1.toNatClampNeg) = (σ.1 23 v2.toNatClampNeg) → Q 0 σ))) : M_X5_isLike v1 v2 σ Q := by
  refine cg_entry (lv := fun ad => [(0, .ref (ad 9)), (1, .int v1), (2, .int v2)]) (by decide +kernel) (fun _ => rfl) (fun _ => Nat.le_of_ble_eq_true rfl) ?_
  intro p l e s m args below meth c D cy ad hC
  refine ga_aload_n hC dX5_isLike_0 0 rfl rfl ?_
  refine gC_9_0 hC q_2_93 dX5_isLike_1 ?_
  refine gC_1_10 hC q_1_84 dX5_isLike_4 ?_
  refine ga_iload_n hC dX5_isLike_7 1 rfl rfl ?_
  obtain ⟨h1, h⟩ := h
  refine ga_iald hC aC_22 (by decide) h1 dX5_isLike_8 ?_
  refine ga_aload_n hC dX5_isLike_9 0 rfl rfl ?_
  refine gC_9_0 hC q_2_93 dX5_isLike_10 ?_
  refine gC_1_10 hC q_1_84 dX5_isLike_13 ?_
  refine ga_iload_n hC dX5_isLike_16 2 rfl rfl ?_
  obtain ⟨h2, h⟩ := h
  refine ga_iald hC aC_22 (by decide) h2 dX5_isLike_17 ?_
  refine ga_icmp_ne (tgt := 42) hC dX5_isLike_18 (by decide) (fun hc => ?_) (fun hc => ?_)
  · have h := h.1 hc
    refine ga_iconst (v := 0) hC dX5_isLike_42 (by decide) ?_
    exact ga_zret hC dX5_isLike_43 (by decide) ⟨_, rfl, h⟩
  · have h := h.2 hc
    refine ga_aload_n hC dX5_isLike_21 0 rfl rfl ?_
    refine gC_9_0 hC q_2_93 dX5_isLike_22 ?_
    refine gC_1_11 hC q_1_87 dX5_isLike_25 ?_
    refine ga_iload_n hC dX5_isLike_28 1 rfl rfl ?_
    obtain ⟨h3, h⟩ := h
    refine ga_iald hC aC_23 (by decide) h3 dX5_isLike_29 ?_
    refine ga_aload_n hC dX5_isLike_30 0 rfl rfl ?_
    refine gC_9_0 hC q_2_93 dX5_isLike_31 ?_
    refine gC_1_11 hC q_1_87 dX5_isLike_34 ?_
    refine ga_iload_n hC dX5_isLike_37 2 rfl rfl ?_
    obtain ⟨h4, h⟩ := h
    refine ga_iald hC aC_23 (by decide) h4 dX5_isLike_38 ?_
    refine ga_icmp_eq (tgt := 44) hC dX5_isLike_39 (by decide) (fun hc => ?_) (fun hc => ?_)
    · have h := h.1 hc
      refine ga_iconst (v := 0) hC dX5_isLike_44 (by decide) ?_
      refine ga_istore_n (lv' := [(3, .int 0), (0, .ref (ad 9)), (1, .int v1), (2, .int v2)]) hC dX5_isLike_45 rfl (by decide) rfl ?_
      refine ga_locals [1, 2, 3, 0] rfl ?_
      exact h p l e s m args below meth c D cy ad hC
    · have h := h.2 hc
      refine ga_iconst (v := 0) hC dX5_isLike_42 (by decide) ?_
      exact ga_zret hC dX5_isLike_43 (by decide) ⟨_, rfl, h⟩
def M_X5_hasLike (v1 : Int32) (v2 : Int32) (σ : cg_S) (Q : Int32 → cg_S → Prop) : Prop := cg_M cg_WC yX5_hasLike cX5_hasLike 4 (some .boolean) (cg_R 2) (fun ad => [.ref (ad 9), .int v1, .int v2]) σ (cg_qi Q)
theorem M_X5_hasLike.mono {v1 : Int32} {v2 : Int32} {σ : cg_S} {Q Q2 : Int32 → cg_S → Prop} (h : M_X5_hasLike v1 v2 σ Q) (hq : ∀ r τ, Q r τ → Q2 r τ) : M_X5_hasLike v1 v2 σ Q2 := cg_M.mono h (fun ad v τ ⟨r, e, q⟩ => ⟨r, e, hq r τ q⟩)
def L_X5_hasLike_2 (v1 : Int32) (v2 : Int32) (v3 : Int32) (σ : cg_S) (Q : Int32 → cg_S → Prop) : Prop := cg_L cg_WC RX5 cX5_hasLike 4 (some .boolean) (cg_R 2) 2 (fun ad => [(0, .ref (ad 9)), (1, .int v1), (2, .int v2), (3, .int v3)]) (fun ad => []) σ (cg_qi Q)
set_option maxRecDepth 100000 in
set_option maxHeartbeats 4000000 in
theorem v_X5_hasLike_2 {v1 : Int32} {v2 : Int32} {v3 : Int32} {σ : cg_S} {Q : Int32 → cg_S → Prop}
    (h : vp_in v1 7 ∧ ((σ.1 21 v1.toNatClampNeg) ≤ v3 → Q 0 σ) ∧ (¬ (σ.1 21 v1.toNatClampNeg) ≤ v3 → M_X2_moveOf v1 v3 σ (fun r2 s3 => M_X5_isLike r2 v2 s3 (fun r5 s6 => (r5 = 0 → L_X5_hasLike_2 v1 v2 (v3 + 1) s6 Q) ∧ (¬ r5 = 0 → Q 1 s6))))) : L_X5_hasLike_2 v1 v2 v3 σ Q := by
  intro p l e s m args below meth c D cy ad hC
  refine ga_iload_n hC dX5_hasLike_2 3 rfl rfl ?_
  refine ga_aload_n hC dX5_hasLike_3 0 rfl rfl ?_
  refine gC_9_0 hC q_2_93 dX5_hasLike_4 ?_
  refine gC_1_9 hC q_1_80 dX5_hasLike_7 ?_
  refine ga_iload_n hC dX5_hasLike_10 1 rfl rfl ?_
  obtain ⟨h1, h⟩ := h
  refine ga_iald hC aC_21 (by decide) h1 dX5_hasLike_11 ?_
  refine ga_icmp_ge (tgt := 36) hC dX5_hasLike_12 (by decide) (fun hc => ?_) (fun hc => ?_)
  · have h := h.1 hc
    refine ga_iconst (v := 0) hC dX5_hasLike_36 (by decide) ?_
    exact ga_zret hC dX5_hasLike_37 (by decide) ⟨_, rfl, h⟩
  · have h := h.2 hc
    refine ga_aload_n hC dX5_hasLike_15 0 rfl rfl ?_
    refine ga_iload_n hC dX5_hasLike_16 1 rfl rfl ?_
    refine ga_iload_n hC dX5_hasLike_17 3 rfl rfl ?_
    refine ga_callS (As := [.int v1, .int v3]) (st := [.ref (ad 9)]) (n := 2) hC h q_2_198 q_2_169 q_1_2 q_2_170 rfl rfl rfl (by decide +kernel) ⟨Nat.le_of_ble_eq_true rfl, Nat.le_of_ble_eq_true rfl⟩ ⟨Nat.le_of_ble_eq_true rfl, Nat.le_of_ble_eq_true rfl⟩ rfl rfl (Nat.le_of_ble_eq_true rfl) dX5_hasLike_18 (fun v τ hq => ?_)
    obtain ⟨r2, rfl, h⟩ := hq
    obtain ⟨s3, es3⟩ : ∃ z, z = τ := ⟨_, rfl⟩
    rw [← es3] at h ⊢
    clear es3
    refine ga_iload_n hC dX5_hasLike_21 2 rfl rfl ?_
    refine ga_callV (As := [.int r2, .int v2]) (st := []) (k := 9) (n := 2) hC h q_2_203 q_2_204 q_2_205 q_1_11 q_2_206 rfl rfl rfl (by decide +kernel) ⟨Nat.le_of_ble_eq_true rfl, Nat.le_of_ble_eq_true rfl⟩ ⟨Nat.le_of_ble_eq_true rfl, Nat.le_of_ble_eq_true rfl⟩ rfl rfl rfl (by decide) rfl (Nat.le_of_ble_eq_true rfl) dX5_hasLike_22 (fun v τ hq => ?_)
    obtain ⟨r5, rfl, h⟩ := hq
    obtain ⟨s6, es6⟩ : ∃ z, z = τ := ⟨_, rfl⟩
    rw [← es6] at h ⊢
    clear es6
    refine ga_if_eq (tgt := 30) hC dX5_hasLike_25 (by decide) (fun hc => ?_) (fun hc => ?_)
    · have h := h.1 hc
      refine ga_iinc (v := v3 + 1) (lv' := [(3, .int (v3 + 1)), (0, .ref (ad 9)), (1, .int v1), (2, .int v2)]) hC dX5_hasLike_30 3 rfl rfl (by decide) rfl ?_
      refine ga_goto (tgt := 2) hC dX5_hasLike_33 (by decide) ?_
      refine ga_locals [1, 2, 3, 0] rfl ?_
      exact h p l e s m args below meth c D cy ad hC
    · have h := h.2 hc
      refine ga_iconst (v := 1) hC dX5_hasLike_28 (by decide) ?_
      exact ga_zret hC dX5_hasLike_29 (by decide) ⟨_, rfl, h⟩
set_option maxRecDepth 100000 in
set_option maxHeartbeats 4000000 in
theorem v_X5_hasLike {v1 : Int32} {v2 : Int32} {σ : cg_S} {Q : Int32 → cg_S → Prop}
    (h : L_X5_hasLike_2 v1 v2 0 σ Q) : M_X5_hasLike v1 v2 σ Q := by
  refine cg_entry (lv := fun ad => [(0, .ref (ad 9)), (1, .int v1), (2, .int v2)]) (by decide +kernel) (fun _ => rfl) (fun _ => Nat.le_of_ble_eq_true rfl) ?_
  intro p l e s m args below meth c D cy ad hC
  refine ga_iconst (v := 0) hC dX5_hasLike_0 (by decide) ?_
  refine ga_istore_n (lv' := [(3, .int 0), (0, .ref (ad 9)), (1, .int v1), (2, .int v2)]) hC dX5_hasLike_1 rfl (by decide) rfl ?_
  refine ga_locals [1, 2, 3, 0] rfl ?_
  exact h p l e s m args below meth c D cy ad hC
def M_X5_isAnswered (v1 : Int32) (v2 : Int32) (σ : cg_S) (Q : Int32 → cg_S → Prop) : Prop := cg_M cg_WC yX5_isAnswered cX5_isAnswered 4 (some .boolean) (cg_R 3) (fun ad => [.ref (ad 9), .int v1, .int v2]) σ (cg_qi Q)
theorem M_X5_isAnswered.mono {v1 : Int32} {v2 : Int32} {σ : cg_S} {Q Q2 : Int32 → cg_S → Prop} (h : M_X5_isAnswered v1 v2 σ Q) (hq : ∀ r τ, Q r τ → Q2 r τ) : M_X5_isAnswered v1 v2 σ Q2 := cg_M.mono h (fun ad v τ ⟨r, e, q⟩ => ⟨r, e, hq r τ q⟩)
def L_X5_isAnswered_2 (v1 : Int32) (v2 : Int32) (v3 : Int32) (σ : cg_S) (Q : Int32 → cg_S → Prop) : Prop := cg_L cg_WC RX5 cX5_isAnswered 4 (some .boolean) (cg_R 3) 2 (fun ad => [(0, .ref (ad 9)), (1, .int v1), (2, .int v2), (3, .int v3)]) (fun ad => []) σ (cg_qi Q)
set_option maxRecDepth 100000 in
set_option maxHeartbeats 4000000 in
theorem v_X5_isAnswered_2 {v1 : Int32} {v2 : Int32} {v3 : Int32} {σ : cg_S} {Q : Int32 → cg_S → Prop}
    (h : vp_in v1 7 ∧ ((σ.1 21 v1.toNatClampNeg) ≤ v3 → Q 1 σ) ∧ (¬ (σ.1 21 v1.toNatClampNeg) ≤ v3 → M_X2_moveOf v1 v3 σ (fun r2 s3 => M_X5_hasLike v2 r2 s3 (fun r5 s6 => (¬ r5 = 0 → L_X5_isAnswered_2 v1 v2 (v3 + 1) s6 Q) ∧ (r5 = 0 → Q 0 s6))))) : L_X5_isAnswered_2 v1 v2 v3 σ Q := by
  intro p l e s m args below meth c D cy ad hC
  refine ga_iload_n hC dX5_isAnswered_2 3 rfl rfl ?_
  refine ga_aload_n hC dX5_isAnswered_3 0 rfl rfl ?_
  refine gC_9_0 hC q_2_93 dX5_isAnswered_4 ?_
  refine gC_1_9 hC q_1_80 dX5_isAnswered_7 ?_
  refine ga_iload_n hC dX5_isAnswered_10 1 rfl rfl ?_
  obtain ⟨h1, h⟩ := h
  refine ga_iald hC aC_21 (by decide) h1 dX5_isAnswered_11 ?_
  refine ga_icmp_ge (tgt := 36) hC dX5_isAnswered_12 (by decide) (fun hc => ?_) (fun hc => ?_)
  · have h := h.1 hc
    refine ga_iconst (v := 1) hC dX5_isAnswered_36 (by decide) ?_
    exact ga_zret hC dX5_isAnswered_37 (by decide) ⟨_, rfl, h⟩
  · have h := h.2 hc
    refine ga_aload_n hC dX5_isAnswered_15 0 rfl rfl ?_
    refine ga_iload_n hC dX5_isAnswered_16 2 rfl rfl ?_
    refine ga_iload_n hC dX5_isAnswered_17 1 rfl rfl ?_
    refine ga_iload_n hC dX5_isAnswered_18 3 rfl rfl ?_
    refine ga_callS (As := [.int v1, .int v3]) (st := [.int v2, .ref (ad 9)]) (n := 2) hC h q_2_198 q_2_169 q_1_2 q_2_170 rfl rfl rfl (by decide +kernel) ⟨Nat.le_of_ble_eq_true rfl, Nat.le_of_ble_eq_true rfl⟩ ⟨Nat.le_of_ble_eq_true rfl, Nat.le_of_ble_eq_true rfl⟩ rfl rfl (Nat.le_of_ble_eq_true rfl) dX5_isAnswered_19 (fun v τ hq => ?_)
    obtain ⟨r2, rfl, h⟩ := hq
    obtain ⟨s3, es3⟩ : ∃ z, z = τ := ⟨_, rfl⟩
    rw [← es3] at h ⊢
    clear es3
    refine ga_callV (As := [.int v2, .int r2]) (st := []) (k := 9) (n := 2) hC h q_2_199 q_2_200 q_2_201 q_1_11 q_2_202 rfl rfl rfl (by decide +kernel) ⟨Nat.le_of_ble_eq_true rfl, Nat.le_of_ble_eq_true rfl⟩ ⟨Nat.le_of_ble_eq_true rfl, Nat.le_of_ble_eq_true rfl⟩ rfl rfl rfl (by decide) rfl (Nat.le_of_ble_eq_true rfl) dX5_isAnswered_22 (fun v τ hq => ?_)
    obtain ⟨r5, rfl, h⟩ := hq
    obtain ⟨s6, es6⟩ : ∃ z, z = τ := ⟨_, rfl⟩
    rw [← es6] at h ⊢
    clear es6
    refine ga_if_ne (tgt := 30) hC dX5_isAnswered_25 (by decide) (fun hc => ?_) (fun hc => ?_)
    · have h := h.1 hc
      refine ga_iinc (v := v3 + 1) (lv' := [(3, .int (v3 + 1)), (0, .ref (ad 9)), (1, .int v1), (2, .int v2)]) hC dX5_isAnswered_30 3 rfl rfl (by decide) rfl ?_
      refine ga_goto (tgt := 2) hC dX5_isAnswered_33 (by decide) ?_
      refine ga_locals [1, 2, 3, 0] rfl ?_
      exact h p l e s m args below meth c D cy ad hC
    · have h := h.2 hc
      refine ga_iconst (v := 0) hC dX5_isAnswered_28 (by decide) ?_
      exact ga_zret hC dX5_isAnswered_29 (by decide) ⟨_, rfl, h⟩
set_option maxRecDepth 100000 in
set_option maxHeartbeats 4000000 in
theorem v_X5_isAnswered {v1 : Int32} {v2 : Int32} {σ : cg_S} {Q : Int32 → cg_S → Prop}
    (h : L_X5_isAnswered_2 v1 v2 0 σ Q) : M_X5_isAnswered v1 v2 σ Q := by
  refine cg_entry (lv := fun ad => [(0, .ref (ad 9)), (1, .int v1), (2, .int v2)]) (by decide +kernel) (fun _ => rfl) (fun _ => Nat.le_of_ble_eq_true rfl) ?_
  intro p l e s m args below meth c D cy ad hC
  refine ga_iconst (v := 0) hC dX5_isAnswered_0 (by decide) ?_
  refine ga_istore_n (lv' := [(3, .int 0), (0, .ref (ad 9)), (1, .int v1), (2, .int v2)]) hC dX5_isAnswered_1 rfl (by decide) rfl ?_
  refine ga_locals [1, 2, 3, 0] rfl ?_
  exact h p l e s m args below meth c D cy ad hC
def M_X5_lowestLike (v1 : Int32) (σ : cg_S) (Q : Int32 → cg_S → Prop) : Prop := cg_M cg_WC yX5_lowestLike cX5_lowestLike 3 (some .int) (cg_R 4) (fun ad => [.ref (ad 9), .int v1]) σ (cg_qi Q)
theorem M_X5_lowestLike.mono {v1 : Int32} {σ : cg_S} {Q Q2 : Int32 → cg_S → Prop} (h : M_X5_lowestLike v1 σ Q) (hq : ∀ r τ, Q r τ → Q2 r τ) : M_X5_lowestLike v1 σ Q2 := cg_M.mono h (fun ad v τ ⟨r, e, q⟩ => ⟨r, e, hq r τ q⟩)
def L_X5_lowestLike_2 (v1 : Int32) (v2 : Int32) (σ : cg_S) (Q : Int32 → cg_S → Prop) : Prop := cg_L cg_WC RX5 cX5_lowestLike 3 (some .int) (cg_R 4) 2 (fun ad => [(0, .ref (ad 9)), (1, .int v1), (2, .int v2)]) (fun ad => []) σ (cg_qi Q)
set_option maxRecDepth 100000 in
set_option maxHeartbeats 4000000 in
theorem v_X5_lowestLike_2 {v1 : Int32} {v2 : Int32} {σ : cg_S} {Q : Int32 → cg_S → Prop}
    (h : (v1 ≤ v2 → Q v1 σ) ∧ (¬ v1 ≤ v2 → vp_in v2 7 ∧ vp_in v1 7 ∧ (¬ (σ.1 33 v2.toNatClampNeg) = (σ.1 33 v1.toNatClampNeg) → L_X5_lowestLike_2 v1 (v2 + 1) σ Q) ∧ ((σ.1 33 v2.toNatClampNeg) = (σ.1 33 v1.toNatClampNeg) → M_X5_isAnswered v2 v1 σ (fun r3 s4 => (r3 = 0 → L_X5_lowestLike_2 v1 (v2 + 1) s4 Q) ∧ (¬ r3 = 0 → M_X5_isAnswered v1 v2 s4 (fun r6 s7 => (r6 = 0 → L_X5_lowestLike_2 v1 (v2 + 1) s7 Q) ∧ (¬ r6 = 0 → Q v2 s7))))))) : L_X5_lowestLike_2 v1 v2 σ Q := by
  intro p l e s m args below meth c D cy ad hC
  refine ga_iload_n hC dX5_lowestLike_2 2 rfl rfl ?_
  refine ga_iload_n hC dX5_lowestLike_3 1 rfl rfl ?_
  refine ga_icmp_ge (tgt := 48) hC dX5_lowestLike_4 (by decide) (fun hc => ?_) (fun hc => ?_)
  · have h := h.1 hc
    refine ga_iload_n hC dX5_lowestLike_48 1 rfl rfl ?_
    exact ga_iret hC dX5_lowestLike_49 ⟨_, rfl, h⟩
  · have h := h.2 hc
    refine ga_aload_n hC dX5_lowestLike_7 0 rfl rfl ?_
    refine gC_9_1 hC q_2_94 dX5_lowestLike_8 ?_
    refine ga_iload_n hC dX5_lowestLike_11 2 rfl rfl ?_
    obtain ⟨h1, h⟩ := h
    refine ga_iald hC aC_33 (by decide) h1 dX5_lowestLike_12 ?_
    refine ga_aload_n hC dX5_lowestLike_13 0 rfl rfl ?_
    refine gC_9_1 hC q_2_94 dX5_lowestLike_14 ?_
    refine ga_iload_n hC dX5_lowestLike_17 1 rfl rfl ?_
    obtain ⟨h2, h⟩ := h
    refine ga_iald hC aC_33 (by decide) h2 dX5_lowestLike_18 ?_
    refine ga_icmp_ne (tgt := 42) hC dX5_lowestLike_19 (by decide) (fun hc => ?_) (fun hc => ?_)
    · have h := h.1 hc
      refine ga_iinc (v := v2 + 1) (lv' := [(2, .int (v2 + 1)), (0, .ref (ad 9)), (1, .int v1)]) hC dX5_lowestLike_42 2 rfl rfl (by decide) rfl ?_
      refine ga_goto (tgt := 2) hC dX5_lowestLike_45 (by decide) ?_
      refine ga_locals [1, 2, 0] rfl ?_
      exact h p l e s m args below meth c D cy ad hC
    · have h := h.2 hc
      refine ga_aload_n hC dX5_lowestLike_22 0 rfl rfl ?_
      refine ga_iload_n hC dX5_lowestLike_23 2 rfl rfl ?_
      refine ga_iload_n hC dX5_lowestLike_24 1 rfl rfl ?_
      refine ga_callV (As := [.int v2, .int v1]) (st := []) (k := 9) (n := 2) hC h q_2_194 q_2_195 q_2_196 q_1_11 q_2_197 rfl rfl rfl (by decide +kernel) ⟨Nat.le_of_ble_eq_true rfl, Nat.le_of_ble_eq_true rfl⟩ ⟨Nat.le_of_ble_eq_true rfl, Nat.le_of_ble_eq_true rfl⟩ rfl rfl rfl (by decide) rfl (Nat.le_of_ble_eq_true rfl) dX5_lowestLike_25 (fun v τ hq => ?_)
      obtain ⟨r3, rfl, h⟩ := hq
      obtain ⟨s4, es4⟩ : ∃ z, z = τ := ⟨_, rfl⟩
      rw [← es4] at h ⊢
      clear es4
      refine ga_if_eq (tgt := 42) hC dX5_lowestLike_28 (by decide) (fun hc => ?_) (fun hc => ?_)
      · have h := h.1 hc
        refine ga_iinc (v := v2 + 1) (lv' := [(2, .int (v2 + 1)), (0, .ref (ad 9)), (1, .int v1)]) hC dX5_lowestLike_42 2 rfl rfl (by decide) rfl ?_
        refine ga_goto (tgt := 2) hC dX5_lowestLike_45 (by decide) ?_
        refine ga_locals [1, 2, 0] rfl ?_
        exact h p l e s m args below meth c D cy ad hC
      · have h := h.2 hc
        refine ga_aload_n hC dX5_lowestLike_31 0 rfl rfl ?_
        refine ga_iload_n hC dX5_lowestLike_32 1 rfl rfl ?_
        refine ga_iload_n hC dX5_lowestLike_33 2 rfl rfl ?_
        refine ga_callV (As := [.int v1, .int v2]) (st := []) (k := 9) (n := 2) hC h q_2_194 q_2_195 q_2_196 q_1_11 q_2_197 rfl rfl rfl (by decide +kernel) ⟨Nat.le_of_ble_eq_true rfl, Nat.le_of_ble_eq_true rfl⟩ ⟨Nat.le_of_ble_eq_true rfl, Nat.le_of_ble_eq_true rfl⟩ rfl rfl rfl (by decide) rfl (Nat.le_of_ble_eq_true rfl) dX5_lowestLike_34 (fun v τ hq => ?_)
        obtain ⟨r6, rfl, h⟩ := hq
        obtain ⟨s7, es7⟩ : ∃ z, z = τ := ⟨_, rfl⟩
        rw [← es7] at h ⊢
        clear es7
        refine ga_if_eq (tgt := 42) hC dX5_lowestLike_37 (by decide) (fun hc => ?_) (fun hc => ?_)
        · have h := h.1 hc
          refine ga_iinc (v := v2 + 1) (lv' := [(2, .int (v2 + 1)), (0, .ref (ad 9)), (1, .int v1)]) hC dX5_lowestLike_42 2 rfl rfl (by decide) rfl ?_
          refine ga_goto (tgt := 2) hC dX5_lowestLike_45 (by decide) ?_
          refine ga_locals [1, 2, 0] rfl ?_
          exact h p l e s m args below meth c D cy ad hC
        · have h := h.2 hc
          refine ga_iload_n hC dX5_lowestLike_40 2 rfl rfl ?_
          exact ga_iret hC dX5_lowestLike_41 ⟨_, rfl, h⟩
set_option maxRecDepth 100000 in
set_option maxHeartbeats 4000000 in
theorem v_X5_lowestLike {v1 : Int32} {σ : cg_S} {Q : Int32 → cg_S → Prop}
    (h : L_X5_lowestLike_2 v1 0 σ Q) : M_X5_lowestLike v1 σ Q := by
  refine cg_entry (lv := fun ad => [(0, .ref (ad 9)), (1, .int v1)]) (by decide +kernel) (fun _ => rfl) (fun _ => Nat.le_of_ble_eq_true rfl) ?_
  intro p l e s m args below meth c D cy ad hC
  refine ga_iconst (v := 0) hC dX5_lowestLike_0 (by decide) ?_
  refine ga_istore_n (lv' := [(2, .int 0), (0, .ref (ad 9)), (1, .int v1)]) hC dX5_lowestLike_1 rfl (by decide) rfl ?_
  refine ga_locals [1, 2, 0] rfl ?_
  exact h p l e s m args below meth c D cy ad hC
def M_X5_lowestLook (v1 : Int32) (σ : cg_S) (Q : Int32 → cg_S → Prop) : Prop := cg_M cg_WC yX5_lowestLook cX5_lowestLook 3 (some .int) (cg_R 2) (fun ad => [.ref (ad 9), .int v1]) σ (cg_qi Q)
theorem M_X5_lowestLook.mono {v1 : Int32} {σ : cg_S} {Q Q2 : Int32 → cg_S → Prop} (h : M_X5_lowestLook v1 σ Q) (hq : ∀ r τ, Q r τ → Q2 r τ) : M_X5_lowestLook v1 σ Q2 := cg_M.mono h (fun ad v τ ⟨r, e, q⟩ => ⟨r, e, hq r τ q⟩)
def L_X5_lowestLook_2 (v1 : Int32) (v2 : Int32) (σ : cg_S) (Q : Int32 → cg_S → Prop) : Prop := cg_L cg_WC RX5 cX5_lowestLook 3 (some .int) (cg_R 2) 2 (fun ad => [(0, .ref (ad 9)), (1, .int v1), (2, .int v2)]) (fun ad => []) σ (cg_qi Q)
set_option maxRecDepth 100000 in
set_option maxHeartbeats 4000000 in
theorem v_X5_lowestLook_2 {v1 : Int32} {v2 : Int32} {σ : cg_S} {Q : Int32 → cg_S → Prop}
    (h : (v1 ≤ v2 → Q v1 σ) ∧ (¬ v1 ≤ v2 → vp_in v2 7 ∧ vp_in v1 7 ∧ (¬ (σ.1 57 v2.toNatClampNeg) = (σ.1 57 v1.toNatClampNeg) → L_X5_lowestLook_2 v1 (v2 + 1) σ Q) ∧ ((σ.1 57 v2.toNatClampNeg) = (σ.1 57 v1.toNatClampNeg) → vp_in v2 7 ∧ vp_in v1 7 ∧ (¬ (σ.1 20 v2.toNatClampNeg) = (σ.1 20 v1.toNatClampNeg) → L_X5_lowestLook_2 v1 (v2 + 1) σ Q) ∧ ((σ.1 20 v2.toNatClampNeg) = (σ.1 20 v1.toNatClampNeg) → M_X2_isTarget v2 σ (fun r5 s6 => M_X2_isTarget v1 s6 (fun r8 s9 => (¬ r5 = r8 → L_X5_lowestLook_2 v1 (v2 + 1) s9 Q) ∧ (r5 = r8 → Q v2 s9))))))) : L_X5_lowestLook_2 v1 v2 σ Q := by
  intro p l e s m args below meth c D cy ad hC
  refine ga_iload_n hC dX5_lowestLook_2 2 rfl rfl ?_
  refine ga_iload_n hC dX5_lowestLook_3 1 rfl rfl ?_
  refine ga_icmp_ge (tgt := 76) hC dX5_lowestLook_4 (by decide) (fun hc => ?_) (fun hc => ?_)
  · have h := h.1 hc
    refine ga_iload_n hC dX5_lowestLook_76 1 rfl rfl ?_
    exact ga_iret hC dX5_lowestLook_77 ⟨_, rfl, h⟩
  · have h := h.2 hc
    refine ga_aload_n hC dX5_lowestLook_7 0 rfl rfl ?_
    refine gC_9_0 hC q_2_93 dX5_lowestLook_8 ?_
    refine gC_1_7 hC q_1_71 dX5_lowestLook_11 ?_
    refine ga_iload_n hC dX5_lowestLook_14 2 rfl rfl ?_
    obtain ⟨h1, h⟩ := h
    refine ga_zald hC aC_57 (by decide) h1 dX5_lowestLook_15 ?_
    refine ga_aload_n hC dX5_lowestLook_16 0 rfl rfl ?_
    refine gC_9_0 hC q_2_93 dX5_lowestLook_17 ?_
    refine gC_1_7 hC q_1_71 dX5_lowestLook_20 ?_
    refine ga_iload_n hC dX5_lowestLook_23 1 rfl rfl ?_
    obtain ⟨h2, h⟩ := h
    refine ga_zald hC aC_57 (by decide) h2 dX5_lowestLook_24 ?_
    refine ga_icmp_ne (tgt := 70) hC dX5_lowestLook_25 (by decide) (fun hc => ?_) (fun hc => ?_)
    · have h := h.1 hc
      refine ga_iinc (v := v2 + 1) (lv' := [(2, .int (v2 + 1)), (0, .ref (ad 9)), (1, .int v1)]) hC dX5_lowestLook_70 2 rfl rfl (by decide) rfl ?_
      refine ga_goto (tgt := 2) hC dX5_lowestLook_73 (by decide) ?_
      refine ga_locals [1, 2, 0] rfl ?_
      exact h p l e s m args below meth c D cy ad hC
    · have h := h.2 hc
      refine ga_aload_n hC dX5_lowestLook_28 0 rfl rfl ?_
      refine gC_9_0 hC q_2_93 dX5_lowestLook_29 ?_
      refine gC_1_8 hC q_1_74 dX5_lowestLook_32 ?_
      refine ga_iload_n hC dX5_lowestLook_35 2 rfl rfl ?_
      obtain ⟨h3, h⟩ := h
      refine ga_iald hC aC_20 (by decide) h3 dX5_lowestLook_36 ?_
      refine ga_aload_n hC dX5_lowestLook_37 0 rfl rfl ?_
      refine gC_9_0 hC q_2_93 dX5_lowestLook_38 ?_
      refine gC_1_8 hC q_1_74 dX5_lowestLook_41 ?_
      refine ga_iload_n hC dX5_lowestLook_44 1 rfl rfl ?_
      obtain ⟨h4, h⟩ := h
      refine ga_iald hC aC_20 (by decide) h4 dX5_lowestLook_45 ?_
      refine ga_icmp_ne (tgt := 70) hC dX5_lowestLook_46 (by decide) (fun hc => ?_) (fun hc => ?_)
      · have h := h.1 hc
        refine ga_iinc (v := v2 + 1) (lv' := [(2, .int (v2 + 1)), (0, .ref (ad 9)), (1, .int v1)]) hC dX5_lowestLook_70 2 rfl rfl (by decide) rfl ?_
        refine ga_goto (tgt := 2) hC dX5_lowestLook_73 (by decide) ?_
        refine ga_locals [1, 2, 0] rfl ?_
        exact h p l e s m args below meth c D cy ad hC
      · have h := h.2 hc
        refine ga_aload_n hC dX5_lowestLook_49 0 rfl rfl ?_
        refine gC_9_0 hC q_2_93 dX5_lowestLook_50 ?_
        refine ga_iload_n hC dX5_lowestLook_53 2 rfl rfl ?_
        refine ga_callV (As := [.int v2]) (st := []) (k := 1) (n := 1) hC h q_2_183 q_2_184 q_2_185 q_1_2 q_2_186 rfl rfl rfl (by decide +kernel) ⟨Nat.le_of_ble_eq_true rfl, Nat.le_of_ble_eq_true rfl⟩ ⟨Nat.le_of_ble_eq_true rfl, Nat.le_of_ble_eq_true rfl⟩ rfl rfl rfl (by decide) rfl (Nat.le_of_ble_eq_true rfl) dX5_lowestLook_54 (fun v τ hq => ?_)
        obtain ⟨r5, rfl, h⟩ := hq
        obtain ⟨s6, es6⟩ : ∃ z, z = τ := ⟨_, rfl⟩
        rw [← es6] at h ⊢
        clear es6
        refine ga_aload_n hC dX5_lowestLook_57 0 rfl rfl ?_
        refine gC_9_0 hC q_2_93 dX5_lowestLook_58 ?_
        refine ga_iload_n hC dX5_lowestLook_61 1 rfl rfl ?_
        refine ga_callV (As := [.int v1]) (st := [.int r5]) (k := 1) (n := 1) hC h q_2_183 q_2_184 q_2_185 q_1_2 q_2_186 rfl rfl rfl (by decide +kernel) ⟨Nat.le_of_ble_eq_true rfl, Nat.le_of_ble_eq_true rfl⟩ ⟨Nat.le_of_ble_eq_true rfl, Nat.le_of_ble_eq_true rfl⟩ rfl rfl rfl (by decide) rfl (Nat.le_of_ble_eq_true rfl) dX5_lowestLook_62 (fun v τ hq => ?_)
        obtain ⟨r8, rfl, h⟩ := hq
        obtain ⟨s9, es9⟩ : ∃ z, z = τ := ⟨_, rfl⟩
        rw [← es9] at h ⊢
        clear es9
        refine ga_icmp_ne (tgt := 70) hC dX5_lowestLook_65 (by decide) (fun hc => ?_) (fun hc => ?_)
        · have h := h.1 hc
          refine ga_iinc (v := v2 + 1) (lv' := [(2, .int (v2 + 1)), (0, .ref (ad 9)), (1, .int v1)]) hC dX5_lowestLook_70 2 rfl rfl (by decide) rfl ?_
          refine ga_goto (tgt := 2) hC dX5_lowestLook_73 (by decide) ?_
          refine ga_locals [1, 2, 0] rfl ?_
          exact h p l e s m args below meth c D cy ad hC
        · have h := h.2 hc
          refine ga_iload_n hC dX5_lowestLook_68 2 rfl rfl ?_
          exact ga_iret hC dX5_lowestLook_69 ⟨_, rfl, h⟩
set_option maxRecDepth 100000 in
set_option maxHeartbeats 4000000 in
theorem v_X5_lowestLook {v1 : Int32} {σ : cg_S} {Q : Int32 → cg_S → Prop}
    (h : L_X5_lowestLook_2 v1 0 σ Q) : M_X5_lowestLook v1 σ Q := by
  refine cg_entry (lv := fun ad => [(0, .ref (ad 9)), (1, .int v1)]) (by decide +kernel) (fun _ => rfl) (fun _ => Nat.le_of_ble_eq_true rfl) ?_
  intro p l e s m args below meth c D cy ad hC
  refine ga_iconst (v := 0) hC dX5_lowestLook_0 (by decide) ?_
  refine ga_istore_n (lv' := [(2, .int 0), (0, .ref (ad 9)), (1, .int v1)]) hC dX5_lowestLook_1 rfl (by decide) rfl ?_
  refine ga_locals [1, 2, 0] rfl ?_
  exact h p l e s m args below meth c D cy ad hC
def M_X5_sort (σ : cg_S) (Q : cg_S → Prop) : Prop := cg_M cg_WC yX5_sort cX5_sort 3 none (cg_R 5) (fun ad => [.ref (ad 9)]) σ (cg_qv Q)
theorem M_X5_sort.mono {σ : cg_S} {Q Q2 : cg_S → Prop} (h : M_X5_sort σ Q) (hq : ∀ τ, Q τ → Q2 τ) : M_X5_sort σ Q2 := cg_M.mono h (fun ad v τ ⟨e, q⟩ => ⟨e, hq τ q⟩)
def L_X5_sort_2 (v1 : Int32) (σ : cg_S) (Q : cg_S → Prop) : Prop := cg_L cg_WC RX5 cX5_sort 3 none (cg_R 5) 2 (fun ad => [(0, .ref (ad 9)), (1, .int v1)]) (fun ad => []) σ (cg_qv Q)
def L_X5_sort_32 (v1 : Int32) (σ : cg_S) (Q : cg_S → Prop) : Prop := cg_L cg_WC RX5 cX5_sort 3 none (cg_R 5) 32 (fun ad => [(0, .ref (ad 9)), (1, .int v1)]) (fun ad => []) σ (cg_qv Q)
def L_X5_sort_45 (v1 : Int32) (v2 : Int32) (σ : cg_S) (Q : cg_S → Prop) : Prop := cg_L cg_WC RX5 cX5_sort 3 none (cg_R 5) 45 (fun ad => [(0, .ref (ad 9)), (1, .int v1), (2, .int v2)]) (fun ad => []) σ (cg_qv Q)
def L_X5_sort_75 (v1 : Int32) (v2 : Int32) (σ : cg_S) (Q : cg_S → Prop) : Prop := cg_L cg_WC RX5 cX5_sort 3 none (cg_R 5) 75 (fun ad => [(0, .ref (ad 9)), (1, .int v1), (2, .int v2)]) (fun ad => []) σ (cg_qv Q)
set_option maxRecDepth 100000 in
set_option maxHeartbeats 4000000 in
theorem v_X5_sort_75 {v1 : Int32} {v2 : Int32} {σ : cg_S} {Q : cg_S → Prop}
    (h : ((σ.1 1 0) ≤ v2 → L_X5_sort_32 (v1 + 1) σ Q) ∧ (¬ (σ.1 1 0) ≤ v2 → vp_in v2 7 ∧ vp_in v2 7 ∧ ∀ s3 : cg_S, s3 = cg_i σ 33 v2.toNatClampNeg (σ.1 34 v2.toNatClampNeg) → L_X5_sort_75 v1 (v2 + 1) s3 Q)) : L_X5_sort_75 v1 v2 σ Q := by
  intro p l e s m args below meth c D cy ad hC
  refine ga_iload_n hC dX5_sort_75 2 rfl rfl ?_
  refine ga_aload_n hC dX5_sort_76 0 rfl rfl ?_
  refine gC_9_0 hC q_2_93 dX5_sort_77 ?_
  refine gC_1_0 hC q_1_45 dX5_sort_80 ?_
  refine ga_icmp_ge (tgt := 104) hC dX5_sort_83 (by decide) (fun hc => ?_) (fun hc => ?_)
  · have h := h.1 hc
    refine ga_iinc (v := v1 + 1) (lv' := [(1, .int (v1 + 1)), (0, .ref (ad 9)), (2, .int v2)]) hC dX5_sort_104 1 rfl rfl (by decide) rfl ?_
    refine ga_goto (tgt := 32) hC dX5_sort_107 (by decide) ?_
    refine ga_locals [1, 0] rfl ?_
    exact h p l e s m args below meth c D cy ad hC
  · have h := h.2 hc
    refine ga_aload_n hC dX5_sort_86 0 rfl rfl ?_
    refine gC_9_1 hC q_2_94 dX5_sort_87 ?_
    refine ga_iload_n hC dX5_sort_90 2 rfl rfl ?_
    refine ga_aload_n hC dX5_sort_91 0 rfl rfl ?_
    refine gC_9_2 hC q_2_96 dX5_sort_92 ?_
    refine ga_iload_n hC dX5_sort_95 2 rfl rfl ?_
    obtain ⟨h1, h⟩ := h
    refine ga_iald hC aC_34 (by decide) h1 dX5_sort_96 ?_
    obtain ⟨h2, h⟩ := h
    refine ga_iast hC aC_33 (by decide) h2 dX5_sort_97 ?_
    refine ga_sig (σ := cg_i σ 33 v2.toNatClampNeg (σ.1 34 v2.toNatClampNeg)) (fun s3 es3 => ?_)
    have h := h s3 es3
    refine ga_iinc (v := v2 + 1) (lv' := [(2, .int (v2 + 1)), (0, .ref (ad 9)), (1, .int v1)]) hC dX5_sort_98 2 rfl rfl (by decide) rfl ?_
    refine ga_goto (tgt := 75) hC dX5_sort_101 (by decide) ?_
    refine ga_locals [1, 2, 0] rfl ?_
    exact h p l e s m args below meth c D cy ad hC
set_option maxRecDepth 100000 in
set_option maxHeartbeats 4000000 in
theorem v_X5_sort_45 {v1 : Int32} {v2 : Int32} {σ : cg_S} {Q : cg_S → Prop}
    (h : ((σ.1 1 0) ≤ v2 → L_X5_sort_75 v1 0 σ Q) ∧ (¬ (σ.1 1 0) ≤ v2 → M_X5_lowestLike v2 σ (fun r1 s2 => vp_in v2 7 ∧ ∀ s5 : cg_S, s5 = cg_i s2 34 v2.toNatClampNeg r1 → L_X5_sort_45 v1 (v2 + 1) s5 Q))) : L_X5_sort_45 v1 v2 σ Q := by
  intro p l e s m args below meth c D cy ad hC
  refine ga_iload_n hC dX5_sort_45 2 rfl rfl ?_
  refine ga_aload_n hC dX5_sort_46 0 rfl rfl ?_
  refine gC_9_0 hC q_2_93 dX5_sort_47 ?_
  refine gC_1_0 hC q_1_45 dX5_sort_50 ?_
  refine ga_icmp_ge (tgt := 73) hC dX5_sort_53 (by decide) (fun hc => ?_) (fun hc => ?_)
  · have h := h.1 hc
    refine ga_iconst (v := 0) hC dX5_sort_73 (by decide) ?_
    refine ga_istore_n (lv' := [(2, .int 0), (0, .ref (ad 9)), (1, .int v1)]) hC dX5_sort_74 rfl (by decide) rfl ?_
    refine ga_locals [1, 2, 0] rfl ?_
    exact h p l e s m args below meth c D cy ad hC
  · have h := h.2 hc
    refine ga_aload_n hC dX5_sort_56 0 rfl rfl ?_
    refine gC_9_2 hC q_2_96 dX5_sort_57 ?_
    refine ga_iload_n hC dX5_sort_60 2 rfl rfl ?_
    refine ga_aload_n hC dX5_sort_61 0 rfl rfl ?_
    refine ga_iload_n hC dX5_sort_62 2 rfl rfl ?_
    refine ga_callV (As := [.int v2]) (st := [.int v2, .ref (ad 34)]) (k := 9) (n := 1) hC h q_2_190 q_2_191 q_2_192 q_1_11 q_2_193 rfl rfl rfl (by decide +kernel) ⟨Nat.le_of_ble_eq_true rfl, Nat.le_of_ble_eq_true rfl⟩ ⟨Nat.le_of_ble_eq_true rfl, Nat.le_of_ble_eq_true rfl⟩ rfl rfl rfl (by decide) rfl (Nat.le_of_ble_eq_true rfl) dX5_sort_63 (fun v τ hq => ?_)
    obtain ⟨r1, rfl, h⟩ := hq
    obtain ⟨s2, es2⟩ : ∃ z, z = τ := ⟨_, rfl⟩
    rw [← es2] at h ⊢
    clear es2
    obtain ⟨h4, h⟩ := h
    refine ga_iast hC aC_34 (by decide) h4 dX5_sort_66 ?_
    refine ga_sig (σ := cg_i s2 34 v2.toNatClampNeg r1) (fun s5 es5 => ?_)
    have h := h s5 es5
    refine ga_iinc (v := v2 + 1) (lv' := [(2, .int (v2 + 1)), (0, .ref (ad 9)), (1, .int v1)]) hC dX5_sort_67 2 rfl rfl (by decide) rfl ?_
    refine ga_goto (tgt := 45) hC dX5_sort_70 (by decide) ?_
    refine ga_locals [1, 2, 0] rfl ?_
    exact h p l e s m args below meth c D cy ad hC
set_option maxRecDepth 100000 in
set_option maxHeartbeats 4000000 in
theorem v_X5_sort_32 {v1 : Int32} {σ : cg_S} {Q : cg_S → Prop}
    (h : ((σ.1 1 0) ≤ v1 → Q σ) ∧ (¬ (σ.1 1 0) ≤ v1 → L_X5_sort_45 v1 0 σ Q)) : L_X5_sort_32 v1 σ Q := by
  intro p l e s m args below meth c D cy ad hC
  refine ga_iload_n hC dX5_sort_32 1 rfl rfl ?_
  refine ga_aload_n hC dX5_sort_33 0 rfl rfl ?_
  refine gC_9_0 hC q_2_93 dX5_sort_34 ?_
  refine gC_1_0 hC q_1_45 dX5_sort_37 ?_
  refine ga_icmp_ge (tgt := 110) hC dX5_sort_40 (by decide) (fun hc => ?_) (fun hc => ?_)
  · have h := h.1 hc
    exact ga_vret hC dX5_sort_110 ⟨rfl, h⟩
  · have h := h.2 hc
    refine ga_iconst (v := 0) hC dX5_sort_43 (by decide) ?_
    refine ga_istore_n (lv' := [(2, .int 0), (0, .ref (ad 9)), (1, .int v1)]) hC dX5_sort_44 rfl (by decide) rfl ?_
    refine ga_locals [1, 2, 0] rfl ?_
    exact h p l e s m args below meth c D cy ad hC
set_option maxRecDepth 100000 in
set_option maxHeartbeats 4000000 in
theorem v_X5_sort_2 {v1 : Int32} {σ : cg_S} {Q : cg_S → Prop}
    (h : ((σ.1 1 0) ≤ v1 → L_X5_sort_32 0 σ Q) ∧ (¬ (σ.1 1 0) ≤ v1 → M_X5_lowestLook v1 σ (fun r1 s2 => vp_in v1 7 ∧ ∀ s5 : cg_S, s5 = cg_i s2 33 v1.toNatClampNeg r1 → L_X5_sort_2 (v1 + 1) s5 Q))) : L_X5_sort_2 v1 σ Q := by
  intro p l e s m args below meth c D cy ad hC
  refine ga_iload_n hC dX5_sort_2 1 rfl rfl ?_
  refine ga_aload_n hC dX5_sort_3 0 rfl rfl ?_
  refine gC_9_0 hC q_2_93 dX5_sort_4 ?_
  refine gC_1_0 hC q_1_45 dX5_sort_7 ?_
  refine ga_icmp_ge (tgt := 30) hC dX5_sort_10 (by decide) (fun hc => ?_) (fun hc => ?_)
  · have h := h.1 hc
    refine ga_iconst (v := 0) hC dX5_sort_30 (by decide) ?_
    refine ga_istore_n (lv' := [(1, .int 0), (0, .ref (ad 9))]) hC dX5_sort_31 rfl (by decide) rfl ?_
    refine ga_locals [1, 0] rfl ?_
    exact h p l e s m args below meth c D cy ad hC
  · have h := h.2 hc
    refine ga_aload_n hC dX5_sort_13 0 rfl rfl ?_
    refine gC_9_1 hC q_2_94 dX5_sort_14 ?_
    refine ga_iload_n hC dX5_sort_17 1 rfl rfl ?_
    refine ga_aload_n hC dX5_sort_18 0 rfl rfl ?_
    refine ga_iload_n hC dX5_sort_19 1 rfl rfl ?_
    refine ga_callV (As := [.int v1]) (st := [.int v1, .ref (ad 33)]) (k := 9) (n := 1) hC h q_2_179 q_2_180 q_2_181 q_1_11 q_2_182 rfl rfl rfl (by decide +kernel) ⟨Nat.le_of_ble_eq_true rfl, Nat.le_of_ble_eq_true rfl⟩ ⟨Nat.le_of_ble_eq_true rfl, Nat.le_of_ble_eq_true rfl⟩ rfl rfl rfl (by decide) rfl (Nat.le_of_ble_eq_true rfl) dX5_sort_20 (fun v τ hq => ?_)
    obtain ⟨r1, rfl, h⟩ := hq
    obtain ⟨s2, es2⟩ : ∃ z, z = τ := ⟨_, rfl⟩
    rw [← es2] at h ⊢
    clear es2
    obtain ⟨h4, h⟩ := h
    refine ga_iast hC aC_33 (by decide) h4 dX5_sort_23 ?_
    refine ga_sig (σ := cg_i s2 33 v1.toNatClampNeg r1) (fun s5 es5 => ?_)
    have h := h s5 es5
    refine ga_iinc (v := v1 + 1) (lv' := [(1, .int (v1 + 1)), (0, .ref (ad 9))]) hC dX5_sort_24 1 rfl rfl (by decide) rfl ?_
    refine ga_goto (tgt := 2) hC dX5_sort_27 (by decide) ?_
    refine ga_locals [1, 0] rfl ?_
    exact h p l e s m args below meth c D cy ad hC
set_option maxRecDepth 100000 in
set_option maxHeartbeats 4000000 in
theorem v_X5_sort {σ : cg_S} {Q : cg_S → Prop}
    (h : L_X5_sort_2 0 σ Q) : M_X5_sort σ Q := by
  refine cg_entry (lv := fun ad => [(0, .ref (ad 9))]) (by decide +kernel) (fun _ => rfl) (fun _ => Nat.le_of_ble_eq_true rfl) ?_
  intro p l e s m args below meth c D cy ad hC
  refine ga_iconst (v := 0) hC dX5_sort_0 (by decide) ?_
  refine ga_istore_n (lv' := [(1, .int 0), (0, .ref (ad 9))]) hC dX5_sort_1 rfl (by decide) rfl ?_
  refine ga_locals [1, 0] rfl ?_
  exact h p l e s m args below meth c D cy ad hC
def M_X5_howMany (σ : cg_S) (Q : Int32 → cg_S → Prop) : Prop := cg_M cg_WC yX5_howMany cX5_howMany 3 (some .int) (cg_R 0) (fun ad => [.ref (ad 9)]) σ (cg_qi Q)
theorem M_X5_howMany.mono {σ : cg_S} {Q Q2 : Int32 → cg_S → Prop} (h : M_X5_howMany σ Q) (hq : ∀ r τ, Q r τ → Q2 r τ) : M_X5_howMany σ Q2 := cg_M.mono h (fun ad v τ ⟨r, e, q⟩ => ⟨r, e, hq r τ q⟩)
def L_X5_howMany_4 (v1 : Int32) (v2 : Int32) (σ : cg_S) (Q : Int32 → cg_S → Prop) : Prop := cg_L cg_WC RX5 cX5_howMany 3 (some .int) (cg_R 0) 4 (fun ad => [(0, .ref (ad 9)), (1, .int v1), (2, .int v2)]) (fun ad => []) σ (cg_qi Q)
set_option maxRecDepth 100000 in
set_option maxHeartbeats 4000000 in
theorem v_X5_howMany_4 {v1 : Int32} {v2 : Int32} {σ : cg_S} {Q : Int32 → cg_S → Prop}
    (h : ((σ.1 1 0) ≤ v2 → Q v1 σ) ∧ (¬ (σ.1 1 0) ≤ v2 → vp_in v2 7 ∧ (¬ (σ.1 33 v2.toNatClampNeg) = v2 → L_X5_howMany_4 v1 (v2 + 1) σ Q) ∧ ((σ.1 33 v2.toNatClampNeg) = v2 → L_X5_howMany_4 (v1 + 1) (v2 + 1) σ Q))) : L_X5_howMany_4 v1 v2 σ Q := by
  intro p l e s m args below meth c D cy ad hC
  refine ga_iload_n hC dX5_howMany_4 2 rfl rfl ?_
  refine ga_aload_n hC dX5_howMany_5 0 rfl rfl ?_
  refine gC_9_0 hC q_2_93 dX5_howMany_6 ?_
  refine gC_1_0 hC q_1_45 dX5_howMany_9 ?_
  refine ga_icmp_ge (tgt := 34) hC dX5_howMany_12 (by decide) (fun hc => ?_) (fun hc => ?_)
  · have h := h.1 hc
    refine ga_iload_n hC dX5_howMany_34 1 rfl rfl ?_
    exact ga_iret hC dX5_howMany_35 ⟨_, rfl, h⟩
  · have h := h.2 hc
    refine ga_aload_n hC dX5_howMany_15 0 rfl rfl ?_
    refine gC_9_1 hC q_2_94 dX5_howMany_16 ?_
    refine ga_iload_n hC dX5_howMany_19 2 rfl rfl ?_
    obtain ⟨h1, h⟩ := h
    refine ga_iald hC aC_33 (by decide) h1 dX5_howMany_20 ?_
    refine ga_iload_n hC dX5_howMany_21 2 rfl rfl ?_
    refine ga_icmp_ne (tgt := 28) hC dX5_howMany_22 (by decide) (fun hc => ?_) (fun hc => ?_)
    · have h := h.1 hc
      refine ga_iinc (v := v2 + 1) (lv' := [(2, .int (v2 + 1)), (0, .ref (ad 9)), (1, .int v1)]) hC dX5_howMany_28 2 rfl rfl (by decide) rfl ?_
      refine ga_goto (tgt := 4) hC dX5_howMany_31 (by decide) ?_
      refine ga_locals [1, 2, 0] rfl ?_
      exact h p l e s m args below meth c D cy ad hC
    · have h := h.2 hc
      refine ga_iinc (v := v1 + 1) (lv' := [(1, .int (v1 + 1)), (0, .ref (ad 9)), (2, .int v2)]) hC dX5_howMany_25 1 rfl rfl (by decide) rfl ?_
      refine ga_iinc (v := v2 + 1) (lv' := [(2, .int (v2 + 1)), (1, .int (v1 + 1)), (0, .ref (ad 9))]) hC dX5_howMany_28 2 rfl rfl (by decide) rfl ?_
      refine ga_goto (tgt := 4) hC dX5_howMany_31 (by decide) ?_
      refine ga_locals [2, 1, 0] rfl ?_
      exact h p l e s m args below meth c D cy ad hC
set_option maxRecDepth 100000 in
set_option maxHeartbeats 4000000 in
theorem v_X5_howMany {σ : cg_S} {Q : Int32 → cg_S → Prop}
    (h : L_X5_howMany_4 0 0 σ Q) : M_X5_howMany σ Q := by
  refine cg_entry (lv := fun ad => [(0, .ref (ad 9))]) (by decide +kernel) (fun _ => rfl) (fun _ => Nat.le_of_ble_eq_true rfl) ?_
  intro p l e s m args below meth c D cy ad hC
  refine ga_iconst (v := 0) hC dX5_howMany_0 (by decide) ?_
  refine ga_istore_n (lv' := [(1, .int 0), (0, .ref (ad 9))]) hC dX5_howMany_1 rfl (by decide) rfl ?_
  refine ga_iconst (v := 0) hC dX5_howMany_2 (by decide) ?_
  refine ga_istore_n (lv' := [(2, .int 0), (1, .int 0), (0, .ref (ad 9))]) hC dX5_howMany_3 rfl (by decide) rfl ?_
  refine ga_locals [2, 1, 0] rfl ?_
  exact h p l e s m args below meth c D cy ad hC
def M_X6_findClosed (v1 : Nat) (σ : cg_S) (Q : cg_S → Prop) : Prop := cg_M cg_WC yX6_findClosed cX6_findClosed 3 none (cg_R 3) (fun ad => [.ref (ad 5), .ref (ad v1)]) σ (cg_qv Q)
theorem M_X6_findClosed.mono {v1 : Nat} {σ : cg_S} {Q Q2 : cg_S → Prop} (h : M_X6_findClosed v1 σ Q) (hq : ∀ τ, Q τ → Q2 τ) : M_X6_findClosed v1 σ Q2 := cg_M.mono h (fun ad v τ ⟨e, q⟩ => ⟨e, hq τ q⟩)
def L_X6_findClosed_10 (v2 : Int32) (σ : cg_S) (Q : cg_S → Prop) : Prop := cg_L cg_WC RX6 cX6_findClosed 3 none (cg_R 3) 10 (fun ad => [(0, .ref (ad 5)), (2, .int v2)]) (fun ad => []) σ (cg_qv Q)
set_option maxRecDepth 100000 in
set_option maxHeartbeats 4000000 in
theorem v_X6_findClosed_10 {v2 : Int32} {σ : cg_S} {Q : cg_S → Prop}
    (h : ((σ.1 1 0) ≤ v2 → Q σ) ∧ (¬ (σ.1 1 0) ≤ v2 → M_X3_closedSet v2 σ (fun r1 s2 => vp_in v2 7 ∧ ∀ s5 : cg_S, s5 = cg_i s2 28 v2.toNatClampNeg r1 → L_X6_findClosed_10 (v2 + 1) s5 Q))) : L_X6_findClosed_10 v2 σ Q := by
  intro p l e s m args below meth c D cy ad hC
  refine ga_iload_n hC dX6_findClosed_10 1 rfl rfl ?_
  refine ga_aload_n hC dX6_findClosed_11 0 rfl rfl ?_
  refine gC_5_0 hC q_2_21 dX6_findClosed_12 ?_
  refine gC_1_0 hC q_1_49 dX6_findClosed_15 ?_
  refine ga_icmp_ge (tgt := 41) hC dX6_findClosed_18 (by decide) (fun hc => ?_) (fun hc => ?_)
  · have h := h.1 hc
    exact ga_vret hC dX6_findClosed_41 ⟨rfl, h⟩
  · have h := h.2 hc
    refine ga_aload_n hC dX6_findClosed_21 0 rfl rfl ?_
    refine gC_5_3 hC q_2_24 dX6_findClosed_22 ?_
    refine ga_iload_n hC dX6_findClosed_25 1 rfl rfl ?_
    refine ga_aload_n hC dX6_findClosed_26 0 rfl rfl ?_
    refine gC_5_1 hC q_2_22 dX6_findClosed_27 ?_
    refine ga_iload_n hC dX6_findClosed_30 1 rfl rfl ?_
    refine ga_callV (As := [.int v2]) (st := [.int v2, .ref (ad 28)]) (k := 2) (n := 1) hC h q_4_233 q_4_234 q_4_235 q_1_3 q_4_236 rfl rfl rfl (by decide +kernel) ⟨Nat.le_of_ble_eq_true rfl, Nat.le_of_ble_eq_true rfl⟩ ⟨Nat.le_of_ble_eq_true rfl, Nat.le_of_ble_eq_true rfl⟩ rfl rfl rfl (by decide) rfl (Nat.le_of_ble_eq_true rfl) dX6_findClosed_31 (fun v τ hq => ?_)
    obtain ⟨r1, rfl, h⟩ := hq
    obtain ⟨s2, es2⟩ : ∃ z, z = τ := ⟨_, rfl⟩
    rw [← es2] at h ⊢
    clear es2
    obtain ⟨h4, h⟩ := h
    refine ga_iast hC aC_28 (by decide) h4 dX6_findClosed_34 ?_
    refine ga_sig (σ := cg_i s2 28 v2.toNatClampNeg r1) (fun s5 es5 => ?_)
    have h := h s5 es5
    refine ga_iinc (v := v2 + 1) (lv' := [(2, .int (v2 + 1)), (0, .ref (ad 5))]) hC dX6_findClosed_35 1 rfl rfl (by decide) rfl ?_
    refine ga_goto (tgt := 10) hC dX6_findClosed_38 (by decide) ?_
    refine ga_locals [1, 0] rfl ?_
    exact h p l e s m args below meth c D cy ad hC
set_option maxRecDepth 100000 in
set_option maxHeartbeats 4000000 in
theorem v_X6_findClosed {v1 : Nat} {σ : cg_S} {Q : cg_S → Prop} (h_v1 : v1 = 19 ∨ v1 = 29 ∨ v1 = 30)
    (h : M_X3_follow v1 σ (fun s2 => L_X6_findClosed_10 0 s2 Q)) : M_X6_findClosed v1 σ Q := by
  refine cg_entry (lv := fun ad => [(0, .ref (ad 5)), (1, .ref (ad v1))]) (by decide +kernel) (fun _ => rfl) (fun _ => Nat.le_of_ble_eq_true rfl) ?_
  intro p l e s m args below meth c D cy ad hC
  refine ga_aload_n hC dX6_findClosed_0 0 rfl rfl ?_
  refine gC_5_1 hC q_2_22 dX6_findClosed_1 ?_
  refine ga_aload_n hC dX6_findClosed_4 1 rfl rfl ?_
  refine ga_callV (As := [.ref (ad v1)]) (st := []) (k := 2) (n := 1) hC h q_4_225 q_4_226 q_4_227 q_1_3 q_4_228 rfl rfl rfl (by decide +kernel) ⟨Nat.le_of_ble_eq_true rfl, Nat.le_of_ble_eq_true rfl⟩ ⟨Nat.le_of_ble_eq_true rfl, Nat.le_of_ble_eq_true rfl⟩ rfl rfl rfl (by decide) rfl (Nat.le_of_ble_eq_true rfl) dX6_findClosed_5 (fun v τ hq => ?_)
  obtain ⟨rfl, h⟩ := hq
  obtain ⟨s2, es2⟩ : ∃ z, z = τ := ⟨_, rfl⟩
  rw [← es2] at h ⊢
  clear es2
  refine ga_iconst (v := 0) hC dX6_findClosed_8 (by decide) ?_
  refine ga_istore_n (lv' := [(2, .int 0), (0, .ref (ad 5)), (1, .ref (ad v1))]) hC dX6_findClosed_9 rfl (by decide) rfl ?_
  refine ga_locals [1, 0] rfl ?_
  exact h p l e s m args below meth c D cy ad hC
def M_X6_leastColour (v1 : Int32) (σ : cg_S) (Q : Int32 → cg_S → Prop) : Prop := cg_M cg_WC yX6_leastColour cX6_leastColour 4 (some .int) (cg_R 1) (fun ad => [.ref (ad 5), .int v1]) σ (cg_qi Q)
theorem M_X6_leastColour.mono {v1 : Int32} {σ : cg_S} {Q Q2 : Int32 → cg_S → Prop} (h : M_X6_leastColour v1 σ Q) (hq : ∀ r τ, Q r τ → Q2 r τ) : M_X6_leastColour v1 σ Q2 := cg_M.mono h (fun ad v τ ⟨r, e, q⟩ => ⟨r, e, hq r τ q⟩)
def L_X6_leastColour_4 (v1 : Int32) (v2 : Int32) (v3 : Int32) (σ : cg_S) (Q : Int32 → cg_S → Prop) : Prop := cg_L cg_WC RX6 cX6_leastColour 4 (some .int) (cg_R 1) 4 (fun ad => [(0, .ref (ad 5)), (1, .int v1), (2, .int v2), (3, .int v3)]) (fun ad => []) σ (cg_qi Q)
set_option maxRecDepth 100000 in
set_option maxHeartbeats 4000000 in
theorem v_X6_leastColour_4 {v1 : Int32} {v2 : Int32} {v3 : Int32} {σ : cg_S} {Q : Int32 → cg_S → Prop}
    (h : ((σ.1 1 0) ≤ v3 → Q v2 σ) ∧ (¬ (σ.1 1 0) ≤ v3 → M_X2_holds v1 v3 σ (fun r1 s2 => (r1 = 0 → L_X6_leastColour_4 v1 v2 (v3 + 1) s2 Q) ∧ (¬ r1 = 0 → vp_in v3 7 ∧ ∀ x5 : Int32, x5 = (if (s2.1 20 v3.toNatClampNeg) < v2 then (s2.1 20 v3.toNatClampNeg) else v2) → L_X6_leastColour_4 v1 x5 (v3 + 1) s2 Q)))) : L_X6_leastColour_4 v1 v2 v3 σ Q := by
  intro p l e s m args below meth c D cy ad hC
  refine ga_iload_n hC dX6_leastColour_4 3 rfl rfl ?_
  refine ga_aload_n hC dX6_leastColour_5 0 rfl rfl ?_
  refine gC_5_0 hC q_2_21 dX6_leastColour_6 ?_
  refine gC_1_0 hC q_1_49 dX6_leastColour_9 ?_
  refine ga_icmp_ge (tgt := 43) hC dX6_leastColour_12 (by decide) (fun hc => ?_) (fun hc => ?_)
  · have h := h.1 hc
    refine ga_iload_n hC dX6_leastColour_43 2 rfl rfl ?_
    exact ga_iret hC dX6_leastColour_44 ⟨_, rfl, h⟩
  · have h := h.2 hc
    refine ga_iload_n hC dX6_leastColour_15 1 rfl rfl ?_
    refine ga_iload_n hC dX6_leastColour_16 3 rfl rfl ?_
    refine ga_callS (As := [.int v1, .int v3]) (st := []) (n := 2) hC h q_5_42 q_2_188 q_1_2 q_2_189 rfl rfl rfl (by decide +kernel) ⟨Nat.le_of_ble_eq_true rfl, Nat.le_of_ble_eq_true rfl⟩ ⟨Nat.le_of_ble_eq_true rfl, Nat.le_of_ble_eq_true rfl⟩ rfl rfl (Nat.le_of_ble_eq_true rfl) dX6_leastColour_17 (fun v τ hq => ?_)
    obtain ⟨r1, rfl, h⟩ := hq
    obtain ⟨s2, es2⟩ : ∃ z, z = τ := ⟨_, rfl⟩
    rw [← es2] at h ⊢
    clear es2
    refine ga_if_eq (tgt := 37) hC dX6_leastColour_20 (by decide) (fun hc => ?_) (fun hc => ?_)
    · have h := h.1 hc
      refine ga_iinc (v := v3 + 1) (lv' := [(3, .int (v3 + 1)), (0, .ref (ad 5)), (1, .int v1), (2, .int v2)]) hC dX6_leastColour_37 3 rfl rfl (by decide) rfl ?_
      refine ga_goto (tgt := 4) hC dX6_leastColour_40 (by decide) ?_
      refine ga_locals [1, 2, 3, 0] rfl ?_
      exact h p l e s m args below meth c D cy ad hC
    · have h := h.2 hc
      refine ga_iload_n hC dX6_leastColour_23 2 rfl rfl ?_
      refine ga_aload_n hC dX6_leastColour_24 0 rfl rfl ?_
      refine gC_5_0 hC q_2_21 dX6_leastColour_25 ?_
      refine gC_1_8 hC q_1_75 dX6_leastColour_28 ?_
      refine ga_iload_n hC dX6_leastColour_31 3 rfl rfl ?_
      obtain ⟨h4, h⟩ := h
      refine ga_iald hC aC_20 (by decide) h4 dX6_leastColour_32 ?_
      refine ga_mmin hC q_5_43 q_5_44 q_1_28 q_5_45 ⟨Nat.le_of_ble_eq_true rfl, Nat.le_of_ble_eq_true rfl⟩ (Nat.le_of_ble_eq_true rfl) (Nat.le_of_ble_eq_true rfl) dX6_leastColour_33 ?_
      refine ga_topi (fun x5 ex5 => ?_)
      have h := h x5 ex5
      refine ga_istore_n (lv' := [(2, .int x5), (0, .ref (ad 5)), (1, .int v1), (3, .int v3)]) hC dX6_leastColour_36 rfl (by decide) rfl ?_
      refine ga_iinc (v := v3 + 1) (lv' := [(3, .int (v3 + 1)), (2, .int x5), (0, .ref (ad 5)), (1, .int v1)]) hC dX6_leastColour_37 3 rfl rfl (by decide) rfl ?_
      refine ga_goto (tgt := 4) hC dX6_leastColour_40 (by decide) ?_
      refine ga_locals [2, 3, 1, 0] rfl ?_
      exact h p l e s m args below meth c D cy ad hC
set_option maxRecDepth 100000 in
set_option maxHeartbeats 4000000 in
theorem v_X6_leastColour {v1 : Int32} {σ : cg_S} {Q : Int32 → cg_S → Prop}
    (h : L_X6_leastColour_4 v1 3 0 σ Q) : M_X6_leastColour v1 σ Q := by
  refine cg_entry (lv := fun ad => [(0, .ref (ad 5)), (1, .int v1)]) (by decide +kernel) (fun _ => rfl) (fun _ => Nat.le_of_ble_eq_true rfl) ?_
  intro p l e s m args below meth c D cy ad hC
  refine ga_iconst (v := 3) hC dX6_leastColour_0 (by decide) ?_
  refine ga_istore_n (lv' := [(2, .int 3), (0, .ref (ad 5)), (1, .int v1)]) hC dX6_leastColour_1 rfl (by decide) rfl ?_
  refine ga_iconst (v := 0) hC dX6_leastColour_2 (by decide) ?_
  refine ga_istore_n (lv' := [(3, .int 0), (2, .int 3), (0, .ref (ad 5)), (1, .int v1)]) hC dX6_leastColour_3 rfl (by decide) rfl ?_
  refine ga_locals [2, 3, 1, 0] rfl ?_
  exact h p l e s m args below meth c D cy ad hC
def M_X6_findParity (v1 : Nat) (σ : cg_S) (Q : cg_S → Prop) : Prop := cg_M cg_WC yX6_findParity cX6_findParity 4 none (cg_R 4) (fun ad => [.ref (ad 5), .ref (ad v1)]) σ (cg_qv Q)
theorem M_X6_findParity.mono {v1 : Nat} {σ : cg_S} {Q Q2 : cg_S → Prop} (h : M_X6_findParity v1 σ Q) (hq : ∀ τ, Q τ → Q2 τ) : M_X6_findParity v1 σ Q2 := cg_M.mono h (fun ad v τ ⟨e, q⟩ => ⟨e, hq τ q⟩)
def L_X6_findParity_9 (v1 : Nat) (v2 : Int32) (v3 : Int32) (σ : cg_S) (Q : cg_S → Prop) : Prop := cg_L cg_WC RX6 cX6_findParity 4 none (cg_R 4) 9 (fun ad => [(0, .ref (ad 5)), (1, .ref (ad v1)), (2, .int v2), (3, .int v3)]) (fun ad => []) σ (cg_qv Q)
set_option maxRecDepth 100000 in
set_option maxHeartbeats 4000000 in
theorem v_X6_findParity_9 {v1 : Nat} {v2 : Int32} {v3 : Int32} {σ : cg_S} {Q : cg_S → Prop} (h_v1 : v1 = 19 ∨ v1 = 29 ∨ v1 = 30)
    (h : ((σ.1 1 0) ≤ v3 → M_X0_evaluateReach v2 v1 σ (fun s2 => Q s2)) ∧ (¬ (σ.1 1 0) ≤ v3 → vp_in v3 7 ∧ ((σ.1 28 v3.toNatClampNeg) = 0 → L_X6_findParity_9 v1 v2 (v3 + 1) σ Q) ∧ (¬ (σ.1 28 v3.toNatClampNeg) = 0 → vp_in v3 7 ∧ M_X6_leastColour (σ.1 28 v3.toNatClampNeg) σ (fun r6 s7 => (¬ (r6 - r6 / 2 * 2) = 0 → L_X6_findParity_9 v1 v2 (v3 + 1) s7 Q) ∧ ((r6 - r6 / 2 * 2) = 0 → ∀ x10 : Int32, x10 = v2 ||| (1 <<< (v3 &&& 31)) → L_X6_findParity_9 v1 x10 (v3 + 1) s7 Q))))) : L_X6_findParity_9 v1 v2 v3 σ Q := by
  intro p l e s m args below meth c D cy ad hC
  refine ga_iload_n hC dX6_findParity_9 3 rfl rfl ?_
  refine ga_aload_n hC dX6_findParity_10 0 rfl rfl ?_
  refine gC_5_0 hC q_2_21 dX6_findParity_11 ?_
  refine gC_1_0 hC q_1_49 dX6_findParity_14 ?_
  refine ga_icmp_ge (tgt := 56) hC dX6_findParity_17 (by decide) (fun hc => ?_) (fun hc => ?_)
  · have h := h.1 hc
    refine ga_aload_n hC dX6_findParity_56 0 rfl rfl ?_
    refine gC_5_2 hC q_2_23 dX6_findParity_57 ?_
    refine ga_iload_n hC dX6_findParity_60 2 rfl rfl ?_
    refine ga_aload_n hC dX6_findParity_61 1 rfl rfl ?_
    refine ga_callV (As := [.int v2, .ref (ad v1)]) (st := []) (k := 3) (n := 2) hC h q_5_46 q_5_47 q_5_48 q_1_4 q_5_49 rfl rfl rfl (by decide +kernel) ⟨Nat.le_of_ble_eq_true rfl, Nat.le_of_ble_eq_true rfl⟩ ⟨Nat.le_of_ble_eq_true rfl, Nat.le_of_ble_eq_true rfl⟩ rfl rfl rfl (by decide) rfl (Nat.le_of_ble_eq_true rfl) dX6_findParity_62 (fun v τ hq => ?_)
    obtain ⟨rfl, h⟩ := hq
    obtain ⟨s2, es2⟩ : ∃ z, z = τ := ⟨_, rfl⟩
    rw [← es2] at h ⊢
    clear es2
    exact ga_vret hC dX6_findParity_65 ⟨rfl, h⟩
  · have h := h.2 hc
    refine ga_aload_n hC dX6_findParity_20 0 rfl rfl ?_
    refine gC_5_3 hC q_2_24 dX6_findParity_21 ?_
    refine ga_iload_n hC dX6_findParity_24 3 rfl rfl ?_
    obtain ⟨h4, h⟩ := h
    refine ga_iald hC aC_28 (by decide) h4 dX6_findParity_25 ?_
    refine ga_if_eq (tgt := 50) hC dX6_findParity_26 (by decide) (fun hc => ?_) (fun hc => ?_)
    · have h := h.1 hc
      refine ga_iinc (v := v3 + 1) (lv' := [(3, .int (v3 + 1)), (0, .ref (ad 5)), (1, .ref (ad v1)), (2, .int v2)]) hC dX6_findParity_50 3 rfl rfl (by decide) rfl ?_
      refine ga_goto (tgt := 9) hC dX6_findParity_53 (by decide) ?_
      refine ga_locals [1, 2, 3, 0] rfl ?_
      exact h p l e s m args below meth c D cy ad hC
    · have h := h.2 hc
      refine ga_aload_n hC dX6_findParity_29 0 rfl rfl ?_
      refine ga_aload_n hC dX6_findParity_30 0 rfl rfl ?_
      refine gC_5_3 hC q_2_24 dX6_findParity_31 ?_
      refine ga_iload_n hC dX6_findParity_34 3 rfl rfl ?_
      obtain ⟨h5, h⟩ := h
      refine ga_iald hC aC_28 (by decide) h5 dX6_findParity_35 ?_
      refine ga_callV (As := [.int (σ.1 28 v3.toNatClampNeg)]) (st := []) (k := 5) (n := 1) hC h q_5_38 q_5_39 q_5_40 q_1_7 q_5_41 rfl rfl rfl (by decide +kernel) ⟨Nat.le_of_ble_eq_true rfl, Nat.le_of_ble_eq_true rfl⟩ ⟨Nat.le_of_ble_eq_true rfl, Nat.le_of_ble_eq_true rfl⟩ rfl rfl rfl (by decide) rfl (Nat.le_of_ble_eq_true rfl) dX6_findParity_36 (fun v τ hq => ?_)
      obtain ⟨r6, rfl, h⟩ := hq
      obtain ⟨s7, es7⟩ : ∃ z, z = τ := ⟨_, rfl⟩
      rw [← es7] at h ⊢
      clear es7
      refine ga_iconst (v := 2) hC dX6_findParity_39 (by decide) ?_
      refine ga_irem hC dX6_findParity_40 (by decide) ?_
      refine ga_if_ne (tgt := 50) hC dX6_findParity_41 (by decide) (fun hc => ?_) (fun hc => ?_)
      · have h := h.1 hc
        refine ga_iinc (v := v3 + 1) (lv' := [(3, .int (v3 + 1)), (0, .ref (ad 5)), (1, .ref (ad v1)), (2, .int v2)]) hC dX6_findParity_50 3 rfl rfl (by decide) rfl ?_
        refine ga_goto (tgt := 9) hC dX6_findParity_53 (by decide) ?_
        refine ga_locals [1, 2, 3, 0] rfl ?_
        exact h p l e s m args below meth c D cy ad hC
      · have h := h.2 hc
        refine ga_iload_n hC dX6_findParity_44 2 rfl rfl ?_
        refine ga_iconst (v := 1) hC dX6_findParity_45 (by decide) ?_
        refine ga_iload_n hC dX6_findParity_46 3 rfl rfl ?_
        refine ga_ishl hC dX6_findParity_47 ?_
        refine ga_ior hC dX6_findParity_48 ?_
        refine ga_topi (fun x10 ex10 => ?_)
        have h := h x10 ex10
        refine ga_istore_n (lv' := [(2, .int x10), (0, .ref (ad 5)), (1, .ref (ad v1)), (3, .int v3)]) hC dX6_findParity_49 rfl (by decide) rfl ?_
        refine ga_iinc (v := v3 + 1) (lv' := [(3, .int (v3 + 1)), (2, .int x10), (0, .ref (ad 5)), (1, .ref (ad v1))]) hC dX6_findParity_50 3 rfl rfl (by decide) rfl ?_
        refine ga_goto (tgt := 9) hC dX6_findParity_53 (by decide) ?_
        refine ga_locals [2, 3, 1, 0] rfl ?_
        exact h p l e s m args below meth c D cy ad hC
set_option maxRecDepth 100000 in
set_option maxHeartbeats 4000000 in
theorem v_X6_findParity {v1 : Nat} {σ : cg_S} {Q : cg_S → Prop} (h_v1 : v1 = 19 ∨ v1 = 29 ∨ v1 = 30)
    (h : M_X6_findClosed v1 σ (fun s2 => L_X6_findParity_9 v1 0 0 s2 Q)) : M_X6_findParity v1 σ Q := by
  refine cg_entry (lv := fun ad => [(0, .ref (ad 5)), (1, .ref (ad v1))]) (by decide +kernel) (fun _ => rfl) (fun _ => Nat.le_of_ble_eq_true rfl) ?_
  intro p l e s m args below meth c D cy ad hC
  refine ga_aload_n hC dX6_findParity_0 0 rfl rfl ?_
  refine ga_aload_n hC dX6_findParity_1 1 rfl rfl ?_
  refine ga_callV (As := [.ref (ad v1)]) (st := []) (k := 5) (n := 1) hC h q_4_221 q_4_222 q_4_223 q_1_7 q_4_224 rfl rfl rfl (by decide +kernel) ⟨Nat.le_of_ble_eq_true rfl, Nat.le_of_ble_eq_true rfl⟩ ⟨Nat.le_of_ble_eq_true rfl, Nat.le_of_ble_eq_true rfl⟩ rfl rfl rfl (by decide) rfl (Nat.le_of_ble_eq_true rfl) dX6_findParity_2 (fun v τ hq => ?_)
  obtain ⟨rfl, h⟩ := hq
  obtain ⟨s2, es2⟩ : ∃ z, z = τ := ⟨_, rfl⟩
  rw [← es2] at h ⊢
  clear es2
  refine ga_iconst (v := 0) hC dX6_findParity_5 (by decide) ?_
  refine ga_istore_n (lv' := [(2, .int 0), (0, .ref (ad 5)), (1, .ref (ad v1))]) hC dX6_findParity_6 rfl (by decide) rfl ?_
  refine ga_iconst (v := 0) hC dX6_findParity_7 (by decide) ?_
  refine ga_istore_n (lv' := [(3, .int 0), (2, .int 0), (0, .ref (ad 5)), (1, .ref (ad v1))]) hC dX6_findParity_8 rfl (by decide) rfl ?_
  refine ga_locals [2, 3, 1, 0] rfl ?_
  exact h p l e s m args below meth c D cy ad hC
def M_X6_isReturn (v1 : Int32) (σ : cg_S) (Q : Int32 → cg_S → Prop) : Prop := cg_M cg_WC yX6_isReturn cX6_isReturn 2 (some .boolean) (cg_R 1) (fun ad => [.ref (ad 5), .int v1]) σ (cg_qi Q)
theorem M_X6_isReturn.mono {v1 : Int32} {σ : cg_S} {Q Q2 : Int32 → cg_S → Prop} (h : M_X6_isReturn v1 σ Q) (hq : ∀ r τ, Q r τ → Q2 r τ) : M_X6_isReturn v1 σ Q2 := cg_M.mono h (fun ad v τ ⟨r, e, q⟩ => ⟨r, e, hq r τ q⟩)
set_option maxRecDepth 100000 in
set_option maxHeartbeats 4000000 in
theorem v_X6_isReturn {v1 : Int32} {σ : cg_S} {Q : Int32 → cg_S → Prop}
    (h : vp_in v1 7 ∧ ((σ.1 28 v1.toNatClampNeg) = 0 → Q 0 σ) ∧ (¬ (σ.1 28 v1.toNatClampNeg) = 0 → vp_in v1 7 ∧ M_J6_numberOfTrailingZeros_0f7a4 (σ.1 28 v1.toNatClampNeg) σ (fun r3 s4 => (¬ r3 = v1 → Q 0 s4) ∧ (r3 = v1 → Q 1 s4)))) : M_X6_isReturn v1 σ Q := by
  refine cg_entry (lv := fun ad => [(0, .ref (ad 5)), (1, .int v1)]) (by decide +kernel) (fun _ => rfl) (fun _ => Nat.le_of_ble_eq_true rfl) ?_
  intro p l e s m args below meth c D cy ad hC
  refine ga_aload_n hC dX6_isReturn_0 0 rfl rfl ?_
  refine gC_5_3 hC q_2_24 dX6_isReturn_1 ?_
  refine ga_iload_n hC dX6_isReturn_4 1 rfl rfl ?_
  obtain ⟨h1, h⟩ := h
  refine ga_iald hC aC_28 (by decide) h1 dX6_isReturn_5 ?_
  refine ga_if_eq (tgt := 26) hC dX6_isReturn_6 (by decide) (fun hc => ?_) (fun hc => ?_)
  · have h := h.1 hc
    refine ga_iconst (v := 0) hC dX6_isReturn_26 (by decide) ?_
    exact ga_zret hC dX6_isReturn_27 (by decide) ⟨_, rfl, h⟩
  · have h := h.2 hc
    refine ga_aload_n hC dX6_isReturn_9 0 rfl rfl ?_
    refine gC_5_3 hC q_2_24 dX6_isReturn_10 ?_
    refine ga_iload_n hC dX6_isReturn_13 1 rfl rfl ?_
    obtain ⟨h2, h⟩ := h
    refine ga_iald hC aC_28 (by decide) h2 dX6_isReturn_14 ?_
    refine ga_callS (As := [.int (σ.1 28 v1.toNatClampNeg)]) (st := []) (n := 1) hC h q_5_10 q_5_11 q_1_27 q_5_12 rfl rfl rfl (by decide +kernel) ⟨Nat.le_of_ble_eq_true rfl, Nat.le_of_ble_eq_true rfl⟩ ⟨Nat.le_of_ble_eq_true rfl, Nat.le_of_ble_eq_true rfl⟩ rfl rfl (Nat.le_of_ble_eq_true rfl) dX6_isReturn_15 (fun v τ hq => ?_)
    obtain ⟨r3, rfl, h⟩ := hq
    obtain ⟨s4, es4⟩ : ∃ z, z = τ := ⟨_, rfl⟩
    rw [← es4] at h ⊢
    clear es4
    refine ga_iload_n hC dX6_isReturn_18 1 rfl rfl ?_
    refine ga_icmp_ne (tgt := 26) hC dX6_isReturn_19 (by decide) (fun hc => ?_) (fun hc => ?_)
    · have h := h.1 hc
      refine ga_iconst (v := 0) hC dX6_isReturn_26 (by decide) ?_
      exact ga_zret hC dX6_isReturn_27 (by decide) ⟨_, rfl, h⟩
    · have h := h.2 hc
      refine ga_iconst (v := 1) hC dX6_isReturn_22 (by decide) ?_
      refine ga_goto (tgt := 27) hC dX6_isReturn_23 (by decide) ?_
      exact ga_zret hC dX6_isReturn_27 (by decide) ⟨_, rfl, h⟩
def M_X6_solveReturns (v1 : Nat) (v2 : Int32) (σ : cg_S) (Q : cg_S → Prop) : Prop := cg_M cg_WC yX6_solveReturns cX6_solveReturns 5 none (cg_R 3) (fun ad => [.ref (ad 5), .ref (ad v1), .int v2]) σ (cg_qv Q)
theorem M_X6_solveReturns.mono {v1 : Nat} {v2 : Int32} {σ : cg_S} {Q Q2 : cg_S → Prop} (h : M_X6_solveReturns v1 v2 σ Q) (hq : ∀ τ, Q τ → Q2 τ) : M_X6_solveReturns v1 v2 σ Q2 := cg_M.mono h (fun ad v τ ⟨e, q⟩ => ⟨e, hq τ q⟩)
def L_X6_solveReturns_2 (v1 : Nat) (v2 : Int32) (v3 : Int32) (σ : cg_S) (Q : cg_S → Prop) : Prop := cg_L cg_WC RX6 cX6_solveReturns 5 none (cg_R 3) 2 (fun ad => [(0, .ref (ad 5)), (1, .ref (ad v1)), (2, .int v2), (3, .int v3)]) (fun ad => []) σ (cg_qv Q)
def L_X6_solveReturns_30 (v1 : Nat) (v2 : Int32) (v3 : Int32) (σ : cg_S) (Q : cg_S → Prop) : Prop := cg_L cg_WC RX6 cX6_solveReturns 5 none (cg_R 3) 30 (fun ad => [(0, .ref (ad 5)), (1, .ref (ad v1)), (2, .int v2), (3, .int v3)]) (fun ad => []) σ (cg_qv Q)
set_option maxRecDepth 100000 in
set_option maxHeartbeats 4000000 in
theorem v_X6_solveReturns_30 {v1 : Nat} {v2 : Int32} {v3 : Int32} {σ : cg_S} {Q : cg_S → Prop} (h_v1 : v1 = 19 ∨ v1 = 29 ∨ v1 = 30)
    (h : M_X1_fix v3 0 σ (fun s2 => L_X6_solveReturns_2 v1 v2 (v3 + 1) s2 Q)) : L_X6_solveReturns_30 v1 v2 v3 σ Q := by
  intro p l e s m args below meth c D cy ad hC
  refine ga_aload_n hC dX6_solveReturns_30 0 rfl rfl ?_
  refine gC_5_2 hC q_2_23 dX6_solveReturns_31 ?_
  refine gC_3_1 hC q_1_205 dX6_solveReturns_34 ?_
  refine ga_iload_n hC dX6_solveReturns_37 3 rfl rfl ?_
  refine ga_lconst (v := 0) hC dX6_solveReturns_38 (by decide) ?_
  refine ga_callV (As := [.int v3, .long 0]) (st := []) (k := 4) (n := 2) hC h q_5_14 q_3_16 q_3_17 q_1_5 q_3_18 rfl rfl rfl (by decide +kernel) ⟨Nat.le_of_ble_eq_true rfl, Nat.le_of_ble_eq_true rfl⟩ ⟨Nat.le_of_ble_eq_true rfl, Nat.le_of_ble_eq_true rfl⟩ rfl rfl rfl (by decide) rfl (Nat.le_of_ble_eq_true rfl) dX6_solveReturns_39 (fun v τ hq => ?_)
  obtain ⟨rfl, h⟩ := hq
  obtain ⟨s2, es2⟩ : ∃ z, z = τ := ⟨_, rfl⟩
  rw [← es2] at h ⊢
  clear es2
  refine ga_goto (tgt := 111) hC dX6_solveReturns_42 (by decide) ?_
  refine ga_iinc (v := v3 + 1) (lv' := [(3, .int (v3 + 1)), (0, .ref (ad 5)), (1, .ref (ad v1)), (2, .int v2)]) hC dX6_solveReturns_111 3 rfl rfl (by decide) rfl ?_
  refine ga_goto (tgt := 2) hC dX6_solveReturns_114 (by decide) ?_
  refine ga_locals [1, 2, 3, 0] rfl ?_
  exact h p l e s m args below meth c D cy ad hC
set_option maxRecDepth 100000 in
set_option maxHeartbeats 4000000 in
theorem v_X6_solveReturns_2 {v1 : Nat} {v2 : Int32} {v3 : Int32} {σ : cg_S} {Q : cg_S → Prop} (h_v1 : v1 = 19 ∨ v1 = 29 ∨ v1 = 30)
    (h : ((σ.1 1 0) ≤ v3 → M_X0_solveAll σ (fun s2 => Q s2)) ∧ (¬ (σ.1 1 0) ≤ v3 → vp_in v3 7 ∧ ((σ.1 28 v3.toNatClampNeg) = 0 → L_X6_solveReturns_30 v1 v2 v3 σ Q) ∧ (¬ (σ.1 28 v3.toNatClampNeg) = 0 → M_X6_isReturn v3 σ (fun r5 s6 => (r5 = 0 → vp_in v3 7 ∧ M_X2_moveOf v3 (s6.1 v1 v3.toNatClampNeg) s6 (fun r9 s10 => M_X0_step v3 r9 1 1 s10 (fun s13 => vp_in v3 7 ∧ vp_in r9 21 ∧ (v2 = 0 → ∀ s18 : cg_S, s18 = cg_l s13 (60 + v3.toNatClampNeg) 7 (((s13.1 24 r9.toNatClampNeg) * 1).toInt64) → L_X6_solveReturns_2 v1 v2 (v3 + 1) s18 Q) ∧ (¬ v2 = 0 → vp_in r9 21 ∧ ∀ s21 : cg_S, s21 = cg_l s13 (60 + v3.toNatClampNeg) 7 (((s13.1 24 r9.toNatClampNeg) * (s13.1 22 r9.toNatClampNeg)).toInt64) → L_X6_solveReturns_2 v1 v2 (v3 + 1) s21 Q)))) ∧ (¬ r5 = 0 → L_X6_solveReturns_30 v1 v2 v3 s6 Q))))) : L_X6_solveReturns_2 v1 v2 v3 σ Q := by
  intro p l e s m args below meth c D cy ad hC
  refine ga_iload_n hC dX6_solveReturns_2 3 rfl rfl ?_
  refine ga_aload_n hC dX6_solveReturns_3 0 rfl rfl ?_
  refine gC_5_0 hC q_2_21 dX6_solveReturns_4 ?_
  refine gC_1_0 hC q_1_49 dX6_solveReturns_7 ?_
  refine ga_icmp_ge (tgt := 117) hC dX6_solveReturns_10 (by decide) (fun hc => ?_) (fun hc => ?_)
  · have h := h.1 hc
    refine ga_aload_n hC dX6_solveReturns_117 0 rfl rfl ?_
    refine gC_5_2 hC q_2_23 dX6_solveReturns_118 ?_
    refine ga_callV (As := []) (st := []) (k := 3) (n := 0) hC h q_5_17 q_5_18 q_5_19 q_1_4 q_5_20 rfl rfl rfl (by decide +kernel) ⟨Nat.le_of_ble_eq_true rfl, Nat.le_of_ble_eq_true rfl⟩ ⟨Nat.le_of_ble_eq_true rfl, Nat.le_of_ble_eq_true rfl⟩ rfl rfl rfl (by decide) rfl (Nat.le_of_ble_eq_true rfl) dX6_solveReturns_121 (fun v τ hq => ?_)
    obtain ⟨rfl, h⟩ := hq
    obtain ⟨s2, es2⟩ : ∃ z, z = τ := ⟨_, rfl⟩
    rw [← es2] at h ⊢
    clear es2
    exact ga_vret hC dX6_solveReturns_124 ⟨rfl, h⟩
  · have h := h.2 hc
    refine ga_aload_n hC dX6_solveReturns_13 0 rfl rfl ?_
    refine gC_5_3 hC q_2_24 dX6_solveReturns_14 ?_
    refine ga_iload_n hC dX6_solveReturns_17 3 rfl rfl ?_
    obtain ⟨h4, h⟩ := h
    refine ga_iald hC aC_28 (by decide) h4 dX6_solveReturns_18 ?_
    refine ga_if_eq (tgt := 30) hC dX6_solveReturns_19 (by decide) (fun hc => ?_) (fun hc => ?_)
    · have h := h.1 hc
      refine ga_locals [0, 1, 2, 3] rfl ?_
      exact h p l e s m args below meth c D cy ad hC
    · have h := h.2 hc
      refine ga_aload_n hC dX6_solveReturns_22 0 rfl rfl ?_
      refine ga_iload_n hC dX6_solveReturns_23 3 rfl rfl ?_
      refine ga_callV (As := [.int v3]) (st := []) (k := 5) (n := 1) hC h q_5_6 q_5_7 q_5_8 q_1_7 q_5_9 rfl rfl rfl (by decide +kernel) ⟨Nat.le_of_ble_eq_true rfl, Nat.le_of_ble_eq_true rfl⟩ ⟨Nat.le_of_ble_eq_true rfl, Nat.le_of_ble_eq_true rfl⟩ rfl rfl rfl (by decide) rfl (Nat.le_of_ble_eq_true rfl) dX6_solveReturns_24 (fun v τ hq => ?_)
      obtain ⟨r5, rfl, h⟩ := hq
      obtain ⟨s6, es6⟩ : ∃ z, z = τ := ⟨_, rfl⟩
      rw [← es6] at h ⊢
      clear es6
      refine ga_if_eq (tgt := 45) hC dX6_solveReturns_27 (by decide) (fun hc => ?_) (fun hc => ?_)
      · have h := h.1 hc
        refine ga_iload_n hC dX6_solveReturns_45 3 rfl rfl ?_
        refine ga_aload_n hC dX6_solveReturns_46 1 rfl rfl ?_
        refine ga_iload_n hC dX6_solveReturns_47 3 rfl rfl ?_
        obtain ⟨h8, h⟩ := h
        refine ga_iald hC (aC_p h_v1) (show _ < 88 by have := h_v1; omega) h8 dX6_solveReturns_48 ?_
        refine ga_callS (As := [.int v3, .int (s6.1 v1 v3.toNatClampNeg)]) (st := []) (n := 2) hC h q_5_15 q_2_169 q_1_2 q_2_170 rfl rfl rfl (by decide +kernel) ⟨Nat.le_of_ble_eq_true rfl, Nat.le_of_ble_eq_true rfl⟩ ⟨Nat.le_of_ble_eq_true rfl, Nat.le_of_ble_eq_true rfl⟩ rfl rfl (Nat.le_of_ble_eq_true rfl) dX6_solveReturns_49 (fun v τ hq => ?_)
        obtain ⟨r9, rfl, h⟩ := hq
        obtain ⟨s10, es10⟩ : ∃ z, z = τ := ⟨_, rfl⟩
        rw [← es10] at h ⊢
        clear es10
        refine ga_istore (lv' := [(4, .int r9), (0, .ref (ad 5)), (1, .ref (ad v1)), (2, .int v2), (3, .int v3)]) hC dX6_solveReturns_52 (by decide) rfl ?_
        refine ga_aload_n hC dX6_solveReturns_54 1 rfl rfl ?_
        refine gC_5_2 hC q_2_23 dX6_solveReturns_55 ?_
        refine ga_iload_n hC dX6_solveReturns_58 4 rfl rfl ?_
        refine ga_iload hC dX6_solveReturns_59 0 rfl ?_
        refine ga_iconst (v := 1) hC dX6_solveReturns_61 (by decide) ?_
        refine ga_iconst (v := 1) hC dX6_solveReturns_62 (by decide) ?_
        refine ga_callV (As := [.int v3, .int r9, .int 1, .int 1]) (st := []) (k := 3) (n := 4) hC h q_5_16 q_3_20 q_3_21 q_1_4 q_3_22 rfl rfl rfl (by decide +kernel) ⟨Nat.le_of_ble_eq_true rfl, Nat.le_of_ble_eq_true rfl⟩ ⟨Nat.le_of_ble_eq_true rfl, Nat.le_of_ble_eq_true rfl⟩ rfl rfl rfl (by decide) rfl (Nat.le_of_ble_eq_true rfl) dX6_solveReturns_63 (fun v τ hq => ?_)
        obtain ⟨rfl, h⟩ := hq
        obtain ⟨s13, es13⟩ : ∃ z, z = τ := ⟨_, rfl⟩
        rw [← es13] at h ⊢
        clear es13
        refine ga_aload_n hC dX6_solveReturns_66 1 rfl rfl ?_
        refine gC_5_2 hC q_2_23 dX6_solveReturns_67 ?_
        refine gC_3_1 hC q_1_205 dX6_solveReturns_70 ?_
        refine gC_4_2 hC q_1_180 dX6_solveReturns_73 ?_
        refine ga_iload_n hC dX6_solveReturns_76 4 rfl rfl ?_
        obtain ⟨h15, h⟩ := h
        refine ga_aald5 (b := 60) hC rfl (fun j hj => if_pos hj) (by decide) h15 dX6_solveReturns_77 ?_
        refine ga_bipush (v := 7) hC dX6_solveReturns_78 (by decide) ?_
        refine ga_aload_n hC dX6_solveReturns_80 1 rfl rfl ?_
        refine gC_5_0 hC q_2_21 dX6_solveReturns_81 ?_
        refine gC_1_12 hC q_1_93 dX6_solveReturns_84 ?_
        refine ga_iload hC dX6_solveReturns_87 0 rfl ?_
        obtain ⟨h16, h⟩ := h
        refine ga_iald hC aC_24 (by decide) h16 dX6_solveReturns_89 ?_
        refine ga_iload_n hC dX6_solveReturns_90 3 rfl rfl ?_
        refine ga_if_eq (tgt := 107) hC dX6_solveReturns_91 (by decide) (fun hc => ?_) (fun hc => ?_)
        · have h := h.1 hc
          refine ga_iconst (v := 1) hC dX6_solveReturns_107 (by decide) ?_
          refine ga_imul hC dX6_solveReturns_108 ?_
          refine ga_i2l hC dX6_solveReturns_109 ?_
          refine ga_last hC (aC_g (cg_lt h15)) (show 60 + _ < 88 by have := (cg_lt h15); omega) (by unfold vp_in; decide) dX6_solveReturns_110 ?_
          refine ga_sig (σ := cg_l s13 (60 + v3.toNatClampNeg) 7 (((s13.1 24 r9.toNatClampNeg) * 1).toInt64)) (fun s18 es18 => ?_)
          have h := h s18 es18
          refine ga_iinc (v := v3 + 1) (lv' := [(3, .int (v3 + 1)), (4, .int r9), (0, .ref (ad 5)), (1, .ref (ad v1)), (2, .int v2)]) hC dX6_solveReturns_111 4 rfl rfl (by decide) rfl ?_
          refine ga_goto (tgt := 2) hC dX6_solveReturns_114 (by decide) ?_
          refine ga_locals [2, 3, 4, 0] rfl ?_
          exact h p l e s m args below meth c D cy ad hC
        · have h := h.2 hc
          refine ga_aload_n hC dX6_solveReturns_94 1 rfl rfl ?_
          refine gC_5_0 hC q_2_21 dX6_solveReturns_95 ?_
          refine gC_1_10 hC q_1_85 dX6_solveReturns_98 ?_
          refine ga_iload hC dX6_solveReturns_101 0 rfl ?_
          obtain ⟨h19, h⟩ := h
          refine ga_iald hC aC_22 (by decide) h19 dX6_solveReturns_103 ?_
          refine ga_goto (tgt := 108) hC dX6_solveReturns_104 (by decide) ?_
          refine ga_imul hC dX6_solveReturns_108 ?_
          refine ga_i2l hC dX6_solveReturns_109 ?_
          refine ga_last hC (aC_g (cg_lt h15)) (show 60 + _ < 88 by have := (cg_lt h15); omega) (by unfold vp_in; decide) dX6_solveReturns_110 ?_
          refine ga_sig (σ := cg_l s13 (60 + v3.toNatClampNeg) 7 (((s13.1 24 r9.toNatClampNeg) * (s13.1 22 r9.toNatClampNeg)).toInt64)) (fun s21 es21 => ?_)
          have h := h s21 es21
          refine ga_iinc (v := v3 + 1) (lv' := [(3, .int (v3 + 1)), (4, .int r9), (0, .ref (ad 5)), (1, .ref (ad v1)), (2, .int v2)]) hC dX6_solveReturns_111 4 rfl rfl (by decide) rfl ?_
          refine ga_goto (tgt := 2) hC dX6_solveReturns_114 (by decide) ?_
          refine ga_locals [2, 3, 4, 0] rfl ?_
          exact h p l e s m args below meth c D cy ad hC
      · have h := h.2 hc
        refine ga_locals [0, 1, 2, 3] rfl ?_
        exact h p l e s m args below meth c D cy ad hC
set_option maxRecDepth 100000 in
set_option maxHeartbeats 4000000 in
theorem v_X6_solveReturns {v1 : Nat} {v2 : Int32} {σ : cg_S} {Q : cg_S → Prop} (h_v1 : v1 = 19 ∨ v1 = 29 ∨ v1 = 30)
    (h : L_X6_solveReturns_2 v1 v2 0 σ Q) : M_X6_solveReturns v1 v2 σ Q := by
  refine cg_entry (lv := fun ad => [(0, .ref (ad 5)), (1, .ref (ad v1)), (2, .int v2)]) (by decide +kernel) (fun _ => rfl) (fun _ => Nat.le_of_ble_eq_true rfl) ?_
  intro p l e s m args below meth c D cy ad hC
  refine ga_iconst (v := 0) hC dX6_solveReturns_0 (by decide) ?_
  refine ga_istore_n (lv' := [(3, .int 0), (0, .ref (ad 5)), (1, .ref (ad v1)), (2, .int v2)]) hC dX6_solveReturns_1 rfl (by decide) rfl ?_
  refine ga_locals [1, 2, 3, 0] rfl ?_
  exact h p l e s m args below meth c D cy ad hC
def M_X6_findMean (v1 : Int32) (v2 : Int32) (σ : cg_S) (Q : cg_S → Prop) : Prop := cg_M cg_WC yX6_findMean cX6_findMean 8 none (cg_R 2) (fun ad => [.ref (ad 5), .int v1, .int v2]) σ (cg_qv Q)
theorem M_X6_findMean.mono {v1 : Int32} {v2 : Int32} {σ : cg_S} {Q Q2 : cg_S → Prop} (h : M_X6_findMean v1 v2 σ Q) (hq : ∀ τ, Q τ → Q2 τ) : M_X6_findMean v1 v2 σ Q2 := cg_M.mono h (fun ad v τ ⟨e, q⟩ => ⟨e, hq τ q⟩)
def L_X6_findMean_67 (v1 : Int32) (v2 : Int32) (v3 : Int64) (v5 : Int64) (v7 : Int32) (σ : cg_S) (Q : cg_S → Prop) : Prop := cg_L cg_WC RX6 cX6_findMean 8 none (cg_R 2) 67 (fun ad => [(0, .ref (ad 5)), (1, .int v1), (2, .int v2), (3, .long v3), (5, .long v5), (7, .int v7)]) (fun ad => []) σ (cg_qv Q)
set_option maxRecDepth 100000 in
set_option maxHeartbeats 4000000 in
theorem v_X6_findMean_67 {v1 : Int32} {v2 : Int32} {v3 : Int64} {v5 : Int64} {v7 : Int32} {σ : cg_S} {Q : cg_S → Prop}
    (h : ((σ.1 1 0) ≤ v7 → M_X11_lowestAbove v3 v5 σ (fun r1 s2 => M_X11_lowestBelow v3 v5 s2 (fun r4 s5 => M_X10_put 12 v1 r1 r4 s5 (fun s8 => Q s8)))) ∧ (¬ (σ.1 1 0) ≤ v7 → vp_in v2 21 ∧ vp_in v7 7 ∧ vp_in v7 7 ∧ ∀ x13 : Int64, x13 = v3 + (((σ.1 (36 + v2.toNatClampNeg) v7.toNatClampNeg).toInt64) * (σ.2.1 59 v7.toNatClampNeg)) → L_X6_findMean_67 v1 v2 x13 v5 (v7 + 1) σ Q)) : L_X6_findMean_67 v1 v2 v3 v5 v7 σ Q := by
  intro p l e s m args below meth c D cy ad hC
  refine ga_iload hC dX6_findMean_67 5 rfl ?_
  refine ga_aload_n hC dX6_findMean_69 0 rfl rfl ?_
  refine gC_5_0 hC q_2_21 dX6_findMean_70 ?_
  refine gC_1_0 hC q_1_49 dX6_findMean_73 ?_
  refine ga_icmp_ge (tgt := 109) hC dX6_findMean_76 (by decide) (fun hc => ?_) (fun hc => ?_)
  · have h := h.1 hc
    refine ga_aload_n hC dX6_findMean_109 0 rfl rfl ?_
    refine gC_5_5 hC q_2_26 dX6_findMean_110 ?_
    refine ga_iload_n hC dX6_findMean_113 1 rfl rfl ?_
    refine ga_lload_n hC dX6_findMean_114 3 rfl rfl ?_
    refine ga_lload hC dX6_findMean_115 4 rfl ?_
    refine ga_callSN (As := [.long v3, .long v5]) (st := [.int v1, .ref (ad 12)]) (n := 2) hC h (by decide +kernel) q_4_168 q_1_1 q_4_169 rfl rfl rfl (by decide +kernel) ⟨Nat.le_of_ble_eq_true rfl, Nat.le_of_ble_eq_true rfl⟩ ⟨Nat.le_of_ble_eq_true rfl, Nat.le_of_ble_eq_true rfl⟩ rfl rfl (Nat.le_of_ble_eq_true rfl) dX6_findMean_117 (fun v τ hq => ?_)
    obtain ⟨r1, rfl, h⟩ := hq
    obtain ⟨s2, es2⟩ : ∃ z, z = τ := ⟨_, rfl⟩
    rw [← es2] at h ⊢
    clear es2
    refine ga_lload_n hC dX6_findMean_120 3 rfl rfl ?_
    refine ga_lload hC dX6_findMean_121 4 rfl ?_
    refine ga_callSN (As := [.long v3, .long v5]) (st := [.long r1, .int v1, .ref (ad 12)]) (n := 2) hC h (by decide +kernel) q_4_188 q_1_1 q_4_189 rfl rfl rfl (by decide +kernel) ⟨Nat.le_of_ble_eq_true rfl, Nat.le_of_ble_eq_true rfl⟩ ⟨Nat.le_of_ble_eq_true rfl, Nat.le_of_ble_eq_true rfl⟩ rfl rfl (Nat.le_of_ble_eq_true rfl) dX6_findMean_123 (fun v τ hq => ?_)
    obtain ⟨r4, rfl, h⟩ := hq
    obtain ⟨s5, es5⟩ : ∃ z, z = τ := ⟨_, rfl⟩
    rw [← es5] at h ⊢
    clear es5
    refine ga_callV (As := [.int v1, .long r1, .long r4]) (st := []) (k := 12) (n := 3) hC h q_5_28 q_3_61 q_3_62 q_1_8 q_3_63 rfl rfl rfl (by decide +kernel) ⟨Nat.le_of_ble_eq_true rfl, Nat.le_of_ble_eq_true rfl⟩ ⟨Nat.le_of_ble_eq_true rfl, Nat.le_of_ble_eq_true rfl⟩ rfl rfl (oC_v (show 11 ≤ 12 ∧ 12 ≤ 18 by decide)) (show _ < 88 by have := (show 11 ≤ 12 ∧ 12 ≤ 18 by decide); omega) rfl (Nat.le_of_ble_eq_true rfl) dX6_findMean_126 (fun v τ hq => ?_)
    obtain ⟨rfl, h⟩ := hq
    obtain ⟨s8, es8⟩ : ∃ z, z = τ := ⟨_, rfl⟩
    rw [← es8] at h ⊢
    clear es8
    exact ga_vret hC dX6_findMean_129 ⟨rfl, h⟩
  · have h := h.2 hc
    refine ga_lload_n hC dX6_findMean_79 3 rfl rfl ?_
    refine ga_aload_n hC dX6_findMean_80 0 rfl rfl ?_
    refine gC_5_0 hC q_2_21 dX6_findMean_81 ?_
    refine gC_1_14 hC q_1_102 dX6_findMean_84 ?_
    refine ga_iload_n hC dX6_findMean_87 2 rfl rfl ?_
    obtain ⟨h10, h⟩ := h
    refine ga_aald4 (b := 36) hC rfl (fun j hj => if_pos hj) (by decide) h10 dX6_findMean_88 ?_
    refine ga_iload hC dX6_findMean_89 5 rfl ?_
    obtain ⟨h11, h⟩ := h
    refine ga_iald hC (aC_w (cg_lt h10)) (show 36 + _ < 88 by have := (cg_lt h10); omega) h11 dX6_findMean_91 ?_
    refine ga_i2l hC dX6_findMean_92 ?_
    refine ga_aload_n hC dX6_findMean_93 0 rfl rfl ?_
    refine gC_5_4 hC q_2_25 dX6_findMean_94 ?_
    refine ga_iload hC dX6_findMean_97 5 rfl ?_
    obtain ⟨h12, h⟩ := h
    refine ga_lald hC aC_59 (by decide) h12 dX6_findMean_99 ?_
    refine ga_lmul hC dX6_findMean_100 ?_
    refine ga_ladd hC dX6_findMean_101 ?_
    refine ga_topl (fun x13 ex13 => ?_)
    have h := h x13 ex13
    refine ga_lstore_n (lv' := [(3, .long x13), (0, .ref (ad 5)), (1, .int v1), (2, .int v2), (5, .long v5), (7, .int v7)]) hC dX6_findMean_102 rfl (by decide) rfl ?_
    refine ga_iinc (v := v7 + 1) (lv' := [(7, .int (v7 + 1)), (3, .long x13), (0, .ref (ad 5)), (1, .int v1), (2, .int v2), (5, .long v5)]) hC dX6_findMean_103 5 rfl rfl (by decide) rfl ?_
    refine ga_goto (tgt := 67) hC dX6_findMean_106 (by decide) ?_
    refine ga_locals [2, 3, 4, 1, 5, 0] rfl ?_
    exact h p l e s m args below meth c D cy ad hC
set_option maxRecDepth 100000 in
set_option maxHeartbeats 4000000 in
theorem v_X6_findMean {v1 : Int32} {v2 : Int32} {σ : cg_S} {Q : cg_S → Prop}
    (h : vp_in v2 21 ∧ vp_in v2 21 ∧ ∀ x3 : Int64, x3 = (((σ.1 24 v2.toNatClampNeg) * (σ.1 22 v2.toNatClampNeg)).toInt64) * (σ.2.1 4 4) → vp_in v2 21 ∧ M_X0_expected v2 σ (fun r5 s6 => ∀ x8 : Int64, x8 = (((σ.1 24 v2.toNatClampNeg).toInt64) * (σ.2.1 4 4)) + r5 → L_X6_findMean_67 v1 v2 x3 x8 0 s6 Q)) : M_X6_findMean v1 v2 σ Q := by
  refine cg_entry (lv := fun ad => [(0, .ref (ad 5)), (1, .int v1), (2, .int v2)]) (by decide +kernel) (fun _ => rfl) (fun _ => Nat.le_of_ble_eq_true rfl) ?_
  intro p l e s m args below meth c D cy ad hC
  refine ga_aload_n hC dX6_findMean_0 0 rfl rfl ?_
  refine gC_5_0 hC q_2_21 dX6_findMean_1 ?_
  refine gC_1_12 hC q_1_93 dX6_findMean_4 ?_
  refine ga_iload_n hC dX6_findMean_7 2 rfl rfl ?_
  obtain ⟨h1, h⟩ := h
  refine ga_iald hC aC_24 (by decide) h1 dX6_findMean_8 ?_
  refine ga_aload_n hC dX6_findMean_9 0 rfl rfl ?_
  refine gC_5_0 hC q_2_21 dX6_findMean_10 ?_
  refine gC_1_10 hC q_1_85 dX6_findMean_13 ?_
  refine ga_iload_n hC dX6_findMean_16 2 rfl rfl ?_
  obtain ⟨h2, h⟩ := h
  refine ga_iald hC aC_22 (by decide) h2 dX6_findMean_17 ?_
  refine ga_imul hC dX6_findMean_18 ?_
  refine ga_i2l hC dX6_findMean_19 ?_
  refine ga_aload_n hC dX6_findMean_20 0 rfl rfl ?_
  refine gC_5_2 hC q_2_23 dX6_findMean_21 ?_
  refine gC_3_1 hC q_1_205 dX6_findMean_24 ?_
  refine gC_4_4 hC q_1_188 dX6_findMean_27 ?_
  refine ga_lmul hC dX6_findMean_30 ?_
  refine ga_topl (fun x3 ex3 => ?_)
  have h := h x3 ex3
  refine ga_lstore_n (lv' := [(3, .long x3), (0, .ref (ad 5)), (1, .int v1), (2, .int v2)]) hC dX6_findMean_31 rfl (by decide) rfl ?_
  refine ga_aload_n hC dX6_findMean_32 1 rfl rfl ?_
  refine gC_5_0 hC q_2_21 dX6_findMean_33 ?_
  refine gC_1_12 hC q_1_93 dX6_findMean_36 ?_
  refine ga_iload_n hC dX6_findMean_39 3 rfl rfl ?_
  obtain ⟨h4, h⟩ := h
  refine ga_iald hC aC_24 (by decide) h4 dX6_findMean_40 ?_
  refine ga_i2l hC dX6_findMean_41 ?_
  refine ga_aload_n hC dX6_findMean_42 1 rfl rfl ?_
  refine gC_5_2 hC q_2_23 dX6_findMean_43 ?_
  refine gC_3_1 hC q_1_205 dX6_findMean_46 ?_
  refine gC_4_4 hC q_1_188 dX6_findMean_49 ?_
  refine ga_lmul hC dX6_findMean_52 ?_
  refine ga_aload_n hC dX6_findMean_53 1 rfl rfl ?_
  refine gC_5_2 hC q_2_23 dX6_findMean_54 ?_
  refine ga_iload_n hC dX6_findMean_57 3 rfl rfl ?_
  refine ga_callV (As := [.int v2]) (st := [.long (((σ.1 24 v2.toNatClampNeg).toInt64) * (σ.2.1 4 4))]) (k := 3) (n := 1) hC h q_5_25 q_3_53 q_3_54 q_1_4 q_3_55 rfl rfl rfl (by decide +kernel) ⟨Nat.le_of_ble_eq_true rfl, Nat.le_of_ble_eq_true rfl⟩ ⟨Nat.le_of_ble_eq_true rfl, Nat.le_of_ble_eq_true rfl⟩ rfl rfl rfl (by decide) rfl (Nat.le_of_ble_eq_true rfl) dX6_findMean_58 (fun v τ hq => ?_)
  obtain ⟨r5, rfl, h⟩ := hq
  obtain ⟨s6, es6⟩ : ∃ z, z = τ := ⟨_, rfl⟩
  rw [← es6] at h ⊢
  clear es6
  refine ga_ladd hC dX6_findMean_61 ?_
  refine ga_topl (fun x8 ex8 => ?_)
  have h := h x8 ex8
  refine ga_lstore (lv' := [(5, .long x8), (3, .long x3), (0, .ref (ad 5)), (1, .int v1), (2, .int v2)]) hC dX6_findMean_62 (by decide) rfl ?_
  refine ga_iconst (v := 0) hC dX6_findMean_64 (by decide) ?_
  refine ga_istore (lv' := [(7, .int 0), (5, .long x8), (3, .long x3), (0, .ref (ad 5)), (1, .int v1), (2, .int v2)]) hC dX6_findMean_65 (by decide) rfl ?_
  refine ga_locals [3, 4, 5, 2, 1, 0] rfl ?_
  exact h p l e s m args below meth c D cy ad hC
def M_X6_spreadMeans (v1 : Nat) (σ : cg_S) (Q : cg_S → Prop) : Prop := cg_M cg_WC yX6_spreadMeans cX6_spreadMeans 6 none (cg_R 3) (fun ad => [.ref (ad 5), .ref (ad v1)]) σ (cg_qv Q)
theorem M_X6_spreadMeans.mono {v1 : Nat} {σ : cg_S} {Q Q2 : cg_S → Prop} (h : M_X6_spreadMeans v1 σ Q) (hq : ∀ τ, Q τ → Q2 τ) : M_X6_spreadMeans v1 σ Q2 := cg_M.mono h (fun ad v τ ⟨e, q⟩ => ⟨e, hq τ q⟩)
def L_X6_spreadMeans_5 (v1 : Nat) (v2 : Int64) (v4 : Int32) (σ : cg_S) (Q : cg_S → Prop) : Prop := cg_L cg_WC RX6 cX6_spreadMeans 6 none (cg_R 3) 5 (fun ad => [(0, .ref (ad 5)), (1, .ref (ad v1)), (2, .long v2), (4, .int v4)]) (fun ad => []) σ (cg_qv Q)
def L_X6_spreadMeans_52 (v1 : Nat) (v2 : Int64) (v4 : Int32) (σ : cg_S) (Q : cg_S → Prop) : Prop := cg_L cg_WC RX6 cX6_spreadMeans 6 none (cg_R 3) 52 (fun ad => [(0, .ref (ad 5)), (1, .ref (ad v1)), (2, .long v2), (4, .int v4)]) (fun ad => []) σ (cg_qv Q)
set_option maxRecDepth 100000 in
set_option maxHeartbeats 4000000 in
theorem v_X6_spreadMeans_52 {v1 : Nat} {v2 : Int64} {v4 : Int32} {σ : cg_S} {Q : cg_S → Prop} (h_v1 : v1 = 19 ∨ v1 = 29 ∨ v1 = 30)
    (h : ((σ.1 1 0) ≤ v4 → M_X0_solveAll σ (fun s2 => ∀ s4 : cg_S, s4 = cg_l s2 4 4 ((s2.2.1 4 4) * v2) → Q s4)) ∧ (¬ (σ.1 1 0) ≤ v4 → vp_in v4 7 ∧ (¬ (σ.1 28 v4.toNatClampNeg) = 0 → vp_in v4 7 ∧ M_J6_numberOfTrailingZeros_0f7a4 (σ.1 28 v4.toNatClampNeg) σ (fun r7 s8 => vp_in r7 7 ∧ vp_in r7 7 ∧ M_X11_quotient v2 (s8.2.1 (12 + 64) r7.toNatClampNeg) s8 (fun r12 s13 => M_X1_fix v4 ((s8.2.1 (12 + 56) r7.toNatClampNeg) * r12) s13 (fun s16 => L_X6_spreadMeans_52 v1 v2 (v4 + 1) s16 Q)))) ∧ ((σ.1 28 v4.toNatClampNeg) = 0 → vp_in v4 7 ∧ M_X2_moveOf v4 (σ.1 v1 v4.toNatClampNeg) σ (fun r19 s20 => M_X0_step v4 r19 1 1 s20 (fun s23 => L_X6_spreadMeans_52 v1 v2 (v4 + 1) s23 Q))))) : L_X6_spreadMeans_52 v1 v2 v4 σ Q := by
  intro p l e s m args below meth c D cy ad hC
  refine ga_iload hC dX6_spreadMeans_52 3 rfl ?_
  refine ga_aload_n hC dX6_spreadMeans_54 0 rfl rfl ?_
  refine gC_5_0 hC q_2_21 dX6_spreadMeans_55 ?_
  refine gC_1_0 hC q_1_49 dX6_spreadMeans_58 ?_
  refine ga_icmp_ge (tgt := 152) hC dX6_spreadMeans_61 (by decide) (fun hc => ?_) (fun hc => ?_)
  · have h := h.1 hc
    refine ga_aload_n hC dX6_spreadMeans_152 0 rfl rfl ?_
    refine gC_5_2 hC q_2_23 dX6_spreadMeans_153 ?_
    refine ga_callV (As := []) (st := []) (k := 3) (n := 0) hC h q_5_17 q_5_18 q_5_19 q_1_4 q_5_20 rfl rfl rfl (by decide +kernel) ⟨Nat.le_of_ble_eq_true rfl, Nat.le_of_ble_eq_true rfl⟩ ⟨Nat.le_of_ble_eq_true rfl, Nat.le_of_ble_eq_true rfl⟩ rfl rfl rfl (by decide) rfl (Nat.le_of_ble_eq_true rfl) dX6_spreadMeans_156 (fun v τ hq => ?_)
    obtain ⟨rfl, h⟩ := hq
    obtain ⟨s2, es2⟩ : ∃ z, z = τ := ⟨_, rfl⟩
    rw [← es2] at h ⊢
    clear es2
    refine ga_aload_n hC dX6_spreadMeans_159 0 rfl rfl ?_
    refine gC_5_2 hC q_2_23 dX6_spreadMeans_160 ?_
    refine gC_3_1 hC q_1_205 dX6_spreadMeans_163 ?_
    refine ga_dup hC dX6_spreadMeans_166 rfl ?_
    refine gC_4_4 hC q_1_188 dX6_spreadMeans_167 ?_
    refine ga_lload_n hC dX6_spreadMeans_170 2 rfl rfl ?_
    refine ga_lmul hC dX6_spreadMeans_171 ?_
    refine pC_4_4 hC q_1_188 dX6_spreadMeans_172 ?_
    refine ga_sig (σ := cg_l s2 4 4 ((s2.2.1 4 4) * v2)) (fun s4 es4 => ?_)
    have h := h s4 es4
    exact ga_vret hC dX6_spreadMeans_175 ⟨rfl, h⟩
  · have h := h.2 hc
    refine ga_aload_n hC dX6_spreadMeans_64 0 rfl rfl ?_
    refine gC_5_3 hC q_2_24 dX6_spreadMeans_65 ?_
    refine ga_iload hC dX6_spreadMeans_68 3 rfl ?_
    obtain ⟨h5, h⟩ := h
    refine ga_iald hC aC_28 (by decide) h5 dX6_spreadMeans_70 ?_
    refine ga_if_ne (tgt := 97) hC dX6_spreadMeans_71 (by decide) (fun hc => ?_) (fun hc => ?_)
    · have h := h.1 hc
      refine ga_aload_n hC dX6_spreadMeans_97 0 rfl rfl ?_
      refine gC_5_3 hC q_2_24 dX6_spreadMeans_98 ?_
      refine ga_iload hC dX6_spreadMeans_101 3 rfl ?_
      obtain ⟨h6, h⟩ := h
      refine ga_iald hC aC_28 (by decide) h6 dX6_spreadMeans_103 ?_
      refine ga_callS (As := [.int (σ.1 28 v4.toNatClampNeg)]) (st := []) (n := 1) hC h q_5_10 q_5_11 q_1_27 q_5_12 rfl rfl rfl (by decide +kernel) ⟨Nat.le_of_ble_eq_true rfl, Nat.le_of_ble_eq_true rfl⟩ ⟨Nat.le_of_ble_eq_true rfl, Nat.le_of_ble_eq_true rfl⟩ rfl rfl (Nat.le_of_ble_eq_true rfl) dX6_spreadMeans_104 (fun v τ hq => ?_)
      obtain ⟨r7, rfl, h⟩ := hq
      obtain ⟨s8, es8⟩ : ∃ z, z = τ := ⟨_, rfl⟩
      rw [← es8] at h ⊢
      clear es8
      refine ga_istore (lv' := [(5, .int r7), (0, .ref (ad 5)), (1, .ref (ad v1)), (2, .long v2), (4, .int v4)]) hC dX6_spreadMeans_107 (by decide) rfl ?_
      refine ga_aload_n hC dX6_spreadMeans_109 1 rfl rfl ?_
      refine gC_5_2 hC q_2_23 dX6_spreadMeans_110 ?_
      refine gC_3_1 hC q_1_205 dX6_spreadMeans_113 ?_
      refine ga_iload hC dX6_spreadMeans_116 4 rfl ?_
      refine ga_aload_n hC dX6_spreadMeans_118 1 rfl rfl ?_
      refine gC_5_5 hC q_2_26 dX6_spreadMeans_119 ?_
      refine gC_v_0 (show 11 ≤ 12 ∧ 12 ≤ 18 by decide) hC q_2_9 dX6_spreadMeans_122 ?_
      refine ga_iload hC dX6_spreadMeans_125 0 rfl ?_
      obtain ⟨h10, h⟩ := h
      refine ga_lald hC (aC_vu (show 11 ≤ 12 ∧ 12 ≤ 18 by decide)) (show _ + 56 < 88 by have := (show 11 ≤ 12 ∧ 12 ≤ 18 by decide); omega) h10 dX6_spreadMeans_127 ?_
      refine ga_lload_n hC dX6_spreadMeans_128 3 rfl rfl ?_
      refine ga_aload_n hC dX6_spreadMeans_129 1 rfl rfl ?_
      refine gC_5_5 hC q_2_26 dX6_spreadMeans_130 ?_
      refine gC_v_1 (show 11 ≤ 12 ∧ 12 ≤ 18 by decide) hC q_2_14 dX6_spreadMeans_133 ?_
      refine ga_iload hC dX6_spreadMeans_136 0 rfl ?_
      obtain ⟨h11, h⟩ := h
      refine ga_lald hC (aC_vd (show 11 ≤ 12 ∧ 12 ≤ 18 by decide)) (show _ + 64 < 88 by have := (show 11 ≤ 12 ∧ 12 ≤ 18 by decide); omega) h11 dX6_spreadMeans_138 ?_
      refine ga_callSN (As := [.long v2, .long (s8.2.1 (12 + 64) r7.toNatClampNeg)]) (st := [.long (s8.2.1 (12 + 56) r7.toNatClampNeg), .int v4, .ref (ad 4)]) (n := 2) hC h (by decide +kernel) q_3_36 q_1_1 q_3_37 rfl rfl rfl (by decide +kernel) ⟨Nat.le_of_ble_eq_true rfl, Nat.le_of_ble_eq_true rfl⟩ ⟨Nat.le_of_ble_eq_true rfl, Nat.le_of_ble_eq_true rfl⟩ rfl rfl (Nat.le_of_ble_eq_true rfl) dX6_spreadMeans_139 (fun v τ hq => ?_)
      obtain ⟨r12, rfl, h⟩ := hq
      obtain ⟨s13, es13⟩ : ∃ z, z = τ := ⟨_, rfl⟩
      rw [← es13] at h ⊢
      clear es13
      refine ga_lmul hC dX6_spreadMeans_142 ?_
      refine ga_callV (As := [.int v4, .long ((s8.2.1 (12 + 56) r7.toNatClampNeg) * r12)]) (st := []) (k := 4) (n := 2) hC h q_5_14 q_3_16 q_3_17 q_1_5 q_3_18 rfl rfl rfl (by decide +kernel) ⟨Nat.le_of_ble_eq_true rfl, Nat.le_of_ble_eq_true rfl⟩ ⟨Nat.le_of_ble_eq_true rfl, Nat.le_of_ble_eq_true rfl⟩ rfl rfl rfl (by decide) rfl (Nat.le_of_ble_eq_true rfl) dX6_spreadMeans_143 (fun v τ hq => ?_)
      obtain ⟨rfl, h⟩ := hq
      obtain ⟨s16, es16⟩ : ∃ z, z = τ := ⟨_, rfl⟩
      rw [← es16] at h ⊢
      clear es16
      refine ga_iinc (v := v4 + 1) (lv' := [(4, .int (v4 + 1)), (5, .int r7), (0, .ref (ad 5)), (1, .ref (ad v1)), (2, .long v2)]) hC dX6_spreadMeans_146 4 rfl rfl (by decide) rfl ?_
      refine ga_goto (tgt := 52) hC dX6_spreadMeans_149 (by decide) ?_
      refine ga_locals [2, 3, 4, 0] rfl ?_
      exact h p l e s m args below meth c D cy ad hC
    · have h := h.2 hc
      refine ga_aload_n hC dX6_spreadMeans_74 0 rfl rfl ?_
      refine gC_5_2 hC q_2_23 dX6_spreadMeans_75 ?_
      refine ga_iload hC dX6_spreadMeans_78 3 rfl ?_
      refine ga_iload hC dX6_spreadMeans_80 3 rfl ?_
      refine ga_aload_n hC dX6_spreadMeans_82 1 rfl rfl ?_
      refine ga_iload hC dX6_spreadMeans_83 3 rfl ?_
      obtain ⟨h18, h⟩ := h
      refine ga_iald hC (aC_p h_v1) (show _ < 88 by have := h_v1; omega) h18 dX6_spreadMeans_85 ?_
      refine ga_callS (As := [.int v4, .int (σ.1 v1 v4.toNatClampNeg)]) (st := [.int v4, .ref (ad 3)]) (n := 2) hC h q_5_15 q_2_169 q_1_2 q_2_170 rfl rfl rfl (by decide +kernel) ⟨Nat.le_of_ble_eq_true rfl, Nat.le_of_ble_eq_true rfl⟩ ⟨Nat.le_of_ble_eq_true rfl, Nat.le_of_ble_eq_true rfl⟩ rfl rfl (Nat.le_of_ble_eq_true rfl) dX6_spreadMeans_86 (fun v τ hq => ?_)
      obtain ⟨r19, rfl, h⟩ := hq
      obtain ⟨s20, es20⟩ : ∃ z, z = τ := ⟨_, rfl⟩
      rw [← es20] at h ⊢
      clear es20
      refine ga_iconst (v := 1) hC dX6_spreadMeans_89 (by decide) ?_
      refine ga_iconst (v := 1) hC dX6_spreadMeans_90 (by decide) ?_
      refine ga_callV (As := [.int v4, .int r19, .int 1, .int 1]) (st := []) (k := 3) (n := 4) hC h q_5_16 q_3_20 q_3_21 q_1_4 q_3_22 rfl rfl rfl (by decide +kernel) ⟨Nat.le_of_ble_eq_true rfl, Nat.le_of_ble_eq_true rfl⟩ ⟨Nat.le_of_ble_eq_true rfl, Nat.le_of_ble_eq_true rfl⟩ rfl rfl rfl (by decide) rfl (Nat.le_of_ble_eq_true rfl) dX6_spreadMeans_91 (fun v τ hq => ?_)
      obtain ⟨rfl, h⟩ := hq
      obtain ⟨s23, es23⟩ : ∃ z, z = τ := ⟨_, rfl⟩
      rw [← es23] at h ⊢
      clear es23
      refine ga_goto (tgt := 146) hC dX6_spreadMeans_94 (by decide) ?_
      refine ga_iinc (v := v4 + 1) (lv' := [(4, .int (v4 + 1)), (0, .ref (ad 5)), (1, .ref (ad v1)), (2, .long v2)]) hC dX6_spreadMeans_146 3 rfl rfl (by decide) rfl ?_
      refine ga_goto (tgt := 52) hC dX6_spreadMeans_149 (by decide) ?_
      refine ga_locals [1, 2, 3, 0] rfl ?_
      exact h p l e s m args below meth c D cy ad hC
set_option maxRecDepth 100000 in
set_option maxHeartbeats 4000000 in
theorem v_X6_spreadMeans_5 {v1 : Nat} {v2 : Int64} {v4 : Int32} {σ : cg_S} {Q : cg_S → Prop} (h_v1 : v1 = 19 ∨ v1 = 29 ∨ v1 = 30)
    (h : ((σ.1 1 0) ≤ v4 → L_X6_spreadMeans_52 v1 v2 0 σ Q) ∧ (¬ (σ.1 1 0) ≤ v4 → M_X6_isReturn v4 σ (fun r1 s2 => (r1 = 0 → L_X6_spreadMeans_5 v1 v2 (v4 + 1) s2 Q) ∧ (¬ r1 = 0 → vp_in v4 7 ∧ M_X11_lowestBelow v2 (s2.2.1 (12 + 64) v4.toNatClampNeg) s2 (fun r5 s6 => ∀ x8 : Int64, x8 = v2 * r5 → L_X6_spreadMeans_5 v1 x8 (v4 + 1) s6 Q))))) : L_X6_spreadMeans_5 v1 v2 v4 σ Q := by
  intro p l e s m args below meth c D cy ad hC
  refine ga_iload hC dX6_spreadMeans_5 3 rfl ?_
  refine ga_aload_n hC dX6_spreadMeans_7 0 rfl rfl ?_
  refine gC_5_0 hC q_2_21 dX6_spreadMeans_8 ?_
  refine gC_1_0 hC q_1_49 dX6_spreadMeans_11 ?_
  refine ga_icmp_ge (tgt := 49) hC dX6_spreadMeans_14 (by decide) (fun hc => ?_) (fun hc => ?_)
  · have h := h.1 hc
    refine ga_iconst (v := 0) hC dX6_spreadMeans_49 (by decide) ?_
    refine ga_istore (lv' := [(4, .int 0), (0, .ref (ad 5)), (1, .ref (ad v1)), (2, .long v2)]) hC dX6_spreadMeans_50 (by decide) rfl ?_
    refine ga_locals [1, 2, 3, 0] rfl ?_
    exact h p l e s m args below meth c D cy ad hC
  · have h := h.2 hc
    refine ga_aload_n hC dX6_spreadMeans_17 0 rfl rfl ?_
    refine ga_iload hC dX6_spreadMeans_18 3 rfl ?_
    refine ga_callV (As := [.int v4]) (st := []) (k := 5) (n := 1) hC h q_5_6 q_5_7 q_5_8 q_1_7 q_5_9 rfl rfl rfl (by decide +kernel) ⟨Nat.le_of_ble_eq_true rfl, Nat.le_of_ble_eq_true rfl⟩ ⟨Nat.le_of_ble_eq_true rfl, Nat.le_of_ble_eq_true rfl⟩ rfl rfl rfl (by decide) rfl (Nat.le_of_ble_eq_true rfl) dX6_spreadMeans_20 (fun v τ hq => ?_)
    obtain ⟨r1, rfl, h⟩ := hq
    obtain ⟨s2, es2⟩ : ∃ z, z = τ := ⟨_, rfl⟩
    rw [← es2] at h ⊢
    clear es2
    refine ga_if_eq (tgt := 43) hC dX6_spreadMeans_23 (by decide) (fun hc => ?_) (fun hc => ?_)
    · have h := h.1 hc
      refine ga_iinc (v := v4 + 1) (lv' := [(4, .int (v4 + 1)), (0, .ref (ad 5)), (1, .ref (ad v1)), (2, .long v2)]) hC dX6_spreadMeans_43 3 rfl rfl (by decide) rfl ?_
      refine ga_goto (tgt := 5) hC dX6_spreadMeans_46 (by decide) ?_
      refine ga_locals [1, 2, 3, 0] rfl ?_
      exact h p l e s m args below meth c D cy ad hC
    · have h := h.2 hc
      refine ga_lload_n hC dX6_spreadMeans_26 2 rfl rfl ?_
      refine ga_lload_n hC dX6_spreadMeans_27 2 rfl rfl ?_
      refine ga_aload_n hC dX6_spreadMeans_28 0 rfl rfl ?_
      refine gC_5_5 hC q_2_26 dX6_spreadMeans_29 ?_
      refine gC_v_1 (show 11 ≤ 12 ∧ 12 ≤ 18 by decide) hC q_2_14 dX6_spreadMeans_32 ?_
      refine ga_iload hC dX6_spreadMeans_35 3 rfl ?_
      obtain ⟨h4, h⟩ := h
      refine ga_lald hC (aC_vd (show 11 ≤ 12 ∧ 12 ≤ 18 by decide)) (show _ + 64 < 88 by have := (show 11 ≤ 12 ∧ 12 ≤ 18 by decide); omega) h4 dX6_spreadMeans_37 ?_
      refine ga_callSN (As := [.long v2, .long (s2.2.1 (12 + 64) v4.toNatClampNeg)]) (st := [.long v2]) (n := 2) hC h (by decide +kernel) q_4_188 q_1_1 q_4_189 rfl rfl rfl (by decide +kernel) ⟨Nat.le_of_ble_eq_true rfl, Nat.le_of_ble_eq_true rfl⟩ ⟨Nat.le_of_ble_eq_true rfl, Nat.le_of_ble_eq_true rfl⟩ rfl rfl (Nat.le_of_ble_eq_true rfl) dX6_spreadMeans_38 (fun v τ hq => ?_)
      obtain ⟨r5, rfl, h⟩ := hq
      obtain ⟨s6, es6⟩ : ∃ z, z = τ := ⟨_, rfl⟩
      rw [← es6] at h ⊢
      clear es6
      refine ga_lmul hC dX6_spreadMeans_41 ?_
      refine ga_topl (fun x8 ex8 => ?_)
      have h := h x8 ex8
      refine ga_lstore_n (lv' := [(2, .long x8), (0, .ref (ad 5)), (1, .ref (ad v1)), (4, .int v4)]) hC dX6_spreadMeans_42 rfl (by decide) rfl ?_
      refine ga_iinc (v := v4 + 1) (lv' := [(4, .int (v4 + 1)), (2, .long x8), (0, .ref (ad 5)), (1, .ref (ad v1))]) hC dX6_spreadMeans_43 3 rfl rfl (by decide) rfl ?_
      refine ga_goto (tgt := 5) hC dX6_spreadMeans_46 (by decide) ?_
      refine ga_locals [2, 3, 1, 0] rfl ?_
      exact h p l e s m args below meth c D cy ad hC
set_option maxRecDepth 100000 in
set_option maxHeartbeats 4000000 in
theorem v_X6_spreadMeans {v1 : Nat} {σ : cg_S} {Q : cg_S → Prop} (h_v1 : v1 = 19 ∨ v1 = 29 ∨ v1 = 30)
    (h : L_X6_spreadMeans_5 v1 1 0 σ Q) : M_X6_spreadMeans v1 σ Q := by
  refine cg_entry (lv := fun ad => [(0, .ref (ad 5)), (1, .ref (ad v1))]) (by decide +kernel) (fun _ => rfl) (fun _ => Nat.le_of_ble_eq_true rfl) ?_
  intro p l e s m args below meth c D cy ad hC
  refine ga_lconst (v := 1) hC dX6_spreadMeans_0 (by decide) ?_
  refine ga_lstore_n (lv' := [(2, .long 1), (0, .ref (ad 5)), (1, .ref (ad v1))]) hC dX6_spreadMeans_1 rfl (by decide) rfl ?_
  refine ga_iconst (v := 0) hC dX6_spreadMeans_2 (by decide) ?_
  refine ga_istore (lv' := [(4, .int 0), (2, .long 1), (0, .ref (ad 5)), (1, .ref (ad v1))]) hC dX6_spreadMeans_3 (by decide) rfl ?_
  refine ga_locals [2, 3, 1, 0] rfl ?_
  exact h p l e s m args below meth c D cy ad hC
def M_X6_findMeans (v1 : Nat) (σ : cg_S) (Q : cg_S → Prop) : Prop := cg_M cg_WC yX6_findMeans cX6_findMeans 3 none (cg_R 4) (fun ad => [.ref (ad 5), .ref (ad v1)]) σ (cg_qv Q)
theorem M_X6_findMeans.mono {v1 : Nat} {σ : cg_S} {Q Q2 : cg_S → Prop} (h : M_X6_findMeans v1 σ Q) (hq : ∀ τ, Q τ → Q2 τ) : M_X6_findMeans v1 σ Q2 := cg_M.mono h (fun ad v τ ⟨e, q⟩ => ⟨e, hq τ q⟩)
def L_X6_findMeans_20 (v1 : Nat) (v2 : Int32) (σ : cg_S) (Q : cg_S → Prop) : Prop := cg_L cg_WC RX6 cX6_findMeans 3 none (cg_R 4) 20 (fun ad => [(0, .ref (ad 5)), (1, .ref (ad v1)), (2, .int v2)]) (fun ad => []) σ (cg_qv Q)
def L_X6_findMeans_63 (v1 : Nat) (v2 : Int32) (σ : cg_S) (Q : cg_S → Prop) : Prop := cg_L cg_WC RX6 cX6_findMeans 3 none (cg_R 4) 63 (fun ad => [(0, .ref (ad 5)), (1, .ref (ad v1)), (2, .int v2)]) (fun ad => []) σ (cg_qv Q)
set_option maxRecDepth 100000 in
set_option maxHeartbeats 4000000 in
theorem v_X6_findMeans_63 {v1 : Nat} {v2 : Int32} {σ : cg_S} {Q : cg_S → Prop} (h_v1 : v1 = 19 ∨ v1 = 29 ∨ v1 = 30)
    (h : ((σ.1 1 0) ≤ v2 → M_X6_spreadMeans v1 σ (fun s2 => Q s2)) ∧ (¬ (σ.1 1 0) ≤ v2 → M_X6_isReturn v2 σ (fun r4 s5 => (r4 = 0 → L_X6_findMeans_63 v1 (v2 + 1) s5 Q) ∧ (¬ r4 = 0 → vp_in v2 7 ∧ M_X2_moveOf v2 (s5.1 v1 v2.toNatClampNeg) s5 (fun r8 s9 => M_X6_findMean v2 r8 s9 (fun s12 => L_X6_findMeans_63 v1 (v2 + 1) s12 Q)))))) : L_X6_findMeans_63 v1 v2 σ Q := by
  intro p l e s m args below meth c D cy ad hC
  refine ga_iload_n hC dX6_findMeans_63 2 rfl rfl ?_
  refine ga_aload_n hC dX6_findMeans_64 0 rfl rfl ?_
  refine gC_5_0 hC q_2_21 dX6_findMeans_65 ?_
  refine gC_1_0 hC q_1_49 dX6_findMeans_68 ?_
  refine ga_icmp_ge (tgt := 100) hC dX6_findMeans_71 (by decide) (fun hc => ?_) (fun hc => ?_)
  · have h := h.1 hc
    refine ga_aload_n hC dX6_findMeans_100 0 rfl rfl ?_
    refine ga_aload_n hC dX6_findMeans_101 1 rfl rfl ?_
    refine ga_callV (As := [.ref (ad v1)]) (st := []) (k := 5) (n := 1) hC h q_5_29 q_5_30 q_5_31 q_1_7 q_5_32 rfl rfl rfl (by decide +kernel) ⟨Nat.le_of_ble_eq_true rfl, Nat.le_of_ble_eq_true rfl⟩ ⟨Nat.le_of_ble_eq_true rfl, Nat.le_of_ble_eq_true rfl⟩ rfl rfl rfl (by decide) rfl (Nat.le_of_ble_eq_true rfl) dX6_findMeans_102 (fun v τ hq => ?_)
    obtain ⟨rfl, h⟩ := hq
    obtain ⟨s2, es2⟩ : ∃ z, z = τ := ⟨_, rfl⟩
    rw [← es2] at h ⊢
    clear es2
    exact ga_vret hC dX6_findMeans_105 ⟨rfl, h⟩
  · have h := h.2 hc
    refine ga_aload_n hC dX6_findMeans_74 0 rfl rfl ?_
    refine ga_iload_n hC dX6_findMeans_75 2 rfl rfl ?_
    refine ga_callV (As := [.int v2]) (st := []) (k := 5) (n := 1) hC h q_5_6 q_5_7 q_5_8 q_1_7 q_5_9 rfl rfl rfl (by decide +kernel) ⟨Nat.le_of_ble_eq_true rfl, Nat.le_of_ble_eq_true rfl⟩ ⟨Nat.le_of_ble_eq_true rfl, Nat.le_of_ble_eq_true rfl⟩ rfl rfl rfl (by decide) rfl (Nat.le_of_ble_eq_true rfl) dX6_findMeans_76 (fun v τ hq => ?_)
    obtain ⟨r4, rfl, h⟩ := hq
    obtain ⟨s5, es5⟩ : ∃ z, z = τ := ⟨_, rfl⟩
    rw [← es5] at h ⊢
    clear es5
    refine ga_if_eq (tgt := 94) hC dX6_findMeans_79 (by decide) (fun hc => ?_) (fun hc => ?_)
    · have h := h.1 hc
      refine ga_iinc (v := v2 + 1) (lv' := [(2, .int (v2 + 1)), (0, .ref (ad 5)), (1, .ref (ad v1))]) hC dX6_findMeans_94 2 rfl rfl (by decide) rfl ?_
      refine ga_goto (tgt := 63) hC dX6_findMeans_97 (by decide) ?_
      refine ga_locals [1, 2, 0] rfl ?_
      exact h p l e s m args below meth c D cy ad hC
    · have h := h.2 hc
      refine ga_aload_n hC dX6_findMeans_82 0 rfl rfl ?_
      refine ga_iload_n hC dX6_findMeans_83 2 rfl rfl ?_
      refine ga_iload_n hC dX6_findMeans_84 2 rfl rfl ?_
      refine ga_aload_n hC dX6_findMeans_85 1 rfl rfl ?_
      refine ga_iload_n hC dX6_findMeans_86 2 rfl rfl ?_
      obtain ⟨h7, h⟩ := h
      refine ga_iald hC (aC_p h_v1) (show _ < 88 by have := h_v1; omega) h7 dX6_findMeans_87 ?_
      refine ga_callS (As := [.int v2, .int (s5.1 v1 v2.toNatClampNeg)]) (st := [.int v2, .ref (ad 5)]) (n := 2) hC h q_5_15 q_2_169 q_1_2 q_2_170 rfl rfl rfl (by decide +kernel) ⟨Nat.le_of_ble_eq_true rfl, Nat.le_of_ble_eq_true rfl⟩ ⟨Nat.le_of_ble_eq_true rfl, Nat.le_of_ble_eq_true rfl⟩ rfl rfl (Nat.le_of_ble_eq_true rfl) dX6_findMeans_88 (fun v τ hq => ?_)
      obtain ⟨r8, rfl, h⟩ := hq
      obtain ⟨s9, es9⟩ : ∃ z, z = τ := ⟨_, rfl⟩
      rw [← es9] at h ⊢
      clear es9
      refine ga_callV (As := [.int v2, .int r8]) (st := []) (k := 5) (n := 2) hC h q_5_21 q_5_22 q_5_23 q_1_7 q_5_24 rfl rfl rfl (by decide +kernel) ⟨Nat.le_of_ble_eq_true rfl, Nat.le_of_ble_eq_true rfl⟩ ⟨Nat.le_of_ble_eq_true rfl, Nat.le_of_ble_eq_true rfl⟩ rfl rfl rfl (by decide) rfl (Nat.le_of_ble_eq_true rfl) dX6_findMeans_91 (fun v τ hq => ?_)
      obtain ⟨rfl, h⟩ := hq
      obtain ⟨s12, es12⟩ : ∃ z, z = τ := ⟨_, rfl⟩
      rw [← es12] at h ⊢
      clear es12
      refine ga_iinc (v := v2 + 1) (lv' := [(2, .int (v2 + 1)), (0, .ref (ad 5)), (1, .ref (ad v1))]) hC dX6_findMeans_94 2 rfl rfl (by decide) rfl ?_
      refine ga_goto (tgt := 63) hC dX6_findMeans_97 (by decide) ?_
      refine ga_locals [1, 2, 0] rfl ?_
      exact h p l e s m args below meth c D cy ad hC
set_option maxRecDepth 100000 in
set_option maxHeartbeats 4000000 in
theorem v_X6_findMeans_20 {v1 : Nat} {v2 : Int32} {σ : cg_S} {Q : cg_S → Prop} (h_v1 : v1 = 19 ∨ v1 = 29 ∨ v1 = 30)
    (h : ((σ.1 1 0) ≤ v2 → M_X6_solveReturns v1 0 σ (fun s2 => L_X6_findMeans_63 v1 0 s2 Q)) ∧ (¬ (σ.1 1 0) ≤ v2 → vp_in v2 7 ∧ vp_in v2 7 ∧ ∀ s6 : cg_S, s6 = cg_l σ 59 v2.toNatClampNeg (σ.2.1 58 v2.toNatClampNeg) → L_X6_findMeans_20 v1 (v2 + 1) s6 Q)) : L_X6_findMeans_20 v1 v2 σ Q := by
  intro p l e s m args below meth c D cy ad hC
  refine ga_iload_n hC dX6_findMeans_20 2 rfl rfl ?_
  refine ga_aload_n hC dX6_findMeans_21 0 rfl rfl ?_
  refine gC_5_0 hC q_2_21 dX6_findMeans_22 ?_
  refine gC_1_0 hC q_1_49 dX6_findMeans_25 ?_
  refine ga_icmp_ge (tgt := 55) hC dX6_findMeans_28 (by decide) (fun hc => ?_) (fun hc => ?_)
  · have h := h.1 hc
    refine ga_aload_n hC dX6_findMeans_55 0 rfl rfl ?_
    refine ga_aload_n hC dX6_findMeans_56 1 rfl rfl ?_
    refine ga_iconst (v := 0) hC dX6_findMeans_57 (by decide) ?_
    refine ga_callV (As := [.ref (ad v1), .int 0]) (st := []) (k := 5) (n := 2) hC h q_5_2 q_5_3 q_5_4 q_1_7 q_5_5 rfl rfl rfl (by decide +kernel) ⟨Nat.le_of_ble_eq_true rfl, Nat.le_of_ble_eq_true rfl⟩ ⟨Nat.le_of_ble_eq_true rfl, Nat.le_of_ble_eq_true rfl⟩ rfl rfl rfl (by decide) rfl (Nat.le_of_ble_eq_true rfl) dX6_findMeans_58 (fun v τ hq => ?_)
    obtain ⟨rfl, h⟩ := hq
    obtain ⟨s2, es2⟩ : ∃ z, z = τ := ⟨_, rfl⟩
    rw [← es2] at h ⊢
    clear es2
    refine ga_iconst (v := 0) hC dX6_findMeans_61 (by decide) ?_
    refine ga_istore_n (lv' := [(2, .int 0), (0, .ref (ad 5)), (1, .ref (ad v1))]) hC dX6_findMeans_62 rfl (by decide) rfl ?_
    refine ga_locals [1, 2, 0] rfl ?_
    exact h p l e s m args below meth c D cy ad hC
  · have h := h.2 hc
    refine ga_aload_n hC dX6_findMeans_31 0 rfl rfl ?_
    refine gC_5_4 hC q_2_25 dX6_findMeans_32 ?_
    refine ga_iload_n hC dX6_findMeans_35 2 rfl rfl ?_
    refine ga_aload_n hC dX6_findMeans_36 0 rfl rfl ?_
    refine gC_5_2 hC q_2_23 dX6_findMeans_37 ?_
    refine gC_3_1 hC q_1_205 dX6_findMeans_40 ?_
    refine gC_4_3 hC q_1_184 dX6_findMeans_43 ?_
    refine ga_iload_n hC dX6_findMeans_46 2 rfl rfl ?_
    obtain ⟨h4, h⟩ := h
    refine ga_lald hC aC_58 (by decide) h4 dX6_findMeans_47 ?_
    obtain ⟨h5, h⟩ := h
    refine ga_last hC aC_59 (by decide) h5 dX6_findMeans_48 ?_
    refine ga_sig (σ := cg_l σ 59 v2.toNatClampNeg (σ.2.1 58 v2.toNatClampNeg)) (fun s6 es6 => ?_)
    have h := h s6 es6
    refine ga_iinc (v := v2 + 1) (lv' := [(2, .int (v2 + 1)), (0, .ref (ad 5)), (1, .ref (ad v1))]) hC dX6_findMeans_49 2 rfl rfl (by decide) rfl ?_
    refine ga_goto (tgt := 20) hC dX6_findMeans_52 (by decide) ?_
    refine ga_locals [1, 2, 0] rfl ?_
    exact h p l e s m args below meth c D cy ad hC
set_option maxRecDepth 100000 in
set_option maxHeartbeats 4000000 in
theorem v_X6_findMeans {v1 : Nat} {σ : cg_S} {Q : cg_S → Prop} (h_v1 : v1 = 19 ∨ v1 = 29 ∨ v1 = 30)
    (h : M_X6_findClosed v1 σ (fun s2 => M_X0_arrange s2 (fun s5 => M_X6_solveReturns v1 1 s5 (fun s8 => L_X6_findMeans_20 v1 0 s8 Q)))) : M_X6_findMeans v1 σ Q := by
  refine cg_entry (lv := fun ad => [(0, .ref (ad 5)), (1, .ref (ad v1))]) (by decide +kernel) (fun _ => rfl) (fun _ => Nat.le_of_ble_eq_true rfl) ?_
  intro p l e s m args below meth c D cy ad hC
  refine ga_aload_n hC dX6_findMeans_0 0 rfl rfl ?_
  refine ga_aload_n hC dX6_findMeans_1 1 rfl rfl ?_
  refine ga_callV (As := [.ref (ad v1)]) (st := []) (k := 5) (n := 1) hC h q_4_221 q_4_222 q_4_223 q_1_7 q_4_224 rfl rfl rfl (by decide +kernel) ⟨Nat.le_of_ble_eq_true rfl, Nat.le_of_ble_eq_true rfl⟩ ⟨Nat.le_of_ble_eq_true rfl, Nat.le_of_ble_eq_true rfl⟩ rfl rfl rfl (by decide) rfl (Nat.le_of_ble_eq_true rfl) dX6_findMeans_2 (fun v τ hq => ?_)
  obtain ⟨rfl, h⟩ := hq
  obtain ⟨s2, es2⟩ : ∃ z, z = τ := ⟨_, rfl⟩
  rw [← es2] at h ⊢
  clear es2
  refine ga_aload_n hC dX6_findMeans_5 0 rfl rfl ?_
  refine gC_5_2 hC q_2_23 dX6_findMeans_6 ?_
  refine ga_callV (As := []) (st := []) (k := 3) (n := 0) hC h q_5_1 q_2_220 q_2_221 q_1_4 q_2_222 rfl rfl rfl (by decide +kernel) ⟨Nat.le_of_ble_eq_true rfl, Nat.le_of_ble_eq_true rfl⟩ ⟨Nat.le_of_ble_eq_true rfl, Nat.le_of_ble_eq_true rfl⟩ rfl rfl rfl (by decide) rfl (Nat.le_of_ble_eq_true rfl) dX6_findMeans_9 (fun v τ hq => ?_)
  obtain ⟨rfl, h⟩ := hq
  obtain ⟨s5, es5⟩ : ∃ z, z = τ := ⟨_, rfl⟩
  rw [← es5] at h ⊢
  clear es5
  refine ga_aload_n hC dX6_findMeans_12 0 rfl rfl ?_
  refine ga_aload_n hC dX6_findMeans_13 1 rfl rfl ?_
  refine ga_iconst (v := 1) hC dX6_findMeans_14 (by decide) ?_
  refine ga_callV (As := [.ref (ad v1), .int 1]) (st := []) (k := 5) (n := 2) hC h q_5_2 q_5_3 q_5_4 q_1_7 q_5_5 rfl rfl rfl (by decide +kernel) ⟨Nat.le_of_ble_eq_true rfl, Nat.le_of_ble_eq_true rfl⟩ ⟨Nat.le_of_ble_eq_true rfl, Nat.le_of_ble_eq_true rfl⟩ rfl rfl rfl (by decide) rfl (Nat.le_of_ble_eq_true rfl) dX6_findMeans_15 (fun v τ hq => ?_)
  obtain ⟨rfl, h⟩ := hq
  obtain ⟨s8, es8⟩ : ∃ z, z = τ := ⟨_, rfl⟩
  rw [← es8] at h ⊢
  clear es8
  refine ga_iconst (v := 0) hC dX6_findMeans_18 (by decide) ?_
  refine ga_istore_n (lv' := [(2, .int 0), (0, .ref (ad 5)), (1, .ref (ad v1))]) hC dX6_findMeans_19 rfl (by decide) rfl ?_
  refine ga_locals [1, 2, 0] rfl ?_
  exact h p l e s m args below meth c D cy ad hC
def M_X7_advance (σ : cg_S) (Q : Int32 → cg_S → Prop) : Prop := cg_M cg_WC yX7_advance cX7_advance 3 (some .int) (cg_R 0) (fun ad => [.ref (ad 7)]) σ (cg_qi Q)
theorem M_X7_advance.mono {σ : cg_S} {Q Q2 : Int32 → cg_S → Prop} (h : M_X7_advance σ Q) (hq : ∀ r τ, Q r τ → Q2 r τ) : M_X7_advance σ Q2 := cg_M.mono h (fun ad v τ ⟨r, e, q⟩ => ⟨r, e, hq r τ q⟩)
def L_X7_advance_13 (v1 : Int32) (σ : cg_S) (Q : Int32 → cg_S → Prop) : Prop := cg_L cg_WC RX7 cX7_advance 3 (some .int) (cg_R 0) 13 (fun ad => [(0, .ref (ad 7)), (1, .int v1)]) (fun ad => []) σ (cg_qi Q)
set_option maxRecDepth 100000 in
set_option maxHeartbeats 4000000 in
theorem v_X7_advance_13 {v1 : Int32} {σ : cg_S} {Q : Int32 → cg_S → Prop}
    (h : (v1 < 0 → Q (-1) σ) ∧ (¬ v1 < 0 → vp_in v1 7 ∧ ∀ x2 : Int32, x2 = σ.1 27 v1.toNatClampNeg → vp_in x2 7 ∧ vp_in x2 7 ∧ ∀ s5 : cg_S, s5 = cg_i σ 30 x2.toNatClampNeg ((σ.1 30 x2.toNatClampNeg) + 1) → vp_in x2 7 ∧ vp_in x2 7 ∧ ((s5.1 21 x2.toNatClampNeg) ≤ (s5.1 30 x2.toNatClampNeg) → vp_in x2 7 ∧ ∀ s9 : cg_S, s9 = cg_i s5 30 x2.toNatClampNeg 0 → L_X7_advance_13 (v1 + (-1)) s9 Q) ∧ (¬ (s5.1 21 x2.toNatClampNeg) ≤ (s5.1 30 x2.toNatClampNeg) → Q v1 s5))) : L_X7_advance_13 v1 σ Q := by
  intro p l e s m args below meth c D cy ad hC
  refine ga_iload_n hC dX7_advance_13 1 rfl rfl ?_
  refine ga_if_lt (tgt := 73) hC dX7_advance_14 (by decide) (fun hc => ?_) (fun hc => ?_)
  · have h := h.1 hc
    refine ga_iconst (v := (-1)) hC dX7_advance_73 (by decide) ?_
    exact ga_iret hC dX7_advance_74 ⟨_, rfl, h⟩
  · have h := h.2 hc
    refine ga_aload_n hC dX7_advance_17 0 rfl rfl ?_
    refine gC_7_1 hC q_2_50 dX7_advance_18 ?_
    refine gC_3_1 hC q_1_204 dX7_advance_21 ?_
    refine gC_4_1 hC q_1_178 dX7_advance_24 ?_
    refine ga_iload_n hC dX7_advance_27 1 rfl rfl ?_
    obtain ⟨h1, h⟩ := h
    refine ga_iald hC aC_27 (by decide) h1 dX7_advance_28 ?_
    refine ga_topi (fun x2 ex2 => ?_)
    have h := h x2 ex2
    refine ga_istore_n (lv' := [(2, .int x2), (0, .ref (ad 7)), (1, .int v1)]) hC dX7_advance_29 rfl (by decide) rfl ?_
    refine ga_aload_n hC dX7_advance_30 1 rfl rfl ?_
    refine gC_7_2 hC q_2_51 dX7_advance_31 ?_
    refine ga_iload_n hC dX7_advance_34 0 rfl rfl ?_
    refine ga_dup2_11 hC dX7_advance_35 rfl rfl ?_
    obtain ⟨h3, h⟩ := h
    refine ga_iald hC aC_30 (by decide) h3 dX7_advance_36 ?_
    refine ga_iconst (v := 1) hC dX7_advance_37 (by decide) ?_
    refine ga_iadd hC dX7_advance_38 ?_
    obtain ⟨h4, h⟩ := h
    refine ga_iast hC aC_30 (by decide) h4 dX7_advance_39 ?_
    refine ga_sig (σ := cg_i σ 30 x2.toNatClampNeg ((σ.1 30 x2.toNatClampNeg) + 1)) (fun s5 es5 => ?_)
    have h := h s5 es5
    refine ga_aload_n hC dX7_advance_40 1 rfl rfl ?_
    refine gC_7_2 hC q_2_51 dX7_advance_41 ?_
    refine ga_iload_n hC dX7_advance_44 0 rfl rfl ?_
    obtain ⟨h6, h⟩ := h
    refine ga_iald hC aC_30 (by decide) h6 dX7_advance_45 ?_
    refine ga_aload_n hC dX7_advance_46 1 rfl rfl ?_
    refine gC_7_0 hC q_2_49 dX7_advance_47 ?_
    refine gC_1_9 hC q_1_82 dX7_advance_50 ?_
    refine ga_iload_n hC dX7_advance_53 0 rfl rfl ?_
    obtain ⟨h7, h⟩ := h
    refine ga_iald hC aC_21 (by decide) h7 dX7_advance_54 ?_
    refine ga_icmp_ge (tgt := 60) hC dX7_advance_55 (by decide) (fun hc => ?_) (fun hc => ?_)
    · have h := h.1 hc
      refine ga_aload_n hC dX7_advance_60 1 rfl rfl ?_
      refine gC_7_2 hC q_2_51 dX7_advance_61 ?_
      refine ga_iload_n hC dX7_advance_64 0 rfl rfl ?_
      refine ga_iconst (v := 0) hC dX7_advance_65 (by decide) ?_
      obtain ⟨h8, h⟩ := h
      refine ga_iast hC aC_30 (by decide) h8 dX7_advance_66 ?_
      refine ga_sig (σ := cg_i s5 30 x2.toNatClampNeg 0) (fun s9 es9 => ?_)
      have h := h s9 es9
      refine ga_iinc (v := v1 + (-1)) (lv' := [(1, .int (v1 + (-1))), (2, .int x2), (0, .ref (ad 7))]) hC dX7_advance_67 2 rfl rfl (by decide) rfl ?_
      refine ga_goto (tgt := 13) hC dX7_advance_70 (by decide) ?_
      refine ga_locals [2, 0] rfl ?_
      exact h p l e s m args below meth c D cy ad hC
    · have h := h.2 hc
      refine ga_iload_n hC dX7_advance_58 2 rfl rfl ?_
      exact ga_iret hC dX7_advance_59 ⟨_, rfl, h⟩
set_option maxRecDepth 100000 in
set_option maxHeartbeats 4000000 in
theorem v_X7_advance {σ : cg_S} {Q : Int32 → cg_S → Prop}
    (h : ∀ x1 : Int32, x1 = (σ.1 4 0) - 1 → L_X7_advance_13 x1 σ Q) : M_X7_advance σ Q := by
  refine cg_entry (lv := fun ad => [(0, .ref (ad 7))]) (by decide +kernel) (fun _ => rfl) (fun _ => Nat.le_of_ble_eq_true rfl) ?_
  intro p l e s m args below meth c D cy ad hC
  refine ga_aload_n hC dX7_advance_0 0 rfl rfl ?_
  refine gC_7_1 hC q_2_50 dX7_advance_1 ?_
  refine gC_3_1 hC q_1_204 dX7_advance_4 ?_
  refine gC_4_0 hC q_1_175 dX7_advance_7 ?_
  refine ga_iconst (v := 1) hC dX7_advance_10 (by decide) ?_
  refine ga_isub hC dX7_advance_11 ?_
  refine ga_topi (fun x1 ex1 => ?_)
  have h := h x1 ex1
  refine ga_istore_n (lv' := [(1, .int x1), (0, .ref (ad 7))]) hC dX7_advance_12 rfl (by decide) rfl ?_
  refine ga_locals [1, 0] rfl ?_
  exact h p l e s m args below meth c D cy ad hC
def M_X7_takeLeast (v1 : Int32) (σ : cg_S) (Q : cg_S → Prop) : Prop := cg_M cg_WC yX7_takeLeast cX7_takeLeast 7 none (cg_R 2) (fun ad => [.ref (ad 7), .int v1]) σ (cg_qv Q)
theorem M_X7_takeLeast.mono {v1 : Int32} {σ : cg_S} {Q Q2 : cg_S → Prop} (h : M_X7_takeLeast v1 σ Q) (hq : ∀ τ, Q τ → Q2 τ) : M_X7_takeLeast v1 σ Q2 := cg_M.mono h (fun ad v τ ⟨e, q⟩ => ⟨e, hq τ q⟩)
def L_X7_takeLeast_14 (v1 : Int32) (v2 : Int64) (v4 : Int32) (σ : cg_S) (Q : cg_S → Prop) : Prop := cg_L cg_WC RX7 cX7_takeLeast 7 none (cg_R 2) 14 (fun ad => [(0, .ref (ad 7)), (1, .int v1), (2, .long v2), (4, .int v4)]) (fun ad => []) σ (cg_qv Q)
def L_X7_takeLeast_74 (v1 : Int32) (v2 : Int64) (v4 : Int32) (v5 : Int64) (σ : cg_S) (Q : cg_S → Prop) : Prop := cg_L cg_WC RX7 cX7_takeLeast 7 none (cg_R 2) 74 (fun ad => [(0, .ref (ad 7)), (1, .int v1), (2, .long v2), (4, .int v4), (5, .long v5)]) (fun ad => []) σ (cg_qv Q)
set_option maxRecDepth 100000 in
set_option maxHeartbeats 4000000 in
theorem v_X7_takeLeast_74 {v1 : Int32} {v2 : Int64} {v4 : Int32} {v5 : Int64} {σ : cg_S} {Q : cg_S → Prop}
    (h : M_X10_put 13 v4 v5 v2 σ (fun s2 => L_X7_takeLeast_14 v1 v2 (v4 + 1) s2 Q)) : L_X7_takeLeast_74 v1 v2 v4 v5 σ Q := by
  intro p l e s m args below meth c D cy ad hC
  refine ga_aload_n hC dX7_takeLeast_74 0 rfl rfl ?_
  refine gC_7_3 hC q_2_52 dX7_takeLeast_75 ?_
  refine ga_iload hC dX7_takeLeast_78 3 rfl ?_
  refine ga_lload hC dX7_takeLeast_80 4 rfl ?_
  refine ga_lload_n hC dX7_takeLeast_82 2 rfl rfl ?_
  refine ga_callV (As := [.int v4, .long v5, .long v2]) (st := []) (k := 13) (n := 3) hC h q_3_85 q_3_61 q_3_62 q_1_8 q_3_63 rfl rfl rfl (by decide +kernel) ⟨Nat.le_of_ble_eq_true rfl, Nat.le_of_ble_eq_true rfl⟩ ⟨Nat.le_of_ble_eq_true rfl, Nat.le_of_ble_eq_true rfl⟩ rfl rfl (oC_v (show 11 ≤ 13 ∧ 13 ≤ 18 by decide)) (show _ < 88 by have := (show 11 ≤ 13 ∧ 13 ≤ 18 by decide); omega) rfl (Nat.le_of_ble_eq_true rfl) dX7_takeLeast_83 (fun v τ hq => ?_)
  obtain ⟨rfl, h⟩ := hq
  obtain ⟨s2, es2⟩ : ∃ z, z = τ := ⟨_, rfl⟩
  rw [← es2] at h ⊢
  clear es2
  refine ga_iinc (v := v4 + 1) (lv' := [(4, .int (v4 + 1)), (0, .ref (ad 7)), (1, .int v1), (2, .long v2), (5, .long v5)]) hC dX7_takeLeast_86 3 rfl rfl (by decide) rfl ?_
  refine ga_goto (tgt := 14) hC dX7_takeLeast_89 (by decide) ?_
  refine ga_locals [1, 2, 3, 0] rfl ?_
  exact h p l e s m args below meth c D cy ad hC
set_option maxRecDepth 100000 in
set_option maxHeartbeats 4000000 in
theorem v_X7_takeLeast_14 {v1 : Int32} {v2 : Int64} {v4 : Int32} {σ : cg_S} {Q : cg_S → Prop}
    (h : ((σ.1 1 0) ≤ v4 → Q σ) ∧ (¬ (σ.1 1 0) ≤ v4 → vp_in v4 7 ∧ ∀ x2 : Int64, x2 = σ.2.1 58 v4.toNatClampNeg → (¬ v1 = 0 → L_X7_takeLeast_74 v1 v2 v4 x2 σ Q) ∧ (v1 = 0 → vp_in v4 7 ∧ vp_in v4 7 ∧ M_X11_compareFractions x2 v2 (σ.2.1 (13 + 56) v4.toNatClampNeg) (σ.2.1 (13 + 64) v4.toNatClampNeg) σ (fun r5 s6 => (0 ≤ r5 → L_X7_takeLeast_14 v1 v2 (v4 + 1) s6 Q) ∧ (¬ 0 ≤ r5 → L_X7_takeLeast_74 v1 v2 v4 x2 s6 Q))))) : L_X7_takeLeast_14 v1 v2 v4 σ Q := by
  intro p l e s m args below meth c D cy ad hC
  refine ga_iload hC dX7_takeLeast_14 3 rfl ?_
  refine ga_aload_n hC dX7_takeLeast_16 0 rfl rfl ?_
  refine gC_7_0 hC q_2_49 dX7_takeLeast_17 ?_
  refine gC_1_0 hC q_1_52 dX7_takeLeast_20 ?_
  refine ga_icmp_ge (tgt := 92) hC dX7_takeLeast_23 (by decide) (fun hc => ?_) (fun hc => ?_)
  · have h := h.1 hc
    exact ga_vret hC dX7_takeLeast_92 ⟨rfl, h⟩
  · have h := h.2 hc
    refine ga_aload_n hC dX7_takeLeast_26 0 rfl rfl ?_
    refine gC_7_1 hC q_2_50 dX7_takeLeast_27 ?_
    refine gC_3_1 hC q_1_204 dX7_takeLeast_30 ?_
    refine gC_4_3 hC q_1_183 dX7_takeLeast_33 ?_
    refine ga_iload hC dX7_takeLeast_36 3 rfl ?_
    obtain ⟨h1, h⟩ := h
    refine ga_lald hC aC_58 (by decide) h1 dX7_takeLeast_38 ?_
    refine ga_topl (fun x2 ex2 => ?_)
    have h := h x2 ex2
    refine ga_lstore (lv' := [(5, .long x2), (0, .ref (ad 7)), (1, .int v1), (2, .long v2), (4, .int v4)]) hC dX7_takeLeast_39 (by decide) rfl ?_
    refine ga_iload_n hC dX7_takeLeast_41 2 rfl rfl ?_
    refine ga_if_ne (tgt := 74) hC dX7_takeLeast_42 (by decide) (fun hc => ?_) (fun hc => ?_)
    · have h := h.1 hc
      refine ga_locals [1, 2, 3, 4, 0] rfl ?_
      exact h p l e s m args below meth c D cy ad hC
    · have h := h.2 hc
      refine ga_lload hC dX7_takeLeast_45 0 rfl ?_
      refine ga_lload_n hC dX7_takeLeast_47 3 rfl rfl ?_
      refine ga_aload_n hC dX7_takeLeast_48 1 rfl rfl ?_
      refine gC_7_3 hC q_2_52 dX7_takeLeast_49 ?_
      refine gC_v_0 (show 11 ≤ 13 ∧ 13 ≤ 18 by decide) hC q_2_8 dX7_takeLeast_52 ?_
      refine ga_iload hC dX7_takeLeast_55 4 rfl ?_
      obtain ⟨h3, h⟩ := h
      refine ga_lald hC (aC_vu (show 11 ≤ 13 ∧ 13 ≤ 18 by decide)) (show _ + 56 < 88 by have := (show 11 ≤ 13 ∧ 13 ≤ 18 by decide); omega) h3 dX7_takeLeast_57 ?_
      refine ga_aload_n hC dX7_takeLeast_58 1 rfl rfl ?_
      refine gC_7_3 hC q_2_52 dX7_takeLeast_59 ?_
      refine gC_v_1 (show 11 ≤ 13 ∧ 13 ≤ 18 by decide) hC q_2_13 dX7_takeLeast_62 ?_
      refine ga_iload hC dX7_takeLeast_65 4 rfl ?_
      obtain ⟨h4, h⟩ := h
      refine ga_lald hC (aC_vd (show 11 ≤ 13 ∧ 13 ≤ 18 by decide)) (show _ + 64 < 88 by have := (show 11 ≤ 13 ∧ 13 ≤ 18 by decide); omega) h4 dX7_takeLeast_67 ?_
      refine ga_callSN (As := [.long x2, .long v2, .long (σ.2.1 (13 + 56) v4.toNatClampNeg), .long (σ.2.1 (13 + 64) v4.toNatClampNeg)]) (st := []) (n := 4) hC h (by decide +kernel) q_3_79 q_1_1 q_3_80 rfl rfl rfl (by decide +kernel) ⟨Nat.le_of_ble_eq_true rfl, Nat.le_of_ble_eq_true rfl⟩ ⟨Nat.le_of_ble_eq_true rfl, Nat.le_of_ble_eq_true rfl⟩ rfl rfl (Nat.le_of_ble_eq_true rfl) dX7_takeLeast_68 (fun v τ hq => ?_)
      obtain ⟨r5, rfl, h⟩ := hq
      obtain ⟨s6, es6⟩ : ∃ z, z = τ := ⟨_, rfl⟩
      rw [← es6] at h ⊢
      clear es6
      refine ga_if_ge (tgt := 86) hC dX7_takeLeast_71 (by decide) (fun hc => ?_) (fun hc => ?_)
      · have h := h.1 hc
        refine ga_iinc (v := v4 + 1) (lv' := [(4, .int (v4 + 1)), (5, .long x2), (0, .ref (ad 7)), (1, .int v1), (2, .long v2)]) hC dX7_takeLeast_86 4 rfl rfl (by decide) rfl ?_
        refine ga_goto (tgt := 14) hC dX7_takeLeast_89 (by decide) ?_
        refine ga_locals [2, 3, 4, 0] rfl ?_
        exact h p l e s m args below meth c D cy ad hC
      · have h := h.2 hc
        refine ga_locals [1, 2, 3, 4, 0] rfl ?_
        exact h p l e s m args below meth c D cy ad hC
set_option maxRecDepth 100000 in
set_option maxHeartbeats 4000000 in
theorem v_X7_takeLeast {v1 : Int32} {σ : cg_S} {Q : cg_S → Prop}
    (h : ∀ x1 : Int64, x1 = σ.2.1 4 4 → L_X7_takeLeast_14 v1 x1 0 σ Q) : M_X7_takeLeast v1 σ Q := by
  refine cg_entry (lv := fun ad => [(0, .ref (ad 7)), (1, .int v1)]) (by decide +kernel) (fun _ => rfl) (fun _ => Nat.le_of_ble_eq_true rfl) ?_
  intro p l e s m args below meth c D cy ad hC
  refine ga_aload_n hC dX7_takeLeast_0 0 rfl rfl ?_
  refine gC_7_1 hC q_2_50 dX7_takeLeast_1 ?_
  refine gC_3_1 hC q_1_204 dX7_takeLeast_4 ?_
  refine gC_4_4 hC q_1_187 dX7_takeLeast_7 ?_
  refine ga_topl (fun x1 ex1 => ?_)
  have h := h x1 ex1
  refine ga_lstore_n (lv' := [(2, .long x1), (0, .ref (ad 7)), (1, .int v1)]) hC dX7_takeLeast_10 rfl (by decide) rfl ?_
  refine ga_iconst (v := 0) hC dX7_takeLeast_11 (by decide) ?_
  refine ga_istore (lv' := [(4, .int 0), (2, .long x1), (0, .ref (ad 7)), (1, .int v1)]) hC dX7_takeLeast_12 (by decide) rfl ?_
  refine ga_locals [2, 3, 1, 0] rfl ?_
  exact h p l e s m args below meth c D cy ad hC
def M_X7_takeGreatest (v1 : Nat) (v2 : Int32) (σ : cg_S) (Q : cg_S → Prop) : Prop := cg_M cg_WC yX7_takeGreatest cX7_takeGreatest 4 none (cg_R 2) (fun ad => [.ref (ad 7), .ref (ad v1), .int v2]) σ (cg_qv Q)
theorem M_X7_takeGreatest.mono {v1 : Nat} {v2 : Int32} {σ : cg_S} {Q Q2 : cg_S → Prop} (h : M_X7_takeGreatest v1 v2 σ Q) (hq : ∀ τ, Q τ → Q2 τ) : M_X7_takeGreatest v1 v2 σ Q2 := cg_M.mono h (fun ad v τ ⟨e, q⟩ => ⟨e, hq τ q⟩)
def L_X7_takeGreatest_2 (v1 : Nat) (v2 : Int32) (v3 : Int32) (σ : cg_S) (Q : cg_S → Prop) : Prop := cg_L cg_WC RX7 cX7_takeGreatest 4 none (cg_R 2) 2 (fun ad => [(0, .ref (ad 7)), (1, .ref (ad v1)), (2, .int v2), (3, .int v3)]) (fun ad => []) σ (cg_qv Q)
def L_X7_takeGreatest_53 (v1 : Nat) (v2 : Int32) (v3 : Int32) (σ : cg_S) (Q : cg_S → Prop) : Prop := cg_L cg_WC RX7 cX7_takeGreatest 4 none (cg_R 2) 53 (fun ad => [(0, .ref (ad 7)), (1, .ref (ad v1)), (2, .int v2), (3, .int v3)]) (fun ad => []) σ (cg_qv Q)
set_option maxRecDepth 100000 in
set_option maxHeartbeats 4000000 in
theorem v_X7_takeGreatest_53 {v1 : Nat} {v2 : Int32} {v3 : Int32} {σ : cg_S} {Q : cg_S → Prop} (h_v1 : 11 ≤ v1 ∧ v1 ≤ 18)
    (h : vp_in v3 7 ∧ vp_in v3 7 ∧ M_X10_put v1 v3 (σ.2.1 (13 + 56) v3.toNatClampNeg) (σ.2.1 (13 + 64) v3.toNatClampNeg) σ (fun s4 => L_X7_takeGreatest_2 v1 v2 (v3 + 1) s4 Q)) : L_X7_takeGreatest_53 v1 v2 v3 σ Q := by
  intro p l e s m args below meth c D cy ad hC
  refine ga_aload_n hC dX7_takeGreatest_53 1 rfl rfl ?_
  refine ga_iload_n hC dX7_takeGreatest_54 3 rfl rfl ?_
  refine ga_aload_n hC dX7_takeGreatest_55 0 rfl rfl ?_
  refine gC_7_3 hC q_2_52 dX7_takeGreatest_56 ?_
  refine gC_v_0 (show 11 ≤ 13 ∧ 13 ≤ 18 by decide) hC q_2_8 dX7_takeGreatest_59 ?_
  refine ga_iload_n hC dX7_takeGreatest_62 3 rfl rfl ?_
  obtain ⟨h1, h⟩ := h
  refine ga_lald hC (aC_vu (show 11 ≤ 13 ∧ 13 ≤ 18 by decide)) (show _ + 56 < 88 by have := (show 11 ≤ 13 ∧ 13 ≤ 18 by decide); omega) h1 dX7_takeGreatest_63 ?_
  refine ga_aload_n hC dX7_takeGreatest_64 0 rfl rfl ?_
  refine gC_7_3 hC q_2_52 dX7_takeGreatest_65 ?_
  refine gC_v_1 (show 11 ≤ 13 ∧ 13 ≤ 18 by decide) hC q_2_13 dX7_takeGreatest_68 ?_
  refine ga_iload_n hC dX7_takeGreatest_71 3 rfl rfl ?_
  obtain ⟨h2, h⟩ := h
  refine ga_lald hC (aC_vd (show 11 ≤ 13 ∧ 13 ≤ 18 by decide)) (show _ + 64 < 88 by have := (show 11 ≤ 13 ∧ 13 ≤ 18 by decide); omega) h2 dX7_takeGreatest_72 ?_
  refine ga_callV (As := [.int v3, .long (σ.2.1 (13 + 56) v3.toNatClampNeg), .long (σ.2.1 (13 + 64) v3.toNatClampNeg)]) (st := []) (k := v1) (n := 3) hC h q_3_85 q_3_61 q_3_62 q_1_8 q_3_63 rfl rfl rfl (by decide +kernel) ⟨Nat.le_of_ble_eq_true rfl, Nat.le_of_ble_eq_true rfl⟩ ⟨Nat.le_of_ble_eq_true rfl, Nat.le_of_ble_eq_true rfl⟩ rfl rfl (oC_v h_v1) (show _ < 88 by have := h_v1; omega) rfl (Nat.le_of_ble_eq_true rfl) dX7_takeGreatest_73 (fun v τ hq => ?_)
  obtain ⟨rfl, h⟩ := hq
  obtain ⟨s4, es4⟩ : ∃ z, z = τ := ⟨_, rfl⟩
  rw [← es4] at h ⊢
  clear es4
  refine ga_iinc (v := v3 + 1) (lv' := [(3, .int (v3 + 1)), (0, .ref (ad 7)), (1, .ref (ad v1)), (2, .int v2)]) hC dX7_takeGreatest_76 3 rfl rfl (by decide) rfl ?_
  refine ga_goto (tgt := 2) hC dX7_takeGreatest_79 (by decide) ?_
  refine ga_locals [1, 2, 3, 0] rfl ?_
  exact h p l e s m args below meth c D cy ad hC
set_option maxRecDepth 100000 in
set_option maxHeartbeats 4000000 in
theorem v_X7_takeGreatest_2 {v1 : Nat} {v2 : Int32} {v3 : Int32} {σ : cg_S} {Q : cg_S → Prop} (h_v1 : 11 ≤ v1 ∧ v1 ≤ 18)
    (h : ((σ.1 1 0) ≤ v3 → Q σ) ∧ (¬ (σ.1 1 0) ≤ v3 → (¬ v2 = 0 → L_X7_takeGreatest_53 v1 v2 v3 σ Q) ∧ (v2 = 0 → vp_in v3 7 ∧ vp_in v3 7 ∧ vp_in v3 7 ∧ vp_in v3 7 ∧ M_X11_compareFractions (σ.2.1 (13 + 56) v3.toNatClampNeg) (σ.2.1 (13 + 64) v3.toNatClampNeg) (σ.2.1 (v1 + 56) v3.toNatClampNeg) (σ.2.1 (v1 + 64) v3.toNatClampNeg) σ (fun r5 s6 => (r5 ≤ 0 → L_X7_takeGreatest_2 v1 v2 (v3 + 1) s6 Q) ∧ (¬ r5 ≤ 0 → L_X7_takeGreatest_53 v1 v2 v3 s6 Q))))) : L_X7_takeGreatest_2 v1 v2 v3 σ Q := by
  intro p l e s m args below meth c D cy ad hC
  refine ga_iload_n hC dX7_takeGreatest_2 3 rfl rfl ?_
  refine ga_aload_n hC dX7_takeGreatest_3 0 rfl rfl ?_
  refine gC_7_0 hC q_2_49 dX7_takeGreatest_4 ?_
  refine gC_1_0 hC q_1_52 dX7_takeGreatest_7 ?_
  refine ga_icmp_ge (tgt := 82) hC dX7_takeGreatest_10 (by decide) (fun hc => ?_) (fun hc => ?_)
  · have h := h.1 hc
    exact ga_vret hC dX7_takeGreatest_82 ⟨rfl, h⟩
  · have h := h.2 hc
    refine ga_iload_n hC dX7_takeGreatest_13 2 rfl rfl ?_
    refine ga_if_ne (tgt := 53) hC dX7_takeGreatest_14 (by decide) (fun hc => ?_) (fun hc => ?_)
    · have h := h.1 hc
      refine ga_locals [0, 1, 2, 3] rfl ?_
      exact h p l e s m args below meth c D cy ad hC
    · have h := h.2 hc
      refine ga_aload_n hC dX7_takeGreatest_17 0 rfl rfl ?_
      refine gC_7_3 hC q_2_52 dX7_takeGreatest_18 ?_
      refine gC_v_0 (show 11 ≤ 13 ∧ 13 ≤ 18 by decide) hC q_2_8 dX7_takeGreatest_21 ?_
      refine ga_iload_n hC dX7_takeGreatest_24 3 rfl rfl ?_
      obtain ⟨h1, h⟩ := h
      refine ga_lald hC (aC_vu (show 11 ≤ 13 ∧ 13 ≤ 18 by decide)) (show _ + 56 < 88 by have := (show 11 ≤ 13 ∧ 13 ≤ 18 by decide); omega) h1 dX7_takeGreatest_25 ?_
      refine ga_aload_n hC dX7_takeGreatest_26 0 rfl rfl ?_
      refine gC_7_3 hC q_2_52 dX7_takeGreatest_27 ?_
      refine gC_v_1 (show 11 ≤ 13 ∧ 13 ≤ 18 by decide) hC q_2_13 dX7_takeGreatest_30 ?_
      refine ga_iload_n hC dX7_takeGreatest_33 3 rfl rfl ?_
      obtain ⟨h2, h⟩ := h
      refine ga_lald hC (aC_vd (show 11 ≤ 13 ∧ 13 ≤ 18 by decide)) (show _ + 64 < 88 by have := (show 11 ≤ 13 ∧ 13 ≤ 18 by decide); omega) h2 dX7_takeGreatest_34 ?_
      refine ga_aload_n hC dX7_takeGreatest_35 1 rfl rfl ?_
      refine gC_v_0 h_v1 hC q_2_8 dX7_takeGreatest_36 ?_
      refine ga_iload_n hC dX7_takeGreatest_39 3 rfl rfl ?_
      obtain ⟨h3, h⟩ := h
      refine ga_lald hC (aC_vu h_v1) (show _ + 56 < 88 by have := h_v1; omega) h3 dX7_takeGreatest_40 ?_
      refine ga_aload_n hC dX7_takeGreatest_41 1 rfl rfl ?_
      refine gC_v_1 h_v1 hC q_2_13 dX7_takeGreatest_42 ?_
      refine ga_iload_n hC dX7_takeGreatest_45 3 rfl rfl ?_
      obtain ⟨h4, h⟩ := h
      refine ga_lald hC (aC_vd h_v1) (show _ + 64 < 88 by have := h_v1; omega) h4 dX7_takeGreatest_46 ?_
      refine ga_callSN (As := [.long (σ.2.1 (13 + 56) v3.toNatClampNeg), .long (σ.2.1 (13 + 64) v3.toNatClampNeg), .long (σ.2.1 (v1 + 56) v3.toNatClampNeg), .long (σ.2.1 (v1 + 64) v3.toNatClampNeg)]) (st := []) (n := 4) hC h (by decide +kernel) q_3_79 q_1_1 q_3_80 rfl rfl rfl (by decide +kernel) ⟨Nat.le_of_ble_eq_true rfl, Nat.le_of_ble_eq_true rfl⟩ ⟨Nat.le_of_ble_eq_true rfl, Nat.le_of_ble_eq_true rfl⟩ rfl rfl (Nat.le_of_ble_eq_true rfl) dX7_takeGreatest_47 (fun v τ hq => ?_)
      obtain ⟨r5, rfl, h⟩ := hq
      obtain ⟨s6, es6⟩ : ∃ z, z = τ := ⟨_, rfl⟩
      rw [← es6] at h ⊢
      clear es6
      refine ga_if_le (tgt := 76) hC dX7_takeGreatest_50 (by decide) (fun hc => ?_) (fun hc => ?_)
      · have h := h.1 hc
        refine ga_iinc (v := v3 + 1) (lv' := [(3, .int (v3 + 1)), (0, .ref (ad 7)), (1, .ref (ad v1)), (2, .int v2)]) hC dX7_takeGreatest_76 3 rfl rfl (by decide) rfl ?_
        refine ga_goto (tgt := 2) hC dX7_takeGreatest_79 (by decide) ?_
        refine ga_locals [1, 2, 3, 0] rfl ?_
        exact h p l e s m args below meth c D cy ad hC
      · have h := h.2 hc
        refine ga_locals [0, 1, 2, 3] rfl ?_
        exact h p l e s m args below meth c D cy ad hC
set_option maxRecDepth 100000 in
set_option maxHeartbeats 4000000 in
theorem v_X7_takeGreatest {v1 : Nat} {v2 : Int32} {σ : cg_S} {Q : cg_S → Prop} (h_v1 : 11 ≤ v1 ∧ v1 ≤ 18)
    (h : L_X7_takeGreatest_2 v1 v2 0 σ Q) : M_X7_takeGreatest v1 v2 σ Q := by
  refine cg_entry (lv := fun ad => [(0, .ref (ad 7)), (1, .ref (ad v1)), (2, .int v2)]) (by decide +kernel) (fun _ => rfl) (fun _ => Nat.le_of_ble_eq_true rfl) ?_
  intro p l e s m args below meth c D cy ad hC
  refine ga_iconst (v := 0) hC dX7_takeGreatest_0 (by decide) ?_
  refine ga_istore_n (lv' := [(3, .int 0), (0, .ref (ad 7)), (1, .ref (ad v1)), (2, .int v2)]) hC dX7_takeGreatest_1 rfl (by decide) rfl ?_
  refine ga_locals [1, 2, 3, 0] rfl ?_
  exact h p l e s m args below meth c D cy ad hC
def M_X7_sweepAll (v1 : Int32) (v2 : Nat) (σ : cg_S) (Q : cg_S → Prop) : Prop := cg_M cg_WC yX7_sweepAll cX7_sweepAll 7 none (cg_R 3) (fun ad => [.ref (ad 7), .int v1, .ref (ad v2)]) σ (cg_qv Q)
theorem M_X7_sweepAll.mono {v1 : Int32} {v2 : Nat} {σ : cg_S} {Q Q2 : cg_S → Prop} (h : M_X7_sweepAll v1 v2 σ Q) (hq : ∀ τ, Q τ → Q2 τ) : M_X7_sweepAll v1 v2 σ Q2 := cg_M.mono h (fun ad v τ ⟨e, q⟩ => ⟨e, hq τ q⟩)
def L_X7_sweepAll_2 (v1 : Int32) (v2 : Nat) (v3 : Int32) (σ : cg_S) (Q : cg_S → Prop) : Prop := cg_L cg_WC RX7 cX7_sweepAll 7 none (cg_R 3) 2 (fun ad => [(0, .ref (ad 7)), (1, .int v1), (2, .ref (ad v2)), (3, .int v3)]) (fun ad => []) σ (cg_qv Q)
def L_X7_sweepAll_44 (v1 : Int32) (v2 : Nat) (v3 : Int32) (v4 : Int32) (v5 : Int32) (v6 : Int32) (σ : cg_S) (Q : cg_S → Prop) : Prop := cg_L cg_WC RX7 cX7_sweepAll 7 none (cg_R 3) 44 (fun ad => [(0, .ref (ad 7)), (1, .int v1), (2, .ref (ad v2)), (3, .int v3), (4, .int v4), (5, .int v5), (6, .int v6)]) (fun ad => []) σ (cg_qv Q)
def L_X7_sweepAll_99 (v1 : Int32) (v2 : Nat) (v4 : Int32) (v5 : Int32) (v6 : Int32) (t0 : Int32) (σ : cg_S) (Q : cg_S → Prop) : Prop := cg_L cg_WC RX7 cX7_sweepAll 7 none (cg_R 3) 99 (fun ad => [(0, .ref (ad 7)), (1, .int v1), (2, .ref (ad v2)), (4, .int v4), (5, .int v5), (6, .int v6)]) (fun ad => [.int t0]) σ (cg_qv Q)
set_option maxRecDepth 100000 in
set_option maxHeartbeats 4000000 in
theorem v_X7_sweepAll_99 {v1 : Int32} {v2 : Nat} {v4 : Int32} {v5 : Int32} {v6 : Int32} {t0 : Int32} {σ : cg_S} {Q : cg_S → Prop} (h_v2 : 11 ≤ v2 ∧ v2 ≤ 18)
    (h : (t0 = 0 → L_X7_sweepAll_44 v1 v2 t0 v4 v5 (v6 + 1) σ Q) ∧ (¬ t0 = 0 → M_X7_takeGreatest v2 v4 σ (fun s2 => L_X7_sweepAll_44 v1 v2 t0 0 v5 (v6 + 1) s2 Q))) : L_X7_sweepAll_99 v1 v2 v4 v5 v6 t0 σ Q := by
  intro p l e s m args below meth c D cy ad hC
  refine ga_istore_n (lv' := [(3, .int t0), (0, .ref (ad 7)), (1, .int v1), (2, .ref (ad v2)), (4, .int v4), (5, .int v5), (6, .int v6)]) hC dX7_sweepAll_99 rfl (by decide) rfl ?_
  refine ga_iload_n hC dX7_sweepAll_100 0 rfl rfl ?_
  refine ga_if_eq (tgt := 114) hC dX7_sweepAll_101 (by decide) (fun hc => ?_) (fun hc => ?_)
  · have h := h.1 hc
    refine ga_iinc (v := v6 + 1) (lv' := [(6, .int (v6 + 1)), (3, .int t0), (0, .ref (ad 7)), (1, .int v1), (2, .ref (ad v2)), (4, .int v4), (5, .int v5)]) hC dX7_sweepAll_114 6 rfl rfl (by decide) rfl ?_
    refine ga_goto (tgt := 44) hC dX7_sweepAll_117 (by decide) ?_
    refine ga_locals [2, 3, 4, 1, 5, 6, 0] rfl ?_
    exact h p l e s m args below meth c D cy ad hC
  · have h := h.2 hc
    refine ga_aload_n hC dX7_sweepAll_104 1 rfl rfl ?_
    refine ga_aload_n hC dX7_sweepAll_105 3 rfl rfl ?_
    refine ga_iload hC dX7_sweepAll_106 4 rfl ?_
    refine ga_callV (As := [.ref (ad v2), .int v4]) (st := []) (k := 7) (n := 2) hC h q_3_90 q_3_91 q_3_92 q_1_9 q_3_93 rfl rfl rfl (by decide +kernel) ⟨Nat.le_of_ble_eq_true rfl, Nat.le_of_ble_eq_true rfl⟩ ⟨Nat.le_of_ble_eq_true rfl, Nat.le_of_ble_eq_true rfl⟩ rfl rfl rfl (by decide) rfl (Nat.le_of_ble_eq_true rfl) dX7_sweepAll_108 (fun v τ hq => ?_)
    obtain ⟨rfl, h⟩ := hq
    obtain ⟨s2, es2⟩ : ∃ z, z = τ := ⟨_, rfl⟩
    rw [← es2] at h ⊢
    clear es2
    refine ga_iconst (v := 0) hC dX7_sweepAll_111 (by decide) ?_
    refine ga_istore (lv' := [(4, .int 0), (3, .int t0), (0, .ref (ad 7)), (1, .int v1), (2, .ref (ad v2)), (5, .int v5), (6, .int v6)]) hC dX7_sweepAll_112 (by decide) rfl ?_
    refine ga_iinc (v := v6 + 1) (lv' := [(6, .int (v6 + 1)), (4, .int 0), (3, .int t0), (0, .ref (ad 7)), (1, .int v1), (2, .ref (ad v2)), (5, .int v5)]) hC dX7_sweepAll_114 6 rfl rfl (by decide) rfl ?_
    refine ga_goto (tgt := 44) hC dX7_sweepAll_117 (by decide) ?_
    refine ga_locals [3, 4, 5, 2, 1, 6, 0] rfl ?_
    exact h p l e s m args below meth c D cy ad hC
set_option maxRecDepth 100000 in
set_option maxHeartbeats 4000000 in
theorem v_X7_sweepAll_44 {v1 : Int32} {v2 : Nat} {v3 : Int32} {v4 : Int32} {v5 : Int32} {v6 : Int32} {σ : cg_S} {Q : cg_S → Prop} (h_v2 : 11 ≤ v2 ∧ v2 ≤ 18)
    (h : (v5 < 0 → Q σ) ∧ (¬ v5 < 0 → (2187 ≤ v6 → Q σ) ∧ (¬ 2187 ≤ v6 → M_X0_evaluateFrom v1 30 v5 σ (fun s2 => M_X7_takeLeast v3 s2 (fun s5 => M_X7_advance s5 (fun r7 s8 => ((s8.1 3 2) ≤ r7 → L_X7_sweepAll_99 v1 v2 v4 r7 v6 0 s8 Q) ∧ (¬ (s8.1 3 2) ≤ r7 → L_X7_sweepAll_99 v1 v2 v4 r7 v6 1 s8 Q))))))) : L_X7_sweepAll_44 v1 v2 v3 v4 v5 v6 σ Q := by
  intro p l e s m args below meth c D cy ad hC
  refine ga_iload hC dX7_sweepAll_44 5 rfl ?_
  refine ga_if_lt (tgt := 120) hC dX7_sweepAll_46 (by decide) (fun hc => ?_) (fun hc => ?_)
  · have h := h.1 hc
    exact ga_vret hC dX7_sweepAll_120 ⟨rfl, h⟩
  · have h := h.2 hc
    refine ga_iload hC dX7_sweepAll_49 6 rfl ?_
    refine ga_sipush (v := 2187) hC dX7_sweepAll_51 (by decide) ?_
    refine ga_icmp_ge (tgt := 120) hC dX7_sweepAll_54 (by decide) (fun hc => ?_) (fun hc => ?_)
    · have h := h.1 hc
      exact ga_vret hC dX7_sweepAll_120 ⟨rfl, h⟩
    · have h := h.2 hc
      refine ga_aload_n hC dX7_sweepAll_57 0 rfl rfl ?_
      refine gC_7_1 hC q_2_50 dX7_sweepAll_58 ?_
      refine ga_iload_n hC dX7_sweepAll_61 1 rfl rfl ?_
      refine ga_aload_n hC dX7_sweepAll_62 0 rfl rfl ?_
      refine gC_7_2 hC q_2_51 dX7_sweepAll_63 ?_
      refine ga_iload hC dX7_sweepAll_66 5 rfl ?_
      refine ga_callV (As := [.int v1, .ref (ad 30), .int v5]) (st := []) (k := 3) (n := 3) hC h q_3_73 q_3_6 q_3_7 q_1_4 q_3_8 rfl rfl rfl (by decide +kernel) ⟨Nat.le_of_ble_eq_true rfl, Nat.le_of_ble_eq_true rfl⟩ ⟨Nat.le_of_ble_eq_true rfl, Nat.le_of_ble_eq_true rfl⟩ rfl rfl rfl (by decide) rfl (Nat.le_of_ble_eq_true rfl) dX7_sweepAll_68 (fun v τ hq => ?_)
      obtain ⟨rfl, h⟩ := hq
      obtain ⟨s2, es2⟩ : ∃ z, z = τ := ⟨_, rfl⟩
      rw [← es2] at h ⊢
      clear es2
      refine ga_aload_n hC dX7_sweepAll_71 0 rfl rfl ?_
      refine ga_iload_n hC dX7_sweepAll_72 3 rfl rfl ?_
      refine ga_callV (As := [.int v3]) (st := []) (k := 7) (n := 1) hC h q_3_74 q_3_75 q_3_76 q_1_9 q_3_77 rfl rfl rfl (by decide +kernel) ⟨Nat.le_of_ble_eq_true rfl, Nat.le_of_ble_eq_true rfl⟩ ⟨Nat.le_of_ble_eq_true rfl, Nat.le_of_ble_eq_true rfl⟩ rfl rfl rfl (by decide) rfl (Nat.le_of_ble_eq_true rfl) dX7_sweepAll_73 (fun v τ hq => ?_)
      obtain ⟨rfl, h⟩ := hq
      obtain ⟨s5, es5⟩ : ∃ z, z = τ := ⟨_, rfl⟩
      rw [← es5] at h ⊢
      clear es5
      refine ga_aload_n hC dX7_sweepAll_76 0 rfl rfl ?_
      refine ga_callV (As := []) (st := []) (k := 7) (n := 0) hC h q_3_86 q_3_87 q_3_88 q_1_9 q_3_89 rfl rfl rfl (by decide +kernel) ⟨Nat.le_of_ble_eq_true rfl, Nat.le_of_ble_eq_true rfl⟩ ⟨Nat.le_of_ble_eq_true rfl, Nat.le_of_ble_eq_true rfl⟩ rfl rfl rfl (by decide) rfl (Nat.le_of_ble_eq_true rfl) dX7_sweepAll_77 (fun v τ hq => ?_)
      obtain ⟨r7, rfl, h⟩ := hq
      obtain ⟨s8, es8⟩ : ∃ z, z = τ := ⟨_, rfl⟩
      rw [← es8] at h ⊢
      clear es8
      refine ga_istore (lv' := [(5, .int r7), (0, .ref (ad 7)), (1, .int v1), (2, .ref (ad v2)), (3, .int v3), (4, .int v4), (6, .int v6)]) hC dX7_sweepAll_80 (by decide) rfl ?_
      refine ga_iload hC dX7_sweepAll_82 0 rfl ?_
      refine ga_aload_n hC dX7_sweepAll_84 1 rfl rfl ?_
      refine gC_7_1 hC q_2_50 dX7_sweepAll_85 ?_
      refine gC_3_2 hC q_1_207 dX7_sweepAll_88 ?_
      refine ga_icmp_ge (tgt := 98) hC dX7_sweepAll_91 (by decide) (fun hc => ?_) (fun hc => ?_)
      · have h := h.1 hc
        refine ga_iconst (v := 0) hC dX7_sweepAll_98 (by decide) ?_
        refine ga_locals [1, 2, 3, 5, 0, 6] rfl ?_
        exact h p l e s m args below meth c D cy ad hC
      · have h := h.2 hc
        refine ga_iconst (v := 1) hC dX7_sweepAll_94 (by decide) ?_
        refine ga_goto (tgt := 99) hC dX7_sweepAll_95 (by decide) ?_
        refine ga_locals [1, 2, 3, 5, 0, 6] rfl ?_
        exact h p l e s m args below meth c D cy ad hC
set_option maxRecDepth 100000 in
set_option maxHeartbeats 4000000 in
theorem v_X7_sweepAll_2 {v1 : Int32} {v2 : Nat} {v3 : Int32} {σ : cg_S} {Q : cg_S → Prop} (h_v2 : 11 ≤ v2 ∧ v2 ≤ 18)
    (h : ((σ.1 1 0) ≤ v3 → M_X0_arrange σ (fun s2 => L_X7_sweepAll_44 v1 v2 1 1 0 0 s2 Q)) ∧ (¬ (σ.1 1 0) ≤ v3 → vp_in v3 7 ∧ ∀ s5 : cg_S, s5 = cg_i σ 30 v3.toNatClampNeg 0 → L_X7_sweepAll_2 v1 v2 (v3 + 1) s5 Q)) : L_X7_sweepAll_2 v1 v2 v3 σ Q := by
  intro p l e s m args below meth c D cy ad hC
  refine ga_iload_n hC dX7_sweepAll_2 3 rfl rfl ?_
  refine ga_aload_n hC dX7_sweepAll_3 0 rfl rfl ?_
  refine gC_7_0 hC q_2_49 dX7_sweepAll_4 ?_
  refine gC_1_0 hC q_1_52 dX7_sweepAll_7 ?_
  refine ga_icmp_ge (tgt := 26) hC dX7_sweepAll_10 (by decide) (fun hc => ?_) (fun hc => ?_)
  · have h := h.1 hc
    refine ga_aload_n hC dX7_sweepAll_26 0 rfl rfl ?_
    refine gC_7_1 hC q_2_50 dX7_sweepAll_27 ?_
    refine ga_callV (As := []) (st := []) (k := 3) (n := 0) hC h q_3_72 q_2_220 q_2_221 q_1_4 q_2_222 rfl rfl rfl (by decide +kernel) ⟨Nat.le_of_ble_eq_true rfl, Nat.le_of_ble_eq_true rfl⟩ ⟨Nat.le_of_ble_eq_true rfl, Nat.le_of_ble_eq_true rfl⟩ rfl rfl rfl (by decide) rfl (Nat.le_of_ble_eq_true rfl) dX7_sweepAll_30 (fun v τ hq => ?_)
    obtain ⟨rfl, h⟩ := hq
    obtain ⟨s2, es2⟩ : ∃ z, z = τ := ⟨_, rfl⟩
    rw [← es2] at h ⊢
    clear es2
    refine ga_iconst (v := 1) hC dX7_sweepAll_33 (by decide) ?_
    refine ga_istore_n (lv' := [(3, .int 1), (0, .ref (ad 7)), (1, .int v1), (2, .ref (ad v2))]) hC dX7_sweepAll_34 rfl (by decide) rfl ?_
    refine ga_iconst (v := 1) hC dX7_sweepAll_35 (by decide) ?_
    refine ga_istore (lv' := [(4, .int 1), (3, .int 1), (0, .ref (ad 7)), (1, .int v1), (2, .ref (ad v2))]) hC dX7_sweepAll_36 (by decide) rfl ?_
    refine ga_iconst (v := 0) hC dX7_sweepAll_38 (by decide) ?_
    refine ga_istore (lv' := [(5, .int 0), (4, .int 1), (3, .int 1), (0, .ref (ad 7)), (1, .int v1), (2, .ref (ad v2))]) hC dX7_sweepAll_39 (by decide) rfl ?_
    refine ga_iconst (v := 0) hC dX7_sweepAll_41 (by decide) ?_
    refine ga_istore (lv' := [(6, .int 0), (5, .int 0), (4, .int 1), (3, .int 1), (0, .ref (ad 7)), (1, .int v1), (2, .ref (ad v2))]) hC dX7_sweepAll_42 (by decide) rfl ?_
    refine ga_locals [4, 5, 6, 3, 2, 1, 0] rfl ?_
    exact h p l e s m args below meth c D cy ad hC
  · have h := h.2 hc
    refine ga_aload_n hC dX7_sweepAll_13 0 rfl rfl ?_
    refine gC_7_2 hC q_2_51 dX7_sweepAll_14 ?_
    refine ga_iload_n hC dX7_sweepAll_17 3 rfl rfl ?_
    refine ga_iconst (v := 0) hC dX7_sweepAll_18 (by decide) ?_
    obtain ⟨h4, h⟩ := h
    refine ga_iast hC aC_30 (by decide) h4 dX7_sweepAll_19 ?_
    refine ga_sig (σ := cg_i σ 30 v3.toNatClampNeg 0) (fun s5 es5 => ?_)
    have h := h s5 es5
    refine ga_iinc (v := v3 + 1) (lv' := [(3, .int (v3 + 1)), (0, .ref (ad 7)), (1, .int v1), (2, .ref (ad v2))]) hC dX7_sweepAll_20 3 rfl rfl (by decide) rfl ?_
    refine ga_goto (tgt := 2) hC dX7_sweepAll_23 (by decide) ?_
    refine ga_locals [1, 2, 3, 0] rfl ?_
    exact h p l e s m args below meth c D cy ad hC
set_option maxRecDepth 100000 in
set_option maxHeartbeats 4000000 in
theorem v_X7_sweepAll {v1 : Int32} {v2 : Nat} {σ : cg_S} {Q : cg_S → Prop} (h_v2 : 11 ≤ v2 ∧ v2 ≤ 18)
    (h : L_X7_sweepAll_2 v1 v2 0 σ Q) : M_X7_sweepAll v1 v2 σ Q := by
  refine cg_entry (lv := fun ad => [(0, .ref (ad 7)), (1, .int v1), (2, .ref (ad v2))]) (by decide +kernel) (fun _ => rfl) (fun _ => Nat.le_of_ble_eq_true rfl) ?_
  intro p l e s m args below meth c D cy ad hC
  refine ga_iconst (v := 0) hC dX7_sweepAll_0 (by decide) ?_
  refine ga_istore_n (lv' := [(3, .int 0), (0, .ref (ad 7)), (1, .int v1), (2, .ref (ad v2))]) hC dX7_sweepAll_1 rfl (by decide) rfl ?_
  refine ga_locals [1, 2, 3, 0] rfl ?_
  exact h p l e s m args below meth c D cy ad hC
def M_X7_valuesFor (v1 : Int32) (σ : cg_S) (Q : Nat → cg_S → Prop) : Prop := cg_M cg_WC yX7_valuesFor cX7_valuesFor 4 (some (.object "Chanceledger$Values")) (cg_R 4) (fun ad => [.ref (ad 7), .int v1]) σ (cg_qr Q)
theorem M_X7_valuesFor.mono {v1 : Int32} {σ : cg_S} {Q Q2 : Nat → cg_S → Prop} (h : M_X7_valuesFor v1 σ Q) (hq : ∀ r τ, Q r τ → Q2 r τ) : M_X7_valuesFor v1 σ Q2 := cg_M.mono h (fun ad v τ ⟨r, e, q⟩ => ⟨r, e, hq r τ q⟩)
def L_X7_valuesFor_31 (v1 : Int32) (t0 : Int32) (σ : cg_S) (Q : Nat → cg_S → Prop) : Prop := cg_L cg_WC RX7 cX7_valuesFor 4 (some (.object "Chanceledger$Values")) (cg_R 4) 31 (fun ad => [(0, .ref (ad 7)), (1, .int v1)]) (fun ad => [.int t0]) σ (cg_qr Q)
set_option maxRecDepth 100000 in
set_option maxHeartbeats 4000000 in
theorem v_X7_valuesFor_31 {v1 : Int32} {t0 : Int32} {σ : cg_S} {Q : Nat → cg_S → Prop}
    (h : vp_in t0 4 ∧ ∀ n2 : Nat, n2 = (14 + t0.toNatClampNeg) → vp_in t0 4 ∧ ((σ.1 31 t0.toNatClampNeg) = (σ.1 1 6) → Q n2 σ) ∧ (¬ (σ.1 31 t0.toNatClampNeg) = (σ.1 1 6) → M_X7_sweepAll v1 n2 σ (fun s5 => vp_in t0 4 ∧ ∀ s8 : cg_S, s8 = cg_i s5 31 t0.toNatClampNeg (s5.1 1 6) → Q n2 s8))) : L_X7_valuesFor_31 v1 t0 σ Q := by
  intro p l e s m args below meth c D cy ad hC
  refine ga_istore_n (lv' := [(2, .int t0), (0, .ref (ad 7)), (1, .int v1)]) hC dX7_valuesFor_31 rfl (by decide) rfl ?_
  refine ga_aload_n hC dX7_valuesFor_32 1 rfl rfl ?_
  refine gC_7_4 hC q_2_53 dX7_valuesFor_33 ?_
  refine ga_iload_n hC dX7_valuesFor_36 0 rfl rfl ?_
  obtain ⟨h1, h⟩ := h
  refine ga_aald6 (b := 14) hC rfl (fun j hj => if_pos hj) (by decide) h1 dX7_valuesFor_37 ?_
  obtain ⟨n2, en2⟩ : ∃ y : Nat, y = (14 + t0.toNatClampNeg) := ⟨_, rfl⟩
  have h := h n2 en2
  have hn2 : 11 ≤ n2 ∧ n2 ≤ 18 := by rw [en2]; exact (cg_v14 (cg_lt h1))
  rw [← en2]
  refine ga_astore_n (lv' := [(3, .ref (ad n2)), (2, .int t0), (0, .ref (ad 7)), (1, .int v1)]) hC dX7_valuesFor_38 rfl (by decide) rfl ?_
  refine ga_aload_n hC dX7_valuesFor_39 2 rfl rfl ?_
  refine gC_7_5 hC q_2_54 dX7_valuesFor_40 ?_
  refine ga_iload_n hC dX7_valuesFor_43 1 rfl rfl ?_
  obtain ⟨h3, h⟩ := h
  refine ga_iald hC aC_31 (by decide) h3 dX7_valuesFor_44 ?_
  refine ga_aload_n hC dX7_valuesFor_45 2 rfl rfl ?_
  refine gC_7_0 hC q_2_49 dX7_valuesFor_46 ?_
  refine gC_1_6 hC q_1_65 dX7_valuesFor_49 ?_
  refine ga_icmp_eq (tgt := 74) hC dX7_valuesFor_52 (by decide) (fun hc => ?_) (fun hc => ?_)
  · have h := h.1 hc
    refine ga_aload_n hC dX7_valuesFor_74 0 rfl rfl ?_
    exact ga_aret hC dX7_valuesFor_75 ⟨_, rfl, h⟩
  · have h := h.2 hc
    refine ga_aload_n hC dX7_valuesFor_55 2 rfl rfl ?_
    refine ga_iload_n hC dX7_valuesFor_56 3 rfl rfl ?_
    refine ga_aload_n hC dX7_valuesFor_57 0 rfl rfl ?_
    refine ga_callV (As := [.int v1, .ref (ad n2)]) (st := []) (k := 7) (n := 2) hC h q_3_68 q_3_69 q_3_70 q_1_9 q_3_71 rfl rfl rfl (by decide +kernel) ⟨Nat.le_of_ble_eq_true rfl, Nat.le_of_ble_eq_true rfl⟩ ⟨Nat.le_of_ble_eq_true rfl, Nat.le_of_ble_eq_true rfl⟩ rfl rfl rfl (by decide) rfl (Nat.le_of_ble_eq_true rfl) dX7_valuesFor_58 (fun v τ hq => ?_)
    obtain ⟨rfl, h⟩ := hq
    obtain ⟨s5, es5⟩ : ∃ z, z = τ := ⟨_, rfl⟩
    rw [← es5] at h ⊢
    clear es5
    refine ga_aload_n hC dX7_valuesFor_61 2 rfl rfl ?_
    refine gC_7_5 hC q_2_54 dX7_valuesFor_62 ?_
    refine ga_iload_n hC dX7_valuesFor_65 1 rfl rfl ?_
    refine ga_aload_n hC dX7_valuesFor_66 2 rfl rfl ?_
    refine gC_7_0 hC q_2_49 dX7_valuesFor_67 ?_
    refine gC_1_6 hC q_1_65 dX7_valuesFor_70 ?_
    obtain ⟨h7, h⟩ := h
    refine ga_iast hC aC_31 (by decide) h7 dX7_valuesFor_73 ?_
    refine ga_sig (σ := cg_i s5 31 t0.toNatClampNeg (s5.1 1 6)) (fun s8 es8 => ?_)
    have h := h s8 es8
    refine ga_aload_n hC dX7_valuesFor_74 0 rfl rfl ?_
    exact ga_aret hC dX7_valuesFor_75 ⟨_, rfl, h⟩
set_option maxRecDepth 100000 in
set_option maxHeartbeats 4000000 in
theorem v_X7_valuesFor {v1 : Int32} {σ : cg_S} {Q : Nat → cg_S → Prop}
    (h : (¬ v1 = 114 → (¬ v1 = 102 → (¬ v1 = 115 → L_X7_valuesFor_31 v1 3 σ Q) ∧ (v1 = 115 → L_X7_valuesFor_31 v1 2 σ Q)) ∧ (v1 = 102 → L_X7_valuesFor_31 v1 1 σ Q)) ∧ (v1 = 114 → L_X7_valuesFor_31 v1 0 σ Q)) : M_X7_valuesFor v1 σ Q := by
  refine cg_entry (lv := fun ad => [(0, .ref (ad 7)), (1, .int v1)]) (by decide +kernel) (fun _ => rfl) (fun _ => Nat.le_of_ble_eq_true rfl) ?_
  intro p l e s m args below meth c D cy ad hC
  refine ga_iload_n hC dX7_valuesFor_0 1 rfl rfl ?_
  refine ga_bipush (v := 114) hC dX7_valuesFor_1 (by decide) ?_
  refine ga_icmp_ne (tgt := 10) hC dX7_valuesFor_3 (by decide) (fun hc => ?_) (fun hc => ?_)
  · have h := h.1 hc
    refine ga_iload_n hC dX7_valuesFor_10 1 rfl rfl ?_
    refine ga_bipush (v := 102) hC dX7_valuesFor_11 (by decide) ?_
    refine ga_icmp_ne (tgt := 20) hC dX7_valuesFor_13 (by decide) (fun hc => ?_) (fun hc => ?_)
    · have h := h.1 hc
      refine ga_iload_n hC dX7_valuesFor_20 1 rfl rfl ?_
      refine ga_bipush (v := 115) hC dX7_valuesFor_21 (by decide) ?_
      refine ga_icmp_ne (tgt := 30) hC dX7_valuesFor_23 (by decide) (fun hc => ?_) (fun hc => ?_)
      · have h := h.1 hc
        refine ga_iconst (v := 3) hC dX7_valuesFor_30 (by decide) ?_
        refine ga_locals [0, 1] rfl ?_
        exact h p l e s m args below meth c D cy ad hC
      · have h := h.2 hc
        refine ga_iconst (v := 2) hC dX7_valuesFor_26 (by decide) ?_
        refine ga_goto (tgt := 31) hC dX7_valuesFor_27 (by decide) ?_
        refine ga_locals [0, 1] rfl ?_
        exact h p l e s m args below meth c D cy ad hC
    · have h := h.2 hc
      refine ga_iconst (v := 1) hC dX7_valuesFor_16 (by decide) ?_
      refine ga_goto (tgt := 31) hC dX7_valuesFor_17 (by decide) ?_
      refine ga_locals [0, 1] rfl ?_
      exact h p l e s m args below meth c D cy ad hC
  · have h := h.2 hc
    refine ga_iconst (v := 0) hC dX7_valuesFor_6 (by decide) ?_
    refine ga_goto (tgt := 31) hC dX7_valuesFor_7 (by decide) ?_
    refine ga_locals [0, 1] rfl ?_
    exact h p l e s m args below meth c D cy ad hC
def M_X8_isDrawn (v1 : Int32) (v2 : Int32) (σ : cg_S) (Q : Int32 → cg_S → Prop) : Prop := cg_M cg_WC yX8_isDrawn cX8_isDrawn 6 (some .boolean) (cg_R 3) (fun ad => [.ref (ad 8), .int v1, .int v2]) σ (cg_qi Q)
theorem M_X8_isDrawn.mono {v1 : Int32} {v2 : Int32} {σ : cg_S} {Q Q2 : Int32 → cg_S → Prop} (h : M_X8_isDrawn v1 v2 σ Q) (hq : ∀ r τ, Q r τ → Q2 r τ) : M_X8_isDrawn v1 v2 σ Q2 := cg_M.mono h (fun ad v τ ⟨r, e, q⟩ => ⟨r, e, hq r τ q⟩)
def L_X8_isDrawn_13 (v1 : Int32) (v2 : Int32) (v3 : Int32) (v4 : Int32) (σ : cg_S) (Q : Int32 → cg_S → Prop) : Prop := cg_L cg_WC RX8 cX8_isDrawn 6 (some .boolean) (cg_R 3) 13 (fun ad => [(0, .ref (ad 8)), (1, .int v1), (2, .int v2), (3, .int v3), (4, .int v4)]) (fun ad => []) σ (cg_qi Q)
def L_X8_isDrawn_70 (v1 : Int32) (v2 : Int32) (v3 : Int32) (v4 : Int32) (t0 : Int32) (σ : cg_S) (Q : Int32 → cg_S → Prop) : Prop := cg_L cg_WC RX8 cX8_isDrawn 6 (some .boolean) (cg_R 3) 70 (fun ad => [(0, .ref (ad 8)), (1, .int v1), (2, .int v2), (3, .int v3), (4, .int v4)]) (fun ad => [.int t0]) σ (cg_qi Q)
set_option maxRecDepth 100000 in
set_option maxHeartbeats 4000000 in
theorem v_X8_isDrawn_70 {v1 : Int32} {v2 : Int32} {v3 : Int32} {v4 : Int32} {t0 : Int32} {σ : cg_S} {Q : Int32 → cg_S → Prop}
    (h : (¬ t0 = v3 → L_X8_isDrawn_13 v1 v2 v3 (v4 + 1) σ Q) ∧ (t0 = v3 → (v3 = 0 ∨ v3 = 1) ∧ Q v3 σ)) : L_X8_isDrawn_70 v1 v2 v3 v4 t0 σ Q := by
  intro p l e s m args below meth c D cy ad hC
  refine ga_iload_n hC dX8_isDrawn_70 3 rfl rfl ?_
  refine ga_icmp_ne (tgt := 76) hC dX8_isDrawn_71 (by decide) (fun hc => ?_) (fun hc => ?_)
  · have h := h.1 hc
    refine ga_iinc (v := v4 + 1) (lv' := [(4, .int (v4 + 1)), (0, .ref (ad 8)), (1, .int v1), (2, .int v2), (3, .int v3)]) hC dX8_isDrawn_76 4 rfl rfl (by decide) rfl ?_
    refine ga_goto (tgt := 13) hC dX8_isDrawn_79 (by decide) ?_
    refine ga_locals [1, 2, 3, 4, 0] rfl ?_
    exact h p l e s m args below meth c D cy ad hC
  · have h := h.2 hc
    refine ga_iload_n hC dX8_isDrawn_74 3 rfl rfl ?_
    exact ga_zret hC dX8_isDrawn_75 h.1 ⟨_, rfl, h.2⟩
set_option maxRecDepth 100000 in
set_option maxHeartbeats 4000000 in
theorem v_X8_isDrawn_13 {v1 : Int32} {v2 : Int32} {v3 : Int32} {v4 : Int32} {σ : cg_S} {Q : Int32 → cg_S → Prop}
    (h : vp_in v1 7 ∧ ((σ.1 21 v1.toNatClampNeg) ≤ v4 → (¬ v3 = 0 → Q 0 σ) ∧ (v3 = 0 → Q 1 σ)) ∧ (¬ (σ.1 21 v1.toNatClampNeg) ≤ v4 → M_X2_moveOf v1 v4 σ (fun r2 s3 => M_X0_isGood 114 v1 r2 s3 (fun r5 s6 => (r5 = 0 → L_X8_isDrawn_13 v1 v2 v3 (v4 + 1) s6 Q) ∧ (¬ r5 = 0 → vp_in r2 21 ∧ (((s6.1 25 r2.toNatClampNeg) &&& v2) = 0 → L_X8_isDrawn_70 v1 v2 v3 v4 0 s6 Q) ∧ (¬ ((s6.1 25 r2.toNatClampNeg) &&& v2) = 0 → L_X8_isDrawn_70 v1 v2 v3 v4 1 s6 Q)))))) : L_X8_isDrawn_13 v1 v2 v3 v4 σ Q := by
  intro p l e s m args below meth c D cy ad hC
  refine ga_iload hC dX8_isDrawn_13 4 rfl ?_
  refine ga_aload_n hC dX8_isDrawn_15 0 rfl rfl ?_
  refine gC_8_0 hC q_2_74 dX8_isDrawn_16 ?_
  refine gC_1_9 hC q_1_77 dX8_isDrawn_19 ?_
  refine ga_iload_n hC dX8_isDrawn_22 1 rfl rfl ?_
  obtain ⟨h1, h⟩ := h
  refine ga_iald hC aC_21 (by decide) h1 dX8_isDrawn_23 ?_
  refine ga_icmp_ge (tgt := 82) hC dX8_isDrawn_24 (by decide) (fun hc => ?_) (fun hc => ?_)
  · have h := h.1 hc
    refine ga_iload_n hC dX8_isDrawn_82 3 rfl rfl ?_
    refine ga_if_ne (tgt := 90) hC dX8_isDrawn_83 (by decide) (fun hc => ?_) (fun hc => ?_)
    · have h := h.1 hc
      refine ga_iconst (v := 0) hC dX8_isDrawn_90 (by decide) ?_
      exact ga_zret hC dX8_isDrawn_91 (by decide) ⟨_, rfl, h⟩
    · have h := h.2 hc
      refine ga_iconst (v := 1) hC dX8_isDrawn_86 (by decide) ?_
      refine ga_goto (tgt := 91) hC dX8_isDrawn_87 (by decide) ?_
      exact ga_zret hC dX8_isDrawn_91 (by decide) ⟨_, rfl, h⟩
  · have h := h.2 hc
    refine ga_iload_n hC dX8_isDrawn_27 1 rfl rfl ?_
    refine ga_iload hC dX8_isDrawn_28 4 rfl ?_
    refine ga_callS (As := [.int v1, .int v4]) (st := []) (n := 2) hC h q_4_118 q_2_169 q_1_2 q_2_170 rfl rfl rfl (by decide +kernel) ⟨Nat.le_of_ble_eq_true rfl, Nat.le_of_ble_eq_true rfl⟩ ⟨Nat.le_of_ble_eq_true rfl, Nat.le_of_ble_eq_true rfl⟩ rfl rfl (Nat.le_of_ble_eq_true rfl) dX8_isDrawn_30 (fun v τ hq => ?_)
    obtain ⟨r2, rfl, h⟩ := hq
    obtain ⟨s3, es3⟩ : ∃ z, z = τ := ⟨_, rfl⟩
    rw [← es3] at h ⊢
    clear es3
    refine ga_istore (lv' := [(5, .int r2), (0, .ref (ad 8)), (1, .int v1), (2, .int v2), (3, .int v3), (4, .int v4)]) hC dX8_isDrawn_33 (by decide) rfl ?_
    refine ga_aload_n hC dX8_isDrawn_35 1 rfl rfl ?_
    refine gC_8_1 hC q_2_75 dX8_isDrawn_36 ?_
    refine ga_bipush (v := 114) hC dX8_isDrawn_39 (by decide) ?_
    refine ga_iload_n hC dX8_isDrawn_41 2 rfl rfl ?_
    refine ga_iload hC dX8_isDrawn_42 0 rfl ?_
    refine ga_callV (As := [.int 114, .int v1, .int r2]) (st := []) (k := 3) (n := 3) hC h q_4_119 q_4_120 q_4_121 q_1_4 q_4_122 rfl rfl rfl (by decide +kernel) ⟨Nat.le_of_ble_eq_true rfl, Nat.le_of_ble_eq_true rfl⟩ ⟨Nat.le_of_ble_eq_true rfl, Nat.le_of_ble_eq_true rfl⟩ rfl rfl rfl (by decide) rfl (Nat.le_of_ble_eq_true rfl) dX8_isDrawn_44 (fun v τ hq => ?_)
    obtain ⟨r5, rfl, h⟩ := hq
    obtain ⟨s6, es6⟩ : ∃ z, z = τ := ⟨_, rfl⟩
    rw [← es6] at h ⊢
    clear es6
    refine ga_if_eq (tgt := 76) hC dX8_isDrawn_47 (by decide) (fun hc => ?_) (fun hc => ?_)
    · have h := h.1 hc
      refine ga_iinc (v := v4 + 1) (lv' := [(4, .int (v4 + 1)), (5, .int r2), (0, .ref (ad 8)), (1, .int v1), (2, .int v2), (3, .int v3)]) hC dX8_isDrawn_76 5 rfl rfl (by decide) rfl ?_
      refine ga_goto (tgt := 13) hC dX8_isDrawn_79 (by decide) ?_
      refine ga_locals [2, 3, 4, 5, 0] rfl ?_
      exact h p l e s m args below meth c D cy ad hC
    · have h := h.2 hc
      refine ga_aload_n hC dX8_isDrawn_50 1 rfl rfl ?_
      refine gC_8_0 hC q_2_74 dX8_isDrawn_51 ?_
      refine gC_1_13 hC q_1_97 dX8_isDrawn_54 ?_
      refine ga_iload hC dX8_isDrawn_57 0 rfl ?_
      obtain ⟨h8, h⟩ := h
      refine ga_iald hC aC_25 (by decide) h8 dX8_isDrawn_59 ?_
      refine ga_iload_n hC dX8_isDrawn_60 3 rfl rfl ?_
      refine ga_iand hC dX8_isDrawn_61 ?_
      refine ga_if_eq (tgt := 69) hC dX8_isDrawn_62 (by decide) (fun hc => ?_) (fun hc => ?_)
      · have h := h.1 hc
        refine ga_iconst (v := 0) hC dX8_isDrawn_69 (by decide) ?_
        refine ga_locals [1, 2, 3, 4, 5] rfl ?_
        exact h p l e s m args below meth c D cy ad hC
      · have h := h.2 hc
        refine ga_iconst (v := 1) hC dX8_isDrawn_65 (by decide) ?_
        refine ga_goto (tgt := 70) hC dX8_isDrawn_66 (by decide) ?_
        refine ga_locals [1, 2, 3, 4, 5] rfl ?_
        exact h p l e s m args below meth c D cy ad hC
set_option maxRecDepth 100000 in
set_option maxHeartbeats 4000000 in
theorem v_X8_isDrawn {v1 : Int32} {v2 : Int32} {σ : cg_S} {Q : Int32 → cg_S → Prop}
    (h : vp_in v1 7 ∧ ∀ x2 : Int32, x2 = σ.1 57 v1.toNatClampNeg → L_X8_isDrawn_13 v1 v2 x2 0 σ Q) : M_X8_isDrawn v1 v2 σ Q := by
  refine cg_entry (lv := fun ad => [(0, .ref (ad 8)), (1, .int v1), (2, .int v2)]) (by decide +kernel) (fun _ => rfl) (fun _ => Nat.le_of_ble_eq_true rfl) ?_
  intro p l e s m args below meth c D cy ad hC
  refine ga_aload_n hC dX8_isDrawn_0 0 rfl rfl ?_
  refine gC_8_0 hC q_2_74 dX8_isDrawn_1 ?_
  refine gC_1_7 hC q_1_70 dX8_isDrawn_4 ?_
  refine ga_iload_n hC dX8_isDrawn_7 1 rfl rfl ?_
  obtain ⟨h1, h⟩ := h
  refine ga_zald hC aC_57 (by decide) h1 dX8_isDrawn_8 ?_
  refine ga_topi (fun x2 ex2 => ?_)
  have h := h x2 ex2
  refine ga_istore_n (lv' := [(3, .int x2), (0, .ref (ad 8)), (1, .int v1), (2, .int v2)]) hC dX8_isDrawn_9 rfl (by decide) rfl ?_
  refine ga_iconst (v := 0) hC dX8_isDrawn_10 (by decide) ?_
  refine ga_istore (lv' := [(4, .int 0), (3, .int x2), (0, .ref (ad 8)), (1, .int v1), (2, .int v2)]) hC dX8_isDrawn_11 (by decide) rfl ?_
  refine ga_locals [2, 3, 4, 1, 0] rfl ?_
  exact h p l e s m args below meth c D cy ad hC
def M_X8_rankStates (σ : cg_S) (Q : cg_S → Prop) : Prop := cg_M cg_WC yX8_rankStates cX8_rankStates 5 none (cg_R 4) (fun ad => [.ref (ad 8)]) σ (cg_qv Q)
theorem M_X8_rankStates.mono {σ : cg_S} {Q Q2 : cg_S → Prop} (h : M_X8_rankStates σ Q) (hq : ∀ τ, Q τ → Q2 τ) : M_X8_rankStates σ Q2 := cg_M.mono h (fun ad v τ ⟨e, q⟩ => ⟨e, hq τ q⟩)
def L_X8_rankStates_2 (v1 : Int32) (σ : cg_S) (Q : cg_S → Prop) : Prop := cg_L cg_WC RX8 cX8_rankStates 5 none (cg_R 4) 2 (fun ad => [(0, .ref (ad 8)), (1, .int v1)]) (fun ad => []) σ (cg_qv Q)
def L_X8_rankStates_51 (v1 : Int32) (v2 : Int32) (σ : cg_S) (Q : cg_S → Prop) : Prop := cg_L cg_WC RX8 cX8_rankStates 5 none (cg_R 4) 51 (fun ad => [(0, .ref (ad 8)), (1, .int v1), (2, .int v2)]) (fun ad => []) σ (cg_qv Q)
def L_X8_rankStates_67 (v1 : Int32) (v2 : Int32) (v3 : Int32) (v4 : Int32) (σ : cg_S) (Q : cg_S → Prop) : Prop := cg_L cg_WC RX8 cX8_rankStates 5 none (cg_R 4) 67 (fun ad => [(0, .ref (ad 8)), (1, .int v1), (2, .int v2), (3, .int v3), (4, .int v4)]) (fun ad => []) σ (cg_qv Q)
set_option maxRecDepth 100000 in
set_option maxHeartbeats 4000000 in
theorem v_X8_rankStates_67 {v1 : Int32} {v2 : Int32} {v3 : Int32} {v4 : Int32} {σ : cg_S} {Q : cg_S → Prop}
    (h : ((σ.1 1 0) ≤ v4 → L_X8_rankStates_51 v1 (v2 + 1) σ Q) ∧ (¬ (σ.1 1 0) ≤ v4 → vp_in v4 7 ∧ (0 ≤ (σ.1 32 v4.toNatClampNeg) → L_X8_rankStates_67 v1 v2 v3 (v4 + 1) σ Q) ∧ (¬ 0 ≤ (σ.1 32 v4.toNatClampNeg) → M_X0_isNought v4 σ (fun r2 s3 => (¬ r2 = 0 → L_X8_rankStates_67 v1 v2 v3 (v4 + 1) s3 Q) ∧ (r2 = 0 → M_X8_isDrawn v4 v3 s3 (fun r5 s6 => (r5 = 0 → L_X8_rankStates_67 v1 v2 v3 (v4 + 1) s6 Q) ∧ (¬ r5 = 0 → vp_in v4 7 ∧ ∀ s9 : cg_S, s9 = cg_i s6 32 v4.toNatClampNeg v2 → ∀ x10 : Int32, x10 = v1 ||| (1 <<< (v4 &&& 31)) → L_X8_rankStates_67 x10 v2 v3 (v4 + 1) s9 Q))))))) : L_X8_rankStates_67 v1 v2 v3 v4 σ Q := by
  intro p l e s m args below meth c D cy ad hC
  refine ga_iload hC dX8_rankStates_67 4 rfl ?_
  refine ga_aload_n hC dX8_rankStates_69 0 rfl rfl ?_
  refine gC_8_0 hC q_2_74 dX8_rankStates_70 ?_
  refine gC_1_0 hC q_1_51 dX8_rankStates_73 ?_
  refine ga_icmp_ge (tgt := 132) hC dX8_rankStates_76 (by decide) (fun hc => ?_) (fun hc => ?_)
  · have h := h.1 hc
    refine ga_iinc (v := v2 + 1) (lv' := [(2, .int (v2 + 1)), (0, .ref (ad 8)), (1, .int v1), (3, .int v3), (4, .int v4)]) hC dX8_rankStates_132 2 rfl rfl (by decide) rfl ?_
    refine ga_goto (tgt := 51) hC dX8_rankStates_135 (by decide) ?_
    refine ga_locals [1, 2, 0] rfl ?_
    exact h p l e s m args below meth c D cy ad hC
  · have h := h.2 hc
    refine ga_aload_n hC dX8_rankStates_79 0 rfl rfl ?_
    refine gC_8_3 hC q_2_77 dX8_rankStates_80 ?_
    refine ga_iload hC dX8_rankStates_83 4 rfl ?_
    obtain ⟨h1, h⟩ := h
    refine ga_iald hC aC_32 (by decide) h1 dX8_rankStates_85 ?_
    refine ga_if_ge (tgt := 126) hC dX8_rankStates_86 (by decide) (fun hc => ?_) (fun hc => ?_)
    · have h := h.1 hc
      refine ga_iinc (v := v4 + 1) (lv' := [(4, .int (v4 + 1)), (0, .ref (ad 8)), (1, .int v1), (2, .int v2), (3, .int v3)]) hC dX8_rankStates_126 4 rfl rfl (by decide) rfl ?_
      refine ga_goto (tgt := 67) hC dX8_rankStates_129 (by decide) ?_
      refine ga_locals [1, 2, 3, 4, 0] rfl ?_
      exact h p l e s m args below meth c D cy ad hC
    · have h := h.2 hc
      refine ga_aload_n hC dX8_rankStates_89 0 rfl rfl ?_
      refine gC_8_1 hC q_2_75 dX8_rankStates_90 ?_
      refine ga_iload hC dX8_rankStates_93 4 rfl ?_
      refine ga_callV (As := [.int v4]) (st := []) (k := 3) (n := 1) hC h q_4_110 q_4_111 q_4_112 q_1_4 q_4_113 rfl rfl rfl (by decide +kernel) ⟨Nat.le_of_ble_eq_true rfl, Nat.le_of_ble_eq_true rfl⟩ ⟨Nat.le_of_ble_eq_true rfl, Nat.le_of_ble_eq_true rfl⟩ rfl rfl rfl (by decide) rfl (Nat.le_of_ble_eq_true rfl) dX8_rankStates_95 (fun v τ hq => ?_)
      obtain ⟨r2, rfl, h⟩ := hq
      obtain ⟨s3, es3⟩ : ∃ z, z = τ := ⟨_, rfl⟩
      rw [← es3] at h ⊢
      clear es3
      refine ga_if_ne (tgt := 126) hC dX8_rankStates_98 (by decide) (fun hc => ?_) (fun hc => ?_)
      · have h := h.1 hc
        refine ga_iinc (v := v4 + 1) (lv' := [(4, .int (v4 + 1)), (0, .ref (ad 8)), (1, .int v1), (2, .int v2), (3, .int v3)]) hC dX8_rankStates_126 4 rfl rfl (by decide) rfl ?_
        refine ga_goto (tgt := 67) hC dX8_rankStates_129 (by decide) ?_
        refine ga_locals [1, 2, 3, 4, 0] rfl ?_
        exact h p l e s m args below meth c D cy ad hC
      · have h := h.2 hc
        refine ga_aload_n hC dX8_rankStates_101 0 rfl rfl ?_
        refine ga_iload hC dX8_rankStates_102 4 rfl ?_
        refine ga_iload_n hC dX8_rankStates_104 3 rfl rfl ?_
        refine ga_callV (As := [.int v4, .int v3]) (st := []) (k := 8) (n := 2) hC h q_4_114 q_4_115 q_4_116 q_1_10 q_4_117 rfl rfl rfl (by decide +kernel) ⟨Nat.le_of_ble_eq_true rfl, Nat.le_of_ble_eq_true rfl⟩ ⟨Nat.le_of_ble_eq_true rfl, Nat.le_of_ble_eq_true rfl⟩ rfl rfl rfl (by decide) rfl (Nat.le_of_ble_eq_true rfl) dX8_rankStates_105 (fun v τ hq => ?_)
        obtain ⟨r5, rfl, h⟩ := hq
        obtain ⟨s6, es6⟩ : ∃ z, z = τ := ⟨_, rfl⟩
        rw [← es6] at h ⊢
        clear es6
        refine ga_if_eq (tgt := 126) hC dX8_rankStates_108 (by decide) (fun hc => ?_) (fun hc => ?_)
        · have h := h.1 hc
          refine ga_iinc (v := v4 + 1) (lv' := [(4, .int (v4 + 1)), (0, .ref (ad 8)), (1, .int v1), (2, .int v2), (3, .int v3)]) hC dX8_rankStates_126 4 rfl rfl (by decide) rfl ?_
          refine ga_goto (tgt := 67) hC dX8_rankStates_129 (by decide) ?_
          refine ga_locals [1, 2, 3, 4, 0] rfl ?_
          exact h p l e s m args below meth c D cy ad hC
        · have h := h.2 hc
          refine ga_aload_n hC dX8_rankStates_111 0 rfl rfl ?_
          refine gC_8_3 hC q_2_77 dX8_rankStates_112 ?_
          refine ga_iload hC dX8_rankStates_115 4 rfl ?_
          refine ga_iload_n hC dX8_rankStates_117 2 rfl rfl ?_
          obtain ⟨h8, h⟩ := h
          refine ga_iast hC aC_32 (by decide) h8 dX8_rankStates_118 ?_
          refine ga_sig (σ := cg_i s6 32 v4.toNatClampNeg v2) (fun s9 es9 => ?_)
          have h := h s9 es9
          refine ga_iload_n hC dX8_rankStates_119 1 rfl rfl ?_
          refine ga_iconst (v := 1) hC dX8_rankStates_120 (by decide) ?_
          refine ga_iload hC dX8_rankStates_121 4 rfl ?_
          refine ga_ishl hC dX8_rankStates_123 ?_
          refine ga_ior hC dX8_rankStates_124 ?_
          refine ga_topi (fun x10 ex10 => ?_)
          have h := h x10 ex10
          refine ga_istore_n (lv' := [(1, .int x10), (0, .ref (ad 8)), (2, .int v2), (3, .int v3), (4, .int v4)]) hC dX8_rankStates_125 rfl (by decide) rfl ?_
          refine ga_iinc (v := v4 + 1) (lv' := [(4, .int (v4 + 1)), (1, .int x10), (0, .ref (ad 8)), (2, .int v2), (3, .int v3)]) hC dX8_rankStates_126 4 rfl rfl (by decide) rfl ?_
          refine ga_goto (tgt := 67) hC dX8_rankStates_129 (by decide) ?_
          refine ga_locals [2, 1, 3, 4, 0] rfl ?_
          exact h p l e s m args below meth c D cy ad hC
set_option maxRecDepth 100000 in
set_option maxHeartbeats 4000000 in
theorem v_X8_rankStates_51 {v1 : Int32} {v2 : Int32} {σ : cg_S} {Q : cg_S → Prop}
    (h : ((σ.1 1 0) < v2 → Q σ) ∧ (¬ (σ.1 1 0) < v2 → L_X8_rankStates_67 v1 v2 v1 0 σ Q)) : L_X8_rankStates_51 v1 v2 σ Q := by
  intro p l e s m args below meth c D cy ad hC
  refine ga_iload_n hC dX8_rankStates_51 2 rfl rfl ?_
  refine ga_aload_n hC dX8_rankStates_52 0 rfl rfl ?_
  refine gC_8_0 hC q_2_74 dX8_rankStates_53 ?_
  refine gC_1_0 hC q_1_51 dX8_rankStates_56 ?_
  refine ga_icmp_gt (tgt := 138) hC dX8_rankStates_59 (by decide) (fun hc => ?_) (fun hc => ?_)
  · have h := h.1 hc
    exact ga_vret hC dX8_rankStates_138 ⟨rfl, h⟩
  · have h := h.2 hc
    refine ga_iload_n hC dX8_rankStates_62 1 rfl rfl ?_
    refine ga_istore_n (lv' := [(3, .int v1), (0, .ref (ad 8)), (1, .int v1), (2, .int v2)]) hC dX8_rankStates_63 rfl (by decide) rfl ?_
    refine ga_iconst (v := 0) hC dX8_rankStates_64 (by decide) ?_
    refine ga_istore (lv' := [(4, .int 0), (3, .int v1), (0, .ref (ad 8)), (1, .int v1), (2, .int v2)]) hC dX8_rankStates_65 (by decide) rfl ?_
    refine ga_locals [2, 3, 4, 1, 0] rfl ?_
    exact h p l e s m args below meth c D cy ad hC
set_option maxRecDepth 100000 in
set_option maxHeartbeats 4000000 in
theorem v_X8_rankStates_2 {v1 : Int32} {σ : cg_S} {Q : cg_S → Prop}
    (h : ((σ.1 1 0) ≤ v1 → ∀ x1 : Int32, x1 = σ.1 1 1 → L_X8_rankStates_51 x1 1 σ Q) ∧ (¬ (σ.1 1 0) ≤ v1 → M_X2_isTarget v1 σ (fun r2 s3 => (r2 = 0 → vp_in v1 7 ∧ ∀ s6 : cg_S, s6 = cg_i s3 32 v1.toNatClampNeg (-1) → L_X8_rankStates_2 (v1 + 1) s6 Q) ∧ (¬ r2 = 0 → vp_in v1 7 ∧ ∀ s8 : cg_S, s8 = cg_i s3 32 v1.toNatClampNeg 0 → L_X8_rankStates_2 (v1 + 1) s8 Q)))) : L_X8_rankStates_2 v1 σ Q := by
  intro p l e s m args below meth c D cy ad hC
  refine ga_iload_n hC dX8_rankStates_2 1 rfl rfl ?_
  refine ga_aload_n hC dX8_rankStates_3 0 rfl rfl ?_
  refine gC_8_0 hC q_2_74 dX8_rankStates_4 ?_
  refine gC_1_0 hC q_1_51 dX8_rankStates_7 ?_
  refine ga_icmp_ge (tgt := 41) hC dX8_rankStates_10 (by decide) (fun hc => ?_) (fun hc => ?_)
  · have h := h.1 hc
    refine ga_aload_n hC dX8_rankStates_41 0 rfl rfl ?_
    refine gC_8_0 hC q_2_74 dX8_rankStates_42 ?_
    refine gC_1_1 hC q_1_57 dX8_rankStates_45 ?_
    refine ga_topi (fun x1 ex1 => ?_)
    have h := h x1 ex1
    refine ga_istore_n (lv' := [(1, .int x1), (0, .ref (ad 8))]) hC dX8_rankStates_48 rfl (by decide) rfl ?_
    refine ga_iconst (v := 1) hC dX8_rankStates_49 (by decide) ?_
    refine ga_istore_n (lv' := [(2, .int 1), (1, .int x1), (0, .ref (ad 8))]) hC dX8_rankStates_50 rfl (by decide) rfl ?_
    refine ga_locals [2, 1, 0] rfl ?_
    exact h p l e s m args below meth c D cy ad hC
  · have h := h.2 hc
    refine ga_aload_n hC dX8_rankStates_13 0 rfl rfl ?_
    refine gC_8_3 hC q_2_77 dX8_rankStates_14 ?_
    refine ga_iload_n hC dX8_rankStates_17 1 rfl rfl ?_
    refine ga_aload_n hC dX8_rankStates_18 0 rfl rfl ?_
    refine gC_8_0 hC q_2_74 dX8_rankStates_19 ?_
    refine ga_iload_n hC dX8_rankStates_22 1 rfl rfl ?_
    refine ga_callV (As := [.int v1]) (st := [.int v1, .ref (ad 32)]) (k := 1) (n := 1) hC h q_4_109 q_2_184 q_2_185 q_1_2 q_2_186 rfl rfl rfl (by decide +kernel) ⟨Nat.le_of_ble_eq_true rfl, Nat.le_of_ble_eq_true rfl⟩ ⟨Nat.le_of_ble_eq_true rfl, Nat.le_of_ble_eq_true rfl⟩ rfl rfl rfl (by decide) rfl (Nat.le_of_ble_eq_true rfl) dX8_rankStates_23 (fun v τ hq => ?_)
    obtain ⟨r2, rfl, h⟩ := hq
    obtain ⟨s3, es3⟩ : ∃ z, z = τ := ⟨_, rfl⟩
    rw [← es3] at h ⊢
    clear es3
    refine ga_if_eq (tgt := 33) hC dX8_rankStates_26 (by decide) (fun hc => ?_) (fun hc => ?_)
    · have h := h.1 hc
      refine ga_iconst (v := (-1)) hC dX8_rankStates_33 (by decide) ?_
      obtain ⟨h5, h⟩ := h
      refine ga_iast hC aC_32 (by decide) h5 dX8_rankStates_34 ?_
      refine ga_sig (σ := cg_i s3 32 v1.toNatClampNeg (-1)) (fun s6 es6 => ?_)
      have h := h s6 es6
      refine ga_iinc (v := v1 + 1) (lv' := [(1, .int (v1 + 1)), (0, .ref (ad 8))]) hC dX8_rankStates_35 1 rfl rfl (by decide) rfl ?_
      refine ga_goto (tgt := 2) hC dX8_rankStates_38 (by decide) ?_
      refine ga_locals [1, 0] rfl ?_
      exact h p l e s m args below meth c D cy ad hC
    · have h := h.2 hc
      refine ga_iconst (v := 0) hC dX8_rankStates_29 (by decide) ?_
      refine ga_goto (tgt := 34) hC dX8_rankStates_30 (by decide) ?_
      obtain ⟨h7, h⟩ := h
      refine ga_iast hC aC_32 (by decide) h7 dX8_rankStates_34 ?_
      refine ga_sig (σ := cg_i s3 32 v1.toNatClampNeg 0) (fun s8 es8 => ?_)
      have h := h s8 es8
      refine ga_iinc (v := v1 + 1) (lv' := [(1, .int (v1 + 1)), (0, .ref (ad 8))]) hC dX8_rankStates_35 1 rfl rfl (by decide) rfl ?_
      refine ga_goto (tgt := 2) hC dX8_rankStates_38 (by decide) ?_
      refine ga_locals [1, 0] rfl ?_
      exact h p l e s m args below meth c D cy ad hC
set_option maxRecDepth 100000 in
set_option maxHeartbeats 4000000 in
theorem v_X8_rankStates {σ : cg_S} {Q : cg_S → Prop}
    (h : L_X8_rankStates_2 0 σ Q) : M_X8_rankStates σ Q := by
  refine cg_entry (lv := fun ad => [(0, .ref (ad 8))]) (by decide +kernel) (fun _ => rfl) (fun _ => Nat.le_of_ble_eq_true rfl) ?_
  intro p l e s m args below meth c D cy ad hC
  refine ga_iconst (v := 0) hC dX8_rankStates_0 (by decide) ?_
  refine ga_istore_n (lv' := [(1, .int 0), (0, .ref (ad 8))]) hC dX8_rankStates_1 rfl (by decide) rfl ?_
  refine ga_locals [1, 0] rfl ?_
  exact h p l e s m args below meth c D cy ad hC
def M_X8_lowerThan (v1 : Int32) (σ : cg_S) (Q : Int32 → cg_S → Prop) : Prop := cg_M cg_WC yX8_lowerThan cX8_lowerThan 4 (some .int) (cg_R 0) (fun ad => [.ref (ad 8), .int v1]) σ (cg_qi Q)
theorem M_X8_lowerThan.mono {v1 : Int32} {σ : cg_S} {Q Q2 : Int32 → cg_S → Prop} (h : M_X8_lowerThan v1 σ Q) (hq : ∀ r τ, Q r τ → Q2 r τ) : M_X8_lowerThan v1 σ Q2 := cg_M.mono h (fun ad v τ ⟨r, e, q⟩ => ⟨r, e, hq r τ q⟩)
def L_X8_lowerThan_4 (v1 : Int32) (v2 : Int32) (v3 : Int32) (σ : cg_S) (Q : Int32 → cg_S → Prop) : Prop := cg_L cg_WC RX8 cX8_lowerThan 4 (some .int) (cg_R 0) 4 (fun ad => [(0, .ref (ad 8)), (1, .int v1), (2, .int v2), (3, .int v3)]) (fun ad => []) σ (cg_qi Q)
set_option maxRecDepth 100000 in
set_option maxHeartbeats 4000000 in
theorem v_X8_lowerThan_4 {v1 : Int32} {v2 : Int32} {v3 : Int32} {σ : cg_S} {Q : Int32 → cg_S → Prop}
    (h : ((σ.1 1 0) ≤ v3 → Q v2 σ) ∧ (¬ (σ.1 1 0) ≤ v3 → vp_in v3 7 ∧ ((σ.1 32 v3.toNatClampNeg) < 0 → L_X8_lowerThan_4 v1 v2 (v3 + 1) σ Q) ∧ (¬ (σ.1 32 v3.toNatClampNeg) < 0 → vp_in v3 7 ∧ vp_in v1 7 ∧ ((σ.1 32 v1.toNatClampNeg) ≤ (σ.1 32 v3.toNatClampNeg) → L_X8_lowerThan_4 v1 v2 (v3 + 1) σ Q) ∧ (¬ (σ.1 32 v1.toNatClampNeg) ≤ (σ.1 32 v3.toNatClampNeg) → ∀ x4 : Int32, x4 = v2 ||| (1 <<< (v3 &&& 31)) → L_X8_lowerThan_4 v1 x4 (v3 + 1) σ Q)))) : L_X8_lowerThan_4 v1 v2 v3 σ Q := by
  intro p l e s m args below meth c D cy ad hC
  refine ga_iload_n hC dX8_lowerThan_4 3 rfl rfl ?_
  refine ga_aload_n hC dX8_lowerThan_5 0 rfl rfl ?_
  refine gC_8_0 hC q_2_74 dX8_lowerThan_6 ?_
  refine gC_1_0 hC q_1_51 dX8_lowerThan_9 ?_
  refine ga_icmp_ge (tgt := 51) hC dX8_lowerThan_12 (by decide) (fun hc => ?_) (fun hc => ?_)
  · have h := h.1 hc
    refine ga_iload_n hC dX8_lowerThan_51 2 rfl rfl ?_
    exact ga_iret hC dX8_lowerThan_52 ⟨_, rfl, h⟩
  · have h := h.2 hc
    refine ga_aload_n hC dX8_lowerThan_15 0 rfl rfl ?_
    refine gC_8_3 hC q_2_77 dX8_lowerThan_16 ?_
    refine ga_iload_n hC dX8_lowerThan_19 3 rfl rfl ?_
    obtain ⟨h1, h⟩ := h
    refine ga_iald hC aC_32 (by decide) h1 dX8_lowerThan_20 ?_
    refine ga_if_lt (tgt := 45) hC dX8_lowerThan_21 (by decide) (fun hc => ?_) (fun hc => ?_)
    · have h := h.1 hc
      refine ga_iinc (v := v3 + 1) (lv' := [(3, .int (v3 + 1)), (0, .ref (ad 8)), (1, .int v1), (2, .int v2)]) hC dX8_lowerThan_45 3 rfl rfl (by decide) rfl ?_
      refine ga_goto (tgt := 4) hC dX8_lowerThan_48 (by decide) ?_
      refine ga_locals [1, 2, 3, 0] rfl ?_
      exact h p l e s m args below meth c D cy ad hC
    · have h := h.2 hc
      refine ga_aload_n hC dX8_lowerThan_24 0 rfl rfl ?_
      refine gC_8_3 hC q_2_77 dX8_lowerThan_25 ?_
      refine ga_iload_n hC dX8_lowerThan_28 3 rfl rfl ?_
      obtain ⟨h2, h⟩ := h
      refine ga_iald hC aC_32 (by decide) h2 dX8_lowerThan_29 ?_
      refine ga_aload_n hC dX8_lowerThan_30 0 rfl rfl ?_
      refine gC_8_3 hC q_2_77 dX8_lowerThan_31 ?_
      refine ga_iload_n hC dX8_lowerThan_34 1 rfl rfl ?_
      obtain ⟨h3, h⟩ := h
      refine ga_iald hC aC_32 (by decide) h3 dX8_lowerThan_35 ?_
      refine ga_icmp_ge (tgt := 45) hC dX8_lowerThan_36 (by decide) (fun hc => ?_) (fun hc => ?_)
      · have h := h.1 hc
        refine ga_iinc (v := v3 + 1) (lv' := [(3, .int (v3 + 1)), (0, .ref (ad 8)), (1, .int v1), (2, .int v2)]) hC dX8_lowerThan_45 3 rfl rfl (by decide) rfl ?_
        refine ga_goto (tgt := 4) hC dX8_lowerThan_48 (by decide) ?_
        refine ga_locals [1, 2, 3, 0] rfl ?_
        exact h p l e s m args below meth c D cy ad hC
      · have h := h.2 hc
        refine ga_iload_n hC dX8_lowerThan_39 2 rfl rfl ?_
        refine ga_iconst (v := 1) hC dX8_lowerThan_40 (by decide) ?_
        refine ga_iload_n hC dX8_lowerThan_41 3 rfl rfl ?_
        refine ga_ishl hC dX8_lowerThan_42 ?_
        refine ga_ior hC dX8_lowerThan_43 ?_
        refine ga_topi (fun x4 ex4 => ?_)
        have h := h x4 ex4
        refine ga_istore_n (lv' := [(2, .int x4), (0, .ref (ad 8)), (1, .int v1), (3, .int v3)]) hC dX8_lowerThan_44 rfl (by decide) rfl ?_
        refine ga_iinc (v := v3 + 1) (lv' := [(3, .int (v3 + 1)), (2, .int x4), (0, .ref (ad 8)), (1, .int v1)]) hC dX8_lowerThan_45 3 rfl rfl (by decide) rfl ?_
        refine ga_goto (tgt := 4) hC dX8_lowerThan_48 (by decide) ?_
        refine ga_locals [2, 3, 1, 0] rfl ?_
        exact h p l e s m args below meth c D cy ad hC
set_option maxRecDepth 100000 in
set_option maxHeartbeats 4000000 in
theorem v_X8_lowerThan {v1 : Int32} {σ : cg_S} {Q : Int32 → cg_S → Prop}
    (h : L_X8_lowerThan_4 v1 0 0 σ Q) : M_X8_lowerThan v1 σ Q := by
  refine cg_entry (lv := fun ad => [(0, .ref (ad 8)), (1, .int v1)]) (by decide +kernel) (fun _ => rfl) (fun _ => Nat.le_of_ble_eq_true rfl) ?_
  intro p l e s m args below meth c D cy ad hC
  refine ga_iconst (v := 0) hC dX8_lowerThan_0 (by decide) ?_
  refine ga_istore_n (lv' := [(2, .int 0), (0, .ref (ad 8)), (1, .int v1)]) hC dX8_lowerThan_1 rfl (by decide) rfl ?_
  refine ga_iconst (v := 0) hC dX8_lowerThan_2 (by decide) ?_
  refine ga_istore_n (lv' := [(3, .int 0), (2, .int 0), (0, .ref (ad 8)), (1, .int v1)]) hC dX8_lowerThan_3 rfl (by decide) rfl ?_
  refine ga_locals [2, 3, 1, 0] rfl ?_
  exact h p l e s m args below meth c D cy ad hC
def M_X8_lowestGood (v1 : Int32) (v2 : Int32) (v3 : Int32) (σ : cg_S) (Q : Int32 → cg_S → Prop) : Prop := cg_M cg_WC yX8_lowestGood cX8_lowestGood 6 (some .int) (cg_R 3) (fun ad => [.ref (ad 8), .int v1, .int v2, .int v3]) σ (cg_qi Q)
theorem M_X8_lowestGood.mono {v1 : Int32} {v2 : Int32} {v3 : Int32} {σ : cg_S} {Q Q2 : Int32 → cg_S → Prop} (h : M_X8_lowestGood v1 v2 v3 σ Q) (hq : ∀ r τ, Q r τ → Q2 r τ) : M_X8_lowestGood v1 v2 v3 σ Q2 := cg_M.mono h (fun ad v τ ⟨r, e, q⟩ => ⟨r, e, hq r τ q⟩)
def L_X8_lowestGood_3 (v1 : Int32) (v2 : Int32) (v3 : Int32) (v4 : Int32) (σ : cg_S) (Q : Int32 → cg_S → Prop) : Prop := cg_L cg_WC RX8 cX8_lowestGood 6 (some .int) (cg_R 3) 3 (fun ad => [(0, .ref (ad 8)), (1, .int v1), (2, .int v2), (3, .int v3), (4, .int v4)]) (fun ad => []) σ (cg_qi Q)
set_option maxRecDepth 100000 in
set_option maxHeartbeats 4000000 in
theorem v_X8_lowestGood_3 {v1 : Int32} {v2 : Int32} {v3 : Int32} {v4 : Int32} {σ : cg_S} {Q : Int32 → cg_S → Prop}
    (h : vp_in v2 7 ∧ ((σ.1 21 v2.toNatClampNeg) ≤ v4 → Q 0 σ) ∧ (¬ (σ.1 21 v2.toNatClampNeg) ≤ v4 → M_X2_moveOf v2 v4 σ (fun r2 s3 => M_X0_isGood v1 v2 r2 s3 (fun r5 s6 => (r5 = 0 → L_X8_lowestGood_3 v1 v2 v3 (v4 + 1) s6 Q) ∧ (¬ r5 = 0 → vp_in r2 21 ∧ (((s6.1 25 r2.toNatClampNeg) &&& v3) = 0 → L_X8_lowestGood_3 v1 v2 v3 (v4 + 1) s6 Q) ∧ (¬ ((s6.1 25 r2.toNatClampNeg) &&& v3) = 0 → Q v4 s6)))))) : L_X8_lowestGood_3 v1 v2 v3 v4 σ Q := by
  intro p l e s m args below meth c D cy ad hC
  refine ga_iload hC dX8_lowestGood_3 4 rfl ?_
  refine ga_aload_n hC dX8_lowestGood_5 0 rfl rfl ?_
  refine gC_8_0 hC q_2_74 dX8_lowestGood_6 ?_
  refine gC_1_9 hC q_1_77 dX8_lowestGood_9 ?_
  refine ga_iload_n hC dX8_lowestGood_12 2 rfl rfl ?_
  obtain ⟨h1, h⟩ := h
  refine ga_iald hC aC_21 (by decide) h1 dX8_lowestGood_13 ?_
  refine ga_icmp_ge (tgt := 63) hC dX8_lowestGood_14 (by decide) (fun hc => ?_) (fun hc => ?_)
  · have h := h.1 hc
    refine ga_iconst (v := 0) hC dX8_lowestGood_63 (by decide) ?_
    exact ga_iret hC dX8_lowestGood_64 ⟨_, rfl, h⟩
  · have h := h.2 hc
    refine ga_iload_n hC dX8_lowestGood_17 2 rfl rfl ?_
    refine ga_iload hC dX8_lowestGood_18 4 rfl ?_
    refine ga_callS (As := [.int v2, .int v4]) (st := []) (n := 2) hC h q_4_118 q_2_169 q_1_2 q_2_170 rfl rfl rfl (by decide +kernel) ⟨Nat.le_of_ble_eq_true rfl, Nat.le_of_ble_eq_true rfl⟩ ⟨Nat.le_of_ble_eq_true rfl, Nat.le_of_ble_eq_true rfl⟩ rfl rfl (Nat.le_of_ble_eq_true rfl) dX8_lowestGood_20 (fun v τ hq => ?_)
    obtain ⟨r2, rfl, h⟩ := hq
    obtain ⟨s3, es3⟩ : ∃ z, z = τ := ⟨_, rfl⟩
    rw [← es3] at h ⊢
    clear es3
    refine ga_istore (lv' := [(5, .int r2), (0, .ref (ad 8)), (1, .int v1), (2, .int v2), (3, .int v3), (4, .int v4)]) hC dX8_lowestGood_23 (by decide) rfl ?_
    refine ga_aload_n hC dX8_lowestGood_25 1 rfl rfl ?_
    refine gC_8_1 hC q_2_75 dX8_lowestGood_26 ?_
    refine ga_iload_n hC dX8_lowestGood_29 2 rfl rfl ?_
    refine ga_iload_n hC dX8_lowestGood_30 3 rfl rfl ?_
    refine ga_iload hC dX8_lowestGood_31 0 rfl ?_
    refine ga_callV (As := [.int v1, .int v2, .int r2]) (st := []) (k := 3) (n := 3) hC h q_4_119 q_4_120 q_4_121 q_1_4 q_4_122 rfl rfl rfl (by decide +kernel) ⟨Nat.le_of_ble_eq_true rfl, Nat.le_of_ble_eq_true rfl⟩ ⟨Nat.le_of_ble_eq_true rfl, Nat.le_of_ble_eq_true rfl⟩ rfl rfl rfl (by decide) rfl (Nat.le_of_ble_eq_true rfl) dX8_lowestGood_33 (fun v τ hq => ?_)
    obtain ⟨r5, rfl, h⟩ := hq
    obtain ⟨s6, es6⟩ : ∃ z, z = τ := ⟨_, rfl⟩
    rw [← es6] at h ⊢
    clear es6
    refine ga_if_eq (tgt := 57) hC dX8_lowestGood_36 (by decide) (fun hc => ?_) (fun hc => ?_)
    · have h := h.1 hc
      refine ga_iinc (v := v4 + 1) (lv' := [(4, .int (v4 + 1)), (5, .int r2), (0, .ref (ad 8)), (1, .int v1), (2, .int v2), (3, .int v3)]) hC dX8_lowestGood_57 5 rfl rfl (by decide) rfl ?_
      refine ga_goto (tgt := 3) hC dX8_lowestGood_60 (by decide) ?_
      refine ga_locals [2, 3, 4, 5, 0] rfl ?_
      exact h p l e s m args below meth c D cy ad hC
    · have h := h.2 hc
      refine ga_aload_n hC dX8_lowestGood_39 1 rfl rfl ?_
      refine gC_8_0 hC q_2_74 dX8_lowestGood_40 ?_
      refine gC_1_13 hC q_1_97 dX8_lowestGood_43 ?_
      refine ga_iload hC dX8_lowestGood_46 0 rfl ?_
      obtain ⟨h8, h⟩ := h
      refine ga_iald hC aC_25 (by decide) h8 dX8_lowestGood_48 ?_
      refine ga_iload_n hC dX8_lowestGood_49 4 rfl rfl ?_
      refine ga_iand hC dX8_lowestGood_50 ?_
      refine ga_if_eq (tgt := 57) hC dX8_lowestGood_51 (by decide) (fun hc => ?_) (fun hc => ?_)
      · have h := h.1 hc
        refine ga_iinc (v := v4 + 1) (lv' := [(4, .int (v4 + 1)), (5, .int r2), (0, .ref (ad 8)), (1, .int v1), (2, .int v2), (3, .int v3)]) hC dX8_lowestGood_57 5 rfl rfl (by decide) rfl ?_
        refine ga_goto (tgt := 3) hC dX8_lowestGood_60 (by decide) ?_
        refine ga_locals [2, 3, 4, 5, 0] rfl ?_
        exact h p l e s m args below meth c D cy ad hC
      · have h := h.2 hc
        refine ga_iload hC dX8_lowestGood_54 5 rfl ?_
        exact ga_iret hC dX8_lowestGood_56 ⟨_, rfl, h⟩
set_option maxRecDepth 100000 in
set_option maxHeartbeats 4000000 in
theorem v_X8_lowestGood {v1 : Int32} {v2 : Int32} {v3 : Int32} {σ : cg_S} {Q : Int32 → cg_S → Prop}
    (h : L_X8_lowestGood_3 v1 v2 v3 0 σ Q) : M_X8_lowestGood v1 v2 v3 σ Q := by
  refine cg_entry (lv := fun ad => [(0, .ref (ad 8)), (1, .int v1), (2, .int v2), (3, .int v3)]) (by decide +kernel) (fun _ => rfl) (fun _ => Nat.le_of_ble_eq_true rfl) ?_
  intro p l e s m args below meth c D cy ad hC
  refine ga_iconst (v := 0) hC dX8_lowestGood_0 (by decide) ?_
  refine ga_istore (lv' := [(4, .int 0), (0, .ref (ad 8)), (1, .int v1), (2, .int v2), (3, .int v3)]) hC dX8_lowestGood_1 (by decide) rfl ?_
  refine ga_locals [1, 2, 3, 4, 0] rfl ?_
  exact h p l e s m args below meth c D cy ad hC
def M_X8_tellBest (v1 : Int32) (v2 : Nat) (σ : cg_S) (Q : Int32 → cg_S → Prop) : Prop := cg_M cg_WC yX8_tellBest cX8_tellBest 7 (some .int) (cg_R 5) (fun ad => [.ref (ad 8), .int v1, .ref (ad v2)]) σ (cg_qi Q)
theorem M_X8_tellBest.mono {v1 : Int32} {v2 : Nat} {σ : cg_S} {Q Q2 : Int32 → cg_S → Prop} (h : M_X8_tellBest v1 v2 σ Q) (hq : ∀ r τ, Q r τ → Q2 r τ) : M_X8_tellBest v1 v2 σ Q2 := cg_M.mono h (fun ad v τ ⟨r, e, q⟩ => ⟨r, e, hq r τ q⟩)
def L_X8_tellBest_26 (v1 : Int32) (v2 : Nat) (v3 : Int32) (v4 : Int32) (σ : cg_S) (Q : Int32 → cg_S → Prop) : Prop := cg_L cg_WC RX8 cX8_tellBest 7 (some .int) (cg_R 5) 26 (fun ad => [(0, .ref (ad 8)), (1, .int v1), (2, .ref (ad v2)), (3, .int v3), (4, .int v4)]) (fun ad => []) σ (cg_qi Q)
def L_X8_tellBest_86 (v1 : Int32) (v2 : Nat) (v3 : Int32) (v4 : Int32) (t0 : Int32) (σ : cg_S) (Q : Int32 → cg_S → Prop) : Prop := cg_L cg_WC RX8 cX8_tellBest 7 (some .int) (cg_R 5) 86 (fun ad => [(0, .ref (ad 8)), (1, .int v1), (2, .ref (ad v2)), (3, .int v3), (4, .int v4)]) (fun ad => [.int t0]) σ (cg_qi Q)
def L_X8_tellBest_113 (v1 : Int32) (v2 : Nat) (v3 : Int32) (v4 : Int32) (t1 : Int32) (t2 : Int32) (t3 : Int32) (σ : cg_S) (Q : Int32 → cg_S → Prop) : Prop := cg_L cg_WC RX8 cX8_tellBest 7 (some .int) (cg_R 5) 113 (fun ad => [(0, .ref (ad 8)), (1, .int v1), (2, .ref (ad v2)), (3, .int v3), (4, .int v4)]) (fun ad => [.int t3, .int t2, .int t1, .ref (ad 8)]) σ (cg_qi Q)
set_option maxRecDepth 100000 in
set_option maxHeartbeats 4000000 in
theorem v_X8_tellBest_113 {v1 : Int32} {v2 : Nat} {v3 : Int32} {v4 : Int32} {t1 : Int32} {t2 : Int32} {t3 : Int32} {σ : cg_S} {Q : Int32 → cg_S → Prop} (h_v2 : v2 = 19 ∨ v2 = 29 ∨ v2 = 30)
    (h : M_X8_lowestGood t1 t2 t3 σ (fun r1 s2 => vp_in v4 7 ∧ (r1 = (s2.1 v2 v4.toNatClampNeg) → vp_in v4 7 ∧ ∀ s6 : cg_S, s6 = cg_i s2 v2 v4.toNatClampNeg r1 → L_X8_tellBest_26 v1 v2 v3 (v4 + 1) s6 Q) ∧ (¬ r1 = (s2.1 v2 v4.toNatClampNeg) → vp_in v4 7 ∧ ∀ s8 : cg_S, s8 = cg_i s2 v2 v4.toNatClampNeg r1 → L_X8_tellBest_26 v1 v2 (v3 + 1) (v4 + 1) s8 Q))) : L_X8_tellBest_113 v1 v2 v3 v4 t1 t2 t3 σ Q := by
  intro p l e s m args below meth c D cy ad hC
  refine ga_callV (As := [.int t1, .int t2, .int t3]) (st := []) (k := 8) (n := 3) hC h q_4_130 q_4_131 q_4_132 q_1_10 q_4_133 rfl rfl rfl (by decide +kernel) ⟨Nat.le_of_ble_eq_true rfl, Nat.le_of_ble_eq_true rfl⟩ ⟨Nat.le_of_ble_eq_true rfl, Nat.le_of_ble_eq_true rfl⟩ rfl rfl rfl (by decide) rfl (Nat.le_of_ble_eq_true rfl) dX8_tellBest_113 (fun v τ hq => ?_)
  obtain ⟨r1, rfl, h⟩ := hq
  obtain ⟨s2, es2⟩ : ∃ z, z = τ := ⟨_, rfl⟩
  rw [← es2] at h ⊢
  clear es2
  refine ga_istore (lv' := [(6, .int r1), (0, .ref (ad 8)), (1, .int v1), (2, .ref (ad v2)), (3, .int v3), (4, .int v4)]) hC dX8_tellBest_116 (by decide) rfl ?_
  refine ga_iload hC dX8_tellBest_118 0 rfl ?_
  refine ga_aload_n hC dX8_tellBest_120 3 rfl rfl ?_
  refine ga_iload hC dX8_tellBest_121 5 rfl ?_
  obtain ⟨h4, h⟩ := h
  refine ga_iald hC (aC_p h_v2) (show _ < 88 by have := h_v2; omega) h4 dX8_tellBest_123 ?_
  refine ga_icmp_eq (tgt := 130) hC dX8_tellBest_124 (by decide) (fun hc => ?_) (fun hc => ?_)
  · have h := h.1 hc
    refine ga_aload_n hC dX8_tellBest_130 3 rfl rfl ?_
    refine ga_iload hC dX8_tellBest_131 5 rfl ?_
    refine ga_iload hC dX8_tellBest_133 0 rfl ?_
    obtain ⟨h5, h⟩ := h
    refine ga_iast hC (aC_p h_v2) (show _ < 88 by have := h_v2; omega) h5 dX8_tellBest_135 ?_
    refine ga_sig (σ := cg_i s2 v2 v4.toNatClampNeg r1) (fun s6 es6 => ?_)
    have h := h s6 es6
    refine ga_iinc (v := v4 + 1) (lv' := [(4, .int (v4 + 1)), (6, .int r1), (0, .ref (ad 8)), (1, .int v1), (2, .ref (ad v2)), (3, .int v3)]) hC dX8_tellBest_136 5 rfl rfl (by decide) rfl ?_
    refine ga_goto (tgt := 26) hC dX8_tellBest_139 (by decide) ?_
    refine ga_locals [2, 3, 4, 5, 0] rfl ?_
    exact h p l e s m args below meth c D cy ad hC
  · have h := h.2 hc
    refine ga_iinc (v := v3 + 1) (lv' := [(3, .int (v3 + 1)), (6, .int r1), (0, .ref (ad 8)), (1, .int v1), (2, .ref (ad v2)), (4, .int v4)]) hC dX8_tellBest_127 4 rfl rfl (by decide) rfl ?_
    refine ga_aload_n hC dX8_tellBest_130 4 rfl rfl ?_
    refine ga_iload hC dX8_tellBest_131 5 rfl ?_
    refine ga_iload hC dX8_tellBest_133 1 rfl ?_
    obtain ⟨h7, h⟩ := h
    refine ga_iast hC (aC_p h_v2) (show _ < 88 by have := h_v2; omega) h7 dX8_tellBest_135 ?_
    refine ga_sig (σ := cg_i s2 v2 v4.toNatClampNeg r1) (fun s8 es8 => ?_)
    have h := h s8 es8
    refine ga_iinc (v := v4 + 1) (lv' := [(4, .int (v4 + 1)), (3, .int (v3 + 1)), (6, .int r1), (0, .ref (ad 8)), (1, .int v1), (2, .ref (ad v2))]) hC dX8_tellBest_136 5 rfl rfl (by decide) rfl ?_
    refine ga_goto (tgt := 26) hC dX8_tellBest_139 (by decide) ?_
    refine ga_locals [3, 4, 5, 1, 0] rfl ?_
    exact h p l e s m args below meth c D cy ad hC
set_option maxRecDepth 100000 in
set_option maxHeartbeats 4000000 in
theorem v_X8_tellBest_86 {v1 : Int32} {v2 : Nat} {v3 : Int32} {v4 : Int32} {t0 : Int32} {σ : cg_S} {Q : Int32 → cg_S → Prop} (h_v2 : v2 = 19 ∨ v2 = 29 ∨ v2 = 30)
    (h : (t0 = 0 → M_X2_everyState σ (fun r1 s2 => L_X8_tellBest_113 v1 v2 v3 v4 v1 v4 r1 s2 Q)) ∧ (¬ t0 = 0 → M_X8_lowerThan v4 σ (fun r4 s5 => L_X8_tellBest_113 v1 v2 v3 v4 v1 v4 r4 s5 Q))) : L_X8_tellBest_86 v1 v2 v3 v4 t0 σ Q := by
  intro p l e s m args below meth c D cy ad hC
  refine ga_istore (lv' := [(5, .int t0), (0, .ref (ad 8)), (1, .int v1), (2, .ref (ad v2)), (3, .int v3), (4, .int v4)]) hC dX8_tellBest_86 (by decide) rfl ?_
  refine ga_aload_n hC dX8_tellBest_88 1 rfl rfl ?_
  refine ga_iload_n hC dX8_tellBest_89 2 rfl rfl ?_
  refine ga_iload hC dX8_tellBest_90 5 rfl ?_
  refine ga_iload hC dX8_tellBest_92 0 rfl ?_
  refine ga_if_eq (tgt := 106) hC dX8_tellBest_94 (by decide) (fun hc => ?_) (fun hc => ?_)
  · have h := h.1 hc
    refine ga_aload_n hC dX8_tellBest_106 1 rfl rfl ?_
    refine gC_8_0 hC q_2_74 dX8_tellBest_107 ?_
    refine ga_callV (As := []) (st := [.int v4, .int v1, .ref (ad 8)]) (k := 1) (n := 0) hC h q_4_129 q_2_233 q_2_234 q_1_2 q_2_235 rfl rfl rfl (by decide +kernel) ⟨Nat.le_of_ble_eq_true rfl, Nat.le_of_ble_eq_true rfl⟩ ⟨Nat.le_of_ble_eq_true rfl, Nat.le_of_ble_eq_true rfl⟩ rfl rfl rfl (by decide) rfl (Nat.le_of_ble_eq_true rfl) dX8_tellBest_110 (fun v τ hq => ?_)
    obtain ⟨r1, rfl, h⟩ := hq
    obtain ⟨s2, es2⟩ : ∃ z, z = τ := ⟨_, rfl⟩
    rw [← es2] at h ⊢
    clear es2
    refine ga_locals [1, 2, 3, 4, 5] rfl ?_
    exact h p l e s m args below meth c D cy ad hC
  · have h := h.2 hc
    refine ga_aload_n hC dX8_tellBest_97 1 rfl rfl ?_
    refine ga_iload hC dX8_tellBest_98 5 rfl ?_
    refine ga_callV (As := [.int v4]) (st := [.int v4, .int v1, .ref (ad 8)]) (k := 8) (n := 1) hC h q_4_125 q_4_126 q_4_127 q_1_10 q_4_128 rfl rfl rfl (by decide +kernel) ⟨Nat.le_of_ble_eq_true rfl, Nat.le_of_ble_eq_true rfl⟩ ⟨Nat.le_of_ble_eq_true rfl, Nat.le_of_ble_eq_true rfl⟩ rfl rfl rfl (by decide) rfl (Nat.le_of_ble_eq_true rfl) dX8_tellBest_100 (fun v τ hq => ?_)
    obtain ⟨r4, rfl, h⟩ := hq
    obtain ⟨s5, es5⟩ : ∃ z, z = τ := ⟨_, rfl⟩
    rw [← es5] at h ⊢
    clear es5
    refine ga_goto (tgt := 113) hC dX8_tellBest_103 (by decide) ?_
    refine ga_locals [1, 2, 3, 4, 5] rfl ?_
    exact h p l e s m args below meth c D cy ad hC
set_option maxRecDepth 100000 in
set_option maxHeartbeats 4000000 in
theorem v_X8_tellBest_26 {v1 : Int32} {v2 : Nat} {v3 : Int32} {v4 : Int32} {σ : cg_S} {Q : Int32 → cg_S → Prop} (h_v2 : v2 = 19 ∨ v2 = 29 ∨ v2 = 30)
    (h : ((σ.1 1 0) ≤ v4 → Q v3 σ) ∧ (¬ (σ.1 1 0) ≤ v4 → (¬ v1 = 114 → L_X8_tellBest_86 v1 v2 v3 v4 0 σ Q) ∧ (v1 = 114 → vp_in v4 7 ∧ ((σ.1 57 v4.toNatClampNeg) = 0 → L_X8_tellBest_86 v1 v2 v3 v4 0 σ Q) ∧ (¬ (σ.1 57 v4.toNatClampNeg) = 0 → M_X2_isTarget v4 σ (fun r2 s3 => (¬ r2 = 0 → L_X8_tellBest_86 v1 v2 v3 v4 0 s3 Q) ∧ (r2 = 0 → M_X0_isNought v4 s3 (fun r5 s6 => (¬ r5 = 0 → L_X8_tellBest_86 v1 v2 v3 v4 0 s6 Q) ∧ (r5 = 0 → L_X8_tellBest_86 v1 v2 v3 v4 1 s6 Q)))))))) : L_X8_tellBest_26 v1 v2 v3 v4 σ Q := by
  intro p l e s m args below meth c D cy ad hC
  refine ga_iload hC dX8_tellBest_26 4 rfl ?_
  refine ga_aload_n hC dX8_tellBest_28 0 rfl rfl ?_
  refine gC_8_0 hC q_2_74 dX8_tellBest_29 ?_
  refine gC_1_0 hC q_1_51 dX8_tellBest_32 ?_
  refine ga_icmp_ge (tgt := 142) hC dX8_tellBest_35 (by decide) (fun hc => ?_) (fun hc => ?_)
  · have h := h.1 hc
    refine ga_iload_n hC dX8_tellBest_142 3 rfl rfl ?_
    exact ga_iret hC dX8_tellBest_143 ⟨_, rfl, h⟩
  · have h := h.2 hc
    refine ga_iload_n hC dX8_tellBest_38 1 rfl rfl ?_
    refine ga_bipush (v := 114) hC dX8_tellBest_39 (by decide) ?_
    refine ga_icmp_ne (tgt := 85) hC dX8_tellBest_41 (by decide) (fun hc => ?_) (fun hc => ?_)
    · have h := h.1 hc
      refine ga_iconst (v := 0) hC dX8_tellBest_85 (by decide) ?_
      refine ga_locals [0, 1, 2, 3, 4] rfl ?_
      exact h p l e s m args below meth c D cy ad hC
    · have h := h.2 hc
      refine ga_aload_n hC dX8_tellBest_44 0 rfl rfl ?_
      refine gC_8_0 hC q_2_74 dX8_tellBest_45 ?_
      refine gC_1_7 hC q_1_70 dX8_tellBest_48 ?_
      refine ga_iload hC dX8_tellBest_51 4 rfl ?_
      obtain ⟨h1, h⟩ := h
      refine ga_zald hC aC_57 (by decide) h1 dX8_tellBest_53 ?_
      refine ga_if_eq (tgt := 85) hC dX8_tellBest_54 (by decide) (fun hc => ?_) (fun hc => ?_)
      · have h := h.1 hc
        refine ga_iconst (v := 0) hC dX8_tellBest_85 (by decide) ?_
        refine ga_locals [0, 1, 2, 3, 4] rfl ?_
        exact h p l e s m args below meth c D cy ad hC
      · have h := h.2 hc
        refine ga_aload_n hC dX8_tellBest_57 0 rfl rfl ?_
        refine gC_8_0 hC q_2_74 dX8_tellBest_58 ?_
        refine ga_iload hC dX8_tellBest_61 4 rfl ?_
        refine ga_callV (As := [.int v4]) (st := []) (k := 1) (n := 1) hC h q_4_109 q_2_184 q_2_185 q_1_2 q_2_186 rfl rfl rfl (by decide +kernel) ⟨Nat.le_of_ble_eq_true rfl, Nat.le_of_ble_eq_true rfl⟩ ⟨Nat.le_of_ble_eq_true rfl, Nat.le_of_ble_eq_true rfl⟩ rfl rfl rfl (by decide) rfl (Nat.le_of_ble_eq_true rfl) dX8_tellBest_63 (fun v τ hq => ?_)
        obtain ⟨r2, rfl, h⟩ := hq
        obtain ⟨s3, es3⟩ : ∃ z, z = τ := ⟨_, rfl⟩
        rw [← es3] at h ⊢
        clear es3
        refine ga_if_ne (tgt := 85) hC dX8_tellBest_66 (by decide) (fun hc => ?_) (fun hc => ?_)
        · have h := h.1 hc
          refine ga_iconst (v := 0) hC dX8_tellBest_85 (by decide) ?_
          refine ga_locals [0, 1, 2, 3, 4] rfl ?_
          exact h p l e s m args below meth c D cy ad hC
        · have h := h.2 hc
          refine ga_aload_n hC dX8_tellBest_69 0 rfl rfl ?_
          refine gC_8_1 hC q_2_75 dX8_tellBest_70 ?_
          refine ga_iload hC dX8_tellBest_73 4 rfl ?_
          refine ga_callV (As := [.int v4]) (st := []) (k := 3) (n := 1) hC h q_4_110 q_4_111 q_4_112 q_1_4 q_4_113 rfl rfl rfl (by decide +kernel) ⟨Nat.le_of_ble_eq_true rfl, Nat.le_of_ble_eq_true rfl⟩ ⟨Nat.le_of_ble_eq_true rfl, Nat.le_of_ble_eq_true rfl⟩ rfl rfl rfl (by decide) rfl (Nat.le_of_ble_eq_true rfl) dX8_tellBest_75 (fun v τ hq => ?_)
          obtain ⟨r5, rfl, h⟩ := hq
          obtain ⟨s6, es6⟩ : ∃ z, z = τ := ⟨_, rfl⟩
          rw [← es6] at h ⊢
          clear es6
          refine ga_if_ne (tgt := 85) hC dX8_tellBest_78 (by decide) (fun hc => ?_) (fun hc => ?_)
          · have h := h.1 hc
            refine ga_iconst (v := 0) hC dX8_tellBest_85 (by decide) ?_
            refine ga_locals [0, 1, 2, 3, 4] rfl ?_
            exact h p l e s m args below meth c D cy ad hC
          · have h := h.2 hc
            refine ga_iconst (v := 1) hC dX8_tellBest_81 (by decide) ?_
            refine ga_goto (tgt := 86) hC dX8_tellBest_82 (by decide) ?_
            refine ga_locals [0, 1, 2, 3, 4] rfl ?_
            exact h p l e s m args below meth c D cy ad hC
set_option maxRecDepth 100000 in
set_option maxHeartbeats 4000000 in
theorem v_X8_tellBest {v1 : Int32} {v2 : Nat} {σ : cg_S} {Q : Int32 → cg_S → Prop} (h_v2 : v2 = 19 ∨ v2 = 29 ∨ v2 = 30)
    (h : M_X4_improve v1 v2 1 1 σ (fun s2 => (¬ v1 = 114 → L_X8_tellBest_26 v1 v2 0 0 s2 Q) ∧ (v1 = 114 → M_X8_rankStates s2 (fun s5 => L_X8_tellBest_26 v1 v2 0 0 s5 Q)))) : M_X8_tellBest v1 v2 σ Q := by
  refine cg_entry (lv := fun ad => [(0, .ref (ad 8)), (1, .int v1), (2, .ref (ad v2))]) (by decide +kernel) (fun _ => rfl) (fun _ => Nat.le_of_ble_eq_true rfl) ?_
  intro p l e s m args below meth c D cy ad hC
  refine ga_aload_n hC dX8_tellBest_0 0 rfl rfl ?_
  refine gC_8_2 hC q_2_76 dX8_tellBest_1 ?_
  refine ga_iload_n hC dX8_tellBest_4 1 rfl rfl ?_
  refine ga_aload_n hC dX8_tellBest_5 2 rfl rfl ?_
  refine ga_iconst (v := 1) hC dX8_tellBest_6 (by decide) ?_
  refine ga_iconst (v := 1) hC dX8_tellBest_7 (by decide) ?_
  refine ga_callV (As := [.int v1, .ref (ad v2), .int 1, .int 1]) (st := []) (k := 6) (n := 4) hC h q_4_104 q_2_216 q_2_217 q_1_6 q_2_218 rfl rfl rfl (by decide +kernel) ⟨Nat.le_of_ble_eq_true rfl, Nat.le_of_ble_eq_true rfl⟩ ⟨Nat.le_of_ble_eq_true rfl, Nat.le_of_ble_eq_true rfl⟩ rfl rfl rfl (by decide) rfl (Nat.le_of_ble_eq_true rfl) dX8_tellBest_8 (fun v τ hq => ?_)
  obtain ⟨rfl, h⟩ := hq
  obtain ⟨s2, es2⟩ : ∃ z, z = τ := ⟨_, rfl⟩
  rw [← es2] at h ⊢
  clear es2
  refine ga_iload_n hC dX8_tellBest_11 1 rfl rfl ?_
  refine ga_bipush (v := 114) hC dX8_tellBest_12 (by decide) ?_
  refine ga_icmp_ne (tgt := 21) hC dX8_tellBest_14 (by decide) (fun hc => ?_) (fun hc => ?_)
  · have h := h.1 hc
    refine ga_iconst (v := 0) hC dX8_tellBest_21 (by decide) ?_
    refine ga_istore_n (lv' := [(3, .int 0), (0, .ref (ad 8)), (1, .int v1), (2, .ref (ad v2))]) hC dX8_tellBest_22 rfl (by decide) rfl ?_
    refine ga_iconst (v := 0) hC dX8_tellBest_23 (by decide) ?_
    refine ga_istore (lv' := [(4, .int 0), (3, .int 0), (0, .ref (ad 8)), (1, .int v1), (2, .ref (ad v2))]) hC dX8_tellBest_24 (by decide) rfl ?_
    refine ga_locals [2, 3, 4, 1, 0] rfl ?_
    exact h p l e s m args below meth c D cy ad hC
  · have h := h.2 hc
    refine ga_aload_n hC dX8_tellBest_17 0 rfl rfl ?_
    refine ga_callV (As := []) (st := []) (k := 8) (n := 0) hC h q_4_105 q_4_106 q_4_107 q_1_10 q_4_108 rfl rfl rfl (by decide +kernel) ⟨Nat.le_of_ble_eq_true rfl, Nat.le_of_ble_eq_true rfl⟩ ⟨Nat.le_of_ble_eq_true rfl, Nat.le_of_ble_eq_true rfl⟩ rfl rfl rfl (by decide) rfl (Nat.le_of_ble_eq_true rfl) dX8_tellBest_18 (fun v τ hq => ?_)
    obtain ⟨rfl, h⟩ := hq
    obtain ⟨s5, es5⟩ : ∃ z, z = τ := ⟨_, rfl⟩
    rw [← es5] at h ⊢
    clear es5
    refine ga_iconst (v := 0) hC dX8_tellBest_21 (by decide) ?_
    refine ga_istore_n (lv' := [(3, .int 0), (0, .ref (ad 8)), (1, .int v1), (2, .ref (ad v2))]) hC dX8_tellBest_22 rfl (by decide) rfl ?_
    refine ga_iconst (v := 0) hC dX8_tellBest_23 (by decide) ?_
    refine ga_istore (lv' := [(4, .int 0), (3, .int 0), (0, .ref (ad 8)), (1, .int v1), (2, .ref (ad v2))]) hC dX8_tellBest_24 (by decide) rfl ?_
    refine ga_locals [2, 3, 4, 1, 0] rfl ?_
    exact h p l e s m args below meth c D cy ad hC
def M_X9_lengthen (v1 : Int32) (v2 : Int32) (σ : cg_S) (Q : cg_S → Prop) : Prop := cg_M cg_WC yX9_lengthen cX9_lengthen 9 none (cg_R 2) (fun ad => [.ref (ad 10), .int v1, .int v2]) σ (cg_qv Q)
theorem M_X9_lengthen.mono {v1 : Int32} {v2 : Int32} {σ : cg_S} {Q Q2 : cg_S → Prop} (h : M_X9_lengthen v1 v2 σ Q) (hq : ∀ τ, Q τ → Q2 τ) : M_X9_lengthen v1 v2 σ Q2 := cg_M.mono h (fun ad v τ ⟨e, q⟩ => ⟨e, hq τ q⟩)
def L_X9_lengthen_2 (v1 : Int32) (v2 : Int32) (v3 : Int32) (σ : cg_S) (Q : cg_S → Prop) : Prop := cg_L cg_WC RX9 cX9_lengthen 9 none (cg_R 2) 2 (fun ad => [(0, .ref (ad 10)), (1, .int v1), (2, .int v2), (3, .int v3)]) (fun ad => []) σ (cg_qv Q)
def L_X9_lengthen_136 (v1 : Int32) (v2 : Int32) (v3 : Int32) (v4 : Int64) (v6 : Int64) (σ : cg_S) (Q : cg_S → Prop) : Prop := cg_L cg_WC RX9 cX9_lengthen 9 none (cg_R 2) 136 (fun ad => [(0, .ref (ad 10)), (1, .int v1), (2, .int v2), (3, .int v3), (4, .long v4), (6, .long v6)]) (fun ad => []) σ (cg_qv Q)
set_option maxRecDepth 100000 in
set_option maxHeartbeats 4000000 in
theorem v_X9_lengthen_136 {v1 : Int32} {v2 : Int32} {v3 : Int32} {v4 : Int64} {v6 : Int64} {σ : cg_S} {Q : cg_S → Prop}
    (h : M_X10_put 18 v1 v4 v6 σ (fun s2 => vp_in v3 7 ∧ vp_in v1 7 ∧ ∀ s6 : cg_S, s6 = cg_i s2 35 v1.toNatClampNeg ((s2.1 35 v3.toNatClampNeg) + 1) → L_X9_lengthen_2 v1 v2 (v3 + 1) s6 Q)) : L_X9_lengthen_136 v1 v2 v3 v4 v6 σ Q := by
  intro p l e s m args below meth c D cy ad hC
  refine ga_aload_n hC dX9_lengthen_136 0 rfl rfl ?_
  refine gC_10_1 hC q_2_113 dX9_lengthen_137 ?_
  refine ga_iload_n hC dX9_lengthen_140 1 rfl rfl ?_
  refine ga_lload hC dX9_lengthen_141 4 rfl ?_
  refine ga_lload hC dX9_lengthen_143 5 rfl ?_
  refine ga_callV (As := [.int v1, .long v4, .long v6]) (st := []) (k := 18) (n := 3) hC h q_6_51 q_3_61 q_3_62 q_1_8 q_3_63 rfl rfl rfl (by decide +kernel) ⟨Nat.le_of_ble_eq_true rfl, Nat.le_of_ble_eq_true rfl⟩ ⟨Nat.le_of_ble_eq_true rfl, Nat.le_of_ble_eq_true rfl⟩ rfl rfl (oC_v (show 11 ≤ 18 ∧ 18 ≤ 18 by decide)) (show _ < 88 by have := (show 11 ≤ 18 ∧ 18 ≤ 18 by decide); omega) rfl (Nat.le_of_ble_eq_true rfl) dX9_lengthen_145 (fun v τ hq => ?_)
  obtain ⟨rfl, h⟩ := hq
  obtain ⟨s2, es2⟩ : ∃ z, z = τ := ⟨_, rfl⟩
  rw [← es2] at h ⊢
  clear es2
  refine ga_aload_n hC dX9_lengthen_148 0 rfl rfl ?_
  refine gC_10_2 hC q_2_115 dX9_lengthen_149 ?_
  refine ga_iload_n hC dX9_lengthen_152 1 rfl rfl ?_
  refine ga_aload_n hC dX9_lengthen_153 0 rfl rfl ?_
  refine gC_10_2 hC q_2_115 dX9_lengthen_154 ?_
  refine ga_iload_n hC dX9_lengthen_157 3 rfl rfl ?_
  obtain ⟨h4, h⟩ := h
  refine ga_iald hC aC_35 (by decide) h4 dX9_lengthen_158 ?_
  refine ga_iconst (v := 1) hC dX9_lengthen_159 (by decide) ?_
  refine ga_iadd hC dX9_lengthen_160 ?_
  obtain ⟨h5, h⟩ := h
  refine ga_iast hC aC_35 (by decide) h5 dX9_lengthen_161 ?_
  refine ga_sig (σ := cg_i s2 35 v1.toNatClampNeg ((s2.1 35 v3.toNatClampNeg) + 1)) (fun s6 es6 => ?_)
  have h := h s6 es6
  refine ga_iinc (v := v3 + 1) (lv' := [(3, .int (v3 + 1)), (0, .ref (ad 10)), (1, .int v1), (2, .int v2), (4, .long v4), (6, .long v6)]) hC dX9_lengthen_162 3 rfl rfl (by decide) rfl ?_
  refine ga_goto (tgt := 2) hC dX9_lengthen_165 (by decide) ?_
  refine ga_locals [1, 2, 3, 0] rfl ?_
  exact h p l e s m args below meth c D cy ad hC
set_option maxRecDepth 100000 in
set_option maxHeartbeats 4000000 in
theorem v_X9_lengthen_2 {v1 : Int32} {v2 : Int32} {v3 : Int32} {σ : cg_S} {Q : cg_S → Prop}
    (h : ((σ.1 1 0) ≤ v3 → Q σ) ∧ (¬ (σ.1 1 0) ≤ v3 → vp_in v2 21 ∧ vp_in v3 7 ∧ ((σ.1 (36 + v2.toNatClampNeg) v3.toNatClampNeg) ≤ 0 → L_X9_lengthen_2 v1 v2 (v3 + 1) σ Q) ∧ (¬ (σ.1 (36 + v2.toNatClampNeg) v3.toNatClampNeg) ≤ 0 → vp_in v3 7 ∧ ((σ.1 35 v3.toNatClampNeg) ≤ 0 → L_X9_lengthen_2 v1 v2 (v3 + 1) σ Q) ∧ (¬ (σ.1 35 v3.toNatClampNeg) ≤ 0 → vp_in v2 21 ∧ vp_in v3 7 ∧ vp_in v3 7 ∧ ∀ x7 : Int64, x7 = ((σ.1 (36 + v2.toNatClampNeg) v3.toNatClampNeg).toInt64) * (σ.2.1 (18 + 56) v3.toNatClampNeg) → vp_in v2 21 ∧ vp_in v3 7 ∧ ∀ x10 : Int64, x10 = ((σ.1 24 v2.toNatClampNeg).toInt64) * (σ.2.1 (18 + 64) v3.toNatClampNeg) → vp_in v1 7 ∧ vp_in v1 7 ∧ M_X11_compareFractions x7 x10 (σ.2.1 (18 + 56) v1.toNatClampNeg) (σ.2.1 (18 + 64) v1.toNatClampNeg) σ (fun r13 s14 => (0 < r13 → L_X9_lengthen_136 v1 v2 v3 x7 x10 s14 Q) ∧ (¬ 0 < r13 → (¬ r13 = 0 → L_X9_lengthen_2 v1 v2 (v3 + 1) s14 Q) ∧ (r13 = 0 → vp_in v3 7 ∧ vp_in v1 7 ∧ ((s14.1 35 v1.toNatClampNeg) ≤ ((s14.1 35 v3.toNatClampNeg) + 1) → L_X9_lengthen_2 v1 v2 (v3 + 1) s14 Q) ∧ (¬ (s14.1 35 v1.toNatClampNeg) ≤ ((s14.1 35 v3.toNatClampNeg) + 1) → L_X9_lengthen_136 v1 v2 v3 x7 x10 s14 Q)))))))) : L_X9_lengthen_2 v1 v2 v3 σ Q := by
  intro p l e s m args below meth c D cy ad hC
  refine ga_iload_n hC dX9_lengthen_2 3 rfl rfl ?_
  refine ga_aload_n hC dX9_lengthen_3 0 rfl rfl ?_
  refine gC_10_0 hC q_2_112 dX9_lengthen_4 ?_
  refine gC_1_0 hC q_1_46 dX9_lengthen_7 ?_
  refine ga_icmp_ge (tgt := 168) hC dX9_lengthen_10 (by decide) (fun hc => ?_) (fun hc => ?_)
  · have h := h.1 hc
    exact ga_vret hC dX9_lengthen_168 ⟨rfl, h⟩
  · have h := h.2 hc
    refine ga_aload_n hC dX9_lengthen_13 0 rfl rfl ?_
    refine gC_10_0 hC q_2_112 dX9_lengthen_14 ?_
    refine gC_1_14 hC q_1_100 dX9_lengthen_17 ?_
    refine ga_iload_n hC dX9_lengthen_20 2 rfl rfl ?_
    obtain ⟨h1, h⟩ := h
    refine ga_aald4 (b := 36) hC rfl (fun j hj => if_pos hj) (by decide) h1 dX9_lengthen_21 ?_
    refine ga_iload_n hC dX9_lengthen_22 3 rfl rfl ?_
    obtain ⟨h2, h⟩ := h
    refine ga_iald hC (aC_w (cg_lt h1)) (show 36 + _ < 88 by have := (cg_lt h1); omega) h2 dX9_lengthen_23 ?_
    refine ga_if_le (tgt := 162) hC dX9_lengthen_24 (by decide) (fun hc => ?_) (fun hc => ?_)
    · have h := h.1 hc
      refine ga_iinc (v := v3 + 1) (lv' := [(3, .int (v3 + 1)), (0, .ref (ad 10)), (1, .int v1), (2, .int v2)]) hC dX9_lengthen_162 3 rfl rfl (by decide) rfl ?_
      refine ga_goto (tgt := 2) hC dX9_lengthen_165 (by decide) ?_
      refine ga_locals [1, 2, 3, 0] rfl ?_
      exact h p l e s m args below meth c D cy ad hC
    · have h := h.2 hc
      refine ga_aload_n hC dX9_lengthen_27 0 rfl rfl ?_
      refine gC_10_2 hC q_2_115 dX9_lengthen_28 ?_
      refine ga_iload_n hC dX9_lengthen_31 3 rfl rfl ?_
      obtain ⟨h3, h⟩ := h
      refine ga_iald hC aC_35 (by decide) h3 dX9_lengthen_32 ?_
      refine ga_if_le (tgt := 162) hC dX9_lengthen_33 (by decide) (fun hc => ?_) (fun hc => ?_)
      · have h := h.1 hc
        refine ga_iinc (v := v3 + 1) (lv' := [(3, .int (v3 + 1)), (0, .ref (ad 10)), (1, .int v1), (2, .int v2)]) hC dX9_lengthen_162 3 rfl rfl (by decide) rfl ?_
        refine ga_goto (tgt := 2) hC dX9_lengthen_165 (by decide) ?_
        refine ga_locals [1, 2, 3, 0] rfl ?_
        exact h p l e s m args below meth c D cy ad hC
      · have h := h.2 hc
        refine ga_aload_n hC dX9_lengthen_36 0 rfl rfl ?_
        refine gC_10_0 hC q_2_112 dX9_lengthen_37 ?_
        refine gC_1_14 hC q_1_100 dX9_lengthen_40 ?_
        refine ga_iload_n hC dX9_lengthen_43 2 rfl rfl ?_
        obtain ⟨h4, h⟩ := h
        refine ga_aald4 (b := 36) hC rfl (fun j hj => if_pos hj) (by decide) h4 dX9_lengthen_44 ?_
        refine ga_iload_n hC dX9_lengthen_45 3 rfl rfl ?_
        obtain ⟨h5, h⟩ := h
        refine ga_iald hC (aC_w (cg_lt h4)) (show 36 + _ < 88 by have := (cg_lt h4); omega) h5 dX9_lengthen_46 ?_
        refine ga_i2l hC dX9_lengthen_47 ?_
        refine ga_aload_n hC dX9_lengthen_48 0 rfl rfl ?_
        refine gC_10_1 hC q_2_113 dX9_lengthen_49 ?_
        refine gC_v_0 (show 11 ≤ 18 ∧ 18 ≤ 18 by decide) hC q_2_7 dX9_lengthen_52 ?_
        refine ga_iload_n hC dX9_lengthen_55 3 rfl rfl ?_
        obtain ⟨h6, h⟩ := h
        refine ga_lald hC (aC_vu (show 11 ≤ 18 ∧ 18 ≤ 18 by decide)) (show _ + 56 < 88 by have := (show 11 ≤ 18 ∧ 18 ≤ 18 by decide); omega) h6 dX9_lengthen_56 ?_
        refine ga_lmul hC dX9_lengthen_57 ?_
        refine ga_topl (fun x7 ex7 => ?_)
        have h := h x7 ex7
        refine ga_lstore (lv' := [(4, .long x7), (0, .ref (ad 10)), (1, .int v1), (2, .int v2), (3, .int v3)]) hC dX9_lengthen_58 (by decide) rfl ?_
        refine ga_aload_n hC dX9_lengthen_60 1 rfl rfl ?_
        refine gC_10_0 hC q_2_112 dX9_lengthen_61 ?_
        refine gC_1_12 hC q_1_89 dX9_lengthen_64 ?_
        refine ga_iload_n hC dX9_lengthen_67 3 rfl rfl ?_
        obtain ⟨h8, h⟩ := h
        refine ga_iald hC aC_24 (by decide) h8 dX9_lengthen_68 ?_
        refine ga_i2l hC dX9_lengthen_69 ?_
        refine ga_aload_n hC dX9_lengthen_70 1 rfl rfl ?_
        refine gC_10_1 hC q_2_113 dX9_lengthen_71 ?_
        refine gC_v_1 (show 11 ≤ 18 ∧ 18 ≤ 18 by decide) hC q_2_12 dX9_lengthen_74 ?_
        refine ga_iload_n hC dX9_lengthen_77 4 rfl rfl ?_
        obtain ⟨h9, h⟩ := h
        refine ga_lald hC (aC_vd (show 11 ≤ 18 ∧ 18 ≤ 18 by decide)) (show _ + 64 < 88 by have := (show 11 ≤ 18 ∧ 18 ≤ 18 by decide); omega) h9 dX9_lengthen_78 ?_
        refine ga_lmul hC dX9_lengthen_79 ?_
        refine ga_topl (fun x10 ex10 => ?_)
        have h := h x10 ex10
        refine ga_lstore (lv' := [(6, .long x10), (4, .long x7), (0, .ref (ad 10)), (1, .int v1), (2, .int v2), (3, .int v3)]) hC dX9_lengthen_80 (by decide) rfl ?_
        refine ga_lload hC dX9_lengthen_82 1 rfl ?_
        refine ga_lload hC dX9_lengthen_84 0 rfl ?_
        refine ga_aload_n hC dX9_lengthen_86 2 rfl rfl ?_
        refine gC_10_1 hC q_2_113 dX9_lengthen_87 ?_
        refine gC_v_0 (show 11 ≤ 18 ∧ 18 ≤ 18 by decide) hC q_2_7 dX9_lengthen_90 ?_
        refine ga_iload_n hC dX9_lengthen_93 3 rfl rfl ?_
        obtain ⟨h11, h⟩ := h
        refine ga_lald hC (aC_vu (show 11 ≤ 18 ∧ 18 ≤ 18 by decide)) (show _ + 56 < 88 by have := (show 11 ≤ 18 ∧ 18 ≤ 18 by decide); omega) h11 dX9_lengthen_94 ?_
        refine ga_aload_n hC dX9_lengthen_95 2 rfl rfl ?_
        refine gC_10_1 hC q_2_113 dX9_lengthen_96 ?_
        refine gC_v_1 (show 11 ≤ 18 ∧ 18 ≤ 18 by decide) hC q_2_12 dX9_lengthen_99 ?_
        refine ga_iload_n hC dX9_lengthen_102 3 rfl rfl ?_
        obtain ⟨h12, h⟩ := h
        refine ga_lald hC (aC_vd (show 11 ≤ 18 ∧ 18 ≤ 18 by decide)) (show _ + 64 < 88 by have := (show 11 ≤ 18 ∧ 18 ≤ 18 by decide); omega) h12 dX9_lengthen_103 ?_
        refine ga_callSN (As := [.long x7, .long x10, .long (σ.2.1 (18 + 56) v1.toNatClampNeg), .long (σ.2.1 (18 + 64) v1.toNatClampNeg)]) (st := []) (n := 4) hC h (by decide +kernel) q_3_79 q_1_1 q_3_80 rfl rfl rfl (by decide +kernel) ⟨Nat.le_of_ble_eq_true rfl, Nat.le_of_ble_eq_true rfl⟩ ⟨Nat.le_of_ble_eq_true rfl, Nat.le_of_ble_eq_true rfl⟩ rfl rfl (Nat.le_of_ble_eq_true rfl) dX9_lengthen_104 (fun v τ hq => ?_)
        obtain ⟨r13, rfl, h⟩ := hq
        obtain ⟨s14, es14⟩ : ∃ z, z = τ := ⟨_, rfl⟩
        rw [← es14] at h ⊢
        clear es14
        refine ga_istore (lv' := [(8, .int r13), (6, .long x10), (4, .long x7), (0, .ref (ad 10)), (1, .int v1), (2, .int v2), (3, .int v3)]) hC dX9_lengthen_107 (by decide) rfl ?_
        refine ga_iload hC dX9_lengthen_109 0 rfl ?_
        refine ga_if_gt (tgt := 136) hC dX9_lengthen_111 (by decide) (fun hc => ?_) (fun hc => ?_)
        · have h := h.1 hc
          refine ga_locals [3, 4, 5, 6, 2, 1] rfl ?_
          exact h p l e s m args below meth c D cy ad hC
        · have h := h.2 hc
          refine ga_iload hC dX9_lengthen_114 0 rfl ?_
          refine ga_if_ne (tgt := 162) hC dX9_lengthen_116 (by decide) (fun hc => ?_) (fun hc => ?_)
          · have h := h.1 hc
            refine ga_iinc (v := v3 + 1) (lv' := [(3, .int (v3 + 1)), (8, .int r13), (6, .long x10), (4, .long x7), (0, .ref (ad 10)), (1, .int v1), (2, .int v2)]) hC dX9_lengthen_162 6 rfl rfl (by decide) rfl ?_
            refine ga_goto (tgt := 2) hC dX9_lengthen_165 (by decide) ?_
            refine ga_locals [4, 5, 6, 0] rfl ?_
            exact h p l e s m args below meth c D cy ad hC
          · have h := h.2 hc
            refine ga_aload_n hC dX9_lengthen_119 3 rfl rfl ?_
            refine gC_10_2 hC q_2_115 dX9_lengthen_120 ?_
            refine ga_iload_n hC dX9_lengthen_123 6 rfl rfl ?_
            obtain ⟨h16, h⟩ := h
            refine ga_iald hC aC_35 (by decide) h16 dX9_lengthen_124 ?_
            refine ga_iconst (v := 1) hC dX9_lengthen_125 (by decide) ?_
            refine ga_iadd hC dX9_lengthen_126 ?_
            refine ga_aload_n hC dX9_lengthen_127 3 rfl rfl ?_
            refine gC_10_2 hC q_2_115 dX9_lengthen_128 ?_
            refine ga_iload_n hC dX9_lengthen_131 4 rfl rfl ?_
            obtain ⟨h17, h⟩ := h
            refine ga_iald hC aC_35 (by decide) h17 dX9_lengthen_132 ?_
            refine ga_icmp_ge (tgt := 162) hC dX9_lengthen_133 (by decide) (fun hc => ?_) (fun hc => ?_)
            · have h := h.1 hc
              refine ga_iinc (v := v3 + 1) (lv' := [(3, .int (v3 + 1)), (8, .int r13), (6, .long x10), (4, .long x7), (0, .ref (ad 10)), (1, .int v1), (2, .int v2)]) hC dX9_lengthen_162 6 rfl rfl (by decide) rfl ?_
              refine ga_goto (tgt := 2) hC dX9_lengthen_165 (by decide) ?_
              refine ga_locals [4, 5, 6, 0] rfl ?_
              exact h p l e s m args below meth c D cy ad hC
            · have h := h.2 hc
              refine ga_locals [3, 4, 5, 6, 2, 1] rfl ?_
              exact h p l e s m args below meth c D cy ad hC
set_option maxRecDepth 100000 in
set_option maxHeartbeats 4000000 in
theorem v_X9_lengthen {v1 : Int32} {v2 : Int32} {σ : cg_S} {Q : cg_S → Prop}
    (h : L_X9_lengthen_2 v1 v2 0 σ Q) : M_X9_lengthen v1 v2 σ Q := by
  refine cg_entry (lv := fun ad => [(0, .ref (ad 10)), (1, .int v1), (2, .int v2)]) (by decide +kernel) (fun _ => rfl) (fun _ => Nat.le_of_ble_eq_true rfl) ?_
  intro p l e s m args below meth c D cy ad hC
  refine ga_iconst (v := 0) hC dX9_lengthen_0 (by decide) ?_
  refine ga_istore_n (lv' := [(3, .int 0), (0, .ref (ad 10)), (1, .int v1), (2, .int v2)]) hC dX9_lengthen_1 rfl (by decide) rfl ?_
  refine ga_locals [1, 2, 3, 0] rfl ?_
  exact h p l e s m args below meth c D cy ad hC
def M_X9_follow (v1 : Nat) (σ : cg_S) (Q : cg_S → Prop) : Prop := cg_M cg_WC yX9_follow cX9_follow 4 none (cg_R 3) (fun ad => [.ref (ad 10), .ref (ad v1)]) σ (cg_qv Q)
theorem M_X9_follow.mono {v1 : Nat} {σ : cg_S} {Q Q2 : cg_S → Prop} (h : M_X9_follow v1 σ Q) (hq : ∀ τ, Q τ → Q2 τ) : M_X9_follow v1 σ Q2 := cg_M.mono h (fun ad v τ ⟨e, q⟩ => ⟨e, hq τ q⟩)
def L_X9_follow_2 (v1 : Nat) (v2 : Int32) (σ : cg_S) (Q : cg_S → Prop) : Prop := cg_L cg_WC RX9 cX9_follow 4 none (cg_R 3) 2 (fun ad => [(0, .ref (ad 10)), (1, .ref (ad v1)), (2, .int v2)]) (fun ad => []) σ (cg_qv Q)
def L_X9_follow_34 (v1 : Nat) (v2 : Int32) (t1 : Int32) (t2 : Int32) (σ : cg_S) (Q : cg_S → Prop) : Prop := cg_L cg_WC RX9 cX9_follow 4 none (cg_R 3) 34 (fun ad => [(0, .ref (ad 10)), (1, .ref (ad v1)), (2, .int v2)]) (fun ad => [.int t2, .int t1, .ref (ad 35)]) σ (cg_qv Q)
def L_X9_follow_59 (v1 : Nat) (v2 : Int32) (σ : cg_S) (Q : cg_S → Prop) : Prop := cg_L cg_WC RX9 cX9_follow 4 none (cg_R 3) 59 (fun ad => [(0, .ref (ad 10)), (1, .ref (ad v1)), (2, .int v2)]) (fun ad => []) σ (cg_qv Q)
def L_X9_follow_72 (v1 : Nat) (v2 : Int32) (v3 : Int32) (σ : cg_S) (Q : cg_S → Prop) : Prop := cg_L cg_WC RX9 cX9_follow 4 none (cg_R 3) 72 (fun ad => [(0, .ref (ad 10)), (1, .ref (ad v1)), (2, .int v2), (3, .int v3)]) (fun ad => []) σ (cg_qv Q)
set_option maxRecDepth 100000 in
set_option maxHeartbeats 4000000 in
theorem v_X9_follow_72 {v1 : Nat} {v2 : Int32} {v3 : Int32} {σ : cg_S} {Q : cg_S → Prop} (h_v1 : v1 = 19 ∨ v1 = 29 ∨ v1 = 30)
    (h : ((σ.1 1 0) ≤ v3 → L_X9_follow_59 v1 (v2 + 1) σ Q) ∧ (¬ (σ.1 1 0) ≤ v3 → M_X2_isTarget v3 σ (fun r1 s2 => (¬ r1 = 0 → L_X9_follow_72 v1 v2 (v3 + 1) s2 Q) ∧ (r1 = 0 → vp_in v3 7 ∧ M_X2_moveOf v3 (s2.1 v1 v3.toNatClampNeg) s2 (fun r5 s6 => M_X9_lengthen v3 r5 s6 (fun s9 => L_X9_follow_72 v1 v2 (v3 + 1) s9 Q)))))) : L_X9_follow_72 v1 v2 v3 σ Q := by
  intro p l e s m args below meth c D cy ad hC
  refine ga_iload_n hC dX9_follow_72 3 rfl rfl ?_
  refine ga_aload_n hC dX9_follow_73 0 rfl rfl ?_
  refine gC_10_0 hC q_2_112 dX9_follow_74 ?_
  refine gC_1_0 hC q_1_46 dX9_follow_77 ?_
  refine ga_icmp_ge (tgt := 112) hC dX9_follow_80 (by decide) (fun hc => ?_) (fun hc => ?_)
  · have h := h.1 hc
    refine ga_iinc (v := v2 + 1) (lv' := [(2, .int (v2 + 1)), (0, .ref (ad 10)), (1, .ref (ad v1)), (3, .int v3)]) hC dX9_follow_112 2 rfl rfl (by decide) rfl ?_
    refine ga_goto (tgt := 59) hC dX9_follow_115 (by decide) ?_
    refine ga_locals [1, 2, 0] rfl ?_
    exact h p l e s m args below meth c D cy ad hC
  · have h := h.2 hc
    refine ga_aload_n hC dX9_follow_83 0 rfl rfl ?_
    refine gC_10_0 hC q_2_112 dX9_follow_84 ?_
    refine ga_iload_n hC dX9_follow_87 3 rfl rfl ?_
    refine ga_callV (As := [.int v3]) (st := []) (k := 1) (n := 1) hC h q_6_50 q_2_184 q_2_185 q_1_2 q_2_186 rfl rfl rfl (by decide +kernel) ⟨Nat.le_of_ble_eq_true rfl, Nat.le_of_ble_eq_true rfl⟩ ⟨Nat.le_of_ble_eq_true rfl, Nat.le_of_ble_eq_true rfl⟩ rfl rfl rfl (by decide) rfl (Nat.le_of_ble_eq_true rfl) dX9_follow_88 (fun v τ hq => ?_)
    obtain ⟨r1, rfl, h⟩ := hq
    obtain ⟨s2, es2⟩ : ∃ z, z = τ := ⟨_, rfl⟩
    rw [← es2] at h ⊢
    clear es2
    refine ga_if_ne (tgt := 106) hC dX9_follow_91 (by decide) (fun hc => ?_) (fun hc => ?_)
    · have h := h.1 hc
      refine ga_iinc (v := v3 + 1) (lv' := [(3, .int (v3 + 1)), (0, .ref (ad 10)), (1, .ref (ad v1)), (2, .int v2)]) hC dX9_follow_106 3 rfl rfl (by decide) rfl ?_
      refine ga_goto (tgt := 72) hC dX9_follow_109 (by decide) ?_
      refine ga_locals [1, 2, 3, 0] rfl ?_
      exact h p l e s m args below meth c D cy ad hC
    · have h := h.2 hc
      refine ga_aload_n hC dX9_follow_94 0 rfl rfl ?_
      refine ga_iload_n hC dX9_follow_95 3 rfl rfl ?_
      refine ga_iload_n hC dX9_follow_96 3 rfl rfl ?_
      refine ga_aload_n hC dX9_follow_97 1 rfl rfl ?_
      refine ga_iload_n hC dX9_follow_98 3 rfl rfl ?_
      obtain ⟨h4, h⟩ := h
      refine ga_iald hC (aC_p h_v1) (show _ < 88 by have := h_v1; omega) h4 dX9_follow_99 ?_
      refine ga_callS (As := [.int v3, .int (s2.1 v1 v3.toNatClampNeg)]) (st := [.int v3, .ref (ad 10)]) (n := 2) hC h q_6_52 q_2_169 q_1_2 q_2_170 rfl rfl rfl (by decide +kernel) ⟨Nat.le_of_ble_eq_true rfl, Nat.le_of_ble_eq_true rfl⟩ ⟨Nat.le_of_ble_eq_true rfl, Nat.le_of_ble_eq_true rfl⟩ rfl rfl (Nat.le_of_ble_eq_true rfl) dX9_follow_100 (fun v τ hq => ?_)
      obtain ⟨r5, rfl, h⟩ := hq
      obtain ⟨s6, es6⟩ : ∃ z, z = τ := ⟨_, rfl⟩
      rw [← es6] at h ⊢
      clear es6
      refine ga_callV (As := [.int v3, .int r5]) (st := []) (k := 10) (n := 2) hC h q_6_53 q_6_54 q_6_55 q_1_12 q_6_56 rfl rfl rfl (by decide +kernel) ⟨Nat.le_of_ble_eq_true rfl, Nat.le_of_ble_eq_true rfl⟩ ⟨Nat.le_of_ble_eq_true rfl, Nat.le_of_ble_eq_true rfl⟩ rfl rfl rfl (by decide) rfl (Nat.le_of_ble_eq_true rfl) dX9_follow_103 (fun v τ hq => ?_)
      obtain ⟨rfl, h⟩ := hq
      obtain ⟨s9, es9⟩ : ∃ z, z = τ := ⟨_, rfl⟩
      rw [← es9] at h ⊢
      clear es9
      refine ga_iinc (v := v3 + 1) (lv' := [(3, .int (v3 + 1)), (0, .ref (ad 10)), (1, .ref (ad v1)), (2, .int v2)]) hC dX9_follow_106 3 rfl rfl (by decide) rfl ?_
      refine ga_goto (tgt := 72) hC dX9_follow_109 (by decide) ?_
      refine ga_locals [1, 2, 3, 0] rfl ?_
      exact h p l e s m args below meth c D cy ad hC
set_option maxRecDepth 100000 in
set_option maxHeartbeats 4000000 in
theorem v_X9_follow_59 {v1 : Nat} {v2 : Int32} {σ : cg_S} {Q : cg_S → Prop} (h_v1 : v1 = 19 ∨ v1 = 29 ∨ v1 = 30)
    (h : ((σ.1 1 0) ≤ v2 → Q σ) ∧ (¬ (σ.1 1 0) ≤ v2 → L_X9_follow_72 v1 v2 0 σ Q)) : L_X9_follow_59 v1 v2 σ Q := by
  intro p l e s m args below meth c D cy ad hC
  refine ga_iload_n hC dX9_follow_59 2 rfl rfl ?_
  refine ga_aload_n hC dX9_follow_60 0 rfl rfl ?_
  refine gC_10_0 hC q_2_112 dX9_follow_61 ?_
  refine gC_1_0 hC q_1_46 dX9_follow_64 ?_
  refine ga_icmp_ge (tgt := 118) hC dX9_follow_67 (by decide) (fun hc => ?_) (fun hc => ?_)
  · have h := h.1 hc
    exact ga_vret hC dX9_follow_118 ⟨rfl, h⟩
  · have h := h.2 hc
    refine ga_iconst (v := 0) hC dX9_follow_70 (by decide) ?_
    refine ga_istore_n (lv' := [(3, .int 0), (0, .ref (ad 10)), (1, .ref (ad v1)), (2, .int v2)]) hC dX9_follow_71 rfl (by decide) rfl ?_
    refine ga_locals [1, 2, 3, 0] rfl ?_
    exact h p l e s m args below meth c D cy ad hC
set_option maxRecDepth 100000 in
set_option maxHeartbeats 4000000 in
theorem v_X9_follow_34 {v1 : Nat} {v2 : Int32} {t1 : Int32} {t2 : Int32} {σ : cg_S} {Q : cg_S → Prop} (h_v1 : v1 = 19 ∨ v1 = 29 ∨ v1 = 30)
    (h : vp_in t1 7 ∧ ∀ s2 : cg_S, s2 = cg_i σ 35 t1.toNatClampNeg t2 → vp_in v2 7 ∧ M_X10_put 18 v2 ((s2.1 35 v2.toNatClampNeg).toInt64) 1 s2 (fun s5 => L_X9_follow_2 v1 (v2 + 1) s5 Q)) : L_X9_follow_34 v1 v2 t1 t2 σ Q := by
  intro p l e s m args below meth c D cy ad hC
  obtain ⟨h1, h⟩ := h
  refine ga_iast hC aC_35 (by decide) h1 dX9_follow_34 ?_
  refine ga_sig (σ := cg_i σ 35 t1.toNatClampNeg t2) (fun s2 es2 => ?_)
  have h := h s2 es2
  refine ga_aload_n hC dX9_follow_35 0 rfl rfl ?_
  refine gC_10_1 hC q_2_113 dX9_follow_36 ?_
  refine ga_iload_n hC dX9_follow_39 2 rfl rfl ?_
  refine ga_aload_n hC dX9_follow_40 0 rfl rfl ?_
  refine gC_10_2 hC q_2_115 dX9_follow_41 ?_
  refine ga_iload_n hC dX9_follow_44 2 rfl rfl ?_
  obtain ⟨h3, h⟩ := h
  refine ga_iald hC aC_35 (by decide) h3 dX9_follow_45 ?_
  refine ga_i2l hC dX9_follow_46 ?_
  refine ga_lconst (v := 1) hC dX9_follow_47 (by decide) ?_
  refine ga_callV (As := [.int v2, .long ((s2.1 35 v2.toNatClampNeg).toInt64), .long 1]) (st := []) (k := 18) (n := 3) hC h q_6_51 q_3_61 q_3_62 q_1_8 q_3_63 rfl rfl rfl (by decide +kernel) ⟨Nat.le_of_ble_eq_true rfl, Nat.le_of_ble_eq_true rfl⟩ ⟨Nat.le_of_ble_eq_true rfl, Nat.le_of_ble_eq_true rfl⟩ rfl rfl (oC_v (show 11 ≤ 18 ∧ 18 ≤ 18 by decide)) (show _ < 88 by have := (show 11 ≤ 18 ∧ 18 ≤ 18 by decide); omega) rfl (Nat.le_of_ble_eq_true rfl) dX9_follow_48 (fun v τ hq => ?_)
  obtain ⟨rfl, h⟩ := hq
  obtain ⟨s5, es5⟩ : ∃ z, z = τ := ⟨_, rfl⟩
  rw [← es5] at h ⊢
  clear es5
  refine ga_iinc (v := v2 + 1) (lv' := [(2, .int (v2 + 1)), (0, .ref (ad 10)), (1, .ref (ad v1))]) hC dX9_follow_51 2 rfl rfl (by decide) rfl ?_
  refine ga_goto (tgt := 2) hC dX9_follow_54 (by decide) ?_
  refine ga_locals [1, 2, 0] rfl ?_
  exact h p l e s m args below meth c D cy ad hC
set_option maxRecDepth 100000 in
set_option maxHeartbeats 4000000 in
theorem v_X9_follow_2 {v1 : Nat} {v2 : Int32} {σ : cg_S} {Q : cg_S → Prop} (h_v1 : v1 = 19 ∨ v1 = 29 ∨ v1 = 30)
    (h : ((σ.1 1 0) ≤ v2 → L_X9_follow_59 v1 0 σ Q) ∧ (¬ (σ.1 1 0) ≤ v2 → M_X2_isTarget v2 σ (fun r1 s2 => (r1 = 0 → L_X9_follow_34 v1 v2 v2 0 s2 Q) ∧ (¬ r1 = 0 → L_X9_follow_34 v1 v2 v2 1 s2 Q)))) : L_X9_follow_2 v1 v2 σ Q := by
  intro p l e s m args below meth c D cy ad hC
  refine ga_iload_n hC dX9_follow_2 2 rfl rfl ?_
  refine ga_aload_n hC dX9_follow_3 0 rfl rfl ?_
  refine gC_10_0 hC q_2_112 dX9_follow_4 ?_
  refine gC_1_0 hC q_1_46 dX9_follow_7 ?_
  refine ga_icmp_ge (tgt := 57) hC dX9_follow_10 (by decide) (fun hc => ?_) (fun hc => ?_)
  · have h := h.1 hc
    refine ga_iconst (v := 0) hC dX9_follow_57 (by decide) ?_
    refine ga_istore_n (lv' := [(2, .int 0), (0, .ref (ad 10)), (1, .ref (ad v1))]) hC dX9_follow_58 rfl (by decide) rfl ?_
    refine ga_locals [1, 2, 0] rfl ?_
    exact h p l e s m args below meth c D cy ad hC
  · have h := h.2 hc
    refine ga_aload_n hC dX9_follow_13 0 rfl rfl ?_
    refine gC_10_2 hC q_2_115 dX9_follow_14 ?_
    refine ga_iload_n hC dX9_follow_17 2 rfl rfl ?_
    refine ga_aload_n hC dX9_follow_18 0 rfl rfl ?_
    refine gC_10_0 hC q_2_112 dX9_follow_19 ?_
    refine ga_iload_n hC dX9_follow_22 2 rfl rfl ?_
    refine ga_callV (As := [.int v2]) (st := [.int v2, .ref (ad 35)]) (k := 1) (n := 1) hC h q_6_50 q_2_184 q_2_185 q_1_2 q_2_186 rfl rfl rfl (by decide +kernel) ⟨Nat.le_of_ble_eq_true rfl, Nat.le_of_ble_eq_true rfl⟩ ⟨Nat.le_of_ble_eq_true rfl, Nat.le_of_ble_eq_true rfl⟩ rfl rfl rfl (by decide) rfl (Nat.le_of_ble_eq_true rfl) dX9_follow_23 (fun v τ hq => ?_)
    obtain ⟨r1, rfl, h⟩ := hq
    obtain ⟨s2, es2⟩ : ∃ z, z = τ := ⟨_, rfl⟩
    rw [← es2] at h ⊢
    clear es2
    refine ga_if_eq (tgt := 33) hC dX9_follow_26 (by decide) (fun hc => ?_) (fun hc => ?_)
    · have h := h.1 hc
      refine ga_iconst (v := 0) hC dX9_follow_33 (by decide) ?_
      refine ga_locals [0, 1, 2] rfl ?_
      exact h p l e s m args below meth c D cy ad hC
    · have h := h.2 hc
      refine ga_iconst (v := 1) hC dX9_follow_29 (by decide) ?_
      refine ga_goto (tgt := 34) hC dX9_follow_30 (by decide) ?_
      refine ga_locals [0, 1, 2] rfl ?_
      exact h p l e s m args below meth c D cy ad hC
set_option maxRecDepth 100000 in
set_option maxHeartbeats 4000000 in
theorem v_X9_follow {v1 : Nat} {σ : cg_S} {Q : cg_S → Prop} (h_v1 : v1 = 19 ∨ v1 = 29 ∨ v1 = 30)
    (h : L_X9_follow_2 v1 0 σ Q) : M_X9_follow v1 σ Q := by
  refine cg_entry (lv := fun ad => [(0, .ref (ad 10)), (1, .ref (ad v1))]) (by decide +kernel) (fun _ => rfl) (fun _ => Nat.le_of_ble_eq_true rfl) ?_
  intro p l e s m args below meth c D cy ad hC
  refine ga_iconst (v := 0) hC dX9_follow_0 (by decide) ?_
  refine ga_istore_n (lv' := [(2, .int 0), (0, .ref (ad 10)), (1, .ref (ad v1))]) hC dX9_follow_1 rfl (by decide) rfl ?_
  refine ga_locals [1, 2, 0] rfl ?_
  exact h p l e s m args below meth c D cy ad hC
def M_X9_nextOf (v1 : Int32) (v2 : Int32) (σ : cg_S) (Q : Int32 → cg_S → Prop) : Prop := cg_M cg_WC yX9_nextOf cX9_nextOf 8 (some .int) (cg_R 2) (fun ad => [.ref (ad 10), .int v1, .int v2]) σ (cg_qi Q)
theorem M_X9_nextOf.mono {v1 : Int32} {v2 : Int32} {σ : cg_S} {Q Q2 : Int32 → cg_S → Prop} (h : M_X9_nextOf v1 v2 σ Q) (hq : ∀ r τ, Q r τ → Q2 r τ) : M_X9_nextOf v1 v2 σ Q2 := cg_M.mono h (fun ad v τ ⟨r, e, q⟩ => ⟨r, e, hq r τ q⟩)
def L_X9_nextOf_2 (v1 : Int32) (v2 : Int32) (v3 : Int32) (σ : cg_S) (Q : Int32 → cg_S → Prop) : Prop := cg_L cg_WC RX9 cX9_nextOf 8 (some .int) (cg_R 2) 2 (fun ad => [(0, .ref (ad 10)), (1, .int v1), (2, .int v2), (3, .int v3)]) (fun ad => []) σ (cg_qi Q)
set_option maxRecDepth 100000 in
set_option maxHeartbeats 4000000 in
theorem v_X9_nextOf_2 {v1 : Int32} {v2 : Int32} {v3 : Int32} {σ : cg_S} {Q : Int32 → cg_S → Prop}
    (h : ((σ.1 1 0) ≤ v3 → Q v1 σ) ∧ (¬ (σ.1 1 0) ≤ v3 → vp_in v2 21 ∧ vp_in v3 7 ∧ ((σ.1 (36 + v2.toNatClampNeg) v3.toNatClampNeg) ≤ 0 → L_X9_nextOf_2 v1 v2 (v3 + 1) σ Q) ∧ (¬ (σ.1 (36 + v2.toNatClampNeg) v3.toNatClampNeg) ≤ 0 → vp_in v3 7 ∧ ((σ.1 35 v3.toNatClampNeg) ≤ 0 → L_X9_nextOf_2 v1 v2 (v3 + 1) σ Q) ∧ (¬ (σ.1 35 v3.toNatClampNeg) ≤ 0 → vp_in v3 7 ∧ vp_in v1 7 ∧ (¬ (σ.1 35 v3.toNatClampNeg) = ((σ.1 35 v1.toNatClampNeg) - 1) → L_X9_nextOf_2 v1 v2 (v3 + 1) σ Q) ∧ ((σ.1 35 v3.toNatClampNeg) = ((σ.1 35 v1.toNatClampNeg) - 1) → vp_in v2 21 ∧ vp_in v3 7 ∧ vp_in v3 7 ∧ ∀ x9 : Int64, x9 = ((σ.1 (36 + v2.toNatClampNeg) v3.toNatClampNeg).toInt64) * (σ.2.1 (18 + 56) v3.toNatClampNeg) → vp_in v2 21 ∧ vp_in v3 7 ∧ ∀ x12 : Int64, x12 = ((σ.1 24 v2.toNatClampNeg).toInt64) * (σ.2.1 (18 + 64) v3.toNatClampNeg) → vp_in v1 7 ∧ vp_in v1 7 ∧ M_X11_compareFractions x9 x12 (σ.2.1 (18 + 56) v1.toNatClampNeg) (σ.2.1 (18 + 64) v1.toNatClampNeg) σ (fun r15 s16 => (¬ r15 = 0 → L_X9_nextOf_2 v1 v2 (v3 + 1) s16 Q) ∧ (r15 = 0 → Q v3 s16))))))) : L_X9_nextOf_2 v1 v2 v3 σ Q := by
  intro p l e s m args below meth c D cy ad hC
  refine ga_iload_n hC dX9_nextOf_2 3 rfl rfl ?_
  refine ga_aload_n hC dX9_nextOf_3 0 rfl rfl ?_
  refine gC_10_0 hC q_2_112 dX9_nextOf_4 ?_
  refine gC_1_0 hC q_1_46 dX9_nextOf_7 ?_
  refine ga_icmp_ge (tgt := 135) hC dX9_nextOf_10 (by decide) (fun hc => ?_) (fun hc => ?_)
  · have h := h.1 hc
    refine ga_iload_n hC dX9_nextOf_135 1 rfl rfl ?_
    exact ga_iret hC dX9_nextOf_136 ⟨_, rfl, h⟩
  · have h := h.2 hc
    refine ga_aload_n hC dX9_nextOf_13 0 rfl rfl ?_
    refine gC_10_0 hC q_2_112 dX9_nextOf_14 ?_
    refine gC_1_14 hC q_1_100 dX9_nextOf_17 ?_
    refine ga_iload_n hC dX9_nextOf_20 2 rfl rfl ?_
    obtain ⟨h1, h⟩ := h
    refine ga_aald4 (b := 36) hC rfl (fun j hj => if_pos hj) (by decide) h1 dX9_nextOf_21 ?_
    refine ga_iload_n hC dX9_nextOf_22 3 rfl rfl ?_
    obtain ⟨h2, h⟩ := h
    refine ga_iald hC (aC_w (cg_lt h1)) (show 36 + _ < 88 by have := (cg_lt h1); omega) h2 dX9_nextOf_23 ?_
    refine ga_if_le (tgt := 129) hC dX9_nextOf_24 (by decide) (fun hc => ?_) (fun hc => ?_)
    · have h := h.1 hc
      refine ga_iinc (v := v3 + 1) (lv' := [(3, .int (v3 + 1)), (0, .ref (ad 10)), (1, .int v1), (2, .int v2)]) hC dX9_nextOf_129 3 rfl rfl (by decide) rfl ?_
      refine ga_goto (tgt := 2) hC dX9_nextOf_132 (by decide) ?_
      refine ga_locals [1, 2, 3, 0] rfl ?_
      exact h p l e s m args below meth c D cy ad hC
    · have h := h.2 hc
      refine ga_aload_n hC dX9_nextOf_27 0 rfl rfl ?_
      refine gC_10_2 hC q_2_115 dX9_nextOf_28 ?_
      refine ga_iload_n hC dX9_nextOf_31 3 rfl rfl ?_
      obtain ⟨h3, h⟩ := h
      refine ga_iald hC aC_35 (by decide) h3 dX9_nextOf_32 ?_
      refine ga_if_le (tgt := 129) hC dX9_nextOf_33 (by decide) (fun hc => ?_) (fun hc => ?_)
      · have h := h.1 hc
        refine ga_iinc (v := v3 + 1) (lv' := [(3, .int (v3 + 1)), (0, .ref (ad 10)), (1, .int v1), (2, .int v2)]) hC dX9_nextOf_129 3 rfl rfl (by decide) rfl ?_
        refine ga_goto (tgt := 2) hC dX9_nextOf_132 (by decide) ?_
        refine ga_locals [1, 2, 3, 0] rfl ?_
        exact h p l e s m args below meth c D cy ad hC
      · have h := h.2 hc
        refine ga_aload_n hC dX9_nextOf_36 0 rfl rfl ?_
        refine gC_10_2 hC q_2_115 dX9_nextOf_37 ?_
        refine ga_iload_n hC dX9_nextOf_40 3 rfl rfl ?_
        obtain ⟨h4, h⟩ := h
        refine ga_iald hC aC_35 (by decide) h4 dX9_nextOf_41 ?_
        refine ga_aload_n hC dX9_nextOf_42 0 rfl rfl ?_
        refine gC_10_2 hC q_2_115 dX9_nextOf_43 ?_
        refine ga_iload_n hC dX9_nextOf_46 1 rfl rfl ?_
        obtain ⟨h5, h⟩ := h
        refine ga_iald hC aC_35 (by decide) h5 dX9_nextOf_47 ?_
        refine ga_iconst (v := 1) hC dX9_nextOf_48 (by decide) ?_
        refine ga_isub hC dX9_nextOf_49 ?_
        refine ga_icmp_ne (tgt := 129) hC dX9_nextOf_50 (by decide) (fun hc => ?_) (fun hc => ?_)
        · have h := h.1 hc
          refine ga_iinc (v := v3 + 1) (lv' := [(3, .int (v3 + 1)), (0, .ref (ad 10)), (1, .int v1), (2, .int v2)]) hC dX9_nextOf_129 3 rfl rfl (by decide) rfl ?_
          refine ga_goto (tgt := 2) hC dX9_nextOf_132 (by decide) ?_
          refine ga_locals [1, 2, 3, 0] rfl ?_
          exact h p l e s m args below meth c D cy ad hC
        · have h := h.2 hc
          refine ga_aload_n hC dX9_nextOf_53 0 rfl rfl ?_
          refine gC_10_0 hC q_2_112 dX9_nextOf_54 ?_
          refine gC_1_14 hC q_1_100 dX9_nextOf_57 ?_
          refine ga_iload_n hC dX9_nextOf_60 2 rfl rfl ?_
          obtain ⟨h6, h⟩ := h
          refine ga_aald4 (b := 36) hC rfl (fun j hj => if_pos hj) (by decide) h6 dX9_nextOf_61 ?_
          refine ga_iload_n hC dX9_nextOf_62 3 rfl rfl ?_
          obtain ⟨h7, h⟩ := h
          refine ga_iald hC (aC_w (cg_lt h6)) (show 36 + _ < 88 by have := (cg_lt h6); omega) h7 dX9_nextOf_63 ?_
          refine ga_i2l hC dX9_nextOf_64 ?_
          refine ga_aload_n hC dX9_nextOf_65 0 rfl rfl ?_
          refine gC_10_1 hC q_2_113 dX9_nextOf_66 ?_
          refine gC_v_0 (show 11 ≤ 18 ∧ 18 ≤ 18 by decide) hC q_2_7 dX9_nextOf_69 ?_
          refine ga_iload_n hC dX9_nextOf_72 3 rfl rfl ?_
          obtain ⟨h8, h⟩ := h
          refine ga_lald hC (aC_vu (show 11 ≤ 18 ∧ 18 ≤ 18 by decide)) (show _ + 56 < 88 by have := (show 11 ≤ 18 ∧ 18 ≤ 18 by decide); omega) h8 dX9_nextOf_73 ?_
          refine ga_lmul hC dX9_nextOf_74 ?_
          refine ga_topl (fun x9 ex9 => ?_)
          have h := h x9 ex9
          refine ga_lstore (lv' := [(4, .long x9), (0, .ref (ad 10)), (1, .int v1), (2, .int v2), (3, .int v3)]) hC dX9_nextOf_75 (by decide) rfl ?_
          refine ga_aload_n hC dX9_nextOf_77 1 rfl rfl ?_
          refine gC_10_0 hC q_2_112 dX9_nextOf_78 ?_
          refine gC_1_12 hC q_1_89 dX9_nextOf_81 ?_
          refine ga_iload_n hC dX9_nextOf_84 3 rfl rfl ?_
          obtain ⟨h10, h⟩ := h
          refine ga_iald hC aC_24 (by decide) h10 dX9_nextOf_85 ?_
          refine ga_i2l hC dX9_nextOf_86 ?_
          refine ga_aload_n hC dX9_nextOf_87 1 rfl rfl ?_
          refine gC_10_1 hC q_2_113 dX9_nextOf_88 ?_
          refine gC_v_1 (show 11 ≤ 18 ∧ 18 ≤ 18 by decide) hC q_2_12 dX9_nextOf_91 ?_
          refine ga_iload_n hC dX9_nextOf_94 4 rfl rfl ?_
          obtain ⟨h11, h⟩ := h
          refine ga_lald hC (aC_vd (show 11 ≤ 18 ∧ 18 ≤ 18 by decide)) (show _ + 64 < 88 by have := (show 11 ≤ 18 ∧ 18 ≤ 18 by decide); omega) h11 dX9_nextOf_95 ?_
          refine ga_lmul hC dX9_nextOf_96 ?_
          refine ga_topl (fun x12 ex12 => ?_)
          have h := h x12 ex12
          refine ga_lstore (lv' := [(6, .long x12), (4, .long x9), (0, .ref (ad 10)), (1, .int v1), (2, .int v2), (3, .int v3)]) hC dX9_nextOf_97 (by decide) rfl ?_
          refine ga_lload hC dX9_nextOf_99 1 rfl ?_
          refine ga_lload hC dX9_nextOf_101 0 rfl ?_
          refine ga_aload_n hC dX9_nextOf_103 2 rfl rfl ?_
          refine gC_10_1 hC q_2_113 dX9_nextOf_104 ?_
          refine gC_v_0 (show 11 ≤ 18 ∧ 18 ≤ 18 by decide) hC q_2_7 dX9_nextOf_107 ?_
          refine ga_iload_n hC dX9_nextOf_110 3 rfl rfl ?_
          obtain ⟨h13, h⟩ := h
          refine ga_lald hC (aC_vu (show 11 ≤ 18 ∧ 18 ≤ 18 by decide)) (show _ + 56 < 88 by have := (show 11 ≤ 18 ∧ 18 ≤ 18 by decide); omega) h13 dX9_nextOf_111 ?_
          refine ga_aload_n hC dX9_nextOf_112 2 rfl rfl ?_
          refine gC_10_1 hC q_2_113 dX9_nextOf_113 ?_
          refine gC_v_1 (show 11 ≤ 18 ∧ 18 ≤ 18 by decide) hC q_2_12 dX9_nextOf_116 ?_
          refine ga_iload_n hC dX9_nextOf_119 3 rfl rfl ?_
          obtain ⟨h14, h⟩ := h
          refine ga_lald hC (aC_vd (show 11 ≤ 18 ∧ 18 ≤ 18 by decide)) (show _ + 64 < 88 by have := (show 11 ≤ 18 ∧ 18 ≤ 18 by decide); omega) h14 dX9_nextOf_120 ?_
          refine ga_callSN (As := [.long x9, .long x12, .long (σ.2.1 (18 + 56) v1.toNatClampNeg), .long (σ.2.1 (18 + 64) v1.toNatClampNeg)]) (st := []) (n := 4) hC h (by decide +kernel) q_3_79 q_1_1 q_3_80 rfl rfl rfl (by decide +kernel) ⟨Nat.le_of_ble_eq_true rfl, Nat.le_of_ble_eq_true rfl⟩ ⟨Nat.le_of_ble_eq_true rfl, Nat.le_of_ble_eq_true rfl⟩ rfl rfl (Nat.le_of_ble_eq_true rfl) dX9_nextOf_121 (fun v τ hq => ?_)
          obtain ⟨r15, rfl, h⟩ := hq
          obtain ⟨s16, es16⟩ : ∃ z, z = τ := ⟨_, rfl⟩
          rw [← es16] at h ⊢
          clear es16
          refine ga_if_ne (tgt := 129) hC dX9_nextOf_124 (by decide) (fun hc => ?_) (fun hc => ?_)
          · have h := h.1 hc
            refine ga_iinc (v := v3 + 1) (lv' := [(3, .int (v3 + 1)), (6, .long x12), (4, .long x9), (0, .ref (ad 10)), (1, .int v1), (2, .int v2)]) hC dX9_nextOf_129 5 rfl rfl (by decide) rfl ?_
            refine ga_goto (tgt := 2) hC dX9_nextOf_132 (by decide) ?_
            refine ga_locals [3, 4, 5, 0] rfl ?_
            exact h p l e s m args below meth c D cy ad hC
          · have h := h.2 hc
            refine ga_iload_n hC dX9_nextOf_127 5 rfl rfl ?_
            exact ga_iret hC dX9_nextOf_128 ⟨_, rfl, h⟩
set_option maxRecDepth 100000 in
set_option maxHeartbeats 4000000 in
theorem v_X9_nextOf {v1 : Int32} {v2 : Int32} {σ : cg_S} {Q : Int32 → cg_S → Prop}
    (h : L_X9_nextOf_2 v1 v2 0 σ Q) : M_X9_nextOf v1 v2 σ Q := by
  refine cg_entry (lv := fun ad => [(0, .ref (ad 10)), (1, .int v1), (2, .int v2)]) (by decide +kernel) (fun _ => rfl) (fun _ => Nat.le_of_ble_eq_true rfl) ?_
  intro p l e s m args below meth c D cy ad hC
  refine ga_iconst (v := 0) hC dX9_nextOf_0 (by decide) ?_
  refine ga_istore_n (lv' := [(3, .int 0), (0, .ref (ad 10)), (1, .int v1), (2, .int v2)]) hC dX9_nextOf_1 rfl (by decide) rfl ?_
  refine ga_locals [1, 2, 3, 0] rfl ?_
  exact h p l e s m args below meth c D cy ad hC
def M_X9_stateAt (v1 : Int32) (v2 : Int32) (v3 : Nat) (σ : cg_S) (Q : Int32 → cg_S → Prop) : Prop := cg_M cg_WC yX9_stateAt cX9_stateAt 6 (some .int) (cg_R 3) (fun ad => [.ref (ad 10), .int v1, .int v2, .ref (ad v3)]) σ (cg_qi Q)
theorem M_X9_stateAt.mono {v1 : Int32} {v2 : Int32} {v3 : Nat} {σ : cg_S} {Q Q2 : Int32 → cg_S → Prop} (h : M_X9_stateAt v1 v2 v3 σ Q) (hq : ∀ r τ, Q r τ → Q2 r τ) : M_X9_stateAt v1 v2 v3 σ Q2 := cg_M.mono h (fun ad v τ ⟨r, e, q⟩ => ⟨r, e, hq r τ q⟩)
def L_X9_stateAt_6 (v2 : Int32) (v3 : Nat) (v4 : Int32) (v5 : Int32) (σ : cg_S) (Q : Int32 → cg_S → Prop) : Prop := cg_L cg_WC RX9 cX9_stateAt 6 (some .int) (cg_R 3) 6 (fun ad => [(0, .ref (ad 10)), (2, .int v2), (3, .ref (ad v3)), (4, .int v4), (5, .int v5)]) (fun ad => []) σ (cg_qi Q)
set_option maxRecDepth 100000 in
set_option maxHeartbeats 4000000 in
theorem v_X9_stateAt_6 {v2 : Int32} {v3 : Nat} {v4 : Int32} {v5 : Int32} {σ : cg_S} {Q : Int32 → cg_S → Prop} (h_v3 : v3 = 19 ∨ v3 = 29 ∨ v3 = 30)
    (h : (v2 ≤ v5 → Q v4 σ) ∧ (¬ v2 ≤ v5 → (7 ≤ v5 → Q v4 σ) ∧ (¬ 7 ≤ v5 → vp_in v4 7 ∧ M_X2_moveOf v4 (σ.1 v3 v4.toNatClampNeg) σ (fun r2 s3 => M_X9_nextOf v4 r2 s3 (fun r5 s6 => L_X9_stateAt_6 v2 v3 r5 (v5 + 1) s6 Q))))) : L_X9_stateAt_6 v2 v3 v4 v5 σ Q := by
  intro p l e s m args below meth c D cy ad hC
  refine ga_iload hC dX9_stateAt_6 4 rfl ?_
  refine ga_iload_n hC dX9_stateAt_8 1 rfl rfl ?_
  refine ga_icmp_ge (tgt := 42) hC dX9_stateAt_9 (by decide) (fun hc => ?_) (fun hc => ?_)
  · have h := h.1 hc
    refine ga_iload hC dX9_stateAt_42 3 rfl ?_
    exact ga_iret hC dX9_stateAt_44 ⟨_, rfl, h⟩
  · have h := h.2 hc
    refine ga_iload hC dX9_stateAt_12 4 rfl ?_
    refine ga_bipush (v := 7) hC dX9_stateAt_14 (by decide) ?_
    refine ga_icmp_ge (tgt := 42) hC dX9_stateAt_16 (by decide) (fun hc => ?_) (fun hc => ?_)
    · have h := h.1 hc
      refine ga_iload hC dX9_stateAt_42 3 rfl ?_
      exact ga_iret hC dX9_stateAt_44 ⟨_, rfl, h⟩
    · have h := h.2 hc
      refine ga_aload_n hC dX9_stateAt_19 0 rfl rfl ?_
      refine ga_iload hC dX9_stateAt_20 3 rfl ?_
      refine ga_iload hC dX9_stateAt_22 3 rfl ?_
      refine ga_aload_n hC dX9_stateAt_24 2 rfl rfl ?_
      refine ga_iload hC dX9_stateAt_25 3 rfl ?_
      obtain ⟨h1, h⟩ := h
      refine ga_iald hC (aC_p h_v3) (show _ < 88 by have := h_v3; omega) h1 dX9_stateAt_27 ?_
      refine ga_callS (As := [.int v4, .int (σ.1 v3 v4.toNatClampNeg)]) (st := [.int v4, .ref (ad 10)]) (n := 2) hC h q_6_52 q_2_169 q_1_2 q_2_170 rfl rfl rfl (by decide +kernel) ⟨Nat.le_of_ble_eq_true rfl, Nat.le_of_ble_eq_true rfl⟩ ⟨Nat.le_of_ble_eq_true rfl, Nat.le_of_ble_eq_true rfl⟩ rfl rfl (Nat.le_of_ble_eq_true rfl) dX9_stateAt_28 (fun v τ hq => ?_)
      obtain ⟨r2, rfl, h⟩ := hq
      obtain ⟨s3, es3⟩ : ∃ z, z = τ := ⟨_, rfl⟩
      rw [← es3] at h ⊢
      clear es3
      refine ga_callV (As := [.int v4, .int r2]) (st := []) (k := 10) (n := 2) hC h q_6_71 q_6_72 q_6_73 q_1_12 q_6_74 rfl rfl rfl (by decide +kernel) ⟨Nat.le_of_ble_eq_true rfl, Nat.le_of_ble_eq_true rfl⟩ ⟨Nat.le_of_ble_eq_true rfl, Nat.le_of_ble_eq_true rfl⟩ rfl rfl rfl (by decide) rfl (Nat.le_of_ble_eq_true rfl) dX9_stateAt_31 (fun v τ hq => ?_)
      obtain ⟨r5, rfl, h⟩ := hq
      obtain ⟨s6, es6⟩ : ∃ z, z = τ := ⟨_, rfl⟩
      rw [← es6] at h ⊢
      clear es6
      refine ga_istore (lv' := [(4, .int r5), (0, .ref (ad 10)), (2, .int v2), (3, .ref (ad v3)), (5, .int v5)]) hC dX9_stateAt_34 (by decide) rfl ?_
      refine ga_iinc (v := v5 + 1) (lv' := [(5, .int (v5 + 1)), (4, .int r5), (0, .ref (ad 10)), (2, .int v2), (3, .ref (ad v3))]) hC dX9_stateAt_36 4 rfl rfl (by decide) rfl ?_
      refine ga_goto (tgt := 6) hC dX9_stateAt_39 (by decide) ?_
      refine ga_locals [2, 3, 4, 1, 0] rfl ?_
      exact h p l e s m args below meth c D cy ad hC
set_option maxRecDepth 100000 in
set_option maxHeartbeats 4000000 in
theorem v_X9_stateAt {v1 : Int32} {v2 : Int32} {v3 : Nat} {σ : cg_S} {Q : Int32 → cg_S → Prop} (h_v3 : v3 = 19 ∨ v3 = 29 ∨ v3 = 30)
    (h : L_X9_stateAt_6 v2 v3 v1 0 σ Q) : M_X9_stateAt v1 v2 v3 σ Q := by
  refine cg_entry (lv := fun ad => [(0, .ref (ad 10)), (1, .int v1), (2, .int v2), (3, .ref (ad v3))]) (by decide +kernel) (fun _ => rfl) (fun _ => Nat.le_of_ble_eq_true rfl) ?_
  intro p l e s m args below meth c D cy ad hC
  refine ga_iload_n hC dX9_stateAt_0 1 rfl rfl ?_
  refine ga_istore (lv' := [(4, .int v1), (0, .ref (ad 10)), (1, .int v1), (2, .int v2), (3, .ref (ad v3))]) hC dX9_stateAt_1 (by decide) rfl ?_
  refine ga_iconst (v := 0) hC dX9_stateAt_3 (by decide) ?_
  refine ga_istore (lv' := [(5, .int 0), (4, .int v1), (0, .ref (ad 10)), (1, .int v1), (2, .int v2), (3, .ref (ad v3))]) hC dX9_stateAt_4 (by decide) rfl ?_
  refine ga_locals [2, 4, 5, 1, 0] rfl ?_
  exact h p l e s m args below meth c D cy ad hC
