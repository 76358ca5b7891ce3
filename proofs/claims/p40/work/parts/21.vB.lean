theorem q_1_202 : Cond.fieldLink RX0 18 "Chanceledger$Chain" "game" "LChanceledger$Game;" ∈ cg_T := cg_in1 202 (by decide +kernel) (by decide +kernel)
theorem q_1_48 : Cond.fieldLink RX0 22 "Chanceledger$Game" "count" "I" ∈ cg_T := cg_in1 48 (by decide +kernel) (by decide +kernel)
theorem q_1_203 : Cond.fieldLink RX0 12 "Chanceledger$Chain" "equations" "LChanceledger$Equations;" ∈ cg_T := cg_in1 203 (by decide +kernel) (by decide +kernel)
theorem q_1_173 : Cond.fieldLink RX0 39 "Chanceledger$Equations" "size" "I" ∈ cg_T := cg_in1 173 (by decide +kernel) (by decide +kernel)
theorem q_1_69 : Cond.fieldLink RX0 28 "Chanceledger$Game" "isOfA" "[Z" ∈ cg_T := cg_in1 69 (by decide +kernel) (by decide +kernel)
theorem q_1_177 : Cond.fieldLink RX0 32 "Chanceledger$Equations" "order" "[I" ∈ cg_T := cg_in1 177 (by decide +kernel) (by decide +kernel)
theorem q_1_206 : Cond.fieldLink RX0 36 "Chanceledger$Chain" "statesOfA" "I" ∈ cg_T := cg_in1 206 (by decide +kernel) (by decide +kernel)
theorem q_1_94 : Cond.fieldLink RX0 96 "Chanceledger$Game" "weightSum" "[I" ∈ cg_T := cg_in1 94 (by decide +kernel) (by decide +kernel)
theorem q_1_103 : Cond.fieldLink RX0 103 "Chanceledger$Game" "weight" "[[I" ∈ cg_T := cg_in1 103 (by decide +kernel) (by decide +kernel)
theorem q_1_181 : Cond.fieldLink RX0 92 "Chanceledger$Equations" "grid" "[[J" ∈ cg_T := cg_in1 181 (by decide +kernel) (by decide +kernel)
theorem q_3_14 : Cond.methodLink RX0 74 yX2_holds ∈ cg_T := cg_in3 14 (by decide +kernel) (by decide +kernel)
theorem q_3_19 : Cond.methodLink RX0 82 yX0_step ∈ cg_T := cg_in3 19 (by decide +kernel) (by decide +kernel)
theorem q_3_20 : Cond.instanceMethod yX0_step ∈ cg_T := cg_in3 20 (by decide +kernel) (by decide +kernel)
theorem q_3_21 : Cond.selects RX0 yX0_step yX0_step ∈ cg_T := cg_in3 21 (by decide +kernel) (by decide +kernel)
theorem q_1_4 : Cond.initialized RX0 ∈ cg_T := cg_in1 4 (by decide +kernel) (by decide +kernel)
theorem q_3_22 : Cond.code yX0_step cX0_step 7 none ∈ cg_T := cg_in3 22 (by decide +kernel) (by decide +kernel)
theorem q_3_15 : Cond.methodLink RX0 78 yX1_fix ∈ cg_T := cg_in3 15 (by decide +kernel) (by decide +kernel)
theorem q_3_16 : Cond.instanceMethod yX1_fix ∈ cg_T := cg_in3 16 (by decide +kernel) (by decide +kernel)
theorem q_3_17 : Cond.selects RX1 yX1_fix yX1_fix ∈ cg_T := cg_in3 17 (by decide +kernel) (by decide +kernel)
theorem q_1_5 : Cond.initialized RX1 ∈ cg_T := cg_in1 5 (by decide +kernel) (by decide +kernel)
theorem q_3_18 : Cond.code yX1_fix cX1_fix 6 none ∈ cg_T := cg_in3 18 (by decide +kernel) (by decide +kernel)
theorem q_1_60 : Cond.fieldLink RX0 86 "Chanceledger$Game" "discountAbove" "I" ∈ cg_T := cg_in1 60 (by decide +kernel) (by decide +kernel)
theorem q_1_62 : Cond.fieldLink RX0 89 "Chanceledger$Game" "discountBelow" "I" ∈ cg_T := cg_in1 62 (by decide +kernel) (by decide +kernel)
theorem q_3_27 : Cond.methodLink RX0 99 yX2_costOf ∈ cg_T := cg_in3 27 (by decide +kernel) (by decide +kernel)
theorem q_3_28 : Cond.instanceMethod yX2_costOf ∈ cg_T := cg_in3 28 (by decide +kernel) (by decide +kernel)
theorem q_3_29 : Cond.selects RX2 yX2_costOf yX2_costOf ∈ cg_T := cg_in3 29 (by decide +kernel) (by decide +kernel)
theorem q_3_30 : Cond.code yX2_costOf cX2_costOf 3 (some .int) ∈ cg_T := cg_in3 30 (by decide +kernel) (by decide +kernel)
theorem q_3_31 : Cond.methodLink RX0 64 yX1_reduce ∈ cg_T := cg_in3 31 (by decide +kernel) (by decide +kernel)
theorem q_3_32 : Cond.instanceMethod yX1_reduce ∈ cg_T := cg_in3 32 (by decide +kernel) (by decide +kernel)
theorem q_3_33 : Cond.selects RX1 yX1_reduce yX1_reduce ∈ cg_T := cg_in3 33 (by decide +kernel) (by decide +kernel)
theorem q_3_34 : Cond.code yX1_reduce cX1_reduce 15 none ∈ cg_T := cg_in3 34 (by decide +kernel) (by decide +kernel)
theorem q_3_38 : Cond.methodLink RX0 68 yX1_settle ∈ cg_T := cg_in3 38 (by decide +kernel) (by decide +kernel)
theorem q_3_39 : Cond.instanceMethod yX1_settle ∈ cg_T := cg_in3 39 (by decide +kernel) (by decide +kernel)
theorem q_3_40 : Cond.selects RX1 yX1_settle yX1_settle ∈ cg_T := cg_in3 40 (by decide +kernel) (by decide +kernel)
theorem q_3_41 : Cond.code yX1_settle cX1_settle 8 none ∈ cg_T := cg_in3 41 (by decide +kernel) (by decide +kernel)
theorem q_3_9 : Cond.methodLink RX0 49 yX2_moveOf ∈ cg_T := cg_in3 9 (by decide +kernel) (by decide +kernel)
theorem q_3_23 : Cond.methodLink RX0 60 yX0_costEquation ∈ cg_T := cg_in3 23 (by decide +kernel) (by decide +kernel)
theorem q_3_24 : Cond.instanceMethod yX0_costEquation ∈ cg_T := cg_in3 24 (by decide +kernel) (by decide +kernel)
theorem q_3_25 : Cond.selects RX0 yX0_costEquation yX0_costEquation ∈ cg_T := cg_in3 25 (by decide +kernel) (by decide +kernel)
theorem q_3_26 : Cond.code yX0_costEquation cX0_costEquation 4 none ∈ cg_T := cg_in3 26 (by decide +kernel) (by decide +kernel)
theorem q_1_56 : Cond.fieldLink RX0 53 "Chanceledger$Game" "targets" "I" ∈ cg_T := cg_in1 56 (by decide +kernel) (by decide +kernel)
theorem q_3_10 : Cond.methodLink RX0 56 yX0_reachEquation ∈ cg_T := cg_in3 10 (by decide +kernel) (by decide +kernel)
theorem q_3_11 : Cond.instanceMethod yX0_reachEquation ∈ cg_T := cg_in3 11 (by decide +kernel) (by decide +kernel)
theorem q_3_12 : Cond.selects RX0 yX0_reachEquation yX0_reachEquation ∈ cg_T := cg_in3 12 (by decide +kernel) (by decide +kernel)
theorem q_3_13 : Cond.code yX0_reachEquation cX0_reachEquation 4 none ∈ cg_T := cg_in3 13 (by decide +kernel) (by decide +kernel)
theorem q_5_50 : Cond.methodLink RX0 42 yX0_arrange ∈ cg_T := cg_in5 50 (by decide +kernel) (by decide +kernel)
theorem q_2_220 : Cond.instanceMethod yX0_arrange ∈ cg_T := cg_in2 220 (by decide +kernel) (by decide +kernel)
theorem q_2_221 : Cond.selects RX0 yX0_arrange yX0_arrange ∈ cg_T := cg_in2 221 (by decide +kernel) (by decide +kernel)
theorem q_2_222 : Cond.code yX0_arrange cX0_arrange 3 none ∈ cg_T := cg_in2 222 (by decide +kernel) (by decide +kernel)
theorem q_5_56 : Cond.methodLink RX0 45 yX0_evaluateFrom ∈ cg_T := cg_in5 56 (by decide +kernel) (by decide +kernel)
theorem q_3_6 : Cond.instanceMethod yX0_evaluateFrom ∈ cg_T := cg_in3 6 (by decide +kernel) (by decide +kernel)
theorem q_3_7 : Cond.selects RX0 yX0_evaluateFrom yX0_evaluateFrom ∈ cg_T := cg_in3 7 (by decide +kernel) (by decide +kernel)
theorem q_3_8 : Cond.code yX0_evaluateFrom cX0_evaluateFrom 7 none ∈ cg_T := cg_in3 8 (by decide +kernel) (by decide +kernel)
theorem q_5_51 : Cond.methodLink RX0 71 yX0_solveAll ∈ cg_T := cg_in5 51 (by decide +kernel) (by decide +kernel)
theorem q_5_18 : Cond.instanceMethod yX0_solveAll ∈ cg_T := cg_in5 18 (by decide +kernel) (by decide +kernel)
theorem q_5_19 : Cond.selects RX0 yX0_solveAll yX0_solveAll ∈ cg_T := cg_in5 19 (by decide +kernel) (by decide +kernel)
theorem q_5_20 : Cond.code yX0_solveAll cX0_solveAll 2 none ∈ cg_T := cg_in5 20 (by decide +kernel) (by decide +kernel)
theorem q_1_185 : Cond.fieldLink RX0 107 "Chanceledger$Equations" "answer" "[J" ∈ cg_T := cg_in1 185 (by decide +kernel) (by decide +kernel)
theorem q_3_52 : Cond.methodLink RX0 111 yX0_expected ∈ cg_T := cg_in3 52 (by decide +kernel) (by decide +kernel)
theorem q_3_53 : Cond.instanceMethod yX0_expected ∈ cg_T := cg_in3 53 (by decide +kernel) (by decide +kernel)
theorem q_3_54 : Cond.selects RX0 yX0_expected yX0_expected ∈ cg_T := cg_in3 54 (by decide +kernel) (by decide +kernel)
theorem q_3_55 : Cond.code yX0_expected cX0_expected 5 (some .long) ∈ cg_T := cg_in3 55 (by decide +kernel) (by decide +kernel)
theorem q_1_189 : Cond.fieldLink RX0 115 "Chanceledger$Equations" "divisor" "J" ∈ cg_T := cg_in1 189 (by decide +kernel) (by decide +kernel)
theorem q_4_124 : Cond.methodLink RX0 123 yX0_ahead ∈ cg_T := cg_in4 124 (by decide +kernel) (by decide +kernel)
theorem q_3_49 : Cond.instanceMethod yX0_ahead ∈ cg_T := cg_in3 49 (by decide +kernel) (by decide +kernel)
theorem q_3_50 : Cond.selects RX0 yX0_ahead yX0_ahead ∈ cg_T := cg_in3 50 (by decide +kernel) (by decide +kernel)
theorem q_3_51 : Cond.code yX0_ahead cX0_ahead 5 (some .long) ∈ cg_T := cg_in3 51 (by decide +kernel) (by decide +kernel)
theorem q_4_123 : Cond.methodLink RX0 119 yX2_isTarget ∈ cg_T := cg_in4 123 (by decide +kernel) (by decide +kernel)
theorem q_4_168 : Cond.static yX11_lowestAbove ∈ cg_T := cg_in4 168 (by decide +kernel) (by decide +kernel)
theorem q_4_169 : Cond.code yX11_lowestAbove cX11_lowestAbove 4 (some .long) ∈ cg_T := cg_in4 169 (by decide +kernel) (by decide +kernel)
theorem q_4_188 : Cond.static yX11_lowestBelow ∈ cg_T := cg_in4 188 (by decide +kernel) (by decide +kernel)
theorem q_4_189 : Cond.code yX11_lowestBelow cX11_lowestBelow 4 (some .long) ∈ cg_T := cg_in4 189 (by decide +kernel) (by decide +kernel)
theorem q_3_60 : Cond.methodLink RX0 134 yX10_put ∈ cg_T := cg_in3 60 (by decide +kernel) (by decide +kernel)
theorem q_3_61 : Cond.instanceMethod yX10_put ∈ cg_T := cg_in3 61 (by decide +kernel) (by decide +kernel)
theorem q_3_62 : Cond.selects RX10 yX10_put yX10_put ∈ cg_T := cg_in3 62 (by decide +kernel) (by decide +kernel)
theorem q_1_8 : Cond.initialized RX10 ∈ cg_T := cg_in1 8 (by decide +kernel) (by decide +kernel)
theorem q_3_63 : Cond.code yX10_put cX10_put 6 none ∈ cg_T := cg_in3 63 (by decide +kernel) (by decide +kernel)
theorem q_1_145 : Cond.fieldLink RX3 22 "Chanceledger$Graph" "game" "LChanceledger$Game;" ∈ cg_T := cg_in1 145 (by decide +kernel) (by decide +kernel)
theorem q_1_81 : Cond.fieldLink RX3 55 "Chanceledger$Game" "choiceCount" "[I" ∈ cg_T := cg_in1 81 (by decide +kernel) (by decide +kernel)
theorem q_1_98 : Cond.fieldLink RX3 58 "Chanceledger$Game" "leads" "[I" ∈ cg_T := cg_in1 98 (by decide +kernel) (by decide +kernel)
theorem q_2_231 : Cond.methodLink RX3 61 yX2_moveOf ∈ cg_T := cg_in2 231 (by decide +kernel) (by decide +kernel)
theorem q_1_72 : Cond.fieldLink RX3 51 "Chanceledger$Game" "isOfA" "[Z" ∈ cg_T := cg_in1 72 (by decide +kernel) (by decide +kernel)
theorem q_1_53 : Cond.fieldLink RX3 36 "Chanceledger$Game" "count" "I" ∈ cg_T := cg_in1 53 (by decide +kernel) (by decide +kernel)
theorem q_3_0 : Cond.methodLink RX3 43 yX2_holds ∈ cg_T := cg_in3 0 (by decide +kernel) (by decide +kernel)
theorem q_2_236 : Cond.methodLink RX3 47 yX3_isDrawn ∈ cg_T := cg_in2 236 (by decide +kernel) (by decide +kernel)
theorem q_2_237 : Cond.instanceMethod yX3_isDrawn ∈ cg_T := cg_in2 237 (by decide +kernel) (by decide +kernel)
theorem q_2_238 : Cond.selects RX3 yX3_isDrawn yX3_isDrawn ∈ cg_T := cg_in2 238 (by decide +kernel) (by decide +kernel)
theorem q_1_3 : Cond.initialized RX3 ∈ cg_T := cg_in1 3 (by decide +kernel) (by decide +kernel)
theorem q_2_239 : Cond.code yX3_isDrawn cX3_isDrawn 8 (some .boolean) ∈ cg_T := cg_in2 239 (by decide +kernel) (by decide +kernel)
theorem q_1_55 : Cond.fieldLink RX3 40 "Chanceledger$Game" "targets" "I" ∈ cg_T := cg_in1 55 (by decide +kernel) (by decide +kernel)
theorem q_2_232 : Cond.methodLink RX3 26 yX2_everyState ∈ cg_T := cg_in2 232 (by decide +kernel) (by decide +kernel)
theorem q_2_233 : Cond.instanceMethod yX2_everyState ∈ cg_T := cg_in2 233 (by decide +kernel) (by decide +kernel)
theorem q_2_234 : Cond.selects RX2 yX2_everyState yX2_everyState ∈ cg_T := cg_in2 234 (by decide +kernel) (by decide +kernel)
theorem q_2_235 : Cond.code yX2_everyState cX2_everyState 1 (some .int) ∈ cg_T := cg_in2 235 (by decide +kernel) (by decide +kernel)
theorem q_3_103 : Cond.methodLink RX3 32 yX3_drawnWithin ∈ cg_T := cg_in3 103 (by decide +kernel) (by decide +kernel)
theorem q_3_104 : Cond.instanceMethod yX3_drawnWithin ∈ cg_T := cg_in3 104 (by decide +kernel) (by decide +kernel)
theorem q_3_105 : Cond.selects RX3 yX3_drawnWithin yX3_drawnWithin ∈ cg_T := cg_in3 105 (by decide +kernel) (by decide +kernel)
theorem q_3_106 : Cond.code yX3_drawnWithin cX3_drawnWithin 5 (some .int) ∈ cg_T := cg_in3 106 (by decide +kernel) (by decide +kernel)
theorem q_3_1 : Cond.methodLink RX3 65 yX3_choiceWithout ∈ cg_T := cg_in3 1 (by decide +kernel) (by decide +kernel)
theorem q_3_2 : Cond.instanceMethod yX3_choiceWithout ∈ cg_T := cg_in3 2 (by decide +kernel) (by decide +kernel)
theorem q_3_3 : Cond.selects RX3 yX3_choiceWithout yX3_choiceWithout ∈ cg_T := cg_in3 3 (by decide +kernel) (by decide +kernel)
theorem q_3_4 : Cond.code yX3_choiceWithout cX3_choiceWithout 4 (some .int) ∈ cg_T := cg_in3 4 (by decide +kernel) (by decide +kernel)
theorem q_1_146 : Cond.fieldLink RX3 9 "Chanceledger$Graph" "reach" "[I" ∈ cg_T := cg_in1 146 (by decide +kernel) (by decide +kernel)
theorem q_4_229 : Cond.methodLink RX3 68 yX3_join ∈ cg_T := cg_in4 229 (by decide +kernel) (by decide +kernel)
theorem q_4_230 : Cond.instanceMethod yX3_join ∈ cg_T := cg_in4 230 (by decide +kernel) (by decide +kernel)
theorem q_4_231 : Cond.selects RX3 yX3_join yX3_join ∈ cg_T := cg_in4 231 (by decide +kernel) (by decide +kernel)
theorem q_4_232 : Cond.code yX3_join cX3_join 3 none ∈ cg_T := cg_in4 232 (by decide +kernel) (by decide +kernel)
theorem q_4_237 : Cond.methodLink RX3 71 yX3_mutual ∈ cg_T := cg_in4 237 (by decide +kernel) (by decide +kernel)
theorem q_4_238 : Cond.instanceMethod yX3_mutual ∈ cg_T := cg_in4 238 (by decide +kernel) (by decide +kernel)
theorem q_4_239 : Cond.selects RX3 yX3_mutual yX3_mutual ∈ cg_T := cg_in4 239 (by decide +kernel) (by decide +kernel)
theorem q_5_0 : Cond.code yX3_mutual cX3_mutual 4 (some .int) ∈ cg_T := cg_in5 0 (by decide +kernel) (by decide +kernel)
theorem q_6_3 : Cond.methodLink RX3 74 yX3_leadsWithin ∈ cg_T := cg_in6 3 (by decide +kernel) (by decide +kernel)
theorem q_6_4 : Cond.instanceMethod yX3_leadsWithin ∈ cg_T := cg_in6 4 (by decide +kernel) (by decide +kernel)
theorem q_6_5 : Cond.selects RX3 yX3_leadsWithin yX3_leadsWithin ∈ cg_T := cg_in6 5 (by decide +kernel) (by decide +kernel)
theorem q_6_6 : Cond.code yX3_leadsWithin cX3_leadsWithin 6 (some .int) ∈ cg_T := cg_in6 6 (by decide +kernel) (by decide +kernel)
theorem q_1_95 : Cond.fieldLink RX3 88 "Chanceledger$Game" "weightSum" "[I" ∈ cg_T := cg_in1 95 (by decide +kernel) (by decide +kernel)
theorem q_1_105 : Cond.fieldLink RX3 91 "Chanceledger$Game" "weight" "[[I" ∈ cg_T := cg_in1 105 (by decide +kernel) (by decide +kernel)
theorem q_1_147 : Cond.fieldLink RX3 15 "Chanceledger$Graph" "bounds" "[D" ∈ cg_T := cg_in1 147 (by decide +kernel) (by decide +kernel)
theorem q_5_129 : Cond.methodLink RX3 85 yX3_boundOfMove ∈ cg_T := cg_in5 129 (by decide +kernel) (by decide +kernel)
theorem q_5_130 : Cond.instanceMethod yX3_boundOfMove ∈ cg_T := cg_in5 130 (by decide +kernel) (by decide +kernel)
theorem q_5_131 : Cond.selects RX3 yX3_boundOfMove yX3_boundOfMove ∈ cg_T := cg_in5 131 (by decide +kernel) (by decide +kernel)
theorem q_5_132 : Cond.code yX3_boundOfMove cX3_boundOfMove 5 (some .double) ∈ cg_T := cg_in5 132 (by decide +kernel) (by decide +kernel)
theorem q_1_148 : Cond.fieldLink RX3 19 "Chanceledger$Graph" "nextBounds" "[D" ∈ cg_T := cg_in1 148 (by decide +kernel) (by decide +kernel)
theorem q_5_124 : Cond.methodLink RX3 77 yX2_isTarget ∈ cg_T := cg_in5 124 (by decide +kernel) (by decide +kernel)
theorem q_5_125 : Cond.methodLink RX3 81 yX3_nextBound ∈ cg_T := cg_in5 125 (by decide +kernel) (by decide +kernel)
theorem q_5_126 : Cond.instanceMethod yX3_nextBound ∈ cg_T := cg_in5 126 (by decide +kernel) (by decide +kernel)
theorem q_5_127 : Cond.selects RX3 yX3_nextBound yX3_nextBound ∈ cg_T := cg_in5 127 (by decide +kernel) (by decide +kernel)
theorem q_5_128 : Cond.code yX3_nextBound cX3_nextBound 7 (some .double) ∈ cg_T := cg_in5 128 (by decide +kernel) (by decide +kernel)
def M_X0_arrange (σ : cg_S) (Q : cg_S → Prop) : Prop := cg_M cg_WC yX0_arrange cX0_arrange 3 none (cg_R 0) (fun ad => [.ref (ad 3)]) σ (cg_qv Q)
theorem M_X0_arrange.mono {σ : cg_S} {Q Q2 : cg_S → Prop} (h : M_X0_arrange σ Q) (hq : ∀ τ, Q τ → Q2 τ) : M_X0_arrange σ Q2 := cg_M.mono h (fun ad v τ ⟨e, q⟩ => ⟨e, hq τ q⟩)
def L_X0_arrange_4 (v1 : Int32) (v2 : Int32) (σ : cg_S) (Q : cg_S → Prop) : Prop := cg_L cg_WC RX0 cX0_arrange 3 none (cg_R 0) 4 (fun ad => [(0, .ref (ad 3)), (1, .int v1), (2, .int v2)]) (fun ad => []) σ (cg_qv Q)
def L_X0_arrange_53 (v1 : Int32) (v2 : Int32) (σ : cg_S) (Q : cg_S → Prop) : Prop := cg_L cg_WC RX0 cX0_arrange 3 none (cg_R 0) 53 (fun ad => [(0, .ref (ad 3)), (1, .int v1), (2, .int v2)]) (fun ad => []) σ (cg_qv Q)
set_option maxRecDepth 100000 in
set_option maxHeartbeats 4000000 in
theorem v_X0_arrange_53 {v1 : Int32} {v2 : Int32} {σ : cg_S} {Q : cg_S → Prop}
    (h : ((σ.1 1 0) ≤ v2 → ∀ s1 : cg_S, s1 = cg_i σ 4 0 v1 → Q s1) ∧ (¬ (σ.1 1 0) ≤ v2 → vp_in v2 7 ∧ (¬ (σ.1 57 v2.toNatClampNeg) = 0 → L_X0_arrange_53 v1 (v2 + 1) σ Q) ∧ ((σ.1 57 v2.toNatClampNeg) = 0 → vp_in v1 7 ∧ ∀ s4 : cg_S, s4 = cg_i σ 27 v1.toNatClampNeg v2 → L_X0_arrange_53 (v1 + 1) (v2 + 1) s4 Q))) : L_X0_arrange_53 v1 v2 σ Q := by
  intro p l e s m args below meth c D cy ad hC
  refine ga_iload_n hC dX0_arrange_53 2 rfl rfl ?_
  refine ga_aload_n hC dX0_arrange_54 0 rfl rfl ?_
  refine gC_3_0 hC q_1_202 dX0_arrange_55 ?_
  refine gC_1_0 hC q_1_48 dX0_arrange_58 ?_
  refine ga_icmp_ge (tgt := 95) hC dX0_arrange_61 (by decide) (fun hc => ?_) (fun hc => ?_)
  · have h := h.1 hc
    refine ga_aload_n hC dX0_arrange_95 0 rfl rfl ?_
    refine gC_3_1 hC q_1_203 dX0_arrange_96 ?_
    refine ga_iload_n hC dX0_arrange_99 1 rfl rfl ?_
    refine pC_4_0 hC q_1_173 dX0_arrange_100 ?_
    refine ga_sig (σ := cg_i σ 4 0 v1) (fun s1 es1 => ?_)
    have h := h s1 es1
    exact ga_vret hC dX0_arrange_103 ⟨rfl, h⟩
  · have h := h.2 hc
    refine ga_aload_n hC dX0_arrange_64 0 rfl rfl ?_
    refine gC_3_0 hC q_1_202 dX0_arrange_65 ?_
    refine gC_1_7 hC q_1_69 dX0_arrange_68 ?_
    refine ga_iload_n hC dX0_arrange_71 2 rfl rfl ?_
    obtain ⟨h2, h⟩ := h
    refine ga_zald hC aC_57 (by decide) h2 dX0_arrange_72 ?_
    refine ga_if_ne (tgt := 89) hC dX0_arrange_73 (by decide) (fun hc => ?_) (fun hc => ?_)
    · have h := h.1 hc
      refine ga_iinc (v := v2 + 1) (lv' := [(2, .int (v2 + 1)), (0, .ref (ad 3)), (1, .int v1)]) hC dX0_arrange_89 2 rfl rfl (by decide) rfl ?_
      refine ga_goto (tgt := 53) hC dX0_arrange_92 (by decide) ?_
      refine ga_locals [1, 2, 0] rfl ?_
      exact h p l e s m args below meth c D cy ad hC
    · have h := h.2 hc
      refine ga_aload_n hC dX0_arrange_76 0 rfl rfl ?_
      refine gC_3_1 hC q_1_203 dX0_arrange_77 ?_
      refine gC_4_1 hC q_1_177 dX0_arrange_80 ?_
      refine ga_iload_n hC dX0_arrange_83 1 rfl rfl ?_
      refine ga_iload_n hC dX0_arrange_84 2 rfl rfl ?_
      obtain ⟨h3, h⟩ := h
      refine ga_iast hC aC_27 (by decide) h3 dX0_arrange_85 ?_
      refine ga_sig (σ := cg_i σ 27 v1.toNatClampNeg v2) (fun s4 es4 => ?_)
      have h := h s4 es4
      refine ga_iinc (v := v1 + 1) (lv' := [(1, .int (v1 + 1)), (0, .ref (ad 3)), (2, .int v2)]) hC dX0_arrange_86 1 rfl rfl (by decide) rfl ?_
      refine ga_iinc (v := v2 + 1) (lv' := [(2, .int (v2 + 1)), (1, .int (v1 + 1)), (0, .ref (ad 3))]) hC dX0_arrange_89 2 rfl rfl (by decide) rfl ?_
      refine ga_goto (tgt := 53) hC dX0_arrange_92 (by decide) ?_
      refine ga_locals [2, 1, 0] rfl ?_
      exact h p l e s m args below meth c D cy ad hC
set_option maxRecDepth 100000 in
set_option maxHeartbeats 4000000 in
theorem v_X0_arrange_4 {v1 : Int32} {v2 : Int32} {σ : cg_S} {Q : cg_S → Prop}
    (h : ((σ.1 1 0) ≤ v2 → ∀ s1 : cg_S, s1 = cg_i σ 3 2 v1 → L_X0_arrange_53 v1 0 s1 Q) ∧ (¬ (σ.1 1 0) ≤ v2 → vp_in v2 7 ∧ ((σ.1 57 v2.toNatClampNeg) = 0 → L_X0_arrange_4 v1 (v2 + 1) σ Q) ∧ (¬ (σ.1 57 v2.toNatClampNeg) = 0 → vp_in v1 7 ∧ ∀ s4 : cg_S, s4 = cg_i σ 27 v1.toNatClampNeg v2 → L_X0_arrange_4 (v1 + 1) (v2 + 1) s4 Q))) : L_X0_arrange_4 v1 v2 σ Q := by
  intro p l e s m args below meth c D cy ad hC
  refine ga_iload_n hC dX0_arrange_4 2 rfl rfl ?_
  refine ga_aload_n hC dX0_arrange_5 0 rfl rfl ?_
  refine gC_3_0 hC q_1_202 dX0_arrange_6 ?_
  refine gC_1_0 hC q_1_48 dX0_arrange_9 ?_
  refine ga_icmp_ge (tgt := 46) hC dX0_arrange_12 (by decide) (fun hc => ?_) (fun hc => ?_)
  · have h := h.1 hc
    refine ga_aload_n hC dX0_arrange_46 0 rfl rfl ?_
    refine ga_iload_n hC dX0_arrange_47 1 rfl rfl ?_
    refine pC_3_2 hC q_1_206 dX0_arrange_48 ?_
    refine ga_sig (σ := cg_i σ 3 2 v1) (fun s1 es1 => ?_)
    have h := h s1 es1
    refine ga_iconst (v := 0) hC dX0_arrange_51 (by decide) ?_
    refine ga_istore_n (lv' := [(2, .int 0), (0, .ref (ad 3)), (1, .int v1)]) hC dX0_arrange_52 rfl (by decide) rfl ?_
    refine ga_locals [1, 2, 0] rfl ?_
    exact h p l e s m args below meth c D cy ad hC
  · have h := h.2 hc
    refine ga_aload_n hC dX0_arrange_15 0 rfl rfl ?_
    refine gC_3_0 hC q_1_202 dX0_arrange_16 ?_
    refine gC_1_7 hC q_1_69 dX0_arrange_19 ?_
    refine ga_iload_n hC dX0_arrange_22 2 rfl rfl ?_
    obtain ⟨h2, h⟩ := h
    refine ga_zald hC aC_57 (by decide) h2 dX0_arrange_23 ?_
    refine ga_if_eq (tgt := 40) hC dX0_arrange_24 (by decide) (fun hc => ?_) (fun hc => ?_)
    · have h := h.1 hc
      refine ga_iinc (v := v2 + 1) (lv' := [(2, .int (v2 + 1)), (0, .ref (ad 3)), (1, .int v1)]) hC dX0_arrange_40 2 rfl rfl (by decide) rfl ?_
      refine ga_goto (tgt := 4) hC dX0_arrange_43 (by decide) ?_
      refine ga_locals [1, 2, 0] rfl ?_
      exact h p l e s m args below meth c D cy ad hC
    · have h := h.2 hc
      refine ga_aload_n hC dX0_arrange_27 0 rfl rfl ?_
      refine gC_3_1 hC q_1_203 dX0_arrange_28 ?_
      refine gC_4_1 hC q_1_177 dX0_arrange_31 ?_
      refine ga_iload_n hC dX0_arrange_34 1 rfl rfl ?_
      refine ga_iload_n hC dX0_arrange_35 2 rfl rfl ?_
      obtain ⟨h3, h⟩ := h
      refine ga_iast hC aC_27 (by decide) h3 dX0_arrange_36 ?_
      refine ga_sig (σ := cg_i σ 27 v1.toNatClampNeg v2) (fun s4 es4 => ?_)
      have h := h s4 es4
      refine ga_iinc (v := v1 + 1) (lv' := [(1, .int (v1 + 1)), (0, .ref (ad 3)), (2, .int v2)]) hC dX0_arrange_37 1 rfl rfl (by decide) rfl ?_
      refine ga_iinc (v := v2 + 1) (lv' := [(2, .int (v2 + 1)), (1, .int (v1 + 1)), (0, .ref (ad 3))]) hC dX0_arrange_40 2 rfl rfl (by decide) rfl ?_
      refine ga_goto (tgt := 4) hC dX0_arrange_43 (by decide) ?_
      refine ga_locals [2, 1, 0] rfl ?_
      exact h p l e s m args below meth c D cy ad hC
set_option maxRecDepth 100000 in
set_option maxHeartbeats 4000000 in
theorem v_X0_arrange {σ : cg_S} {Q : cg_S → Prop}
    (h : L_X0_arrange_4 0 0 σ Q) : M_X0_arrange σ Q := by
  refine cg_entry (lv := fun ad => [(0, .ref (ad 3))]) (by decide +kernel) (fun _ => rfl) (fun _ => Nat.le_of_ble_eq_true rfl) ?_
  intro p l e s m args below meth c D cy ad hC
  refine ga_iconst (v := 0) hC dX0_arrange_0 (by decide) ?_
  refine ga_istore_n (lv' := [(1, .int 0), (0, .ref (ad 3))]) hC dX0_arrange_1 rfl (by decide) rfl ?_
  refine ga_iconst (v := 0) hC dX0_arrange_2 (by decide) ?_
  refine ga_istore_n (lv' := [(2, .int 0), (1, .int 0), (0, .ref (ad 3))]) hC dX0_arrange_3 rfl (by decide) rfl ?_
  refine ga_locals [2, 1, 0] rfl ?_
  exact h p l e s m args below meth c D cy ad hC
def M_X0_step (v1 : Int32) (v2 : Int32) (v3 : Int32) (v4 : Int32) (σ : cg_S) (Q : cg_S → Prop) : Prop := cg_M cg_WC yX0_step cX0_step 7 none (cg_R 0) (fun ad => [.ref (ad 3), .int v1, .int v2, .int v3, .int v4]) σ (cg_qv Q)
theorem M_X0_step.mono {v1 : Int32} {v2 : Int32} {v3 : Int32} {v4 : Int32} {σ : cg_S} {Q Q2 : cg_S → Prop} (h : M_X0_step v1 v2 v3 v4 σ Q) (hq : ∀ τ, Q τ → Q2 τ) : M_X0_step v1 v2 v3 v4 σ Q2 := cg_M.mono h (fun ad v τ ⟨e, q⟩ => ⟨e, hq τ q⟩)
def L_X0_step_14 (v1 : Int32) (v2 : Int32) (v3 : Int32) (v4 : Int32) (v5 : Nat) (v6 : Int32) (σ : cg_S) (Q : cg_S → Prop) : Prop := cg_L cg_WC RX0 cX0_step 7 none (cg_R 0) 14 (fun ad => [(0, .ref (ad 3)), (1, .int v1), (2, .int v2), (3, .int v3), (4, .int v4), (5, .ref (ad (60 + v5))), (6, .int v6)]) (fun ad => []) σ (cg_qv Q)
set_option maxRecDepth 100000 in
set_option maxHeartbeats 4000000 in
theorem v_X0_step_14 {v1 : Int32} {v2 : Int32} {v3 : Int32} {v4 : Int32} {v5 : Nat} {v6 : Int32} {σ : cg_S} {Q : cg_S → Prop} (h_v5 : v5 < 7)
    (h : ((σ.1 1 0) ≤ v6 → vp_in v1 8 ∧ vp_in v2 21 ∧ vp_in v1 8 ∧ ∀ s4 : cg_S, s4 = cg_l σ (60 + v5) v1.toNatClampNeg ((σ.2.1 (60 + v5) v1.toNatClampNeg) + ((v4 * (σ.1 24 v2.toNatClampNeg)).toInt64)) → ∀ s6 : cg_S, s6 = cg_l s4 (60 + v5) 7 0 → Q s6) ∧ (¬ (σ.1 1 0) ≤ v6 → vp_in v2 21 ∧ vp_in v6 7 ∧ vp_in v6 8 ∧ ∀ s10 : cg_S, s10 = cg_l σ (60 + v5) v6.toNatClampNeg (((-v3) * (σ.1 (36 + v2.toNatClampNeg) v6.toNatClampNeg)).toInt64) → L_X0_step_14 v1 v2 v3 v4 v5 (v6 + 1) s10 Q)) : L_X0_step_14 v1 v2 v3 v4 v5 v6 σ Q := by
  intro p l e s m args below meth c D cy ad hC
  refine ga_iload hC dX0_step_14 6 rfl ?_
  refine ga_aload_n hC dX0_step_16 0 rfl rfl ?_
  refine gC_3_0 hC q_1_202 dX0_step_17 ?_
  refine gC_1_0 hC q_1_48 dX0_step_20 ?_
  refine ga_icmp_ge (tgt := 53) hC dX0_step_23 (by decide) (fun hc => ?_) (fun hc => ?_)
  · have h := h.1 hc
    refine ga_aload hC dX0_step_53 5 rfl ?_
    refine ga_iload_n hC dX0_step_55 1 rfl rfl ?_
    refine ga_dup2_11 hC dX0_step_56 rfl rfl ?_
    obtain ⟨h1, h⟩ := h
    refine ga_lald hC (aC_g h_v5) (show 60 + _ < 88 by have := h_v5; omega) h1 dX0_step_57 ?_
    refine ga_iload hC dX0_step_58 4 rfl ?_
    refine ga_aload_n hC dX0_step_60 0 rfl rfl ?_
    refine gC_3_0 hC q_1_202 dX0_step_61 ?_
    refine gC_1_12 hC q_1_94 dX0_step_64 ?_
    refine ga_iload_n hC dX0_step_67 2 rfl rfl ?_
    obtain ⟨h2, h⟩ := h
    refine ga_iald hC aC_24 (by decide) h2 dX0_step_68 ?_
    refine ga_imul hC dX0_step_69 ?_
    refine ga_i2l hC dX0_step_70 ?_
    refine ga_ladd hC dX0_step_71 ?_
    obtain ⟨h3, h⟩ := h
    refine ga_last hC (aC_g h_v5) (show 60 + _ < 88 by have := h_v5; omega) h3 dX0_step_72 ?_
    refine ga_sig (σ := cg_l σ (60 + v5) v1.toNatClampNeg ((σ.2.1 (60 + v5) v1.toNatClampNeg) + ((v4 * (σ.1 24 v2.toNatClampNeg)).toInt64))) (fun s4 es4 => ?_)
    have h := h s4 es4
    refine ga_aload hC dX0_step_73 5 rfl ?_
    refine ga_bipush (v := 7) hC dX0_step_75 (by decide) ?_
    refine ga_lconst (v := 0) hC dX0_step_77 (by decide) ?_
    refine ga_last hC (aC_g h_v5) (show 60 + _ < 88 by have := h_v5; omega) (by unfold vp_in; decide) dX0_step_78 ?_
    refine ga_sig (σ := cg_l s4 (60 + v5) 7 0) (fun s6 es6 => ?_)
    have h := h s6 es6
    exact ga_vret hC dX0_step_79 ⟨rfl, h⟩
  · have h := h.2 hc
    refine ga_aload hC dX0_step_26 5 rfl ?_
    refine ga_iload hC dX0_step_28 6 rfl ?_
    refine ga_iload_n hC dX0_step_30 3 rfl rfl ?_
    refine ga_ineg hC dX0_step_31 ?_
    refine ga_aload_n hC dX0_step_32 0 rfl rfl ?_
    refine gC_3_0 hC q_1_202 dX0_step_33 ?_
    refine gC_1_14 hC q_1_103 dX0_step_36 ?_
    refine ga_iload_n hC dX0_step_39 2 rfl rfl ?_
    obtain ⟨h7, h⟩ := h
    refine ga_aald4 (b := 36) hC rfl (fun j hj => if_pos hj) (by decide) h7 dX0_step_40 ?_
    refine ga_iload hC dX0_step_41 6 rfl ?_
    obtain ⟨h8, h⟩ := h
    refine ga_iald hC (aC_w (cg_lt h7)) (show 36 + _ < 88 by have := (cg_lt h7); omega) h8 dX0_step_43 ?_
    refine ga_imul hC dX0_step_44 ?_
    refine ga_i2l hC dX0_step_45 ?_
    obtain ⟨h9, h⟩ := h
    refine ga_last hC (aC_g h_v5) (show 60 + _ < 88 by have := h_v5; omega) h9 dX0_step_46 ?_
    refine ga_sig (σ := cg_l σ (60 + v5) v6.toNatClampNeg (((-v3) * (σ.1 (36 + v2.toNatClampNeg) v6.toNatClampNeg)).toInt64)) (fun s10 es10 => ?_)
    have h := h s10 es10
    refine ga_iinc (v := v6 + 1) (lv' := [(6, .int (v6 + 1)), (0, .ref (ad 3)), (1, .int v1), (2, .int v2), (3, .int v3), (4, .int v4), (5, .ref (ad (60 + v5)))]) hC dX0_step_47 6 rfl rfl (by decide) rfl ?_
    refine ga_goto (tgt := 14) hC dX0_step_50 (by decide) ?_
    refine ga_locals [1, 2, 3, 4, 5, 6, 0] rfl ?_
    exact h p l e s m args below meth c D cy ad hC
set_option maxRecDepth 100000 in
set_option maxHeartbeats 4000000 in
theorem v_X0_step {v1 : Int32} {v2 : Int32} {v3 : Int32} {v4 : Int32} {σ : cg_S} {Q : cg_S → Prop}
    (h : vp_in v1 7 ∧ ∀ n2 : Nat, n2 = v1.toNatClampNeg → L_X0_step_14 v1 v2 v3 v4 n2 0 σ Q) : M_X0_step v1 v2 v3 v4 σ Q := by
  refine cg_entry (lv := fun ad => [(0, .ref (ad 3)), (1, .int v1), (2, .int v2), (3, .int v3), (4, .int v4)]) (by decide +kernel) (fun _ => rfl) (fun _ => Nat.le_of_ble_eq_true rfl) ?_
  intro p l e s m args below meth c D cy ad hC
  refine ga_aload_n hC dX0_step_0 0 rfl rfl ?_
  refine gC_3_1 hC q_1_203 dX0_step_1 ?_
  refine gC_4_2 hC q_1_181 dX0_step_4 ?_
  refine ga_iload_n hC dX0_step_7 1 rfl rfl ?_
  obtain ⟨h1, h⟩ := h
  refine ga_aald5 (b := 60) hC rfl (fun j hj => if_pos hj) (by decide) h1 dX0_step_8 ?_
  obtain ⟨n2, en2⟩ : ∃ y : Nat, y = v1.toNatClampNeg := ⟨_, rfl⟩
  have h := h n2 en2
  have hn2 : n2 < 7 := by rw [en2]; exact (cg_lt h1)
  rw [← en2]
  refine ga_astore (lv' := [(5, .ref (ad (60 + n2))), (0, .ref (ad 3)), (1, .int v1), (2, .int v2), (3, .int v3), (4, .int v4)]) hC dX0_step_9 (by decide) rfl ?_
  refine ga_iconst (v := 0) hC dX0_step_11 (by decide) ?_
  refine ga_istore (lv' := [(6, .int 0), (5, .ref (ad (60 + n2))), (0, .ref (ad 3)), (1, .int v1), (2, .int v2), (3, .int v3), (4, .int v4)]) hC dX0_step_12 (by decide) rfl ?_
  refine ga_locals [2, 3, 4, 5, 6, 1, 0] rfl ?_
  exact h p l e s m args below meth c D cy ad hC
def M_X0_reachEquation (v1 : Int32) (v2 : Int32) (v3 : Int32) (σ : cg_S) (Q : cg_S → Prop) : Prop := cg_M cg_WC yX0_reachEquation cX0_reachEquation 4 none (cg_R 1) (fun ad => [.ref (ad 3), .int v1, .int v2, .int v3]) σ (cg_qv Q)
theorem M_X0_reachEquation.mono {v1 : Int32} {v2 : Int32} {v3 : Int32} {σ : cg_S} {Q Q2 : cg_S → Prop} (h : M_X0_reachEquation v1 v2 v3 σ Q) (hq : ∀ τ, Q τ → Q2 τ) : M_X0_reachEquation v1 v2 v3 σ Q2 := cg_M.mono h (fun ad v τ ⟨e, q⟩ => ⟨e, hq τ q⟩)
set_option maxRecDepth 100000 in
set_option maxHeartbeats 4000000 in
theorem v_X0_reachEquation {v1 : Int32} {v2 : Int32} {v3 : Int32} {σ : cg_S} {Q : cg_S → Prop}
    (h : M_X2_holds v3 v1 σ (fun r1 s2 => (r1 = 0 → M_X0_step v1 v2 1 1 s2 (fun s5 => Q s5)) ∧ (¬ r1 = 0 → M_X1_fix v1 1 s2 (fun s8 => Q s8)))) : M_X0_reachEquation v1 v2 v3 σ Q := by
  refine cg_entry (lv := fun ad => [(0, .ref (ad 3)), (1, .int v1), (2, .int v2), (3, .int v3)]) (by decide +kernel) (fun _ => rfl) (fun _ => Nat.le_of_ble_eq_true rfl) ?_
  intro p l e s m args below meth c D cy ad hC
  refine ga_iload_n hC dX0_reachEquation_0 3 rfl rfl ?_
  refine ga_iload_n hC dX0_reachEquation_1 1 rfl rfl ?_
  refine ga_callS (As := [.int v3, .int v1]) (st := []) (n := 2) hC h q_3_14 q_2_188 q_1_2 q_2_189 rfl rfl rfl (by decide +kernel) ⟨Nat.le_of_ble_eq_true rfl, Nat.le_of_ble_eq_true rfl⟩ ⟨Nat.le_of_ble_eq_true rfl, Nat.le_of_ble_eq_true rfl⟩ rfl rfl (Nat.le_of_ble_eq_true rfl) dX0_reachEquation_2 (fun v τ hq => ?_)
  obtain ⟨r1, rfl, h⟩ := hq
  obtain ⟨s2, es2⟩ : ∃ z, z = τ := ⟨_, rfl⟩
  rw [← es2] at h ⊢
  clear es2
  refine ga_if_eq (tgt := 20) hC dX0_reachEquation_5 (by decide) (fun hc => ?_) (fun hc => ?_)
  · have h := h.1 hc
    refine ga_aload_n hC dX0_reachEquation_20 0 rfl rfl ?_
    refine ga_iload_n hC dX0_reachEquation_21 1 rfl rfl ?_
    refine ga_iload_n hC dX0_reachEquation_22 2 rfl rfl ?_
    refine ga_iconst (v := 1) hC dX0_reachEquation_23 (by decide) ?_
    refine ga_iconst (v := 1) hC dX0_reachEquation_24 (by decide) ?_
    refine ga_callV (As := [.int v1, .int v2, .int 1, .int 1]) (st := []) (k := 3) (n := 4) hC h q_3_19 q_3_20 q_3_21 q_1_4 q_3_22 rfl rfl rfl (by decide +kernel) ⟨Nat.le_of_ble_eq_true rfl, Nat.le_of_ble_eq_true rfl⟩ ⟨Nat.le_of_ble_eq_true rfl, Nat.le_of_ble_eq_true rfl⟩ rfl rfl rfl (by decide) rfl (Nat.le_of_ble_eq_true rfl) dX0_reachEquation_25 (fun v τ hq => ?_)
    obtain ⟨rfl, h⟩ := hq
    obtain ⟨s5, es5⟩ : ∃ z, z = τ := ⟨_, rfl⟩
    rw [← es5] at h ⊢
    clear es5
    exact ga_vret hC dX0_reachEquation_28 ⟨rfl, h⟩
  · have h := h.2 hc
    refine ga_aload_n hC dX0_reachEquation_8 0 rfl rfl ?_
    refine gC_3_1 hC q_1_203 dX0_reachEquation_9 ?_
    refine ga_iload_n hC dX0_reachEquation_12 1 rfl rfl ?_
    refine ga_lconst (v := 1) hC dX0_reachEquation_13 (by decide) ?_
    refine ga_callV (As := [.int v1, .long 1]) (st := []) (k := 4) (n := 2) hC h q_3_15 q_3_16 q_3_17 q_1_5 q_3_18 rfl rfl rfl (by decide +kernel) ⟨Nat.le_of_ble_eq_true rfl, Nat.le_of_ble_eq_true rfl⟩ ⟨Nat.le_of_ble_eq_true rfl, Nat.le_of_ble_eq_true rfl⟩ rfl rfl rfl (by decide) rfl (Nat.le_of_ble_eq_true rfl) dX0_reachEquation_14 (fun v τ hq => ?_)
    obtain ⟨rfl, h⟩ := hq
    obtain ⟨s8, es8⟩ : ∃ z, z = τ := ⟨_, rfl⟩
    rw [← es8] at h ⊢
    clear es8
    refine ga_goto (tgt := 28) hC dX0_reachEquation_17 (by decide) ?_
    exact ga_vret hC dX0_reachEquation_28 ⟨rfl, h⟩
def M_X0_costEquation (v1 : Int32) (v2 : Int32) (v3 : Int32) (σ : cg_S) (Q : cg_S → Prop) : Prop := cg_M cg_WC yX0_costEquation cX0_costEquation 4 none (cg_R 1) (fun ad => [.ref (ad 3), .int v1, .int v2, .int v3]) σ (cg_qv Q)
theorem M_X0_costEquation.mono {v1 : Int32} {v2 : Int32} {v3 : Int32} {σ : cg_S} {Q Q2 : cg_S → Prop} (h : M_X0_costEquation v1 v2 v3 σ Q) (hq : ∀ τ, Q τ → Q2 τ) : M_X0_costEquation v1 v2 v3 σ Q2 := cg_M.mono h (fun ad v τ ⟨e, q⟩ => ⟨e, hq τ q⟩)
set_option maxRecDepth 100000 in
set_option maxHeartbeats 4000000 in
theorem v_X0_costEquation {v1 : Int32} {v2 : Int32} {v3 : Int32} {σ : cg_S} {Q : cg_S → Prop}
    (h : M_X0_step v1 v2 (σ.1 1 2) (σ.1 1 3) σ (fun s2 => vp_in v1 7 ∧ vp_in v2 21 ∧ M_X2_costOf v2 v3 s2 (fun r6 s7 => ∀ s10 : cg_S, s10 = cg_l s7 (60 + v1.toNatClampNeg) 7 ((((s2.1 1 3).toInt64) * ((s2.1 24 v2.toNatClampNeg).toInt64)) * r6.toInt64) → Q s10))) : M_X0_costEquation v1 v2 v3 σ Q := by
  refine cg_entry (lv := fun ad => [(0, .ref (ad 3)), (1, .int v1), (2, .int v2), (3, .int v3)]) (by decide +kernel) (fun _ => rfl) (fun _ => Nat.le_of_ble_eq_true rfl) ?_
  intro p l e s m args below meth c D cy ad hC
  refine ga_aload_n hC dX0_costEquation_0 0 rfl rfl ?_
  refine ga_iload_n hC dX0_costEquation_1 1 rfl rfl ?_
  refine ga_iload_n hC dX0_costEquation_2 2 rfl rfl ?_
  refine ga_aload_n hC dX0_costEquation_3 0 rfl rfl ?_
  refine gC_3_0 hC q_1_202 dX0_costEquation_4 ?_
  refine gC_1_2 hC q_1_60 dX0_costEquation_7 ?_
  refine ga_aload_n hC dX0_costEquation_10 0 rfl rfl ?_
  refine gC_3_0 hC q_1_202 dX0_costEquation_11 ?_
  refine gC_1_3 hC q_1_62 dX0_costEquation_14 ?_
  refine ga_callV (As := [.int v1, .int v2, .int (σ.1 1 2), .int (σ.1 1 3)]) (st := []) (k := 3) (n := 4) hC h q_3_19 q_3_20 q_3_21 q_1_4 q_3_22 rfl rfl rfl (by decide +kernel) ⟨Nat.le_of_ble_eq_true rfl, Nat.le_of_ble_eq_true rfl⟩ ⟨Nat.le_of_ble_eq_true rfl, Nat.le_of_ble_eq_true rfl⟩ rfl rfl rfl (by decide) rfl (Nat.le_of_ble_eq_true rfl) dX0_costEquation_17 (fun v τ hq => ?_)
  obtain ⟨rfl, h⟩ := hq
  obtain ⟨s2, es2⟩ : ∃ z, z = τ := ⟨_, rfl⟩
  rw [← es2] at h ⊢
  clear es2
  refine ga_aload_n hC dX0_costEquation_20 0 rfl rfl ?_
  refine gC_3_1 hC q_1_203 dX0_costEquation_21 ?_
  refine gC_4_2 hC q_1_181 dX0_costEquation_24 ?_
  refine ga_iload_n hC dX0_costEquation_27 1 rfl rfl ?_
  obtain ⟨h4, h⟩ := h
  refine ga_aald5 (b := 60) hC rfl (fun j hj => if_pos hj) (by decide) h4 dX0_costEquation_28 ?_
  refine ga_bipush (v := 7) hC dX0_costEquation_29 (by decide) ?_
  refine ga_aload_n hC dX0_costEquation_31 0 rfl rfl ?_
  refine gC_3_0 hC q_1_202 dX0_costEquation_32 ?_
  refine gC_1_3 hC q_1_62 dX0_costEquation_35 ?_
  refine ga_i2l hC dX0_costEquation_38 ?_
  refine ga_aload_n hC dX0_costEquation_39 0 rfl rfl ?_
  refine gC_3_0 hC q_1_202 dX0_costEquation_40 ?_
  refine gC_1_12 hC q_1_94 dX0_costEquation_43 ?_
  refine ga_iload_n hC dX0_costEquation_46 2 rfl rfl ?_
  obtain ⟨h5, h⟩ := h
  refine ga_iald hC aC_24 (by decide) h5 dX0_costEquation_47 ?_
  refine ga_i2l hC dX0_costEquation_48 ?_
  refine ga_lmul hC dX0_costEquation_49 ?_
  refine ga_aload_n hC dX0_costEquation_50 0 rfl rfl ?_
  refine gC_3_0 hC q_1_202 dX0_costEquation_51 ?_
  refine ga_iload_n hC dX0_costEquation_54 2 rfl rfl ?_
  refine ga_iload_n hC dX0_costEquation_55 3 rfl rfl ?_
  refine ga_callV (As := [.int v2, .int v3]) (st := [.long (((s2.1 1 3).toInt64) * ((s2.1 24 v2.toNatClampNeg).toInt64)), .int 7, .ref (ad (60 + v1.toNatClampNeg))]) (k := 1) (n := 2) hC h q_3_27 q_3_28 q_3_29 q_1_2 q_3_30 rfl rfl rfl (by decide +kernel) ⟨Nat.le_of_ble_eq_true rfl, Nat.le_of_ble_eq_true rfl⟩ ⟨Nat.le_of_ble_eq_true rfl, Nat.le_of_ble_eq_true rfl⟩ rfl rfl rfl (by decide) rfl (Nat.le_of_ble_eq_true rfl) dX0_costEquation_56 (fun v τ hq => ?_)
  obtain ⟨r6, rfl, h⟩ := hq
  obtain ⟨s7, es7⟩ : ∃ z, z = τ := ⟨_, rfl⟩
  rw [← es7] at h ⊢
  clear es7
  refine ga_i2l hC dX0_costEquation_59 ?_
  refine ga_lmul hC dX0_costEquation_60 ?_
  refine ga_last hC (aC_g (cg_lt h4)) (show 60 + _ < 88 by have := (cg_lt h4); omega) (by unfold vp_in; decide) dX0_costEquation_61 ?_
  refine ga_sig (σ := cg_l s7 (60 + v1.toNatClampNeg) 7 ((((s2.1 1 3).toInt64) * ((s2.1 24 v2.toNatClampNeg).toInt64)) * r6.toInt64)) (fun s10 es10 => ?_)
  have h := h s10 es10
  exact ga_vret hC dX0_costEquation_62 ⟨rfl, h⟩
def M_X0_evaluateFrom (v1 : Int32) (v2 : Nat) (v3 : Int32) (σ : cg_S) (Q : cg_S → Prop) : Prop := cg_M cg_WC yX0_evaluateFrom cX0_evaluateFrom 7 none (cg_R 2) (fun ad => [.ref (ad 3), .int v1, .ref (ad v2), .int v3]) σ (cg_qv Q)
theorem M_X0_evaluateFrom.mono {v1 : Int32} {v2 : Nat} {v3 : Int32} {σ : cg_S} {Q Q2 : cg_S → Prop} (h : M_X0_evaluateFrom v1 v2 v3 σ Q) (hq : ∀ τ, Q τ → Q2 τ) : M_X0_evaluateFrom v1 v2 v3 σ Q2 := cg_M.mono h (fun ad v τ ⟨e, q⟩ => ⟨e, hq τ q⟩)
def L_X0_evaluateFrom_3 (v1 : Int32) (v2 : Nat) (v4 : Int32) (σ : cg_S) (Q : cg_S → Prop) : Prop := cg_L cg_WC RX0 cX0_evaluateFrom 7 none (cg_R 2) 3 (fun ad => [(0, .ref (ad 3)), (1, .int v1), (2, .ref (ad v2)), (4, .int v4)]) (fun ad => []) σ (cg_qv Q)
def L_X0_evaluateFrom_71 (v1 : Int32) (v2 : Nat) (v4 : Int32) (σ : cg_S) (Q : cg_S → Prop) : Prop := cg_L cg_WC RX0 cX0_evaluateFrom 7 none (cg_R 2) 71 (fun ad => [(0, .ref (ad 3)), (1, .int v1), (2, .ref (ad v2)), (4, .int v4)]) (fun ad => []) σ (cg_qv Q)
set_option maxRecDepth 100000 in
set_option maxHeartbeats 4000000 in
theorem v_X0_evaluateFrom_71 {v1 : Int32} {v2 : Nat} {v4 : Int32} {σ : cg_S} {Q : cg_S → Prop} (h_v2 : v2 = 19 ∨ v2 = 29 ∨ v2 = 30)
    (h : M_X1_reduce v4 σ (fun s2 => L_X0_evaluateFrom_3 v1 v2 (v4 + 1) s2 Q)) : L_X0_evaluateFrom_71 v1 v2 v4 σ Q := by
  intro p l e s m args below meth c D cy ad hC
  refine ga_aload_n hC dX0_evaluateFrom_71 0 rfl rfl ?_
  refine gC_3_1 hC q_1_203 dX0_evaluateFrom_72 ?_
  refine ga_iload hC dX0_evaluateFrom_75 3 rfl ?_
  refine ga_callV (As := [.int v4]) (st := []) (k := 4) (n := 1) hC h q_3_31 q_3_32 q_3_33 q_1_5 q_3_34 rfl rfl rfl (by decide +kernel) ⟨Nat.le_of_ble_eq_true rfl, Nat.le_of_ble_eq_true rfl⟩ ⟨Nat.le_of_ble_eq_true rfl, Nat.le_of_ble_eq_true rfl⟩ rfl rfl rfl (by decide) rfl (Nat.le_of_ble_eq_true rfl) dX0_evaluateFrom_77 (fun v τ hq => ?_)
  obtain ⟨rfl, h⟩ := hq
  obtain ⟨s2, es2⟩ : ∃ z, z = τ := ⟨_, rfl⟩
  rw [← es2] at h ⊢
  clear es2
  refine ga_iinc (v := v4 + 1) (lv' := [(4, .int (v4 + 1)), (0, .ref (ad 3)), (1, .int v1), (2, .ref (ad v2))]) hC dX0_evaluateFrom_80 3 rfl rfl (by decide) rfl ?_
  refine ga_goto (tgt := 3) hC dX0_evaluateFrom_83 (by decide) ?_
  refine ga_locals [1, 2, 3, 0] rfl ?_
  exact h p l e s m args below meth c D cy ad hC
set_option maxRecDepth 100000 in
set_option maxHeartbeats 4000000 in
theorem v_X0_evaluateFrom_3 {v1 : Int32} {v2 : Nat} {v4 : Int32} {σ : cg_S} {Q : cg_S → Prop} (h_v2 : v2 = 19 ∨ v2 = 29 ∨ v2 = 30)
    (h : ((σ.1 4 0) ≤ v4 → M_X1_settle σ (fun s2 => Q s2)) ∧ (¬ (σ.1 4 0) ≤ v4 → vp_in v4 7 ∧ ∀ x5 : Int32, x5 = σ.1 27 v4.toNatClampNeg → vp_in x5 7 ∧ M_X2_moveOf x5 (σ.1 v2 x5.toNatClampNeg) σ (fun r7 s8 => (¬ v1 = 114 → M_X0_costEquation x5 r7 v1 s8 (fun s11 => L_X0_evaluateFrom_71 v1 v2 v4 s11 Q)) ∧ (v1 = 114 → M_X0_reachEquation x5 r7 (s8.1 1 1) s8 (fun s14 => L_X0_evaluateFrom_71 v1 v2 v4 s14 Q))))) : L_X0_evaluateFrom_3 v1 v2 v4 σ Q := by
  intro p l e s m args below meth c D cy ad hC
  refine ga_iload hC dX0_evaluateFrom_3 3 rfl ?_
  refine ga_aload_n hC dX0_evaluateFrom_5 0 rfl rfl ?_
  refine gC_3_1 hC q_1_203 dX0_evaluateFrom_6 ?_
  refine gC_4_0 hC q_1_173 dX0_evaluateFrom_9 ?_
  refine ga_icmp_ge (tgt := 86) hC dX0_evaluateFrom_12 (by decide) (fun hc => ?_) (fun hc => ?_)
  · have h := h.1 hc
    refine ga_aload_n hC dX0_evaluateFrom_86 0 rfl rfl ?_
    refine gC_3_1 hC q_1_203 dX0_evaluateFrom_87 ?_
    refine ga_callV (As := []) (st := []) (k := 4) (n := 0) hC h q_3_38 q_3_39 q_3_40 q_1_5 q_3_41 rfl rfl rfl (by decide +kernel) ⟨Nat.le_of_ble_eq_true rfl, Nat.le_of_ble_eq_true rfl⟩ ⟨Nat.le_of_ble_eq_true rfl, Nat.le_of_ble_eq_true rfl⟩ rfl rfl rfl (by decide) rfl (Nat.le_of_ble_eq_true rfl) dX0_evaluateFrom_90 (fun v τ hq => ?_)
    obtain ⟨rfl, h⟩ := hq
    obtain ⟨s2, es2⟩ : ∃ z, z = τ := ⟨_, rfl⟩
    rw [← es2] at h ⊢
    clear es2
    exact ga_vret hC dX0_evaluateFrom_93 ⟨rfl, h⟩
  · have h := h.2 hc
    refine ga_aload_n hC dX0_evaluateFrom_15 0 rfl rfl ?_
    refine gC_3_1 hC q_1_203 dX0_evaluateFrom_16 ?_
    refine gC_4_1 hC q_1_177 dX0_evaluateFrom_19 ?_
    refine ga_iload hC dX0_evaluateFrom_22 3 rfl ?_
    obtain ⟨h4, h⟩ := h
    refine ga_iald hC aC_27 (by decide) h4 dX0_evaluateFrom_24 ?_
    refine ga_topi (fun x5 ex5 => ?_)
    have h := h x5 ex5
    refine ga_istore (lv' := [(5, .int x5), (0, .ref (ad 3)), (1, .int v1), (2, .ref (ad v2)), (4, .int v4)]) hC dX0_evaluateFrom_25 (by decide) rfl ?_
    refine ga_iload hC dX0_evaluateFrom_27 0 rfl ?_
    refine ga_aload_n hC dX0_evaluateFrom_29 3 rfl rfl ?_
    refine ga_iload hC dX0_evaluateFrom_30 0 rfl ?_
    obtain ⟨h6, h⟩ := h
    refine ga_iald hC (aC_p h_v2) (show _ < 88 by have := h_v2; omega) h6 dX0_evaluateFrom_32 ?_
    refine ga_callS (As := [.int x5, .int (σ.1 v2 x5.toNatClampNeg)]) (st := []) (n := 2) hC h q_3_9 q_2_169 q_1_2 q_2_170 rfl rfl rfl (by decide +kernel) ⟨Nat.le_of_ble_eq_true rfl, Nat.le_of_ble_eq_true rfl⟩ ⟨Nat.le_of_ble_eq_true rfl, Nat.le_of_ble_eq_true rfl⟩ rfl rfl (Nat.le_of_ble_eq_true rfl) dX0_evaluateFrom_33 (fun v τ hq => ?_)
    obtain ⟨r7, rfl, h⟩ := hq
    obtain ⟨s8, es8⟩ : ∃ z, z = τ := ⟨_, rfl⟩
    rw [← es8] at h ⊢
    clear es8
    refine ga_istore (lv' := [(6, .int r7), (5, .int x5), (0, .ref (ad 3)), (1, .int v1), (2, .ref (ad v2)), (4, .int v4)]) hC dX0_evaluateFrom_36 (by decide) rfl ?_
    refine ga_iload_n hC dX0_evaluateFrom_38 3 rfl rfl ?_
    refine ga_bipush (v := 114) hC dX0_evaluateFrom_39 (by decide) ?_
    refine ga_icmp_ne (tgt := 62) hC dX0_evaluateFrom_41 (by decide) (fun hc => ?_) (fun hc => ?_)
    · have h := h.1 hc
      refine ga_aload_n hC dX0_evaluateFrom_62 2 rfl rfl ?_
      refine ga_iload hC dX0_evaluateFrom_63 1 rfl ?_
      refine ga_iload hC dX0_evaluateFrom_65 0 rfl ?_
      refine ga_iload_n hC dX0_evaluateFrom_67 3 rfl rfl ?_
      refine ga_callV (As := [.int x5, .int r7, .int v1]) (st := []) (k := 3) (n := 3) hC h q_3_23 q_3_24 q_3_25 q_1_4 q_3_26 rfl rfl rfl (by decide +kernel) ⟨Nat.le_of_ble_eq_true rfl, Nat.le_of_ble_eq_true rfl⟩ ⟨Nat.le_of_ble_eq_true rfl, Nat.le_of_ble_eq_true rfl⟩ rfl rfl rfl (by decide) rfl (Nat.le_of_ble_eq_true rfl) dX0_evaluateFrom_68 (fun v τ hq => ?_)
      obtain ⟨rfl, h⟩ := hq
      obtain ⟨s11, es11⟩ : ∃ z, z = τ := ⟨_, rfl⟩
      rw [← es11] at h ⊢
      clear es11
      refine ga_locals [2, 3, 4, 5] rfl ?_
      exact h p l e s m args below meth c D cy ad hC
    · have h := h.2 hc
      refine ga_aload_n hC dX0_evaluateFrom_44 2 rfl rfl ?_
      refine ga_iload hC dX0_evaluateFrom_45 1 rfl ?_
      refine ga_iload hC dX0_evaluateFrom_47 0 rfl ?_
      refine ga_aload_n hC dX0_evaluateFrom_49 2 rfl rfl ?_
      refine gC_3_0 hC q_1_202 dX0_evaluateFrom_50 ?_
      refine gC_1_1 hC q_1_56 dX0_evaluateFrom_53 ?_
      refine ga_callV (As := [.int x5, .int r7, .int (s8.1 1 1)]) (st := []) (k := 3) (n := 3) hC h q_3_10 q_3_11 q_3_12 q_1_4 q_3_13 rfl rfl rfl (by decide +kernel) ⟨Nat.le_of_ble_eq_true rfl, Nat.le_of_ble_eq_true rfl⟩ ⟨Nat.le_of_ble_eq_true rfl, Nat.le_of_ble_eq_true rfl⟩ rfl rfl rfl (by decide) rfl (Nat.le_of_ble_eq_true rfl) dX0_evaluateFrom_56 (fun v τ hq => ?_)
      obtain ⟨rfl, h⟩ := hq
      obtain ⟨s14, es14⟩ : ∃ z, z = τ := ⟨_, rfl⟩
      rw [← es14] at h ⊢
      clear es14
      refine ga_goto (tgt := 71) hC dX0_evaluateFrom_59 (by decide) ?_
      refine ga_locals [2, 3, 4, 5] rfl ?_
      exact h p l e s m args below meth c D cy ad hC
set_option maxRecDepth 100000 in
set_option maxHeartbeats 4000000 in
theorem v_X0_evaluateFrom {v1 : Int32} {v2 : Nat} {v3 : Int32} {σ : cg_S} {Q : cg_S → Prop} (h_v2 : v2 = 19 ∨ v2 = 29 ∨ v2 = 30)
    (h : L_X0_evaluateFrom_3 v1 v2 v3 σ Q) : M_X0_evaluateFrom v1 v2 v3 σ Q := by
  refine cg_entry (lv := fun ad => [(0, .ref (ad 3)), (1, .int v1), (2, .ref (ad v2)), (3, .int v3)]) (by decide +kernel) (fun _ => rfl) (fun _ => Nat.le_of_ble_eq_true rfl) ?_
  intro p l e s m args below meth c D cy ad hC
  refine ga_iload_n hC dX0_evaluateFrom_0 3 rfl rfl ?_
  refine ga_istore (lv' := [(4, .int v3), (0, .ref (ad 3)), (1, .int v1), (2, .ref (ad v2)), (3, .int v3)]) hC dX0_evaluateFrom_1 (by decide) rfl ?_
  refine ga_locals [1, 2, 3, 0] rfl ?_
  exact h p l e s m args below meth c D cy ad hC
def M_X0_evaluate (v1 : Int32) (v2 : Nat) (σ : cg_S) (Q : cg_S → Prop) : Prop := cg_M cg_WC yX0_evaluate cX0_evaluate 3 none (cg_R 3) (fun ad => [.ref (ad 3), .int v1, .ref (ad v2)]) σ (cg_qv Q)
theorem M_X0_evaluate.mono {v1 : Int32} {v2 : Nat} {σ : cg_S} {Q Q2 : cg_S → Prop} (h : M_X0_evaluate v1 v2 σ Q) (hq : ∀ τ, Q τ → Q2 τ) : M_X0_evaluate v1 v2 σ Q2 := cg_M.mono h (fun ad v τ ⟨e, q⟩ => ⟨e, hq τ q⟩)
set_option maxRecDepth 100000 in
set_option maxHeartbeats 4000000 in
theorem v_X0_evaluate {v1 : Int32} {v2 : Nat} {σ : cg_S} {Q : cg_S → Prop} (h_v2 : v2 = 19 ∨ v2 = 29 ∨ v2 = 30)
    (h : M_X0_arrange σ (fun s2 => M_X0_evaluateFrom v1 v2 0 s2 (fun s5 => Q s5))) : M_X0_evaluate v1 v2 σ Q := by
  refine cg_entry (lv := fun ad => [(0, .ref (ad 3)), (1, .int v1), (2, .ref (ad v2))]) (by decide +kernel) (fun _ => rfl) (fun _ => Nat.le_of_ble_eq_true rfl) ?_
  intro p l e s m args below meth c D cy ad hC
  refine ga_aload_n hC dX0_evaluate_0 0 rfl rfl ?_
  refine ga_callV (As := []) (st := []) (k := 3) (n := 0) hC h q_5_50 q_2_220 q_2_221 q_1_4 q_2_222 rfl rfl rfl (by decide +kernel) ⟨Nat.le_of_ble_eq_true rfl, Nat.le_of_ble_eq_true rfl⟩ ⟨Nat.le_of_ble_eq_true rfl, Nat.le_of_ble_eq_true rfl⟩ rfl rfl rfl (by decide) rfl (Nat.le_of_ble_eq_true rfl) dX0_evaluate_1 (fun v τ hq => ?_)
  obtain ⟨rfl, h⟩ := hq
  obtain ⟨s2, es2⟩ : ∃ z, z = τ := ⟨_, rfl⟩
  rw [← es2] at h ⊢
  clear es2
  refine ga_aload_n hC dX0_evaluate_4 0 rfl rfl ?_
  refine ga_iload_n hC dX0_evaluate_5 1 rfl rfl ?_
  refine ga_aload_n hC dX0_evaluate_6 2 rfl rfl ?_
  refine ga_iconst (v := 0) hC dX0_evaluate_7 (by decide) ?_
  refine ga_callV (As := [.int v1, .ref (ad v2), .int 0]) (st := []) (k := 3) (n := 3) hC h q_5_56 q_3_6 q_3_7 q_1_4 q_3_8 rfl rfl rfl (by decide +kernel) ⟨Nat.le_of_ble_eq_true rfl, Nat.le_of_ble_eq_true rfl⟩ ⟨Nat.le_of_ble_eq_true rfl, Nat.le_of_ble_eq_true rfl⟩ rfl rfl rfl (by decide) rfl (Nat.le_of_ble_eq_true rfl) dX0_evaluate_8 (fun v τ hq => ?_)
  obtain ⟨rfl, h⟩ := hq
  obtain ⟨s5, es5⟩ : ∃ z, z = τ := ⟨_, rfl⟩
  rw [← es5] at h ⊢
  clear es5
  exact ga_vret hC dX0_evaluate_11 ⟨rfl, h⟩
def M_X0_solveAll (σ : cg_S) (Q : cg_S → Prop) : Prop := cg_M cg_WC yX0_solveAll cX0_solveAll 2 none (cg_R 2) (fun ad => [.ref (ad 3)]) σ (cg_qv Q)
theorem M_X0_solveAll.mono {σ : cg_S} {Q Q2 : cg_S → Prop} (h : M_X0_solveAll σ Q) (hq : ∀ τ, Q τ → Q2 τ) : M_X0_solveAll σ Q2 := cg_M.mono h (fun ad v τ ⟨e, q⟩ => ⟨e, hq τ q⟩)
def L_X0_solveAll_2 (v1 : Int32) (σ : cg_S) (Q : cg_S → Prop) : Prop := cg_L cg_WC RX0 cX0_solveAll 2 none (cg_R 2) 2 (fun ad => [(0, .ref (ad 3)), (1, .int v1)]) (fun ad => []) σ (cg_qv Q)
set_option maxRecDepth 100000 in
set_option maxHeartbeats 4000000 in
theorem v_X0_solveAll_2 {v1 : Int32} {σ : cg_S} {Q : cg_S → Prop}
    (h : ((σ.1 4 0) ≤ v1 → M_X1_settle σ (fun s2 => Q s2)) ∧ (¬ (σ.1 4 0) ≤ v1 → M_X1_reduce v1 σ (fun s5 => L_X0_solveAll_2 (v1 + 1) s5 Q))) : L_X0_solveAll_2 v1 σ Q := by
  intro p l e s m args below meth c D cy ad hC
  refine ga_iload_n hC dX0_solveAll_2 1 rfl rfl ?_
  refine ga_aload_n hC dX0_solveAll_3 0 rfl rfl ?_
  refine gC_3_1 hC q_1_203 dX0_solveAll_4 ?_
  refine gC_4_0 hC q_1_173 dX0_solveAll_7 ?_
  refine ga_icmp_ge (tgt := 27) hC dX0_solveAll_10 (by decide) (fun hc => ?_) (fun hc => ?_)
  · have h := h.1 hc
    refine ga_aload_n hC dX0_solveAll_27 0 rfl rfl ?_
    refine gC_3_1 hC q_1_203 dX0_solveAll_28 ?_
    refine ga_callV (As := []) (st := []) (k := 4) (n := 0) hC h q_3_38 q_3_39 q_3_40 q_1_5 q_3_41 rfl rfl rfl (by decide +kernel) ⟨Nat.le_of_ble_eq_true rfl, Nat.le_of_ble_eq_true rfl⟩ ⟨Nat.le_of_ble_eq_true rfl, Nat.le_of_ble_eq_true rfl⟩ rfl rfl rfl (by decide) rfl (Nat.le_of_ble_eq_true rfl) dX0_solveAll_31 (fun v τ hq => ?_)
    obtain ⟨rfl, h⟩ := hq
    obtain ⟨s2, es2⟩ : ∃ z, z = τ := ⟨_, rfl⟩
    rw [← es2] at h ⊢
    clear es2
    exact ga_vret hC dX0_solveAll_34 ⟨rfl, h⟩
  · have h := h.2 hc
    refine ga_aload_n hC dX0_solveAll_13 0 rfl rfl ?_
    refine gC_3_1 hC q_1_203 dX0_solveAll_14 ?_
    refine ga_iload_n hC dX0_solveAll_17 1 rfl rfl ?_
    refine ga_callV (As := [.int v1]) (st := []) (k := 4) (n := 1) hC h q_3_31 q_3_32 q_3_33 q_1_5 q_3_34 rfl rfl rfl (by decide +kernel) ⟨Nat.le_of_ble_eq_true rfl, Nat.le_of_ble_eq_true rfl⟩ ⟨Nat.le_of_ble_eq_true rfl, Nat.le_of_ble_eq_true rfl⟩ rfl rfl rfl (by decide) rfl (Nat.le_of_ble_eq_true rfl) dX0_solveAll_18 (fun v τ hq => ?_)
    obtain ⟨rfl, h⟩ := hq
    obtain ⟨s5, es5⟩ : ∃ z, z = τ := ⟨_, rfl⟩
    rw [← es5] at h ⊢
    clear es5
    refine ga_iinc (v := v1 + 1) (lv' := [(1, .int (v1 + 1)), (0, .ref (ad 3))]) hC dX0_solveAll_21 1 rfl rfl (by decide) rfl ?_
    refine ga_goto (tgt := 2) hC dX0_solveAll_24 (by decide) ?_
    refine ga_locals [1, 0] rfl ?_
    exact h p l e s m args below meth c D cy ad hC
set_option maxRecDepth 100000 in
set_option maxHeartbeats 4000000 in
theorem v_X0_solveAll {σ : cg_S} {Q : cg_S → Prop}
    (h : L_X0_solveAll_2 0 σ Q) : M_X0_solveAll σ Q := by
  refine cg_entry (lv := fun ad => [(0, .ref (ad 3))]) (by decide +kernel) (fun _ => rfl) (fun _ => Nat.le_of_ble_eq_true rfl) ?_
  intro p l e s m args below meth c D cy ad hC
  refine ga_iconst (v := 0) hC dX0_solveAll_0 (by decide) ?_
  refine ga_istore_n (lv' := [(1, .int 0), (0, .ref (ad 3))]) hC dX0_solveAll_1 rfl (by decide) rfl ?_
  refine ga_locals [1, 0] rfl ?_
  exact h p l e s m args below meth c D cy ad hC
def M_X0_evaluateReach (v1 : Int32) (v2 : Nat) (σ : cg_S) (Q : cg_S → Prop) : Prop := cg_M cg_WC yX0_evaluateReach cX0_evaluateReach 4 none (cg_R 3) (fun ad => [.ref (ad 3), .int v1, .ref (ad v2)]) σ (cg_qv Q)
theorem M_X0_evaluateReach.mono {v1 : Int32} {v2 : Nat} {σ : cg_S} {Q Q2 : cg_S → Prop} (h : M_X0_evaluateReach v1 v2 σ Q) (hq : ∀ τ, Q τ → Q2 τ) : M_X0_evaluateReach v1 v2 σ Q2 := cg_M.mono h (fun ad v τ ⟨e, q⟩ => ⟨e, hq τ q⟩)
def L_X0_evaluateReach_6 (v1 : Int32) (v2 : Nat) (v3 : Int32) (σ : cg_S) (Q : cg_S → Prop) : Prop := cg_L cg_WC RX0 cX0_evaluateReach 4 none (cg_R 3) 6 (fun ad => [(0, .ref (ad 3)), (1, .int v1), (2, .ref (ad v2)), (3, .int v3)]) (fun ad => []) σ (cg_qv Q)
set_option maxRecDepth 100000 in
set_option maxHeartbeats 4000000 in
theorem v_X0_evaluateReach_6 {v1 : Int32} {v2 : Nat} {v3 : Int32} {σ : cg_S} {Q : cg_S → Prop} (h_v2 : v2 = 19 ∨ v2 = 29 ∨ v2 = 30)
    (h : ((σ.1 1 0) ≤ v3 → M_X0_solveAll σ (fun s2 => Q s2)) ∧ (¬ (σ.1 1 0) ≤ v3 → vp_in v3 7 ∧ M_X2_moveOf v3 (σ.1 v2 v3.toNatClampNeg) σ (fun r5 s6 => M_X0_reachEquation v3 r5 v1 s6 (fun s9 => L_X0_evaluateReach_6 v1 v2 (v3 + 1) s9 Q)))) : L_X0_evaluateReach_6 v1 v2 v3 σ Q := by
  intro p l e s m args below meth c D cy ad hC
  refine ga_iload_n hC dX0_evaluateReach_6 3 rfl rfl ?_
  refine ga_aload_n hC dX0_evaluateReach_7 0 rfl rfl ?_
  refine gC_3_0 hC q_1_202 dX0_evaluateReach_8 ?_
  refine gC_1_0 hC q_1_48 dX0_evaluateReach_11 ?_
  refine ga_icmp_ge (tgt := 36) hC dX0_evaluateReach_14 (by decide) (fun hc => ?_) (fun hc => ?_)
  · have h := h.1 hc
    refine ga_aload_n hC dX0_evaluateReach_36 0 rfl rfl ?_
    refine ga_callV (As := []) (st := []) (k := 3) (n := 0) hC h q_5_51 q_5_18 q_5_19 q_1_4 q_5_20 rfl rfl rfl (by decide +kernel) ⟨Nat.le_of_ble_eq_true rfl, Nat.le_of_ble_eq_true rfl⟩ ⟨Nat.le_of_ble_eq_true rfl, Nat.le_of_ble_eq_true rfl⟩ rfl rfl rfl (by decide) rfl (Nat.le_of_ble_eq_true rfl) dX0_evaluateReach_37 (fun v τ hq => ?_)
    obtain ⟨rfl, h⟩ := hq
    obtain ⟨s2, es2⟩ : ∃ z, z = τ := ⟨_, rfl⟩
    rw [← es2] at h ⊢
    clear es2
    exact ga_vret hC dX0_evaluateReach_40 ⟨rfl, h⟩
  · have h := h.2 hc
    refine ga_aload_n hC dX0_evaluateReach_17 0 rfl rfl ?_
    refine ga_iload_n hC dX0_evaluateReach_18 3 rfl rfl ?_
    refine ga_iload_n hC dX0_evaluateReach_19 3 rfl rfl ?_
    refine ga_aload_n hC dX0_evaluateReach_20 2 rfl rfl ?_
    refine ga_iload_n hC dX0_evaluateReach_21 3 rfl rfl ?_
    obtain ⟨h4, h⟩ := h
    refine ga_iald hC (aC_p h_v2) (show _ < 88 by have := h_v2; omega) h4 dX0_evaluateReach_22 ?_
    refine ga_callS (As := [.int v3, .int (σ.1 v2 v3.toNatClampNeg)]) (st := [.int v3, .ref (ad 3)]) (n := 2) hC h q_3_9 q_2_169 q_1_2 q_2_170 rfl rfl rfl (by decide +kernel) ⟨Nat.le_of_ble_eq_true rfl, Nat.le_of_ble_eq_true rfl⟩ ⟨Nat.le_of_ble_eq_true rfl, Nat.le_of_ble_eq_true rfl⟩ rfl rfl (Nat.le_of_ble_eq_true rfl) dX0_evaluateReach_23 (fun v τ hq => ?_)
    obtain ⟨r5, rfl, h⟩ := hq
    obtain ⟨s6, es6⟩ : ∃ z, z = τ := ⟨_, rfl⟩
    rw [← es6] at h ⊢
    clear es6
    refine ga_iload_n hC dX0_evaluateReach_26 1 rfl rfl ?_
    refine ga_callV (As := [.int v3, .int r5, .int v1]) (st := []) (k := 3) (n := 3) hC h q_3_10 q_3_11 q_3_12 q_1_4 q_3_13 rfl rfl rfl (by decide +kernel) ⟨Nat.le_of_ble_eq_true rfl, Nat.le_of_ble_eq_true rfl⟩ ⟨Nat.le_of_ble_eq_true rfl, Nat.le_of_ble_eq_true rfl⟩ rfl rfl rfl (by decide) rfl (Nat.le_of_ble_eq_true rfl) dX0_evaluateReach_27 (fun v τ hq => ?_)
    obtain ⟨rfl, h⟩ := hq
    obtain ⟨s9, es9⟩ : ∃ z, z = τ := ⟨_, rfl⟩
    rw [← es9] at h ⊢
    clear es9
    refine ga_iinc (v := v3 + 1) (lv' := [(3, .int (v3 + 1)), (0, .ref (ad 3)), (1, .int v1), (2, .ref (ad v2))]) hC dX0_evaluateReach_30 3 rfl rfl (by decide) rfl ?_
    refine ga_goto (tgt := 6) hC dX0_evaluateReach_33 (by decide) ?_
    refine ga_locals [1, 2, 3, 0] rfl ?_
    exact h p l e s m args below meth c D cy ad hC
set_option maxRecDepth 100000 in
set_option maxHeartbeats 4000000 in
theorem v_X0_evaluateReach {v1 : Int32} {v2 : Nat} {σ : cg_S} {Q : cg_S → Prop} (h_v2 : v2 = 19 ∨ v2 = 29 ∨ v2 = 30)
    (h : M_X0_arrange σ (fun s2 => L_X0_evaluateReach_6 v1 v2 0 s2 Q)) : M_X0_evaluateReach v1 v2 σ Q := by
  refine cg_entry (lv := fun ad => [(0, .ref (ad 3)), (1, .int v1), (2, .ref (ad v2))]) (by decide +kernel) (fun _ => rfl) (fun _ => Nat.le_of_ble_eq_true rfl) ?_
  intro p l e s m args below meth c D cy ad hC
  refine ga_aload_n hC dX0_evaluateReach_0 0 rfl rfl ?_
  refine ga_callV (As := []) (st := []) (k := 3) (n := 0) hC h q_5_50 q_2_220 q_2_221 q_1_4 q_2_222 rfl rfl rfl (by decide +kernel) ⟨Nat.le_of_ble_eq_true rfl, Nat.le_of_ble_eq_true rfl⟩ ⟨Nat.le_of_ble_eq_true rfl, Nat.le_of_ble_eq_true rfl⟩ rfl rfl rfl (by decide) rfl (Nat.le_of_ble_eq_true rfl) dX0_evaluateReach_1 (fun v τ hq => ?_)
  obtain ⟨rfl, h⟩ := hq
  obtain ⟨s2, es2⟩ : ∃ z, z = τ := ⟨_, rfl⟩
  rw [← es2] at h ⊢
  clear es2
  refine ga_iconst (v := 0) hC dX0_evaluateReach_4 (by decide) ?_
  refine ga_istore_n (lv' := [(3, .int 0), (0, .ref (ad 3)), (1, .int v1), (2, .ref (ad v2))]) hC dX0_evaluateReach_5 rfl (by decide) rfl ?_
  refine ga_locals [1, 2, 3, 0] rfl ?_
  exact h p l e s m args below meth c D cy ad hC
def M_X0_expected (v1 : Int32) (σ : cg_S) (Q : Int64 → cg_S → Prop) : Prop := cg_M cg_WC yX0_expected cX0_expected 5 (some .long) (cg_R 0) (fun ad => [.ref (ad 3), .int v1]) σ (cg_ql Q)
theorem M_X0_expected.mono {v1 : Int32} {σ : cg_S} {Q Q2 : Int64 → cg_S → Prop} (h : M_X0_expected v1 σ Q) (hq : ∀ r τ, Q r τ → Q2 r τ) : M_X0_expected v1 σ Q2 := cg_M.mono h (fun ad v τ ⟨r, e, q⟩ => ⟨r, e, hq r τ q⟩)
def L_X0_expected_5 (v1 : Int32) (v2 : Int64) (v4 : Int32) (σ : cg_S) (Q : Int64 → cg_S → Prop) : Prop := cg_L cg_WC RX0 cX0_expected 5 (some .long) (cg_R 0) 5 (fun ad => [(0, .ref (ad 3)), (1, .int v1), (2, .long v2), (4, .int v4)]) (fun ad => []) σ (cg_ql Q)
set_option maxRecDepth 100000 in
set_option maxHeartbeats 4000000 in
theorem v_X0_expected_5 {v1 : Int32} {v2 : Int64} {v4 : Int32} {σ : cg_S} {Q : Int64 → cg_S → Prop}
    (h : ((σ.1 1 0) ≤ v4 → Q v2 σ) ∧ (¬ (σ.1 1 0) ≤ v4 → vp_in v1 21 ∧ vp_in v4 7 ∧ vp_in v4 7 ∧ ∀ x4 : Int64, x4 = v2 + (((σ.1 (36 + v1.toNatClampNeg) v4.toNatClampNeg).toInt64) * (σ.2.1 58 v4.toNatClampNeg)) → L_X0_expected_5 v1 x4 (v4 + 1) σ Q)) : L_X0_expected_5 v1 v2 v4 σ Q := by
  intro p l e s m args below meth c D cy ad hC
  refine ga_iload hC dX0_expected_5 3 rfl ?_
  refine ga_aload_n hC dX0_expected_7 0 rfl rfl ?_
  refine gC_3_0 hC q_1_202 dX0_expected_8 ?_
  refine gC_1_0 hC q_1_48 dX0_expected_11 ?_
  refine ga_icmp_ge (tgt := 50) hC dX0_expected_14 (by decide) (fun hc => ?_) (fun hc => ?_)
  · have h := h.1 hc
    refine ga_lload_n hC dX0_expected_50 2 rfl rfl ?_
    exact ga_lret hC dX0_expected_51 ⟨_, rfl, h⟩
  · have h := h.2 hc
    refine ga_lload_n hC dX0_expected_17 2 rfl rfl ?_
    refine ga_aload_n hC dX0_expected_18 0 rfl rfl ?_
    refine gC_3_0 hC q_1_202 dX0_expected_19 ?_
    refine gC_1_14 hC q_1_103 dX0_expected_22 ?_
    refine ga_iload_n hC dX0_expected_25 1 rfl rfl ?_
    obtain ⟨h1, h⟩ := h
    refine ga_aald4 (b := 36) hC rfl (fun j hj => if_pos hj) (by decide) h1 dX0_expected_26 ?_
    refine ga_iload hC dX0_expected_27 3 rfl ?_
    obtain ⟨h2, h⟩ := h
    refine ga_iald hC (aC_w (cg_lt h1)) (show 36 + _ < 88 by have := (cg_lt h1); omega) h2 dX0_expected_29 ?_
    refine ga_i2l hC dX0_expected_30 ?_
    refine ga_aload_n hC dX0_expected_31 0 rfl rfl ?_
    refine gC_3_1 hC q_1_203 dX0_expected_32 ?_
    refine gC_4_3 hC q_1_185 dX0_expected_35 ?_
    refine ga_iload hC dX0_expected_38 3 rfl ?_
    obtain ⟨h3, h⟩ := h
    refine ga_lald hC aC_58 (by decide) h3 dX0_expected_40 ?_
    refine ga_lmul hC dX0_expected_41 ?_
    refine ga_ladd hC dX0_expected_42 ?_
    refine ga_topl (fun x4 ex4 => ?_)
    have h := h x4 ex4
    refine ga_lstore_n (lv' := [(2, .long x4), (0, .ref (ad 3)), (1, .int v1), (4, .int v4)]) hC dX0_expected_43 rfl (by decide) rfl ?_
    refine ga_iinc (v := v4 + 1) (lv' := [(4, .int (v4 + 1)), (2, .long x4), (0, .ref (ad 3)), (1, .int v1)]) hC dX0_expected_44 3 rfl rfl (by decide) rfl ?_
    refine ga_goto (tgt := 5) hC dX0_expected_47 (by decide) ?_
    refine ga_locals [2, 3, 1, 0] rfl ?_
    exact h p l e s m args below meth c D cy ad hC
set_option maxRecDepth 100000 in
set_option maxHeartbeats 4000000 in
theorem v_X0_expected {v1 : Int32} {σ : cg_S} {Q : Int64 → cg_S → Prop}
    (h : L_X0_expected_5 v1 0 0 σ Q) : M_X0_expected v1 σ Q := by
  refine cg_entry (lv := fun ad => [(0, .ref (ad 3)), (1, .int v1)]) (by decide +kernel) (fun _ => rfl) (fun _ => Nat.le_of_ble_eq_true rfl) ?_
  intro p l e s m args below meth c D cy ad hC
  refine ga_lconst (v := 0) hC dX0_expected_0 (by decide) ?_
  refine ga_lstore_n (lv' := [(2, .long 0), (0, .ref (ad 3)), (1, .int v1)]) hC dX0_expected_1 rfl (by decide) rfl ?_
  refine ga_iconst (v := 0) hC dX0_expected_2 (by decide) ?_
  refine ga_istore (lv' := [(4, .int 0), (2, .long 0), (0, .ref (ad 3)), (1, .int v1)]) hC dX0_expected_3 (by decide) rfl ?_
  refine ga_locals [2, 3, 1, 0] rfl ?_
  exact h p l e s m args below meth c D cy ad hC
def M_X0_ahead (v1 : Int32) (v2 : Int32) (σ : cg_S) (Q : Int64 → cg_S → Prop) : Prop := cg_M cg_WC yX0_ahead cX0_ahead 5 (some .long) (cg_R 1) (fun ad => [.ref (ad 3), .int v1, .int v2]) σ (cg_ql Q)
theorem M_X0_ahead.mono {v1 : Int32} {v2 : Int32} {σ : cg_S} {Q Q2 : Int64 → cg_S → Prop} (h : M_X0_ahead v1 v2 σ Q) (hq : ∀ r τ, Q r τ → Q2 r τ) : M_X0_ahead v1 v2 σ Q2 := cg_M.mono h (fun ad v τ ⟨r, e, q⟩ => ⟨r, e, hq r τ q⟩)
set_option maxRecDepth 100000 in
set_option maxHeartbeats 4000000 in
theorem v_X0_ahead {v1 : Int32} {v2 : Int32} {σ : cg_S} {Q : Int64 → cg_S → Prop}
    (h : (¬ v1 = 114 → vp_in v2 21 ∧ M_X2_costOf v2 v1 σ (fun r2 s3 => ∀ x5 : Int64, x5 = ((σ.1 24 v2.toNatClampNeg).toInt64) * r2.toInt64 → M_X0_expected v2 s3 (fun r6 s7 => Q ((((s3.1 1 2).toInt64) * r6) + ((((s7.1 1 3).toInt64) * x5) * (s7.2.1 4 4))) s7))) ∧ (v1 = 114 → M_X0_expected v2 σ (fun r9 s10 => Q r9 s10))) : M_X0_ahead v1 v2 σ Q := by
  refine cg_entry (lv := fun ad => [(0, .ref (ad 3)), (1, .int v1), (2, .int v2)]) (by decide +kernel) (fun _ => rfl) (fun _ => Nat.le_of_ble_eq_true rfl) ?_
  intro p l e s m args below meth c D cy ad hC
  refine ga_iload_n hC dX0_ahead_0 1 rfl rfl ?_
  refine ga_bipush (v := 114) hC dX0_ahead_1 (by decide) ?_
  refine ga_icmp_ne (tgt := 12) hC dX0_ahead_3 (by decide) (fun hc => ?_) (fun hc => ?_)
  · have h := h.1 hc
    refine ga_aload_n hC dX0_ahead_12 0 rfl rfl ?_
    refine gC_3_0 hC q_1_202 dX0_ahead_13 ?_
    refine gC_1_12 hC q_1_94 dX0_ahead_16 ?_
    refine ga_iload_n hC dX0_ahead_19 2 rfl rfl ?_
    obtain ⟨h1, h⟩ := h
    refine ga_iald hC aC_24 (by decide) h1 dX0_ahead_20 ?_
    refine ga_i2l hC dX0_ahead_21 ?_
    refine ga_aload_n hC dX0_ahead_22 0 rfl rfl ?_
    refine gC_3_0 hC q_1_202 dX0_ahead_23 ?_
    refine ga_iload_n hC dX0_ahead_26 2 rfl rfl ?_
    refine ga_iload_n hC dX0_ahead_27 1 rfl rfl ?_
    refine ga_callV (As := [.int v2, .int v1]) (st := [.long ((σ.1 24 v2.toNatClampNeg).toInt64)]) (k := 1) (n := 2) hC h q_3_27 q_3_28 q_3_29 q_1_2 q_3_30 rfl rfl rfl (by decide +kernel) ⟨Nat.le_of_ble_eq_true rfl, Nat.le_of_ble_eq_true rfl⟩ ⟨Nat.le_of_ble_eq_true rfl, Nat.le_of_ble_eq_true rfl⟩ rfl rfl rfl (by decide) rfl (Nat.le_of_ble_eq_true rfl) dX0_ahead_28 (fun v τ hq => ?_)
    obtain ⟨r2, rfl, h⟩ := hq
    obtain ⟨s3, es3⟩ : ∃ z, z = τ := ⟨_, rfl⟩
    rw [← es3] at h ⊢
    clear es3
    refine ga_i2l hC dX0_ahead_31 ?_
    refine ga_lmul hC dX0_ahead_32 ?_
    refine ga_topl (fun x5 ex5 => ?_)
    have h := h x5 ex5
    refine ga_lstore_n (lv' := [(3, .long x5), (0, .ref (ad 3)), (1, .int v1), (2, .int v2)]) hC dX0_ahead_33 rfl (by decide) rfl ?_
    refine ga_aload_n hC dX0_ahead_34 1 rfl rfl ?_
    refine gC_3_0 hC q_1_202 dX0_ahead_35 ?_
    refine gC_1_2 hC q_1_60 dX0_ahead_38 ?_
    refine ga_i2l hC dX0_ahead_41 ?_
    refine ga_aload_n hC dX0_ahead_42 1 rfl rfl ?_
    refine ga_iload_n hC dX0_ahead_43 3 rfl rfl ?_
    refine ga_callV (As := [.int v2]) (st := [.long ((s3.1 1 2).toInt64)]) (k := 3) (n := 1) hC h q_3_52 q_3_53 q_3_54 q_1_4 q_3_55 rfl rfl rfl (by decide +kernel) ⟨Nat.le_of_ble_eq_true rfl, Nat.le_of_ble_eq_true rfl⟩ ⟨Nat.le_of_ble_eq_true rfl, Nat.le_of_ble_eq_true rfl⟩ rfl rfl rfl (by decide) rfl (Nat.le_of_ble_eq_true rfl) dX0_ahead_44 (fun v τ hq => ?_)
    obtain ⟨r6, rfl, h⟩ := hq
    obtain ⟨s7, es7⟩ : ∃ z, z = τ := ⟨_, rfl⟩
    rw [← es7] at h ⊢
    clear es7
    refine ga_lmul hC dX0_ahead_47 ?_
    refine ga_aload_n hC dX0_ahead_48 1 rfl rfl ?_
    refine gC_3_0 hC q_1_202 dX0_ahead_49 ?_
    refine gC_1_3 hC q_1_62 dX0_ahead_52 ?_
    refine ga_i2l hC dX0_ahead_55 ?_
    refine ga_lload_n hC dX0_ahead_56 0 rfl rfl ?_
    refine ga_lmul hC dX0_ahead_57 ?_
    refine ga_aload_n hC dX0_ahead_58 1 rfl rfl ?_
    refine gC_3_1 hC q_1_203 dX0_ahead_59 ?_
    refine gC_4_4 hC q_1_189 dX0_ahead_62 ?_
    refine ga_lmul hC dX0_ahead_65 ?_
    refine ga_ladd hC dX0_ahead_66 ?_
    exact ga_lret hC dX0_ahead_67 ⟨_, rfl, h⟩
  · have h := h.2 hc
    refine ga_aload_n hC dX0_ahead_6 0 rfl rfl ?_
    refine ga_iload_n hC dX0_ahead_7 2 rfl rfl ?_
    refine ga_callV (As := [.int v2]) (st := []) (k := 3) (n := 1) hC h q_3_52 q_3_53 q_3_54 q_1_4 q_3_55 rfl rfl rfl (by decide +kernel) ⟨Nat.le_of_ble_eq_true rfl, Nat.le_of_ble_eq_true rfl⟩ ⟨Nat.le_of_ble_eq_true rfl, Nat.le_of_ble_eq_true rfl⟩ rfl rfl rfl (by decide) rfl (Nat.le_of_ble_eq_true rfl) dX0_ahead_8 (fun v τ hq => ?_)
    obtain ⟨r9, rfl, h⟩ := hq
    obtain ⟨s10, es10⟩ : ∃ z, z = τ := ⟨_, rfl⟩
    rw [← es10] at h ⊢
    clear es10
    exact ga_lret hC dX0_ahead_11 ⟨_, rfl, h⟩
def M_X0_isGood (v1 : Int32) (v2 : Int32) (v3 : Int32) (σ : cg_S) (Q : Int32 → cg_S → Prop) : Prop := cg_M cg_WC yX0_isGood cX0_isGood 6 (some .boolean) (cg_R 2) (fun ad => [.ref (ad 3), .int v1, .int v2, .int v3]) σ (cg_qi Q)
theorem M_X0_isGood.mono {v1 : Int32} {v2 : Int32} {v3 : Int32} {σ : cg_S} {Q Q2 : Int32 → cg_S → Prop} (h : M_X0_isGood v1 v2 v3 σ Q) (hq : ∀ r τ, Q r τ → Q2 r τ) : M_X0_isGood v1 v2 v3 σ Q2 := cg_M.mono h (fun ad v τ ⟨r, e, q⟩ => ⟨r, e, hq r τ q⟩)
def L_X0_isGood_19 (v1 : Int32) (v2 : Int32) (v3 : Int32) (σ : cg_S) (Q : Int32 → cg_S → Prop) : Prop := cg_L cg_WC RX0 cX0_isGood 6 (some .boolean) (cg_R 2) 19 (fun ad => [(0, .ref (ad 3)), (1, .int v1), (2, .int v2), (3, .int v3)]) (fun ad => []) σ (cg_qi Q)
def L_X0_isGood_63 (v1 : Int32) (v3 : Int32) (t0 : Int64) (σ : cg_S) (Q : Int32 → cg_S → Prop) : Prop := cg_L cg_WC RX0 cX0_isGood 6 (some .boolean) (cg_R 2) 63 (fun ad => [(0, .ref (ad 3)), (1, .int v1), (3, .int v3)]) (fun ad => [.long t0]) σ (cg_qi Q)
set_option maxRecDepth 100000 in
set_option maxHeartbeats 4000000 in
theorem v_X0_isGood_63 {v1 : Int32} {v3 : Int32} {t0 : Int64} {σ : cg_S} {Q : Int32 → cg_S → Prop}
    (h : M_X0_ahead v1 v3 σ (fun r1 s2 => (¬ t0 = r1 → Q 0 s2) ∧ (t0 = r1 → Q 1 s2))) : L_X0_isGood_63 v1 v3 t0 σ Q := by
  intro p l e s m args below meth c D cy ad hC
  refine ga_aload_n hC dX0_isGood_63 0 rfl rfl ?_
  refine ga_iload_n hC dX0_isGood_64 1 rfl rfl ?_
  refine ga_iload_n hC dX0_isGood_65 2 rfl rfl ?_
  refine ga_callV (As := [.int v1, .int v3]) (st := [.long t0]) (k := 3) (n := 2) hC h q_4_124 q_3_49 q_3_50 q_1_4 q_3_51 rfl rfl rfl (by decide +kernel) ⟨Nat.le_of_ble_eq_true rfl, Nat.le_of_ble_eq_true rfl⟩ ⟨Nat.le_of_ble_eq_true rfl, Nat.le_of_ble_eq_true rfl⟩ rfl rfl rfl (by decide) rfl (Nat.le_of_ble_eq_true rfl) dX0_isGood_66 (fun v τ hq => ?_)
  obtain ⟨r1, rfl, h⟩ := hq
  obtain ⟨s2, es2⟩ : ∃ z, z = τ := ⟨_, rfl⟩
  rw [← es2] at h ⊢
  clear es2
  refine ga_lcmp hC dX0_isGood_69 ?_
  refine ga_if_ne (tgt := 77) hC dX0_isGood_70 (by decide) (fun hc => ?_) (fun hc => ?_)
  · have h := h.1 (cg_cmp_ne.1 hc)
    refine ga_iconst (v := 0) hC dX0_isGood_77 (by decide) ?_
    exact ga_zret hC dX0_isGood_78 (by decide) ⟨_, rfl, h⟩
  · have h := h.2 (cg_cmp_ne.2 hc)
    refine ga_iconst (v := 1) hC dX0_isGood_73 (by decide) ?_
    refine ga_goto (tgt := 78) hC dX0_isGood_74 (by decide) ?_
    exact ga_zret hC dX0_isGood_78 (by decide) ⟨_, rfl, h⟩
set_option maxRecDepth 100000 in
set_option maxHeartbeats 4000000 in
theorem v_X0_isGood_19 {v1 : Int32} {v2 : Int32} {v3 : Int32} {σ : cg_S} {Q : Int32 → cg_S → Prop}
    (h : vp_in v2 7 ∧ vp_in v3 21 ∧ ∀ x3 : Int64, x3 = (σ.2.1 58 v2.toNatClampNeg) * ((σ.1 24 v3.toNatClampNeg).toInt64) → (¬ v1 = 114 → L_X0_isGood_63 v1 v3 (x3 * ((σ.1 1 3).toInt64)) σ Q) ∧ (v1 = 114 → L_X0_isGood_63 v1 v3 x3 σ Q)) : L_X0_isGood_19 v1 v2 v3 σ Q := by
  intro p l e s m args below meth c D cy ad hC
  refine ga_aload_n hC dX0_isGood_19 0 rfl rfl ?_
  refine gC_3_1 hC q_1_203 dX0_isGood_20 ?_
  refine gC_4_3 hC q_1_185 dX0_isGood_23 ?_
  refine ga_iload_n hC dX0_isGood_26 2 rfl rfl ?_
  obtain ⟨h1, h⟩ := h
  refine ga_lald hC aC_58 (by decide) h1 dX0_isGood_27 ?_
  refine ga_aload_n hC dX0_isGood_28 0 rfl rfl ?_
  refine gC_3_0 hC q_1_202 dX0_isGood_29 ?_
  refine gC_1_12 hC q_1_94 dX0_isGood_32 ?_
  refine ga_iload_n hC dX0_isGood_35 3 rfl rfl ?_
  obtain ⟨h2, h⟩ := h
  refine ga_iald hC aC_24 (by decide) h2 dX0_isGood_36 ?_
  refine ga_i2l hC dX0_isGood_37 ?_
  refine ga_lmul hC dX0_isGood_38 ?_
  refine ga_topl (fun x3 ex3 => ?_)
  have h := h x3 ex3
  refine ga_lstore (lv' := [(4, .long x3), (0, .ref (ad 3)), (1, .int v1), (2, .int v2), (3, .int v3)]) hC dX0_isGood_39 (by decide) rfl ?_
  refine ga_iload_n hC dX0_isGood_41 2 rfl rfl ?_
  refine ga_bipush (v := 114) hC dX0_isGood_42 (by decide) ?_
  refine ga_icmp_ne (tgt := 52) hC dX0_isGood_44 (by decide) (fun hc => ?_) (fun hc => ?_)
  · have h := h.1 hc
    refine ga_lload hC dX0_isGood_52 0 rfl ?_
    refine ga_aload_n hC dX0_isGood_54 1 rfl rfl ?_
    refine gC_3_0 hC q_1_202 dX0_isGood_55 ?_
    refine gC_1_3 hC q_1_62 dX0_isGood_58 ?_
    refine ga_i2l hC dX0_isGood_61 ?_
    refine ga_lmul hC dX0_isGood_62 ?_
    refine ga_locals [1, 2, 4] rfl ?_
    exact h p l e s m args below meth c D cy ad hC
  · have h := h.2 hc
    refine ga_lload hC dX0_isGood_47 0 rfl ?_
    refine ga_goto (tgt := 63) hC dX0_isGood_49 (by decide) ?_
    refine ga_locals [1, 2, 4] rfl ?_
    exact h p l e s m args below meth c D cy ad hC
set_option maxRecDepth 100000 in
set_option maxHeartbeats 4000000 in
theorem v_X0_isGood {v1 : Int32} {v2 : Int32} {v3 : Int32} {σ : cg_S} {Q : Int32 → cg_S → Prop}
    (h : (¬ v1 = 114 → L_X0_isGood_19 v1 v2 v3 σ Q) ∧ (v1 = 114 → M_X2_isTarget v2 σ (fun r1 s2 => (r1 = 0 → L_X0_isGood_19 v1 v2 v3 s2 Q) ∧ (¬ r1 = 0 → Q 1 s2)))) : M_X0_isGood v1 v2 v3 σ Q := by
  refine cg_entry (lv := fun ad => [(0, .ref (ad 3)), (1, .int v1), (2, .int v2), (3, .int v3)]) (by decide +kernel) (fun _ => rfl) (fun _ => Nat.le_of_ble_eq_true rfl) ?_
  intro p l e s m args below meth c D cy ad hC
  refine ga_iload_n hC dX0_isGood_0 1 rfl rfl ?_
  refine ga_bipush (v := 114) hC dX0_isGood_1 (by decide) ?_
  refine ga_icmp_ne (tgt := 19) hC dX0_isGood_3 (by decide) (fun hc => ?_) (fun hc => ?_)
  · have h := h.1 hc
    refine ga_locals [0, 1, 2, 3] rfl ?_
    exact h p l e s m args below meth c D cy ad hC
  · have h := h.2 hc
    refine ga_aload_n hC dX0_isGood_6 0 rfl rfl ?_
    refine gC_3_0 hC q_1_202 dX0_isGood_7 ?_
    refine ga_iload_n hC dX0_isGood_10 2 rfl rfl ?_
    refine ga_callV (As := [.int v2]) (st := []) (k := 1) (n := 1) hC h q_4_123 q_2_184 q_2_185 q_1_2 q_2_186 rfl rfl rfl (by decide +kernel) ⟨Nat.le_of_ble_eq_true rfl, Nat.le_of_ble_eq_true rfl⟩ ⟨Nat.le_of_ble_eq_true rfl, Nat.le_of_ble_eq_true rfl⟩ rfl rfl rfl (by decide) rfl (Nat.le_of_ble_eq_true rfl) dX0_isGood_11 (fun v τ hq => ?_)
    obtain ⟨r1, rfl, h⟩ := hq
    obtain ⟨s2, es2⟩ : ∃ z, z = τ := ⟨_, rfl⟩
    rw [← es2] at h ⊢
    clear es2
    refine ga_if_eq (tgt := 19) hC dX0_isGood_14 (by decide) (fun hc => ?_) (fun hc => ?_)
    · have h := h.1 hc
      refine ga_locals [0, 1, 2, 3] rfl ?_
      exact h p l e s m args below meth c D cy ad hC
    · have h := h.2 hc
      refine ga_iconst (v := 1) hC dX0_isGood_17 (by decide) ?_
      exact ga_zret hC dX0_isGood_18 (by decide) ⟨_, rfl, h⟩
def M_X0_isNought (v1 : Int32) (σ : cg_S) (Q : Int32 → cg_S → Prop) : Prop := cg_M cg_WC yX0_isNought cX0_isNought 2 (some .boolean) (cg_R 0) (fun ad => [.ref (ad 3), .int v1]) σ (cg_qi Q)
theorem M_X0_isNought.mono {v1 : Int32} {σ : cg_S} {Q Q2 : Int32 → cg_S → Prop} (h : M_X0_isNought v1 σ Q) (hq : ∀ r τ, Q r τ → Q2 r τ) : M_X0_isNought v1 σ Q2 := cg_M.mono h (fun ad v τ ⟨r, e, q⟩ => ⟨r, e, hq r τ q⟩)
set_option maxRecDepth 100000 in
set_option maxHeartbeats 4000000 in
theorem v_X0_isNought {v1 : Int32} {σ : cg_S} {Q : Int32 → cg_S → Prop}
    (h : vp_in v1 7 ∧ (¬ (σ.2.1 58 v1.toNatClampNeg) = 0 → Q 0 σ) ∧ ((σ.2.1 58 v1.toNatClampNeg) = 0 → Q 1 σ)) : M_X0_isNought v1 σ Q := by
  refine cg_entry (lv := fun ad => [(0, .ref (ad 3)), (1, .int v1)]) (by decide +kernel) (fun _ => rfl) (fun _ => Nat.le_of_ble_eq_true rfl) ?_
  intro p l e s m args below meth c D cy ad hC
  refine ga_aload_n hC dX0_isNought_0 0 rfl rfl ?_
  refine gC_3_1 hC q_1_203 dX0_isNought_1 ?_
  refine gC_4_3 hC q_1_185 dX0_isNought_4 ?_
  refine ga_iload_n hC dX0_isNought_7 1 rfl rfl ?_
  obtain ⟨h1, h⟩ := h
  refine ga_lald hC aC_58 (by decide) h1 dX0_isNought_8 ?_
  refine ga_lconst (v := 0) hC dX0_isNought_9 (by decide) ?_
  refine ga_lcmp hC dX0_isNought_10 ?_
  refine ga_if_ne (tgt := 18) hC dX0_isNought_11 (by decide) (fun hc => ?_) (fun hc => ?_)
  · have h := h.1 (cg_cmp_ne.1 hc)
    refine ga_iconst (v := 0) hC dX0_isNought_18 (by decide) ?_
    exact ga_zret hC dX0_isNought_19 (by decide) ⟨_, rfl, h⟩
  · have h := h.2 (cg_cmp_ne.2 hc)
    refine ga_iconst (v := 1) hC dX0_isNought_14 (by decide) ?_
    refine ga_goto (tgt := 19) hC dX0_isNought_15 (by decide) ?_
    exact ga_zret hC dX0_isNought_19 (by decide) ⟨_, rfl, h⟩
def M_X0_toldAbove (v1 : Int32) (σ : cg_S) (Q : Int64 → cg_S → Prop) : Prop := cg_M cg_WC yX0_toldAbove cX0_toldAbove 2 (some .long) (cg_R 2) (fun ad => [.ref (ad 3), .int v1]) σ (cg_ql Q)
theorem M_X0_toldAbove.mono {v1 : Int32} {σ : cg_S} {Q Q2 : Int64 → cg_S → Prop} (h : M_X0_toldAbove v1 σ Q) (hq : ∀ r τ, Q r τ → Q2 r τ) : M_X0_toldAbove v1 σ Q2 := cg_M.mono h (fun ad v τ ⟨r, e, q⟩ => ⟨r, e, hq r τ q⟩)
set_option maxRecDepth 100000 in
set_option maxHeartbeats 4000000 in
theorem v_X0_toldAbove {v1 : Int32} {σ : cg_S} {Q : Int64 → cg_S → Prop}
    (h : vp_in v1 7 ∧ M_X11_lowestAbove (σ.2.1 58 v1.toNatClampNeg) (σ.2.1 4 4) σ (fun r2 s3 => Q r2 s3)) : M_X0_toldAbove v1 σ Q := by
  refine cg_entry (lv := fun ad => [(0, .ref (ad 3)), (1, .int v1)]) (by decide +kernel) (fun _ => rfl) (fun _ => Nat.le_of_ble_eq_true rfl) ?_
  intro p l e s m args below meth c D cy ad hC
  refine ga_aload_n hC dX0_toldAbove_0 0 rfl rfl ?_
  refine gC_3_1 hC q_1_203 dX0_toldAbove_1 ?_
  refine gC_4_3 hC q_1_185 dX0_toldAbove_4 ?_
  refine ga_iload_n hC dX0_toldAbove_7 1 rfl rfl ?_
  obtain ⟨h1, h⟩ := h
  refine ga_lald hC aC_58 (by decide) h1 dX0_toldAbove_8 ?_
  refine ga_aload_n hC dX0_toldAbove_9 0 rfl rfl ?_
  refine gC_3_1 hC q_1_203 dX0_toldAbove_10 ?_
  refine gC_4_4 hC q_1_189 dX0_toldAbove_13 ?_
  refine ga_callSN (As := [.long (σ.2.1 58 v1.toNatClampNeg), .long (σ.2.1 4 4)]) (st := []) (n := 2) hC h (by decide +kernel) q_4_168 q_1_1 q_4_169 rfl rfl rfl (by decide +kernel) ⟨Nat.le_of_ble_eq_true rfl, Nat.le_of_ble_eq_true rfl⟩ ⟨Nat.le_of_ble_eq_true rfl, Nat.le_of_ble_eq_true rfl⟩ rfl rfl (Nat.le_of_ble_eq_true rfl) dX0_toldAbove_16 (fun v τ hq => ?_)
  obtain ⟨r2, rfl, h⟩ := hq
  obtain ⟨s3, es3⟩ : ∃ z, z = τ := ⟨_, rfl⟩
  rw [← es3] at h ⊢
  clear es3
  exact ga_lret hC dX0_toldAbove_19 ⟨_, rfl, h⟩
def M_X0_toldBelow (v1 : Int32) (σ : cg_S) (Q : Int64 → cg_S → Prop) : Prop := cg_M cg_WC yX0_toldBelow cX0_toldBelow 2 (some .long) (cg_R 2) (fun ad => [.ref (ad 3), .int v1]) σ (cg_ql Q)
theorem M_X0_toldBelow.mono {v1 : Int32} {σ : cg_S} {Q Q2 : Int64 → cg_S → Prop} (h : M_X0_toldBelow v1 σ Q) (hq : ∀ r τ, Q r τ → Q2 r τ) : M_X0_toldBelow v1 σ Q2 := cg_M.mono h (fun ad v τ ⟨r, e, q⟩ => ⟨r, e, hq r τ q⟩)
set_option maxRecDepth 100000 in
set_option maxHeartbeats 4000000 in
theorem v_X0_toldBelow {v1 : Int32} {σ : cg_S} {Q : Int64 → cg_S → Prop}
    (h : vp_in v1 7 ∧ M_X11_lowestBelow (σ.2.1 58 v1.toNatClampNeg) (σ.2.1 4 4) σ (fun r2 s3 => Q r2 s3)) : M_X0_toldBelow v1 σ Q := by
  refine cg_entry (lv := fun ad => [(0, .ref (ad 3)), (1, .int v1)]) (by decide +kernel) (fun _ => rfl) (fun _ => Nat.le_of_ble_eq_true rfl) ?_
  intro p l e s m args below meth c D cy ad hC
  refine ga_aload_n hC dX0_toldBelow_0 0 rfl rfl ?_
  refine gC_3_1 hC q_1_203 dX0_toldBelow_1 ?_
  refine gC_4_3 hC q_1_185 dX0_toldBelow_4 ?_
  refine ga_iload_n hC dX0_toldBelow_7 1 rfl rfl ?_
  obtain ⟨h1, h⟩ := h
  refine ga_lald hC aC_58 (by decide) h1 dX0_toldBelow_8 ?_
  refine ga_aload_n hC dX0_toldBelow_9 0 rfl rfl ?_
  refine gC_3_1 hC q_1_203 dX0_toldBelow_10 ?_
  refine gC_4_4 hC q_1_189 dX0_toldBelow_13 ?_
  refine ga_callSN (As := [.long (σ.2.1 58 v1.toNatClampNeg), .long (σ.2.1 4 4)]) (st := []) (n := 2) hC h (by decide +kernel) q_4_188 q_1_1 q_4_189 rfl rfl rfl (by decide +kernel) ⟨Nat.le_of_ble_eq_true rfl, Nat.le_of_ble_eq_true rfl⟩ ⟨Nat.le_of_ble_eq_true rfl, Nat.le_of_ble_eq_true rfl⟩ rfl rfl (Nat.le_of_ble_eq_true rfl) dX0_toldBelow_16 (fun v τ hq => ?_)
  obtain ⟨r2, rfl, h⟩ := hq
  obtain ⟨s3, es3⟩ : ∃ z, z = τ := ⟨_, rfl⟩
  rw [← es3] at h ⊢
  clear es3
  exact ga_lret hC dX0_toldBelow_19 ⟨_, rfl, h⟩
def M_X0_copyTo (v1 : Nat) (σ : cg_S) (Q : cg_S → Prop) : Prop := cg_M cg_WC yX0_copyTo cX0_copyTo 3 none (cg_R 1) (fun ad => [.ref (ad 3), .ref (ad v1)]) σ (cg_qv Q)
theorem M_X0_copyTo.mono {v1 : Nat} {σ : cg_S} {Q Q2 : cg_S → Prop} (h : M_X0_copyTo v1 σ Q) (hq : ∀ τ, Q τ → Q2 τ) : M_X0_copyTo v1 σ Q2 := cg_M.mono h (fun ad v τ ⟨e, q⟩ => ⟨e, hq τ q⟩)
def L_X0_copyTo_2 (v1 : Nat) (v2 : Int32) (σ : cg_S) (Q : cg_S → Prop) : Prop := cg_L cg_WC RX0 cX0_copyTo 3 none (cg_R 1) 2 (fun ad => [(0, .ref (ad 3)), (1, .ref (ad v1)), (2, .int v2)]) (fun ad => []) σ (cg_qv Q)
set_option maxRecDepth 100000 in
set_option maxHeartbeats 4000000 in
theorem v_X0_copyTo_2 {v1 : Nat} {v2 : Int32} {σ : cg_S} {Q : cg_S → Prop} (h_v1 : 11 ≤ v1 ∧ v1 ≤ 18)
    (h : ((σ.1 1 0) ≤ v2 → Q σ) ∧ (¬ (σ.1 1 0) ≤ v2 → vp_in v2 7 ∧ M_X10_put v1 v2 (σ.2.1 58 v2.toNatClampNeg) (σ.2.1 4 4) σ (fun s3 => L_X0_copyTo_2 v1 (v2 + 1) s3 Q))) : L_X0_copyTo_2 v1 v2 σ Q := by
  intro p l e s m args below meth c D cy ad hC
  refine ga_iload_n hC dX0_copyTo_2 2 rfl rfl ?_
  refine ga_aload_n hC dX0_copyTo_3 0 rfl rfl ?_
  refine gC_3_0 hC q_1_202 dX0_copyTo_4 ?_
  refine gC_1_0 hC q_1_48 dX0_copyTo_7 ?_
  refine ga_icmp_ge (tgt := 40) hC dX0_copyTo_10 (by decide) (fun hc => ?_) (fun hc => ?_)
  · have h := h.1 hc
    exact ga_vret hC dX0_copyTo_40 ⟨rfl, h⟩
  · have h := h.2 hc
    refine ga_aload_n hC dX0_copyTo_13 1 rfl rfl ?_
    refine ga_iload_n hC dX0_copyTo_14 2 rfl rfl ?_
    refine ga_aload_n hC dX0_copyTo_15 0 rfl rfl ?_
    refine gC_3_1 hC q_1_203 dX0_copyTo_16 ?_
    refine gC_4_3 hC q_1_185 dX0_copyTo_19 ?_
    refine ga_iload_n hC dX0_copyTo_22 2 rfl rfl ?_
    obtain ⟨h1, h⟩ := h
    refine ga_lald hC aC_58 (by decide) h1 dX0_copyTo_23 ?_
    refine ga_aload_n hC dX0_copyTo_24 0 rfl rfl ?_
    refine gC_3_1 hC q_1_203 dX0_copyTo_25 ?_
    refine gC_4_4 hC q_1_189 dX0_copyTo_28 ?_
    refine ga_callV (As := [.int v2, .long (σ.2.1 58 v2.toNatClampNeg), .long (σ.2.1 4 4)]) (st := []) (k := v1) (n := 3) hC h q_3_60 q_3_61 q_3_62 q_1_8 q_3_63 rfl rfl rfl (by decide +kernel) ⟨Nat.le_of_ble_eq_true rfl, Nat.le_of_ble_eq_true rfl⟩ ⟨Nat.le_of_ble_eq_true rfl, Nat.le_of_ble_eq_true rfl⟩ rfl rfl (oC_v h_v1) (show _ < 88 by have := h_v1; omega) rfl (Nat.le_of_ble_eq_true rfl) dX0_copyTo_31 (fun v τ hq => ?_)
    obtain ⟨rfl, h⟩ := hq
    obtain ⟨s3, es3⟩ : ∃ z, z = τ := ⟨_, rfl⟩
    rw [← es3] at h ⊢
    clear es3
    refine ga_iinc (v := v2 + 1) (lv' := [(2, .int (v2 + 1)), (0, .ref (ad 3)), (1, .ref (ad v1))]) hC dX0_copyTo_34 2 rfl rfl (by decide) rfl ?_
    refine ga_goto (tgt := 2) hC dX0_copyTo_37 (by decide) ?_
    refine ga_locals [1, 2, 0] rfl ?_
    exact h p l e s m args below meth c D cy ad hC
set_option maxRecDepth 100000 in
set_option maxHeartbeats 4000000 in
theorem v_X0_copyTo {v1 : Nat} {σ : cg_S} {Q : cg_S → Prop} (h_v1 : 11 ≤ v1 ∧ v1 ≤ 18)
    (h : L_X0_copyTo_2 v1 0 σ Q) : M_X0_copyTo v1 σ Q := by
  refine cg_entry (lv := fun ad => [(0, .ref (ad 3)), (1, .ref (ad v1))]) (by decide +kernel) (fun _ => rfl) (fun _ => Nat.le_of_ble_eq_true rfl) ?_
  intro p l e s m args below meth c D cy ad hC
  refine ga_iconst (v := 0) hC dX0_copyTo_0 (by decide) ?_
  refine ga_istore_n (lv' := [(2, .int 0), (0, .ref (ad 3)), (1, .ref (ad v1))]) hC dX0_copyTo_1 rfl (by decide) rfl ?_
  refine ga_locals [1, 2, 0] rfl ?_
  exact h p l e s m args below meth c D cy ad hC
def M_X3_isDrawn (v1 : Int32) (v2 : Int32) (v3 : Int32) (σ : cg_S) (Q : Int32 → cg_S → Prop) : Prop := cg_M cg_WC yX3_isDrawn cX3_isDrawn 8 (some .boolean) (cg_R 1) (fun ad => [.ref (ad 2), .int v1, .int v2, .int v3]) σ (cg_qi Q)
theorem M_X3_isDrawn.mono {v1 : Int32} {v2 : Int32} {v3 : Int32} {σ : cg_S} {Q Q2 : Int32 → cg_S → Prop} (h : M_X3_isDrawn v1 v2 v3 σ Q) (hq : ∀ r τ, Q r τ → Q2 r τ) : M_X3_isDrawn v1 v2 v3 σ Q2 := cg_M.mono h (fun ad v τ ⟨r, e, q⟩ => ⟨r, e, hq r τ q⟩)
def L_X3_isDrawn_14 (v1 : Int32) (v2 : Int32) (v3 : Int32) (v4 : Int32) (v5 : Int32) (σ : cg_S) (Q : Int32 → cg_S → Prop) : Prop := cg_L cg_WC RX3 cX3_isDrawn 8 (some .boolean) (cg_R 1) 14 (fun ad => [(0, .ref (ad 2)), (1, .int v1), (2, .int v2), (3, .int v3), (4, .int v4), (5, .int v5)]) (fun ad => []) σ (cg_qi Q)
def L_X3_isDrawn_65 (v1 : Int32) (v2 : Int32) (v3 : Int32) (v4 : Int32) (v5 : Int32) (t0 : Int32) (σ : cg_S) (Q : Int32 → cg_S → Prop) : Prop := cg_L cg_WC RX3 cX3_isDrawn 8 (some .boolean) (cg_R 1) 65 (fun ad => [(0, .ref (ad 2)), (1, .int v1), (2, .int v2), (3, .int v3), (4, .int v4), (5, .int v5)]) (fun ad => [.int t0]) σ (cg_qi Q)
set_option maxRecDepth 100000 in
set_option maxHeartbeats 4000000 in
theorem v_X3_isDrawn_65 {v1 : Int32} {v2 : Int32} {v3 : Int32} {v4 : Int32} {v5 : Int32} {t0 : Int32} {σ : cg_S} {Q : Int32 → cg_S → Prop}
    (h : (¬ t0 = v4 → L_X3_isDrawn_14 v1 v2 v3 v4 (v5 + 1) σ Q) ∧ (t0 = v4 → (v4 = 0 ∨ v4 = 1) ∧ Q v4 σ)) : L_X3_isDrawn_65 v1 v2 v3 v4 v5 t0 σ Q := by
  intro p l e s m args below meth c D cy ad hC
  refine ga_istore (lv' := [(7, .int t0), (0, .ref (ad 2)), (1, .int v1), (2, .int v2), (3, .int v3), (4, .int v4), (5, .int v5)]) hC dX3_isDrawn_65 (by decide) rfl ?_
  refine ga_iload hC dX3_isDrawn_67 0 rfl ?_
  refine ga_iload hC dX3_isDrawn_69 5 rfl ?_
  refine ga_icmp_ne (tgt := 77) hC dX3_isDrawn_71 (by decide) (fun hc => ?_) (fun hc => ?_)
  · have h := h.1 hc
    refine ga_iinc (v := v5 + 1) (lv' := [(5, .int (v5 + 1)), (7, .int t0), (0, .ref (ad 2)), (1, .int v1), (2, .int v2), (3, .int v3), (4, .int v4)]) hC dX3_isDrawn_77 6 rfl rfl (by decide) rfl ?_
    refine ga_goto (tgt := 14) hC dX3_isDrawn_80 (by decide) ?_
    refine ga_locals [2, 3, 4, 5, 6, 0] rfl ?_
    exact h p l e s m args below meth c D cy ad hC
  · have h := h.2 hc
    refine ga_iload hC dX3_isDrawn_74 5 rfl ?_
    exact ga_zret hC dX3_isDrawn_76 h.1 ⟨_, rfl, h.2⟩
set_option maxRecDepth 100000 in
set_option maxHeartbeats 4000000 in
theorem v_X3_isDrawn_14 {v1 : Int32} {v2 : Int32} {v3 : Int32} {v4 : Int32} {v5 : Int32} {σ : cg_S} {Q : Int32 → cg_S → Prop}
    (h : vp_in v1 7 ∧ ((σ.1 21 v1.toNatClampNeg) ≤ v5 → (¬ v4 = 0 → Q 0 σ) ∧ (v4 = 0 → Q 1 σ)) ∧ (¬ (σ.1 21 v1.toNatClampNeg) ≤ v5 → M_X2_moveOf v1 v5 σ (fun r2 s3 => vp_in r2 21 ∧ ∀ x6 : Int32, x6 = s3.1 25 r2.toNatClampNeg → ((x6 &&& v2) = 0 → L_X3_isDrawn_65 v1 v2 v3 v4 v5 0 s3 Q) ∧ (¬ (x6 &&& v2) = 0 → (¬ (x6 &&& (v3 ^^^ (-1))) = 0 → L_X3_isDrawn_65 v1 v2 v3 v4 v5 0 s3 Q) ∧ ((x6 &&& (v3 ^^^ (-1))) = 0 → L_X3_isDrawn_65 v1 v2 v3 v4 v5 1 s3 Q))))) : L_X3_isDrawn_14 v1 v2 v3 v4 v5 σ Q := by
  intro p l e s m args below meth c D cy ad hC
  refine ga_iload hC dX3_isDrawn_14 5 rfl ?_
  refine ga_aload_n hC dX3_isDrawn_16 0 rfl rfl ?_
  refine gC_2_0 hC q_1_145 dX3_isDrawn_17 ?_
  refine gC_1_9 hC q_1_81 dX3_isDrawn_20 ?_
  refine ga_iload_n hC dX3_isDrawn_23 1 rfl rfl ?_
  obtain ⟨h1, h⟩ := h
  refine ga_iald hC aC_21 (by decide) h1 dX3_isDrawn_24 ?_
  refine ga_icmp_ge (tgt := 83) hC dX3_isDrawn_25 (by decide) (fun hc => ?_) (fun hc => ?_)
  · have h := h.1 hc
    refine ga_iload hC dX3_isDrawn_83 4 rfl ?_
    refine ga_if_ne (tgt := 92) hC dX3_isDrawn_85 (by decide) (fun hc => ?_) (fun hc => ?_)
    · have h := h.1 hc
      refine ga_iconst (v := 0) hC dX3_isDrawn_92 (by decide) ?_
      exact ga_zret hC dX3_isDrawn_93 (by decide) ⟨_, rfl, h⟩
    · have h := h.2 hc
      refine ga_iconst (v := 1) hC dX3_isDrawn_88 (by decide) ?_
      refine ga_goto (tgt := 93) hC dX3_isDrawn_89 (by decide) ?_
      exact ga_zret hC dX3_isDrawn_93 (by decide) ⟨_, rfl, h⟩
  · have h := h.2 hc
    refine ga_aload_n hC dX3_isDrawn_28 0 rfl rfl ?_
    refine gC_2_0 hC q_1_145 dX3_isDrawn_29 ?_
    refine gC_1_13 hC q_1_98 dX3_isDrawn_32 ?_
    refine ga_iload_n hC dX3_isDrawn_35 1 rfl rfl ?_
    refine ga_iload hC dX3_isDrawn_36 5 rfl ?_
    refine ga_callS (As := [.int v1, .int v5]) (st := [.ref (ad 25)]) (n := 2) hC h q_2_231 q_2_169 q_1_2 q_2_170 rfl rfl rfl (by decide +kernel) ⟨Nat.le_of_ble_eq_true rfl, Nat.le_of_ble_eq_true rfl⟩ ⟨Nat.le_of_ble_eq_true rfl, Nat.le_of_ble_eq_true rfl⟩ rfl rfl (Nat.le_of_ble_eq_true rfl) dX3_isDrawn_38 (fun v τ hq => ?_)
    obtain ⟨r2, rfl, h⟩ := hq
    obtain ⟨s3, es3⟩ : ∃ z, z = τ := ⟨_, rfl⟩
    rw [← es3] at h ⊢
    clear es3
    obtain ⟨h5, h⟩ := h
    refine ga_iald hC aC_25 (by decide) h5 dX3_isDrawn_41 ?_
    refine ga_topi (fun x6 ex6 => ?_)
    have h := h x6 ex6
    refine ga_istore (lv' := [(6, .int x6), (0, .ref (ad 2)), (1, .int v1), (2, .int v2), (3, .int v3), (4, .int v4), (5, .int v5)]) hC dX3_isDrawn_42 (by decide) rfl ?_
    refine ga_iload hC dX3_isDrawn_44 0 rfl ?_
    refine ga_iload_n hC dX3_isDrawn_46 3 rfl rfl ?_
    refine ga_iand hC dX3_isDrawn_47 ?_
    refine ga_if_eq (tgt := 64) hC dX3_isDrawn_48 (by decide) (fun hc => ?_) (fun hc => ?_)
    · have h := h.1 hc
      refine ga_iconst (v := 0) hC dX3_isDrawn_64 (by decide) ?_
      refine ga_locals [1, 2, 3, 4, 5, 6] rfl ?_
      exact h p l e s m args below meth c D cy ad hC
    · have h := h.2 hc
      refine ga_iload hC dX3_isDrawn_51 0 rfl ?_
      refine ga_iload_n hC dX3_isDrawn_53 4 rfl rfl ?_
      refine ga_iconst (v := (-1)) hC dX3_isDrawn_54 (by decide) ?_
      refine ga_ixor hC dX3_isDrawn_55 ?_
      refine ga_iand hC dX3_isDrawn_56 ?_
      refine ga_if_ne (tgt := 64) hC dX3_isDrawn_57 (by decide) (fun hc => ?_) (fun hc => ?_)
      · have h := h.1 hc
        refine ga_iconst (v := 0) hC dX3_isDrawn_64 (by decide) ?_
        refine ga_locals [1, 2, 3, 4, 5, 6] rfl ?_
        exact h p l e s m args below meth c D cy ad hC
      · have h := h.2 hc
        refine ga_iconst (v := 1) hC dX3_isDrawn_60 (by decide) ?_
        refine ga_goto (tgt := 65) hC dX3_isDrawn_61 (by decide) ?_
        refine ga_locals [1, 2, 3, 4, 5, 6] rfl ?_
        exact h p l e s m args below meth c D cy ad hC
set_option maxRecDepth 100000 in
set_option maxHeartbeats 4000000 in
theorem v_X3_isDrawn {v1 : Int32} {v2 : Int32} {v3 : Int32} {σ : cg_S} {Q : Int32 → cg_S → Prop}
    (h : vp_in v1 7 ∧ ∀ x2 : Int32, x2 = σ.1 57 v1.toNatClampNeg → L_X3_isDrawn_14 v1 v2 v3 x2 0 σ Q) : M_X3_isDrawn v1 v2 v3 σ Q := by
  refine cg_entry (lv := fun ad => [(0, .ref (ad 2)), (1, .int v1), (2, .int v2), (3, .int v3)]) (by decide +kernel) (fun _ => rfl) (fun _ => Nat.le_of_ble_eq_true rfl) ?_
  intro p l e s m args below meth c D cy ad hC
  refine ga_aload_n hC dX3_isDrawn_0 0 rfl rfl ?_
  refine gC_2_0 hC q_1_145 dX3_isDrawn_1 ?_
  refine gC_1_7 hC q_1_72 dX3_isDrawn_4 ?_
  refine ga_iload_n hC dX3_isDrawn_7 1 rfl rfl ?_
  obtain ⟨h1, h⟩ := h
  refine ga_zald hC aC_57 (by decide) h1 dX3_isDrawn_8 ?_
  refine ga_topi (fun x2 ex2 => ?_)
  have h := h x2 ex2
  refine ga_istore (lv' := [(4, .int x2), (0, .ref (ad 2)), (1, .int v1), (2, .int v2), (3, .int v3)]) hC dX3_isDrawn_9 (by decide) rfl ?_
  refine ga_iconst (v := 0) hC dX3_isDrawn_11 (by decide) ?_
  refine ga_istore (lv' := [(5, .int 0), (4, .int x2), (0, .ref (ad 2)), (1, .int v1), (2, .int v2), (3, .int v3)]) hC dX3_isDrawn_12 (by decide) rfl ?_
  refine ga_locals [2, 3, 4, 5, 1, 0] rfl ?_
  exact h p l e s m args below meth c D cy ad hC
def M_X3_drawnWithin (v1 : Int32) (σ : cg_S) (Q : Int32 → cg_S → Prop) : Prop := cg_M cg_WC yX3_drawnWithin cX3_drawnWithin 5 (some .int) (cg_R 2) (fun ad => [.ref (ad 2), .int v1]) σ (cg_qi Q)
theorem M_X3_drawnWithin.mono {v1 : Int32} {σ : cg_S} {Q Q2 : Int32 → cg_S → Prop} (h : M_X3_drawnWithin v1 σ Q) (hq : ∀ r τ, Q r τ → Q2 r τ) : M_X3_drawnWithin v1 σ Q2 := cg_M.mono h (fun ad v τ ⟨r, e, q⟩ => ⟨r, e, hq r τ q⟩)
def L_X3_drawnWithin_12 (v1 : Int32) (v2 : Int32) (v3 : Int32) (σ : cg_S) (Q : Int32 → cg_S → Prop) : Prop := cg_L cg_WC RX3 cX3_drawnWithin 5 (some .int) (cg_R 2) 12 (fun ad => [(0, .ref (ad 2)), (1, .int v1), (2, .int v2), (3, .int v3)]) (fun ad => []) σ (cg_qi Q)
def L_X3_drawnWithin_26 (v1 : Int32) (v2 : Int32) (v3 : Int32) (v4 : Int32) (σ : cg_S) (Q : Int32 → cg_S → Prop) : Prop := cg_L cg_WC RX3 cX3_drawnWithin 5 (some .int) (cg_R 2) 26 (fun ad => [(0, .ref (ad 2)), (1, .int v1), (2, .int v2), (3, .int v3), (4, .int v4)]) (fun ad => []) σ (cg_qi Q)
set_option maxRecDepth 100000 in
set_option maxHeartbeats 4000000 in
theorem v_X3_drawnWithin_26 {v1 : Int32} {v2 : Int32} {v3 : Int32} {v4 : Int32} {σ : cg_S} {Q : Int32 → cg_S → Prop}
    (h : ((σ.1 1 0) ≤ v4 → L_X3_drawnWithin_12 v1 v2 (v3 + 1) σ Q) ∧ (¬ (σ.1 1 0) ≤ v4 → M_X2_holds v1 v4 σ (fun r1 s2 => (r1 = 0 → L_X3_drawnWithin_26 v1 v2 v3 (v4 + 1) s2 Q) ∧ (¬ r1 = 0 → M_X3_isDrawn v4 v2 v1 s2 (fun r4 s5 => (r4 = 0 → L_X3_drawnWithin_26 v1 v2 v3 (v4 + 1) s5 Q) ∧ (¬ r4 = 0 → ∀ x7 : Int32, x7 = v2 ||| (1 <<< (v4 &&& 31)) → L_X3_drawnWithin_26 v1 x7 v3 (v4 + 1) s5 Q)))))) : L_X3_drawnWithin_26 v1 v2 v3 v4 σ Q := by
  intro p l e s m args below meth c D cy ad hC
  refine ga_iload hC dX3_drawnWithin_26 4 rfl ?_
  refine ga_aload_n hC dX3_drawnWithin_28 0 rfl rfl ?_
  refine gC_2_0 hC q_1_145 dX3_drawnWithin_29 ?_
  refine gC_1_0 hC q_1_53 dX3_drawnWithin_32 ?_
  refine ga_icmp_ge (tgt := 71) hC dX3_drawnWithin_35 (by decide) (fun hc => ?_) (fun hc => ?_)
  · have h := h.1 hc
    refine ga_iinc (v := v3 + 1) (lv' := [(3, .int (v3 + 1)), (0, .ref (ad 2)), (1, .int v1), (2, .int v2), (4, .int v4)]) hC dX3_drawnWithin_71 3 rfl rfl (by decide) rfl ?_
    refine ga_goto (tgt := 12) hC dX3_drawnWithin_74 (by decide) ?_
    refine ga_locals [1, 2, 3, 0] rfl ?_
    exact h p l e s m args below meth c D cy ad hC
  · have h := h.2 hc
    refine ga_iload_n hC dX3_drawnWithin_38 1 rfl rfl ?_
    refine ga_iload hC dX3_drawnWithin_39 4 rfl ?_
    refine ga_callS (As := [.int v1, .int v4]) (st := []) (n := 2) hC h q_3_0 q_2_188 q_1_2 q_2_189 rfl rfl rfl (by decide +kernel) ⟨Nat.le_of_ble_eq_true rfl, Nat.le_of_ble_eq_true rfl⟩ ⟨Nat.le_of_ble_eq_true rfl, Nat.le_of_ble_eq_true rfl⟩ rfl rfl (Nat.le_of_ble_eq_true rfl) dX3_drawnWithin_41 (fun v τ hq => ?_)
    obtain ⟨r1, rfl, h⟩ := hq
    obtain ⟨s2, es2⟩ : ∃ z, z = τ := ⟨_, rfl⟩
    rw [← es2] at h ⊢
    clear es2
    refine ga_if_eq (tgt := 65) hC dX3_drawnWithin_44 (by decide) (fun hc => ?_) (fun hc => ?_)
    · have h := h.1 hc
      refine ga_iinc (v := v4 + 1) (lv' := [(4, .int (v4 + 1)), (0, .ref (ad 2)), (1, .int v1), (2, .int v2), (3, .int v3)]) hC dX3_drawnWithin_65 4 rfl rfl (by decide) rfl ?_
      refine ga_goto (tgt := 26) hC dX3_drawnWithin_68 (by decide) ?_
      refine ga_locals [1, 2, 3, 4, 0] rfl ?_
      exact h p l e s m args below meth c D cy ad hC
    · have h := h.2 hc
      refine ga_aload_n hC dX3_drawnWithin_47 0 rfl rfl ?_
      refine ga_iload hC dX3_drawnWithin_48 4 rfl ?_
      refine ga_iload_n hC dX3_drawnWithin_50 2 rfl rfl ?_
      refine ga_iload_n hC dX3_drawnWithin_51 1 rfl rfl ?_
      refine ga_callV (As := [.int v4, .int v2, .int v1]) (st := []) (k := 2) (n := 3) hC h q_2_236 q_2_237 q_2_238 q_1_3 q_2_239 rfl rfl rfl (by decide +kernel) ⟨Nat.le_of_ble_eq_true rfl, Nat.le_of_ble_eq_true rfl⟩ ⟨Nat.le_of_ble_eq_true rfl, Nat.le_of_ble_eq_true rfl⟩ rfl rfl rfl (by decide) rfl (Nat.le_of_ble_eq_true rfl) dX3_drawnWithin_52 (fun v τ hq => ?_)
      obtain ⟨r4, rfl, h⟩ := hq
      obtain ⟨s5, es5⟩ : ∃ z, z = τ := ⟨_, rfl⟩
      rw [← es5] at h ⊢
      clear es5
      refine ga_if_eq (tgt := 65) hC dX3_drawnWithin_55 (by decide) (fun hc => ?_) (fun hc => ?_)
      · have h := h.1 hc
        refine ga_iinc (v := v4 + 1) (lv' := [(4, .int (v4 + 1)), (0, .ref (ad 2)), (1, .int v1), (2, .int v2), (3, .int v3)]) hC dX3_drawnWithin_65 4 rfl rfl (by decide) rfl ?_
        refine ga_goto (tgt := 26) hC dX3_drawnWithin_68 (by decide) ?_
        refine ga_locals [1, 2, 3, 4, 0] rfl ?_
        exact h p l e s m args below meth c D cy ad hC
      · have h := h.2 hc
        refine ga_iload_n hC dX3_drawnWithin_58 2 rfl rfl ?_
        refine ga_iconst (v := 1) hC dX3_drawnWithin_59 (by decide) ?_
        refine ga_iload hC dX3_drawnWithin_60 4 rfl ?_
        refine ga_ishl hC dX3_drawnWithin_62 ?_
        refine ga_ior hC dX3_drawnWithin_63 ?_
        refine ga_topi (fun x7 ex7 => ?_)
        have h := h x7 ex7
        refine ga_istore_n (lv' := [(2, .int x7), (0, .ref (ad 2)), (1, .int v1), (3, .int v3), (4, .int v4)]) hC dX3_drawnWithin_64 rfl (by decide) rfl ?_
        refine ga_iinc (v := v4 + 1) (lv' := [(4, .int (v4 + 1)), (2, .int x7), (0, .ref (ad 2)), (1, .int v1), (3, .int v3)]) hC dX3_drawnWithin_65 4 rfl rfl (by decide) rfl ?_
        refine ga_goto (tgt := 26) hC dX3_drawnWithin_68 (by decide) ?_
        refine ga_locals [2, 3, 1, 4, 0] rfl ?_
        exact h p l e s m args below meth c D cy ad hC
set_option maxRecDepth 100000 in
set_option maxHeartbeats 4000000 in
theorem v_X3_drawnWithin_12 {v1 : Int32} {v2 : Int32} {v3 : Int32} {σ : cg_S} {Q : Int32 → cg_S → Prop}
    (h : ((σ.1 1 0) ≤ v3 → Q v2 σ) ∧ (¬ (σ.1 1 0) ≤ v3 → L_X3_drawnWithin_26 v1 v2 v3 0 σ Q)) : L_X3_drawnWithin_12 v1 v2 v3 σ Q := by
  intro p l e s m args below meth c D cy ad hC
  refine ga_iload_n hC dX3_drawnWithin_12 3 rfl rfl ?_
  refine ga_aload_n hC dX3_drawnWithin_13 0 rfl rfl ?_
  refine gC_2_0 hC q_1_145 dX3_drawnWithin_14 ?_
  refine gC_1_0 hC q_1_53 dX3_drawnWithin_17 ?_
  refine ga_icmp_ge (tgt := 77) hC dX3_drawnWithin_20 (by decide) (fun hc => ?_) (fun hc => ?_)
  · have h := h.1 hc
    refine ga_iload_n hC dX3_drawnWithin_77 2 rfl rfl ?_
    exact ga_iret hC dX3_drawnWithin_78 ⟨_, rfl, h⟩
  · have h := h.2 hc
    refine ga_iconst (v := 0) hC dX3_drawnWithin_23 (by decide) ?_
    refine ga_istore (lv' := [(4, .int 0), (0, .ref (ad 2)), (1, .int v1), (2, .int v2), (3, .int v3)]) hC dX3_drawnWithin_24 (by decide) rfl ?_
    refine ga_locals [1, 2, 3, 4, 0] rfl ?_
    exact h p l e s m args below meth c D cy ad hC
set_option maxRecDepth 100000 in
set_option maxHeartbeats 4000000 in
theorem v_X3_drawnWithin {v1 : Int32} {σ : cg_S} {Q : Int32 → cg_S → Prop}
    (h : ∀ x1 : Int32, x1 = (σ.1 1 1) &&& v1 → L_X3_drawnWithin_12 v1 x1 0 σ Q) : M_X3_drawnWithin v1 σ Q := by
  refine cg_entry (lv := fun ad => [(0, .ref (ad 2)), (1, .int v1)]) (by decide +kernel) (fun _ => rfl) (fun _ => Nat.le_of_ble_eq_true rfl) ?_
  intro p l e s m args below meth c D cy ad hC
  refine ga_aload_n hC dX3_drawnWithin_0 0 rfl rfl ?_
  refine gC_2_0 hC q_1_145 dX3_drawnWithin_1 ?_
  refine gC_1_1 hC q_1_55 dX3_drawnWithin_4 ?_
  refine ga_iload_n hC dX3_drawnWithin_7 1 rfl rfl ?_
  refine ga_iand hC dX3_drawnWithin_8 ?_
  refine ga_topi (fun x1 ex1 => ?_)
  have h := h x1 ex1
  refine ga_istore_n (lv' := [(2, .int x1), (0, .ref (ad 2)), (1, .int v1)]) hC dX3_drawnWithin_9 rfl (by decide) rfl ?_
  refine ga_iconst (v := 0) hC dX3_drawnWithin_10 (by decide) ?_
  refine ga_istore_n (lv' := [(3, .int 0), (2, .int x1), (0, .ref (ad 2)), (1, .int v1)]) hC dX3_drawnWithin_11 rfl (by decide) rfl ?_
  refine ga_locals [2, 3, 1, 0] rfl ?_
  exact h p l e s m args below meth c D cy ad hC
def M_X3_positive (σ : cg_S) (Q : Int32 → cg_S → Prop) : Prop := cg_M cg_WC yX3_positive cX3_positive 1 (some .int) (cg_R 3) (fun ad => [.ref (ad 2)]) σ (cg_qi Q)
theorem M_X3_positive.mono {σ : cg_S} {Q Q2 : Int32 → cg_S → Prop} (h : M_X3_positive σ Q) (hq : ∀ r τ, Q r τ → Q2 r τ) : M_X3_positive σ Q2 := cg_M.mono h (fun ad v τ ⟨r, e, q⟩ => ⟨r, e, hq r τ q⟩)
set_option maxRecDepth 100000 in
set_option maxHeartbeats 4000000 in
theorem v_X3_positive {σ : cg_S} {Q : Int32 → cg_S → Prop}
    (h : M_X2_everyState σ (fun r1 s2 => M_X3_drawnWithin r1 s2 (fun r4 s5 => Q r4 s5))) : M_X3_positive σ Q := by
  refine cg_entry (lv := fun ad => [(0, .ref (ad 2))]) (by decide +kernel) (fun _ => rfl) (fun _ => Nat.le_of_ble_eq_true rfl) ?_
  intro p l e s m args below meth c D cy ad hC
  refine ga_aload_n hC dX3_positive_0 0 rfl rfl ?_
  refine ga_aload_n hC dX3_positive_1 0 rfl rfl ?_
  refine gC_2_0 hC q_1_145 dX3_positive_2 ?_
  refine ga_callV (As := []) (st := [.ref (ad 2)]) (k := 1) (n := 0) hC h q_2_232 q_2_233 q_2_234 q_1_2 q_2_235 rfl rfl rfl (by decide +kernel) ⟨Nat.le_of_ble_eq_true rfl, Nat.le_of_ble_eq_true rfl⟩ ⟨Nat.le_of_ble_eq_true rfl, Nat.le_of_ble_eq_true rfl⟩ rfl rfl rfl (by decide) rfl (Nat.le_of_ble_eq_true rfl) dX3_positive_5 (fun v τ hq => ?_)
  obtain ⟨r1, rfl, h⟩ := hq
  obtain ⟨s2, es2⟩ : ∃ z, z = τ := ⟨_, rfl⟩
  rw [← es2] at h ⊢
  clear es2
  refine ga_callV (As := [.int r1]) (st := []) (k := 2) (n := 1) hC h q_3_103 q_3_104 q_3_105 q_1_3 q_3_106 rfl rfl rfl (by decide +kernel) ⟨Nat.le_of_ble_eq_true rfl, Nat.le_of_ble_eq_true rfl⟩ ⟨Nat.le_of_ble_eq_true rfl, Nat.le_of_ble_eq_true rfl⟩ rfl rfl rfl (by decide) rfl (Nat.le_of_ble_eq_true rfl) dX3_positive_8 (fun v τ hq => ?_)
  obtain ⟨r4, rfl, h⟩ := hq
  obtain ⟨s5, es5⟩ : ∃ z, z = τ := ⟨_, rfl⟩
  rw [← es5] at h ⊢
  clear es5
  exact ga_iret hC dX3_positive_11 ⟨_, rfl, h⟩
def M_X3_sure (σ : cg_S) (Q : Int32 → cg_S → Prop) : Prop := cg_M cg_WC yX3_sure cX3_sure 3 (some .int) (cg_R 3) (fun ad => [.ref (ad 2)]) σ (cg_qi Q)
theorem M_X3_sure.mono {σ : cg_S} {Q Q2 : Int32 → cg_S → Prop} (h : M_X3_sure σ Q) (hq : ∀ r τ, Q r τ → Q2 r τ) : M_X3_sure σ Q2 := cg_M.mono h (fun ad v τ ⟨r, e, q⟩ => ⟨r, e, hq r τ q⟩)
def L_X3_sure_10 (v1 : Int32) (v2 : Int32) (σ : cg_S) (Q : Int32 → cg_S → Prop) : Prop := cg_L cg_WC RX3 cX3_sure 3 (some .int) (cg_R 3) 10 (fun ad => [(0, .ref (ad 2)), (1, .int v1), (2, .int v2)]) (fun ad => []) σ (cg_qi Q)
set_option maxRecDepth 100000 in
set_option maxHeartbeats 4000000 in
theorem v_X3_sure_10 {v1 : Int32} {v2 : Int32} {σ : cg_S} {Q : Int32 → cg_S → Prop}
    (h : ((σ.1 1 0) ≤ v2 → Q v1 σ) ∧ (¬ (σ.1 1 0) ≤ v2 → M_X3_drawnWithin v1 σ (fun r1 s2 => L_X3_sure_10 r1 (v2 + 1) s2 Q))) : L_X3_sure_10 v1 v2 σ Q := by
  intro p l e s m args below meth c D cy ad hC
  refine ga_iload_n hC dX3_sure_10 2 rfl rfl ?_
  refine ga_aload_n hC dX3_sure_11 0 rfl rfl ?_
  refine gC_2_0 hC q_1_145 dX3_sure_12 ?_
  refine gC_1_0 hC q_1_53 dX3_sure_15 ?_
  refine ga_icmp_ge (tgt := 33) hC dX3_sure_18 (by decide) (fun hc => ?_) (fun hc => ?_)
  · have h := h.1 hc
    refine ga_iload_n hC dX3_sure_33 1 rfl rfl ?_
    exact ga_iret hC dX3_sure_34 ⟨_, rfl, h⟩
  · have h := h.2 hc
    refine ga_aload_n hC dX3_sure_21 0 rfl rfl ?_
    refine ga_iload_n hC dX3_sure_22 1 rfl rfl ?_
    refine ga_callV (As := [.int v1]) (st := []) (k := 2) (n := 1) hC h q_3_103 q_3_104 q_3_105 q_1_3 q_3_106 rfl rfl rfl (by decide +kernel) ⟨Nat.le_of_ble_eq_true rfl, Nat.le_of_ble_eq_true rfl⟩ ⟨Nat.le_of_ble_eq_true rfl, Nat.le_of_ble_eq_true rfl⟩ rfl rfl rfl (by decide) rfl (Nat.le_of_ble_eq_true rfl) dX3_sure_23 (fun v τ hq => ?_)
    obtain ⟨r1, rfl, h⟩ := hq
    obtain ⟨s2, es2⟩ : ∃ z, z = τ := ⟨_, rfl⟩
    rw [← es2] at h ⊢
    clear es2
    refine ga_istore_n (lv' := [(1, .int r1), (0, .ref (ad 2)), (2, .int v2)]) hC dX3_sure_26 rfl (by decide) rfl ?_
    refine ga_iinc (v := v2 + 1) (lv' := [(2, .int (v2 + 1)), (1, .int r1), (0, .ref (ad 2))]) hC dX3_sure_27 2 rfl rfl (by decide) rfl ?_
    refine ga_goto (tgt := 10) hC dX3_sure_30 (by decide) ?_
    refine ga_locals [2, 1, 0] rfl ?_
    exact h p l e s m args below meth c D cy ad hC
set_option maxRecDepth 100000 in
set_option maxHeartbeats 4000000 in
theorem v_X3_sure {σ : cg_S} {Q : Int32 → cg_S → Prop}
    (h : M_X2_everyState σ (fun r1 s2 => L_X3_sure_10 r1 0 s2 Q)) : M_X3_sure σ Q := by
  refine cg_entry (lv := fun ad => [(0, .ref (ad 2))]) (by decide +kernel) (fun _ => rfl) (fun _ => Nat.le_of_ble_eq_true rfl) ?_
  intro p l e s m args below meth c D cy ad hC
  refine ga_aload_n hC dX3_sure_0 0 rfl rfl ?_
  refine gC_2_0 hC q_1_145 dX3_sure_1 ?_
  refine ga_callV (As := []) (st := []) (k := 1) (n := 0) hC h q_2_232 q_2_233 q_2_234 q_1_2 q_2_235 rfl rfl rfl (by decide +kernel) ⟨Nat.le_of_ble_eq_true rfl, Nat.le_of_ble_eq_true rfl⟩ ⟨Nat.le_of_ble_eq_true rfl, Nat.le_of_ble_eq_true rfl⟩ rfl rfl rfl (by decide) rfl (Nat.le_of_ble_eq_true rfl) dX3_sure_4 (fun v τ hq => ?_)
  obtain ⟨r1, rfl, h⟩ := hq
  obtain ⟨s2, es2⟩ : ∃ z, z = τ := ⟨_, rfl⟩
  rw [← es2] at h ⊢
  clear es2
  refine ga_istore_n (lv' := [(1, .int r1), (0, .ref (ad 2))]) hC dX3_sure_7 rfl (by decide) rfl ?_
  refine ga_iconst (v := 0) hC dX3_sure_8 (by decide) ?_
  refine ga_istore_n (lv' := [(2, .int 0), (1, .int r1), (0, .ref (ad 2))]) hC dX3_sure_9 rfl (by decide) rfl ?_
  refine ga_locals [2, 1, 0] rfl ?_
  exact h p l e s m args below meth c D cy ad hC
def M_X3_choiceWithout (v1 : Int32) (v2 : Int32) (σ : cg_S) (Q : Int32 → cg_S → Prop) : Prop := cg_M cg_WC yX3_choiceWithout cX3_choiceWithout 4 (some .int) (cg_R 1) (fun ad => [.ref (ad 2), .int v1, .int v2]) σ (cg_qi Q)
theorem M_X3_choiceWithout.mono {v1 : Int32} {v2 : Int32} {σ : cg_S} {Q Q2 : Int32 → cg_S → Prop} (h : M_X3_choiceWithout v1 v2 σ Q) (hq : ∀ r τ, Q r τ → Q2 r τ) : M_X3_choiceWithout v1 v2 σ Q2 := cg_M.mono h (fun ad v τ ⟨r, e, q⟩ => ⟨r, e, hq r τ q⟩)
def L_X3_choiceWithout_2 (v1 : Int32) (v2 : Int32) (v3 : Int32) (σ : cg_S) (Q : Int32 → cg_S → Prop) : Prop := cg_L cg_WC RX3 cX3_choiceWithout 4 (some .int) (cg_R 1) 2 (fun ad => [(0, .ref (ad 2)), (1, .int v1), (2, .int v2), (3, .int v3)]) (fun ad => []) σ (cg_qi Q)
set_option maxRecDepth 100000 in
set_option maxHeartbeats 4000000 in
theorem v_X3_choiceWithout_2 {v1 : Int32} {v2 : Int32} {v3 : Int32} {σ : cg_S} {Q : Int32 → cg_S → Prop}
    (h : vp_in v1 7 ∧ ((σ.1 21 v1.toNatClampNeg) ≤ v3 → Q 0 σ) ∧ (¬ (σ.1 21 v1.toNatClampNeg) ≤ v3 → M_X2_moveOf v1 v3 σ (fun r2 s3 => vp_in r2 21 ∧ (¬ ((s3.1 25 r2.toNatClampNeg) &&& v2) = 0 → L_X3_choiceWithout_2 v1 v2 (v3 + 1) s3 Q) ∧ (((s3.1 25 r2.toNatClampNeg) &&& v2) = 0 → Q v3 s3)))) : L_X3_choiceWithout_2 v1 v2 v3 σ Q := by
  intro p l e s m args below meth c D cy ad hC
  refine ga_iload_n hC dX3_choiceWithout_2 3 rfl rfl ?_
  refine ga_aload_n hC dX3_choiceWithout_3 0 rfl rfl ?_
  refine gC_2_0 hC q_1_145 dX3_choiceWithout_4 ?_
  refine gC_1_9 hC q_1_81 dX3_choiceWithout_7 ?_
  refine ga_iload_n hC dX3_choiceWithout_10 1 rfl rfl ?_
  obtain ⟨h1, h⟩ := h
  refine ga_iald hC aC_21 (by decide) h1 dX3_choiceWithout_11 ?_
  refine ga_icmp_ge (tgt := 41) hC dX3_choiceWithout_12 (by decide) (fun hc => ?_) (fun hc => ?_)
  · have h := h.1 hc
    refine ga_iconst (v := 0) hC dX3_choiceWithout_41 (by decide) ?_
    exact ga_iret hC dX3_choiceWithout_42 ⟨_, rfl, h⟩
  · have h := h.2 hc
    refine ga_aload_n hC dX3_choiceWithout_15 0 rfl rfl ?_
    refine gC_2_0 hC q_1_145 dX3_choiceWithout_16 ?_
    refine gC_1_13 hC q_1_98 dX3_choiceWithout_19 ?_
    refine ga_iload_n hC dX3_choiceWithout_22 1 rfl rfl ?_
    refine ga_iload_n hC dX3_choiceWithout_23 3 rfl rfl ?_
    refine ga_callS (As := [.int v1, .int v3]) (st := [.ref (ad 25)]) (n := 2) hC h q_2_231 q_2_169 q_1_2 q_2_170 rfl rfl rfl (by decide +kernel) ⟨Nat.le_of_ble_eq_true rfl, Nat.le_of_ble_eq_true rfl⟩ ⟨Nat.le_of_ble_eq_true rfl, Nat.le_of_ble_eq_true rfl⟩ rfl rfl (Nat.le_of_ble_eq_true rfl) dX3_choiceWithout_24 (fun v τ hq => ?_)
    obtain ⟨r2, rfl, h⟩ := hq
    obtain ⟨s3, es3⟩ : ∃ z, z = τ := ⟨_, rfl⟩
    rw [← es3] at h ⊢
    clear es3
    obtain ⟨h5, h⟩ := h
    refine ga_iald hC aC_25 (by decide) h5 dX3_choiceWithout_27 ?_
    refine ga_iload_n hC dX3_choiceWithout_28 2 rfl rfl ?_
    refine ga_iand hC dX3_choiceWithout_29 ?_
    refine ga_if_ne (tgt := 35) hC dX3_choiceWithout_30 (by decide) (fun hc => ?_) (fun hc => ?_)
    · have h := h.1 hc
      refine ga_iinc (v := v3 + 1) (lv' := [(3, .int (v3 + 1)), (0, .ref (ad 2)), (1, .int v1), (2, .int v2)]) hC dX3_choiceWithout_35 3 rfl rfl (by decide) rfl ?_
      refine ga_goto (tgt := 2) hC dX3_choiceWithout_38 (by decide) ?_
      refine ga_locals [1, 2, 3, 0] rfl ?_
      exact h p l e s m args below meth c D cy ad hC
    · have h := h.2 hc
      refine ga_iload_n hC dX3_choiceWithout_33 3 rfl rfl ?_
      exact ga_iret hC dX3_choiceWithout_34 ⟨_, rfl, h⟩
set_option maxRecDepth 100000 in
set_option maxHeartbeats 4000000 in
theorem v_X3_choiceWithout {v1 : Int32} {v2 : Int32} {σ : cg_S} {Q : Int32 → cg_S → Prop}
    (h : L_X3_choiceWithout_2 v1 v2 0 σ Q) : M_X3_choiceWithout v1 v2 σ Q := by
  refine cg_entry (lv := fun ad => [(0, .ref (ad 2)), (1, .int v1), (2, .int v2)]) (by decide +kernel) (fun _ => rfl) (fun _ => Nat.le_of_ble_eq_true rfl) ?_
  intro p l e s m args below meth c D cy ad hC
  refine ga_iconst (v := 0) hC dX3_choiceWithout_0 (by decide) ?_
  refine ga_istore_n (lv' := [(3, .int 0), (0, .ref (ad 2)), (1, .int v1), (2, .int v2)]) hC dX3_choiceWithout_1 rfl (by decide) rfl ?_
  refine ga_locals [1, 2, 3, 0] rfl ?_
  exact h p l e s m args below meth c D cy ad hC
def M_X3_stayAway (v1 : Nat) (σ : cg_S) (Q : cg_S → Prop) : Prop := cg_M cg_WC yX3_stayAway cX3_stayAway 6 none (cg_R 2) (fun ad => [.ref (ad 2), .ref (ad v1)]) σ (cg_qv Q)
theorem M_X3_stayAway.mono {v1 : Nat} {σ : cg_S} {Q Q2 : cg_S → Prop} (h : M_X3_stayAway v1 σ Q) (hq : ∀ τ, Q τ → Q2 τ) : M_X3_stayAway v1 σ Q2 := cg_M.mono h (fun ad v τ ⟨e, q⟩ => ⟨e, hq τ q⟩)
def L_X3_stayAway_10 (v1 : Nat) (v2 : Int32) (v3 : Int32) (σ : cg_S) (Q : cg_S → Prop) : Prop := cg_L cg_WC RX3 cX3_stayAway 6 none (cg_R 2) 10 (fun ad => [(0, .ref (ad 2)), (1, .ref (ad v1)), (2, .int v2), (3, .int v3)]) (fun ad => []) σ (cg_qv Q)
def L_X3_stayAway_24 (v1 : Nat) (v2 : Int32) (v3 : Int32) (v4 : Int32) (σ : cg_S) (Q : cg_S → Prop) : Prop := cg_L cg_WC RX3 cX3_stayAway 6 none (cg_R 2) 24 (fun ad => [(0, .ref (ad 2)), (1, .ref (ad v1)), (2, .int v2), (3, .int v3), (4, .int v4)]) (fun ad => []) σ (cg_qv Q)
def L_X3_stayAway_93 (v1 : Nat) (v2 : Int32) (v3 : Int32) (v4 : Int32) (t0 : Int32) (σ : cg_S) (Q : cg_S → Prop) : Prop := cg_L cg_WC RX3 cX3_stayAway 6 none (cg_R 2) 93 (fun ad => [(0, .ref (ad 2)), (1, .ref (ad v1)), (2, .int v2), (3, .int v3), (4, .int v4)]) (fun ad => [.int t0]) σ (cg_qv Q)
def L_X3_stayAway_121 (v1 : Nat) (v2 : Int32) (v3 : Int32) (σ : cg_S) (Q : cg_S → Prop) : Prop := cg_L cg_WC RX3 cX3_stayAway 6 none (cg_R 2) 121 (fun ad => [(0, .ref (ad 2)), (1, .ref (ad v1)), (2, .int v2), (3, .int v3)]) (fun ad => []) σ (cg_qv Q)
set_option maxRecDepth 100000 in
set_option maxHeartbeats 4000000 in
theorem v_X3_stayAway_121 {v1 : Nat} {v2 : Int32} {v3 : Int32} {σ : cg_S} {Q : cg_S → Prop} (h_v1 : v1 = 19 ∨ v1 = 29 ∨ v1 = 30)
    (h : ((σ.1 1 0) ≤ v3 → Q σ) ∧ (¬ (σ.1 1 0) ≤ v3 → vp_in v3 7 ∧ (¬ (σ.1 57 v3.toNatClampNeg) = 0 → L_X3_stayAway_121 v1 v2 (v3 + 1) σ Q) ∧ ((σ.1 57 v3.toNatClampNeg) = 0 → M_X2_holds v2 v3 σ (fun r2 s3 => (¬ r2 = 0 → L_X3_stayAway_121 v1 v2 (v3 + 1) s3 Q) ∧ (r2 = 0 → M_X3_choiceWithout v3 v2 s3 (fun r5 s6 => vp_in v3 7 ∧ ∀ s9 : cg_S, s9 = cg_i s6 v1 v3.toNatClampNeg r5 → L_X3_stayAway_121 v1 v2 (v3 + 1) s9 Q)))))) : L_X3_stayAway_121 v1 v2 v3 σ Q := by
  intro p l e s m args below meth c D cy ad hC
  refine ga_iload_n hC dX3_stayAway_121 3 rfl rfl ?_
  refine ga_aload_n hC dX3_stayAway_122 0 rfl rfl ?_
  refine gC_2_0 hC q_1_145 dX3_stayAway_123 ?_
  refine gC_1_0 hC q_1_53 dX3_stayAway_126 ?_
  refine ga_icmp_ge (tgt := 167) hC dX3_stayAway_129 (by decide) (fun hc => ?_) (fun hc => ?_)
  · have h := h.1 hc
    exact ga_vret hC dX3_stayAway_167 ⟨rfl, h⟩
  · have h := h.2 hc
    refine ga_aload_n hC dX3_stayAway_132 0 rfl rfl ?_
    refine gC_2_0 hC q_1_145 dX3_stayAway_133 ?_
    refine gC_1_7 hC q_1_72 dX3_stayAway_136 ?_
    refine ga_iload_n hC dX3_stayAway_139 3 rfl rfl ?_
    obtain ⟨h1, h⟩ := h
    refine ga_zald hC aC_57 (by decide) h1 dX3_stayAway_140 ?_
    refine ga_if_ne (tgt := 161) hC dX3_stayAway_141 (by decide) (fun hc => ?_) (fun hc => ?_)
    · have h := h.1 hc
      refine ga_iinc (v := v3 + 1) (lv' := [(3, .int (v3 + 1)), (0, .ref (ad 2)), (1, .ref (ad v1)), (2, .int v2)]) hC dX3_stayAway_161 3 rfl rfl (by decide) rfl ?_
      refine ga_goto (tgt := 121) hC dX3_stayAway_164 (by decide) ?_
      refine ga_locals [1, 2, 3, 0] rfl ?_
      exact h p l e s m args below meth c D cy ad hC
    · have h := h.2 hc
      refine ga_iload_n hC dX3_stayAway_144 2 rfl rfl ?_
      refine ga_iload_n hC dX3_stayAway_145 3 rfl rfl ?_
      refine ga_callS (As := [.int v2, .int v3]) (st := []) (n := 2) hC h q_3_0 q_2_188 q_1_2 q_2_189 rfl rfl rfl (by decide +kernel) ⟨Nat.le_of_ble_eq_true rfl, Nat.le_of_ble_eq_true rfl⟩ ⟨Nat.le_of_ble_eq_true rfl, Nat.le_of_ble_eq_true rfl⟩ rfl rfl (Nat.le_of_ble_eq_true rfl) dX3_stayAway_146 (fun v τ hq => ?_)
      obtain ⟨r2, rfl, h⟩ := hq
      obtain ⟨s3, es3⟩ : ∃ z, z = τ := ⟨_, rfl⟩
      rw [← es3] at h ⊢
      clear es3
      refine ga_if_ne (tgt := 161) hC dX3_stayAway_149 (by decide) (fun hc => ?_) (fun hc => ?_)
      · have h := h.1 hc
        refine ga_iinc (v := v3 + 1) (lv' := [(3, .int (v3 + 1)), (0, .ref (ad 2)), (1, .ref (ad v1)), (2, .int v2)]) hC dX3_stayAway_161 3 rfl rfl (by decide) rfl ?_
        refine ga_goto (tgt := 121) hC dX3_stayAway_164 (by decide) ?_
        refine ga_locals [1, 2, 3, 0] rfl ?_
        exact h p l e s m args below meth c D cy ad hC
      · have h := h.2 hc
        refine ga_aload_n hC dX3_stayAway_152 1 rfl rfl ?_
        refine ga_iload_n hC dX3_stayAway_153 3 rfl rfl ?_
        refine ga_aload_n hC dX3_stayAway_154 0 rfl rfl ?_
        refine ga_iload_n hC dX3_stayAway_155 3 rfl rfl ?_
        refine ga_iload_n hC dX3_stayAway_156 2 rfl rfl ?_
        refine ga_callV (As := [.int v3, .int v2]) (st := [.int v3, .ref (ad v1)]) (k := 2) (n := 2) hC h q_3_1 q_3_2 q_3_3 q_1_3 q_3_4 rfl rfl rfl (by decide +kernel) ⟨Nat.le_of_ble_eq_true rfl, Nat.le_of_ble_eq_true rfl⟩ ⟨Nat.le_of_ble_eq_true rfl, Nat.le_of_ble_eq_true rfl⟩ rfl rfl rfl (by decide) rfl (Nat.le_of_ble_eq_true rfl) dX3_stayAway_157 (fun v τ hq => ?_)
        obtain ⟨r5, rfl, h⟩ := hq
        obtain ⟨s6, es6⟩ : ∃ z, z = τ := ⟨_, rfl⟩
        rw [← es6] at h ⊢
        clear es6
        obtain ⟨h8, h⟩ := h
        refine ga_iast hC (aC_p h_v1) (show _ < 88 by have := h_v1; omega) h8 dX3_stayAway_160 ?_
        refine ga_sig (σ := cg_i s6 v1 v3.toNatClampNeg r5) (fun s9 es9 => ?_)
        have h := h s9 es9
        refine ga_iinc (v := v3 + 1) (lv' := [(3, .int (v3 + 1)), (0, .ref (ad 2)), (1, .ref (ad v1)), (2, .int v2)]) hC dX3_stayAway_161 3 rfl rfl (by decide) rfl ?_
        refine ga_goto (tgt := 121) hC dX3_stayAway_164 (by decide) ?_
        refine ga_locals [1, 2, 3, 0] rfl ?_
        exact h p l e s m args below meth c D cy ad hC
set_option maxRecDepth 100000 in
set_option maxHeartbeats 4000000 in
theorem v_X3_stayAway_93 {v1 : Nat} {v2 : Int32} {v3 : Int32} {v4 : Int32} {t0 : Int32} {σ : cg_S} {Q : cg_S → Prop} (h_v1 : v1 = 19 ∨ v1 = 29 ∨ v1 = 30)
    (h : (t0 = 0 → L_X3_stayAway_24 v1 v2 v3 (v4 + 1) σ Q) ∧ (¬ t0 = 0 → ∀ x1 : Int32, x1 = v2 ||| (1 <<< (v4 &&& 31)) → L_X3_stayAway_24 v1 x1 v3 (v4 + 1) σ Q)) : L_X3_stayAway_93 v1 v2 v3 v4 t0 σ Q := by
  intro p l e s m args below meth c D cy ad hC
  refine ga_istore (lv' := [(5, .int t0), (0, .ref (ad 2)), (1, .ref (ad v1)), (2, .int v2), (3, .int v3), (4, .int v4)]) hC dX3_stayAway_93 (by decide) rfl ?_
  refine ga_iload hC dX3_stayAway_95 0 rfl ?_
  refine ga_if_eq (tgt := 107) hC dX3_stayAway_97 (by decide) (fun hc => ?_) (fun hc => ?_)
  · have h := h.1 hc
    refine ga_iinc (v := v4 + 1) (lv' := [(4, .int (v4 + 1)), (5, .int t0), (0, .ref (ad 2)), (1, .ref (ad v1)), (2, .int v2), (3, .int v3)]) hC dX3_stayAway_107 5 rfl rfl (by decide) rfl ?_
    refine ga_goto (tgt := 24) hC dX3_stayAway_110 (by decide) ?_
    refine ga_locals [2, 3, 4, 5, 0] rfl ?_
    exact h p l e s m args below meth c D cy ad hC
  · have h := h.2 hc
    refine ga_iload_n hC dX3_stayAway_100 3 rfl rfl ?_
    refine ga_iconst (v := 1) hC dX3_stayAway_101 (by decide) ?_
    refine ga_iload hC dX3_stayAway_102 5 rfl ?_
    refine ga_ishl hC dX3_stayAway_104 ?_
    refine ga_ior hC dX3_stayAway_105 ?_
    refine ga_topi (fun x1 ex1 => ?_)
    have h := h x1 ex1
    refine ga_istore_n (lv' := [(2, .int x1), (5, .int t0), (0, .ref (ad 2)), (1, .ref (ad v1)), (3, .int v3), (4, .int v4)]) hC dX3_stayAway_106 rfl (by decide) rfl ?_
    refine ga_iinc (v := v4 + 1) (lv' := [(4, .int (v4 + 1)), (2, .int x1), (5, .int t0), (0, .ref (ad 2)), (1, .ref (ad v1)), (3, .int v3)]) hC dX3_stayAway_107 5 rfl rfl (by decide) rfl ?_
    refine ga_goto (tgt := 24) hC dX3_stayAway_110 (by decide) ?_
    refine ga_locals [3, 4, 1, 5, 0] rfl ?_
    exact h p l e s m args below meth c D cy ad hC
set_option maxRecDepth 100000 in
set_option maxHeartbeats 4000000 in
theorem v_X3_stayAway_24 {v1 : Nat} {v2 : Int32} {v3 : Int32} {v4 : Int32} {σ : cg_S} {Q : cg_S → Prop} (h_v1 : v1 = 19 ∨ v1 = 29 ∨ v1 = 30)
    (h : ((σ.1 1 0) ≤ v4 → L_X3_stayAway_10 v1 v2 (v3 + 1) σ Q) ∧ (¬ (σ.1 1 0) ≤ v4 → vp_in v4 7 ∧ ((σ.1 57 v4.toNatClampNeg) = 0 → M_X2_everyState σ (fun r2 s3 => M_X3_isDrawn v4 v2 r2 s3 (fun r5 s6 => L_X3_stayAway_93 v1 v2 v3 v4 r5 s6 Q))) ∧ (¬ (σ.1 57 v4.toNatClampNeg) = 0 → vp_in v4 7 ∧ M_X2_moveOf v4 (σ.1 v1 v4.toNatClampNeg) σ (fun r9 s10 => vp_in r9 21 ∧ (((s10.1 25 r9.toNatClampNeg) &&& v2) = 0 → L_X3_stayAway_93 v1 v2 v3 v4 0 s10 Q) ∧ (¬ ((s10.1 25 r9.toNatClampNeg) &&& v2) = 0 → L_X3_stayAway_93 v1 v2 v3 v4 1 s10 Q))))) : L_X3_stayAway_24 v1 v2 v3 v4 σ Q := by
  intro p l e s m args below meth c D cy ad hC
  refine ga_iload hC dX3_stayAway_24 4 rfl ?_
  refine ga_aload_n hC dX3_stayAway_26 0 rfl rfl ?_
  refine gC_2_0 hC q_1_145 dX3_stayAway_27 ?_
  refine gC_1_0 hC q_1_53 dX3_stayAway_30 ?_
  refine ga_icmp_ge (tgt := 113) hC dX3_stayAway_33 (by decide) (fun hc => ?_) (fun hc => ?_)
  · have h := h.1 hc
    refine ga_iinc (v := v3 + 1) (lv' := [(3, .int (v3 + 1)), (0, .ref (ad 2)), (1, .ref (ad v1)), (2, .int v2), (4, .int v4)]) hC dX3_stayAway_113 3 rfl rfl (by decide) rfl ?_
    refine ga_goto (tgt := 10) hC dX3_stayAway_116 (by decide) ?_
    refine ga_locals [1, 2, 3, 0] rfl ?_
    exact h p l e s m args below meth c D cy ad hC
  · have h := h.2 hc
    refine ga_aload_n hC dX3_stayAway_36 0 rfl rfl ?_
    refine gC_2_0 hC q_1_145 dX3_stayAway_37 ?_
    refine gC_1_7 hC q_1_72 dX3_stayAway_40 ?_
    refine ga_iload hC dX3_stayAway_43 4 rfl ?_
    obtain ⟨h1, h⟩ := h
    refine ga_zald hC aC_57 (by decide) h1 dX3_stayAway_45 ?_
    refine ga_if_eq (tgt := 79) hC dX3_stayAway_46 (by decide) (fun hc => ?_) (fun hc => ?_)
    · have h := h.1 hc
      refine ga_aload_n hC dX3_stayAway_79 0 rfl rfl ?_
      refine ga_iload hC dX3_stayAway_80 4 rfl ?_
      refine ga_iload_n hC dX3_stayAway_82 2 rfl rfl ?_
      refine ga_aload_n hC dX3_stayAway_83 0 rfl rfl ?_
      refine gC_2_0 hC q_1_145 dX3_stayAway_84 ?_
      refine ga_callV (As := []) (st := [.int v2, .int v4, .ref (ad 2)]) (k := 1) (n := 0) hC h q_2_232 q_2_233 q_2_234 q_1_2 q_2_235 rfl rfl rfl (by decide +kernel) ⟨Nat.le_of_ble_eq_true rfl, Nat.le_of_ble_eq_true rfl⟩ ⟨Nat.le_of_ble_eq_true rfl, Nat.le_of_ble_eq_true rfl⟩ rfl rfl rfl (by decide) rfl (Nat.le_of_ble_eq_true rfl) dX3_stayAway_87 (fun v τ hq => ?_)
      obtain ⟨r2, rfl, h⟩ := hq
      obtain ⟨s3, es3⟩ : ∃ z, z = τ := ⟨_, rfl⟩
      rw [← es3] at h ⊢
      clear es3
      refine ga_callV (As := [.int v4, .int v2, .int r2]) (st := []) (k := 2) (n := 3) hC h q_2_236 q_2_237 q_2_238 q_1_3 q_2_239 rfl rfl rfl (by decide +kernel) ⟨Nat.le_of_ble_eq_true rfl, Nat.le_of_ble_eq_true rfl⟩ ⟨Nat.le_of_ble_eq_true rfl, Nat.le_of_ble_eq_true rfl⟩ rfl rfl rfl (by decide) rfl (Nat.le_of_ble_eq_true rfl) dX3_stayAway_90 (fun v τ hq => ?_)
      obtain ⟨r5, rfl, h⟩ := hq
      obtain ⟨s6, es6⟩ : ∃ z, z = τ := ⟨_, rfl⟩
      rw [← es6] at h ⊢
      clear es6
      refine ga_locals [0, 1, 2, 3, 4] rfl ?_
      exact h p l e s m args below meth c D cy ad hC
    · have h := h.2 hc
      refine ga_aload_n hC dX3_stayAway_49 0 rfl rfl ?_
      refine gC_2_0 hC q_1_145 dX3_stayAway_50 ?_
      refine gC_1_13 hC q_1_98 dX3_stayAway_53 ?_
      refine ga_iload hC dX3_stayAway_56 4 rfl ?_
      refine ga_aload_n hC dX3_stayAway_58 1 rfl rfl ?_
      refine ga_iload hC dX3_stayAway_59 4 rfl ?_
      obtain ⟨h8, h⟩ := h
      refine ga_iald hC (aC_p h_v1) (show _ < 88 by have := h_v1; omega) h8 dX3_stayAway_61 ?_
      refine ga_callS (As := [.int v4, .int (σ.1 v1 v4.toNatClampNeg)]) (st := [.ref (ad 25)]) (n := 2) hC h q_2_231 q_2_169 q_1_2 q_2_170 rfl rfl rfl (by decide +kernel) ⟨Nat.le_of_ble_eq_true rfl, Nat.le_of_ble_eq_true rfl⟩ ⟨Nat.le_of_ble_eq_true rfl, Nat.le_of_ble_eq_true rfl⟩ rfl rfl (Nat.le_of_ble_eq_true rfl) dX3_stayAway_62 (fun v τ hq => ?_)
      obtain ⟨r9, rfl, h⟩ := hq
      obtain ⟨s10, es10⟩ : ∃ z, z = τ := ⟨_, rfl⟩
      rw [← es10] at h ⊢
      clear es10
      obtain ⟨h12, h⟩ := h
      refine ga_iald hC aC_25 (by decide) h12 dX3_stayAway_65 ?_
      refine ga_iload_n hC dX3_stayAway_66 2 rfl rfl ?_
      refine ga_iand hC dX3_stayAway_67 ?_
      refine ga_if_eq (tgt := 75) hC dX3_stayAway_68 (by decide) (fun hc => ?_) (fun hc => ?_)
      · have h := h.1 hc
        refine ga_iconst (v := 0) hC dX3_stayAway_75 (by decide) ?_
        refine ga_goto (tgt := 93) hC dX3_stayAway_76 (by decide) ?_
        refine ga_locals [0, 1, 2, 3, 4] rfl ?_
        exact h p l e s m args below meth c D cy ad hC
      · have h := h.2 hc
        refine ga_iconst (v := 1) hC dX3_stayAway_71 (by decide) ?_
        refine ga_goto (tgt := 93) hC dX3_stayAway_72 (by decide) ?_
        refine ga_locals [0, 1, 2, 3, 4] rfl ?_
        exact h p l e s m args below meth c D cy ad hC
set_option maxRecDepth 100000 in
set_option maxHeartbeats 4000000 in
theorem v_X3_stayAway_10 {v1 : Nat} {v2 : Int32} {v3 : Int32} {σ : cg_S} {Q : cg_S → Prop} (h_v1 : v1 = 19 ∨ v1 = 29 ∨ v1 = 30)
    (h : ((σ.1 1 0) ≤ v3 → L_X3_stayAway_121 v1 v2 0 σ Q) ∧ (¬ (σ.1 1 0) ≤ v3 → L_X3_stayAway_24 v1 v2 v3 0 σ Q)) : L_X3_stayAway_10 v1 v2 v3 σ Q := by
  intro p l e s m args below meth c D cy ad hC
  refine ga_iload_n hC dX3_stayAway_10 3 rfl rfl ?_
  refine ga_aload_n hC dX3_stayAway_11 0 rfl rfl ?_
  refine gC_2_0 hC q_1_145 dX3_stayAway_12 ?_
  refine gC_1_0 hC q_1_53 dX3_stayAway_15 ?_
  refine ga_icmp_ge (tgt := 119) hC dX3_stayAway_18 (by decide) (fun hc => ?_) (fun hc => ?_)
  · have h := h.1 hc
    refine ga_iconst (v := 0) hC dX3_stayAway_119 (by decide) ?_
    refine ga_istore_n (lv' := [(3, .int 0), (0, .ref (ad 2)), (1, .ref (ad v1)), (2, .int v2)]) hC dX3_stayAway_120 rfl (by decide) rfl ?_
    refine ga_locals [1, 2, 3, 0] rfl ?_
    exact h p l e s m args below meth c D cy ad hC
  · have h := h.2 hc
    refine ga_iconst (v := 0) hC dX3_stayAway_21 (by decide) ?_
    refine ga_istore (lv' := [(4, .int 0), (0, .ref (ad 2)), (1, .ref (ad v1)), (2, .int v2), (3, .int v3)]) hC dX3_stayAway_22 (by decide) rfl ?_
    refine ga_locals [1, 2, 3, 4, 0] rfl ?_
    exact h p l e s m args below meth c D cy ad hC
set_option maxRecDepth 100000 in
set_option maxHeartbeats 4000000 in
theorem v_X3_stayAway {v1 : Nat} {σ : cg_S} {Q : cg_S → Prop} (h_v1 : v1 = 19 ∨ v1 = 29 ∨ v1 = 30)
    (h : ∀ x1 : Int32, x1 = σ.1 1 1 → L_X3_stayAway_10 v1 x1 0 σ Q) : M_X3_stayAway v1 σ Q := by
  refine cg_entry (lv := fun ad => [(0, .ref (ad 2)), (1, .ref (ad v1))]) (by decide +kernel) (fun _ => rfl) (fun _ => Nat.le_of_ble_eq_true rfl) ?_
  intro p l e s m args below meth c D cy ad hC
  refine ga_aload_n hC dX3_stayAway_0 0 rfl rfl ?_
  refine gC_2_0 hC q_1_145 dX3_stayAway_1 ?_
  refine gC_1_1 hC q_1_55 dX3_stayAway_4 ?_
  refine ga_topi (fun x1 ex1 => ?_)
  have h := h x1 ex1
  refine ga_istore_n (lv' := [(2, .int x1), (0, .ref (ad 2)), (1, .ref (ad v1))]) hC dX3_stayAway_7 rfl (by decide) rfl ?_
  refine ga_iconst (v := 0) hC dX3_stayAway_8 (by decide) ?_
  refine ga_istore_n (lv' := [(3, .int 0), (2, .int x1), (0, .ref (ad 2)), (1, .ref (ad v1))]) hC dX3_stayAway_9 rfl (by decide) rfl ?_
  refine ga_locals [2, 3, 1, 0] rfl ?_
  exact h p l e s m args below meth c D cy ad hC
def M_X3_join (σ : cg_S) (Q : cg_S → Prop) : Prop := cg_M cg_WC yX3_join cX3_join 3 none (cg_R 1) (fun ad => [.ref (ad 2)]) σ (cg_qv Q)
theorem M_X3_join.mono {σ : cg_S} {Q Q2 : cg_S → Prop} (h : M_X3_join σ Q) (hq : ∀ τ, Q τ → Q2 τ) : M_X3_join σ Q2 := cg_M.mono h (fun ad v τ ⟨e, q⟩ => ⟨e, hq τ q⟩)
def L_X3_join_2 (v1 : Int32) (σ : cg_S) (Q : cg_S → Prop) : Prop := cg_L cg_WC RX3 cX3_join 3 none (cg_R 1) 2 (fun ad => [(0, .ref (ad 2)), (1, .int v1)]) (fun ad => []) σ (cg_qv Q)
def L_X3_join_15 (v1 : Int32) (v2 : Int32) (σ : cg_S) (Q : cg_S → Prop) : Prop := cg_L cg_WC RX3 cX3_join 3 none (cg_R 1) 15 (fun ad => [(0, .ref (ad 2)), (1, .int v1), (2, .int v2)]) (fun ad => []) σ (cg_qv Q)
set_option maxRecDepth 100000 in
set_option maxHeartbeats 4000000 in
theorem v_X3_join_15 {v1 : Int32} {v2 : Int32} {σ : cg_S} {Q : cg_S → Prop}
    (h : ((σ.1 1 0) ≤ v2 → L_X3_join_2 (v1 + 1) σ Q) ∧ (¬ (σ.1 1 0) ≤ v2 → vp_in v2 7 ∧ M_X2_holds (σ.1 26 v2.toNatClampNeg) v1 σ (fun r2 s3 => (r2 = 0 → L_X3_join_15 v1 (v2 + 1) s3 Q) ∧ (¬ r2 = 0 → vp_in v2 7 ∧ vp_in v1 7 ∧ vp_in v2 7 ∧ ∀ s8 : cg_S, s8 = cg_i s3 26 v2.toNatClampNeg ((s3.1 26 v2.toNatClampNeg) ||| (s3.1 26 v1.toNatClampNeg)) → L_X3_join_15 v1 (v2 + 1) s8 Q)))) : L_X3_join_15 v1 v2 σ Q := by
  intro p l e s m args below meth c D cy ad hC
  refine ga_iload_n hC dX3_join_15 2 rfl rfl ?_
  refine ga_aload_n hC dX3_join_16 0 rfl rfl ?_
  refine gC_2_0 hC q_1_145 dX3_join_17 ?_
  refine gC_1_0 hC q_1_53 dX3_join_20 ?_
  refine ga_icmp_ge (tgt := 60) hC dX3_join_23 (by decide) (fun hc => ?_) (fun hc => ?_)
  · have h := h.1 hc
    refine ga_iinc (v := v1 + 1) (lv' := [(1, .int (v1 + 1)), (0, .ref (ad 2)), (2, .int v2)]) hC dX3_join_60 1 rfl rfl (by decide) rfl ?_
    refine ga_goto (tgt := 2) hC dX3_join_63 (by decide) ?_
    refine ga_locals [1, 0] rfl ?_
    exact h p l e s m args below meth c D cy ad hC
  · have h := h.2 hc
    refine ga_aload_n hC dX3_join_26 0 rfl rfl ?_
    refine gC_2_1 hC q_1_146 dX3_join_27 ?_
    refine ga_iload_n hC dX3_join_30 2 rfl rfl ?_
    obtain ⟨h1, h⟩ := h
    refine ga_iald hC aC_26 (by decide) h1 dX3_join_31 ?_
    refine ga_iload_n hC dX3_join_32 1 rfl rfl ?_
    refine ga_callS (As := [.int (σ.1 26 v2.toNatClampNeg), .int v1]) (st := []) (n := 2) hC h q_3_0 q_2_188 q_1_2 q_2_189 rfl rfl rfl (by decide +kernel) ⟨Nat.le_of_ble_eq_true rfl, Nat.le_of_ble_eq_true rfl⟩ ⟨Nat.le_of_ble_eq_true rfl, Nat.le_of_ble_eq_true rfl⟩ rfl rfl (Nat.le_of_ble_eq_true rfl) dX3_join_33 (fun v τ hq => ?_)
    obtain ⟨r2, rfl, h⟩ := hq
    obtain ⟨s3, es3⟩ : ∃ z, z = τ := ⟨_, rfl⟩
    rw [← es3] at h ⊢
    clear es3
    refine ga_if_eq (tgt := 54) hC dX3_join_36 (by decide) (fun hc => ?_) (fun hc => ?_)
    · have h := h.1 hc
      refine ga_iinc (v := v2 + 1) (lv' := [(2, .int (v2 + 1)), (0, .ref (ad 2)), (1, .int v1)]) hC dX3_join_54 2 rfl rfl (by decide) rfl ?_
      refine ga_goto (tgt := 15) hC dX3_join_57 (by decide) ?_
      refine ga_locals [1, 2, 0] rfl ?_
      exact h p l e s m args below meth c D cy ad hC
    · have h := h.2 hc
      refine ga_aload_n hC dX3_join_39 0 rfl rfl ?_
      refine gC_2_1 hC q_1_146 dX3_join_40 ?_
      refine ga_iload_n hC dX3_join_43 2 rfl rfl ?_
      refine ga_dup2_11 hC dX3_join_44 rfl rfl ?_
      obtain ⟨h5, h⟩ := h
      refine ga_iald hC aC_26 (by decide) h5 dX3_join_45 ?_
      refine ga_aload_n hC dX3_join_46 0 rfl rfl ?_
      refine gC_2_1 hC q_1_146 dX3_join_47 ?_
      refine ga_iload_n hC dX3_join_50 1 rfl rfl ?_
      obtain ⟨h6, h⟩ := h
      refine ga_iald hC aC_26 (by decide) h6 dX3_join_51 ?_
      refine ga_ior hC dX3_join_52 ?_
      obtain ⟨h7, h⟩ := h
      refine ga_iast hC aC_26 (by decide) h7 dX3_join_53 ?_
      refine ga_sig (σ := cg_i s3 26 v2.toNatClampNeg ((s3.1 26 v2.toNatClampNeg) ||| (s3.1 26 v1.toNatClampNeg))) (fun s8 es8 => ?_)
      have h := h s8 es8
      refine ga_iinc (v := v2 + 1) (lv' := [(2, .int (v2 + 1)), (0, .ref (ad 2)), (1, .int v1)]) hC dX3_join_54 2 rfl rfl (by decide) rfl ?_
      refine ga_goto (tgt := 15) hC dX3_join_57 (by decide) ?_
      refine ga_locals [1, 2, 0] rfl ?_
      exact h p l e s m args below meth c D cy ad hC
set_option maxRecDepth 100000 in
set_option maxHeartbeats 4000000 in
theorem v_X3_join_2 {v1 : Int32} {σ : cg_S} {Q : cg_S → Prop}
    (h : ((σ.1 1 0) ≤ v1 → Q σ) ∧ (¬ (σ.1 1 0) ≤ v1 → L_X3_join_15 v1 0 σ Q)) : L_X3_join_2 v1 σ Q := by
  intro p l e s m args below meth c D cy ad hC
  refine ga_iload_n hC dX3_join_2 1 rfl rfl ?_
  refine ga_aload_n hC dX3_join_3 0 rfl rfl ?_
  refine gC_2_0 hC q_1_145 dX3_join_4 ?_
  refine gC_1_0 hC q_1_53 dX3_join_7 ?_
  refine ga_icmp_ge (tgt := 66) hC dX3_join_10 (by decide) (fun hc => ?_) (fun hc => ?_)
  · have h := h.1 hc
    exact ga_vret hC dX3_join_66 ⟨rfl, h⟩
  · have h := h.2 hc
    refine ga_iconst (v := 0) hC dX3_join_13 (by decide) ?_
    refine ga_istore_n (lv' := [(2, .int 0), (0, .ref (ad 2)), (1, .int v1)]) hC dX3_join_14 rfl (by decide) rfl ?_
    refine ga_locals [1, 2, 0] rfl ?_
    exact h p l e s m args below meth c D cy ad hC
set_option maxRecDepth 100000 in
set_option maxHeartbeats 4000000 in
theorem v_X3_join {σ : cg_S} {Q : cg_S → Prop}
    (h : L_X3_join_2 0 σ Q) : M_X3_join σ Q := by
  refine cg_entry (lv := fun ad => [(0, .ref (ad 2))]) (by decide +kernel) (fun _ => rfl) (fun _ => Nat.le_of_ble_eq_true rfl) ?_
  intro p l e s m args below meth c D cy ad hC
  refine ga_iconst (v := 0) hC dX3_join_0 (by decide) ?_
  refine ga_istore_n (lv' := [(1, .int 0), (0, .ref (ad 2))]) hC dX3_join_1 rfl (by decide) rfl ?_
  refine ga_locals [1, 0] rfl ?_
  exact h p l e s m args below meth c D cy ad hC
def M_X3_follow (v1 : Nat) (σ : cg_S) (Q : cg_S → Prop) : Prop := cg_M cg_WC yX3_follow cX3_follow 3 none (cg_R 2) (fun ad => [.ref (ad 2), .ref (ad v1)]) σ (cg_qv Q)
theorem M_X3_follow.mono {v1 : Nat} {σ : cg_S} {Q Q2 : cg_S → Prop} (h : M_X3_follow v1 σ Q) (hq : ∀ τ, Q τ → Q2 τ) : M_X3_follow v1 σ Q2 := cg_M.mono h (fun ad v τ ⟨e, q⟩ => ⟨e, hq τ q⟩)
def L_X3_follow_2 (v1 : Nat) (v2 : Int32) (σ : cg_S) (Q : cg_S → Prop) : Prop := cg_L cg_WC RX3 cX3_follow 3 none (cg_R 2) 2 (fun ad => [(0, .ref (ad 2)), (1, .ref (ad v1)), (2, .int v2)]) (fun ad => []) σ (cg_qv Q)
set_option maxRecDepth 100000 in
set_option maxHeartbeats 4000000 in
theorem v_X3_follow_2 {v1 : Nat} {v2 : Int32} {σ : cg_S} {Q : cg_S → Prop} (h_v1 : v1 = 19 ∨ v1 = 29 ∨ v1 = 30)
    (h : ((σ.1 1 0) ≤ v2 → M_X3_join σ (fun s2 => Q s2)) ∧ (¬ (σ.1 1 0) ≤ v2 → vp_in v2 7 ∧ M_X2_moveOf v2 (σ.1 v1 v2.toNatClampNeg) σ (fun r5 s6 => vp_in r5 21 ∧ vp_in v2 7 ∧ ∀ s10 : cg_S, s10 = cg_i s6 26 v2.toNatClampNeg (s6.1 25 r5.toNatClampNeg) → L_X3_follow_2 v1 (v2 + 1) s10 Q))) : L_X3_follow_2 v1 v2 σ Q := by
  intro p l e s m args below meth c D cy ad hC
  refine ga_iload_n hC dX3_follow_2 2 rfl rfl ?_
  refine ga_aload_n hC dX3_follow_3 0 rfl rfl ?_
  refine gC_2_0 hC q_1_145 dX3_follow_4 ?_
  refine gC_1_0 hC q_1_53 dX3_follow_7 ?_
  refine ga_icmp_ge (tgt := 40) hC dX3_follow_10 (by decide) (fun hc => ?_) (fun hc => ?_)
  · have h := h.1 hc
    refine ga_aload_n hC dX3_follow_40 0 rfl rfl ?_
    refine ga_callV (As := []) (st := []) (k := 2) (n := 0) hC h q_4_229 q_4_230 q_4_231 q_1_3 q_4_232 rfl rfl rfl (by decide +kernel) ⟨Nat.le_of_ble_eq_true rfl, Nat.le_of_ble_eq_true rfl⟩ ⟨Nat.le_of_ble_eq_true rfl, Nat.le_of_ble_eq_true rfl⟩ rfl rfl rfl (by decide) rfl (Nat.le_of_ble_eq_true rfl) dX3_follow_41 (fun v τ hq => ?_)
    obtain ⟨rfl, h⟩ := hq
    obtain ⟨s2, es2⟩ : ∃ z, z = τ := ⟨_, rfl⟩
    rw [← es2] at h ⊢
    clear es2
    exact ga_vret hC dX3_follow_44 ⟨rfl, h⟩
  · have h := h.2 hc
    refine ga_aload_n hC dX3_follow_13 0 rfl rfl ?_
    refine gC_2_1 hC q_1_146 dX3_follow_14 ?_
    refine ga_iload_n hC dX3_follow_17 2 rfl rfl ?_
    refine ga_aload_n hC dX3_follow_18 0 rfl rfl ?_
    refine gC_2_0 hC q_1_145 dX3_follow_19 ?_
    refine gC_1_13 hC q_1_98 dX3_follow_22 ?_
    refine ga_iload_n hC dX3_follow_25 2 rfl rfl ?_
    refine ga_aload_n hC dX3_follow_26 1 rfl rfl ?_
    refine ga_iload_n hC dX3_follow_27 2 rfl rfl ?_
    obtain ⟨h4, h⟩ := h
    refine ga_iald hC (aC_p h_v1) (show _ < 88 by have := h_v1; omega) h4 dX3_follow_28 ?_
    refine ga_callS (As := [.int v2, .int (σ.1 v1 v2.toNatClampNeg)]) (st := [.ref (ad 25), .int v2, .ref (ad 26)]) (n := 2) hC h q_2_231 q_2_169 q_1_2 q_2_170 rfl rfl rfl (by decide +kernel) ⟨Nat.le_of_ble_eq_true rfl, Nat.le_of_ble_eq_true rfl⟩ ⟨Nat.le_of_ble_eq_true rfl, Nat.le_of_ble_eq_true rfl⟩ rfl rfl (Nat.le_of_ble_eq_true rfl) dX3_follow_29 (fun v τ hq => ?_)
    obtain ⟨r5, rfl, h⟩ := hq
    obtain ⟨s6, es6⟩ : ∃ z, z = τ := ⟨_, rfl⟩
    rw [← es6] at h ⊢
    clear es6
    obtain ⟨h8, h⟩ := h
    refine ga_iald hC aC_25 (by decide) h8 dX3_follow_32 ?_
    obtain ⟨h9, h⟩ := h
    refine ga_iast hC aC_26 (by decide) h9 dX3_follow_33 ?_
    refine ga_sig (σ := cg_i s6 26 v2.toNatClampNeg (s6.1 25 r5.toNatClampNeg)) (fun s10 es10 => ?_)
    have h := h s10 es10
    refine ga_iinc (v := v2 + 1) (lv' := [(2, .int (v2 + 1)), (0, .ref (ad 2)), (1, .ref (ad v1))]) hC dX3_follow_34 2 rfl rfl (by decide) rfl ?_
    refine ga_goto (tgt := 2) hC dX3_follow_37 (by decide) ?_
    refine ga_locals [1, 2, 0] rfl ?_
    exact h p l e s m args below meth c D cy ad hC
set_option maxRecDepth 100000 in
set_option maxHeartbeats 4000000 in
theorem v_X3_follow {v1 : Nat} {σ : cg_S} {Q : cg_S → Prop} (h_v1 : v1 = 19 ∨ v1 = 29 ∨ v1 = 30)
    (h : L_X3_follow_2 v1 0 σ Q) : M_X3_follow v1 σ Q := by
  refine cg_entry (lv := fun ad => [(0, .ref (ad 2)), (1, .ref (ad v1))]) (by decide +kernel) (fun _ => rfl) (fun _ => Nat.le_of_ble_eq_true rfl) ?_
  intro p l e s m args below meth c D cy ad hC
  refine ga_iconst (v := 0) hC dX3_follow_0 (by decide) ?_
  refine ga_istore_n (lv' := [(2, .int 0), (0, .ref (ad 2)), (1, .ref (ad v1))]) hC dX3_follow_1 rfl (by decide) rfl ?_
  refine ga_locals [1, 2, 0] rfl ?_
  exact h p l e s m args below meth c D cy ad hC
def M_X3_mutual (v1 : Int32) (σ : cg_S) (Q : Int32 → cg_S → Prop) : Prop := cg_M cg_WC yX3_mutual cX3_mutual 4 (some .int) (cg_R 1) (fun ad => [.ref (ad 2), .int v1]) σ (cg_qi Q)
theorem M_X3_mutual.mono {v1 : Int32} {σ : cg_S} {Q Q2 : Int32 → cg_S → Prop} (h : M_X3_mutual v1 σ Q) (hq : ∀ r τ, Q r τ → Q2 r τ) : M_X3_mutual v1 σ Q2 := cg_M.mono h (fun ad v τ ⟨r, e, q⟩ => ⟨r, e, hq r τ q⟩)
def L_X3_mutual_4 (v1 : Int32) (v2 : Int32) (v3 : Int32) (σ : cg_S) (Q : Int32 → cg_S → Prop) : Prop := cg_L cg_WC RX3 cX3_mutual 4 (some .int) (cg_R 1) 4 (fun ad => [(0, .ref (ad 2)), (1, .int v1), (2, .int v2), (3, .int v3)]) (fun ad => []) σ (cg_qi Q)
set_option maxRecDepth 100000 in
set_option maxHeartbeats 4000000 in
theorem v_X3_mutual_4 {v1 : Int32} {v2 : Int32} {v3 : Int32} {σ : cg_S} {Q : Int32 → cg_S → Prop}
    (h : ((σ.1 1 0) ≤ v3 → Q v2 σ) ∧ (¬ (σ.1 1 0) ≤ v3 → vp_in v1 7 ∧ M_X2_holds (σ.1 26 v1.toNatClampNeg) v3 σ (fun r2 s3 => (r2 = 0 → L_X3_mutual_4 v1 v2 (v3 + 1) s3 Q) ∧ (¬ r2 = 0 → vp_in v3 7 ∧ M_X2_holds (s3.1 26 v3.toNatClampNeg) v1 s3 (fun r6 s7 => (r6 = 0 → L_X3_mutual_4 v1 v2 (v3 + 1) s7 Q) ∧ (¬ r6 = 0 → ∀ x9 : Int32, x9 = v2 ||| (1 <<< (v3 &&& 31)) → L_X3_mutual_4 v1 x9 (v3 + 1) s7 Q)))))) : L_X3_mutual_4 v1 v2 v3 σ Q := by
  intro p l e s m args below meth c D cy ad hC
  refine ga_iload_n hC dX3_mutual_4 3 rfl rfl ?_
  refine ga_aload_n hC dX3_mutual_5 0 rfl rfl ?_
  refine gC_2_0 hC q_1_145 dX3_mutual_6 ?_
  refine gC_1_0 hC q_1_53 dX3_mutual_9 ?_
  refine ga_icmp_ge (tgt := 53) hC dX3_mutual_12 (by decide) (fun hc => ?_) (fun hc => ?_)
  · have h := h.1 hc
    refine ga_iload_n hC dX3_mutual_53 2 rfl rfl ?_
    exact ga_iret hC dX3_mutual_54 ⟨_, rfl, h⟩
  · have h := h.2 hc
    refine ga_aload_n hC dX3_mutual_15 0 rfl rfl ?_
    refine gC_2_1 hC q_1_146 dX3_mutual_16 ?_
    refine ga_iload_n hC dX3_mutual_19 1 rfl rfl ?_
    obtain ⟨h1, h⟩ := h
    refine ga_iald hC aC_26 (by decide) h1 dX3_mutual_20 ?_
    refine ga_iload_n hC dX3_mutual_21 3 rfl rfl ?_
    refine ga_callS (As := [.int (σ.1 26 v1.toNatClampNeg), .int v3]) (st := []) (n := 2) hC h q_3_0 q_2_188 q_1_2 q_2_189 rfl rfl rfl (by decide +kernel) ⟨Nat.le_of_ble_eq_true rfl, Nat.le_of_ble_eq_true rfl⟩ ⟨Nat.le_of_ble_eq_true rfl, Nat.le_of_ble_eq_true rfl⟩ rfl rfl (Nat.le_of_ble_eq_true rfl) dX3_mutual_22 (fun v τ hq => ?_)
    obtain ⟨r2, rfl, h⟩ := hq
    obtain ⟨s3, es3⟩ : ∃ z, z = τ := ⟨_, rfl⟩
    rw [← es3] at h ⊢
    clear es3
    refine ga_if_eq (tgt := 47) hC dX3_mutual_25 (by decide) (fun hc => ?_) (fun hc => ?_)
    · have h := h.1 hc
      refine ga_iinc (v := v3 + 1) (lv' := [(3, .int (v3 + 1)), (0, .ref (ad 2)), (1, .int v1), (2, .int v2)]) hC dX3_mutual_47 3 rfl rfl (by decide) rfl ?_
      refine ga_goto (tgt := 4) hC dX3_mutual_50 (by decide) ?_
      refine ga_locals [1, 2, 3, 0] rfl ?_
      exact h p l e s m args below meth c D cy ad hC
    · have h := h.2 hc
      refine ga_aload_n hC dX3_mutual_28 0 rfl rfl ?_
      refine gC_2_1 hC q_1_146 dX3_mutual_29 ?_
      refine ga_iload_n hC dX3_mutual_32 3 rfl rfl ?_
      obtain ⟨h5, h⟩ := h
      refine ga_iald hC aC_26 (by decide) h5 dX3_mutual_33 ?_
      refine ga_iload_n hC dX3_mutual_34 1 rfl rfl ?_
      refine ga_callS (As := [.int (s3.1 26 v3.toNatClampNeg), .int v1]) (st := []) (n := 2) hC h q_3_0 q_2_188 q_1_2 q_2_189 rfl rfl rfl (by decide +kernel) ⟨Nat.le_of_ble_eq_true rfl, Nat.le_of_ble_eq_true rfl⟩ ⟨Nat.le_of_ble_eq_true rfl, Nat.le_of_ble_eq_true rfl⟩ rfl rfl (Nat.le_of_ble_eq_true rfl) dX3_mutual_35 (fun v τ hq => ?_)
      obtain ⟨r6, rfl, h⟩ := hq
      obtain ⟨s7, es7⟩ : ∃ z, z = τ := ⟨_, rfl⟩
      rw [← es7] at h ⊢
      clear es7
      refine ga_if_eq (tgt := 47) hC dX3_mutual_38 (by decide) (fun hc => ?_) (fun hc => ?_)
      · have h := h.1 hc
        refine ga_iinc (v := v3 + 1) (lv' := [(3, .int (v3 + 1)), (0, .ref (ad 2)), (1, .int v1), (2, .int v2)]) hC dX3_mutual_47 3 rfl rfl (by decide) rfl ?_
        refine ga_goto (tgt := 4) hC dX3_mutual_50 (by decide) ?_
        refine ga_locals [1, 2, 3, 0] rfl ?_
        exact h p l e s m args below meth c D cy ad hC
      · have h := h.2 hc
        refine ga_iload_n hC dX3_mutual_41 2 rfl rfl ?_
        refine ga_iconst (v := 1) hC dX3_mutual_42 (by decide) ?_
        refine ga_iload_n hC dX3_mutual_43 3 rfl rfl ?_
        refine ga_ishl hC dX3_mutual_44 ?_
        refine ga_ior hC dX3_mutual_45 ?_
        refine ga_topi (fun x9 ex9 => ?_)
        have h := h x9 ex9
        refine ga_istore_n (lv' := [(2, .int x9), (0, .ref (ad 2)), (1, .int v1), (3, .int v3)]) hC dX3_mutual_46 rfl (by decide) rfl ?_
        refine ga_iinc (v := v3 + 1) (lv' := [(3, .int (v3 + 1)), (2, .int x9), (0, .ref (ad 2)), (1, .int v1)]) hC dX3_mutual_47 3 rfl rfl (by decide) rfl ?_
        refine ga_goto (tgt := 4) hC dX3_mutual_50 (by decide) ?_
        refine ga_locals [2, 3, 1, 0] rfl ?_
        exact h p l e s m args below meth c D cy ad hC
set_option maxRecDepth 100000 in
set_option maxHeartbeats 4000000 in
theorem v_X3_mutual {v1 : Int32} {σ : cg_S} {Q : Int32 → cg_S → Prop}
    (h : L_X3_mutual_4 v1 0 0 σ Q) : M_X3_mutual v1 σ Q := by
  refine cg_entry (lv := fun ad => [(0, .ref (ad 2)), (1, .int v1)]) (by decide +kernel) (fun _ => rfl) (fun _ => Nat.le_of_ble_eq_true rfl) ?_
  intro p l e s m args below meth c D cy ad hC
  refine ga_iconst (v := 0) hC dX3_mutual_0 (by decide) ?_
  refine ga_istore_n (lv' := [(2, .int 0), (0, .ref (ad 2)), (1, .int v1)]) hC dX3_mutual_1 rfl (by decide) rfl ?_
  refine ga_iconst (v := 0) hC dX3_mutual_2 (by decide) ?_
  refine ga_istore_n (lv' := [(3, .int 0), (2, .int 0), (0, .ref (ad 2)), (1, .int v1)]) hC dX3_mutual_3 rfl (by decide) rfl ?_
  refine ga_locals [2, 3, 1, 0] rfl ?_
  exact h p l e s m args below meth c D cy ad hC
def M_X3_closedSet (v1 : Int32) (σ : cg_S) (Q : Int32 → cg_S → Prop) : Prop := cg_M cg_WC yX3_closedSet cX3_closedSet 3 (some .int) (cg_R 2) (fun ad => [.ref (ad 2), .int v1]) σ (cg_qi Q)
theorem M_X3_closedSet.mono {v1 : Int32} {σ : cg_S} {Q Q2 : Int32 → cg_S → Prop} (h : M_X3_closedSet v1 σ Q) (hq : ∀ r τ, Q r τ → Q2 r τ) : M_X3_closedSet v1 σ Q2 := cg_M.mono h (fun ad v τ ⟨r, e, q⟩ => ⟨r, e, hq r τ q⟩)
set_option maxRecDepth 100000 in
set_option maxHeartbeats 4000000 in
theorem v_X3_closedSet {v1 : Int32} {σ : cg_S} {Q : Int32 → cg_S → Prop}
    (h : M_X3_mutual v1 σ (fun r1 s2 => vp_in v1 7 ∧ (¬ r1 = (s2.1 26 v1.toNatClampNeg) → Q 0 s2) ∧ (r1 = (s2.1 26 v1.toNatClampNeg) → Q r1 s2))) : M_X3_closedSet v1 σ Q := by
  refine cg_entry (lv := fun ad => [(0, .ref (ad 2)), (1, .int v1)]) (by decide +kernel) (fun _ => rfl) (fun _ => Nat.le_of_ble_eq_true rfl) ?_
  intro p l e s m args below meth c D cy ad hC
  refine ga_aload_n hC dX3_closedSet_0 0 rfl rfl ?_
  refine ga_iload_n hC dX3_closedSet_1 1 rfl rfl ?_
  refine ga_callV (As := [.int v1]) (st := []) (k := 2) (n := 1) hC h q_4_237 q_4_238 q_4_239 q_1_3 q_5_0 rfl rfl rfl (by decide +kernel) ⟨Nat.le_of_ble_eq_true rfl, Nat.le_of_ble_eq_true rfl⟩ ⟨Nat.le_of_ble_eq_true rfl, Nat.le_of_ble_eq_true rfl⟩ rfl rfl rfl (by decide) rfl (Nat.le_of_ble_eq_true rfl) dX3_closedSet_2 (fun v τ hq => ?_)
  obtain ⟨r1, rfl, h⟩ := hq
  obtain ⟨s2, es2⟩ : ∃ z, z = τ := ⟨_, rfl⟩
  rw [← es2] at h ⊢
  clear es2
  refine ga_istore_n (lv' := [(2, .int r1), (0, .ref (ad 2)), (1, .int v1)]) hC dX3_closedSet_5 rfl (by decide) rfl ?_
  refine ga_iload_n hC dX3_closedSet_6 0 rfl rfl ?_
  refine ga_aload_n hC dX3_closedSet_7 1 rfl rfl ?_
  refine gC_2_1 hC q_1_146 dX3_closedSet_8 ?_
  refine ga_iload_n hC dX3_closedSet_11 2 rfl rfl ?_
  obtain ⟨h4, h⟩ := h
  refine ga_iald hC aC_26 (by decide) h4 dX3_closedSet_12 ?_
  refine ga_icmp_ne (tgt := 20) hC dX3_closedSet_13 (by decide) (fun hc => ?_) (fun hc => ?_)
  · have h := h.1 hc
    refine ga_iconst (v := 0) hC dX3_closedSet_20 (by decide) ?_
    exact ga_iret hC dX3_closedSet_21 ⟨_, rfl, h⟩
  · have h := h.2 hc
    refine ga_iload_n hC dX3_closedSet_16 0 rfl rfl ?_
    refine ga_goto (tgt := 21) hC dX3_closedSet_17 (by decide) ?_
    exact ga_iret hC dX3_closedSet_21 ⟨_, rfl, h⟩
def M_X3_leadsWithin (v1 : Int32) (v2 : Int32) (σ : cg_S) (Q : Int32 → cg_S → Prop) : Prop := cg_M cg_WC yX3_leadsWithin cX3_leadsWithin 6 (some .int) (cg_R 1) (fun ad => [.ref (ad 2), .int v1, .int v2]) σ (cg_qi Q)
theorem M_X3_leadsWithin.mono {v1 : Int32} {v2 : Int32} {σ : cg_S} {Q Q2 : Int32 → cg_S → Prop} (h : M_X3_leadsWithin v1 v2 σ Q) (hq : ∀ r τ, Q r τ → Q2 r τ) : M_X3_leadsWithin v1 v2 σ Q2 := cg_M.mono h (fun ad v τ ⟨r, e, q⟩ => ⟨r, e, hq r τ q⟩)
def L_X3_leadsWithin_5 (v1 : Int32) (v2 : Int32) (v3 : Int32) (v4 : Int32) (σ : cg_S) (Q : Int32 → cg_S → Prop) : Prop := cg_L cg_WC RX3 cX3_leadsWithin 6 (some .int) (cg_R 1) 5 (fun ad => [(0, .ref (ad 2)), (1, .int v1), (2, .int v2), (3, .int v3), (4, .int v4)]) (fun ad => []) σ (cg_qi Q)
set_option maxRecDepth 100000 in
set_option maxHeartbeats 4000000 in
theorem v_X3_leadsWithin_5 {v1 : Int32} {v2 : Int32} {v3 : Int32} {v4 : Int32} {σ : cg_S} {Q : Int32 → cg_S → Prop}
    (h : vp_in v1 7 ∧ ((σ.1 21 v1.toNatClampNeg) ≤ v4 → Q v3 σ) ∧ (¬ (σ.1 21 v1.toNatClampNeg) ≤ v4 → M_X2_moveOf v1 v4 σ (fun r2 s3 => vp_in r2 21 ∧ ∀ x6 : Int32, x6 = s3.1 25 r2.toNatClampNeg → (¬ (x6 &&& (v2 ^^^ (-1))) = 0 → L_X3_leadsWithin_5 v1 v2 v3 (v4 + 1) s3 Q) ∧ ((x6 &&& (v2 ^^^ (-1))) = 0 → ∀ x7 : Int32, x7 = v3 ||| x6 → L_X3_leadsWithin_5 v1 v2 x7 (v4 + 1) s3 Q)))) : L_X3_leadsWithin_5 v1 v2 v3 v4 σ Q := by
  intro p l e s m args below meth c D cy ad hC
  refine ga_iload hC dX3_leadsWithin_5 4 rfl ?_
  refine ga_aload_n hC dX3_leadsWithin_7 0 rfl rfl ?_
  refine gC_2_0 hC q_1_145 dX3_leadsWithin_8 ?_
  refine gC_1_9 hC q_1_81 dX3_leadsWithin_11 ?_
  refine ga_iload_n hC dX3_leadsWithin_14 1 rfl rfl ?_
  obtain ⟨h1, h⟩ := h
  refine ga_iald hC aC_21 (by decide) h1 dX3_leadsWithin_15 ?_
  refine ga_icmp_ge (tgt := 55) hC dX3_leadsWithin_16 (by decide) (fun hc => ?_) (fun hc => ?_)
  · have h := h.1 hc
    refine ga_iload_n hC dX3_leadsWithin_55 3 rfl rfl ?_
    exact ga_iret hC dX3_leadsWithin_56 ⟨_, rfl, h⟩
  · have h := h.2 hc
    refine ga_aload_n hC dX3_leadsWithin_19 0 rfl rfl ?_
    refine gC_2_0 hC q_1_145 dX3_leadsWithin_20 ?_
    refine gC_1_13 hC q_1_98 dX3_leadsWithin_23 ?_
    refine ga_iload_n hC dX3_leadsWithin_26 1 rfl rfl ?_
    refine ga_iload hC dX3_leadsWithin_27 4 rfl ?_
    refine ga_callS (As := [.int v1, .int v4]) (st := [.ref (ad 25)]) (n := 2) hC h q_2_231 q_2_169 q_1_2 q_2_170 rfl rfl rfl (by decide +kernel) ⟨Nat.le_of_ble_eq_true rfl, Nat.le_of_ble_eq_true rfl⟩ ⟨Nat.le_of_ble_eq_true rfl, Nat.le_of_ble_eq_true rfl⟩ rfl rfl (Nat.le_of_ble_eq_true rfl) dX3_leadsWithin_29 (fun v τ hq => ?_)
    obtain ⟨r2, rfl, h⟩ := hq
    obtain ⟨s3, es3⟩ : ∃ z, z = τ := ⟨_, rfl⟩
    rw [← es3] at h ⊢
    clear es3
    obtain ⟨h5, h⟩ := h
    refine ga_iald hC aC_25 (by decide) h5 dX3_leadsWithin_32 ?_
    refine ga_topi (fun x6 ex6 => ?_)
    have h := h x6 ex6
    refine ga_istore (lv' := [(5, .int x6), (0, .ref (ad 2)), (1, .int v1), (2, .int v2), (3, .int v3), (4, .int v4)]) hC dX3_leadsWithin_33 (by decide) rfl ?_
    refine ga_iload hC dX3_leadsWithin_35 0 rfl ?_
    refine ga_iload_n hC dX3_leadsWithin_37 3 rfl rfl ?_
    refine ga_iconst (v := (-1)) hC dX3_leadsWithin_38 (by decide) ?_
    refine ga_ixor hC dX3_leadsWithin_39 ?_
    refine ga_iand hC dX3_leadsWithin_40 ?_
    refine ga_if_ne (tgt := 49) hC dX3_leadsWithin_41 (by decide) (fun hc => ?_) (fun hc => ?_)
    · have h := h.1 hc
      refine ga_iinc (v := v4 + 1) (lv' := [(4, .int (v4 + 1)), (5, .int x6), (0, .ref (ad 2)), (1, .int v1), (2, .int v2), (3, .int v3)]) hC dX3_leadsWithin_49 5 rfl rfl (by decide) rfl ?_
      refine ga_goto (tgt := 5) hC dX3_leadsWithin_52 (by decide) ?_
      refine ga_locals [2, 3, 4, 5, 0] rfl ?_
      exact h p l e s m args below meth c D cy ad hC
    · have h := h.2 hc
      refine ga_iload_n hC dX3_leadsWithin_44 4 rfl rfl ?_
      refine ga_iload hC dX3_leadsWithin_45 0 rfl ?_
      refine ga_ior hC dX3_leadsWithin_47 ?_
      refine ga_topi (fun x7 ex7 => ?_)
      have h := h x7 ex7
      refine ga_istore_n (lv' := [(3, .int x7), (5, .int x6), (0, .ref (ad 2)), (1, .int v1), (2, .int v2), (4, .int v4)]) hC dX3_leadsWithin_48 rfl (by decide) rfl ?_
      refine ga_iinc (v := v4 + 1) (lv' := [(4, .int (v4 + 1)), (3, .int x7), (5, .int x6), (0, .ref (ad 2)), (1, .int v1), (2, .int v2)]) hC dX3_leadsWithin_49 5 rfl rfl (by decide) rfl ?_
      refine ga_goto (tgt := 5) hC dX3_leadsWithin_52 (by decide) ?_
      refine ga_locals [3, 4, 5, 1, 0] rfl ?_
      exact h p l e s m args below meth c D cy ad hC
set_option maxRecDepth 100000 in
set_option maxHeartbeats 4000000 in
theorem v_X3_leadsWithin {v1 : Int32} {v2 : Int32} {σ : cg_S} {Q : Int32 → cg_S → Prop}
    (h : L_X3_leadsWithin_5 v1 v2 0 0 σ Q) : M_X3_leadsWithin v1 v2 σ Q := by
  refine cg_entry (lv := fun ad => [(0, .ref (ad 2)), (1, .int v1), (2, .int v2)]) (by decide +kernel) (fun _ => rfl) (fun _ => Nat.le_of_ble_eq_true rfl) ?_
  intro p l e s m args below meth c D cy ad hC
  refine ga_iconst (v := 0) hC dX3_leadsWithin_0 (by decide) ?_
  refine ga_istore_n (lv' := [(3, .int 0), (0, .ref (ad 2)), (1, .int v1), (2, .int v2)]) hC dX3_leadsWithin_1 rfl (by decide) rfl ?_
  refine ga_iconst (v := 0) hC dX3_leadsWithin_2 (by decide) ?_
  refine ga_istore (lv' := [(4, .int 0), (3, .int 0), (0, .ref (ad 2)), (1, .int v1), (2, .int v2)]) hC dX3_leadsWithin_3 (by decide) rfl ?_
  refine ga_locals [2, 3, 4, 1, 0] rfl ?_
  exact h p l e s m args below meth c D cy ad hC
def M_X3_endSet (v1 : Int32) (σ : cg_S) (Q : Int32 → cg_S → Prop) : Prop := cg_M cg_WC yX3_endSet cX3_endSet 5 (some .int) (cg_R 2) (fun ad => [.ref (ad 2), .int v1]) σ (cg_qi Q)
theorem M_X3_endSet.mono {v1 : Int32} {σ : cg_S} {Q Q2 : Int32 → cg_S → Prop} (h : M_X3_endSet v1 σ Q) (hq : ∀ r τ, Q r τ → Q2 r τ) : M_X3_endSet v1 σ Q2 := cg_M.mono h (fun ad v τ ⟨r, e, q⟩ => ⟨r, e, hq r τ q⟩)
def L_X3_endSet_10 (v1 : Int32) (v2 : Int32) (v3 : Int32) (σ : cg_S) (Q : Int32 → cg_S → Prop) : Prop := cg_L cg_WC RX3 cX3_endSet 5 (some .int) (cg_R 2) 10 (fun ad => [(0, .ref (ad 2)), (1, .int v1), (2, .int v2), (3, .int v3)]) (fun ad => []) σ (cg_qi Q)
def L_X3_endSet_24 (v1 : Int32) (v2 : Int32) (v3 : Int32) (v4 : Int32) (σ : cg_S) (Q : Int32 → cg_S → Prop) : Prop := cg_L cg_WC RX3 cX3_endSet 5 (some .int) (cg_R 2) 24 (fun ad => [(0, .ref (ad 2)), (1, .int v1), (2, .int v2), (3, .int v3), (4, .int v4)]) (fun ad => []) σ (cg_qi Q)
set_option maxRecDepth 100000 in
set_option maxHeartbeats 4000000 in
theorem v_X3_endSet_24 {v1 : Int32} {v2 : Int32} {v3 : Int32} {v4 : Int32} {σ : cg_S} {Q : Int32 → cg_S → Prop}
    (h : ((σ.1 1 0) ≤ v4 → M_X3_join σ (fun s2 => M_X3_mutual v1 s2 (fun r4 s5 => L_X3_endSet_10 v1 r4 (v3 + 1) s5 Q))) ∧ (¬ (σ.1 1 0) ≤ v4 → M_X2_holds v2 v4 σ (fun r7 s8 => (r7 = 0 → vp_in v4 7 ∧ ∀ s11 : cg_S, s11 = cg_i s8 26 v4.toNatClampNeg 0 → L_X3_endSet_24 v1 v2 v3 (v4 + 1) s11 Q) ∧ (¬ r7 = 0 → M_X3_leadsWithin v4 v2 s8 (fun r12 s13 => vp_in v4 7 ∧ ∀ s16 : cg_S, s16 = cg_i s13 26 v4.toNatClampNeg r12 → L_X3_endSet_24 v1 v2 v3 (v4 + 1) s16 Q))))) : L_X3_endSet_24 v1 v2 v3 v4 σ Q := by
  intro p l e s m args below meth c D cy ad hC
  refine ga_iload hC dX3_endSet_24 4 rfl ?_
  refine ga_aload_n hC dX3_endSet_26 0 rfl rfl ?_
  refine gC_2_0 hC q_1_145 dX3_endSet_27 ?_
  refine gC_1_0 hC q_1_53 dX3_endSet_30 ?_
  refine ga_icmp_ge (tgt := 69) hC dX3_endSet_33 (by decide) (fun hc => ?_) (fun hc => ?_)
  · have h := h.1 hc
    refine ga_aload_n hC dX3_endSet_69 0 rfl rfl ?_
    refine ga_callV (As := []) (st := []) (k := 2) (n := 0) hC h q_4_229 q_4_230 q_4_231 q_1_3 q_4_232 rfl rfl rfl (by decide +kernel) ⟨Nat.le_of_ble_eq_true rfl, Nat.le_of_ble_eq_true rfl⟩ ⟨Nat.le_of_ble_eq_true rfl, Nat.le_of_ble_eq_true rfl⟩ rfl rfl rfl (by decide) rfl (Nat.le_of_ble_eq_true rfl) dX3_endSet_70 (fun v τ hq => ?_)
    obtain ⟨rfl, h⟩ := hq
    obtain ⟨s2, es2⟩ : ∃ z, z = τ := ⟨_, rfl⟩
    rw [← es2] at h ⊢
    clear es2
    refine ga_aload_n hC dX3_endSet_73 0 rfl rfl ?_
    refine ga_iload_n hC dX3_endSet_74 1 rfl rfl ?_
    refine ga_callV (As := [.int v1]) (st := []) (k := 2) (n := 1) hC h q_4_237 q_4_238 q_4_239 q_1_3 q_5_0 rfl rfl rfl (by decide +kernel) ⟨Nat.le_of_ble_eq_true rfl, Nat.le_of_ble_eq_true rfl⟩ ⟨Nat.le_of_ble_eq_true rfl, Nat.le_of_ble_eq_true rfl⟩ rfl rfl rfl (by decide) rfl (Nat.le_of_ble_eq_true rfl) dX3_endSet_75 (fun v τ hq => ?_)
    obtain ⟨r4, rfl, h⟩ := hq
    obtain ⟨s5, es5⟩ : ∃ z, z = τ := ⟨_, rfl⟩
    rw [← es5] at h ⊢
    clear es5
    refine ga_istore_n (lv' := [(2, .int r4), (0, .ref (ad 2)), (1, .int v1), (3, .int v3), (4, .int v4)]) hC dX3_endSet_78 rfl (by decide) rfl ?_
    refine ga_iinc (v := v3 + 1) (lv' := [(3, .int (v3 + 1)), (2, .int r4), (0, .ref (ad 2)), (1, .int v1), (4, .int v4)]) hC dX3_endSet_79 3 rfl rfl (by decide) rfl ?_
    refine ga_goto (tgt := 10) hC dX3_endSet_82 (by decide) ?_
    refine ga_locals [2, 3, 1, 0] rfl ?_
    exact h p l e s m args below meth c D cy ad hC
  · have h := h.2 hc
    refine ga_aload_n hC dX3_endSet_36 0 rfl rfl ?_
    refine gC_2_1 hC q_1_146 dX3_endSet_37 ?_
    refine ga_iload hC dX3_endSet_40 4 rfl ?_
    refine ga_iload_n hC dX3_endSet_42 2 rfl rfl ?_
    refine ga_iload hC dX3_endSet_43 4 rfl ?_
    refine ga_callS (As := [.int v2, .int v4]) (st := [.int v4, .ref (ad 26)]) (n := 2) hC h q_3_0 q_2_188 q_1_2 q_2_189 rfl rfl rfl (by decide +kernel) ⟨Nat.le_of_ble_eq_true rfl, Nat.le_of_ble_eq_true rfl⟩ ⟨Nat.le_of_ble_eq_true rfl, Nat.le_of_ble_eq_true rfl⟩ rfl rfl (Nat.le_of_ble_eq_true rfl) dX3_endSet_45 (fun v τ hq => ?_)
    obtain ⟨r7, rfl, h⟩ := hq
    obtain ⟨s8, es8⟩ : ∃ z, z = τ := ⟨_, rfl⟩
    rw [← es8] at h ⊢
    clear es8
    refine ga_if_eq (tgt := 61) hC dX3_endSet_48 (by decide) (fun hc => ?_) (fun hc => ?_)
    · have h := h.1 hc
      refine ga_iconst (v := 0) hC dX3_endSet_61 (by decide) ?_
      obtain ⟨h10, h⟩ := h
      refine ga_iast hC aC_26 (by decide) h10 dX3_endSet_62 ?_
      refine ga_sig (σ := cg_i s8 26 v4.toNatClampNeg 0) (fun s11 es11 => ?_)
      have h := h s11 es11
      refine ga_iinc (v := v4 + 1) (lv' := [(4, .int (v4 + 1)), (0, .ref (ad 2)), (1, .int v1), (2, .int v2), (3, .int v3)]) hC dX3_endSet_63 4 rfl rfl (by decide) rfl ?_
      refine ga_goto (tgt := 24) hC dX3_endSet_66 (by decide) ?_
      refine ga_locals [1, 2, 3, 4, 0] rfl ?_
      exact h p l e s m args below meth c D cy ad hC
    · have h := h.2 hc
      refine ga_aload_n hC dX3_endSet_51 0 rfl rfl ?_
      refine ga_iload hC dX3_endSet_52 4 rfl ?_
      refine ga_iload_n hC dX3_endSet_54 2 rfl rfl ?_
      refine ga_callV (As := [.int v4, .int v2]) (st := [.int v4, .ref (ad 26)]) (k := 2) (n := 2) hC h q_6_3 q_6_4 q_6_5 q_1_3 q_6_6 rfl rfl rfl (by decide +kernel) ⟨Nat.le_of_ble_eq_true rfl, Nat.le_of_ble_eq_true rfl⟩ ⟨Nat.le_of_ble_eq_true rfl, Nat.le_of_ble_eq_true rfl⟩ rfl rfl rfl (by decide) rfl (Nat.le_of_ble_eq_true rfl) dX3_endSet_55 (fun v τ hq => ?_)
      obtain ⟨r12, rfl, h⟩ := hq
      obtain ⟨s13, es13⟩ : ∃ z, z = τ := ⟨_, rfl⟩
      rw [← es13] at h ⊢
      clear es13
      refine ga_goto (tgt := 62) hC dX3_endSet_58 (by decide) ?_
      obtain ⟨h15, h⟩ := h
      refine ga_iast hC aC_26 (by decide) h15 dX3_endSet_62 ?_
      refine ga_sig (σ := cg_i s13 26 v4.toNatClampNeg r12) (fun s16 es16 => ?_)
      have h := h s16 es16
      refine ga_iinc (v := v4 + 1) (lv' := [(4, .int (v4 + 1)), (0, .ref (ad 2)), (1, .int v1), (2, .int v2), (3, .int v3)]) hC dX3_endSet_63 4 rfl rfl (by decide) rfl ?_
      refine ga_goto (tgt := 24) hC dX3_endSet_66 (by decide) ?_
      refine ga_locals [1, 2, 3, 4, 0] rfl ?_
      exact h p l e s m args below meth c D cy ad hC
set_option maxRecDepth 100000 in
set_option maxHeartbeats 4000000 in
theorem v_X3_endSet_10 {v1 : Int32} {v2 : Int32} {v3 : Int32} {σ : cg_S} {Q : Int32 → cg_S → Prop}
    (h : ((σ.1 1 0) < v3 → Q v2 σ) ∧ (¬ (σ.1 1 0) < v3 → L_X3_endSet_24 v1 v2 v3 0 σ Q)) : L_X3_endSet_10 v1 v2 v3 σ Q := by
  intro p l e s m args below meth c D cy ad hC
  refine ga_iload_n hC dX3_endSet_10 3 rfl rfl ?_
  refine ga_aload_n hC dX3_endSet_11 0 rfl rfl ?_
  refine gC_2_0 hC q_1_145 dX3_endSet_12 ?_
  refine gC_1_0 hC q_1_53 dX3_endSet_15 ?_
  refine ga_icmp_gt (tgt := 85) hC dX3_endSet_18 (by decide) (fun hc => ?_) (fun hc => ?_)
  · have h := h.1 hc
    refine ga_iload_n hC dX3_endSet_85 2 rfl rfl ?_
    exact ga_iret hC dX3_endSet_86 ⟨_, rfl, h⟩
  · have h := h.2 hc
    refine ga_iconst (v := 0) hC dX3_endSet_21 (by decide) ?_
    refine ga_istore (lv' := [(4, .int 0), (0, .ref (ad 2)), (1, .int v1), (2, .int v2), (3, .int v3)]) hC dX3_endSet_22 (by decide) rfl ?_
    refine ga_locals [1, 2, 3, 4, 0] rfl ?_
    exact h p l e s m args below meth c D cy ad hC
set_option maxRecDepth 100000 in
set_option maxHeartbeats 4000000 in
theorem v_X3_endSet {v1 : Int32} {σ : cg_S} {Q : Int32 → cg_S → Prop}
    (h : M_X2_everyState σ (fun r1 s2 => L_X3_endSet_10 v1 r1 0 s2 Q)) : M_X3_endSet v1 σ Q := by
  refine cg_entry (lv := fun ad => [(0, .ref (ad 2)), (1, .int v1)]) (by decide +kernel) (fun _ => rfl) (fun _ => Nat.le_of_ble_eq_true rfl) ?_
  intro p l e s m args below meth c D cy ad hC
  refine ga_aload_n hC dX3_endSet_0 0 rfl rfl ?_
  refine gC_2_0 hC q_1_145 dX3_endSet_1 ?_
  refine ga_callV (As := []) (st := []) (k := 1) (n := 0) hC h q_2_232 q_2_233 q_2_234 q_1_2 q_2_235 rfl rfl rfl (by decide +kernel) ⟨Nat.le_of_ble_eq_true rfl, Nat.le_of_ble_eq_true rfl⟩ ⟨Nat.le_of_ble_eq_true rfl, Nat.le_of_ble_eq_true rfl⟩ rfl rfl rfl (by decide) rfl (Nat.le_of_ble_eq_true rfl) dX3_endSet_4 (fun v τ hq => ?_)
  obtain ⟨r1, rfl, h⟩ := hq
  obtain ⟨s2, es2⟩ : ∃ z, z = τ := ⟨_, rfl⟩
  rw [← es2] at h ⊢
  clear es2
  refine ga_istore_n (lv' := [(2, .int r1), (0, .ref (ad 2)), (1, .int v1)]) hC dX3_endSet_7 rfl (by decide) rfl ?_
  refine ga_iconst (v := 0) hC dX3_endSet_8 (by decide) ?_
  refine ga_istore_n (lv' := [(3, .int 0), (2, .int r1), (0, .ref (ad 2)), (1, .int v1)]) hC dX3_endSet_9 rfl (by decide) rfl ?_
  refine ga_locals [2, 3, 1, 0] rfl ?_
  exact h p l e s m args below meth c D cy ad hC
def M_X3_boundOfMove (v1 : Int32) (σ : cg_S) (Q : UInt64 → cg_S → Prop) : Prop := cg_M cg_WC yX3_boundOfMove cX3_boundOfMove 5 (some .double) (cg_R 0) (fun ad => [.ref (ad 2), .int v1]) σ (cg_qd Q)
theorem M_X3_boundOfMove.mono {v1 : Int32} {σ : cg_S} {Q Q2 : UInt64 → cg_S → Prop} (h : M_X3_boundOfMove v1 σ Q) (hq : ∀ r τ, Q r τ → Q2 r τ) : M_X3_boundOfMove v1 σ Q2 := cg_M.mono h (fun ad v τ ⟨r, e, q⟩ => ⟨r, e, hq r τ q⟩)
def L_X3_boundOfMove_19 (v1 : Int32) (v2 : UInt64) (v4 : Int32) (σ : cg_S) (Q : UInt64 → cg_S → Prop) : Prop := cg_L cg_WC RX3 cX3_boundOfMove 5 (some .double) (cg_R 0) 19 (fun ad => [(0, .ref (ad 2)), (1, .int v1), (2, .double v2), (4, .int v4)]) (fun ad => []) σ (cg_qd Q)
set_option maxRecDepth 100000 in
set_option maxHeartbeats 4000000 in
theorem v_X3_boundOfMove_19 {v1 : Int32} {v2 : UInt64} {v4 : Int32} {σ : cg_S} {Q : UInt64 → cg_S → Prop}
    (h : ((σ.1 1 0) ≤ v4 → vp_in v1 21 ∧ vf_n64 (FP.ddiv v2 (FP.i2d (σ.1 24 v1.toNatClampNeg))) ∧ Q (FP.ddiv v2 (FP.i2d (σ.1 24 v1.toNatClampNeg))) σ) ∧ (¬ (σ.1 1 0) ≤ v4 → vp_in v1 21 ∧ vp_in v4 7 ∧ vp_in v4 7 ∧ vf_n64 (FP.dmul (FP.i2d (σ.1 (36 + v1.toNatClampNeg) v4.toNatClampNeg)) (σ.2.2 83 v4.toNatClampNeg)) ∧ vf_n64 (FP.dadd v2 (FP.dmul (FP.i2d (σ.1 (36 + v1.toNatClampNeg) v4.toNatClampNeg)) (σ.2.2 83 v4.toNatClampNeg))) ∧ ∀ x8 : UInt64, x8 = FP.dadd v2 (FP.dmul (FP.i2d (σ.1 (36 + v1.toNatClampNeg) v4.toNatClampNeg)) (σ.2.2 83 v4.toNatClampNeg)) → L_X3_boundOfMove_19 v1 x8 (v4 + 1) σ Q)) : L_X3_boundOfMove_19 v1 v2 v4 σ Q := by
  intro p l e s m args below meth c D cy ad hC
  refine ga_iload hC dX3_boundOfMove_19 3 rfl ?_
  refine ga_aload_n hC dX3_boundOfMove_21 0 rfl rfl ?_
  refine gC_2_0 hC q_1_145 dX3_boundOfMove_22 ?_
  refine gC_1_0 hC q_1_53 dX3_boundOfMove_25 ?_
  refine ga_icmp_ge (tgt := 61) hC dX3_boundOfMove_28 (by decide) (fun hc => ?_) (fun hc => ?_)
  · have h := h.1 hc
    refine ga_dload_n hC dX3_boundOfMove_61 2 rfl rfl ?_
    refine ga_aload_n hC dX3_boundOfMove_62 0 rfl rfl ?_
    refine gC_2_0 hC q_1_145 dX3_boundOfMove_63 ?_
    refine gC_1_12 hC q_1_95 dX3_boundOfMove_66 ?_
    refine ga_iload_n hC dX3_boundOfMove_69 1 rfl rfl ?_
    obtain ⟨h1, h⟩ := h
    refine ga_iald hC aC_24 (by decide) h1 dX3_boundOfMove_70 ?_
    refine ga_i2d hC dX3_boundOfMove_71 ?_
    obtain ⟨h2, h⟩ := h
    refine ga_ddiv hC dX3_boundOfMove_72 h2 ?_
    exact ga_dret hC dX3_boundOfMove_73 ⟨_, rfl, h⟩
  · have h := h.2 hc
    refine ga_dload_n hC dX3_boundOfMove_31 2 rfl rfl ?_
    refine ga_aload_n hC dX3_boundOfMove_32 0 rfl rfl ?_
    refine gC_2_0 hC q_1_145 dX3_boundOfMove_33 ?_
    refine gC_1_14 hC q_1_105 dX3_boundOfMove_36 ?_
    refine ga_iload_n hC dX3_boundOfMove_39 1 rfl rfl ?_
    obtain ⟨h3, h⟩ := h
    refine ga_aald4 (b := 36) hC rfl (fun j hj => if_pos hj) (by decide) h3 dX3_boundOfMove_40 ?_
    refine ga_iload hC dX3_boundOfMove_41 3 rfl ?_
    obtain ⟨h4, h⟩ := h
    refine ga_iald hC (aC_w (cg_lt h3)) (show 36 + _ < 88 by have := (cg_lt h3); omega) h4 dX3_boundOfMove_43 ?_
    refine ga_i2d hC dX3_boundOfMove_44 ?_
    refine ga_aload_n hC dX3_boundOfMove_45 0 rfl rfl ?_
    refine gC_2_2 hC q_1_147 dX3_boundOfMove_46 ?_
    refine ga_iload hC dX3_boundOfMove_49 3 rfl ?_
    obtain ⟨h5, h⟩ := h
    refine ga_dald hC aC_83 (by decide) h5 dX3_boundOfMove_51 ?_
    obtain ⟨h6, h⟩ := h
    refine ga_dmul hC dX3_boundOfMove_52 h6 ?_
    obtain ⟨h7, h⟩ := h
    refine ga_dadd hC dX3_boundOfMove_53 h7 ?_
    refine ga_topd (fun x8 ex8 => ?_)
    have h := h x8 ex8
    refine ga_dstore_n (lv' := [(2, .double x8), (0, .ref (ad 2)), (1, .int v1), (4, .int v4)]) hC dX3_boundOfMove_54 rfl (by decide) rfl ?_
    refine ga_iinc (v := v4 + 1) (lv' := [(4, .int (v4 + 1)), (2, .double x8), (0, .ref (ad 2)), (1, .int v1)]) hC dX3_boundOfMove_55 3 rfl rfl (by decide) rfl ?_
    refine ga_goto (tgt := 19) hC dX3_boundOfMove_58 (by decide) ?_
    refine ga_locals [2, 3, 1, 0] rfl ?_
    exact h p l e s m args below meth c D cy ad hC
set_option maxRecDepth 100000 in
set_option maxHeartbeats 4000000 in
theorem v_X3_boundOfMove {v1 : Int32} {σ : cg_S} {Q : UInt64 → cg_S → Prop}
    (h : vp_in v1 21 ∧ (¬ (σ.1 24 v1.toNatClampNeg) = 0 → L_X3_boundOfMove_19 v1 FP.dconst0 0 σ Q) ∧ ((σ.1 24 v1.toNatClampNeg) = 0 → Q FP.dconst0 σ)) : M_X3_boundOfMove v1 σ Q := by
  refine cg_entry (lv := fun ad => [(0, .ref (ad 2)), (1, .int v1)]) (by decide +kernel) (fun _ => rfl) (fun _ => Nat.le_of_ble_eq_true rfl) ?_
  intro p l e s m args below meth c D cy ad hC
  refine ga_aload_n hC dX3_boundOfMove_0 0 rfl rfl ?_
  refine gC_2_0 hC q_1_145 dX3_boundOfMove_1 ?_
  refine gC_1_12 hC q_1_95 dX3_boundOfMove_4 ?_
  refine ga_iload_n hC dX3_boundOfMove_7 1 rfl rfl ?_
  obtain ⟨h1, h⟩ := h
  refine ga_iald hC aC_24 (by decide) h1 dX3_boundOfMove_8 ?_
  refine ga_if_ne (tgt := 14) hC dX3_boundOfMove_9 (by decide) (fun hc => ?_) (fun hc => ?_)
  · have h := h.1 hc
    refine ga_dconst0 hC dX3_boundOfMove_14 ?_
    refine ga_dstore_n (lv' := [(2, .double FP.dconst0), (0, .ref (ad 2)), (1, .int v1)]) hC dX3_boundOfMove_15 rfl (by decide) rfl ?_
    refine ga_iconst (v := 0) hC dX3_boundOfMove_16 (by decide) ?_
    refine ga_istore (lv' := [(4, .int 0), (2, .double FP.dconst0), (0, .ref (ad 2)), (1, .int v1)]) hC dX3_boundOfMove_17 (by decide) rfl ?_
    refine ga_locals [2, 3, 1, 0] rfl ?_
    exact h p l e s m args below meth c D cy ad hC
  · have h := h.2 hc
    refine ga_dconst0 hC dX3_boundOfMove_12 ?_
    exact ga_dret hC dX3_boundOfMove_13 ⟨_, rfl, h⟩
def M_X3_nextBound (v1 : Int32) (σ : cg_S) (Q : UInt64 → cg_S → Prop) : Prop := cg_M cg_WC yX3_nextBound cX3_nextBound 7 (some .double) (cg_R 1) (fun ad => [.ref (ad 2), .int v1]) σ (cg_qd Q)
theorem M_X3_nextBound.mono {v1 : Int32} {σ : cg_S} {Q Q2 : UInt64 → cg_S → Prop} (h : M_X3_nextBound v1 σ Q) (hq : ∀ r τ, Q r τ → Q2 r τ) : M_X3_nextBound v1 σ Q2 := cg_M.mono h (fun ad v τ ⟨r, e, q⟩ => ⟨r, e, hq r τ q⟩)
def L_X3_nextBound_13 (v1 : Int32) (v2 : UInt64) (v4 : Int32) (σ : cg_S) (Q : UInt64 → cg_S → Prop) : Prop := cg_L cg_WC RX3 cX3_nextBound 7 (some .double) (cg_R 1) 13 (fun ad => [(0, .ref (ad 2)), (1, .int v1), (2, .double v2), (4, .int v4)]) (fun ad => []) σ (cg_qd Q)
set_option maxRecDepth 100000 in
set_option maxHeartbeats 4000000 in
theorem v_X3_nextBound_13 {v1 : Int32} {v2 : UInt64} {v4 : Int32} {σ : cg_S} {Q : UInt64 → cg_S → Prop}
    (h : vp_in v1 7 ∧ ((σ.1 21 v1.toNatClampNeg) ≤ v4 → Q v2 σ) ∧ (¬ (σ.1 21 v1.toNatClampNeg) ≤ v4 → M_X2_moveOf v1 v4 σ (fun r2 s3 => M_X3_boundOfMove r2 s3 (fun r5 s6 => vp_in v1 7 ∧ ((s6.1 57 v1.toNatClampNeg) = 0 → (0 ≤ (Op.cmpValue (FP.dcmp r5 v2) .g) → L_X3_nextBound_13 v1 v2 (v4 + 1) s6 Q) ∧ (¬ 0 ≤ (Op.cmpValue (FP.dcmp r5 v2) .g) → L_X3_nextBound_13 v1 r5 (v4 + 1) s6 Q)) ∧ (¬ (s6.1 57 v1.toNatClampNeg) = 0 → ((Op.cmpValue (FP.dcmp r5 v2) .l) ≤ 0 → L_X3_nextBound_13 v1 v2 (v4 + 1) s6 Q) ∧ (¬ (Op.cmpValue (FP.dcmp r5 v2) .l) ≤ 0 → L_X3_nextBound_13 v1 r5 (v4 + 1) s6 Q)))))) : L_X3_nextBound_13 v1 v2 v4 σ Q := by
  intro p l e s m args below meth c D cy ad hC
  refine ga_iload hC dX3_nextBound_13 3 rfl ?_
  refine ga_aload_n hC dX3_nextBound_15 0 rfl rfl ?_
  refine gC_2_0 hC q_1_145 dX3_nextBound_16 ?_
  refine gC_1_9 hC q_1_81 dX3_nextBound_19 ?_
  refine ga_iload_n hC dX3_nextBound_22 1 rfl rfl ?_
  obtain ⟨h1, h⟩ := h
  refine ga_iald hC aC_21 (by decide) h1 dX3_nextBound_23 ?_
  refine ga_icmp_ge (tgt := 77) hC dX3_nextBound_24 (by decide) (fun hc => ?_) (fun hc => ?_)
  · have h := h.1 hc
    refine ga_dload_n hC dX3_nextBound_77 2 rfl rfl ?_
    exact ga_dret hC dX3_nextBound_78 ⟨_, rfl, h⟩
  · have h := h.2 hc
    refine ga_aload_n hC dX3_nextBound_27 0 rfl rfl ?_
    refine ga_iload_n hC dX3_nextBound_28 1 rfl rfl ?_
    refine ga_iload hC dX3_nextBound_29 3 rfl ?_
    refine ga_callS (As := [.int v1, .int v4]) (st := [.ref (ad 2)]) (n := 2) hC h q_2_231 q_2_169 q_1_2 q_2_170 rfl rfl rfl (by decide +kernel) ⟨Nat.le_of_ble_eq_true rfl, Nat.le_of_ble_eq_true rfl⟩ ⟨Nat.le_of_ble_eq_true rfl, Nat.le_of_ble_eq_true rfl⟩ rfl rfl (Nat.le_of_ble_eq_true rfl) dX3_nextBound_31 (fun v τ hq => ?_)
    obtain ⟨r2, rfl, h⟩ := hq
    obtain ⟨s3, es3⟩ : ∃ z, z = τ := ⟨_, rfl⟩
    rw [← es3] at h ⊢
    clear es3
    refine ga_callV (As := [.int r2]) (st := []) (k := 2) (n := 1) hC h q_5_129 q_5_130 q_5_131 q_1_3 q_5_132 rfl rfl rfl (by decide +kernel) ⟨Nat.le_of_ble_eq_true rfl, Nat.le_of_ble_eq_true rfl⟩ ⟨Nat.le_of_ble_eq_true rfl, Nat.le_of_ble_eq_true rfl⟩ rfl rfl rfl (by decide) rfl (Nat.le_of_ble_eq_true rfl) dX3_nextBound_34 (fun v τ hq => ?_)
    obtain ⟨r5, rfl, h⟩ := hq
    obtain ⟨s6, es6⟩ : ∃ z, z = τ := ⟨_, rfl⟩
    rw [← es6] at h ⊢
    clear es6
    refine ga_dstore (lv' := [(5, .double r5), (0, .ref (ad 2)), (1, .int v1), (2, .double v2), (4, .int v4)]) hC dX3_nextBound_37 (by decide) rfl ?_
    refine ga_aload_n hC dX3_nextBound_39 1 rfl rfl ?_
    refine gC_2_0 hC q_1_145 dX3_nextBound_40 ?_
    refine gC_1_7 hC q_1_72 dX3_nextBound_43 ?_
    refine ga_iload_n hC dX3_nextBound_46 2 rfl rfl ?_
    obtain ⟨h8, h⟩ := h
    refine ga_zald hC aC_57 (by decide) h8 dX3_nextBound_47 ?_
    refine ga_if_eq (tgt := 61) hC dX3_nextBound_48 (by decide) (fun hc => ?_) (fun hc => ?_)
    · have h := h.1 hc
      refine ga_dload hC dX3_nextBound_61 0 rfl ?_
      refine ga_dload_n hC dX3_nextBound_63 3 rfl rfl ?_
      refine ga_dcmp hC dX3_nextBound_64 ?_
      refine ga_if_ge (tgt := 71) hC dX3_nextBound_65 (by decide) (fun hc => ?_) (fun hc => ?_)
      · have h := h.1 hc
        refine ga_iinc (v := v4 + 1) (lv' := [(4, .int (v4 + 1)), (5, .double r5), (0, .ref (ad 2)), (1, .int v1), (2, .double v2)]) hC dX3_nextBound_71 4 rfl rfl (by decide) rfl ?_
        refine ga_goto (tgt := 13) hC dX3_nextBound_74 (by decide) ?_
        refine ga_locals [2, 3, 4, 0] rfl ?_
        exact h p l e s m args below meth c D cy ad hC
      · have h := h.2 hc
        refine ga_dload hC dX3_nextBound_68 0 rfl ?_
        refine ga_dstore_n (lv' := [(2, .double r5), (5, .double r5), (0, .ref (ad 2)), (1, .int v1), (4, .int v4)]) hC dX3_nextBound_70 rfl (by decide) rfl ?_
        refine ga_iinc (v := v4 + 1) (lv' := [(4, .int (v4 + 1)), (2, .double r5), (5, .double r5), (0, .ref (ad 2)), (1, .int v1)]) hC dX3_nextBound_71 4 rfl rfl (by decide) rfl ?_
        refine ga_goto (tgt := 13) hC dX3_nextBound_74 (by decide) ?_
        refine ga_locals [3, 4, 1, 0] rfl ?_
        exact h p l e s m args below meth c D cy ad hC
    · have h := h.2 hc
      refine ga_dload hC dX3_nextBound_51 0 rfl ?_
      refine ga_dload_n hC dX3_nextBound_53 3 rfl rfl ?_
      refine ga_dcmp hC dX3_nextBound_54 ?_
      refine ga_if_le (tgt := 71) hC dX3_nextBound_55 (by decide) (fun hc => ?_) (fun hc => ?_)
      · have h := h.1 hc
        refine ga_iinc (v := v4 + 1) (lv' := [(4, .int (v4 + 1)), (5, .double r5), (0, .ref (ad 2)), (1, .int v1), (2, .double v2)]) hC dX3_nextBound_71 4 rfl rfl (by decide) rfl ?_
        refine ga_goto (tgt := 13) hC dX3_nextBound_74 (by decide) ?_
        refine ga_locals [2, 3, 4, 0] rfl ?_
        exact h p l e s m args below meth c D cy ad hC
      · have h := h.2 hc
        refine ga_goto (tgt := 68) hC dX3_nextBound_58 (by decide) ?_
        refine ga_dload hC dX3_nextBound_68 0 rfl ?_
        refine ga_dstore_n (lv' := [(2, .double r5), (5, .double r5), (0, .ref (ad 2)), (1, .int v1), (4, .int v4)]) hC dX3_nextBound_70 rfl (by decide) rfl ?_
        refine ga_iinc (v := v4 + 1) (lv' := [(4, .int (v4 + 1)), (2, .double r5), (5, .double r5), (0, .ref (ad 2)), (1, .int v1)]) hC dX3_nextBound_71 4 rfl rfl (by decide) rfl ?_
        refine ga_goto (tgt := 13) hC dX3_nextBound_74 (by decide) ?_
        refine ga_locals [3, 4, 1, 0] rfl ?_
        exact h p l e s m args below meth c D cy ad hC
set_option maxRecDepth 100000 in
set_option maxHeartbeats 4000000 in
theorem v_X3_nextBound {v1 : Int32} {σ : cg_S} {Q : UInt64 → cg_S → Prop}
    (h : M_X2_moveOf v1 0 σ (fun r1 s2 => M_X3_boundOfMove r1 s2 (fun r4 s5 => L_X3_nextBound_13 v1 r4 1 s5 Q))) : M_X3_nextBound v1 σ Q := by
  refine cg_entry (lv := fun ad => [(0, .ref (ad 2)), (1, .int v1)]) (by decide +kernel) (fun _ => rfl) (fun _ => Nat.le_of_ble_eq_true rfl) ?_
  intro p l e s m args below meth c D cy ad hC
  refine ga_aload_n hC dX3_nextBound_0 0 rfl rfl ?_
  refine ga_iload_n hC dX3_nextBound_1 1 rfl rfl ?_
  refine ga_iconst (v := 0) hC dX3_nextBound_2 (by decide) ?_
  refine ga_callS (As := [.int v1, .int 0]) (st := [.ref (ad 2)]) (n := 2) hC h q_2_231 q_2_169 q_1_2 q_2_170 rfl rfl rfl (by decide +kernel) ⟨Nat.le_of_ble_eq_true rfl, Nat.le_of_ble_eq_true rfl⟩ ⟨Nat.le_of_ble_eq_true rfl, Nat.le_of_ble_eq_true rfl⟩ rfl rfl (Nat.le_of_ble_eq_true rfl) dX3_nextBound_3 (fun v τ hq => ?_)
  obtain ⟨r1, rfl, h⟩ := hq
  obtain ⟨s2, es2⟩ : ∃ z, z = τ := ⟨_, rfl⟩
  rw [← es2] at h ⊢
  clear es2
  refine ga_callV (As := [.int r1]) (st := []) (k := 2) (n := 1) hC h q_5_129 q_5_130 q_5_131 q_1_3 q_5_132 rfl rfl rfl (by decide +kernel) ⟨Nat.le_of_ble_eq_true rfl, Nat.le_of_ble_eq_true rfl⟩ ⟨Nat.le_of_ble_eq_true rfl, Nat.le_of_ble_eq_true rfl⟩ rfl rfl rfl (by decide) rfl (Nat.le_of_ble_eq_true rfl) dX3_nextBound_6 (fun v τ hq => ?_)
  obtain ⟨r4, rfl, h⟩ := hq
  obtain ⟨s5, es5⟩ : ∃ z, z = τ := ⟨_, rfl⟩
  rw [← es5] at h ⊢
  clear es5
  refine ga_dstore_n (lv' := [(2, .double r4), (0, .ref (ad 2)), (1, .int v1)]) hC dX3_nextBound_9 rfl (by decide) rfl ?_
  refine ga_iconst (v := 1) hC dX3_nextBound_10 (by decide) ?_
  refine ga_istore (lv' := [(4, .int 1), (2, .double r4), (0, .ref (ad 2)), (1, .int v1)]) hC dX3_nextBound_11 (by decide) rfl ?_
  refine ga_locals [2, 3, 1, 0] rfl ?_
  exact h p l e s m args below meth c D cy ad hC
def M_X3_boundAfter (v1 : Int32) (v2 : Int32) (σ : cg_S) (Q : UInt64 → cg_S → Prop) : Prop := cg_M cg_WC yX3_boundAfter cX3_boundAfter 5 (some .double) (cg_R 2) (fun ad => [.ref (ad 2), .int v1, .int v2]) σ (cg_qd Q)
theorem M_X3_boundAfter.mono {v1 : Int32} {v2 : Int32} {σ : cg_S} {Q Q2 : UInt64 → cg_S → Prop} (h : M_X3_boundAfter v1 v2 σ Q) (hq : ∀ r τ, Q r τ → Q2 r τ) : M_X3_boundAfter v1 v2 σ Q2 := cg_M.mono h (fun ad v τ ⟨r, e, q⟩ => ⟨r, e, hq r τ q⟩)
def L_X3_boundAfter_2 (v1 : Int32) (v2 : Int32) (v3 : Int32) (σ : cg_S) (Q : UInt64 → cg_S → Prop) : Prop := cg_L cg_WC RX3 cX3_boundAfter 5 (some .double) (cg_R 2) 2 (fun ad => [(0, .ref (ad 2)), (1, .int v1), (2, .int v2), (3, .int v3)]) (fun ad => []) σ (cg_qd Q)
def L_X3_boundAfter_43 (v1 : Int32) (v2 : Int32) (v3 : Int32) (σ : cg_S) (Q : UInt64 → cg_S → Prop) : Prop := cg_L cg_WC RX3 cX3_boundAfter 5 (some .double) (cg_R 2) 43 (fun ad => [(0, .ref (ad 2)), (1, .int v1), (2, .int v2), (3, .int v3)]) (fun ad => []) σ (cg_qd Q)
def L_X3_boundAfter_57 (v1 : Int32) (v2 : Int32) (v3 : Int32) (v4 : Int32) (σ : cg_S) (Q : UInt64 → cg_S → Prop) : Prop := cg_L cg_WC RX3 cX3_boundAfter 5 (some .double) (cg_R 2) 57 (fun ad => [(0, .ref (ad 2)), (1, .int v1), (2, .int v2), (3, .int v3), (4, .int v4)]) (fun ad => []) σ (cg_qd Q)
def L_X3_boundAfter_107 (v1 : Int32) (v2 : Int32) (v3 : Int32) (v4 : Int32) (σ : cg_S) (Q : UInt64 → cg_S → Prop) : Prop := cg_L cg_WC RX3 cX3_boundAfter 5 (some .double) (cg_R 2) 107 (fun ad => [(0, .ref (ad 2)), (1, .int v1), (2, .int v2), (3, .int v3), (4, .int v4)]) (fun ad => []) σ (cg_qd Q)
set_option maxRecDepth 100000 in
set_option maxHeartbeats 4000000 in
theorem v_X3_boundAfter_107 {v1 : Int32} {v2 : Int32} {v3 : Int32} {v4 : Int32} {σ : cg_S} {Q : UInt64 → cg_S → Prop}
    (h : ((σ.1 1 0) ≤ v4 → L_X3_boundAfter_43 v1 v2 (v3 + 1) σ Q) ∧ (¬ (σ.1 1 0) ≤ v4 → vp_in v4 7 ∧ vp_in v4 7 ∧ ∀ s3 : cg_S, s3 = cg_d σ 83 v4.toNatClampNeg (σ.2.2 84 v4.toNatClampNeg) → L_X3_boundAfter_107 v1 v2 v3 (v4 + 1) s3 Q)) : L_X3_boundAfter_107 v1 v2 v3 v4 σ Q := by
  intro p l e s m args below meth c D cy ad hC
  refine ga_iload hC dX3_boundAfter_107 4 rfl ?_
  refine ga_aload_n hC dX3_boundAfter_109 0 rfl rfl ?_
  refine gC_2_0 hC q_1_145 dX3_boundAfter_110 ?_
  refine gC_1_0 hC q_1_53 dX3_boundAfter_113 ?_
  refine ga_icmp_ge (tgt := 139) hC dX3_boundAfter_116 (by decide) (fun hc => ?_) (fun hc => ?_)
  · have h := h.1 hc
    refine ga_iinc (v := v3 + 1) (lv' := [(3, .int (v3 + 1)), (0, .ref (ad 2)), (1, .int v1), (2, .int v2), (4, .int v4)]) hC dX3_boundAfter_139 3 rfl rfl (by decide) rfl ?_
    refine ga_goto (tgt := 43) hC dX3_boundAfter_142 (by decide) ?_
    refine ga_locals [1, 2, 3, 0] rfl ?_
    exact h p l e s m args below meth c D cy ad hC
  · have h := h.2 hc
    refine ga_aload_n hC dX3_boundAfter_119 0 rfl rfl ?_
    refine gC_2_2 hC q_1_147 dX3_boundAfter_120 ?_
    refine ga_iload hC dX3_boundAfter_123 4 rfl ?_
    refine ga_aload_n hC dX3_boundAfter_125 0 rfl rfl ?_
    refine gC_2_3 hC q_1_148 dX3_boundAfter_126 ?_
    refine ga_iload hC dX3_boundAfter_129 4 rfl ?_
    obtain ⟨h1, h⟩ := h
    refine ga_dald hC aC_84 (by decide) h1 dX3_boundAfter_131 ?_
    obtain ⟨h2, h⟩ := h
    refine ga_dast hC aC_83 (by decide) h2 dX3_boundAfter_132 ?_
    refine ga_sig (σ := cg_d σ 83 v4.toNatClampNeg (σ.2.2 84 v4.toNatClampNeg)) (fun s3 es3 => ?_)
    have h := h s3 es3
    refine ga_iinc (v := v4 + 1) (lv' := [(4, .int (v4 + 1)), (0, .ref (ad 2)), (1, .int v1), (2, .int v2), (3, .int v3)]) hC dX3_boundAfter_133 4 rfl rfl (by decide) rfl ?_
    refine ga_goto (tgt := 107) hC dX3_boundAfter_136 (by decide) ?_
    refine ga_locals [1, 2, 3, 4, 0] rfl ?_
    exact h p l e s m args below meth c D cy ad hC
set_option maxRecDepth 100000 in
set_option maxHeartbeats 4000000 in
theorem v_X3_boundAfter_57 {v1 : Int32} {v2 : Int32} {v3 : Int32} {v4 : Int32} {σ : cg_S} {Q : UInt64 → cg_S → Prop}
    (h : ((σ.1 1 0) ≤ v4 → L_X3_boundAfter_107 v1 v2 v3 0 σ Q) ∧ (¬ (σ.1 1 0) ≤ v4 → M_X2_isTarget v4 σ (fun r1 s2 => (r1 = 0 → M_X3_nextBound v4 s2 (fun r4 s5 => vp_in v4 7 ∧ ∀ s8 : cg_S, s8 = cg_d s5 84 v4.toNatClampNeg r4 → L_X3_boundAfter_57 v1 v2 v3 (v4 + 1) s8 Q)) ∧ (¬ r1 = 0 → vp_in v4 7 ∧ ∀ s10 : cg_S, s10 = cg_d s2 84 v4.toNatClampNeg FP.dconst1 → L_X3_boundAfter_57 v1 v2 v3 (v4 + 1) s10 Q)))) : L_X3_boundAfter_57 v1 v2 v3 v4 σ Q := by
  intro p l e s m args below meth c D cy ad hC
  refine ga_iload hC dX3_boundAfter_57 4 rfl ?_
  refine ga_aload_n hC dX3_boundAfter_59 0 rfl rfl ?_
  refine gC_2_0 hC q_1_145 dX3_boundAfter_60 ?_
  refine gC_1_0 hC q_1_53 dX3_boundAfter_63 ?_
  refine ga_icmp_ge (tgt := 104) hC dX3_boundAfter_66 (by decide) (fun hc => ?_) (fun hc => ?_)
  · have h := h.1 hc
    refine ga_iconst (v := 0) hC dX3_boundAfter_104 (by decide) ?_
    refine ga_istore (lv' := [(4, .int 0), (0, .ref (ad 2)), (1, .int v1), (2, .int v2), (3, .int v3)]) hC dX3_boundAfter_105 (by decide) rfl ?_
    refine ga_locals [1, 2, 3, 4, 0] rfl ?_
    exact h p l e s m args below meth c D cy ad hC
  · have h := h.2 hc
    refine ga_aload_n hC dX3_boundAfter_69 0 rfl rfl ?_
    refine gC_2_3 hC q_1_148 dX3_boundAfter_70 ?_
    refine ga_iload hC dX3_boundAfter_73 4 rfl ?_
    refine ga_aload_n hC dX3_boundAfter_75 0 rfl rfl ?_
    refine gC_2_0 hC q_1_145 dX3_boundAfter_76 ?_
    refine ga_iload hC dX3_boundAfter_79 4 rfl ?_
    refine ga_callV (As := [.int v4]) (st := [.int v4, .ref (ad 84)]) (k := 1) (n := 1) hC h q_5_124 q_2_184 q_2_185 q_1_2 q_2_186 rfl rfl rfl (by decide +kernel) ⟨Nat.le_of_ble_eq_true rfl, Nat.le_of_ble_eq_true rfl⟩ ⟨Nat.le_of_ble_eq_true rfl, Nat.le_of_ble_eq_true rfl⟩ rfl rfl rfl (by decide) rfl (Nat.le_of_ble_eq_true rfl) dX3_boundAfter_81 (fun v τ hq => ?_)
    obtain ⟨r1, rfl, h⟩ := hq
    obtain ⟨s2, es2⟩ : ∃ z, z = τ := ⟨_, rfl⟩
    rw [← es2] at h ⊢
    clear es2
    refine ga_if_eq (tgt := 91) hC dX3_boundAfter_84 (by decide) (fun hc => ?_) (fun hc => ?_)
    · have h := h.1 hc
      refine ga_aload_n hC dX3_boundAfter_91 0 rfl rfl ?_
      refine ga_iload hC dX3_boundAfter_92 4 rfl ?_
      refine ga_callV (As := [.int v4]) (st := [.int v4, .ref (ad 84)]) (k := 2) (n := 1) hC h q_5_125 q_5_126 q_5_127 q_1_3 q_5_128 rfl rfl rfl (by decide +kernel) ⟨Nat.le_of_ble_eq_true rfl, Nat.le_of_ble_eq_true rfl⟩ ⟨Nat.le_of_ble_eq_true rfl, Nat.le_of_ble_eq_true rfl⟩ rfl rfl rfl (by decide) rfl (Nat.le_of_ble_eq_true rfl) dX3_boundAfter_94 (fun v τ hq => ?_)
      obtain ⟨r4, rfl, h⟩ := hq
      obtain ⟨s5, es5⟩ : ∃ z, z = τ := ⟨_, rfl⟩
      rw [← es5] at h ⊢
      clear es5
      obtain ⟨h7, h⟩ := h
      refine ga_dast hC aC_84 (by decide) h7 dX3_boundAfter_97 ?_
      refine ga_sig (σ := cg_d s5 84 v4.toNatClampNeg r4) (fun s8 es8 => ?_)
      have h := h s8 es8
      refine ga_iinc (v := v4 + 1) (lv' := [(4, .int (v4 + 1)), (0, .ref (ad 2)), (1, .int v1), (2, .int v2), (3, .int v3)]) hC dX3_boundAfter_98 4 rfl rfl (by decide) rfl ?_
      refine ga_goto (tgt := 57) hC dX3_boundAfter_101 (by decide) ?_
      refine ga_locals [1, 2, 3, 4, 0] rfl ?_
      exact h p l e s m args below meth c D cy ad hC
    · have h := h.2 hc
      refine ga_dconst1 hC dX3_boundAfter_87 ?_
      refine ga_goto (tgt := 97) hC dX3_boundAfter_88 (by decide) ?_
      obtain ⟨h9, h⟩ := h
      refine ga_dast hC aC_84 (by decide) h9 dX3_boundAfter_97 ?_
      refine ga_sig (σ := cg_d s2 84 v4.toNatClampNeg FP.dconst1) (fun s10 es10 => ?_)
      have h := h s10 es10
      refine ga_iinc (v := v4 + 1) (lv' := [(4, .int (v4 + 1)), (0, .ref (ad 2)), (1, .int v1), (2, .int v2), (3, .int v3)]) hC dX3_boundAfter_98 4 rfl rfl (by decide) rfl ?_
      refine ga_goto (tgt := 57) hC dX3_boundAfter_101 (by decide) ?_
      refine ga_locals [1, 2, 3, 4, 0] rfl ?_
      exact h p l e s m args below meth c D cy ad hC
set_option maxRecDepth 100000 in
set_option maxHeartbeats 4000000 in
theorem v_X3_boundAfter_43 {v1 : Int32} {v2 : Int32} {v3 : Int32} {σ : cg_S} {Q : UInt64 → cg_S → Prop}
    (h : (v2 ≤ v3 → vp_in v1 7 ∧ Q (σ.2.2 83 v1.toNatClampNeg) σ) ∧ (¬ v2 ≤ v3 → (60 ≤ v3 → vp_in v1 7 ∧ Q (σ.2.2 83 v1.toNatClampNeg) σ) ∧ (¬ 60 ≤ v3 → L_X3_boundAfter_57 v1 v2 v3 0 σ Q))) : L_X3_boundAfter_43 v1 v2 v3 σ Q := by
  intro p l e s m args below meth c D cy ad hC
  refine ga_iload_n hC dX3_boundAfter_43 3 rfl rfl ?_
  refine ga_iload_n hC dX3_boundAfter_44 2 rfl rfl ?_
  refine ga_icmp_ge (tgt := 145) hC dX3_boundAfter_45 (by decide) (fun hc => ?_) (fun hc => ?_)
  · have h := h.1 hc
    refine ga_aload_n hC dX3_boundAfter_145 0 rfl rfl ?_
    refine gC_2_2 hC q_1_147 dX3_boundAfter_146 ?_
    refine ga_iload_n hC dX3_boundAfter_149 1 rfl rfl ?_
    obtain ⟨h1, h⟩ := h
    refine ga_dald hC aC_83 (by decide) h1 dX3_boundAfter_150 ?_
    exact ga_dret hC dX3_boundAfter_151 ⟨_, rfl, h⟩
  · have h := h.2 hc
    refine ga_iload_n hC dX3_boundAfter_48 3 rfl rfl ?_
    refine ga_bipush (v := 60) hC dX3_boundAfter_49 (by decide) ?_
    refine ga_icmp_ge (tgt := 145) hC dX3_boundAfter_51 (by decide) (fun hc => ?_) (fun hc => ?_)
    · have h := h.1 hc
      refine ga_aload_n hC dX3_boundAfter_145 0 rfl rfl ?_
      refine gC_2_2 hC q_1_147 dX3_boundAfter_146 ?_
      refine ga_iload_n hC dX3_boundAfter_149 1 rfl rfl ?_
      obtain ⟨h2, h⟩ := h
      refine ga_dald hC aC_83 (by decide) h2 dX3_boundAfter_150 ?_
      exact ga_dret hC dX3_boundAfter_151 ⟨_, rfl, h⟩
    · have h := h.2 hc
      refine ga_iconst (v := 0) hC dX3_boundAfter_54 (by decide) ?_
      refine ga_istore (lv' := [(4, .int 0), (0, .ref (ad 2)), (1, .int v1), (2, .int v2), (3, .int v3)]) hC dX3_boundAfter_55 (by decide) rfl ?_
      refine ga_locals [1, 2, 3, 4, 0] rfl ?_
      exact h p l e s m args below meth c D cy ad hC
set_option maxRecDepth 100000 in
set_option maxHeartbeats 4000000 in
theorem v_X3_boundAfter_2 {v1 : Int32} {v2 : Int32} {v3 : Int32} {σ : cg_S} {Q : UInt64 → cg_S → Prop}
    (h : ((σ.1 1 0) ≤ v3 → L_X3_boundAfter_43 v1 v2 0 σ Q) ∧ (¬ (σ.1 1 0) ≤ v3 → M_X2_isTarget v3 σ (fun r1 s2 => (r1 = 0 → vp_in v3 7 ∧ ∀ s5 : cg_S, s5 = cg_d s2 83 v3.toNatClampNeg FP.dconst0 → L_X3_boundAfter_2 v1 v2 (v3 + 1) s5 Q) ∧ (¬ r1 = 0 → vp_in v3 7 ∧ ∀ s7 : cg_S, s7 = cg_d s2 83 v3.toNatClampNeg FP.dconst1 → L_X3_boundAfter_2 v1 v2 (v3 + 1) s7 Q)))) : L_X3_boundAfter_2 v1 v2 v3 σ Q := by
  intro p l e s m args below meth c D cy ad hC
  refine ga_iload_n hC dX3_boundAfter_2 3 rfl rfl ?_
  refine ga_aload_n hC dX3_boundAfter_3 0 rfl rfl ?_
  refine gC_2_0 hC q_1_145 dX3_boundAfter_4 ?_
  refine gC_1_0 hC q_1_53 dX3_boundAfter_7 ?_
  refine ga_icmp_ge (tgt := 41) hC dX3_boundAfter_10 (by decide) (fun hc => ?_) (fun hc => ?_)
  · have h := h.1 hc
    refine ga_iconst (v := 0) hC dX3_boundAfter_41 (by decide) ?_
    refine ga_istore_n (lv' := [(3, .int 0), (0, .ref (ad 2)), (1, .int v1), (2, .int v2)]) hC dX3_boundAfter_42 rfl (by decide) rfl ?_
    refine ga_locals [1, 2, 3, 0] rfl ?_
    exact h p l e s m args below meth c D cy ad hC
  · have h := h.2 hc
    refine ga_aload_n hC dX3_boundAfter_13 0 rfl rfl ?_
    refine gC_2_2 hC q_1_147 dX3_boundAfter_14 ?_
    refine ga_iload_n hC dX3_boundAfter_17 3 rfl rfl ?_
    refine ga_aload_n hC dX3_boundAfter_18 0 rfl rfl ?_
    refine gC_2_0 hC q_1_145 dX3_boundAfter_19 ?_
    refine ga_iload_n hC dX3_boundAfter_22 3 rfl rfl ?_
    refine ga_callV (As := [.int v3]) (st := [.int v3, .ref (ad 83)]) (k := 1) (n := 1) hC h q_5_124 q_2_184 q_2_185 q_1_2 q_2_186 rfl rfl rfl (by decide +kernel) ⟨Nat.le_of_ble_eq_true rfl, Nat.le_of_ble_eq_true rfl⟩ ⟨Nat.le_of_ble_eq_true rfl, Nat.le_of_ble_eq_true rfl⟩ rfl rfl rfl (by decide) rfl (Nat.le_of_ble_eq_true rfl) dX3_boundAfter_23 (fun v τ hq => ?_)
    obtain ⟨r1, rfl, h⟩ := hq
    obtain ⟨s2, es2⟩ : ∃ z, z = τ := ⟨_, rfl⟩
    rw [← es2] at h ⊢
    clear es2
    refine ga_if_eq (tgt := 33) hC dX3_boundAfter_26 (by decide) (fun hc => ?_) (fun hc => ?_)
    · have h := h.1 hc
      refine ga_dconst0 hC dX3_boundAfter_33 ?_
      obtain ⟨h4, h⟩ := h
      refine ga_dast hC aC_83 (by decide) h4 dX3_boundAfter_34 ?_
      refine ga_sig (σ := cg_d s2 83 v3.toNatClampNeg FP.dconst0) (fun s5 es5 => ?_)
      have h := h s5 es5
      refine ga_iinc (v := v3 + 1) (lv' := [(3, .int (v3 + 1)), (0, .ref (ad 2)), (1, .int v1), (2, .int v2)]) hC dX3_boundAfter_35 3 rfl rfl (by decide) rfl ?_
      refine ga_goto (tgt := 2) hC dX3_boundAfter_38 (by decide) ?_
      refine ga_locals [1, 2, 3, 0] rfl ?_
      exact h p l e s m args below meth c D cy ad hC
    · have h := h.2 hc
      refine ga_dconst1 hC dX3_boundAfter_29 ?_
      refine ga_goto (tgt := 34) hC dX3_boundAfter_30 (by decide) ?_
      obtain ⟨h6, h⟩ := h
      refine ga_dast hC aC_83 (by decide) h6 dX3_boundAfter_34 ?_
      refine ga_sig (σ := cg_d s2 83 v3.toNatClampNeg FP.dconst1) (fun s7 es7 => ?_)
      have h := h s7 es7
      refine ga_iinc (v := v3 + 1) (lv' := [(3, .int (v3 + 1)), (0, .ref (ad 2)), (1, .int v1), (2, .int v2)]) hC dX3_boundAfter_35 3 rfl rfl (by decide) rfl ?_
      refine ga_goto (tgt := 2) hC dX3_boundAfter_38 (by decide) ?_
      refine ga_locals [1, 2, 3, 0] rfl ?_
      exact h p l e s m args below meth c D cy ad hC
set_option maxRecDepth 100000 in
set_option maxHeartbeats 4000000 in
theorem v_X3_boundAfter {v1 : Int32} {v2 : Int32} {σ : cg_S} {Q : UInt64 → cg_S → Prop}
    (h : L_X3_boundAfter_2 v1 v2 0 σ Q) : M_X3_boundAfter v1 v2 σ Q := by
  refine cg_entry (lv := fun ad => [(0, .ref (ad 2)), (1, .int v1), (2, .int v2)]) (by decide +kernel) (fun _ => rfl) (fun _ => Nat.le_of_ble_eq_true rfl) ?_
  intro p l e s m args below meth c D cy ad hC
  refine ga_iconst (v := 0) hC dX3_boundAfter_0 (by decide) ?_
  refine ga_istore_n (lv' := [(3, .int 0), (0, .ref (ad 2)), (1, .int v1), (2, .int v2)]) hC dX3_boundAfter_1 rfl (by decide) rfl ?_
  refine ga_locals [1, 2, 3, 0] rfl ?_
  exact h p l e s m args below meth c D cy ad hC
