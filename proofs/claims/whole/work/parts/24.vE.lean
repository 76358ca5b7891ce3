theorem q_6_226 : Cond.methodLink RX12 228 yX12_in ∈ cg_T := cg_in6 226 (by decide +kernel) (by decide +kernel)
theorem q_6_227 : Cond.static yX12_in ∈ cg_T := cg_in6 227 (by decide +kernel) (by decide +kernel)
theorem q_6_228 : Cond.code yX12_in cX12_in 3 (some .boolean) ∈ cg_T := cg_in6 228 (by decide +kernel) (by decide +kernel)
theorem q_7_1 : Cond.methodLink RX12 232 yX12_isState ∈ cg_T := cg_in7 1 (by decide +kernel) (by decide +kernel)
theorem q_7_3 : Cond.instanceMethod yX12_isState ∈ cg_T := cg_in7 3 (by decide +kernel) (by decide +kernel)
theorem q_0_14 : Cond.selects RX12 yX12_isState yX12_isState ∈ cg_T := cg_in0 14 (by decide +kernel) (by decide +kernel)
theorem q_7_4 : Cond.code yX12_isState cX12_isState 2 (some .boolean) ∈ cg_T := cg_in7 4 (by decide +kernel) (by decide +kernel)
theorem q_6_229 : Cond.methodLink RX12 235 yX12_fails ∈ cg_T := cg_in6 229 (by decide +kernel) (by decide +kernel)
theorem q_6_231 : Cond.instanceMethod yX12_fails ∈ cg_T := cg_in6 231 (by decide +kernel) (by decide +kernel)
theorem q_0_12 : Cond.selects RX12 yX12_fails yX12_fails ∈ cg_T := cg_in0 12 (by decide +kernel) (by decide +kernel)
theorem q_6_232 : Cond.code yX12_fails cX12_fails 2 (some .int) ∈ cg_T := cg_in6 232 (by decide +kernel) (by decide +kernel)
theorem q_6_233 : Cond.methodLink RX12 238 yX12_changes ∈ cg_T := cg_in6 233 (by decide +kernel) (by decide +kernel)
theorem q_6_235 : Cond.instanceMethod yX12_changes ∈ cg_T := cg_in6 235 (by decide +kernel) (by decide +kernel)
theorem q_0_13 : Cond.selects RX12 yX12_changes yX12_changes ∈ cg_T := cg_in0 13 (by decide +kernel) (by decide +kernel)
theorem q_6_236 : Cond.code yX12_changes cX12_changes 2 none ∈ cg_T := cg_in6 236 (by decide +kernel) (by decide +kernel)
theorem q_7_9 : Cond.methodLink RX12 241 yX12_isChoice ∈ cg_T := cg_in7 9 (by decide +kernel) (by decide +kernel)
theorem q_7_11 : Cond.instanceMethod yX12_isChoice ∈ cg_T := cg_in7 11 (by decide +kernel) (by decide +kernel)
theorem q_0_15 : Cond.selects RX12 yX12_isChoice yX12_isChoice ∈ cg_T := cg_in0 15 (by decide +kernel) (by decide +kernel)
theorem q_7_12 : Cond.code yX12_isChoice cX12_isChoice 3 (some .boolean) ∈ cg_T := cg_in7 12 (by decide +kernel) (by decide +kernel)
theorem q_7_45 : Cond.constantLong RX12 244 (10) ∈ cg_T := cg_in7 45 (by decide +kernel) (by decide +kernel)
theorem q_7_50 : Cond.methodLink RX12 246 yX12_isAll ∈ cg_T := cg_in7 50 (by decide +kernel) (by decide +kernel)
theorem q_7_52 : Cond.instanceMethod yX12_isAll ∈ cg_T := cg_in7 52 (by decide +kernel) (by decide +kernel)
theorem q_0_17 : Cond.selects RX12 yX12_isAll yX12_isAll ∈ cg_T := cg_in0 17 (by decide +kernel) (by decide +kernel)
theorem q_7_53 : Cond.code yX12_isAll cX12_isAll 3 (some .boolean) ∈ cg_T := cg_in7 53 (by decide +kernel) (by decide +kernel)
theorem q_7_65 : Cond.methodLink RX12 250 yX12_values ∈ cg_T := cg_in7 65 (by decide +kernel) (by decide +kernel)
theorem q_7_67 : Cond.instanceMethod yX12_values ∈ cg_T := cg_in7 67 (by decide +kernel) (by decide +kernel)
theorem q_0_19 : Cond.selects RX12 yX12_values yX12_values ∈ cg_T := cg_in0 19 (by decide +kernel) (by decide +kernel)
theorem q_7_68 : Cond.code yX12_values cX12_values 6 none ∈ cg_T := cg_in7 68 (by decide +kernel) (by decide +kernel)
theorem q_7_58 : Cond.methodLink RX12 253 yX12_isAsked ∈ cg_T := cg_in7 58 (by decide +kernel) (by decide +kernel)
theorem q_7_60 : Cond.instanceMethod yX12_isAsked ∈ cg_T := cg_in7 60 (by decide +kernel) (by decide +kernel)
theorem q_0_18 : Cond.selects RX12 yX12_isAsked yX12_isAsked ∈ cg_T := cg_in0 18 (by decide +kernel) (by decide +kernel)
theorem q_7_61 : Cond.code yX12_isAsked cX12_isAsked 3 (some .boolean) ∈ cg_T := cg_in7 61 (by decide +kernel) (by decide +kernel)
theorem q_7_164 : Cond.methodLink RX12 256 yX12_above ∈ cg_T := cg_in7 164 (by decide +kernel) (by decide +kernel)
theorem q_7_55 : Cond.instanceMethod yX12_above ∈ cg_T := cg_in7 55 (by decide +kernel) (by decide +kernel)
theorem q_7_56 : Cond.selects RX12 yX12_above yX12_above ∈ cg_T := cg_in7 56 (by decide +kernel) (by decide +kernel)
theorem q_7_57 : Cond.code yX12_above cX12_above 3 (some .long) ∈ cg_T := cg_in7 57 (by decide +kernel) (by decide +kernel)
theorem q_7_169 : Cond.methodLink RX12 259 yX12_below ∈ cg_T := cg_in7 169 (by decide +kernel) (by decide +kernel)
theorem q_7_157 : Cond.instanceMethod yX12_below ∈ cg_T := cg_in7 157 (by decide +kernel) (by decide +kernel)
theorem q_7_158 : Cond.selects RX12 yX12_below yX12_below ∈ cg_T := cg_in7 158 (by decide +kernel) (by decide +kernel)
theorem q_7_159 : Cond.code yX12_below cX12_below 3 (some .long) ∈ cg_T := cg_in7 159 (by decide +kernel) (by decide +kernel)
theorem q_7_178 : Cond.constantFloat RX12 261 (1061158912) ∈ cg_T := cg_in7 178 (by decide +kernel) (by decide +kernel)
theorem q_7_183 : Cond.constantLong RX12 262 (2) ∈ cg_T := cg_in7 183 (by decide +kernel) (by decide +kernel)
theorem q_7_184 : Cond.constantDouble RX12 264 (4602678819172646912) ∈ cg_T := cg_in7 184 (by decide +kernel) (by decide +kernel)
theorem q_6_121 : Cond.fieldLink RX12 102 "ChanceledgerModel" "low" "[D" ∈ cg_T := cg_in6 121 (by decide +kernel) (by decide +kernel)
theorem q_6_122 : Cond.fieldLink RX12 106 "ChanceledgerModel" "nextLow" "[D" ∈ cg_T := cg_in6 122 (by decide +kernel) (by decide +kernel)
theorem q_7_189 : Cond.methodLink RX12 266 yX12_lowOf ∈ cg_T := cg_in7 189 (by decide +kernel) (by decide +kernel)
theorem q_7_191 : Cond.instanceMethod yX12_lowOf ∈ cg_T := cg_in7 191 (by decide +kernel) (by decide +kernel)
theorem q_0_41 : Cond.selects RX12 yX12_lowOf yX12_lowOf ∈ cg_T := cg_in0 41 (by decide +kernel) (by decide +kernel)
theorem q_7_192 : Cond.code yX12_lowOf cX12_lowOf 5 (some .double) ∈ cg_T := cg_in7 192 (by decide +kernel) (by decide +kernel)
theorem q_7_197 : Cond.methodLink RX12 270 yX12_isGame ∈ cg_T := cg_in7 197 (by decide +kernel) (by decide +kernel)
theorem q_7_199 : Cond.instanceMethod yX12_isGame ∈ cg_T := cg_in7 199 (by decide +kernel) (by decide +kernel)
theorem q_0_42 : Cond.selects RX12 yX12_isGame yX12_isGame ∈ cg_T := cg_in0 42 (by decide +kernel) (by decide +kernel)
theorem q_7_200 : Cond.code yX12_isGame cX12_isGame 2 (some .boolean) ∈ cg_T := cg_in7 200 (by decide +kernel) (by decide +kernel)
theorem q_6_96 : Cond.fieldLink RX12 25 "ChanceledgerModel" "rank" "[I" ∈ cg_T := cg_in6 96 (by decide +kernel) (by decide +kernel)
theorem q_7_217 : Cond.methodLink RX12 273 yX12_isGood ∈ cg_T := cg_in7 217 (by decide +kernel) (by decide +kernel)
theorem q_7_219 : Cond.instanceMethod yX12_isGood ∈ cg_T := cg_in7 219 (by decide +kernel) (by decide +kernel)
theorem q_0_45 : Cond.selects RX12 yX12_isGood yX12_isGood ∈ cg_T := cg_in0 45 (by decide +kernel) (by decide +kernel)
theorem q_7_220 : Cond.code yX12_isGood cX12_isGood 13 (some .boolean) ∈ cg_T := cg_in7 220 (by decide +kernel) (by decide +kernel)
theorem q_7_221 : Cond.methodLink RX12 276 yX12_leadsLower ∈ cg_T := cg_in7 221 (by decide +kernel) (by decide +kernel)
theorem q_7_223 : Cond.instanceMethod yX12_leadsLower ∈ cg_T := cg_in7 223 (by decide +kernel) (by decide +kernel)
theorem q_0_46 : Cond.selects RX12 yX12_leadsLower yX12_leadsLower ∈ cg_T := cg_in0 46 (by decide +kernel) (by decide +kernel)
theorem q_7_224 : Cond.code yX12_leadsLower cX12_leadsLower 5 (some .boolean) ∈ cg_T := cg_in7 224 (by decide +kernel) (by decide +kernel)
theorem q_7_213 : Cond.methodLink RX12 279 yX12_isRanked ∈ cg_T := cg_in7 213 (by decide +kernel) (by decide +kernel)
theorem q_7_215 : Cond.instanceMethod yX12_isRanked ∈ cg_T := cg_in7 215 (by decide +kernel) (by decide +kernel)
theorem q_0_44 : Cond.selects RX12 yX12_isRanked yX12_isRanked ∈ cg_T := cg_in0 44 (by decide +kernel) (by decide +kernel)
theorem q_7_216 : Cond.code yX12_isRanked cX12_isRanked 7 (some .boolean) ∈ cg_T := cg_in7 216 (by decide +kernel) (by decide +kernel)
theorem q_6_94 : Cond.fieldLink RX12 19 "ChanceledgerModel" "told" "[I" ∈ cg_T := cg_in6 94 (by decide +kernel) (by decide +kernel)
theorem q_7_225 : Cond.methodLink RX12 285 yX12_best ∈ cg_T := cg_in7 225 (by decide +kernel) (by decide +kernel)
theorem q_7_227 : Cond.instanceMethod yX12_best ∈ cg_T := cg_in7 227 (by decide +kernel) (by decide +kernel)
theorem q_0_47 : Cond.selects RX12 yX12_best yX12_best ∈ cg_T := cg_in0 47 (by decide +kernel) (by decide +kernel)
theorem q_7_228 : Cond.code yX12_best cX12_best 5 (some .int) ∈ cg_T := cg_in7 228 (by decide +kernel) (by decide +kernel)
theorem q_7_209 : Cond.methodLink RX12 282 yX12_ranks ∈ cg_T := cg_in7 209 (by decide +kernel) (by decide +kernel)
theorem q_7_211 : Cond.instanceMethod yX12_ranks ∈ cg_T := cg_in7 211 (by decide +kernel) (by decide +kernel)
theorem q_0_43 : Cond.selects RX12 yX12_ranks yX12_ranks ∈ cg_T := cg_in0 43 (by decide +kernel) (by decide +kernel)
theorem q_7_212 : Cond.code yX12_ranks cX12_ranks 3 none ∈ cg_T := cg_in7 212 (by decide +kernel) (by decide +kernel)
theorem q_8_5 : Cond.methodLink RX12 288 yX12_picksTold ∈ cg_T := cg_in8 5 (by decide +kernel) (by decide +kernel)
theorem q_8_7 : Cond.instanceMethod yX12_picksTold ∈ cg_T := cg_in8 7 (by decide +kernel) (by decide +kernel)
theorem q_0_49 : Cond.selects RX12 yX12_picksTold yX12_picksTold ∈ cg_T := cg_in0 49 (by decide +kernel) (by decide +kernel)
theorem q_8_8 : Cond.code yX12_picksTold cX12_picksTold 2 none ∈ cg_T := cg_in8 8 (by decide +kernel) (by decide +kernel)
theorem q_8_1 : Cond.methodLink RX12 291 yX12_isChain ∈ cg_T := cg_in8 1 (by decide +kernel) (by decide +kernel)
theorem q_8_3 : Cond.instanceMethod yX12_isChain ∈ cg_T := cg_in8 3 (by decide +kernel) (by decide +kernel)
theorem q_0_48 : Cond.selects RX12 yX12_isChain yX12_isChain ∈ cg_T := cg_in0 48 (by decide +kernel) (by decide +kernel)
theorem q_8_4 : Cond.code yX12_isChain cX12_isChain 3 (some .boolean) ∈ cg_T := cg_in8 4 (by decide +kernel) (by decide +kernel)
theorem q_8_17 : Cond.methodLink RX12 294 yX12_isResponse ∈ cg_T := cg_in8 17 (by decide +kernel) (by decide +kernel)
theorem q_8_19 : Cond.instanceMethod yX12_isResponse ∈ cg_T := cg_in8 19 (by decide +kernel) (by decide +kernel)
theorem q_0_50 : Cond.selects RX12 yX12_isResponse yX12_isResponse ∈ cg_T := cg_in0 50 (by decide +kernel) (by decide +kernel)
theorem q_8_20 : Cond.code yX12_isResponse cX12_isResponse 4 (some .boolean) ∈ cg_T := cg_in8 20 (by decide +kernel) (by decide +kernel)
theorem q_8_41 : Cond.methodLink RX12 297 yX12_staysIn ∈ cg_T := cg_in8 41 (by decide +kernel) (by decide +kernel)
theorem q_8_43 : Cond.instanceMethod yX12_staysIn ∈ cg_T := cg_in8 43 (by decide +kernel) (by decide +kernel)
theorem q_0_53 : Cond.selects RX12 yX12_staysIn yX12_staysIn ∈ cg_T := cg_in0 53 (by decide +kernel) (by decide +kernel)
theorem q_8_44 : Cond.code yX12_staysIn cX12_staysIn 3 (some .boolean) ∈ cg_T := cg_in8 44 (by decide +kernel) (by decide +kernel)
theorem q_8_37 : Cond.methodLink RX12 300 yX12_reachesIn ∈ cg_T := cg_in8 37 (by decide +kernel) (by decide +kernel)
theorem q_8_39 : Cond.instanceMethod yX12_reachesIn ∈ cg_T := cg_in8 39 (by decide +kernel) (by decide +kernel)
theorem q_0_52 : Cond.selects RX12 yX12_reachesIn yX12_reachesIn ∈ cg_T := cg_in0 52 (by decide +kernel) (by decide +kernel)
theorem q_8_40 : Cond.code yX12_reachesIn cX12_reachesIn 5 none ∈ cg_T := cg_in8 40 (by decide +kernel) (by decide +kernel)
theorem q_8_33 : Cond.methodLink RX12 303 yX12_isEnd ∈ cg_T := cg_in8 33 (by decide +kernel) (by decide +kernel)
theorem q_8_35 : Cond.instanceMethod yX12_isEnd ∈ cg_T := cg_in8 35 (by decide +kernel) (by decide +kernel)
theorem q_0_51 : Cond.selects RX12 yX12_isEnd yX12_isEnd ∈ cg_T := cg_in0 51 (by decide +kernel) (by decide +kernel)
theorem q_8_36 : Cond.code yX12_isEnd cX12_isEnd 3 (some .boolean) ∈ cg_T := cg_in8 36 (by decide +kernel) (by decide +kernel)
theorem q_6_117 : Cond.fieldLink RX12 90 "ChanceledgerModel" "group" "[I" ∈ cg_T := cg_in6 117 (by decide +kernel) (by decide +kernel)
theorem q_8_61 : Cond.methodLink RX12 306 yX12_weightInto ∈ cg_T := cg_in8 61 (by decide +kernel) (by decide +kernel)
theorem q_8_63 : Cond.instanceMethod yX12_weightInto ∈ cg_T := cg_in8 63 (by decide +kernel) (by decide +kernel)
theorem q_0_57 : Cond.selects RX12 yX12_weightInto yX12_weightInto ∈ cg_T := cg_in0 57 (by decide +kernel) (by decide +kernel)
theorem q_8_64 : Cond.code yX12_weightInto cX12_weightInto 5 (some .int) ∈ cg_T := cg_in8 64 (by decide +kernel) (by decide +kernel)
theorem q_8_57 : Cond.methodLink RX12 309 yX12_isLikeChoice ∈ cg_T := cg_in8 57 (by decide +kernel) (by decide +kernel)
theorem q_8_59 : Cond.instanceMethod yX12_isLikeChoice ∈ cg_T := cg_in8 59 (by decide +kernel) (by decide +kernel)
theorem q_0_56 : Cond.selects RX12 yX12_isLikeChoice yX12_isLikeChoice ∈ cg_T := cg_in0 56 (by decide +kernel) (by decide +kernel)
theorem q_8_60 : Cond.code yX12_isLikeChoice cX12_isLikeChoice 4 (some .boolean) ∈ cg_T := cg_in8 60 (by decide +kernel) (by decide +kernel)
theorem q_6_118 : Cond.fieldLink RX12 93 "ChanceledgerModel" "nextGroup" "[I" ∈ cg_T := cg_in6 118 (by decide +kernel) (by decide +kernel)
theorem q_8_53 : Cond.methodLink RX12 312 yX12_follows ∈ cg_T := cg_in8 53 (by decide +kernel) (by decide +kernel)
theorem q_8_55 : Cond.instanceMethod yX12_follows ∈ cg_T := cg_in8 55 (by decide +kernel) (by decide +kernel)
theorem q_0_55 : Cond.selects RX12 yX12_follows yX12_follows ∈ cg_T := cg_in0 55 (by decide +kernel) (by decide +kernel)
theorem q_8_56 : Cond.code yX12_follows cX12_follows 6 (some .boolean) ∈ cg_T := cg_in8 56 (by decide +kernel) (by decide +kernel)
theorem q_8_49 : Cond.methodLink RX12 315 yX12_groups ∈ cg_T := cg_in8 49 (by decide +kernel) (by decide +kernel)
theorem q_8_51 : Cond.instanceMethod yX12_groups ∈ cg_T := cg_in8 51 (by decide +kernel) (by decide +kernel)
theorem q_0_54 : Cond.selects RX12 yX12_groups yX12_groups ∈ cg_T := cg_in0 54 (by decide +kernel) (by decide +kernel)
theorem q_8_52 : Cond.code yX12_groups cX12_groups 4 none ∈ cg_T := cg_in8 52 (by decide +kernel) (by decide +kernel)
theorem q_6_119 : Cond.fieldLink RX12 96 "ChanceledgerModel" "way" "[I" ∈ cg_T := cg_in6 119 (by decide +kernel) (by decide +kernel)
theorem q_6_120 : Cond.fieldLink RX12 99 "ChanceledgerModel" "bestWay" "[I" ∈ cg_T := cg_in6 120 (by decide +kernel) (by decide +kernel)
theorem q_6_123 : Cond.fieldLink RX12 318 "ChanceledgerModel" "bestLength" "I" ∈ cg_T := cg_in6 123 (by decide +kernel) (by decide +kernel)
theorem q_6_128 : Cond.fieldLink RX12 321 "ChanceledgerModel" "wayBelow" "J" ∈ cg_T := cg_in6 128 (by decide +kernel) (by decide +kernel)
theorem q_6_127 : Cond.fieldLink RX12 324 "ChanceledgerModel" "wayAbove" "J" ∈ cg_T := cg_in6 127 (by decide +kernel) (by decide +kernel)
theorem q_6_105 : Cond.fieldLink RX12 53 "ChanceledgerModel" "isGone" "[Z" ∈ cg_T := cg_in6 105 (by decide +kernel) (by decide +kernel)
theorem q_8_77 : Cond.methodLink RX12 331 yX12_walks ∈ cg_T := cg_in8 77 (by decide +kernel) (by decide +kernel)
theorem q_8_79 : Cond.instanceMethod yX12_walks ∈ cg_T := cg_in8 79 (by decide +kernel) (by decide +kernel)
theorem q_0_59 : Cond.selects RX12 yX12_walks yX12_walks ∈ cg_T := cg_in0 59 (by decide +kernel) (by decide +kernel)
theorem q_8_80 : Cond.code yX12_walks cX12_walks 8 none ∈ cg_T := cg_in8 80 (by decide +kernel) (by decide +kernel)
theorem q_8_81 : Cond.methodLink RX12 327 yX12_isBetter ∈ cg_T := cg_in8 81 (by decide +kernel) (by decide +kernel)
theorem q_8_83 : Cond.instanceMethod yX12_isBetter ∈ cg_T := cg_in8 83 (by decide +kernel) (by decide +kernel)
theorem q_0_60 : Cond.selects RX12 yX12_isBetter yX12_isBetter ∈ cg_T := cg_in0 60 (by decide +kernel) (by decide +kernel)
theorem q_8_84 : Cond.code yX12_isBetter cX12_isBetter 9 (some .boolean) ∈ cg_T := cg_in8 84 (by decide +kernel) (by decide +kernel)
theorem q_8_73 : Cond.methodLink RX12 335 yX12_isTrace ∈ cg_T := cg_in8 73 (by decide +kernel) (by decide +kernel)
theorem q_8_75 : Cond.instanceMethod yX12_isTrace ∈ cg_T := cg_in8 75 (by decide +kernel) (by decide +kernel)
theorem q_0_58 : Cond.selects RX12 yX12_isTrace yX12_isTrace ∈ cg_T := cg_in0 58 (by decide +kernel) (by decide +kernel)
theorem q_8_76 : Cond.code yX12_isTrace cX12_isTrace 3 (some .boolean) ∈ cg_T := cg_in8 76 (by decide +kernel) (by decide +kernel)
def M_X12_isState (v1 : Int32) (σ : cg_S) (Q : Int32 → cg_S → Prop) : Prop := cg_M cg_WM yX12_isState cX12_isState 2 (some .boolean) (cg_R 1) (fun ad => [.ref (ad 0), .int v1]) σ (cg_qi Q)
theorem M_X12_isState.mono {v1 : Int32} {σ : cg_S} {Q Q2 : Int32 → cg_S → Prop} (h : M_X12_isState v1 σ Q) (hq : ∀ r τ, Q r τ → Q2 r τ) : M_X12_isState v1 σ Q2 := cg_M.mono h (fun ad v τ ⟨r, e, q⟩ => ⟨r, e, hq r τ q⟩)
set_option maxRecDepth 100000 in
set_option maxHeartbeats 4000000 in
theorem v_X12_isState {v1 : Int32} {σ : cg_S} {Q : Int32 → cg_S → Prop}
    (h : M_X12_in v1 0 ((σ.1 0 1) - 1) σ (fun r1 s2 => (r1 = 0 ∨ r1 = 1) ∧ Q r1 s2)) : M_X12_isState v1 σ Q := by
  refine cg_entry (lv := fun ad => [(0, .ref (ad 0)), (1, .int v1)]) (by decide +kernel) (fun _ => rfl) (fun _ => Nat.le_of_ble_eq_true rfl) ?_
  intro p l e s m args below meth c D cy ad hC
  refine ga_iload_n hC dX12_isState_0 1 rfl rfl ?_
  refine ga_iconst (v := 0) hC dX12_isState_1 (by decide) ?_
  refine ga_aload_n hC dX12_isState_2 0 rfl rfl ?_
  refine gM_0_1 hC q_6_86 dX12_isState_3 ?_
  refine ga_iconst (v := 1) hC dX12_isState_6 (by decide) ?_
  refine ga_isub hC dX12_isState_7 ?_
  refine ga_callS (As := [.int v1, .int 0, .int ((σ.1 0 1) - 1)]) (st := []) (n := 3) hC h q_6_226 q_6_227 q_1_13 q_6_228 rfl rfl rfl (by decide +kernel) ⟨Nat.le_of_ble_eq_true rfl, Nat.le_of_ble_eq_true rfl⟩ ⟨Nat.le_of_ble_eq_true rfl, Nat.le_of_ble_eq_true rfl⟩ rfl rfl (Nat.le_of_ble_eq_true rfl) dX12_isState_8 (fun v τ hq => ?_)
  obtain ⟨r1, rfl, h⟩ := hq
  obtain ⟨s2, es2⟩ : ∃ z, z = τ := ⟨_, rfl⟩
  rw [← es2] at h ⊢
  clear es2
  exact ga_zret hC dX12_isState_11 h.1 ⟨_, rfl, h.2⟩
def M_X12_isChoice (v1 : Int32) (v2 : Int32) (σ : cg_S) (Q : Int32 → cg_S → Prop) : Prop := cg_M cg_WM yX12_isChoice cX12_isChoice 3 (some .boolean) (cg_R 2) (fun ad => [.ref (ad 0), .int v1, .int v2]) σ (cg_qi Q)
theorem M_X12_isChoice.mono {v1 : Int32} {v2 : Int32} {σ : cg_S} {Q Q2 : Int32 → cg_S → Prop} (h : M_X12_isChoice v1 v2 σ Q) (hq : ∀ r τ, Q r τ → Q2 r τ) : M_X12_isChoice v1 v2 σ Q2 := cg_M.mono h (fun ad v τ ⟨r, e, q⟩ => ⟨r, e, hq r τ q⟩)
set_option maxRecDepth 100000 in
set_option maxHeartbeats 4000000 in
theorem v_X12_isChoice {v1 : Int32} {v2 : Int32} {σ : cg_S} {Q : Int32 → cg_S → Prop}
    (h : M_X12_isState v1 σ (fun r1 s2 => (r1 = 0 → Q 0 s2) ∧ (¬ r1 = 0 → vp_in v1 7 ∧ M_X12_in v2 0 ((s2.1 3 v1.toNatClampNeg) - 1) s2 (fun r5 s6 => (r5 = 0 → Q 0 s6) ∧ (¬ r5 = 0 → Q 1 s6))))) : M_X12_isChoice v1 v2 σ Q := by
  refine cg_entry (lv := fun ad => [(0, .ref (ad 0)), (1, .int v1), (2, .int v2)]) (by decide +kernel) (fun _ => rfl) (fun _ => Nat.le_of_ble_eq_true rfl) ?_
  intro p l e s m args below meth c D cy ad hC
  refine ga_aload_n hC dX12_isChoice_0 0 rfl rfl ?_
  refine ga_iload_n hC dX12_isChoice_1 1 rfl rfl ?_
  refine ga_callV (As := [.int v1]) (st := []) (k := 0) (n := 1) hC h q_7_1 q_7_3 q_0_14 q_1_13 q_7_4 rfl rfl rfl (by decide +kernel) ⟨Nat.le_of_ble_eq_true rfl, Nat.le_of_ble_eq_true rfl⟩ ⟨Nat.le_of_ble_eq_true rfl, Nat.le_of_ble_eq_true rfl⟩ rfl rfl rfl (by decide) rfl (Nat.le_of_ble_eq_true rfl) dX12_isChoice_2 (fun v τ hq => ?_)
  obtain ⟨r1, rfl, h⟩ := hq
  obtain ⟨s2, es2⟩ : ∃ z, z = τ := ⟨_, rfl⟩
  rw [← es2] at h ⊢
  clear es2
  refine ga_if_eq (tgt := 28) hC dX12_isChoice_5 (by decide) (fun hc => ?_) (fun hc => ?_)
  · have h := h.1 hc
    refine ga_iconst (v := 0) hC dX12_isChoice_28 (by decide) ?_
    exact ga_zret hC dX12_isChoice_29 (by decide) ⟨_, rfl, h⟩
  · have h := h.2 hc
    refine ga_iload_n hC dX12_isChoice_8 2 rfl rfl ?_
    refine ga_iconst (v := 0) hC dX12_isChoice_9 (by decide) ?_
    refine ga_aload_n hC dX12_isChoice_10 0 rfl rfl ?_
    refine gM_0_8 hC q_6_93 dX12_isChoice_11 ?_
    refine ga_iload_n hC dX12_isChoice_14 1 rfl rfl ?_
    obtain ⟨h4, h⟩ := h
    refine ga_iald hC aM_3 (by decide) h4 dX12_isChoice_15 ?_
    refine ga_iconst (v := 1) hC dX12_isChoice_16 (by decide) ?_
    refine ga_isub hC dX12_isChoice_17 ?_
    refine ga_callS (As := [.int v2, .int 0, .int ((s2.1 3 v1.toNatClampNeg) - 1)]) (st := []) (n := 3) hC h q_6_226 q_6_227 q_1_13 q_6_228 rfl rfl rfl (by decide +kernel) ⟨Nat.le_of_ble_eq_true rfl, Nat.le_of_ble_eq_true rfl⟩ ⟨Nat.le_of_ble_eq_true rfl, Nat.le_of_ble_eq_true rfl⟩ rfl rfl (Nat.le_of_ble_eq_true rfl) dX12_isChoice_18 (fun v τ hq => ?_)
    obtain ⟨r5, rfl, h⟩ := hq
    obtain ⟨s6, es6⟩ : ∃ z, z = τ := ⟨_, rfl⟩
    rw [← es6] at h ⊢
    clear es6
    refine ga_if_eq (tgt := 28) hC dX12_isChoice_21 (by decide) (fun hc => ?_) (fun hc => ?_)
    · have h := h.1 hc
      refine ga_iconst (v := 0) hC dX12_isChoice_28 (by decide) ?_
      exact ga_zret hC dX12_isChoice_29 (by decide) ⟨_, rfl, h⟩
    · have h := h.2 hc
      refine ga_iconst (v := 1) hC dX12_isChoice_24 (by decide) ?_
      refine ga_goto (tgt := 29) hC dX12_isChoice_25 (by decide) ?_
      exact ga_zret hC dX12_isChoice_29 (by decide) ⟨_, rfl, h⟩
def M_X12_addState (v1 : Int32) (v2 : Int32) (σ : cg_S) (Q : Int32 → cg_S → Prop) : Prop := cg_M cg_WM yX12_addState cX12_addState 3 (some .int) (cg_R 1) (fun ad => [.ref (ad 0), .int v1, .int v2]) σ (cg_qi Q)
theorem M_X12_addState.mono {v1 : Int32} {v2 : Int32} {σ : cg_S} {Q Q2 : Int32 → cg_S → Prop} (h : M_X12_addState v1 v2 σ Q) (hq : ∀ r τ, Q r τ → Q2 r τ) : M_X12_addState v1 v2 σ Q2 := cg_M.mono h (fun ad v τ ⟨r, e, q⟩ => ⟨r, e, hq r τ q⟩)
def L_X12_addState_12 (v1 : Int32) (v2 : Int32) (σ : cg_S) (Q : Int32 → cg_S → Prop) : Prop := cg_L cg_WM RX12 cX12_addState 3 (some .int) (cg_R 1) 12 (fun ad => [(0, .ref (ad 0)), (1, .int v1), (2, .int v2)]) (fun ad => []) σ (cg_qi Q)
def L_X12_addState_21 (σ : cg_S) (Q : Int32 → cg_S → Prop) : Prop := cg_L cg_WM RX12 cX12_addState 3 (some .int) (cg_R 1) 21 (fun ad => [(0, .ref (ad 0))]) (fun ad => []) σ (cg_qi Q)
set_option maxRecDepth 100000 in
set_option maxHeartbeats 4000000 in
theorem v_X12_addState_21 {σ : cg_S} {Q : Int32 → cg_S → Prop}
    (h : M_X12_fails 1 σ (fun r1 s2 => Q r1 s2)) : L_X12_addState_21 σ Q := by
  intro p l e s m args below meth c D cy ad hC
  refine ga_aload_n hC dX12_addState_21 0 rfl rfl ?_
  refine ga_iconst (v := 1) hC dX12_addState_22 (by decide) ?_
  refine ga_callV (As := [.int 1]) (st := []) (k := 0) (n := 1) hC h q_6_229 q_6_231 q_0_12 q_1_13 q_6_232 rfl rfl rfl (by decide +kernel) ⟨Nat.le_of_ble_eq_true rfl, Nat.le_of_ble_eq_true rfl⟩ ⟨Nat.le_of_ble_eq_true rfl, Nat.le_of_ble_eq_true rfl⟩ rfl rfl rfl (by decide) rfl (Nat.le_of_ble_eq_true rfl) dX12_addState_23 (fun v τ hq => ?_)
  obtain ⟨r1, rfl, h⟩ := hq
  obtain ⟨s2, es2⟩ : ∃ z, z = τ := ⟨_, rfl⟩
  rw [← es2] at h ⊢
  clear es2
  exact ga_iret hC dX12_addState_26 ⟨_, rfl, h⟩
set_option maxRecDepth 100000 in
set_option maxHeartbeats 4000000 in
theorem v_X12_addState_12 {v1 : Int32} {v2 : Int32} {σ : cg_S} {Q : Int32 → cg_S → Prop}
    (h : M_X12_in v2 0 3 σ (fun r1 s2 => (¬ r1 = 0 → (¬ (s2.1 0 1) = 7 → M_X12_changes s2 (fun s5 => vp_in (s5.1 0 1) 7 ∧ ∀ s8 : cg_S, s8 = cg_i s5 1 (s5.1 0 1).toNatClampNeg v1 → vp_in (s8.1 0 1) 7 ∧ ∀ s10 : cg_S, s10 = cg_i s8 2 (s8.1 0 1).toNatClampNeg v2 → ∀ s11 : cg_S, s11 = cg_i s10 0 1 ((s10.1 0 1) + 1) → Q ((s11.1 0 1) - 1) s11)) ∧ ((s2.1 0 1) = 7 → M_X12_fails 2 s2 (fun r12 s13 => Q r12 s13))) ∧ (r1 = 0 → L_X12_addState_21 s2 Q))) : L_X12_addState_12 v1 v2 σ Q := by
  intro p l e s m args below meth c D cy ad hC
  refine ga_iload_n hC dX12_addState_12 2 rfl rfl ?_
  refine ga_iconst (v := 0) hC dX12_addState_13 (by decide) ?_
  refine ga_iconst (v := 3) hC dX12_addState_14 (by decide) ?_
  refine ga_callS (As := [.int v2, .int 0, .int 3]) (st := []) (n := 3) hC h q_6_226 q_6_227 q_1_13 q_6_228 rfl rfl rfl (by decide +kernel) ⟨Nat.le_of_ble_eq_true rfl, Nat.le_of_ble_eq_true rfl⟩ ⟨Nat.le_of_ble_eq_true rfl, Nat.le_of_ble_eq_true rfl⟩ rfl rfl (Nat.le_of_ble_eq_true rfl) dX12_addState_15 (fun v τ hq => ?_)
  obtain ⟨r1, rfl, h⟩ := hq
  obtain ⟨s2, es2⟩ : ∃ z, z = τ := ⟨_, rfl⟩
  rw [← es2] at h ⊢
  clear es2
  refine ga_if_ne (tgt := 27) hC dX12_addState_18 (by decide) (fun hc => ?_) (fun hc => ?_)
  · have h := h.1 hc
    refine ga_aload_n hC dX12_addState_27 0 rfl rfl ?_
    refine gM_0_1 hC q_6_86 dX12_addState_28 ?_
    refine ga_bipush (v := 7) hC dX12_addState_31 (by decide) ?_
    refine ga_icmp_ne (tgt := 42) hC dX12_addState_33 (by decide) (fun hc => ?_) (fun hc => ?_)
    · have h := h.1 hc
      refine ga_aload_n hC dX12_addState_42 0 rfl rfl ?_
      refine ga_callV (As := []) (st := []) (k := 0) (n := 0) hC h q_6_233 q_6_235 q_0_13 q_1_13 q_6_236 rfl rfl rfl (by decide +kernel) ⟨Nat.le_of_ble_eq_true rfl, Nat.le_of_ble_eq_true rfl⟩ ⟨Nat.le_of_ble_eq_true rfl, Nat.le_of_ble_eq_true rfl⟩ rfl rfl rfl (by decide) rfl (Nat.le_of_ble_eq_true rfl) dX12_addState_43 (fun v τ hq => ?_)
      obtain ⟨rfl, h⟩ := hq
      obtain ⟨s5, es5⟩ : ∃ z, z = τ := ⟨_, rfl⟩
      rw [← es5] at h ⊢
      clear es5
      refine ga_aload_n hC dX12_addState_46 0 rfl rfl ?_
      refine gM_0_6 hC q_6_91 dX12_addState_47 ?_
      refine ga_aload_n hC dX12_addState_50 0 rfl rfl ?_
      refine gM_0_1 hC q_6_86 dX12_addState_51 ?_
      refine ga_iload_n hC dX12_addState_54 1 rfl rfl ?_
      obtain ⟨h7, h⟩ := h
      refine ga_iast hC aM_1 (by decide) h7 dX12_addState_55 ?_
      refine ga_sig (σ := cg_i s5 1 (s5.1 0 1).toNatClampNeg v1) (fun s8 es8 => ?_)
      have h := h s8 es8
      refine ga_aload_n hC dX12_addState_56 0 rfl rfl ?_
      refine gM_0_7 hC q_6_92 dX12_addState_57 ?_
      refine ga_aload_n hC dX12_addState_60 0 rfl rfl ?_
      refine gM_0_1 hC q_6_86 dX12_addState_61 ?_
      refine ga_iload_n hC dX12_addState_64 2 rfl rfl ?_
      obtain ⟨h9, h⟩ := h
      refine ga_iast hC aM_2 (by decide) h9 dX12_addState_65 ?_
      refine ga_sig (σ := cg_i s8 2 (s8.1 0 1).toNatClampNeg v2) (fun s10 es10 => ?_)
      have h := h s10 es10
      refine ga_aload_n hC dX12_addState_66 0 rfl rfl ?_
      refine ga_dup hC dX12_addState_67 rfl ?_
      refine gM_0_1 hC q_6_86 dX12_addState_68 ?_
      refine ga_iconst (v := 1) hC dX12_addState_71 (by decide) ?_
      refine ga_iadd hC dX12_addState_72 ?_
      refine pM_0_1 hC q_6_86 dX12_addState_73 ?_
      refine ga_sig (σ := cg_i s10 0 1 ((s10.1 0 1) + 1)) (fun s11 es11 => ?_)
      have h := h s11 es11
      refine ga_aload_n hC dX12_addState_76 0 rfl rfl ?_
      refine gM_0_1 hC q_6_86 dX12_addState_77 ?_
      refine ga_iconst (v := 1) hC dX12_addState_80 (by decide) ?_
      refine ga_isub hC dX12_addState_81 ?_
      exact ga_iret hC dX12_addState_82 ⟨_, rfl, h⟩
    · have h := h.2 hc
      refine ga_aload_n hC dX12_addState_36 0 rfl rfl ?_
      refine ga_iconst (v := 2) hC dX12_addState_37 (by decide) ?_
      refine ga_callV (As := [.int 2]) (st := []) (k := 0) (n := 1) hC h q_6_229 q_6_231 q_0_12 q_1_13 q_6_232 rfl rfl rfl (by decide +kernel) ⟨Nat.le_of_ble_eq_true rfl, Nat.le_of_ble_eq_true rfl⟩ ⟨Nat.le_of_ble_eq_true rfl, Nat.le_of_ble_eq_true rfl⟩ rfl rfl rfl (by decide) rfl (Nat.le_of_ble_eq_true rfl) dX12_addState_38 (fun v τ hq => ?_)
      obtain ⟨r12, rfl, h⟩ := hq
      obtain ⟨s13, es13⟩ : ∃ z, z = τ := ⟨_, rfl⟩
      rw [← es13] at h ⊢
      clear es13
      exact ga_iret hC dX12_addState_41 ⟨_, rfl, h⟩
  · have h := h.2 hc
    refine ga_locals [0] rfl ?_
    exact h p l e s m args below meth c D cy ad hC
set_option maxRecDepth 100000 in
set_option maxHeartbeats 4000000 in
theorem v_X12_addState {v1 : Int32} {v2 : Int32} {σ : cg_S} {Q : Int32 → cg_S → Prop}
    (h : (v1 = 97 → L_X12_addState_12 v1 v2 σ Q) ∧ (¬ v1 = 97 → (¬ v1 = 98 → L_X12_addState_21 σ Q) ∧ (v1 = 98 → L_X12_addState_12 v1 v2 σ Q))) : M_X12_addState v1 v2 σ Q := by
  refine cg_entry (lv := fun ad => [(0, .ref (ad 0)), (1, .int v1), (2, .int v2)]) (by decide +kernel) (fun _ => rfl) (fun _ => Nat.le_of_ble_eq_true rfl) ?_
  intro p l e s m args below meth c D cy ad hC
  refine ga_iload_n hC dX12_addState_0 1 rfl rfl ?_
  refine ga_bipush (v := 97) hC dX12_addState_1 (by decide) ?_
  refine ga_icmp_eq (tgt := 12) hC dX12_addState_3 (by decide) (fun hc => ?_) (fun hc => ?_)
  · have h := h.1 hc
    refine ga_locals [0, 1, 2] rfl ?_
    exact h p l e s m args below meth c D cy ad hC
  · have h := h.2 hc
    refine ga_iload_n hC dX12_addState_6 1 rfl rfl ?_
    refine ga_bipush (v := 98) hC dX12_addState_7 (by decide) ?_
    refine ga_icmp_ne (tgt := 21) hC dX12_addState_9 (by decide) (fun hc => ?_) (fun hc => ?_)
    · have h := h.1 hc
      refine ga_locals [0] rfl ?_
      exact h p l e s m args below meth c D cy ad hC
    · have h := h.2 hc
      refine ga_locals [0, 1, 2] rfl ?_
      exact h p l e s m args below meth c D cy ad hC
def M_X12_addChoice (v1 : Int32) (v2 : Int32) (v3 : Int32) (σ : cg_S) (Q : Int32 → cg_S → Prop) : Prop := cg_M cg_WM yX12_addChoice cX12_addChoice 5 (some .int) (cg_R 2) (fun ad => [.ref (ad 0), .int v1, .int v2, .int v3]) σ (cg_qi Q)
theorem M_X12_addChoice.mono {v1 : Int32} {v2 : Int32} {v3 : Int32} {σ : cg_S} {Q Q2 : Int32 → cg_S → Prop} (h : M_X12_addChoice v1 v2 v3 σ Q) (hq : ∀ r τ, Q r τ → Q2 r τ) : M_X12_addChoice v1 v2 v3 σ Q2 := cg_M.mono h (fun ad v τ ⟨r, e, q⟩ => ⟨r, e, hq r τ q⟩)
def L_X12_addChoice_34 (σ : cg_S) (Q : Int32 → cg_S → Prop) : Prop := cg_L cg_WM RX12 cX12_addChoice 5 (some .int) (cg_R 2) 34 (fun ad => [(0, .ref (ad 0))]) (fun ad => []) σ (cg_qi Q)
set_option maxRecDepth 100000 in
set_option maxHeartbeats 4000000 in
theorem v_X12_addChoice_34 {σ : cg_S} {Q : Int32 → cg_S → Prop}
    (h : M_X12_fails 2 σ (fun r1 s2 => Q r1 s2)) : L_X12_addChoice_34 σ Q := by
  intro p l e s m args below meth c D cy ad hC
  refine ga_aload_n hC dX12_addChoice_34 0 rfl rfl ?_
  refine ga_iconst (v := 2) hC dX12_addChoice_35 (by decide) ?_
  refine ga_callV (As := [.int 2]) (st := []) (k := 0) (n := 1) hC h q_6_229 q_6_231 q_0_12 q_1_13 q_6_232 rfl rfl rfl (by decide +kernel) ⟨Nat.le_of_ble_eq_true rfl, Nat.le_of_ble_eq_true rfl⟩ ⟨Nat.le_of_ble_eq_true rfl, Nat.le_of_ble_eq_true rfl⟩ rfl rfl rfl (by decide) rfl (Nat.le_of_ble_eq_true rfl) dX12_addChoice_36 (fun v τ hq => ?_)
  obtain ⟨r1, rfl, h⟩ := hq
  obtain ⟨s2, es2⟩ : ∃ z, z = τ := ⟨_, rfl⟩
  rw [← es2] at h ⊢
  clear es2
  exact ga_iret hC dX12_addChoice_39 ⟨_, rfl, h⟩
set_option maxRecDepth 100000 in
set_option maxHeartbeats 4000000 in
theorem v_X12_addChoice {v1 : Int32} {v2 : Int32} {v3 : Int32} {σ : cg_S} {Q : Int32 → cg_S → Prop}
    (h : M_X12_isState v1 σ (fun r1 s2 => (¬ r1 = 0 → M_X12_in v2 0 9 s2 (fun r4 s5 => (r4 = 0 → L_X12_addChoice_34 s5 Q) ∧ (¬ r4 = 0 → M_X12_in v3 0 9 s5 (fun r7 s8 => (¬ r7 = 0 → vp_in v1 7 ∧ (¬ (s8.1 3 v1.toNatClampNeg) = 3 → M_X12_changes s8 (fun s12 => vp_in v1 7 ∧ ∀ x15 : Int32, x15 = (3 * v1) + (s12.1 3 v1.toNatClampNeg) → vp_in x15 21 ∧ ∀ s17 : cg_S, s17 = cg_i s12 7 x15.toNatClampNeg v2 → vp_in x15 21 ∧ ∀ s19 : cg_S, s19 = cg_i s17 8 x15.toNatClampNeg v3 → vp_in v1 7 ∧ vp_in v1 7 ∧ ∀ s22 : cg_S, s22 = cg_i s19 3 v1.toNatClampNeg ((s19.1 3 v1.toNatClampNeg) + 1) → vp_in v1 7 ∧ Q ((s22.1 3 v1.toNatClampNeg) - 1) s22)) ∧ ((s8.1 3 v1.toNatClampNeg) = 3 → M_X12_fails 3 s8 (fun r24 s25 => Q r24 s25))) ∧ (r7 = 0 → L_X12_addChoice_34 s8 Q))))) ∧ (r1 = 0 → M_X12_fails 1 s2 (fun r27 s28 => Q r27 s28)))) : M_X12_addChoice v1 v2 v3 σ Q := by
  refine cg_entry (lv := fun ad => [(0, .ref (ad 0)), (1, .int v1), (2, .int v2), (3, .int v3)]) (by decide +kernel) (fun _ => rfl) (fun _ => Nat.le_of_ble_eq_true rfl) ?_
  intro p l e s m args below meth c D cy ad hC
  refine ga_aload_n hC dX12_addChoice_0 0 rfl rfl ?_
  refine ga_iload_n hC dX12_addChoice_1 1 rfl rfl ?_
  refine ga_callV (As := [.int v1]) (st := []) (k := 0) (n := 1) hC h q_7_1 q_7_3 q_0_14 q_1_13 q_7_4 rfl rfl rfl (by decide +kernel) ⟨Nat.le_of_ble_eq_true rfl, Nat.le_of_ble_eq_true rfl⟩ ⟨Nat.le_of_ble_eq_true rfl, Nat.le_of_ble_eq_true rfl⟩ rfl rfl rfl (by decide) rfl (Nat.le_of_ble_eq_true rfl) dX12_addChoice_2 (fun v τ hq => ?_)
  obtain ⟨r1, rfl, h⟩ := hq
  obtain ⟨s2, es2⟩ : ∃ z, z = τ := ⟨_, rfl⟩
  rw [← es2] at h ⊢
  clear es2
  refine ga_if_ne (tgt := 14) hC dX12_addChoice_5 (by decide) (fun hc => ?_) (fun hc => ?_)
  · have h := h.1 hc
    refine ga_iload_n hC dX12_addChoice_14 2 rfl rfl ?_
    refine ga_iconst (v := 0) hC dX12_addChoice_15 (by decide) ?_
    refine ga_bipush (v := 9) hC dX12_addChoice_16 (by decide) ?_
    refine ga_callS (As := [.int v2, .int 0, .int 9]) (st := []) (n := 3) hC h q_6_226 q_6_227 q_1_13 q_6_228 rfl rfl rfl (by decide +kernel) ⟨Nat.le_of_ble_eq_true rfl, Nat.le_of_ble_eq_true rfl⟩ ⟨Nat.le_of_ble_eq_true rfl, Nat.le_of_ble_eq_true rfl⟩ rfl rfl (Nat.le_of_ble_eq_true rfl) dX12_addChoice_18 (fun v τ hq => ?_)
    obtain ⟨r4, rfl, h⟩ := hq
    obtain ⟨s5, es5⟩ : ∃ z, z = τ := ⟨_, rfl⟩
    rw [← es5] at h ⊢
    clear es5
    refine ga_if_eq (tgt := 34) hC dX12_addChoice_21 (by decide) (fun hc => ?_) (fun hc => ?_)
    · have h := h.1 hc
      refine ga_locals [0] rfl ?_
      exact h p l e s m args below meth c D cy ad hC
    · have h := h.2 hc
      refine ga_iload_n hC dX12_addChoice_24 3 rfl rfl ?_
      refine ga_iconst (v := 0) hC dX12_addChoice_25 (by decide) ?_
      refine ga_bipush (v := 9) hC dX12_addChoice_26 (by decide) ?_
      refine ga_callS (As := [.int v3, .int 0, .int 9]) (st := []) (n := 3) hC h q_6_226 q_6_227 q_1_13 q_6_228 rfl rfl rfl (by decide +kernel) ⟨Nat.le_of_ble_eq_true rfl, Nat.le_of_ble_eq_true rfl⟩ ⟨Nat.le_of_ble_eq_true rfl, Nat.le_of_ble_eq_true rfl⟩ rfl rfl (Nat.le_of_ble_eq_true rfl) dX12_addChoice_28 (fun v τ hq => ?_)
      obtain ⟨r7, rfl, h⟩ := hq
      obtain ⟨s8, es8⟩ : ∃ z, z = τ := ⟨_, rfl⟩
      rw [← es8] at h ⊢
      clear es8
      refine ga_if_ne (tgt := 40) hC dX12_addChoice_31 (by decide) (fun hc => ?_) (fun hc => ?_)
      · have h := h.1 hc
        refine ga_aload_n hC dX12_addChoice_40 0 rfl rfl ?_
        refine gM_0_8 hC q_6_93 dX12_addChoice_41 ?_
        refine ga_iload_n hC dX12_addChoice_44 1 rfl rfl ?_
        obtain ⟨h10, h⟩ := h
        refine ga_iald hC aM_3 (by decide) h10 dX12_addChoice_45 ?_
        refine ga_iconst (v := 3) hC dX12_addChoice_46 (by decide) ?_
        refine ga_icmp_ne (tgt := 56) hC dX12_addChoice_47 (by decide) (fun hc => ?_) (fun hc => ?_)
        · have h := h.1 hc
          refine ga_aload_n hC dX12_addChoice_56 0 rfl rfl ?_
          refine ga_callV (As := []) (st := []) (k := 0) (n := 0) hC h q_6_233 q_6_235 q_0_13 q_1_13 q_6_236 rfl rfl rfl (by decide +kernel) ⟨Nat.le_of_ble_eq_true rfl, Nat.le_of_ble_eq_true rfl⟩ ⟨Nat.le_of_ble_eq_true rfl, Nat.le_of_ble_eq_true rfl⟩ rfl rfl rfl (by decide) rfl (Nat.le_of_ble_eq_true rfl) dX12_addChoice_57 (fun v τ hq => ?_)
          obtain ⟨rfl, h⟩ := hq
          obtain ⟨s12, es12⟩ : ∃ z, z = τ := ⟨_, rfl⟩
          rw [← es12] at h ⊢
          clear es12
          refine ga_iconst (v := 3) hC dX12_addChoice_60 (by decide) ?_
          refine ga_iload_n hC dX12_addChoice_61 1 rfl rfl ?_
          refine ga_imul hC dX12_addChoice_62 ?_
          refine ga_aload_n hC dX12_addChoice_63 0 rfl rfl ?_
          refine gM_0_8 hC q_6_93 dX12_addChoice_64 ?_
          refine ga_iload_n hC dX12_addChoice_67 1 rfl rfl ?_
          obtain ⟨h14, h⟩ := h
          refine ga_iald hC aM_3 (by decide) h14 dX12_addChoice_68 ?_
          refine ga_iadd hC dX12_addChoice_69 ?_
          refine ga_topi (fun x15 ex15 => ?_)
          have h := h x15 ex15
          refine ga_istore (lv' := [(4, .int x15), (0, .ref (ad 0)), (1, .int v1), (2, .int v2), (3, .int v3)]) hC dX12_addChoice_70 (by decide) rfl ?_
          refine ga_aload_n hC dX12_addChoice_72 1 rfl rfl ?_
          refine gM_0_12 hC q_6_97 dX12_addChoice_73 ?_
          refine ga_iload hC dX12_addChoice_76 0 rfl ?_
          refine ga_iload_n hC dX12_addChoice_78 3 rfl rfl ?_
          obtain ⟨h16, h⟩ := h
          refine ga_iast hC aM_7 (by decide) h16 dX12_addChoice_79 ?_
          refine ga_sig (σ := cg_i s12 7 x15.toNatClampNeg v2) (fun s17 es17 => ?_)
          have h := h s17 es17
          refine ga_aload_n hC dX12_addChoice_80 1 rfl rfl ?_
          refine gM_0_13 hC q_6_98 dX12_addChoice_81 ?_
          refine ga_iload hC dX12_addChoice_84 0 rfl ?_
          refine ga_iload_n hC dX12_addChoice_86 4 rfl rfl ?_
          obtain ⟨h18, h⟩ := h
          refine ga_iast hC aM_8 (by decide) h18 dX12_addChoice_87 ?_
          refine ga_sig (σ := cg_i s17 8 x15.toNatClampNeg v3) (fun s19 es19 => ?_)
          have h := h s19 es19
          refine ga_aload_n hC dX12_addChoice_88 1 rfl rfl ?_
          refine gM_0_8 hC q_6_93 dX12_addChoice_89 ?_
          refine ga_iload_n hC dX12_addChoice_92 2 rfl rfl ?_
          refine ga_dup2_11 hC dX12_addChoice_93 rfl rfl ?_
          obtain ⟨h20, h⟩ := h
          refine ga_iald hC aM_3 (by decide) h20 dX12_addChoice_94 ?_
          refine ga_iconst (v := 1) hC dX12_addChoice_95 (by decide) ?_
          refine ga_iadd hC dX12_addChoice_96 ?_
          obtain ⟨h21, h⟩ := h
          refine ga_iast hC aM_3 (by decide) h21 dX12_addChoice_97 ?_
          refine ga_sig (σ := cg_i s19 3 v1.toNatClampNeg ((s19.1 3 v1.toNatClampNeg) + 1)) (fun s22 es22 => ?_)
          have h := h s22 es22
          refine ga_aload_n hC dX12_addChoice_98 1 rfl rfl ?_
          refine gM_0_8 hC q_6_93 dX12_addChoice_99 ?_
          refine ga_iload_n hC dX12_addChoice_102 2 rfl rfl ?_
          obtain ⟨h23, h⟩ := h
          refine ga_iald hC aM_3 (by decide) h23 dX12_addChoice_103 ?_
          refine ga_iconst (v := 1) hC dX12_addChoice_104 (by decide) ?_
          refine ga_isub hC dX12_addChoice_105 ?_
          exact ga_iret hC dX12_addChoice_106 ⟨_, rfl, h⟩
        · have h := h.2 hc
          refine ga_aload_n hC dX12_addChoice_50 0 rfl rfl ?_
          refine ga_iconst (v := 3) hC dX12_addChoice_51 (by decide) ?_
          refine ga_callV (As := [.int 3]) (st := []) (k := 0) (n := 1) hC h q_6_229 q_6_231 q_0_12 q_1_13 q_6_232 rfl rfl rfl (by decide +kernel) ⟨Nat.le_of_ble_eq_true rfl, Nat.le_of_ble_eq_true rfl⟩ ⟨Nat.le_of_ble_eq_true rfl, Nat.le_of_ble_eq_true rfl⟩ rfl rfl rfl (by decide) rfl (Nat.le_of_ble_eq_true rfl) dX12_addChoice_52 (fun v τ hq => ?_)
          obtain ⟨r24, rfl, h⟩ := hq
          obtain ⟨s25, es25⟩ : ∃ z, z = τ := ⟨_, rfl⟩
          rw [← es25] at h ⊢
          clear es25
          exact ga_iret hC dX12_addChoice_55 ⟨_, rfl, h⟩
      · have h := h.2 hc
        refine ga_locals [0] rfl ?_
        exact h p l e s m args below meth c D cy ad hC
  · have h := h.2 hc
    refine ga_aload_n hC dX12_addChoice_8 0 rfl rfl ?_
    refine ga_iconst (v := 1) hC dX12_addChoice_9 (by decide) ?_
    refine ga_callV (As := [.int 1]) (st := []) (k := 0) (n := 1) hC h q_6_229 q_6_231 q_0_12 q_1_13 q_6_232 rfl rfl rfl (by decide +kernel) ⟨Nat.le_of_ble_eq_true rfl, Nat.le_of_ble_eq_true rfl⟩ ⟨Nat.le_of_ble_eq_true rfl, Nat.le_of_ble_eq_true rfl⟩ rfl rfl rfl (by decide) rfl (Nat.le_of_ble_eq_true rfl) dX12_addChoice_10 (fun v τ hq => ?_)
    obtain ⟨r27, rfl, h⟩ := hq
    obtain ⟨s28, es28⟩ : ∃ z, z = τ := ⟨_, rfl⟩
    rw [← es28] at h ⊢
    clear es28
    exact ga_iret hC dX12_addChoice_13 ⟨_, rfl, h⟩
def M_X12_addWeight (v1 : Int32) (v2 : Int32) (v3 : Int32) (v4 : Int32) (σ : cg_S) (Q : Int32 → cg_S → Prop) : Prop := cg_M cg_WM yX12_addWeight cX12_addWeight 6 (some .int) (cg_R 3) (fun ad => [.ref (ad 0), .int v1, .int v2, .int v3, .int v4]) σ (cg_qi Q)
theorem M_X12_addWeight.mono {v1 : Int32} {v2 : Int32} {v3 : Int32} {v4 : Int32} {σ : cg_S} {Q Q2 : Int32 → cg_S → Prop} (h : M_X12_addWeight v1 v2 v3 v4 σ Q) (hq : ∀ r τ, Q r τ → Q2 r τ) : M_X12_addWeight v1 v2 v3 v4 σ Q2 := cg_M.mono h (fun ad v τ ⟨r, e, q⟩ => ⟨r, e, hq r τ q⟩)
def L_X12_addWeight_17 (σ : cg_S) (Q : Int32 → cg_S → Prop) : Prop := cg_L cg_WM RX12 cX12_addWeight 6 (some .int) (cg_R 3) 17 (fun ad => [(0, .ref (ad 0))]) (fun ad => []) σ (cg_qi Q)
set_option maxRecDepth 100000 in
set_option maxHeartbeats 4000000 in
theorem v_X12_addWeight_17 {σ : cg_S} {Q : Int32 → cg_S → Prop}
    (h : M_X12_fails 1 σ (fun r1 s2 => Q r1 s2)) : L_X12_addWeight_17 σ Q := by
  intro p l e s m args below meth c D cy ad hC
  refine ga_aload_n hC dX12_addWeight_17 0 rfl rfl ?_
  refine ga_iconst (v := 1) hC dX12_addWeight_18 (by decide) ?_
  refine ga_callV (As := [.int 1]) (st := []) (k := 0) (n := 1) hC h q_6_229 q_6_231 q_0_12 q_1_13 q_6_232 rfl rfl rfl (by decide +kernel) ⟨Nat.le_of_ble_eq_true rfl, Nat.le_of_ble_eq_true rfl⟩ ⟨Nat.le_of_ble_eq_true rfl, Nat.le_of_ble_eq_true rfl⟩ rfl rfl rfl (by decide) rfl (Nat.le_of_ble_eq_true rfl) dX12_addWeight_19 (fun v τ hq => ?_)
  obtain ⟨r1, rfl, h⟩ := hq
  obtain ⟨s2, es2⟩ : ∃ z, z = τ := ⟨_, rfl⟩
  rw [← es2] at h ⊢
  clear es2
  exact ga_iret hC dX12_addWeight_22 ⟨_, rfl, h⟩
set_option maxRecDepth 100000 in
set_option maxHeartbeats 4000000 in
theorem v_X12_addWeight {v1 : Int32} {v2 : Int32} {v3 : Int32} {v4 : Int32} {σ : cg_S} {Q : Int32 → cg_S → Prop}
    (h : M_X12_isChoice v1 v2 σ (fun r1 s2 => (r1 = 0 → L_X12_addWeight_17 s2 Q) ∧ (¬ r1 = 0 → M_X12_isState v3 s2 (fun r4 s5 => (¬ r4 = 0 → M_X12_in v4 1 6 s5 (fun r7 s8 => (¬ r7 = 0 → ∀ x10 : Int32, x10 = (3 * v1) + v2 → vp_in x10 21 ∧ (((s8.1 9 x10.toNatClampNeg) + v4) ≤ 6 → M_X12_changes s8 (fun s13 => vp_in ((7 * x10) + v3) 147 ∧ vp_in ((7 * x10) + v3) 147 ∧ ∀ s17 : cg_S, s17 = cg_i s13 10 ((7 * x10) + v3).toNatClampNeg ((s13.1 10 ((7 * x10) + v3).toNatClampNeg) + v4) → vp_in x10 21 ∧ vp_in x10 21 ∧ ∀ s20 : cg_S, s20 = cg_i s17 9 x10.toNatClampNeg ((s17.1 9 x10.toNatClampNeg) + v4) → vp_in x10 21 ∧ Q (s20.1 9 x10.toNatClampNeg) s20)) ∧ (¬ ((s8.1 9 x10.toNatClampNeg) + v4) ≤ 6 → M_X12_fails 3 s8 (fun r22 s23 => Q r22 s23))) ∧ (r7 = 0 → M_X12_fails 2 s8 (fun r25 s26 => Q r25 s26)))) ∧ (r4 = 0 → L_X12_addWeight_17 s5 Q))))) : M_X12_addWeight v1 v2 v3 v4 σ Q := by
  refine cg_entry (lv := fun ad => [(0, .ref (ad 0)), (1, .int v1), (2, .int v2), (3, .int v3), (4, .int v4)]) (by decide +kernel) (fun _ => rfl) (fun _ => Nat.le_of_ble_eq_true rfl) ?_
  intro p l e s m args below meth c D cy ad hC
  refine ga_aload_n hC dX12_addWeight_0 0 rfl rfl ?_
  refine ga_iload_n hC dX12_addWeight_1 1 rfl rfl ?_
  refine ga_iload_n hC dX12_addWeight_2 2 rfl rfl ?_
  refine ga_callV (As := [.int v1, .int v2]) (st := []) (k := 0) (n := 2) hC h q_7_9 q_7_11 q_0_15 q_1_13 q_7_12 rfl rfl rfl (by decide +kernel) ⟨Nat.le_of_ble_eq_true rfl, Nat.le_of_ble_eq_true rfl⟩ ⟨Nat.le_of_ble_eq_true rfl, Nat.le_of_ble_eq_true rfl⟩ rfl rfl rfl (by decide) rfl (Nat.le_of_ble_eq_true rfl) dX12_addWeight_3 (fun v τ hq => ?_)
  obtain ⟨r1, rfl, h⟩ := hq
  obtain ⟨s2, es2⟩ : ∃ z, z = τ := ⟨_, rfl⟩
  rw [← es2] at h ⊢
  clear es2
  refine ga_if_eq (tgt := 17) hC dX12_addWeight_6 (by decide) (fun hc => ?_) (fun hc => ?_)
  · have h := h.1 hc
    refine ga_locals [0] rfl ?_
    exact h p l e s m args below meth c D cy ad hC
  · have h := h.2 hc
    refine ga_aload_n hC dX12_addWeight_9 0 rfl rfl ?_
    refine ga_iload_n hC dX12_addWeight_10 3 rfl rfl ?_
    refine ga_callV (As := [.int v3]) (st := []) (k := 0) (n := 1) hC h q_7_1 q_7_3 q_0_14 q_1_13 q_7_4 rfl rfl rfl (by decide +kernel) ⟨Nat.le_of_ble_eq_true rfl, Nat.le_of_ble_eq_true rfl⟩ ⟨Nat.le_of_ble_eq_true rfl, Nat.le_of_ble_eq_true rfl⟩ rfl rfl rfl (by decide) rfl (Nat.le_of_ble_eq_true rfl) dX12_addWeight_11 (fun v τ hq => ?_)
    obtain ⟨r4, rfl, h⟩ := hq
    obtain ⟨s5, es5⟩ : ∃ z, z = τ := ⟨_, rfl⟩
    rw [← es5] at h ⊢
    clear es5
    refine ga_if_ne (tgt := 23) hC dX12_addWeight_14 (by decide) (fun hc => ?_) (fun hc => ?_)
    · have h := h.1 hc
      refine ga_iload hC dX12_addWeight_23 4 rfl ?_
      refine ga_iconst (v := 1) hC dX12_addWeight_25 (by decide) ?_
      refine ga_bipush (v := 6) hC dX12_addWeight_26 (by decide) ?_
      refine ga_callS (As := [.int v4, .int 1, .int 6]) (st := []) (n := 3) hC h q_6_226 q_6_227 q_1_13 q_6_228 rfl rfl rfl (by decide +kernel) ⟨Nat.le_of_ble_eq_true rfl, Nat.le_of_ble_eq_true rfl⟩ ⟨Nat.le_of_ble_eq_true rfl, Nat.le_of_ble_eq_true rfl⟩ rfl rfl (Nat.le_of_ble_eq_true rfl) dX12_addWeight_28 (fun v τ hq => ?_)
      obtain ⟨r7, rfl, h⟩ := hq
      obtain ⟨s8, es8⟩ : ∃ z, z = τ := ⟨_, rfl⟩
      rw [← es8] at h ⊢
      clear es8
      refine ga_if_ne (tgt := 40) hC dX12_addWeight_31 (by decide) (fun hc => ?_) (fun hc => ?_)
      · have h := h.1 hc
        refine ga_iconst (v := 3) hC dX12_addWeight_40 (by decide) ?_
        refine ga_iload_n hC dX12_addWeight_41 1 rfl rfl ?_
        refine ga_imul hC dX12_addWeight_42 ?_
        refine ga_iload_n hC dX12_addWeight_43 2 rfl rfl ?_
        refine ga_iadd hC dX12_addWeight_44 ?_
        refine ga_topi (fun x10 ex10 => ?_)
        have h := h x10 ex10
        refine ga_istore (lv' := [(5, .int x10), (0, .ref (ad 0)), (1, .int v1), (2, .int v2), (3, .int v3), (4, .int v4)]) hC dX12_addWeight_45 (by decide) rfl ?_
        refine ga_aload_n hC dX12_addWeight_47 1 rfl rfl ?_
        refine gM_0_14 hC q_6_99 dX12_addWeight_48 ?_
        refine ga_iload hC dX12_addWeight_51 0 rfl ?_
        obtain ⟨h11, h⟩ := h
        refine ga_iald hC aM_9 (by decide) h11 dX12_addWeight_53 ?_
        refine ga_iload hC dX12_addWeight_54 5 rfl ?_
        refine ga_iadd hC dX12_addWeight_56 ?_
        refine ga_bipush (v := 6) hC dX12_addWeight_57 (by decide) ?_
        refine ga_icmp_le (tgt := 68) hC dX12_addWeight_59 (by decide) (fun hc => ?_) (fun hc => ?_)
        · have h := h.1 hc
          refine ga_aload_n hC dX12_addWeight_68 1 rfl rfl ?_
          refine ga_callV (As := []) (st := []) (k := 0) (n := 0) hC h q_6_233 q_6_235 q_0_13 q_1_13 q_6_236 rfl rfl rfl (by decide +kernel) ⟨Nat.le_of_ble_eq_true rfl, Nat.le_of_ble_eq_true rfl⟩ ⟨Nat.le_of_ble_eq_true rfl, Nat.le_of_ble_eq_true rfl⟩ rfl rfl rfl (by decide) rfl (Nat.le_of_ble_eq_true rfl) dX12_addWeight_69 (fun v τ hq => ?_)
          obtain ⟨rfl, h⟩ := hq
          obtain ⟨s13, es13⟩ : ∃ z, z = τ := ⟨_, rfl⟩
          rw [← es13] at h ⊢
          clear es13
          refine ga_aload_n hC dX12_addWeight_72 1 rfl rfl ?_
          refine gM_0_15 hC q_6_100 dX12_addWeight_73 ?_
          refine ga_bipush (v := 7) hC dX12_addWeight_76 (by decide) ?_
          refine ga_iload hC dX12_addWeight_78 0 rfl ?_
          refine ga_imul hC dX12_addWeight_80 ?_
          refine ga_iload_n hC dX12_addWeight_81 4 rfl rfl ?_
          refine ga_iadd hC dX12_addWeight_82 ?_
          refine ga_dup2_11 hC dX12_addWeight_83 rfl rfl ?_
          obtain ⟨h15, h⟩ := h
          refine ga_iald hC aM_10 (by decide) h15 dX12_addWeight_84 ?_
          refine ga_iload hC dX12_addWeight_85 5 rfl ?_
          refine ga_iadd hC dX12_addWeight_87 ?_
          obtain ⟨h16, h⟩ := h
          refine ga_iast hC aM_10 (by decide) h16 dX12_addWeight_88 ?_
          refine ga_sig (σ := cg_i s13 10 ((7 * x10) + v3).toNatClampNeg ((s13.1 10 ((7 * x10) + v3).toNatClampNeg) + v4)) (fun s17 es17 => ?_)
          have h := h s17 es17
          refine ga_aload_n hC dX12_addWeight_89 1 rfl rfl ?_
          refine gM_0_14 hC q_6_99 dX12_addWeight_90 ?_
          refine ga_iload hC dX12_addWeight_93 0 rfl ?_
          refine ga_dup2_11 hC dX12_addWeight_95 rfl rfl ?_
          obtain ⟨h18, h⟩ := h
          refine ga_iald hC aM_9 (by decide) h18 dX12_addWeight_96 ?_
          refine ga_iload hC dX12_addWeight_97 5 rfl ?_
          refine ga_iadd hC dX12_addWeight_99 ?_
          obtain ⟨h19, h⟩ := h
          refine ga_iast hC aM_9 (by decide) h19 dX12_addWeight_100 ?_
          refine ga_sig (σ := cg_i s17 9 x10.toNatClampNeg ((s17.1 9 x10.toNatClampNeg) + v4)) (fun s20 es20 => ?_)
          have h := h s20 es20
          refine ga_aload_n hC dX12_addWeight_101 1 rfl rfl ?_
          refine gM_0_14 hC q_6_99 dX12_addWeight_102 ?_
          refine ga_iload hC dX12_addWeight_105 0 rfl ?_
          obtain ⟨h21, h⟩ := h
          refine ga_iald hC aM_9 (by decide) h21 dX12_addWeight_107 ?_
          exact ga_iret hC dX12_addWeight_108 ⟨_, rfl, h⟩
        · have h := h.2 hc
          refine ga_aload_n hC dX12_addWeight_62 1 rfl rfl ?_
          refine ga_iconst (v := 3) hC dX12_addWeight_63 (by decide) ?_
          refine ga_callV (As := [.int 3]) (st := []) (k := 0) (n := 1) hC h q_6_229 q_6_231 q_0_12 q_1_13 q_6_232 rfl rfl rfl (by decide +kernel) ⟨Nat.le_of_ble_eq_true rfl, Nat.le_of_ble_eq_true rfl⟩ ⟨Nat.le_of_ble_eq_true rfl, Nat.le_of_ble_eq_true rfl⟩ rfl rfl rfl (by decide) rfl (Nat.le_of_ble_eq_true rfl) dX12_addWeight_64 (fun v τ hq => ?_)
          obtain ⟨r22, rfl, h⟩ := hq
          obtain ⟨s23, es23⟩ : ∃ z, z = τ := ⟨_, rfl⟩
          rw [← es23] at h ⊢
          clear es23
          exact ga_iret hC dX12_addWeight_67 ⟨_, rfl, h⟩
      · have h := h.2 hc
        refine ga_aload_n hC dX12_addWeight_34 0 rfl rfl ?_
        refine ga_iconst (v := 2) hC dX12_addWeight_35 (by decide) ?_
        refine ga_callV (As := [.int 2]) (st := []) (k := 0) (n := 1) hC h q_6_229 q_6_231 q_0_12 q_1_13 q_6_232 rfl rfl rfl (by decide +kernel) ⟨Nat.le_of_ble_eq_true rfl, Nat.le_of_ble_eq_true rfl⟩ ⟨Nat.le_of_ble_eq_true rfl, Nat.le_of_ble_eq_true rfl⟩ rfl rfl rfl (by decide) rfl (Nat.le_of_ble_eq_true rfl) dX12_addWeight_36 (fun v τ hq => ?_)
        obtain ⟨r25, rfl, h⟩ := hq
        obtain ⟨s26, es26⟩ : ∃ z, z = τ := ⟨_, rfl⟩
        rw [← es26] at h ⊢
        clear es26
        exact ga_iret hC dX12_addWeight_39 ⟨_, rfl, h⟩
    · have h := h.2 hc
      refine ga_locals [0] rfl ?_
      exact h p l e s m args below meth c D cy ad hC
def M_X12_setTarget (v1 : Int32) (v2 : Int32) (σ : cg_S) (Q : Int32 → cg_S → Prop) : Prop := cg_M cg_WM yX12_setTarget cX12_setTarget 4 (some .boolean) (cg_R 2) (fun ad => [.ref (ad 0), .int v1, .int v2]) σ (cg_qi Q)
theorem M_X12_setTarget.mono {v1 : Int32} {v2 : Int32} {σ : cg_S} {Q Q2 : Int32 → cg_S → Prop} (h : M_X12_setTarget v1 v2 σ Q) (hq : ∀ r τ, Q r τ → Q2 r τ) : M_X12_setTarget v1 v2 σ Q2 := cg_M.mono h (fun ad v τ ⟨r, e, q⟩ => ⟨r, e, hq r τ q⟩)
set_option maxRecDepth 100000 in
set_option maxHeartbeats 4000000 in
theorem v_X12_setTarget {v1 : Int32} {v2 : Int32} {σ : cg_S} {Q : Int32 → cg_S → Prop}
    (h : M_X12_isState v1 σ (fun r1 s2 => (¬ r1 = 0 → M_X12_changes s2 (fun s5 => vp_in v1 7 ∧ ∀ x8 : Int32, x8 = s5.1 15 v1.toNatClampNeg → vp_in v1 7 ∧ ∀ s10 : cg_S, s10 = cg_i s5 15 v1.toNatClampNeg (vp_nar .boolean v2) → (x8 = 0 ∨ x8 = 1) ∧ Q x8 s10)) ∧ (r1 = 0 → ∀ s11 : cg_S, s11 = cg_i s2 0 0 1 → Q 0 s11))) : M_X12_setTarget v1 v2 σ Q := by
  refine cg_entry (lv := fun ad => [(0, .ref (ad 0)), (1, .int v1), (2, .int v2)]) (by decide +kernel) (fun _ => rfl) (fun _ => Nat.le_of_ble_eq_true rfl) ?_
  intro p l e s m args below meth c D cy ad hC
  refine ga_aload_n hC dX12_setTarget_0 0 rfl rfl ?_
  refine ga_iload_n hC dX12_setTarget_1 1 rfl rfl ?_
  refine ga_callV (As := [.int v1]) (st := []) (k := 0) (n := 1) hC h q_7_1 q_7_3 q_0_14 q_1_13 q_7_4 rfl rfl rfl (by decide +kernel) ⟨Nat.le_of_ble_eq_true rfl, Nat.le_of_ble_eq_true rfl⟩ ⟨Nat.le_of_ble_eq_true rfl, Nat.le_of_ble_eq_true rfl⟩ rfl rfl rfl (by decide) rfl (Nat.le_of_ble_eq_true rfl) dX12_setTarget_2 (fun v τ hq => ?_)
  obtain ⟨r1, rfl, h⟩ := hq
  obtain ⟨s2, es2⟩ : ∃ z, z = τ := ⟨_, rfl⟩
  rw [← es2] at h ⊢
  clear es2
  refine ga_if_ne (tgt := 15) hC dX12_setTarget_5 (by decide) (fun hc => ?_) (fun hc => ?_)
  · have h := h.1 hc
    refine ga_aload_n hC dX12_setTarget_15 0 rfl rfl ?_
    refine ga_callV (As := []) (st := []) (k := 0) (n := 0) hC h q_6_233 q_6_235 q_0_13 q_1_13 q_6_236 rfl rfl rfl (by decide +kernel) ⟨Nat.le_of_ble_eq_true rfl, Nat.le_of_ble_eq_true rfl⟩ ⟨Nat.le_of_ble_eq_true rfl, Nat.le_of_ble_eq_true rfl⟩ rfl rfl rfl (by decide) rfl (Nat.le_of_ble_eq_true rfl) dX12_setTarget_16 (fun v τ hq => ?_)
    obtain ⟨rfl, h⟩ := hq
    obtain ⟨s5, es5⟩ : ∃ z, z = τ := ⟨_, rfl⟩
    rw [← es5] at h ⊢
    clear es5
    refine ga_aload_n hC dX12_setTarget_19 0 rfl rfl ?_
    refine gM_0_16 hC q_6_101 dX12_setTarget_20 ?_
    refine ga_iload_n hC dX12_setTarget_23 1 rfl rfl ?_
    obtain ⟨h7, h⟩ := h
    refine ga_zald hC aM_15 (by decide) h7 dX12_setTarget_24 ?_
    refine ga_topi (fun x8 ex8 => ?_)
    have h := h x8 ex8
    refine ga_istore_n (lv' := [(3, .int x8), (0, .ref (ad 0)), (1, .int v1), (2, .int v2)]) hC dX12_setTarget_25 rfl (by decide) rfl ?_
    refine ga_aload_n hC dX12_setTarget_26 1 rfl rfl ?_
    refine gM_0_16 hC q_6_101 dX12_setTarget_27 ?_
    refine ga_iload_n hC dX12_setTarget_30 2 rfl rfl ?_
    refine ga_iload_n hC dX12_setTarget_31 3 rfl rfl ?_
    obtain ⟨h9, h⟩ := h
    refine ga_zast hC aM_15 (by decide) h9 dX12_setTarget_32 ?_
    refine ga_sig (σ := cg_i s5 15 v1.toNatClampNeg (vp_nar .boolean v2)) (fun s10 es10 => ?_)
    have h := h s10 es10
    refine ga_iload_n hC dX12_setTarget_33 0 rfl rfl ?_
    exact ga_zret hC dX12_setTarget_34 h.1 ⟨_, rfl, h.2⟩
  · have h := h.2 hc
    refine ga_aload_n hC dX12_setTarget_8 0 rfl rfl ?_
    refine ga_iconst (v := 1) hC dX12_setTarget_9 (by decide) ?_
    refine pM_0_0 hC q_6_85 dX12_setTarget_10 ?_
    refine ga_sig (σ := cg_i s2 0 0 1) (fun s11 es11 => ?_)
    have h := h s11 es11
    refine ga_iconst (v := 0) hC dX12_setTarget_13 (by decide) ?_
    exact ga_zret hC dX12_setTarget_14 (by decide) ⟨_, rfl, h⟩
def M_X12_setDiscount (v1 : Int32) (v2 : Int32) (σ : cg_S) (Q : Int32 → cg_S → Prop) : Prop := cg_M cg_WM yX12_setDiscount cX12_setDiscount 4 (some .int) (cg_R 1) (fun ad => [.ref (ad 0), .int v1, .int v2]) σ (cg_qi Q)
theorem M_X12_setDiscount.mono {v1 : Int32} {v2 : Int32} {σ : cg_S} {Q Q2 : Int32 → cg_S → Prop} (h : M_X12_setDiscount v1 v2 σ Q) (hq : ∀ r τ, Q r τ → Q2 r τ) : M_X12_setDiscount v1 v2 σ Q2 := cg_M.mono h (fun ad v τ ⟨r, e, q⟩ => ⟨r, e, hq r τ q⟩)
def L_X12_setDiscount_23 (σ : cg_S) (Q : Int32 → cg_S → Prop) : Prop := cg_L cg_WM RX12 cX12_setDiscount 4 (some .int) (cg_R 1) 23 (fun ad => [(0, .ref (ad 0))]) (fun ad => []) σ (cg_qi Q)
set_option maxRecDepth 100000 in
set_option maxHeartbeats 4000000 in
theorem v_X12_setDiscount_23 {σ : cg_S} {Q : Int32 → cg_S → Prop}
    (h : M_X12_fails 1 σ (fun r1 s2 => Q r1 s2)) : L_X12_setDiscount_23 σ Q := by
  intro p l e s m args below meth c D cy ad hC
  refine ga_aload_n hC dX12_setDiscount_23 0 rfl rfl ?_
  refine ga_iconst (v := 1) hC dX12_setDiscount_24 (by decide) ?_
  refine ga_callV (As := [.int 1]) (st := []) (k := 0) (n := 1) hC h q_6_229 q_6_231 q_0_12 q_1_13 q_6_232 rfl rfl rfl (by decide +kernel) ⟨Nat.le_of_ble_eq_true rfl, Nat.le_of_ble_eq_true rfl⟩ ⟨Nat.le_of_ble_eq_true rfl, Nat.le_of_ble_eq_true rfl⟩ rfl rfl rfl (by decide) rfl (Nat.le_of_ble_eq_true rfl) dX12_setDiscount_25 (fun v τ hq => ?_)
  obtain ⟨r1, rfl, h⟩ := hq
  obtain ⟨s2, es2⟩ : ∃ z, z = τ := ⟨_, rfl⟩
  rw [← es2] at h ⊢
  clear es2
  exact ga_iret hC dX12_setDiscount_28 ⟨_, rfl, h⟩
set_option maxRecDepth 100000 in
set_option maxHeartbeats 4000000 in
theorem v_X12_setDiscount {v1 : Int32} {v2 : Int32} {σ : cg_S} {Q : Int32 → cg_S → Prop}
    (h : M_X12_in v1 1 2 σ (fun r1 s2 => (r1 = 0 → L_X12_setDiscount_23 s2 Q) ∧ (¬ r1 = 0 → M_X12_in v2 2 3 s2 (fun r4 s5 => (r4 = 0 → L_X12_setDiscount_23 s5 Q) ∧ (¬ r4 = 0 → (v1 < v2 → M_X12_changes s5 (fun s8 => ∀ x10 : Int32, x10 = (10 * (s8.1 0 2)) + (s8.1 0 3) → ∀ s11 : cg_S, s11 = cg_i s8 0 2 v1 → ∀ s12 : cg_S, s12 = cg_i s11 0 3 v2 → Q x10 s12)) ∧ (¬ v1 < v2 → L_X12_setDiscount_23 s5 Q)))))) : M_X12_setDiscount v1 v2 σ Q := by
  refine cg_entry (lv := fun ad => [(0, .ref (ad 0)), (1, .int v1), (2, .int v2)]) (by decide +kernel) (fun _ => rfl) (fun _ => Nat.le_of_ble_eq_true rfl) ?_
  intro p l e s m args below meth c D cy ad hC
  refine ga_iload_n hC dX12_setDiscount_0 1 rfl rfl ?_
  refine ga_iconst (v := 1) hC dX12_setDiscount_1 (by decide) ?_
  refine ga_iconst (v := 2) hC dX12_setDiscount_2 (by decide) ?_
  refine ga_callS (As := [.int v1, .int 1, .int 2]) (st := []) (n := 3) hC h q_6_226 q_6_227 q_1_13 q_6_228 rfl rfl rfl (by decide +kernel) ⟨Nat.le_of_ble_eq_true rfl, Nat.le_of_ble_eq_true rfl⟩ ⟨Nat.le_of_ble_eq_true rfl, Nat.le_of_ble_eq_true rfl⟩ rfl rfl (Nat.le_of_ble_eq_true rfl) dX12_setDiscount_3 (fun v τ hq => ?_)
  obtain ⟨r1, rfl, h⟩ := hq
  obtain ⟨s2, es2⟩ : ∃ z, z = τ := ⟨_, rfl⟩
  rw [← es2] at h ⊢
  clear es2
  refine ga_if_eq (tgt := 23) hC dX12_setDiscount_6 (by decide) (fun hc => ?_) (fun hc => ?_)
  · have h := h.1 hc
    refine ga_locals [0] rfl ?_
    exact h p l e s m args below meth c D cy ad hC
  · have h := h.2 hc
    refine ga_iload_n hC dX12_setDiscount_9 2 rfl rfl ?_
    refine ga_iconst (v := 2) hC dX12_setDiscount_10 (by decide) ?_
    refine ga_iconst (v := 3) hC dX12_setDiscount_11 (by decide) ?_
    refine ga_callS (As := [.int v2, .int 2, .int 3]) (st := []) (n := 3) hC h q_6_226 q_6_227 q_1_13 q_6_228 rfl rfl rfl (by decide +kernel) ⟨Nat.le_of_ble_eq_true rfl, Nat.le_of_ble_eq_true rfl⟩ ⟨Nat.le_of_ble_eq_true rfl, Nat.le_of_ble_eq_true rfl⟩ rfl rfl (Nat.le_of_ble_eq_true rfl) dX12_setDiscount_12 (fun v τ hq => ?_)
    obtain ⟨r4, rfl, h⟩ := hq
    obtain ⟨s5, es5⟩ : ∃ z, z = τ := ⟨_, rfl⟩
    rw [← es5] at h ⊢
    clear es5
    refine ga_if_eq (tgt := 23) hC dX12_setDiscount_15 (by decide) (fun hc => ?_) (fun hc => ?_)
    · have h := h.1 hc
      refine ga_locals [0] rfl ?_
      exact h p l e s m args below meth c D cy ad hC
    · have h := h.2 hc
      refine ga_iload_n hC dX12_setDiscount_18 1 rfl rfl ?_
      refine ga_iload_n hC dX12_setDiscount_19 2 rfl rfl ?_
      refine ga_icmp_lt (tgt := 29) hC dX12_setDiscount_20 (by decide) (fun hc => ?_) (fun hc => ?_)
      · have h := h.1 hc
        refine ga_aload_n hC dX12_setDiscount_29 0 rfl rfl ?_
        refine ga_callV (As := []) (st := []) (k := 0) (n := 0) hC h q_6_233 q_6_235 q_0_13 q_1_13 q_6_236 rfl rfl rfl (by decide +kernel) ⟨Nat.le_of_ble_eq_true rfl, Nat.le_of_ble_eq_true rfl⟩ ⟨Nat.le_of_ble_eq_true rfl, Nat.le_of_ble_eq_true rfl⟩ rfl rfl rfl (by decide) rfl (Nat.le_of_ble_eq_true rfl) dX12_setDiscount_30 (fun v τ hq => ?_)
        obtain ⟨rfl, h⟩ := hq
        obtain ⟨s8, es8⟩ : ∃ z, z = τ := ⟨_, rfl⟩
        rw [← es8] at h ⊢
        clear es8
        refine ga_bipush (v := 10) hC dX12_setDiscount_33 (by decide) ?_
        refine ga_aload_n hC dX12_setDiscount_35 0 rfl rfl ?_
        refine gM_0_2 hC q_6_87 dX12_setDiscount_36 ?_
        refine ga_imul hC dX12_setDiscount_39 ?_
        refine ga_aload_n hC dX12_setDiscount_40 0 rfl rfl ?_
        refine gM_0_3 hC q_6_88 dX12_setDiscount_41 ?_
        refine ga_iadd hC dX12_setDiscount_44 ?_
        refine ga_topi (fun x10 ex10 => ?_)
        have h := h x10 ex10
        refine ga_istore_n (lv' := [(3, .int x10), (0, .ref (ad 0)), (1, .int v1), (2, .int v2)]) hC dX12_setDiscount_45 rfl (by decide) rfl ?_
        refine ga_aload_n hC dX12_setDiscount_46 1 rfl rfl ?_
        refine ga_iload_n hC dX12_setDiscount_47 2 rfl rfl ?_
        refine pM_0_2 hC q_6_87 dX12_setDiscount_48 ?_
        refine ga_sig (σ := cg_i s8 0 2 v1) (fun s11 es11 => ?_)
        have h := h s11 es11
        refine ga_aload_n hC dX12_setDiscount_51 1 rfl rfl ?_
        refine ga_iload_n hC dX12_setDiscount_52 3 rfl rfl ?_
        refine pM_0_3 hC q_6_88 dX12_setDiscount_53 ?_
        refine ga_sig (σ := cg_i s11 0 3 v2) (fun s12 es12 => ?_)
        have h := h s12 es12
        refine ga_iload_n hC dX12_setDiscount_56 0 rfl rfl ?_
        exact ga_iret hC dX12_setDiscount_57 ⟨_, rfl, h⟩
      · have h := h.2 hc
        refine ga_locals [0] rfl ?_
        exact h p l e s m args below meth c D cy ad hC
def M_X12_setWeights (v1 : Int32) (v2 : Int32) (σ : cg_S) (Q : Int32 → cg_S → Prop) : Prop := cg_M cg_WM yX12_setWeights cX12_setWeights 4 (some .int) (cg_R 1) (fun ad => [.ref (ad 0), .int v1, .int v2]) σ (cg_qi Q)
theorem M_X12_setWeights.mono {v1 : Int32} {v2 : Int32} {σ : cg_S} {Q Q2 : Int32 → cg_S → Prop} (h : M_X12_setWeights v1 v2 σ Q) (hq : ∀ r τ, Q r τ → Q2 r τ) : M_X12_setWeights v1 v2 σ Q2 := cg_M.mono h (fun ad v τ ⟨r, e, q⟩ => ⟨r, e, hq r τ q⟩)
def L_X12_setWeights_18 (σ : cg_S) (Q : Int32 → cg_S → Prop) : Prop := cg_L cg_WM RX12 cX12_setWeights 4 (some .int) (cg_R 1) 18 (fun ad => [(0, .ref (ad 0))]) (fun ad => []) σ (cg_qi Q)
set_option maxRecDepth 100000 in
set_option maxHeartbeats 4000000 in
theorem v_X12_setWeights_18 {σ : cg_S} {Q : Int32 → cg_S → Prop}
    (h : M_X12_fails 1 σ (fun r1 s2 => Q r1 s2)) : L_X12_setWeights_18 σ Q := by
  intro p l e s m args below meth c D cy ad hC
  refine ga_aload_n hC dX12_setWeights_18 0 rfl rfl ?_
  refine ga_iconst (v := 1) hC dX12_setWeights_19 (by decide) ?_
  refine ga_callV (As := [.int 1]) (st := []) (k := 0) (n := 1) hC h q_6_229 q_6_231 q_0_12 q_1_13 q_6_232 rfl rfl rfl (by decide +kernel) ⟨Nat.le_of_ble_eq_true rfl, Nat.le_of_ble_eq_true rfl⟩ ⟨Nat.le_of_ble_eq_true rfl, Nat.le_of_ble_eq_true rfl⟩ rfl rfl rfl (by decide) rfl (Nat.le_of_ble_eq_true rfl) dX12_setWeights_20 (fun v τ hq => ?_)
  obtain ⟨r1, rfl, h⟩ := hq
  obtain ⟨s2, es2⟩ : ∃ z, z = τ := ⟨_, rfl⟩
  rw [← es2] at h ⊢
  clear es2
  exact ga_iret hC dX12_setWeights_23 ⟨_, rfl, h⟩
set_option maxRecDepth 100000 in
set_option maxHeartbeats 4000000 in
theorem v_X12_setWeights {v1 : Int32} {v2 : Int32} {σ : cg_S} {Q : Int32 → cg_S → Prop}
    (h : M_X12_in v1 0 3 σ (fun r1 s2 => (r1 = 0 → L_X12_setWeights_18 s2 Q) ∧ (¬ r1 = 0 → M_X12_in v2 0 3 s2 (fun r4 s5 => (¬ r4 = 0 → M_X12_changes s5 (fun s8 => ∀ x10 : Int32, x10 = (10 * (s8.1 0 4)) + (s8.1 0 5) → ∀ s11 : cg_S, s11 = cg_i s8 0 4 v1 → ∀ s12 : cg_S, s12 = cg_i s11 0 5 v2 → Q x10 s12)) ∧ (r4 = 0 → L_X12_setWeights_18 s5 Q))))) : M_X12_setWeights v1 v2 σ Q := by
  refine cg_entry (lv := fun ad => [(0, .ref (ad 0)), (1, .int v1), (2, .int v2)]) (by decide +kernel) (fun _ => rfl) (fun _ => Nat.le_of_ble_eq_true rfl) ?_
  intro p l e s m args below meth c D cy ad hC
  refine ga_iload_n hC dX12_setWeights_0 1 rfl rfl ?_
  refine ga_iconst (v := 0) hC dX12_setWeights_1 (by decide) ?_
  refine ga_iconst (v := 3) hC dX12_setWeights_2 (by decide) ?_
  refine ga_callS (As := [.int v1, .int 0, .int 3]) (st := []) (n := 3) hC h q_6_226 q_6_227 q_1_13 q_6_228 rfl rfl rfl (by decide +kernel) ⟨Nat.le_of_ble_eq_true rfl, Nat.le_of_ble_eq_true rfl⟩ ⟨Nat.le_of_ble_eq_true rfl, Nat.le_of_ble_eq_true rfl⟩ rfl rfl (Nat.le_of_ble_eq_true rfl) dX12_setWeights_3 (fun v τ hq => ?_)
  obtain ⟨r1, rfl, h⟩ := hq
  obtain ⟨s2, es2⟩ : ∃ z, z = τ := ⟨_, rfl⟩
  rw [← es2] at h ⊢
  clear es2
  refine ga_if_eq (tgt := 18) hC dX12_setWeights_6 (by decide) (fun hc => ?_) (fun hc => ?_)
  · have h := h.1 hc
    refine ga_locals [0] rfl ?_
    exact h p l e s m args below meth c D cy ad hC
  · have h := h.2 hc
    refine ga_iload_n hC dX12_setWeights_9 2 rfl rfl ?_
    refine ga_iconst (v := 0) hC dX12_setWeights_10 (by decide) ?_
    refine ga_iconst (v := 3) hC dX12_setWeights_11 (by decide) ?_
    refine ga_callS (As := [.int v2, .int 0, .int 3]) (st := []) (n := 3) hC h q_6_226 q_6_227 q_1_13 q_6_228 rfl rfl rfl (by decide +kernel) ⟨Nat.le_of_ble_eq_true rfl, Nat.le_of_ble_eq_true rfl⟩ ⟨Nat.le_of_ble_eq_true rfl, Nat.le_of_ble_eq_true rfl⟩ rfl rfl (Nat.le_of_ble_eq_true rfl) dX12_setWeights_12 (fun v τ hq => ?_)
    obtain ⟨r4, rfl, h⟩ := hq
    obtain ⟨s5, es5⟩ : ∃ z, z = τ := ⟨_, rfl⟩
    rw [← es5] at h ⊢
    clear es5
    refine ga_if_ne (tgt := 24) hC dX12_setWeights_15 (by decide) (fun hc => ?_) (fun hc => ?_)
    · have h := h.1 hc
      refine ga_aload_n hC dX12_setWeights_24 0 rfl rfl ?_
      refine ga_callV (As := []) (st := []) (k := 0) (n := 0) hC h q_6_233 q_6_235 q_0_13 q_1_13 q_6_236 rfl rfl rfl (by decide +kernel) ⟨Nat.le_of_ble_eq_true rfl, Nat.le_of_ble_eq_true rfl⟩ ⟨Nat.le_of_ble_eq_true rfl, Nat.le_of_ble_eq_true rfl⟩ rfl rfl rfl (by decide) rfl (Nat.le_of_ble_eq_true rfl) dX12_setWeights_25 (fun v τ hq => ?_)
      obtain ⟨rfl, h⟩ := hq
      obtain ⟨s8, es8⟩ : ∃ z, z = τ := ⟨_, rfl⟩
      rw [← es8] at h ⊢
      clear es8
      refine ga_bipush (v := 10) hC dX12_setWeights_28 (by decide) ?_
      refine ga_aload_n hC dX12_setWeights_30 0 rfl rfl ?_
      refine gM_0_4 hC q_6_89 dX12_setWeights_31 ?_
      refine ga_imul hC dX12_setWeights_34 ?_
      refine ga_aload_n hC dX12_setWeights_35 0 rfl rfl ?_
      refine gM_0_5 hC q_6_90 dX12_setWeights_36 ?_
      refine ga_iadd hC dX12_setWeights_39 ?_
      refine ga_topi (fun x10 ex10 => ?_)
      have h := h x10 ex10
      refine ga_istore_n (lv' := [(3, .int x10), (0, .ref (ad 0)), (1, .int v1), (2, .int v2)]) hC dX12_setWeights_40 rfl (by decide) rfl ?_
      refine ga_aload_n hC dX12_setWeights_41 1 rfl rfl ?_
      refine ga_iload_n hC dX12_setWeights_42 2 rfl rfl ?_
      refine pM_0_4 hC q_6_89 dX12_setWeights_43 ?_
      refine ga_sig (σ := cg_i s8 0 4 v1) (fun s11 es11 => ?_)
      have h := h s11 es11
      refine ga_aload_n hC dX12_setWeights_46 1 rfl rfl ?_
      refine ga_iload_n hC dX12_setWeights_47 3 rfl rfl ?_
      refine pM_0_5 hC q_6_90 dX12_setWeights_48 ?_
      refine ga_sig (σ := cg_i s11 0 5 v2) (fun s12 es12 => ?_)
      have h := h s12 es12
      refine ga_iload_n hC dX12_setWeights_51 0 rfl rfl ?_
      exact ga_iret hC dX12_setWeights_52 ⟨_, rfl, h⟩
    · have h := h.2 hc
      refine ga_locals [0] rfl ?_
      exact h p l e s m args below meth c D cy ad hC
def M_X12_states (σ : cg_S) (Q : Int32 → cg_S → Prop) : Prop := cg_M cg_WM yX12_states cX12_states 1 (some .int) (cg_R 0) (fun ad => [.ref (ad 0)]) σ (cg_qi Q)
theorem M_X12_states.mono {σ : cg_S} {Q Q2 : Int32 → cg_S → Prop} (h : M_X12_states σ Q) (hq : ∀ r τ, Q r τ → Q2 r τ) : M_X12_states σ Q2 := cg_M.mono h (fun ad v τ ⟨r, e, q⟩ => ⟨r, e, hq r τ q⟩)
set_option maxRecDepth 100000 in
set_option maxHeartbeats 4000000 in
theorem v_X12_states {σ : cg_S} {Q : Int32 → cg_S → Prop}
    (h : ∀ s1 : cg_S, s1 = cg_i σ 0 0 0 → Q (s1.1 0 1) s1) : M_X12_states σ Q := by
  refine cg_entry (lv := fun ad => [(0, .ref (ad 0))]) (by decide +kernel) (fun _ => rfl) (fun _ => Nat.le_of_ble_eq_true rfl) ?_
  intro p l e s m args below meth c D cy ad hC
  refine ga_aload_n hC dX12_states_0 0 rfl rfl ?_
  refine ga_iconst (v := 0) hC dX12_states_1 (by decide) ?_
  refine pM_0_0 hC q_6_85 dX12_states_2 ?_
  refine ga_sig (σ := cg_i σ 0 0 0) (fun s1 es1 => ?_)
  have h := h s1 es1
  refine ga_aload_n hC dX12_states_5 0 rfl rfl ?_
  refine gM_0_1 hC q_6_86 dX12_states_6 ?_
  exact ga_iret hC dX12_states_9 ⟨_, rfl, h⟩
def M_X12_choices (v1 : Int32) (σ : cg_S) (Q : Int32 → cg_S → Prop) : Prop := cg_M cg_WM yX12_choices cX12_choices 2 (some .int) (cg_R 2) (fun ad => [.ref (ad 0), .int v1]) σ (cg_qi Q)
theorem M_X12_choices.mono {v1 : Int32} {σ : cg_S} {Q Q2 : Int32 → cg_S → Prop} (h : M_X12_choices v1 σ Q) (hq : ∀ r τ, Q r τ → Q2 r τ) : M_X12_choices v1 σ Q2 := cg_M.mono h (fun ad v τ ⟨r, e, q⟩ => ⟨r, e, hq r τ q⟩)
set_option maxRecDepth 100000 in
set_option maxHeartbeats 4000000 in
theorem v_X12_choices {v1 : Int32} {σ : cg_S} {Q : Int32 → cg_S → Prop}
    (h : M_X12_isState v1 σ (fun r1 s2 => (¬ r1 = 0 → ∀ s4 : cg_S, s4 = cg_i s2 0 0 0 → vp_in v1 7 ∧ Q (s4.1 3 v1.toNatClampNeg) s4) ∧ (r1 = 0 → M_X12_fails 1 s2 (fun r6 s7 => Q r6 s7)))) : M_X12_choices v1 σ Q := by
  refine cg_entry (lv := fun ad => [(0, .ref (ad 0)), (1, .int v1)]) (by decide +kernel) (fun _ => rfl) (fun _ => Nat.le_of_ble_eq_true rfl) ?_
  intro p l e s m args below meth c D cy ad hC
  refine ga_aload_n hC dX12_choices_0 0 rfl rfl ?_
  refine ga_iload_n hC dX12_choices_1 1 rfl rfl ?_
  refine ga_callV (As := [.int v1]) (st := []) (k := 0) (n := 1) hC h q_7_1 q_7_3 q_0_14 q_1_13 q_7_4 rfl rfl rfl (by decide +kernel) ⟨Nat.le_of_ble_eq_true rfl, Nat.le_of_ble_eq_true rfl⟩ ⟨Nat.le_of_ble_eq_true rfl, Nat.le_of_ble_eq_true rfl⟩ rfl rfl rfl (by decide) rfl (Nat.le_of_ble_eq_true rfl) dX12_choices_2 (fun v τ hq => ?_)
  obtain ⟨r1, rfl, h⟩ := hq
  obtain ⟨s2, es2⟩ : ∃ z, z = τ := ⟨_, rfl⟩
  rw [← es2] at h ⊢
  clear es2
  refine ga_if_ne (tgt := 14) hC dX12_choices_5 (by decide) (fun hc => ?_) (fun hc => ?_)
  · have h := h.1 hc
    refine ga_aload_n hC dX12_choices_14 0 rfl rfl ?_
    refine ga_iconst (v := 0) hC dX12_choices_15 (by decide) ?_
    refine pM_0_0 hC q_6_85 dX12_choices_16 ?_
    refine ga_sig (σ := cg_i s2 0 0 0) (fun s4 es4 => ?_)
    have h := h s4 es4
    refine ga_aload_n hC dX12_choices_19 0 rfl rfl ?_
    refine gM_0_8 hC q_6_93 dX12_choices_20 ?_
    refine ga_iload_n hC dX12_choices_23 1 rfl rfl ?_
    obtain ⟨h5, h⟩ := h
    refine ga_iald hC aM_3 (by decide) h5 dX12_choices_24 ?_
    exact ga_iret hC dX12_choices_25 ⟨_, rfl, h⟩
  · have h := h.2 hc
    refine ga_aload_n hC dX12_choices_8 0 rfl rfl ?_
    refine ga_iconst (v := 1) hC dX12_choices_9 (by decide) ?_
    refine ga_callV (As := [.int 1]) (st := []) (k := 0) (n := 1) hC h q_6_229 q_6_231 q_0_12 q_1_13 q_6_232 rfl rfl rfl (by decide +kernel) ⟨Nat.le_of_ble_eq_true rfl, Nat.le_of_ble_eq_true rfl⟩ ⟨Nat.le_of_ble_eq_true rfl, Nat.le_of_ble_eq_true rfl⟩ rfl rfl rfl (by decide) rfl (Nat.le_of_ble_eq_true rfl) dX12_choices_10 (fun v τ hq => ?_)
    obtain ⟨r6, rfl, h⟩ := hq
    obtain ⟨s7, es7⟩ : ∃ z, z = τ := ⟨_, rfl⟩
    rw [← es7] at h ⊢
    clear es7
    exact ga_iret hC dX12_choices_13 ⟨_, rfl, h⟩
def M_X12_chance (v1 : Int32) (v2 : Int32) (v3 : Int32) (σ : cg_S) (Q : Int32 → cg_S → Prop) : Prop := cg_M cg_WM yX12_chance cX12_chance 5 (some .int) (cg_R 3) (fun ad => [.ref (ad 0), .int v1, .int v2, .int v3]) σ (cg_qi Q)
theorem M_X12_chance.mono {v1 : Int32} {v2 : Int32} {v3 : Int32} {σ : cg_S} {Q Q2 : Int32 → cg_S → Prop} (h : M_X12_chance v1 v2 v3 σ Q) (hq : ∀ r τ, Q r τ → Q2 r τ) : M_X12_chance v1 v2 v3 σ Q2 := cg_M.mono h (fun ad v τ ⟨r, e, q⟩ => ⟨r, e, hq r τ q⟩)
def L_X12_chance_17 (σ : cg_S) (Q : Int32 → cg_S → Prop) : Prop := cg_L cg_WM RX12 cX12_chance 5 (some .int) (cg_R 3) 17 (fun ad => [(0, .ref (ad 0))]) (fun ad => []) σ (cg_qi Q)
set_option maxRecDepth 100000 in
set_option maxHeartbeats 4000000 in
theorem v_X12_chance_17 {σ : cg_S} {Q : Int32 → cg_S → Prop}
    (h : M_X12_fails 1 σ (fun r1 s2 => Q r1 s2)) : L_X12_chance_17 σ Q := by
  intro p l e s m args below meth c D cy ad hC
  refine ga_aload_n hC dX12_chance_17 0 rfl rfl ?_
  refine ga_iconst (v := 1) hC dX12_chance_18 (by decide) ?_
  refine ga_callV (As := [.int 1]) (st := []) (k := 0) (n := 1) hC h q_6_229 q_6_231 q_0_12 q_1_13 q_6_232 rfl rfl rfl (by decide +kernel) ⟨Nat.le_of_ble_eq_true rfl, Nat.le_of_ble_eq_true rfl⟩ ⟨Nat.le_of_ble_eq_true rfl, Nat.le_of_ble_eq_true rfl⟩ rfl rfl rfl (by decide) rfl (Nat.le_of_ble_eq_true rfl) dX12_chance_19 (fun v τ hq => ?_)
  obtain ⟨r1, rfl, h⟩ := hq
  obtain ⟨s2, es2⟩ : ∃ z, z = τ := ⟨_, rfl⟩
  rw [← es2] at h ⊢
  clear es2
  exact ga_iret hC dX12_chance_22 ⟨_, rfl, h⟩
set_option maxRecDepth 100000 in
set_option maxHeartbeats 4000000 in
theorem v_X12_chance {v1 : Int32} {v2 : Int32} {v3 : Int32} {σ : cg_S} {Q : Int32 → cg_S → Prop}
    (h : M_X12_isChoice v1 v2 σ (fun r1 s2 => (r1 = 0 → L_X12_chance_17 s2 Q) ∧ (¬ r1 = 0 → M_X12_isState v3 s2 (fun r4 s5 => (¬ r4 = 0 → ∀ x7 : Int32, x7 = (3 * v1) + v2 → vp_in x7 21 ∧ (¬ (s5.1 9 x7.toNatClampNeg) = 0 → ∀ s9 : cg_S, s9 = cg_i s5 0 0 0 → vp_in ((7 * x7) + v3) 147 ∧ vp_in x7 21 ∧ M_X12_lowers ((s9.1 10 ((7 * x7) + v3).toNatClampNeg).toInt64) ((s9.1 9 x7.toNatClampNeg).toInt64) s9 (fun s13 => Q (((10 * (s13.2.1 0 40)) + (s13.2.1 0 41)).toInt32) s13)) ∧ ((s5.1 9 x7.toNatClampNeg) = 0 → M_X12_fails 2 s5 (fun r15 s16 => Q r15 s16))) ∧ (r4 = 0 → L_X12_chance_17 s5 Q))))) : M_X12_chance v1 v2 v3 σ Q := by
  refine cg_entry (lv := fun ad => [(0, .ref (ad 0)), (1, .int v1), (2, .int v2), (3, .int v3)]) (by decide +kernel) (fun _ => rfl) (fun _ => Nat.le_of_ble_eq_true rfl) ?_
  intro p l e s m args below meth c D cy ad hC
  refine ga_aload_n hC dX12_chance_0 0 rfl rfl ?_
  refine ga_iload_n hC dX12_chance_1 1 rfl rfl ?_
  refine ga_iload_n hC dX12_chance_2 2 rfl rfl ?_
  refine ga_callV (As := [.int v1, .int v2]) (st := []) (k := 0) (n := 2) hC h q_7_9 q_7_11 q_0_15 q_1_13 q_7_12 rfl rfl rfl (by decide +kernel) ⟨Nat.le_of_ble_eq_true rfl, Nat.le_of_ble_eq_true rfl⟩ ⟨Nat.le_of_ble_eq_true rfl, Nat.le_of_ble_eq_true rfl⟩ rfl rfl rfl (by decide) rfl (Nat.le_of_ble_eq_true rfl) dX12_chance_3 (fun v τ hq => ?_)
  obtain ⟨r1, rfl, h⟩ := hq
  obtain ⟨s2, es2⟩ : ∃ z, z = τ := ⟨_, rfl⟩
  rw [← es2] at h ⊢
  clear es2
  refine ga_if_eq (tgt := 17) hC dX12_chance_6 (by decide) (fun hc => ?_) (fun hc => ?_)
  · have h := h.1 hc
    refine ga_locals [0] rfl ?_
    exact h p l e s m args below meth c D cy ad hC
  · have h := h.2 hc
    refine ga_aload_n hC dX12_chance_9 0 rfl rfl ?_
    refine ga_iload_n hC dX12_chance_10 3 rfl rfl ?_
    refine ga_callV (As := [.int v3]) (st := []) (k := 0) (n := 1) hC h q_7_1 q_7_3 q_0_14 q_1_13 q_7_4 rfl rfl rfl (by decide +kernel) ⟨Nat.le_of_ble_eq_true rfl, Nat.le_of_ble_eq_true rfl⟩ ⟨Nat.le_of_ble_eq_true rfl, Nat.le_of_ble_eq_true rfl⟩ rfl rfl rfl (by decide) rfl (Nat.le_of_ble_eq_true rfl) dX12_chance_11 (fun v τ hq => ?_)
    obtain ⟨r4, rfl, h⟩ := hq
    obtain ⟨s5, es5⟩ : ∃ z, z = τ := ⟨_, rfl⟩
    rw [← es5] at h ⊢
    clear es5
    refine ga_if_ne (tgt := 23) hC dX12_chance_14 (by decide) (fun hc => ?_) (fun hc => ?_)
    · have h := h.1 hc
      refine ga_iconst (v := 3) hC dX12_chance_23 (by decide) ?_
      refine ga_iload_n hC dX12_chance_24 1 rfl rfl ?_
      refine ga_imul hC dX12_chance_25 ?_
      refine ga_iload_n hC dX12_chance_26 2 rfl rfl ?_
      refine ga_iadd hC dX12_chance_27 ?_
      refine ga_topi (fun x7 ex7 => ?_)
      have h := h x7 ex7
      refine ga_istore (lv' := [(4, .int x7), (0, .ref (ad 0)), (1, .int v1), (2, .int v2), (3, .int v3)]) hC dX12_chance_28 (by decide) rfl ?_
      refine ga_aload_n hC dX12_chance_30 1 rfl rfl ?_
      refine gM_0_14 hC q_6_99 dX12_chance_31 ?_
      refine ga_iload hC dX12_chance_34 0 rfl ?_
      obtain ⟨h8, h⟩ := h
      refine ga_iald hC aM_9 (by decide) h8 dX12_chance_36 ?_
      refine ga_if_ne (tgt := 46) hC dX12_chance_37 (by decide) (fun hc => ?_) (fun hc => ?_)
      · have h := h.1 hc
        refine ga_aload_n hC dX12_chance_46 1 rfl rfl ?_
        refine ga_iconst (v := 0) hC dX12_chance_47 (by decide) ?_
        refine pM_0_0 hC q_6_85 dX12_chance_48 ?_
        refine ga_sig (σ := cg_i s5 0 0 0) (fun s9 es9 => ?_)
        have h := h s9 es9
        refine ga_aload_n hC dX12_chance_51 1 rfl rfl ?_
        refine ga_aload_n hC dX12_chance_52 1 rfl rfl ?_
        refine gM_0_15 hC q_6_100 dX12_chance_53 ?_
        refine ga_bipush (v := 7) hC dX12_chance_56 (by decide) ?_
        refine ga_iload hC dX12_chance_58 0 rfl ?_
        refine ga_imul hC dX12_chance_60 ?_
        refine ga_iload_n hC dX12_chance_61 4 rfl rfl ?_
        refine ga_iadd hC dX12_chance_62 ?_
        obtain ⟨h10, h⟩ := h
        refine ga_iald hC aM_10 (by decide) h10 dX12_chance_63 ?_
        refine ga_i2l hC dX12_chance_64 ?_
        refine ga_aload_n hC dX12_chance_65 1 rfl rfl ?_
        refine gM_0_14 hC q_6_99 dX12_chance_66 ?_
        refine ga_iload hC dX12_chance_69 0 rfl ?_
        obtain ⟨h11, h⟩ := h
        refine ga_iald hC aM_9 (by decide) h11 dX12_chance_71 ?_
        refine ga_i2l hC dX12_chance_72 ?_
        refine ga_callV (As := [.long ((s9.1 10 ((7 * x7) + v3).toNatClampNeg).toInt64), .long ((s9.1 9 x7.toNatClampNeg).toInt64)]) (st := []) (k := 0) (n := 2) hC h q_7_37 q_7_39 q_0_16 q_1_13 q_7_40 rfl rfl rfl (by decide +kernel) ⟨Nat.le_of_ble_eq_true rfl, Nat.le_of_ble_eq_true rfl⟩ ⟨Nat.le_of_ble_eq_true rfl, Nat.le_of_ble_eq_true rfl⟩ rfl rfl rfl (by decide) rfl (Nat.le_of_ble_eq_true rfl) dX12_chance_73 (fun v τ hq => ?_)
        obtain ⟨rfl, h⟩ := hq
        obtain ⟨s13, es13⟩ : ∃ z, z = τ := ⟨_, rfl⟩
        rw [← es13] at h ⊢
        clear es13
        refine ga_ldc2 hC q_7_45 dX12_chance_76 ?_
        refine ga_aload_n hC dX12_chance_79 1 rfl rfl ?_
        refine gM_0_40 hC q_6_125 dX12_chance_80 ?_
        refine ga_lmul hC dX12_chance_83 ?_
        refine ga_aload_n hC dX12_chance_84 1 rfl rfl ?_
        refine gM_0_41 hC q_6_126 dX12_chance_85 ?_
        refine ga_ladd hC dX12_chance_88 ?_
        refine ga_l2i hC dX12_chance_89 ?_
        exact ga_iret hC dX12_chance_90 ⟨_, rfl, h⟩
      · have h := h.2 hc
        refine ga_aload_n hC dX12_chance_40 1 rfl rfl ?_
        refine ga_iconst (v := 2) hC dX12_chance_41 (by decide) ?_
        refine ga_callV (As := [.int 2]) (st := []) (k := 0) (n := 1) hC h q_6_229 q_6_231 q_0_12 q_1_13 q_6_232 rfl rfl rfl (by decide +kernel) ⟨Nat.le_of_ble_eq_true rfl, Nat.le_of_ble_eq_true rfl⟩ ⟨Nat.le_of_ble_eq_true rfl, Nat.le_of_ble_eq_true rfl⟩ rfl rfl rfl (by decide) rfl (Nat.le_of_ble_eq_true rfl) dX12_chance_42 (fun v τ hq => ?_)
        obtain ⟨r15, rfl, h⟩ := hq
        obtain ⟨s16, es16⟩ : ∃ z, z = τ := ⟨_, rfl⟩
        rw [← es16] at h ⊢
        clear es16
        exact ga_iret hC dX12_chance_45 ⟨_, rfl, h⟩
    · have h := h.2 hc
      refine ga_locals [0] rfl ?_
      exact h p l e s m args below meth c D cy ad hC
def M_X12_isAll (σ : cg_S) (Q : Int32 → cg_S → Prop) : Prop := cg_M cg_WM yX12_isAll cX12_isAll 3 (some .boolean) (cg_R 0) (fun ad => [.ref (ad 0)]) σ (cg_qi Q)
theorem M_X12_isAll.mono {σ : cg_S} {Q Q2 : Int32 → cg_S → Prop} (h : M_X12_isAll σ Q) (hq : ∀ r τ, Q r τ → Q2 r τ) : M_X12_isAll σ Q2 := cg_M.mono h (fun ad v τ ⟨r, e, q⟩ => ⟨r, e, hq r τ q⟩)
def L_X12_isAll_2 (v1 : Int32) (σ : cg_S) (Q : Int32 → cg_S → Prop) : Prop := cg_L cg_WM RX12 cX12_isAll 3 (some .boolean) (cg_R 0) 2 (fun ad => [(0, .ref (ad 0)), (1, .int v1)]) (fun ad => []) σ (cg_qi Q)
def L_X12_isAll_23 (v1 : Int32) (v2 : Int32) (σ : cg_S) (Q : Int32 → cg_S → Prop) : Prop := cg_L cg_WM RX12 cX12_isAll 3 (some .boolean) (cg_R 0) 23 (fun ad => [(0, .ref (ad 0)), (1, .int v1), (2, .int v2)]) (fun ad => []) σ (cg_qi Q)
set_option maxRecDepth 100000 in
set_option maxHeartbeats 4000000 in
theorem v_X12_isAll_23 {v1 : Int32} {v2 : Int32} {σ : cg_S} {Q : Int32 → cg_S → Prop}
    (h : vp_in v1 7 ∧ ((σ.1 3 v1.toNatClampNeg) ≤ v2 → L_X12_isAll_2 (v1 + 1) σ Q) ∧ (¬ (σ.1 3 v1.toNatClampNeg) ≤ v2 → vp_in ((3 * v1) + v2) 21 ∧ (¬ (σ.1 9 ((3 * v1) + v2).toNatClampNeg) = 0 → L_X12_isAll_23 v1 (v2 + 1) σ Q) ∧ ((σ.1 9 ((3 * v1) + v2).toNatClampNeg) = 0 → Q 0 σ))) : L_X12_isAll_23 v1 v2 σ Q := by
  intro p l e s m args below meth c D cy ad hC
  refine ga_iload_n hC dX12_isAll_23 2 rfl rfl ?_
  refine ga_aload_n hC dX12_isAll_24 0 rfl rfl ?_
  refine gM_0_8 hC q_6_93 dX12_isAll_25 ?_
  refine ga_iload_n hC dX12_isAll_28 1 rfl rfl ?_
  obtain ⟨h1, h⟩ := h
  refine ga_iald hC aM_3 (by decide) h1 dX12_isAll_29 ?_
  refine ga_icmp_ge (tgt := 54) hC dX12_isAll_30 (by decide) (fun hc => ?_) (fun hc => ?_)
  · have h := h.1 hc
    refine ga_iinc (v := v1 + 1) (lv' := [(1, .int (v1 + 1)), (0, .ref (ad 0)), (2, .int v2)]) hC dX12_isAll_54 1 rfl rfl (by decide) rfl ?_
    refine ga_goto (tgt := 2) hC dX12_isAll_57 (by decide) ?_
    refine ga_locals [1, 0] rfl ?_
    exact h p l e s m args below meth c D cy ad hC
  · have h := h.2 hc
    refine ga_aload_n hC dX12_isAll_33 0 rfl rfl ?_
    refine gM_0_14 hC q_6_99 dX12_isAll_34 ?_
    refine ga_iconst (v := 3) hC dX12_isAll_37 (by decide) ?_
    refine ga_iload_n hC dX12_isAll_38 1 rfl rfl ?_
    refine ga_imul hC dX12_isAll_39 ?_
    refine ga_iload_n hC dX12_isAll_40 2 rfl rfl ?_
    refine ga_iadd hC dX12_isAll_41 ?_
    obtain ⟨h2, h⟩ := h
    refine ga_iald hC aM_9 (by decide) h2 dX12_isAll_42 ?_
    refine ga_if_ne (tgt := 48) hC dX12_isAll_43 (by decide) (fun hc => ?_) (fun hc => ?_)
    · have h := h.1 hc
      refine ga_iinc (v := v2 + 1) (lv' := [(2, .int (v2 + 1)), (0, .ref (ad 0)), (1, .int v1)]) hC dX12_isAll_48 2 rfl rfl (by decide) rfl ?_
      refine ga_goto (tgt := 23) hC dX12_isAll_51 (by decide) ?_
      refine ga_locals [1, 2, 0] rfl ?_
      exact h p l e s m args below meth c D cy ad hC
    · have h := h.2 hc
      refine ga_iconst (v := 0) hC dX12_isAll_46 (by decide) ?_
      exact ga_zret hC dX12_isAll_47 (by decide) ⟨_, rfl, h⟩
set_option maxRecDepth 100000 in
set_option maxHeartbeats 4000000 in
theorem v_X12_isAll_2 {v1 : Int32} {σ : cg_S} {Q : Int32 → cg_S → Prop}
    (h : ((σ.1 0 1) ≤ v1 → ((σ.1 0 1) ≤ 0 → Q 0 σ) ∧ (¬ (σ.1 0 1) ≤ 0 → Q 1 σ)) ∧ (¬ (σ.1 0 1) ≤ v1 → vp_in v1 7 ∧ (¬ (σ.1 3 v1.toNatClampNeg) = 0 → L_X12_isAll_23 v1 0 σ Q) ∧ ((σ.1 3 v1.toNatClampNeg) = 0 → Q 0 σ))) : L_X12_isAll_2 v1 σ Q := by
  intro p l e s m args below meth c D cy ad hC
  refine ga_iload_n hC dX12_isAll_2 1 rfl rfl ?_
  refine ga_aload_n hC dX12_isAll_3 0 rfl rfl ?_
  refine gM_0_1 hC q_6_86 dX12_isAll_4 ?_
  refine ga_icmp_ge (tgt := 60) hC dX12_isAll_7 (by decide) (fun hc => ?_) (fun hc => ?_)
  · have h := h.1 hc
    refine ga_aload_n hC dX12_isAll_60 0 rfl rfl ?_
    refine gM_0_1 hC q_6_86 dX12_isAll_61 ?_
    refine ga_if_le (tgt := 71) hC dX12_isAll_64 (by decide) (fun hc => ?_) (fun hc => ?_)
    · have h := h.1 hc
      refine ga_iconst (v := 0) hC dX12_isAll_71 (by decide) ?_
      exact ga_zret hC dX12_isAll_72 (by decide) ⟨_, rfl, h⟩
    · have h := h.2 hc
      refine ga_iconst (v := 1) hC dX12_isAll_67 (by decide) ?_
      refine ga_goto (tgt := 72) hC dX12_isAll_68 (by decide) ?_
      exact ga_zret hC dX12_isAll_72 (by decide) ⟨_, rfl, h⟩
  · have h := h.2 hc
    refine ga_aload_n hC dX12_isAll_10 0 rfl rfl ?_
    refine gM_0_8 hC q_6_93 dX12_isAll_11 ?_
    refine ga_iload_n hC dX12_isAll_14 1 rfl rfl ?_
    obtain ⟨h1, h⟩ := h
    refine ga_iald hC aM_3 (by decide) h1 dX12_isAll_15 ?_
    refine ga_if_ne (tgt := 21) hC dX12_isAll_16 (by decide) (fun hc => ?_) (fun hc => ?_)
    · have h := h.1 hc
      refine ga_iconst (v := 0) hC dX12_isAll_21 (by decide) ?_
      refine ga_istore_n (lv' := [(2, .int 0), (0, .ref (ad 0)), (1, .int v1)]) hC dX12_isAll_22 rfl (by decide) rfl ?_
      refine ga_locals [1, 2, 0] rfl ?_
      exact h p l e s m args below meth c D cy ad hC
    · have h := h.2 hc
      refine ga_iconst (v := 0) hC dX12_isAll_19 (by decide) ?_
      exact ga_zret hC dX12_isAll_20 (by decide) ⟨_, rfl, h⟩
set_option maxRecDepth 100000 in
set_option maxHeartbeats 4000000 in
theorem v_X12_isAll {σ : cg_S} {Q : Int32 → cg_S → Prop}
    (h : L_X12_isAll_2 0 σ Q) : M_X12_isAll σ Q := by
  refine cg_entry (lv := fun ad => [(0, .ref (ad 0))]) (by decide +kernel) (fun _ => rfl) (fun _ => Nat.le_of_ble_eq_true rfl) ?_
  intro p l e s m args below meth c D cy ad hC
  refine ga_iconst (v := 0) hC dX12_isAll_0 (by decide) ?_
  refine ga_istore_n (lv' := [(1, .int 0), (0, .ref (ad 0))]) hC dX12_isAll_1 rfl (by decide) rfl ?_
  refine ga_locals [1, 0] rfl ?_
  exact h p l e s m args below meth c D cy ad hC
def M_X12_isWhole (σ : cg_S) (Q : Int32 → cg_S → Prop) : Prop := cg_M cg_WM yX12_isWhole cX12_isWhole 1 (some .boolean) (cg_R 1) (fun ad => [.ref (ad 0)]) σ (cg_qi Q)
theorem M_X12_isWhole.mono {σ : cg_S} {Q Q2 : Int32 → cg_S → Prop} (h : M_X12_isWhole σ Q) (hq : ∀ r τ, Q r τ → Q2 r τ) : M_X12_isWhole σ Q2 := cg_M.mono h (fun ad v τ ⟨r, e, q⟩ => ⟨r, e, hq r τ q⟩)
set_option maxRecDepth 100000 in
set_option maxHeartbeats 4000000 in
theorem v_X12_isWhole {σ : cg_S} {Q : Int32 → cg_S → Prop}
    (h : ∀ s1 : cg_S, s1 = cg_i σ 0 0 0 → M_X12_isAll s1 (fun r2 s3 => (r2 = 0 ∨ r2 = 1) ∧ Q r2 s3)) : M_X12_isWhole σ Q := by
  refine cg_entry (lv := fun ad => [(0, .ref (ad 0))]) (by decide +kernel) (fun _ => rfl) (fun _ => Nat.le_of_ble_eq_true rfl) ?_
  intro p l e s m args below meth c D cy ad hC
  refine ga_aload_n hC dX12_isWhole_0 0 rfl rfl ?_
  refine ga_iconst (v := 0) hC dX12_isWhole_1 (by decide) ?_
  refine pM_0_0 hC q_6_85 dX12_isWhole_2 ?_
  refine ga_sig (σ := cg_i σ 0 0 0) (fun s1 es1 => ?_)
  have h := h s1 es1
  refine ga_aload_n hC dX12_isWhole_5 0 rfl rfl ?_
  refine ga_callV (As := []) (st := []) (k := 0) (n := 0) hC h q_7_50 q_7_52 q_0_17 q_1_13 q_7_53 rfl rfl rfl (by decide +kernel) ⟨Nat.le_of_ble_eq_true rfl, Nat.le_of_ble_eq_true rfl⟩ ⟨Nat.le_of_ble_eq_true rfl, Nat.le_of_ble_eq_true rfl⟩ rfl rfl rfl (by decide) rfl (Nat.le_of_ble_eq_true rfl) dX12_isWhole_6 (fun v τ hq => ?_)
  obtain ⟨r2, rfl, h⟩ := hq
  obtain ⟨s3, es3⟩ : ∃ z, z = τ := ⟨_, rfl⟩
  rw [← es3] at h ⊢
  clear es3
  exact ga_zret hC dX12_isWhole_9 h.1 ⟨_, rfl, h.2⟩
def M_X12_isAsked (v1 : Int32) (v2 : Int32) (σ : cg_S) (Q : Int32 → cg_S → Prop) : Prop := cg_M cg_WM yX12_isAsked cX12_isAsked 3 (some .boolean) (cg_R 8) (fun ad => [.ref (ad 0), .int v1, .int v2]) σ (cg_qi Q)
theorem M_X12_isAsked.mono {v1 : Int32} {v2 : Int32} {σ : cg_S} {Q Q2 : Int32 → cg_S → Prop} (h : M_X12_isAsked v1 v2 σ Q) (hq : ∀ r τ, Q r τ → Q2 r τ) : M_X12_isAsked v1 v2 σ Q2 := cg_M.mono h (fun ad v τ ⟨r, e, q⟩ => ⟨r, e, hq r τ q⟩)
def L_X12_isAsked_37 (v1 : Int32) (v2 : Int32) (t1 : Int32) (σ : cg_S) (Q : Int32 → cg_S → Prop) : Prop := cg_L cg_WM RX12 cX12_isAsked 3 (some .boolean) (cg_R 8) 37 (fun ad => [(0, .ref (ad 0)), (1, .int v1), (2, .int v2)]) (fun ad => [.int t1, .ref (ad 0)]) σ (cg_qi Q)
set_option maxRecDepth 100000 in
set_option maxHeartbeats 4000000 in
theorem v_X12_isAsked_37 {v1 : Int32} {v2 : Int32} {t1 : Int32} {σ : cg_S} {Q : Int32 → cg_S → Prop}
    (h : ∀ s1 : cg_S, s1 = cg_i σ 0 0 t1 → ((s1.1 0 0) ≤ 0 → M_X12_values v1 s1 (fun s3 => M_X12_numberOf v1 s3 (fun r5 s6 => vp_in ((7 * r5) + v2) 28 ∧ ∀ s9 : cg_S, s9 = cg_l s6 0 40 (s6.2.1 28 ((7 * r5) + v2).toNatClampNeg) → M_X12_numberOf v1 s9 (fun r10 s11 => vp_in ((7 * r10) + v2) 28 ∧ ∀ s14 : cg_S, s14 = cg_l s11 0 41 (s11.2.1 29 ((7 * r10) + v2).toNatClampNeg) → Q 1 s14)))) ∧ (¬ (s1.1 0 0) ≤ 0 → Q 0 s1)) : L_X12_isAsked_37 v1 v2 t1 σ Q := by
  intro p l e s m args below meth c D cy ad hC
  refine pM_0_0 hC q_6_85 dX12_isAsked_37 ?_
  refine ga_sig (σ := cg_i σ 0 0 t1) (fun s1 es1 => ?_)
  have h := h s1 es1
  refine ga_aload_n hC dX12_isAsked_40 0 rfl rfl ?_
  refine gM_0_0 hC q_6_85 dX12_isAsked_41 ?_
  refine ga_if_le (tgt := 49) hC dX12_isAsked_44 (by decide) (fun hc => ?_) (fun hc => ?_)
  · have h := h.1 hc
    refine ga_aload_n hC dX12_isAsked_49 0 rfl rfl ?_
    refine ga_iload_n hC dX12_isAsked_50 1 rfl rfl ?_
    refine ga_callV (As := [.int v1]) (st := []) (k := 0) (n := 1) hC h q_7_65 q_7_67 q_0_19 q_1_13 q_7_68 rfl rfl rfl (by decide +kernel) ⟨Nat.le_of_ble_eq_true rfl, Nat.le_of_ble_eq_true rfl⟩ ⟨Nat.le_of_ble_eq_true rfl, Nat.le_of_ble_eq_true rfl⟩ rfl rfl rfl (by decide) rfl (Nat.le_of_ble_eq_true rfl) dX12_isAsked_51 (fun v τ hq => ?_)
    obtain ⟨rfl, h⟩ := hq
    obtain ⟨s3, es3⟩ : ∃ z, z = τ := ⟨_, rfl⟩
    rw [← es3] at h ⊢
    clear es3
    refine ga_aload_n hC dX12_isAsked_54 0 rfl rfl ?_
    refine ga_aload_n hC dX12_isAsked_55 0 rfl rfl ?_
    refine gM_0_28 hC q_6_113 dX12_isAsked_56 ?_
    refine ga_bipush (v := 7) hC dX12_isAsked_59 (by decide) ?_
    refine ga_iload_n hC dX12_isAsked_61 1 rfl rfl ?_
    refine ga_callS (As := [.int v1]) (st := [.int 7, .ref (ad 28), .ref (ad 0)]) (n := 1) hC h q_7_62 q_7_63 q_1_13 q_7_64 rfl rfl rfl (by decide +kernel) ⟨Nat.le_of_ble_eq_true rfl, Nat.le_of_ble_eq_true rfl⟩ ⟨Nat.le_of_ble_eq_true rfl, Nat.le_of_ble_eq_true rfl⟩ rfl rfl (Nat.le_of_ble_eq_true rfl) dX12_isAsked_62 (fun v τ hq => ?_)
    obtain ⟨r5, rfl, h⟩ := hq
    obtain ⟨s6, es6⟩ : ∃ z, z = τ := ⟨_, rfl⟩
    rw [← es6] at h ⊢
    clear es6
    refine ga_imul hC dX12_isAsked_65 ?_
    refine ga_iload_n hC dX12_isAsked_66 2 rfl rfl ?_
    refine ga_iadd hC dX12_isAsked_67 ?_
    obtain ⟨h8, h⟩ := h
    refine ga_lald hC aM_28 (by decide) h8 dX12_isAsked_68 ?_
    refine pM_0_40 hC q_6_125 dX12_isAsked_69 ?_
    refine ga_sig (σ := cg_l s6 0 40 (s6.2.1 28 ((7 * r5) + v2).toNatClampNeg)) (fun s9 es9 => ?_)
    have h := h s9 es9
    refine ga_aload_n hC dX12_isAsked_72 0 rfl rfl ?_
    refine ga_aload_n hC dX12_isAsked_73 0 rfl rfl ?_
    refine gM_0_29 hC q_6_114 dX12_isAsked_74 ?_
    refine ga_bipush (v := 7) hC dX12_isAsked_77 (by decide) ?_
    refine ga_iload_n hC dX12_isAsked_79 1 rfl rfl ?_
    refine ga_callS (As := [.int v1]) (st := [.int 7, .ref (ad 29), .ref (ad 0)]) (n := 1) hC h q_7_62 q_7_63 q_1_13 q_7_64 rfl rfl rfl (by decide +kernel) ⟨Nat.le_of_ble_eq_true rfl, Nat.le_of_ble_eq_true rfl⟩ ⟨Nat.le_of_ble_eq_true rfl, Nat.le_of_ble_eq_true rfl⟩ rfl rfl (Nat.le_of_ble_eq_true rfl) dX12_isAsked_80 (fun v τ hq => ?_)
    obtain ⟨r10, rfl, h⟩ := hq
    obtain ⟨s11, es11⟩ : ∃ z, z = τ := ⟨_, rfl⟩
    rw [← es11] at h ⊢
    clear es11
    refine ga_imul hC dX12_isAsked_83 ?_
    refine ga_iload_n hC dX12_isAsked_84 2 rfl rfl ?_
    refine ga_iadd hC dX12_isAsked_85 ?_
    obtain ⟨h13, h⟩ := h
    refine ga_lald hC aM_29 (by decide) h13 dX12_isAsked_86 ?_
    refine pM_0_41 hC q_6_126 dX12_isAsked_87 ?_
    refine ga_sig (σ := cg_l s11 0 41 (s11.2.1 29 ((7 * r10) + v2).toNatClampNeg)) (fun s14 es14 => ?_)
    have h := h s14 es14
    refine ga_iconst (v := 1) hC dX12_isAsked_90 (by decide) ?_
    exact ga_zret hC dX12_isAsked_91 (by decide) ⟨_, rfl, h⟩
  · have h := h.2 hc
    refine ga_iconst (v := 0) hC dX12_isAsked_47 (by decide) ?_
    exact ga_zret hC dX12_isAsked_48 (by decide) ⟨_, rfl, h⟩
set_option maxRecDepth 100000 in
set_option maxHeartbeats 4000000 in
theorem v_X12_isAsked {v1 : Int32} {v2 : Int32} {σ : cg_S} {Q : Int32 → cg_S → Prop}
    (h : M_X12_numberOf v1 σ (fun r1 s2 => (¬ r1 = (-1) → M_X12_isState v2 s2 (fun r4 s5 => (¬ r4 = 0 → M_X12_isAll s5 (fun r7 s8 => (¬ r7 = 0 → L_X12_isAsked_37 v1 v2 0 s8 Q) ∧ (r7 = 0 → L_X12_isAsked_37 v1 v2 3 s8 Q))) ∧ (r4 = 0 → L_X12_isAsked_37 v1 v2 2 s5 Q))) ∧ (r1 = (-1) → L_X12_isAsked_37 v1 v2 1 s2 Q))) : M_X12_isAsked v1 v2 σ Q := by
  refine cg_entry (lv := fun ad => [(0, .ref (ad 0)), (1, .int v1), (2, .int v2)]) (by decide +kernel) (fun _ => rfl) (fun _ => Nat.le_of_ble_eq_true rfl) ?_
  intro p l e s m args below meth c D cy ad hC
  refine ga_aload_n hC dX12_isAsked_0 0 rfl rfl ?_
  refine ga_iload_n hC dX12_isAsked_1 1 rfl rfl ?_
  refine ga_callS (As := [.int v1]) (st := [.ref (ad 0)]) (n := 1) hC h q_7_62 q_7_63 q_1_13 q_7_64 rfl rfl rfl (by decide +kernel) ⟨Nat.le_of_ble_eq_true rfl, Nat.le_of_ble_eq_true rfl⟩ ⟨Nat.le_of_ble_eq_true rfl, Nat.le_of_ble_eq_true rfl⟩ rfl rfl (Nat.le_of_ble_eq_true rfl) dX12_isAsked_2 (fun v τ hq => ?_)
  obtain ⟨r1, rfl, h⟩ := hq
  obtain ⟨s2, es2⟩ : ∃ z, z = τ := ⟨_, rfl⟩
  rw [← es2] at h ⊢
  clear es2
  refine ga_iconst (v := (-1)) hC dX12_isAsked_5 (by decide) ?_
  refine ga_icmp_ne (tgt := 13) hC dX12_isAsked_6 (by decide) (fun hc => ?_) (fun hc => ?_)
  · have h := h.1 hc
    refine ga_aload_n hC dX12_isAsked_13 0 rfl rfl ?_
    refine ga_iload_n hC dX12_isAsked_14 2 rfl rfl ?_
    refine ga_callV (As := [.int v2]) (st := [.ref (ad 0)]) (k := 0) (n := 1) hC h q_7_1 q_7_3 q_0_14 q_1_13 q_7_4 rfl rfl rfl (by decide +kernel) ⟨Nat.le_of_ble_eq_true rfl, Nat.le_of_ble_eq_true rfl⟩ ⟨Nat.le_of_ble_eq_true rfl, Nat.le_of_ble_eq_true rfl⟩ rfl rfl rfl (by decide) rfl (Nat.le_of_ble_eq_true rfl) dX12_isAsked_15 (fun v τ hq => ?_)
    obtain ⟨r4, rfl, h⟩ := hq
    obtain ⟨s5, es5⟩ : ∃ z, z = τ := ⟨_, rfl⟩
    rw [← es5] at h ⊢
    clear es5
    refine ga_if_ne (tgt := 25) hC dX12_isAsked_18 (by decide) (fun hc => ?_) (fun hc => ?_)
    · have h := h.1 hc
      refine ga_aload_n hC dX12_isAsked_25 0 rfl rfl ?_
      refine ga_callV (As := []) (st := [.ref (ad 0)]) (k := 0) (n := 0) hC h q_7_50 q_7_52 q_0_17 q_1_13 q_7_53 rfl rfl rfl (by decide +kernel) ⟨Nat.le_of_ble_eq_true rfl, Nat.le_of_ble_eq_true rfl⟩ ⟨Nat.le_of_ble_eq_true rfl, Nat.le_of_ble_eq_true rfl⟩ rfl rfl rfl (by decide) rfl (Nat.le_of_ble_eq_true rfl) dX12_isAsked_26 (fun v τ hq => ?_)
      obtain ⟨r7, rfl, h⟩ := hq
      obtain ⟨s8, es8⟩ : ∃ z, z = τ := ⟨_, rfl⟩
      rw [← es8] at h ⊢
      clear es8
      refine ga_if_ne (tgt := 36) hC dX12_isAsked_29 (by decide) (fun hc => ?_) (fun hc => ?_)
      · have h := h.1 hc
        refine ga_iconst (v := 0) hC dX12_isAsked_36 (by decide) ?_
        refine ga_locals [0, 1, 2] rfl ?_
        exact h p l e s m args below meth c D cy ad hC
      · have h := h.2 hc
        refine ga_iconst (v := 3) hC dX12_isAsked_32 (by decide) ?_
        refine ga_goto (tgt := 37) hC dX12_isAsked_33 (by decide) ?_
        refine ga_locals [0, 1, 2] rfl ?_
        exact h p l e s m args below meth c D cy ad hC
    · have h := h.2 hc
      refine ga_iconst (v := 2) hC dX12_isAsked_21 (by decide) ?_
      refine ga_goto (tgt := 37) hC dX12_isAsked_22 (by decide) ?_
      refine ga_locals [0, 1, 2] rfl ?_
      exact h p l e s m args below meth c D cy ad hC
  · have h := h.2 hc
    refine ga_iconst (v := 1) hC dX12_isAsked_9 (by decide) ?_
    refine ga_goto (tgt := 37) hC dX12_isAsked_10 (by decide) ?_
    refine ga_locals [0, 1, 2] rfl ?_
    exact h p l e s m args below meth c D cy ad hC
def M_X12_above (v1 : Int32) (v2 : Int32) (σ : cg_S) (Q : Int64 → cg_S → Prop) : Prop := cg_M cg_WM yX12_above cX12_above 3 (some .long) (cg_R 9) (fun ad => [.ref (ad 0), .int v1, .int v2]) σ (cg_ql Q)
theorem M_X12_above.mono {v1 : Int32} {v2 : Int32} {σ : cg_S} {Q Q2 : Int64 → cg_S → Prop} (h : M_X12_above v1 v2 σ Q) (hq : ∀ r τ, Q r τ → Q2 r τ) : M_X12_above v1 v2 σ Q2 := cg_M.mono h (fun ad v τ ⟨r, e, q⟩ => ⟨r, e, hq r τ q⟩)
set_option maxRecDepth 100000 in
set_option maxHeartbeats 4000000 in
theorem v_X12_above {v1 : Int32} {v2 : Int32} {σ : cg_S} {Q : Int64 → cg_S → Prop}
    (h : M_X12_isAsked v1 v2 σ (fun r1 s2 => (r1 = 0 → Q 0 s2) ∧ (¬ r1 = 0 → Q (s2.2.1 0 40) s2))) : M_X12_above v1 v2 σ Q := by
  refine cg_entry (lv := fun ad => [(0, .ref (ad 0)), (1, .int v1), (2, .int v2)]) (by decide +kernel) (fun _ => rfl) (fun _ => Nat.le_of_ble_eq_true rfl) ?_
  intro p l e s m args below meth c D cy ad hC
  refine ga_aload_n hC dX12_above_0 0 rfl rfl ?_
  refine ga_iload_n hC dX12_above_1 1 rfl rfl ?_
  refine ga_iload_n hC dX12_above_2 2 rfl rfl ?_
  refine ga_callV (As := [.int v1, .int v2]) (st := []) (k := 0) (n := 2) hC h q_7_58 q_7_60 q_0_18 q_1_13 q_7_61 rfl rfl rfl (by decide +kernel) ⟨Nat.le_of_ble_eq_true rfl, Nat.le_of_ble_eq_true rfl⟩ ⟨Nat.le_of_ble_eq_true rfl, Nat.le_of_ble_eq_true rfl⟩ rfl rfl rfl (by decide) rfl (Nat.le_of_ble_eq_true rfl) dX12_above_3 (fun v τ hq => ?_)
  obtain ⟨r1, rfl, h⟩ := hq
  obtain ⟨s2, es2⟩ : ∃ z, z = τ := ⟨_, rfl⟩
  rw [← es2] at h ⊢
  clear es2
  refine ga_if_eq (tgt := 16) hC dX12_above_6 (by decide) (fun hc => ?_) (fun hc => ?_)
  · have h := h.1 hc
    refine ga_lconst (v := 0) hC dX12_above_16 (by decide) ?_
    exact ga_lret hC dX12_above_17 ⟨_, rfl, h⟩
  · have h := h.2 hc
    refine ga_aload_n hC dX12_above_9 0 rfl rfl ?_
    refine gM_0_40 hC q_6_125 dX12_above_10 ?_
    refine ga_goto (tgt := 17) hC dX12_above_13 (by decide) ?_
    exact ga_lret hC dX12_above_17 ⟨_, rfl, h⟩
def M_X12_below (v1 : Int32) (v2 : Int32) (σ : cg_S) (Q : Int64 → cg_S → Prop) : Prop := cg_M cg_WM yX12_below cX12_below 3 (some .long) (cg_R 9) (fun ad => [.ref (ad 0), .int v1, .int v2]) σ (cg_ql Q)
theorem M_X12_below.mono {v1 : Int32} {v2 : Int32} {σ : cg_S} {Q Q2 : Int64 → cg_S → Prop} (h : M_X12_below v1 v2 σ Q) (hq : ∀ r τ, Q r τ → Q2 r τ) : M_X12_below v1 v2 σ Q2 := cg_M.mono h (fun ad v τ ⟨r, e, q⟩ => ⟨r, e, hq r τ q⟩)
set_option maxRecDepth 100000 in
set_option maxHeartbeats 4000000 in
theorem v_X12_below {v1 : Int32} {v2 : Int32} {σ : cg_S} {Q : Int64 → cg_S → Prop}
    (h : M_X12_isAsked v1 v2 σ (fun r1 s2 => (r1 = 0 → Q 0 s2) ∧ (¬ r1 = 0 → Q (s2.2.1 0 41) s2))) : M_X12_below v1 v2 σ Q := by
  refine cg_entry (lv := fun ad => [(0, .ref (ad 0)), (1, .int v1), (2, .int v2)]) (by decide +kernel) (fun _ => rfl) (fun _ => Nat.le_of_ble_eq_true rfl) ?_
  intro p l e s m args below meth c D cy ad hC
  refine ga_aload_n hC dX12_below_0 0 rfl rfl ?_
  refine ga_iload_n hC dX12_below_1 1 rfl rfl ?_
  refine ga_iload_n hC dX12_below_2 2 rfl rfl ?_
  refine ga_callV (As := [.int v1, .int v2]) (st := []) (k := 0) (n := 2) hC h q_7_58 q_7_60 q_0_18 q_1_13 q_7_61 rfl rfl rfl (by decide +kernel) ⟨Nat.le_of_ble_eq_true rfl, Nat.le_of_ble_eq_true rfl⟩ ⟨Nat.le_of_ble_eq_true rfl, Nat.le_of_ble_eq_true rfl⟩ rfl rfl rfl (by decide) rfl (Nat.le_of_ble_eq_true rfl) dX12_below_3 (fun v τ hq => ?_)
  obtain ⟨r1, rfl, h⟩ := hq
  obtain ⟨s2, es2⟩ : ∃ z, z = τ := ⟨_, rfl⟩
  rw [← es2] at h ⊢
  clear es2
  refine ga_if_eq (tgt := 16) hC dX12_below_6 (by decide) (fun hc => ?_) (fun hc => ?_)
  · have h := h.1 hc
    refine ga_lconst (v := 0) hC dX12_below_16 (by decide) ?_
    exact ga_lret hC dX12_below_17 ⟨_, rfl, h⟩
  · have h := h.2 hc
    refine ga_aload_n hC dX12_below_9 0 rfl rfl ?_
    refine gM_0_41 hC q_6_126 dX12_below_10 ?_
    refine ga_goto (tgt := 17) hC dX12_below_13 (by decide) ?_
    exact ga_lret hC dX12_below_17 ⟨_, rfl, h⟩
def M_X12_aboveByAll (v1 : Int32) (v2 : Int32) (σ : cg_S) (Q : Int64 → cg_S → Prop) : Prop := cg_M cg_WM yX12_aboveByAll cX12_aboveByAll 3 (some .long) (cg_R 10) (fun ad => [.ref (ad 0), .int v1, .int v2]) σ (cg_ql Q)
theorem M_X12_aboveByAll.mono {v1 : Int32} {v2 : Int32} {σ : cg_S} {Q Q2 : Int64 → cg_S → Prop} (h : M_X12_aboveByAll v1 v2 σ Q) (hq : ∀ r τ, Q r τ → Q2 r τ) : M_X12_aboveByAll v1 v2 σ Q2 := cg_M.mono h (fun ad v τ ⟨r, e, q⟩ => ⟨r, e, hq r τ q⟩)
set_option maxRecDepth 100000 in
set_option maxHeartbeats 4000000 in
theorem v_X12_aboveByAll {v1 : Int32} {v2 : Int32} {σ : cg_S} {Q : Int64 → cg_S → Prop}
    (h : M_X12_above v1 v2 σ (fun r1 s2 => Q r1 s2)) : M_X12_aboveByAll v1 v2 σ Q := by
  refine cg_entry (lv := fun ad => [(0, .ref (ad 0)), (1, .int v1), (2, .int v2)]) (by decide +kernel) (fun _ => rfl) (fun _ => Nat.le_of_ble_eq_true rfl) ?_
  intro p l e s m args below meth c D cy ad hC
  refine ga_aload_n hC dX12_aboveByAll_0 0 rfl rfl ?_
  refine ga_iload_n hC dX12_aboveByAll_1 1 rfl rfl ?_
  refine ga_iload_n hC dX12_aboveByAll_2 2 rfl rfl ?_
  refine ga_callV (As := [.int v1, .int v2]) (st := []) (k := 0) (n := 2) hC h q_7_164 q_7_55 q_7_56 q_1_13 q_7_57 rfl rfl rfl (by decide +kernel) ⟨Nat.le_of_ble_eq_true rfl, Nat.le_of_ble_eq_true rfl⟩ ⟨Nat.le_of_ble_eq_true rfl, Nat.le_of_ble_eq_true rfl⟩ rfl rfl rfl (by decide) rfl (Nat.le_of_ble_eq_true rfl) dX12_aboveByAll_3 (fun v τ hq => ?_)
  obtain ⟨r1, rfl, h⟩ := hq
  obtain ⟨s2, es2⟩ : ∃ z, z = τ := ⟨_, rfl⟩
  rw [← es2] at h ⊢
  clear es2
  exact ga_lret hC dX12_aboveByAll_6 ⟨_, rfl, h⟩
def M_X12_belowByAll (v1 : Int32) (v2 : Int32) (σ : cg_S) (Q : Int64 → cg_S → Prop) : Prop := cg_M cg_WM yX12_belowByAll cX12_belowByAll 3 (some .long) (cg_R 10) (fun ad => [.ref (ad 0), .int v1, .int v2]) σ (cg_ql Q)
theorem M_X12_belowByAll.mono {v1 : Int32} {v2 : Int32} {σ : cg_S} {Q Q2 : Int64 → cg_S → Prop} (h : M_X12_belowByAll v1 v2 σ Q) (hq : ∀ r τ, Q r τ → Q2 r τ) : M_X12_belowByAll v1 v2 σ Q2 := cg_M.mono h (fun ad v τ ⟨r, e, q⟩ => ⟨r, e, hq r τ q⟩)
set_option maxRecDepth 100000 in
set_option maxHeartbeats 4000000 in
theorem v_X12_belowByAll {v1 : Int32} {v2 : Int32} {σ : cg_S} {Q : Int64 → cg_S → Prop}
    (h : M_X12_below v1 v2 σ (fun r1 s2 => Q r1 s2)) : M_X12_belowByAll v1 v2 σ Q := by
  refine cg_entry (lv := fun ad => [(0, .ref (ad 0)), (1, .int v1), (2, .int v2)]) (by decide +kernel) (fun _ => rfl) (fun _ => Nat.le_of_ble_eq_true rfl) ?_
  intro p l e s m args below meth c D cy ad hC
  refine ga_aload_n hC dX12_belowByAll_0 0 rfl rfl ?_
  refine ga_iload_n hC dX12_belowByAll_1 1 rfl rfl ?_
  refine ga_iload_n hC dX12_belowByAll_2 2 rfl rfl ?_
  refine ga_callV (As := [.int v1, .int v2]) (st := []) (k := 0) (n := 2) hC h q_7_169 q_7_157 q_7_158 q_1_13 q_7_159 rfl rfl rfl (by decide +kernel) ⟨Nat.le_of_ble_eq_true rfl, Nat.le_of_ble_eq_true rfl⟩ ⟨Nat.le_of_ble_eq_true rfl, Nat.le_of_ble_eq_true rfl⟩ rfl rfl rfl (by decide) rfl (Nat.le_of_ble_eq_true rfl) dX12_belowByAll_3 (fun v τ hq => ?_)
  obtain ⟨r1, rfl, h⟩ := hq
  obtain ⟨s2, es2⟩ : ∃ z, z = τ := ⟨_, rfl⟩
  rw [← es2] at h ⊢
  clear es2
  exact ga_lret hC dX12_belowByAll_6 ⟨_, rfl, h⟩
def M_X12_valueFloat (v1 : Int32) (v2 : Int32) (σ : cg_S) (Q : UInt32 → cg_S → Prop) : Prop := cg_M cg_WM yX12_valueFloat cX12_valueFloat 3 (some .float) (cg_R 9) (fun ad => [.ref (ad 0), .int v1, .int v2]) σ (cg_qf Q)
theorem M_X12_valueFloat.mono {v1 : Int32} {v2 : Int32} {σ : cg_S} {Q Q2 : UInt32 → cg_S → Prop} (h : M_X12_valueFloat v1 v2 σ Q) (hq : ∀ r τ, Q r τ → Q2 r τ) : M_X12_valueFloat v1 v2 σ Q2 := cg_M.mono h (fun ad v τ ⟨r, e, q⟩ => ⟨r, e, hq r τ q⟩)
set_option maxRecDepth 100000 in
set_option maxHeartbeats 4000000 in
theorem v_X12_valueFloat {v1 : Int32} {v2 : Int32} {σ : cg_S} {Q : UInt32 → cg_S → Prop}
    (h : M_X12_isAsked v1 v2 σ (fun r1 s2 => (r1 = 0 → Q FP.fconst0 s2) ∧ (¬ r1 = 0 → vf_n32 (FP.fdiv (FP.l2f (s2.2.1 0 40)) (FP.l2f (s2.2.1 0 41))) ∧ Q (FP.fdiv (FP.l2f (s2.2.1 0 40)) (FP.l2f (s2.2.1 0 41))) s2))) : M_X12_valueFloat v1 v2 σ Q := by
  refine cg_entry (lv := fun ad => [(0, .ref (ad 0)), (1, .int v1), (2, .int v2)]) (by decide +kernel) (fun _ => rfl) (fun _ => Nat.le_of_ble_eq_true rfl) ?_
  intro p l e s m args below meth c D cy ad hC
  refine ga_aload_n hC dX12_valueFloat_0 0 rfl rfl ?_
  refine ga_iload_n hC dX12_valueFloat_1 1 rfl rfl ?_
  refine ga_iload_n hC dX12_valueFloat_2 2 rfl rfl ?_
  refine ga_callV (As := [.int v1, .int v2]) (st := []) (k := 0) (n := 2) hC h q_7_58 q_7_60 q_0_18 q_1_13 q_7_61 rfl rfl rfl (by decide +kernel) ⟨Nat.le_of_ble_eq_true rfl, Nat.le_of_ble_eq_true rfl⟩ ⟨Nat.le_of_ble_eq_true rfl, Nat.le_of_ble_eq_true rfl⟩ rfl rfl rfl (by decide) rfl (Nat.le_of_ble_eq_true rfl) dX12_valueFloat_3 (fun v τ hq => ?_)
  obtain ⟨r1, rfl, h⟩ := hq
  obtain ⟨s2, es2⟩ : ∃ z, z = τ := ⟨_, rfl⟩
  rw [← es2] at h ⊢
  clear es2
  refine ga_if_eq (tgt := 23) hC dX12_valueFloat_6 (by decide) (fun hc => ?_) (fun hc => ?_)
  · have h := h.1 hc
    refine ga_fconst0 hC dX12_valueFloat_23 ?_
    exact ga_fret hC dX12_valueFloat_24 ⟨_, rfl, h⟩
  · have h := h.2 hc
    refine ga_aload_n hC dX12_valueFloat_9 0 rfl rfl ?_
    refine gM_0_40 hC q_6_125 dX12_valueFloat_10 ?_
    refine ga_l2f hC dX12_valueFloat_13 ?_
    refine ga_aload_n hC dX12_valueFloat_14 0 rfl rfl ?_
    refine gM_0_41 hC q_6_126 dX12_valueFloat_15 ?_
    refine ga_l2f hC dX12_valueFloat_18 ?_
    obtain ⟨h4, h⟩ := h
    refine ga_fdiv hC dX12_valueFloat_19 h4 ?_
    refine ga_goto (tgt := 24) hC dX12_valueFloat_20 (by decide) ?_
    exact ga_fret hC dX12_valueFloat_24 ⟨_, rfl, h⟩
def M_X12_restFloat (v1 : Int32) (v2 : Int32) (σ : cg_S) (Q : UInt32 → cg_S → Prop) : Prop := cg_M cg_WM yX12_restFloat cX12_restFloat 3 (some .float) (cg_R 9) (fun ad => [.ref (ad 0), .int v1, .int v2]) σ (cg_qf Q)
theorem M_X12_restFloat.mono {v1 : Int32} {v2 : Int32} {σ : cg_S} {Q Q2 : UInt32 → cg_S → Prop} (h : M_X12_restFloat v1 v2 σ Q) (hq : ∀ r τ, Q r τ → Q2 r τ) : M_X12_restFloat v1 v2 σ Q2 := cg_M.mono h (fun ad v τ ⟨r, e, q⟩ => ⟨r, e, hq r τ q⟩)
set_option maxRecDepth 100000 in
set_option maxHeartbeats 4000000 in
theorem v_X12_restFloat {v1 : Int32} {v2 : Int32} {σ : cg_S} {Q : UInt32 → cg_S → Prop}
    (h : M_X12_isAsked v1 v2 σ (fun r1 s2 => (r1 = 0 → Q FP.fconst0 s2) ∧ (¬ r1 = 0 → vf_n32 (FP.fdiv (FP.l2f (s2.2.1 0 40)) (FP.l2f (s2.2.1 0 41))) ∧ vf_n32 (FP.frem (FP.fdiv (FP.l2f (s2.2.1 0 40)) (FP.l2f (s2.2.1 0 41))) 1061158912) ∧ Q (FP.frem (FP.fdiv (FP.l2f (s2.2.1 0 40)) (FP.l2f (s2.2.1 0 41))) 1061158912) s2))) : M_X12_restFloat v1 v2 σ Q := by
  refine cg_entry (lv := fun ad => [(0, .ref (ad 0)), (1, .int v1), (2, .int v2)]) (by decide +kernel) (fun _ => rfl) (fun _ => Nat.le_of_ble_eq_true rfl) ?_
  intro p l e s m args below meth c D cy ad hC
  refine ga_aload_n hC dX12_restFloat_0 0 rfl rfl ?_
  refine ga_iload_n hC dX12_restFloat_1 1 rfl rfl ?_
  refine ga_iload_n hC dX12_restFloat_2 2 rfl rfl ?_
  refine ga_callV (As := [.int v1, .int v2]) (st := []) (k := 0) (n := 2) hC h q_7_58 q_7_60 q_0_18 q_1_13 q_7_61 rfl rfl rfl (by decide +kernel) ⟨Nat.le_of_ble_eq_true rfl, Nat.le_of_ble_eq_true rfl⟩ ⟨Nat.le_of_ble_eq_true rfl, Nat.le_of_ble_eq_true rfl⟩ rfl rfl rfl (by decide) rfl (Nat.le_of_ble_eq_true rfl) dX12_restFloat_3 (fun v τ hq => ?_)
  obtain ⟨r1, rfl, h⟩ := hq
  obtain ⟨s2, es2⟩ : ∃ z, z = τ := ⟨_, rfl⟩
  rw [← es2] at h ⊢
  clear es2
  refine ga_if_eq (tgt := 27) hC dX12_restFloat_6 (by decide) (fun hc => ?_) (fun hc => ?_)
  · have h := h.1 hc
    refine ga_fconst0 hC dX12_restFloat_27 ?_
    exact ga_fret hC dX12_restFloat_28 ⟨_, rfl, h⟩
  · have h := h.2 hc
    refine ga_aload_n hC dX12_restFloat_9 0 rfl rfl ?_
    refine gM_0_40 hC q_6_125 dX12_restFloat_10 ?_
    refine ga_l2f hC dX12_restFloat_13 ?_
    refine ga_aload_n hC dX12_restFloat_14 0 rfl rfl ?_
    refine gM_0_41 hC q_6_126 dX12_restFloat_15 ?_
    refine ga_l2f hC dX12_restFloat_18 ?_
    obtain ⟨h4, h⟩ := h
    refine ga_fdiv hC dX12_restFloat_19 h4 ?_
    refine ga_ldcfw hC q_7_178 dX12_restFloat_20 ?_
    obtain ⟨h5, h⟩ := h
    refine ga_frem hC dX12_restFloat_23 h5 ?_
    refine ga_goto (tgt := 28) hC dX12_restFloat_24 (by decide) ?_
    exact ga_fret hC dX12_restFloat_28 ⟨_, rfl, h⟩
def M_X12_rounded (v1 : Int32) (v2 : Int32) (σ : cg_S) (Q : Int64 → cg_S → Prop) : Prop := cg_M cg_WM yX12_rounded cX12_rounded 11 (some .long) (cg_R 9) (fun ad => [.ref (ad 0), .int v1, .int v2]) σ (cg_ql Q)
theorem M_X12_rounded.mono {v1 : Int32} {v2 : Int32} {σ : cg_S} {Q Q2 : Int64 → cg_S → Prop} (h : M_X12_rounded v1 v2 σ Q) (hq : ∀ r τ, Q r τ → Q2 r τ) : M_X12_rounded v1 v2 σ Q2 := cg_M.mono h (fun ad v τ ⟨r, e, q⟩ => ⟨r, e, hq r τ q⟩)
set_option maxRecDepth 100000 in
set_option maxHeartbeats 4000000 in
theorem v_X12_rounded {v1 : Int32} {v2 : Int32} {σ : cg_S} {Q : Int64 → cg_S → Prop}
    (h : M_X12_isAsked v1 v2 σ (fun r1 s2 => (¬ r1 = 0 → ∀ x4 : Int64, x4 = 2 * (s2.2.1 0 40) → vf_n64 (FP.ddiv (FP.l2d (s2.2.1 0 40)) (FP.l2d (s2.2.1 0 41))) ∧ ∀ x6 : UInt64, x6 = FP.ddiv (FP.l2d (s2.2.1 0 40)) (FP.l2d (s2.2.1 0 41)) → ∀ x7 : Int64, x7 = FP.d2l x6 → vf_n64 (FP.dsub x6 (FP.l2d x7)) ∧ ∀ x9 : UInt64, x9 = FP.dsub x6 (FP.l2d x7) → (0 < (Op.cmpValue (FP.dcmp x9 4602678819172646912) .l) → Q (x7 + 1) s2) ∧ (¬ 0 < (Op.cmpValue (FP.dcmp x9 4602678819172646912) .l) → (¬ (Op.cmpValue (FP.dcmp x9 4602678819172646912) .l) = 0 → Q x7 s2) ∧ ((Op.cmpValue (FP.dcmp x9 4602678819172646912) .l) = 0 → (¬ (x7 - x7 / 2 * 2) = 1 → Q x7 s2) ∧ ((x7 - x7 / 2 * 2) = 1 → (x4 ≤ 0 → Q x7 s2) ∧ (¬ x4 ≤ 0 → Q (x7 + 1) s2))))) ∧ (r1 = 0 → Q 0 s2))) : M_X12_rounded v1 v2 σ Q := by
  refine cg_entry (lv := fun ad => [(0, .ref (ad 0)), (1, .int v1), (2, .int v2)]) (by decide +kernel) (fun _ => rfl) (fun _ => Nat.le_of_ble_eq_true rfl) ?_
  intro p l e s m args below meth c D cy ad hC
  refine ga_aload_n hC dX12_rounded_0 0 rfl rfl ?_
  refine ga_iload_n hC dX12_rounded_1 1 rfl rfl ?_
  refine ga_iload_n hC dX12_rounded_2 2 rfl rfl ?_
  refine ga_callV (As := [.int v1, .int v2]) (st := []) (k := 0) (n := 2) hC h q_7_58 q_7_60 q_0_18 q_1_13 q_7_61 rfl rfl rfl (by decide +kernel) ⟨Nat.le_of_ble_eq_true rfl, Nat.le_of_ble_eq_true rfl⟩ ⟨Nat.le_of_ble_eq_true rfl, Nat.le_of_ble_eq_true rfl⟩ rfl rfl rfl (by decide) rfl (Nat.le_of_ble_eq_true rfl) dX12_rounded_3 (fun v τ hq => ?_)
  obtain ⟨r1, rfl, h⟩ := hq
  obtain ⟨s2, es2⟩ : ∃ z, z = τ := ⟨_, rfl⟩
  rw [← es2] at h ⊢
  clear es2
  refine ga_if_ne (tgt := 11) hC dX12_rounded_6 (by decide) (fun hc => ?_) (fun hc => ?_)
  · have h := h.1 hc
    refine ga_ldc2 hC q_7_183 dX12_rounded_11 ?_
    refine ga_aload_n hC dX12_rounded_14 0 rfl rfl ?_
    refine gM_0_40 hC q_6_125 dX12_rounded_15 ?_
    refine ga_lmul hC dX12_rounded_18 ?_
    refine ga_topl (fun x4 ex4 => ?_)
    have h := h x4 ex4
    refine ga_lstore_n (lv' := [(3, .long x4), (0, .ref (ad 0)), (1, .int v1), (2, .int v2)]) hC dX12_rounded_19 rfl (by decide) rfl ?_
    refine ga_aload_n hC dX12_rounded_20 1 rfl rfl ?_
    refine gM_0_40 hC q_6_125 dX12_rounded_21 ?_
    refine ga_l2d hC dX12_rounded_24 ?_
    refine ga_aload_n hC dX12_rounded_25 1 rfl rfl ?_
    refine gM_0_41 hC q_6_126 dX12_rounded_26 ?_
    refine ga_l2d hC dX12_rounded_29 ?_
    obtain ⟨h5, h⟩ := h
    refine ga_ddiv hC dX12_rounded_30 h5 ?_
    refine ga_topd (fun x6 ex6 => ?_)
    have h := h x6 ex6
    refine ga_dstore (lv' := [(5, .double x6), (3, .long x4), (0, .ref (ad 0)), (1, .int v1), (2, .int v2)]) hC dX12_rounded_31 (by decide) rfl ?_
    refine ga_dload hC dX12_rounded_33 0 rfl ?_
    refine ga_d2l hC dX12_rounded_35 ?_
    refine ga_topl (fun x7 ex7 => ?_)
    have h := h x7 ex7
    refine ga_lstore (lv' := [(7, .long x7), (5, .double x6), (3, .long x4), (0, .ref (ad 0)), (1, .int v1), (2, .int v2)]) hC dX12_rounded_36 (by decide) rfl ?_
    refine ga_dload hC dX12_rounded_38 1 rfl ?_
    refine ga_lload hC dX12_rounded_40 0 rfl ?_
    refine ga_l2d hC dX12_rounded_42 ?_
    obtain ⟨h8, h⟩ := h
    refine ga_dsub hC dX12_rounded_43 h8 ?_
    refine ga_topd (fun x9 ex9 => ?_)
    have h := h x9 ex9
    refine ga_dstore (lv' := [(9, .double x9), (7, .long x7), (5, .double x6), (3, .long x4), (0, .ref (ad 0)), (1, .int v1), (2, .int v2)]) hC dX12_rounded_44 (by decide) rfl ?_
    refine ga_dload hC dX12_rounded_46 0 rfl ?_
    refine ga_ldc2d hC q_7_184 dX12_rounded_48 ?_
    refine ga_dcmp hC dX12_rounded_51 ?_
    refine ga_if_gt (tgt := 81) hC dX12_rounded_52 (by decide) (fun hc => ?_) (fun hc => ?_)
    · have h := h.1 hc
      refine ga_lload hC dX12_rounded_81 1 rfl ?_
      refine ga_lconst (v := 1) hC dX12_rounded_83 (by decide) ?_
      refine ga_ladd hC dX12_rounded_84 ?_
      refine ga_goto (tgt := 90) hC dX12_rounded_85 (by decide) ?_
      exact ga_lret hC dX12_rounded_90 ⟨_, rfl, h⟩
    · have h := h.2 hc
      refine ga_dload hC dX12_rounded_55 0 rfl ?_
      refine ga_ldc2d hC q_7_184 dX12_rounded_57 ?_
      refine ga_dcmp hC dX12_rounded_60 ?_
      refine ga_if_ne (tgt := 88) hC dX12_rounded_61 (by decide) (fun hc => ?_) (fun hc => ?_)
      · have h := h.1 hc
        refine ga_lload hC dX12_rounded_88 1 rfl ?_
        exact ga_lret hC dX12_rounded_90 ⟨_, rfl, h⟩
      · have h := h.2 hc
        refine ga_lload hC dX12_rounded_64 1 rfl ?_
        refine ga_ldc2 hC q_7_183 dX12_rounded_66 ?_
        refine ga_lrem hC dX12_rounded_69 (by decide) ?_
        refine ga_lconst (v := 1) hC dX12_rounded_70 (by decide) ?_
        refine ga_lcmp hC dX12_rounded_71 ?_
        refine ga_if_ne (tgt := 88) hC dX12_rounded_72 (by decide) (fun hc => ?_) (fun hc => ?_)
        · have h := h.1 (cg_cmp_ne.1 hc)
          refine ga_lload hC dX12_rounded_88 1 rfl ?_
          exact ga_lret hC dX12_rounded_90 ⟨_, rfl, h⟩
        · have h := h.2 (cg_cmp_ne.2 hc)
          refine ga_lload_n hC dX12_rounded_75 3 rfl rfl ?_
          refine ga_lconst (v := 0) hC dX12_rounded_76 (by decide) ?_
          refine ga_lcmp hC dX12_rounded_77 ?_
          refine ga_if_le (tgt := 88) hC dX12_rounded_78 (by decide) (fun hc => ?_) (fun hc => ?_)
          · have h := h.1 (cg_cmp_le.1 hc)
            refine ga_lload hC dX12_rounded_88 1 rfl ?_
            exact ga_lret hC dX12_rounded_90 ⟨_, rfl, h⟩
          · have h := h.2 (cg_cmp_le.2 hc)
            refine ga_lload hC dX12_rounded_81 1 rfl ?_
            refine ga_lconst (v := 1) hC dX12_rounded_83 (by decide) ?_
            refine ga_ladd hC dX12_rounded_84 ?_
            refine ga_goto (tgt := 90) hC dX12_rounded_85 (by decide) ?_
            exact ga_lret hC dX12_rounded_90 ⟨_, rfl, h⟩
  · have h := h.2 hc
    refine ga_lconst (v := 0) hC dX12_rounded_9 (by decide) ?_
    exact ga_lret hC dX12_rounded_10 ⟨_, rfl, h⟩
def M_X12_isGame (v1 : Int32) (σ : cg_S) (Q : Int32 → cg_S → Prop) : Prop := cg_M cg_WM yX12_isGame cX12_isGame 2 (some .boolean) (cg_R 2) (fun ad => [.ref (ad 0), .int v1]) σ (cg_qi Q)
theorem M_X12_isGame.mono {v1 : Int32} {σ : cg_S} {Q Q2 : Int32 → cg_S → Prop} (h : M_X12_isGame v1 σ Q) (hq : ∀ r τ, Q r τ → Q2 r τ) : M_X12_isGame v1 σ Q2 := cg_M.mono h (fun ad v τ ⟨r, e, q⟩ => ⟨r, e, hq r τ q⟩)
def L_X12_isGame_25 (t1 : Int32) (σ : cg_S) (Q : Int32 → cg_S → Prop) : Prop := cg_L cg_WM RX12 cX12_isGame 2 (some .boolean) (cg_R 2) 25 (fun ad => [(0, .ref (ad 0))]) (fun ad => [.int t1, .ref (ad 0)]) σ (cg_qi Q)
set_option maxRecDepth 100000 in
set_option maxHeartbeats 4000000 in
theorem v_X12_isGame_25 {t1 : Int32} {σ : cg_S} {Q : Int32 → cg_S → Prop}
    (h : ∀ s1 : cg_S, s1 = cg_i σ 0 0 t1 → (¬ (s1.1 0 0) = 0 → Q 0 s1) ∧ ((s1.1 0 0) = 0 → Q 1 s1)) : L_X12_isGame_25 t1 σ Q := by
  intro p l e s m args below meth c D cy ad hC
  refine pM_0_0 hC q_6_85 dX12_isGame_25 ?_
  refine ga_sig (σ := cg_i σ 0 0 t1) (fun s1 es1 => ?_)
  have h := h s1 es1
  refine ga_aload_n hC dX12_isGame_28 0 rfl rfl ?_
  refine gM_0_0 hC q_6_85 dX12_isGame_29 ?_
  refine ga_if_ne (tgt := 39) hC dX12_isGame_32 (by decide) (fun hc => ?_) (fun hc => ?_)
  · have h := h.1 hc
    refine ga_iconst (v := 0) hC dX12_isGame_39 (by decide) ?_
    exact ga_zret hC dX12_isGame_40 (by decide) ⟨_, rfl, h⟩
  · have h := h.2 hc
    refine ga_iconst (v := 1) hC dX12_isGame_35 (by decide) ?_
    refine ga_goto (tgt := 40) hC dX12_isGame_36 (by decide) ?_
    exact ga_zret hC dX12_isGame_40 (by decide) ⟨_, rfl, h⟩
set_option maxRecDepth 100000 in
set_option maxHeartbeats 4000000 in
theorem v_X12_isGame {v1 : Int32} {σ : cg_S} {Q : Int32 → cg_S → Prop}
    (h : M_X12_isState v1 σ (fun r1 s2 => (¬ r1 = 0 → M_X12_isAll s2 (fun r4 s5 => (¬ r4 = 0 → L_X12_isGame_25 0 s5 Q) ∧ (r4 = 0 → L_X12_isGame_25 2 s5 Q))) ∧ (r1 = 0 → L_X12_isGame_25 1 s2 Q))) : M_X12_isGame v1 σ Q := by
  refine cg_entry (lv := fun ad => [(0, .ref (ad 0)), (1, .int v1)]) (by decide +kernel) (fun _ => rfl) (fun _ => Nat.le_of_ble_eq_true rfl) ?_
  intro p l e s m args below meth c D cy ad hC
  refine ga_aload_n hC dX12_isGame_0 0 rfl rfl ?_
  refine ga_aload_n hC dX12_isGame_1 0 rfl rfl ?_
  refine ga_iload_n hC dX12_isGame_2 1 rfl rfl ?_
  refine ga_callV (As := [.int v1]) (st := [.ref (ad 0)]) (k := 0) (n := 1) hC h q_7_1 q_7_3 q_0_14 q_1_13 q_7_4 rfl rfl rfl (by decide +kernel) ⟨Nat.le_of_ble_eq_true rfl, Nat.le_of_ble_eq_true rfl⟩ ⟨Nat.le_of_ble_eq_true rfl, Nat.le_of_ble_eq_true rfl⟩ rfl rfl rfl (by decide) rfl (Nat.le_of_ble_eq_true rfl) dX12_isGame_3 (fun v τ hq => ?_)
  obtain ⟨r1, rfl, h⟩ := hq
  obtain ⟨s2, es2⟩ : ∃ z, z = τ := ⟨_, rfl⟩
  rw [← es2] at h ⊢
  clear es2
  refine ga_if_ne (tgt := 13) hC dX12_isGame_6 (by decide) (fun hc => ?_) (fun hc => ?_)
  · have h := h.1 hc
    refine ga_aload_n hC dX12_isGame_13 0 rfl rfl ?_
    refine ga_callV (As := []) (st := [.ref (ad 0)]) (k := 0) (n := 0) hC h q_7_50 q_7_52 q_0_17 q_1_13 q_7_53 rfl rfl rfl (by decide +kernel) ⟨Nat.le_of_ble_eq_true rfl, Nat.le_of_ble_eq_true rfl⟩ ⟨Nat.le_of_ble_eq_true rfl, Nat.le_of_ble_eq_true rfl⟩ rfl rfl rfl (by decide) rfl (Nat.le_of_ble_eq_true rfl) dX12_isGame_14 (fun v τ hq => ?_)
    obtain ⟨r4, rfl, h⟩ := hq
    obtain ⟨s5, es5⟩ : ∃ z, z = τ := ⟨_, rfl⟩
    rw [← es5] at h ⊢
    clear es5
    refine ga_if_ne (tgt := 24) hC dX12_isGame_17 (by decide) (fun hc => ?_) (fun hc => ?_)
    · have h := h.1 hc
      refine ga_iconst (v := 0) hC dX12_isGame_24 (by decide) ?_
      refine ga_locals [0] rfl ?_
      exact h p l e s m args below meth c D cy ad hC
    · have h := h.2 hc
      refine ga_iconst (v := 2) hC dX12_isGame_20 (by decide) ?_
      refine ga_goto (tgt := 25) hC dX12_isGame_21 (by decide) ?_
      refine ga_locals [0] rfl ?_
      exact h p l e s m args below meth c D cy ad hC
  · have h := h.2 hc
    refine ga_iconst (v := 1) hC dX12_isGame_9 (by decide) ?_
    refine ga_goto (tgt := 25) hC dX12_isGame_10 (by decide) ?_
    refine ga_locals [0] rfl ?_
    exact h p l e s m args below meth c D cy ad hC
def M_X12_lowOf (v1 : Int32) (σ : cg_S) (Q : UInt64 → cg_S → Prop) : Prop := cg_M cg_WM yX12_lowOf cX12_lowOf 5 (some .double) (cg_R 0) (fun ad => [.ref (ad 0), .int v1]) σ (cg_qd Q)
theorem M_X12_lowOf.mono {v1 : Int32} {σ : cg_S} {Q Q2 : UInt64 → cg_S → Prop} (h : M_X12_lowOf v1 σ Q) (hq : ∀ r τ, Q r τ → Q2 r τ) : M_X12_lowOf v1 σ Q2 := cg_M.mono h (fun ad v τ ⟨r, e, q⟩ => ⟨r, e, hq r τ q⟩)
def L_X12_lowOf_5 (v1 : Int32) (v2 : UInt64) (v4 : Int32) (σ : cg_S) (Q : UInt64 → cg_S → Prop) : Prop := cg_L cg_WM RX12 cX12_lowOf 5 (some .double) (cg_R 0) 5 (fun ad => [(0, .ref (ad 0)), (1, .int v1), (2, .double v2), (4, .int v4)]) (fun ad => []) σ (cg_qd Q)
set_option maxRecDepth 100000 in
set_option maxHeartbeats 4000000 in
theorem v_X12_lowOf_5 {v1 : Int32} {v2 : UInt64} {v4 : Int32} {σ : cg_S} {Q : UInt64 → cg_S → Prop}
    (h : ((σ.1 0 1) ≤ v4 → vp_in v1 21 ∧ vf_n64 (FP.ddiv v2 (FP.i2d (σ.1 9 v1.toNatClampNeg))) ∧ Q (FP.ddiv v2 (FP.i2d (σ.1 9 v1.toNatClampNeg))) σ) ∧ (¬ (σ.1 0 1) ≤ v4 → vp_in ((7 * v1) + v4) 147 ∧ vp_in v4 7 ∧ vf_n64 (FP.dmul (FP.i2d (σ.1 10 ((7 * v1) + v4).toNatClampNeg)) (σ.2.2 31 v4.toNatClampNeg)) ∧ vf_n64 (FP.dadd v2 (FP.dmul (FP.i2d (σ.1 10 ((7 * v1) + v4).toNatClampNeg)) (σ.2.2 31 v4.toNatClampNeg))) ∧ ∀ x7 : UInt64, x7 = FP.dadd v2 (FP.dmul (FP.i2d (σ.1 10 ((7 * v1) + v4).toNatClampNeg)) (σ.2.2 31 v4.toNatClampNeg)) → L_X12_lowOf_5 v1 x7 (v4 + 1) σ Q)) : L_X12_lowOf_5 v1 v2 v4 σ Q := by
  intro p l e s m args below meth c D cy ad hC
  refine ga_iload hC dX12_lowOf_5 3 rfl ?_
  refine ga_aload_n hC dX12_lowOf_7 0 rfl rfl ?_
  refine gM_0_1 hC q_6_86 dX12_lowOf_8 ?_
  refine ga_icmp_ge (tgt := 44) hC dX12_lowOf_11 (by decide) (fun hc => ?_) (fun hc => ?_)
  · have h := h.1 hc
    refine ga_dload_n hC dX12_lowOf_44 2 rfl rfl ?_
    refine ga_aload_n hC dX12_lowOf_45 0 rfl rfl ?_
    refine gM_0_14 hC q_6_99 dX12_lowOf_46 ?_
    refine ga_iload_n hC dX12_lowOf_49 1 rfl rfl ?_
    obtain ⟨h1, h⟩ := h
    refine ga_iald hC aM_9 (by decide) h1 dX12_lowOf_50 ?_
    refine ga_i2d hC dX12_lowOf_51 ?_
    obtain ⟨h2, h⟩ := h
    refine ga_ddiv hC dX12_lowOf_52 h2 ?_
    exact ga_dret hC dX12_lowOf_53 ⟨_, rfl, h⟩
  · have h := h.2 hc
    refine ga_dload_n hC dX12_lowOf_14 2 rfl rfl ?_
    refine ga_aload_n hC dX12_lowOf_15 0 rfl rfl ?_
    refine gM_0_15 hC q_6_100 dX12_lowOf_16 ?_
    refine ga_bipush (v := 7) hC dX12_lowOf_19 (by decide) ?_
    refine ga_iload_n hC dX12_lowOf_21 1 rfl rfl ?_
    refine ga_imul hC dX12_lowOf_22 ?_
    refine ga_iload hC dX12_lowOf_23 3 rfl ?_
    refine ga_iadd hC dX12_lowOf_25 ?_
    obtain ⟨h3, h⟩ := h
    refine ga_iald hC aM_10 (by decide) h3 dX12_lowOf_26 ?_
    refine ga_i2d hC dX12_lowOf_27 ?_
    refine ga_aload_n hC dX12_lowOf_28 0 rfl rfl ?_
    refine gM_0_36 hC q_6_121 dX12_lowOf_29 ?_
    refine ga_iload hC dX12_lowOf_32 3 rfl ?_
    obtain ⟨h4, h⟩ := h
    refine ga_dald hC aM_31 (by decide) h4 dX12_lowOf_34 ?_
    obtain ⟨h5, h⟩ := h
    refine ga_dmul hC dX12_lowOf_35 h5 ?_
    obtain ⟨h6, h⟩ := h
    refine ga_dadd hC dX12_lowOf_36 h6 ?_
    refine ga_topd (fun x7 ex7 => ?_)
    have h := h x7 ex7
    refine ga_dstore_n (lv' := [(2, .double x7), (0, .ref (ad 0)), (1, .int v1), (4, .int v4)]) hC dX12_lowOf_37 rfl (by decide) rfl ?_
    refine ga_iinc (v := v4 + 1) (lv' := [(4, .int (v4 + 1)), (2, .double x7), (0, .ref (ad 0)), (1, .int v1)]) hC dX12_lowOf_38 3 rfl rfl (by decide) rfl ?_
    refine ga_goto (tgt := 5) hC dX12_lowOf_41 (by decide) ?_
    refine ga_locals [2, 3, 1, 0] rfl ?_
    exact h p l e s m args below meth c D cy ad hC
set_option maxRecDepth 100000 in
set_option maxHeartbeats 4000000 in
theorem v_X12_lowOf {v1 : Int32} {σ : cg_S} {Q : UInt64 → cg_S → Prop}
    (h : L_X12_lowOf_5 v1 FP.dconst0 0 σ Q) : M_X12_lowOf v1 σ Q := by
  refine cg_entry (lv := fun ad => [(0, .ref (ad 0)), (1, .int v1)]) (by decide +kernel) (fun _ => rfl) (fun _ => Nat.le_of_ble_eq_true rfl) ?_
  intro p l e s m args below meth c D cy ad hC
  refine ga_dconst0 hC dX12_lowOf_0 ?_
  refine ga_dstore_n (lv' := [(2, .double FP.dconst0), (0, .ref (ad 0)), (1, .int v1)]) hC dX12_lowOf_1 rfl (by decide) rfl ?_
  refine ga_iconst (v := 0) hC dX12_lowOf_2 (by decide) ?_
  refine ga_istore (lv' := [(4, .int 0), (2, .double FP.dconst0), (0, .ref (ad 0)), (1, .int v1)]) hC dX12_lowOf_3 (by decide) rfl ?_
  refine ga_locals [2, 3, 1, 0] rfl ?_
  exact h p l e s m args below meth c D cy ad hC
def M_X12_bound (v1 : Int32) (v2 : Int32) (σ : cg_S) (Q : UInt64 → cg_S → Prop) : Prop := cg_M cg_WM yX12_bound cX12_bound 10 (some .double) (cg_R 2) (fun ad => [.ref (ad 0), .int v1, .int v2]) σ (cg_qd Q)
theorem M_X12_bound.mono {v1 : Int32} {v2 : Int32} {σ : cg_S} {Q Q2 : UInt64 → cg_S → Prop} (h : M_X12_bound v1 v2 σ Q) (hq : ∀ r τ, Q r τ → Q2 r τ) : M_X12_bound v1 v2 σ Q2 := cg_M.mono h (fun ad v τ ⟨r, e, q⟩ => ⟨r, e, hq r τ q⟩)
def L_X12_bound_39 (v1 : Int32) (v2 : Int32) (t1 : Int32) (σ : cg_S) (Q : UInt64 → cg_S → Prop) : Prop := cg_L cg_WM RX12 cX12_bound 10 (some .double) (cg_R 2) 39 (fun ad => [(0, .ref (ad 0)), (1, .int v1), (2, .int v2)]) (fun ad => [.int t1, .ref (ad 0)]) σ (cg_qd Q)
def L_X12_bound_53 (v1 : Int32) (v2 : Int32) (v3 : Int32) (σ : cg_S) (Q : UInt64 → cg_S → Prop) : Prop := cg_L cg_WM RX12 cX12_bound 10 (some .double) (cg_R 2) 53 (fun ad => [(0, .ref (ad 0)), (1, .int v1), (2, .int v2), (3, .int v3)]) (fun ad => []) σ (cg_qd Q)
def L_X12_bound_89 (v1 : Int32) (v2 : Int32) (v3 : Int32) (σ : cg_S) (Q : UInt64 → cg_S → Prop) : Prop := cg_L cg_WM RX12 cX12_bound 10 (some .double) (cg_R 2) 89 (fun ad => [(0, .ref (ad 0)), (1, .int v1), (2, .int v2), (3, .int v3)]) (fun ad => []) σ (cg_qd Q)
def L_X12_bound_97 (v1 : Int32) (v2 : Int32) (v3 : Int32) (v4 : Int32) (σ : cg_S) (Q : UInt64 → cg_S → Prop) : Prop := cg_L cg_WM RX12 cX12_bound 10 (some .double) (cg_R 2) 97 (fun ad => [(0, .ref (ad 0)), (1, .int v1), (2, .int v2), (3, .int v3), (4, .int v4)]) (fun ad => []) σ (cg_qd Q)
def L_X12_bound_119 (v1 : Int32) (v2 : Int32) (v3 : Int32) (v4 : Int32) (v5 : UInt64) (v7 : Int32) (σ : cg_S) (Q : UInt64 → cg_S → Prop) : Prop := cg_L cg_WM RX12 cX12_bound 10 (some .double) (cg_R 2) 119 (fun ad => [(0, .ref (ad 0)), (1, .int v1), (2, .int v2), (3, .int v3), (4, .int v4), (5, .double v5), (7, .int v7)]) (fun ad => []) σ (cg_qd Q)
def L_X12_bound_229 (v1 : Int32) (v2 : Int32) (v3 : Int32) (v4 : Int32) (σ : cg_S) (Q : UInt64 → cg_S → Prop) : Prop := cg_L cg_WM RX12 cX12_bound 10 (some .double) (cg_R 2) 229 (fun ad => [(0, .ref (ad 0)), (1, .int v1), (2, .int v2), (3, .int v3), (4, .int v4)]) (fun ad => []) σ (cg_qd Q)
set_option maxRecDepth 100000 in
set_option maxHeartbeats 4000000 in
theorem v_X12_bound_229 {v1 : Int32} {v2 : Int32} {v3 : Int32} {v4 : Int32} {σ : cg_S} {Q : UInt64 → cg_S → Prop}
    (h : ((σ.1 0 1) ≤ v4 → L_X12_bound_89 v1 v2 (v3 + 1) σ Q) ∧ (¬ (σ.1 0 1) ≤ v4 → vp_in v4 7 ∧ vp_in v4 7 ∧ ∀ s3 : cg_S, s3 = cg_d σ 31 v4.toNatClampNeg (σ.2.2 32 v4.toNatClampNeg) → L_X12_bound_229 v1 v2 v3 (v4 + 1) s3 Q)) : L_X12_bound_229 v1 v2 v3 v4 σ Q := by
  intro p l e s m args below meth c D cy ad hC
  refine ga_iload hC dX12_bound_229 4 rfl ?_
  refine ga_aload_n hC dX12_bound_231 0 rfl rfl ?_
  refine gM_0_1 hC q_6_86 dX12_bound_232 ?_
  refine ga_icmp_ge (tgt := 258) hC dX12_bound_235 (by decide) (fun hc => ?_) (fun hc => ?_)
  · have h := h.1 hc
    refine ga_iinc (v := v3 + 1) (lv' := [(3, .int (v3 + 1)), (0, .ref (ad 0)), (1, .int v1), (2, .int v2), (4, .int v4)]) hC dX12_bound_258 3 rfl rfl (by decide) rfl ?_
    refine ga_goto (tgt := 89) hC dX12_bound_261 (by decide) ?_
    refine ga_locals [1, 2, 3, 0] rfl ?_
    exact h p l e s m args below meth c D cy ad hC
  · have h := h.2 hc
    refine ga_aload_n hC dX12_bound_238 0 rfl rfl ?_
    refine gM_0_36 hC q_6_121 dX12_bound_239 ?_
    refine ga_iload hC dX12_bound_242 4 rfl ?_
    refine ga_aload_n hC dX12_bound_244 0 rfl rfl ?_
    refine gM_0_37 hC q_6_122 dX12_bound_245 ?_
    refine ga_iload hC dX12_bound_248 4 rfl ?_
    obtain ⟨h1, h⟩ := h
    refine ga_dald hC aM_32 (by decide) h1 dX12_bound_250 ?_
    obtain ⟨h2, h⟩ := h
    refine ga_dast hC aM_31 (by decide) h2 dX12_bound_251 ?_
    refine ga_sig (σ := cg_d σ 31 v4.toNatClampNeg (σ.2.2 32 v4.toNatClampNeg)) (fun s3 es3 => ?_)
    have h := h s3 es3
    refine ga_iinc (v := v4 + 1) (lv' := [(4, .int (v4 + 1)), (0, .ref (ad 0)), (1, .int v1), (2, .int v2), (3, .int v3)]) hC dX12_bound_252 4 rfl rfl (by decide) rfl ?_
    refine ga_goto (tgt := 229) hC dX12_bound_255 (by decide) ?_
    refine ga_locals [1, 2, 3, 4, 0] rfl ?_
    exact h p l e s m args below meth c D cy ad hC
set_option maxRecDepth 100000 in
set_option maxHeartbeats 4000000 in
theorem v_X12_bound_119 {v1 : Int32} {v2 : Int32} {v3 : Int32} {v4 : Int32} {v5 : UInt64} {v7 : Int32} {σ : cg_S} {Q : UInt64 → cg_S → Prop}
    (h : vp_in v4 7 ∧ ((σ.1 3 v4.toNatClampNeg) ≤ v7 → vp_in v4 7 ∧ ((σ.1 15 v4.toNatClampNeg) = 0 → vp_in v4 7 ∧ ∀ s4 : cg_S, s4 = cg_d σ 32 v4.toNatClampNeg v5 → L_X12_bound_97 v1 v2 v3 (v4 + 1) s4 Q) ∧ (¬ (σ.1 15 v4.toNatClampNeg) = 0 → vp_in v4 7 ∧ ∀ s6 : cg_S, s6 = cg_d σ 32 v4.toNatClampNeg FP.dconst1 → L_X12_bound_97 v1 v2 v3 (v4 + 1) s6 Q)) ∧ (¬ (σ.1 3 v4.toNatClampNeg) ≤ v7 → M_X12_lowOf ((3 * v4) + v7) σ (fun r7 s8 => vp_in v4 7 ∧ (¬ (s8.1 1 v4.toNatClampNeg) = 97 → (0 ≤ (Op.cmpValue (FP.dcmp r7 v5) .g) → L_X12_bound_119 v1 v2 v3 v4 v5 (v7 + 1) s8 Q) ∧ (¬ 0 ≤ (Op.cmpValue (FP.dcmp r7 v5) .g) → L_X12_bound_119 v1 v2 v3 v4 r7 (v7 + 1) s8 Q)) ∧ ((s8.1 1 v4.toNatClampNeg) = 97 → ((Op.cmpValue (FP.dcmp r7 v5) .l) ≤ 0 → L_X12_bound_119 v1 v2 v3 v4 v5 (v7 + 1) s8 Q) ∧ (¬ (Op.cmpValue (FP.dcmp r7 v5) .l) ≤ 0 → L_X12_bound_119 v1 v2 v3 v4 r7 (v7 + 1) s8 Q))))) : L_X12_bound_119 v1 v2 v3 v4 v5 v7 σ Q := by
  intro p l e s m args below meth c D cy ad hC
  refine ga_iload hC dX12_bound_119 6 rfl ?_
  refine ga_aload_n hC dX12_bound_121 0 rfl rfl ?_
  refine gM_0_8 hC q_6_93 dX12_bound_122 ?_
  refine ga_iload hC dX12_bound_125 4 rfl ?_
  obtain ⟨h1, h⟩ := h
  refine ga_iald hC aM_3 (by decide) h1 dX12_bound_127 ?_
  refine ga_icmp_ge (tgt := 197) hC dX12_bound_128 (by decide) (fun hc => ?_) (fun hc => ?_)
  · have h := h.1 hc
    refine ga_aload_n hC dX12_bound_197 0 rfl rfl ?_
    refine gM_0_37 hC q_6_122 dX12_bound_198 ?_
    refine ga_iload hC dX12_bound_201 4 rfl ?_
    refine ga_aload_n hC dX12_bound_203 0 rfl rfl ?_
    refine gM_0_16 hC q_6_101 dX12_bound_204 ?_
    refine ga_iload hC dX12_bound_207 4 rfl ?_
    obtain ⟨h2, h⟩ := h
    refine ga_zald hC aM_15 (by decide) h2 dX12_bound_209 ?_
    refine ga_if_eq (tgt := 217) hC dX12_bound_210 (by decide) (fun hc => ?_) (fun hc => ?_)
    · have h := h.1 hc
      refine ga_dload hC dX12_bound_217 5 rfl ?_
      obtain ⟨h3, h⟩ := h
      refine ga_dast hC aM_32 (by decide) h3 dX12_bound_219 ?_
      refine ga_sig (σ := cg_d σ 32 v4.toNatClampNeg v5) (fun s4 es4 => ?_)
      have h := h s4 es4
      refine ga_iinc (v := v4 + 1) (lv' := [(4, .int (v4 + 1)), (0, .ref (ad 0)), (1, .int v1), (2, .int v2), (3, .int v3), (5, .double v5), (7, .int v7)]) hC dX12_bound_220 4 rfl rfl (by decide) rfl ?_
      refine ga_goto (tgt := 97) hC dX12_bound_223 (by decide) ?_
      refine ga_locals [1, 2, 3, 4, 0] rfl ?_
      exact h p l e s m args below meth c D cy ad hC
    · have h := h.2 hc
      refine ga_dconst1 hC dX12_bound_213 ?_
      refine ga_goto (tgt := 219) hC dX12_bound_214 (by decide) ?_
      obtain ⟨h5, h⟩ := h
      refine ga_dast hC aM_32 (by decide) h5 dX12_bound_219 ?_
      refine ga_sig (σ := cg_d σ 32 v4.toNatClampNeg FP.dconst1) (fun s6 es6 => ?_)
      have h := h s6 es6
      refine ga_iinc (v := v4 + 1) (lv' := [(4, .int (v4 + 1)), (0, .ref (ad 0)), (1, .int v1), (2, .int v2), (3, .int v3), (5, .double v5), (7, .int v7)]) hC dX12_bound_220 4 rfl rfl (by decide) rfl ?_
      refine ga_goto (tgt := 97) hC dX12_bound_223 (by decide) ?_
      refine ga_locals [1, 2, 3, 4, 0] rfl ?_
      exact h p l e s m args below meth c D cy ad hC
  · have h := h.2 hc
    refine ga_aload_n hC dX12_bound_131 0 rfl rfl ?_
    refine ga_iconst (v := 3) hC dX12_bound_132 (by decide) ?_
    refine ga_iload hC dX12_bound_133 4 rfl ?_
    refine ga_imul hC dX12_bound_135 ?_
    refine ga_iload hC dX12_bound_136 6 rfl ?_
    refine ga_iadd hC dX12_bound_138 ?_
    refine ga_callV (As := [.int ((3 * v4) + v7)]) (st := []) (k := 0) (n := 1) hC h q_7_189 q_7_191 q_0_41 q_1_13 q_7_192 rfl rfl rfl (by decide +kernel) ⟨Nat.le_of_ble_eq_true rfl, Nat.le_of_ble_eq_true rfl⟩ ⟨Nat.le_of_ble_eq_true rfl, Nat.le_of_ble_eq_true rfl⟩ rfl rfl rfl (by decide) rfl (Nat.le_of_ble_eq_true rfl) dX12_bound_139 (fun v τ hq => ?_)
    obtain ⟨r7, rfl, h⟩ := hq
    obtain ⟨s8, es8⟩ : ∃ z, z = τ := ⟨_, rfl⟩
    rw [← es8] at h ⊢
    clear es8
    refine ga_dstore (lv' := [(8, .double r7), (0, .ref (ad 0)), (1, .int v1), (2, .int v2), (3, .int v3), (4, .int v4), (5, .double v5), (7, .int v7)]) hC dX12_bound_142 (by decide) rfl ?_
    refine ga_aload_n hC dX12_bound_144 1 rfl rfl ?_
    refine gM_0_6 hC q_6_91 dX12_bound_145 ?_
    refine ga_iload hC dX12_bound_148 5 rfl ?_
    obtain ⟨h10, h⟩ := h
    refine ga_iald hC aM_1 (by decide) h10 dX12_bound_150 ?_
    refine ga_bipush (v := 97) hC dX12_bound_151 (by decide) ?_
    refine ga_icmp_ne (tgt := 174) hC dX12_bound_153 (by decide) (fun hc => ?_) (fun hc => ?_)
    · have h := h.1 hc
      refine ga_dload hC dX12_bound_174 0 rfl ?_
      refine ga_dload hC dX12_bound_176 6 rfl ?_
      refine ga_dcmp hC dX12_bound_178 ?_
      refine ga_if_ge (tgt := 187) hC dX12_bound_179 (by decide) (fun hc => ?_) (fun hc => ?_)
      · have h := h.1 hc
        refine ga_dload hC dX12_bound_187 6 rfl ?_
        refine ga_dstore (lv' := [(5, .double v5), (8, .double r7), (0, .ref (ad 0)), (1, .int v1), (2, .int v2), (3, .int v3), (4, .int v4), (7, .int v7)]) hC dX12_bound_189 (by decide) rfl ?_
        refine ga_iinc (v := v7 + 1) (lv' := [(7, .int (v7 + 1)), (5, .double v5), (8, .double r7), (0, .ref (ad 0)), (1, .int v1), (2, .int v2), (3, .int v3), (4, .int v4)]) hC dX12_bound_191 7 rfl rfl (by decide) rfl ?_
        refine ga_goto (tgt := 119) hC dX12_bound_194 (by decide) ?_
        refine ga_locals [3, 4, 5, 6, 7, 1, 0] rfl ?_
        exact h p l e s m args below meth c D cy ad hC
      · have h := h.2 hc
        refine ga_dload hC dX12_bound_182 0 rfl ?_
        refine ga_goto (tgt := 189) hC dX12_bound_184 (by decide) ?_
        refine ga_dstore (lv' := [(5, .double r7), (8, .double r7), (0, .ref (ad 0)), (1, .int v1), (2, .int v2), (3, .int v3), (4, .int v4), (7, .int v7)]) hC dX12_bound_189 (by decide) rfl ?_
        refine ga_iinc (v := v7 + 1) (lv' := [(7, .int (v7 + 1)), (5, .double r7), (8, .double r7), (0, .ref (ad 0)), (1, .int v1), (2, .int v2), (3, .int v3), (4, .int v4)]) hC dX12_bound_191 7 rfl rfl (by decide) rfl ?_
        refine ga_goto (tgt := 119) hC dX12_bound_194 (by decide) ?_
        refine ga_locals [3, 4, 5, 6, 7, 1, 0] rfl ?_
        exact h p l e s m args below meth c D cy ad hC
    · have h := h.2 hc
      refine ga_dload hC dX12_bound_156 0 rfl ?_
      refine ga_dload hC dX12_bound_158 6 rfl ?_
      refine ga_dcmp hC dX12_bound_160 ?_
      refine ga_if_le (tgt := 169) hC dX12_bound_161 (by decide) (fun hc => ?_) (fun hc => ?_)
      · have h := h.1 hc
        refine ga_dload hC dX12_bound_169 6 rfl ?_
        refine ga_goto (tgt := 189) hC dX12_bound_171 (by decide) ?_
        refine ga_dstore (lv' := [(5, .double v5), (8, .double r7), (0, .ref (ad 0)), (1, .int v1), (2, .int v2), (3, .int v3), (4, .int v4), (7, .int v7)]) hC dX12_bound_189 (by decide) rfl ?_
        refine ga_iinc (v := v7 + 1) (lv' := [(7, .int (v7 + 1)), (5, .double v5), (8, .double r7), (0, .ref (ad 0)), (1, .int v1), (2, .int v2), (3, .int v3), (4, .int v4)]) hC dX12_bound_191 7 rfl rfl (by decide) rfl ?_
        refine ga_goto (tgt := 119) hC dX12_bound_194 (by decide) ?_
        refine ga_locals [3, 4, 5, 6, 7, 1, 0] rfl ?_
        exact h p l e s m args below meth c D cy ad hC
      · have h := h.2 hc
        refine ga_dload hC dX12_bound_164 0 rfl ?_
        refine ga_goto (tgt := 189) hC dX12_bound_166 (by decide) ?_
        refine ga_dstore (lv' := [(5, .double r7), (8, .double r7), (0, .ref (ad 0)), (1, .int v1), (2, .int v2), (3, .int v3), (4, .int v4), (7, .int v7)]) hC dX12_bound_189 (by decide) rfl ?_
        refine ga_iinc (v := v7 + 1) (lv' := [(7, .int (v7 + 1)), (5, .double r7), (8, .double r7), (0, .ref (ad 0)), (1, .int v1), (2, .int v2), (3, .int v3), (4, .int v4)]) hC dX12_bound_191 7 rfl rfl (by decide) rfl ?_
        refine ga_goto (tgt := 119) hC dX12_bound_194 (by decide) ?_
        refine ga_locals [3, 4, 5, 6, 7, 1, 0] rfl ?_
        exact h p l e s m args below meth c D cy ad hC
set_option maxRecDepth 100000 in
set_option maxHeartbeats 4000000 in
theorem v_X12_bound_97 {v1 : Int32} {v2 : Int32} {v3 : Int32} {v4 : Int32} {σ : cg_S} {Q : UInt64 → cg_S → Prop}
    (h : ((σ.1 0 1) ≤ v4 → L_X12_bound_229 v1 v2 v3 0 σ Q) ∧ (¬ (σ.1 0 1) ≤ v4 → M_X12_lowOf (3 * v4) σ (fun r1 s2 => L_X12_bound_119 v1 v2 v3 v4 r1 1 s2 Q))) : L_X12_bound_97 v1 v2 v3 v4 σ Q := by
  intro p l e s m args below meth c D cy ad hC
  refine ga_iload hC dX12_bound_97 4 rfl ?_
  refine ga_aload_n hC dX12_bound_99 0 rfl rfl ?_
  refine gM_0_1 hC q_6_86 dX12_bound_100 ?_
  refine ga_icmp_ge (tgt := 226) hC dX12_bound_103 (by decide) (fun hc => ?_) (fun hc => ?_)
  · have h := h.1 hc
    refine ga_iconst (v := 0) hC dX12_bound_226 (by decide) ?_
    refine ga_istore (lv' := [(4, .int 0), (0, .ref (ad 0)), (1, .int v1), (2, .int v2), (3, .int v3)]) hC dX12_bound_227 (by decide) rfl ?_
    refine ga_locals [1, 2, 3, 4, 0] rfl ?_
    exact h p l e s m args below meth c D cy ad hC
  · have h := h.2 hc
    refine ga_aload_n hC dX12_bound_106 0 rfl rfl ?_
    refine ga_iconst (v := 3) hC dX12_bound_107 (by decide) ?_
    refine ga_iload hC dX12_bound_108 4 rfl ?_
    refine ga_imul hC dX12_bound_110 ?_
    refine ga_callV (As := [.int (3 * v4)]) (st := []) (k := 0) (n := 1) hC h q_7_189 q_7_191 q_0_41 q_1_13 q_7_192 rfl rfl rfl (by decide +kernel) ⟨Nat.le_of_ble_eq_true rfl, Nat.le_of_ble_eq_true rfl⟩ ⟨Nat.le_of_ble_eq_true rfl, Nat.le_of_ble_eq_true rfl⟩ rfl rfl rfl (by decide) rfl (Nat.le_of_ble_eq_true rfl) dX12_bound_111 (fun v τ hq => ?_)
    obtain ⟨r1, rfl, h⟩ := hq
    obtain ⟨s2, es2⟩ : ∃ z, z = τ := ⟨_, rfl⟩
    rw [← es2] at h ⊢
    clear es2
    refine ga_dstore (lv' := [(5, .double r1), (0, .ref (ad 0)), (1, .int v1), (2, .int v2), (3, .int v3), (4, .int v4)]) hC dX12_bound_114 (by decide) rfl ?_
    refine ga_iconst (v := 1) hC dX12_bound_116 (by decide) ?_
    refine ga_istore (lv' := [(7, .int 1), (5, .double r1), (0, .ref (ad 0)), (1, .int v1), (2, .int v2), (3, .int v3), (4, .int v4)]) hC dX12_bound_117 (by decide) rfl ?_
    refine ga_locals [2, 3, 4, 5, 6, 1, 0] rfl ?_
    exact h p l e s m args below meth c D cy ad hC
set_option maxRecDepth 100000 in
set_option maxHeartbeats 4000000 in
theorem v_X12_bound_89 {v1 : Int32} {v2 : Int32} {v3 : Int32} {σ : cg_S} {Q : UInt64 → cg_S → Prop}
    (h : (v2 ≤ v3 → vp_in v1 7 ∧ Q (σ.2.2 31 v1.toNatClampNeg) σ) ∧ (¬ v2 ≤ v3 → L_X12_bound_97 v1 v2 v3 0 σ Q)) : L_X12_bound_89 v1 v2 v3 σ Q := by
  intro p l e s m args below meth c D cy ad hC
  refine ga_iload_n hC dX12_bound_89 3 rfl rfl ?_
  refine ga_iload_n hC dX12_bound_90 2 rfl rfl ?_
  refine ga_icmp_ge (tgt := 264) hC dX12_bound_91 (by decide) (fun hc => ?_) (fun hc => ?_)
  · have h := h.1 hc
    refine ga_aload_n hC dX12_bound_264 0 rfl rfl ?_
    refine gM_0_36 hC q_6_121 dX12_bound_265 ?_
    refine ga_iload_n hC dX12_bound_268 1 rfl rfl ?_
    obtain ⟨h1, h⟩ := h
    refine ga_dald hC aM_31 (by decide) h1 dX12_bound_269 ?_
    exact ga_dret hC dX12_bound_270 ⟨_, rfl, h⟩
  · have h := h.2 hc
    refine ga_iconst (v := 0) hC dX12_bound_94 (by decide) ?_
    refine ga_istore (lv' := [(4, .int 0), (0, .ref (ad 0)), (1, .int v1), (2, .int v2), (3, .int v3)]) hC dX12_bound_95 (by decide) rfl ?_
    refine ga_locals [1, 2, 3, 4, 0] rfl ?_
    exact h p l e s m args below meth c D cy ad hC
set_option maxRecDepth 100000 in
set_option maxHeartbeats 4000000 in
theorem v_X12_bound_53 {v1 : Int32} {v2 : Int32} {v3 : Int32} {σ : cg_S} {Q : UInt64 → cg_S → Prop}
    (h : ((σ.1 0 1) ≤ v3 → L_X12_bound_89 v1 v2 0 σ Q) ∧ (¬ (σ.1 0 1) ≤ v3 → vp_in v3 7 ∧ ((σ.1 15 v3.toNatClampNeg) = 0 → vp_in v3 7 ∧ ∀ s3 : cg_S, s3 = cg_d σ 31 v3.toNatClampNeg FP.dconst0 → L_X12_bound_53 v1 v2 (v3 + 1) s3 Q) ∧ (¬ (σ.1 15 v3.toNatClampNeg) = 0 → vp_in v3 7 ∧ ∀ s5 : cg_S, s5 = cg_d σ 31 v3.toNatClampNeg FP.dconst1 → L_X12_bound_53 v1 v2 (v3 + 1) s5 Q))) : L_X12_bound_53 v1 v2 v3 σ Q := by
  intro p l e s m args below meth c D cy ad hC
  refine ga_iload_n hC dX12_bound_53 3 rfl rfl ?_
  refine ga_aload_n hC dX12_bound_54 0 rfl rfl ?_
  refine gM_0_1 hC q_6_86 dX12_bound_55 ?_
  refine ga_icmp_ge (tgt := 87) hC dX12_bound_58 (by decide) (fun hc => ?_) (fun hc => ?_)
  · have h := h.1 hc
    refine ga_iconst (v := 0) hC dX12_bound_87 (by decide) ?_
    refine ga_istore_n (lv' := [(3, .int 0), (0, .ref (ad 0)), (1, .int v1), (2, .int v2)]) hC dX12_bound_88 rfl (by decide) rfl ?_
    refine ga_locals [1, 2, 3, 0] rfl ?_
    exact h p l e s m args below meth c D cy ad hC
  · have h := h.2 hc
    refine ga_aload_n hC dX12_bound_61 0 rfl rfl ?_
    refine gM_0_36 hC q_6_121 dX12_bound_62 ?_
    refine ga_iload_n hC dX12_bound_65 3 rfl rfl ?_
    refine ga_aload_n hC dX12_bound_66 0 rfl rfl ?_
    refine gM_0_16 hC q_6_101 dX12_bound_67 ?_
    refine ga_iload_n hC dX12_bound_70 3 rfl rfl ?_
    obtain ⟨h1, h⟩ := h
    refine ga_zald hC aM_15 (by decide) h1 dX12_bound_71 ?_
    refine ga_if_eq (tgt := 79) hC dX12_bound_72 (by decide) (fun hc => ?_) (fun hc => ?_)
    · have h := h.1 hc
      refine ga_dconst0 hC dX12_bound_79 ?_
      obtain ⟨h2, h⟩ := h
      refine ga_dast hC aM_31 (by decide) h2 dX12_bound_80 ?_
      refine ga_sig (σ := cg_d σ 31 v3.toNatClampNeg FP.dconst0) (fun s3 es3 => ?_)
      have h := h s3 es3
      refine ga_iinc (v := v3 + 1) (lv' := [(3, .int (v3 + 1)), (0, .ref (ad 0)), (1, .int v1), (2, .int v2)]) hC dX12_bound_81 3 rfl rfl (by decide) rfl ?_
      refine ga_goto (tgt := 53) hC dX12_bound_84 (by decide) ?_
      refine ga_locals [1, 2, 3, 0] rfl ?_
      exact h p l e s m args below meth c D cy ad hC
    · have h := h.2 hc
      refine ga_dconst1 hC dX12_bound_75 ?_
      refine ga_goto (tgt := 80) hC dX12_bound_76 (by decide) ?_
      obtain ⟨h4, h⟩ := h
      refine ga_dast hC aM_31 (by decide) h4 dX12_bound_80 ?_
      refine ga_sig (σ := cg_d σ 31 v3.toNatClampNeg FP.dconst1) (fun s5 es5 => ?_)
      have h := h s5 es5
      refine ga_iinc (v := v3 + 1) (lv' := [(3, .int (v3 + 1)), (0, .ref (ad 0)), (1, .int v1), (2, .int v2)]) hC dX12_bound_81 3 rfl rfl (by decide) rfl ?_
      refine ga_goto (tgt := 53) hC dX12_bound_84 (by decide) ?_
      refine ga_locals [1, 2, 3, 0] rfl ?_
      exact h p l e s m args below meth c D cy ad hC
set_option maxRecDepth 100000 in
set_option maxHeartbeats 4000000 in
theorem v_X12_bound_39 {v1 : Int32} {v2 : Int32} {t1 : Int32} {σ : cg_S} {Q : UInt64 → cg_S → Prop}
    (h : ∀ s1 : cg_S, s1 = cg_i σ 0 0 t1 → ((s1.1 0 0) ≤ 0 → L_X12_bound_53 v1 v2 0 s1 Q) ∧ (¬ (s1.1 0 0) ≤ 0 → Q FP.dconst0 s1)) : L_X12_bound_39 v1 v2 t1 σ Q := by
  intro p l e s m args below meth c D cy ad hC
  refine pM_0_0 hC q_6_85 dX12_bound_39 ?_
  refine ga_sig (σ := cg_i σ 0 0 t1) (fun s1 es1 => ?_)
  have h := h s1 es1
  refine ga_aload_n hC dX12_bound_42 0 rfl rfl ?_
  refine gM_0_0 hC q_6_85 dX12_bound_43 ?_
  refine ga_if_le (tgt := 51) hC dX12_bound_46 (by decide) (fun hc => ?_) (fun hc => ?_)
  · have h := h.1 hc
    refine ga_iconst (v := 0) hC dX12_bound_51 (by decide) ?_
    refine ga_istore_n (lv' := [(3, .int 0), (0, .ref (ad 0)), (1, .int v1), (2, .int v2)]) hC dX12_bound_52 rfl (by decide) rfl ?_
    refine ga_locals [1, 2, 3, 0] rfl ?_
    exact h p l e s m args below meth c D cy ad hC
  · have h := h.2 hc
    refine ga_dconst0 hC dX12_bound_49 ?_
    exact ga_dret hC dX12_bound_50 ⟨_, rfl, h⟩
set_option maxRecDepth 100000 in
set_option maxHeartbeats 4000000 in
theorem v_X12_bound {v1 : Int32} {v2 : Int32} {σ : cg_S} {Q : UInt64 → cg_S → Prop}
    (h : M_X12_isState v1 σ (fun r1 s2 => (¬ r1 = 0 → M_X12_in v2 0 60 s2 (fun r4 s5 => (¬ r4 = 0 → M_X12_isAll s5 (fun r7 s8 => (¬ r7 = 0 → L_X12_bound_39 v1 v2 0 s8 Q) ∧ (r7 = 0 → L_X12_bound_39 v1 v2 3 s8 Q))) ∧ (r4 = 0 → L_X12_bound_39 v1 v2 2 s5 Q))) ∧ (r1 = 0 → L_X12_bound_39 v1 v2 1 s2 Q))) : M_X12_bound v1 v2 σ Q := by
  refine cg_entry (lv := fun ad => [(0, .ref (ad 0)), (1, .int v1), (2, .int v2)]) (by decide +kernel) (fun _ => rfl) (fun _ => Nat.le_of_ble_eq_true rfl) ?_
  intro p l e s m args below meth c D cy ad hC
  refine ga_aload_n hC dX12_bound_0 0 rfl rfl ?_
  refine ga_aload_n hC dX12_bound_1 0 rfl rfl ?_
  refine ga_iload_n hC dX12_bound_2 1 rfl rfl ?_
  refine ga_callV (As := [.int v1]) (st := [.ref (ad 0)]) (k := 0) (n := 1) hC h q_7_1 q_7_3 q_0_14 q_1_13 q_7_4 rfl rfl rfl (by decide +kernel) ⟨Nat.le_of_ble_eq_true rfl, Nat.le_of_ble_eq_true rfl⟩ ⟨Nat.le_of_ble_eq_true rfl, Nat.le_of_ble_eq_true rfl⟩ rfl rfl rfl (by decide) rfl (Nat.le_of_ble_eq_true rfl) dX12_bound_3 (fun v τ hq => ?_)
  obtain ⟨r1, rfl, h⟩ := hq
  obtain ⟨s2, es2⟩ : ∃ z, z = τ := ⟨_, rfl⟩
  rw [← es2] at h ⊢
  clear es2
  refine ga_if_ne (tgt := 13) hC dX12_bound_6 (by decide) (fun hc => ?_) (fun hc => ?_)
  · have h := h.1 hc
    refine ga_iload_n hC dX12_bound_13 2 rfl rfl ?_
    refine ga_iconst (v := 0) hC dX12_bound_14 (by decide) ?_
    refine ga_bipush (v := 60) hC dX12_bound_15 (by decide) ?_
    refine ga_callS (As := [.int v2, .int 0, .int 60]) (st := [.ref (ad 0)]) (n := 3) hC h q_6_226 q_6_227 q_1_13 q_6_228 rfl rfl rfl (by decide +kernel) ⟨Nat.le_of_ble_eq_true rfl, Nat.le_of_ble_eq_true rfl⟩ ⟨Nat.le_of_ble_eq_true rfl, Nat.le_of_ble_eq_true rfl⟩ rfl rfl (Nat.le_of_ble_eq_true rfl) dX12_bound_17 (fun v τ hq => ?_)
    obtain ⟨r4, rfl, h⟩ := hq
    obtain ⟨s5, es5⟩ : ∃ z, z = τ := ⟨_, rfl⟩
    rw [← es5] at h ⊢
    clear es5
    refine ga_if_ne (tgt := 27) hC dX12_bound_20 (by decide) (fun hc => ?_) (fun hc => ?_)
    · have h := h.1 hc
      refine ga_aload_n hC dX12_bound_27 0 rfl rfl ?_
      refine ga_callV (As := []) (st := [.ref (ad 0)]) (k := 0) (n := 0) hC h q_7_50 q_7_52 q_0_17 q_1_13 q_7_53 rfl rfl rfl (by decide +kernel) ⟨Nat.le_of_ble_eq_true rfl, Nat.le_of_ble_eq_true rfl⟩ ⟨Nat.le_of_ble_eq_true rfl, Nat.le_of_ble_eq_true rfl⟩ rfl rfl rfl (by decide) rfl (Nat.le_of_ble_eq_true rfl) dX12_bound_28 (fun v τ hq => ?_)
      obtain ⟨r7, rfl, h⟩ := hq
      obtain ⟨s8, es8⟩ : ∃ z, z = τ := ⟨_, rfl⟩
      rw [← es8] at h ⊢
      clear es8
      refine ga_if_ne (tgt := 38) hC dX12_bound_31 (by decide) (fun hc => ?_) (fun hc => ?_)
      · have h := h.1 hc
        refine ga_iconst (v := 0) hC dX12_bound_38 (by decide) ?_
        refine ga_locals [0, 1, 2] rfl ?_
        exact h p l e s m args below meth c D cy ad hC
      · have h := h.2 hc
        refine ga_iconst (v := 3) hC dX12_bound_34 (by decide) ?_
        refine ga_goto (tgt := 39) hC dX12_bound_35 (by decide) ?_
        refine ga_locals [0, 1, 2] rfl ?_
        exact h p l e s m args below meth c D cy ad hC
    · have h := h.2 hc
      refine ga_iconst (v := 2) hC dX12_bound_23 (by decide) ?_
      refine ga_goto (tgt := 39) hC dX12_bound_24 (by decide) ?_
      refine ga_locals [0, 1, 2] rfl ?_
      exact h p l e s m args below meth c D cy ad hC
  · have h := h.2 hc
    refine ga_iconst (v := 1) hC dX12_bound_9 (by decide) ?_
    refine ga_goto (tgt := 39) hC dX12_bound_10 (by decide) ?_
    refine ga_locals [0, 1, 2] rfl ?_
    exact h p l e s m args below meth c D cy ad hC
def M_X12_isZero (v1 : Int32) (σ : cg_S) (Q : Int32 → cg_S → Prop) : Prop := cg_M cg_WM yX12_isZero cX12_isZero 2 (some .boolean) (cg_R 8) (fun ad => [.ref (ad 0), .int v1]) σ (cg_qi Q)
theorem M_X12_isZero.mono {v1 : Int32} {σ : cg_S} {Q Q2 : Int32 → cg_S → Prop} (h : M_X12_isZero v1 σ Q) (hq : ∀ r τ, Q r τ → Q2 r τ) : M_X12_isZero v1 σ Q2 := cg_M.mono h (fun ad v τ ⟨r, e, q⟩ => ⟨r, e, hq r τ q⟩)
set_option maxRecDepth 100000 in
set_option maxHeartbeats 4000000 in
theorem v_X12_isZero {v1 : Int32} {σ : cg_S} {Q : Int32 → cg_S → Prop}
    (h : M_X12_isGame v1 σ (fun r1 s2 => (¬ r1 = 0 → M_X12_values 114 s2 (fun s5 => vp_in v1 28 ∧ (¬ (s5.2.1 28 v1.toNatClampNeg) = 0 → Q 0 s5) ∧ ((s5.2.1 28 v1.toNatClampNeg) = 0 → Q 1 s5))) ∧ (r1 = 0 → Q 0 s2))) : M_X12_isZero v1 σ Q := by
  refine cg_entry (lv := fun ad => [(0, .ref (ad 0)), (1, .int v1)]) (by decide +kernel) (fun _ => rfl) (fun _ => Nat.le_of_ble_eq_true rfl) ?_
  intro p l e s m args below meth c D cy ad hC
  refine ga_aload_n hC dX12_isZero_0 0 rfl rfl ?_
  refine ga_iload_n hC dX12_isZero_1 1 rfl rfl ?_
  refine ga_callV (As := [.int v1]) (st := []) (k := 0) (n := 1) hC h q_7_197 q_7_199 q_0_42 q_1_13 q_7_200 rfl rfl rfl (by decide +kernel) ⟨Nat.le_of_ble_eq_true rfl, Nat.le_of_ble_eq_true rfl⟩ ⟨Nat.le_of_ble_eq_true rfl, Nat.le_of_ble_eq_true rfl⟩ rfl rfl rfl (by decide) rfl (Nat.le_of_ble_eq_true rfl) dX12_isZero_2 (fun v τ hq => ?_)
  obtain ⟨r1, rfl, h⟩ := hq
  obtain ⟨s2, es2⟩ : ∃ z, z = τ := ⟨_, rfl⟩
  rw [← es2] at h ⊢
  clear es2
  refine ga_if_ne (tgt := 10) hC dX12_isZero_5 (by decide) (fun hc => ?_) (fun hc => ?_)
  · have h := h.1 hc
    refine ga_aload_n hC dX12_isZero_10 0 rfl rfl ?_
    refine ga_bipush (v := 114) hC dX12_isZero_11 (by decide) ?_
    refine ga_callV (As := [.int 114]) (st := []) (k := 0) (n := 1) hC h q_7_65 q_7_67 q_0_19 q_1_13 q_7_68 rfl rfl rfl (by decide +kernel) ⟨Nat.le_of_ble_eq_true rfl, Nat.le_of_ble_eq_true rfl⟩ ⟨Nat.le_of_ble_eq_true rfl, Nat.le_of_ble_eq_true rfl⟩ rfl rfl rfl (by decide) rfl (Nat.le_of_ble_eq_true rfl) dX12_isZero_13 (fun v τ hq => ?_)
    obtain ⟨rfl, h⟩ := hq
    obtain ⟨s5, es5⟩ : ∃ z, z = τ := ⟨_, rfl⟩
    rw [← es5] at h ⊢
    clear es5
    refine ga_aload_n hC dX12_isZero_16 0 rfl rfl ?_
    refine gM_0_28 hC q_6_113 dX12_isZero_17 ?_
    refine ga_iload_n hC dX12_isZero_20 1 rfl rfl ?_
    obtain ⟨h7, h⟩ := h
    refine ga_lald hC aM_28 (by decide) h7 dX12_isZero_21 ?_
    refine ga_lconst (v := 0) hC dX12_isZero_22 (by decide) ?_
    refine ga_lcmp hC dX12_isZero_23 ?_
    refine ga_if_ne (tgt := 31) hC dX12_isZero_24 (by decide) (fun hc => ?_) (fun hc => ?_)
    · have h := h.1 (cg_cmp_ne.1 hc)
      refine ga_iconst (v := 0) hC dX12_isZero_31 (by decide) ?_
      exact ga_zret hC dX12_isZero_32 (by decide) ⟨_, rfl, h⟩
    · have h := h.2 (cg_cmp_ne.2 hc)
      refine ga_iconst (v := 1) hC dX12_isZero_27 (by decide) ?_
      refine ga_goto (tgt := 32) hC dX12_isZero_28 (by decide) ?_
      exact ga_zret hC dX12_isZero_32 (by decide) ⟨_, rfl, h⟩
  · have h := h.2 hc
    refine ga_iconst (v := 0) hC dX12_isZero_8 (by decide) ?_
    exact ga_zret hC dX12_isZero_9 (by decide) ⟨_, rfl, h⟩
def M_X12_isOne (v1 : Int32) (σ : cg_S) (Q : Int32 → cg_S → Prop) : Prop := cg_M cg_WM yX12_isOne cX12_isOne 2 (some .boolean) (cg_R 8) (fun ad => [.ref (ad 0), .int v1]) σ (cg_qi Q)
theorem M_X12_isOne.mono {v1 : Int32} {σ : cg_S} {Q Q2 : Int32 → cg_S → Prop} (h : M_X12_isOne v1 σ Q) (hq : ∀ r τ, Q r τ → Q2 r τ) : M_X12_isOne v1 σ Q2 := cg_M.mono h (fun ad v τ ⟨r, e, q⟩ => ⟨r, e, hq r τ q⟩)
set_option maxRecDepth 100000 in
set_option maxHeartbeats 4000000 in
theorem v_X12_isOne {v1 : Int32} {σ : cg_S} {Q : Int32 → cg_S → Prop}
    (h : M_X12_isGame v1 σ (fun r1 s2 => (¬ r1 = 0 → M_X12_values 114 s2 (fun s5 => vp_in v1 28 ∧ vp_in v1 28 ∧ (¬ (s5.2.1 28 v1.toNatClampNeg) = (s5.2.1 29 v1.toNatClampNeg) → Q 0 s5) ∧ ((s5.2.1 28 v1.toNatClampNeg) = (s5.2.1 29 v1.toNatClampNeg) → Q 1 s5))) ∧ (r1 = 0 → Q 0 s2))) : M_X12_isOne v1 σ Q := by
  refine cg_entry (lv := fun ad => [(0, .ref (ad 0)), (1, .int v1)]) (by decide +kernel) (fun _ => rfl) (fun _ => Nat.le_of_ble_eq_true rfl) ?_
  intro p l e s m args below meth c D cy ad hC
  refine ga_aload_n hC dX12_isOne_0 0 rfl rfl ?_
  refine ga_iload_n hC dX12_isOne_1 1 rfl rfl ?_
  refine ga_callV (As := [.int v1]) (st := []) (k := 0) (n := 1) hC h q_7_197 q_7_199 q_0_42 q_1_13 q_7_200 rfl rfl rfl (by decide +kernel) ⟨Nat.le_of_ble_eq_true rfl, Nat.le_of_ble_eq_true rfl⟩ ⟨Nat.le_of_ble_eq_true rfl, Nat.le_of_ble_eq_true rfl⟩ rfl rfl rfl (by decide) rfl (Nat.le_of_ble_eq_true rfl) dX12_isOne_2 (fun v τ hq => ?_)
  obtain ⟨r1, rfl, h⟩ := hq
  obtain ⟨s2, es2⟩ : ∃ z, z = τ := ⟨_, rfl⟩
  rw [← es2] at h ⊢
  clear es2
  refine ga_if_ne (tgt := 10) hC dX12_isOne_5 (by decide) (fun hc => ?_) (fun hc => ?_)
  · have h := h.1 hc
    refine ga_aload_n hC dX12_isOne_10 0 rfl rfl ?_
    refine ga_bipush (v := 114) hC dX12_isOne_11 (by decide) ?_
    refine ga_callV (As := [.int 114]) (st := []) (k := 0) (n := 1) hC h q_7_65 q_7_67 q_0_19 q_1_13 q_7_68 rfl rfl rfl (by decide +kernel) ⟨Nat.le_of_ble_eq_true rfl, Nat.le_of_ble_eq_true rfl⟩ ⟨Nat.le_of_ble_eq_true rfl, Nat.le_of_ble_eq_true rfl⟩ rfl rfl rfl (by decide) rfl (Nat.le_of_ble_eq_true rfl) dX12_isOne_13 (fun v τ hq => ?_)
    obtain ⟨rfl, h⟩ := hq
    obtain ⟨s5, es5⟩ : ∃ z, z = τ := ⟨_, rfl⟩
    rw [← es5] at h ⊢
    clear es5
    refine ga_aload_n hC dX12_isOne_16 0 rfl rfl ?_
    refine gM_0_28 hC q_6_113 dX12_isOne_17 ?_
    refine ga_iload_n hC dX12_isOne_20 1 rfl rfl ?_
    obtain ⟨h7, h⟩ := h
    refine ga_lald hC aM_28 (by decide) h7 dX12_isOne_21 ?_
    refine ga_aload_n hC dX12_isOne_22 0 rfl rfl ?_
    refine gM_0_29 hC q_6_114 dX12_isOne_23 ?_
    refine ga_iload_n hC dX12_isOne_26 1 rfl rfl ?_
    obtain ⟨h8, h⟩ := h
    refine ga_lald hC aM_29 (by decide) h8 dX12_isOne_27 ?_
    refine ga_lcmp hC dX12_isOne_28 ?_
    refine ga_if_ne (tgt := 36) hC dX12_isOne_29 (by decide) (fun hc => ?_) (fun hc => ?_)
    · have h := h.1 (cg_cmp_ne.1 hc)
      refine ga_iconst (v := 0) hC dX12_isOne_36 (by decide) ?_
      exact ga_zret hC dX12_isOne_37 (by decide) ⟨_, rfl, h⟩
    · have h := h.2 (cg_cmp_ne.2 hc)
      refine ga_iconst (v := 1) hC dX12_isOne_32 (by decide) ?_
      refine ga_goto (tgt := 37) hC dX12_isOne_33 (by decide) ?_
      exact ga_zret hC dX12_isOne_37 (by decide) ⟨_, rfl, h⟩
  · have h := h.2 hc
    refine ga_iconst (v := 0) hC dX12_isOne_8 (by decide) ?_
    exact ga_zret hC dX12_isOne_9 (by decide) ⟨_, rfl, h⟩
def M_X12_isGood (v1 : Int32) (v2 : Int32) (v3 : Int32) (σ : cg_S) (Q : Int32 → cg_S → Prop) : Prop := cg_M cg_WM yX12_isGood cX12_isGood 13 (some .boolean) (cg_R 3) (fun ad => [.ref (ad 0), .int v1, .int v2, .int v3]) σ (cg_qi Q)
theorem M_X12_isGood.mono {v1 : Int32} {v2 : Int32} {v3 : Int32} {σ : cg_S} {Q Q2 : Int32 → cg_S → Prop} (h : M_X12_isGood v1 v2 v3 σ Q) (hq : ∀ r τ, Q r τ → Q2 r τ) : M_X12_isGood v1 v2 v3 σ Q2 := cg_M.mono h (fun ad v τ ⟨r, e, q⟩ => ⟨r, e, hq r τ q⟩)
def L_X12_isGood_17 (v1 : Int32) (v2 : Int32) (v3 : Int32) (σ : cg_S) (Q : Int32 → cg_S → Prop) : Prop := cg_L cg_WM RX12 cX12_isGood 13 (some .boolean) (cg_R 3) 17 (fun ad => [(0, .ref (ad 0)), (1, .int v1), (2, .int v2), (3, .int v3)]) (fun ad => []) σ (cg_qi Q)
def L_X12_isGood_44 (v1 : Int32) (v2 : Int32) (v4 : Int32) (v5 : Int32) (t0 : Int32) (σ : cg_S) (Q : Int32 → cg_S → Prop) : Prop := cg_L cg_WM RX12 cX12_isGood 13 (some .boolean) (cg_R 3) 44 (fun ad => [(0, .ref (ad 0)), (1, .int v1), (2, .int v2), (4, .int v4), (5, .int v5)]) (fun ad => [.int t0]) σ (cg_qi Q)
def L_X12_isGood_60 (v1 : Int32) (v2 : Int32) (v4 : Int32) (v5 : Int32) (v6 : Int32) (t0 : Int32) (σ : cg_S) (Q : Int32 → cg_S → Prop) : Prop := cg_L cg_WM RX12 cX12_isGood 13 (some .boolean) (cg_R 3) 60 (fun ad => [(0, .ref (ad 0)), (1, .int v1), (2, .int v2), (4, .int v4), (5, .int v5), (6, .int v6)]) (fun ad => [.int t0]) σ (cg_qi Q)
def L_X12_isGood_81 (v2 : Int32) (v4 : Int32) (v5 : Int32) (v6 : Int32) (v7 : Int32) (t1 : Int64) (σ : cg_S) (Q : Int32 → cg_S → Prop) : Prop := cg_L cg_WM RX12 cX12_isGood 13 (some .boolean) (cg_R 3) 81 (fun ad => [(0, .ref (ad 0)), (2, .int v2), (4, .int v4), (5, .int v5), (6, .int v6), (7, .int v7)]) (fun ad => [.long t1, .ref (ad 0)]) σ (cg_qi Q)
def L_X12_isGood_106 (v2 : Int32) (v4 : Int32) (v5 : Int32) (v6 : Int32) (v7 : Int32) (v8 : Int64) (v10 : Int64) (v12 : Int32) (σ : cg_S) (Q : Int32 → cg_S → Prop) : Prop := cg_L cg_WM RX12 cX12_isGood 13 (some .boolean) (cg_R 3) 106 (fun ad => [(0, .ref (ad 0)), (2, .int v2), (4, .int v4), (5, .int v5), (6, .int v6), (7, .int v7), (8, .long v8), (10, .long v10), (12, .int v12)]) (fun ad => []) σ (cg_qi Q)
set_option maxRecDepth 100000 in
set_option maxHeartbeats 4000000 in
theorem v_X12_isGood_106 {v2 : Int32} {v4 : Int32} {v5 : Int32} {v6 : Int32} {v7 : Int32} {v8 : Int64} {v10 : Int64} {v12 : Int32} {σ : cg_S} {Q : Int32 → cg_S → Prop}
    (h : ((σ.1 0 1) ≤ v12 → vp_in v5 21 ∧ M_X12_lowers ((σ.2.1 0 40) * v6.toInt64) ((σ.2.1 0 41) * (((σ.1 9 v5.toNatClampNeg) * v7).toInt64)) σ (fun s3 => M_X12_adds v8 v10 s3 (fun s6 => vp_in ((7 * v4) + v2) 28 ∧ (¬ (s6.2.1 0 40) = (s6.2.1 28 ((7 * v4) + v2).toNatClampNeg) → Q 0 s6) ∧ ((s6.2.1 0 40) = (s6.2.1 28 ((7 * v4) + v2).toNatClampNeg) → vp_in ((7 * v4) + v2) 28 ∧ (¬ (s6.2.1 0 41) = (s6.2.1 29 ((7 * v4) + v2).toNatClampNeg) → Q 0 s6) ∧ ((s6.2.1 0 41) = (s6.2.1 29 ((7 * v4) + v2).toNatClampNeg) → Q 1 s6))))) ∧ (¬ (σ.1 0 1) ≤ v12 → vp_in ((7 * v5) + v12) 147 ∧ vp_in ((7 * v4) + v12) 28 ∧ vp_in ((7 * v4) + v12) 28 ∧ M_X12_adds (((σ.1 10 ((7 * v5) + v12).toNatClampNeg).toInt64) * (σ.2.1 28 ((7 * v4) + v12).toNatClampNeg)) (σ.2.1 29 ((7 * v4) + v12).toNatClampNeg) σ (fun s14 => L_X12_isGood_106 v2 v4 v5 v6 v7 v8 v10 (v12 + 1) s14 Q))) : L_X12_isGood_106 v2 v4 v5 v6 v7 v8 v10 v12 σ Q := by
  intro p l e s m args below meth c D cy ad hC
  refine ga_iload hC dX12_isGood_106 8 rfl ?_
  refine ga_aload_n hC dX12_isGood_108 0 rfl rfl ?_
  refine gM_0_1 hC q_6_86 dX12_isGood_109 ?_
  refine ga_icmp_ge (tgt := 166) hC dX12_isGood_112 (by decide) (fun hc => ?_) (fun hc => ?_)
  · have h := h.1 hc
    refine ga_aload_n hC dX12_isGood_166 0 rfl rfl ?_
    refine ga_aload_n hC dX12_isGood_167 0 rfl rfl ?_
    refine gM_0_40 hC q_6_125 dX12_isGood_168 ?_
    refine ga_iload hC dX12_isGood_171 4 rfl ?_
    refine ga_i2l hC dX12_isGood_173 ?_
    refine ga_lmul hC dX12_isGood_174 ?_
    refine ga_aload_n hC dX12_isGood_175 0 rfl rfl ?_
    refine gM_0_41 hC q_6_126 dX12_isGood_176 ?_
    refine ga_aload_n hC dX12_isGood_179 0 rfl rfl ?_
    refine gM_0_14 hC q_6_99 dX12_isGood_180 ?_
    refine ga_iload hC dX12_isGood_183 3 rfl ?_
    obtain ⟨h1, h⟩ := h
    refine ga_iald hC aM_9 (by decide) h1 dX12_isGood_185 ?_
    refine ga_iload hC dX12_isGood_186 5 rfl ?_
    refine ga_imul hC dX12_isGood_188 ?_
    refine ga_i2l hC dX12_isGood_189 ?_
    refine ga_lmul hC dX12_isGood_190 ?_
    refine ga_callV (As := [.long ((σ.2.1 0 40) * v6.toInt64), .long ((σ.2.1 0 41) * (((σ.1 9 v5.toNatClampNeg) * v7).toInt64))]) (st := []) (k := 0) (n := 2) hC h q_7_37 q_7_39 q_0_16 q_1_13 q_7_40 rfl rfl rfl (by decide +kernel) ⟨Nat.le_of_ble_eq_true rfl, Nat.le_of_ble_eq_true rfl⟩ ⟨Nat.le_of_ble_eq_true rfl, Nat.le_of_ble_eq_true rfl⟩ rfl rfl rfl (by decide) rfl (Nat.le_of_ble_eq_true rfl) dX12_isGood_191 (fun v τ hq => ?_)
    obtain ⟨rfl, h⟩ := hq
    obtain ⟨s3, es3⟩ : ∃ z, z = τ := ⟨_, rfl⟩
    rw [← es3] at h ⊢
    clear es3
    refine ga_aload_n hC dX12_isGood_194 0 rfl rfl ?_
    refine ga_lload hC dX12_isGood_195 6 rfl ?_
    refine ga_lload hC dX12_isGood_197 7 rfl ?_
    refine ga_callV (As := [.long v8, .long v10]) (st := []) (k := 0) (n := 2) hC h q_7_137 q_7_139 q_0_37 q_1_13 q_7_140 rfl rfl rfl (by decide +kernel) ⟨Nat.le_of_ble_eq_true rfl, Nat.le_of_ble_eq_true rfl⟩ ⟨Nat.le_of_ble_eq_true rfl, Nat.le_of_ble_eq_true rfl⟩ rfl rfl rfl (by decide) rfl (Nat.le_of_ble_eq_true rfl) dX12_isGood_199 (fun v τ hq => ?_)
    obtain ⟨rfl, h⟩ := hq
    obtain ⟨s6, es6⟩ : ∃ z, z = τ := ⟨_, rfl⟩
    rw [← es6] at h ⊢
    clear es6
    refine ga_aload_n hC dX12_isGood_202 0 rfl rfl ?_
    refine gM_0_40 hC q_6_125 dX12_isGood_203 ?_
    refine ga_aload_n hC dX12_isGood_206 0 rfl rfl ?_
    refine gM_0_28 hC q_6_113 dX12_isGood_207 ?_
    refine ga_bipush (v := 7) hC dX12_isGood_210 (by decide) ?_
    refine ga_iload hC dX12_isGood_212 2 rfl ?_
    refine ga_imul hC dX12_isGood_214 ?_
    refine ga_iload_n hC dX12_isGood_215 1 rfl rfl ?_
    refine ga_iadd hC dX12_isGood_216 ?_
    obtain ⟨h8, h⟩ := h
    refine ga_lald hC aM_28 (by decide) h8 dX12_isGood_217 ?_
    refine ga_lcmp hC dX12_isGood_218 ?_
    refine ga_if_ne (tgt := 246) hC dX12_isGood_219 (by decide) (fun hc => ?_) (fun hc => ?_)
    · have h := h.1 (cg_cmp_ne.1 hc)
      refine ga_iconst (v := 0) hC dX12_isGood_246 (by decide) ?_
      exact ga_zret hC dX12_isGood_247 (by decide) ⟨_, rfl, h⟩
    · have h := h.2 (cg_cmp_ne.2 hc)
      refine ga_aload_n hC dX12_isGood_222 0 rfl rfl ?_
      refine gM_0_41 hC q_6_126 dX12_isGood_223 ?_
      refine ga_aload_n hC dX12_isGood_226 0 rfl rfl ?_
      refine gM_0_29 hC q_6_114 dX12_isGood_227 ?_
      refine ga_bipush (v := 7) hC dX12_isGood_230 (by decide) ?_
      refine ga_iload hC dX12_isGood_232 2 rfl ?_
      refine ga_imul hC dX12_isGood_234 ?_
      refine ga_iload_n hC dX12_isGood_235 1 rfl rfl ?_
      refine ga_iadd hC dX12_isGood_236 ?_
      obtain ⟨h9, h⟩ := h
      refine ga_lald hC aM_29 (by decide) h9 dX12_isGood_237 ?_
      refine ga_lcmp hC dX12_isGood_238 ?_
      refine ga_if_ne (tgt := 246) hC dX12_isGood_239 (by decide) (fun hc => ?_) (fun hc => ?_)
      · have h := h.1 (cg_cmp_ne.1 hc)
        refine ga_iconst (v := 0) hC dX12_isGood_246 (by decide) ?_
        exact ga_zret hC dX12_isGood_247 (by decide) ⟨_, rfl, h⟩
      · have h := h.2 (cg_cmp_ne.2 hc)
        refine ga_iconst (v := 1) hC dX12_isGood_242 (by decide) ?_
        refine ga_goto (tgt := 247) hC dX12_isGood_243 (by decide) ?_
        exact ga_zret hC dX12_isGood_247 (by decide) ⟨_, rfl, h⟩
  · have h := h.2 hc
    refine ga_aload_n hC dX12_isGood_115 0 rfl rfl ?_
    refine ga_aload_n hC dX12_isGood_116 0 rfl rfl ?_
    refine gM_0_15 hC q_6_100 dX12_isGood_117 ?_
    refine ga_bipush (v := 7) hC dX12_isGood_120 (by decide) ?_
    refine ga_iload hC dX12_isGood_122 3 rfl ?_
    refine ga_imul hC dX12_isGood_124 ?_
    refine ga_iload hC dX12_isGood_125 8 rfl ?_
    refine ga_iadd hC dX12_isGood_127 ?_
    obtain ⟨h10, h⟩ := h
    refine ga_iald hC aM_10 (by decide) h10 dX12_isGood_128 ?_
    refine ga_i2l hC dX12_isGood_129 ?_
    refine ga_aload_n hC dX12_isGood_130 0 rfl rfl ?_
    refine gM_0_28 hC q_6_113 dX12_isGood_131 ?_
    refine ga_bipush (v := 7) hC dX12_isGood_134 (by decide) ?_
    refine ga_iload hC dX12_isGood_136 2 rfl ?_
    refine ga_imul hC dX12_isGood_138 ?_
    refine ga_iload hC dX12_isGood_139 8 rfl ?_
    refine ga_iadd hC dX12_isGood_141 ?_
    obtain ⟨h11, h⟩ := h
    refine ga_lald hC aM_28 (by decide) h11 dX12_isGood_142 ?_
    refine ga_lmul hC dX12_isGood_143 ?_
    refine ga_aload_n hC dX12_isGood_144 0 rfl rfl ?_
    refine gM_0_29 hC q_6_114 dX12_isGood_145 ?_
    refine ga_bipush (v := 7) hC dX12_isGood_148 (by decide) ?_
    refine ga_iload hC dX12_isGood_150 2 rfl ?_
    refine ga_imul hC dX12_isGood_152 ?_
    refine ga_iload hC dX12_isGood_153 8 rfl ?_
    refine ga_iadd hC dX12_isGood_155 ?_
    obtain ⟨h12, h⟩ := h
    refine ga_lald hC aM_29 (by decide) h12 dX12_isGood_156 ?_
    refine ga_callV (As := [.long (((σ.1 10 ((7 * v5) + v12).toNatClampNeg).toInt64) * (σ.2.1 28 ((7 * v4) + v12).toNatClampNeg)), .long (σ.2.1 29 ((7 * v4) + v12).toNatClampNeg)]) (st := []) (k := 0) (n := 2) hC h q_7_137 q_7_139 q_0_37 q_1_13 q_7_140 rfl rfl rfl (by decide +kernel) ⟨Nat.le_of_ble_eq_true rfl, Nat.le_of_ble_eq_true rfl⟩ ⟨Nat.le_of_ble_eq_true rfl, Nat.le_of_ble_eq_true rfl⟩ rfl rfl rfl (by decide) rfl (Nat.le_of_ble_eq_true rfl) dX12_isGood_157 (fun v τ hq => ?_)
    obtain ⟨rfl, h⟩ := hq
    obtain ⟨s14, es14⟩ : ∃ z, z = τ := ⟨_, rfl⟩
    rw [← es14] at h ⊢
    clear es14
    refine ga_iinc (v := v12 + 1) (lv' := [(12, .int (v12 + 1)), (0, .ref (ad 0)), (2, .int v2), (4, .int v4), (5, .int v5), (6, .int v6), (7, .int v7), (8, .long v8), (10, .long v10)]) hC dX12_isGood_160 8 rfl rfl (by decide) rfl ?_
    refine ga_goto (tgt := 106) hC dX12_isGood_163 (by decide) ?_
    refine ga_locals [1, 2, 3, 4, 5, 6, 7, 8, 0] rfl ?_
    exact h p l e s m args below meth c D cy ad hC
set_option maxRecDepth 100000 in
set_option maxHeartbeats 4000000 in
theorem v_X12_isGood_81 {v2 : Int32} {v4 : Int32} {v5 : Int32} {v6 : Int32} {v7 : Int32} {t1 : Int64} {σ : cg_S} {Q : Int32 → cg_S → Prop}
    (h : M_X12_lowers t1 1 σ (fun s2 => ∀ x4 : Int64, x4 = s2.2.1 0 40 → ∀ x5 : Int64, x5 = s2.2.1 0 41 → M_X12_lowers 0 1 s2 (fun s7 => L_X12_isGood_106 v2 v4 v5 v6 v7 x4 x5 0 s7 Q))) : L_X12_isGood_81 v2 v4 v5 v6 v7 t1 σ Q := by
  intro p l e s m args below meth c D cy ad hC
  refine ga_lconst (v := 1) hC dX12_isGood_81 (by decide) ?_
  refine ga_callV (As := [.long t1, .long 1]) (st := []) (k := 0) (n := 2) hC h q_7_37 q_7_39 q_0_16 q_1_13 q_7_40 rfl rfl rfl (by decide +kernel) ⟨Nat.le_of_ble_eq_true rfl, Nat.le_of_ble_eq_true rfl⟩ ⟨Nat.le_of_ble_eq_true rfl, Nat.le_of_ble_eq_true rfl⟩ rfl rfl rfl (by decide) rfl (Nat.le_of_ble_eq_true rfl) dX12_isGood_82 (fun v τ hq => ?_)
  obtain ⟨rfl, h⟩ := hq
  obtain ⟨s2, es2⟩ : ∃ z, z = τ := ⟨_, rfl⟩
  rw [← es2] at h ⊢
  clear es2
  refine ga_aload_n hC dX12_isGood_85 0 rfl rfl ?_
  refine gM_0_40 hC q_6_125 dX12_isGood_86 ?_
  refine ga_topl (fun x4 ex4 => ?_)
  have h := h x4 ex4
  refine ga_lstore (lv' := [(8, .long x4), (0, .ref (ad 0)), (2, .int v2), (4, .int v4), (5, .int v5), (6, .int v6), (7, .int v7)]) hC dX12_isGood_89 (by decide) rfl ?_
  refine ga_aload_n hC dX12_isGood_91 1 rfl rfl ?_
  refine gM_0_41 hC q_6_126 dX12_isGood_92 ?_
  refine ga_topl (fun x5 ex5 => ?_)
  have h := h x5 ex5
  refine ga_lstore (lv' := [(10, .long x5), (8, .long x4), (0, .ref (ad 0)), (2, .int v2), (4, .int v4), (5, .int v5), (6, .int v6), (7, .int v7)]) hC dX12_isGood_95 (by decide) rfl ?_
  refine ga_aload_n hC dX12_isGood_97 2 rfl rfl ?_
  refine ga_lconst (v := 0) hC dX12_isGood_98 (by decide) ?_
  refine ga_lconst (v := 1) hC dX12_isGood_99 (by decide) ?_
  refine ga_callV (As := [.long 0, .long 1]) (st := []) (k := 0) (n := 2) hC h q_7_37 q_7_39 q_0_16 q_1_13 q_7_40 rfl rfl rfl (by decide +kernel) ⟨Nat.le_of_ble_eq_true rfl, Nat.le_of_ble_eq_true rfl⟩ ⟨Nat.le_of_ble_eq_true rfl, Nat.le_of_ble_eq_true rfl⟩ rfl rfl rfl (by decide) rfl (Nat.le_of_ble_eq_true rfl) dX12_isGood_100 (fun v τ hq => ?_)
  obtain ⟨rfl, h⟩ := hq
  obtain ⟨s7, es7⟩ : ∃ z, z = τ := ⟨_, rfl⟩
  rw [← es7] at h ⊢
  clear es7
  refine ga_iconst (v := 0) hC dX12_isGood_103 (by decide) ?_
  refine ga_istore (lv' := [(12, .int 0), (10, .long x5), (8, .long x4), (0, .ref (ad 0)), (2, .int v2), (4, .int v4), (5, .int v5), (6, .int v6), (7, .int v7)]) hC dX12_isGood_104 (by decide) rfl ?_
  refine ga_locals [3, 4, 5, 6, 7, 8, 2, 1, 0] rfl ?_
  exact h p l e s m args below meth c D cy ad hC
set_option maxRecDepth 100000 in
set_option maxHeartbeats 4000000 in
theorem v_X12_isGood_60 {v1 : Int32} {v2 : Int32} {v4 : Int32} {v5 : Int32} {v6 : Int32} {t0 : Int32} {σ : cg_S} {Q : Int32 → cg_S → Prop}
    (h : (¬ v1 = 114 → M_X12_cost v1 v5 σ (fun r1 s2 => L_X12_isGood_81 v2 v4 v5 v6 t0 r1.toInt64 s2 Q)) ∧ (v1 = 114 → L_X12_isGood_81 v2 v4 v5 v6 t0 0 σ Q)) : L_X12_isGood_60 v1 v2 v4 v5 v6 t0 σ Q := by
  intro p l e s m args below meth c D cy ad hC
  refine ga_istore (lv' := [(7, .int t0), (0, .ref (ad 0)), (1, .int v1), (2, .int v2), (4, .int v4), (5, .int v5), (6, .int v6)]) hC dX12_isGood_60 (by decide) rfl ?_
  refine ga_aload_n hC dX12_isGood_62 1 rfl rfl ?_
  refine ga_iload_n hC dX12_isGood_63 2 rfl rfl ?_
  refine ga_bipush (v := 114) hC dX12_isGood_64 (by decide) ?_
  refine ga_icmp_ne (tgt := 73) hC dX12_isGood_66 (by decide) (fun hc => ?_) (fun hc => ?_)
  · have h := h.1 hc
    refine ga_aload_n hC dX12_isGood_73 1 rfl rfl ?_
    refine ga_iload_n hC dX12_isGood_74 2 rfl rfl ?_
    refine ga_iload hC dX12_isGood_75 5 rfl ?_
    refine ga_callV (As := [.int v1, .int v5]) (st := [.ref (ad 0)]) (k := 0) (n := 2) hC h q_7_117 q_7_119 q_0_32 q_1_13 q_7_120 rfl rfl rfl (by decide +kernel) ⟨Nat.le_of_ble_eq_true rfl, Nat.le_of_ble_eq_true rfl⟩ ⟨Nat.le_of_ble_eq_true rfl, Nat.le_of_ble_eq_true rfl⟩ rfl rfl rfl (by decide) rfl (Nat.le_of_ble_eq_true rfl) dX12_isGood_77 (fun v τ hq => ?_)
    obtain ⟨r1, rfl, h⟩ := hq
    obtain ⟨s2, es2⟩ : ∃ z, z = τ := ⟨_, rfl⟩
    rw [← es2] at h ⊢
    clear es2
    refine ga_i2l hC dX12_isGood_80 ?_
    refine ga_locals [1, 3, 4, 5, 6, 0] rfl ?_
    exact h p l e s m args below meth c D cy ad hC
  · have h := h.2 hc
    refine ga_lconst (v := 0) hC dX12_isGood_69 (by decide) ?_
    refine ga_goto (tgt := 81) hC dX12_isGood_70 (by decide) ?_
    refine ga_locals [1, 3, 4, 5, 6, 0] rfl ?_
    exact h p l e s m args below meth c D cy ad hC
set_option maxRecDepth 100000 in
set_option maxHeartbeats 4000000 in
theorem v_X12_isGood_44 {v1 : Int32} {v2 : Int32} {v4 : Int32} {v5 : Int32} {t0 : Int32} {σ : cg_S} {Q : Int32 → cg_S → Prop}
    (h : (¬ v1 = 114 → L_X12_isGood_60 v1 v2 v4 v5 t0 (σ.1 0 3) σ Q) ∧ (v1 = 114 → L_X12_isGood_60 v1 v2 v4 v5 t0 1 σ Q)) : L_X12_isGood_44 v1 v2 v4 v5 t0 σ Q := by
  intro p l e s m args below meth c D cy ad hC
  refine ga_istore (lv' := [(6, .int t0), (0, .ref (ad 0)), (1, .int v1), (2, .int v2), (4, .int v4), (5, .int v5)]) hC dX12_isGood_44 (by decide) rfl ?_
  refine ga_iload_n hC dX12_isGood_46 2 rfl rfl ?_
  refine ga_bipush (v := 114) hC dX12_isGood_47 (by decide) ?_
  refine ga_icmp_ne (tgt := 56) hC dX12_isGood_49 (by decide) (fun hc => ?_) (fun hc => ?_)
  · have h := h.1 hc
    refine ga_aload_n hC dX12_isGood_56 1 rfl rfl ?_
    refine gM_0_3 hC q_6_88 dX12_isGood_57 ?_
    refine ga_locals [1, 2, 3, 4, 5, 0] rfl ?_
    exact h p l e s m args below meth c D cy ad hC
  · have h := h.2 hc
    refine ga_iconst (v := 1) hC dX12_isGood_52 (by decide) ?_
    refine ga_goto (tgt := 60) hC dX12_isGood_53 (by decide) ?_
    refine ga_locals [1, 2, 3, 4, 5, 0] rfl ?_
    exact h p l e s m args below meth c D cy ad hC
set_option maxRecDepth 100000 in
set_option maxHeartbeats 4000000 in
theorem v_X12_isGood_17 {v1 : Int32} {v2 : Int32} {v3 : Int32} {σ : cg_S} {Q : Int32 → cg_S → Prop}
    (h : M_X12_numberOf v1 σ (fun r1 s2 => ∀ x4 : Int32, x4 = (3 * v2) + v3 → (¬ v1 = 114 → L_X12_isGood_44 v1 v2 r1 x4 (s2.1 0 2) s2 Q) ∧ (v1 = 114 → L_X12_isGood_44 v1 v2 r1 x4 1 s2 Q))) : L_X12_isGood_17 v1 v2 v3 σ Q := by
  intro p l e s m args below meth c D cy ad hC
  refine ga_iload_n hC dX12_isGood_17 1 rfl rfl ?_
  refine ga_callS (As := [.int v1]) (st := []) (n := 1) hC h q_7_62 q_7_63 q_1_13 q_7_64 rfl rfl rfl (by decide +kernel) ⟨Nat.le_of_ble_eq_true rfl, Nat.le_of_ble_eq_true rfl⟩ ⟨Nat.le_of_ble_eq_true rfl, Nat.le_of_ble_eq_true rfl⟩ rfl rfl (Nat.le_of_ble_eq_true rfl) dX12_isGood_18 (fun v τ hq => ?_)
  obtain ⟨r1, rfl, h⟩ := hq
  obtain ⟨s2, es2⟩ : ∃ z, z = τ := ⟨_, rfl⟩
  rw [← es2] at h ⊢
  clear es2
  refine ga_istore (lv' := [(4, .int r1), (0, .ref (ad 0)), (1, .int v1), (2, .int v2), (3, .int v3)]) hC dX12_isGood_21 (by decide) rfl ?_
  refine ga_iconst (v := 3) hC dX12_isGood_23 (by decide) ?_
  refine ga_iload_n hC dX12_isGood_24 3 rfl rfl ?_
  refine ga_imul hC dX12_isGood_25 ?_
  refine ga_iload_n hC dX12_isGood_26 4 rfl rfl ?_
  refine ga_iadd hC dX12_isGood_27 ?_
  refine ga_topi (fun x4 ex4 => ?_)
  have h := h x4 ex4
  refine ga_istore (lv' := [(5, .int x4), (4, .int r1), (0, .ref (ad 0)), (1, .int v1), (2, .int v2), (3, .int v3)]) hC dX12_isGood_28 (by decide) rfl ?_
  refine ga_iload_n hC dX12_isGood_30 3 rfl rfl ?_
  refine ga_bipush (v := 114) hC dX12_isGood_31 (by decide) ?_
  refine ga_icmp_ne (tgt := 40) hC dX12_isGood_33 (by decide) (fun hc => ?_) (fun hc => ?_)
  · have h := h.1 hc
    refine ga_aload_n hC dX12_isGood_40 2 rfl rfl ?_
    refine gM_0_2 hC q_6_87 dX12_isGood_41 ?_
    refine ga_locals [2, 3, 4, 1, 0] rfl ?_
    exact h p l e s m args below meth c D cy ad hC
  · have h := h.2 hc
    refine ga_iconst (v := 1) hC dX12_isGood_36 (by decide) ?_
    refine ga_goto (tgt := 44) hC dX12_isGood_37 (by decide) ?_
    refine ga_locals [2, 3, 4, 1, 0] rfl ?_
    exact h p l e s m args below meth c D cy ad hC
set_option maxRecDepth 100000 in
set_option maxHeartbeats 4000000 in
theorem v_X12_isGood {v1 : Int32} {v2 : Int32} {v3 : Int32} {σ : cg_S} {Q : Int32 → cg_S → Prop}
    (h : (¬ v1 = 114 → L_X12_isGood_17 v1 v2 v3 σ Q) ∧ (v1 = 114 → vp_in v2 7 ∧ ((σ.1 15 v2.toNatClampNeg) = 0 → L_X12_isGood_17 v1 v2 v3 σ Q) ∧ (¬ (σ.1 15 v2.toNatClampNeg) = 0 → Q 1 σ))) : M_X12_isGood v1 v2 v3 σ Q := by
  refine cg_entry (lv := fun ad => [(0, .ref (ad 0)), (1, .int v1), (2, .int v2), (3, .int v3)]) (by decide +kernel) (fun _ => rfl) (fun _ => Nat.le_of_ble_eq_true rfl) ?_
  intro p l e s m args below meth c D cy ad hC
  refine ga_iload_n hC dX12_isGood_0 1 rfl rfl ?_
  refine ga_bipush (v := 114) hC dX12_isGood_1 (by decide) ?_
  refine ga_icmp_ne (tgt := 17) hC dX12_isGood_3 (by decide) (fun hc => ?_) (fun hc => ?_)
  · have h := h.1 hc
    refine ga_locals [0, 1, 2, 3] rfl ?_
    exact h p l e s m args below meth c D cy ad hC
  · have h := h.2 hc
    refine ga_aload_n hC dX12_isGood_6 0 rfl rfl ?_
    refine gM_0_16 hC q_6_101 dX12_isGood_7 ?_
    refine ga_iload_n hC dX12_isGood_10 2 rfl rfl ?_
    obtain ⟨h1, h⟩ := h
    refine ga_zald hC aM_15 (by decide) h1 dX12_isGood_11 ?_
    refine ga_if_eq (tgt := 17) hC dX12_isGood_12 (by decide) (fun hc => ?_) (fun hc => ?_)
    · have h := h.1 hc
      refine ga_locals [0, 1, 2, 3] rfl ?_
      exact h p l e s m args below meth c D cy ad hC
    · have h := h.2 hc
      refine ga_iconst (v := 1) hC dX12_isGood_15 (by decide) ?_
      exact ga_zret hC dX12_isGood_16 (by decide) ⟨_, rfl, h⟩
def M_X12_leadsLower (v1 : Int32) (v2 : Int32) (v3 : Int32) (σ : cg_S) (Q : Int32 → cg_S → Prop) : Prop := cg_M cg_WM yX12_leadsLower cX12_leadsLower 5 (some .boolean) (cg_R 0) (fun ad => [.ref (ad 0), .int v1, .int v2, .int v3]) σ (cg_qi Q)
theorem M_X12_leadsLower.mono {v1 : Int32} {v2 : Int32} {v3 : Int32} {σ : cg_S} {Q Q2 : Int32 → cg_S → Prop} (h : M_X12_leadsLower v1 v2 v3 σ Q) (hq : ∀ r τ, Q r τ → Q2 r τ) : M_X12_leadsLower v1 v2 v3 σ Q2 := cg_M.mono h (fun ad v τ ⟨r, e, q⟩ => ⟨r, e, hq r τ q⟩)
def L_X12_leadsLower_3 (v1 : Int32) (v2 : Int32) (v3 : Int32) (v4 : Int32) (σ : cg_S) (Q : Int32 → cg_S → Prop) : Prop := cg_L cg_WM RX12 cX12_leadsLower 5 (some .boolean) (cg_R 0) 3 (fun ad => [(0, .ref (ad 0)), (1, .int v1), (2, .int v2), (3, .int v3), (4, .int v4)]) (fun ad => []) σ (cg_qi Q)
set_option maxRecDepth 100000 in
set_option maxHeartbeats 4000000 in
theorem v_X12_leadsLower_3 {v1 : Int32} {v2 : Int32} {v3 : Int32} {v4 : Int32} {σ : cg_S} {Q : Int32 → cg_S → Prop}
    (h : ((σ.1 0 1) ≤ v4 → Q 0 σ) ∧ (¬ (σ.1 0 1) ≤ v4 → vp_in ((7 * ((3 * v1) + v2)) + v4) 147 ∧ ((σ.1 10 ((7 * ((3 * v1) + v2)) + v4).toNatClampNeg) ≤ 0 → L_X12_leadsLower_3 v1 v2 v3 (v4 + 1) σ Q) ∧ (¬ (σ.1 10 ((7 * ((3 * v1) + v2)) + v4).toNatClampNeg) ≤ 0 → vp_in v4 7 ∧ ((σ.1 6 v4.toNatClampNeg) = (-1) → L_X12_leadsLower_3 v1 v2 v3 (v4 + 1) σ Q) ∧ (¬ (σ.1 6 v4.toNatClampNeg) = (-1) → vp_in v4 7 ∧ (v3 ≤ (σ.1 6 v4.toNatClampNeg) → L_X12_leadsLower_3 v1 v2 v3 (v4 + 1) σ Q) ∧ (¬ v3 ≤ (σ.1 6 v4.toNatClampNeg) → Q 1 σ))))) : L_X12_leadsLower_3 v1 v2 v3 v4 σ Q := by
  intro p l e s m args below meth c D cy ad hC
  refine ga_iload hC dX12_leadsLower_3 4 rfl ?_
  refine ga_aload_n hC dX12_leadsLower_5 0 rfl rfl ?_
  refine gM_0_1 hC q_6_86 dX12_leadsLower_6 ?_
  refine ga_icmp_ge (tgt := 61) hC dX12_leadsLower_9 (by decide) (fun hc => ?_) (fun hc => ?_)
  · have h := h.1 hc
    refine ga_iconst (v := 0) hC dX12_leadsLower_61 (by decide) ?_
    exact ga_zret hC dX12_leadsLower_62 (by decide) ⟨_, rfl, h⟩
  · have h := h.2 hc
    refine ga_aload_n hC dX12_leadsLower_12 0 rfl rfl ?_
    refine gM_0_15 hC q_6_100 dX12_leadsLower_13 ?_
    refine ga_bipush (v := 7) hC dX12_leadsLower_16 (by decide) ?_
    refine ga_iconst (v := 3) hC dX12_leadsLower_18 (by decide) ?_
    refine ga_iload_n hC dX12_leadsLower_19 1 rfl rfl ?_
    refine ga_imul hC dX12_leadsLower_20 ?_
    refine ga_iload_n hC dX12_leadsLower_21 2 rfl rfl ?_
    refine ga_iadd hC dX12_leadsLower_22 ?_
    refine ga_imul hC dX12_leadsLower_23 ?_
    refine ga_iload hC dX12_leadsLower_24 4 rfl ?_
    refine ga_iadd hC dX12_leadsLower_26 ?_
    obtain ⟨h1, h⟩ := h
    refine ga_iald hC aM_10 (by decide) h1 dX12_leadsLower_27 ?_
    refine ga_if_le (tgt := 55) hC dX12_leadsLower_28 (by decide) (fun hc => ?_) (fun hc => ?_)
    · have h := h.1 hc
      refine ga_iinc (v := v4 + 1) (lv' := [(4, .int (v4 + 1)), (0, .ref (ad 0)), (1, .int v1), (2, .int v2), (3, .int v3)]) hC dX12_leadsLower_55 4 rfl rfl (by decide) rfl ?_
      refine ga_goto (tgt := 3) hC dX12_leadsLower_58 (by decide) ?_
      refine ga_locals [1, 2, 3, 4, 0] rfl ?_
      exact h p l e s m args below meth c D cy ad hC
    · have h := h.2 hc
      refine ga_aload_n hC dX12_leadsLower_31 0 rfl rfl ?_
      refine gM_0_11 hC q_6_96 dX12_leadsLower_32 ?_
      refine ga_iload hC dX12_leadsLower_35 4 rfl ?_
      obtain ⟨h2, h⟩ := h
      refine ga_iald hC aM_6 (by decide) h2 dX12_leadsLower_37 ?_
      refine ga_iconst (v := (-1)) hC dX12_leadsLower_38 (by decide) ?_
      refine ga_icmp_eq (tgt := 55) hC dX12_leadsLower_39 (by decide) (fun hc => ?_) (fun hc => ?_)
      · have h := h.1 hc
        refine ga_iinc (v := v4 + 1) (lv' := [(4, .int (v4 + 1)), (0, .ref (ad 0)), (1, .int v1), (2, .int v2), (3, .int v3)]) hC dX12_leadsLower_55 4 rfl rfl (by decide) rfl ?_
        refine ga_goto (tgt := 3) hC dX12_leadsLower_58 (by decide) ?_
        refine ga_locals [1, 2, 3, 4, 0] rfl ?_
        exact h p l e s m args below meth c D cy ad hC
      · have h := h.2 hc
        refine ga_aload_n hC dX12_leadsLower_42 0 rfl rfl ?_
        refine gM_0_11 hC q_6_96 dX12_leadsLower_43 ?_
        refine ga_iload hC dX12_leadsLower_46 4 rfl ?_
        obtain ⟨h3, h⟩ := h
        refine ga_iald hC aM_6 (by decide) h3 dX12_leadsLower_48 ?_
        refine ga_iload_n hC dX12_leadsLower_49 3 rfl rfl ?_
        refine ga_icmp_ge (tgt := 55) hC dX12_leadsLower_50 (by decide) (fun hc => ?_) (fun hc => ?_)
        · have h := h.1 hc
          refine ga_iinc (v := v4 + 1) (lv' := [(4, .int (v4 + 1)), (0, .ref (ad 0)), (1, .int v1), (2, .int v2), (3, .int v3)]) hC dX12_leadsLower_55 4 rfl rfl (by decide) rfl ?_
          refine ga_goto (tgt := 3) hC dX12_leadsLower_58 (by decide) ?_
          refine ga_locals [1, 2, 3, 4, 0] rfl ?_
          exact h p l e s m args below meth c D cy ad hC
        · have h := h.2 hc
          refine ga_iconst (v := 1) hC dX12_leadsLower_53 (by decide) ?_
          exact ga_zret hC dX12_leadsLower_54 (by decide) ⟨_, rfl, h⟩
set_option maxRecDepth 100000 in
set_option maxHeartbeats 4000000 in
theorem v_X12_leadsLower {v1 : Int32} {v2 : Int32} {v3 : Int32} {σ : cg_S} {Q : Int32 → cg_S → Prop}
    (h : L_X12_leadsLower_3 v1 v2 v3 0 σ Q) : M_X12_leadsLower v1 v2 v3 σ Q := by
  refine cg_entry (lv := fun ad => [(0, .ref (ad 0)), (1, .int v1), (2, .int v2), (3, .int v3)]) (by decide +kernel) (fun _ => rfl) (fun _ => Nat.le_of_ble_eq_true rfl) ?_
  intro p l e s m args below meth c D cy ad hC
  refine ga_iconst (v := 0) hC dX12_leadsLower_0 (by decide) ?_
  refine ga_istore (lv' := [(4, .int 0), (0, .ref (ad 0)), (1, .int v1), (2, .int v2), (3, .int v3)]) hC dX12_leadsLower_1 (by decide) rfl ?_
  refine ga_locals [1, 2, 3, 4, 0] rfl ?_
  exact h p l e s m args below meth c D cy ad hC
def M_X12_isRanked (v1 : Int32) (v2 : Int32) (σ : cg_S) (Q : Int32 → cg_S → Prop) : Prop := cg_M cg_WM yX12_isRanked cX12_isRanked 7 (some .boolean) (cg_R 4) (fun ad => [.ref (ad 0), .int v1, .int v2]) σ (cg_qi Q)
theorem M_X12_isRanked.mono {v1 : Int32} {v2 : Int32} {σ : cg_S} {Q Q2 : Int32 → cg_S → Prop} (h : M_X12_isRanked v1 v2 σ Q) (hq : ∀ r τ, Q r τ → Q2 r τ) : M_X12_isRanked v1 v2 σ Q2 := cg_M.mono h (fun ad v τ ⟨r, e, q⟩ => ⟨r, e, hq r τ q⟩)
def L_X12_isRanked_8 (v1 : Int32) (v2 : Int32) (v3 : Int32) (v4 : Int32) (v5 : Int32) (σ : cg_S) (Q : Int32 → cg_S → Prop) : Prop := cg_L cg_WM RX12 cX12_isRanked 7 (some .boolean) (cg_R 4) 8 (fun ad => [(0, .ref (ad 0)), (1, .int v1), (2, .int v2), (3, .int v3), (4, .int v4), (5, .int v5)]) (fun ad => []) σ (cg_qi Q)
def L_X12_isRanked_58 (v1 : Int32) (v2 : Int32) (v4 : Int32) (v5 : Int32) (v6 : Int32) (t0 : Int32) (σ : cg_S) (Q : Int32 → cg_S → Prop) : Prop := cg_L cg_WM RX12 cX12_isRanked 7 (some .boolean) (cg_R 4) 58 (fun ad => [(0, .ref (ad 0)), (1, .int v1), (2, .int v2), (4, .int v4), (5, .int v5), (6, .int v6)]) (fun ad => [.int t0]) σ (cg_qi Q)
set_option maxRecDepth 100000 in
set_option maxHeartbeats 4000000 in
theorem v_X12_isRanked_58 {v1 : Int32} {v2 : Int32} {v4 : Int32} {v5 : Int32} {v6 : Int32} {t0 : Int32} {σ : cg_S} {Q : Int32 → cg_S → Prop}
    (h : (v4 = 0 → L_X12_isRanked_8 v1 v2 t0 0 (v5 + 1) σ Q) ∧ (¬ v4 = 0 → (v6 = 0 → L_X12_isRanked_8 v1 v2 t0 0 (v5 + 1) σ Q) ∧ (¬ v6 = 0 → L_X12_isRanked_8 v1 v2 t0 1 (v5 + 1) σ Q))) : L_X12_isRanked_58 v1 v2 v4 v5 v6 t0 σ Q := by
  intro p l e s m args below meth c D cy ad hC
  refine ga_istore_n (lv' := [(3, .int t0), (0, .ref (ad 0)), (1, .int v1), (2, .int v2), (4, .int v4), (5, .int v5), (6, .int v6)]) hC dX12_isRanked_58 rfl (by decide) rfl ?_
  refine ga_iload hC dX12_isRanked_59 4 rfl ?_
  refine ga_if_eq (tgt := 73) hC dX12_isRanked_61 (by decide) (fun hc => ?_) (fun hc => ?_)
  · have h := h.1 hc
    refine ga_iconst (v := 0) hC dX12_isRanked_73 (by decide) ?_
    refine ga_istore (lv' := [(4, .int 0), (3, .int t0), (0, .ref (ad 0)), (1, .int v1), (2, .int v2), (5, .int v5), (6, .int v6)]) hC dX12_isRanked_74 (by decide) rfl ?_
    refine ga_iinc (v := v5 + 1) (lv' := [(5, .int (v5 + 1)), (4, .int 0), (3, .int t0), (0, .ref (ad 0)), (1, .int v1), (2, .int v2), (6, .int v6)]) hC dX12_isRanked_76 5 rfl rfl (by decide) rfl ?_
    refine ga_goto (tgt := 8) hC dX12_isRanked_79 (by decide) ?_
    refine ga_locals [3, 4, 5, 2, 1, 0] rfl ?_
    exact h p l e s m args below meth c D cy ad hC
  · have h := h.2 hc
    refine ga_iload hC dX12_isRanked_64 6 rfl ?_
    refine ga_if_eq (tgt := 73) hC dX12_isRanked_66 (by decide) (fun hc => ?_) (fun hc => ?_)
    · have h := h.1 hc
      refine ga_iconst (v := 0) hC dX12_isRanked_73 (by decide) ?_
      refine ga_istore (lv' := [(4, .int 0), (3, .int t0), (0, .ref (ad 0)), (1, .int v1), (2, .int v2), (5, .int v5), (6, .int v6)]) hC dX12_isRanked_74 (by decide) rfl ?_
      refine ga_iinc (v := v5 + 1) (lv' := [(5, .int (v5 + 1)), (4, .int 0), (3, .int t0), (0, .ref (ad 0)), (1, .int v1), (2, .int v2), (6, .int v6)]) hC dX12_isRanked_76 5 rfl rfl (by decide) rfl ?_
      refine ga_goto (tgt := 8) hC dX12_isRanked_79 (by decide) ?_
      refine ga_locals [3, 4, 5, 2, 1, 0] rfl ?_
      exact h p l e s m args below meth c D cy ad hC
    · have h := h.2 hc
      refine ga_iconst (v := 1) hC dX12_isRanked_69 (by decide) ?_
      refine ga_goto (tgt := 74) hC dX12_isRanked_70 (by decide) ?_
      refine ga_istore (lv' := [(4, .int 1), (3, .int t0), (0, .ref (ad 0)), (1, .int v1), (2, .int v2), (5, .int v5), (6, .int v6)]) hC dX12_isRanked_74 (by decide) rfl ?_
      refine ga_iinc (v := v5 + 1) (lv' := [(5, .int (v5 + 1)), (4, .int 1), (3, .int t0), (0, .ref (ad 0)), (1, .int v1), (2, .int v2), (6, .int v6)]) hC dX12_isRanked_76 5 rfl rfl (by decide) rfl ?_
      refine ga_goto (tgt := 8) hC dX12_isRanked_79 (by decide) ?_
      refine ga_locals [3, 4, 5, 2, 1, 0] rfl ?_
      exact h p l e s m args below meth c D cy ad hC
set_option maxRecDepth 100000 in
set_option maxHeartbeats 4000000 in
theorem v_X12_isRanked_8 {v1 : Int32} {v2 : Int32} {v3 : Int32} {v4 : Int32} {v5 : Int32} {σ : cg_S} {Q : Int32 → cg_S → Prop}
    (h : vp_in v1 7 ∧ ((σ.1 3 v1.toNatClampNeg) ≤ v5 → vp_in v1 7 ∧ (¬ (σ.1 1 v1.toNatClampNeg) = 97 → (v4 = 0 ∨ v4 = 1) ∧ Q v4 σ) ∧ ((σ.1 1 v1.toNatClampNeg) = 97 → (v3 = 0 ∨ v3 = 1) ∧ Q v3 σ)) ∧ (¬ (σ.1 3 v1.toNatClampNeg) ≤ v5 → M_X12_isGood 114 v1 v5 σ (fun r3 s4 => (¬ r3 = 0 → M_X12_leadsLower v1 v5 v2 s4 (fun r6 s7 => (¬ v3 = 0 → L_X12_isRanked_58 v1 v2 v4 v5 r6 1 s7 Q) ∧ (v3 = 0 → (r6 = 0 → L_X12_isRanked_58 v1 v2 v4 v5 r6 0 s7 Q) ∧ (¬ r6 = 0 → L_X12_isRanked_58 v1 v2 v4 v5 r6 1 s7 Q)))) ∧ (r3 = 0 → L_X12_isRanked_8 v1 v2 v3 v4 (v5 + 1) s4 Q)))) : L_X12_isRanked_8 v1 v2 v3 v4 v5 σ Q := by
  intro p l e s m args below meth c D cy ad hC
  refine ga_iload hC dX12_isRanked_8 5 rfl ?_
  refine ga_aload_n hC dX12_isRanked_10 0 rfl rfl ?_
  refine gM_0_8 hC q_6_93 dX12_isRanked_11 ?_
  refine ga_iload_n hC dX12_isRanked_14 1 rfl rfl ?_
  obtain ⟨h1, h⟩ := h
  refine ga_iald hC aM_3 (by decide) h1 dX12_isRanked_15 ?_
  refine ga_icmp_ge (tgt := 82) hC dX12_isRanked_16 (by decide) (fun hc => ?_) (fun hc => ?_)
  · have h := h.1 hc
    refine ga_aload_n hC dX12_isRanked_82 0 rfl rfl ?_
    refine gM_0_6 hC q_6_91 dX12_isRanked_83 ?_
    refine ga_iload_n hC dX12_isRanked_86 1 rfl rfl ?_
    obtain ⟨h2, h⟩ := h
    refine ga_iald hC aM_1 (by decide) h2 dX12_isRanked_87 ?_
    refine ga_bipush (v := 97) hC dX12_isRanked_88 (by decide) ?_
    refine ga_icmp_ne (tgt := 97) hC dX12_isRanked_90 (by decide) (fun hc => ?_) (fun hc => ?_)
    · have h := h.1 hc
      refine ga_iload hC dX12_isRanked_97 4 rfl ?_
      exact ga_zret hC dX12_isRanked_99 h.1 ⟨_, rfl, h.2⟩
    · have h := h.2 hc
      refine ga_iload_n hC dX12_isRanked_93 3 rfl rfl ?_
      refine ga_goto (tgt := 99) hC dX12_isRanked_94 (by decide) ?_
      exact ga_zret hC dX12_isRanked_99 h.1 ⟨_, rfl, h.2⟩
  · have h := h.2 hc
    refine ga_aload_n hC dX12_isRanked_19 0 rfl rfl ?_
    refine ga_bipush (v := 114) hC dX12_isRanked_20 (by decide) ?_
    refine ga_iload_n hC dX12_isRanked_22 1 rfl rfl ?_
    refine ga_iload hC dX12_isRanked_23 5 rfl ?_
    refine ga_callV (As := [.int 114, .int v1, .int v5]) (st := []) (k := 0) (n := 3) hC h q_7_217 q_7_219 q_0_45 q_1_13 q_7_220 rfl rfl rfl (by decide +kernel) ⟨Nat.le_of_ble_eq_true rfl, Nat.le_of_ble_eq_true rfl⟩ ⟨Nat.le_of_ble_eq_true rfl, Nat.le_of_ble_eq_true rfl⟩ rfl rfl rfl (by decide) rfl (Nat.le_of_ble_eq_true rfl) dX12_isRanked_25 (fun v τ hq => ?_)
    obtain ⟨r3, rfl, h⟩ := hq
    obtain ⟨s4, es4⟩ : ∃ z, z = τ := ⟨_, rfl⟩
    rw [← es4] at h ⊢
    clear es4
    refine ga_if_ne (tgt := 34) hC dX12_isRanked_28 (by decide) (fun hc => ?_) (fun hc => ?_)
    · have h := h.1 hc
      refine ga_aload_n hC dX12_isRanked_34 0 rfl rfl ?_
      refine ga_iload_n hC dX12_isRanked_35 1 rfl rfl ?_
      refine ga_iload hC dX12_isRanked_36 5 rfl ?_
      refine ga_iload_n hC dX12_isRanked_38 2 rfl rfl ?_
      refine ga_callV (As := [.int v1, .int v5, .int v2]) (st := []) (k := 0) (n := 3) hC h q_7_221 q_7_223 q_0_46 q_1_13 q_7_224 rfl rfl rfl (by decide +kernel) ⟨Nat.le_of_ble_eq_true rfl, Nat.le_of_ble_eq_true rfl⟩ ⟨Nat.le_of_ble_eq_true rfl, Nat.le_of_ble_eq_true rfl⟩ rfl rfl rfl (by decide) rfl (Nat.le_of_ble_eq_true rfl) dX12_isRanked_39 (fun v τ hq => ?_)
      obtain ⟨r6, rfl, h⟩ := hq
      obtain ⟨s7, es7⟩ : ∃ z, z = τ := ⟨_, rfl⟩
      rw [← es7] at h ⊢
      clear es7
      refine ga_istore (lv' := [(6, .int r6), (0, .ref (ad 0)), (1, .int v1), (2, .int v2), (3, .int v3), (4, .int v4), (5, .int v5)]) hC dX12_isRanked_42 (by decide) rfl ?_
      refine ga_iload_n hC dX12_isRanked_44 4 rfl rfl ?_
      refine ga_if_ne (tgt := 53) hC dX12_isRanked_45 (by decide) (fun hc => ?_) (fun hc => ?_)
      · have h := h.1 hc
        refine ga_iconst (v := 1) hC dX12_isRanked_53 (by decide) ?_
        refine ga_goto (tgt := 58) hC dX12_isRanked_54 (by decide) ?_
        refine ga_locals [1, 2, 3, 5, 6, 0] rfl ?_
        exact h p l e s m args below meth c D cy ad hC
      · have h := h.2 hc
        refine ga_iload hC dX12_isRanked_48 0 rfl ?_
        refine ga_if_eq (tgt := 57) hC dX12_isRanked_50 (by decide) (fun hc => ?_) (fun hc => ?_)
        · have h := h.1 hc
          refine ga_iconst (v := 0) hC dX12_isRanked_57 (by decide) ?_
          refine ga_locals [1, 2, 3, 5, 6, 0] rfl ?_
          exact h p l e s m args below meth c D cy ad hC
        · have h := h.2 hc
          refine ga_iconst (v := 1) hC dX12_isRanked_53 (by decide) ?_
          refine ga_goto (tgt := 58) hC dX12_isRanked_54 (by decide) ?_
          refine ga_locals [1, 2, 3, 5, 6, 0] rfl ?_
          exact h p l e s m args below meth c D cy ad hC
    · have h := h.2 hc
      refine ga_goto (tgt := 76) hC dX12_isRanked_31 (by decide) ?_
      refine ga_iinc (v := v5 + 1) (lv' := [(5, .int (v5 + 1)), (0, .ref (ad 0)), (1, .int v1), (2, .int v2), (3, .int v3), (4, .int v4)]) hC dX12_isRanked_76 5 rfl rfl (by decide) rfl ?_
      refine ga_goto (tgt := 8) hC dX12_isRanked_79 (by decide) ?_
      refine ga_locals [1, 2, 3, 4, 5, 0] rfl ?_
      exact h p l e s m args below meth c D cy ad hC
set_option maxRecDepth 100000 in
set_option maxHeartbeats 4000000 in
theorem v_X12_isRanked {v1 : Int32} {v2 : Int32} {σ : cg_S} {Q : Int32 → cg_S → Prop}
    (h : L_X12_isRanked_8 v1 v2 0 1 0 σ Q) : M_X12_isRanked v1 v2 σ Q := by
  refine cg_entry (lv := fun ad => [(0, .ref (ad 0)), (1, .int v1), (2, .int v2)]) (by decide +kernel) (fun _ => rfl) (fun _ => Nat.le_of_ble_eq_true rfl) ?_
  intro p l e s m args below meth c D cy ad hC
  refine ga_iconst (v := 0) hC dX12_isRanked_0 (by decide) ?_
  refine ga_istore_n (lv' := [(3, .int 0), (0, .ref (ad 0)), (1, .int v1), (2, .int v2)]) hC dX12_isRanked_1 rfl (by decide) rfl ?_
  refine ga_iconst (v := 1) hC dX12_isRanked_2 (by decide) ?_
  refine ga_istore (lv' := [(4, .int 1), (3, .int 0), (0, .ref (ad 0)), (1, .int v1), (2, .int v2)]) hC dX12_isRanked_3 (by decide) rfl ?_
  refine ga_iconst (v := 0) hC dX12_isRanked_5 (by decide) ?_
  refine ga_istore (lv' := [(5, .int 0), (4, .int 1), (3, .int 0), (0, .ref (ad 0)), (1, .int v1), (2, .int v2)]) hC dX12_isRanked_6 (by decide) rfl ?_
  refine ga_locals [3, 4, 5, 2, 1, 0] rfl ?_
  exact h p l e s m args below meth c D cy ad hC
def M_X12_ranks (σ : cg_S) (Q : cg_S → Prop) : Prop := cg_M cg_WM yX12_ranks cX12_ranks 3 none (cg_R 5) (fun ad => [.ref (ad 0)]) σ (cg_qv Q)
theorem M_X12_ranks.mono {σ : cg_S} {Q Q2 : cg_S → Prop} (h : M_X12_ranks σ Q) (hq : ∀ τ, Q τ → Q2 τ) : M_X12_ranks σ Q2 := cg_M.mono h (fun ad v τ ⟨e, q⟩ => ⟨e, hq τ q⟩)
def L_X12_ranks_2 (v1 : Int32) (σ : cg_S) (Q : cg_S → Prop) : Prop := cg_L cg_WM RX12 cX12_ranks 3 none (cg_R 5) 2 (fun ad => [(0, .ref (ad 0)), (1, .int v1)]) (fun ad => []) σ (cg_qv Q)
def L_X12_ranks_38 (v1 : Int32) (σ : cg_S) (Q : cg_S → Prop) : Prop := cg_L cg_WM RX12 cX12_ranks 3 none (cg_R 5) 38 (fun ad => [(0, .ref (ad 0)), (1, .int v1)]) (fun ad => []) σ (cg_qv Q)
def L_X12_ranks_46 (v1 : Int32) (v2 : Int32) (σ : cg_S) (Q : cg_S → Prop) : Prop := cg_L cg_WM RX12 cX12_ranks 3 none (cg_R 5) 46 (fun ad => [(0, .ref (ad 0)), (1, .int v1), (2, .int v2)]) (fun ad => []) σ (cg_qv Q)
set_option maxRecDepth 100000 in
set_option maxHeartbeats 4000000 in
theorem v_X12_ranks_46 {v1 : Int32} {v2 : Int32} {σ : cg_S} {Q : cg_S → Prop}
    (h : ((σ.1 0 1) ≤ v2 → L_X12_ranks_38 (v1 + 1) σ Q) ∧ (¬ (σ.1 0 1) ≤ v2 → vp_in v2 7 ∧ (¬ (σ.1 6 v2.toNatClampNeg) = (-1) → L_X12_ranks_46 v1 (v2 + 1) σ Q) ∧ ((σ.1 6 v2.toNatClampNeg) = (-1) → vp_in v2 28 ∧ ((σ.2.1 28 v2.toNatClampNeg) ≤ 0 → L_X12_ranks_46 v1 (v2 + 1) σ Q) ∧ (¬ (σ.2.1 28 v2.toNatClampNeg) ≤ 0 → M_X12_isRanked v2 v1 σ (fun r3 s4 => (r3 = 0 → L_X12_ranks_46 v1 (v2 + 1) s4 Q) ∧ (¬ r3 = 0 → vp_in v2 7 ∧ ∀ s7 : cg_S, s7 = cg_i s4 6 v2.toNatClampNeg v1 → L_X12_ranks_46 v1 (v2 + 1) s7 Q)))))) : L_X12_ranks_46 v1 v2 σ Q := by
  intro p l e s m args below meth c D cy ad hC
  refine ga_iload_n hC dX12_ranks_46 2 rfl rfl ?_
  refine ga_aload_n hC dX12_ranks_47 0 rfl rfl ?_
  refine gM_0_1 hC q_6_86 dX12_ranks_48 ?_
  refine ga_icmp_ge (tgt := 97) hC dX12_ranks_51 (by decide) (fun hc => ?_) (fun hc => ?_)
  · have h := h.1 hc
    refine ga_iinc (v := v1 + 1) (lv' := [(1, .int (v1 + 1)), (0, .ref (ad 0)), (2, .int v2)]) hC dX12_ranks_97 1 rfl rfl (by decide) rfl ?_
    refine ga_goto (tgt := 38) hC dX12_ranks_100 (by decide) ?_
    refine ga_locals [1, 0] rfl ?_
    exact h p l e s m args below meth c D cy ad hC
  · have h := h.2 hc
    refine ga_aload_n hC dX12_ranks_54 0 rfl rfl ?_
    refine gM_0_11 hC q_6_96 dX12_ranks_55 ?_
    refine ga_iload_n hC dX12_ranks_58 2 rfl rfl ?_
    obtain ⟨h1, h⟩ := h
    refine ga_iald hC aM_6 (by decide) h1 dX12_ranks_59 ?_
    refine ga_iconst (v := (-1)) hC dX12_ranks_60 (by decide) ?_
    refine ga_icmp_ne (tgt := 91) hC dX12_ranks_61 (by decide) (fun hc => ?_) (fun hc => ?_)
    · have h := h.1 hc
      refine ga_iinc (v := v2 + 1) (lv' := [(2, .int (v2 + 1)), (0, .ref (ad 0)), (1, .int v1)]) hC dX12_ranks_91 2 rfl rfl (by decide) rfl ?_
      refine ga_goto (tgt := 46) hC dX12_ranks_94 (by decide) ?_
      refine ga_locals [1, 2, 0] rfl ?_
      exact h p l e s m args below meth c D cy ad hC
    · have h := h.2 hc
      refine ga_aload_n hC dX12_ranks_64 0 rfl rfl ?_
      refine gM_0_28 hC q_6_113 dX12_ranks_65 ?_
      refine ga_iload_n hC dX12_ranks_68 2 rfl rfl ?_
      obtain ⟨h2, h⟩ := h
      refine ga_lald hC aM_28 (by decide) h2 dX12_ranks_69 ?_
      refine ga_lconst (v := 0) hC dX12_ranks_70 (by decide) ?_
      refine ga_lcmp hC dX12_ranks_71 ?_
      refine ga_if_le (tgt := 91) hC dX12_ranks_72 (by decide) (fun hc => ?_) (fun hc => ?_)
      · have h := h.1 (cg_cmp_le.1 hc)
        refine ga_iinc (v := v2 + 1) (lv' := [(2, .int (v2 + 1)), (0, .ref (ad 0)), (1, .int v1)]) hC dX12_ranks_91 2 rfl rfl (by decide) rfl ?_
        refine ga_goto (tgt := 46) hC dX12_ranks_94 (by decide) ?_
        refine ga_locals [1, 2, 0] rfl ?_
        exact h p l e s m args below meth c D cy ad hC
      · have h := h.2 (cg_cmp_le.2 hc)
        refine ga_aload_n hC dX12_ranks_75 0 rfl rfl ?_
        refine ga_iload_n hC dX12_ranks_76 2 rfl rfl ?_
        refine ga_iload_n hC dX12_ranks_77 1 rfl rfl ?_
        refine ga_callV (As := [.int v2, .int v1]) (st := []) (k := 0) (n := 2) hC h q_7_213 q_7_215 q_0_44 q_1_13 q_7_216 rfl rfl rfl (by decide +kernel) ⟨Nat.le_of_ble_eq_true rfl, Nat.le_of_ble_eq_true rfl⟩ ⟨Nat.le_of_ble_eq_true rfl, Nat.le_of_ble_eq_true rfl⟩ rfl rfl rfl (by decide) rfl (Nat.le_of_ble_eq_true rfl) dX12_ranks_78 (fun v τ hq => ?_)
        obtain ⟨r3, rfl, h⟩ := hq
        obtain ⟨s4, es4⟩ : ∃ z, z = τ := ⟨_, rfl⟩
        rw [← es4] at h ⊢
        clear es4
        refine ga_if_eq (tgt := 91) hC dX12_ranks_81 (by decide) (fun hc => ?_) (fun hc => ?_)
        · have h := h.1 hc
          refine ga_iinc (v := v2 + 1) (lv' := [(2, .int (v2 + 1)), (0, .ref (ad 0)), (1, .int v1)]) hC dX12_ranks_91 2 rfl rfl (by decide) rfl ?_
          refine ga_goto (tgt := 46) hC dX12_ranks_94 (by decide) ?_
          refine ga_locals [1, 2, 0] rfl ?_
          exact h p l e s m args below meth c D cy ad hC
        · have h := h.2 hc
          refine ga_aload_n hC dX12_ranks_84 0 rfl rfl ?_
          refine gM_0_11 hC q_6_96 dX12_ranks_85 ?_
          refine ga_iload_n hC dX12_ranks_88 2 rfl rfl ?_
          refine ga_iload_n hC dX12_ranks_89 1 rfl rfl ?_
          obtain ⟨h6, h⟩ := h
          refine ga_iast hC aM_6 (by decide) h6 dX12_ranks_90 ?_
          refine ga_sig (σ := cg_i s4 6 v2.toNatClampNeg v1) (fun s7 es7 => ?_)
          have h := h s7 es7
          refine ga_iinc (v := v2 + 1) (lv' := [(2, .int (v2 + 1)), (0, .ref (ad 0)), (1, .int v1)]) hC dX12_ranks_91 2 rfl rfl (by decide) rfl ?_
          refine ga_goto (tgt := 46) hC dX12_ranks_94 (by decide) ?_
          refine ga_locals [1, 2, 0] rfl ?_
          exact h p l e s m args below meth c D cy ad hC
set_option maxRecDepth 100000 in
set_option maxHeartbeats 4000000 in
theorem v_X12_ranks_38 {v1 : Int32} {σ : cg_S} {Q : cg_S → Prop}
    (h : (7 < v1 → Q σ) ∧ (¬ 7 < v1 → L_X12_ranks_46 v1 0 σ Q)) : L_X12_ranks_38 v1 σ Q := by
  intro p l e s m args below meth c D cy ad hC
  refine ga_iload_n hC dX12_ranks_38 1 rfl rfl ?_
  refine ga_bipush (v := 7) hC dX12_ranks_39 (by decide) ?_
  refine ga_icmp_gt (tgt := 103) hC dX12_ranks_41 (by decide) (fun hc => ?_) (fun hc => ?_)
  · have h := h.1 hc
    exact ga_vret hC dX12_ranks_103 ⟨rfl, h⟩
  · have h := h.2 hc
    refine ga_iconst (v := 0) hC dX12_ranks_44 (by decide) ?_
    refine ga_istore_n (lv' := [(2, .int 0), (0, .ref (ad 0)), (1, .int v1)]) hC dX12_ranks_45 rfl (by decide) rfl ?_
    refine ga_locals [1, 2, 0] rfl ?_
    exact h p l e s m args below meth c D cy ad hC
set_option maxRecDepth 100000 in
set_option maxHeartbeats 4000000 in
theorem v_X12_ranks_2 {v1 : Int32} {σ : cg_S} {Q : cg_S → Prop}
    (h : ((σ.1 0 1) ≤ v1 → L_X12_ranks_38 1 σ Q) ∧ (¬ (σ.1 0 1) ≤ v1 → vp_in v1 7 ∧ ((σ.1 15 v1.toNatClampNeg) = 0 → vp_in v1 7 ∧ ∀ s3 : cg_S, s3 = cg_i σ 6 v1.toNatClampNeg (-1) → L_X12_ranks_2 (v1 + 1) s3 Q) ∧ (¬ (σ.1 15 v1.toNatClampNeg) = 0 → vp_in v1 7 ∧ ∀ s5 : cg_S, s5 = cg_i σ 6 v1.toNatClampNeg 0 → L_X12_ranks_2 (v1 + 1) s5 Q))) : L_X12_ranks_2 v1 σ Q := by
  intro p l e s m args below meth c D cy ad hC
  refine ga_iload_n hC dX12_ranks_2 1 rfl rfl ?_
  refine ga_aload_n hC dX12_ranks_3 0 rfl rfl ?_
  refine gM_0_1 hC q_6_86 dX12_ranks_4 ?_
  refine ga_icmp_ge (tgt := 36) hC dX12_ranks_7 (by decide) (fun hc => ?_) (fun hc => ?_)
  · have h := h.1 hc
    refine ga_iconst (v := 1) hC dX12_ranks_36 (by decide) ?_
    refine ga_istore_n (lv' := [(1, .int 1), (0, .ref (ad 0))]) hC dX12_ranks_37 rfl (by decide) rfl ?_
    refine ga_locals [1, 0] rfl ?_
    exact h p l e s m args below meth c D cy ad hC
  · have h := h.2 hc
    refine ga_aload_n hC dX12_ranks_10 0 rfl rfl ?_
    refine gM_0_11 hC q_6_96 dX12_ranks_11 ?_
    refine ga_iload_n hC dX12_ranks_14 1 rfl rfl ?_
    refine ga_aload_n hC dX12_ranks_15 0 rfl rfl ?_
    refine gM_0_16 hC q_6_101 dX12_ranks_16 ?_
    refine ga_iload_n hC dX12_ranks_19 1 rfl rfl ?_
    obtain ⟨h1, h⟩ := h
    refine ga_zald hC aM_15 (by decide) h1 dX12_ranks_20 ?_
    refine ga_if_eq (tgt := 28) hC dX12_ranks_21 (by decide) (fun hc => ?_) (fun hc => ?_)
    · have h := h.1 hc
      refine ga_iconst (v := (-1)) hC dX12_ranks_28 (by decide) ?_
      obtain ⟨h2, h⟩ := h
      refine ga_iast hC aM_6 (by decide) h2 dX12_ranks_29 ?_
      refine ga_sig (σ := cg_i σ 6 v1.toNatClampNeg (-1)) (fun s3 es3 => ?_)
      have h := h s3 es3
      refine ga_iinc (v := v1 + 1) (lv' := [(1, .int (v1 + 1)), (0, .ref (ad 0))]) hC dX12_ranks_30 1 rfl rfl (by decide) rfl ?_
      refine ga_goto (tgt := 2) hC dX12_ranks_33 (by decide) ?_
      refine ga_locals [1, 0] rfl ?_
      exact h p l e s m args below meth c D cy ad hC
    · have h := h.2 hc
      refine ga_iconst (v := 0) hC dX12_ranks_24 (by decide) ?_
      refine ga_goto (tgt := 29) hC dX12_ranks_25 (by decide) ?_
      obtain ⟨h4, h⟩ := h
      refine ga_iast hC aM_6 (by decide) h4 dX12_ranks_29 ?_
      refine ga_sig (σ := cg_i σ 6 v1.toNatClampNeg 0) (fun s5 es5 => ?_)
      have h := h s5 es5
      refine ga_iinc (v := v1 + 1) (lv' := [(1, .int (v1 + 1)), (0, .ref (ad 0))]) hC dX12_ranks_30 1 rfl rfl (by decide) rfl ?_
      refine ga_goto (tgt := 2) hC dX12_ranks_33 (by decide) ?_
      refine ga_locals [1, 0] rfl ?_
      exact h p l e s m args below meth c D cy ad hC
set_option maxRecDepth 100000 in
set_option maxHeartbeats 4000000 in
theorem v_X12_ranks {σ : cg_S} {Q : cg_S → Prop}
    (h : L_X12_ranks_2 0 σ Q) : M_X12_ranks σ Q := by
  refine cg_entry (lv := fun ad => [(0, .ref (ad 0))]) (by decide +kernel) (fun _ => rfl) (fun _ => Nat.le_of_ble_eq_true rfl) ?_
  intro p l e s m args below meth c D cy ad hC
  refine ga_iconst (v := 0) hC dX12_ranks_0 (by decide) ?_
  refine ga_istore_n (lv' := [(1, .int 0), (0, .ref (ad 0))]) hC dX12_ranks_1 rfl (by decide) rfl ?_
  refine ga_locals [1, 0] rfl ?_
  exact h p l e s m args below meth c D cy ad hC
def M_X12_best (v1 : Int32) (v2 : Int32) (σ : cg_S) (Q : Int32 → cg_S → Prop) : Prop := cg_M cg_WM yX12_best cX12_best 5 (some .int) (cg_R 4) (fun ad => [.ref (ad 0), .int v1, .int v2]) σ (cg_qi Q)
theorem M_X12_best.mono {v1 : Int32} {v2 : Int32} {σ : cg_S} {Q Q2 : Int32 → cg_S → Prop} (h : M_X12_best v1 v2 σ Q) (hq : ∀ r τ, Q r τ → Q2 r τ) : M_X12_best v1 v2 σ Q2 := cg_M.mono h (fun ad v τ ⟨r, e, q⟩ => ⟨r, e, hq r τ q⟩)
def L_X12_best_46 (v1 : Int32) (v2 : Int32) (v3 : Int32) (v4 : Int32) (σ : cg_S) (Q : Int32 → cg_S → Prop) : Prop := cg_L cg_WM RX12 cX12_best 5 (some .int) (cg_R 4) 46 (fun ad => [(0, .ref (ad 0)), (1, .int v1), (2, .int v2), (3, .int v3), (4, .int v4)]) (fun ad => []) σ (cg_qi Q)
set_option maxRecDepth 100000 in
set_option maxHeartbeats 4000000 in
theorem v_X12_best_46 {v1 : Int32} {v2 : Int32} {v3 : Int32} {v4 : Int32} {σ : cg_S} {Q : Int32 → cg_S → Prop}
    (h : vp_in v2 7 ∧ ((σ.1 3 v2.toNatClampNeg) ≤ v4 → Q 0 σ) ∧ (¬ (σ.1 3 v2.toNatClampNeg) ≤ v4 → M_X12_isGood v1 v2 v4 σ (fun r2 s3 => (r2 = 0 → L_X12_best_46 v1 v2 v3 (v4 + 1) s3 Q) ∧ (¬ r2 = 0 → (v3 = 0 → Q v4 s3) ∧ (¬ v3 = 0 → vp_in v2 7 ∧ M_X12_leadsLower v2 v4 (s3.1 6 v2.toNatClampNeg) s3 (fun r6 s7 => (r6 = 0 → L_X12_best_46 v1 v2 v3 (v4 + 1) s7 Q) ∧ (¬ r6 = 0 → Q v4 s7))))))) : L_X12_best_46 v1 v2 v3 v4 σ Q := by
  intro p l e s m args below meth c D cy ad hC
  refine ga_iload hC dX12_best_46 4 rfl ?_
  refine ga_aload_n hC dX12_best_48 0 rfl rfl ?_
  refine gM_0_8 hC q_6_93 dX12_best_49 ?_
  refine ga_iload_n hC dX12_best_52 2 rfl rfl ?_
  obtain ⟨h1, h⟩ := h
  refine ga_iald hC aM_3 (by decide) h1 dX12_best_53 ?_
  refine ga_icmp_ge (tgt := 97) hC dX12_best_54 (by decide) (fun hc => ?_) (fun hc => ?_)
  · have h := h.1 hc
    refine ga_iconst (v := 0) hC dX12_best_97 (by decide) ?_
    exact ga_iret hC dX12_best_98 ⟨_, rfl, h⟩
  · have h := h.2 hc
    refine ga_aload_n hC dX12_best_57 0 rfl rfl ?_
    refine ga_iload_n hC dX12_best_58 1 rfl rfl ?_
    refine ga_iload_n hC dX12_best_59 2 rfl rfl ?_
    refine ga_iload hC dX12_best_60 4 rfl ?_
    refine ga_callV (As := [.int v1, .int v2, .int v4]) (st := []) (k := 0) (n := 3) hC h q_7_217 q_7_219 q_0_45 q_1_13 q_7_220 rfl rfl rfl (by decide +kernel) ⟨Nat.le_of_ble_eq_true rfl, Nat.le_of_ble_eq_true rfl⟩ ⟨Nat.le_of_ble_eq_true rfl, Nat.le_of_ble_eq_true rfl⟩ rfl rfl rfl (by decide) rfl (Nat.le_of_ble_eq_true rfl) dX12_best_62 (fun v τ hq => ?_)
    obtain ⟨r2, rfl, h⟩ := hq
    obtain ⟨s3, es3⟩ : ∃ z, z = τ := ⟨_, rfl⟩
    rw [← es3] at h ⊢
    clear es3
    refine ga_if_eq (tgt := 91) hC dX12_best_65 (by decide) (fun hc => ?_) (fun hc => ?_)
    · have h := h.1 hc
      refine ga_iinc (v := v4 + 1) (lv' := [(4, .int (v4 + 1)), (0, .ref (ad 0)), (1, .int v1), (2, .int v2), (3, .int v3)]) hC dX12_best_91 4 rfl rfl (by decide) rfl ?_
      refine ga_goto (tgt := 46) hC dX12_best_94 (by decide) ?_
      refine ga_locals [1, 2, 3, 4, 0] rfl ?_
      exact h p l e s m args below meth c D cy ad hC
    · have h := h.2 hc
      refine ga_iload_n hC dX12_best_68 3 rfl rfl ?_
      refine ga_if_eq (tgt := 88) hC dX12_best_69 (by decide) (fun hc => ?_) (fun hc => ?_)
      · have h := h.1 hc
        refine ga_iload hC dX12_best_88 4 rfl ?_
        exact ga_iret hC dX12_best_90 ⟨_, rfl, h⟩
      · have h := h.2 hc
        refine ga_aload_n hC dX12_best_72 0 rfl rfl ?_
        refine ga_iload_n hC dX12_best_73 2 rfl rfl ?_
        refine ga_iload hC dX12_best_74 4 rfl ?_
        refine ga_aload_n hC dX12_best_76 0 rfl rfl ?_
        refine gM_0_11 hC q_6_96 dX12_best_77 ?_
        refine ga_iload_n hC dX12_best_80 2 rfl rfl ?_
        obtain ⟨h5, h⟩ := h
        refine ga_iald hC aM_6 (by decide) h5 dX12_best_81 ?_
        refine ga_callV (As := [.int v2, .int v4, .int (s3.1 6 v2.toNatClampNeg)]) (st := []) (k := 0) (n := 3) hC h q_7_221 q_7_223 q_0_46 q_1_13 q_7_224 rfl rfl rfl (by decide +kernel) ⟨Nat.le_of_ble_eq_true rfl, Nat.le_of_ble_eq_true rfl⟩ ⟨Nat.le_of_ble_eq_true rfl, Nat.le_of_ble_eq_true rfl⟩ rfl rfl rfl (by decide) rfl (Nat.le_of_ble_eq_true rfl) dX12_best_82 (fun v τ hq => ?_)
        obtain ⟨r6, rfl, h⟩ := hq
        obtain ⟨s7, es7⟩ : ∃ z, z = τ := ⟨_, rfl⟩
        rw [← es7] at h ⊢
        clear es7
        refine ga_if_eq (tgt := 91) hC dX12_best_85 (by decide) (fun hc => ?_) (fun hc => ?_)
        · have h := h.1 hc
          refine ga_iinc (v := v4 + 1) (lv' := [(4, .int (v4 + 1)), (0, .ref (ad 0)), (1, .int v1), (2, .int v2), (3, .int v3)]) hC dX12_best_91 4 rfl rfl (by decide) rfl ?_
          refine ga_goto (tgt := 46) hC dX12_best_94 (by decide) ?_
          refine ga_locals [1, 2, 3, 4, 0] rfl ?_
          exact h p l e s m args below meth c D cy ad hC
        · have h := h.2 hc
          refine ga_iload hC dX12_best_88 4 rfl ?_
          exact ga_iret hC dX12_best_90 ⟨_, rfl, h⟩
set_option maxRecDepth 100000 in
set_option maxHeartbeats 4000000 in
theorem v_X12_best {v1 : Int32} {v2 : Int32} {σ : cg_S} {Q : Int32 → cg_S → Prop}
    (h : (¬ v1 = 114 → L_X12_best_46 v1 v2 0 0 σ Q) ∧ (v1 = 114 → vp_in v2 7 ∧ (¬ (σ.1 1 v2.toNatClampNeg) = 97 → L_X12_best_46 v1 v2 0 0 σ Q) ∧ ((σ.1 1 v2.toNatClampNeg) = 97 → vp_in v2 7 ∧ (¬ (σ.1 15 v2.toNatClampNeg) = 0 → L_X12_best_46 v1 v2 0 0 σ Q) ∧ ((σ.1 15 v2.toNatClampNeg) = 0 → vp_in v2 28 ∧ ((σ.2.1 28 v2.toNatClampNeg) ≤ 0 → L_X12_best_46 v1 v2 0 0 σ Q) ∧ (¬ (σ.2.1 28 v2.toNatClampNeg) ≤ 0 → L_X12_best_46 v1 v2 1 0 σ Q))))) : M_X12_best v1 v2 σ Q := by
  refine cg_entry (lv := fun ad => [(0, .ref (ad 0)), (1, .int v1), (2, .int v2)]) (by decide +kernel) (fun _ => rfl) (fun _ => Nat.le_of_ble_eq_true rfl) ?_
  intro p l e s m args below meth c D cy ad hC
  refine ga_iload_n hC dX12_best_0 1 rfl rfl ?_
  refine ga_bipush (v := 114) hC dX12_best_1 (by decide) ?_
  refine ga_icmp_ne (tgt := 41) hC dX12_best_3 (by decide) (fun hc => ?_) (fun hc => ?_)
  · have h := h.1 hc
    refine ga_iconst (v := 0) hC dX12_best_41 (by decide) ?_
    refine ga_istore_n (lv' := [(3, .int 0), (0, .ref (ad 0)), (1, .int v1), (2, .int v2)]) hC dX12_best_42 rfl (by decide) rfl ?_
    refine ga_iconst (v := 0) hC dX12_best_43 (by decide) ?_
    refine ga_istore (lv' := [(4, .int 0), (3, .int 0), (0, .ref (ad 0)), (1, .int v1), (2, .int v2)]) hC dX12_best_44 (by decide) rfl ?_
    refine ga_locals [2, 3, 4, 1, 0] rfl ?_
    exact h p l e s m args below meth c D cy ad hC
  · have h := h.2 hc
    refine ga_aload_n hC dX12_best_6 0 rfl rfl ?_
    refine gM_0_6 hC q_6_91 dX12_best_7 ?_
    refine ga_iload_n hC dX12_best_10 2 rfl rfl ?_
    obtain ⟨h1, h⟩ := h
    refine ga_iald hC aM_1 (by decide) h1 dX12_best_11 ?_
    refine ga_bipush (v := 97) hC dX12_best_12 (by decide) ?_
    refine ga_icmp_ne (tgt := 41) hC dX12_best_14 (by decide) (fun hc => ?_) (fun hc => ?_)
    · have h := h.1 hc
      refine ga_iconst (v := 0) hC dX12_best_41 (by decide) ?_
      refine ga_istore_n (lv' := [(3, .int 0), (0, .ref (ad 0)), (1, .int v1), (2, .int v2)]) hC dX12_best_42 rfl (by decide) rfl ?_
      refine ga_iconst (v := 0) hC dX12_best_43 (by decide) ?_
      refine ga_istore (lv' := [(4, .int 0), (3, .int 0), (0, .ref (ad 0)), (1, .int v1), (2, .int v2)]) hC dX12_best_44 (by decide) rfl ?_
      refine ga_locals [2, 3, 4, 1, 0] rfl ?_
      exact h p l e s m args below meth c D cy ad hC
    · have h := h.2 hc
      refine ga_aload_n hC dX12_best_17 0 rfl rfl ?_
      refine gM_0_16 hC q_6_101 dX12_best_18 ?_
      refine ga_iload_n hC dX12_best_21 2 rfl rfl ?_
      obtain ⟨h2, h⟩ := h
      refine ga_zald hC aM_15 (by decide) h2 dX12_best_22 ?_
      refine ga_if_ne (tgt := 41) hC dX12_best_23 (by decide) (fun hc => ?_) (fun hc => ?_)
      · have h := h.1 hc
        refine ga_iconst (v := 0) hC dX12_best_41 (by decide) ?_
        refine ga_istore_n (lv' := [(3, .int 0), (0, .ref (ad 0)), (1, .int v1), (2, .int v2)]) hC dX12_best_42 rfl (by decide) rfl ?_
        refine ga_iconst (v := 0) hC dX12_best_43 (by decide) ?_
        refine ga_istore (lv' := [(4, .int 0), (3, .int 0), (0, .ref (ad 0)), (1, .int v1), (2, .int v2)]) hC dX12_best_44 (by decide) rfl ?_
        refine ga_locals [2, 3, 4, 1, 0] rfl ?_
        exact h p l e s m args below meth c D cy ad hC
      · have h := h.2 hc
        refine ga_aload_n hC dX12_best_26 0 rfl rfl ?_
        refine gM_0_28 hC q_6_113 dX12_best_27 ?_
        refine ga_iload_n hC dX12_best_30 2 rfl rfl ?_
        obtain ⟨h3, h⟩ := h
        refine ga_lald hC aM_28 (by decide) h3 dX12_best_31 ?_
        refine ga_lconst (v := 0) hC dX12_best_32 (by decide) ?_
        refine ga_lcmp hC dX12_best_33 ?_
        refine ga_if_le (tgt := 41) hC dX12_best_34 (by decide) (fun hc => ?_) (fun hc => ?_)
        · have h := h.1 (cg_cmp_le.1 hc)
          refine ga_iconst (v := 0) hC dX12_best_41 (by decide) ?_
          refine ga_istore_n (lv' := [(3, .int 0), (0, .ref (ad 0)), (1, .int v1), (2, .int v2)]) hC dX12_best_42 rfl (by decide) rfl ?_
          refine ga_iconst (v := 0) hC dX12_best_43 (by decide) ?_
          refine ga_istore (lv' := [(4, .int 0), (3, .int 0), (0, .ref (ad 0)), (1, .int v1), (2, .int v2)]) hC dX12_best_44 (by decide) rfl ?_
          refine ga_locals [2, 3, 4, 1, 0] rfl ?_
          exact h p l e s m args below meth c D cy ad hC
        · have h := h.2 (cg_cmp_le.2 hc)
          refine ga_iconst (v := 1) hC dX12_best_37 (by decide) ?_
          refine ga_goto (tgt := 42) hC dX12_best_38 (by decide) ?_
          refine ga_istore_n (lv' := [(3, .int 1), (0, .ref (ad 0)), (1, .int v1), (2, .int v2)]) hC dX12_best_42 rfl (by decide) rfl ?_
          refine ga_iconst (v := 0) hC dX12_best_43 (by decide) ?_
          refine ga_istore (lv' := [(4, .int 0), (3, .int 1), (0, .ref (ad 0)), (1, .int v1), (2, .int v2)]) hC dX12_best_44 (by decide) rfl ?_
          refine ga_locals [2, 3, 4, 1, 0] rfl ?_
          exact h p l e s m args below meth c D cy ad hC
def M_X12_solve (v1 : Int32) (σ : cg_S) (Q : Int32 → cg_S → Prop) : Prop := cg_M cg_WM yX12_solve cX12_solve 5 (some .int) (cg_R 8) (fun ad => [.ref (ad 0), .int v1]) σ (cg_qi Q)
theorem M_X12_solve.mono {v1 : Int32} {σ : cg_S} {Q Q2 : Int32 → cg_S → Prop} (h : M_X12_solve v1 σ Q) (hq : ∀ r τ, Q r τ → Q2 r τ) : M_X12_solve v1 σ Q2 := cg_M.mono h (fun ad v τ ⟨r, e, q⟩ => ⟨r, e, hq r τ q⟩)
def L_X12_solve_25 (v1 : Int32) (t1 : Int32) (σ : cg_S) (Q : Int32 → cg_S → Prop) : Prop := cg_L cg_WM RX12 cX12_solve 5 (some .int) (cg_R 8) 25 (fun ad => [(0, .ref (ad 0)), (1, .int v1)]) (fun ad => [.int t1, .ref (ad 0)]) σ (cg_qi Q)
def L_X12_solve_56 (v1 : Int32) (v2 : Int32) (v3 : Int32) (σ : cg_S) (Q : Int32 → cg_S → Prop) : Prop := cg_L cg_WM RX12 cX12_solve 5 (some .int) (cg_R 8) 56 (fun ad => [(0, .ref (ad 0)), (1, .int v1), (2, .int v2), (3, .int v3)]) (fun ad => []) σ (cg_qi Q)
def L_X12_solve_89 (v1 : Int32) (v3 : Int32) (v4 : Int32) (t0 : Int32) (t1 : Int32) (σ : cg_S) (Q : Int32 → cg_S → Prop) : Prop := cg_L cg_WM RX12 cX12_solve 5 (some .int) (cg_R 8) 89 (fun ad => [(0, .ref (ad 0)), (1, .int v1), (3, .int v3), (4, .int v4)]) (fun ad => [.int t1, .int t0]) σ (cg_qi Q)
set_option maxRecDepth 100000 in
set_option maxHeartbeats 4000000 in
theorem v_X12_solve_89 {v1 : Int32} {v3 : Int32} {v4 : Int32} {t0 : Int32} {t1 : Int32} {σ : cg_S} {Q : Int32 → cg_S → Prop}
    (h : ∀ x1 : Int32, x1 = t0 + t1 → vp_in v3 7 ∧ ∀ s3 : cg_S, s3 = cg_i σ 4 v3.toNatClampNeg v4 → L_X12_solve_56 v1 x1 (v3 + 1) s3 Q) : L_X12_solve_89 v1 v3 v4 t0 t1 σ Q := by
  intro p l e s m args below meth c D cy ad hC
  refine ga_iadd hC dX12_solve_89 ?_
  refine ga_topi (fun x1 ex1 => ?_)
  have h := h x1 ex1
  refine ga_istore_n (lv' := [(2, .int x1), (0, .ref (ad 0)), (1, .int v1), (3, .int v3), (4, .int v4)]) hC dX12_solve_90 rfl (by decide) rfl ?_
  refine ga_aload_n hC dX12_solve_91 1 rfl rfl ?_
  refine gM_0_9 hC q_6_94 dX12_solve_92 ?_
  refine ga_iload_n hC dX12_solve_95 3 rfl rfl ?_
  refine ga_iload hC dX12_solve_96 4 rfl ?_
  obtain ⟨h2, h⟩ := h
  refine ga_iast hC aM_4 (by decide) h2 dX12_solve_98 ?_
  refine ga_sig (σ := cg_i σ 4 v3.toNatClampNeg v4) (fun s3 es3 => ?_)
  have h := h s3 es3
  refine ga_iinc (v := v3 + 1) (lv' := [(3, .int (v3 + 1)), (2, .int x1), (0, .ref (ad 0)), (1, .int v1), (4, .int v4)]) hC dX12_solve_99 3 rfl rfl (by decide) rfl ?_
  refine ga_goto (tgt := 56) hC dX12_solve_102 (by decide) ?_
  refine ga_locals [2, 3, 1, 0] rfl ?_
  exact h p l e s m args below meth c D cy ad hC
set_option maxRecDepth 100000 in
set_option maxHeartbeats 4000000 in
theorem v_X12_solve_56 {v1 : Int32} {v2 : Int32} {v3 : Int32} {σ : cg_S} {Q : Int32 → cg_S → Prop}
    (h : ((σ.1 0 1) ≤ v3 → Q v2 σ) ∧ (¬ (σ.1 0 1) ≤ v3 → M_X12_best v1 v3 σ (fun r1 s2 => vp_in v3 7 ∧ (¬ r1 = (s2.1 4 v3.toNatClampNeg) → L_X12_solve_89 v1 v3 r1 v2 1 s2 Q) ∧ (r1 = (s2.1 4 v3.toNatClampNeg) → L_X12_solve_89 v1 v3 r1 v2 0 s2 Q)))) : L_X12_solve_56 v1 v2 v3 σ Q := by
  intro p l e s m args below meth c D cy ad hC
  refine ga_iload_n hC dX12_solve_56 3 rfl rfl ?_
  refine ga_aload_n hC dX12_solve_57 0 rfl rfl ?_
  refine gM_0_1 hC q_6_86 dX12_solve_58 ?_
  refine ga_icmp_ge (tgt := 105) hC dX12_solve_61 (by decide) (fun hc => ?_) (fun hc => ?_)
  · have h := h.1 hc
    refine ga_iload_n hC dX12_solve_105 2 rfl rfl ?_
    exact ga_iret hC dX12_solve_106 ⟨_, rfl, h⟩
  · have h := h.2 hc
    refine ga_aload_n hC dX12_solve_64 0 rfl rfl ?_
    refine ga_iload_n hC dX12_solve_65 1 rfl rfl ?_
    refine ga_iload_n hC dX12_solve_66 3 rfl rfl ?_
    refine ga_callV (As := [.int v1, .int v3]) (st := []) (k := 0) (n := 2) hC h q_7_225 q_7_227 q_0_47 q_1_13 q_7_228 rfl rfl rfl (by decide +kernel) ⟨Nat.le_of_ble_eq_true rfl, Nat.le_of_ble_eq_true rfl⟩ ⟨Nat.le_of_ble_eq_true rfl, Nat.le_of_ble_eq_true rfl⟩ rfl rfl rfl (by decide) rfl (Nat.le_of_ble_eq_true rfl) dX12_solve_67 (fun v τ hq => ?_)
    obtain ⟨r1, rfl, h⟩ := hq
    obtain ⟨s2, es2⟩ : ∃ z, z = τ := ⟨_, rfl⟩
    rw [← es2] at h ⊢
    clear es2
    refine ga_istore (lv' := [(4, .int r1), (0, .ref (ad 0)), (1, .int v1), (2, .int v2), (3, .int v3)]) hC dX12_solve_70 (by decide) rfl ?_
    refine ga_iload_n hC dX12_solve_72 3 rfl rfl ?_
    refine ga_iload hC dX12_solve_73 0 rfl ?_
    refine ga_aload_n hC dX12_solve_75 1 rfl rfl ?_
    refine gM_0_9 hC q_6_94 dX12_solve_76 ?_
    refine ga_iload_n hC dX12_solve_79 4 rfl rfl ?_
    obtain ⟨h4, h⟩ := h
    refine ga_iald hC aM_4 (by decide) h4 dX12_solve_80 ?_
    refine ga_icmp_ne (tgt := 88) hC dX12_solve_81 (by decide) (fun hc => ?_) (fun hc => ?_)
    · have h := h.1 hc
      refine ga_iconst (v := 1) hC dX12_solve_88 (by decide) ?_
      refine ga_locals [1, 2, 4, 0] rfl ?_
      exact h p l e s m args below meth c D cy ad hC
    · have h := h.2 hc
      refine ga_iconst (v := 0) hC dX12_solve_84 (by decide) ?_
      refine ga_goto (tgt := 89) hC dX12_solve_85 (by decide) ?_
      refine ga_locals [1, 2, 4, 0] rfl ?_
      exact h p l e s m args below meth c D cy ad hC
set_option maxRecDepth 100000 in
set_option maxHeartbeats 4000000 in
theorem v_X12_solve_25 {v1 : Int32} {t1 : Int32} {σ : cg_S} {Q : Int32 → cg_S → Prop}
    (h : ∀ s1 : cg_S, s1 = cg_i σ 0 0 t1 → ((s1.1 0 0) ≤ 0 → M_X12_values v1 s1 (fun s3 => (¬ v1 = 114 → L_X12_solve_56 v1 0 0 s3 Q) ∧ (v1 = 114 → M_X12_ranks s3 (fun s6 => L_X12_solve_56 v1 0 0 s6 Q)))) ∧ (¬ (s1.1 0 0) ≤ 0 → Q 0 s1)) : L_X12_solve_25 v1 t1 σ Q := by
  intro p l e s m args below meth c D cy ad hC
  refine pM_0_0 hC q_6_85 dX12_solve_25 ?_
  refine ga_sig (σ := cg_i σ 0 0 t1) (fun s1 es1 => ?_)
  have h := h s1 es1
  refine ga_aload_n hC dX12_solve_28 0 rfl rfl ?_
  refine gM_0_0 hC q_6_85 dX12_solve_29 ?_
  refine ga_if_le (tgt := 37) hC dX12_solve_32 (by decide) (fun hc => ?_) (fun hc => ?_)
  · have h := h.1 hc
    refine ga_aload_n hC dX12_solve_37 0 rfl rfl ?_
    refine ga_iload_n hC dX12_solve_38 1 rfl rfl ?_
    refine ga_callV (As := [.int v1]) (st := []) (k := 0) (n := 1) hC h q_7_65 q_7_67 q_0_19 q_1_13 q_7_68 rfl rfl rfl (by decide +kernel) ⟨Nat.le_of_ble_eq_true rfl, Nat.le_of_ble_eq_true rfl⟩ ⟨Nat.le_of_ble_eq_true rfl, Nat.le_of_ble_eq_true rfl⟩ rfl rfl rfl (by decide) rfl (Nat.le_of_ble_eq_true rfl) dX12_solve_39 (fun v τ hq => ?_)
    obtain ⟨rfl, h⟩ := hq
    obtain ⟨s3, es3⟩ : ∃ z, z = τ := ⟨_, rfl⟩
    rw [← es3] at h ⊢
    clear es3
    refine ga_iload_n hC dX12_solve_42 1 rfl rfl ?_
    refine ga_bipush (v := 114) hC dX12_solve_43 (by decide) ?_
    refine ga_icmp_ne (tgt := 52) hC dX12_solve_45 (by decide) (fun hc => ?_) (fun hc => ?_)
    · have h := h.1 hc
      refine ga_iconst (v := 0) hC dX12_solve_52 (by decide) ?_
      refine ga_istore_n (lv' := [(2, .int 0), (0, .ref (ad 0)), (1, .int v1)]) hC dX12_solve_53 rfl (by decide) rfl ?_
      refine ga_iconst (v := 0) hC dX12_solve_54 (by decide) ?_
      refine ga_istore_n (lv' := [(3, .int 0), (2, .int 0), (0, .ref (ad 0)), (1, .int v1)]) hC dX12_solve_55 rfl (by decide) rfl ?_
      refine ga_locals [2, 3, 1, 0] rfl ?_
      exact h p l e s m args below meth c D cy ad hC
    · have h := h.2 hc
      refine ga_aload_n hC dX12_solve_48 0 rfl rfl ?_
      refine ga_callV (As := []) (st := []) (k := 0) (n := 0) hC h q_7_209 q_7_211 q_0_43 q_1_13 q_7_212 rfl rfl rfl (by decide +kernel) ⟨Nat.le_of_ble_eq_true rfl, Nat.le_of_ble_eq_true rfl⟩ ⟨Nat.le_of_ble_eq_true rfl, Nat.le_of_ble_eq_true rfl⟩ rfl rfl rfl (by decide) rfl (Nat.le_of_ble_eq_true rfl) dX12_solve_49 (fun v τ hq => ?_)
      obtain ⟨rfl, h⟩ := hq
      obtain ⟨s6, es6⟩ : ∃ z, z = τ := ⟨_, rfl⟩
      rw [← es6] at h ⊢
      clear es6
      refine ga_iconst (v := 0) hC dX12_solve_52 (by decide) ?_
      refine ga_istore_n (lv' := [(2, .int 0), (0, .ref (ad 0)), (1, .int v1)]) hC dX12_solve_53 rfl (by decide) rfl ?_
      refine ga_iconst (v := 0) hC dX12_solve_54 (by decide) ?_
      refine ga_istore_n (lv' := [(3, .int 0), (2, .int 0), (0, .ref (ad 0)), (1, .int v1)]) hC dX12_solve_55 rfl (by decide) rfl ?_
      refine ga_locals [2, 3, 1, 0] rfl ?_
      exact h p l e s m args below meth c D cy ad hC
  · have h := h.2 hc
    refine ga_iconst (v := 0) hC dX12_solve_35 (by decide) ?_
    exact ga_iret hC dX12_solve_36 ⟨_, rfl, h⟩
set_option maxRecDepth 100000 in
set_option maxHeartbeats 4000000 in
theorem v_X12_solve {v1 : Int32} {σ : cg_S} {Q : Int32 → cg_S → Prop}
    (h : M_X12_numberOf v1 σ (fun r1 s2 => (¬ r1 = (-1) → M_X12_isAll s2 (fun r4 s5 => (¬ r4 = 0 → L_X12_solve_25 v1 0 s5 Q) ∧ (r4 = 0 → L_X12_solve_25 v1 2 s5 Q))) ∧ (r1 = (-1) → L_X12_solve_25 v1 1 s2 Q))) : M_X12_solve v1 σ Q := by
  refine cg_entry (lv := fun ad => [(0, .ref (ad 0)), (1, .int v1)]) (by decide +kernel) (fun _ => rfl) (fun _ => Nat.le_of_ble_eq_true rfl) ?_
  intro p l e s m args below meth c D cy ad hC
  refine ga_aload_n hC dX12_solve_0 0 rfl rfl ?_
  refine ga_iload_n hC dX12_solve_1 1 rfl rfl ?_
  refine ga_callS (As := [.int v1]) (st := [.ref (ad 0)]) (n := 1) hC h q_7_62 q_7_63 q_1_13 q_7_64 rfl rfl rfl (by decide +kernel) ⟨Nat.le_of_ble_eq_true rfl, Nat.le_of_ble_eq_true rfl⟩ ⟨Nat.le_of_ble_eq_true rfl, Nat.le_of_ble_eq_true rfl⟩ rfl rfl (Nat.le_of_ble_eq_true rfl) dX12_solve_2 (fun v τ hq => ?_)
  obtain ⟨r1, rfl, h⟩ := hq
  obtain ⟨s2, es2⟩ : ∃ z, z = τ := ⟨_, rfl⟩
  rw [← es2] at h ⊢
  clear es2
  refine ga_iconst (v := (-1)) hC dX12_solve_5 (by decide) ?_
  refine ga_icmp_ne (tgt := 13) hC dX12_solve_6 (by decide) (fun hc => ?_) (fun hc => ?_)
  · have h := h.1 hc
    refine ga_aload_n hC dX12_solve_13 0 rfl rfl ?_
    refine ga_callV (As := []) (st := [.ref (ad 0)]) (k := 0) (n := 0) hC h q_7_50 q_7_52 q_0_17 q_1_13 q_7_53 rfl rfl rfl (by decide +kernel) ⟨Nat.le_of_ble_eq_true rfl, Nat.le_of_ble_eq_true rfl⟩ ⟨Nat.le_of_ble_eq_true rfl, Nat.le_of_ble_eq_true rfl⟩ rfl rfl rfl (by decide) rfl (Nat.le_of_ble_eq_true rfl) dX12_solve_14 (fun v τ hq => ?_)
    obtain ⟨r4, rfl, h⟩ := hq
    obtain ⟨s5, es5⟩ : ∃ z, z = τ := ⟨_, rfl⟩
    rw [← es5] at h ⊢
    clear es5
    refine ga_if_ne (tgt := 24) hC dX12_solve_17 (by decide) (fun hc => ?_) (fun hc => ?_)
    · have h := h.1 hc
      refine ga_iconst (v := 0) hC dX12_solve_24 (by decide) ?_
      refine ga_locals [0, 1] rfl ?_
      exact h p l e s m args below meth c D cy ad hC
    · have h := h.2 hc
      refine ga_iconst (v := 2) hC dX12_solve_20 (by decide) ?_
      refine ga_goto (tgt := 25) hC dX12_solve_21 (by decide) ?_
      refine ga_locals [0, 1] rfl ?_
      exact h p l e s m args below meth c D cy ad hC
  · have h := h.2 hc
    refine ga_iconst (v := 1) hC dX12_solve_9 (by decide) ?_
    refine ga_goto (tgt := 25) hC dX12_solve_10 (by decide) ?_
    refine ga_locals [0, 1] rfl ?_
    exact h p l e s m args below meth c D cy ad hC
def M_X12_tell (v1 : Int32) (v2 : Int32) (σ : cg_S) (Q : Int32 → cg_S → Prop) : Prop := cg_M cg_WM yX12_tell cX12_tell 4 (some .int) (cg_R 3) (fun ad => [.ref (ad 0), .int v1, .int v2]) σ (cg_qi Q)
theorem M_X12_tell.mono {v1 : Int32} {v2 : Int32} {σ : cg_S} {Q Q2 : Int32 → cg_S → Prop} (h : M_X12_tell v1 v2 σ Q) (hq : ∀ r τ, Q r τ → Q2 r τ) : M_X12_tell v1 v2 σ Q2 := cg_M.mono h (fun ad v τ ⟨r, e, q⟩ => ⟨r, e, hq r τ q⟩)
set_option maxRecDepth 100000 in
set_option maxHeartbeats 4000000 in
theorem v_X12_tell {v1 : Int32} {v2 : Int32} {σ : cg_S} {Q : Int32 → cg_S → Prop}
    (h : M_X12_isChoice v1 v2 σ (fun r1 s2 => (¬ r1 = 0 → ∀ s4 : cg_S, s4 = cg_i s2 0 0 0 → vp_in v1 7 ∧ ∀ x6 : Int32, x6 = s4.1 4 v1.toNatClampNeg → vp_in v1 7 ∧ ∀ s8 : cg_S, s8 = cg_i s4 4 v1.toNatClampNeg v2 → Q x6 s8) ∧ (r1 = 0 → M_X12_fails 1 s2 (fun r9 s10 => Q r9 s10)))) : M_X12_tell v1 v2 σ Q := by
  refine cg_entry (lv := fun ad => [(0, .ref (ad 0)), (1, .int v1), (2, .int v2)]) (by decide +kernel) (fun _ => rfl) (fun _ => Nat.le_of_ble_eq_true rfl) ?_
  intro p l e s m args below meth c D cy ad hC
  refine ga_aload_n hC dX12_tell_0 0 rfl rfl ?_
  refine ga_iload_n hC dX12_tell_1 1 rfl rfl ?_
  refine ga_iload_n hC dX12_tell_2 2 rfl rfl ?_
  refine ga_callV (As := [.int v1, .int v2]) (st := []) (k := 0) (n := 2) hC h q_7_9 q_7_11 q_0_15 q_1_13 q_7_12 rfl rfl rfl (by decide +kernel) ⟨Nat.le_of_ble_eq_true rfl, Nat.le_of_ble_eq_true rfl⟩ ⟨Nat.le_of_ble_eq_true rfl, Nat.le_of_ble_eq_true rfl⟩ rfl rfl rfl (by decide) rfl (Nat.le_of_ble_eq_true rfl) dX12_tell_3 (fun v τ hq => ?_)
  obtain ⟨r1, rfl, h⟩ := hq
  obtain ⟨s2, es2⟩ : ∃ z, z = τ := ⟨_, rfl⟩
  rw [← es2] at h ⊢
  clear es2
  refine ga_if_ne (tgt := 15) hC dX12_tell_6 (by decide) (fun hc => ?_) (fun hc => ?_)
  · have h := h.1 hc
    refine ga_aload_n hC dX12_tell_15 0 rfl rfl ?_
    refine ga_iconst (v := 0) hC dX12_tell_16 (by decide) ?_
    refine pM_0_0 hC q_6_85 dX12_tell_17 ?_
    refine ga_sig (σ := cg_i s2 0 0 0) (fun s4 es4 => ?_)
    have h := h s4 es4
    refine ga_aload_n hC dX12_tell_20 0 rfl rfl ?_
    refine gM_0_9 hC q_6_94 dX12_tell_21 ?_
    refine ga_iload_n hC dX12_tell_24 1 rfl rfl ?_
    obtain ⟨h5, h⟩ := h
    refine ga_iald hC aM_4 (by decide) h5 dX12_tell_25 ?_
    refine ga_topi (fun x6 ex6 => ?_)
    have h := h x6 ex6
    refine ga_istore_n (lv' := [(3, .int x6), (0, .ref (ad 0)), (1, .int v1), (2, .int v2)]) hC dX12_tell_26 rfl (by decide) rfl ?_
    refine ga_aload_n hC dX12_tell_27 1 rfl rfl ?_
    refine gM_0_9 hC q_6_94 dX12_tell_28 ?_
    refine ga_iload_n hC dX12_tell_31 2 rfl rfl ?_
    refine ga_iload_n hC dX12_tell_32 3 rfl rfl ?_
    obtain ⟨h7, h⟩ := h
    refine ga_iast hC aM_4 (by decide) h7 dX12_tell_33 ?_
    refine ga_sig (σ := cg_i s4 4 v1.toNatClampNeg v2) (fun s8 es8 => ?_)
    have h := h s8 es8
    refine ga_iload_n hC dX12_tell_34 0 rfl rfl ?_
    exact ga_iret hC dX12_tell_35 ⟨_, rfl, h⟩
  · have h := h.2 hc
    refine ga_aload_n hC dX12_tell_9 0 rfl rfl ?_
    refine ga_iconst (v := 1) hC dX12_tell_10 (by decide) ?_
    refine ga_callV (As := [.int 1]) (st := []) (k := 0) (n := 1) hC h q_6_229 q_6_231 q_0_12 q_1_13 q_6_232 rfl rfl rfl (by decide +kernel) ⟨Nat.le_of_ble_eq_true rfl, Nat.le_of_ble_eq_true rfl⟩ ⟨Nat.le_of_ble_eq_true rfl, Nat.le_of_ble_eq_true rfl⟩ rfl rfl rfl (by decide) rfl (Nat.le_of_ble_eq_true rfl) dX12_tell_11 (fun v τ hq => ?_)
    obtain ⟨r9, rfl, h⟩ := hq
    obtain ⟨s10, es10⟩ : ∃ z, z = τ := ⟨_, rfl⟩
    rw [← es10] at h ⊢
    clear es10
    exact ga_iret hC dX12_tell_14 ⟨_, rfl, h⟩
def M_X12_told (v1 : Int32) (σ : cg_S) (Q : Int32 → cg_S → Prop) : Prop := cg_M cg_WM yX12_told cX12_told 2 (some .int) (cg_R 2) (fun ad => [.ref (ad 0), .int v1]) σ (cg_qi Q)
theorem M_X12_told.mono {v1 : Int32} {σ : cg_S} {Q Q2 : Int32 → cg_S → Prop} (h : M_X12_told v1 σ Q) (hq : ∀ r τ, Q r τ → Q2 r τ) : M_X12_told v1 σ Q2 := cg_M.mono h (fun ad v τ ⟨r, e, q⟩ => ⟨r, e, hq r τ q⟩)
set_option maxRecDepth 100000 in
set_option maxHeartbeats 4000000 in
theorem v_X12_told {v1 : Int32} {σ : cg_S} {Q : Int32 → cg_S → Prop}
    (h : M_X12_isState v1 σ (fun r1 s2 => (¬ r1 = 0 → ∀ s4 : cg_S, s4 = cg_i s2 0 0 0 → vp_in v1 7 ∧ Q (s4.1 4 v1.toNatClampNeg) s4) ∧ (r1 = 0 → M_X12_fails 1 s2 (fun r6 s7 => Q r6 s7)))) : M_X12_told v1 σ Q := by
  refine cg_entry (lv := fun ad => [(0, .ref (ad 0)), (1, .int v1)]) (by decide +kernel) (fun _ => rfl) (fun _ => Nat.le_of_ble_eq_true rfl) ?_
  intro p l e s m args below meth c D cy ad hC
  refine ga_aload_n hC dX12_told_0 0 rfl rfl ?_
  refine ga_iload_n hC dX12_told_1 1 rfl rfl ?_
  refine ga_callV (As := [.int v1]) (st := []) (k := 0) (n := 1) hC h q_7_1 q_7_3 q_0_14 q_1_13 q_7_4 rfl rfl rfl (by decide +kernel) ⟨Nat.le_of_ble_eq_true rfl, Nat.le_of_ble_eq_true rfl⟩ ⟨Nat.le_of_ble_eq_true rfl, Nat.le_of_ble_eq_true rfl⟩ rfl rfl rfl (by decide) rfl (Nat.le_of_ble_eq_true rfl) dX12_told_2 (fun v τ hq => ?_)
  obtain ⟨r1, rfl, h⟩ := hq
  obtain ⟨s2, es2⟩ : ∃ z, z = τ := ⟨_, rfl⟩
  rw [← es2] at h ⊢
  clear es2
  refine ga_if_ne (tgt := 14) hC dX12_told_5 (by decide) (fun hc => ?_) (fun hc => ?_)
  · have h := h.1 hc
    refine ga_aload_n hC dX12_told_14 0 rfl rfl ?_
    refine ga_iconst (v := 0) hC dX12_told_15 (by decide) ?_
    refine pM_0_0 hC q_6_85 dX12_told_16 ?_
    refine ga_sig (σ := cg_i s2 0 0 0) (fun s4 es4 => ?_)
    have h := h s4 es4
    refine ga_aload_n hC dX12_told_19 0 rfl rfl ?_
    refine gM_0_9 hC q_6_94 dX12_told_20 ?_
    refine ga_iload_n hC dX12_told_23 1 rfl rfl ?_
    obtain ⟨h5, h⟩ := h
    refine ga_iald hC aM_4 (by decide) h5 dX12_told_24 ?_
    exact ga_iret hC dX12_told_25 ⟨_, rfl, h⟩
  · have h := h.2 hc
    refine ga_aload_n hC dX12_told_8 0 rfl rfl ?_
    refine ga_iconst (v := 1) hC dX12_told_9 (by decide) ?_
    refine ga_callV (As := [.int 1]) (st := []) (k := 0) (n := 1) hC h q_6_229 q_6_231 q_0_12 q_1_13 q_6_232 rfl rfl rfl (by decide +kernel) ⟨Nat.le_of_ble_eq_true rfl, Nat.le_of_ble_eq_true rfl⟩ ⟨Nat.le_of_ble_eq_true rfl, Nat.le_of_ble_eq_true rfl⟩ rfl rfl rfl (by decide) rfl (Nat.le_of_ble_eq_true rfl) dX12_told_10 (fun v τ hq => ?_)
    obtain ⟨r6, rfl, h⟩ := hq
    obtain ⟨s7, es7⟩ : ∃ z, z = τ := ⟨_, rfl⟩
    rw [← es7] at h ⊢
    clear es7
    exact ga_iret hC dX12_told_13 ⟨_, rfl, h⟩
def M_X12_picksTold (σ : cg_S) (Q : cg_S → Prop) : Prop := cg_M cg_WM yX12_picksTold cX12_picksTold 2 none (cg_R 0) (fun ad => [.ref (ad 0)]) σ (cg_qv Q)
theorem M_X12_picksTold.mono {σ : cg_S} {Q Q2 : cg_S → Prop} (h : M_X12_picksTold σ Q) (hq : ∀ τ, Q τ → Q2 τ) : M_X12_picksTold σ Q2 := cg_M.mono h (fun ad v τ ⟨e, q⟩ => ⟨e, hq τ q⟩)
def L_X12_picksTold_2 (v1 : Int32) (σ : cg_S) (Q : cg_S → Prop) : Prop := cg_L cg_WM RX12 cX12_picksTold 2 none (cg_R 0) 2 (fun ad => [(0, .ref (ad 0)), (1, .int v1)]) (fun ad => []) σ (cg_qv Q)
set_option maxRecDepth 100000 in
set_option maxHeartbeats 4000000 in
theorem v_X12_picksTold_2 {v1 : Int32} {σ : cg_S} {Q : cg_S → Prop}
    (h : ((σ.1 0 1) ≤ v1 → Q σ) ∧ (¬ (σ.1 0 1) ≤ v1 → vp_in v1 7 ∧ vp_in v1 7 ∧ ∀ s3 : cg_S, s3 = cg_i σ 5 v1.toNatClampNeg (σ.1 4 v1.toNatClampNeg) → L_X12_picksTold_2 (v1 + 1) s3 Q)) : L_X12_picksTold_2 v1 σ Q := by
  intro p l e s m args below meth c D cy ad hC
  refine ga_iload_n hC dX12_picksTold_2 1 rfl rfl ?_
  refine ga_aload_n hC dX12_picksTold_3 0 rfl rfl ?_
  refine gM_0_1 hC q_6_86 dX12_picksTold_4 ?_
  refine ga_icmp_ge (tgt := 28) hC dX12_picksTold_7 (by decide) (fun hc => ?_) (fun hc => ?_)
  · have h := h.1 hc
    exact ga_vret hC dX12_picksTold_28 ⟨rfl, h⟩
  · have h := h.2 hc
    refine ga_aload_n hC dX12_picksTold_10 0 rfl rfl ?_
    refine gM_0_10 hC q_6_95 dX12_picksTold_11 ?_
    refine ga_iload_n hC dX12_picksTold_14 1 rfl rfl ?_
    refine ga_aload_n hC dX12_picksTold_15 0 rfl rfl ?_
    refine gM_0_9 hC q_6_94 dX12_picksTold_16 ?_
    refine ga_iload_n hC dX12_picksTold_19 1 rfl rfl ?_
    obtain ⟨h1, h⟩ := h
    refine ga_iald hC aM_4 (by decide) h1 dX12_picksTold_20 ?_
    obtain ⟨h2, h⟩ := h
    refine ga_iast hC aM_5 (by decide) h2 dX12_picksTold_21 ?_
    refine ga_sig (σ := cg_i σ 5 v1.toNatClampNeg (σ.1 4 v1.toNatClampNeg)) (fun s3 es3 => ?_)
    have h := h s3 es3
    refine ga_iinc (v := v1 + 1) (lv' := [(1, .int (v1 + 1)), (0, .ref (ad 0))]) hC dX12_picksTold_22 1 rfl rfl (by decide) rfl ?_
    refine ga_goto (tgt := 2) hC dX12_picksTold_25 (by decide) ?_
    refine ga_locals [1, 0] rfl ?_
    exact h p l e s m args below meth c D cy ad hC
set_option maxRecDepth 100000 in
set_option maxHeartbeats 4000000 in
theorem v_X12_picksTold {σ : cg_S} {Q : cg_S → Prop}
    (h : L_X12_picksTold_2 0 σ Q) : M_X12_picksTold σ Q := by
  refine cg_entry (lv := fun ad => [(0, .ref (ad 0))]) (by decide +kernel) (fun _ => rfl) (fun _ => Nat.le_of_ble_eq_true rfl) ?_
  intro p l e s m args below meth c D cy ad hC
  refine ga_iconst (v := 0) hC dX12_picksTold_0 (by decide) ?_
  refine ga_istore_n (lv' := [(1, .int 0), (0, .ref (ad 0))]) hC dX12_picksTold_1 rfl (by decide) rfl ?_
  refine ga_locals [1, 0] rfl ?_
  exact h p l e s m args below meth c D cy ad hC
def M_X12_isChain (v1 : Int32) (v2 : Int32) (σ : cg_S) (Q : Int32 → cg_S → Prop) : Prop := cg_M cg_WM yX12_isChain cX12_isChain 3 (some .boolean) (cg_R 6) (fun ad => [.ref (ad 0), .int v1, .int v2]) σ (cg_qi Q)
theorem M_X12_isChain.mono {v1 : Int32} {v2 : Int32} {σ : cg_S} {Q Q2 : Int32 → cg_S → Prop} (h : M_X12_isChain v1 v2 σ Q) (hq : ∀ r τ, Q r τ → Q2 r τ) : M_X12_isChain v1 v2 σ Q2 := cg_M.mono h (fun ad v τ ⟨r, e, q⟩ => ⟨r, e, hq r τ q⟩)
def L_X12_isChain_25 (v1 : Int32) (v2 : Int32) (σ : cg_S) (Q : Int32 → cg_S → Prop) : Prop := cg_L cg_WM RX12 cX12_isChain 3 (some .boolean) (cg_R 6) 25 (fun ad => [(0, .ref (ad 0)), (1, .int v1), (2, .int v2)]) (fun ad => [.ref (ad 0)]) σ (cg_qi Q)
def L_X12_isChain_49 (v1 : Int32) (t1 : Int32) (σ : cg_S) (Q : Int32 → cg_S → Prop) : Prop := cg_L cg_WM RX12 cX12_isChain 3 (some .boolean) (cg_R 6) 49 (fun ad => [(0, .ref (ad 0)), (1, .int v1)]) (fun ad => [.int t1, .ref (ad 0)]) σ (cg_qi Q)
set_option maxRecDepth 100000 in
set_option maxHeartbeats 4000000 in
theorem v_X12_isChain_49 {v1 : Int32} {t1 : Int32} {σ : cg_S} {Q : Int32 → cg_S → Prop}
    (h : ∀ s1 : cg_S, s1 = cg_i σ 0 0 t1 → ((s1.1 0 0) ≤ 0 → M_X12_picksTold s1 (fun s3 => M_X12_gets v1 s3 (fun s6 => Q 1 s6))) ∧ (¬ (s1.1 0 0) ≤ 0 → Q 0 s1)) : L_X12_isChain_49 v1 t1 σ Q := by
  intro p l e s m args below meth c D cy ad hC
  refine pM_0_0 hC q_6_85 dX12_isChain_49 ?_
  refine ga_sig (σ := cg_i σ 0 0 t1) (fun s1 es1 => ?_)
  have h := h s1 es1
  refine ga_aload_n hC dX12_isChain_52 0 rfl rfl ?_
  refine gM_0_0 hC q_6_85 dX12_isChain_53 ?_
  refine ga_if_le (tgt := 61) hC dX12_isChain_56 (by decide) (fun hc => ?_) (fun hc => ?_)
  · have h := h.1 hc
    refine ga_aload_n hC dX12_isChain_61 0 rfl rfl ?_
    refine ga_callV (As := []) (st := []) (k := 0) (n := 0) hC h q_8_5 q_8_7 q_0_49 q_1_13 q_8_8 rfl rfl rfl (by decide +kernel) ⟨Nat.le_of_ble_eq_true rfl, Nat.le_of_ble_eq_true rfl⟩ ⟨Nat.le_of_ble_eq_true rfl, Nat.le_of_ble_eq_true rfl⟩ rfl rfl rfl (by decide) rfl (Nat.le_of_ble_eq_true rfl) dX12_isChain_62 (fun v τ hq => ?_)
    obtain ⟨rfl, h⟩ := hq
    obtain ⟨s3, es3⟩ : ∃ z, z = τ := ⟨_, rfl⟩
    rw [← es3] at h ⊢
    clear es3
    refine ga_aload_n hC dX12_isChain_65 0 rfl rfl ?_
    refine ga_iload_n hC dX12_isChain_66 1 rfl rfl ?_
    refine ga_callV (As := [.int v1]) (st := []) (k := 0) (n := 1) hC h q_7_77 q_7_79 q_0_22 q_1_13 q_7_80 rfl rfl rfl (by decide +kernel) ⟨Nat.le_of_ble_eq_true rfl, Nat.le_of_ble_eq_true rfl⟩ ⟨Nat.le_of_ble_eq_true rfl, Nat.le_of_ble_eq_true rfl⟩ rfl rfl rfl (by decide) rfl (Nat.le_of_ble_eq_true rfl) dX12_isChain_67 (fun v τ hq => ?_)
    obtain ⟨rfl, h⟩ := hq
    obtain ⟨s6, es6⟩ : ∃ z, z = τ := ⟨_, rfl⟩
    rw [← es6] at h ⊢
    clear es6
    refine ga_iconst (v := 1) hC dX12_isChain_70 (by decide) ?_
    exact ga_zret hC dX12_isChain_71 (by decide) ⟨_, rfl, h⟩
  · have h := h.2 hc
    refine ga_iconst (v := 0) hC dX12_isChain_59 (by decide) ?_
    exact ga_zret hC dX12_isChain_60 (by decide) ⟨_, rfl, h⟩
set_option maxRecDepth 100000 in
set_option maxHeartbeats 4000000 in
theorem v_X12_isChain_25 {v1 : Int32} {v2 : Int32} {σ : cg_S} {Q : Int32 → cg_S → Prop}
    (h : M_X12_isState v2 σ (fun r1 s2 => (¬ r1 = 0 → M_X12_isAll s2 (fun r4 s5 => (¬ r4 = 0 → L_X12_isChain_49 v1 0 s5 Q) ∧ (r4 = 0 → L_X12_isChain_49 v1 3 s5 Q))) ∧ (r1 = 0 → L_X12_isChain_49 v1 2 s2 Q))) : L_X12_isChain_25 v1 v2 σ Q := by
  intro p l e s m args below meth c D cy ad hC
  refine ga_aload_n hC dX12_isChain_25 0 rfl rfl ?_
  refine ga_iload_n hC dX12_isChain_26 2 rfl rfl ?_
  refine ga_callV (As := [.int v2]) (st := [.ref (ad 0)]) (k := 0) (n := 1) hC h q_7_1 q_7_3 q_0_14 q_1_13 q_7_4 rfl rfl rfl (by decide +kernel) ⟨Nat.le_of_ble_eq_true rfl, Nat.le_of_ble_eq_true rfl⟩ ⟨Nat.le_of_ble_eq_true rfl, Nat.le_of_ble_eq_true rfl⟩ rfl rfl rfl (by decide) rfl (Nat.le_of_ble_eq_true rfl) dX12_isChain_27 (fun v τ hq => ?_)
  obtain ⟨r1, rfl, h⟩ := hq
  obtain ⟨s2, es2⟩ : ∃ z, z = τ := ⟨_, rfl⟩
  rw [← es2] at h ⊢
  clear es2
  refine ga_if_ne (tgt := 37) hC dX12_isChain_30 (by decide) (fun hc => ?_) (fun hc => ?_)
  · have h := h.1 hc
    refine ga_aload_n hC dX12_isChain_37 0 rfl rfl ?_
    refine ga_callV (As := []) (st := [.ref (ad 0)]) (k := 0) (n := 0) hC h q_7_50 q_7_52 q_0_17 q_1_13 q_7_53 rfl rfl rfl (by decide +kernel) ⟨Nat.le_of_ble_eq_true rfl, Nat.le_of_ble_eq_true rfl⟩ ⟨Nat.le_of_ble_eq_true rfl, Nat.le_of_ble_eq_true rfl⟩ rfl rfl rfl (by decide) rfl (Nat.le_of_ble_eq_true rfl) dX12_isChain_38 (fun v τ hq => ?_)
    obtain ⟨r4, rfl, h⟩ := hq
    obtain ⟨s5, es5⟩ : ∃ z, z = τ := ⟨_, rfl⟩
    rw [← es5] at h ⊢
    clear es5
    refine ga_if_ne (tgt := 48) hC dX12_isChain_41 (by decide) (fun hc => ?_) (fun hc => ?_)
    · have h := h.1 hc
      refine ga_iconst (v := 0) hC dX12_isChain_48 (by decide) ?_
      refine ga_locals [0, 1] rfl ?_
      exact h p l e s m args below meth c D cy ad hC
    · have h := h.2 hc
      refine ga_iconst (v := 3) hC dX12_isChain_44 (by decide) ?_
      refine ga_goto (tgt := 49) hC dX12_isChain_45 (by decide) ?_
      refine ga_locals [0, 1] rfl ?_
      exact h p l e s m args below meth c D cy ad hC
  · have h := h.2 hc
    refine ga_iconst (v := 2) hC dX12_isChain_33 (by decide) ?_
    refine ga_goto (tgt := 49) hC dX12_isChain_34 (by decide) ?_
    refine ga_locals [0, 1] rfl ?_
    exact h p l e s m args below meth c D cy ad hC
set_option maxRecDepth 100000 in
set_option maxHeartbeats 4000000 in
theorem v_X12_isChain {v1 : Int32} {v2 : Int32} {σ : cg_S} {Q : Int32 → cg_S → Prop}
    (h : M_X12_numberOf v1 σ (fun r1 s2 => (¬ r1 = (-1) → L_X12_isChain_25 v1 v2 s2 Q) ∧ (r1 = (-1) → (v1 = 109 → L_X12_isChain_25 v1 v2 s2 Q) ∧ (¬ v1 = 109 → (v1 = 112 → L_X12_isChain_25 v1 v2 s2 Q) ∧ (¬ v1 = 112 → L_X12_isChain_49 v1 1 s2 Q))))) : M_X12_isChain v1 v2 σ Q := by
  refine cg_entry (lv := fun ad => [(0, .ref (ad 0)), (1, .int v1), (2, .int v2)]) (by decide +kernel) (fun _ => rfl) (fun _ => Nat.le_of_ble_eq_true rfl) ?_
  intro p l e s m args below meth c D cy ad hC
  refine ga_aload_n hC dX12_isChain_0 0 rfl rfl ?_
  refine ga_iload_n hC dX12_isChain_1 1 rfl rfl ?_
  refine ga_callS (As := [.int v1]) (st := [.ref (ad 0)]) (n := 1) hC h q_7_62 q_7_63 q_1_13 q_7_64 rfl rfl rfl (by decide +kernel) ⟨Nat.le_of_ble_eq_true rfl, Nat.le_of_ble_eq_true rfl⟩ ⟨Nat.le_of_ble_eq_true rfl, Nat.le_of_ble_eq_true rfl⟩ rfl rfl (Nat.le_of_ble_eq_true rfl) dX12_isChain_2 (fun v τ hq => ?_)
  obtain ⟨r1, rfl, h⟩ := hq
  obtain ⟨s2, es2⟩ : ∃ z, z = τ := ⟨_, rfl⟩
  rw [← es2] at h ⊢
  clear es2
  refine ga_iconst (v := (-1)) hC dX12_isChain_5 (by decide) ?_
  refine ga_icmp_ne (tgt := 25) hC dX12_isChain_6 (by decide) (fun hc => ?_) (fun hc => ?_)
  · have h := h.1 hc
    refine ga_locals [0, 1, 2] rfl ?_
    exact h p l e s m args below meth c D cy ad hC
  · have h := h.2 hc
    refine ga_iload_n hC dX12_isChain_9 1 rfl rfl ?_
    refine ga_bipush (v := 109) hC dX12_isChain_10 (by decide) ?_
    refine ga_icmp_eq (tgt := 25) hC dX12_isChain_12 (by decide) (fun hc => ?_) (fun hc => ?_)
    · have h := h.1 hc
      refine ga_locals [0, 1, 2] rfl ?_
      exact h p l e s m args below meth c D cy ad hC
    · have h := h.2 hc
      refine ga_iload_n hC dX12_isChain_15 1 rfl rfl ?_
      refine ga_bipush (v := 112) hC dX12_isChain_16 (by decide) ?_
      refine ga_icmp_eq (tgt := 25) hC dX12_isChain_18 (by decide) (fun hc => ?_) (fun hc => ?_)
      · have h := h.1 hc
        refine ga_locals [0, 1, 2] rfl ?_
        exact h p l e s m args below meth c D cy ad hC
      · have h := h.2 hc
        refine ga_iconst (v := 1) hC dX12_isChain_21 (by decide) ?_
        refine ga_goto (tgt := 49) hC dX12_isChain_22 (by decide) ?_
        refine ga_locals [0, 1] rfl ?_
        exact h p l e s m args below meth c D cy ad hC
def M_X12_chainAbove (v1 : Int32) (v2 : Int32) (σ : cg_S) (Q : Int64 → cg_S → Prop) : Prop := cg_M cg_WM yX12_chainAbove cX12_chainAbove 3 (some .long) (cg_R 7) (fun ad => [.ref (ad 0), .int v1, .int v2]) σ (cg_ql Q)
theorem M_X12_chainAbove.mono {v1 : Int32} {v2 : Int32} {σ : cg_S} {Q Q2 : Int64 → cg_S → Prop} (h : M_X12_chainAbove v1 v2 σ Q) (hq : ∀ r τ, Q r τ → Q2 r τ) : M_X12_chainAbove v1 v2 σ Q2 := cg_M.mono h (fun ad v τ ⟨r, e, q⟩ => ⟨r, e, hq r τ q⟩)
set_option maxRecDepth 100000 in
set_option maxHeartbeats 4000000 in
theorem v_X12_chainAbove {v1 : Int32} {v2 : Int32} {σ : cg_S} {Q : Int64 → cg_S → Prop}
    (h : M_X12_isChain v1 v2 σ (fun r1 s2 => (r1 = 0 → Q 0 s2) ∧ (¬ r1 = 0 → vp_in v2 7 ∧ Q (s2.2.1 22 v2.toNatClampNeg) s2))) : M_X12_chainAbove v1 v2 σ Q := by
  refine cg_entry (lv := fun ad => [(0, .ref (ad 0)), (1, .int v1), (2, .int v2)]) (by decide +kernel) (fun _ => rfl) (fun _ => Nat.le_of_ble_eq_true rfl) ?_
  intro p l e s m args below meth c D cy ad hC
  refine ga_aload_n hC dX12_chainAbove_0 0 rfl rfl ?_
  refine ga_iload_n hC dX12_chainAbove_1 1 rfl rfl ?_
  refine ga_iload_n hC dX12_chainAbove_2 2 rfl rfl ?_
  refine ga_callV (As := [.int v1, .int v2]) (st := []) (k := 0) (n := 2) hC h q_8_1 q_8_3 q_0_48 q_1_13 q_8_4 rfl rfl rfl (by decide +kernel) ⟨Nat.le_of_ble_eq_true rfl, Nat.le_of_ble_eq_true rfl⟩ ⟨Nat.le_of_ble_eq_true rfl, Nat.le_of_ble_eq_true rfl⟩ rfl rfl rfl (by decide) rfl (Nat.le_of_ble_eq_true rfl) dX12_chainAbove_3 (fun v τ hq => ?_)
  obtain ⟨r1, rfl, h⟩ := hq
  obtain ⟨s2, es2⟩ : ∃ z, z = τ := ⟨_, rfl⟩
  rw [← es2] at h ⊢
  clear es2
  refine ga_if_eq (tgt := 18) hC dX12_chainAbove_6 (by decide) (fun hc => ?_) (fun hc => ?_)
  · have h := h.1 hc
    refine ga_lconst (v := 0) hC dX12_chainAbove_18 (by decide) ?_
    exact ga_lret hC dX12_chainAbove_19 ⟨_, rfl, h⟩
  · have h := h.2 hc
    refine ga_aload_n hC dX12_chainAbove_9 0 rfl rfl ?_
    refine gM_0_22 hC q_6_107 dX12_chainAbove_10 ?_
    refine ga_iload_n hC dX12_chainAbove_13 2 rfl rfl ?_
    obtain ⟨h4, h⟩ := h
    refine ga_lald hC aM_22 (by decide) h4 dX12_chainAbove_14 ?_
    refine ga_goto (tgt := 19) hC dX12_chainAbove_15 (by decide) ?_
    exact ga_lret hC dX12_chainAbove_19 ⟨_, rfl, h⟩
def M_X12_chainBelow (v1 : Int32) (v2 : Int32) (σ : cg_S) (Q : Int64 → cg_S → Prop) : Prop := cg_M cg_WM yX12_chainBelow cX12_chainBelow 3 (some .long) (cg_R 7) (fun ad => [.ref (ad 0), .int v1, .int v2]) σ (cg_ql Q)
theorem M_X12_chainBelow.mono {v1 : Int32} {v2 : Int32} {σ : cg_S} {Q Q2 : Int64 → cg_S → Prop} (h : M_X12_chainBelow v1 v2 σ Q) (hq : ∀ r τ, Q r τ → Q2 r τ) : M_X12_chainBelow v1 v2 σ Q2 := cg_M.mono h (fun ad v τ ⟨r, e, q⟩ => ⟨r, e, hq r τ q⟩)
set_option maxRecDepth 100000 in
set_option maxHeartbeats 4000000 in
theorem v_X12_chainBelow {v1 : Int32} {v2 : Int32} {σ : cg_S} {Q : Int64 → cg_S → Prop}
    (h : M_X12_isChain v1 v2 σ (fun r1 s2 => (r1 = 0 → Q 0 s2) ∧ (¬ r1 = 0 → vp_in v2 7 ∧ Q (s2.2.1 23 v2.toNatClampNeg) s2))) : M_X12_chainBelow v1 v2 σ Q := by
  refine cg_entry (lv := fun ad => [(0, .ref (ad 0)), (1, .int v1), (2, .int v2)]) (by decide +kernel) (fun _ => rfl) (fun _ => Nat.le_of_ble_eq_true rfl) ?_
  intro p l e s m args below meth c D cy ad hC
  refine ga_aload_n hC dX12_chainBelow_0 0 rfl rfl ?_
  refine ga_iload_n hC dX12_chainBelow_1 1 rfl rfl ?_
  refine ga_iload_n hC dX12_chainBelow_2 2 rfl rfl ?_
  refine ga_callV (As := [.int v1, .int v2]) (st := []) (k := 0) (n := 2) hC h q_8_1 q_8_3 q_0_48 q_1_13 q_8_4 rfl rfl rfl (by decide +kernel) ⟨Nat.le_of_ble_eq_true rfl, Nat.le_of_ble_eq_true rfl⟩ ⟨Nat.le_of_ble_eq_true rfl, Nat.le_of_ble_eq_true rfl⟩ rfl rfl rfl (by decide) rfl (Nat.le_of_ble_eq_true rfl) dX12_chainBelow_3 (fun v τ hq => ?_)
  obtain ⟨r1, rfl, h⟩ := hq
  obtain ⟨s2, es2⟩ : ∃ z, z = τ := ⟨_, rfl⟩
  rw [← es2] at h ⊢
  clear es2
  refine ga_if_eq (tgt := 18) hC dX12_chainBelow_6 (by decide) (fun hc => ?_) (fun hc => ?_)
  · have h := h.1 hc
    refine ga_lconst (v := 0) hC dX12_chainBelow_18 (by decide) ?_
    exact ga_lret hC dX12_chainBelow_19 ⟨_, rfl, h⟩
  · have h := h.2 hc
    refine ga_aload_n hC dX12_chainBelow_9 0 rfl rfl ?_
    refine gM_0_23 hC q_6_108 dX12_chainBelow_10 ?_
    refine ga_iload_n hC dX12_chainBelow_13 2 rfl rfl ?_
    obtain ⟨h4, h⟩ := h
    refine ga_lald hC aM_23 (by decide) h4 dX12_chainBelow_14 ?_
    refine ga_goto (tgt := 19) hC dX12_chainBelow_15 (by decide) ?_
    exact ga_lret hC dX12_chainBelow_19 ⟨_, rfl, h⟩
def M_X12_isResponse (v1 : Int32) (v2 : Int32) (v3 : Int32) (σ : cg_S) (Q : Int32 → cg_S → Prop) : Prop := cg_M cg_WM yX12_isResponse cX12_isResponse 4 (some .boolean) (cg_R 7) (fun ad => [.ref (ad 0), .int v1, .int v2, .int v3]) σ (cg_qi Q)
theorem M_X12_isResponse.mono {v1 : Int32} {v2 : Int32} {v3 : Int32} {σ : cg_S} {Q Q2 : Int32 → cg_S → Prop} (h : M_X12_isResponse v1 v2 v3 σ Q) (hq : ∀ r τ, Q r τ → Q2 r τ) : M_X12_isResponse v1 v2 v3 σ Q2 := cg_M.mono h (fun ad v τ ⟨r, e, q⟩ => ⟨r, e, hq r τ q⟩)
def L_X12_isResponse_13 (v1 : Int32) (v2 : Int32) (v3 : Int32) (σ : cg_S) (Q : Int32 → cg_S → Prop) : Prop := cg_L cg_WM RX12 cX12_isResponse 4 (some .boolean) (cg_R 7) 13 (fun ad => [(0, .ref (ad 0)), (1, .int v1), (2, .int v2), (3, .int v3)]) (fun ad => [.ref (ad 0)]) σ (cg_qi Q)
def L_X12_isResponse_49 (v1 : Int32) (v2 : Int32) (t1 : Int32) (σ : cg_S) (Q : Int32 → cg_S → Prop) : Prop := cg_L cg_WM RX12 cX12_isResponse 4 (some .boolean) (cg_R 7) 49 (fun ad => [(0, .ref (ad 0)), (1, .int v1), (2, .int v2)]) (fun ad => [.int t1, .ref (ad 0)]) σ (cg_qi Q)
def L_X12_isResponse_79 (v2 : Int32) (t1 : Int32) (σ : cg_S) (Q : Int32 → cg_S → Prop) : Prop := cg_L cg_WM RX12 cX12_isResponse 4 (some .boolean) (cg_R 7) 79 (fun ad => [(2, .int v2)]) (fun ad => [.int t1, .ref (ad 0)]) σ (cg_qi Q)
set_option maxRecDepth 100000 in
set_option maxHeartbeats 4000000 in
theorem v_X12_isResponse_79 {v2 : Int32} {t1 : Int32} {σ : cg_S} {Q : Int32 → cg_S → Prop}
    (h : M_X12_answers t1 v2 σ (fun s2 => Q 1 s2)) : L_X12_isResponse_79 v2 t1 σ Q := by
  intro p l e s m args below meth c D cy ad hC
  refine ga_iload_n hC dX12_isResponse_79 0 rfl rfl ?_
  refine ga_callV (As := [.int t1, .int v2]) (st := []) (k := 0) (n := 2) hC h q_7_73 q_7_75 q_0_21 q_1_13 q_7_76 rfl rfl rfl (by decide +kernel) ⟨Nat.le_of_ble_eq_true rfl, Nat.le_of_ble_eq_true rfl⟩ ⟨Nat.le_of_ble_eq_true rfl, Nat.le_of_ble_eq_true rfl⟩ rfl rfl rfl (by decide) rfl (Nat.le_of_ble_eq_true rfl) dX12_isResponse_80 (fun v τ hq => ?_)
  obtain ⟨rfl, h⟩ := hq
  obtain ⟨s2, es2⟩ : ∃ z, z = τ := ⟨_, rfl⟩
  rw [← es2] at h ⊢
  clear es2
  refine ga_iconst (v := 1) hC dX12_isResponse_83 (by decide) ?_
  exact ga_zret hC dX12_isResponse_84 (by decide) ⟨_, rfl, h⟩
set_option maxRecDepth 100000 in
set_option maxHeartbeats 4000000 in
theorem v_X12_isResponse_49 {v1 : Int32} {v2 : Int32} {t1 : Int32} {σ : cg_S} {Q : Int32 → cg_S → Prop}
    (h : ∀ s1 : cg_S, s1 = cg_i σ 0 0 t1 → ((s1.1 0 0) ≤ 0 → M_X12_picksTold s1 (fun s3 => (¬ v1 = 97 → L_X12_isResponse_79 v2 97 s3 Q) ∧ (v1 = 97 → L_X12_isResponse_79 v2 98 s3 Q))) ∧ (¬ (s1.1 0 0) ≤ 0 → Q 0 s1)) : L_X12_isResponse_49 v1 v2 t1 σ Q := by
  intro p l e s m args below meth c D cy ad hC
  refine pM_0_0 hC q_6_85 dX12_isResponse_49 ?_
  refine ga_sig (σ := cg_i σ 0 0 t1) (fun s1 es1 => ?_)
  have h := h s1 es1
  refine ga_aload_n hC dX12_isResponse_52 0 rfl rfl ?_
  refine gM_0_0 hC q_6_85 dX12_isResponse_53 ?_
  refine ga_if_le (tgt := 61) hC dX12_isResponse_56 (by decide) (fun hc => ?_) (fun hc => ?_)
  · have h := h.1 hc
    refine ga_aload_n hC dX12_isResponse_61 0 rfl rfl ?_
    refine ga_callV (As := []) (st := []) (k := 0) (n := 0) hC h q_8_5 q_8_7 q_0_49 q_1_13 q_8_8 rfl rfl rfl (by decide +kernel) ⟨Nat.le_of_ble_eq_true rfl, Nat.le_of_ble_eq_true rfl⟩ ⟨Nat.le_of_ble_eq_true rfl, Nat.le_of_ble_eq_true rfl⟩ rfl rfl rfl (by decide) rfl (Nat.le_of_ble_eq_true rfl) dX12_isResponse_62 (fun v τ hq => ?_)
    obtain ⟨rfl, h⟩ := hq
    obtain ⟨s3, es3⟩ : ∃ z, z = τ := ⟨_, rfl⟩
    rw [← es3] at h ⊢
    clear es3
    refine ga_aload_n hC dX12_isResponse_65 0 rfl rfl ?_
    refine ga_iload_n hC dX12_isResponse_66 1 rfl rfl ?_
    refine ga_bipush (v := 97) hC dX12_isResponse_67 (by decide) ?_
    refine ga_icmp_ne (tgt := 77) hC dX12_isResponse_69 (by decide) (fun hc => ?_) (fun hc => ?_)
    · have h := h.1 hc
      refine ga_bipush (v := 97) hC dX12_isResponse_77 (by decide) ?_
      refine ga_locals [2] rfl ?_
      exact h p l e s m args below meth c D cy ad hC
    · have h := h.2 hc
      refine ga_bipush (v := 98) hC dX12_isResponse_72 (by decide) ?_
      refine ga_goto (tgt := 79) hC dX12_isResponse_74 (by decide) ?_
      refine ga_locals [2] rfl ?_
      exact h p l e s m args below meth c D cy ad hC
  · have h := h.2 hc
    refine ga_iconst (v := 0) hC dX12_isResponse_59 (by decide) ?_
    exact ga_zret hC dX12_isResponse_60 (by decide) ⟨_, rfl, h⟩
set_option maxRecDepth 100000 in
set_option maxHeartbeats 4000000 in
theorem v_X12_isResponse_13 {v1 : Int32} {v2 : Int32} {v3 : Int32} {σ : cg_S} {Q : Int32 → cg_S → Prop}
    (h : M_X12_numberOf v2 σ (fun r1 s2 => (¬ r1 = (-1) → M_X12_isState v3 s2 (fun r4 s5 => (¬ r4 = 0 → M_X12_isAll s5 (fun r7 s8 => (¬ r7 = 0 → L_X12_isResponse_49 v1 v2 0 s8 Q) ∧ (r7 = 0 → L_X12_isResponse_49 v1 v2 3 s8 Q))) ∧ (r4 = 0 → L_X12_isResponse_49 v1 v2 2 s5 Q))) ∧ (r1 = (-1) → L_X12_isResponse_49 v1 v2 1 s2 Q))) : L_X12_isResponse_13 v1 v2 v3 σ Q := by
  intro p l e s m args below meth c D cy ad hC
  refine ga_iload_n hC dX12_isResponse_13 2 rfl rfl ?_
  refine ga_callS (As := [.int v2]) (st := [.ref (ad 0)]) (n := 1) hC h q_7_62 q_7_63 q_1_13 q_7_64 rfl rfl rfl (by decide +kernel) ⟨Nat.le_of_ble_eq_true rfl, Nat.le_of_ble_eq_true rfl⟩ ⟨Nat.le_of_ble_eq_true rfl, Nat.le_of_ble_eq_true rfl⟩ rfl rfl (Nat.le_of_ble_eq_true rfl) dX12_isResponse_14 (fun v τ hq => ?_)
  obtain ⟨r1, rfl, h⟩ := hq
  obtain ⟨s2, es2⟩ : ∃ z, z = τ := ⟨_, rfl⟩
  rw [← es2] at h ⊢
  clear es2
  refine ga_iconst (v := (-1)) hC dX12_isResponse_17 (by decide) ?_
  refine ga_icmp_ne (tgt := 25) hC dX12_isResponse_18 (by decide) (fun hc => ?_) (fun hc => ?_)
  · have h := h.1 hc
    refine ga_aload_n hC dX12_isResponse_25 0 rfl rfl ?_
    refine ga_iload_n hC dX12_isResponse_26 3 rfl rfl ?_
    refine ga_callV (As := [.int v3]) (st := [.ref (ad 0)]) (k := 0) (n := 1) hC h q_7_1 q_7_3 q_0_14 q_1_13 q_7_4 rfl rfl rfl (by decide +kernel) ⟨Nat.le_of_ble_eq_true rfl, Nat.le_of_ble_eq_true rfl⟩ ⟨Nat.le_of_ble_eq_true rfl, Nat.le_of_ble_eq_true rfl⟩ rfl rfl rfl (by decide) rfl (Nat.le_of_ble_eq_true rfl) dX12_isResponse_27 (fun v τ hq => ?_)
    obtain ⟨r4, rfl, h⟩ := hq
    obtain ⟨s5, es5⟩ : ∃ z, z = τ := ⟨_, rfl⟩
    rw [← es5] at h ⊢
    clear es5
    refine ga_if_ne (tgt := 37) hC dX12_isResponse_30 (by decide) (fun hc => ?_) (fun hc => ?_)
    · have h := h.1 hc
      refine ga_aload_n hC dX12_isResponse_37 0 rfl rfl ?_
      refine ga_callV (As := []) (st := [.ref (ad 0)]) (k := 0) (n := 0) hC h q_7_50 q_7_52 q_0_17 q_1_13 q_7_53 rfl rfl rfl (by decide +kernel) ⟨Nat.le_of_ble_eq_true rfl, Nat.le_of_ble_eq_true rfl⟩ ⟨Nat.le_of_ble_eq_true rfl, Nat.le_of_ble_eq_true rfl⟩ rfl rfl rfl (by decide) rfl (Nat.le_of_ble_eq_true rfl) dX12_isResponse_38 (fun v τ hq => ?_)
      obtain ⟨r7, rfl, h⟩ := hq
      obtain ⟨s8, es8⟩ : ∃ z, z = τ := ⟨_, rfl⟩
      rw [← es8] at h ⊢
      clear es8
      refine ga_if_ne (tgt := 48) hC dX12_isResponse_41 (by decide) (fun hc => ?_) (fun hc => ?_)
      · have h := h.1 hc
        refine ga_iconst (v := 0) hC dX12_isResponse_48 (by decide) ?_
        refine ga_locals [0, 1, 2] rfl ?_
        exact h p l e s m args below meth c D cy ad hC
      · have h := h.2 hc
        refine ga_iconst (v := 3) hC dX12_isResponse_44 (by decide) ?_
        refine ga_goto (tgt := 49) hC dX12_isResponse_45 (by decide) ?_
        refine ga_locals [0, 1, 2] rfl ?_
        exact h p l e s m args below meth c D cy ad hC
    · have h := h.2 hc
      refine ga_iconst (v := 2) hC dX12_isResponse_33 (by decide) ?_
      refine ga_goto (tgt := 49) hC dX12_isResponse_34 (by decide) ?_
      refine ga_locals [0, 1, 2] rfl ?_
      exact h p l e s m args below meth c D cy ad hC
  · have h := h.2 hc
    refine ga_iconst (v := 1) hC dX12_isResponse_21 (by decide) ?_
    refine ga_goto (tgt := 49) hC dX12_isResponse_22 (by decide) ?_
    refine ga_locals [0, 1, 2] rfl ?_
    exact h p l e s m args below meth c D cy ad hC
set_option maxRecDepth 100000 in
set_option maxHeartbeats 4000000 in
theorem v_X12_isResponse {v1 : Int32} {v2 : Int32} {v3 : Int32} {σ : cg_S} {Q : Int32 → cg_S → Prop}
    (h : (v1 = 97 → L_X12_isResponse_13 v1 v2 v3 σ Q) ∧ (¬ v1 = 97 → (¬ v1 = 98 → L_X12_isResponse_49 v1 v2 1 σ Q) ∧ (v1 = 98 → L_X12_isResponse_13 v1 v2 v3 σ Q))) : M_X12_isResponse v1 v2 v3 σ Q := by
  refine cg_entry (lv := fun ad => [(0, .ref (ad 0)), (1, .int v1), (2, .int v2), (3, .int v3)]) (by decide +kernel) (fun _ => rfl) (fun _ => Nat.le_of_ble_eq_true rfl) ?_
  intro p l e s m args below meth c D cy ad hC
  refine ga_aload_n hC dX12_isResponse_0 0 rfl rfl ?_
  refine ga_iload_n hC dX12_isResponse_1 1 rfl rfl ?_
  refine ga_bipush (v := 97) hC dX12_isResponse_2 (by decide) ?_
  refine ga_icmp_eq (tgt := 13) hC dX12_isResponse_4 (by decide) (fun hc => ?_) (fun hc => ?_)
  · have h := h.1 hc
    refine ga_locals [0, 1, 2, 3] rfl ?_
    exact h p l e s m args below meth c D cy ad hC
  · have h := h.2 hc
    refine ga_iload_n hC dX12_isResponse_7 1 rfl rfl ?_
    refine ga_bipush (v := 98) hC dX12_isResponse_8 (by decide) ?_
    refine ga_icmp_ne (tgt := 21) hC dX12_isResponse_10 (by decide) (fun hc => ?_) (fun hc => ?_)
    · have h := h.1 hc
      refine ga_iconst (v := 1) hC dX12_isResponse_21 (by decide) ?_
      refine ga_goto (tgt := 49) hC dX12_isResponse_22 (by decide) ?_
      refine ga_locals [0, 1, 2] rfl ?_
      exact h p l e s m args below meth c D cy ad hC
    · have h := h.2 hc
      refine ga_locals [0, 1, 2, 3] rfl ?_
      exact h p l e s m args below meth c D cy ad hC
def M_X12_responseAbove (v1 : Int32) (v2 : Int32) (v3 : Int32) (σ : cg_S) (Q : Int64 → cg_S → Prop) : Prop := cg_M cg_WM yX12_responseAbove cX12_responseAbove 4 (some .long) (cg_R 8) (fun ad => [.ref (ad 0), .int v1, .int v2, .int v3]) σ (cg_ql Q)
theorem M_X12_responseAbove.mono {v1 : Int32} {v2 : Int32} {v3 : Int32} {σ : cg_S} {Q Q2 : Int64 → cg_S → Prop} (h : M_X12_responseAbove v1 v2 v3 σ Q) (hq : ∀ r τ, Q r τ → Q2 r τ) : M_X12_responseAbove v1 v2 v3 σ Q2 := cg_M.mono h (fun ad v τ ⟨r, e, q⟩ => ⟨r, e, hq r τ q⟩)
set_option maxRecDepth 100000 in
set_option maxHeartbeats 4000000 in
theorem v_X12_responseAbove {v1 : Int32} {v2 : Int32} {v3 : Int32} {σ : cg_S} {Q : Int64 → cg_S → Prop}
    (h : M_X12_isResponse v1 v2 v3 σ (fun r1 s2 => (r1 = 0 → Q 0 s2) ∧ (¬ r1 = 0 → vp_in v3 7 ∧ Q (s2.2.1 24 v3.toNatClampNeg) s2))) : M_X12_responseAbove v1 v2 v3 σ Q := by
  refine cg_entry (lv := fun ad => [(0, .ref (ad 0)), (1, .int v1), (2, .int v2), (3, .int v3)]) (by decide +kernel) (fun _ => rfl) (fun _ => Nat.le_of_ble_eq_true rfl) ?_
  intro p l e s m args below meth c D cy ad hC
  refine ga_aload_n hC dX12_responseAbove_0 0 rfl rfl ?_
  refine ga_iload_n hC dX12_responseAbove_1 1 rfl rfl ?_
  refine ga_iload_n hC dX12_responseAbove_2 2 rfl rfl ?_
  refine ga_iload_n hC dX12_responseAbove_3 3 rfl rfl ?_
  refine ga_callV (As := [.int v1, .int v2, .int v3]) (st := []) (k := 0) (n := 3) hC h q_8_17 q_8_19 q_0_50 q_1_13 q_8_20 rfl rfl rfl (by decide +kernel) ⟨Nat.le_of_ble_eq_true rfl, Nat.le_of_ble_eq_true rfl⟩ ⟨Nat.le_of_ble_eq_true rfl, Nat.le_of_ble_eq_true rfl⟩ rfl rfl rfl (by decide) rfl (Nat.le_of_ble_eq_true rfl) dX12_responseAbove_4 (fun v τ hq => ?_)
  obtain ⟨r1, rfl, h⟩ := hq
  obtain ⟨s2, es2⟩ : ∃ z, z = τ := ⟨_, rfl⟩
  rw [← es2] at h ⊢
  clear es2
  refine ga_if_eq (tgt := 19) hC dX12_responseAbove_7 (by decide) (fun hc => ?_) (fun hc => ?_)
  · have h := h.1 hc
    refine ga_lconst (v := 0) hC dX12_responseAbove_19 (by decide) ?_
    exact ga_lret hC dX12_responseAbove_20 ⟨_, rfl, h⟩
  · have h := h.2 hc
    refine ga_aload_n hC dX12_responseAbove_10 0 rfl rfl ?_
    refine gM_0_24 hC q_6_109 dX12_responseAbove_11 ?_
    refine ga_iload_n hC dX12_responseAbove_14 3 rfl rfl ?_
    obtain ⟨h4, h⟩ := h
    refine ga_lald hC aM_24 (by decide) h4 dX12_responseAbove_15 ?_
    refine ga_goto (tgt := 20) hC dX12_responseAbove_16 (by decide) ?_
    exact ga_lret hC dX12_responseAbove_20 ⟨_, rfl, h⟩
def M_X12_responseBelow (v1 : Int32) (v2 : Int32) (v3 : Int32) (σ : cg_S) (Q : Int64 → cg_S → Prop) : Prop := cg_M cg_WM yX12_responseBelow cX12_responseBelow 4 (some .long) (cg_R 8) (fun ad => [.ref (ad 0), .int v1, .int v2, .int v3]) σ (cg_ql Q)
theorem M_X12_responseBelow.mono {v1 : Int32} {v2 : Int32} {v3 : Int32} {σ : cg_S} {Q Q2 : Int64 → cg_S → Prop} (h : M_X12_responseBelow v1 v2 v3 σ Q) (hq : ∀ r τ, Q r τ → Q2 r τ) : M_X12_responseBelow v1 v2 v3 σ Q2 := cg_M.mono h (fun ad v τ ⟨r, e, q⟩ => ⟨r, e, hq r τ q⟩)
set_option maxRecDepth 100000 in
set_option maxHeartbeats 4000000 in
theorem v_X12_responseBelow {v1 : Int32} {v2 : Int32} {v3 : Int32} {σ : cg_S} {Q : Int64 → cg_S → Prop}
    (h : M_X12_isResponse v1 v2 v3 σ (fun r1 s2 => (r1 = 0 → Q 0 s2) ∧ (¬ r1 = 0 → vp_in v3 7 ∧ Q (s2.2.1 25 v3.toNatClampNeg) s2))) : M_X12_responseBelow v1 v2 v3 σ Q := by
  refine cg_entry (lv := fun ad => [(0, .ref (ad 0)), (1, .int v1), (2, .int v2), (3, .int v3)]) (by decide +kernel) (fun _ => rfl) (fun _ => Nat.le_of_ble_eq_true rfl) ?_
  intro p l e s m args below meth c D cy ad hC
  refine ga_aload_n hC dX12_responseBelow_0 0 rfl rfl ?_
  refine ga_iload_n hC dX12_responseBelow_1 1 rfl rfl ?_
  refine ga_iload_n hC dX12_responseBelow_2 2 rfl rfl ?_
  refine ga_iload_n hC dX12_responseBelow_3 3 rfl rfl ?_
  refine ga_callV (As := [.int v1, .int v2, .int v3]) (st := []) (k := 0) (n := 3) hC h q_8_17 q_8_19 q_0_50 q_1_13 q_8_20 rfl rfl rfl (by decide +kernel) ⟨Nat.le_of_ble_eq_true rfl, Nat.le_of_ble_eq_true rfl⟩ ⟨Nat.le_of_ble_eq_true rfl, Nat.le_of_ble_eq_true rfl⟩ rfl rfl rfl (by decide) rfl (Nat.le_of_ble_eq_true rfl) dX12_responseBelow_4 (fun v τ hq => ?_)
  obtain ⟨r1, rfl, h⟩ := hq
  obtain ⟨s2, es2⟩ : ∃ z, z = τ := ⟨_, rfl⟩
  rw [← es2] at h ⊢
  clear es2
  refine ga_if_eq (tgt := 19) hC dX12_responseBelow_7 (by decide) (fun hc => ?_) (fun hc => ?_)
  · have h := h.1 hc
    refine ga_lconst (v := 0) hC dX12_responseBelow_19 (by decide) ?_
    exact ga_lret hC dX12_responseBelow_20 ⟨_, rfl, h⟩
  · have h := h.2 hc
    refine ga_aload_n hC dX12_responseBelow_10 0 rfl rfl ?_
    refine gM_0_25 hC q_6_110 dX12_responseBelow_11 ?_
    refine ga_iload_n hC dX12_responseBelow_14 3 rfl rfl ?_
    obtain ⟨h4, h⟩ := h
    refine ga_lald hC aM_25 (by decide) h4 dX12_responseBelow_15 ?_
    refine ga_goto (tgt := 20) hC dX12_responseBelow_16 (by decide) ?_
    exact ga_lret hC dX12_responseBelow_20 ⟨_, rfl, h⟩
def M_X12_closedOf (v1 : Int32) (σ : cg_S) (Q : Int32 → cg_S → Prop) : Prop := cg_M cg_WM yX12_closedOf cX12_closedOf 2 (some .int) (cg_R 3) (fun ad => [.ref (ad 0), .int v1]) σ (cg_qi Q)
theorem M_X12_closedOf.mono {v1 : Int32} {σ : cg_S} {Q Q2 : Int32 → cg_S → Prop} (h : M_X12_closedOf v1 σ Q) (hq : ∀ r τ, Q r τ → Q2 r τ) : M_X12_closedOf v1 σ Q2 := cg_M.mono h (fun ad v τ ⟨r, e, q⟩ => ⟨r, e, hq r τ q⟩)
set_option maxRecDepth 100000 in
set_option maxHeartbeats 4000000 in
theorem v_X12_closedOf {v1 : Int32} {σ : cg_S} {Q : Int32 → cg_S → Prop}
    (h : M_X12_isGame v1 σ (fun r1 s2 => (¬ r1 = 0 → M_X12_picksTold s2 (fun s5 => M_X12_reaches s5 (fun s8 => M_X12_isClosed v1 s8 (fun r10 s11 => (r10 = 0 → M_X12_fails 3 s11 (fun r13 s14 => Q r13 s14)) ∧ (¬ r10 = 0 → M_X12_lowestOf v1 s11 (fun r16 s17 => Q r16 s17)))))) ∧ (r1 = 0 → Q 0 s2))) : M_X12_closedOf v1 σ Q := by
  refine cg_entry (lv := fun ad => [(0, .ref (ad 0)), (1, .int v1)]) (by decide +kernel) (fun _ => rfl) (fun _ => Nat.le_of_ble_eq_true rfl) ?_
  intro p l e s m args below meth c D cy ad hC
  refine ga_aload_n hC dX12_closedOf_0 0 rfl rfl ?_
  refine ga_iload_n hC dX12_closedOf_1 1 rfl rfl ?_
  refine ga_callV (As := [.int v1]) (st := []) (k := 0) (n := 1) hC h q_7_197 q_7_199 q_0_42 q_1_13 q_7_200 rfl rfl rfl (by decide +kernel) ⟨Nat.le_of_ble_eq_true rfl, Nat.le_of_ble_eq_true rfl⟩ ⟨Nat.le_of_ble_eq_true rfl, Nat.le_of_ble_eq_true rfl⟩ rfl rfl rfl (by decide) rfl (Nat.le_of_ble_eq_true rfl) dX12_closedOf_2 (fun v τ hq => ?_)
  obtain ⟨r1, rfl, h⟩ := hq
  obtain ⟨s2, es2⟩ : ∃ z, z = τ := ⟨_, rfl⟩
  rw [← es2] at h ⊢
  clear es2
  refine ga_if_ne (tgt := 10) hC dX12_closedOf_5 (by decide) (fun hc => ?_) (fun hc => ?_)
  · have h := h.1 hc
    refine ga_aload_n hC dX12_closedOf_10 0 rfl rfl ?_
    refine ga_callV (As := []) (st := []) (k := 0) (n := 0) hC h q_8_5 q_8_7 q_0_49 q_1_13 q_8_8 rfl rfl rfl (by decide +kernel) ⟨Nat.le_of_ble_eq_true rfl, Nat.le_of_ble_eq_true rfl⟩ ⟨Nat.le_of_ble_eq_true rfl, Nat.le_of_ble_eq_true rfl⟩ rfl rfl rfl (by decide) rfl (Nat.le_of_ble_eq_true rfl) dX12_closedOf_11 (fun v τ hq => ?_)
    obtain ⟨rfl, h⟩ := hq
    obtain ⟨s5, es5⟩ : ∃ z, z = τ := ⟨_, rfl⟩
    rw [← es5] at h ⊢
    clear es5
    refine ga_aload_n hC dX12_closedOf_14 0 rfl rfl ?_
    refine ga_callV (As := []) (st := []) (k := 0) (n := 0) hC h q_7_85 q_7_87 q_0_24 q_1_13 q_7_88 rfl rfl rfl (by decide +kernel) ⟨Nat.le_of_ble_eq_true rfl, Nat.le_of_ble_eq_true rfl⟩ ⟨Nat.le_of_ble_eq_true rfl, Nat.le_of_ble_eq_true rfl⟩ rfl rfl rfl (by decide) rfl (Nat.le_of_ble_eq_true rfl) dX12_closedOf_15 (fun v τ hq => ?_)
    obtain ⟨rfl, h⟩ := hq
    obtain ⟨s8, es8⟩ : ∃ z, z = τ := ⟨_, rfl⟩
    rw [← es8] at h ⊢
    clear es8
    refine ga_aload_n hC dX12_closedOf_18 0 rfl rfl ?_
    refine ga_iload_n hC dX12_closedOf_19 1 rfl rfl ?_
    refine ga_callV (As := [.int v1]) (st := []) (k := 0) (n := 1) hC h q_7_97 q_7_99 q_0_27 q_1_13 q_7_100 rfl rfl rfl (by decide +kernel) ⟨Nat.le_of_ble_eq_true rfl, Nat.le_of_ble_eq_true rfl⟩ ⟨Nat.le_of_ble_eq_true rfl, Nat.le_of_ble_eq_true rfl⟩ rfl rfl rfl (by decide) rfl (Nat.le_of_ble_eq_true rfl) dX12_closedOf_20 (fun v τ hq => ?_)
    obtain ⟨r10, rfl, h⟩ := hq
    obtain ⟨s11, es11⟩ : ∃ z, z = τ := ⟨_, rfl⟩
    rw [← es11] at h ⊢
    clear es11
    refine ga_if_eq (tgt := 34) hC dX12_closedOf_23 (by decide) (fun hc => ?_) (fun hc => ?_)
    · have h := h.1 hc
      refine ga_aload_n hC dX12_closedOf_34 0 rfl rfl ?_
      refine ga_iconst (v := 3) hC dX12_closedOf_35 (by decide) ?_
      refine ga_callV (As := [.int 3]) (st := []) (k := 0) (n := 1) hC h q_6_229 q_6_231 q_0_12 q_1_13 q_6_232 rfl rfl rfl (by decide +kernel) ⟨Nat.le_of_ble_eq_true rfl, Nat.le_of_ble_eq_true rfl⟩ ⟨Nat.le_of_ble_eq_true rfl, Nat.le_of_ble_eq_true rfl⟩ rfl rfl rfl (by decide) rfl (Nat.le_of_ble_eq_true rfl) dX12_closedOf_36 (fun v τ hq => ?_)
      obtain ⟨r13, rfl, h⟩ := hq
      obtain ⟨s14, es14⟩ : ∃ z, z = τ := ⟨_, rfl⟩
      rw [← es14] at h ⊢
      clear es14
      exact ga_iret hC dX12_closedOf_39 ⟨_, rfl, h⟩
    · have h := h.2 hc
      refine ga_aload_n hC dX12_closedOf_26 0 rfl rfl ?_
      refine ga_iload_n hC dX12_closedOf_27 1 rfl rfl ?_
      refine ga_callV (As := [.int v1]) (st := []) (k := 0) (n := 1) hC h q_7_101 q_7_103 q_0_28 q_1_13 q_7_104 rfl rfl rfl (by decide +kernel) ⟨Nat.le_of_ble_eq_true rfl, Nat.le_of_ble_eq_true rfl⟩ ⟨Nat.le_of_ble_eq_true rfl, Nat.le_of_ble_eq_true rfl⟩ rfl rfl rfl (by decide) rfl (Nat.le_of_ble_eq_true rfl) dX12_closedOf_28 (fun v τ hq => ?_)
      obtain ⟨r16, rfl, h⟩ := hq
      obtain ⟨s17, es17⟩ : ∃ z, z = τ := ⟨_, rfl⟩
      rw [← es17] at h ⊢
      clear es17
      refine ga_goto (tgt := 39) hC dX12_closedOf_31 (by decide) ?_
      exact ga_iret hC dX12_closedOf_39 ⟨_, rfl, h⟩
  · have h := h.2 hc
    refine ga_iconst (v := 0) hC dX12_closedOf_8 (by decide) ?_
    exact ga_iret hC dX12_closedOf_9 ⟨_, rfl, h⟩
def M_X12_staysIn (v1 : Int32) (σ : cg_S) (Q : Int32 → cg_S → Prop) : Prop := cg_M cg_WM yX12_staysIn cX12_staysIn 3 (some .boolean) (cg_R 0) (fun ad => [.ref (ad 0), .int v1]) σ (cg_qi Q)
theorem M_X12_staysIn.mono {v1 : Int32} {σ : cg_S} {Q Q2 : Int32 → cg_S → Prop} (h : M_X12_staysIn v1 σ Q) (hq : ∀ r τ, Q r τ → Q2 r τ) : M_X12_staysIn v1 σ Q2 := cg_M.mono h (fun ad v τ ⟨r, e, q⟩ => ⟨r, e, hq r τ q⟩)
def L_X12_staysIn_2 (v1 : Int32) (v2 : Int32) (σ : cg_S) (Q : Int32 → cg_S → Prop) : Prop := cg_L cg_WM RX12 cX12_staysIn 3 (some .boolean) (cg_R 0) 2 (fun ad => [(0, .ref (ad 0)), (1, .int v1), (2, .int v2)]) (fun ad => []) σ (cg_qi Q)
set_option maxRecDepth 100000 in
set_option maxHeartbeats 4000000 in
theorem v_X12_staysIn_2 {v1 : Int32} {v2 : Int32} {σ : cg_S} {Q : Int32 → cg_S → Prop}
    (h : ((σ.1 0 1) ≤ v2 → Q 1 σ) ∧ (¬ (σ.1 0 1) ≤ v2 → vp_in ((7 * v1) + v2) 147 ∧ ((σ.1 10 ((7 * v1) + v2).toNatClampNeg) ≤ 0 → L_X12_staysIn_2 v1 (v2 + 1) σ Q) ∧ (¬ (σ.1 10 ((7 * v1) + v2).toNatClampNeg) ≤ 0 → vp_in v2 7 ∧ (¬ (σ.1 16 v2.toNatClampNeg) = 0 → L_X12_staysIn_2 v1 (v2 + 1) σ Q) ∧ ((σ.1 16 v2.toNatClampNeg) = 0 → Q 0 σ)))) : L_X12_staysIn_2 v1 v2 σ Q := by
  intro p l e s m args below meth c D cy ad hC
  refine ga_iload_n hC dX12_staysIn_2 2 rfl rfl ?_
  refine ga_aload_n hC dX12_staysIn_3 0 rfl rfl ?_
  refine gM_0_1 hC q_6_86 dX12_staysIn_4 ?_
  refine ga_icmp_ge (tgt := 41) hC dX12_staysIn_7 (by decide) (fun hc => ?_) (fun hc => ?_)
  · have h := h.1 hc
    refine ga_iconst (v := 1) hC dX12_staysIn_41 (by decide) ?_
    exact ga_zret hC dX12_staysIn_42 (by decide) ⟨_, rfl, h⟩
  · have h := h.2 hc
    refine ga_aload_n hC dX12_staysIn_10 0 rfl rfl ?_
    refine gM_0_15 hC q_6_100 dX12_staysIn_11 ?_
    refine ga_bipush (v := 7) hC dX12_staysIn_14 (by decide) ?_
    refine ga_iload_n hC dX12_staysIn_16 1 rfl rfl ?_
    refine ga_imul hC dX12_staysIn_17 ?_
    refine ga_iload_n hC dX12_staysIn_18 2 rfl rfl ?_
    refine ga_iadd hC dX12_staysIn_19 ?_
    obtain ⟨h1, h⟩ := h
    refine ga_iald hC aM_10 (by decide) h1 dX12_staysIn_20 ?_
    refine ga_if_le (tgt := 35) hC dX12_staysIn_21 (by decide) (fun hc => ?_) (fun hc => ?_)
    · have h := h.1 hc
      refine ga_iinc (v := v2 + 1) (lv' := [(2, .int (v2 + 1)), (0, .ref (ad 0)), (1, .int v1)]) hC dX12_staysIn_35 2 rfl rfl (by decide) rfl ?_
      refine ga_goto (tgt := 2) hC dX12_staysIn_38 (by decide) ?_
      refine ga_locals [1, 2, 0] rfl ?_
      exact h p l e s m args below meth c D cy ad hC
    · have h := h.2 hc
      refine ga_aload_n hC dX12_staysIn_24 0 rfl rfl ?_
      refine gM_0_17 hC q_6_102 dX12_staysIn_25 ?_
      refine ga_iload_n hC dX12_staysIn_28 2 rfl rfl ?_
      obtain ⟨h2, h⟩ := h
      refine ga_zald hC aM_16 (by decide) h2 dX12_staysIn_29 ?_
      refine ga_if_ne (tgt := 35) hC dX12_staysIn_30 (by decide) (fun hc => ?_) (fun hc => ?_)
      · have h := h.1 hc
        refine ga_iinc (v := v2 + 1) (lv' := [(2, .int (v2 + 1)), (0, .ref (ad 0)), (1, .int v1)]) hC dX12_staysIn_35 2 rfl rfl (by decide) rfl ?_
        refine ga_goto (tgt := 2) hC dX12_staysIn_38 (by decide) ?_
        refine ga_locals [1, 2, 0] rfl ?_
        exact h p l e s m args below meth c D cy ad hC
      · have h := h.2 hc
        refine ga_iconst (v := 0) hC dX12_staysIn_33 (by decide) ?_
        exact ga_zret hC dX12_staysIn_34 (by decide) ⟨_, rfl, h⟩
set_option maxRecDepth 100000 in
set_option maxHeartbeats 4000000 in
theorem v_X12_staysIn {v1 : Int32} {σ : cg_S} {Q : Int32 → cg_S → Prop}
    (h : L_X12_staysIn_2 v1 0 σ Q) : M_X12_staysIn v1 σ Q := by
  refine cg_entry (lv := fun ad => [(0, .ref (ad 0)), (1, .int v1)]) (by decide +kernel) (fun _ => rfl) (fun _ => Nat.le_of_ble_eq_true rfl) ?_
  intro p l e s m args below meth c D cy ad hC
  refine ga_iconst (v := 0) hC dX12_staysIn_0 (by decide) ?_
  refine ga_istore_n (lv' := [(2, .int 0), (0, .ref (ad 0)), (1, .int v1)]) hC dX12_staysIn_1 rfl (by decide) rfl ?_
  refine ga_locals [1, 2, 0] rfl ?_
  exact h p l e s m args below meth c D cy ad hC
def M_X12_reachesIn (σ : cg_S) (Q : cg_S → Prop) : Prop := cg_M cg_WM yX12_reachesIn cX12_reachesIn 5 none (cg_R 1) (fun ad => [.ref (ad 0)]) σ (cg_qv Q)
theorem M_X12_reachesIn.mono {σ : cg_S} {Q Q2 : cg_S → Prop} (h : M_X12_reachesIn σ Q) (hq : ∀ τ, Q τ → Q2 τ) : M_X12_reachesIn σ Q2 := cg_M.mono h (fun ad v τ ⟨e, q⟩ => ⟨e, hq τ q⟩)
def L_X12_reachesIn_2 (v1 : Int32) (σ : cg_S) (Q : cg_S → Prop) : Prop := cg_L cg_WM RX12 cX12_reachesIn 5 none (cg_R 1) 2 (fun ad => [(0, .ref (ad 0)), (1, .int v1)]) (fun ad => []) σ (cg_qv Q)
def L_X12_reachesIn_23 (v1 : Int32) (σ : cg_S) (Q : cg_S → Prop) : Prop := cg_L cg_WM RX12 cX12_reachesIn 5 none (cg_R 1) 23 (fun ad => [(0, .ref (ad 0)), (1, .int v1)]) (fun ad => []) σ (cg_qv Q)
def L_X12_reachesIn_33 (v1 : Int32) (v2 : Int32) (σ : cg_S) (Q : cg_S → Prop) : Prop := cg_L cg_WM RX12 cX12_reachesIn 5 none (cg_R 1) 33 (fun ad => [(0, .ref (ad 0)), (1, .int v1), (2, .int v2)]) (fun ad => []) σ (cg_qv Q)
def L_X12_reachesIn_61 (v1 : Int32) (v2 : Int32) (v3 : Int32) (v4 : Int32) (σ : cg_S) (Q : cg_S → Prop) : Prop := cg_L cg_WM RX12 cX12_reachesIn 5 none (cg_R 1) 61 (fun ad => [(0, .ref (ad 0)), (1, .int v1), (2, .int v2), (3, .int v3), (4, .int v4)]) (fun ad => []) σ (cg_qv Q)
def L_X12_reachesIn_145 (v1 : Int32) (σ : cg_S) (Q : cg_S → Prop) : Prop := cg_L cg_WM RX12 cX12_reachesIn 5 none (cg_R 1) 145 (fun ad => [(0, .ref (ad 0)), (1, .int v1)]) (fun ad => []) σ (cg_qv Q)
def L_X12_reachesIn_155 (v1 : Int32) (v2 : Int32) (σ : cg_S) (Q : cg_S → Prop) : Prop := cg_L cg_WM RX12 cX12_reachesIn 5 none (cg_R 1) 155 (fun ad => [(0, .ref (ad 0)), (1, .int v1), (2, .int v2)]) (fun ad => []) σ (cg_qv Q)
def L_X12_reachesIn_165 (v1 : Int32) (v2 : Int32) (v3 : Int32) (σ : cg_S) (Q : cg_S → Prop) : Prop := cg_L cg_WM RX12 cX12_reachesIn 5 none (cg_R 1) 165 (fun ad => [(0, .ref (ad 0)), (1, .int v1), (2, .int v2), (3, .int v3)]) (fun ad => []) σ (cg_qv Q)
set_option maxRecDepth 100000 in
set_option maxHeartbeats 4000000 in
theorem v_X12_reachesIn_165 {v1 : Int32} {v2 : Int32} {v3 : Int32} {σ : cg_S} {Q : cg_S → Prop}
    (h : ((σ.1 0 1) ≤ v3 → L_X12_reachesIn_155 v1 (v2 + 1) σ Q) ∧ (¬ (σ.1 0 1) ≤ v3 → vp_in ((7 * v2) + v3) 49 ∧ (¬ (σ.1 20 ((7 * v2) + v3).toNatClampNeg) = 0 → vp_in ((7 * v2) + v3) 49 ∧ ∀ s3 : cg_S, s3 = cg_i σ 20 ((7 * v2) + v3).toNatClampNeg (vp_nar .boolean 1) → L_X12_reachesIn_165 v1 v2 (v3 + 1) s3 Q) ∧ ((σ.1 20 ((7 * v2) + v3).toNatClampNeg) = 0 → vp_in ((7 * v2) + v1) 49 ∧ ((σ.1 20 ((7 * v2) + v1).toNatClampNeg) = 0 → vp_in ((7 * v2) + v3) 49 ∧ ∀ s6 : cg_S, s6 = cg_i σ 20 ((7 * v2) + v3).toNatClampNeg (vp_nar .boolean 0) → L_X12_reachesIn_165 v1 v2 (v3 + 1) s6 Q) ∧ (¬ (σ.1 20 ((7 * v2) + v1).toNatClampNeg) = 0 → vp_in ((7 * v1) + v3) 49 ∧ ((σ.1 20 ((7 * v1) + v3).toNatClampNeg) = 0 → vp_in ((7 * v2) + v3) 49 ∧ ∀ s9 : cg_S, s9 = cg_i σ 20 ((7 * v2) + v3).toNatClampNeg (vp_nar .boolean 0) → L_X12_reachesIn_165 v1 v2 (v3 + 1) s9 Q) ∧ (¬ (σ.1 20 ((7 * v1) + v3).toNatClampNeg) = 0 → vp_in ((7 * v2) + v3) 49 ∧ ∀ s11 : cg_S, s11 = cg_i σ 20 ((7 * v2) + v3).toNatClampNeg (vp_nar .boolean 1) → L_X12_reachesIn_165 v1 v2 (v3 + 1) s11 Q))))) : L_X12_reachesIn_165 v1 v2 v3 σ Q := by
  intro p l e s m args below meth c D cy ad hC
  refine ga_iload_n hC dX12_reachesIn_165 3 rfl rfl ?_
  refine ga_aload_n hC dX12_reachesIn_166 0 rfl rfl ?_
  refine gM_0_1 hC q_6_86 dX12_reachesIn_167 ?_
  refine ga_icmp_ge (tgt := 237) hC dX12_reachesIn_170 (by decide) (fun hc => ?_) (fun hc => ?_)
  · have h := h.1 hc
    refine ga_iinc (v := v2 + 1) (lv' := [(2, .int (v2 + 1)), (0, .ref (ad 0)), (1, .int v1), (3, .int v3)]) hC dX12_reachesIn_237 2 rfl rfl (by decide) rfl ?_
    refine ga_goto (tgt := 155) hC dX12_reachesIn_240 (by decide) ?_
    refine ga_locals [1, 2, 0] rfl ?_
    exact h p l e s m args below meth c D cy ad hC
  · have h := h.2 hc
    refine ga_aload_n hC dX12_reachesIn_173 0 rfl rfl ?_
    refine gM_0_31 hC q_6_116 dX12_reachesIn_174 ?_
    refine ga_bipush (v := 7) hC dX12_reachesIn_177 (by decide) ?_
    refine ga_iload_n hC dX12_reachesIn_179 2 rfl rfl ?_
    refine ga_imul hC dX12_reachesIn_180 ?_
    refine ga_iload_n hC dX12_reachesIn_181 3 rfl rfl ?_
    refine ga_iadd hC dX12_reachesIn_182 ?_
    refine ga_aload_n hC dX12_reachesIn_183 0 rfl rfl ?_
    refine gM_0_31 hC q_6_116 dX12_reachesIn_184 ?_
    refine ga_bipush (v := 7) hC dX12_reachesIn_187 (by decide) ?_
    refine ga_iload_n hC dX12_reachesIn_189 2 rfl rfl ?_
    refine ga_imul hC dX12_reachesIn_190 ?_
    refine ga_iload_n hC dX12_reachesIn_191 3 rfl rfl ?_
    refine ga_iadd hC dX12_reachesIn_192 ?_
    obtain ⟨h1, h⟩ := h
    refine ga_zald hC aM_20 (by decide) h1 dX12_reachesIn_193 ?_
    refine ga_if_ne (tgt := 225) hC dX12_reachesIn_194 (by decide) (fun hc => ?_) (fun hc => ?_)
    · have h := h.1 hc
      refine ga_iconst (v := 1) hC dX12_reachesIn_225 (by decide) ?_
      refine ga_goto (tgt := 230) hC dX12_reachesIn_226 (by decide) ?_
      obtain ⟨h2, h⟩ := h
      refine ga_zast hC aM_20 (by decide) h2 dX12_reachesIn_230 ?_
      refine ga_sig (σ := cg_i σ 20 ((7 * v2) + v3).toNatClampNeg (vp_nar .boolean 1)) (fun s3 es3 => ?_)
      have h := h s3 es3
      refine ga_iinc (v := v3 + 1) (lv' := [(3, .int (v3 + 1)), (0, .ref (ad 0)), (1, .int v1), (2, .int v2)]) hC dX12_reachesIn_231 3 rfl rfl (by decide) rfl ?_
      refine ga_goto (tgt := 165) hC dX12_reachesIn_234 (by decide) ?_
      refine ga_locals [1, 2, 3, 0] rfl ?_
      exact h p l e s m args below meth c D cy ad hC
    · have h := h.2 hc
      refine ga_aload_n hC dX12_reachesIn_197 0 rfl rfl ?_
      refine gM_0_31 hC q_6_116 dX12_reachesIn_198 ?_
      refine ga_bipush (v := 7) hC dX12_reachesIn_201 (by decide) ?_
      refine ga_iload_n hC dX12_reachesIn_203 2 rfl rfl ?_
      refine ga_imul hC dX12_reachesIn_204 ?_
      refine ga_iload_n hC dX12_reachesIn_205 1 rfl rfl ?_
      refine ga_iadd hC dX12_reachesIn_206 ?_
      obtain ⟨h4, h⟩ := h
      refine ga_zald hC aM_20 (by decide) h4 dX12_reachesIn_207 ?_
      refine ga_if_eq (tgt := 229) hC dX12_reachesIn_208 (by decide) (fun hc => ?_) (fun hc => ?_)
      · have h := h.1 hc
        refine ga_iconst (v := 0) hC dX12_reachesIn_229 (by decide) ?_
        obtain ⟨h5, h⟩ := h
        refine ga_zast hC aM_20 (by decide) h5 dX12_reachesIn_230 ?_
        refine ga_sig (σ := cg_i σ 20 ((7 * v2) + v3).toNatClampNeg (vp_nar .boolean 0)) (fun s6 es6 => ?_)
        have h := h s6 es6
        refine ga_iinc (v := v3 + 1) (lv' := [(3, .int (v3 + 1)), (0, .ref (ad 0)), (1, .int v1), (2, .int v2)]) hC dX12_reachesIn_231 3 rfl rfl (by decide) rfl ?_
        refine ga_goto (tgt := 165) hC dX12_reachesIn_234 (by decide) ?_
        refine ga_locals [1, 2, 3, 0] rfl ?_
        exact h p l e s m args below meth c D cy ad hC
      · have h := h.2 hc
        refine ga_aload_n hC dX12_reachesIn_211 0 rfl rfl ?_
        refine gM_0_31 hC q_6_116 dX12_reachesIn_212 ?_
        refine ga_bipush (v := 7) hC dX12_reachesIn_215 (by decide) ?_
        refine ga_iload_n hC dX12_reachesIn_217 1 rfl rfl ?_
        refine ga_imul hC dX12_reachesIn_218 ?_
        refine ga_iload_n hC dX12_reachesIn_219 3 rfl rfl ?_
        refine ga_iadd hC dX12_reachesIn_220 ?_
        obtain ⟨h7, h⟩ := h
        refine ga_zald hC aM_20 (by decide) h7 dX12_reachesIn_221 ?_
        refine ga_if_eq (tgt := 229) hC dX12_reachesIn_222 (by decide) (fun hc => ?_) (fun hc => ?_)
        · have h := h.1 hc
          refine ga_iconst (v := 0) hC dX12_reachesIn_229 (by decide) ?_
          obtain ⟨h8, h⟩ := h
          refine ga_zast hC aM_20 (by decide) h8 dX12_reachesIn_230 ?_
          refine ga_sig (σ := cg_i σ 20 ((7 * v2) + v3).toNatClampNeg (vp_nar .boolean 0)) (fun s9 es9 => ?_)
          have h := h s9 es9
          refine ga_iinc (v := v3 + 1) (lv' := [(3, .int (v3 + 1)), (0, .ref (ad 0)), (1, .int v1), (2, .int v2)]) hC dX12_reachesIn_231 3 rfl rfl (by decide) rfl ?_
          refine ga_goto (tgt := 165) hC dX12_reachesIn_234 (by decide) ?_
          refine ga_locals [1, 2, 3, 0] rfl ?_
          exact h p l e s m args below meth c D cy ad hC
        · have h := h.2 hc
          refine ga_iconst (v := 1) hC dX12_reachesIn_225 (by decide) ?_
          refine ga_goto (tgt := 230) hC dX12_reachesIn_226 (by decide) ?_
          obtain ⟨h10, h⟩ := h
          refine ga_zast hC aM_20 (by decide) h10 dX12_reachesIn_230 ?_
          refine ga_sig (σ := cg_i σ 20 ((7 * v2) + v3).toNatClampNeg (vp_nar .boolean 1)) (fun s11 es11 => ?_)
          have h := h s11 es11
          refine ga_iinc (v := v3 + 1) (lv' := [(3, .int (v3 + 1)), (0, .ref (ad 0)), (1, .int v1), (2, .int v2)]) hC dX12_reachesIn_231 3 rfl rfl (by decide) rfl ?_
          refine ga_goto (tgt := 165) hC dX12_reachesIn_234 (by decide) ?_
          refine ga_locals [1, 2, 3, 0] rfl ?_
          exact h p l e s m args below meth c D cy ad hC
set_option maxRecDepth 100000 in
set_option maxHeartbeats 4000000 in
theorem v_X12_reachesIn_155 {v1 : Int32} {v2 : Int32} {σ : cg_S} {Q : cg_S → Prop}
    (h : ((σ.1 0 1) ≤ v2 → L_X12_reachesIn_145 (v1 + 1) σ Q) ∧ (¬ (σ.1 0 1) ≤ v2 → L_X12_reachesIn_165 v1 v2 0 σ Q)) : L_X12_reachesIn_155 v1 v2 σ Q := by
  intro p l e s m args below meth c D cy ad hC
  refine ga_iload_n hC dX12_reachesIn_155 2 rfl rfl ?_
  refine ga_aload_n hC dX12_reachesIn_156 0 rfl rfl ?_
  refine gM_0_1 hC q_6_86 dX12_reachesIn_157 ?_
  refine ga_icmp_ge (tgt := 243) hC dX12_reachesIn_160 (by decide) (fun hc => ?_) (fun hc => ?_)
  · have h := h.1 hc
    refine ga_iinc (v := v1 + 1) (lv' := [(1, .int (v1 + 1)), (0, .ref (ad 0)), (2, .int v2)]) hC dX12_reachesIn_243 1 rfl rfl (by decide) rfl ?_
    refine ga_goto (tgt := 145) hC dX12_reachesIn_246 (by decide) ?_
    refine ga_locals [1, 0] rfl ?_
    exact h p l e s m args below meth c D cy ad hC
  · have h := h.2 hc
    refine ga_iconst (v := 0) hC dX12_reachesIn_163 (by decide) ?_
    refine ga_istore_n (lv' := [(3, .int 0), (0, .ref (ad 0)), (1, .int v1), (2, .int v2)]) hC dX12_reachesIn_164 rfl (by decide) rfl ?_
    refine ga_locals [1, 2, 3, 0] rfl ?_
    exact h p l e s m args below meth c D cy ad hC
set_option maxRecDepth 100000 in
set_option maxHeartbeats 4000000 in
theorem v_X12_reachesIn_145 {v1 : Int32} {σ : cg_S} {Q : cg_S → Prop}
    (h : ((σ.1 0 1) ≤ v1 → Q σ) ∧ (¬ (σ.1 0 1) ≤ v1 → L_X12_reachesIn_155 v1 0 σ Q)) : L_X12_reachesIn_145 v1 σ Q := by
  intro p l e s m args below meth c D cy ad hC
  refine ga_iload_n hC dX12_reachesIn_145 1 rfl rfl ?_
  refine ga_aload_n hC dX12_reachesIn_146 0 rfl rfl ?_
  refine gM_0_1 hC q_6_86 dX12_reachesIn_147 ?_
  refine ga_icmp_ge (tgt := 249) hC dX12_reachesIn_150 (by decide) (fun hc => ?_) (fun hc => ?_)
  · have h := h.1 hc
    exact ga_vret hC dX12_reachesIn_249 ⟨rfl, h⟩
  · have h := h.2 hc
    refine ga_iconst (v := 0) hC dX12_reachesIn_153 (by decide) ?_
    refine ga_istore_n (lv' := [(2, .int 0), (0, .ref (ad 0)), (1, .int v1)]) hC dX12_reachesIn_154 rfl (by decide) rfl ?_
    refine ga_locals [1, 2, 0] rfl ?_
    exact h p l e s m args below meth c D cy ad hC
set_option maxRecDepth 100000 in
set_option maxHeartbeats 4000000 in
theorem v_X12_reachesIn_61 {v1 : Int32} {v2 : Int32} {v3 : Int32} {v4 : Int32} {σ : cg_S} {Q : cg_S → Prop}
    (h : ((σ.1 0 1) ≤ v4 → L_X12_reachesIn_33 v1 (v2 + 1) σ Q) ∧ (¬ (σ.1 0 1) ≤ v4 → M_X12_staysIn v3 σ (fun r1 s2 => (r1 = 0 → L_X12_reachesIn_33 v1 (v2 + 1) s2 Q) ∧ (¬ r1 = 0 → vp_in ((7 * v1) + v4) 49 ∧ (¬ (s2.1 20 ((7 * v1) + v4).toNatClampNeg) = 0 → vp_in ((7 * v1) + v4) 49 ∧ ∀ s6 : cg_S, s6 = cg_i s2 20 ((7 * v1) + v4).toNatClampNeg (vp_nar .boolean 1) → L_X12_reachesIn_61 v1 v2 v3 (v4 + 1) s6 Q) ∧ ((s2.1 20 ((7 * v1) + v4).toNatClampNeg) = 0 → vp_in ((7 * v3) + v4) 147 ∧ ((s2.1 10 ((7 * v3) + v4).toNatClampNeg) ≤ 0 → vp_in ((7 * v1) + v4) 49 ∧ ∀ s9 : cg_S, s9 = cg_i s2 20 ((7 * v1) + v4).toNatClampNeg (vp_nar .boolean 0) → L_X12_reachesIn_61 v1 v2 v3 (v4 + 1) s9 Q) ∧ (¬ (s2.1 10 ((7 * v3) + v4).toNatClampNeg) ≤ 0 → vp_in ((7 * v1) + v4) 49 ∧ ∀ s11 : cg_S, s11 = cg_i s2 20 ((7 * v1) + v4).toNatClampNeg (vp_nar .boolean 1) → L_X12_reachesIn_61 v1 v2 v3 (v4 + 1) s11 Q)))))) : L_X12_reachesIn_61 v1 v2 v3 v4 σ Q := by
  intro p l e s m args below meth c D cy ad hC
  refine ga_iload hC dX12_reachesIn_61 4 rfl ?_
  refine ga_aload_n hC dX12_reachesIn_63 0 rfl rfl ?_
  refine gM_0_1 hC q_6_86 dX12_reachesIn_64 ?_
  refine ga_icmp_ge (tgt := 131) hC dX12_reachesIn_67 (by decide) (fun hc => ?_) (fun hc => ?_)
  · have h := h.1 hc
    refine ga_iinc (v := v2 + 1) (lv' := [(2, .int (v2 + 1)), (0, .ref (ad 0)), (1, .int v1), (3, .int v3), (4, .int v4)]) hC dX12_reachesIn_131 2 rfl rfl (by decide) rfl ?_
    refine ga_goto (tgt := 33) hC dX12_reachesIn_134 (by decide) ?_
    refine ga_locals [1, 2, 0] rfl ?_
    exact h p l e s m args below meth c D cy ad hC
  · have h := h.2 hc
    refine ga_aload_n hC dX12_reachesIn_70 0 rfl rfl ?_
    refine ga_iload_n hC dX12_reachesIn_71 3 rfl rfl ?_
    refine ga_callV (As := [.int v3]) (st := []) (k := 0) (n := 1) hC h q_8_41 q_8_43 q_0_53 q_1_13 q_8_44 rfl rfl rfl (by decide +kernel) ⟨Nat.le_of_ble_eq_true rfl, Nat.le_of_ble_eq_true rfl⟩ ⟨Nat.le_of_ble_eq_true rfl, Nat.le_of_ble_eq_true rfl⟩ rfl rfl rfl (by decide) rfl (Nat.le_of_ble_eq_true rfl) dX12_reachesIn_72 (fun v τ hq => ?_)
    obtain ⟨r1, rfl, h⟩ := hq
    obtain ⟨s2, es2⟩ : ∃ z, z = τ := ⟨_, rfl⟩
    rw [← es2] at h ⊢
    clear es2
    refine ga_if_eq (tgt := 131) hC dX12_reachesIn_75 (by decide) (fun hc => ?_) (fun hc => ?_)
    · have h := h.1 hc
      refine ga_iinc (v := v2 + 1) (lv' := [(2, .int (v2 + 1)), (0, .ref (ad 0)), (1, .int v1), (3, .int v3), (4, .int v4)]) hC dX12_reachesIn_131 2 rfl rfl (by decide) rfl ?_
      refine ga_goto (tgt := 33) hC dX12_reachesIn_134 (by decide) ?_
      refine ga_locals [1, 2, 0] rfl ?_
      exact h p l e s m args below meth c D cy ad hC
    · have h := h.2 hc
      refine ga_aload_n hC dX12_reachesIn_78 0 rfl rfl ?_
      refine gM_0_31 hC q_6_116 dX12_reachesIn_79 ?_
      refine ga_bipush (v := 7) hC dX12_reachesIn_82 (by decide) ?_
      refine ga_iload_n hC dX12_reachesIn_84 1 rfl rfl ?_
      refine ga_imul hC dX12_reachesIn_85 ?_
      refine ga_iload hC dX12_reachesIn_86 4 rfl ?_
      refine ga_iadd hC dX12_reachesIn_88 ?_
      refine ga_aload_n hC dX12_reachesIn_89 0 rfl rfl ?_
      refine gM_0_31 hC q_6_116 dX12_reachesIn_90 ?_
      refine ga_bipush (v := 7) hC dX12_reachesIn_93 (by decide) ?_
      refine ga_iload_n hC dX12_reachesIn_95 1 rfl rfl ?_
      refine ga_imul hC dX12_reachesIn_96 ?_
      refine ga_iload hC dX12_reachesIn_97 4 rfl ?_
      refine ga_iadd hC dX12_reachesIn_99 ?_
      obtain ⟨h4, h⟩ := h
      refine ga_zald hC aM_20 (by decide) h4 dX12_reachesIn_100 ?_
      refine ga_if_ne (tgt := 119) hC dX12_reachesIn_101 (by decide) (fun hc => ?_) (fun hc => ?_)
      · have h := h.1 hc
        refine ga_iconst (v := 1) hC dX12_reachesIn_119 (by decide) ?_
        refine ga_goto (tgt := 124) hC dX12_reachesIn_120 (by decide) ?_
        obtain ⟨h5, h⟩ := h
        refine ga_zast hC aM_20 (by decide) h5 dX12_reachesIn_124 ?_
        refine ga_sig (σ := cg_i s2 20 ((7 * v1) + v4).toNatClampNeg (vp_nar .boolean 1)) (fun s6 es6 => ?_)
        have h := h s6 es6
        refine ga_iinc (v := v4 + 1) (lv' := [(4, .int (v4 + 1)), (0, .ref (ad 0)), (1, .int v1), (2, .int v2), (3, .int v3)]) hC dX12_reachesIn_125 4 rfl rfl (by decide) rfl ?_
        refine ga_goto (tgt := 61) hC dX12_reachesIn_128 (by decide) ?_
        refine ga_locals [1, 2, 3, 4, 0] rfl ?_
        exact h p l e s m args below meth c D cy ad hC
      · have h := h.2 hc
        refine ga_aload_n hC dX12_reachesIn_104 0 rfl rfl ?_
        refine gM_0_15 hC q_6_100 dX12_reachesIn_105 ?_
        refine ga_bipush (v := 7) hC dX12_reachesIn_108 (by decide) ?_
        refine ga_iload_n hC dX12_reachesIn_110 3 rfl rfl ?_
        refine ga_imul hC dX12_reachesIn_111 ?_
        refine ga_iload hC dX12_reachesIn_112 4 rfl ?_
        refine ga_iadd hC dX12_reachesIn_114 ?_
        obtain ⟨h7, h⟩ := h
        refine ga_iald hC aM_10 (by decide) h7 dX12_reachesIn_115 ?_
        refine ga_if_le (tgt := 123) hC dX12_reachesIn_116 (by decide) (fun hc => ?_) (fun hc => ?_)
        · have h := h.1 hc
          refine ga_iconst (v := 0) hC dX12_reachesIn_123 (by decide) ?_
          obtain ⟨h8, h⟩ := h
          refine ga_zast hC aM_20 (by decide) h8 dX12_reachesIn_124 ?_
          refine ga_sig (σ := cg_i s2 20 ((7 * v1) + v4).toNatClampNeg (vp_nar .boolean 0)) (fun s9 es9 => ?_)
          have h := h s9 es9
          refine ga_iinc (v := v4 + 1) (lv' := [(4, .int (v4 + 1)), (0, .ref (ad 0)), (1, .int v1), (2, .int v2), (3, .int v3)]) hC dX12_reachesIn_125 4 rfl rfl (by decide) rfl ?_
          refine ga_goto (tgt := 61) hC dX12_reachesIn_128 (by decide) ?_
          refine ga_locals [1, 2, 3, 4, 0] rfl ?_
          exact h p l e s m args below meth c D cy ad hC
        · have h := h.2 hc
          refine ga_iconst (v := 1) hC dX12_reachesIn_119 (by decide) ?_
          refine ga_goto (tgt := 124) hC dX12_reachesIn_120 (by decide) ?_
          obtain ⟨h10, h⟩ := h
          refine ga_zast hC aM_20 (by decide) h10 dX12_reachesIn_124 ?_
          refine ga_sig (σ := cg_i s2 20 ((7 * v1) + v4).toNatClampNeg (vp_nar .boolean 1)) (fun s11 es11 => ?_)
          have h := h s11 es11
          refine ga_iinc (v := v4 + 1) (lv' := [(4, .int (v4 + 1)), (0, .ref (ad 0)), (1, .int v1), (2, .int v2), (3, .int v3)]) hC dX12_reachesIn_125 4 rfl rfl (by decide) rfl ?_
          refine ga_goto (tgt := 61) hC dX12_reachesIn_128 (by decide) ?_
          refine ga_locals [1, 2, 3, 4, 0] rfl ?_
          exact h p l e s m args below meth c D cy ad hC
set_option maxRecDepth 100000 in
set_option maxHeartbeats 4000000 in
theorem v_X12_reachesIn_33 {v1 : Int32} {v2 : Int32} {σ : cg_S} {Q : cg_S → Prop}
    (h : vp_in v1 7 ∧ ((σ.1 3 v1.toNatClampNeg) ≤ v2 → L_X12_reachesIn_23 (v1 + 1) σ Q) ∧ (¬ (σ.1 3 v1.toNatClampNeg) ≤ v2 → vp_in v1 7 ∧ ((σ.1 16 v1.toNatClampNeg) = 0 → L_X12_reachesIn_23 (v1 + 1) σ Q) ∧ (¬ (σ.1 16 v1.toNatClampNeg) = 0 → ∀ x3 : Int32, x3 = (3 * v1) + v2 → L_X12_reachesIn_61 v1 v2 x3 0 σ Q))) : L_X12_reachesIn_33 v1 v2 σ Q := by
  intro p l e s m args below meth c D cy ad hC
  refine ga_iload_n hC dX12_reachesIn_33 2 rfl rfl ?_
  refine ga_aload_n hC dX12_reachesIn_34 0 rfl rfl ?_
  refine gM_0_8 hC q_6_93 dX12_reachesIn_35 ?_
  refine ga_iload_n hC dX12_reachesIn_38 1 rfl rfl ?_
  obtain ⟨h1, h⟩ := h
  refine ga_iald hC aM_3 (by decide) h1 dX12_reachesIn_39 ?_
  refine ga_icmp_ge (tgt := 137) hC dX12_reachesIn_40 (by decide) (fun hc => ?_) (fun hc => ?_)
  · have h := h.1 hc
    refine ga_iinc (v := v1 + 1) (lv' := [(1, .int (v1 + 1)), (0, .ref (ad 0)), (2, .int v2)]) hC dX12_reachesIn_137 1 rfl rfl (by decide) rfl ?_
    refine ga_goto (tgt := 23) hC dX12_reachesIn_140 (by decide) ?_
    refine ga_locals [1, 0] rfl ?_
    exact h p l e s m args below meth c D cy ad hC
  · have h := h.2 hc
    refine ga_aload_n hC dX12_reachesIn_43 0 rfl rfl ?_
    refine gM_0_17 hC q_6_102 dX12_reachesIn_44 ?_
    refine ga_iload_n hC dX12_reachesIn_47 1 rfl rfl ?_
    obtain ⟨h2, h⟩ := h
    refine ga_zald hC aM_16 (by decide) h2 dX12_reachesIn_48 ?_
    refine ga_if_eq (tgt := 137) hC dX12_reachesIn_49 (by decide) (fun hc => ?_) (fun hc => ?_)
    · have h := h.1 hc
      refine ga_iinc (v := v1 + 1) (lv' := [(1, .int (v1 + 1)), (0, .ref (ad 0)), (2, .int v2)]) hC dX12_reachesIn_137 1 rfl rfl (by decide) rfl ?_
      refine ga_goto (tgt := 23) hC dX12_reachesIn_140 (by decide) ?_
      refine ga_locals [1, 0] rfl ?_
      exact h p l e s m args below meth c D cy ad hC
    · have h := h.2 hc
      refine ga_iconst (v := 3) hC dX12_reachesIn_52 (by decide) ?_
      refine ga_iload_n hC dX12_reachesIn_53 1 rfl rfl ?_
      refine ga_imul hC dX12_reachesIn_54 ?_
      refine ga_iload_n hC dX12_reachesIn_55 2 rfl rfl ?_
      refine ga_iadd hC dX12_reachesIn_56 ?_
      refine ga_topi (fun x3 ex3 => ?_)
      have h := h x3 ex3
      refine ga_istore_n (lv' := [(3, .int x3), (0, .ref (ad 0)), (1, .int v1), (2, .int v2)]) hC dX12_reachesIn_57 rfl (by decide) rfl ?_
      refine ga_iconst (v := 0) hC dX12_reachesIn_58 (by decide) ?_
      refine ga_istore (lv' := [(4, .int 0), (3, .int x3), (0, .ref (ad 0)), (1, .int v1), (2, .int v2)]) hC dX12_reachesIn_59 (by decide) rfl ?_
      refine ga_locals [2, 3, 4, 1, 0] rfl ?_
      exact h p l e s m args below meth c D cy ad hC
set_option maxRecDepth 100000 in
set_option maxHeartbeats 4000000 in
theorem v_X12_reachesIn_23 {v1 : Int32} {σ : cg_S} {Q : cg_S → Prop}
    (h : ((σ.1 0 1) ≤ v1 → L_X12_reachesIn_145 0 σ Q) ∧ (¬ (σ.1 0 1) ≤ v1 → L_X12_reachesIn_33 v1 0 σ Q)) : L_X12_reachesIn_23 v1 σ Q := by
  intro p l e s m args below meth c D cy ad hC
  refine ga_iload_n hC dX12_reachesIn_23 1 rfl rfl ?_
  refine ga_aload_n hC dX12_reachesIn_24 0 rfl rfl ?_
  refine gM_0_1 hC q_6_86 dX12_reachesIn_25 ?_
  refine ga_icmp_ge (tgt := 143) hC dX12_reachesIn_28 (by decide) (fun hc => ?_) (fun hc => ?_)
  · have h := h.1 hc
    refine ga_iconst (v := 0) hC dX12_reachesIn_143 (by decide) ?_
    refine ga_istore_n (lv' := [(1, .int 0), (0, .ref (ad 0))]) hC dX12_reachesIn_144 rfl (by decide) rfl ?_
    refine ga_locals [1, 0] rfl ?_
    exact h p l e s m args below meth c D cy ad hC
  · have h := h.2 hc
    refine ga_iconst (v := 0) hC dX12_reachesIn_31 (by decide) ?_
    refine ga_istore_n (lv' := [(2, .int 0), (0, .ref (ad 0)), (1, .int v1)]) hC dX12_reachesIn_32 rfl (by decide) rfl ?_
    refine ga_locals [1, 2, 0] rfl ?_
    exact h p l e s m args below meth c D cy ad hC
set_option maxRecDepth 100000 in
set_option maxHeartbeats 4000000 in
theorem v_X12_reachesIn_2 {v1 : Int32} {σ : cg_S} {Q : cg_S → Prop}
    (h : (49 ≤ v1 → L_X12_reachesIn_23 0 σ Q) ∧ (¬ 49 ≤ v1 → vp_in v1 49 ∧ ∀ s2 : cg_S, s2 = cg_i σ 20 v1.toNatClampNeg (vp_nar .boolean 0) → L_X12_reachesIn_2 (v1 + 1) s2 Q)) : L_X12_reachesIn_2 v1 σ Q := by
  intro p l e s m args below meth c D cy ad hC
  refine ga_iload_n hC dX12_reachesIn_2 1 rfl rfl ?_
  refine ga_bipush (v := 49) hC dX12_reachesIn_3 (by decide) ?_
  refine ga_icmp_ge (tgt := 21) hC dX12_reachesIn_5 (by decide) (fun hc => ?_) (fun hc => ?_)
  · have h := h.1 hc
    refine ga_iconst (v := 0) hC dX12_reachesIn_21 (by decide) ?_
    refine ga_istore_n (lv' := [(1, .int 0), (0, .ref (ad 0))]) hC dX12_reachesIn_22 rfl (by decide) rfl ?_
    refine ga_locals [1, 0] rfl ?_
    exact h p l e s m args below meth c D cy ad hC
  · have h := h.2 hc
    refine ga_aload_n hC dX12_reachesIn_8 0 rfl rfl ?_
    refine gM_0_31 hC q_6_116 dX12_reachesIn_9 ?_
    refine ga_iload_n hC dX12_reachesIn_12 1 rfl rfl ?_
    refine ga_iconst (v := 0) hC dX12_reachesIn_13 (by decide) ?_
    obtain ⟨h1, h⟩ := h
    refine ga_zast hC aM_20 (by decide) h1 dX12_reachesIn_14 ?_
    refine ga_sig (σ := cg_i σ 20 v1.toNatClampNeg (vp_nar .boolean 0)) (fun s2 es2 => ?_)
    have h := h s2 es2
    refine ga_iinc (v := v1 + 1) (lv' := [(1, .int (v1 + 1)), (0, .ref (ad 0))]) hC dX12_reachesIn_15 1 rfl rfl (by decide) rfl ?_
    refine ga_goto (tgt := 2) hC dX12_reachesIn_18 (by decide) ?_
    refine ga_locals [1, 0] rfl ?_
    exact h p l e s m args below meth c D cy ad hC
set_option maxRecDepth 100000 in
set_option maxHeartbeats 4000000 in
theorem v_X12_reachesIn {σ : cg_S} {Q : cg_S → Prop}
    (h : L_X12_reachesIn_2 0 σ Q) : M_X12_reachesIn σ Q := by
  refine cg_entry (lv := fun ad => [(0, .ref (ad 0))]) (by decide +kernel) (fun _ => rfl) (fun _ => Nat.le_of_ble_eq_true rfl) ?_
  intro p l e s m args below meth c D cy ad hC
  refine ga_iconst (v := 0) hC dX12_reachesIn_0 (by decide) ?_
  refine ga_istore_n (lv' := [(1, .int 0), (0, .ref (ad 0))]) hC dX12_reachesIn_1 rfl (by decide) rfl ?_
  refine ga_locals [1, 0] rfl ?_
  exact h p l e s m args below meth c D cy ad hC
def M_X12_isEnd (σ : cg_S) (Q : Int32 → cg_S → Prop) : Prop := cg_M cg_WM yX12_isEnd cX12_isEnd 3 (some .boolean) (cg_R 2) (fun ad => [.ref (ad 0)]) σ (cg_qi Q)
theorem M_X12_isEnd.mono {σ : cg_S} {Q Q2 : Int32 → cg_S → Prop} (h : M_X12_isEnd σ Q) (hq : ∀ r τ, Q r τ → Q2 r τ) : M_X12_isEnd σ Q2 := cg_M.mono h (fun ad v τ ⟨r, e, q⟩ => ⟨r, e, hq r τ q⟩)
def L_X12_isEnd_6 (v1 : Int32) (σ : cg_S) (Q : Int32 → cg_S → Prop) : Prop := cg_L cg_WM RX12 cX12_isEnd 3 (some .boolean) (cg_R 2) 6 (fun ad => [(0, .ref (ad 0)), (1, .int v1)]) (fun ad => []) σ (cg_qi Q)
def L_X12_isEnd_16 (v1 : Int32) (v2 : Int32) (σ : cg_S) (Q : Int32 → cg_S → Prop) : Prop := cg_L cg_WM RX12 cX12_isEnd 3 (some .boolean) (cg_R 2) 16 (fun ad => [(0, .ref (ad 0)), (1, .int v1), (2, .int v2)]) (fun ad => []) σ (cg_qi Q)
set_option maxRecDepth 100000 in
set_option maxHeartbeats 4000000 in
theorem v_X12_isEnd_16 {v1 : Int32} {v2 : Int32} {σ : cg_S} {Q : Int32 → cg_S → Prop}
    (h : ((σ.1 0 1) ≤ v2 → L_X12_isEnd_6 (v1 + 1) σ Q) ∧ (¬ (σ.1 0 1) ≤ v2 → vp_in v1 7 ∧ ((σ.1 16 v1.toNatClampNeg) = 0 → L_X12_isEnd_16 v1 (v2 + 1) σ Q) ∧ (¬ (σ.1 16 v1.toNatClampNeg) = 0 → vp_in v2 7 ∧ ((σ.1 16 v2.toNatClampNeg) = 0 → L_X12_isEnd_16 v1 (v2 + 1) σ Q) ∧ (¬ (σ.1 16 v2.toNatClampNeg) = 0 → vp_in ((7 * v1) + v2) 49 ∧ (¬ (σ.1 20 ((7 * v1) + v2).toNatClampNeg) = 0 → L_X12_isEnd_16 v1 (v2 + 1) σ Q) ∧ ((σ.1 20 ((7 * v1) + v2).toNatClampNeg) = 0 → Q 0 σ))))) : L_X12_isEnd_16 v1 v2 σ Q := by
  intro p l e s m args below meth c D cy ad hC
  refine ga_iload_n hC dX12_isEnd_16 2 rfl rfl ?_
  refine ga_aload_n hC dX12_isEnd_17 0 rfl rfl ?_
  refine gM_0_1 hC q_6_86 dX12_isEnd_18 ?_
  refine ga_icmp_ge (tgt := 64) hC dX12_isEnd_21 (by decide) (fun hc => ?_) (fun hc => ?_)
  · have h := h.1 hc
    refine ga_iinc (v := v1 + 1) (lv' := [(1, .int (v1 + 1)), (0, .ref (ad 0)), (2, .int v2)]) hC dX12_isEnd_64 1 rfl rfl (by decide) rfl ?_
    refine ga_goto (tgt := 6) hC dX12_isEnd_67 (by decide) ?_
    refine ga_locals [1, 0] rfl ?_
    exact h p l e s m args below meth c D cy ad hC
  · have h := h.2 hc
    refine ga_aload_n hC dX12_isEnd_24 0 rfl rfl ?_
    refine gM_0_17 hC q_6_102 dX12_isEnd_25 ?_
    refine ga_iload_n hC dX12_isEnd_28 1 rfl rfl ?_
    obtain ⟨h1, h⟩ := h
    refine ga_zald hC aM_16 (by decide) h1 dX12_isEnd_29 ?_
    refine ga_if_eq (tgt := 58) hC dX12_isEnd_30 (by decide) (fun hc => ?_) (fun hc => ?_)
    · have h := h.1 hc
      refine ga_iinc (v := v2 + 1) (lv' := [(2, .int (v2 + 1)), (0, .ref (ad 0)), (1, .int v1)]) hC dX12_isEnd_58 2 rfl rfl (by decide) rfl ?_
      refine ga_goto (tgt := 16) hC dX12_isEnd_61 (by decide) ?_
      refine ga_locals [1, 2, 0] rfl ?_
      exact h p l e s m args below meth c D cy ad hC
    · have h := h.2 hc
      refine ga_aload_n hC dX12_isEnd_33 0 rfl rfl ?_
      refine gM_0_17 hC q_6_102 dX12_isEnd_34 ?_
      refine ga_iload_n hC dX12_isEnd_37 2 rfl rfl ?_
      obtain ⟨h2, h⟩ := h
      refine ga_zald hC aM_16 (by decide) h2 dX12_isEnd_38 ?_
      refine ga_if_eq (tgt := 58) hC dX12_isEnd_39 (by decide) (fun hc => ?_) (fun hc => ?_)
      · have h := h.1 hc
        refine ga_iinc (v := v2 + 1) (lv' := [(2, .int (v2 + 1)), (0, .ref (ad 0)), (1, .int v1)]) hC dX12_isEnd_58 2 rfl rfl (by decide) rfl ?_
        refine ga_goto (tgt := 16) hC dX12_isEnd_61 (by decide) ?_
        refine ga_locals [1, 2, 0] rfl ?_
        exact h p l e s m args below meth c D cy ad hC
      · have h := h.2 hc
        refine ga_aload_n hC dX12_isEnd_42 0 rfl rfl ?_
        refine gM_0_31 hC q_6_116 dX12_isEnd_43 ?_
        refine ga_bipush (v := 7) hC dX12_isEnd_46 (by decide) ?_
        refine ga_iload_n hC dX12_isEnd_48 1 rfl rfl ?_
        refine ga_imul hC dX12_isEnd_49 ?_
        refine ga_iload_n hC dX12_isEnd_50 2 rfl rfl ?_
        refine ga_iadd hC dX12_isEnd_51 ?_
        obtain ⟨h3, h⟩ := h
        refine ga_zald hC aM_20 (by decide) h3 dX12_isEnd_52 ?_
        refine ga_if_ne (tgt := 58) hC dX12_isEnd_53 (by decide) (fun hc => ?_) (fun hc => ?_)
        · have h := h.1 hc
          refine ga_iinc (v := v2 + 1) (lv' := [(2, .int (v2 + 1)), (0, .ref (ad 0)), (1, .int v1)]) hC dX12_isEnd_58 2 rfl rfl (by decide) rfl ?_
          refine ga_goto (tgt := 16) hC dX12_isEnd_61 (by decide) ?_
          refine ga_locals [1, 2, 0] rfl ?_
          exact h p l e s m args below meth c D cy ad hC
        · have h := h.2 hc
          refine ga_iconst (v := 0) hC dX12_isEnd_56 (by decide) ?_
          exact ga_zret hC dX12_isEnd_57 (by decide) ⟨_, rfl, h⟩
set_option maxRecDepth 100000 in
set_option maxHeartbeats 4000000 in
theorem v_X12_isEnd_6 {v1 : Int32} {σ : cg_S} {Q : Int32 → cg_S → Prop}
    (h : ((σ.1 0 1) ≤ v1 → Q 1 σ) ∧ (¬ (σ.1 0 1) ≤ v1 → L_X12_isEnd_16 v1 0 σ Q)) : L_X12_isEnd_6 v1 σ Q := by
  intro p l e s m args below meth c D cy ad hC
  refine ga_iload_n hC dX12_isEnd_6 1 rfl rfl ?_
  refine ga_aload_n hC dX12_isEnd_7 0 rfl rfl ?_
  refine gM_0_1 hC q_6_86 dX12_isEnd_8 ?_
  refine ga_icmp_ge (tgt := 70) hC dX12_isEnd_11 (by decide) (fun hc => ?_) (fun hc => ?_)
  · have h := h.1 hc
    refine ga_iconst (v := 1) hC dX12_isEnd_70 (by decide) ?_
    exact ga_zret hC dX12_isEnd_71 (by decide) ⟨_, rfl, h⟩
  · have h := h.2 hc
    refine ga_iconst (v := 0) hC dX12_isEnd_14 (by decide) ?_
    refine ga_istore_n (lv' := [(2, .int 0), (0, .ref (ad 0)), (1, .int v1)]) hC dX12_isEnd_15 rfl (by decide) rfl ?_
    refine ga_locals [1, 2, 0] rfl ?_
    exact h p l e s m args below meth c D cy ad hC
set_option maxRecDepth 100000 in
set_option maxHeartbeats 4000000 in
theorem v_X12_isEnd {σ : cg_S} {Q : Int32 → cg_S → Prop}
    (h : M_X12_reachesIn σ (fun s2 => L_X12_isEnd_6 0 s2 Q)) : M_X12_isEnd σ Q := by
  refine cg_entry (lv := fun ad => [(0, .ref (ad 0))]) (by decide +kernel) (fun _ => rfl) (fun _ => Nat.le_of_ble_eq_true rfl) ?_
  intro p l e s m args below meth c D cy ad hC
  refine ga_aload_n hC dX12_isEnd_0 0 rfl rfl ?_
  refine ga_callV (As := []) (st := []) (k := 0) (n := 0) hC h q_8_37 q_8_39 q_0_52 q_1_13 q_8_40 rfl rfl rfl (by decide +kernel) ⟨Nat.le_of_ble_eq_true rfl, Nat.le_of_ble_eq_true rfl⟩ ⟨Nat.le_of_ble_eq_true rfl, Nat.le_of_ble_eq_true rfl⟩ rfl rfl rfl (by decide) rfl (Nat.le_of_ble_eq_true rfl) dX12_isEnd_1 (fun v τ hq => ?_)
  obtain ⟨rfl, h⟩ := hq
  obtain ⟨s2, es2⟩ : ∃ z, z = τ := ⟨_, rfl⟩
  rw [← es2] at h ⊢
  clear es2
  refine ga_iconst (v := 0) hC dX12_isEnd_4 (by decide) ?_
  refine ga_istore_n (lv' := [(1, .int 0), (0, .ref (ad 0))]) hC dX12_isEnd_5 rfl (by decide) rfl ?_
  refine ga_locals [1, 0] rfl ?_
  exact h p l e s m args below meth c D cy ad hC
def M_X12_endOf (v1 : Int32) (σ : cg_S) (Q : Int32 → cg_S → Prop) : Prop := cg_M cg_WM yX12_endOf cX12_endOf 5 (some .int) (cg_R 3) (fun ad => [.ref (ad 0), .int v1]) σ (cg_qi Q)
theorem M_X12_endOf.mono {v1 : Int32} {σ : cg_S} {Q Q2 : Int32 → cg_S → Prop} (h : M_X12_endOf v1 σ Q) (hq : ∀ r τ, Q r τ → Q2 r τ) : M_X12_endOf v1 σ Q2 := cg_M.mono h (fun ad v τ ⟨r, e, q⟩ => ⟨r, e, hq r τ q⟩)
def L_X12_endOf_14 (v1 : Int32) (v2 : Int32) (v3 : Int32) (σ : cg_S) (Q : Int32 → cg_S → Prop) : Prop := cg_L cg_WM RX12 cX12_endOf 5 (some .int) (cg_R 3) 14 (fun ad => [(0, .ref (ad 0)), (1, .int v1), (2, .int v2), (3, .int v3)]) (fun ad => []) σ (cg_qi Q)
def L_X12_endOf_38 (v1 : Int32) (v2 : Int32) (v3 : Int32) (v4 : Int32) (σ : cg_S) (Q : Int32 → cg_S → Prop) : Prop := cg_L cg_WM RX12 cX12_endOf 5 (some .int) (cg_R 3) 38 (fun ad => [(0, .ref (ad 0)), (1, .int v1), (2, .int v2), (3, .int v3), (4, .int v4)]) (fun ad => []) σ (cg_qi Q)
def L_X12_endOf_88 (v1 : Int32) (v2 : Int32) (v3 : Int32) (v4 : Int32) (σ : cg_S) (Q : Int32 → cg_S → Prop) : Prop := cg_L cg_WM RX12 cX12_endOf 5 (some .int) (cg_R 3) 88 (fun ad => [(0, .ref (ad 0)), (1, .int v1), (2, .int v2), (3, .int v3), (4, .int v4)]) (fun ad => []) σ (cg_qi Q)
set_option maxRecDepth 100000 in
set_option maxHeartbeats 4000000 in
theorem v_X12_endOf_88 {v1 : Int32} {v2 : Int32} {v3 : Int32} {v4 : Int32} {σ : cg_S} {Q : Int32 → cg_S → Prop}
    (h : vp_in v4 7 ∧ (¬ (σ.1 16 v4.toNatClampNeg) = 0 → (v2 = (-1) → L_X12_endOf_14 v1 v4 (v3 + 1) σ Q) ∧ (¬ v2 = (-1) → (v2 ≤ v4 → L_X12_endOf_14 v1 v2 (v3 + 1) σ Q) ∧ (¬ v2 ≤ v4 → L_X12_endOf_14 v1 v4 (v3 + 1) σ Q))) ∧ ((σ.1 16 v4.toNatClampNeg) = 0 → L_X12_endOf_88 v1 v2 v3 (v4 + 1) σ Q)) : L_X12_endOf_88 v1 v2 v3 v4 σ Q := by
  intro p l e s m args below meth c D cy ad hC
  refine ga_aload_n hC dX12_endOf_88 0 rfl rfl ?_
  refine gM_0_17 hC q_6_102 dX12_endOf_89 ?_
  refine ga_iload hC dX12_endOf_92 4 rfl ?_
  obtain ⟨h1, h⟩ := h
  refine ga_zald hC aM_16 (by decide) h1 dX12_endOf_94 ?_
  refine ga_if_ne (tgt := 104) hC dX12_endOf_95 (by decide) (fun hc => ?_) (fun hc => ?_)
  · have h := h.1 hc
    refine ga_iload_n hC dX12_endOf_104 2 rfl rfl ?_
    refine ga_iconst (v := (-1)) hC dX12_endOf_105 (by decide) ?_
    refine ga_icmp_eq (tgt := 115) hC dX12_endOf_106 (by decide) (fun hc => ?_) (fun hc => ?_)
    · have h := h.1 hc
      refine ga_iload hC dX12_endOf_115 4 rfl ?_
      refine ga_goto (tgt := 121) hC dX12_endOf_117 (by decide) ?_
      refine ga_istore_n (lv' := [(2, .int v4), (0, .ref (ad 0)), (1, .int v1), (3, .int v3), (4, .int v4)]) hC dX12_endOf_121 rfl (by decide) rfl ?_
      refine ga_iinc (v := v3 + 1) (lv' := [(3, .int (v3 + 1)), (2, .int v4), (0, .ref (ad 0)), (1, .int v1), (4, .int v4)]) hC dX12_endOf_122 3 rfl rfl (by decide) rfl ?_
      refine ga_goto (tgt := 14) hC dX12_endOf_125 (by decide) ?_
      refine ga_locals [2, 3, 1, 0] rfl ?_
      exact h p l e s m args below meth c D cy ad hC
    · have h := h.2 hc
      refine ga_iload hC dX12_endOf_109 4 rfl ?_
      refine ga_iload_n hC dX12_endOf_111 2 rfl rfl ?_
      refine ga_icmp_ge (tgt := 120) hC dX12_endOf_112 (by decide) (fun hc => ?_) (fun hc => ?_)
      · have h := h.1 hc
        refine ga_iload_n hC dX12_endOf_120 2 rfl rfl ?_
        refine ga_istore_n (lv' := [(2, .int v2), (0, .ref (ad 0)), (1, .int v1), (3, .int v3), (4, .int v4)]) hC dX12_endOf_121 rfl (by decide) rfl ?_
        refine ga_iinc (v := v3 + 1) (lv' := [(3, .int (v3 + 1)), (2, .int v2), (0, .ref (ad 0)), (1, .int v1), (4, .int v4)]) hC dX12_endOf_122 3 rfl rfl (by decide) rfl ?_
        refine ga_goto (tgt := 14) hC dX12_endOf_125 (by decide) ?_
        refine ga_locals [2, 3, 1, 0] rfl ?_
        exact h p l e s m args below meth c D cy ad hC
      · have h := h.2 hc
        refine ga_iload hC dX12_endOf_115 4 rfl ?_
        refine ga_goto (tgt := 121) hC dX12_endOf_117 (by decide) ?_
        refine ga_istore_n (lv' := [(2, .int v4), (0, .ref (ad 0)), (1, .int v1), (3, .int v3), (4, .int v4)]) hC dX12_endOf_121 rfl (by decide) rfl ?_
        refine ga_iinc (v := v3 + 1) (lv' := [(3, .int (v3 + 1)), (2, .int v4), (0, .ref (ad 0)), (1, .int v1), (4, .int v4)]) hC dX12_endOf_122 3 rfl rfl (by decide) rfl ?_
        refine ga_goto (tgt := 14) hC dX12_endOf_125 (by decide) ?_
        refine ga_locals [2, 3, 1, 0] rfl ?_
        exact h p l e s m args below meth c D cy ad hC
  · have h := h.2 hc
    refine ga_iinc (v := v4 + 1) (lv' := [(4, .int (v4 + 1)), (0, .ref (ad 0)), (1, .int v1), (2, .int v2), (3, .int v3)]) hC dX12_endOf_98 4 rfl rfl (by decide) rfl ?_
    refine ga_goto (tgt := 88) hC dX12_endOf_101 (by decide) ?_
    refine ga_locals [1, 2, 3, 4, 0] rfl ?_
    exact h p l e s m args below meth c D cy ad hC
set_option maxRecDepth 100000 in
set_option maxHeartbeats 4000000 in
theorem v_X12_endOf_38 {v1 : Int32} {v2 : Int32} {v3 : Int32} {v4 : Int32} {σ : cg_S} {Q : Int32 → cg_S → Prop}
    (h : ((σ.1 0 1) ≤ v4 → M_X12_isEnd σ (fun r1 s2 => (¬ r1 = 0 → L_X12_endOf_88 v1 v2 v3 0 s2 Q) ∧ (r1 = 0 → L_X12_endOf_14 v1 v2 (v3 + 1) s2 Q))) ∧ (¬ (σ.1 0 1) ≤ v4 → (¬ ((v3 >>> (v4 &&& 31)) &&& 1) = 1 → vp_in v4 7 ∧ ∀ s5 : cg_S, s5 = cg_i σ 16 v4.toNatClampNeg (vp_nar .boolean 0) → L_X12_endOf_38 v1 v2 v3 (v4 + 1) s5 Q) ∧ (((v3 >>> (v4 &&& 31)) &&& 1) = 1 → vp_in v4 7 ∧ ∀ s7 : cg_S, s7 = cg_i σ 16 v4.toNatClampNeg (vp_nar .boolean 1) → L_X12_endOf_38 v1 v2 v3 (v4 + 1) s7 Q))) : L_X12_endOf_38 v1 v2 v3 v4 σ Q := by
  intro p l e s m args below meth c D cy ad hC
  refine ga_iload hC dX12_endOf_38 4 rfl ?_
  refine ga_aload_n hC dX12_endOf_40 0 rfl rfl ?_
  refine gM_0_1 hC q_6_86 dX12_endOf_41 ?_
  refine ga_icmp_ge (tgt := 75) hC dX12_endOf_44 (by decide) (fun hc => ?_) (fun hc => ?_)
  · have h := h.1 hc
    refine ga_aload_n hC dX12_endOf_75 0 rfl rfl ?_
    refine ga_callV (As := []) (st := []) (k := 0) (n := 0) hC h q_8_33 q_8_35 q_0_51 q_1_13 q_8_36 rfl rfl rfl (by decide +kernel) ⟨Nat.le_of_ble_eq_true rfl, Nat.le_of_ble_eq_true rfl⟩ ⟨Nat.le_of_ble_eq_true rfl, Nat.le_of_ble_eq_true rfl⟩ rfl rfl rfl (by decide) rfl (Nat.le_of_ble_eq_true rfl) dX12_endOf_76 (fun v τ hq => ?_)
    obtain ⟨r1, rfl, h⟩ := hq
    obtain ⟨s2, es2⟩ : ∃ z, z = τ := ⟨_, rfl⟩
    rw [← es2] at h ⊢
    clear es2
    refine ga_if_ne (tgt := 85) hC dX12_endOf_79 (by decide) (fun hc => ?_) (fun hc => ?_)
    · have h := h.1 hc
      refine ga_iconst (v := 0) hC dX12_endOf_85 (by decide) ?_
      refine ga_istore (lv' := [(4, .int 0), (0, .ref (ad 0)), (1, .int v1), (2, .int v2), (3, .int v3)]) hC dX12_endOf_86 (by decide) rfl ?_
      refine ga_locals [1, 2, 3, 4, 0] rfl ?_
      exact h p l e s m args below meth c D cy ad hC
    · have h := h.2 hc
      refine ga_goto (tgt := 122) hC dX12_endOf_82 (by decide) ?_
      refine ga_iinc (v := v3 + 1) (lv' := [(3, .int (v3 + 1)), (0, .ref (ad 0)), (1, .int v1), (2, .int v2), (4, .int v4)]) hC dX12_endOf_122 3 rfl rfl (by decide) rfl ?_
      refine ga_goto (tgt := 14) hC dX12_endOf_125 (by decide) ?_
      refine ga_locals [1, 2, 3, 0] rfl ?_
      exact h p l e s m args below meth c D cy ad hC
  · have h := h.2 hc
    refine ga_aload_n hC dX12_endOf_47 0 rfl rfl ?_
    refine gM_0_17 hC q_6_102 dX12_endOf_48 ?_
    refine ga_iload hC dX12_endOf_51 4 rfl ?_
    refine ga_iload_n hC dX12_endOf_53 3 rfl rfl ?_
    refine ga_iload hC dX12_endOf_54 4 rfl ?_
    refine ga_ishr hC dX12_endOf_56 ?_
    refine ga_iconst (v := 1) hC dX12_endOf_57 (by decide) ?_
    refine ga_iand hC dX12_endOf_58 ?_
    refine ga_iconst (v := 1) hC dX12_endOf_59 (by decide) ?_
    refine ga_icmp_ne (tgt := 67) hC dX12_endOf_60 (by decide) (fun hc => ?_) (fun hc => ?_)
    · have h := h.1 hc
      refine ga_iconst (v := 0) hC dX12_endOf_67 (by decide) ?_
      obtain ⟨h4, h⟩ := h
      refine ga_zast hC aM_16 (by decide) h4 dX12_endOf_68 ?_
      refine ga_sig (σ := cg_i σ 16 v4.toNatClampNeg (vp_nar .boolean 0)) (fun s5 es5 => ?_)
      have h := h s5 es5
      refine ga_iinc (v := v4 + 1) (lv' := [(4, .int (v4 + 1)), (0, .ref (ad 0)), (1, .int v1), (2, .int v2), (3, .int v3)]) hC dX12_endOf_69 4 rfl rfl (by decide) rfl ?_
      refine ga_goto (tgt := 38) hC dX12_endOf_72 (by decide) ?_
      refine ga_locals [1, 2, 3, 4, 0] rfl ?_
      exact h p l e s m args below meth c D cy ad hC
    · have h := h.2 hc
      refine ga_iconst (v := 1) hC dX12_endOf_63 (by decide) ?_
      refine ga_goto (tgt := 68) hC dX12_endOf_64 (by decide) ?_
      obtain ⟨h6, h⟩ := h
      refine ga_zast hC aM_16 (by decide) h6 dX12_endOf_68 ?_
      refine ga_sig (σ := cg_i σ 16 v4.toNatClampNeg (vp_nar .boolean 1)) (fun s7 es7 => ?_)
      have h := h s7 es7
      refine ga_iinc (v := v4 + 1) (lv' := [(4, .int (v4 + 1)), (0, .ref (ad 0)), (1, .int v1), (2, .int v2), (3, .int v3)]) hC dX12_endOf_69 4 rfl rfl (by decide) rfl ?_
      refine ga_goto (tgt := 38) hC dX12_endOf_72 (by decide) ?_
      refine ga_locals [1, 2, 3, 4, 0] rfl ?_
      exact h p l e s m args below meth c D cy ad hC
set_option maxRecDepth 100000 in
set_option maxHeartbeats 4000000 in
theorem v_X12_endOf_14 {v1 : Int32} {v2 : Int32} {v3 : Int32} {σ : cg_S} {Q : Int32 → cg_S → Prop}
    (h : ((1 <<< ((σ.1 0 1) &&& 31)) ≤ v3 → (¬ v2 = (-1) → Q v2 σ) ∧ (v2 = (-1) → M_X12_fails 3 σ (fun r1 s2 => Q r1 s2))) ∧ (¬ (1 <<< ((σ.1 0 1) &&& 31)) ≤ v3 → (¬ ((v3 >>> (v1 &&& 31)) &&& 1) = 0 → L_X12_endOf_38 v1 v2 v3 0 σ Q) ∧ (((v3 >>> (v1 &&& 31)) &&& 1) = 0 → L_X12_endOf_14 v1 v2 (v3 + 1) σ Q))) : L_X12_endOf_14 v1 v2 v3 σ Q := by
  intro p l e s m args below meth c D cy ad hC
  refine ga_iload_n hC dX12_endOf_14 3 rfl rfl ?_
  refine ga_iconst (v := 1) hC dX12_endOf_15 (by decide) ?_
  refine ga_aload_n hC dX12_endOf_16 0 rfl rfl ?_
  refine gM_0_1 hC q_6_86 dX12_endOf_17 ?_
  refine ga_ishl hC dX12_endOf_20 ?_
  refine ga_icmp_ge (tgt := 128) hC dX12_endOf_21 (by decide) (fun hc => ?_) (fun hc => ?_)
  · have h := h.1 hc
    refine ga_iload_n hC dX12_endOf_128 2 rfl rfl ?_
    refine ga_iconst (v := (-1)) hC dX12_endOf_129 (by decide) ?_
    refine ga_icmp_ne (tgt := 141) hC dX12_endOf_130 (by decide) (fun hc => ?_) (fun hc => ?_)
    · have h := h.1 hc
      refine ga_iload_n hC dX12_endOf_141 2 rfl rfl ?_
      exact ga_iret hC dX12_endOf_142 ⟨_, rfl, h⟩
    · have h := h.2 hc
      refine ga_aload_n hC dX12_endOf_133 0 rfl rfl ?_
      refine ga_iconst (v := 3) hC dX12_endOf_134 (by decide) ?_
      refine ga_callV (As := [.int 3]) (st := []) (k := 0) (n := 1) hC h q_6_229 q_6_231 q_0_12 q_1_13 q_6_232 rfl rfl rfl (by decide +kernel) ⟨Nat.le_of_ble_eq_true rfl, Nat.le_of_ble_eq_true rfl⟩ ⟨Nat.le_of_ble_eq_true rfl, Nat.le_of_ble_eq_true rfl⟩ rfl rfl rfl (by decide) rfl (Nat.le_of_ble_eq_true rfl) dX12_endOf_135 (fun v τ hq => ?_)
      obtain ⟨r1, rfl, h⟩ := hq
      obtain ⟨s2, es2⟩ : ∃ z, z = τ := ⟨_, rfl⟩
      rw [← es2] at h ⊢
      clear es2
      refine ga_goto (tgt := 142) hC dX12_endOf_138 (by decide) ?_
      exact ga_iret hC dX12_endOf_142 ⟨_, rfl, h⟩
  · have h := h.2 hc
    refine ga_iload_n hC dX12_endOf_24 3 rfl rfl ?_
    refine ga_iload_n hC dX12_endOf_25 1 rfl rfl ?_
    refine ga_ishr hC dX12_endOf_26 ?_
    refine ga_iconst (v := 1) hC dX12_endOf_27 (by decide) ?_
    refine ga_iand hC dX12_endOf_28 ?_
    refine ga_if_ne (tgt := 35) hC dX12_endOf_29 (by decide) (fun hc => ?_) (fun hc => ?_)
    · have h := h.1 hc
      refine ga_iconst (v := 0) hC dX12_endOf_35 (by decide) ?_
      refine ga_istore (lv' := [(4, .int 0), (0, .ref (ad 0)), (1, .int v1), (2, .int v2), (3, .int v3)]) hC dX12_endOf_36 (by decide) rfl ?_
      refine ga_locals [1, 2, 3, 4, 0] rfl ?_
      exact h p l e s m args below meth c D cy ad hC
    · have h := h.2 hc
      refine ga_goto (tgt := 122) hC dX12_endOf_32 (by decide) ?_
      refine ga_iinc (v := v3 + 1) (lv' := [(3, .int (v3 + 1)), (0, .ref (ad 0)), (1, .int v1), (2, .int v2)]) hC dX12_endOf_122 3 rfl rfl (by decide) rfl ?_
      refine ga_goto (tgt := 14) hC dX12_endOf_125 (by decide) ?_
      refine ga_locals [1, 2, 3, 0] rfl ?_
      exact h p l e s m args below meth c D cy ad hC
set_option maxRecDepth 100000 in
set_option maxHeartbeats 4000000 in
theorem v_X12_endOf {v1 : Int32} {σ : cg_S} {Q : Int32 → cg_S → Prop}
    (h : M_X12_isGame v1 σ (fun r1 s2 => (¬ r1 = 0 → L_X12_endOf_14 v1 (-1) 1 s2 Q) ∧ (r1 = 0 → Q 0 s2))) : M_X12_endOf v1 σ Q := by
  refine cg_entry (lv := fun ad => [(0, .ref (ad 0)), (1, .int v1)]) (by decide +kernel) (fun _ => rfl) (fun _ => Nat.le_of_ble_eq_true rfl) ?_
  intro p l e s m args below meth c D cy ad hC
  refine ga_aload_n hC dX12_endOf_0 0 rfl rfl ?_
  refine ga_iload_n hC dX12_endOf_1 1 rfl rfl ?_
  refine ga_callV (As := [.int v1]) (st := []) (k := 0) (n := 1) hC h q_7_197 q_7_199 q_0_42 q_1_13 q_7_200 rfl rfl rfl (by decide +kernel) ⟨Nat.le_of_ble_eq_true rfl, Nat.le_of_ble_eq_true rfl⟩ ⟨Nat.le_of_ble_eq_true rfl, Nat.le_of_ble_eq_true rfl⟩ rfl rfl rfl (by decide) rfl (Nat.le_of_ble_eq_true rfl) dX12_endOf_2 (fun v τ hq => ?_)
  obtain ⟨r1, rfl, h⟩ := hq
  obtain ⟨s2, es2⟩ : ∃ z, z = τ := ⟨_, rfl⟩
  rw [← es2] at h ⊢
  clear es2
  refine ga_if_ne (tgt := 10) hC dX12_endOf_5 (by decide) (fun hc => ?_) (fun hc => ?_)
  · have h := h.1 hc
    refine ga_iconst (v := (-1)) hC dX12_endOf_10 (by decide) ?_
    refine ga_istore_n (lv' := [(2, .int (-1)), (0, .ref (ad 0)), (1, .int v1)]) hC dX12_endOf_11 rfl (by decide) rfl ?_
    refine ga_iconst (v := 1) hC dX12_endOf_12 (by decide) ?_
    refine ga_istore_n (lv' := [(3, .int 1), (2, .int (-1)), (0, .ref (ad 0)), (1, .int v1)]) hC dX12_endOf_13 rfl (by decide) rfl ?_
    refine ga_locals [2, 3, 1, 0] rfl ?_
    exact h p l e s m args below meth c D cy ad hC
  · have h := h.2 hc
    refine ga_iconst (v := 0) hC dX12_endOf_8 (by decide) ?_
    exact ga_iret hC dX12_endOf_9 ⟨_, rfl, h⟩
def M_X12_weightInto (v1 : Int32) (v2 : Int32) (σ : cg_S) (Q : Int32 → cg_S → Prop) : Prop := cg_M cg_WM yX12_weightInto cX12_weightInto 5 (some .int) (cg_R 0) (fun ad => [.ref (ad 0), .int v1, .int v2]) σ (cg_qi Q)
theorem M_X12_weightInto.mono {v1 : Int32} {v2 : Int32} {σ : cg_S} {Q Q2 : Int32 → cg_S → Prop} (h : M_X12_weightInto v1 v2 σ Q) (hq : ∀ r τ, Q r τ → Q2 r τ) : M_X12_weightInto v1 v2 σ Q2 := cg_M.mono h (fun ad v τ ⟨r, e, q⟩ => ⟨r, e, hq r τ q⟩)
def L_X12_weightInto_5 (v1 : Int32) (v2 : Int32) (v3 : Int32) (v4 : Int32) (σ : cg_S) (Q : Int32 → cg_S → Prop) : Prop := cg_L cg_WM RX12 cX12_weightInto 5 (some .int) (cg_R 0) 5 (fun ad => [(0, .ref (ad 0)), (1, .int v1), (2, .int v2), (3, .int v3), (4, .int v4)]) (fun ad => []) σ (cg_qi Q)
set_option maxRecDepth 100000 in
set_option maxHeartbeats 4000000 in
theorem v_X12_weightInto_5 {v1 : Int32} {v2 : Int32} {v3 : Int32} {v4 : Int32} {σ : cg_S} {Q : Int32 → cg_S → Prop}
    (h : ((σ.1 0 1) ≤ v4 → Q v3 σ) ∧ (¬ (σ.1 0 1) ≤ v4 → vp_in v4 7 ∧ (¬ (σ.1 11 v4.toNatClampNeg) = v2 → ∀ x2 : Int32, x2 = v3 + 0 → L_X12_weightInto_5 v1 v2 x2 (v4 + 1) σ Q) ∧ ((σ.1 11 v4.toNatClampNeg) = v2 → vp_in ((7 * v1) + v4) 147 ∧ ∀ x4 : Int32, x4 = v3 + (σ.1 10 ((7 * v1) + v4).toNatClampNeg) → L_X12_weightInto_5 v1 v2 x4 (v4 + 1) σ Q))) : L_X12_weightInto_5 v1 v2 v3 v4 σ Q := by
  intro p l e s m args below meth c D cy ad hC
  refine ga_iload hC dX12_weightInto_5 4 rfl ?_
  refine ga_aload_n hC dX12_weightInto_7 0 rfl rfl ?_
  refine gM_0_1 hC q_6_86 dX12_weightInto_8 ?_
  refine ga_icmp_ge (tgt := 50) hC dX12_weightInto_11 (by decide) (fun hc => ?_) (fun hc => ?_)
  · have h := h.1 hc
    refine ga_iload_n hC dX12_weightInto_50 3 rfl rfl ?_
    exact ga_iret hC dX12_weightInto_51 ⟨_, rfl, h⟩
  · have h := h.2 hc
    refine ga_iload_n hC dX12_weightInto_14 3 rfl rfl ?_
    refine ga_aload_n hC dX12_weightInto_15 0 rfl rfl ?_
    refine gM_0_32 hC q_6_117 dX12_weightInto_16 ?_
    refine ga_iload hC dX12_weightInto_19 4 rfl ?_
    obtain ⟨h1, h⟩ := h
    refine ga_iald hC aM_11 (by decide) h1 dX12_weightInto_21 ?_
    refine ga_iload_n hC dX12_weightInto_22 2 rfl rfl ?_
    refine ga_icmp_ne (tgt := 41) hC dX12_weightInto_23 (by decide) (fun hc => ?_) (fun hc => ?_)
    · have h := h.1 hc
      refine ga_iconst (v := 0) hC dX12_weightInto_41 (by decide) ?_
      refine ga_iadd hC dX12_weightInto_42 ?_
      refine ga_topi (fun x2 ex2 => ?_)
      have h := h x2 ex2
      refine ga_istore_n (lv' := [(3, .int x2), (0, .ref (ad 0)), (1, .int v1), (2, .int v2), (4, .int v4)]) hC dX12_weightInto_43 rfl (by decide) rfl ?_
      refine ga_iinc (v := v4 + 1) (lv' := [(4, .int (v4 + 1)), (3, .int x2), (0, .ref (ad 0)), (1, .int v1), (2, .int v2)]) hC dX12_weightInto_44 4 rfl rfl (by decide) rfl ?_
      refine ga_goto (tgt := 5) hC dX12_weightInto_47 (by decide) ?_
      refine ga_locals [2, 3, 4, 1, 0] rfl ?_
      exact h p l e s m args below meth c D cy ad hC
    · have h := h.2 hc
      refine ga_aload_n hC dX12_weightInto_26 0 rfl rfl ?_
      refine gM_0_15 hC q_6_100 dX12_weightInto_27 ?_
      refine ga_bipush (v := 7) hC dX12_weightInto_30 (by decide) ?_
      refine ga_iload_n hC dX12_weightInto_32 1 rfl rfl ?_
      refine ga_imul hC dX12_weightInto_33 ?_
      refine ga_iload hC dX12_weightInto_34 4 rfl ?_
      refine ga_iadd hC dX12_weightInto_36 ?_
      obtain ⟨h3, h⟩ := h
      refine ga_iald hC aM_10 (by decide) h3 dX12_weightInto_37 ?_
      refine ga_goto (tgt := 42) hC dX12_weightInto_38 (by decide) ?_
      refine ga_iadd hC dX12_weightInto_42 ?_
      refine ga_topi (fun x4 ex4 => ?_)
      have h := h x4 ex4
      refine ga_istore_n (lv' := [(3, .int x4), (0, .ref (ad 0)), (1, .int v1), (2, .int v2), (4, .int v4)]) hC dX12_weightInto_43 rfl (by decide) rfl ?_
      refine ga_iinc (v := v4 + 1) (lv' := [(4, .int (v4 + 1)), (3, .int x4), (0, .ref (ad 0)), (1, .int v1), (2, .int v2)]) hC dX12_weightInto_44 4 rfl rfl (by decide) rfl ?_
      refine ga_goto (tgt := 5) hC dX12_weightInto_47 (by decide) ?_
      refine ga_locals [2, 3, 4, 1, 0] rfl ?_
      exact h p l e s m args below meth c D cy ad hC
set_option maxRecDepth 100000 in
set_option maxHeartbeats 4000000 in
theorem v_X12_weightInto {v1 : Int32} {v2 : Int32} {σ : cg_S} {Q : Int32 → cg_S → Prop}
    (h : L_X12_weightInto_5 v1 v2 0 0 σ Q) : M_X12_weightInto v1 v2 σ Q := by
  refine cg_entry (lv := fun ad => [(0, .ref (ad 0)), (1, .int v1), (2, .int v2)]) (by decide +kernel) (fun _ => rfl) (fun _ => Nat.le_of_ble_eq_true rfl) ?_
  intro p l e s m args below meth c D cy ad hC
  refine ga_iconst (v := 0) hC dX12_weightInto_0 (by decide) ?_
  refine ga_istore_n (lv' := [(3, .int 0), (0, .ref (ad 0)), (1, .int v1), (2, .int v2)]) hC dX12_weightInto_1 rfl (by decide) rfl ?_
  refine ga_iconst (v := 0) hC dX12_weightInto_2 (by decide) ?_
  refine ga_istore (lv' := [(4, .int 0), (3, .int 0), (0, .ref (ad 0)), (1, .int v1), (2, .int v2)]) hC dX12_weightInto_3 (by decide) rfl ?_
  refine ga_locals [2, 3, 4, 1, 0] rfl ?_
  exact h p l e s m args below meth c D cy ad hC
def M_X12_isLikeChoice (v1 : Int32) (v2 : Int32) (σ : cg_S) (Q : Int32 → cg_S → Prop) : Prop := cg_M cg_WM yX12_isLikeChoice cX12_isLikeChoice 4 (some .boolean) (cg_R 1) (fun ad => [.ref (ad 0), .int v1, .int v2]) σ (cg_qi Q)
theorem M_X12_isLikeChoice.mono {v1 : Int32} {v2 : Int32} {σ : cg_S} {Q Q2 : Int32 → cg_S → Prop} (h : M_X12_isLikeChoice v1 v2 σ Q) (hq : ∀ r τ, Q r τ → Q2 r τ) : M_X12_isLikeChoice v1 v2 σ Q2 := cg_M.mono h (fun ad v τ ⟨r, e, q⟩ => ⟨r, e, hq r τ q⟩)
def L_X12_isLikeChoice_34 (v1 : Int32) (v2 : Int32) (v3 : Int32) (σ : cg_S) (Q : Int32 → cg_S → Prop) : Prop := cg_L cg_WM RX12 cX12_isLikeChoice 4 (some .boolean) (cg_R 1) 34 (fun ad => [(0, .ref (ad 0)), (1, .int v1), (2, .int v2), (3, .int v3)]) (fun ad => []) σ (cg_qi Q)
set_option maxRecDepth 100000 in
set_option maxHeartbeats 4000000 in
theorem v_X12_isLikeChoice_34 {v1 : Int32} {v2 : Int32} {v3 : Int32} {σ : cg_S} {Q : Int32 → cg_S → Prop}
    (h : ((σ.1 0 1) ≤ v3 → Q 1 σ) ∧ (¬ (σ.1 0 1) ≤ v3 → M_X12_weightInto v1 v3 σ (fun r1 s2 => vp_in v2 21 ∧ M_X12_weightInto v2 v3 s2 (fun r5 s6 => vp_in v1 21 ∧ ((r1 * (s2.1 9 v2.toNatClampNeg)) = (r5 * (s6.1 9 v1.toNatClampNeg)) → L_X12_isLikeChoice_34 v1 v2 (v3 + 1) s6 Q) ∧ (¬ (r1 * (s2.1 9 v2.toNatClampNeg)) = (r5 * (s6.1 9 v1.toNatClampNeg)) → Q 0 s6))))) : L_X12_isLikeChoice_34 v1 v2 v3 σ Q := by
  intro p l e s m args below meth c D cy ad hC
  refine ga_iload_n hC dX12_isLikeChoice_34 3 rfl rfl ?_
  refine ga_aload_n hC dX12_isLikeChoice_35 0 rfl rfl ?_
  refine gM_0_1 hC q_6_86 dX12_isLikeChoice_36 ?_
  refine ga_icmp_ge (tgt := 79) hC dX12_isLikeChoice_39 (by decide) (fun hc => ?_) (fun hc => ?_)
  · have h := h.1 hc
    refine ga_iconst (v := 1) hC dX12_isLikeChoice_79 (by decide) ?_
    exact ga_zret hC dX12_isLikeChoice_80 (by decide) ⟨_, rfl, h⟩
  · have h := h.2 hc
    refine ga_aload_n hC dX12_isLikeChoice_42 0 rfl rfl ?_
    refine ga_iload_n hC dX12_isLikeChoice_43 1 rfl rfl ?_
    refine ga_iload_n hC dX12_isLikeChoice_44 3 rfl rfl ?_
    refine ga_callV (As := [.int v1, .int v3]) (st := []) (k := 0) (n := 2) hC h q_8_61 q_8_63 q_0_57 q_1_13 q_8_64 rfl rfl rfl (by decide +kernel) ⟨Nat.le_of_ble_eq_true rfl, Nat.le_of_ble_eq_true rfl⟩ ⟨Nat.le_of_ble_eq_true rfl, Nat.le_of_ble_eq_true rfl⟩ rfl rfl rfl (by decide) rfl (Nat.le_of_ble_eq_true rfl) dX12_isLikeChoice_45 (fun v τ hq => ?_)
    obtain ⟨r1, rfl, h⟩ := hq
    obtain ⟨s2, es2⟩ : ∃ z, z = τ := ⟨_, rfl⟩
    rw [← es2] at h ⊢
    clear es2
    refine ga_aload_n hC dX12_isLikeChoice_48 0 rfl rfl ?_
    refine gM_0_14 hC q_6_99 dX12_isLikeChoice_49 ?_
    refine ga_iload_n hC dX12_isLikeChoice_52 2 rfl rfl ?_
    obtain ⟨h4, h⟩ := h
    refine ga_iald hC aM_9 (by decide) h4 dX12_isLikeChoice_53 ?_
    refine ga_imul hC dX12_isLikeChoice_54 ?_
    refine ga_aload_n hC dX12_isLikeChoice_55 0 rfl rfl ?_
    refine ga_iload_n hC dX12_isLikeChoice_56 2 rfl rfl ?_
    refine ga_iload_n hC dX12_isLikeChoice_57 3 rfl rfl ?_
    refine ga_callV (As := [.int v2, .int v3]) (st := [.int (r1 * (s2.1 9 v2.toNatClampNeg))]) (k := 0) (n := 2) hC h q_8_61 q_8_63 q_0_57 q_1_13 q_8_64 rfl rfl rfl (by decide +kernel) ⟨Nat.le_of_ble_eq_true rfl, Nat.le_of_ble_eq_true rfl⟩ ⟨Nat.le_of_ble_eq_true rfl, Nat.le_of_ble_eq_true rfl⟩ rfl rfl rfl (by decide) rfl (Nat.le_of_ble_eq_true rfl) dX12_isLikeChoice_58 (fun v τ hq => ?_)
    obtain ⟨r5, rfl, h⟩ := hq
    obtain ⟨s6, es6⟩ : ∃ z, z = τ := ⟨_, rfl⟩
    rw [← es6] at h ⊢
    clear es6
    refine ga_aload_n hC dX12_isLikeChoice_61 0 rfl rfl ?_
    refine gM_0_14 hC q_6_99 dX12_isLikeChoice_62 ?_
    refine ga_iload_n hC dX12_isLikeChoice_65 1 rfl rfl ?_
    obtain ⟨h8, h⟩ := h
    refine ga_iald hC aM_9 (by decide) h8 dX12_isLikeChoice_66 ?_
    refine ga_imul hC dX12_isLikeChoice_67 ?_
    refine ga_icmp_eq (tgt := 73) hC dX12_isLikeChoice_68 (by decide) (fun hc => ?_) (fun hc => ?_)
    · have h := h.1 hc
      refine ga_iinc (v := v3 + 1) (lv' := [(3, .int (v3 + 1)), (0, .ref (ad 0)), (1, .int v1), (2, .int v2)]) hC dX12_isLikeChoice_73 3 rfl rfl (by decide) rfl ?_
      refine ga_goto (tgt := 34) hC dX12_isLikeChoice_76 (by decide) ?_
      refine ga_locals [1, 2, 3, 0] rfl ?_
      exact h p l e s m args below meth c D cy ad hC
    · have h := h.2 hc
      refine ga_iconst (v := 0) hC dX12_isLikeChoice_71 (by decide) ?_
      exact ga_zret hC dX12_isLikeChoice_72 (by decide) ⟨_, rfl, h⟩
set_option maxRecDepth 100000 in
set_option maxHeartbeats 4000000 in
theorem v_X12_isLikeChoice {v1 : Int32} {v2 : Int32} {σ : cg_S} {Q : Int32 → cg_S → Prop}
    (h : vp_in v1 21 ∧ vp_in v2 21 ∧ (¬ (σ.1 7 v1.toNatClampNeg) = (σ.1 7 v2.toNatClampNeg) → Q 0 σ) ∧ ((σ.1 7 v1.toNatClampNeg) = (σ.1 7 v2.toNatClampNeg) → vp_in v1 21 ∧ vp_in v2 21 ∧ ((σ.1 8 v1.toNatClampNeg) = (σ.1 8 v2.toNatClampNeg) → L_X12_isLikeChoice_34 v1 v2 0 σ Q) ∧ (¬ (σ.1 8 v1.toNatClampNeg) = (σ.1 8 v2.toNatClampNeg) → Q 0 σ))) : M_X12_isLikeChoice v1 v2 σ Q := by
  refine cg_entry (lv := fun ad => [(0, .ref (ad 0)), (1, .int v1), (2, .int v2)]) (by decide +kernel) (fun _ => rfl) (fun _ => Nat.le_of_ble_eq_true rfl) ?_
  intro p l e s m args below meth c D cy ad hC
  refine ga_aload_n hC dX12_isLikeChoice_0 0 rfl rfl ?_
  refine gM_0_12 hC q_6_97 dX12_isLikeChoice_1 ?_
  refine ga_iload_n hC dX12_isLikeChoice_4 1 rfl rfl ?_
  obtain ⟨h1, h⟩ := h
  refine ga_iald hC aM_7 (by decide) h1 dX12_isLikeChoice_5 ?_
  refine ga_aload_n hC dX12_isLikeChoice_6 0 rfl rfl ?_
  refine gM_0_12 hC q_6_97 dX12_isLikeChoice_7 ?_
  refine ga_iload_n hC dX12_isLikeChoice_10 2 rfl rfl ?_
  obtain ⟨h2, h⟩ := h
  refine ga_iald hC aM_7 (by decide) h2 dX12_isLikeChoice_11 ?_
  refine ga_icmp_ne (tgt := 30) hC dX12_isLikeChoice_12 (by decide) (fun hc => ?_) (fun hc => ?_)
  · have h := h.1 hc
    refine ga_iconst (v := 0) hC dX12_isLikeChoice_30 (by decide) ?_
    exact ga_zret hC dX12_isLikeChoice_31 (by decide) ⟨_, rfl, h⟩
  · have h := h.2 hc
    refine ga_aload_n hC dX12_isLikeChoice_15 0 rfl rfl ?_
    refine gM_0_13 hC q_6_98 dX12_isLikeChoice_16 ?_
    refine ga_iload_n hC dX12_isLikeChoice_19 1 rfl rfl ?_
    obtain ⟨h3, h⟩ := h
    refine ga_iald hC aM_8 (by decide) h3 dX12_isLikeChoice_20 ?_
    refine ga_aload_n hC dX12_isLikeChoice_21 0 rfl rfl ?_
    refine gM_0_13 hC q_6_98 dX12_isLikeChoice_22 ?_
    refine ga_iload_n hC dX12_isLikeChoice_25 2 rfl rfl ?_
    obtain ⟨h4, h⟩ := h
    refine ga_iald hC aM_8 (by decide) h4 dX12_isLikeChoice_26 ?_
    refine ga_icmp_eq (tgt := 32) hC dX12_isLikeChoice_27 (by decide) (fun hc => ?_) (fun hc => ?_)
    · have h := h.1 hc
      refine ga_iconst (v := 0) hC dX12_isLikeChoice_32 (by decide) ?_
      refine ga_istore_n (lv' := [(3, .int 0), (0, .ref (ad 0)), (1, .int v1), (2, .int v2)]) hC dX12_isLikeChoice_33 rfl (by decide) rfl ?_
      refine ga_locals [1, 2, 3, 0] rfl ?_
      exact h p l e s m args below meth c D cy ad hC
    · have h := h.2 hc
      refine ga_iconst (v := 0) hC dX12_isLikeChoice_30 (by decide) ?_
      exact ga_zret hC dX12_isLikeChoice_31 (by decide) ⟨_, rfl, h⟩
def M_X12_follows (v1 : Int32) (v2 : Int32) (σ : cg_S) (Q : Int32 → cg_S → Prop) : Prop := cg_M cg_WM yX12_follows cX12_follows 6 (some .boolean) (cg_R 2) (fun ad => [.ref (ad 0), .int v1, .int v2]) σ (cg_qi Q)
theorem M_X12_follows.mono {v1 : Int32} {v2 : Int32} {σ : cg_S} {Q Q2 : Int32 → cg_S → Prop} (h : M_X12_follows v1 v2 σ Q) (hq : ∀ r τ, Q r τ → Q2 r τ) : M_X12_follows v1 v2 σ Q2 := cg_M.mono h (fun ad v τ ⟨r, e, q⟩ => ⟨r, e, hq r τ q⟩)
def L_X12_follows_2 (v1 : Int32) (v2 : Int32) (v3 : Int32) (σ : cg_S) (Q : Int32 → cg_S → Prop) : Prop := cg_L cg_WM RX12 cX12_follows 6 (some .boolean) (cg_R 2) 2 (fun ad => [(0, .ref (ad 0)), (1, .int v1), (2, .int v2), (3, .int v3)]) (fun ad => []) σ (cg_qi Q)
def L_X12_follows_18 (v1 : Int32) (v2 : Int32) (v3 : Int32) (v4 : Int32) (v5 : Int32) (σ : cg_S) (Q : Int32 → cg_S → Prop) : Prop := cg_L cg_WM RX12 cX12_follows 6 (some .boolean) (cg_R 2) 18 (fun ad => [(0, .ref (ad 0)), (1, .int v1), (2, .int v2), (3, .int v3), (4, .int v4), (5, .int v5)]) (fun ad => []) σ (cg_qi Q)
set_option maxRecDepth 100000 in
set_option maxHeartbeats 4000000 in
theorem v_X12_follows_18 {v1 : Int32} {v2 : Int32} {v3 : Int32} {v4 : Int32} {v5 : Int32} {σ : cg_S} {Q : Int32 → cg_S → Prop}
    (h : vp_in v2 7 ∧ ((σ.1 3 v2.toNatClampNeg) ≤ v5 → (¬ v4 = 0 → L_X12_follows_2 v1 v2 (v3 + 1) σ Q) ∧ (v4 = 0 → Q 0 σ)) ∧ (¬ (σ.1 3 v2.toNatClampNeg) ≤ v5 → (¬ v4 = 0 → L_X12_follows_18 v1 v2 v3 1 (v5 + 1) σ Q) ∧ (v4 = 0 → M_X12_isLikeChoice ((3 * v1) + v3) ((3 * v2) + v5) σ (fun r2 s3 => (r2 = 0 → L_X12_follows_18 v1 v2 v3 0 (v5 + 1) s3 Q) ∧ (¬ r2 = 0 → L_X12_follows_18 v1 v2 v3 1 (v5 + 1) s3 Q))))) : L_X12_follows_18 v1 v2 v3 v4 v5 σ Q := by
  intro p l e s m args below meth c D cy ad hC
  refine ga_iload hC dX12_follows_18 5 rfl ?_
  refine ga_aload_n hC dX12_follows_20 0 rfl rfl ?_
  refine gM_0_8 hC q_6_93 dX12_follows_21 ?_
  refine ga_iload_n hC dX12_follows_24 2 rfl rfl ?_
  obtain ⟨h1, h⟩ := h
  refine ga_iald hC aM_3 (by decide) h1 dX12_follows_25 ?_
  refine ga_icmp_ge (tgt := 65) hC dX12_follows_26 (by decide) (fun hc => ?_) (fun hc => ?_)
  · have h := h.1 hc
    refine ga_iload hC dX12_follows_65 4 rfl ?_
    refine ga_if_ne (tgt := 72) hC dX12_follows_67 (by decide) (fun hc => ?_) (fun hc => ?_)
    · have h := h.1 hc
      refine ga_iinc (v := v3 + 1) (lv' := [(3, .int (v3 + 1)), (0, .ref (ad 0)), (1, .int v1), (2, .int v2), (4, .int v4), (5, .int v5)]) hC dX12_follows_72 3 rfl rfl (by decide) rfl ?_
      refine ga_goto (tgt := 2) hC dX12_follows_75 (by decide) ?_
      refine ga_locals [1, 2, 3, 0] rfl ?_
      exact h p l e s m args below meth c D cy ad hC
    · have h := h.2 hc
      refine ga_iconst (v := 0) hC dX12_follows_70 (by decide) ?_
      exact ga_zret hC dX12_follows_71 (by decide) ⟨_, rfl, h⟩
  · have h := h.2 hc
    refine ga_iload hC dX12_follows_29 4 rfl ?_
    refine ga_if_ne (tgt := 52) hC dX12_follows_31 (by decide) (fun hc => ?_) (fun hc => ?_)
    · have h := h.1 hc
      refine ga_iconst (v := 1) hC dX12_follows_52 (by decide) ?_
      refine ga_goto (tgt := 57) hC dX12_follows_53 (by decide) ?_
      refine ga_istore (lv' := [(4, .int 1), (0, .ref (ad 0)), (1, .int v1), (2, .int v2), (3, .int v3), (5, .int v5)]) hC dX12_follows_57 (by decide) rfl ?_
      refine ga_iinc (v := v5 + 1) (lv' := [(5, .int (v5 + 1)), (4, .int 1), (0, .ref (ad 0)), (1, .int v1), (2, .int v2), (3, .int v3)]) hC dX12_follows_59 5 rfl rfl (by decide) rfl ?_
      refine ga_goto (tgt := 18) hC dX12_follows_62 (by decide) ?_
      refine ga_locals [2, 3, 4, 5, 1, 0] rfl ?_
      exact h p l e s m args below meth c D cy ad hC
    · have h := h.2 hc
      refine ga_aload_n hC dX12_follows_34 0 rfl rfl ?_
      refine ga_iconst (v := 3) hC dX12_follows_35 (by decide) ?_
      refine ga_iload_n hC dX12_follows_36 1 rfl rfl ?_
      refine ga_imul hC dX12_follows_37 ?_
      refine ga_iload_n hC dX12_follows_38 3 rfl rfl ?_
      refine ga_iadd hC dX12_follows_39 ?_
      refine ga_iconst (v := 3) hC dX12_follows_40 (by decide) ?_
      refine ga_iload_n hC dX12_follows_41 2 rfl rfl ?_
      refine ga_imul hC dX12_follows_42 ?_
      refine ga_iload hC dX12_follows_43 5 rfl ?_
      refine ga_iadd hC dX12_follows_45 ?_
      refine ga_callV (As := [.int ((3 * v1) + v3), .int ((3 * v2) + v5)]) (st := []) (k := 0) (n := 2) hC h q_8_57 q_8_59 q_0_56 q_1_13 q_8_60 rfl rfl rfl (by decide +kernel) ⟨Nat.le_of_ble_eq_true rfl, Nat.le_of_ble_eq_true rfl⟩ ⟨Nat.le_of_ble_eq_true rfl, Nat.le_of_ble_eq_true rfl⟩ rfl rfl rfl (by decide) rfl (Nat.le_of_ble_eq_true rfl) dX12_follows_46 (fun v τ hq => ?_)
      obtain ⟨r2, rfl, h⟩ := hq
      obtain ⟨s3, es3⟩ : ∃ z, z = τ := ⟨_, rfl⟩
      rw [← es3] at h ⊢
      clear es3
      refine ga_if_eq (tgt := 56) hC dX12_follows_49 (by decide) (fun hc => ?_) (fun hc => ?_)
      · have h := h.1 hc
        refine ga_iconst (v := 0) hC dX12_follows_56 (by decide) ?_
        refine ga_istore (lv' := [(4, .int 0), (0, .ref (ad 0)), (1, .int v1), (2, .int v2), (3, .int v3), (5, .int v5)]) hC dX12_follows_57 (by decide) rfl ?_
        refine ga_iinc (v := v5 + 1) (lv' := [(5, .int (v5 + 1)), (4, .int 0), (0, .ref (ad 0)), (1, .int v1), (2, .int v2), (3, .int v3)]) hC dX12_follows_59 5 rfl rfl (by decide) rfl ?_
        refine ga_goto (tgt := 18) hC dX12_follows_62 (by decide) ?_
        refine ga_locals [2, 3, 4, 5, 1, 0] rfl ?_
        exact h p l e s m args below meth c D cy ad hC
      · have h := h.2 hc
        refine ga_iconst (v := 1) hC dX12_follows_52 (by decide) ?_
        refine ga_goto (tgt := 57) hC dX12_follows_53 (by decide) ?_
        refine ga_istore (lv' := [(4, .int 1), (0, .ref (ad 0)), (1, .int v1), (2, .int v2), (3, .int v3), (5, .int v5)]) hC dX12_follows_57 (by decide) rfl ?_
        refine ga_iinc (v := v5 + 1) (lv' := [(5, .int (v5 + 1)), (4, .int 1), (0, .ref (ad 0)), (1, .int v1), (2, .int v2), (3, .int v3)]) hC dX12_follows_59 5 rfl rfl (by decide) rfl ?_
        refine ga_goto (tgt := 18) hC dX12_follows_62 (by decide) ?_
        refine ga_locals [2, 3, 4, 5, 1, 0] rfl ?_
        exact h p l e s m args below meth c D cy ad hC
set_option maxRecDepth 100000 in
set_option maxHeartbeats 4000000 in
theorem v_X12_follows_2 {v1 : Int32} {v2 : Int32} {v3 : Int32} {σ : cg_S} {Q : Int32 → cg_S → Prop}
    (h : vp_in v1 7 ∧ ((σ.1 3 v1.toNatClampNeg) ≤ v3 → Q 1 σ) ∧ (¬ (σ.1 3 v1.toNatClampNeg) ≤ v3 → L_X12_follows_18 v1 v2 v3 0 0 σ Q)) : L_X12_follows_2 v1 v2 v3 σ Q := by
  intro p l e s m args below meth c D cy ad hC
  refine ga_iload_n hC dX12_follows_2 3 rfl rfl ?_
  refine ga_aload_n hC dX12_follows_3 0 rfl rfl ?_
  refine gM_0_8 hC q_6_93 dX12_follows_4 ?_
  refine ga_iload_n hC dX12_follows_7 1 rfl rfl ?_
  obtain ⟨h1, h⟩ := h
  refine ga_iald hC aM_3 (by decide) h1 dX12_follows_8 ?_
  refine ga_icmp_ge (tgt := 78) hC dX12_follows_9 (by decide) (fun hc => ?_) (fun hc => ?_)
  · have h := h.1 hc
    refine ga_iconst (v := 1) hC dX12_follows_78 (by decide) ?_
    exact ga_zret hC dX12_follows_79 (by decide) ⟨_, rfl, h⟩
  · have h := h.2 hc
    refine ga_iconst (v := 0) hC dX12_follows_12 (by decide) ?_
    refine ga_istore (lv' := [(4, .int 0), (0, .ref (ad 0)), (1, .int v1), (2, .int v2), (3, .int v3)]) hC dX12_follows_13 (by decide) rfl ?_
    refine ga_iconst (v := 0) hC dX12_follows_15 (by decide) ?_
    refine ga_istore (lv' := [(5, .int 0), (4, .int 0), (0, .ref (ad 0)), (1, .int v1), (2, .int v2), (3, .int v3)]) hC dX12_follows_16 (by decide) rfl ?_
    refine ga_locals [2, 3, 4, 5, 1, 0] rfl ?_
    exact h p l e s m args below meth c D cy ad hC
set_option maxRecDepth 100000 in
set_option maxHeartbeats 4000000 in
theorem v_X12_follows {v1 : Int32} {v2 : Int32} {σ : cg_S} {Q : Int32 → cg_S → Prop}
    (h : L_X12_follows_2 v1 v2 0 σ Q) : M_X12_follows v1 v2 σ Q := by
  refine cg_entry (lv := fun ad => [(0, .ref (ad 0)), (1, .int v1), (2, .int v2)]) (by decide +kernel) (fun _ => rfl) (fun _ => Nat.le_of_ble_eq_true rfl) ?_
  intro p l e s m args below meth c D cy ad hC
  refine ga_iconst (v := 0) hC dX12_follows_0 (by decide) ?_
  refine ga_istore_n (lv' := [(3, .int 0), (0, .ref (ad 0)), (1, .int v1), (2, .int v2)]) hC dX12_follows_1 rfl (by decide) rfl ?_
  refine ga_locals [1, 2, 3, 0] rfl ?_
  exact h p l e s m args below meth c D cy ad hC
def M_X12_groups (σ : cg_S) (Q : cg_S → Prop) : Prop := cg_M cg_WM yX12_groups cX12_groups 4 none (cg_R 3) (fun ad => [.ref (ad 0)]) σ (cg_qv Q)
theorem M_X12_groups.mono {σ : cg_S} {Q Q2 : cg_S → Prop} (h : M_X12_groups σ Q) (hq : ∀ τ, Q τ → Q2 τ) : M_X12_groups σ Q2 := cg_M.mono h (fun ad v τ ⟨e, q⟩ => ⟨e, hq τ q⟩)
def L_X12_groups_2 (v1 : Int32) (σ : cg_S) (Q : cg_S → Prop) : Prop := cg_L cg_WM RX12 cX12_groups 4 none (cg_R 3) 2 (fun ad => [(0, .ref (ad 0)), (1, .int v1)]) (fun ad => []) σ (cg_qv Q)
def L_X12_groups_21 (v1 : Int32) (v2 : Int32) (σ : cg_S) (Q : cg_S → Prop) : Prop := cg_L cg_WM RX12 cX12_groups 4 none (cg_R 3) 21 (fun ad => [(0, .ref (ad 0)), (1, .int v1), (2, .int v2)]) (fun ad => []) σ (cg_qv Q)
def L_X12_groups_91 (v1 : Int32) (σ : cg_S) (Q : cg_S → Prop) : Prop := cg_L cg_WM RX12 cX12_groups 4 none (cg_R 3) 91 (fun ad => [(0, .ref (ad 0)), (1, .int v1)]) (fun ad => []) σ (cg_qv Q)
def L_X12_groups_99 (v1 : Int32) (v2 : Int32) (σ : cg_S) (Q : cg_S → Prop) : Prop := cg_L cg_WM RX12 cX12_groups 4 none (cg_R 3) 99 (fun ad => [(0, .ref (ad 0)), (1, .int v1), (2, .int v2)]) (fun ad => []) σ (cg_qv Q)
def L_X12_groups_118 (v1 : Int32) (v2 : Int32) (v3 : Int32) (σ : cg_S) (Q : cg_S → Prop) : Prop := cg_L cg_WM RX12 cX12_groups 4 none (cg_R 3) 118 (fun ad => [(0, .ref (ad 0)), (1, .int v1), (2, .int v2), (3, .int v3)]) (fun ad => []) σ (cg_qv Q)
def L_X12_groups_176 (v1 : Int32) (v2 : Int32) (σ : cg_S) (Q : cg_S → Prop) : Prop := cg_L cg_WM RX12 cX12_groups 4 none (cg_R 3) 176 (fun ad => [(0, .ref (ad 0)), (1, .int v1), (2, .int v2)]) (fun ad => []) σ (cg_qv Q)
set_option maxRecDepth 100000 in
set_option maxHeartbeats 4000000 in
theorem v_X12_groups_176 {v1 : Int32} {v2 : Int32} {σ : cg_S} {Q : cg_S → Prop}
    (h : ((σ.1 0 1) ≤ v2 → L_X12_groups_91 (v1 + 1) σ Q) ∧ (¬ (σ.1 0 1) ≤ v2 → vp_in v2 7 ∧ vp_in v2 7 ∧ ∀ s3 : cg_S, s3 = cg_i σ 11 v2.toNatClampNeg (σ.1 12 v2.toNatClampNeg) → L_X12_groups_176 v1 (v2 + 1) s3 Q)) : L_X12_groups_176 v1 v2 σ Q := by
  intro p l e s m args below meth c D cy ad hC
  refine ga_iload_n hC dX12_groups_176 2 rfl rfl ?_
  refine ga_aload_n hC dX12_groups_177 0 rfl rfl ?_
  refine gM_0_1 hC q_6_86 dX12_groups_178 ?_
  refine ga_icmp_ge (tgt := 202) hC dX12_groups_181 (by decide) (fun hc => ?_) (fun hc => ?_)
  · have h := h.1 hc
    refine ga_iinc (v := v1 + 1) (lv' := [(1, .int (v1 + 1)), (0, .ref (ad 0)), (2, .int v2)]) hC dX12_groups_202 1 rfl rfl (by decide) rfl ?_
    refine ga_goto (tgt := 91) hC dX12_groups_205 (by decide) ?_
    refine ga_locals [1, 0] rfl ?_
    exact h p l e s m args below meth c D cy ad hC
  · have h := h.2 hc
    refine ga_aload_n hC dX12_groups_184 0 rfl rfl ?_
    refine gM_0_32 hC q_6_117 dX12_groups_185 ?_
    refine ga_iload_n hC dX12_groups_188 2 rfl rfl ?_
    refine ga_aload_n hC dX12_groups_189 0 rfl rfl ?_
    refine gM_0_33 hC q_6_118 dX12_groups_190 ?_
    refine ga_iload_n hC dX12_groups_193 2 rfl rfl ?_
    obtain ⟨h1, h⟩ := h
    refine ga_iald hC aM_12 (by decide) h1 dX12_groups_194 ?_
    obtain ⟨h2, h⟩ := h
    refine ga_iast hC aM_11 (by decide) h2 dX12_groups_195 ?_
    refine ga_sig (σ := cg_i σ 11 v2.toNatClampNeg (σ.1 12 v2.toNatClampNeg)) (fun s3 es3 => ?_)
    have h := h s3 es3
    refine ga_iinc (v := v2 + 1) (lv' := [(2, .int (v2 + 1)), (0, .ref (ad 0)), (1, .int v1)]) hC dX12_groups_196 2 rfl rfl (by decide) rfl ?_
    refine ga_goto (tgt := 176) hC dX12_groups_199 (by decide) ?_
    refine ga_locals [1, 2, 0] rfl ?_
    exact h p l e s m args below meth c D cy ad hC
set_option maxRecDepth 100000 in
set_option maxHeartbeats 4000000 in
theorem v_X12_groups_118 {v1 : Int32} {v2 : Int32} {v3 : Int32} {σ : cg_S} {Q : cg_S → Prop}
    (h : (v3 < 0 → L_X12_groups_99 v1 (v2 + 1) σ Q) ∧ (¬ v3 < 0 → vp_in v2 7 ∧ vp_in v3 7 ∧ (¬ (σ.1 11 v2.toNatClampNeg) = (σ.1 11 v3.toNatClampNeg) → L_X12_groups_118 v1 v2 (v3 + (-1)) σ Q) ∧ ((σ.1 11 v2.toNatClampNeg) = (σ.1 11 v3.toNatClampNeg) → M_X12_follows v2 v3 σ (fun r3 s4 => (r3 = 0 → L_X12_groups_118 v1 v2 (v3 + (-1)) s4 Q) ∧ (¬ r3 = 0 → M_X12_follows v3 v2 s4 (fun r6 s7 => (r6 = 0 → L_X12_groups_118 v1 v2 (v3 + (-1)) s7 Q) ∧ (¬ r6 = 0 → vp_in v2 7 ∧ ∀ s10 : cg_S, s10 = cg_i s7 12 v2.toNatClampNeg v3 → L_X12_groups_118 v1 v2 (v3 + (-1)) s10 Q))))))) : L_X12_groups_118 v1 v2 v3 σ Q := by
  intro p l e s m args below meth c D cy ad hC
  refine ga_iload_n hC dX12_groups_118 3 rfl rfl ?_
  refine ga_if_lt (tgt := 168) hC dX12_groups_119 (by decide) (fun hc => ?_) (fun hc => ?_)
  · have h := h.1 hc
    refine ga_iinc (v := v2 + 1) (lv' := [(2, .int (v2 + 1)), (0, .ref (ad 0)), (1, .int v1), (3, .int v3)]) hC dX12_groups_168 2 rfl rfl (by decide) rfl ?_
    refine ga_goto (tgt := 99) hC dX12_groups_171 (by decide) ?_
    refine ga_locals [1, 2, 0] rfl ?_
    exact h p l e s m args below meth c D cy ad hC
  · have h := h.2 hc
    refine ga_aload_n hC dX12_groups_122 0 rfl rfl ?_
    refine gM_0_32 hC q_6_117 dX12_groups_123 ?_
    refine ga_iload_n hC dX12_groups_126 2 rfl rfl ?_
    obtain ⟨h1, h⟩ := h
    refine ga_iald hC aM_11 (by decide) h1 dX12_groups_127 ?_
    refine ga_aload_n hC dX12_groups_128 0 rfl rfl ?_
    refine gM_0_32 hC q_6_117 dX12_groups_129 ?_
    refine ga_iload_n hC dX12_groups_132 3 rfl rfl ?_
    obtain ⟨h2, h⟩ := h
    refine ga_iald hC aM_11 (by decide) h2 dX12_groups_133 ?_
    refine ga_icmp_ne (tgt := 162) hC dX12_groups_134 (by decide) (fun hc => ?_) (fun hc => ?_)
    · have h := h.1 hc
      refine ga_iinc (v := v3 + (-1)) (lv' := [(3, .int (v3 + (-1))), (0, .ref (ad 0)), (1, .int v1), (2, .int v2)]) hC dX12_groups_162 3 rfl rfl (by decide) rfl ?_
      refine ga_goto (tgt := 118) hC dX12_groups_165 (by decide) ?_
      refine ga_locals [1, 2, 3, 0] rfl ?_
      exact h p l e s m args below meth c D cy ad hC
    · have h := h.2 hc
      refine ga_aload_n hC dX12_groups_137 0 rfl rfl ?_
      refine ga_iload_n hC dX12_groups_138 2 rfl rfl ?_
      refine ga_iload_n hC dX12_groups_139 3 rfl rfl ?_
      refine ga_callV (As := [.int v2, .int v3]) (st := []) (k := 0) (n := 2) hC h q_8_53 q_8_55 q_0_55 q_1_13 q_8_56 rfl rfl rfl (by decide +kernel) ⟨Nat.le_of_ble_eq_true rfl, Nat.le_of_ble_eq_true rfl⟩ ⟨Nat.le_of_ble_eq_true rfl, Nat.le_of_ble_eq_true rfl⟩ rfl rfl rfl (by decide) rfl (Nat.le_of_ble_eq_true rfl) dX12_groups_140 (fun v τ hq => ?_)
      obtain ⟨r3, rfl, h⟩ := hq
      obtain ⟨s4, es4⟩ : ∃ z, z = τ := ⟨_, rfl⟩
      rw [← es4] at h ⊢
      clear es4
      refine ga_if_eq (tgt := 162) hC dX12_groups_143 (by decide) (fun hc => ?_) (fun hc => ?_)
      · have h := h.1 hc
        refine ga_iinc (v := v3 + (-1)) (lv' := [(3, .int (v3 + (-1))), (0, .ref (ad 0)), (1, .int v1), (2, .int v2)]) hC dX12_groups_162 3 rfl rfl (by decide) rfl ?_
        refine ga_goto (tgt := 118) hC dX12_groups_165 (by decide) ?_
        refine ga_locals [1, 2, 3, 0] rfl ?_
        exact h p l e s m args below meth c D cy ad hC
      · have h := h.2 hc
        refine ga_aload_n hC dX12_groups_146 0 rfl rfl ?_
        refine ga_iload_n hC dX12_groups_147 3 rfl rfl ?_
        refine ga_iload_n hC dX12_groups_148 2 rfl rfl ?_
        refine ga_callV (As := [.int v3, .int v2]) (st := []) (k := 0) (n := 2) hC h q_8_53 q_8_55 q_0_55 q_1_13 q_8_56 rfl rfl rfl (by decide +kernel) ⟨Nat.le_of_ble_eq_true rfl, Nat.le_of_ble_eq_true rfl⟩ ⟨Nat.le_of_ble_eq_true rfl, Nat.le_of_ble_eq_true rfl⟩ rfl rfl rfl (by decide) rfl (Nat.le_of_ble_eq_true rfl) dX12_groups_149 (fun v τ hq => ?_)
        obtain ⟨r6, rfl, h⟩ := hq
        obtain ⟨s7, es7⟩ : ∃ z, z = τ := ⟨_, rfl⟩
        rw [← es7] at h ⊢
        clear es7
        refine ga_if_eq (tgt := 162) hC dX12_groups_152 (by decide) (fun hc => ?_) (fun hc => ?_)
        · have h := h.1 hc
          refine ga_iinc (v := v3 + (-1)) (lv' := [(3, .int (v3 + (-1))), (0, .ref (ad 0)), (1, .int v1), (2, .int v2)]) hC dX12_groups_162 3 rfl rfl (by decide) rfl ?_
          refine ga_goto (tgt := 118) hC dX12_groups_165 (by decide) ?_
          refine ga_locals [1, 2, 3, 0] rfl ?_
          exact h p l e s m args below meth c D cy ad hC
        · have h := h.2 hc
          refine ga_aload_n hC dX12_groups_155 0 rfl rfl ?_
          refine gM_0_33 hC q_6_118 dX12_groups_156 ?_
          refine ga_iload_n hC dX12_groups_159 2 rfl rfl ?_
          refine ga_iload_n hC dX12_groups_160 3 rfl rfl ?_
          obtain ⟨h9, h⟩ := h
          refine ga_iast hC aM_12 (by decide) h9 dX12_groups_161 ?_
          refine ga_sig (σ := cg_i s7 12 v2.toNatClampNeg v3) (fun s10 es10 => ?_)
          have h := h s10 es10
          refine ga_iinc (v := v3 + (-1)) (lv' := [(3, .int (v3 + (-1))), (0, .ref (ad 0)), (1, .int v1), (2, .int v2)]) hC dX12_groups_162 3 rfl rfl (by decide) rfl ?_
          refine ga_goto (tgt := 118) hC dX12_groups_165 (by decide) ?_
          refine ga_locals [1, 2, 3, 0] rfl ?_
          exact h p l e s m args below meth c D cy ad hC
set_option maxRecDepth 100000 in
set_option maxHeartbeats 4000000 in
theorem v_X12_groups_99 {v1 : Int32} {v2 : Int32} {σ : cg_S} {Q : cg_S → Prop}
    (h : ((σ.1 0 1) ≤ v2 → L_X12_groups_176 v1 0 σ Q) ∧ (¬ (σ.1 0 1) ≤ v2 → vp_in v2 7 ∧ ∀ s2 : cg_S, s2 = cg_i σ 12 v2.toNatClampNeg v2 → ∀ x3 : Int32, x3 = v2 - 1 → L_X12_groups_118 v1 v2 x3 s2 Q)) : L_X12_groups_99 v1 v2 σ Q := by
  intro p l e s m args below meth c D cy ad hC
  refine ga_iload_n hC dX12_groups_99 2 rfl rfl ?_
  refine ga_aload_n hC dX12_groups_100 0 rfl rfl ?_
  refine gM_0_1 hC q_6_86 dX12_groups_101 ?_
  refine ga_icmp_ge (tgt := 174) hC dX12_groups_104 (by decide) (fun hc => ?_) (fun hc => ?_)
  · have h := h.1 hc
    refine ga_iconst (v := 0) hC dX12_groups_174 (by decide) ?_
    refine ga_istore_n (lv' := [(2, .int 0), (0, .ref (ad 0)), (1, .int v1)]) hC dX12_groups_175 rfl (by decide) rfl ?_
    refine ga_locals [1, 2, 0] rfl ?_
    exact h p l e s m args below meth c D cy ad hC
  · have h := h.2 hc
    refine ga_aload_n hC dX12_groups_107 0 rfl rfl ?_
    refine gM_0_33 hC q_6_118 dX12_groups_108 ?_
    refine ga_iload_n hC dX12_groups_111 2 rfl rfl ?_
    refine ga_iload_n hC dX12_groups_112 2 rfl rfl ?_
    obtain ⟨h1, h⟩ := h
    refine ga_iast hC aM_12 (by decide) h1 dX12_groups_113 ?_
    refine ga_sig (σ := cg_i σ 12 v2.toNatClampNeg v2) (fun s2 es2 => ?_)
    have h := h s2 es2
    refine ga_iload_n hC dX12_groups_114 2 rfl rfl ?_
    refine ga_iconst (v := 1) hC dX12_groups_115 (by decide) ?_
    refine ga_isub hC dX12_groups_116 ?_
    refine ga_topi (fun x3 ex3 => ?_)
    have h := h x3 ex3
    refine ga_istore_n (lv' := [(3, .int x3), (0, .ref (ad 0)), (1, .int v1), (2, .int v2)]) hC dX12_groups_117 rfl (by decide) rfl ?_
    refine ga_locals [1, 2, 3, 0] rfl ?_
    exact h p l e s m args below meth c D cy ad hC
set_option maxRecDepth 100000 in
set_option maxHeartbeats 4000000 in
theorem v_X12_groups_91 {v1 : Int32} {σ : cg_S} {Q : cg_S → Prop}
    (h : (7 ≤ v1 → Q σ) ∧ (¬ 7 ≤ v1 → L_X12_groups_99 v1 0 σ Q)) : L_X12_groups_91 v1 σ Q := by
  intro p l e s m args below meth c D cy ad hC
  refine ga_iload_n hC dX12_groups_91 1 rfl rfl ?_
  refine ga_bipush (v := 7) hC dX12_groups_92 (by decide) ?_
  refine ga_icmp_ge (tgt := 208) hC dX12_groups_94 (by decide) (fun hc => ?_) (fun hc => ?_)
  · have h := h.1 hc
    exact ga_vret hC dX12_groups_208 ⟨rfl, h⟩
  · have h := h.2 hc
    refine ga_iconst (v := 0) hC dX12_groups_97 (by decide) ?_
    refine ga_istore_n (lv' := [(2, .int 0), (0, .ref (ad 0)), (1, .int v1)]) hC dX12_groups_98 rfl (by decide) rfl ?_
    refine ga_locals [1, 2, 0] rfl ?_
    exact h p l e s m args below meth c D cy ad hC
set_option maxRecDepth 100000 in
set_option maxHeartbeats 4000000 in
theorem v_X12_groups_21 {v1 : Int32} {v2 : Int32} {σ : cg_S} {Q : cg_S → Prop}
    (h : (v2 < 0 → L_X12_groups_2 (v1 + 1) σ Q) ∧ (¬ v2 < 0 → vp_in v1 7 ∧ vp_in v2 7 ∧ (¬ (σ.1 1 v1.toNatClampNeg) = (σ.1 1 v2.toNatClampNeg) → L_X12_groups_21 v1 (v2 + (-1)) σ Q) ∧ ((σ.1 1 v1.toNatClampNeg) = (σ.1 1 v2.toNatClampNeg) → vp_in v1 7 ∧ vp_in v2 7 ∧ (¬ (σ.1 2 v1.toNatClampNeg) = (σ.1 2 v2.toNatClampNeg) → L_X12_groups_21 v1 (v2 + (-1)) σ Q) ∧ ((σ.1 2 v1.toNatClampNeg) = (σ.1 2 v2.toNatClampNeg) → vp_in v1 7 ∧ vp_in v2 7 ∧ (¬ (σ.1 15 v1.toNatClampNeg) = (σ.1 15 v2.toNatClampNeg) → L_X12_groups_21 v1 (v2 + (-1)) σ Q) ∧ ((σ.1 15 v1.toNatClampNeg) = (σ.1 15 v2.toNatClampNeg) → vp_in v1 7 ∧ ∀ s8 : cg_S, s8 = cg_i σ 11 v1.toNatClampNeg v2 → L_X12_groups_21 v1 (v2 + (-1)) s8 Q))))) : L_X12_groups_21 v1 v2 σ Q := by
  intro p l e s m args below meth c D cy ad hC
  refine ga_iload_n hC dX12_groups_21 2 rfl rfl ?_
  refine ga_if_lt (tgt := 83) hC dX12_groups_22 (by decide) (fun hc => ?_) (fun hc => ?_)
  · have h := h.1 hc
    refine ga_iinc (v := v1 + 1) (lv' := [(1, .int (v1 + 1)), (0, .ref (ad 0)), (2, .int v2)]) hC dX12_groups_83 1 rfl rfl (by decide) rfl ?_
    refine ga_goto (tgt := 2) hC dX12_groups_86 (by decide) ?_
    refine ga_locals [1, 0] rfl ?_
    exact h p l e s m args below meth c D cy ad hC
  · have h := h.2 hc
    refine ga_aload_n hC dX12_groups_25 0 rfl rfl ?_
    refine gM_0_6 hC q_6_91 dX12_groups_26 ?_
    refine ga_iload_n hC dX12_groups_29 1 rfl rfl ?_
    obtain ⟨h1, h⟩ := h
    refine ga_iald hC aM_1 (by decide) h1 dX12_groups_30 ?_
    refine ga_aload_n hC dX12_groups_31 0 rfl rfl ?_
    refine gM_0_6 hC q_6_91 dX12_groups_32 ?_
    refine ga_iload_n hC dX12_groups_35 2 rfl rfl ?_
    obtain ⟨h2, h⟩ := h
    refine ga_iald hC aM_1 (by decide) h2 dX12_groups_36 ?_
    refine ga_icmp_ne (tgt := 77) hC dX12_groups_37 (by decide) (fun hc => ?_) (fun hc => ?_)
    · have h := h.1 hc
      refine ga_iinc (v := v2 + (-1)) (lv' := [(2, .int (v2 + (-1))), (0, .ref (ad 0)), (1, .int v1)]) hC dX12_groups_77 2 rfl rfl (by decide) rfl ?_
      refine ga_goto (tgt := 21) hC dX12_groups_80 (by decide) ?_
      refine ga_locals [1, 2, 0] rfl ?_
      exact h p l e s m args below meth c D cy ad hC
    · have h := h.2 hc
      refine ga_aload_n hC dX12_groups_40 0 rfl rfl ?_
      refine gM_0_7 hC q_6_92 dX12_groups_41 ?_
      refine ga_iload_n hC dX12_groups_44 1 rfl rfl ?_
      obtain ⟨h3, h⟩ := h
      refine ga_iald hC aM_2 (by decide) h3 dX12_groups_45 ?_
      refine ga_aload_n hC dX12_groups_46 0 rfl rfl ?_
      refine gM_0_7 hC q_6_92 dX12_groups_47 ?_
      refine ga_iload_n hC dX12_groups_50 2 rfl rfl ?_
      obtain ⟨h4, h⟩ := h
      refine ga_iald hC aM_2 (by decide) h4 dX12_groups_51 ?_
      refine ga_icmp_ne (tgt := 77) hC dX12_groups_52 (by decide) (fun hc => ?_) (fun hc => ?_)
      · have h := h.1 hc
        refine ga_iinc (v := v2 + (-1)) (lv' := [(2, .int (v2 + (-1))), (0, .ref (ad 0)), (1, .int v1)]) hC dX12_groups_77 2 rfl rfl (by decide) rfl ?_
        refine ga_goto (tgt := 21) hC dX12_groups_80 (by decide) ?_
        refine ga_locals [1, 2, 0] rfl ?_
        exact h p l e s m args below meth c D cy ad hC
      · have h := h.2 hc
        refine ga_aload_n hC dX12_groups_55 0 rfl rfl ?_
        refine gM_0_16 hC q_6_101 dX12_groups_56 ?_
        refine ga_iload_n hC dX12_groups_59 1 rfl rfl ?_
        obtain ⟨h5, h⟩ := h
        refine ga_zald hC aM_15 (by decide) h5 dX12_groups_60 ?_
        refine ga_aload_n hC dX12_groups_61 0 rfl rfl ?_
        refine gM_0_16 hC q_6_101 dX12_groups_62 ?_
        refine ga_iload_n hC dX12_groups_65 2 rfl rfl ?_
        obtain ⟨h6, h⟩ := h
        refine ga_zald hC aM_15 (by decide) h6 dX12_groups_66 ?_
        refine ga_icmp_ne (tgt := 77) hC dX12_groups_67 (by decide) (fun hc => ?_) (fun hc => ?_)
        · have h := h.1 hc
          refine ga_iinc (v := v2 + (-1)) (lv' := [(2, .int (v2 + (-1))), (0, .ref (ad 0)), (1, .int v1)]) hC dX12_groups_77 2 rfl rfl (by decide) rfl ?_
          refine ga_goto (tgt := 21) hC dX12_groups_80 (by decide) ?_
          refine ga_locals [1, 2, 0] rfl ?_
          exact h p l e s m args below meth c D cy ad hC
        · have h := h.2 hc
          refine ga_aload_n hC dX12_groups_70 0 rfl rfl ?_
          refine gM_0_32 hC q_6_117 dX12_groups_71 ?_
          refine ga_iload_n hC dX12_groups_74 1 rfl rfl ?_
          refine ga_iload_n hC dX12_groups_75 2 rfl rfl ?_
          obtain ⟨h7, h⟩ := h
          refine ga_iast hC aM_11 (by decide) h7 dX12_groups_76 ?_
          refine ga_sig (σ := cg_i σ 11 v1.toNatClampNeg v2) (fun s8 es8 => ?_)
          have h := h s8 es8
          refine ga_iinc (v := v2 + (-1)) (lv' := [(2, .int (v2 + (-1))), (0, .ref (ad 0)), (1, .int v1)]) hC dX12_groups_77 2 rfl rfl (by decide) rfl ?_
          refine ga_goto (tgt := 21) hC dX12_groups_80 (by decide) ?_
          refine ga_locals [1, 2, 0] rfl ?_
          exact h p l e s m args below meth c D cy ad hC
set_option maxRecDepth 100000 in
set_option maxHeartbeats 4000000 in
theorem v_X12_groups_2 {v1 : Int32} {σ : cg_S} {Q : cg_S → Prop}
    (h : ((σ.1 0 1) ≤ v1 → L_X12_groups_91 0 σ Q) ∧ (¬ (σ.1 0 1) ≤ v1 → vp_in v1 7 ∧ ∀ s2 : cg_S, s2 = cg_i σ 11 v1.toNatClampNeg v1 → ∀ x3 : Int32, x3 = v1 - 1 → L_X12_groups_21 v1 x3 s2 Q)) : L_X12_groups_2 v1 σ Q := by
  intro p l e s m args below meth c D cy ad hC
  refine ga_iload_n hC dX12_groups_2 1 rfl rfl ?_
  refine ga_aload_n hC dX12_groups_3 0 rfl rfl ?_
  refine gM_0_1 hC q_6_86 dX12_groups_4 ?_
  refine ga_icmp_ge (tgt := 89) hC dX12_groups_7 (by decide) (fun hc => ?_) (fun hc => ?_)
  · have h := h.1 hc
    refine ga_iconst (v := 0) hC dX12_groups_89 (by decide) ?_
    refine ga_istore_n (lv' := [(1, .int 0), (0, .ref (ad 0))]) hC dX12_groups_90 rfl (by decide) rfl ?_
    refine ga_locals [1, 0] rfl ?_
    exact h p l e s m args below meth c D cy ad hC
  · have h := h.2 hc
    refine ga_aload_n hC dX12_groups_10 0 rfl rfl ?_
    refine gM_0_32 hC q_6_117 dX12_groups_11 ?_
    refine ga_iload_n hC dX12_groups_14 1 rfl rfl ?_
    refine ga_iload_n hC dX12_groups_15 1 rfl rfl ?_
    obtain ⟨h1, h⟩ := h
    refine ga_iast hC aM_11 (by decide) h1 dX12_groups_16 ?_
    refine ga_sig (σ := cg_i σ 11 v1.toNatClampNeg v1) (fun s2 es2 => ?_)
    have h := h s2 es2
    refine ga_iload_n hC dX12_groups_17 1 rfl rfl ?_
    refine ga_iconst (v := 1) hC dX12_groups_18 (by decide) ?_
    refine ga_isub hC dX12_groups_19 ?_
    refine ga_topi (fun x3 ex3 => ?_)
    have h := h x3 ex3
    refine ga_istore_n (lv' := [(2, .int x3), (0, .ref (ad 0)), (1, .int v1)]) hC dX12_groups_20 rfl (by decide) rfl ?_
    refine ga_locals [1, 2, 0] rfl ?_
    exact h p l e s m args below meth c D cy ad hC
set_option maxRecDepth 100000 in
set_option maxHeartbeats 4000000 in
theorem v_X12_groups {σ : cg_S} {Q : cg_S → Prop}
    (h : L_X12_groups_2 0 σ Q) : M_X12_groups σ Q := by
  refine cg_entry (lv := fun ad => [(0, .ref (ad 0))]) (by decide +kernel) (fun _ => rfl) (fun _ => Nat.le_of_ble_eq_true rfl) ?_
  intro p l e s m args below meth c D cy ad hC
  refine ga_iconst (v := 0) hC dX12_groups_0 (by decide) ?_
  refine ga_istore_n (lv' := [(1, .int 0), (0, .ref (ad 0))]) hC dX12_groups_1 rfl (by decide) rfl ?_
  refine ga_locals [1, 0] rfl ?_
  exact h p l e s m args below meth c D cy ad hC
def M_X12_classOf (v1 : Int32) (σ : cg_S) (Q : Int32 → cg_S → Prop) : Prop := cg_M cg_WM yX12_classOf cX12_classOf 2 (some .int) (cg_R 4) (fun ad => [.ref (ad 0), .int v1]) σ (cg_qi Q)
theorem M_X12_classOf.mono {v1 : Int32} {σ : cg_S} {Q Q2 : Int32 → cg_S → Prop} (h : M_X12_classOf v1 σ Q) (hq : ∀ r τ, Q r τ → Q2 r τ) : M_X12_classOf v1 σ Q2 := cg_M.mono h (fun ad v τ ⟨r, e, q⟩ => ⟨r, e, hq r τ q⟩)
set_option maxRecDepth 100000 in
set_option maxHeartbeats 4000000 in
theorem v_X12_classOf {v1 : Int32} {σ : cg_S} {Q : Int32 → cg_S → Prop}
    (h : M_X12_isGame v1 σ (fun r1 s2 => (¬ r1 = 0 → M_X12_groups s2 (fun s5 => vp_in v1 7 ∧ Q (s5.1 11 v1.toNatClampNeg) s5)) ∧ (r1 = 0 → Q 0 s2))) : M_X12_classOf v1 σ Q := by
  refine cg_entry (lv := fun ad => [(0, .ref (ad 0)), (1, .int v1)]) (by decide +kernel) (fun _ => rfl) (fun _ => Nat.le_of_ble_eq_true rfl) ?_
  intro p l e s m args below meth c D cy ad hC
  refine ga_aload_n hC dX12_classOf_0 0 rfl rfl ?_
  refine ga_iload_n hC dX12_classOf_1 1 rfl rfl ?_
  refine ga_callV (As := [.int v1]) (st := []) (k := 0) (n := 1) hC h q_7_197 q_7_199 q_0_42 q_1_13 q_7_200 rfl rfl rfl (by decide +kernel) ⟨Nat.le_of_ble_eq_true rfl, Nat.le_of_ble_eq_true rfl⟩ ⟨Nat.le_of_ble_eq_true rfl, Nat.le_of_ble_eq_true rfl⟩ rfl rfl rfl (by decide) rfl (Nat.le_of_ble_eq_true rfl) dX12_classOf_2 (fun v τ hq => ?_)
  obtain ⟨r1, rfl, h⟩ := hq
  obtain ⟨s2, es2⟩ : ∃ z, z = τ := ⟨_, rfl⟩
  rw [← es2] at h ⊢
  clear es2
  refine ga_if_ne (tgt := 10) hC dX12_classOf_5 (by decide) (fun hc => ?_) (fun hc => ?_)
  · have h := h.1 hc
    refine ga_aload_n hC dX12_classOf_10 0 rfl rfl ?_
    refine ga_callV (As := []) (st := []) (k := 0) (n := 0) hC h q_8_49 q_8_51 q_0_54 q_1_13 q_8_52 rfl rfl rfl (by decide +kernel) ⟨Nat.le_of_ble_eq_true rfl, Nat.le_of_ble_eq_true rfl⟩ ⟨Nat.le_of_ble_eq_true rfl, Nat.le_of_ble_eq_true rfl⟩ rfl rfl rfl (by decide) rfl (Nat.le_of_ble_eq_true rfl) dX12_classOf_11 (fun v τ hq => ?_)
    obtain ⟨rfl, h⟩ := hq
    obtain ⟨s5, es5⟩ : ∃ z, z = τ := ⟨_, rfl⟩
    rw [← es5] at h ⊢
    clear es5
    refine ga_aload_n hC dX12_classOf_14 0 rfl rfl ?_
    refine gM_0_32 hC q_6_117 dX12_classOf_15 ?_
    refine ga_iload_n hC dX12_classOf_18 1 rfl rfl ?_
    obtain ⟨h7, h⟩ := h
    refine ga_iald hC aM_11 (by decide) h7 dX12_classOf_19 ?_
    exact ga_iret hC dX12_classOf_20 ⟨_, rfl, h⟩
  · have h := h.2 hc
    refine ga_iconst (v := 0) hC dX12_classOf_8 (by decide) ?_
    exact ga_iret hC dX12_classOf_9 ⟨_, rfl, h⟩
def M_X12_classes (σ : cg_S) (Q : Int32 → cg_S → Prop) : Prop := cg_M cg_WM yX12_classes cX12_classes 3 (some .int) (cg_R 4) (fun ad => [.ref (ad 0)]) σ (cg_qi Q)
theorem M_X12_classes.mono {σ : cg_S} {Q Q2 : Int32 → cg_S → Prop} (h : M_X12_classes σ Q) (hq : ∀ r τ, Q r τ → Q2 r τ) : M_X12_classes σ Q2 := cg_M.mono h (fun ad v τ ⟨r, e, q⟩ => ⟨r, e, hq r τ q⟩)
def L_X12_classes_13 (t1 : Int32) (σ : cg_S) (Q : Int32 → cg_S → Prop) : Prop := cg_L cg_WM RX12 cX12_classes 3 (some .int) (cg_R 4) 13 (fun ad => [(0, .ref (ad 0))]) (fun ad => [.int t1, .ref (ad 0)]) σ (cg_qi Q)
def L_X12_classes_33 (v1 : Int32) (v2 : Int32) (σ : cg_S) (Q : Int32 → cg_S → Prop) : Prop := cg_L cg_WM RX12 cX12_classes 3 (some .int) (cg_R 4) 33 (fun ad => [(0, .ref (ad 0)), (1, .int v1), (2, .int v2)]) (fun ad => []) σ (cg_qi Q)
set_option maxRecDepth 100000 in
set_option maxHeartbeats 4000000 in
theorem v_X12_classes_33 {v1 : Int32} {v2 : Int32} {σ : cg_S} {Q : Int32 → cg_S → Prop}
    (h : ((σ.1 0 1) ≤ v2 → Q v1 σ) ∧ (¬ (σ.1 0 1) ≤ v2 → vp_in v2 7 ∧ (¬ (σ.1 11 v2.toNatClampNeg) = v2 → ∀ x2 : Int32, x2 = v1 + 0 → L_X12_classes_33 x2 (v2 + 1) σ Q) ∧ ((σ.1 11 v2.toNatClampNeg) = v2 → ∀ x3 : Int32, x3 = v1 + 1 → L_X12_classes_33 x3 (v2 + 1) σ Q))) : L_X12_classes_33 v1 v2 σ Q := by
  intro p l e s m args below meth c D cy ad hC
  refine ga_iload_n hC dX12_classes_33 2 rfl rfl ?_
  refine ga_aload_n hC dX12_classes_34 0 rfl rfl ?_
  refine gM_0_1 hC q_6_86 dX12_classes_35 ?_
  refine ga_icmp_ge (tgt := 65) hC dX12_classes_38 (by decide) (fun hc => ?_) (fun hc => ?_)
  · have h := h.1 hc
    refine ga_iload_n hC dX12_classes_65 1 rfl rfl ?_
    exact ga_iret hC dX12_classes_66 ⟨_, rfl, h⟩
  · have h := h.2 hc
    refine ga_iload_n hC dX12_classes_41 1 rfl rfl ?_
    refine ga_aload_n hC dX12_classes_42 0 rfl rfl ?_
    refine gM_0_32 hC q_6_117 dX12_classes_43 ?_
    refine ga_iload_n hC dX12_classes_46 2 rfl rfl ?_
    obtain ⟨h1, h⟩ := h
    refine ga_iald hC aM_11 (by decide) h1 dX12_classes_47 ?_
    refine ga_iload_n hC dX12_classes_48 2 rfl rfl ?_
    refine ga_icmp_ne (tgt := 56) hC dX12_classes_49 (by decide) (fun hc => ?_) (fun hc => ?_)
    · have h := h.1 hc
      refine ga_iconst (v := 0) hC dX12_classes_56 (by decide) ?_
      refine ga_iadd hC dX12_classes_57 ?_
      refine ga_topi (fun x2 ex2 => ?_)
      have h := h x2 ex2
      refine ga_istore_n (lv' := [(1, .int x2), (0, .ref (ad 0)), (2, .int v2)]) hC dX12_classes_58 rfl (by decide) rfl ?_
      refine ga_iinc (v := v2 + 1) (lv' := [(2, .int (v2 + 1)), (1, .int x2), (0, .ref (ad 0))]) hC dX12_classes_59 2 rfl rfl (by decide) rfl ?_
      refine ga_goto (tgt := 33) hC dX12_classes_62 (by decide) ?_
      refine ga_locals [2, 1, 0] rfl ?_
      exact h p l e s m args below meth c D cy ad hC
    · have h := h.2 hc
      refine ga_iconst (v := 1) hC dX12_classes_52 (by decide) ?_
      refine ga_goto (tgt := 57) hC dX12_classes_53 (by decide) ?_
      refine ga_iadd hC dX12_classes_57 ?_
      refine ga_topi (fun x3 ex3 => ?_)
      have h := h x3 ex3
      refine ga_istore_n (lv' := [(1, .int x3), (0, .ref (ad 0)), (2, .int v2)]) hC dX12_classes_58 rfl (by decide) rfl ?_
      refine ga_iinc (v := v2 + 1) (lv' := [(2, .int (v2 + 1)), (1, .int x3), (0, .ref (ad 0))]) hC dX12_classes_59 2 rfl rfl (by decide) rfl ?_
      refine ga_goto (tgt := 33) hC dX12_classes_62 (by decide) ?_
      refine ga_locals [2, 1, 0] rfl ?_
      exact h p l e s m args below meth c D cy ad hC
set_option maxRecDepth 100000 in
set_option maxHeartbeats 4000000 in
theorem v_X12_classes_13 {t1 : Int32} {σ : cg_S} {Q : Int32 → cg_S → Prop}
    (h : ∀ s1 : cg_S, s1 = cg_i σ 0 0 t1 → ((s1.1 0 0) ≤ 0 → M_X12_groups s1 (fun s3 => L_X12_classes_33 0 0 s3 Q)) ∧ (¬ (s1.1 0 0) ≤ 0 → Q 0 s1)) : L_X12_classes_13 t1 σ Q := by
  intro p l e s m args below meth c D cy ad hC
  refine pM_0_0 hC q_6_85 dX12_classes_13 ?_
  refine ga_sig (σ := cg_i σ 0 0 t1) (fun s1 es1 => ?_)
  have h := h s1 es1
  refine ga_aload_n hC dX12_classes_16 0 rfl rfl ?_
  refine gM_0_0 hC q_6_85 dX12_classes_17 ?_
  refine ga_if_le (tgt := 25) hC dX12_classes_20 (by decide) (fun hc => ?_) (fun hc => ?_)
  · have h := h.1 hc
    refine ga_aload_n hC dX12_classes_25 0 rfl rfl ?_
    refine ga_callV (As := []) (st := []) (k := 0) (n := 0) hC h q_8_49 q_8_51 q_0_54 q_1_13 q_8_52 rfl rfl rfl (by decide +kernel) ⟨Nat.le_of_ble_eq_true rfl, Nat.le_of_ble_eq_true rfl⟩ ⟨Nat.le_of_ble_eq_true rfl, Nat.le_of_ble_eq_true rfl⟩ rfl rfl rfl (by decide) rfl (Nat.le_of_ble_eq_true rfl) dX12_classes_26 (fun v τ hq => ?_)
    obtain ⟨rfl, h⟩ := hq
    obtain ⟨s3, es3⟩ : ∃ z, z = τ := ⟨_, rfl⟩
    rw [← es3] at h ⊢
    clear es3
    refine ga_iconst (v := 0) hC dX12_classes_29 (by decide) ?_
    refine ga_istore_n (lv' := [(1, .int 0), (0, .ref (ad 0))]) hC dX12_classes_30 rfl (by decide) rfl ?_
    refine ga_iconst (v := 0) hC dX12_classes_31 (by decide) ?_
    refine ga_istore_n (lv' := [(2, .int 0), (1, .int 0), (0, .ref (ad 0))]) hC dX12_classes_32 rfl (by decide) rfl ?_
    refine ga_locals [2, 1, 0] rfl ?_
    exact h p l e s m args below meth c D cy ad hC
  · have h := h.2 hc
    refine ga_iconst (v := 0) hC dX12_classes_23 (by decide) ?_
    exact ga_iret hC dX12_classes_24 ⟨_, rfl, h⟩
set_option maxRecDepth 100000 in
set_option maxHeartbeats 4000000 in
theorem v_X12_classes {σ : cg_S} {Q : Int32 → cg_S → Prop}
    (h : M_X12_isAll σ (fun r1 s2 => (r1 = 0 → L_X12_classes_13 1 s2 Q) ∧ (¬ r1 = 0 → L_X12_classes_13 0 s2 Q))) : M_X12_classes σ Q := by
  refine cg_entry (lv := fun ad => [(0, .ref (ad 0))]) (by decide +kernel) (fun _ => rfl) (fun _ => Nat.le_of_ble_eq_true rfl) ?_
  intro p l e s m args below meth c D cy ad hC
  refine ga_aload_n hC dX12_classes_0 0 rfl rfl ?_
  refine ga_aload_n hC dX12_classes_1 0 rfl rfl ?_
  refine ga_callV (As := []) (st := [.ref (ad 0)]) (k := 0) (n := 0) hC h q_7_50 q_7_52 q_0_17 q_1_13 q_7_53 rfl rfl rfl (by decide +kernel) ⟨Nat.le_of_ble_eq_true rfl, Nat.le_of_ble_eq_true rfl⟩ ⟨Nat.le_of_ble_eq_true rfl, Nat.le_of_ble_eq_true rfl⟩ rfl rfl rfl (by decide) rfl (Nat.le_of_ble_eq_true rfl) dX12_classes_2 (fun v τ hq => ?_)
  obtain ⟨r1, rfl, h⟩ := hq
  obtain ⟨s2, es2⟩ : ∃ z, z = τ := ⟨_, rfl⟩
  rw [← es2] at h ⊢
  clear es2
  refine ga_if_eq (tgt := 12) hC dX12_classes_5 (by decide) (fun hc => ?_) (fun hc => ?_)
  · have h := h.1 hc
    refine ga_iconst (v := 1) hC dX12_classes_12 (by decide) ?_
    refine ga_locals [0] rfl ?_
    exact h p l e s m args below meth c D cy ad hC
  · have h := h.2 hc
    refine ga_iconst (v := 0) hC dX12_classes_8 (by decide) ?_
    refine ga_goto (tgt := 13) hC dX12_classes_9 (by decide) ?_
    refine ga_locals [0] rfl ?_
    exact h p l e s m args below meth c D cy ad hC
def M_X12_isBetter (v1 : Int32) (v2 : Int64) (v4 : Int64) (σ : cg_S) (Q : Int32 → cg_S → Prop) : Prop := cg_M cg_WM yX12_isBetter cX12_isBetter 9 (some .boolean) (cg_R 0) (fun ad => [.ref (ad 0), .int v1, .long v2, .long v4]) σ (cg_qi Q)
theorem M_X12_isBetter.mono {v1 : Int32} {v2 : Int64} {v4 : Int64} {σ : cg_S} {Q Q2 : Int32 → cg_S → Prop} (h : M_X12_isBetter v1 v2 v4 σ Q) (hq : ∀ r τ, Q r τ → Q2 r τ) : M_X12_isBetter v1 v2 v4 σ Q2 := cg_M.mono h (fun ad v τ ⟨r, e, q⟩ => ⟨r, e, hq r τ q⟩)
def L_X12_isBetter_70 (v1 : Int32) (v8 : Int32) (σ : cg_S) (Q : Int32 → cg_S → Prop) : Prop := cg_L cg_WM RX12 cX12_isBetter 9 (some .boolean) (cg_R 0) 70 (fun ad => [(0, .ref (ad 0)), (1, .int v1), (8, .int v8)]) (fun ad => []) σ (cg_qi Q)
set_option maxRecDepth 100000 in
set_option maxHeartbeats 4000000 in
theorem v_X12_isBetter_70 {v1 : Int32} {v8 : Int32} {σ : cg_S} {Q : Int32 → cg_S → Prop}
    (h : (v1 ≤ v8 → Q 0 σ) ∧ (¬ v1 ≤ v8 → vp_in v8 7 ∧ vp_in v8 7 ∧ ((σ.1 13 v8.toNatClampNeg) = (σ.1 14 v8.toNatClampNeg) → L_X12_isBetter_70 v1 (v8 + 1) σ Q) ∧ (¬ (σ.1 13 v8.toNatClampNeg) = (σ.1 14 v8.toNatClampNeg) → vp_in v8 7 ∧ vp_in v8 7 ∧ ((σ.1 14 v8.toNatClampNeg) ≤ (σ.1 13 v8.toNatClampNeg) → Q 0 σ) ∧ (¬ (σ.1 14 v8.toNatClampNeg) ≤ (σ.1 13 v8.toNatClampNeg) → Q 1 σ)))) : L_X12_isBetter_70 v1 v8 σ Q := by
  intro p l e s m args below meth c D cy ad hC
  refine ga_iload hC dX12_isBetter_70 2 rfl ?_
  refine ga_iload_n hC dX12_isBetter_72 1 rfl rfl ?_
  refine ga_icmp_ge (tgt := 122) hC dX12_isBetter_73 (by decide) (fun hc => ?_) (fun hc => ?_)
  · have h := h.1 hc
    refine ga_iconst (v := 0) hC dX12_isBetter_122 (by decide) ?_
    exact ga_zret hC dX12_isBetter_123 (by decide) ⟨_, rfl, h⟩
  · have h := h.2 hc
    refine ga_aload_n hC dX12_isBetter_76 0 rfl rfl ?_
    refine gM_0_34 hC q_6_119 dX12_isBetter_77 ?_
    refine ga_iload hC dX12_isBetter_80 2 rfl ?_
    obtain ⟨h1, h⟩ := h
    refine ga_iald hC aM_13 (by decide) h1 dX12_isBetter_82 ?_
    refine ga_aload_n hC dX12_isBetter_83 0 rfl rfl ?_
    refine gM_0_35 hC q_6_120 dX12_isBetter_84 ?_
    refine ga_iload hC dX12_isBetter_87 2 rfl ?_
    obtain ⟨h2, h⟩ := h
    refine ga_iald hC aM_14 (by decide) h2 dX12_isBetter_89 ?_
    refine ga_icmp_eq (tgt := 116) hC dX12_isBetter_90 (by decide) (fun hc => ?_) (fun hc => ?_)
    · have h := h.1 hc
      refine ga_iinc (v := v8 + 1) (lv' := [(8, .int (v8 + 1)), (0, .ref (ad 0)), (1, .int v1)]) hC dX12_isBetter_116 2 rfl rfl (by decide) rfl ?_
      refine ga_goto (tgt := 70) hC dX12_isBetter_119 (by decide) ?_
      refine ga_locals [1, 2, 0] rfl ?_
      exact h p l e s m args below meth c D cy ad hC
    · have h := h.2 hc
      refine ga_aload_n hC dX12_isBetter_93 0 rfl rfl ?_
      refine gM_0_34 hC q_6_119 dX12_isBetter_94 ?_
      refine ga_iload hC dX12_isBetter_97 2 rfl ?_
      obtain ⟨h3, h⟩ := h
      refine ga_iald hC aM_13 (by decide) h3 dX12_isBetter_99 ?_
      refine ga_aload_n hC dX12_isBetter_100 0 rfl rfl ?_
      refine gM_0_35 hC q_6_120 dX12_isBetter_101 ?_
      refine ga_iload hC dX12_isBetter_104 2 rfl ?_
      obtain ⟨h4, h⟩ := h
      refine ga_iald hC aM_14 (by decide) h4 dX12_isBetter_106 ?_
      refine ga_icmp_ge (tgt := 114) hC dX12_isBetter_107 (by decide) (fun hc => ?_) (fun hc => ?_)
      · have h := h.1 hc
        refine ga_iconst (v := 0) hC dX12_isBetter_114 (by decide) ?_
        exact ga_zret hC dX12_isBetter_115 (by decide) ⟨_, rfl, h⟩
      · have h := h.2 hc
        refine ga_iconst (v := 1) hC dX12_isBetter_110 (by decide) ?_
        refine ga_goto (tgt := 115) hC dX12_isBetter_111 (by decide) ?_
        exact ga_zret hC dX12_isBetter_115 (by decide) ⟨_, rfl, h⟩
set_option maxRecDepth 100000 in
set_option maxHeartbeats 4000000 in
theorem v_X12_isBetter {v1 : Int32} {v2 : Int64} {v4 : Int64} {σ : cg_S} {Q : Int32 → cg_S → Prop}
    (h : (¬ (σ.1 0 38) = 0 → ∀ x1 : Int64, x1 = (v2 * (σ.2.1 0 43)) - ((σ.2.1 0 42) * v4) → (x1 = 0 → (v1 = (σ.1 0 38) → L_X12_isBetter_70 v1 0 σ Q) ∧ (¬ v1 = (σ.1 0 38) → ((σ.1 0 38) ≤ v1 → Q 0 σ) ∧ (¬ (σ.1 0 38) ≤ v1 → Q 1 σ))) ∧ (¬ x1 = 0 → (x1 ≤ 0 → Q 0 σ) ∧ (¬ x1 ≤ 0 → Q 1 σ))) ∧ ((σ.1 0 38) = 0 → Q 1 σ)) : M_X12_isBetter v1 v2 v4 σ Q := by
  refine cg_entry (lv := fun ad => [(0, .ref (ad 0)), (1, .int v1), (2, .long v2), (4, .long v4)]) (by decide +kernel) (fun _ => rfl) (fun _ => Nat.le_of_ble_eq_true rfl) ?_
  intro p l e s m args below meth c D cy ad hC
  refine ga_aload_n hC dX12_isBetter_0 0 rfl rfl ?_
  refine gM_0_38 hC q_6_123 dX12_isBetter_1 ?_
  refine ga_if_ne (tgt := 9) hC dX12_isBetter_4 (by decide) (fun hc => ?_) (fun hc => ?_)
  · have h := h.1 hc
    refine ga_lload_n hC dX12_isBetter_9 2 rfl rfl ?_
    refine ga_aload_n hC dX12_isBetter_10 0 rfl rfl ?_
    refine gM_0_43 hC q_6_128 dX12_isBetter_11 ?_
    refine ga_lmul hC dX12_isBetter_14 ?_
    refine ga_aload_n hC dX12_isBetter_15 0 rfl rfl ?_
    refine gM_0_42 hC q_6_127 dX12_isBetter_16 ?_
    refine ga_lload hC dX12_isBetter_19 3 rfl ?_
    refine ga_lmul hC dX12_isBetter_21 ?_
    refine ga_lsub hC dX12_isBetter_22 ?_
    refine ga_topl (fun x1 ex1 => ?_)
    have h := h x1 ex1
    refine ga_lstore (lv' := [(6, .long x1), (0, .ref (ad 0)), (1, .int v1), (2, .long v2), (4, .long v4)]) hC dX12_isBetter_23 (by decide) rfl ?_
    refine ga_lload hC dX12_isBetter_25 0 rfl ?_
    refine ga_lconst (v := 0) hC dX12_isBetter_27 (by decide) ?_
    refine ga_lcmp hC dX12_isBetter_28 ?_
    refine ga_if_eq (tgt := 45) hC dX12_isBetter_29 (by decide) (fun hc => ?_) (fun hc => ?_)
    · have h := h.1 (cg_cmp_eq.1 hc)
      refine ga_iload_n hC dX12_isBetter_45 2 rfl rfl ?_
      refine ga_aload_n hC dX12_isBetter_46 1 rfl rfl ?_
      refine gM_0_38 hC q_6_123 dX12_isBetter_47 ?_
      refine ga_icmp_eq (tgt := 67) hC dX12_isBetter_50 (by decide) (fun hc => ?_) (fun hc => ?_)
      · have h := h.1 hc
        refine ga_iconst (v := 0) hC dX12_isBetter_67 (by decide) ?_
        refine ga_istore (lv' := [(8, .int 0), (6, .long x1), (0, .ref (ad 0)), (1, .int v1), (2, .long v2), (4, .long v4)]) hC dX12_isBetter_68 (by decide) rfl ?_
        refine ga_locals [2, 3, 0] rfl ?_
        exact h p l e s m args below meth c D cy ad hC
      · have h := h.2 hc
        refine ga_iload_n hC dX12_isBetter_53 2 rfl rfl ?_
        refine ga_aload_n hC dX12_isBetter_54 1 rfl rfl ?_
        refine gM_0_38 hC q_6_123 dX12_isBetter_55 ?_
        refine ga_icmp_ge (tgt := 65) hC dX12_isBetter_58 (by decide) (fun hc => ?_) (fun hc => ?_)
        · have h := h.1 hc
          refine ga_iconst (v := 0) hC dX12_isBetter_65 (by decide) ?_
          exact ga_zret hC dX12_isBetter_66 (by decide) ⟨_, rfl, h⟩
        · have h := h.2 hc
          refine ga_iconst (v := 1) hC dX12_isBetter_61 (by decide) ?_
          refine ga_goto (tgt := 66) hC dX12_isBetter_62 (by decide) ?_
          exact ga_zret hC dX12_isBetter_66 (by decide) ⟨_, rfl, h⟩
    · have h := h.2 (cg_cmp_eq.2 hc)
      refine ga_lload hC dX12_isBetter_32 0 rfl ?_
      refine ga_lconst (v := 0) hC dX12_isBetter_34 (by decide) ?_
      refine ga_lcmp hC dX12_isBetter_35 ?_
      refine ga_if_le (tgt := 43) hC dX12_isBetter_36 (by decide) (fun hc => ?_) (fun hc => ?_)
      · have h := h.1 (cg_cmp_le.1 hc)
        refine ga_iconst (v := 0) hC dX12_isBetter_43 (by decide) ?_
        exact ga_zret hC dX12_isBetter_44 (by decide) ⟨_, rfl, h⟩
      · have h := h.2 (cg_cmp_le.2 hc)
        refine ga_iconst (v := 1) hC dX12_isBetter_39 (by decide) ?_
        refine ga_goto (tgt := 44) hC dX12_isBetter_40 (by decide) ?_
        exact ga_zret hC dX12_isBetter_44 (by decide) ⟨_, rfl, h⟩
  · have h := h.2 hc
    refine ga_iconst (v := 1) hC dX12_isBetter_7 (by decide) ?_
    exact ga_zret hC dX12_isBetter_8 (by decide) ⟨_, rfl, h⟩
def M_X12_walks (dd : Nat) (v1 : Int32) (v2 : Int64) (v4 : Int64) (σ : cg_S) (Q : cg_S → Prop) : Prop := cg_M cg_WM yX12_walks cX12_walks 8 none (cg_R (2 + dd)) (fun ad => [.ref (ad 0), .int v1, .long v2, .long v4]) σ (cg_qv Q)
theorem M_X12_walks.mono {dd : Nat} {v1 : Int32} {v2 : Int64} {v4 : Int64} {σ : cg_S} {Q Q2 : cg_S → Prop} (h : M_X12_walks dd v1 v2 v4 σ Q) (hq : ∀ τ, Q τ → Q2 τ) : M_X12_walks dd v1 v2 v4 σ Q2 := cg_M.mono h (fun ad v τ ⟨e, q⟩ => ⟨e, hq τ q⟩)
def L_X12_walks_51 (dd : Nat) (v1 : Int32) (v7 : Int32) (σ : cg_S) (Q : cg_S → Prop) : Prop := cg_L cg_WM RX12 cX12_walks 8 none (cg_R (2 + dd + 1)) 51 (fun ad => [(0, .ref (ad 0)), (1, .int v1), (7, .int v7)]) (fun ad => []) σ (cg_qv Q)
def L_X12_walks_89 (dd : Nat) (v1 : Int32) (v2 : Int64) (v4 : Int64) (v6 : Int32) (v7 : Int32) (σ : cg_S) (Q : cg_S → Prop) : Prop := cg_L cg_WM RX12 cX12_walks 8 none (cg_R (2 + dd + 1)) 89 (fun ad => [(0, .ref (ad 0)), (1, .int v1), (2, .long v2), (4, .long v4), (6, .int v6), (7, .int v7)]) (fun ad => []) σ (cg_qv Q)
set_option maxRecDepth 100000 in
set_option maxHeartbeats 4000000 in
theorem v_X12_walks_89 {dd : Nat} {v1 : Int32} {v2 : Int64} {v4 : Int64} {v6 : Int32} {v7 : Int32} {σ : cg_S} {Q : cg_S → Prop}
    (h : ((σ.1 0 1) ≤ v7 → vp_in v6 7 ∧ ∀ s2 : cg_S, s2 = cg_i σ 18 v6.toNatClampNeg (vp_nar .boolean 0) → Q s2) ∧ (¬ (σ.1 0 1) ≤ v7 → M_X12_weightTo v6 v7 σ (fun r3 s4 => (r3 = 0 → L_X12_walks_89 dd v1 v2 v4 v6 (v7 + 1) s4 Q) ∧ (¬ r3 = 0 → vp_in v7 7 ∧ ((s4.1 18 v7.toNatClampNeg) = 0 → vp_in v1 7 ∧ ∀ s8 : cg_S, s8 = cg_i s4 13 v1.toNatClampNeg v7 → M_X12_weightTo v6 v7 s8 (fun r9 s10 => M_X12_at v6 s10 (fun r12 s13 => vp_in r12 21 ∧ M_X12_walks dd (v1 + 1) (v2 * r9.toInt64) (v4 * ((s13.1 9 r12.toNatClampNeg).toInt64)) s13 (fun s17 => L_X12_walks_89 dd v1 v2 v4 v6 (v7 + 1) s17 Q)))) ∧ (¬ (s4.1 18 v7.toNatClampNeg) = 0 → L_X12_walks_89 dd v1 v2 v4 v6 (v7 + 1) s4 Q))))) : L_X12_walks_89 dd v1 v2 v4 v6 v7 σ Q := by
  intro p l e s m args below meth c D cy ad hC
  refine ga_iload hC dX12_walks_89 5 rfl ?_
  refine ga_aload_n hC dX12_walks_91 0 rfl rfl ?_
  refine gM_0_1 hC q_6_86 dX12_walks_92 ?_
  refine ga_icmp_ge (tgt := 169) hC dX12_walks_95 (by decide) (fun hc => ?_) (fun hc => ?_)
  · have h := h.1 hc
    refine ga_aload_n hC dX12_walks_169 0 rfl rfl ?_
    refine gM_0_20 hC q_6_105 dX12_walks_170 ?_
    refine ga_iload hC dX12_walks_173 4 rfl ?_
    refine ga_iconst (v := 0) hC dX12_walks_175 (by decide) ?_
    obtain ⟨h1, h⟩ := h
    refine ga_zast hC aM_18 (by decide) h1 dX12_walks_176 ?_
    refine ga_sig (σ := cg_i σ 18 v6.toNatClampNeg (vp_nar .boolean 0)) (fun s2 es2 => ?_)
    have h := h s2 es2
    exact ga_vret hC dX12_walks_177 ⟨rfl, h⟩
  · have h := h.2 hc
    refine ga_aload_n hC dX12_walks_98 0 rfl rfl ?_
    refine ga_iload hC dX12_walks_99 4 rfl ?_
    refine ga_iload hC dX12_walks_101 5 rfl ?_
    refine ga_callV (As := [.int v6, .int v7]) (st := []) (k := 0) (n := 2) hC h q_7_89 q_7_91 q_0_25 q_1_13 q_7_92 rfl rfl rfl (by decide +kernel) ⟨Nat.le_of_ble_eq_true rfl, Nat.le_of_ble_eq_true rfl⟩ (cg_room (by omega) (by decide)) rfl rfl rfl (by decide) rfl (Nat.le_of_ble_eq_true rfl) dX12_walks_103 (fun v τ hq => ?_)
    obtain ⟨r3, rfl, h⟩ := hq
    obtain ⟨s4, es4⟩ : ∃ z, z = τ := ⟨_, rfl⟩
    rw [← es4] at h ⊢
    clear es4
    refine ga_if_eq (tgt := 163) hC dX12_walks_106 (by decide) (fun hc => ?_) (fun hc => ?_)
    · have h := h.1 hc
      refine ga_iinc (v := v7 + 1) (lv' := [(7, .int (v7 + 1)), (0, .ref (ad 0)), (1, .int v1), (2, .long v2), (4, .long v4), (6, .int v6)]) hC dX12_walks_163 5 rfl rfl (by decide) rfl ?_
      refine ga_goto (tgt := 89) hC dX12_walks_166 (by decide) ?_
      refine ga_locals [1, 2, 3, 4, 5, 0] rfl ?_
      exact h p l e s m args below meth c D cy ad hC
    · have h := h.2 hc
      refine ga_aload_n hC dX12_walks_109 0 rfl rfl ?_
      refine gM_0_20 hC q_6_105 dX12_walks_110 ?_
      refine ga_iload hC dX12_walks_113 5 rfl ?_
      obtain ⟨h6, h⟩ := h
      refine ga_zald hC aM_18 (by decide) h6 dX12_walks_115 ?_
      refine ga_if_eq (tgt := 122) hC dX12_walks_116 (by decide) (fun hc => ?_) (fun hc => ?_)
      · have h := h.1 hc
        refine ga_aload_n hC dX12_walks_122 0 rfl rfl ?_
        refine gM_0_34 hC q_6_119 dX12_walks_123 ?_
        refine ga_iload_n hC dX12_walks_126 1 rfl rfl ?_
        refine ga_iload hC dX12_walks_127 5 rfl ?_
        obtain ⟨h7, h⟩ := h
        refine ga_iast hC aM_13 (by decide) h7 dX12_walks_129 ?_
        refine ga_sig (σ := cg_i s4 13 v1.toNatClampNeg v7) (fun s8 es8 => ?_)
        have h := h s8 es8
        refine ga_aload_n hC dX12_walks_130 0 rfl rfl ?_
        refine ga_iload_n hC dX12_walks_131 1 rfl rfl ?_
        refine ga_iconst (v := 1) hC dX12_walks_132 (by decide) ?_
        refine ga_iadd hC dX12_walks_133 ?_
        refine ga_lload_n hC dX12_walks_134 2 rfl rfl ?_
        refine ga_aload_n hC dX12_walks_135 0 rfl rfl ?_
        refine ga_iload hC dX12_walks_136 4 rfl ?_
        refine ga_iload hC dX12_walks_138 5 rfl ?_
        refine ga_callV (As := [.int v6, .int v7]) (st := [.long v2, .int (v1 + 1), .ref (ad 0)]) (k := 0) (n := 2) hC h q_7_89 q_7_91 q_0_25 q_1_13 q_7_92 rfl rfl rfl (by decide +kernel) ⟨Nat.le_of_ble_eq_true rfl, Nat.le_of_ble_eq_true rfl⟩ (cg_room (by omega) (by decide)) rfl rfl rfl (by decide) rfl (Nat.le_of_ble_eq_true rfl) dX12_walks_140 (fun v τ hq => ?_)
        obtain ⟨r9, rfl, h⟩ := hq
        obtain ⟨s10, es10⟩ : ∃ z, z = τ := ⟨_, rfl⟩
        rw [← es10] at h ⊢
        clear es10
        refine ga_i2l hC dX12_walks_143 ?_
        refine ga_lmul hC dX12_walks_144 ?_
        refine ga_lload hC dX12_walks_145 3 rfl ?_
        refine ga_aload_n hC dX12_walks_147 0 rfl rfl ?_
        refine gM_0_14 hC q_6_99 dX12_walks_148 ?_
        refine ga_aload_n hC dX12_walks_151 0 rfl rfl ?_
        refine ga_iload hC dX12_walks_152 4 rfl ?_
        refine ga_callV (As := [.int v6]) (st := [.ref (ad 9), .long v4, .long (v2 * r9.toInt64), .int (v1 + 1), .ref (ad 0)]) (k := 0) (n := 1) hC h q_7_93 q_7_95 q_0_26 q_1_13 q_7_96 rfl rfl rfl (by decide +kernel) ⟨Nat.le_of_ble_eq_true rfl, Nat.le_of_ble_eq_true rfl⟩ (cg_room (by omega) (by decide)) rfl rfl rfl (by decide) rfl (Nat.le_of_ble_eq_true rfl) dX12_walks_154 (fun v τ hq => ?_)
        obtain ⟨r12, rfl, h⟩ := hq
        obtain ⟨s13, es13⟩ : ∃ z, z = τ := ⟨_, rfl⟩
        rw [← es13] at h ⊢
        clear es13
        obtain ⟨h15, h⟩ := h
        refine ga_iald hC aM_9 (by decide) h15 dX12_walks_157 ?_
        refine ga_i2l hC dX12_walks_158 ?_
        refine ga_lmul hC dX12_walks_159 ?_
        refine ga_callV (As := [.int (v1 + 1), .long (v2 * r9.toInt64), .long (v4 * ((s13.1 9 r12.toNatClampNeg).toInt64))]) (st := []) (k := 0) (n := 3) hC h q_8_77 q_8_79 q_0_59 q_1_13 q_8_80 rfl rfl rfl (by decide +kernel) ⟨Nat.le_of_ble_eq_true rfl, Nat.le_of_ble_eq_true rfl⟩ (cg_room (by omega) (by decide)) rfl rfl rfl (by decide) rfl (Nat.le_of_ble_eq_true rfl) dX12_walks_160 (fun v τ hq => ?_)
        obtain ⟨rfl, h⟩ := hq
        obtain ⟨s17, es17⟩ : ∃ z, z = τ := ⟨_, rfl⟩
        rw [← es17] at h ⊢
        clear es17
        refine ga_iinc (v := v7 + 1) (lv' := [(7, .int (v7 + 1)), (0, .ref (ad 0)), (1, .int v1), (2, .long v2), (4, .long v4), (6, .int v6)]) hC dX12_walks_163 5 rfl rfl (by decide) rfl ?_
        refine ga_goto (tgt := 89) hC dX12_walks_166 (by decide) ?_
        refine ga_locals [1, 2, 3, 4, 5, 0] rfl ?_
        exact h p l e s m args below meth c D cy ad hC
      · have h := h.2 hc
        refine ga_goto (tgt := 163) hC dX12_walks_119 (by decide) ?_
        refine ga_iinc (v := v7 + 1) (lv' := [(7, .int (v7 + 1)), (0, .ref (ad 0)), (1, .int v1), (2, .long v2), (4, .long v4), (6, .int v6)]) hC dX12_walks_163 5 rfl rfl (by decide) rfl ?_
        refine ga_goto (tgt := 89) hC dX12_walks_166 (by decide) ?_
        refine ga_locals [1, 2, 3, 4, 5, 0] rfl ?_
        exact h p l e s m args below meth c D cy ad hC
set_option maxRecDepth 100000 in
set_option maxHeartbeats 4000000 in
theorem v_X12_walks_51 {dd : Nat} {v1 : Int32} {v7 : Int32} {σ : cg_S} {Q : cg_S → Prop}
    (h : (v1 ≤ v7 → Q σ) ∧ (¬ v1 ≤ v7 → vp_in v7 7 ∧ vp_in v7 7 ∧ ∀ s3 : cg_S, s3 = cg_i σ 14 v7.toNatClampNeg (σ.1 13 v7.toNatClampNeg) → L_X12_walks_51 dd v1 (v7 + 1) s3 Q)) : L_X12_walks_51 dd v1 v7 σ Q := by
  intro p l e s m args below meth c D cy ad hC
  refine ga_iload hC dX12_walks_51 2 rfl ?_
  refine ga_iload_n hC dX12_walks_53 1 rfl rfl ?_
  refine ga_icmp_ge (tgt := 77) hC dX12_walks_54 (by decide) (fun hc => ?_) (fun hc => ?_)
  · have h := h.1 hc
    exact ga_vret hC dX12_walks_77 ⟨rfl, h⟩
  · have h := h.2 hc
    refine ga_aload_n hC dX12_walks_57 0 rfl rfl ?_
    refine gM_0_35 hC q_6_120 dX12_walks_58 ?_
    refine ga_iload hC dX12_walks_61 2 rfl ?_
    refine ga_aload_n hC dX12_walks_63 0 rfl rfl ?_
    refine gM_0_34 hC q_6_119 dX12_walks_64 ?_
    refine ga_iload hC dX12_walks_67 2 rfl ?_
    obtain ⟨h1, h⟩ := h
    refine ga_iald hC aM_13 (by decide) h1 dX12_walks_69 ?_
    obtain ⟨h2, h⟩ := h
    refine ga_iast hC aM_14 (by decide) h2 dX12_walks_70 ?_
    refine ga_sig (σ := cg_i σ 14 v7.toNatClampNeg (σ.1 13 v7.toNatClampNeg)) (fun s3 es3 => ?_)
    have h := h s3 es3
    refine ga_iinc (v := v7 + 1) (lv' := [(7, .int (v7 + 1)), (0, .ref (ad 0)), (1, .int v1)]) hC dX12_walks_71 2 rfl rfl (by decide) rfl ?_
    refine ga_goto (tgt := 51) hC dX12_walks_74 (by decide) ?_
    refine ga_locals [1, 2, 0] rfl ?_
    exact h p l e s m args below meth c D cy ad hC
set_option maxRecDepth 100000 in
set_option maxHeartbeats 4000000 in
theorem v_X12_walks {dd : Nat} {v1 : Int32} {v2 : Int64} {v4 : Int64} {σ : cg_S} {Q : cg_S → Prop}
    (h : vp_in (v1 - 1) 7 ∧ ∀ x2 : Int32, x2 = σ.1 13 (v1 - 1).toNatClampNeg → vp_in x2 7 ∧ ((σ.1 15 x2.toNatClampNeg) = 0 → vp_in x2 7 ∧ ∀ s5 : cg_S, s5 = cg_i σ 18 x2.toNatClampNeg (vp_nar .boolean 1) → L_X12_walks_89 dd v1 v2 v4 x2 0 s5 Q) ∧ (¬ (σ.1 15 x2.toNatClampNeg) = 0 → M_X12_isBetter v1 v2 v4 σ (fun r6 s7 => (¬ r6 = 0 → ∀ s9 : cg_S, s9 = cg_i s7 0 38 v1 → ∀ s10 : cg_S, s10 = cg_l s9 0 42 v2 → ∀ s11 : cg_S, s11 = cg_l s10 0 43 v4 → L_X12_walks_51 dd v1 0 s11 Q) ∧ (r6 = 0 → Q s7)))) : M_X12_walks (dd + 1) v1 v2 v4 σ Q := by
  refine cg_entry (lv := fun ad => [(0, .ref (ad 0)), (1, .int v1), (2, .long v2), (4, .long v4)]) (by decide +kernel) (fun _ => rfl) (fun _ => Nat.le_of_ble_eq_true rfl) ?_
  intro p l e s m args below meth c D cy ad hC
  refine ga_aload_n hC dX12_walks_0 0 rfl rfl ?_
  refine gM_0_34 hC q_6_119 dX12_walks_1 ?_
  refine ga_iload_n hC dX12_walks_4 1 rfl rfl ?_
  refine ga_iconst (v := 1) hC dX12_walks_5 (by decide) ?_
  refine ga_isub hC dX12_walks_6 ?_
  obtain ⟨h1, h⟩ := h
  refine ga_iald hC aM_13 (by decide) h1 dX12_walks_7 ?_
  refine ga_topi (fun x2 ex2 => ?_)
  have h := h x2 ex2
  refine ga_istore (lv' := [(6, .int x2), (0, .ref (ad 0)), (1, .int v1), (2, .long v2), (4, .long v4)]) hC dX12_walks_8 (by decide) rfl ?_
  refine ga_aload_n hC dX12_walks_10 1 rfl rfl ?_
  refine gM_0_16 hC q_6_101 dX12_walks_11 ?_
  refine ga_iload hC dX12_walks_14 0 rfl ?_
  obtain ⟨h3, h⟩ := h
  refine ga_zald hC aM_15 (by decide) h3 dX12_walks_16 ?_
  refine ga_if_eq (tgt := 78) hC dX12_walks_17 (by decide) (fun hc => ?_) (fun hc => ?_)
  · have h := h.1 hc
    refine ga_aload_n hC dX12_walks_78 1 rfl rfl ?_
    refine gM_0_20 hC q_6_105 dX12_walks_79 ?_
    refine ga_iload hC dX12_walks_82 0 rfl ?_
    refine ga_iconst (v := 1) hC dX12_walks_84 (by decide) ?_
    obtain ⟨h4, h⟩ := h
    refine ga_zast hC aM_18 (by decide) h4 dX12_walks_85 ?_
    refine ga_sig (σ := cg_i σ 18 x2.toNatClampNeg (vp_nar .boolean 1)) (fun s5 es5 => ?_)
    have h := h s5 es5
    refine ga_iconst (v := 0) hC dX12_walks_86 (by decide) ?_
    refine ga_istore (lv' := [(7, .int 0), (6, .int x2), (0, .ref (ad 0)), (1, .int v1), (2, .long v2), (4, .long v4)]) hC dX12_walks_87 (by decide) rfl ?_
    refine ga_locals [2, 3, 4, 5, 1, 0] rfl ?_
    exact h p l e s m args below meth c D cy ad hC
  · have h := h.2 hc
    refine ga_aload_n hC dX12_walks_20 1 rfl rfl ?_
    refine ga_iload_n hC dX12_walks_21 2 rfl rfl ?_
    refine ga_lload_n hC dX12_walks_22 3 rfl rfl ?_
    refine ga_lload hC dX12_walks_23 4 rfl ?_
    refine ga_callV (As := [.int v1, .long v2, .long v4]) (st := []) (k := 0) (n := 3) hC h q_8_81 q_8_83 q_0_60 q_1_13 q_8_84 rfl rfl rfl (by decide +kernel) ⟨Nat.le_of_ble_eq_true rfl, Nat.le_of_ble_eq_true rfl⟩ (cg_room (by omega) (by decide)) rfl rfl rfl (by decide) rfl (Nat.le_of_ble_eq_true rfl) dX12_walks_25 (fun v τ hq => ?_)
    obtain ⟨r6, rfl, h⟩ := hq
    obtain ⟨s7, es7⟩ : ∃ z, z = τ := ⟨_, rfl⟩
    rw [← es7] at h ⊢
    clear es7
    refine ga_if_ne (tgt := 32) hC dX12_walks_28 (by decide) (fun hc => ?_) (fun hc => ?_)
    · have h := h.1 hc
      refine ga_aload_n hC dX12_walks_32 1 rfl rfl ?_
      refine ga_iload_n hC dX12_walks_33 2 rfl rfl ?_
      refine pM_0_38 hC q_6_123 dX12_walks_34 ?_
      refine ga_sig (σ := cg_i s7 0 38 v1) (fun s9 es9 => ?_)
      have h := h s9 es9
      refine ga_aload_n hC dX12_walks_37 1 rfl rfl ?_
      refine ga_lload_n hC dX12_walks_38 3 rfl rfl ?_
      refine pM_0_42 hC q_6_127 dX12_walks_39 ?_
      refine ga_sig (σ := cg_l s9 0 42 v2) (fun s10 es10 => ?_)
      have h := h s10 es10
      refine ga_aload_n hC dX12_walks_42 1 rfl rfl ?_
      refine ga_lload hC dX12_walks_43 4 rfl ?_
      refine pM_0_43 hC q_6_128 dX12_walks_45 ?_
      refine ga_sig (σ := cg_l s10 0 43 v4) (fun s11 es11 => ?_)
      have h := h s11 es11
      refine ga_iconst (v := 0) hC dX12_walks_48 (by decide) ?_
      refine ga_istore (lv' := [(7, .int 0), (6, .int x2), (0, .ref (ad 0)), (1, .int v1), (2, .long v2), (4, .long v4)]) hC dX12_walks_49 (by decide) rfl ?_
      refine ga_locals [2, 3, 0] rfl ?_
      exact h p l e s m args below meth c D cy ad hC
    · have h := h.2 hc
      exact ga_vret hC dX12_walks_31 ⟨rfl, h⟩
def M_X12_isTrace (v1 : Int32) (σ : cg_S) (Q : Int32 → cg_S → Prop) : Prop := cg_M cg_WM yX12_isTrace cX12_isTrace 3 (some .boolean) (cg_R 11) (fun ad => [.ref (ad 0), .int v1]) σ (cg_qi Q)
theorem M_X12_isTrace.mono {v1 : Int32} {σ : cg_S} {Q Q2 : Int32 → cg_S → Prop} (h : M_X12_isTrace v1 σ Q) (hq : ∀ r τ, Q r τ → Q2 r τ) : M_X12_isTrace v1 σ Q2 := cg_M.mono h (fun ad v τ ⟨r, e, q⟩ => ⟨r, e, hq r τ q⟩)
def L_X12_isTrace_28 (v2 : Int32) (σ : cg_S) (Q : Int32 → cg_S → Prop) : Prop := cg_L cg_WM RX12 cX12_isTrace 3 (some .boolean) (cg_R 11) 28 (fun ad => [(0, .ref (ad 0)), (2, .int v2)]) (fun ad => []) σ (cg_qi Q)
def L_X12_isTrace_69 (t1 : Int32) (σ : cg_S) (Q : Int32 → cg_S → Prop) : Prop := cg_L cg_WM RX12 cX12_isTrace 3 (some .boolean) (cg_R 11) 69 (fun ad => [(0, .ref (ad 0))]) (fun ad => [.int t1, .ref (ad 0)]) σ (cg_qi Q)
def L_X12_isTrace_92 (t1 : Int64) (t2 : Int64) (σ : cg_S) (Q : Int32 → cg_S → Prop) : Prop := cg_L cg_WM RX12 cX12_isTrace 3 (some .boolean) (cg_R 11) 92 (fun ad => [(0, .ref (ad 0))]) (fun ad => [.long t2, .long t1, .ref (ad 0)]) σ (cg_qi Q)
set_option maxRecDepth 100000 in
set_option maxHeartbeats 4000000 in
theorem v_X12_isTrace_92 {t1 : Int64} {t2 : Int64} {σ : cg_S} {Q : Int32 → cg_S → Prop}
    (h : M_X12_lowers t1 t2 σ (fun s2 => (¬ (s2.1 0 0) = 0 → Q 0 s2) ∧ ((s2.1 0 0) = 0 → Q 1 s2))) : L_X12_isTrace_92 t1 t2 σ Q := by
  intro p l e s m args below meth c D cy ad hC
  refine ga_callV (As := [.long t1, .long t2]) (st := []) (k := 0) (n := 2) hC h q_7_37 q_7_39 q_0_16 q_1_13 q_7_40 rfl rfl rfl (by decide +kernel) ⟨Nat.le_of_ble_eq_true rfl, Nat.le_of_ble_eq_true rfl⟩ ⟨Nat.le_of_ble_eq_true rfl, Nat.le_of_ble_eq_true rfl⟩ rfl rfl rfl (by decide) rfl (Nat.le_of_ble_eq_true rfl) dX12_isTrace_92 (fun v τ hq => ?_)
  obtain ⟨rfl, h⟩ := hq
  obtain ⟨s2, es2⟩ : ∃ z, z = τ := ⟨_, rfl⟩
  rw [← es2] at h ⊢
  clear es2
  refine ga_aload_n hC dX12_isTrace_95 0 rfl rfl ?_
  refine gM_0_0 hC q_6_85 dX12_isTrace_96 ?_
  refine ga_if_ne (tgt := 106) hC dX12_isTrace_99 (by decide) (fun hc => ?_) (fun hc => ?_)
  · have h := h.1 hc
    refine ga_iconst (v := 0) hC dX12_isTrace_106 (by decide) ?_
    exact ga_zret hC dX12_isTrace_107 (by decide) ⟨_, rfl, h⟩
  · have h := h.2 hc
    refine ga_iconst (v := 1) hC dX12_isTrace_102 (by decide) ?_
    refine ga_goto (tgt := 107) hC dX12_isTrace_103 (by decide) ?_
    exact ga_zret hC dX12_isTrace_107 (by decide) ⟨_, rfl, h⟩
set_option maxRecDepth 100000 in
set_option maxHeartbeats 4000000 in
theorem v_X12_isTrace_69 {t1 : Int32} {σ : cg_S} {Q : Int32 → cg_S → Prop}
    (h : ∀ s1 : cg_S, s1 = cg_i σ 0 0 t1 → (¬ (s1.1 0 38) = 0 → L_X12_isTrace_92 (s1.2.1 0 42) (s1.2.1 0 43) s1 Q) ∧ ((s1.1 0 38) = 0 → L_X12_isTrace_92 (s1.2.1 0 42) 1 s1 Q)) : L_X12_isTrace_69 t1 σ Q := by
  intro p l e s m args below meth c D cy ad hC
  refine pM_0_0 hC q_6_85 dX12_isTrace_69 ?_
  refine ga_sig (σ := cg_i σ 0 0 t1) (fun s1 es1 => ?_)
  have h := h s1 es1
  refine ga_aload_n hC dX12_isTrace_72 0 rfl rfl ?_
  refine ga_aload_n hC dX12_isTrace_73 0 rfl rfl ?_
  refine gM_0_42 hC q_6_127 dX12_isTrace_74 ?_
  refine ga_aload_n hC dX12_isTrace_77 0 rfl rfl ?_
  refine gM_0_38 hC q_6_123 dX12_isTrace_78 ?_
  refine ga_if_ne (tgt := 88) hC dX12_isTrace_81 (by decide) (fun hc => ?_) (fun hc => ?_)
  · have h := h.1 hc
    refine ga_aload_n hC dX12_isTrace_88 0 rfl rfl ?_
    refine gM_0_43 hC q_6_128 dX12_isTrace_89 ?_
    refine ga_locals [0] rfl ?_
    exact h p l e s m args below meth c D cy ad hC
  · have h := h.2 hc
    refine ga_lconst (v := 1) hC dX12_isTrace_84 (by decide) ?_
    refine ga_goto (tgt := 92) hC dX12_isTrace_85 (by decide) ?_
    refine ga_locals [0] rfl ?_
    exact h p l e s m args below meth c D cy ad hC
set_option maxRecDepth 100000 in
set_option maxHeartbeats 4000000 in
theorem v_X12_isTrace_28 {v2 : Int32} {σ : cg_S} {Q : Int32 → cg_S → Prop}
    (h : ((σ.1 0 1) ≤ v2 → M_X12_walks 8 1 1 1 σ (fun s2 => (¬ (s2.1 0 38) = 0 → L_X12_isTrace_69 0 s2 Q) ∧ ((s2.1 0 38) = 0 → L_X12_isTrace_69 3 s2 Q))) ∧ (¬ (σ.1 0 1) ≤ v2 → vp_in v2 7 ∧ ∀ s5 : cg_S, s5 = cg_i σ 18 v2.toNatClampNeg (vp_nar .boolean 0) → L_X12_isTrace_28 (v2 + 1) s5 Q)) : L_X12_isTrace_28 v2 σ Q := by
  intro p l e s m args below meth c D cy ad hC
  refine ga_iload_n hC dX12_isTrace_28 1 rfl rfl ?_
  refine ga_aload_n hC dX12_isTrace_29 0 rfl rfl ?_
  refine gM_0_1 hC q_6_86 dX12_isTrace_30 ?_
  refine ga_icmp_ge (tgt := 49) hC dX12_isTrace_33 (by decide) (fun hc => ?_) (fun hc => ?_)
  · have h := h.1 hc
    refine ga_aload_n hC dX12_isTrace_49 0 rfl rfl ?_
    refine ga_iconst (v := 1) hC dX12_isTrace_50 (by decide) ?_
    refine ga_lconst (v := 1) hC dX12_isTrace_51 (by decide) ?_
    refine ga_lconst (v := 1) hC dX12_isTrace_52 (by decide) ?_
    refine ga_callV (As := [.int 1, .long 1, .long 1]) (st := []) (k := 0) (n := 3) hC h q_8_77 q_8_79 q_0_59 q_1_13 q_8_80 rfl rfl rfl (by decide +kernel) ⟨Nat.le_of_ble_eq_true rfl, Nat.le_of_ble_eq_true rfl⟩ ⟨Nat.le_of_ble_eq_true rfl, Nat.le_of_ble_eq_true rfl⟩ rfl rfl rfl (by decide) rfl (Nat.le_of_ble_eq_true rfl) dX12_isTrace_53 (fun v τ hq => ?_)
    obtain ⟨rfl, h⟩ := hq
    obtain ⟨s2, es2⟩ : ∃ z, z = τ := ⟨_, rfl⟩
    rw [← es2] at h ⊢
    clear es2
    refine ga_aload_n hC dX12_isTrace_56 0 rfl rfl ?_
    refine ga_aload_n hC dX12_isTrace_57 0 rfl rfl ?_
    refine gM_0_38 hC q_6_123 dX12_isTrace_58 ?_
    refine ga_if_ne (tgt := 68) hC dX12_isTrace_61 (by decide) (fun hc => ?_) (fun hc => ?_)
    · have h := h.1 hc
      refine ga_iconst (v := 0) hC dX12_isTrace_68 (by decide) ?_
      refine ga_locals [0] rfl ?_
      exact h p l e s m args below meth c D cy ad hC
    · have h := h.2 hc
      refine ga_iconst (v := 3) hC dX12_isTrace_64 (by decide) ?_
      refine ga_goto (tgt := 69) hC dX12_isTrace_65 (by decide) ?_
      refine ga_locals [0] rfl ?_
      exact h p l e s m args below meth c D cy ad hC
  · have h := h.2 hc
    refine ga_aload_n hC dX12_isTrace_36 0 rfl rfl ?_
    refine gM_0_20 hC q_6_105 dX12_isTrace_37 ?_
    refine ga_iload_n hC dX12_isTrace_40 1 rfl rfl ?_
    refine ga_iconst (v := 0) hC dX12_isTrace_41 (by decide) ?_
    obtain ⟨h4, h⟩ := h
    refine ga_zast hC aM_18 (by decide) h4 dX12_isTrace_42 ?_
    refine ga_sig (σ := cg_i σ 18 v2.toNatClampNeg (vp_nar .boolean 0)) (fun s5 es5 => ?_)
    have h := h s5 es5
    refine ga_iinc (v := v2 + 1) (lv' := [(2, .int (v2 + 1)), (0, .ref (ad 0))]) hC dX12_isTrace_43 1 rfl rfl (by decide) rfl ?_
    refine ga_goto (tgt := 28) hC dX12_isTrace_46 (by decide) ?_
    refine ga_locals [1, 0] rfl ?_
    exact h p l e s m args below meth c D cy ad hC
set_option maxRecDepth 100000 in
set_option maxHeartbeats 4000000 in
theorem v_X12_isTrace {v1 : Int32} {σ : cg_S} {Q : Int32 → cg_S → Prop}
    (h : M_X12_isGame v1 σ (fun r1 s2 => (¬ r1 = 0 → M_X12_picksTold s2 (fun s5 => ∀ s7 : cg_S, s7 = cg_i s5 0 38 0 → ∀ s9 : cg_S, s9 = cg_i s7 13 0 v1 → L_X12_isTrace_28 0 s9 Q)) ∧ (r1 = 0 → Q 0 s2))) : M_X12_isTrace v1 σ Q := by
  refine cg_entry (lv := fun ad => [(0, .ref (ad 0)), (1, .int v1)]) (by decide +kernel) (fun _ => rfl) (fun _ => Nat.le_of_ble_eq_true rfl) ?_
  intro p l e s m args below meth c D cy ad hC
  refine ga_aload_n hC dX12_isTrace_0 0 rfl rfl ?_
  refine ga_iload_n hC dX12_isTrace_1 1 rfl rfl ?_
  refine ga_callV (As := [.int v1]) (st := []) (k := 0) (n := 1) hC h q_7_197 q_7_199 q_0_42 q_1_13 q_7_200 rfl rfl rfl (by decide +kernel) ⟨Nat.le_of_ble_eq_true rfl, Nat.le_of_ble_eq_true rfl⟩ ⟨Nat.le_of_ble_eq_true rfl, Nat.le_of_ble_eq_true rfl⟩ rfl rfl rfl (by decide) rfl (Nat.le_of_ble_eq_true rfl) dX12_isTrace_2 (fun v τ hq => ?_)
  obtain ⟨r1, rfl, h⟩ := hq
  obtain ⟨s2, es2⟩ : ∃ z, z = τ := ⟨_, rfl⟩
  rw [← es2] at h ⊢
  clear es2
  refine ga_if_ne (tgt := 10) hC dX12_isTrace_5 (by decide) (fun hc => ?_) (fun hc => ?_)
  · have h := h.1 hc
    refine ga_aload_n hC dX12_isTrace_10 0 rfl rfl ?_
    refine ga_callV (As := []) (st := []) (k := 0) (n := 0) hC h q_8_5 q_8_7 q_0_49 q_1_13 q_8_8 rfl rfl rfl (by decide +kernel) ⟨Nat.le_of_ble_eq_true rfl, Nat.le_of_ble_eq_true rfl⟩ ⟨Nat.le_of_ble_eq_true rfl, Nat.le_of_ble_eq_true rfl⟩ rfl rfl rfl (by decide) rfl (Nat.le_of_ble_eq_true rfl) dX12_isTrace_11 (fun v τ hq => ?_)
    obtain ⟨rfl, h⟩ := hq
    obtain ⟨s5, es5⟩ : ∃ z, z = τ := ⟨_, rfl⟩
    rw [← es5] at h ⊢
    clear es5
    refine ga_aload_n hC dX12_isTrace_14 0 rfl rfl ?_
    refine ga_iconst (v := 0) hC dX12_isTrace_15 (by decide) ?_
    refine pM_0_38 hC q_6_123 dX12_isTrace_16 ?_
    refine ga_sig (σ := cg_i s5 0 38 0) (fun s7 es7 => ?_)
    have h := h s7 es7
    refine ga_aload_n hC dX12_isTrace_19 0 rfl rfl ?_
    refine gM_0_34 hC q_6_119 dX12_isTrace_20 ?_
    refine ga_iconst (v := 0) hC dX12_isTrace_23 (by decide) ?_
    refine ga_iload_n hC dX12_isTrace_24 1 rfl rfl ?_
    refine ga_iast hC aM_13 (by decide) (by unfold vp_in; decide) dX12_isTrace_25 ?_
    refine ga_sig (σ := cg_i s7 13 0 v1) (fun s9 es9 => ?_)
    have h := h s9 es9
    refine ga_iconst (v := 0) hC dX12_isTrace_26 (by decide) ?_
    refine ga_istore_n (lv' := [(2, .int 0), (0, .ref (ad 0)), (1, .int v1)]) hC dX12_isTrace_27 rfl (by decide) rfl ?_
    refine ga_locals [1, 0] rfl ?_
    exact h p l e s m args below meth c D cy ad hC
  · have h := h.2 hc
    refine ga_iconst (v := 0) hC dX12_isTrace_8 (by decide) ?_
    exact ga_zret hC dX12_isTrace_9 (by decide) ⟨_, rfl, h⟩
def M_X12_traceLength (v1 : Int32) (σ : cg_S) (Q : Int32 → cg_S → Prop) : Prop := cg_M cg_WM yX12_traceLength cX12_traceLength 2 (some .int) (cg_R 12) (fun ad => [.ref (ad 0), .int v1]) σ (cg_qi Q)
theorem M_X12_traceLength.mono {v1 : Int32} {σ : cg_S} {Q Q2 : Int32 → cg_S → Prop} (h : M_X12_traceLength v1 σ Q) (hq : ∀ r τ, Q r τ → Q2 r τ) : M_X12_traceLength v1 σ Q2 := cg_M.mono h (fun ad v τ ⟨r, e, q⟩ => ⟨r, e, hq r τ q⟩)
set_option maxRecDepth 100000 in
set_option maxHeartbeats 4000000 in
theorem v_X12_traceLength {v1 : Int32} {σ : cg_S} {Q : Int32 → cg_S → Prop}
    (h : M_X12_isTrace v1 σ (fun r1 s2 => (r1 = 0 → Q 0 s2) ∧ (¬ r1 = 0 → Q (s2.1 0 38) s2))) : M_X12_traceLength v1 σ Q := by
  refine cg_entry (lv := fun ad => [(0, .ref (ad 0)), (1, .int v1)]) (by decide +kernel) (fun _ => rfl) (fun _ => Nat.le_of_ble_eq_true rfl) ?_
  intro p l e s m args below meth c D cy ad hC
  refine ga_aload_n hC dX12_traceLength_0 0 rfl rfl ?_
  refine ga_iload_n hC dX12_traceLength_1 1 rfl rfl ?_
  refine ga_callV (As := [.int v1]) (st := []) (k := 0) (n := 1) hC h q_8_73 q_8_75 q_0_58 q_1_13 q_8_76 rfl rfl rfl (by decide +kernel) ⟨Nat.le_of_ble_eq_true rfl, Nat.le_of_ble_eq_true rfl⟩ ⟨Nat.le_of_ble_eq_true rfl, Nat.le_of_ble_eq_true rfl⟩ rfl rfl rfl (by decide) rfl (Nat.le_of_ble_eq_true rfl) dX12_traceLength_2 (fun v τ hq => ?_)
  obtain ⟨r1, rfl, h⟩ := hq
  obtain ⟨s2, es2⟩ : ∃ z, z = τ := ⟨_, rfl⟩
  rw [← es2] at h ⊢
  clear es2
  refine ga_if_eq (tgt := 15) hC dX12_traceLength_5 (by decide) (fun hc => ?_) (fun hc => ?_)
  · have h := h.1 hc
    refine ga_iconst (v := 0) hC dX12_traceLength_15 (by decide) ?_
    exact ga_iret hC dX12_traceLength_16 ⟨_, rfl, h⟩
  · have h := h.2 hc
    refine ga_aload_n hC dX12_traceLength_8 0 rfl rfl ?_
    refine gM_0_38 hC q_6_123 dX12_traceLength_9 ?_
    refine ga_goto (tgt := 16) hC dX12_traceLength_12 (by decide) ?_
    exact ga_iret hC dX12_traceLength_16 ⟨_, rfl, h⟩
def M_X12_traceAt (v1 : Int32) (v2 : Int32) (σ : cg_S) (Q : Int32 → cg_S → Prop) : Prop := cg_M cg_WM yX12_traceAt cX12_traceAt 3 (some .int) (cg_R 12) (fun ad => [.ref (ad 0), .int v1, .int v2]) σ (cg_qi Q)
theorem M_X12_traceAt.mono {v1 : Int32} {v2 : Int32} {σ : cg_S} {Q Q2 : Int32 → cg_S → Prop} (h : M_X12_traceAt v1 v2 σ Q) (hq : ∀ r τ, Q r τ → Q2 r τ) : M_X12_traceAt v1 v2 σ Q2 := cg_M.mono h (fun ad v τ ⟨r, e, q⟩ => ⟨r, e, hq r τ q⟩)
set_option maxRecDepth 100000 in
set_option maxHeartbeats 4000000 in
theorem v_X12_traceAt {v1 : Int32} {v2 : Int32} {σ : cg_S} {Q : Int32 → cg_S → Prop}
    (h : M_X12_isTrace v1 σ (fun r1 s2 => (¬ r1 = 0 → M_X12_in v2 0 ((s2.1 0 38) - 1) s2 (fun r4 s5 => (r4 = 0 → M_X12_fails 3 s5 (fun r7 s8 => Q r7 s8)) ∧ (¬ r4 = 0 → vp_in v2 7 ∧ Q (s5.1 14 v2.toNatClampNeg) s5))) ∧ (r1 = 0 → Q 0 s2))) : M_X12_traceAt v1 v2 σ Q := by
  refine cg_entry (lv := fun ad => [(0, .ref (ad 0)), (1, .int v1), (2, .int v2)]) (by decide +kernel) (fun _ => rfl) (fun _ => Nat.le_of_ble_eq_true rfl) ?_
  intro p l e s m args below meth c D cy ad hC
  refine ga_aload_n hC dX12_traceAt_0 0 rfl rfl ?_
  refine ga_iload_n hC dX12_traceAt_1 1 rfl rfl ?_
  refine ga_callV (As := [.int v1]) (st := []) (k := 0) (n := 1) hC h q_8_73 q_8_75 q_0_58 q_1_13 q_8_76 rfl rfl rfl (by decide +kernel) ⟨Nat.le_of_ble_eq_true rfl, Nat.le_of_ble_eq_true rfl⟩ ⟨Nat.le_of_ble_eq_true rfl, Nat.le_of_ble_eq_true rfl⟩ rfl rfl rfl (by decide) rfl (Nat.le_of_ble_eq_true rfl) dX12_traceAt_2 (fun v τ hq => ?_)
  obtain ⟨r1, rfl, h⟩ := hq
  obtain ⟨s2, es2⟩ : ∃ z, z = τ := ⟨_, rfl⟩
  rw [← es2] at h ⊢
  clear es2
  refine ga_if_ne (tgt := 10) hC dX12_traceAt_5 (by decide) (fun hc => ?_) (fun hc => ?_)
  · have h := h.1 hc
    refine ga_iload_n hC dX12_traceAt_10 2 rfl rfl ?_
    refine ga_iconst (v := 0) hC dX12_traceAt_11 (by decide) ?_
    refine ga_aload_n hC dX12_traceAt_12 0 rfl rfl ?_
    refine gM_0_38 hC q_6_123 dX12_traceAt_13 ?_
    refine ga_iconst (v := 1) hC dX12_traceAt_16 (by decide) ?_
    refine ga_isub hC dX12_traceAt_17 ?_
    refine ga_callS (As := [.int v2, .int 0, .int ((s2.1 0 38) - 1)]) (st := []) (n := 3) hC h q_6_226 q_6_227 q_1_13 q_6_228 rfl rfl rfl (by decide +kernel) ⟨Nat.le_of_ble_eq_true rfl, Nat.le_of_ble_eq_true rfl⟩ ⟨Nat.le_of_ble_eq_true rfl, Nat.le_of_ble_eq_true rfl⟩ rfl rfl (Nat.le_of_ble_eq_true rfl) dX12_traceAt_18 (fun v τ hq => ?_)
    obtain ⟨r4, rfl, h⟩ := hq
    obtain ⟨s5, es5⟩ : ∃ z, z = τ := ⟨_, rfl⟩
    rw [← es5] at h ⊢
    clear es5
    refine ga_if_eq (tgt := 33) hC dX12_traceAt_21 (by decide) (fun hc => ?_) (fun hc => ?_)
    · have h := h.1 hc
      refine ga_aload_n hC dX12_traceAt_33 0 rfl rfl ?_
      refine ga_iconst (v := 3) hC dX12_traceAt_34 (by decide) ?_
      refine ga_callV (As := [.int 3]) (st := []) (k := 0) (n := 1) hC h q_6_229 q_6_231 q_0_12 q_1_13 q_6_232 rfl rfl rfl (by decide +kernel) ⟨Nat.le_of_ble_eq_true rfl, Nat.le_of_ble_eq_true rfl⟩ ⟨Nat.le_of_ble_eq_true rfl, Nat.le_of_ble_eq_true rfl⟩ rfl rfl rfl (by decide) rfl (Nat.le_of_ble_eq_true rfl) dX12_traceAt_35 (fun v τ hq => ?_)
      obtain ⟨r7, rfl, h⟩ := hq
      obtain ⟨s8, es8⟩ : ∃ z, z = τ := ⟨_, rfl⟩
      rw [← es8] at h ⊢
      clear es8
      exact ga_iret hC dX12_traceAt_38 ⟨_, rfl, h⟩
    · have h := h.2 hc
      refine ga_aload_n hC dX12_traceAt_24 0 rfl rfl ?_
      refine gM_0_35 hC q_6_120 dX12_traceAt_25 ?_
      refine ga_iload_n hC dX12_traceAt_28 2 rfl rfl ?_
      obtain ⟨h10, h⟩ := h
      refine ga_iald hC aM_14 (by decide) h10 dX12_traceAt_29 ?_
      refine ga_goto (tgt := 38) hC dX12_traceAt_30 (by decide) ?_
      exact ga_iret hC dX12_traceAt_38 ⟨_, rfl, h⟩
  · have h := h.2 hc
    refine ga_iconst (v := 0) hC dX12_traceAt_8 (by decide) ?_
    exact ga_iret hC dX12_traceAt_9 ⟨_, rfl, h⟩
def M_X12_traceAbove (v1 : Int32) (σ : cg_S) (Q : Int64 → cg_S → Prop) : Prop := cg_M cg_WM yX12_traceAbove cX12_traceAbove 2 (some .long) (cg_R 12) (fun ad => [.ref (ad 0), .int v1]) σ (cg_ql Q)
theorem M_X12_traceAbove.mono {v1 : Int32} {σ : cg_S} {Q Q2 : Int64 → cg_S → Prop} (h : M_X12_traceAbove v1 σ Q) (hq : ∀ r τ, Q r τ → Q2 r τ) : M_X12_traceAbove v1 σ Q2 := cg_M.mono h (fun ad v τ ⟨r, e, q⟩ => ⟨r, e, hq r τ q⟩)
set_option maxRecDepth 100000 in
set_option maxHeartbeats 4000000 in
theorem v_X12_traceAbove {v1 : Int32} {σ : cg_S} {Q : Int64 → cg_S → Prop}
    (h : M_X12_isTrace v1 σ (fun r1 s2 => (r1 = 0 → Q 0 s2) ∧ (¬ r1 = 0 → Q (s2.2.1 0 40) s2))) : M_X12_traceAbove v1 σ Q := by
  refine cg_entry (lv := fun ad => [(0, .ref (ad 0)), (1, .int v1)]) (by decide +kernel) (fun _ => rfl) (fun _ => Nat.le_of_ble_eq_true rfl) ?_
  intro p l e s m args below meth c D cy ad hC
  refine ga_aload_n hC dX12_traceAbove_0 0 rfl rfl ?_
  refine ga_iload_n hC dX12_traceAbove_1 1 rfl rfl ?_
  refine ga_callV (As := [.int v1]) (st := []) (k := 0) (n := 1) hC h q_8_73 q_8_75 q_0_58 q_1_13 q_8_76 rfl rfl rfl (by decide +kernel) ⟨Nat.le_of_ble_eq_true rfl, Nat.le_of_ble_eq_true rfl⟩ ⟨Nat.le_of_ble_eq_true rfl, Nat.le_of_ble_eq_true rfl⟩ rfl rfl rfl (by decide) rfl (Nat.le_of_ble_eq_true rfl) dX12_traceAbove_2 (fun v τ hq => ?_)
  obtain ⟨r1, rfl, h⟩ := hq
  obtain ⟨s2, es2⟩ : ∃ z, z = τ := ⟨_, rfl⟩
  rw [← es2] at h ⊢
  clear es2
  refine ga_if_eq (tgt := 15) hC dX12_traceAbove_5 (by decide) (fun hc => ?_) (fun hc => ?_)
  · have h := h.1 hc
    refine ga_lconst (v := 0) hC dX12_traceAbove_15 (by decide) ?_
    exact ga_lret hC dX12_traceAbove_16 ⟨_, rfl, h⟩
  · have h := h.2 hc
    refine ga_aload_n hC dX12_traceAbove_8 0 rfl rfl ?_
    refine gM_0_40 hC q_6_125 dX12_traceAbove_9 ?_
    refine ga_goto (tgt := 16) hC dX12_traceAbove_12 (by decide) ?_
    exact ga_lret hC dX12_traceAbove_16 ⟨_, rfl, h⟩
def M_X12_traceBelow (v1 : Int32) (σ : cg_S) (Q : Int64 → cg_S → Prop) : Prop := cg_M cg_WM yX12_traceBelow cX12_traceBelow 2 (some .long) (cg_R 12) (fun ad => [.ref (ad 0), .int v1]) σ (cg_ql Q)
theorem M_X12_traceBelow.mono {v1 : Int32} {σ : cg_S} {Q Q2 : Int64 → cg_S → Prop} (h : M_X12_traceBelow v1 σ Q) (hq : ∀ r τ, Q r τ → Q2 r τ) : M_X12_traceBelow v1 σ Q2 := cg_M.mono h (fun ad v τ ⟨r, e, q⟩ => ⟨r, e, hq r τ q⟩)
set_option maxRecDepth 100000 in
set_option maxHeartbeats 4000000 in
theorem v_X12_traceBelow {v1 : Int32} {σ : cg_S} {Q : Int64 → cg_S → Prop}
    (h : M_X12_isTrace v1 σ (fun r1 s2 => (r1 = 0 → Q 0 s2) ∧ (¬ r1 = 0 → Q (s2.2.1 0 41) s2))) : M_X12_traceBelow v1 σ Q := by
  refine cg_entry (lv := fun ad => [(0, .ref (ad 0)), (1, .int v1)]) (by decide +kernel) (fun _ => rfl) (fun _ => Nat.le_of_ble_eq_true rfl) ?_
  intro p l e s m args below meth c D cy ad hC
  refine ga_aload_n hC dX12_traceBelow_0 0 rfl rfl ?_
  refine ga_iload_n hC dX12_traceBelow_1 1 rfl rfl ?_
  refine ga_callV (As := [.int v1]) (st := []) (k := 0) (n := 1) hC h q_8_73 q_8_75 q_0_58 q_1_13 q_8_76 rfl rfl rfl (by decide +kernel) ⟨Nat.le_of_ble_eq_true rfl, Nat.le_of_ble_eq_true rfl⟩ ⟨Nat.le_of_ble_eq_true rfl, Nat.le_of_ble_eq_true rfl⟩ rfl rfl rfl (by decide) rfl (Nat.le_of_ble_eq_true rfl) dX12_traceBelow_2 (fun v τ hq => ?_)
  obtain ⟨r1, rfl, h⟩ := hq
  obtain ⟨s2, es2⟩ : ∃ z, z = τ := ⟨_, rfl⟩
  rw [← es2] at h ⊢
  clear es2
  refine ga_if_eq (tgt := 15) hC dX12_traceBelow_5 (by decide) (fun hc => ?_) (fun hc => ?_)
  · have h := h.1 hc
    refine ga_lconst (v := 0) hC dX12_traceBelow_15 (by decide) ?_
    exact ga_lret hC dX12_traceBelow_16 ⟨_, rfl, h⟩
  · have h := h.2 hc
    refine ga_aload_n hC dX12_traceBelow_8 0 rfl rfl ?_
    refine gM_0_41 hC q_6_126 dX12_traceBelow_9 ?_
    refine ga_goto (tgt := 16) hC dX12_traceBelow_12 (by decide) ?_
    exact ga_lret hC dX12_traceBelow_16 ⟨_, rfl, h⟩
def M_X12_meanChoices (σ : cg_S) (Q : UInt64 → cg_S → Prop) : Prop := cg_M cg_WM yX12_meanChoices cX12_meanChoices 3 (some .double) (cg_R 0) (fun ad => [.ref (ad 0)]) σ (cg_qd Q)
theorem M_X12_meanChoices.mono {σ : cg_S} {Q Q2 : UInt64 → cg_S → Prop} (h : M_X12_meanChoices σ Q) (hq : ∀ r τ, Q r τ → Q2 r τ) : M_X12_meanChoices σ Q2 := cg_M.mono h (fun ad v τ ⟨r, e, q⟩ => ⟨r, e, hq r τ q⟩)
def L_X12_meanChoices_20 (v1 : Int32) (v2 : Int32) (σ : cg_S) (Q : UInt64 → cg_S → Prop) : Prop := cg_L cg_WM RX12 cX12_meanChoices 3 (some .double) (cg_R 0) 20 (fun ad => [(0, .ref (ad 0)), (1, .int v1), (2, .int v2)]) (fun ad => []) σ (cg_qd Q)
set_option maxRecDepth 100000 in
set_option maxHeartbeats 4000000 in
theorem v_X12_meanChoices_20 {v1 : Int32} {v2 : Int32} {σ : cg_S} {Q : UInt64 → cg_S → Prop}
    (h : ((σ.1 0 1) ≤ v2 → (¬ (σ.1 0 1) = 0 → vf_n64 (FP.ddiv (FP.i2d v1) (FP.i2d (σ.1 0 1))) ∧ Q (FP.ddiv (FP.i2d v1) (FP.i2d (σ.1 0 1))) σ) ∧ ((σ.1 0 1) = 0 → Q FP.dconst0 σ)) ∧ (¬ (σ.1 0 1) ≤ v2 → vp_in v2 7 ∧ ∀ x3 : Int32, x3 = v1 + (σ.1 3 v2.toNatClampNeg) → L_X12_meanChoices_20 x3 (v2 + 1) σ Q)) : L_X12_meanChoices_20 v1 v2 σ Q := by
  intro p l e s m args below meth c D cy ad hC
  refine ga_iload_n hC dX12_meanChoices_20 2 rfl rfl ?_
  refine ga_aload_n hC dX12_meanChoices_21 0 rfl rfl ?_
  refine gM_0_1 hC q_6_86 dX12_meanChoices_22 ?_
  refine ga_icmp_ge (tgt := 43) hC dX12_meanChoices_25 (by decide) (fun hc => ?_) (fun hc => ?_)
  · have h := h.1 hc
    refine ga_aload_n hC dX12_meanChoices_43 0 rfl rfl ?_
    refine gM_0_1 hC q_6_86 dX12_meanChoices_44 ?_
    refine ga_if_ne (tgt := 54) hC dX12_meanChoices_47 (by decide) (fun hc => ?_) (fun hc => ?_)
    · have h := h.1 hc
      refine ga_iload_n hC dX12_meanChoices_54 1 rfl rfl ?_
      refine ga_i2d hC dX12_meanChoices_55 ?_
      refine ga_aload_n hC dX12_meanChoices_56 0 rfl rfl ?_
      refine gM_0_1 hC q_6_86 dX12_meanChoices_57 ?_
      refine ga_i2d hC dX12_meanChoices_60 ?_
      obtain ⟨h1, h⟩ := h
      refine ga_ddiv hC dX12_meanChoices_61 h1 ?_
      exact ga_dret hC dX12_meanChoices_62 ⟨_, rfl, h⟩
    · have h := h.2 hc
      refine ga_dconst0 hC dX12_meanChoices_50 ?_
      refine ga_goto (tgt := 62) hC dX12_meanChoices_51 (by decide) ?_
      exact ga_dret hC dX12_meanChoices_62 ⟨_, rfl, h⟩
  · have h := h.2 hc
    refine ga_iload_n hC dX12_meanChoices_28 1 rfl rfl ?_
    refine ga_aload_n hC dX12_meanChoices_29 0 rfl rfl ?_
    refine gM_0_8 hC q_6_93 dX12_meanChoices_30 ?_
    refine ga_iload_n hC dX12_meanChoices_33 2 rfl rfl ?_
    obtain ⟨h2, h⟩ := h
    refine ga_iald hC aM_3 (by decide) h2 dX12_meanChoices_34 ?_
    refine ga_iadd hC dX12_meanChoices_35 ?_
    refine ga_topi (fun x3 ex3 => ?_)
    have h := h x3 ex3
    refine ga_istore_n (lv' := [(1, .int x3), (0, .ref (ad 0)), (2, .int v2)]) hC dX12_meanChoices_36 rfl (by decide) rfl ?_
    refine ga_iinc (v := v2 + 1) (lv' := [(2, .int (v2 + 1)), (1, .int x3), (0, .ref (ad 0))]) hC dX12_meanChoices_37 2 rfl rfl (by decide) rfl ?_
    refine ga_goto (tgt := 20) hC dX12_meanChoices_40 (by decide) ?_
    refine ga_locals [2, 1, 0] rfl ?_
    exact h p l e s m args below meth c D cy ad hC
set_option maxRecDepth 100000 in
set_option maxHeartbeats 4000000 in
theorem v_X12_meanChoices {σ : cg_S} {Q : UInt64 → cg_S → Prop}
    (h : (¬ (σ.1 0 1) = 0 → ∀ s1 : cg_S, s1 = cg_i σ 0 0 0 → L_X12_meanChoices_20 0 0 s1 Q) ∧ ((σ.1 0 1) = 0 → ∀ s2 : cg_S, s2 = cg_i σ 0 0 1 → L_X12_meanChoices_20 0 0 s2 Q)) : M_X12_meanChoices σ Q := by
  refine cg_entry (lv := fun ad => [(0, .ref (ad 0))]) (by decide +kernel) (fun _ => rfl) (fun _ => Nat.le_of_ble_eq_true rfl) ?_
  intro p l e s m args below meth c D cy ad hC
  refine ga_aload_n hC dX12_meanChoices_0 0 rfl rfl ?_
  refine ga_aload_n hC dX12_meanChoices_1 0 rfl rfl ?_
  refine gM_0_1 hC q_6_86 dX12_meanChoices_2 ?_
  refine ga_if_ne (tgt := 12) hC dX12_meanChoices_5 (by decide) (fun hc => ?_) (fun hc => ?_)
  · have h := h.1 hc
    refine ga_iconst (v := 0) hC dX12_meanChoices_12 (by decide) ?_
    refine pM_0_0 hC q_6_85 dX12_meanChoices_13 ?_
    refine ga_sig (σ := cg_i σ 0 0 0) (fun s1 es1 => ?_)
    have h := h s1 es1
    refine ga_iconst (v := 0) hC dX12_meanChoices_16 (by decide) ?_
    refine ga_istore_n (lv' := [(1, .int 0), (0, .ref (ad 0))]) hC dX12_meanChoices_17 rfl (by decide) rfl ?_
    refine ga_iconst (v := 0) hC dX12_meanChoices_18 (by decide) ?_
    refine ga_istore_n (lv' := [(2, .int 0), (1, .int 0), (0, .ref (ad 0))]) hC dX12_meanChoices_19 rfl (by decide) rfl ?_
    refine ga_locals [2, 1, 0] rfl ?_
    exact h p l e s m args below meth c D cy ad hC
  · have h := h.2 hc
    refine ga_iconst (v := 1) hC dX12_meanChoices_8 (by decide) ?_
    refine ga_goto (tgt := 13) hC dX12_meanChoices_9 (by decide) ?_
    refine pM_0_0 hC q_6_85 dX12_meanChoices_13 ?_
    refine ga_sig (σ := cg_i σ 0 0 1) (fun s2 es2 => ?_)
    have h := h s2 es2
    refine ga_iconst (v := 0) hC dX12_meanChoices_16 (by decide) ?_
    refine ga_istore_n (lv' := [(1, .int 0), (0, .ref (ad 0))]) hC dX12_meanChoices_17 rfl (by decide) rfl ?_
    refine ga_iconst (v := 0) hC dX12_meanChoices_18 (by decide) ?_
    refine ga_istore_n (lv' := [(2, .int 0), (1, .int 0), (0, .ref (ad 0))]) hC dX12_meanChoices_19 rfl (by decide) rfl ?_
    refine ga_locals [2, 1, 0] rfl ?_
    exact h p l e s m args below meth c D cy ad hC
def M_X12_isConsistent (σ : cg_S) (Q : Int32 → cg_S → Prop) : Prop := cg_M cg_WM yX12_isConsistent cX12_isConsistent 1 (some .boolean) (cg_R 0) (fun ad => [.ref (ad 0)]) σ (cg_qi Q)
theorem M_X12_isConsistent.mono {σ : cg_S} {Q Q2 : Int32 → cg_S → Prop} (h : M_X12_isConsistent σ Q) (hq : ∀ r τ, Q r τ → Q2 r τ) : M_X12_isConsistent σ Q2 := cg_M.mono h (fun ad v τ ⟨r, e, q⟩ => ⟨r, e, hq r τ q⟩)
set_option maxRecDepth 100000 in
set_option maxHeartbeats 4000000 in
theorem v_X12_isConsistent {σ : cg_S} {Q : Int32 → cg_S → Prop}
    (h : ∀ s1 : cg_S, s1 = cg_i σ 0 0 0 → Q 1 s1) : M_X12_isConsistent σ Q := by
  refine cg_entry (lv := fun ad => [(0, .ref (ad 0))]) (by decide +kernel) (fun _ => rfl) (fun _ => Nat.le_of_ble_eq_true rfl) ?_
  intro p l e s m args below meth c D cy ad hC
  refine ga_aload_n hC dX12_isConsistent_0 0 rfl rfl ?_
  refine ga_iconst (v := 0) hC dX12_isConsistent_1 (by decide) ?_
  refine pM_0_0 hC q_6_85 dX12_isConsistent_2 ?_
  refine ga_sig (σ := cg_i σ 0 0 0) (fun s1 es1 => ?_)
  have h := h s1 es1
  refine ga_iconst (v := 1) hC dX12_isConsistent_5 (by decide) ?_
  exact ga_zret hC dX12_isConsistent_6 (by decide) ⟨_, rfl, h⟩
