theorem q_6_85 : Cond.fieldLink RX12 122 "ChanceledgerModel" "thrown" "I" ∈ cg_T := cg_in6 85 (by decide +kernel) (by decide +kernel)
theorem q_6_104 : Cond.fieldLink RX12 50 "ChanceledgerModel" "isKnown" "[Z" ∈ cg_T := cg_in6 104 (by decide +kernel) (by decide +kernel)
theorem q_6_125 : Cond.fieldLink RX12 131 "ChanceledgerModel" "fractionAbove" "J" ∈ cg_T := cg_in6 125 (by decide +kernel) (by decide +kernel)
theorem q_6_126 : Cond.fieldLink RX12 135 "ChanceledgerModel" "fractionBelow" "J" ∈ cg_T := cg_in6 126 (by decide +kernel) (by decide +kernel)
theorem q_7_41 : Cond.methodLink RX12 125 yX12_divisor ∈ cg_T := cg_in7 41 (by decide +kernel) (by decide +kernel)
theorem q_7_42 : Cond.static yX12_divisor ∈ cg_T := cg_in7 42 (by decide +kernel) (by decide +kernel)
theorem q_1_13 : Cond.initialized RX12 ∈ cg_T := cg_in1 13 (by decide +kernel) (by decide +kernel)
theorem q_7_43 : Cond.code yX12_divisor cX12_divisor 10 (some .long) ∈ cg_T := cg_in7 43 (by decide +kernel) (by decide +kernel)
theorem q_7_44 : Cond.constantLong RX12 129 (-1) ∈ cg_T := cg_in7 44 (by decide +kernel) (by decide +kernel)
theorem q_7_37 : Cond.methodLink RX12 138 yX12_lowers ∈ cg_T := cg_in7 37 (by decide +kernel) (by decide +kernel)
theorem q_7_39 : Cond.instanceMethod yX12_lowers ∈ cg_T := cg_in7 39 (by decide +kernel) (by decide +kernel)
theorem q_0_16 : Cond.selects RX12 yX12_lowers yX12_lowers ∈ cg_T := cg_in0 16 (by decide +kernel) (by decide +kernel)
theorem q_7_40 : Cond.code yX12_lowers cX12_lowers 7 none ∈ cg_T := cg_in7 40 (by decide +kernel) (by decide +kernel)
theorem q_6_95 : Cond.fieldLink RX12 22 "ChanceledgerModel" "pick" "[I" ∈ cg_T := cg_in6 95 (by decide +kernel) (by decide +kernel)
theorem q_6_100 : Cond.fieldLink RX12 37 "ChanceledgerModel" "weight" "[I" ∈ cg_T := cg_in6 100 (by decide +kernel) (by decide +kernel)
theorem q_7_93 : Cond.methodLink RX12 142 yX12_at ∈ cg_T := cg_in7 93 (by decide +kernel) (by decide +kernel)
theorem q_7_95 : Cond.instanceMethod yX12_at ∈ cg_T := cg_in7 95 (by decide +kernel) (by decide +kernel)
theorem q_0_26 : Cond.selects RX12 yX12_at yX12_at ∈ cg_T := cg_in0 26 (by decide +kernel) (by decide +kernel)
theorem q_7_96 : Cond.code yX12_at cX12_at 2 (some .int) ∈ cg_T := cg_in7 96 (by decide +kernel) (by decide +kernel)
theorem q_6_86 : Cond.fieldLink RX12 146 "ChanceledgerModel" "states" "I" ∈ cg_T := cg_in6 86 (by decide +kernel) (by decide +kernel)
theorem q_6_116 : Cond.fieldLink RX12 87 "ChanceledgerModel" "reach" "[Z" ∈ cg_T := cg_in6 116 (by decide +kernel) (by decide +kernel)
theorem q_7_89 : Cond.methodLink RX12 149 yX12_weightTo ∈ cg_T := cg_in7 89 (by decide +kernel) (by decide +kernel)
theorem q_7_91 : Cond.instanceMethod yX12_weightTo ∈ cg_T := cg_in7 91 (by decide +kernel) (by decide +kernel)
theorem q_0_25 : Cond.selects RX12 yX12_weightTo yX12_weightTo ∈ cg_T := cg_in0 25 (by decide +kernel) (by decide +kernel)
theorem q_7_92 : Cond.code yX12_weightTo cX12_weightTo 3 (some .int) ∈ cg_T := cg_in7 92 (by decide +kernel) (by decide +kernel)
theorem q_6_106 : Cond.fieldLink RX12 56 "ChanceledgerModel" "matrix" "[J" ∈ cg_T := cg_in6 106 (by decide +kernel) (by decide +kernel)
theorem q_6_99 : Cond.fieldLink RX12 34 "ChanceledgerModel" "sum" "[I" ∈ cg_T := cg_in6 99 (by decide +kernel) (by decide +kernel)
theorem q_6_124 : Cond.fieldLink RX12 157 "ChanceledgerModel" "det" "J" ∈ cg_T := cg_in6 124 (by decide +kernel) (by decide +kernel)
theorem q_7_113 : Cond.methodLink RX12 153 yX12_laysNumber ∈ cg_T := cg_in7 113 (by decide +kernel) (by decide +kernel)
theorem q_7_115 : Cond.instanceMethod yX12_laysNumber ∈ cg_T := cg_in7 115 (by decide +kernel) (by decide +kernel)
theorem q_0_31 : Cond.selects RX12 yX12_laysNumber yX12_laysNumber ∈ cg_T := cg_in0 31 (by decide +kernel) (by decide +kernel)
theorem q_7_116 : Cond.code yX12_laysNumber cX12_laysNumber 5 none ∈ cg_T := cg_in7 116 (by decide +kernel) (by decide +kernel)
theorem q_7_129 : Cond.methodLink RX12 160 yX12_solved ∈ cg_T := cg_in7 129 (by decide +kernel) (by decide +kernel)
theorem q_7_131 : Cond.instanceMethod yX12_solved ∈ cg_T := cg_in7 131 (by decide +kernel) (by decide +kernel)
theorem q_0_35 : Cond.selects RX12 yX12_solved yX12_solved ∈ cg_T := cg_in0 35 (by decide +kernel) (by decide +kernel)
theorem q_7_132 : Cond.code yX12_solved cX12_solved 2 (some .long) ∈ cg_T := cg_in7 132 (by decide +kernel) (by decide +kernel)
theorem q_6_107 : Cond.fieldLink RX12 60 "ChanceledgerModel" "above" "[J" ∈ cg_T := cg_in6 107 (by decide +kernel) (by decide +kernel)
theorem q_6_108 : Cond.fieldLink RX12 63 "ChanceledgerModel" "below" "[J" ∈ cg_T := cg_in6 108 (by decide +kernel) (by decide +kernel)
theorem q_6_102 : Cond.fieldLink RX12 44 "ChanceledgerModel" "isIn" "[Z" ∈ cg_T := cg_in6 102 (by decide +kernel) (by decide +kernel)
theorem q_7_121 : Cond.methodLink RX12 167 yX12_laysStep ∈ cg_T := cg_in7 121 (by decide +kernel) (by decide +kernel)
theorem q_7_123 : Cond.instanceMethod yX12_laysStep ∈ cg_T := cg_in7 123 (by decide +kernel) (by decide +kernel)
theorem q_0_33 : Cond.selects RX12 yX12_laysStep yX12_laysStep ∈ cg_T := cg_in0 33 (by decide +kernel) (by decide +kernel)
theorem q_7_124 : Cond.code yX12_laysStep cX12_laysStep 7 none ∈ cg_T := cg_in7 124 (by decide +kernel) (by decide +kernel)
theorem q_7_125 : Cond.methodLink RX12 171 yX12_solves ∈ cg_T := cg_in7 125 (by decide +kernel) (by decide +kernel)
theorem q_7_127 : Cond.instanceMethod yX12_solves ∈ cg_T := cg_in7 127 (by decide +kernel) (by decide +kernel)
theorem q_0_34 : Cond.selects RX12 yX12_solves yX12_solves ∈ cg_T := cg_in0 34 (by decide +kernel) (by decide +kernel)
theorem q_7_128 : Cond.code yX12_solves cX12_solves 10 none ∈ cg_T := cg_in7 128 (by decide +kernel) (by decide +kernel)
theorem q_7_85 : Cond.methodLink RX12 164 yX12_reaches ∈ cg_T := cg_in7 85 (by decide +kernel) (by decide +kernel)
theorem q_7_87 : Cond.instanceMethod yX12_reaches ∈ cg_T := cg_in7 87 (by decide +kernel) (by decide +kernel)
theorem q_0_24 : Cond.selects RX12 yX12_reaches yX12_reaches ∈ cg_T := cg_in0 24 (by decide +kernel) (by decide +kernel)
theorem q_7_88 : Cond.code yX12_reaches cX12_reaches 4 none ∈ cg_T := cg_in7 88 (by decide +kernel) (by decide +kernel)
theorem q_6_97 : Cond.fieldLink RX12 28 "ChanceledgerModel" "first" "[I" ∈ cg_T := cg_in6 97 (by decide +kernel) (by decide +kernel)
theorem q_6_89 : Cond.fieldLink RX12 116 "ChanceledgerModel" "firstWeight" "I" ∈ cg_T := cg_in6 89 (by decide +kernel) (by decide +kernel)
theorem q_6_90 : Cond.fieldLink RX12 119 "ChanceledgerModel" "secondWeight" "I" ∈ cg_T := cg_in6 90 (by decide +kernel) (by decide +kernel)
theorem q_6_98 : Cond.fieldLink RX12 31 "ChanceledgerModel" "second" "[I" ∈ cg_T := cg_in6 98 (by decide +kernel) (by decide +kernel)
theorem q_7_105 : Cond.methodLink RX12 174 yX12_areTogether ∈ cg_T := cg_in7 105 (by decide +kernel) (by decide +kernel)
theorem q_7_107 : Cond.instanceMethod yX12_areTogether ∈ cg_T := cg_in7 107 (by decide +kernel) (by decide +kernel)
theorem q_0_29 : Cond.selects RX12 yX12_areTogether yX12_areTogether ∈ cg_T := cg_in0 29 (by decide +kernel) (by decide +kernel)
theorem q_7_108 : Cond.code yX12_areTogether cX12_areTogether 3 (some .boolean) ∈ cg_T := cg_in7 108 (by decide +kernel) (by decide +kernel)
theorem q_7_117 : Cond.methodLink RX12 178 yX12_cost ∈ cg_T := cg_in7 117 (by decide +kernel) (by decide +kernel)
theorem q_7_119 : Cond.instanceMethod yX12_cost ∈ cg_T := cg_in7 119 (by decide +kernel) (by decide +kernel)
theorem q_0_32 : Cond.selects RX12 yX12_cost yX12_cost ∈ cg_T := cg_in0 32 (by decide +kernel) (by decide +kernel)
theorem q_7_120 : Cond.code yX12_cost cX12_cost 3 (some .int) ∈ cg_T := cg_in7 120 (by decide +kernel) (by decide +kernel)
theorem q_7_137 : Cond.methodLink RX12 195 yX12_adds ∈ cg_T := cg_in7 137 (by decide +kernel) (by decide +kernel)
theorem q_7_139 : Cond.instanceMethod yX12_adds ∈ cg_T := cg_in7 139 (by decide +kernel) (by decide +kernel)
theorem q_0_37 : Cond.selects RX12 yX12_adds yX12_adds ∈ cg_T := cg_in0 37 (by decide +kernel) (by decide +kernel)
theorem q_7_140 : Cond.code yX12_adds cX12_adds 7 none ∈ cg_T := cg_in7 140 (by decide +kernel) (by decide +kernel)
theorem q_7_133 : Cond.methodLink RX12 192 yX12_chances ∈ cg_T := cg_in7 133 (by decide +kernel) (by decide +kernel)
theorem q_7_135 : Cond.instanceMethod yX12_chances ∈ cg_T := cg_in7 135 (by decide +kernel) (by decide +kernel)
theorem q_0_36 : Cond.selects RX12 yX12_chances yX12_chances ∈ cg_T := cg_in0 36 (by decide +kernel) (by decide +kernel)
theorem q_7_136 : Cond.code yX12_chances cX12_chances 4 none ∈ cg_T := cg_in7 136 (by decide +kernel) (by decide +kernel)
theorem q_7_97 : Cond.methodLink RX12 181 yX12_isClosed ∈ cg_T := cg_in7 97 (by decide +kernel) (by decide +kernel)
theorem q_7_99 : Cond.instanceMethod yX12_isClosed ∈ cg_T := cg_in7 99 (by decide +kernel) (by decide +kernel)
theorem q_0_27 : Cond.selects RX12 yX12_isClosed yX12_isClosed ∈ cg_T := cg_in0 27 (by decide +kernel) (by decide +kernel)
theorem q_7_100 : Cond.code yX12_isClosed cX12_isClosed 3 (some .boolean) ∈ cg_T := cg_in7 100 (by decide +kernel) (by decide +kernel)
theorem q_7_101 : Cond.methodLink RX12 185 yX12_lowestOf ∈ cg_T := cg_in7 101 (by decide +kernel) (by decide +kernel)
theorem q_7_103 : Cond.instanceMethod yX12_lowestOf ∈ cg_T := cg_in7 103 (by decide +kernel) (by decide +kernel)
theorem q_0_28 : Cond.selects RX12 yX12_lowestOf yX12_lowestOf ∈ cg_T := cg_in0 28 (by decide +kernel) (by decide +kernel)
theorem q_7_104 : Cond.code yX12_lowestOf cX12_lowestOf 3 (some .int) ∈ cg_T := cg_in7 104 (by decide +kernel) (by decide +kernel)
theorem q_7_109 : Cond.methodLink RX12 188 yX12_cycle ∈ cg_T := cg_in7 109 (by decide +kernel) (by decide +kernel)
theorem q_7_111 : Cond.instanceMethod yX12_cycle ∈ cg_T := cg_in7 111 (by decide +kernel) (by decide +kernel)
theorem q_0_30 : Cond.selects RX12 yX12_cycle yX12_cycle ∈ cg_T := cg_in0 30 (by decide +kernel) (by decide +kernel)
theorem q_7_112 : Cond.code yX12_cycle cX12_cycle 6 (some .long) ∈ cg_T := cg_in7 112 (by decide +kernel) (by decide +kernel)
theorem q_7_145 : Cond.methodLink RX12 198 yX12_tellsAll ∈ cg_T := cg_in7 145 (by decide +kernel) (by decide +kernel)
theorem q_7_147 : Cond.instanceMethod yX12_tellsAll ∈ cg_T := cg_in7 147 (by decide +kernel) (by decide +kernel)
theorem q_0_39 : Cond.selects RX12 yX12_tellsAll yX12_tellsAll ∈ cg_T := cg_in0 39 (by decide +kernel) (by decide +kernel)
theorem q_7_148 : Cond.code yX12_tellsAll cX12_tellsAll 2 none ∈ cg_T := cg_in7 148 (by decide +kernel) (by decide +kernel)
theorem q_6_103 : Cond.fieldLink RX12 47 "ChanceledgerModel" "isMarked" "[Z" ∈ cg_T := cg_in6 103 (by decide +kernel) (by decide +kernel)
theorem q_6_92 : Cond.fieldLink RX12 13 "ChanceledgerModel" "colour" "[I" ∈ cg_T := cg_in6 92 (by decide +kernel) (by decide +kernel)
theorem q_6_87 : Cond.fieldLink RX12 109 "ChanceledgerModel" "discountAbove" "I" ∈ cg_T := cg_in6 87 (by decide +kernel) (by decide +kernel)
theorem q_6_88 : Cond.fieldLink RX12 113 "ChanceledgerModel" "discountBelow" "I" ∈ cg_T := cg_in6 88 (by decide +kernel) (by decide +kernel)
theorem q_6_101 : Cond.fieldLink RX12 40 "ChanceledgerModel" "isTarget" "[Z" ∈ cg_T := cg_in6 101 (by decide +kernel) (by decide +kernel)
theorem q_7_141 : Cond.methodLink RX12 204 yX12_parities ∈ cg_T := cg_in7 141 (by decide +kernel) (by decide +kernel)
theorem q_7_143 : Cond.instanceMethod yX12_parities ∈ cg_T := cg_in7 143 (by decide +kernel) (by decide +kernel)
theorem q_0_38 : Cond.selects RX12 yX12_parities yX12_parities ∈ cg_T := cg_in0 38 (by decide +kernel) (by decide +kernel)
theorem q_7_144 : Cond.code yX12_parities cX12_parities 4 none ∈ cg_T := cg_in7 144 (by decide +kernel) (by decide +kernel)
theorem q_7_81 : Cond.methodLink RX12 201 yX12_means ∈ cg_T := cg_in7 81 (by decide +kernel) (by decide +kernel)
theorem q_7_83 : Cond.instanceMethod yX12_means ∈ cg_T := cg_in7 83 (by decide +kernel) (by decide +kernel)
theorem q_0_23 : Cond.selects RX12 yX12_means yX12_means ∈ cg_T := cg_in0 23 (by decide +kernel) (by decide +kernel)
theorem q_7_84 : Cond.code yX12_means cX12_means 19 none ∈ cg_T := cg_in7 84 (by decide +kernel) (by decide +kernel)
theorem q_6_91 : Cond.fieldLink RX12 7 "ChanceledgerModel" "player" "[I" ∈ cg_T := cg_in6 91 (by decide +kernel) (by decide +kernel)
theorem q_6_93 : Cond.fieldLink RX12 16 "ChanceledgerModel" "choices" "[I" ∈ cg_T := cg_in6 93 (by decide +kernel) (by decide +kernel)
theorem q_6_109 : Cond.fieldLink RX12 66 "ChanceledgerModel" "leastAbove" "[J" ∈ cg_T := cg_in6 109 (by decide +kernel) (by decide +kernel)
theorem q_6_110 : Cond.fieldLink RX12 69 "ChanceledgerModel" "leastBelow" "[J" ∈ cg_T := cg_in6 110 (by decide +kernel) (by decide +kernel)
theorem q_7_152 : Cond.methodLink RX12 218 yX12_goesOn ∈ cg_T := cg_in7 152 (by decide +kernel) (by decide +kernel)
theorem q_7_154 : Cond.instanceMethod yX12_goesOn ∈ cg_T := cg_in7 154 (by decide +kernel) (by decide +kernel)
theorem q_0_40 : Cond.selects RX12 yX12_goesOn yX12_goesOn ∈ cg_T := cg_in0 40 (by decide +kernel) (by decide +kernel)
theorem q_7_155 : Cond.code yX12_goesOn cX12_goesOn 3 (some .boolean) ∈ cg_T := cg_in7 155 (by decide +kernel) (by decide +kernel)
theorem q_7_149 : Cond.methodLink RX12 214 yX12_compare ∈ cg_T := cg_in7 149 (by decide +kernel) (by decide +kernel)
theorem q_7_150 : Cond.static yX12_compare ∈ cg_T := cg_in7 150 (by decide +kernel) (by decide +kernel)
theorem q_7_151 : Cond.code yX12_compare cX12_compare 23 (some .int) ∈ cg_T := cg_in7 151 (by decide +kernel) (by decide +kernel)
theorem q_7_77 : Cond.methodLink RX12 211 yX12_gets ∈ cg_T := cg_in7 77 (by decide +kernel) (by decide +kernel)
theorem q_7_79 : Cond.instanceMethod yX12_gets ∈ cg_T := cg_in7 79 (by decide +kernel) (by decide +kernel)
theorem q_0_22 : Cond.selects RX12 yX12_gets yX12_gets ∈ cg_T := cg_in0 22 (by decide +kernel) (by decide +kernel)
theorem q_7_80 : Cond.code yX12_gets cX12_gets 3 none ∈ cg_T := cg_in7 80 (by decide +kernel) (by decide +kernel)
theorem q_7_69 : Cond.methodLink RX12 207 yX12_begins ∈ cg_T := cg_in7 69 (by decide +kernel) (by decide +kernel)
theorem q_7_71 : Cond.instanceMethod yX12_begins ∈ cg_T := cg_in7 71 (by decide +kernel) (by decide +kernel)
theorem q_0_20 : Cond.selects RX12 yX12_begins yX12_begins ∈ cg_T := cg_in0 20 (by decide +kernel) (by decide +kernel)
theorem q_7_72 : Cond.code yX12_begins cX12_begins 3 none ∈ cg_T := cg_in7 72 (by decide +kernel) (by decide +kernel)
theorem q_6_113 : Cond.fieldLink RX12 78 "ChanceledgerModel" "keptAbove" "[J" ∈ cg_T := cg_in6 113 (by decide +kernel) (by decide +kernel)
theorem q_6_114 : Cond.fieldLink RX12 81 "ChanceledgerModel" "keptBelow" "[J" ∈ cg_T := cg_in6 114 (by decide +kernel) (by decide +kernel)
theorem q_7_73 : Cond.methodLink RX12 224 yX12_answers ∈ cg_T := cg_in7 73 (by decide +kernel) (by decide +kernel)
theorem q_7_75 : Cond.instanceMethod yX12_answers ∈ cg_T := cg_in7 75 (by decide +kernel) (by decide +kernel)
theorem q_0_21 : Cond.selects RX12 yX12_answers yX12_answers ∈ cg_T := cg_in0 21 (by decide +kernel) (by decide +kernel)
theorem q_7_76 : Cond.code yX12_answers cX12_answers 7 none ∈ cg_T := cg_in7 76 (by decide +kernel) (by decide +kernel)
theorem q_7_62 : Cond.methodLink RX12 221 yX12_numberOf ∈ cg_T := cg_in7 62 (by decide +kernel) (by decide +kernel)
theorem q_7_63 : Cond.static yX12_numberOf ∈ cg_T := cg_in7 63 (by decide +kernel) (by decide +kernel)
theorem q_7_64 : Cond.code yX12_numberOf cX12_numberOf 1 (some .int) ∈ cg_T := cg_in7 64 (by decide +kernel) (by decide +kernel)
def M_X12_thrown (σ : cg_S) (Q : Int32 → cg_S → Prop) : Prop := cg_M cg_WM yX12_thrown cX12_thrown 1 (some .int) (cg_R 0) (fun ad => [.ref (ad 0)]) σ (cg_qi Q)
theorem M_X12_thrown.mono {σ : cg_S} {Q Q2 : Int32 → cg_S → Prop} (h : M_X12_thrown σ Q) (hq : ∀ r τ, Q r τ → Q2 r τ) : M_X12_thrown σ Q2 := cg_M.mono h (fun ad v τ ⟨r, e, q⟩ => ⟨r, e, hq r τ q⟩)
set_option maxRecDepth 100000 in
set_option maxHeartbeats 4000000 in
theorem v_X12_thrown {σ : cg_S} {Q : Int32 → cg_S → Prop}
    (h : Q (σ.1 0 0) σ) : M_X12_thrown σ Q := by
  refine cg_entry (lv := fun ad => [(0, .ref (ad 0))]) (by decide +kernel) (fun _ => rfl) (fun _ => Nat.le_of_ble_eq_true rfl) ?_
  intro p l e s m args below meth c D cy ad hC
  refine ga_aload_n hC dX12_thrown_0 0 rfl rfl ?_
  refine gM_0_0 hC q_6_85 dX12_thrown_1 ?_
  exact ga_iret hC dX12_thrown_4 ⟨_, rfl, h⟩
def M_X12_fails (v1 : Int32) (σ : cg_S) (Q : Int32 → cg_S → Prop) : Prop := cg_M cg_WM yX12_fails cX12_fails 2 (some .int) (cg_R 0) (fun ad => [.ref (ad 0), .int v1]) σ (cg_qi Q)
theorem M_X12_fails.mono {v1 : Int32} {σ : cg_S} {Q Q2 : Int32 → cg_S → Prop} (h : M_X12_fails v1 σ Q) (hq : ∀ r τ, Q r τ → Q2 r τ) : M_X12_fails v1 σ Q2 := cg_M.mono h (fun ad v τ ⟨r, e, q⟩ => ⟨r, e, hq r τ q⟩)
set_option maxRecDepth 100000 in
set_option maxHeartbeats 4000000 in
theorem v_X12_fails {v1 : Int32} {σ : cg_S} {Q : Int32 → cg_S → Prop}
    (h : ∀ s1 : cg_S, s1 = cg_i σ 0 0 v1 → Q 0 s1) : M_X12_fails v1 σ Q := by
  refine cg_entry (lv := fun ad => [(0, .ref (ad 0)), (1, .int v1)]) (by decide +kernel) (fun _ => rfl) (fun _ => Nat.le_of_ble_eq_true rfl) ?_
  intro p l e s m args below meth c D cy ad hC
  refine ga_aload_n hC dX12_fails_0 0 rfl rfl ?_
  refine ga_iload_n hC dX12_fails_1 1 rfl rfl ?_
  refine pM_0_0 hC q_6_85 dX12_fails_2 ?_
  refine ga_sig (σ := cg_i σ 0 0 v1) (fun s1 es1 => ?_)
  have h := h s1 es1
  refine ga_iconst (v := 0) hC dX12_fails_5 (by decide) ?_
  exact ga_iret hC dX12_fails_6 ⟨_, rfl, h⟩
def M_X12_in (v0 : Int32) (v1 : Int32) (v2 : Int32) (σ : cg_S) (Q : Int32 → cg_S → Prop) : Prop := cg_M cg_WM yX12_in cX12_in 3 (some .boolean) (cg_R 0) (fun ad => [.int v0, .int v1, .int v2]) σ (cg_qi Q)
theorem M_X12_in.mono {v0 : Int32} {v1 : Int32} {v2 : Int32} {σ : cg_S} {Q Q2 : Int32 → cg_S → Prop} (h : M_X12_in v0 v1 v2 σ Q) (hq : ∀ r τ, Q r τ → Q2 r τ) : M_X12_in v0 v1 v2 σ Q2 := cg_M.mono h (fun ad v τ ⟨r, e, q⟩ => ⟨r, e, hq r τ q⟩)
set_option maxRecDepth 100000 in
set_option maxHeartbeats 4000000 in
theorem v_X12_in {v0 : Int32} {v1 : Int32} {v2 : Int32} {σ : cg_S} {Q : Int32 → cg_S → Prop}
    (h : (v0 < v1 → Q 0 σ) ∧ (¬ v0 < v1 → (v2 < v0 → Q 0 σ) ∧ (¬ v2 < v0 → Q 1 σ))) : M_X12_in v0 v1 v2 σ Q := by
  refine cg_entry (lv := fun ad => [(0, .int v0), (1, .int v1), (2, .int v2)]) (by decide +kernel) (fun _ => rfl) (fun _ => Nat.le_of_ble_eq_true rfl) ?_
  intro p l e s m args below meth c D cy ad hC
  refine ga_iload_n hC dX12_in_0 0 rfl rfl ?_
  refine ga_iload_n hC dX12_in_1 1 rfl rfl ?_
  refine ga_icmp_lt (tgt := 14) hC dX12_in_2 (by decide) (fun hc => ?_) (fun hc => ?_)
  · have h := h.1 hc
    refine ga_iconst (v := 0) hC dX12_in_14 (by decide) ?_
    exact ga_zret hC dX12_in_15 (by decide) ⟨_, rfl, h⟩
  · have h := h.2 hc
    refine ga_iload_n hC dX12_in_5 0 rfl rfl ?_
    refine ga_iload_n hC dX12_in_6 2 rfl rfl ?_
    refine ga_icmp_gt (tgt := 14) hC dX12_in_7 (by decide) (fun hc => ?_) (fun hc => ?_)
    · have h := h.1 hc
      refine ga_iconst (v := 0) hC dX12_in_14 (by decide) ?_
      exact ga_zret hC dX12_in_15 (by decide) ⟨_, rfl, h⟩
    · have h := h.2 hc
      refine ga_iconst (v := 1) hC dX12_in_10 (by decide) ?_
      refine ga_goto (tgt := 15) hC dX12_in_11 (by decide) ?_
      exact ga_zret hC dX12_in_15 (by decide) ⟨_, rfl, h⟩
def M_X12_changes (σ : cg_S) (Q : cg_S → Prop) : Prop := cg_M cg_WM yX12_changes cX12_changes 2 none (cg_R 0) (fun ad => [.ref (ad 0)]) σ (cg_qv Q)
theorem M_X12_changes.mono {σ : cg_S} {Q Q2 : cg_S → Prop} (h : M_X12_changes σ Q) (hq : ∀ τ, Q τ → Q2 τ) : M_X12_changes σ Q2 := cg_M.mono h (fun ad v τ ⟨e, q⟩ => ⟨e, hq τ q⟩)
def L_X12_changes_7 (v1 : Int32) (σ : cg_S) (Q : cg_S → Prop) : Prop := cg_L cg_WM RX12 cX12_changes 2 none (cg_R 0) 7 (fun ad => [(0, .ref (ad 0)), (1, .int v1)]) (fun ad => []) σ (cg_qv Q)
set_option maxRecDepth 100000 in
set_option maxHeartbeats 4000000 in
theorem v_X12_changes_7 {v1 : Int32} {σ : cg_S} {Q : cg_S → Prop}
    (h : (4 ≤ v1 → Q σ) ∧ (¬ 4 ≤ v1 → vp_in v1 4 ∧ ∀ s2 : cg_S, s2 = cg_i σ 19 v1.toNatClampNeg (vp_nar .boolean 0) → L_X12_changes_7 (v1 + 1) s2 Q)) : L_X12_changes_7 v1 σ Q := by
  intro p l e s m args below meth c D cy ad hC
  refine ga_iload_n hC dX12_changes_7 1 rfl rfl ?_
  refine ga_iconst (v := 4) hC dX12_changes_8 (by decide) ?_
  refine ga_icmp_ge (tgt := 25) hC dX12_changes_9 (by decide) (fun hc => ?_) (fun hc => ?_)
  · have h := h.1 hc
    exact ga_vret hC dX12_changes_25 ⟨rfl, h⟩
  · have h := h.2 hc
    refine ga_aload_n hC dX12_changes_12 0 rfl rfl ?_
    refine gM_0_19 hC q_6_104 dX12_changes_13 ?_
    refine ga_iload_n hC dX12_changes_16 1 rfl rfl ?_
    refine ga_iconst (v := 0) hC dX12_changes_17 (by decide) ?_
    obtain ⟨h1, h⟩ := h
    refine ga_zast hC aM_19 (by decide) h1 dX12_changes_18 ?_
    refine ga_sig (σ := cg_i σ 19 v1.toNatClampNeg (vp_nar .boolean 0)) (fun s2 es2 => ?_)
    have h := h s2 es2
    refine ga_iinc (v := v1 + 1) (lv' := [(1, .int (v1 + 1)), (0, .ref (ad 0))]) hC dX12_changes_19 1 rfl rfl (by decide) rfl ?_
    refine ga_goto (tgt := 7) hC dX12_changes_22 (by decide) ?_
    refine ga_locals [1, 0] rfl ?_
    exact h p l e s m args below meth c D cy ad hC
set_option maxRecDepth 100000 in
set_option maxHeartbeats 4000000 in
theorem v_X12_changes {σ : cg_S} {Q : cg_S → Prop}
    (h : ∀ s1 : cg_S, s1 = cg_i σ 0 0 0 → L_X12_changes_7 0 s1 Q) : M_X12_changes σ Q := by
  refine cg_entry (lv := fun ad => [(0, .ref (ad 0))]) (by decide +kernel) (fun _ => rfl) (fun _ => Nat.le_of_ble_eq_true rfl) ?_
  intro p l e s m args below meth c D cy ad hC
  refine ga_aload_n hC dX12_changes_0 0 rfl rfl ?_
  refine ga_iconst (v := 0) hC dX12_changes_1 (by decide) ?_
  refine pM_0_0 hC q_6_85 dX12_changes_2 ?_
  refine ga_sig (σ := cg_i σ 0 0 0) (fun s1 es1 => ?_)
  have h := h s1 es1
  refine ga_iconst (v := 0) hC dX12_changes_5 (by decide) ?_
  refine ga_istore_n (lv' := [(1, .int 0), (0, .ref (ad 0))]) hC dX12_changes_6 rfl (by decide) rfl ?_
  refine ga_locals [1, 0] rfl ?_
  exact h p l e s m args below meth c D cy ad hC
def M_X12_divisor (v0 : Int64) (v2 : Int64) (σ : cg_S) (Q : Int64 → cg_S → Prop) : Prop := cg_M cg_WM yX12_divisor cX12_divisor 10 (some .long) (cg_R 0) (fun ad => [.long v0, .long v2]) σ (cg_ql Q)
theorem M_X12_divisor.mono {v0 : Int64} {v2 : Int64} {σ : cg_S} {Q Q2 : Int64 → cg_S → Prop} (h : M_X12_divisor v0 v2 σ Q) (hq : ∀ r τ, Q r τ → Q2 r τ) : M_X12_divisor v0 v2 σ Q2 := cg_M.mono h (fun ad v τ ⟨r, e, q⟩ => ⟨r, e, hq r τ q⟩)
def L_X12_divisor_12 (v2 : Int64) (t0 : Int64) (σ : cg_S) (Q : Int64 → cg_S → Prop) : Prop := cg_L cg_WM RX12 cX12_divisor 10 (some .long) (cg_R 0) 12 (fun ad => [(2, .long v2)]) (fun ad => [.long t0]) σ (cg_ql Q)
def L_X12_divisor_28 (v4 : Int64) (v6 : Int64) (σ : cg_S) (Q : Int64 → cg_S → Prop) : Prop := cg_L cg_WM RX12 cX12_divisor 10 (some .long) (cg_R 0) 28 (fun ad => [(4, .long v4), (6, .long v6)]) (fun ad => []) σ (cg_ql Q)
set_option maxRecDepth 100000 in
set_option maxHeartbeats 4000000 in
theorem v_X12_divisor_28 {v4 : Int64} {v6 : Int64} {σ : cg_S} {Q : Int64 → cg_S → Prop}
    (h : (v6 = 0 → Q v4 σ) ∧ (¬ v6 = 0 → ¬ v6 = 0 ∧ ∀ x2 : Int64, x2 = v4 - v4 / v6 * v6 → L_X12_divisor_28 v6 x2 σ Q)) : L_X12_divisor_28 v4 v6 σ Q := by
  intro p l e s m args below meth c D cy ad hC
  refine ga_lload hC dX12_divisor_28 1 rfl ?_
  refine ga_lconst (v := 0) hC dX12_divisor_30 (by decide) ?_
  refine ga_lcmp hC dX12_divisor_31 ?_
  refine ga_if_eq (tgt := 53) hC dX12_divisor_32 (by decide) (fun hc => ?_) (fun hc => ?_)
  · have h := h.1 (cg_cmp_eq.1 hc)
    refine ga_lload hC dX12_divisor_53 0 rfl ?_
    exact ga_lret hC dX12_divisor_55 ⟨_, rfl, h⟩
  · have h := h.2 (cg_cmp_eq.2 hc)
    refine ga_lload hC dX12_divisor_35 0 rfl ?_
    refine ga_lload hC dX12_divisor_37 1 rfl ?_
    obtain ⟨h1, h⟩ := h
    refine ga_lrem hC dX12_divisor_39 h1 ?_
    refine ga_topl (fun x2 ex2 => ?_)
    have h := h x2 ex2
    refine ga_lstore (lv' := [(8, .long x2), (4, .long v4), (6, .long v6)]) hC dX12_divisor_40 (by decide) rfl ?_
    refine ga_lload hC dX12_divisor_42 2 rfl ?_
    refine ga_lstore (lv' := [(4, .long v6), (8, .long x2), (6, .long v6)]) hC dX12_divisor_44 (by decide) rfl ?_
    refine ga_lload hC dX12_divisor_46 1 rfl ?_
    refine ga_lstore (lv' := [(6, .long x2), (4, .long v6), (8, .long x2)]) hC dX12_divisor_48 (by decide) rfl ?_
    refine ga_goto (tgt := 28) hC dX12_divisor_50 (by decide) ?_
    refine ga_locals [1, 0] rfl ?_
    exact h p l e s m args below meth c D cy ad hC
set_option maxRecDepth 100000 in
set_option maxHeartbeats 4000000 in
theorem v_X12_divisor_12 {v2 : Int64} {t0 : Int64} {σ : cg_S} {Q : Int64 → cg_S → Prop}
    (h : (0 ≤ v2 → L_X12_divisor_28 t0 v2 σ Q) ∧ (¬ 0 ≤ v2 → ∀ x1 : Int64, x1 = -v2 → L_X12_divisor_28 t0 x1 σ Q)) : L_X12_divisor_12 v2 t0 σ Q := by
  intro p l e s m args below meth c D cy ad hC
  refine ga_lstore (lv' := [(4, .long t0), (2, .long v2)]) hC dX12_divisor_12 (by decide) rfl ?_
  refine ga_lload_n hC dX12_divisor_14 1 rfl rfl ?_
  refine ga_lconst (v := 0) hC dX12_divisor_15 (by decide) ?_
  refine ga_lcmp hC dX12_divisor_16 ?_
  refine ga_if_ge (tgt := 25) hC dX12_divisor_17 (by decide) (fun hc => ?_) (fun hc => ?_)
  · have h := h.1 (cg_cmp_ge.1 hc)
    refine ga_lload_n hC dX12_divisor_25 1 rfl rfl ?_
    refine ga_lstore (lv' := [(6, .long v2), (4, .long t0), (2, .long v2)]) hC dX12_divisor_26 (by decide) rfl ?_
    refine ga_locals [1, 0] rfl ?_
    exact h p l e s m args below meth c D cy ad hC
  · have h := h.2 (cg_cmp_ge.2 hc)
    refine ga_lload_n hC dX12_divisor_20 1 rfl rfl ?_
    refine ga_lneg hC dX12_divisor_21 ?_
    refine ga_goto (tgt := 26) hC dX12_divisor_22 (by decide) ?_
    refine ga_topl (fun x1 ex1 => ?_)
    have h := h x1 ex1
    refine ga_lstore (lv' := [(6, .long x1), (4, .long t0), (2, .long v2)]) hC dX12_divisor_26 (by decide) rfl ?_
    refine ga_locals [1, 0] rfl ?_
    exact h p l e s m args below meth c D cy ad hC
set_option maxRecDepth 100000 in
set_option maxHeartbeats 4000000 in
theorem v_X12_divisor {v0 : Int64} {v2 : Int64} {σ : cg_S} {Q : Int64 → cg_S → Prop}
    (h : (0 ≤ v0 → L_X12_divisor_12 v2 v0 σ Q) ∧ (¬ 0 ≤ v0 → L_X12_divisor_12 v2 (-v0) σ Q)) : M_X12_divisor v0 v2 σ Q := by
  refine cg_entry (lv := fun ad => [(0, .long v0), (2, .long v2)]) (by decide +kernel) (fun _ => rfl) (fun _ => Nat.le_of_ble_eq_true rfl) ?_
  intro p l e s m args below meth c D cy ad hC
  refine ga_lload_n hC dX12_divisor_0 0 rfl rfl ?_
  refine ga_lconst (v := 0) hC dX12_divisor_1 (by decide) ?_
  refine ga_lcmp hC dX12_divisor_2 ?_
  refine ga_if_ge (tgt := 11) hC dX12_divisor_3 (by decide) (fun hc => ?_) (fun hc => ?_)
  · have h := h.1 (cg_cmp_ge.1 hc)
    refine ga_lload_n hC dX12_divisor_11 0 rfl rfl ?_
    refine ga_locals [1] rfl ?_
    exact h p l e s m args below meth c D cy ad hC
  · have h := h.2 (cg_cmp_ge.2 hc)
    refine ga_lload_n hC dX12_divisor_6 0 rfl rfl ?_
    refine ga_lneg hC dX12_divisor_7 ?_
    refine ga_goto (tgt := 12) hC dX12_divisor_8 (by decide) ?_
    refine ga_locals [1] rfl ?_
    exact h p l e s m args below meth c D cy ad hC
def M_X12_lowers (v1 : Int64) (v3 : Int64) (σ : cg_S) (Q : cg_S → Prop) : Prop := cg_M cg_WM yX12_lowers cX12_lowers 7 none (cg_R 1) (fun ad => [.ref (ad 0), .long v1, .long v3]) σ (cg_qv Q)
theorem M_X12_lowers.mono {v1 : Int64} {v3 : Int64} {σ : cg_S} {Q Q2 : cg_S → Prop} (h : M_X12_lowers v1 v3 σ Q) (hq : ∀ τ, Q τ → Q2 τ) : M_X12_lowers v1 v3 σ Q2 := cg_M.mono h (fun ad v τ ⟨e, q⟩ => ⟨e, hq τ q⟩)
def L_X12_lowers_18 (v1 : Int64) (v3 : Int64) (t0 : Int64) (t1 : Int64) (σ : cg_S) (Q : cg_S → Prop) : Prop := cg_L cg_WM RX12 cX12_lowers 7 none (cg_R 1) 18 (fun ad => [(0, .ref (ad 0)), (1, .long v1), (3, .long v3)]) (fun ad => [.long t1, .long t0]) σ (cg_qv Q)
set_option maxRecDepth 100000 in
set_option maxHeartbeats 4000000 in
theorem v_X12_lowers_18 {v1 : Int64} {v3 : Int64} {t0 : Int64} {t1 : Int64} {σ : cg_S} {Q : cg_S → Prop}
    (h : ∀ x1 : Int64, x1 = t0 * t1 → ¬ x1 = 0 ∧ ∀ s3 : cg_S, s3 = cg_l σ 0 40 (v1 / x1) → ¬ x1 = 0 ∧ ∀ s5 : cg_S, s5 = cg_l s3 0 41 (v3 / x1) → Q s5) : L_X12_lowers_18 v1 v3 t0 t1 σ Q := by
  intro p l e s m args below meth c D cy ad hC
  refine ga_lmul hC dX12_lowers_18 ?_
  refine ga_topl (fun x1 ex1 => ?_)
  have h := h x1 ex1
  refine ga_lstore (lv' := [(5, .long x1), (0, .ref (ad 0)), (1, .long v1), (3, .long v3)]) hC dX12_lowers_19 (by decide) rfl ?_
  refine ga_aload_n hC dX12_lowers_21 1 rfl rfl ?_
  refine ga_lload_n hC dX12_lowers_22 2 rfl rfl ?_
  refine ga_lload hC dX12_lowers_23 0 rfl ?_
  obtain ⟨h2, h⟩ := h
  refine ga_ldiv hC dX12_lowers_25 h2 ?_
  refine pM_0_40 hC q_6_125 dX12_lowers_26 ?_
  refine ga_sig (σ := cg_l σ 0 40 (v1 / x1)) (fun s3 es3 => ?_)
  have h := h s3 es3
  refine ga_aload_n hC dX12_lowers_29 1 rfl rfl ?_
  refine ga_lload_n hC dX12_lowers_30 3 rfl rfl ?_
  refine ga_lload hC dX12_lowers_31 0 rfl ?_
  obtain ⟨h4, h⟩ := h
  refine ga_ldiv hC dX12_lowers_33 h4 ?_
  refine pM_0_41 hC q_6_126 dX12_lowers_34 ?_
  refine ga_sig (σ := cg_l s3 0 41 (v3 / x1)) (fun s5 es5 => ?_)
  have h := h s5 es5
  exact ga_vret hC dX12_lowers_37 ⟨rfl, h⟩
set_option maxRecDepth 100000 in
set_option maxHeartbeats 4000000 in
theorem v_X12_lowers {v1 : Int64} {v3 : Int64} {σ : cg_S} {Q : cg_S → Prop}
    (h : M_X12_divisor v1 v3 σ (fun r1 s2 => (0 ≤ v3 → L_X12_lowers_18 v1 v3 r1 1 s2 Q) ∧ (¬ 0 ≤ v3 → L_X12_lowers_18 v1 v3 r1 (-1) s2 Q))) : M_X12_lowers v1 v3 σ Q := by
  refine cg_entry (lv := fun ad => [(0, .ref (ad 0)), (1, .long v1), (3, .long v3)]) (by decide +kernel) (fun _ => rfl) (fun _ => Nat.le_of_ble_eq_true rfl) ?_
  intro p l e s m args below meth c D cy ad hC
  refine ga_lload_n hC dX12_lowers_0 1 rfl rfl ?_
  refine ga_lload_n hC dX12_lowers_1 2 rfl rfl ?_
  refine ga_callS (As := [.long v1, .long v3]) (st := []) (n := 2) hC h q_7_41 q_7_42 q_1_13 q_7_43 rfl rfl rfl (by decide +kernel) ⟨Nat.le_of_ble_eq_true rfl, Nat.le_of_ble_eq_true rfl⟩ ⟨Nat.le_of_ble_eq_true rfl, Nat.le_of_ble_eq_true rfl⟩ rfl rfl (Nat.le_of_ble_eq_true rfl) dX12_lowers_2 (fun v τ hq => ?_)
  obtain ⟨r1, rfl, h⟩ := hq
  obtain ⟨s2, es2⟩ : ∃ z, z = τ := ⟨_, rfl⟩
  rw [← es2] at h ⊢
  clear es2
  refine ga_lload_n hC dX12_lowers_5 2 rfl rfl ?_
  refine ga_lconst (v := 0) hC dX12_lowers_6 (by decide) ?_
  refine ga_lcmp hC dX12_lowers_7 ?_
  refine ga_if_ge (tgt := 17) hC dX12_lowers_8 (by decide) (fun hc => ?_) (fun hc => ?_)
  · have h := h.1 (cg_cmp_ge.1 hc)
    refine ga_lconst (v := 1) hC dX12_lowers_17 (by decide) ?_
    refine ga_locals [0, 1, 2] rfl ?_
    exact h p l e s m args below meth c D cy ad hC
  · have h := h.2 (cg_cmp_ge.2 hc)
    refine ga_ldc2 hC q_7_44 dX12_lowers_11 ?_
    refine ga_goto (tgt := 18) hC dX12_lowers_14 (by decide) ?_
    refine ga_locals [0, 1, 2] rfl ?_
    exact h p l e s m args below meth c D cy ad hC
def M_X12_adds (v1 : Int64) (v3 : Int64) (σ : cg_S) (Q : cg_S → Prop) : Prop := cg_M cg_WM yX12_adds cX12_adds 7 none (cg_R 2) (fun ad => [.ref (ad 0), .long v1, .long v3]) σ (cg_qv Q)
theorem M_X12_adds.mono {v1 : Int64} {v3 : Int64} {σ : cg_S} {Q Q2 : cg_S → Prop} (h : M_X12_adds v1 v3 σ Q) (hq : ∀ τ, Q τ → Q2 τ) : M_X12_adds v1 v3 σ Q2 := cg_M.mono h (fun ad v τ ⟨e, q⟩ => ⟨e, hq τ q⟩)
set_option maxRecDepth 100000 in
set_option maxHeartbeats 4000000 in
theorem v_X12_adds {v1 : Int64} {v3 : Int64} {σ : cg_S} {Q : cg_S → Prop}
    (h : M_X12_divisor (σ.2.1 0 41) v3 σ (fun r1 s2 => ¬ r1 = 0 ∧ ¬ r1 = 0 ∧ ¬ r1 = 0 ∧ M_X12_lowers (((s2.2.1 0 40) * (v3 / r1)) + (v1 * ((s2.2.1 0 41) / r1))) (((s2.2.1 0 41) / r1) * v3) s2 (fun s8 => Q s8))) : M_X12_adds v1 v3 σ Q := by
  refine cg_entry (lv := fun ad => [(0, .ref (ad 0)), (1, .long v1), (3, .long v3)]) (by decide +kernel) (fun _ => rfl) (fun _ => Nat.le_of_ble_eq_true rfl) ?_
  intro p l e s m args below meth c D cy ad hC
  refine ga_aload_n hC dX12_adds_0 0 rfl rfl ?_
  refine gM_0_41 hC q_6_126 dX12_adds_1 ?_
  refine ga_lload_n hC dX12_adds_4 2 rfl rfl ?_
  refine ga_callS (As := [.long (σ.2.1 0 41), .long v3]) (st := []) (n := 2) hC h q_7_41 q_7_42 q_1_13 q_7_43 rfl rfl rfl (by decide +kernel) ⟨Nat.le_of_ble_eq_true rfl, Nat.le_of_ble_eq_true rfl⟩ ⟨Nat.le_of_ble_eq_true rfl, Nat.le_of_ble_eq_true rfl⟩ rfl rfl (Nat.le_of_ble_eq_true rfl) dX12_adds_5 (fun v τ hq => ?_)
  obtain ⟨r1, rfl, h⟩ := hq
  obtain ⟨s2, es2⟩ : ∃ z, z = τ := ⟨_, rfl⟩
  rw [← es2] at h ⊢
  clear es2
  refine ga_lstore (lv' := [(5, .long r1), (0, .ref (ad 0)), (1, .long v1), (3, .long v3)]) hC dX12_adds_8 (by decide) rfl ?_
  refine ga_aload_n hC dX12_adds_10 1 rfl rfl ?_
  refine ga_aload_n hC dX12_adds_11 1 rfl rfl ?_
  refine gM_0_40 hC q_6_125 dX12_adds_12 ?_
  refine ga_lload_n hC dX12_adds_15 3 rfl rfl ?_
  refine ga_lload hC dX12_adds_16 0 rfl ?_
  obtain ⟨h4, h⟩ := h
  refine ga_ldiv hC dX12_adds_18 h4 ?_
  refine ga_lmul hC dX12_adds_19 ?_
  refine ga_lload_n hC dX12_adds_20 2 rfl rfl ?_
  refine ga_aload_n hC dX12_adds_21 1 rfl rfl ?_
  refine gM_0_41 hC q_6_126 dX12_adds_22 ?_
  refine ga_lload hC dX12_adds_25 0 rfl ?_
  obtain ⟨h5, h⟩ := h
  refine ga_ldiv hC dX12_adds_27 h5 ?_
  refine ga_lmul hC dX12_adds_28 ?_
  refine ga_ladd hC dX12_adds_29 ?_
  refine ga_aload_n hC dX12_adds_30 1 rfl rfl ?_
  refine gM_0_41 hC q_6_126 dX12_adds_31 ?_
  refine ga_lload hC dX12_adds_34 0 rfl ?_
  obtain ⟨h6, h⟩ := h
  refine ga_ldiv hC dX12_adds_36 h6 ?_
  refine ga_lload_n hC dX12_adds_37 3 rfl rfl ?_
  refine ga_lmul hC dX12_adds_38 ?_
  refine ga_callV (As := [.long (((s2.2.1 0 40) * (v3 / r1)) + (v1 * ((s2.2.1 0 41) / r1))), .long (((s2.2.1 0 41) / r1) * v3)]) (st := []) (k := 0) (n := 2) hC h q_7_37 q_7_39 q_0_16 q_1_13 q_7_40 rfl rfl rfl (by decide +kernel) ⟨Nat.le_of_ble_eq_true rfl, Nat.le_of_ble_eq_true rfl⟩ ⟨Nat.le_of_ble_eq_true rfl, Nat.le_of_ble_eq_true rfl⟩ rfl rfl rfl (by decide) rfl (Nat.le_of_ble_eq_true rfl) dX12_adds_39 (fun v τ hq => ?_)
  obtain ⟨rfl, h⟩ := hq
  obtain ⟨s8, es8⟩ : ∃ z, z = τ := ⟨_, rfl⟩
  rw [← es8] at h ⊢
  clear es8
  exact ga_vret hC dX12_adds_42 ⟨rfl, h⟩
def M_X12_compare (v0 : Int64) (v2 : Int64) (v4 : Int64) (v6 : Int64) (σ : cg_S) (Q : Int32 → cg_S → Prop) : Prop := cg_M cg_WM yX12_compare cX12_compare 23 (some .int) (cg_R 0) (fun ad => [.long v0, .long v2, .long v4, .long v6]) σ (cg_qi Q)
theorem M_X12_compare.mono {v0 : Int64} {v2 : Int64} {v4 : Int64} {v6 : Int64} {σ : cg_S} {Q Q2 : Int32 → cg_S → Prop} (h : M_X12_compare v0 v2 v4 v6 σ Q) (hq : ∀ r τ, Q r τ → Q2 r τ) : M_X12_compare v0 v2 v4 v6 σ Q2 := cg_M.mono h (fun ad v τ ⟨r, e, q⟩ => ⟨r, e, hq r τ q⟩)
def L_X12_compare_17 (v8 : Int64) (v10 : Int64) (v12 : Int64) (v14 : Int64) (v16 : Int32) (σ : cg_S) (Q : Int32 → cg_S → Prop) : Prop := cg_L cg_WM RX12 cX12_compare 23 (some .int) (cg_R 0) 17 (fun ad => [(8, .long v8), (10, .long v10), (12, .long v12), (14, .long v14), (16, .int v16)]) (fun ad => []) σ (cg_qi Q)
def L_X12_compare_84 (v8 : Int64) (v12 : Int64) (v16 : Int32) (σ : cg_S) (Q : Int32 → cg_S → Prop) : Prop := cg_L cg_WM RX12 cX12_compare 23 (some .int) (cg_R 0) 84 (fun ad => [(8, .long v8), (12, .long v12), (16, .int v16)]) (fun ad => []) σ (cg_qi Q)
set_option maxRecDepth 100000 in
set_option maxHeartbeats 4000000 in
theorem v_X12_compare_84 {v8 : Int64} {v12 : Int64} {v16 : Int32} {σ : cg_S} {Q : Int32 → cg_S → Prop}
    (h : (¬ v8 = v12 → (¬ v8 = 0 → Q v16 σ) ∧ (v8 = 0 → Q (-v16) σ)) ∧ (v8 = v12 → Q 0 σ)) : L_X12_compare_84 v8 v12 v16 σ Q := by
  intro p l e s m args below meth c D cy ad hC
  refine ga_lload hC dX12_compare_84 0 rfl ?_
  refine ga_lload hC dX12_compare_86 1 rfl ?_
  refine ga_lcmp hC dX12_compare_88 ?_
  refine ga_if_ne (tgt := 96) hC dX12_compare_89 (by decide) (fun hc => ?_) (fun hc => ?_)
  · have h := h.1 (cg_cmp_ne.1 hc)
    refine ga_lload hC dX12_compare_96 0 rfl ?_
    refine ga_lconst (v := 0) hC dX12_compare_98 (by decide) ?_
    refine ga_lcmp hC dX12_compare_99 ?_
    refine ga_if_ne (tgt := 109) hC dX12_compare_100 (by decide) (fun hc => ?_) (fun hc => ?_)
    · have h := h.1 (cg_cmp_ne.1 hc)
      refine ga_iload hC dX12_compare_109 2 rfl ?_
      exact ga_iret hC dX12_compare_111 ⟨_, rfl, h⟩
    · have h := h.2 (cg_cmp_ne.2 hc)
      refine ga_iload hC dX12_compare_103 2 rfl ?_
      refine ga_ineg hC dX12_compare_105 ?_
      refine ga_goto (tgt := 111) hC dX12_compare_106 (by decide) ?_
      exact ga_iret hC dX12_compare_111 ⟨_, rfl, h⟩
  · have h := h.2 (cg_cmp_ne.2 hc)
    refine ga_iconst (v := 0) hC dX12_compare_92 (by decide) ?_
    refine ga_goto (tgt := 111) hC dX12_compare_93 (by decide) ?_
    exact ga_iret hC dX12_compare_111 ⟨_, rfl, h⟩
set_option maxRecDepth 100000 in
set_option maxHeartbeats 4000000 in
theorem v_X12_compare_17 {v8 : Int64} {v10 : Int64} {v12 : Int64} {v14 : Int64} {v16 : Int32} {σ : cg_S} {Q : Int32 → cg_S → Prop}
    (h : ¬ v10 = 0 ∧ ∀ x2 : Int64, x2 = v8 / v10 → ¬ v14 = 0 ∧ ∀ x4 : Int64, x4 = v12 / v14 → (x2 = x4 → ¬ v10 = 0 ∧ ∀ x6 : Int64, x6 = v8 - v8 / v10 * v10 → ¬ v14 = 0 ∧ ∀ x8 : Int64, x8 = v12 - v12 / v14 * v14 → (x6 = 0 → L_X12_compare_84 x6 x8 v16 σ Q) ∧ (¬ x6 = 0 → (¬ x8 = 0 → ∀ x9 : Int32, x9 = -v16 → L_X12_compare_17 v10 x6 v14 x8 x9 σ Q) ∧ (x8 = 0 → L_X12_compare_84 x6 x8 v16 σ Q))) ∧ (¬ x2 = x4 → (x4 ≤ x2 → Q v16 σ) ∧ (¬ x4 ≤ x2 → Q (-v16) σ))) : L_X12_compare_17 v8 v10 v12 v14 v16 σ Q := by
  intro p l e s m args below meth c D cy ad hC
  refine ga_lload hC dX12_compare_17 0 rfl ?_
  refine ga_lload hC dX12_compare_19 1 rfl ?_
  obtain ⟨h1, h⟩ := h
  refine ga_ldiv hC dX12_compare_21 h1 ?_
  refine ga_topl (fun x2 ex2 => ?_)
  have h := h x2 ex2
  refine ga_lstore (lv' := [(17, .long x2), (8, .long v8), (10, .long v10), (12, .long v12), (14, .long v14), (16, .int v16)]) hC dX12_compare_22 (by decide) rfl ?_
  refine ga_lload hC dX12_compare_24 3 rfl ?_
  refine ga_lload hC dX12_compare_26 4 rfl ?_
  obtain ⟨h3, h⟩ := h
  refine ga_ldiv hC dX12_compare_28 h3 ?_
  refine ga_topl (fun x4 ex4 => ?_)
  have h := h x4 ex4
  refine ga_lstore (lv' := [(19, .long x4), (17, .long x2), (8, .long v8), (10, .long v10), (12, .long v12), (14, .long v14), (16, .int v16)]) hC dX12_compare_29 (by decide) rfl ?_
  refine ga_lload hC dX12_compare_31 1 rfl ?_
  refine ga_lload hC dX12_compare_33 0 rfl ?_
  refine ga_lcmp hC dX12_compare_35 ?_
  refine ga_if_eq (tgt := 56) hC dX12_compare_36 (by decide) (fun hc => ?_) (fun hc => ?_)
  · have h := h.1 (cg_cmp_eq.1 hc)
    refine ga_lload hC dX12_compare_56 2 rfl ?_
    refine ga_lload hC dX12_compare_58 3 rfl ?_
    obtain ⟨h5, h⟩ := h
    refine ga_lrem hC dX12_compare_60 h5 ?_
    refine ga_topl (fun x6 ex6 => ?_)
    have h := h x6 ex6
    refine ga_lstore (lv' := [(8, .long x6), (19, .long x4), (17, .long x2), (10, .long v10), (12, .long v12), (14, .long v14), (16, .int v16)]) hC dX12_compare_61 (by decide) rfl ?_
    refine ga_lload hC dX12_compare_63 4 rfl ?_
    refine ga_lload hC dX12_compare_65 5 rfl ?_
    obtain ⟨h7, h⟩ := h
    refine ga_lrem hC dX12_compare_67 h7 ?_
    refine ga_topl (fun x8 ex8 => ?_)
    have h := h x8 ex8
    refine ga_lstore (lv' := [(12, .long x8), (8, .long x6), (19, .long x4), (17, .long x2), (10, .long v10), (14, .long v14), (16, .int v16)]) hC dX12_compare_68 (by decide) rfl ?_
    refine ga_lload hC dX12_compare_70 1 rfl ?_
    refine ga_lconst (v := 0) hC dX12_compare_72 (by decide) ?_
    refine ga_lcmp hC dX12_compare_73 ?_
    refine ga_if_eq (tgt := 84) hC dX12_compare_74 (by decide) (fun hc => ?_) (fun hc => ?_)
    · have h := h.1 (cg_cmp_eq.1 hc)
      refine ga_locals [1, 0, 6] rfl ?_
      exact h p l e s m args below meth c D cy ad hC
    · have h := h.2 (cg_cmp_eq.2 hc)
      refine ga_lload hC dX12_compare_77 0 rfl ?_
      refine ga_lconst (v := 0) hC dX12_compare_79 (by decide) ?_
      refine ga_lcmp hC dX12_compare_80 ?_
      refine ga_if_ne (tgt := 112) hC dX12_compare_81 (by decide) (fun hc => ?_) (fun hc => ?_)
      · have h := h.1 (cg_cmp_ne.1 hc)
        refine ga_lload hC dX12_compare_112 1 rfl ?_
        refine ga_lstore (lv' := [(21, .long x6), (12, .long x8), (8, .long x6), (19, .long x4), (17, .long x2), (10, .long v10), (14, .long v14), (16, .int v16)]) hC dX12_compare_114 (by decide) rfl ?_
        refine ga_lload hC dX12_compare_116 5 rfl ?_
        refine ga_lstore (lv' := [(8, .long v10), (21, .long x6), (12, .long x8), (19, .long x4), (17, .long x2), (10, .long v10), (14, .long v14), (16, .int v16)]) hC dX12_compare_118 (by decide) rfl ?_
        refine ga_lload hC dX12_compare_120 1 rfl ?_
        refine ga_lstore (lv' := [(10, .long x6), (8, .long v10), (21, .long x6), (12, .long x8), (19, .long x4), (17, .long x2), (14, .long v14), (16, .int v16)]) hC dX12_compare_122 (by decide) rfl ?_
        refine ga_lload hC dX12_compare_124 3 rfl ?_
        refine ga_lstore (lv' := [(21, .long x8), (10, .long x6), (8, .long v10), (12, .long x8), (19, .long x4), (17, .long x2), (14, .long v14), (16, .int v16)]) hC dX12_compare_126 (by decide) rfl ?_
        refine ga_lload hC dX12_compare_128 6 rfl ?_
        refine ga_lstore (lv' := [(12, .long v14), (21, .long x8), (10, .long x6), (8, .long v10), (19, .long x4), (17, .long x2), (14, .long v14), (16, .int v16)]) hC dX12_compare_130 (by decide) rfl ?_
        refine ga_lload hC dX12_compare_132 1 rfl ?_
        refine ga_lstore (lv' := [(14, .long x8), (12, .long v14), (21, .long x8), (10, .long x6), (8, .long v10), (19, .long x4), (17, .long x2), (16, .int v16)]) hC dX12_compare_134 (by decide) rfl ?_
        refine ga_iload hC dX12_compare_136 7 rfl ?_
        refine ga_ineg hC dX12_compare_138 ?_
        refine ga_topi (fun x9 ex9 => ?_)
        have h := h x9 ex9
        refine ga_istore (lv' := [(16, .int x9), (14, .long x8), (12, .long v14), (21, .long x8), (10, .long x6), (8, .long v10), (19, .long x4), (17, .long x2)]) hC dX12_compare_139 (by decide) rfl ?_
        refine ga_goto (tgt := 17) hC dX12_compare_141 (by decide) ?_
        refine ga_locals [5, 4, 2, 1, 0] rfl ?_
        exact h p l e s m args below meth c D cy ad hC
      · have h := h.2 (cg_cmp_ne.2 hc)
        refine ga_locals [1, 0, 6] rfl ?_
        exact h p l e s m args below meth c D cy ad hC
  · have h := h.2 (cg_cmp_eq.2 hc)
    refine ga_lload hC dX12_compare_39 1 rfl ?_
    refine ga_lload hC dX12_compare_41 0 rfl ?_
    refine ga_lcmp hC dX12_compare_43 ?_
    refine ga_if_ge (tgt := 53) hC dX12_compare_44 (by decide) (fun hc => ?_) (fun hc => ?_)
    · have h := h.1 (cg_cmp_ge.1 hc)
      refine ga_iload hC dX12_compare_53 6 rfl ?_
      exact ga_iret hC dX12_compare_55 ⟨_, rfl, h⟩
    · have h := h.2 (cg_cmp_ge.2 hc)
      refine ga_iload hC dX12_compare_47 6 rfl ?_
      refine ga_ineg hC dX12_compare_49 ?_
      refine ga_goto (tgt := 55) hC dX12_compare_50 (by decide) ?_
      exact ga_iret hC dX12_compare_55 ⟨_, rfl, h⟩
set_option maxRecDepth 100000 in
set_option maxHeartbeats 4000000 in
theorem v_X12_compare {v0 : Int64} {v2 : Int64} {v4 : Int64} {v6 : Int64} {σ : cg_S} {Q : Int32 → cg_S → Prop}
    (h : L_X12_compare_17 v0 v2 v4 v6 1 σ Q) : M_X12_compare v0 v2 v4 v6 σ Q := by
  refine cg_entry (lv := fun ad => [(0, .long v0), (2, .long v2), (4, .long v4), (6, .long v6)]) (by decide +kernel) (fun _ => rfl) (fun _ => Nat.le_of_ble_eq_true rfl) ?_
  intro p l e s m args below meth c D cy ad hC
  refine ga_lload_n hC dX12_compare_0 0 rfl rfl ?_
  refine ga_lstore (lv' := [(8, .long v0), (0, .long v0), (2, .long v2), (4, .long v4), (6, .long v6)]) hC dX12_compare_1 (by decide) rfl ?_
  refine ga_lload_n hC dX12_compare_3 2 rfl rfl ?_
  refine ga_lstore (lv' := [(10, .long v2), (8, .long v0), (0, .long v0), (2, .long v2), (4, .long v4), (6, .long v6)]) hC dX12_compare_4 (by decide) rfl ?_
  refine ga_lload hC dX12_compare_6 4 rfl ?_
  refine ga_lstore (lv' := [(12, .long v4), (10, .long v2), (8, .long v0), (0, .long v0), (2, .long v2), (4, .long v4), (6, .long v6)]) hC dX12_compare_8 (by decide) rfl ?_
  refine ga_lload hC dX12_compare_10 6 rfl ?_
  refine ga_lstore (lv' := [(14, .long v6), (12, .long v4), (10, .long v2), (8, .long v0), (0, .long v0), (2, .long v2), (4, .long v4), (6, .long v6)]) hC dX12_compare_12 (by decide) rfl ?_
  refine ga_iconst (v := 1) hC dX12_compare_14 (by decide) ?_
  refine ga_istore (lv' := [(16, .int 1), (14, .long v6), (12, .long v4), (10, .long v2), (8, .long v0), (0, .long v0), (2, .long v2), (4, .long v4), (6, .long v6)]) hC dX12_compare_15 (by decide) rfl ?_
  refine ga_locals [4, 3, 2, 1, 0] rfl ?_
  exact h p l e s m args below meth c D cy ad hC
def M_X12_at (v1 : Int32) (σ : cg_S) (Q : Int32 → cg_S → Prop) : Prop := cg_M cg_WM yX12_at cX12_at 2 (some .int) (cg_R 0) (fun ad => [.ref (ad 0), .int v1]) σ (cg_qi Q)
theorem M_X12_at.mono {v1 : Int32} {σ : cg_S} {Q Q2 : Int32 → cg_S → Prop} (h : M_X12_at v1 σ Q) (hq : ∀ r τ, Q r τ → Q2 r τ) : M_X12_at v1 σ Q2 := cg_M.mono h (fun ad v τ ⟨r, e, q⟩ => ⟨r, e, hq r τ q⟩)
set_option maxRecDepth 100000 in
set_option maxHeartbeats 4000000 in
theorem v_X12_at {v1 : Int32} {σ : cg_S} {Q : Int32 → cg_S → Prop}
    (h : vp_in v1 7 ∧ Q ((3 * v1) + (σ.1 5 v1.toNatClampNeg)) σ) : M_X12_at v1 σ Q := by
  refine cg_entry (lv := fun ad => [(0, .ref (ad 0)), (1, .int v1)]) (by decide +kernel) (fun _ => rfl) (fun _ => Nat.le_of_ble_eq_true rfl) ?_
  intro p l e s m args below meth c D cy ad hC
  refine ga_iconst (v := 3) hC dX12_at_0 (by decide) ?_
  refine ga_iload_n hC dX12_at_1 1 rfl rfl ?_
  refine ga_imul hC dX12_at_2 ?_
  refine ga_aload_n hC dX12_at_3 0 rfl rfl ?_
  refine gM_0_10 hC q_6_95 dX12_at_4 ?_
  refine ga_iload_n hC dX12_at_7 1 rfl rfl ?_
  obtain ⟨h1, h⟩ := h
  refine ga_iald hC aM_5 (by decide) h1 dX12_at_8 ?_
  refine ga_iadd hC dX12_at_9 ?_
  exact ga_iret hC dX12_at_10 ⟨_, rfl, h⟩
def M_X12_weightTo (v1 : Int32) (v2 : Int32) (σ : cg_S) (Q : Int32 → cg_S → Prop) : Prop := cg_M cg_WM yX12_weightTo cX12_weightTo 3 (some .int) (cg_R 1) (fun ad => [.ref (ad 0), .int v1, .int v2]) σ (cg_qi Q)
theorem M_X12_weightTo.mono {v1 : Int32} {v2 : Int32} {σ : cg_S} {Q Q2 : Int32 → cg_S → Prop} (h : M_X12_weightTo v1 v2 σ Q) (hq : ∀ r τ, Q r τ → Q2 r τ) : M_X12_weightTo v1 v2 σ Q2 := cg_M.mono h (fun ad v τ ⟨r, e, q⟩ => ⟨r, e, hq r τ q⟩)
set_option maxRecDepth 100000 in
set_option maxHeartbeats 4000000 in
theorem v_X12_weightTo {v1 : Int32} {v2 : Int32} {σ : cg_S} {Q : Int32 → cg_S → Prop}
    (h : M_X12_at v1 σ (fun r1 s2 => vp_in ((7 * r1) + v2) 147 ∧ Q (s2.1 10 ((7 * r1) + v2).toNatClampNeg) s2)) : M_X12_weightTo v1 v2 σ Q := by
  refine cg_entry (lv := fun ad => [(0, .ref (ad 0)), (1, .int v1), (2, .int v2)]) (by decide +kernel) (fun _ => rfl) (fun _ => Nat.le_of_ble_eq_true rfl) ?_
  intro p l e s m args below meth c D cy ad hC
  refine ga_aload_n hC dX12_weightTo_0 0 rfl rfl ?_
  refine gM_0_15 hC q_6_100 dX12_weightTo_1 ?_
  refine ga_bipush (v := 7) hC dX12_weightTo_4 (by decide) ?_
  refine ga_aload_n hC dX12_weightTo_6 0 rfl rfl ?_
  refine ga_iload_n hC dX12_weightTo_7 1 rfl rfl ?_
  refine ga_callV (As := [.int v1]) (st := [.int 7, .ref (ad 10)]) (k := 0) (n := 1) hC h q_7_93 q_7_95 q_0_26 q_1_13 q_7_96 rfl rfl rfl (by decide +kernel) ⟨Nat.le_of_ble_eq_true rfl, Nat.le_of_ble_eq_true rfl⟩ ⟨Nat.le_of_ble_eq_true rfl, Nat.le_of_ble_eq_true rfl⟩ rfl rfl rfl (by decide) rfl (Nat.le_of_ble_eq_true rfl) dX12_weightTo_8 (fun v τ hq => ?_)
  obtain ⟨r1, rfl, h⟩ := hq
  obtain ⟨s2, es2⟩ : ∃ z, z = τ := ⟨_, rfl⟩
  rw [← es2] at h ⊢
  clear es2
  refine ga_imul hC dX12_weightTo_11 ?_
  refine ga_iload_n hC dX12_weightTo_12 2 rfl rfl ?_
  refine ga_iadd hC dX12_weightTo_13 ?_
  obtain ⟨h4, h⟩ := h
  refine ga_iald hC aM_10 (by decide) h4 dX12_weightTo_14 ?_
  exact ga_iret hC dX12_weightTo_15 ⟨_, rfl, h⟩
def M_X12_reaches (σ : cg_S) (Q : cg_S → Prop) : Prop := cg_M cg_WM yX12_reaches cX12_reaches 4 none (cg_R 2) (fun ad => [.ref (ad 0)]) σ (cg_qv Q)
theorem M_X12_reaches.mono {σ : cg_S} {Q Q2 : cg_S → Prop} (h : M_X12_reaches σ Q) (hq : ∀ τ, Q τ → Q2 τ) : M_X12_reaches σ Q2 := cg_M.mono h (fun ad v τ ⟨e, q⟩ => ⟨e, hq τ q⟩)
def L_X12_reaches_2 (v1 : Int32) (σ : cg_S) (Q : cg_S → Prop) : Prop := cg_L cg_WM RX12 cX12_reaches 4 none (cg_R 2) 2 (fun ad => [(0, .ref (ad 0)), (1, .int v1)]) (fun ad => []) σ (cg_qv Q)
def L_X12_reaches_12 (v1 : Int32) (v2 : Int32) (σ : cg_S) (Q : cg_S → Prop) : Prop := cg_L cg_WM RX12 cX12_reaches 4 none (cg_R 2) 12 (fun ad => [(0, .ref (ad 0)), (1, .int v1), (2, .int v2)]) (fun ad => []) σ (cg_qv Q)
def L_X12_reaches_59 (v1 : Int32) (σ : cg_S) (Q : cg_S → Prop) : Prop := cg_L cg_WM RX12 cX12_reaches 4 none (cg_R 2) 59 (fun ad => [(0, .ref (ad 0)), (1, .int v1)]) (fun ad => []) σ (cg_qv Q)
def L_X12_reaches_69 (v1 : Int32) (v2 : Int32) (σ : cg_S) (Q : cg_S → Prop) : Prop := cg_L cg_WM RX12 cX12_reaches 4 none (cg_R 2) 69 (fun ad => [(0, .ref (ad 0)), (1, .int v1), (2, .int v2)]) (fun ad => []) σ (cg_qv Q)
def L_X12_reaches_79 (v1 : Int32) (v2 : Int32) (v3 : Int32) (σ : cg_S) (Q : cg_S → Prop) : Prop := cg_L cg_WM RX12 cX12_reaches 4 none (cg_R 2) 79 (fun ad => [(0, .ref (ad 0)), (1, .int v1), (2, .int v2), (3, .int v3)]) (fun ad => []) σ (cg_qv Q)
set_option maxRecDepth 100000 in
set_option maxHeartbeats 4000000 in
theorem v_X12_reaches_79 {v1 : Int32} {v2 : Int32} {v3 : Int32} {σ : cg_S} {Q : cg_S → Prop}
    (h : ((σ.1 0 1) ≤ v3 → L_X12_reaches_69 v1 (v2 + 1) σ Q) ∧ (¬ (σ.1 0 1) ≤ v3 → vp_in ((7 * v2) + v3) 49 ∧ (¬ (σ.1 20 ((7 * v2) + v3).toNatClampNeg) = 0 → vp_in ((7 * v2) + v3) 49 ∧ ∀ s3 : cg_S, s3 = cg_i σ 20 ((7 * v2) + v3).toNatClampNeg (vp_nar .boolean 1) → L_X12_reaches_79 v1 v2 (v3 + 1) s3 Q) ∧ ((σ.1 20 ((7 * v2) + v3).toNatClampNeg) = 0 → vp_in ((7 * v2) + v1) 49 ∧ ((σ.1 20 ((7 * v2) + v1).toNatClampNeg) = 0 → vp_in ((7 * v2) + v3) 49 ∧ ∀ s6 : cg_S, s6 = cg_i σ 20 ((7 * v2) + v3).toNatClampNeg (vp_nar .boolean 0) → L_X12_reaches_79 v1 v2 (v3 + 1) s6 Q) ∧ (¬ (σ.1 20 ((7 * v2) + v1).toNatClampNeg) = 0 → vp_in ((7 * v1) + v3) 49 ∧ ((σ.1 20 ((7 * v1) + v3).toNatClampNeg) = 0 → vp_in ((7 * v2) + v3) 49 ∧ ∀ s9 : cg_S, s9 = cg_i σ 20 ((7 * v2) + v3).toNatClampNeg (vp_nar .boolean 0) → L_X12_reaches_79 v1 v2 (v3 + 1) s9 Q) ∧ (¬ (σ.1 20 ((7 * v1) + v3).toNatClampNeg) = 0 → vp_in ((7 * v2) + v3) 49 ∧ ∀ s11 : cg_S, s11 = cg_i σ 20 ((7 * v2) + v3).toNatClampNeg (vp_nar .boolean 1) → L_X12_reaches_79 v1 v2 (v3 + 1) s11 Q))))) : L_X12_reaches_79 v1 v2 v3 σ Q := by
  intro p l e s m args below meth c D cy ad hC
  refine ga_iload_n hC dX12_reaches_79 3 rfl rfl ?_
  refine ga_aload_n hC dX12_reaches_80 0 rfl rfl ?_
  refine gM_0_1 hC q_6_86 dX12_reaches_81 ?_
  refine ga_icmp_ge (tgt := 151) hC dX12_reaches_84 (by decide) (fun hc => ?_) (fun hc => ?_)
  · have h := h.1 hc
    refine ga_iinc (v := v2 + 1) (lv' := [(2, .int (v2 + 1)), (0, .ref (ad 0)), (1, .int v1), (3, .int v3)]) hC dX12_reaches_151 2 rfl rfl (by decide) rfl ?_
    refine ga_goto (tgt := 69) hC dX12_reaches_154 (by decide) ?_
    refine ga_locals [1, 2, 0] rfl ?_
    exact h p l e s m args below meth c D cy ad hC
  · have h := h.2 hc
    refine ga_aload_n hC dX12_reaches_87 0 rfl rfl ?_
    refine gM_0_31 hC q_6_116 dX12_reaches_88 ?_
    refine ga_bipush (v := 7) hC dX12_reaches_91 (by decide) ?_
    refine ga_iload_n hC dX12_reaches_93 2 rfl rfl ?_
    refine ga_imul hC dX12_reaches_94 ?_
    refine ga_iload_n hC dX12_reaches_95 3 rfl rfl ?_
    refine ga_iadd hC dX12_reaches_96 ?_
    refine ga_aload_n hC dX12_reaches_97 0 rfl rfl ?_
    refine gM_0_31 hC q_6_116 dX12_reaches_98 ?_
    refine ga_bipush (v := 7) hC dX12_reaches_101 (by decide) ?_
    refine ga_iload_n hC dX12_reaches_103 2 rfl rfl ?_
    refine ga_imul hC dX12_reaches_104 ?_
    refine ga_iload_n hC dX12_reaches_105 3 rfl rfl ?_
    refine ga_iadd hC dX12_reaches_106 ?_
    obtain ⟨h1, h⟩ := h
    refine ga_zald hC aM_20 (by decide) h1 dX12_reaches_107 ?_
    refine ga_if_ne (tgt := 139) hC dX12_reaches_108 (by decide) (fun hc => ?_) (fun hc => ?_)
    · have h := h.1 hc
      refine ga_iconst (v := 1) hC dX12_reaches_139 (by decide) ?_
      refine ga_goto (tgt := 144) hC dX12_reaches_140 (by decide) ?_
      obtain ⟨h2, h⟩ := h
      refine ga_zast hC aM_20 (by decide) h2 dX12_reaches_144 ?_
      refine ga_sig (σ := cg_i σ 20 ((7 * v2) + v3).toNatClampNeg (vp_nar .boolean 1)) (fun s3 es3 => ?_)
      have h := h s3 es3
      refine ga_iinc (v := v3 + 1) (lv' := [(3, .int (v3 + 1)), (0, .ref (ad 0)), (1, .int v1), (2, .int v2)]) hC dX12_reaches_145 3 rfl rfl (by decide) rfl ?_
      refine ga_goto (tgt := 79) hC dX12_reaches_148 (by decide) ?_
      refine ga_locals [1, 2, 3, 0] rfl ?_
      exact h p l e s m args below meth c D cy ad hC
    · have h := h.2 hc
      refine ga_aload_n hC dX12_reaches_111 0 rfl rfl ?_
      refine gM_0_31 hC q_6_116 dX12_reaches_112 ?_
      refine ga_bipush (v := 7) hC dX12_reaches_115 (by decide) ?_
      refine ga_iload_n hC dX12_reaches_117 2 rfl rfl ?_
      refine ga_imul hC dX12_reaches_118 ?_
      refine ga_iload_n hC dX12_reaches_119 1 rfl rfl ?_
      refine ga_iadd hC dX12_reaches_120 ?_
      obtain ⟨h4, h⟩ := h
      refine ga_zald hC aM_20 (by decide) h4 dX12_reaches_121 ?_
      refine ga_if_eq (tgt := 143) hC dX12_reaches_122 (by decide) (fun hc => ?_) (fun hc => ?_)
      · have h := h.1 hc
        refine ga_iconst (v := 0) hC dX12_reaches_143 (by decide) ?_
        obtain ⟨h5, h⟩ := h
        refine ga_zast hC aM_20 (by decide) h5 dX12_reaches_144 ?_
        refine ga_sig (σ := cg_i σ 20 ((7 * v2) + v3).toNatClampNeg (vp_nar .boolean 0)) (fun s6 es6 => ?_)
        have h := h s6 es6
        refine ga_iinc (v := v3 + 1) (lv' := [(3, .int (v3 + 1)), (0, .ref (ad 0)), (1, .int v1), (2, .int v2)]) hC dX12_reaches_145 3 rfl rfl (by decide) rfl ?_
        refine ga_goto (tgt := 79) hC dX12_reaches_148 (by decide) ?_
        refine ga_locals [1, 2, 3, 0] rfl ?_
        exact h p l e s m args below meth c D cy ad hC
      · have h := h.2 hc
        refine ga_aload_n hC dX12_reaches_125 0 rfl rfl ?_
        refine gM_0_31 hC q_6_116 dX12_reaches_126 ?_
        refine ga_bipush (v := 7) hC dX12_reaches_129 (by decide) ?_
        refine ga_iload_n hC dX12_reaches_131 1 rfl rfl ?_
        refine ga_imul hC dX12_reaches_132 ?_
        refine ga_iload_n hC dX12_reaches_133 3 rfl rfl ?_
        refine ga_iadd hC dX12_reaches_134 ?_
        obtain ⟨h7, h⟩ := h
        refine ga_zald hC aM_20 (by decide) h7 dX12_reaches_135 ?_
        refine ga_if_eq (tgt := 143) hC dX12_reaches_136 (by decide) (fun hc => ?_) (fun hc => ?_)
        · have h := h.1 hc
          refine ga_iconst (v := 0) hC dX12_reaches_143 (by decide) ?_
          obtain ⟨h8, h⟩ := h
          refine ga_zast hC aM_20 (by decide) h8 dX12_reaches_144 ?_
          refine ga_sig (σ := cg_i σ 20 ((7 * v2) + v3).toNatClampNeg (vp_nar .boolean 0)) (fun s9 es9 => ?_)
          have h := h s9 es9
          refine ga_iinc (v := v3 + 1) (lv' := [(3, .int (v3 + 1)), (0, .ref (ad 0)), (1, .int v1), (2, .int v2)]) hC dX12_reaches_145 3 rfl rfl (by decide) rfl ?_
          refine ga_goto (tgt := 79) hC dX12_reaches_148 (by decide) ?_
          refine ga_locals [1, 2, 3, 0] rfl ?_
          exact h p l e s m args below meth c D cy ad hC
        · have h := h.2 hc
          refine ga_iconst (v := 1) hC dX12_reaches_139 (by decide) ?_
          refine ga_goto (tgt := 144) hC dX12_reaches_140 (by decide) ?_
          obtain ⟨h10, h⟩ := h
          refine ga_zast hC aM_20 (by decide) h10 dX12_reaches_144 ?_
          refine ga_sig (σ := cg_i σ 20 ((7 * v2) + v3).toNatClampNeg (vp_nar .boolean 1)) (fun s11 es11 => ?_)
          have h := h s11 es11
          refine ga_iinc (v := v3 + 1) (lv' := [(3, .int (v3 + 1)), (0, .ref (ad 0)), (1, .int v1), (2, .int v2)]) hC dX12_reaches_145 3 rfl rfl (by decide) rfl ?_
          refine ga_goto (tgt := 79) hC dX12_reaches_148 (by decide) ?_
          refine ga_locals [1, 2, 3, 0] rfl ?_
          exact h p l e s m args below meth c D cy ad hC
set_option maxRecDepth 100000 in
set_option maxHeartbeats 4000000 in
theorem v_X12_reaches_69 {v1 : Int32} {v2 : Int32} {σ : cg_S} {Q : cg_S → Prop}
    (h : ((σ.1 0 1) ≤ v2 → L_X12_reaches_59 (v1 + 1) σ Q) ∧ (¬ (σ.1 0 1) ≤ v2 → L_X12_reaches_79 v1 v2 0 σ Q)) : L_X12_reaches_69 v1 v2 σ Q := by
  intro p l e s m args below meth c D cy ad hC
  refine ga_iload_n hC dX12_reaches_69 2 rfl rfl ?_
  refine ga_aload_n hC dX12_reaches_70 0 rfl rfl ?_
  refine gM_0_1 hC q_6_86 dX12_reaches_71 ?_
  refine ga_icmp_ge (tgt := 157) hC dX12_reaches_74 (by decide) (fun hc => ?_) (fun hc => ?_)
  · have h := h.1 hc
    refine ga_iinc (v := v1 + 1) (lv' := [(1, .int (v1 + 1)), (0, .ref (ad 0)), (2, .int v2)]) hC dX12_reaches_157 1 rfl rfl (by decide) rfl ?_
    refine ga_goto (tgt := 59) hC dX12_reaches_160 (by decide) ?_
    refine ga_locals [1, 0] rfl ?_
    exact h p l e s m args below meth c D cy ad hC
  · have h := h.2 hc
    refine ga_iconst (v := 0) hC dX12_reaches_77 (by decide) ?_
    refine ga_istore_n (lv' := [(3, .int 0), (0, .ref (ad 0)), (1, .int v1), (2, .int v2)]) hC dX12_reaches_78 rfl (by decide) rfl ?_
    refine ga_locals [1, 2, 3, 0] rfl ?_
    exact h p l e s m args below meth c D cy ad hC
set_option maxRecDepth 100000 in
set_option maxHeartbeats 4000000 in
theorem v_X12_reaches_59 {v1 : Int32} {σ : cg_S} {Q : cg_S → Prop}
    (h : ((σ.1 0 1) ≤ v1 → Q σ) ∧ (¬ (σ.1 0 1) ≤ v1 → L_X12_reaches_69 v1 0 σ Q)) : L_X12_reaches_59 v1 σ Q := by
  intro p l e s m args below meth c D cy ad hC
  refine ga_iload_n hC dX12_reaches_59 1 rfl rfl ?_
  refine ga_aload_n hC dX12_reaches_60 0 rfl rfl ?_
  refine gM_0_1 hC q_6_86 dX12_reaches_61 ?_
  refine ga_icmp_ge (tgt := 163) hC dX12_reaches_64 (by decide) (fun hc => ?_) (fun hc => ?_)
  · have h := h.1 hc
    exact ga_vret hC dX12_reaches_163 ⟨rfl, h⟩
  · have h := h.2 hc
    refine ga_iconst (v := 0) hC dX12_reaches_67 (by decide) ?_
    refine ga_istore_n (lv' := [(2, .int 0), (0, .ref (ad 0)), (1, .int v1)]) hC dX12_reaches_68 rfl (by decide) rfl ?_
    refine ga_locals [1, 2, 0] rfl ?_
    exact h p l e s m args below meth c D cy ad hC
set_option maxRecDepth 100000 in
set_option maxHeartbeats 4000000 in
theorem v_X12_reaches_12 {v1 : Int32} {v2 : Int32} {σ : cg_S} {Q : cg_S → Prop}
    (h : ((σ.1 0 1) ≤ v2 → L_X12_reaches_2 (v1 + 1) σ Q) ∧ (¬ (σ.1 0 1) ≤ v2 → M_X12_weightTo v1 v2 σ (fun r1 s2 => (r1 ≤ 0 → vp_in ((7 * v1) + v2) 49 ∧ ∀ s5 : cg_S, s5 = cg_i s2 20 ((7 * v1) + v2).toNatClampNeg (vp_nar .boolean 0) → L_X12_reaches_12 v1 (v2 + 1) s5 Q) ∧ (¬ r1 ≤ 0 → vp_in ((7 * v1) + v2) 49 ∧ ∀ s7 : cg_S, s7 = cg_i s2 20 ((7 * v1) + v2).toNatClampNeg (vp_nar .boolean 1) → L_X12_reaches_12 v1 (v2 + 1) s7 Q)))) : L_X12_reaches_12 v1 v2 σ Q := by
  intro p l e s m args below meth c D cy ad hC
  refine ga_iload_n hC dX12_reaches_12 2 rfl rfl ?_
  refine ga_aload_n hC dX12_reaches_13 0 rfl rfl ?_
  refine gM_0_1 hC q_6_86 dX12_reaches_14 ?_
  refine ga_icmp_ge (tgt := 51) hC dX12_reaches_17 (by decide) (fun hc => ?_) (fun hc => ?_)
  · have h := h.1 hc
    refine ga_iinc (v := v1 + 1) (lv' := [(1, .int (v1 + 1)), (0, .ref (ad 0)), (2, .int v2)]) hC dX12_reaches_51 1 rfl rfl (by decide) rfl ?_
    refine ga_goto (tgt := 2) hC dX12_reaches_54 (by decide) ?_
    refine ga_locals [1, 0] rfl ?_
    exact h p l e s m args below meth c D cy ad hC
  · have h := h.2 hc
    refine ga_aload_n hC dX12_reaches_20 0 rfl rfl ?_
    refine gM_0_31 hC q_6_116 dX12_reaches_21 ?_
    refine ga_bipush (v := 7) hC dX12_reaches_24 (by decide) ?_
    refine ga_iload_n hC dX12_reaches_26 1 rfl rfl ?_
    refine ga_imul hC dX12_reaches_27 ?_
    refine ga_iload_n hC dX12_reaches_28 2 rfl rfl ?_
    refine ga_iadd hC dX12_reaches_29 ?_
    refine ga_aload_n hC dX12_reaches_30 0 rfl rfl ?_
    refine ga_iload_n hC dX12_reaches_31 1 rfl rfl ?_
    refine ga_iload_n hC dX12_reaches_32 2 rfl rfl ?_
    refine ga_callV (As := [.int v1, .int v2]) (st := [.int ((7 * v1) + v2), .ref (ad 20)]) (k := 0) (n := 2) hC h q_7_89 q_7_91 q_0_25 q_1_13 q_7_92 rfl rfl rfl (by decide +kernel) ⟨Nat.le_of_ble_eq_true rfl, Nat.le_of_ble_eq_true rfl⟩ ⟨Nat.le_of_ble_eq_true rfl, Nat.le_of_ble_eq_true rfl⟩ rfl rfl rfl (by decide) rfl (Nat.le_of_ble_eq_true rfl) dX12_reaches_33 (fun v τ hq => ?_)
    obtain ⟨r1, rfl, h⟩ := hq
    obtain ⟨s2, es2⟩ : ∃ z, z = τ := ⟨_, rfl⟩
    rw [← es2] at h ⊢
    clear es2
    refine ga_if_le (tgt := 43) hC dX12_reaches_36 (by decide) (fun hc => ?_) (fun hc => ?_)
    · have h := h.1 hc
      refine ga_iconst (v := 0) hC dX12_reaches_43 (by decide) ?_
      obtain ⟨h4, h⟩ := h
      refine ga_zast hC aM_20 (by decide) h4 dX12_reaches_44 ?_
      refine ga_sig (σ := cg_i s2 20 ((7 * v1) + v2).toNatClampNeg (vp_nar .boolean 0)) (fun s5 es5 => ?_)
      have h := h s5 es5
      refine ga_iinc (v := v2 + 1) (lv' := [(2, .int (v2 + 1)), (0, .ref (ad 0)), (1, .int v1)]) hC dX12_reaches_45 2 rfl rfl (by decide) rfl ?_
      refine ga_goto (tgt := 12) hC dX12_reaches_48 (by decide) ?_
      refine ga_locals [1, 2, 0] rfl ?_
      exact h p l e s m args below meth c D cy ad hC
    · have h := h.2 hc
      refine ga_iconst (v := 1) hC dX12_reaches_39 (by decide) ?_
      refine ga_goto (tgt := 44) hC dX12_reaches_40 (by decide) ?_
      obtain ⟨h6, h⟩ := h
      refine ga_zast hC aM_20 (by decide) h6 dX12_reaches_44 ?_
      refine ga_sig (σ := cg_i s2 20 ((7 * v1) + v2).toNatClampNeg (vp_nar .boolean 1)) (fun s7 es7 => ?_)
      have h := h s7 es7
      refine ga_iinc (v := v2 + 1) (lv' := [(2, .int (v2 + 1)), (0, .ref (ad 0)), (1, .int v1)]) hC dX12_reaches_45 2 rfl rfl (by decide) rfl ?_
      refine ga_goto (tgt := 12) hC dX12_reaches_48 (by decide) ?_
      refine ga_locals [1, 2, 0] rfl ?_
      exact h p l e s m args below meth c D cy ad hC
set_option maxRecDepth 100000 in
set_option maxHeartbeats 4000000 in
theorem v_X12_reaches_2 {v1 : Int32} {σ : cg_S} {Q : cg_S → Prop}
    (h : ((σ.1 0 1) ≤ v1 → L_X12_reaches_59 0 σ Q) ∧ (¬ (σ.1 0 1) ≤ v1 → L_X12_reaches_12 v1 0 σ Q)) : L_X12_reaches_2 v1 σ Q := by
  intro p l e s m args below meth c D cy ad hC
  refine ga_iload_n hC dX12_reaches_2 1 rfl rfl ?_
  refine ga_aload_n hC dX12_reaches_3 0 rfl rfl ?_
  refine gM_0_1 hC q_6_86 dX12_reaches_4 ?_
  refine ga_icmp_ge (tgt := 57) hC dX12_reaches_7 (by decide) (fun hc => ?_) (fun hc => ?_)
  · have h := h.1 hc
    refine ga_iconst (v := 0) hC dX12_reaches_57 (by decide) ?_
    refine ga_istore_n (lv' := [(1, .int 0), (0, .ref (ad 0))]) hC dX12_reaches_58 rfl (by decide) rfl ?_
    refine ga_locals [1, 0] rfl ?_
    exact h p l e s m args below meth c D cy ad hC
  · have h := h.2 hc
    refine ga_iconst (v := 0) hC dX12_reaches_10 (by decide) ?_
    refine ga_istore_n (lv' := [(2, .int 0), (0, .ref (ad 0)), (1, .int v1)]) hC dX12_reaches_11 rfl (by decide) rfl ?_
    refine ga_locals [1, 2, 0] rfl ?_
    exact h p l e s m args below meth c D cy ad hC
set_option maxRecDepth 100000 in
set_option maxHeartbeats 4000000 in
theorem v_X12_reaches {σ : cg_S} {Q : cg_S → Prop}
    (h : L_X12_reaches_2 0 σ Q) : M_X12_reaches σ Q := by
  refine cg_entry (lv := fun ad => [(0, .ref (ad 0))]) (by decide +kernel) (fun _ => rfl) (fun _ => Nat.le_of_ble_eq_true rfl) ?_
  intro p l e s m args below meth c D cy ad hC
  refine ga_iconst (v := 0) hC dX12_reaches_0 (by decide) ?_
  refine ga_istore_n (lv' := [(1, .int 0), (0, .ref (ad 0))]) hC dX12_reaches_1 rfl (by decide) rfl ?_
  refine ga_locals [1, 0] rfl ?_
  exact h p l e s m args below meth c D cy ad hC
def M_X12_laysNumber (v1 : Int32) (v2 : Int64) (σ : cg_S) (Q : cg_S → Prop) : Prop := cg_M cg_WM yX12_laysNumber cX12_laysNumber 5 none (cg_R 0) (fun ad => [.ref (ad 0), .int v1, .long v2]) σ (cg_qv Q)
theorem M_X12_laysNumber.mono {v1 : Int32} {v2 : Int64} {σ : cg_S} {Q Q2 : cg_S → Prop} (h : M_X12_laysNumber v1 v2 σ Q) (hq : ∀ τ, Q τ → Q2 τ) : M_X12_laysNumber v1 v2 σ Q2 := cg_M.mono h (fun ad v τ ⟨e, q⟩ => ⟨e, hq τ q⟩)
def L_X12_laysNumber_3 (v1 : Int32) (v2 : Int64) (v4 : Int32) (σ : cg_S) (Q : cg_S → Prop) : Prop := cg_L cg_WM RX12 cX12_laysNumber 5 none (cg_R 0) 3 (fun ad => [(0, .ref (ad 0)), (1, .int v1), (2, .long v2), (4, .int v4)]) (fun ad => []) σ (cg_qv Q)
set_option maxRecDepth 100000 in
set_option maxHeartbeats 4000000 in
theorem v_X12_laysNumber_3 {v1 : Int32} {v2 : Int64} {v4 : Int32} {σ : cg_S} {Q : cg_S → Prop}
    (h : (8 ≤ v4 → vp_in ((8 * v1) + v1) 56 ∧ ∀ s2 : cg_S, s2 = cg_l σ 21 ((8 * v1) + v1).toNatClampNeg 1 → vp_in ((8 * v1) + 7) 56 ∧ ∀ s4 : cg_S, s4 = cg_l s2 21 ((8 * v1) + 7).toNatClampNeg v2 → Q s4) ∧ (¬ 8 ≤ v4 → vp_in ((8 * v1) + v4) 56 ∧ ∀ s6 : cg_S, s6 = cg_l σ 21 ((8 * v1) + v4).toNatClampNeg 0 → L_X12_laysNumber_3 v1 v2 (v4 + 1) s6 Q)) : L_X12_laysNumber_3 v1 v2 v4 σ Q := by
  intro p l e s m args below meth c D cy ad hC
  refine ga_iload hC dX12_laysNumber_3 3 rfl ?_
  refine ga_bipush (v := 8) hC dX12_laysNumber_5 (by decide) ?_
  refine ga_icmp_ge (tgt := 29) hC dX12_laysNumber_7 (by decide) (fun hc => ?_) (fun hc => ?_)
  · have h := h.1 hc
    refine ga_aload_n hC dX12_laysNumber_29 0 rfl rfl ?_
    refine gM_0_21 hC q_6_106 dX12_laysNumber_30 ?_
    refine ga_bipush (v := 8) hC dX12_laysNumber_33 (by decide) ?_
    refine ga_iload_n hC dX12_laysNumber_35 1 rfl rfl ?_
    refine ga_imul hC dX12_laysNumber_36 ?_
    refine ga_iload_n hC dX12_laysNumber_37 1 rfl rfl ?_
    refine ga_iadd hC dX12_laysNumber_38 ?_
    refine ga_lconst (v := 1) hC dX12_laysNumber_39 (by decide) ?_
    obtain ⟨h1, h⟩ := h
    refine ga_last hC aM_21 (by decide) h1 dX12_laysNumber_40 ?_
    refine ga_sig (σ := cg_l σ 21 ((8 * v1) + v1).toNatClampNeg 1) (fun s2 es2 => ?_)
    have h := h s2 es2
    refine ga_aload_n hC dX12_laysNumber_41 0 rfl rfl ?_
    refine gM_0_21 hC q_6_106 dX12_laysNumber_42 ?_
    refine ga_bipush (v := 8) hC dX12_laysNumber_45 (by decide) ?_
    refine ga_iload_n hC dX12_laysNumber_47 1 rfl rfl ?_
    refine ga_imul hC dX12_laysNumber_48 ?_
    refine ga_bipush (v := 7) hC dX12_laysNumber_49 (by decide) ?_
    refine ga_iadd hC dX12_laysNumber_51 ?_
    refine ga_lload_n hC dX12_laysNumber_52 2 rfl rfl ?_
    obtain ⟨h3, h⟩ := h
    refine ga_last hC aM_21 (by decide) h3 dX12_laysNumber_53 ?_
    refine ga_sig (σ := cg_l s2 21 ((8 * v1) + 7).toNatClampNeg v2) (fun s4 es4 => ?_)
    have h := h s4 es4
    exact ga_vret hC dX12_laysNumber_54 ⟨rfl, h⟩
  · have h := h.2 hc
    refine ga_aload_n hC dX12_laysNumber_10 0 rfl rfl ?_
    refine gM_0_21 hC q_6_106 dX12_laysNumber_11 ?_
    refine ga_bipush (v := 8) hC dX12_laysNumber_14 (by decide) ?_
    refine ga_iload_n hC dX12_laysNumber_16 1 rfl rfl ?_
    refine ga_imul hC dX12_laysNumber_17 ?_
    refine ga_iload hC dX12_laysNumber_18 3 rfl ?_
    refine ga_iadd hC dX12_laysNumber_20 ?_
    refine ga_lconst (v := 0) hC dX12_laysNumber_21 (by decide) ?_
    obtain ⟨h5, h⟩ := h
    refine ga_last hC aM_21 (by decide) h5 dX12_laysNumber_22 ?_
    refine ga_sig (σ := cg_l σ 21 ((8 * v1) + v4).toNatClampNeg 0) (fun s6 es6 => ?_)
    have h := h s6 es6
    refine ga_iinc (v := v4 + 1) (lv' := [(4, .int (v4 + 1)), (0, .ref (ad 0)), (1, .int v1), (2, .long v2)]) hC dX12_laysNumber_23 3 rfl rfl (by decide) rfl ?_
    refine ga_goto (tgt := 3) hC dX12_laysNumber_26 (by decide) ?_
    refine ga_locals [1, 2, 3, 0] rfl ?_
    exact h p l e s m args below meth c D cy ad hC
set_option maxRecDepth 100000 in
set_option maxHeartbeats 4000000 in
theorem v_X12_laysNumber {v1 : Int32} {v2 : Int64} {σ : cg_S} {Q : cg_S → Prop}
    (h : L_X12_laysNumber_3 v1 v2 0 σ Q) : M_X12_laysNumber v1 v2 σ Q := by
  refine cg_entry (lv := fun ad => [(0, .ref (ad 0)), (1, .int v1), (2, .long v2)]) (by decide +kernel) (fun _ => rfl) (fun _ => Nat.le_of_ble_eq_true rfl) ?_
  intro p l e s m args below meth c D cy ad hC
  refine ga_iconst (v := 0) hC dX12_laysNumber_0 (by decide) ?_
  refine ga_istore (lv' := [(4, .int 0), (0, .ref (ad 0)), (1, .int v1), (2, .long v2)]) hC dX12_laysNumber_1 (by decide) rfl ?_
  refine ga_locals [1, 2, 3, 0] rfl ?_
  exact h p l e s m args below meth c D cy ad hC
def M_X12_laysStep (v1 : Int32) (v2 : Int64) (v4 : Int32) (v5 : Int32) (σ : cg_S) (Q : cg_S → Prop) : Prop := cg_M cg_WM yX12_laysStep cX12_laysStep 7 none (cg_R 2) (fun ad => [.ref (ad 0), .int v1, .long v2, .int v4, .int v5]) σ (cg_qv Q)
theorem M_X12_laysStep.mono {v1 : Int32} {v2 : Int64} {v4 : Int32} {v5 : Int32} {σ : cg_S} {Q Q2 : cg_S → Prop} (h : M_X12_laysStep v1 v2 v4 v5 σ Q) (hq : ∀ τ, Q τ → Q2 τ) : M_X12_laysStep v1 v2 v4 v5 σ Q2 := cg_M.mono h (fun ad v τ ⟨e, q⟩ => ⟨e, hq τ q⟩)
def L_X12_laysStep_3 (v1 : Int32) (v2 : Int64) (v4 : Int32) (v5 : Int32) (v6 : Int32) (σ : cg_S) (Q : cg_S → Prop) : Prop := cg_L cg_WM RX12 cX12_laysStep 7 none (cg_R 2) 3 (fun ad => [(0, .ref (ad 0)), (1, .int v1), (2, .long v2), (4, .int v4), (5, .int v5), (6, .int v6)]) (fun ad => []) σ (cg_qv Q)
set_option maxRecDepth 100000 in
set_option maxHeartbeats 4000000 in
theorem v_X12_laysStep_3 {v1 : Int32} {v2 : Int64} {v4 : Int32} {v5 : Int32} {v6 : Int32} {σ : cg_S} {Q : cg_S → Prop}
    (h : (7 ≤ v6 → vp_in ((8 * v1) + v1) 56 ∧ M_X12_at v1 σ (fun r2 s3 => vp_in r2 21 ∧ vp_in ((8 * v1) + v1) 56 ∧ ∀ s7 : cg_S, s7 = cg_l s3 21 ((8 * v1) + v1).toNatClampNeg ((σ.2.1 21 ((8 * v1) + v1).toNatClampNeg) + ((v5 * (s3.1 9 r2.toNatClampNeg)).toInt64)) → M_X12_at v1 s7 (fun r8 s9 => vp_in r8 21 ∧ vp_in ((8 * v1) + 7) 56 ∧ ∀ s13 : cg_S, s13 = cg_l s9 21 ((8 * v1) + 7).toNatClampNeg (((v5 * (s9.1 9 r8.toNatClampNeg)).toInt64) * v2) → Q s13))) ∧ (¬ 7 ≤ v6 → ((σ.1 0 1) ≤ v6 → vp_in ((8 * v1) + v6) 56 ∧ ∀ s15 : cg_S, s15 = cg_l σ 21 ((8 * v1) + v6).toNatClampNeg 0 → L_X12_laysStep_3 v1 v2 v4 v5 (v6 + 1) s15 Q) ∧ (¬ (σ.1 0 1) ≤ v6 → M_X12_weightTo v1 v6 σ (fun r16 s17 => vp_in ((8 * v1) + v6) 56 ∧ ∀ s20 : cg_S, s20 = cg_l s17 21 ((8 * v1) + v6).toNatClampNeg (((-v4) * r16).toInt64) → L_X12_laysStep_3 v1 v2 v4 v5 (v6 + 1) s20 Q)))) : L_X12_laysStep_3 v1 v2 v4 v5 v6 σ Q := by
  intro p l e s m args below meth c D cy ad hC
  refine ga_iload hC dX12_laysStep_3 5 rfl ?_
  refine ga_bipush (v := 7) hC dX12_laysStep_5 (by decide) ?_
  refine ga_icmp_ge (tgt := 53) hC dX12_laysStep_7 (by decide) (fun hc => ?_) (fun hc => ?_)
  · have h := h.1 hc
    refine ga_aload_n hC dX12_laysStep_53 0 rfl rfl ?_
    refine gM_0_21 hC q_6_106 dX12_laysStep_54 ?_
    refine ga_bipush (v := 8) hC dX12_laysStep_57 (by decide) ?_
    refine ga_iload_n hC dX12_laysStep_59 1 rfl rfl ?_
    refine ga_imul hC dX12_laysStep_60 ?_
    refine ga_iload_n hC dX12_laysStep_61 1 rfl rfl ?_
    refine ga_iadd hC dX12_laysStep_62 ?_
    refine ga_dup2_11 hC dX12_laysStep_63 rfl rfl ?_
    obtain ⟨h1, h⟩ := h
    refine ga_lald hC aM_21 (by decide) h1 dX12_laysStep_64 ?_
    refine ga_iload hC dX12_laysStep_65 4 rfl ?_
    refine ga_aload_n hC dX12_laysStep_67 0 rfl rfl ?_
    refine gM_0_14 hC q_6_99 dX12_laysStep_68 ?_
    refine ga_aload_n hC dX12_laysStep_71 0 rfl rfl ?_
    refine ga_iload_n hC dX12_laysStep_72 1 rfl rfl ?_
    refine ga_callV (As := [.int v1]) (st := [.ref (ad 9), .int v5, .long (σ.2.1 21 ((8 * v1) + v1).toNatClampNeg), .int ((8 * v1) + v1), .ref (ad 21)]) (k := 0) (n := 1) hC h q_7_93 q_7_95 q_0_26 q_1_13 q_7_96 rfl rfl rfl (by decide +kernel) ⟨Nat.le_of_ble_eq_true rfl, Nat.le_of_ble_eq_true rfl⟩ ⟨Nat.le_of_ble_eq_true rfl, Nat.le_of_ble_eq_true rfl⟩ rfl rfl rfl (by decide) rfl (Nat.le_of_ble_eq_true rfl) dX12_laysStep_73 (fun v τ hq => ?_)
    obtain ⟨r2, rfl, h⟩ := hq
    obtain ⟨s3, es3⟩ : ∃ z, z = τ := ⟨_, rfl⟩
    rw [← es3] at h ⊢
    clear es3
    obtain ⟨h5, h⟩ := h
    refine ga_iald hC aM_9 (by decide) h5 dX12_laysStep_76 ?_
    refine ga_imul hC dX12_laysStep_77 ?_
    refine ga_i2l hC dX12_laysStep_78 ?_
    refine ga_ladd hC dX12_laysStep_79 ?_
    obtain ⟨h6, h⟩ := h
    refine ga_last hC aM_21 (by decide) h6 dX12_laysStep_80 ?_
    refine ga_sig (σ := cg_l s3 21 ((8 * v1) + v1).toNatClampNeg ((σ.2.1 21 ((8 * v1) + v1).toNatClampNeg) + ((v5 * (s3.1 9 r2.toNatClampNeg)).toInt64))) (fun s7 es7 => ?_)
    have h := h s7 es7
    refine ga_aload_n hC dX12_laysStep_81 0 rfl rfl ?_
    refine gM_0_21 hC q_6_106 dX12_laysStep_82 ?_
    refine ga_bipush (v := 8) hC dX12_laysStep_85 (by decide) ?_
    refine ga_iload_n hC dX12_laysStep_87 1 rfl rfl ?_
    refine ga_imul hC dX12_laysStep_88 ?_
    refine ga_bipush (v := 7) hC dX12_laysStep_89 (by decide) ?_
    refine ga_iadd hC dX12_laysStep_91 ?_
    refine ga_iload hC dX12_laysStep_92 4 rfl ?_
    refine ga_aload_n hC dX12_laysStep_94 0 rfl rfl ?_
    refine gM_0_14 hC q_6_99 dX12_laysStep_95 ?_
    refine ga_aload_n hC dX12_laysStep_98 0 rfl rfl ?_
    refine ga_iload_n hC dX12_laysStep_99 1 rfl rfl ?_
    refine ga_callV (As := [.int v1]) (st := [.ref (ad 9), .int v5, .int ((8 * v1) + 7), .ref (ad 21)]) (k := 0) (n := 1) hC h q_7_93 q_7_95 q_0_26 q_1_13 q_7_96 rfl rfl rfl (by decide +kernel) ⟨Nat.le_of_ble_eq_true rfl, Nat.le_of_ble_eq_true rfl⟩ ⟨Nat.le_of_ble_eq_true rfl, Nat.le_of_ble_eq_true rfl⟩ rfl rfl rfl (by decide) rfl (Nat.le_of_ble_eq_true rfl) dX12_laysStep_100 (fun v τ hq => ?_)
    obtain ⟨r8, rfl, h⟩ := hq
    obtain ⟨s9, es9⟩ : ∃ z, z = τ := ⟨_, rfl⟩
    rw [← es9] at h ⊢
    clear es9
    obtain ⟨h11, h⟩ := h
    refine ga_iald hC aM_9 (by decide) h11 dX12_laysStep_103 ?_
    refine ga_imul hC dX12_laysStep_104 ?_
    refine ga_i2l hC dX12_laysStep_105 ?_
    refine ga_lload_n hC dX12_laysStep_106 2 rfl rfl ?_
    refine ga_lmul hC dX12_laysStep_107 ?_
    obtain ⟨h12, h⟩ := h
    refine ga_last hC aM_21 (by decide) h12 dX12_laysStep_108 ?_
    refine ga_sig (σ := cg_l s9 21 ((8 * v1) + 7).toNatClampNeg (((v5 * (s9.1 9 r8.toNatClampNeg)).toInt64) * v2)) (fun s13 es13 => ?_)
    have h := h s13 es13
    exact ga_vret hC dX12_laysStep_109 ⟨rfl, h⟩
  · have h := h.2 hc
    refine ga_aload_n hC dX12_laysStep_10 0 rfl rfl ?_
    refine gM_0_21 hC q_6_106 dX12_laysStep_11 ?_
    refine ga_bipush (v := 8) hC dX12_laysStep_14 (by decide) ?_
    refine ga_iload_n hC dX12_laysStep_16 1 rfl rfl ?_
    refine ga_imul hC dX12_laysStep_17 ?_
    refine ga_iload hC dX12_laysStep_18 5 rfl ?_
    refine ga_iadd hC dX12_laysStep_20 ?_
    refine ga_iload hC dX12_laysStep_21 5 rfl ?_
    refine ga_aload_n hC dX12_laysStep_23 0 rfl rfl ?_
    refine gM_0_1 hC q_6_86 dX12_laysStep_24 ?_
    refine ga_icmp_ge (tgt := 45) hC dX12_laysStep_27 (by decide) (fun hc => ?_) (fun hc => ?_)
    · have h := h.1 hc
      refine ga_lconst (v := 0) hC dX12_laysStep_45 (by decide) ?_
      obtain ⟨h14, h⟩ := h
      refine ga_last hC aM_21 (by decide) h14 dX12_laysStep_46 ?_
      refine ga_sig (σ := cg_l σ 21 ((8 * v1) + v6).toNatClampNeg 0) (fun s15 es15 => ?_)
      have h := h s15 es15
      refine ga_iinc (v := v6 + 1) (lv' := [(6, .int (v6 + 1)), (0, .ref (ad 0)), (1, .int v1), (2, .long v2), (4, .int v4), (5, .int v5)]) hC dX12_laysStep_47 5 rfl rfl (by decide) rfl ?_
      refine ga_goto (tgt := 3) hC dX12_laysStep_50 (by decide) ?_
      refine ga_locals [1, 2, 3, 4, 5, 0] rfl ?_
      exact h p l e s m args below meth c D cy ad hC
    · have h := h.2 hc
      refine ga_iload hC dX12_laysStep_30 3 rfl ?_
      refine ga_ineg hC dX12_laysStep_32 ?_
      refine ga_aload_n hC dX12_laysStep_33 0 rfl rfl ?_
      refine ga_iload_n hC dX12_laysStep_34 1 rfl rfl ?_
      refine ga_iload hC dX12_laysStep_35 5 rfl ?_
      refine ga_callV (As := [.int v1, .int v6]) (st := [.int (-v4), .int ((8 * v1) + v6), .ref (ad 21)]) (k := 0) (n := 2) hC h q_7_89 q_7_91 q_0_25 q_1_13 q_7_92 rfl rfl rfl (by decide +kernel) ⟨Nat.le_of_ble_eq_true rfl, Nat.le_of_ble_eq_true rfl⟩ ⟨Nat.le_of_ble_eq_true rfl, Nat.le_of_ble_eq_true rfl⟩ rfl rfl rfl (by decide) rfl (Nat.le_of_ble_eq_true rfl) dX12_laysStep_37 (fun v τ hq => ?_)
      obtain ⟨r16, rfl, h⟩ := hq
      obtain ⟨s17, es17⟩ : ∃ z, z = τ := ⟨_, rfl⟩
      rw [← es17] at h ⊢
      clear es17
      refine ga_imul hC dX12_laysStep_40 ?_
      refine ga_i2l hC dX12_laysStep_41 ?_
      refine ga_goto (tgt := 46) hC dX12_laysStep_42 (by decide) ?_
      obtain ⟨h19, h⟩ := h
      refine ga_last hC aM_21 (by decide) h19 dX12_laysStep_46 ?_
      refine ga_sig (σ := cg_l s17 21 ((8 * v1) + v6).toNatClampNeg (((-v4) * r16).toInt64)) (fun s20 es20 => ?_)
      have h := h s20 es20
      refine ga_iinc (v := v6 + 1) (lv' := [(6, .int (v6 + 1)), (0, .ref (ad 0)), (1, .int v1), (2, .long v2), (4, .int v4), (5, .int v5)]) hC dX12_laysStep_47 5 rfl rfl (by decide) rfl ?_
      refine ga_goto (tgt := 3) hC dX12_laysStep_50 (by decide) ?_
      refine ga_locals [1, 2, 3, 4, 5, 0] rfl ?_
      exact h p l e s m args below meth c D cy ad hC
set_option maxRecDepth 100000 in
set_option maxHeartbeats 4000000 in
theorem v_X12_laysStep {v1 : Int32} {v2 : Int64} {v4 : Int32} {v5 : Int32} {σ : cg_S} {Q : cg_S → Prop}
    (h : L_X12_laysStep_3 v1 v2 v4 v5 0 σ Q) : M_X12_laysStep v1 v2 v4 v5 σ Q := by
  refine cg_entry (lv := fun ad => [(0, .ref (ad 0)), (1, .int v1), (2, .long v2), (4, .int v4), (5, .int v5)]) (by decide +kernel) (fun _ => rfl) (fun _ => Nat.le_of_ble_eq_true rfl) ?_
  intro p l e s m args below meth c D cy ad hC
  refine ga_iconst (v := 0) hC dX12_laysStep_0 (by decide) ?_
  refine ga_istore (lv' := [(6, .int 0), (0, .ref (ad 0)), (1, .int v1), (2, .long v2), (4, .int v4), (5, .int v5)]) hC dX12_laysStep_1 (by decide) rfl ?_
  refine ga_locals [1, 2, 3, 4, 5, 0] rfl ?_
  exact h p l e s m args below meth c D cy ad hC
def M_X12_solves (σ : cg_S) (Q : cg_S → Prop) : Prop := cg_M cg_WM yX12_solves cX12_solves 10 none (cg_R 1) (fun ad => [.ref (ad 0)]) σ (cg_qv Q)
theorem M_X12_solves.mono {σ : cg_S} {Q Q2 : cg_S → Prop} (h : M_X12_solves σ Q) (hq : ∀ τ, Q τ → Q2 τ) : M_X12_solves σ Q2 := cg_M.mono h (fun ad v τ ⟨e, q⟩ => ⟨e, hq τ q⟩)
def L_X12_solves_7 (v1 : Int64) (v3 : Int32) (σ : cg_S) (Q : cg_S → Prop) : Prop := cg_L cg_WM RX12 cX12_solves 10 none (cg_R 1) 7 (fun ad => [(0, .ref (ad 0)), (1, .long v1), (3, .int v3)]) (fun ad => []) σ (cg_qv Q)
def L_X12_solves_27 (v1 : Int64) (v3 : Int32) (σ : cg_S) (Q : cg_S → Prop) : Prop := cg_L cg_WM RX12 cX12_solves 10 none (cg_R 1) 27 (fun ad => [(0, .ref (ad 0)), (1, .long v1), (3, .int v3)]) (fun ad => []) σ (cg_qv Q)
def L_X12_solves_49 (v1 : Int64) (v3 : Int32) (v4 : Int64) (v6 : Int32) (σ : cg_S) (Q : cg_S → Prop) : Prop := cg_L cg_WM RX12 cX12_solves 10 none (cg_R 1) 49 (fun ad => [(0, .ref (ad 0)), (1, .long v1), (3, .int v3), (4, .long v4), (6, .int v6)]) (fun ad => []) σ (cg_qv Q)
def L_X12_solves_73 (v1 : Int64) (v3 : Int32) (v4 : Int64) (v6 : Int32) (v7 : Int64) (v9 : Int32) (σ : cg_S) (Q : cg_S → Prop) : Prop := cg_L cg_WM RX12 cX12_solves 10 none (cg_R 1) 73 (fun ad => [(0, .ref (ad 0)), (1, .long v1), (3, .int v3), (4, .long v4), (6, .int v6), (7, .long v7), (9, .int v9)]) (fun ad => []) σ (cg_qv Q)
set_option maxRecDepth 100000 in
set_option maxHeartbeats 4000000 in
theorem v_X12_solves_73 {v1 : Int64} {v3 : Int32} {v4 : Int64} {v6 : Int32} {v7 : Int64} {v9 : Int32} {σ : cg_S} {Q : cg_S → Prop}
    (h : (8 ≤ v9 → L_X12_solves_49 v1 v3 v4 (v6 + 1) σ Q) ∧ (¬ 8 ≤ v9 → (v6 = v3 → L_X12_solves_49 v1 v3 v4 (v6 + 1) σ Q) ∧ (¬ v6 = v3 → vp_in ((8 * v6) + v9) 56 ∧ vp_in ((8 * v3) + v9) 56 ∧ ¬ v1 = 0 ∧ vp_in ((8 * v6) + v9) 56 ∧ ∀ s5 : cg_S, s5 = cg_l σ 21 ((8 * v6) + v9).toNatClampNeg (((v4 * (σ.2.1 21 ((8 * v6) + v9).toNatClampNeg)) - (v7 * (σ.2.1 21 ((8 * v3) + v9).toNatClampNeg))) / v1) → L_X12_solves_73 v1 v3 v4 v6 v7 (v9 + 1) s5 Q))) : L_X12_solves_73 v1 v3 v4 v6 v7 v9 σ Q := by
  intro p l e s m args below meth c D cy ad hC
  refine ga_iload hC dX12_solves_73 6 rfl ?_
  refine ga_bipush (v := 8) hC dX12_solves_75 (by decide) ?_
  refine ga_icmp_ge (tgt := 139) hC dX12_solves_77 (by decide) (fun hc => ?_) (fun hc => ?_)
  · have h := h.1 hc
    refine ga_iinc (v := v6 + 1) (lv' := [(6, .int (v6 + 1)), (0, .ref (ad 0)), (1, .long v1), (3, .int v3), (4, .long v4), (7, .long v7), (9, .int v9)]) hC dX12_solves_139 4 rfl rfl (by decide) rfl ?_
    refine ga_goto (tgt := 49) hC dX12_solves_142 (by decide) ?_
    refine ga_locals [1, 2, 3, 4, 0] rfl ?_
    exact h p l e s m args below meth c D cy ad hC
  · have h := h.2 hc
    refine ga_iload hC dX12_solves_80 4 rfl ?_
    refine ga_iload_n hC dX12_solves_82 2 rfl rfl ?_
    refine ga_icmp_eq (tgt := 139) hC dX12_solves_83 (by decide) (fun hc => ?_) (fun hc => ?_)
    · have h := h.1 hc
      refine ga_iinc (v := v6 + 1) (lv' := [(6, .int (v6 + 1)), (0, .ref (ad 0)), (1, .long v1), (3, .int v3), (4, .long v4), (7, .long v7), (9, .int v9)]) hC dX12_solves_139 4 rfl rfl (by decide) rfl ?_
      refine ga_goto (tgt := 49) hC dX12_solves_142 (by decide) ?_
      refine ga_locals [1, 2, 3, 4, 0] rfl ?_
      exact h p l e s m args below meth c D cy ad hC
    · have h := h.2 hc
      refine ga_aload_n hC dX12_solves_86 0 rfl rfl ?_
      refine gM_0_21 hC q_6_106 dX12_solves_87 ?_
      refine ga_bipush (v := 8) hC dX12_solves_90 (by decide) ?_
      refine ga_iload hC dX12_solves_92 4 rfl ?_
      refine ga_imul hC dX12_solves_94 ?_
      refine ga_iload hC dX12_solves_95 6 rfl ?_
      refine ga_iadd hC dX12_solves_97 ?_
      refine ga_lload hC dX12_solves_98 3 rfl ?_
      refine ga_aload_n hC dX12_solves_100 0 rfl rfl ?_
      refine gM_0_21 hC q_6_106 dX12_solves_101 ?_
      refine ga_bipush (v := 8) hC dX12_solves_104 (by decide) ?_
      refine ga_iload hC dX12_solves_106 4 rfl ?_
      refine ga_imul hC dX12_solves_108 ?_
      refine ga_iload hC dX12_solves_109 6 rfl ?_
      refine ga_iadd hC dX12_solves_111 ?_
      obtain ⟨h1, h⟩ := h
      refine ga_lald hC aM_21 (by decide) h1 dX12_solves_112 ?_
      refine ga_lmul hC dX12_solves_113 ?_
      refine ga_lload hC dX12_solves_114 5 rfl ?_
      refine ga_aload_n hC dX12_solves_116 0 rfl rfl ?_
      refine gM_0_21 hC q_6_106 dX12_solves_117 ?_
      refine ga_bipush (v := 8) hC dX12_solves_120 (by decide) ?_
      refine ga_iload_n hC dX12_solves_122 2 rfl rfl ?_
      refine ga_imul hC dX12_solves_123 ?_
      refine ga_iload hC dX12_solves_124 6 rfl ?_
      refine ga_iadd hC dX12_solves_126 ?_
      obtain ⟨h2, h⟩ := h
      refine ga_lald hC aM_21 (by decide) h2 dX12_solves_127 ?_
      refine ga_lmul hC dX12_solves_128 ?_
      refine ga_lsub hC dX12_solves_129 ?_
      refine ga_lload_n hC dX12_solves_130 1 rfl rfl ?_
      obtain ⟨h3, h⟩ := h
      refine ga_ldiv hC dX12_solves_131 h3 ?_
      obtain ⟨h4, h⟩ := h
      refine ga_last hC aM_21 (by decide) h4 dX12_solves_132 ?_
      refine ga_sig (σ := cg_l σ 21 ((8 * v6) + v9).toNatClampNeg (((v4 * (σ.2.1 21 ((8 * v6) + v9).toNatClampNeg)) - (v7 * (σ.2.1 21 ((8 * v3) + v9).toNatClampNeg))) / v1)) (fun s5 es5 => ?_)
      have h := h s5 es5
      refine ga_iinc (v := v9 + 1) (lv' := [(9, .int (v9 + 1)), (0, .ref (ad 0)), (1, .long v1), (3, .int v3), (4, .long v4), (6, .int v6), (7, .long v7)]) hC dX12_solves_133 6 rfl rfl (by decide) rfl ?_
      refine ga_goto (tgt := 73) hC dX12_solves_136 (by decide) ?_
      refine ga_locals [1, 2, 3, 4, 5, 6, 0] rfl ?_
      exact h p l e s m args below meth c D cy ad hC
set_option maxRecDepth 100000 in
set_option maxHeartbeats 4000000 in
theorem v_X12_solves_49 {v1 : Int64} {v3 : Int32} {v4 : Int64} {v6 : Int32} {σ : cg_S} {Q : cg_S → Prop}
    (h : (7 ≤ v6 → L_X12_solves_27 v4 (v3 + 1) σ Q) ∧ (¬ 7 ≤ v6 → vp_in ((8 * v6) + v3) 56 ∧ ∀ x2 : Int64, x2 = σ.2.1 21 ((8 * v6) + v3).toNatClampNeg → L_X12_solves_73 v1 v3 v4 v6 x2 0 σ Q)) : L_X12_solves_49 v1 v3 v4 v6 σ Q := by
  intro p l e s m args below meth c D cy ad hC
  refine ga_iload hC dX12_solves_49 4 rfl ?_
  refine ga_bipush (v := 7) hC dX12_solves_51 (by decide) ?_
  refine ga_icmp_ge (tgt := 145) hC dX12_solves_53 (by decide) (fun hc => ?_) (fun hc => ?_)
  · have h := h.1 hc
    refine ga_lload hC dX12_solves_145 3 rfl ?_
    refine ga_lstore_n (lv' := [(1, .long v4), (0, .ref (ad 0)), (3, .int v3), (4, .long v4), (6, .int v6)]) hC dX12_solves_147 rfl (by decide) rfl ?_
    refine ga_iinc (v := v3 + 1) (lv' := [(3, .int (v3 + 1)), (1, .long v4), (0, .ref (ad 0)), (4, .long v4), (6, .int v6)]) hC dX12_solves_148 2 rfl rfl (by decide) rfl ?_
    refine ga_goto (tgt := 27) hC dX12_solves_151 (by decide) ?_
    refine ga_locals [2, 1, 0] rfl ?_
    exact h p l e s m args below meth c D cy ad hC
  · have h := h.2 hc
    refine ga_aload_n hC dX12_solves_56 0 rfl rfl ?_
    refine gM_0_21 hC q_6_106 dX12_solves_57 ?_
    refine ga_bipush (v := 8) hC dX12_solves_60 (by decide) ?_
    refine ga_iload hC dX12_solves_62 4 rfl ?_
    refine ga_imul hC dX12_solves_64 ?_
    refine ga_iload_n hC dX12_solves_65 2 rfl rfl ?_
    refine ga_iadd hC dX12_solves_66 ?_
    obtain ⟨h1, h⟩ := h
    refine ga_lald hC aM_21 (by decide) h1 dX12_solves_67 ?_
    refine ga_topl (fun x2 ex2 => ?_)
    have h := h x2 ex2
    refine ga_lstore (lv' := [(7, .long x2), (0, .ref (ad 0)), (1, .long v1), (3, .int v3), (4, .long v4), (6, .int v6)]) hC dX12_solves_68 (by decide) rfl ?_
    refine ga_iconst (v := 0) hC dX12_solves_70 (by decide) ?_
    refine ga_istore (lv' := [(9, .int 0), (7, .long x2), (0, .ref (ad 0)), (1, .long v1), (3, .int v3), (4, .long v4), (6, .int v6)]) hC dX12_solves_71 (by decide) rfl ?_
    refine ga_locals [2, 3, 4, 5, 6, 1, 0] rfl ?_
    exact h p l e s m args below meth c D cy ad hC
set_option maxRecDepth 100000 in
set_option maxHeartbeats 4000000 in
theorem v_X12_solves_27 {v1 : Int64} {v3 : Int32} {σ : cg_S} {Q : cg_S → Prop}
    (h : (7 ≤ v3 → ∀ s1 : cg_S, s1 = cg_l σ 0 39 v1 → Q s1) ∧ (¬ 7 ≤ v3 → vp_in ((8 * v3) + v3) 56 ∧ ∀ x3 : Int64, x3 = σ.2.1 21 ((8 * v3) + v3).toNatClampNeg → L_X12_solves_49 v1 v3 x3 0 σ Q)) : L_X12_solves_27 v1 v3 σ Q := by
  intro p l e s m args below meth c D cy ad hC
  refine ga_iload_n hC dX12_solves_27 2 rfl rfl ?_
  refine ga_bipush (v := 7) hC dX12_solves_28 (by decide) ?_
  refine ga_icmp_ge (tgt := 154) hC dX12_solves_30 (by decide) (fun hc => ?_) (fun hc => ?_)
  · have h := h.1 hc
    refine ga_aload_n hC dX12_solves_154 0 rfl rfl ?_
    refine ga_lload_n hC dX12_solves_155 1 rfl rfl ?_
    refine pM_0_39 hC q_6_124 dX12_solves_156 ?_
    refine ga_sig (σ := cg_l σ 0 39 v1) (fun s1 es1 => ?_)
    have h := h s1 es1
    exact ga_vret hC dX12_solves_159 ⟨rfl, h⟩
  · have h := h.2 hc
    refine ga_aload_n hC dX12_solves_33 0 rfl rfl ?_
    refine gM_0_21 hC q_6_106 dX12_solves_34 ?_
    refine ga_bipush (v := 8) hC dX12_solves_37 (by decide) ?_
    refine ga_iload_n hC dX12_solves_39 2 rfl rfl ?_
    refine ga_imul hC dX12_solves_40 ?_
    refine ga_iload_n hC dX12_solves_41 2 rfl rfl ?_
    refine ga_iadd hC dX12_solves_42 ?_
    obtain ⟨h2, h⟩ := h
    refine ga_lald hC aM_21 (by decide) h2 dX12_solves_43 ?_
    refine ga_topl (fun x3 ex3 => ?_)
    have h := h x3 ex3
    refine ga_lstore (lv' := [(4, .long x3), (0, .ref (ad 0)), (1, .long v1), (3, .int v3)]) hC dX12_solves_44 (by decide) rfl ?_
    refine ga_iconst (v := 0) hC dX12_solves_46 (by decide) ?_
    refine ga_istore (lv' := [(6, .int 0), (4, .long x3), (0, .ref (ad 0)), (1, .long v1), (3, .int v3)]) hC dX12_solves_47 (by decide) rfl ?_
    refine ga_locals [2, 3, 4, 1, 0] rfl ?_
    exact h p l e s m args below meth c D cy ad hC
set_option maxRecDepth 100000 in
set_option maxHeartbeats 4000000 in
theorem v_X12_solves_7 {v1 : Int64} {v3 : Int32} {σ : cg_S} {Q : cg_S → Prop}
    (h : (7 ≤ v3 → L_X12_solves_27 v1 0 σ Q) ∧ (¬ 7 ≤ v3 → M_X12_laysNumber v3 0 σ (fun s2 => L_X12_solves_7 v1 (v3 + 1) s2 Q))) : L_X12_solves_7 v1 v3 σ Q := by
  intro p l e s m args below meth c D cy ad hC
  refine ga_iload_n hC dX12_solves_7 2 rfl rfl ?_
  refine ga_bipush (v := 7) hC dX12_solves_8 (by decide) ?_
  refine ga_icmp_ge (tgt := 25) hC dX12_solves_10 (by decide) (fun hc => ?_) (fun hc => ?_)
  · have h := h.1 hc
    refine ga_iconst (v := 0) hC dX12_solves_25 (by decide) ?_
    refine ga_istore_n (lv' := [(3, .int 0), (0, .ref (ad 0)), (1, .long v1)]) hC dX12_solves_26 rfl (by decide) rfl ?_
    refine ga_locals [1, 2, 0] rfl ?_
    exact h p l e s m args below meth c D cy ad hC
  · have h := h.2 hc
    refine ga_aload_n hC dX12_solves_13 0 rfl rfl ?_
    refine ga_iload_n hC dX12_solves_14 2 rfl rfl ?_
    refine ga_lconst (v := 0) hC dX12_solves_15 (by decide) ?_
    refine ga_callV (As := [.int v3, .long 0]) (st := []) (k := 0) (n := 2) hC h q_7_113 q_7_115 q_0_31 q_1_13 q_7_116 rfl rfl rfl (by decide +kernel) ⟨Nat.le_of_ble_eq_true rfl, Nat.le_of_ble_eq_true rfl⟩ ⟨Nat.le_of_ble_eq_true rfl, Nat.le_of_ble_eq_true rfl⟩ rfl rfl rfl (by decide) rfl (Nat.le_of_ble_eq_true rfl) dX12_solves_16 (fun v τ hq => ?_)
    obtain ⟨rfl, h⟩ := hq
    obtain ⟨s2, es2⟩ : ∃ z, z = τ := ⟨_, rfl⟩
    rw [← es2] at h ⊢
    clear es2
    refine ga_iinc (v := v3 + 1) (lv' := [(3, .int (v3 + 1)), (0, .ref (ad 0)), (1, .long v1)]) hC dX12_solves_19 2 rfl rfl (by decide) rfl ?_
    refine ga_goto (tgt := 7) hC dX12_solves_22 (by decide) ?_
    refine ga_locals [1, 2, 0] rfl ?_
    exact h p l e s m args below meth c D cy ad hC
set_option maxRecDepth 100000 in
set_option maxHeartbeats 4000000 in
theorem v_X12_solves {σ : cg_S} {Q : cg_S → Prop}
    (h : ∀ x1 : Int32, x1 = σ.1 0 1 → L_X12_solves_7 1 x1 σ Q) : M_X12_solves σ Q := by
  refine cg_entry (lv := fun ad => [(0, .ref (ad 0))]) (by decide +kernel) (fun _ => rfl) (fun _ => Nat.le_of_ble_eq_true rfl) ?_
  intro p l e s m args below meth c D cy ad hC
  refine ga_lconst (v := 1) hC dX12_solves_0 (by decide) ?_
  refine ga_lstore_n (lv' := [(1, .long 1), (0, .ref (ad 0))]) hC dX12_solves_1 rfl (by decide) rfl ?_
  refine ga_aload_n hC dX12_solves_2 1 rfl rfl ?_
  refine gM_0_1 hC q_6_86 dX12_solves_3 ?_
  refine ga_topi (fun x1 ex1 => ?_)
  have h := h x1 ex1
  refine ga_istore_n (lv' := [(3, .int x1), (1, .long 1), (0, .ref (ad 0))]) hC dX12_solves_6 rfl (by decide) rfl ?_
  refine ga_locals [2, 1, 0] rfl ?_
  exact h p l e s m args below meth c D cy ad hC
def M_X12_solved (v1 : Int32) (σ : cg_S) (Q : Int64 → cg_S → Prop) : Prop := cg_M cg_WM yX12_solved cX12_solved 2 (some .long) (cg_R 0) (fun ad => [.ref (ad 0), .int v1]) σ (cg_ql Q)
theorem M_X12_solved.mono {v1 : Int32} {σ : cg_S} {Q Q2 : Int64 → cg_S → Prop} (h : M_X12_solved v1 σ Q) (hq : ∀ r τ, Q r τ → Q2 r τ) : M_X12_solved v1 σ Q2 := cg_M.mono h (fun ad v τ ⟨r, e, q⟩ => ⟨r, e, hq r τ q⟩)
set_option maxRecDepth 100000 in
set_option maxHeartbeats 4000000 in
theorem v_X12_solved {v1 : Int32} {σ : cg_S} {Q : Int64 → cg_S → Prop}
    (h : vp_in ((8 * v1) + 7) 56 ∧ Q (σ.2.1 21 ((8 * v1) + 7).toNatClampNeg) σ) : M_X12_solved v1 σ Q := by
  refine cg_entry (lv := fun ad => [(0, .ref (ad 0)), (1, .int v1)]) (by decide +kernel) (fun _ => rfl) (fun _ => Nat.le_of_ble_eq_true rfl) ?_
  intro p l e s m args below meth c D cy ad hC
  refine ga_aload_n hC dX12_solved_0 0 rfl rfl ?_
  refine gM_0_21 hC q_6_106 dX12_solved_1 ?_
  refine ga_bipush (v := 8) hC dX12_solved_4 (by decide) ?_
  refine ga_iload_n hC dX12_solved_6 1 rfl rfl ?_
  refine ga_imul hC dX12_solved_7 ?_
  refine ga_bipush (v := 7) hC dX12_solved_8 (by decide) ?_
  refine ga_iadd hC dX12_solved_10 ?_
  obtain ⟨h1, h⟩ := h
  refine ga_lald hC aM_21 (by decide) h1 dX12_solved_11 ?_
  exact ga_lret hC dX12_solved_12 ⟨_, rfl, h⟩
def M_X12_tellsAll (σ : cg_S) (Q : cg_S → Prop) : Prop := cg_M cg_WM yX12_tellsAll cX12_tellsAll 2 none (cg_R 2) (fun ad => [.ref (ad 0)]) σ (cg_qv Q)
theorem M_X12_tellsAll.mono {σ : cg_S} {Q Q2 : cg_S → Prop} (h : M_X12_tellsAll σ Q) (hq : ∀ τ, Q τ → Q2 τ) : M_X12_tellsAll σ Q2 := cg_M.mono h (fun ad v τ ⟨e, q⟩ => ⟨e, hq τ q⟩)
def L_X12_tellsAll_2 (v1 : Int32) (σ : cg_S) (Q : cg_S → Prop) : Prop := cg_L cg_WM RX12 cX12_tellsAll 2 none (cg_R 2) 2 (fun ad => [(0, .ref (ad 0)), (1, .int v1)]) (fun ad => []) σ (cg_qv Q)
set_option maxRecDepth 100000 in
set_option maxHeartbeats 4000000 in
theorem v_X12_tellsAll_2 {v1 : Int32} {σ : cg_S} {Q : cg_S → Prop}
    (h : ((σ.1 0 1) ≤ v1 → Q σ) ∧ (¬ (σ.1 0 1) ≤ v1 → M_X12_solved v1 σ (fun r1 s2 => M_X12_lowers r1 (s2.2.1 0 39) s2 (fun s5 => vp_in v1 7 ∧ ∀ s8 : cg_S, s8 = cg_l s5 22 v1.toNatClampNeg (s5.2.1 0 40) → vp_in v1 7 ∧ ∀ s10 : cg_S, s10 = cg_l s8 23 v1.toNatClampNeg (s8.2.1 0 41) → L_X12_tellsAll_2 (v1 + 1) s10 Q)))) : L_X12_tellsAll_2 v1 σ Q := by
  intro p l e s m args below meth c D cy ad hC
  refine ga_iload_n hC dX12_tellsAll_2 1 rfl rfl ?_
  refine ga_aload_n hC dX12_tellsAll_3 0 rfl rfl ?_
  refine gM_0_1 hC q_6_86 dX12_tellsAll_4 ?_
  refine ga_icmp_ge (tgt := 49) hC dX12_tellsAll_7 (by decide) (fun hc => ?_) (fun hc => ?_)
  · have h := h.1 hc
    exact ga_vret hC dX12_tellsAll_49 ⟨rfl, h⟩
  · have h := h.2 hc
    refine ga_aload_n hC dX12_tellsAll_10 0 rfl rfl ?_
    refine ga_aload_n hC dX12_tellsAll_11 0 rfl rfl ?_
    refine ga_iload_n hC dX12_tellsAll_12 1 rfl rfl ?_
    refine ga_callV (As := [.int v1]) (st := [.ref (ad 0)]) (k := 0) (n := 1) hC h q_7_129 q_7_131 q_0_35 q_1_13 q_7_132 rfl rfl rfl (by decide +kernel) ⟨Nat.le_of_ble_eq_true rfl, Nat.le_of_ble_eq_true rfl⟩ ⟨Nat.le_of_ble_eq_true rfl, Nat.le_of_ble_eq_true rfl⟩ rfl rfl rfl (by decide) rfl (Nat.le_of_ble_eq_true rfl) dX12_tellsAll_13 (fun v τ hq => ?_)
    obtain ⟨r1, rfl, h⟩ := hq
    obtain ⟨s2, es2⟩ : ∃ z, z = τ := ⟨_, rfl⟩
    rw [← es2] at h ⊢
    clear es2
    refine ga_aload_n hC dX12_tellsAll_16 0 rfl rfl ?_
    refine gM_0_39 hC q_6_124 dX12_tellsAll_17 ?_
    refine ga_callV (As := [.long r1, .long (s2.2.1 0 39)]) (st := []) (k := 0) (n := 2) hC h q_7_37 q_7_39 q_0_16 q_1_13 q_7_40 rfl rfl rfl (by decide +kernel) ⟨Nat.le_of_ble_eq_true rfl, Nat.le_of_ble_eq_true rfl⟩ ⟨Nat.le_of_ble_eq_true rfl, Nat.le_of_ble_eq_true rfl⟩ rfl rfl rfl (by decide) rfl (Nat.le_of_ble_eq_true rfl) dX12_tellsAll_20 (fun v τ hq => ?_)
    obtain ⟨rfl, h⟩ := hq
    obtain ⟨s5, es5⟩ : ∃ z, z = τ := ⟨_, rfl⟩
    rw [← es5] at h ⊢
    clear es5
    refine ga_aload_n hC dX12_tellsAll_23 0 rfl rfl ?_
    refine gM_0_22 hC q_6_107 dX12_tellsAll_24 ?_
    refine ga_iload_n hC dX12_tellsAll_27 1 rfl rfl ?_
    refine ga_aload_n hC dX12_tellsAll_28 0 rfl rfl ?_
    refine gM_0_40 hC q_6_125 dX12_tellsAll_29 ?_
    obtain ⟨h7, h⟩ := h
    refine ga_last hC aM_22 (by decide) h7 dX12_tellsAll_32 ?_
    refine ga_sig (σ := cg_l s5 22 v1.toNatClampNeg (s5.2.1 0 40)) (fun s8 es8 => ?_)
    have h := h s8 es8
    refine ga_aload_n hC dX12_tellsAll_33 0 rfl rfl ?_
    refine gM_0_23 hC q_6_108 dX12_tellsAll_34 ?_
    refine ga_iload_n hC dX12_tellsAll_37 1 rfl rfl ?_
    refine ga_aload_n hC dX12_tellsAll_38 0 rfl rfl ?_
    refine gM_0_41 hC q_6_126 dX12_tellsAll_39 ?_
    obtain ⟨h9, h⟩ := h
    refine ga_last hC aM_23 (by decide) h9 dX12_tellsAll_42 ?_
    refine ga_sig (σ := cg_l s8 23 v1.toNatClampNeg (s8.2.1 0 41)) (fun s10 es10 => ?_)
    have h := h s10 es10
    refine ga_iinc (v := v1 + 1) (lv' := [(1, .int (v1 + 1)), (0, .ref (ad 0))]) hC dX12_tellsAll_43 1 rfl rfl (by decide) rfl ?_
    refine ga_goto (tgt := 2) hC dX12_tellsAll_46 (by decide) ?_
    refine ga_locals [1, 0] rfl ?_
    exact h p l e s m args below meth c D cy ad hC
set_option maxRecDepth 100000 in
set_option maxHeartbeats 4000000 in
theorem v_X12_tellsAll {σ : cg_S} {Q : cg_S → Prop}
    (h : L_X12_tellsAll_2 0 σ Q) : M_X12_tellsAll σ Q := by
  refine cg_entry (lv := fun ad => [(0, .ref (ad 0))]) (by decide +kernel) (fun _ => rfl) (fun _ => Nat.le_of_ble_eq_true rfl) ?_
  intro p l e s m args below meth c D cy ad hC
  refine ga_iconst (v := 0) hC dX12_tellsAll_0 (by decide) ?_
  refine ga_istore_n (lv' := [(1, .int 0), (0, .ref (ad 0))]) hC dX12_tellsAll_1 rfl (by decide) rfl ?_
  refine ga_locals [1, 0] rfl ?_
  exact h p l e s m args below meth c D cy ad hC
def M_X12_chances (σ : cg_S) (Q : cg_S → Prop) : Prop := cg_M cg_WM yX12_chances cX12_chances 4 none (cg_R 3) (fun ad => [.ref (ad 0)]) σ (cg_qv Q)
theorem M_X12_chances.mono {σ : cg_S} {Q Q2 : cg_S → Prop} (h : M_X12_chances σ Q) (hq : ∀ τ, Q τ → Q2 τ) : M_X12_chances σ Q2 := cg_M.mono h (fun ad v τ ⟨e, q⟩ => ⟨e, hq τ q⟩)
def L_X12_chances_6 (v1 : Int32) (σ : cg_S) (Q : cg_S → Prop) : Prop := cg_L cg_WM RX12 cX12_chances 4 none (cg_R 3) 6 (fun ad => [(0, .ref (ad 0)), (1, .int v1)]) (fun ad => []) σ (cg_qv Q)
def L_X12_chances_18 (v1 : Int32) (v2 : Int32) (v3 : Int32) (σ : cg_S) (Q : cg_S → Prop) : Prop := cg_L cg_WM RX12 cX12_chances 4 none (cg_R 3) 18 (fun ad => [(0, .ref (ad 0)), (1, .int v1), (2, .int v2), (3, .int v3)]) (fun ad => []) σ (cg_qv Q)
def L_X12_chances_78 (v1 : Int32) (σ : cg_S) (Q : cg_S → Prop) : Prop := cg_L cg_WM RX12 cX12_chances 4 none (cg_R 3) 78 (fun ad => [(0, .ref (ad 0)), (1, .int v1)]) (fun ad => []) σ (cg_qv Q)
def L_X12_chances_94 (v1 : Int32) (t1 : Int32) (t2 : Int64) (σ : cg_S) (Q : cg_S → Prop) : Prop := cg_L cg_WM RX12 cX12_chances 4 none (cg_R 3) 94 (fun ad => [(0, .ref (ad 0)), (1, .int v1)]) (fun ad => [.long t2, .int t1, .ref (ad 0)]) σ (cg_qv Q)
set_option maxRecDepth 100000 in
set_option maxHeartbeats 4000000 in
theorem v_X12_chances_94 {v1 : Int32} {t1 : Int32} {t2 : Int64} {σ : cg_S} {Q : cg_S → Prop}
    (h : M_X12_laysNumber t1 t2 σ (fun s2 => L_X12_chances_6 (v1 + 1) s2 Q)) : L_X12_chances_94 v1 t1 t2 σ Q := by
  intro p l e s m args below meth c D cy ad hC
  refine ga_callV (As := [.int t1, .long t2]) (st := []) (k := 0) (n := 2) hC h q_7_113 q_7_115 q_0_31 q_1_13 q_7_116 rfl rfl rfl (by decide +kernel) ⟨Nat.le_of_ble_eq_true rfl, Nat.le_of_ble_eq_true rfl⟩ ⟨Nat.le_of_ble_eq_true rfl, Nat.le_of_ble_eq_true rfl⟩ rfl rfl rfl (by decide) rfl (Nat.le_of_ble_eq_true rfl) dX12_chances_94 (fun v τ hq => ?_)
  obtain ⟨rfl, h⟩ := hq
  obtain ⟨s2, es2⟩ : ∃ z, z = τ := ⟨_, rfl⟩
  rw [← es2] at h ⊢
  clear es2
  refine ga_goto (tgt := 108) hC dX12_chances_97 (by decide) ?_
  refine ga_iinc (v := v1 + 1) (lv' := [(1, .int (v1 + 1)), (0, .ref (ad 0))]) hC dX12_chances_108 1 rfl rfl (by decide) rfl ?_
  refine ga_goto (tgt := 6) hC dX12_chances_111 (by decide) ?_
  refine ga_locals [1, 0] rfl ?_
  exact h p l e s m args below meth c D cy ad hC
set_option maxRecDepth 100000 in
set_option maxHeartbeats 4000000 in
theorem v_X12_chances_78 {v1 : Int32} {σ : cg_S} {Q : cg_S → Prop}
    (h : vp_in v1 7 ∧ ((σ.1 16 v1.toNatClampNeg) = 0 → L_X12_chances_94 v1 v1 0 σ Q) ∧ (¬ (σ.1 16 v1.toNatClampNeg) = 0 → L_X12_chances_94 v1 v1 1 σ Q)) : L_X12_chances_78 v1 σ Q := by
  intro p l e s m args below meth c D cy ad hC
  refine ga_aload_n hC dX12_chances_78 0 rfl rfl ?_
  refine ga_iload_n hC dX12_chances_79 1 rfl rfl ?_
  refine ga_aload_n hC dX12_chances_80 0 rfl rfl ?_
  refine gM_0_17 hC q_6_102 dX12_chances_81 ?_
  refine ga_iload_n hC dX12_chances_84 1 rfl rfl ?_
  obtain ⟨h1, h⟩ := h
  refine ga_zald hC aM_16 (by decide) h1 dX12_chances_85 ?_
  refine ga_if_eq (tgt := 93) hC dX12_chances_86 (by decide) (fun hc => ?_) (fun hc => ?_)
  · have h := h.1 hc
    refine ga_lconst (v := 0) hC dX12_chances_93 (by decide) ?_
    refine ga_locals [0, 1] rfl ?_
    exact h p l e s m args below meth c D cy ad hC
  · have h := h.2 hc
    refine ga_lconst (v := 1) hC dX12_chances_89 (by decide) ?_
    refine ga_goto (tgt := 94) hC dX12_chances_90 (by decide) ?_
    refine ga_locals [0, 1] rfl ?_
    exact h p l e s m args below meth c D cy ad hC
set_option maxRecDepth 100000 in
set_option maxHeartbeats 4000000 in
theorem v_X12_chances_18 {v1 : Int32} {v2 : Int32} {v3 : Int32} {σ : cg_S} {Q : cg_S → Prop}
    (h : ((σ.1 0 1) ≤ v3 → vp_in v1 7 ∧ (¬ (σ.1 16 v1.toNatClampNeg) = 0 → L_X12_chances_78 v1 σ Q) ∧ ((σ.1 16 v1.toNatClampNeg) = 0 → (¬ v2 = 0 → M_X12_laysStep v1 0 1 1 σ (fun s3 => L_X12_chances_6 (v1 + 1) s3 Q)) ∧ (v2 = 0 → L_X12_chances_78 v1 σ Q))) ∧ (¬ (σ.1 0 1) ≤ v3 → (¬ v2 = 0 → L_X12_chances_18 v1 1 (v3 + 1) σ Q) ∧ (v2 = 0 → vp_in v3 7 ∧ ((σ.1 16 v3.toNatClampNeg) = 0 → L_X12_chances_18 v1 0 (v3 + 1) σ Q) ∧ (¬ (σ.1 16 v3.toNatClampNeg) = 0 → vp_in ((7 * v1) + v3) 49 ∧ ((σ.1 20 ((7 * v1) + v3).toNatClampNeg) = 0 → L_X12_chances_18 v1 0 (v3 + 1) σ Q) ∧ (¬ (σ.1 20 ((7 * v1) + v3).toNatClampNeg) = 0 → L_X12_chances_18 v1 1 (v3 + 1) σ Q))))) : L_X12_chances_18 v1 v2 v3 σ Q := by
  intro p l e s m args below meth c D cy ad hC
  refine ga_iload_n hC dX12_chances_18 3 rfl rfl ?_
  refine ga_aload_n hC dX12_chances_19 0 rfl rfl ?_
  refine gM_0_1 hC q_6_86 dX12_chances_20 ?_
  refine ga_icmp_ge (tgt := 65) hC dX12_chances_23 (by decide) (fun hc => ?_) (fun hc => ?_)
  · have h := h.1 hc
    refine ga_aload_n hC dX12_chances_65 0 rfl rfl ?_
    refine gM_0_17 hC q_6_102 dX12_chances_66 ?_
    refine ga_iload_n hC dX12_chances_69 1 rfl rfl ?_
    obtain ⟨h1, h⟩ := h
    refine ga_zald hC aM_16 (by decide) h1 dX12_chances_70 ?_
    refine ga_if_ne (tgt := 78) hC dX12_chances_71 (by decide) (fun hc => ?_) (fun hc => ?_)
    · have h := h.1 hc
      refine ga_locals [0, 1] rfl ?_
      exact h p l e s m args below meth c D cy ad hC
    · have h := h.2 hc
      refine ga_iload_n hC dX12_chances_74 2 rfl rfl ?_
      refine ga_if_ne (tgt := 100) hC dX12_chances_75 (by decide) (fun hc => ?_) (fun hc => ?_)
      · have h := h.1 hc
        refine ga_aload_n hC dX12_chances_100 0 rfl rfl ?_
        refine ga_iload_n hC dX12_chances_101 1 rfl rfl ?_
        refine ga_lconst (v := 0) hC dX12_chances_102 (by decide) ?_
        refine ga_iconst (v := 1) hC dX12_chances_103 (by decide) ?_
        refine ga_iconst (v := 1) hC dX12_chances_104 (by decide) ?_
        refine ga_callV (As := [.int v1, .long 0, .int 1, .int 1]) (st := []) (k := 0) (n := 4) hC h q_7_121 q_7_123 q_0_33 q_1_13 q_7_124 rfl rfl rfl (by decide +kernel) ⟨Nat.le_of_ble_eq_true rfl, Nat.le_of_ble_eq_true rfl⟩ ⟨Nat.le_of_ble_eq_true rfl, Nat.le_of_ble_eq_true rfl⟩ rfl rfl rfl (by decide) rfl (Nat.le_of_ble_eq_true rfl) dX12_chances_105 (fun v τ hq => ?_)
        obtain ⟨rfl, h⟩ := hq
        obtain ⟨s3, es3⟩ : ∃ z, z = τ := ⟨_, rfl⟩
        rw [← es3] at h ⊢
        clear es3
        refine ga_iinc (v := v1 + 1) (lv' := [(1, .int (v1 + 1)), (0, .ref (ad 0)), (2, .int v2), (3, .int v3)]) hC dX12_chances_108 1 rfl rfl (by decide) rfl ?_
        refine ga_goto (tgt := 6) hC dX12_chances_111 (by decide) ?_
        refine ga_locals [1, 0] rfl ?_
        exact h p l e s m args below meth c D cy ad hC
      · have h := h.2 hc
        refine ga_locals [0, 1] rfl ?_
        exact h p l e s m args below meth c D cy ad hC
  · have h := h.2 hc
    refine ga_iload_n hC dX12_chances_26 2 rfl rfl ?_
    refine ga_if_ne (tgt := 53) hC dX12_chances_27 (by decide) (fun hc => ?_) (fun hc => ?_)
    · have h := h.1 hc
      refine ga_iconst (v := 1) hC dX12_chances_53 (by decide) ?_
      refine ga_goto (tgt := 58) hC dX12_chances_54 (by decide) ?_
      refine ga_istore_n (lv' := [(2, .int 1), (0, .ref (ad 0)), (1, .int v1), (3, .int v3)]) hC dX12_chances_58 rfl (by decide) rfl ?_
      refine ga_iinc (v := v3 + 1) (lv' := [(3, .int (v3 + 1)), (2, .int 1), (0, .ref (ad 0)), (1, .int v1)]) hC dX12_chances_59 3 rfl rfl (by decide) rfl ?_
      refine ga_goto (tgt := 18) hC dX12_chances_62 (by decide) ?_
      refine ga_locals [2, 3, 1, 0] rfl ?_
      exact h p l e s m args below meth c D cy ad hC
    · have h := h.2 hc
      refine ga_aload_n hC dX12_chances_30 0 rfl rfl ?_
      refine gM_0_17 hC q_6_102 dX12_chances_31 ?_
      refine ga_iload_n hC dX12_chances_34 3 rfl rfl ?_
      obtain ⟨h5, h⟩ := h
      refine ga_zald hC aM_16 (by decide) h5 dX12_chances_35 ?_
      refine ga_if_eq (tgt := 57) hC dX12_chances_36 (by decide) (fun hc => ?_) (fun hc => ?_)
      · have h := h.1 hc
        refine ga_iconst (v := 0) hC dX12_chances_57 (by decide) ?_
        refine ga_istore_n (lv' := [(2, .int 0), (0, .ref (ad 0)), (1, .int v1), (3, .int v3)]) hC dX12_chances_58 rfl (by decide) rfl ?_
        refine ga_iinc (v := v3 + 1) (lv' := [(3, .int (v3 + 1)), (2, .int 0), (0, .ref (ad 0)), (1, .int v1)]) hC dX12_chances_59 3 rfl rfl (by decide) rfl ?_
        refine ga_goto (tgt := 18) hC dX12_chances_62 (by decide) ?_
        refine ga_locals [2, 3, 1, 0] rfl ?_
        exact h p l e s m args below meth c D cy ad hC
      · have h := h.2 hc
        refine ga_aload_n hC dX12_chances_39 0 rfl rfl ?_
        refine gM_0_31 hC q_6_116 dX12_chances_40 ?_
        refine ga_bipush (v := 7) hC dX12_chances_43 (by decide) ?_
        refine ga_iload_n hC dX12_chances_45 1 rfl rfl ?_
        refine ga_imul hC dX12_chances_46 ?_
        refine ga_iload_n hC dX12_chances_47 3 rfl rfl ?_
        refine ga_iadd hC dX12_chances_48 ?_
        obtain ⟨h6, h⟩ := h
        refine ga_zald hC aM_20 (by decide) h6 dX12_chances_49 ?_
        refine ga_if_eq (tgt := 57) hC dX12_chances_50 (by decide) (fun hc => ?_) (fun hc => ?_)
        · have h := h.1 hc
          refine ga_iconst (v := 0) hC dX12_chances_57 (by decide) ?_
          refine ga_istore_n (lv' := [(2, .int 0), (0, .ref (ad 0)), (1, .int v1), (3, .int v3)]) hC dX12_chances_58 rfl (by decide) rfl ?_
          refine ga_iinc (v := v3 + 1) (lv' := [(3, .int (v3 + 1)), (2, .int 0), (0, .ref (ad 0)), (1, .int v1)]) hC dX12_chances_59 3 rfl rfl (by decide) rfl ?_
          refine ga_goto (tgt := 18) hC dX12_chances_62 (by decide) ?_
          refine ga_locals [2, 3, 1, 0] rfl ?_
          exact h p l e s m args below meth c D cy ad hC
        · have h := h.2 hc
          refine ga_iconst (v := 1) hC dX12_chances_53 (by decide) ?_
          refine ga_goto (tgt := 58) hC dX12_chances_54 (by decide) ?_
          refine ga_istore_n (lv' := [(2, .int 1), (0, .ref (ad 0)), (1, .int v1), (3, .int v3)]) hC dX12_chances_58 rfl (by decide) rfl ?_
          refine ga_iinc (v := v3 + 1) (lv' := [(3, .int (v3 + 1)), (2, .int 1), (0, .ref (ad 0)), (1, .int v1)]) hC dX12_chances_59 3 rfl rfl (by decide) rfl ?_
          refine ga_goto (tgt := 18) hC dX12_chances_62 (by decide) ?_
          refine ga_locals [2, 3, 1, 0] rfl ?_
          exact h p l e s m args below meth c D cy ad hC
set_option maxRecDepth 100000 in
set_option maxHeartbeats 4000000 in
theorem v_X12_chances_6 {v1 : Int32} {σ : cg_S} {Q : cg_S → Prop}
    (h : ((σ.1 0 1) ≤ v1 → M_X12_solves σ (fun s2 => Q s2)) ∧ (¬ (σ.1 0 1) ≤ v1 → L_X12_chances_18 v1 0 0 σ Q)) : L_X12_chances_6 v1 σ Q := by
  intro p l e s m args below meth c D cy ad hC
  refine ga_iload_n hC dX12_chances_6 1 rfl rfl ?_
  refine ga_aload_n hC dX12_chances_7 0 rfl rfl ?_
  refine gM_0_1 hC q_6_86 dX12_chances_8 ?_
  refine ga_icmp_ge (tgt := 114) hC dX12_chances_11 (by decide) (fun hc => ?_) (fun hc => ?_)
  · have h := h.1 hc
    refine ga_aload_n hC dX12_chances_114 0 rfl rfl ?_
    refine ga_callV (As := []) (st := []) (k := 0) (n := 0) hC h q_7_125 q_7_127 q_0_34 q_1_13 q_7_128 rfl rfl rfl (by decide +kernel) ⟨Nat.le_of_ble_eq_true rfl, Nat.le_of_ble_eq_true rfl⟩ ⟨Nat.le_of_ble_eq_true rfl, Nat.le_of_ble_eq_true rfl⟩ rfl rfl rfl (by decide) rfl (Nat.le_of_ble_eq_true rfl) dX12_chances_115 (fun v τ hq => ?_)
    obtain ⟨rfl, h⟩ := hq
    obtain ⟨s2, es2⟩ : ∃ z, z = τ := ⟨_, rfl⟩
    rw [← es2] at h ⊢
    clear es2
    exact ga_vret hC dX12_chances_118 ⟨rfl, h⟩
  · have h := h.2 hc
    refine ga_iconst (v := 0) hC dX12_chances_14 (by decide) ?_
    refine ga_istore_n (lv' := [(2, .int 0), (0, .ref (ad 0)), (1, .int v1)]) hC dX12_chances_15 rfl (by decide) rfl ?_
    refine ga_iconst (v := 0) hC dX12_chances_16 (by decide) ?_
    refine ga_istore_n (lv' := [(3, .int 0), (2, .int 0), (0, .ref (ad 0)), (1, .int v1)]) hC dX12_chances_17 rfl (by decide) rfl ?_
    refine ga_locals [2, 3, 1, 0] rfl ?_
    exact h p l e s m args below meth c D cy ad hC
set_option maxRecDepth 100000 in
set_option maxHeartbeats 4000000 in
theorem v_X12_chances {σ : cg_S} {Q : cg_S → Prop}
    (h : M_X12_reaches σ (fun s2 => L_X12_chances_6 0 s2 Q)) : M_X12_chances σ Q := by
  refine cg_entry (lv := fun ad => [(0, .ref (ad 0))]) (by decide +kernel) (fun _ => rfl) (fun _ => Nat.le_of_ble_eq_true rfl) ?_
  intro p l e s m args below meth c D cy ad hC
  refine ga_aload_n hC dX12_chances_0 0 rfl rfl ?_
  refine ga_callV (As := []) (st := []) (k := 0) (n := 0) hC h q_7_85 q_7_87 q_0_24 q_1_13 q_7_88 rfl rfl rfl (by decide +kernel) ⟨Nat.le_of_ble_eq_true rfl, Nat.le_of_ble_eq_true rfl⟩ ⟨Nat.le_of_ble_eq_true rfl, Nat.le_of_ble_eq_true rfl⟩ rfl rfl rfl (by decide) rfl (Nat.le_of_ble_eq_true rfl) dX12_chances_1 (fun v τ hq => ?_)
  obtain ⟨rfl, h⟩ := hq
  obtain ⟨s2, es2⟩ : ∃ z, z = τ := ⟨_, rfl⟩
  rw [← es2] at h ⊢
  clear es2
  refine ga_iconst (v := 0) hC dX12_chances_4 (by decide) ?_
  refine ga_istore_n (lv' := [(1, .int 0), (0, .ref (ad 0))]) hC dX12_chances_5 rfl (by decide) rfl ?_
  refine ga_locals [1, 0] rfl ?_
  exact h p l e s m args below meth c D cy ad hC
def M_X12_cost (v1 : Int32) (v2 : Int32) (σ : cg_S) (Q : Int32 → cg_S → Prop) : Prop := cg_M cg_WM yX12_cost cX12_cost 3 (some .int) (cg_R 0) (fun ad => [.ref (ad 0), .int v1, .int v2]) σ (cg_qi Q)
theorem M_X12_cost.mono {v1 : Int32} {v2 : Int32} {σ : cg_S} {Q Q2 : Int32 → cg_S → Prop} (h : M_X12_cost v1 v2 σ Q) (hq : ∀ r τ, Q r τ → Q2 r τ) : M_X12_cost v1 v2 σ Q2 := cg_M.mono h (fun ad v τ ⟨r, e, q⟩ => ⟨r, e, hq r τ q⟩)
set_option maxRecDepth 100000 in
set_option maxHeartbeats 4000000 in
theorem v_X12_cost {v1 : Int32} {v2 : Int32} {σ : cg_S} {Q : Int32 → cg_S → Prop}
    (h : (v1 = 102 → vp_in v2 21 ∧ Q (σ.1 7 v2.toNatClampNeg) σ) ∧ (¬ v1 = 102 → (¬ v1 = 109 → (¬ v1 = 115 → vp_in v2 21 ∧ vp_in v2 21 ∧ Q (((σ.1 0 4) * (σ.1 7 v2.toNatClampNeg)) + ((σ.1 0 5) * (σ.1 8 v2.toNatClampNeg))) σ) ∧ (v1 = 115 → vp_in v2 21 ∧ Q (σ.1 8 v2.toNatClampNeg) σ)) ∧ (v1 = 109 → vp_in v2 21 ∧ Q (σ.1 7 v2.toNatClampNeg) σ))) : M_X12_cost v1 v2 σ Q := by
  refine cg_entry (lv := fun ad => [(0, .ref (ad 0)), (1, .int v1), (2, .int v2)]) (by decide +kernel) (fun _ => rfl) (fun _ => Nat.le_of_ble_eq_true rfl) ?_
  intro p l e s m args below meth c D cy ad hC
  refine ga_iload_n hC dX12_cost_0 1 rfl rfl ?_
  refine ga_bipush (v := 102) hC dX12_cost_1 (by decide) ?_
  refine ga_icmp_eq (tgt := 12) hC dX12_cost_3 (by decide) (fun hc => ?_) (fun hc => ?_)
  · have h := h.1 hc
    refine ga_aload_n hC dX12_cost_12 0 rfl rfl ?_
    refine gM_0_12 hC q_6_97 dX12_cost_13 ?_
    refine ga_iload_n hC dX12_cost_16 2 rfl rfl ?_
    obtain ⟨h1, h⟩ := h
    refine ga_iald hC aM_7 (by decide) h1 dX12_cost_17 ?_
    refine ga_goto (tgt := 59) hC dX12_cost_18 (by decide) ?_
    exact ga_iret hC dX12_cost_59 ⟨_, rfl, h⟩
  · have h := h.2 hc
    refine ga_iload_n hC dX12_cost_6 1 rfl rfl ?_
    refine ga_bipush (v := 109) hC dX12_cost_7 (by decide) ?_
    refine ga_icmp_ne (tgt := 21) hC dX12_cost_9 (by decide) (fun hc => ?_) (fun hc => ?_)
    · have h := h.1 hc
      refine ga_iload_n hC dX12_cost_21 1 rfl rfl ?_
      refine ga_bipush (v := 115) hC dX12_cost_22 (by decide) ?_
      refine ga_icmp_ne (tgt := 36) hC dX12_cost_24 (by decide) (fun hc => ?_) (fun hc => ?_)
      · have h := h.1 hc
        refine ga_aload_n hC dX12_cost_36 0 rfl rfl ?_
        refine gM_0_4 hC q_6_89 dX12_cost_37 ?_
        refine ga_aload_n hC dX12_cost_40 0 rfl rfl ?_
        refine gM_0_12 hC q_6_97 dX12_cost_41 ?_
        refine ga_iload_n hC dX12_cost_44 2 rfl rfl ?_
        obtain ⟨h2, h⟩ := h
        refine ga_iald hC aM_7 (by decide) h2 dX12_cost_45 ?_
        refine ga_imul hC dX12_cost_46 ?_
        refine ga_aload_n hC dX12_cost_47 0 rfl rfl ?_
        refine gM_0_5 hC q_6_90 dX12_cost_48 ?_
        refine ga_aload_n hC dX12_cost_51 0 rfl rfl ?_
        refine gM_0_13 hC q_6_98 dX12_cost_52 ?_
        refine ga_iload_n hC dX12_cost_55 2 rfl rfl ?_
        obtain ⟨h3, h⟩ := h
        refine ga_iald hC aM_8 (by decide) h3 dX12_cost_56 ?_
        refine ga_imul hC dX12_cost_57 ?_
        refine ga_iadd hC dX12_cost_58 ?_
        exact ga_iret hC dX12_cost_59 ⟨_, rfl, h⟩
      · have h := h.2 hc
        refine ga_aload_n hC dX12_cost_27 0 rfl rfl ?_
        refine gM_0_13 hC q_6_98 dX12_cost_28 ?_
        refine ga_iload_n hC dX12_cost_31 2 rfl rfl ?_
        obtain ⟨h4, h⟩ := h
        refine ga_iald hC aM_8 (by decide) h4 dX12_cost_32 ?_
        refine ga_goto (tgt := 59) hC dX12_cost_33 (by decide) ?_
        exact ga_iret hC dX12_cost_59 ⟨_, rfl, h⟩
    · have h := h.2 hc
      refine ga_aload_n hC dX12_cost_12 0 rfl rfl ?_
      refine gM_0_12 hC q_6_97 dX12_cost_13 ?_
      refine ga_iload_n hC dX12_cost_16 2 rfl rfl ?_
      obtain ⟨h5, h⟩ := h
      refine ga_iald hC aM_7 (by decide) h5 dX12_cost_17 ?_
      refine ga_goto (tgt := 59) hC dX12_cost_18 (by decide) ?_
      exact ga_iret hC dX12_cost_59 ⟨_, rfl, h⟩
def M_X12_isClosed (v1 : Int32) (σ : cg_S) (Q : Int32 → cg_S → Prop) : Prop := cg_M cg_WM yX12_isClosed cX12_isClosed 3 (some .boolean) (cg_R 0) (fun ad => [.ref (ad 0), .int v1]) σ (cg_qi Q)
theorem M_X12_isClosed.mono {v1 : Int32} {σ : cg_S} {Q Q2 : Int32 → cg_S → Prop} (h : M_X12_isClosed v1 σ Q) (hq : ∀ r τ, Q r τ → Q2 r τ) : M_X12_isClosed v1 σ Q2 := cg_M.mono h (fun ad v τ ⟨r, e, q⟩ => ⟨r, e, hq r τ q⟩)
def L_X12_isClosed_2 (v1 : Int32) (v2 : Int32) (σ : cg_S) (Q : Int32 → cg_S → Prop) : Prop := cg_L cg_WM RX12 cX12_isClosed 3 (some .boolean) (cg_R 0) 2 (fun ad => [(0, .ref (ad 0)), (1, .int v1), (2, .int v2)]) (fun ad => []) σ (cg_qi Q)
set_option maxRecDepth 100000 in
set_option maxHeartbeats 4000000 in
theorem v_X12_isClosed_2 {v1 : Int32} {v2 : Int32} {σ : cg_S} {Q : Int32 → cg_S → Prop}
    (h : ((σ.1 0 1) ≤ v2 → vp_in ((7 * v1) + v1) 49 ∧ ((σ.1 20 ((7 * v1) + v1).toNatClampNeg) = 0 ∨ (σ.1 20 ((7 * v1) + v1).toNatClampNeg) = 1) ∧ Q (σ.1 20 ((7 * v1) + v1).toNatClampNeg) σ) ∧ (¬ (σ.1 0 1) ≤ v2 → vp_in ((7 * v1) + v2) 49 ∧ ((σ.1 20 ((7 * v1) + v2).toNatClampNeg) = 0 → L_X12_isClosed_2 v1 (v2 + 1) σ Q) ∧ (¬ (σ.1 20 ((7 * v1) + v2).toNatClampNeg) = 0 → vp_in ((7 * v2) + v1) 49 ∧ (¬ (σ.1 20 ((7 * v2) + v1).toNatClampNeg) = 0 → L_X12_isClosed_2 v1 (v2 + 1) σ Q) ∧ ((σ.1 20 ((7 * v2) + v1).toNatClampNeg) = 0 → Q 0 σ)))) : L_X12_isClosed_2 v1 v2 σ Q := by
  intro p l e s m args below meth c D cy ad hC
  refine ga_iload_n hC dX12_isClosed_2 2 rfl rfl ?_
  refine ga_aload_n hC dX12_isClosed_3 0 rfl rfl ?_
  refine gM_0_1 hC q_6_86 dX12_isClosed_4 ?_
  refine ga_icmp_ge (tgt := 46) hC dX12_isClosed_7 (by decide) (fun hc => ?_) (fun hc => ?_)
  · have h := h.1 hc
    refine ga_aload_n hC dX12_isClosed_46 0 rfl rfl ?_
    refine gM_0_31 hC q_6_116 dX12_isClosed_47 ?_
    refine ga_bipush (v := 7) hC dX12_isClosed_50 (by decide) ?_
    refine ga_iload_n hC dX12_isClosed_52 1 rfl rfl ?_
    refine ga_imul hC dX12_isClosed_53 ?_
    refine ga_iload_n hC dX12_isClosed_54 1 rfl rfl ?_
    refine ga_iadd hC dX12_isClosed_55 ?_
    obtain ⟨h1, h⟩ := h
    refine ga_zald hC aM_20 (by decide) h1 dX12_isClosed_56 ?_
    exact ga_zret hC dX12_isClosed_57 h.1 ⟨_, rfl, h.2⟩
  · have h := h.2 hc
    refine ga_aload_n hC dX12_isClosed_10 0 rfl rfl ?_
    refine gM_0_31 hC q_6_116 dX12_isClosed_11 ?_
    refine ga_bipush (v := 7) hC dX12_isClosed_14 (by decide) ?_
    refine ga_iload_n hC dX12_isClosed_16 1 rfl rfl ?_
    refine ga_imul hC dX12_isClosed_17 ?_
    refine ga_iload_n hC dX12_isClosed_18 2 rfl rfl ?_
    refine ga_iadd hC dX12_isClosed_19 ?_
    obtain ⟨h2, h⟩ := h
    refine ga_zald hC aM_20 (by decide) h2 dX12_isClosed_20 ?_
    refine ga_if_eq (tgt := 40) hC dX12_isClosed_21 (by decide) (fun hc => ?_) (fun hc => ?_)
    · have h := h.1 hc
      refine ga_iinc (v := v2 + 1) (lv' := [(2, .int (v2 + 1)), (0, .ref (ad 0)), (1, .int v1)]) hC dX12_isClosed_40 2 rfl rfl (by decide) rfl ?_
      refine ga_goto (tgt := 2) hC dX12_isClosed_43 (by decide) ?_
      refine ga_locals [1, 2, 0] rfl ?_
      exact h p l e s m args below meth c D cy ad hC
    · have h := h.2 hc
      refine ga_aload_n hC dX12_isClosed_24 0 rfl rfl ?_
      refine gM_0_31 hC q_6_116 dX12_isClosed_25 ?_
      refine ga_bipush (v := 7) hC dX12_isClosed_28 (by decide) ?_
      refine ga_iload_n hC dX12_isClosed_30 2 rfl rfl ?_
      refine ga_imul hC dX12_isClosed_31 ?_
      refine ga_iload_n hC dX12_isClosed_32 1 rfl rfl ?_
      refine ga_iadd hC dX12_isClosed_33 ?_
      obtain ⟨h3, h⟩ := h
      refine ga_zald hC aM_20 (by decide) h3 dX12_isClosed_34 ?_
      refine ga_if_ne (tgt := 40) hC dX12_isClosed_35 (by decide) (fun hc => ?_) (fun hc => ?_)
      · have h := h.1 hc
        refine ga_iinc (v := v2 + 1) (lv' := [(2, .int (v2 + 1)), (0, .ref (ad 0)), (1, .int v1)]) hC dX12_isClosed_40 2 rfl rfl (by decide) rfl ?_
        refine ga_goto (tgt := 2) hC dX12_isClosed_43 (by decide) ?_
        refine ga_locals [1, 2, 0] rfl ?_
        exact h p l e s m args below meth c D cy ad hC
      · have h := h.2 hc
        refine ga_iconst (v := 0) hC dX12_isClosed_38 (by decide) ?_
        exact ga_zret hC dX12_isClosed_39 (by decide) ⟨_, rfl, h⟩
set_option maxRecDepth 100000 in
set_option maxHeartbeats 4000000 in
theorem v_X12_isClosed {v1 : Int32} {σ : cg_S} {Q : Int32 → cg_S → Prop}
    (h : L_X12_isClosed_2 v1 0 σ Q) : M_X12_isClosed v1 σ Q := by
  refine cg_entry (lv := fun ad => [(0, .ref (ad 0)), (1, .int v1)]) (by decide +kernel) (fun _ => rfl) (fun _ => Nat.le_of_ble_eq_true rfl) ?_
  intro p l e s m args below meth c D cy ad hC
  refine ga_iconst (v := 0) hC dX12_isClosed_0 (by decide) ?_
  refine ga_istore_n (lv' := [(2, .int 0), (0, .ref (ad 0)), (1, .int v1)]) hC dX12_isClosed_1 rfl (by decide) rfl ?_
  refine ga_locals [1, 2, 0] rfl ?_
  exact h p l e s m args below meth c D cy ad hC
def M_X12_areTogether (v1 : Int32) (v2 : Int32) (σ : cg_S) (Q : Int32 → cg_S → Prop) : Prop := cg_M cg_WM yX12_areTogether cX12_areTogether 3 (some .boolean) (cg_R 0) (fun ad => [.ref (ad 0), .int v1, .int v2]) σ (cg_qi Q)
theorem M_X12_areTogether.mono {v1 : Int32} {v2 : Int32} {σ : cg_S} {Q Q2 : Int32 → cg_S → Prop} (h : M_X12_areTogether v1 v2 σ Q) (hq : ∀ r τ, Q r τ → Q2 r τ) : M_X12_areTogether v1 v2 σ Q2 := cg_M.mono h (fun ad v τ ⟨r, e, q⟩ => ⟨r, e, hq r τ q⟩)
set_option maxRecDepth 100000 in
set_option maxHeartbeats 4000000 in
theorem v_X12_areTogether {v1 : Int32} {v2 : Int32} {σ : cg_S} {Q : Int32 → cg_S → Prop}
    (h : (v1 = v2 → Q 1 σ) ∧ (¬ v1 = v2 → vp_in ((7 * v1) + v2) 49 ∧ ((σ.1 20 ((7 * v1) + v2).toNatClampNeg) = 0 → Q 0 σ) ∧ (¬ (σ.1 20 ((7 * v1) + v2).toNatClampNeg) = 0 → vp_in ((7 * v2) + v1) 49 ∧ ((σ.1 20 ((7 * v2) + v1).toNatClampNeg) = 0 → Q 0 σ) ∧ (¬ (σ.1 20 ((7 * v2) + v1).toNatClampNeg) = 0 → Q 1 σ)))) : M_X12_areTogether v1 v2 σ Q := by
  refine cg_entry (lv := fun ad => [(0, .ref (ad 0)), (1, .int v1), (2, .int v2)]) (by decide +kernel) (fun _ => rfl) (fun _ => Nat.le_of_ble_eq_true rfl) ?_
  intro p l e s m args below meth c D cy ad hC
  refine ga_iload_n hC dX12_areTogether_0 1 rfl rfl ?_
  refine ga_iload_n hC dX12_areTogether_1 2 rfl rfl ?_
  refine ga_icmp_eq (tgt := 33) hC dX12_areTogether_2 (by decide) (fun hc => ?_) (fun hc => ?_)
  · have h := h.1 hc
    refine ga_iconst (v := 1) hC dX12_areTogether_33 (by decide) ?_
    refine ga_goto (tgt := 38) hC dX12_areTogether_34 (by decide) ?_
    exact ga_zret hC dX12_areTogether_38 (by decide) ⟨_, rfl, h⟩
  · have h := h.2 hc
    refine ga_aload_n hC dX12_areTogether_5 0 rfl rfl ?_
    refine gM_0_31 hC q_6_116 dX12_areTogether_6 ?_
    refine ga_bipush (v := 7) hC dX12_areTogether_9 (by decide) ?_
    refine ga_iload_n hC dX12_areTogether_11 1 rfl rfl ?_
    refine ga_imul hC dX12_areTogether_12 ?_
    refine ga_iload_n hC dX12_areTogether_13 2 rfl rfl ?_
    refine ga_iadd hC dX12_areTogether_14 ?_
    obtain ⟨h1, h⟩ := h
    refine ga_zald hC aM_20 (by decide) h1 dX12_areTogether_15 ?_
    refine ga_if_eq (tgt := 37) hC dX12_areTogether_16 (by decide) (fun hc => ?_) (fun hc => ?_)
    · have h := h.1 hc
      refine ga_iconst (v := 0) hC dX12_areTogether_37 (by decide) ?_
      exact ga_zret hC dX12_areTogether_38 (by decide) ⟨_, rfl, h⟩
    · have h := h.2 hc
      refine ga_aload_n hC dX12_areTogether_19 0 rfl rfl ?_
      refine gM_0_31 hC q_6_116 dX12_areTogether_20 ?_
      refine ga_bipush (v := 7) hC dX12_areTogether_23 (by decide) ?_
      refine ga_iload_n hC dX12_areTogether_25 2 rfl rfl ?_
      refine ga_imul hC dX12_areTogether_26 ?_
      refine ga_iload_n hC dX12_areTogether_27 1 rfl rfl ?_
      refine ga_iadd hC dX12_areTogether_28 ?_
      obtain ⟨h2, h⟩ := h
      refine ga_zald hC aM_20 (by decide) h2 dX12_areTogether_29 ?_
      refine ga_if_eq (tgt := 37) hC dX12_areTogether_30 (by decide) (fun hc => ?_) (fun hc => ?_)
      · have h := h.1 hc
        refine ga_iconst (v := 0) hC dX12_areTogether_37 (by decide) ?_
        exact ga_zret hC dX12_areTogether_38 (by decide) ⟨_, rfl, h⟩
      · have h := h.2 hc
        refine ga_iconst (v := 1) hC dX12_areTogether_33 (by decide) ?_
        refine ga_goto (tgt := 38) hC dX12_areTogether_34 (by decide) ?_
        exact ga_zret hC dX12_areTogether_38 (by decide) ⟨_, rfl, h⟩
def M_X12_lowestOf (v1 : Int32) (σ : cg_S) (Q : Int32 → cg_S → Prop) : Prop := cg_M cg_WM yX12_lowestOf cX12_lowestOf 3 (some .int) (cg_R 1) (fun ad => [.ref (ad 0), .int v1]) σ (cg_qi Q)
theorem M_X12_lowestOf.mono {v1 : Int32} {σ : cg_S} {Q Q2 : Int32 → cg_S → Prop} (h : M_X12_lowestOf v1 σ Q) (hq : ∀ r τ, Q r τ → Q2 r τ) : M_X12_lowestOf v1 σ Q2 := cg_M.mono h (fun ad v τ ⟨r, e, q⟩ => ⟨r, e, hq r τ q⟩)
def L_X12_lowestOf_2 (v1 : Int32) (v2 : Int32) (σ : cg_S) (Q : Int32 → cg_S → Prop) : Prop := cg_L cg_WM RX12 cX12_lowestOf 3 (some .int) (cg_R 1) 2 (fun ad => [(0, .ref (ad 0)), (1, .int v1), (2, .int v2)]) (fun ad => []) σ (cg_qi Q)
set_option maxRecDepth 100000 in
set_option maxHeartbeats 4000000 in
theorem v_X12_lowestOf_2 {v1 : Int32} {v2 : Int32} {σ : cg_S} {Q : Int32 → cg_S → Prop}
    (h : (v1 ≤ v2 → Q v1 σ) ∧ (¬ v1 ≤ v2 → M_X12_areTogether v2 v1 σ (fun r1 s2 => (r1 = 0 → L_X12_lowestOf_2 v1 (v2 + 1) s2 Q) ∧ (¬ r1 = 0 → Q v2 s2)))) : L_X12_lowestOf_2 v1 v2 σ Q := by
  intro p l e s m args below meth c D cy ad hC
  refine ga_iload_n hC dX12_lowestOf_2 2 rfl rfl ?_
  refine ga_iload_n hC dX12_lowestOf_3 1 rfl rfl ?_
  refine ga_icmp_ge (tgt := 24) hC dX12_lowestOf_4 (by decide) (fun hc => ?_) (fun hc => ?_)
  · have h := h.1 hc
    refine ga_iload_n hC dX12_lowestOf_24 1 rfl rfl ?_
    exact ga_iret hC dX12_lowestOf_25 ⟨_, rfl, h⟩
  · have h := h.2 hc
    refine ga_aload_n hC dX12_lowestOf_7 0 rfl rfl ?_
    refine ga_iload_n hC dX12_lowestOf_8 2 rfl rfl ?_
    refine ga_iload_n hC dX12_lowestOf_9 1 rfl rfl ?_
    refine ga_callV (As := [.int v2, .int v1]) (st := []) (k := 0) (n := 2) hC h q_7_105 q_7_107 q_0_29 q_1_13 q_7_108 rfl rfl rfl (by decide +kernel) ⟨Nat.le_of_ble_eq_true rfl, Nat.le_of_ble_eq_true rfl⟩ ⟨Nat.le_of_ble_eq_true rfl, Nat.le_of_ble_eq_true rfl⟩ rfl rfl rfl (by decide) rfl (Nat.le_of_ble_eq_true rfl) dX12_lowestOf_10 (fun v τ hq => ?_)
    obtain ⟨r1, rfl, h⟩ := hq
    obtain ⟨s2, es2⟩ : ∃ z, z = τ := ⟨_, rfl⟩
    rw [← es2] at h ⊢
    clear es2
    refine ga_if_eq (tgt := 18) hC dX12_lowestOf_13 (by decide) (fun hc => ?_) (fun hc => ?_)
    · have h := h.1 hc
      refine ga_iinc (v := v2 + 1) (lv' := [(2, .int (v2 + 1)), (0, .ref (ad 0)), (1, .int v1)]) hC dX12_lowestOf_18 2 rfl rfl (by decide) rfl ?_
      refine ga_goto (tgt := 2) hC dX12_lowestOf_21 (by decide) ?_
      refine ga_locals [1, 2, 0] rfl ?_
      exact h p l e s m args below meth c D cy ad hC
    · have h := h.2 hc
      refine ga_iload_n hC dX12_lowestOf_16 2 rfl rfl ?_
      exact ga_iret hC dX12_lowestOf_17 ⟨_, rfl, h⟩
set_option maxRecDepth 100000 in
set_option maxHeartbeats 4000000 in
theorem v_X12_lowestOf {v1 : Int32} {σ : cg_S} {Q : Int32 → cg_S → Prop}
    (h : L_X12_lowestOf_2 v1 0 σ Q) : M_X12_lowestOf v1 σ Q := by
  refine cg_entry (lv := fun ad => [(0, .ref (ad 0)), (1, .int v1)]) (by decide +kernel) (fun _ => rfl) (fun _ => Nat.le_of_ble_eq_true rfl) ?_
  intro p l e s m args below meth c D cy ad hC
  refine ga_iconst (v := 0) hC dX12_lowestOf_0 (by decide) ?_
  refine ga_istore_n (lv' := [(2, .int 0), (0, .ref (ad 0)), (1, .int v1)]) hC dX12_lowestOf_1 rfl (by decide) rfl ?_
  refine ga_locals [1, 2, 0] rfl ?_
  exact h p l e s m args below meth c D cy ad hC
def M_X12_cycle (v1 : Int32) (v2 : Int32) (σ : cg_S) (Q : Int64 → cg_S → Prop) : Prop := cg_M cg_WM yX12_cycle cX12_cycle 6 (some .long) (cg_R 3) (fun ad => [.ref (ad 0), .int v1, .int v2]) σ (cg_ql Q)
theorem M_X12_cycle.mono {v1 : Int32} {v2 : Int32} {σ : cg_S} {Q Q2 : Int64 → cg_S → Prop} (h : M_X12_cycle v1 v2 σ Q) (hq : ∀ r τ, Q r τ → Q2 r τ) : M_X12_cycle v1 v2 σ Q2 := cg_M.mono h (fun ad v τ ⟨r, e, q⟩ => ⟨r, e, hq r τ q⟩)
def L_X12_cycle_2 (v1 : Int32) (v2 : Int32) (v3 : Int32) (σ : cg_S) (Q : Int64 → cg_S → Prop) : Prop := cg_L cg_WM RX12 cX12_cycle 6 (some .long) (cg_R 3) 2 (fun ad => [(0, .ref (ad 0)), (1, .int v1), (2, .int v2), (3, .int v3)]) (fun ad => []) σ (cg_ql Q)
def L_X12_cycle_24 (v1 : Int32) (v2 : Int32) (v3 : Int32) (σ : cg_S) (Q : Int64 → cg_S → Prop) : Prop := cg_L cg_WM RX12 cX12_cycle 6 (some .long) (cg_R 3) 24 (fun ad => [(0, .ref (ad 0)), (1, .int v1), (2, .int v2), (3, .int v3)]) (fun ad => []) σ (cg_ql Q)
def L_X12_cycle_55 (v1 : Int32) (v2 : Int32) (v3 : Int32) (t1 : Int32) (t2 : Int64) (σ : cg_S) (Q : Int64 → cg_S → Prop) : Prop := cg_L cg_WM RX12 cX12_cycle 6 (some .long) (cg_R 3) 55 (fun ad => [(0, .ref (ad 0)), (1, .int v1), (2, .int v2), (3, .int v3)]) (fun ad => [.long t2, .int t1, .ref (ad 0)]) σ (cg_ql Q)
def L_X12_cycle_111 (v1 : Int32) (v3 : Int64) (v5 : Int32) (σ : cg_S) (Q : Int64 → cg_S → Prop) : Prop := cg_L cg_WM RX12 cX12_cycle 6 (some .long) (cg_R 3) 111 (fun ad => [(0, .ref (ad 0)), (1, .int v1), (3, .long v3), (5, .int v5)]) (fun ad => []) σ (cg_ql Q)
set_option maxRecDepth 100000 in
set_option maxHeartbeats 4000000 in
theorem v_X12_cycle_111 {v1 : Int32} {v3 : Int64} {v5 : Int32} {σ : cg_S} {Q : Int64 → cg_S → Prop}
    (h : ((σ.1 0 1) ≤ v5 → Q v3 σ) ∧ (¬ (σ.1 0 1) ≤ v5 → M_X12_weightTo v1 v5 σ (fun r1 s2 => M_X12_solved v5 s2 (fun r4 s5 => ∀ x7 : Int64, x7 = v3 + (r1.toInt64 * r4) → L_X12_cycle_111 v1 x7 (v5 + 1) s5 Q)))) : L_X12_cycle_111 v1 v3 v5 σ Q := by
  intro p l e s m args below meth c D cy ad hC
  refine ga_iload hC dX12_cycle_111 3 rfl ?_
  refine ga_aload_n hC dX12_cycle_113 0 rfl rfl ?_
  refine gM_0_1 hC q_6_86 dX12_cycle_114 ?_
  refine ga_icmp_ge (tgt := 144) hC dX12_cycle_117 (by decide) (fun hc => ?_) (fun hc => ?_)
  · have h := h.1 hc
    refine ga_lload_n hC dX12_cycle_144 2 rfl rfl ?_
    exact ga_lret hC dX12_cycle_145 ⟨_, rfl, h⟩
  · have h := h.2 hc
    refine ga_lload_n hC dX12_cycle_120 2 rfl rfl ?_
    refine ga_aload_n hC dX12_cycle_121 0 rfl rfl ?_
    refine ga_iload_n hC dX12_cycle_122 1 rfl rfl ?_
    refine ga_iload hC dX12_cycle_123 3 rfl ?_
    refine ga_callV (As := [.int v1, .int v5]) (st := [.long v3]) (k := 0) (n := 2) hC h q_7_89 q_7_91 q_0_25 q_1_13 q_7_92 rfl rfl rfl (by decide +kernel) ⟨Nat.le_of_ble_eq_true rfl, Nat.le_of_ble_eq_true rfl⟩ ⟨Nat.le_of_ble_eq_true rfl, Nat.le_of_ble_eq_true rfl⟩ rfl rfl rfl (by decide) rfl (Nat.le_of_ble_eq_true rfl) dX12_cycle_125 (fun v τ hq => ?_)
    obtain ⟨r1, rfl, h⟩ := hq
    obtain ⟨s2, es2⟩ : ∃ z, z = τ := ⟨_, rfl⟩
    rw [← es2] at h ⊢
    clear es2
    refine ga_i2l hC dX12_cycle_128 ?_
    refine ga_aload_n hC dX12_cycle_129 0 rfl rfl ?_
    refine ga_iload hC dX12_cycle_130 3 rfl ?_
    refine ga_callV (As := [.int v5]) (st := [.long r1.toInt64, .long v3]) (k := 0) (n := 1) hC h q_7_129 q_7_131 q_0_35 q_1_13 q_7_132 rfl rfl rfl (by decide +kernel) ⟨Nat.le_of_ble_eq_true rfl, Nat.le_of_ble_eq_true rfl⟩ ⟨Nat.le_of_ble_eq_true rfl, Nat.le_of_ble_eq_true rfl⟩ rfl rfl rfl (by decide) rfl (Nat.le_of_ble_eq_true rfl) dX12_cycle_132 (fun v τ hq => ?_)
    obtain ⟨r4, rfl, h⟩ := hq
    obtain ⟨s5, es5⟩ : ∃ z, z = τ := ⟨_, rfl⟩
    rw [← es5] at h ⊢
    clear es5
    refine ga_lmul hC dX12_cycle_135 ?_
    refine ga_ladd hC dX12_cycle_136 ?_
    refine ga_topl (fun x7 ex7 => ?_)
    have h := h x7 ex7
    refine ga_lstore_n (lv' := [(3, .long x7), (0, .ref (ad 0)), (1, .int v1), (5, .int v5)]) hC dX12_cycle_137 rfl (by decide) rfl ?_
    refine ga_iinc (v := v5 + 1) (lv' := [(5, .int (v5 + 1)), (3, .long x7), (0, .ref (ad 0)), (1, .int v1)]) hC dX12_cycle_138 3 rfl rfl (by decide) rfl ?_
    refine ga_goto (tgt := 111) hC dX12_cycle_141 (by decide) ?_
    refine ga_locals [2, 3, 1, 0] rfl ?_
    exact h p l e s m args below meth c D cy ad hC
set_option maxRecDepth 100000 in
set_option maxHeartbeats 4000000 in
theorem v_X12_cycle_55 {v1 : Int32} {v2 : Int32} {v3 : Int32} {t1 : Int32} {t2 : Int64} {σ : cg_S} {Q : Int64 → cg_S → Prop}
    (h : M_X12_laysStep t1 t2 1 1 σ (fun s2 => L_X12_cycle_2 v1 v2 (v3 + 1) s2 Q)) : L_X12_cycle_55 v1 v2 v3 t1 t2 σ Q := by
  intro p l e s m args below meth c D cy ad hC
  refine ga_iconst (v := 1) hC dX12_cycle_55 (by decide) ?_
  refine ga_iconst (v := 1) hC dX12_cycle_56 (by decide) ?_
  refine ga_callV (As := [.int t1, .long t2, .int 1, .int 1]) (st := []) (k := 0) (n := 4) hC h q_7_121 q_7_123 q_0_33 q_1_13 q_7_124 rfl rfl rfl (by decide +kernel) ⟨Nat.le_of_ble_eq_true rfl, Nat.le_of_ble_eq_true rfl⟩ ⟨Nat.le_of_ble_eq_true rfl, Nat.le_of_ble_eq_true rfl⟩ rfl rfl rfl (by decide) rfl (Nat.le_of_ble_eq_true rfl) dX12_cycle_57 (fun v τ hq => ?_)
  obtain ⟨rfl, h⟩ := hq
  obtain ⟨s2, es2⟩ : ∃ z, z = τ := ⟨_, rfl⟩
  rw [← es2] at h ⊢
  clear es2
  refine ga_iinc (v := v3 + 1) (lv' := [(3, .int (v3 + 1)), (0, .ref (ad 0)), (1, .int v1), (2, .int v2)]) hC dX12_cycle_60 3 rfl rfl (by decide) rfl ?_
  refine ga_goto (tgt := 2) hC dX12_cycle_63 (by decide) ?_
  refine ga_locals [1, 2, 3, 0] rfl ?_
  exact h p l e s m args below meth c D cy ad hC
set_option maxRecDepth 100000 in
set_option maxHeartbeats 4000000 in
theorem v_X12_cycle_24 {v1 : Int32} {v2 : Int32} {v3 : Int32} {σ : cg_S} {Q : Int64 → cg_S → Prop}
    (h : M_X12_laysNumber v3 0 σ (fun s2 => L_X12_cycle_2 v1 v2 (v3 + 1) s2 Q)) : L_X12_cycle_24 v1 v2 v3 σ Q := by
  intro p l e s m args below meth c D cy ad hC
  refine ga_aload_n hC dX12_cycle_24 0 rfl rfl ?_
  refine ga_iload_n hC dX12_cycle_25 3 rfl rfl ?_
  refine ga_lconst (v := 0) hC dX12_cycle_26 (by decide) ?_
  refine ga_callV (As := [.int v3, .long 0]) (st := []) (k := 0) (n := 2) hC h q_7_113 q_7_115 q_0_31 q_1_13 q_7_116 rfl rfl rfl (by decide +kernel) ⟨Nat.le_of_ble_eq_true rfl, Nat.le_of_ble_eq_true rfl⟩ ⟨Nat.le_of_ble_eq_true rfl, Nat.le_of_ble_eq_true rfl⟩ rfl rfl rfl (by decide) rfl (Nat.le_of_ble_eq_true rfl) dX12_cycle_27 (fun v τ hq => ?_)
  obtain ⟨rfl, h⟩ := hq
  obtain ⟨s2, es2⟩ : ∃ z, z = τ := ⟨_, rfl⟩
  rw [← es2] at h ⊢
  clear es2
  refine ga_goto (tgt := 60) hC dX12_cycle_30 (by decide) ?_
  refine ga_iinc (v := v3 + 1) (lv' := [(3, .int (v3 + 1)), (0, .ref (ad 0)), (1, .int v1), (2, .int v2)]) hC dX12_cycle_60 3 rfl rfl (by decide) rfl ?_
  refine ga_goto (tgt := 2) hC dX12_cycle_63 (by decide) ?_
  refine ga_locals [1, 2, 3, 0] rfl ?_
  exact h p l e s m args below meth c D cy ad hC
set_option maxRecDepth 100000 in
set_option maxHeartbeats 4000000 in
theorem v_X12_cycle_2 {v1 : Int32} {v2 : Int32} {v3 : Int32} {σ : cg_S} {Q : Int64 → cg_S → Prop}
    (h : ((σ.1 0 1) ≤ v3 → M_X12_solves σ (fun s2 => M_X12_at v1 s2 (fun r4 s5 => vp_in r4 21 ∧ (v2 = 0 → ∀ x8 : Int64, x8 = (((s5.1 9 r4.toNatClampNeg).toInt64) * 1) * (s5.2.1 0 39) → L_X12_cycle_111 v1 x8 0 s5 Q) ∧ (¬ v2 = 0 → M_X12_at v1 s5 (fun r9 s10 => M_X12_cost 109 r9 s10 (fun r12 s13 => ∀ x15 : Int64, x15 = (((s5.1 9 r4.toNatClampNeg).toInt64) * r12.toInt64) * (s13.2.1 0 39) → L_X12_cycle_111 v1 x15 0 s13 Q)))))) ∧ (¬ (σ.1 0 1) ≤ v3 → (v3 = v1 → L_X12_cycle_24 v1 v2 v3 σ Q) ∧ (¬ v3 = v1 → M_X12_areTogether v3 v1 σ (fun r16 s17 => (¬ r16 = 0 → (v2 = 0 → L_X12_cycle_55 v1 v2 v3 v3 1 s17 Q) ∧ (¬ v2 = 0 → M_X12_at v3 s17 (fun r19 s20 => M_X12_cost 109 r19 s20 (fun r22 s23 => L_X12_cycle_55 v1 v2 v3 v3 r22.toInt64 s23 Q)))) ∧ (r16 = 0 → L_X12_cycle_24 v1 v2 v3 s17 Q))))) : L_X12_cycle_2 v1 v2 v3 σ Q := by
  intro p l e s m args below meth c D cy ad hC
  refine ga_iload_n hC dX12_cycle_2 3 rfl rfl ?_
  refine ga_aload_n hC dX12_cycle_3 0 rfl rfl ?_
  refine gM_0_1 hC q_6_86 dX12_cycle_4 ?_
  refine ga_icmp_ge (tgt := 66) hC dX12_cycle_7 (by decide) (fun hc => ?_) (fun hc => ?_)
  · have h := h.1 hc
    refine ga_aload_n hC dX12_cycle_66 0 rfl rfl ?_
    refine ga_callV (As := []) (st := []) (k := 0) (n := 0) hC h q_7_125 q_7_127 q_0_34 q_1_13 q_7_128 rfl rfl rfl (by decide +kernel) ⟨Nat.le_of_ble_eq_true rfl, Nat.le_of_ble_eq_true rfl⟩ ⟨Nat.le_of_ble_eq_true rfl, Nat.le_of_ble_eq_true rfl⟩ rfl rfl rfl (by decide) rfl (Nat.le_of_ble_eq_true rfl) dX12_cycle_67 (fun v τ hq => ?_)
    obtain ⟨rfl, h⟩ := hq
    obtain ⟨s2, es2⟩ : ∃ z, z = τ := ⟨_, rfl⟩
    rw [← es2] at h ⊢
    clear es2
    refine ga_aload_n hC dX12_cycle_70 0 rfl rfl ?_
    refine gM_0_14 hC q_6_99 dX12_cycle_71 ?_
    refine ga_aload_n hC dX12_cycle_74 0 rfl rfl ?_
    refine ga_iload_n hC dX12_cycle_75 1 rfl rfl ?_
    refine ga_callV (As := [.int v1]) (st := [.ref (ad 9)]) (k := 0) (n := 1) hC h q_7_93 q_7_95 q_0_26 q_1_13 q_7_96 rfl rfl rfl (by decide +kernel) ⟨Nat.le_of_ble_eq_true rfl, Nat.le_of_ble_eq_true rfl⟩ ⟨Nat.le_of_ble_eq_true rfl, Nat.le_of_ble_eq_true rfl⟩ rfl rfl rfl (by decide) rfl (Nat.le_of_ble_eq_true rfl) dX12_cycle_76 (fun v τ hq => ?_)
    obtain ⟨r4, rfl, h⟩ := hq
    obtain ⟨s5, es5⟩ : ∃ z, z = τ := ⟨_, rfl⟩
    rw [← es5] at h ⊢
    clear es5
    obtain ⟨h7, h⟩ := h
    refine ga_iald hC aM_9 (by decide) h7 dX12_cycle_79 ?_
    refine ga_i2l hC dX12_cycle_80 ?_
    refine ga_iload_n hC dX12_cycle_81 2 rfl rfl ?_
    refine ga_if_eq (tgt := 100) hC dX12_cycle_82 (by decide) (fun hc => ?_) (fun hc => ?_)
    · have h := h.1 hc
      refine ga_lconst (v := 1) hC dX12_cycle_100 (by decide) ?_
      refine ga_lmul hC dX12_cycle_101 ?_
      refine ga_aload_n hC dX12_cycle_102 0 rfl rfl ?_
      refine gM_0_39 hC q_6_124 dX12_cycle_103 ?_
      refine ga_lmul hC dX12_cycle_106 ?_
      refine ga_topl (fun x8 ex8 => ?_)
      have h := h x8 ex8
      refine ga_lstore_n (lv' := [(3, .long x8), (0, .ref (ad 0)), (1, .int v1), (2, .int v2)]) hC dX12_cycle_107 rfl (by decide) rfl ?_
      refine ga_iconst (v := 0) hC dX12_cycle_108 (by decide) ?_
      refine ga_istore (lv' := [(5, .int 0), (3, .long x8), (0, .ref (ad 0)), (1, .int v1), (2, .int v2)]) hC dX12_cycle_109 (by decide) rfl ?_
      refine ga_locals [2, 3, 1, 0] rfl ?_
      exact h p l e s m args below meth c D cy ad hC
    · have h := h.2 hc
      refine ga_aload_n hC dX12_cycle_85 0 rfl rfl ?_
      refine ga_bipush (v := 109) hC dX12_cycle_86 (by decide) ?_
      refine ga_aload_n hC dX12_cycle_88 0 rfl rfl ?_
      refine ga_iload_n hC dX12_cycle_89 1 rfl rfl ?_
      refine ga_callV (As := [.int v1]) (st := [.int 109, .ref (ad 0), .long ((s5.1 9 r4.toNatClampNeg).toInt64)]) (k := 0) (n := 1) hC h q_7_93 q_7_95 q_0_26 q_1_13 q_7_96 rfl rfl rfl (by decide +kernel) ⟨Nat.le_of_ble_eq_true rfl, Nat.le_of_ble_eq_true rfl⟩ ⟨Nat.le_of_ble_eq_true rfl, Nat.le_of_ble_eq_true rfl⟩ rfl rfl rfl (by decide) rfl (Nat.le_of_ble_eq_true rfl) dX12_cycle_90 (fun v τ hq => ?_)
      obtain ⟨r9, rfl, h⟩ := hq
      obtain ⟨s10, es10⟩ : ∃ z, z = τ := ⟨_, rfl⟩
      rw [← es10] at h ⊢
      clear es10
      refine ga_callV (As := [.int 109, .int r9]) (st := [.long ((s5.1 9 r4.toNatClampNeg).toInt64)]) (k := 0) (n := 2) hC h q_7_117 q_7_119 q_0_32 q_1_13 q_7_120 rfl rfl rfl (by decide +kernel) ⟨Nat.le_of_ble_eq_true rfl, Nat.le_of_ble_eq_true rfl⟩ ⟨Nat.le_of_ble_eq_true rfl, Nat.le_of_ble_eq_true rfl⟩ rfl rfl rfl (by decide) rfl (Nat.le_of_ble_eq_true rfl) dX12_cycle_93 (fun v τ hq => ?_)
      obtain ⟨r12, rfl, h⟩ := hq
      obtain ⟨s13, es13⟩ : ∃ z, z = τ := ⟨_, rfl⟩
      rw [← es13] at h ⊢
      clear es13
      refine ga_i2l hC dX12_cycle_96 ?_
      refine ga_goto (tgt := 101) hC dX12_cycle_97 (by decide) ?_
      refine ga_lmul hC dX12_cycle_101 ?_
      refine ga_aload_n hC dX12_cycle_102 0 rfl rfl ?_
      refine gM_0_39 hC q_6_124 dX12_cycle_103 ?_
      refine ga_lmul hC dX12_cycle_106 ?_
      refine ga_topl (fun x15 ex15 => ?_)
      have h := h x15 ex15
      refine ga_lstore_n (lv' := [(3, .long x15), (0, .ref (ad 0)), (1, .int v1), (2, .int v2)]) hC dX12_cycle_107 rfl (by decide) rfl ?_
      refine ga_iconst (v := 0) hC dX12_cycle_108 (by decide) ?_
      refine ga_istore (lv' := [(5, .int 0), (3, .long x15), (0, .ref (ad 0)), (1, .int v1), (2, .int v2)]) hC dX12_cycle_109 (by decide) rfl ?_
      refine ga_locals [2, 3, 1, 0] rfl ?_
      exact h p l e s m args below meth c D cy ad hC
  · have h := h.2 hc
    refine ga_iload_n hC dX12_cycle_10 3 rfl rfl ?_
    refine ga_iload_n hC dX12_cycle_11 1 rfl rfl ?_
    refine ga_icmp_eq (tgt := 24) hC dX12_cycle_12 (by decide) (fun hc => ?_) (fun hc => ?_)
    · have h := h.1 hc
      refine ga_locals [0, 1, 2, 3] rfl ?_
      exact h p l e s m args below meth c D cy ad hC
    · have h := h.2 hc
      refine ga_aload_n hC dX12_cycle_15 0 rfl rfl ?_
      refine ga_iload_n hC dX12_cycle_16 3 rfl rfl ?_
      refine ga_iload_n hC dX12_cycle_17 1 rfl rfl ?_
      refine ga_callV (As := [.int v3, .int v1]) (st := []) (k := 0) (n := 2) hC h q_7_105 q_7_107 q_0_29 q_1_13 q_7_108 rfl rfl rfl (by decide +kernel) ⟨Nat.le_of_ble_eq_true rfl, Nat.le_of_ble_eq_true rfl⟩ ⟨Nat.le_of_ble_eq_true rfl, Nat.le_of_ble_eq_true rfl⟩ rfl rfl rfl (by decide) rfl (Nat.le_of_ble_eq_true rfl) dX12_cycle_18 (fun v τ hq => ?_)
      obtain ⟨r16, rfl, h⟩ := hq
      obtain ⟨s17, es17⟩ : ∃ z, z = τ := ⟨_, rfl⟩
      rw [← es17] at h ⊢
      clear es17
      refine ga_if_ne (tgt := 33) hC dX12_cycle_21 (by decide) (fun hc => ?_) (fun hc => ?_)
      · have h := h.1 hc
        refine ga_aload_n hC dX12_cycle_33 0 rfl rfl ?_
        refine ga_iload_n hC dX12_cycle_34 3 rfl rfl ?_
        refine ga_iload_n hC dX12_cycle_35 2 rfl rfl ?_
        refine ga_if_eq (tgt := 54) hC dX12_cycle_36 (by decide) (fun hc => ?_) (fun hc => ?_)
        · have h := h.1 hc
          refine ga_lconst (v := 1) hC dX12_cycle_54 (by decide) ?_
          refine ga_locals [0, 1, 2, 3] rfl ?_
          exact h p l e s m args below meth c D cy ad hC
        · have h := h.2 hc
          refine ga_aload_n hC dX12_cycle_39 0 rfl rfl ?_
          refine ga_bipush (v := 109) hC dX12_cycle_40 (by decide) ?_
          refine ga_aload_n hC dX12_cycle_42 0 rfl rfl ?_
          refine ga_iload_n hC dX12_cycle_43 3 rfl rfl ?_
          refine ga_callV (As := [.int v3]) (st := [.int 109, .ref (ad 0), .int v3, .ref (ad 0)]) (k := 0) (n := 1) hC h q_7_93 q_7_95 q_0_26 q_1_13 q_7_96 rfl rfl rfl (by decide +kernel) ⟨Nat.le_of_ble_eq_true rfl, Nat.le_of_ble_eq_true rfl⟩ ⟨Nat.le_of_ble_eq_true rfl, Nat.le_of_ble_eq_true rfl⟩ rfl rfl rfl (by decide) rfl (Nat.le_of_ble_eq_true rfl) dX12_cycle_44 (fun v τ hq => ?_)
          obtain ⟨r19, rfl, h⟩ := hq
          obtain ⟨s20, es20⟩ : ∃ z, z = τ := ⟨_, rfl⟩
          rw [← es20] at h ⊢
          clear es20
          refine ga_callV (As := [.int 109, .int r19]) (st := [.int v3, .ref (ad 0)]) (k := 0) (n := 2) hC h q_7_117 q_7_119 q_0_32 q_1_13 q_7_120 rfl rfl rfl (by decide +kernel) ⟨Nat.le_of_ble_eq_true rfl, Nat.le_of_ble_eq_true rfl⟩ ⟨Nat.le_of_ble_eq_true rfl, Nat.le_of_ble_eq_true rfl⟩ rfl rfl rfl (by decide) rfl (Nat.le_of_ble_eq_true rfl) dX12_cycle_47 (fun v τ hq => ?_)
          obtain ⟨r22, rfl, h⟩ := hq
          obtain ⟨s23, es23⟩ : ∃ z, z = τ := ⟨_, rfl⟩
          rw [← es23] at h ⊢
          clear es23
          refine ga_i2l hC dX12_cycle_50 ?_
          refine ga_goto (tgt := 55) hC dX12_cycle_51 (by decide) ?_
          refine ga_locals [0, 1, 2, 3] rfl ?_
          exact h p l e s m args below meth c D cy ad hC
      · have h := h.2 hc
        refine ga_locals [0, 1, 2, 3] rfl ?_
        exact h p l e s m args below meth c D cy ad hC
set_option maxRecDepth 100000 in
set_option maxHeartbeats 4000000 in
theorem v_X12_cycle {v1 : Int32} {v2 : Int32} {σ : cg_S} {Q : Int64 → cg_S → Prop}
    (h : L_X12_cycle_2 v1 v2 0 σ Q) : M_X12_cycle v1 v2 σ Q := by
  refine cg_entry (lv := fun ad => [(0, .ref (ad 0)), (1, .int v1), (2, .int v2)]) (by decide +kernel) (fun _ => rfl) (fun _ => Nat.le_of_ble_eq_true rfl) ?_
  intro p l e s m args below meth c D cy ad hC
  refine ga_iconst (v := 0) hC dX12_cycle_0 (by decide) ?_
  refine ga_istore_n (lv' := [(3, .int 0), (0, .ref (ad 0)), (1, .int v1), (2, .int v2)]) hC dX12_cycle_1 rfl (by decide) rfl ?_
  refine ga_locals [1, 2, 3, 0] rfl ?_
  exact h p l e s m args below meth c D cy ad hC
def M_X12_means (σ : cg_S) (Q : cg_S → Prop) : Prop := cg_M cg_WM yX12_means cX12_means 19 none (cg_R 4) (fun ad => [.ref (ad 0)]) σ (cg_qv Q)
theorem M_X12_means.mono {σ : cg_S} {Q Q2 : cg_S → Prop} (h : M_X12_means σ Q) (hq : ∀ τ, Q τ → Q2 τ) : M_X12_means σ Q2 := cg_M.mono h (fun ad v τ ⟨e, q⟩ => ⟨e, hq τ q⟩)
def L_X12_means_6 (v1 : Int32) (σ : cg_S) (Q : cg_S → Prop) : Prop := cg_L cg_WM RX12 cX12_means 19 none (cg_R 4) 6 (fun ad => [(0, .ref (ad 0)), (1, .int v1)]) (fun ad => []) σ (cg_qv Q)
def L_X12_means_36 (v1 : Int32) (σ : cg_S) (Q : cg_S → Prop) : Prop := cg_L cg_WM RX12 cX12_means 19 none (cg_R 4) 36 (fun ad => [(0, .ref (ad 0)), (1, .int v1)]) (fun ad => []) σ (cg_qv Q)
def L_X12_means_105 (v1 : Int32) (v6 : Int64) (v8 : Int64) (v10 : Int32) (σ : cg_S) (Q : cg_S → Prop) : Prop := cg_L cg_WM RX12 cX12_means 19 none (cg_R 4) 105 (fun ad => [(0, .ref (ad 0)), (1, .int v1), (6, .long v6), (8, .long v8), (10, .int v10)]) (fun ad => []) σ (cg_qv Q)
def L_X12_means_141 (v1 : Int32) (v6 : Int64) (v8 : Int64) (v10 : Int32) (σ : cg_S) (Q : cg_S → Prop) : Prop := cg_L cg_WM RX12 cX12_means 19 none (cg_R 4) 141 (fun ad => [(0, .ref (ad 0)), (1, .int v1), (6, .long v6), (8, .long v8), (10, .int v10)]) (fun ad => []) σ (cg_qv Q)
set_option maxRecDepth 100000 in
set_option maxHeartbeats 4000000 in
theorem v_X12_means_141 {v1 : Int32} {v6 : Int64} {v8 : Int64} {v10 : Int32} {σ : cg_S} {Q : cg_S → Prop}
    (h : ((σ.1 0 1) ≤ v10 → L_X12_means_36 (v1 + 1) σ Q) ∧ (¬ (σ.1 0 1) ≤ v10 → M_X12_solved v10 σ (fun r1 s2 => M_X12_lowers r1 (s2.2.1 0 39) s2 (fun s5 => M_X12_divisor (s5.2.1 0 40) v8 s5 (fun r7 s8 => M_X12_divisor v6 (s8.2.1 0 41) s8 (fun r10 s11 => ¬ r7 = 0 ∧ ¬ r10 = 0 ∧ ∀ x15 : Int64, x15 = ((s11.2.1 0 40) / r7) * (v6 / r10) → ¬ r10 = 0 ∧ ¬ r7 = 0 ∧ ∀ x18 : Int64, x18 = ((s11.2.1 0 41) / r10) * (v8 / r7) → vp_in v10 7 ∧ vp_in v10 7 ∧ M_X12_lowers (s11.2.1 22 v10.toNatClampNeg) (s11.2.1 23 v10.toNatClampNeg) s11 (fun s22 => M_X12_adds x15 x18 s22 (fun s25 => vp_in v10 7 ∧ ∀ s28 : cg_S, s28 = cg_l s25 22 v10.toNatClampNeg (s25.2.1 0 40) → vp_in v10 7 ∧ ∀ s30 : cg_S, s30 = cg_l s28 23 v10.toNatClampNeg (s28.2.1 0 41) → L_X12_means_141 v1 v6 v8 (v10 + 1) s30 Q)))))))) : L_X12_means_141 v1 v6 v8 v10 σ Q := by
  intro p l e s m args below meth c D cy ad hC
  refine ga_iload hC dX12_means_141 4 rfl ?_
  refine ga_aload_n hC dX12_means_143 0 rfl rfl ?_
  refine gM_0_1 hC q_6_86 dX12_means_144 ?_
  refine ga_icmp_ge (tgt := 270) hC dX12_means_147 (by decide) (fun hc => ?_) (fun hc => ?_)
  · have h := h.1 hc
    refine ga_iinc (v := v1 + 1) (lv' := [(1, .int (v1 + 1)), (0, .ref (ad 0)), (6, .long v6), (8, .long v8), (10, .int v10)]) hC dX12_means_270 1 rfl rfl (by decide) rfl ?_
    refine ga_goto (tgt := 36) hC dX12_means_273 (by decide) ?_
    refine ga_locals [1, 0] rfl ?_
    exact h p l e s m args below meth c D cy ad hC
  · have h := h.2 hc
    refine ga_aload_n hC dX12_means_150 0 rfl rfl ?_
    refine ga_aload_n hC dX12_means_151 0 rfl rfl ?_
    refine ga_iload hC dX12_means_152 4 rfl ?_
    refine ga_callV (As := [.int v10]) (st := [.ref (ad 0)]) (k := 0) (n := 1) hC h q_7_129 q_7_131 q_0_35 q_1_13 q_7_132 rfl rfl rfl (by decide +kernel) ⟨Nat.le_of_ble_eq_true rfl, Nat.le_of_ble_eq_true rfl⟩ ⟨Nat.le_of_ble_eq_true rfl, Nat.le_of_ble_eq_true rfl⟩ rfl rfl rfl (by decide) rfl (Nat.le_of_ble_eq_true rfl) dX12_means_154 (fun v τ hq => ?_)
    obtain ⟨r1, rfl, h⟩ := hq
    obtain ⟨s2, es2⟩ : ∃ z, z = τ := ⟨_, rfl⟩
    rw [← es2] at h ⊢
    clear es2
    refine ga_aload_n hC dX12_means_157 0 rfl rfl ?_
    refine gM_0_39 hC q_6_124 dX12_means_158 ?_
    refine ga_callV (As := [.long r1, .long (s2.2.1 0 39)]) (st := []) (k := 0) (n := 2) hC h q_7_37 q_7_39 q_0_16 q_1_13 q_7_40 rfl rfl rfl (by decide +kernel) ⟨Nat.le_of_ble_eq_true rfl, Nat.le_of_ble_eq_true rfl⟩ ⟨Nat.le_of_ble_eq_true rfl, Nat.le_of_ble_eq_true rfl⟩ rfl rfl rfl (by decide) rfl (Nat.le_of_ble_eq_true rfl) dX12_means_161 (fun v τ hq => ?_)
    obtain ⟨rfl, h⟩ := hq
    obtain ⟨s5, es5⟩ : ∃ z, z = τ := ⟨_, rfl⟩
    rw [← es5] at h ⊢
    clear es5
    refine ga_aload_n hC dX12_means_164 0 rfl rfl ?_
    refine gM_0_40 hC q_6_125 dX12_means_165 ?_
    refine ga_lload hC dX12_means_168 3 rfl ?_
    refine ga_callS (As := [.long (s5.2.1 0 40), .long v8]) (st := []) (n := 2) hC h q_7_41 q_7_42 q_1_13 q_7_43 rfl rfl rfl (by decide +kernel) ⟨Nat.le_of_ble_eq_true rfl, Nat.le_of_ble_eq_true rfl⟩ ⟨Nat.le_of_ble_eq_true rfl, Nat.le_of_ble_eq_true rfl⟩ rfl rfl (Nat.le_of_ble_eq_true rfl) dX12_means_170 (fun v τ hq => ?_)
    obtain ⟨r7, rfl, h⟩ := hq
    obtain ⟨s8, es8⟩ : ∃ z, z = τ := ⟨_, rfl⟩
    rw [← es8] at h ⊢
    clear es8
    refine ga_lstore (lv' := [(11, .long r7), (0, .ref (ad 0)), (1, .int v1), (6, .long v6), (8, .long v8), (10, .int v10)]) hC dX12_means_173 (by decide) rfl ?_
    refine ga_lload hC dX12_means_175 3 rfl ?_
    refine ga_aload_n hC dX12_means_177 1 rfl rfl ?_
    refine gM_0_41 hC q_6_126 dX12_means_178 ?_
    refine ga_callS (As := [.long v6, .long (s8.2.1 0 41)]) (st := []) (n := 2) hC h q_7_41 q_7_42 q_1_13 q_7_43 rfl rfl rfl (by decide +kernel) ⟨Nat.le_of_ble_eq_true rfl, Nat.le_of_ble_eq_true rfl⟩ ⟨Nat.le_of_ble_eq_true rfl, Nat.le_of_ble_eq_true rfl⟩ rfl rfl (Nat.le_of_ble_eq_true rfl) dX12_means_181 (fun v τ hq => ?_)
    obtain ⟨r10, rfl, h⟩ := hq
    obtain ⟨s11, es11⟩ : ∃ z, z = τ := ⟨_, rfl⟩
    rw [← es11] at h ⊢
    clear es11
    refine ga_lstore (lv' := [(13, .long r10), (11, .long r7), (0, .ref (ad 0)), (1, .int v1), (6, .long v6), (8, .long v8), (10, .int v10)]) hC dX12_means_184 (by decide) rfl ?_
    refine ga_aload_n hC dX12_means_186 2 rfl rfl ?_
    refine gM_0_40 hC q_6_125 dX12_means_187 ?_
    refine ga_lload hC dX12_means_190 1 rfl ?_
    obtain ⟨h13, h⟩ := h
    refine ga_ldiv hC dX12_means_192 h13 ?_
    refine ga_lload hC dX12_means_193 4 rfl ?_
    refine ga_lload hC dX12_means_195 0 rfl ?_
    obtain ⟨h14, h⟩ := h
    refine ga_ldiv hC dX12_means_197 h14 ?_
    refine ga_lmul hC dX12_means_198 ?_
    refine ga_topl (fun x15 ex15 => ?_)
    have h := h x15 ex15
    refine ga_lstore (lv' := [(15, .long x15), (13, .long r10), (11, .long r7), (0, .ref (ad 0)), (1, .int v1), (6, .long v6), (8, .long v8), (10, .int v10)]) hC dX12_means_199 (by decide) rfl ?_
    refine ga_aload_n hC dX12_means_201 3 rfl rfl ?_
    refine gM_0_41 hC q_6_126 dX12_means_202 ?_
    refine ga_lload hC dX12_means_205 1 rfl ?_
    obtain ⟨h16, h⟩ := h
    refine ga_ldiv hC dX12_means_207 h16 ?_
    refine ga_lload hC dX12_means_208 6 rfl ?_
    refine ga_lload hC dX12_means_210 2 rfl ?_
    obtain ⟨h17, h⟩ := h
    refine ga_ldiv hC dX12_means_212 h17 ?_
    refine ga_lmul hC dX12_means_213 ?_
    refine ga_topl (fun x18 ex18 => ?_)
    have h := h x18 ex18
    refine ga_lstore (lv' := [(17, .long x18), (15, .long x15), (13, .long r10), (11, .long r7), (0, .ref (ad 0)), (1, .int v1), (6, .long v6), (8, .long v8), (10, .int v10)]) hC dX12_means_214 (by decide) rfl ?_
    refine ga_aload_n hC dX12_means_216 4 rfl rfl ?_
    refine ga_aload_n hC dX12_means_217 4 rfl rfl ?_
    refine gM_0_22 hC q_6_107 dX12_means_218 ?_
    refine ga_iload hC dX12_means_221 8 rfl ?_
    obtain ⟨h19, h⟩ := h
    refine ga_lald hC aM_22 (by decide) h19 dX12_means_223 ?_
    refine ga_aload_n hC dX12_means_224 4 rfl rfl ?_
    refine gM_0_23 hC q_6_108 dX12_means_225 ?_
    refine ga_iload hC dX12_means_228 8 rfl ?_
    obtain ⟨h20, h⟩ := h
    refine ga_lald hC aM_23 (by decide) h20 dX12_means_230 ?_
    refine ga_callV (As := [.long (s11.2.1 22 v10.toNatClampNeg), .long (s11.2.1 23 v10.toNatClampNeg)]) (st := []) (k := 0) (n := 2) hC h q_7_37 q_7_39 q_0_16 q_1_13 q_7_40 rfl rfl rfl (by decide +kernel) ⟨Nat.le_of_ble_eq_true rfl, Nat.le_of_ble_eq_true rfl⟩ ⟨Nat.le_of_ble_eq_true rfl, Nat.le_of_ble_eq_true rfl⟩ rfl rfl rfl (by decide) rfl (Nat.le_of_ble_eq_true rfl) dX12_means_231 (fun v τ hq => ?_)
    obtain ⟨rfl, h⟩ := hq
    obtain ⟨s22, es22⟩ : ∃ z, z = τ := ⟨_, rfl⟩
    rw [← es22] at h ⊢
    clear es22
    refine ga_aload_n hC dX12_means_234 4 rfl rfl ?_
    refine ga_lload hC dX12_means_235 1 rfl ?_
    refine ga_lload hC dX12_means_237 0 rfl ?_
    refine ga_callV (As := [.long x15, .long x18]) (st := []) (k := 0) (n := 2) hC h q_7_137 q_7_139 q_0_37 q_1_13 q_7_140 rfl rfl rfl (by decide +kernel) ⟨Nat.le_of_ble_eq_true rfl, Nat.le_of_ble_eq_true rfl⟩ ⟨Nat.le_of_ble_eq_true rfl, Nat.le_of_ble_eq_true rfl⟩ rfl rfl rfl (by decide) rfl (Nat.le_of_ble_eq_true rfl) dX12_means_239 (fun v τ hq => ?_)
    obtain ⟨rfl, h⟩ := hq
    obtain ⟨s25, es25⟩ : ∃ z, z = τ := ⟨_, rfl⟩
    rw [← es25] at h ⊢
    clear es25
    refine ga_aload_n hC dX12_means_242 4 rfl rfl ?_
    refine gM_0_22 hC q_6_107 dX12_means_243 ?_
    refine ga_iload hC dX12_means_246 8 rfl ?_
    refine ga_aload_n hC dX12_means_248 4 rfl rfl ?_
    refine gM_0_40 hC q_6_125 dX12_means_249 ?_
    obtain ⟨h27, h⟩ := h
    refine ga_last hC aM_22 (by decide) h27 dX12_means_252 ?_
    refine ga_sig (σ := cg_l s25 22 v10.toNatClampNeg (s25.2.1 0 40)) (fun s28 es28 => ?_)
    have h := h s28 es28
    refine ga_aload_n hC dX12_means_253 4 rfl rfl ?_
    refine gM_0_23 hC q_6_108 dX12_means_254 ?_
    refine ga_iload hC dX12_means_257 8 rfl ?_
    refine ga_aload_n hC dX12_means_259 4 rfl rfl ?_
    refine gM_0_41 hC q_6_126 dX12_means_260 ?_
    obtain ⟨h29, h⟩ := h
    refine ga_last hC aM_23 (by decide) h29 dX12_means_263 ?_
    refine ga_sig (σ := cg_l s28 23 v10.toNatClampNeg (s28.2.1 0 41)) (fun s30 es30 => ?_)
    have h := h s30 es30
    refine ga_iinc (v := v10 + 1) (lv' := [(10, .int (v10 + 1)), (17, .long x18), (15, .long x15), (13, .long r10), (11, .long r7), (0, .ref (ad 0)), (1, .int v1), (6, .long v6), (8, .long v8)]) hC dX12_means_264 8 rfl rfl (by decide) rfl ?_
    refine ga_goto (tgt := 141) hC dX12_means_267 (by decide) ?_
    refine ga_locals [5, 6, 7, 8, 0] rfl ?_
    exact h p l e s m args below meth c D cy ad hC
set_option maxRecDepth 100000 in
set_option maxHeartbeats 4000000 in
theorem v_X12_means_105 {v1 : Int32} {v6 : Int64} {v8 : Int64} {v10 : Int32} {σ : cg_S} {Q : cg_S → Prop}
    (h : ((σ.1 0 1) ≤ v10 → M_X12_chances σ (fun s2 => L_X12_means_141 v1 v6 v8 0 s2 Q)) ∧ (¬ (σ.1 0 1) ≤ v10 → M_X12_areTogether v10 v1 σ (fun r4 s5 => vp_in v10 7 ∧ ∀ s8 : cg_S, s8 = cg_i s5 16 v10.toNatClampNeg (vp_nar .boolean r4) → L_X12_means_105 v1 v6 v8 (v10 + 1) s8 Q))) : L_X12_means_105 v1 v6 v8 v10 σ Q := by
  intro p l e s m args below meth c D cy ad hC
  refine ga_iload hC dX12_means_105 4 rfl ?_
  refine ga_aload_n hC dX12_means_107 0 rfl rfl ?_
  refine gM_0_1 hC q_6_86 dX12_means_108 ?_
  refine ga_icmp_ge (tgt := 134) hC dX12_means_111 (by decide) (fun hc => ?_) (fun hc => ?_)
  · have h := h.1 hc
    refine ga_aload_n hC dX12_means_134 0 rfl rfl ?_
    refine ga_callV (As := []) (st := []) (k := 0) (n := 0) hC h q_7_133 q_7_135 q_0_36 q_1_13 q_7_136 rfl rfl rfl (by decide +kernel) ⟨Nat.le_of_ble_eq_true rfl, Nat.le_of_ble_eq_true rfl⟩ ⟨Nat.le_of_ble_eq_true rfl, Nat.le_of_ble_eq_true rfl⟩ rfl rfl rfl (by decide) rfl (Nat.le_of_ble_eq_true rfl) dX12_means_135 (fun v τ hq => ?_)
    obtain ⟨rfl, h⟩ := hq
    obtain ⟨s2, es2⟩ : ∃ z, z = τ := ⟨_, rfl⟩
    rw [← es2] at h ⊢
    clear es2
    refine ga_iconst (v := 0) hC dX12_means_138 (by decide) ?_
    refine ga_istore (lv' := [(10, .int 0), (0, .ref (ad 0)), (1, .int v1), (6, .long v6), (8, .long v8)]) hC dX12_means_139 (by decide) rfl ?_
    refine ga_locals [1, 2, 3, 4, 0] rfl ?_
    exact h p l e s m args below meth c D cy ad hC
  · have h := h.2 hc
    refine ga_aload_n hC dX12_means_114 0 rfl rfl ?_
    refine gM_0_17 hC q_6_102 dX12_means_115 ?_
    refine ga_iload hC dX12_means_118 4 rfl ?_
    refine ga_aload_n hC dX12_means_120 0 rfl rfl ?_
    refine ga_iload hC dX12_means_121 4 rfl ?_
    refine ga_iload_n hC dX12_means_123 1 rfl rfl ?_
    refine ga_callV (As := [.int v10, .int v1]) (st := [.int v10, .ref (ad 16)]) (k := 0) (n := 2) hC h q_7_105 q_7_107 q_0_29 q_1_13 q_7_108 rfl rfl rfl (by decide +kernel) ⟨Nat.le_of_ble_eq_true rfl, Nat.le_of_ble_eq_true rfl⟩ ⟨Nat.le_of_ble_eq_true rfl, Nat.le_of_ble_eq_true rfl⟩ rfl rfl rfl (by decide) rfl (Nat.le_of_ble_eq_true rfl) dX12_means_124 (fun v τ hq => ?_)
    obtain ⟨r4, rfl, h⟩ := hq
    obtain ⟨s5, es5⟩ : ∃ z, z = τ := ⟨_, rfl⟩
    rw [← es5] at h ⊢
    clear es5
    obtain ⟨h7, h⟩ := h
    refine ga_zast hC aM_16 (by decide) h7 dX12_means_127 ?_
    refine ga_sig (σ := cg_i s5 16 v10.toNatClampNeg (vp_nar .boolean r4)) (fun s8 es8 => ?_)
    have h := h s8 es8
    refine ga_iinc (v := v10 + 1) (lv' := [(10, .int (v10 + 1)), (0, .ref (ad 0)), (1, .int v1), (6, .long v6), (8, .long v8)]) hC dX12_means_128 4 rfl rfl (by decide) rfl ?_
    refine ga_goto (tgt := 105) hC dX12_means_131 (by decide) ?_
    refine ga_locals [1, 2, 3, 4, 0] rfl ?_
    exact h p l e s m args below meth c D cy ad hC
set_option maxRecDepth 100000 in
set_option maxHeartbeats 4000000 in
theorem v_X12_means_36 {v1 : Int32} {σ : cg_S} {Q : cg_S → Prop}
    (h : ((σ.1 0 1) ≤ v1 → Q σ) ∧ (¬ (σ.1 0 1) ≤ v1 → M_X12_reaches σ (fun s2 => M_X12_isClosed v1 s2 (fun r4 s5 => (r4 = 0 → L_X12_means_36 (v1 + 1) s5 Q) ∧ (¬ r4 = 0 → M_X12_lowestOf v1 s5 (fun r7 s8 => (r7 = v1 → M_X12_cycle v1 1 s8 (fun r10 s11 => M_X12_cycle v1 0 s11 (fun r13 s14 => M_X12_lowers r10 r13 s14 (fun s17 => ∀ x19 : Int64, x19 = s17.2.1 0 40 → ∀ x20 : Int64, x20 = s17.2.1 0 41 → L_X12_means_105 v1 x19 x20 0 s17 Q)))) ∧ (¬ r7 = v1 → L_X12_means_36 (v1 + 1) s8 Q))))))) : L_X12_means_36 v1 σ Q := by
  intro p l e s m args below meth c D cy ad hC
  refine ga_iload_n hC dX12_means_36 1 rfl rfl ?_
  refine ga_aload_n hC dX12_means_37 0 rfl rfl ?_
  refine gM_0_1 hC q_6_86 dX12_means_38 ?_
  refine ga_icmp_ge (tgt := 276) hC dX12_means_41 (by decide) (fun hc => ?_) (fun hc => ?_)
  · have h := h.1 hc
    exact ga_vret hC dX12_means_276 ⟨rfl, h⟩
  · have h := h.2 hc
    refine ga_aload_n hC dX12_means_44 0 rfl rfl ?_
    refine ga_callV (As := []) (st := []) (k := 0) (n := 0) hC h q_7_85 q_7_87 q_0_24 q_1_13 q_7_88 rfl rfl rfl (by decide +kernel) ⟨Nat.le_of_ble_eq_true rfl, Nat.le_of_ble_eq_true rfl⟩ ⟨Nat.le_of_ble_eq_true rfl, Nat.le_of_ble_eq_true rfl⟩ rfl rfl rfl (by decide) rfl (Nat.le_of_ble_eq_true rfl) dX12_means_45 (fun v τ hq => ?_)
    obtain ⟨rfl, h⟩ := hq
    obtain ⟨s2, es2⟩ : ∃ z, z = τ := ⟨_, rfl⟩
    rw [← es2] at h ⊢
    clear es2
    refine ga_aload_n hC dX12_means_48 0 rfl rfl ?_
    refine ga_iload_n hC dX12_means_49 1 rfl rfl ?_
    refine ga_callV (As := [.int v1]) (st := []) (k := 0) (n := 1) hC h q_7_97 q_7_99 q_0_27 q_1_13 q_7_100 rfl rfl rfl (by decide +kernel) ⟨Nat.le_of_ble_eq_true rfl, Nat.le_of_ble_eq_true rfl⟩ ⟨Nat.le_of_ble_eq_true rfl, Nat.le_of_ble_eq_true rfl⟩ rfl rfl rfl (by decide) rfl (Nat.le_of_ble_eq_true rfl) dX12_means_50 (fun v τ hq => ?_)
    obtain ⟨r4, rfl, h⟩ := hq
    obtain ⟨s5, es5⟩ : ∃ z, z = τ := ⟨_, rfl⟩
    rw [← es5] at h ⊢
    clear es5
    refine ga_if_eq (tgt := 270) hC dX12_means_53 (by decide) (fun hc => ?_) (fun hc => ?_)
    · have h := h.1 hc
      refine ga_iinc (v := v1 + 1) (lv' := [(1, .int (v1 + 1)), (0, .ref (ad 0))]) hC dX12_means_270 1 rfl rfl (by decide) rfl ?_
      refine ga_goto (tgt := 36) hC dX12_means_273 (by decide) ?_
      refine ga_locals [1, 0] rfl ?_
      exact h p l e s m args below meth c D cy ad hC
    · have h := h.2 hc
      refine ga_aload_n hC dX12_means_56 0 rfl rfl ?_
      refine ga_iload_n hC dX12_means_57 1 rfl rfl ?_
      refine ga_callV (As := [.int v1]) (st := []) (k := 0) (n := 1) hC h q_7_101 q_7_103 q_0_28 q_1_13 q_7_104 rfl rfl rfl (by decide +kernel) ⟨Nat.le_of_ble_eq_true rfl, Nat.le_of_ble_eq_true rfl⟩ ⟨Nat.le_of_ble_eq_true rfl, Nat.le_of_ble_eq_true rfl⟩ rfl rfl rfl (by decide) rfl (Nat.le_of_ble_eq_true rfl) dX12_means_58 (fun v τ hq => ?_)
      obtain ⟨r7, rfl, h⟩ := hq
      obtain ⟨s8, es8⟩ : ∃ z, z = τ := ⟨_, rfl⟩
      rw [← es8] at h ⊢
      clear es8
      refine ga_iload_n hC dX12_means_61 1 rfl rfl ?_
      refine ga_icmp_eq (tgt := 68) hC dX12_means_62 (by decide) (fun hc => ?_) (fun hc => ?_)
      · have h := h.1 hc
        refine ga_aload_n hC dX12_means_68 0 rfl rfl ?_
        refine ga_iload_n hC dX12_means_69 1 rfl rfl ?_
        refine ga_iconst (v := 1) hC dX12_means_70 (by decide) ?_
        refine ga_callV (As := [.int v1, .int 1]) (st := []) (k := 0) (n := 2) hC h q_7_109 q_7_111 q_0_30 q_1_13 q_7_112 rfl rfl rfl (by decide +kernel) ⟨Nat.le_of_ble_eq_true rfl, Nat.le_of_ble_eq_true rfl⟩ ⟨Nat.le_of_ble_eq_true rfl, Nat.le_of_ble_eq_true rfl⟩ rfl rfl rfl (by decide) rfl (Nat.le_of_ble_eq_true rfl) dX12_means_71 (fun v τ hq => ?_)
        obtain ⟨r10, rfl, h⟩ := hq
        obtain ⟨s11, es11⟩ : ∃ z, z = τ := ⟨_, rfl⟩
        rw [← es11] at h ⊢
        clear es11
        refine ga_lstore_n (lv' := [(2, .long r10), (0, .ref (ad 0)), (1, .int v1)]) hC dX12_means_74 rfl (by decide) rfl ?_
        refine ga_aload_n hC dX12_means_75 1 rfl rfl ?_
        refine ga_iload_n hC dX12_means_76 2 rfl rfl ?_
        refine ga_iconst (v := 0) hC dX12_means_77 (by decide) ?_
        refine ga_callV (As := [.int v1, .int 0]) (st := []) (k := 0) (n := 2) hC h q_7_109 q_7_111 q_0_30 q_1_13 q_7_112 rfl rfl rfl (by decide +kernel) ⟨Nat.le_of_ble_eq_true rfl, Nat.le_of_ble_eq_true rfl⟩ ⟨Nat.le_of_ble_eq_true rfl, Nat.le_of_ble_eq_true rfl⟩ rfl rfl rfl (by decide) rfl (Nat.le_of_ble_eq_true rfl) dX12_means_78 (fun v τ hq => ?_)
        obtain ⟨r13, rfl, h⟩ := hq
        obtain ⟨s14, es14⟩ : ∃ z, z = τ := ⟨_, rfl⟩
        rw [← es14] at h ⊢
        clear es14
        refine ga_lstore (lv' := [(4, .long r13), (2, .long r10), (0, .ref (ad 0)), (1, .int v1)]) hC dX12_means_81 (by decide) rfl ?_
        refine ga_aload_n hC dX12_means_83 2 rfl rfl ?_
        refine ga_lload_n hC dX12_means_84 1 rfl rfl ?_
        refine ga_lload hC dX12_means_85 0 rfl ?_
        refine ga_callV (As := [.long r10, .long r13]) (st := []) (k := 0) (n := 2) hC h q_7_37 q_7_39 q_0_16 q_1_13 q_7_40 rfl rfl rfl (by decide +kernel) ⟨Nat.le_of_ble_eq_true rfl, Nat.le_of_ble_eq_true rfl⟩ ⟨Nat.le_of_ble_eq_true rfl, Nat.le_of_ble_eq_true rfl⟩ rfl rfl rfl (by decide) rfl (Nat.le_of_ble_eq_true rfl) dX12_means_87 (fun v τ hq => ?_)
        obtain ⟨rfl, h⟩ := hq
        obtain ⟨s17, es17⟩ : ∃ z, z = τ := ⟨_, rfl⟩
        rw [← es17] at h ⊢
        clear es17
        refine ga_aload_n hC dX12_means_90 2 rfl rfl ?_
        refine gM_0_40 hC q_6_125 dX12_means_91 ?_
        refine ga_topl (fun x19 ex19 => ?_)
        have h := h x19 ex19
        refine ga_lstore (lv' := [(6, .long x19), (4, .long r13), (2, .long r10), (0, .ref (ad 0)), (1, .int v1)]) hC dX12_means_94 (by decide) rfl ?_
        refine ga_aload_n hC dX12_means_96 3 rfl rfl ?_
        refine gM_0_41 hC q_6_126 dX12_means_97 ?_
        refine ga_topl (fun x20 ex20 => ?_)
        have h := h x20 ex20
        refine ga_lstore (lv' := [(8, .long x20), (6, .long x19), (4, .long r13), (2, .long r10), (0, .ref (ad 0)), (1, .int v1)]) hC dX12_means_100 (by decide) rfl ?_
        refine ga_iconst (v := 0) hC dX12_means_102 (by decide) ?_
        refine ga_istore (lv' := [(10, .int 0), (8, .long x20), (6, .long x19), (4, .long r13), (2, .long r10), (0, .ref (ad 0)), (1, .int v1)]) hC dX12_means_103 (by decide) rfl ?_
        refine ga_locals [5, 6, 2, 1, 0] rfl ?_
        exact h p l e s m args below meth c D cy ad hC
      · have h := h.2 hc
        refine ga_goto (tgt := 270) hC dX12_means_65 (by decide) ?_
        refine ga_iinc (v := v1 + 1) (lv' := [(1, .int (v1 + 1)), (0, .ref (ad 0))]) hC dX12_means_270 1 rfl rfl (by decide) rfl ?_
        refine ga_goto (tgt := 36) hC dX12_means_273 (by decide) ?_
        refine ga_locals [1, 0] rfl ?_
        exact h p l e s m args below meth c D cy ad hC
set_option maxRecDepth 100000 in
set_option maxHeartbeats 4000000 in
theorem v_X12_means_6 {v1 : Int32} {σ : cg_S} {Q : cg_S → Prop}
    (h : ((σ.1 0 1) ≤ v1 → L_X12_means_36 0 σ Q) ∧ (¬ (σ.1 0 1) ≤ v1 → vp_in v1 7 ∧ ∀ s2 : cg_S, s2 = cg_l σ 22 v1.toNatClampNeg 0 → vp_in v1 7 ∧ ∀ s4 : cg_S, s4 = cg_l s2 23 v1.toNatClampNeg 1 → L_X12_means_6 (v1 + 1) s4 Q)) : L_X12_means_6 v1 σ Q := by
  intro p l e s m args below meth c D cy ad hC
  refine ga_iload_n hC dX12_means_6 1 rfl rfl ?_
  refine ga_aload_n hC dX12_means_7 0 rfl rfl ?_
  refine gM_0_1 hC q_6_86 dX12_means_8 ?_
  refine ga_icmp_ge (tgt := 34) hC dX12_means_11 (by decide) (fun hc => ?_) (fun hc => ?_)
  · have h := h.1 hc
    refine ga_iconst (v := 0) hC dX12_means_34 (by decide) ?_
    refine ga_istore_n (lv' := [(1, .int 0), (0, .ref (ad 0))]) hC dX12_means_35 rfl (by decide) rfl ?_
    refine ga_locals [1, 0] rfl ?_
    exact h p l e s m args below meth c D cy ad hC
  · have h := h.2 hc
    refine ga_aload_n hC dX12_means_14 0 rfl rfl ?_
    refine gM_0_22 hC q_6_107 dX12_means_15 ?_
    refine ga_iload_n hC dX12_means_18 1 rfl rfl ?_
    refine ga_lconst (v := 0) hC dX12_means_19 (by decide) ?_
    obtain ⟨h1, h⟩ := h
    refine ga_last hC aM_22 (by decide) h1 dX12_means_20 ?_
    refine ga_sig (σ := cg_l σ 22 v1.toNatClampNeg 0) (fun s2 es2 => ?_)
    have h := h s2 es2
    refine ga_aload_n hC dX12_means_21 0 rfl rfl ?_
    refine gM_0_23 hC q_6_108 dX12_means_22 ?_
    refine ga_iload_n hC dX12_means_25 1 rfl rfl ?_
    refine ga_lconst (v := 1) hC dX12_means_26 (by decide) ?_
    obtain ⟨h3, h⟩ := h
    refine ga_last hC aM_23 (by decide) h3 dX12_means_27 ?_
    refine ga_sig (σ := cg_l s2 23 v1.toNatClampNeg 1) (fun s4 es4 => ?_)
    have h := h s4 es4
    refine ga_iinc (v := v1 + 1) (lv' := [(1, .int (v1 + 1)), (0, .ref (ad 0))]) hC dX12_means_28 1 rfl rfl (by decide) rfl ?_
    refine ga_goto (tgt := 6) hC dX12_means_31 (by decide) ?_
    refine ga_locals [1, 0] rfl ?_
    exact h p l e s m args below meth c D cy ad hC
set_option maxRecDepth 100000 in
set_option maxHeartbeats 4000000 in
theorem v_X12_means {σ : cg_S} {Q : cg_S → Prop}
    (h : M_X12_reaches σ (fun s2 => L_X12_means_6 0 s2 Q)) : M_X12_means σ Q := by
  refine cg_entry (lv := fun ad => [(0, .ref (ad 0))]) (by decide +kernel) (fun _ => rfl) (fun _ => Nat.le_of_ble_eq_true rfl) ?_
  intro p l e s m args below meth c D cy ad hC
  refine ga_aload_n hC dX12_means_0 0 rfl rfl ?_
  refine ga_callV (As := []) (st := []) (k := 0) (n := 0) hC h q_7_85 q_7_87 q_0_24 q_1_13 q_7_88 rfl rfl rfl (by decide +kernel) ⟨Nat.le_of_ble_eq_true rfl, Nat.le_of_ble_eq_true rfl⟩ ⟨Nat.le_of_ble_eq_true rfl, Nat.le_of_ble_eq_true rfl⟩ rfl rfl rfl (by decide) rfl (Nat.le_of_ble_eq_true rfl) dX12_means_1 (fun v τ hq => ?_)
  obtain ⟨rfl, h⟩ := hq
  obtain ⟨s2, es2⟩ : ∃ z, z = τ := ⟨_, rfl⟩
  rw [← es2] at h ⊢
  clear es2
  refine ga_iconst (v := 0) hC dX12_means_4 (by decide) ?_
  refine ga_istore_n (lv' := [(1, .int 0), (0, .ref (ad 0))]) hC dX12_means_5 rfl (by decide) rfl ?_
  refine ga_locals [1, 0] rfl ?_
  exact h p l e s m args below meth c D cy ad hC
def M_X12_parities (σ : cg_S) (Q : cg_S → Prop) : Prop := cg_M cg_WM yX12_parities cX12_parities 4 none (cg_R 4) (fun ad => [.ref (ad 0)]) σ (cg_qv Q)
theorem M_X12_parities.mono {σ : cg_S} {Q Q2 : cg_S → Prop} (h : M_X12_parities σ Q) (hq : ∀ τ, Q τ → Q2 τ) : M_X12_parities σ Q2 := cg_M.mono h (fun ad v τ ⟨e, q⟩ => ⟨e, hq τ q⟩)
def L_X12_parities_6 (v1 : Int32) (σ : cg_S) (Q : cg_S → Prop) : Prop := cg_L cg_WM RX12 cX12_parities 4 none (cg_R 4) 6 (fun ad => [(0, .ref (ad 0)), (1, .int v1)]) (fun ad => []) σ (cg_qv Q)
def L_X12_parities_19 (v1 : Int32) (v2 : Int32) (v3 : Int32) (σ : cg_S) (Q : cg_S → Prop) : Prop := cg_L cg_WM RX12 cX12_parities 4 none (cg_R 4) 19 (fun ad => [(0, .ref (ad 0)), (1, .int v1), (2, .int v2), (3, .int v3)]) (fun ad => []) σ (cg_qv Q)
def L_X12_parities_96 (v1 : Int32) (σ : cg_S) (Q : cg_S → Prop) : Prop := cg_L cg_WM RX12 cX12_parities 4 none (cg_R 4) 96 (fun ad => [(0, .ref (ad 0)), (1, .int v1)]) (fun ad => []) σ (cg_qv Q)
set_option maxRecDepth 100000 in
set_option maxHeartbeats 4000000 in
theorem v_X12_parities_96 {v1 : Int32} {σ : cg_S} {Q : cg_S → Prop}
    (h : ((σ.1 0 1) ≤ v1 → M_X12_chances σ (fun s2 => M_X12_tellsAll s2 (fun s5 => Q s5))) ∧ (¬ (σ.1 0 1) ≤ v1 → vp_in v1 7 ∧ vp_in v1 7 ∧ ∀ s9 : cg_S, s9 = cg_i σ 16 v1.toNatClampNeg (vp_nar .boolean (σ.1 17 v1.toNatClampNeg)) → L_X12_parities_96 (v1 + 1) s9 Q)) : L_X12_parities_96 v1 σ Q := by
  intro p l e s m args below meth c D cy ad hC
  refine ga_iload_n hC dX12_parities_96 1 rfl rfl ?_
  refine ga_aload_n hC dX12_parities_97 0 rfl rfl ?_
  refine gM_0_1 hC q_6_86 dX12_parities_98 ?_
  refine ga_icmp_ge (tgt := 122) hC dX12_parities_101 (by decide) (fun hc => ?_) (fun hc => ?_)
  · have h := h.1 hc
    refine ga_aload_n hC dX12_parities_122 0 rfl rfl ?_
    refine ga_callV (As := []) (st := []) (k := 0) (n := 0) hC h q_7_133 q_7_135 q_0_36 q_1_13 q_7_136 rfl rfl rfl (by decide +kernel) ⟨Nat.le_of_ble_eq_true rfl, Nat.le_of_ble_eq_true rfl⟩ ⟨Nat.le_of_ble_eq_true rfl, Nat.le_of_ble_eq_true rfl⟩ rfl rfl rfl (by decide) rfl (Nat.le_of_ble_eq_true rfl) dX12_parities_123 (fun v τ hq => ?_)
    obtain ⟨rfl, h⟩ := hq
    obtain ⟨s2, es2⟩ : ∃ z, z = τ := ⟨_, rfl⟩
    rw [← es2] at h ⊢
    clear es2
    refine ga_aload_n hC dX12_parities_126 0 rfl rfl ?_
    refine ga_callV (As := []) (st := []) (k := 0) (n := 0) hC h q_7_145 q_7_147 q_0_39 q_1_13 q_7_148 rfl rfl rfl (by decide +kernel) ⟨Nat.le_of_ble_eq_true rfl, Nat.le_of_ble_eq_true rfl⟩ ⟨Nat.le_of_ble_eq_true rfl, Nat.le_of_ble_eq_true rfl⟩ rfl rfl rfl (by decide) rfl (Nat.le_of_ble_eq_true rfl) dX12_parities_127 (fun v τ hq => ?_)
    obtain ⟨rfl, h⟩ := hq
    obtain ⟨s5, es5⟩ : ∃ z, z = τ := ⟨_, rfl⟩
    rw [← es5] at h ⊢
    clear es5
    exact ga_vret hC dX12_parities_130 ⟨rfl, h⟩
  · have h := h.2 hc
    refine ga_aload_n hC dX12_parities_104 0 rfl rfl ?_
    refine gM_0_17 hC q_6_102 dX12_parities_105 ?_
    refine ga_iload_n hC dX12_parities_108 1 rfl rfl ?_
    refine ga_aload_n hC dX12_parities_109 0 rfl rfl ?_
    refine gM_0_18 hC q_6_103 dX12_parities_110 ?_
    refine ga_iload_n hC dX12_parities_113 1 rfl rfl ?_
    obtain ⟨h7, h⟩ := h
    refine ga_zald hC aM_17 (by decide) h7 dX12_parities_114 ?_
    obtain ⟨h8, h⟩ := h
    refine ga_zast hC aM_16 (by decide) h8 dX12_parities_115 ?_
    refine ga_sig (σ := cg_i σ 16 v1.toNatClampNeg (vp_nar .boolean (σ.1 17 v1.toNatClampNeg))) (fun s9 es9 => ?_)
    have h := h s9 es9
    refine ga_iinc (v := v1 + 1) (lv' := [(1, .int (v1 + 1)), (0, .ref (ad 0))]) hC dX12_parities_116 1 rfl rfl (by decide) rfl ?_
    refine ga_goto (tgt := 96) hC dX12_parities_119 (by decide) ?_
    refine ga_locals [1, 0] rfl ?_
    exact h p l e s m args below meth c D cy ad hC
set_option maxRecDepth 100000 in
set_option maxHeartbeats 4000000 in
theorem v_X12_parities_19 {v1 : Int32} {v2 : Int32} {v3 : Int32} {σ : cg_S} {Q : cg_S → Prop}
    (h : ((σ.1 0 1) ≤ v3 → M_X12_isClosed v1 σ (fun r1 s2 => (r1 = 0 → vp_in v1 7 ∧ ∀ s5 : cg_S, s5 = cg_i s2 17 v1.toNatClampNeg (vp_nar .boolean 0) → L_X12_parities_6 (v1 + 1) s5 Q) ∧ (¬ r1 = 0 → (¬ (v2 - v2 / 2 * 2) = 0 → vp_in v1 7 ∧ ∀ s8 : cg_S, s8 = cg_i s2 17 v1.toNatClampNeg (vp_nar .boolean 0) → L_X12_parities_6 (v1 + 1) s8 Q) ∧ ((v2 - v2 / 2 * 2) = 0 → vp_in v1 7 ∧ ∀ s10 : cg_S, s10 = cg_i s2 17 v1.toNatClampNeg (vp_nar .boolean 1) → L_X12_parities_6 (v1 + 1) s10 Q)))) ∧ (¬ (σ.1 0 1) ≤ v3 → M_X12_areTogether v1 v3 σ (fun r11 s12 => (r11 = 0 → L_X12_parities_19 v1 v2 (v3 + 1) s12 Q) ∧ (¬ r11 = 0 → vp_in v3 7 ∧ (v2 ≤ (s12.1 2 v3.toNatClampNeg) → L_X12_parities_19 v1 v2 (v3 + 1) s12 Q) ∧ (¬ v2 ≤ (s12.1 2 v3.toNatClampNeg) → vp_in v3 7 ∧ ∀ x16 : Int32, x16 = s12.1 2 v3.toNatClampNeg → L_X12_parities_19 v1 x16 (v3 + 1) s12 Q))))) : L_X12_parities_19 v1 v2 v3 σ Q := by
  intro p l e s m args below meth c D cy ad hC
  refine ga_iload_n hC dX12_parities_19 3 rfl rfl ?_
  refine ga_aload_n hC dX12_parities_20 0 rfl rfl ?_
  refine gM_0_1 hC q_6_86 dX12_parities_21 ?_
  refine ga_icmp_ge (tgt := 63) hC dX12_parities_24 (by decide) (fun hc => ?_) (fun hc => ?_)
  · have h := h.1 hc
    refine ga_aload_n hC dX12_parities_63 0 rfl rfl ?_
    refine gM_0_18 hC q_6_103 dX12_parities_64 ?_
    refine ga_iload_n hC dX12_parities_67 1 rfl rfl ?_
    refine ga_aload_n hC dX12_parities_68 0 rfl rfl ?_
    refine ga_iload_n hC dX12_parities_69 1 rfl rfl ?_
    refine ga_callV (As := [.int v1]) (st := [.int v1, .ref (ad 17)]) (k := 0) (n := 1) hC h q_7_97 q_7_99 q_0_27 q_1_13 q_7_100 rfl rfl rfl (by decide +kernel) ⟨Nat.le_of_ble_eq_true rfl, Nat.le_of_ble_eq_true rfl⟩ ⟨Nat.le_of_ble_eq_true rfl, Nat.le_of_ble_eq_true rfl⟩ rfl rfl rfl (by decide) rfl (Nat.le_of_ble_eq_true rfl) dX12_parities_70 (fun v τ hq => ?_)
    obtain ⟨r1, rfl, h⟩ := hq
    obtain ⟨s2, es2⟩ : ∃ z, z = τ := ⟨_, rfl⟩
    rw [← es2] at h ⊢
    clear es2
    refine ga_if_eq (tgt := 86) hC dX12_parities_73 (by decide) (fun hc => ?_) (fun hc => ?_)
    · have h := h.1 hc
      refine ga_iconst (v := 0) hC dX12_parities_86 (by decide) ?_
      obtain ⟨h4, h⟩ := h
      refine ga_zast hC aM_17 (by decide) h4 dX12_parities_87 ?_
      refine ga_sig (σ := cg_i s2 17 v1.toNatClampNeg (vp_nar .boolean 0)) (fun s5 es5 => ?_)
      have h := h s5 es5
      refine ga_iinc (v := v1 + 1) (lv' := [(1, .int (v1 + 1)), (0, .ref (ad 0)), (2, .int v2), (3, .int v3)]) hC dX12_parities_88 1 rfl rfl (by decide) rfl ?_
      refine ga_goto (tgt := 6) hC dX12_parities_91 (by decide) ?_
      refine ga_locals [1, 0] rfl ?_
      exact h p l e s m args below meth c D cy ad hC
    · have h := h.2 hc
      refine ga_iload_n hC dX12_parities_76 2 rfl rfl ?_
      refine ga_iconst (v := 2) hC dX12_parities_77 (by decide) ?_
      refine ga_irem hC dX12_parities_78 (by decide) ?_
      refine ga_if_ne (tgt := 86) hC dX12_parities_79 (by decide) (fun hc => ?_) (fun hc => ?_)
      · have h := h.1 hc
        refine ga_iconst (v := 0) hC dX12_parities_86 (by decide) ?_
        obtain ⟨h7, h⟩ := h
        refine ga_zast hC aM_17 (by decide) h7 dX12_parities_87 ?_
        refine ga_sig (σ := cg_i s2 17 v1.toNatClampNeg (vp_nar .boolean 0)) (fun s8 es8 => ?_)
        have h := h s8 es8
        refine ga_iinc (v := v1 + 1) (lv' := [(1, .int (v1 + 1)), (0, .ref (ad 0)), (2, .int v2), (3, .int v3)]) hC dX12_parities_88 1 rfl rfl (by decide) rfl ?_
        refine ga_goto (tgt := 6) hC dX12_parities_91 (by decide) ?_
        refine ga_locals [1, 0] rfl ?_
        exact h p l e s m args below meth c D cy ad hC
      · have h := h.2 hc
        refine ga_iconst (v := 1) hC dX12_parities_82 (by decide) ?_
        refine ga_goto (tgt := 87) hC dX12_parities_83 (by decide) ?_
        obtain ⟨h9, h⟩ := h
        refine ga_zast hC aM_17 (by decide) h9 dX12_parities_87 ?_
        refine ga_sig (σ := cg_i s2 17 v1.toNatClampNeg (vp_nar .boolean 1)) (fun s10 es10 => ?_)
        have h := h s10 es10
        refine ga_iinc (v := v1 + 1) (lv' := [(1, .int (v1 + 1)), (0, .ref (ad 0)), (2, .int v2), (3, .int v3)]) hC dX12_parities_88 1 rfl rfl (by decide) rfl ?_
        refine ga_goto (tgt := 6) hC dX12_parities_91 (by decide) ?_
        refine ga_locals [1, 0] rfl ?_
        exact h p l e s m args below meth c D cy ad hC
  · have h := h.2 hc
    refine ga_aload_n hC dX12_parities_27 0 rfl rfl ?_
    refine ga_iload_n hC dX12_parities_28 1 rfl rfl ?_
    refine ga_iload_n hC dX12_parities_29 3 rfl rfl ?_
    refine ga_callV (As := [.int v1, .int v3]) (st := []) (k := 0) (n := 2) hC h q_7_105 q_7_107 q_0_29 q_1_13 q_7_108 rfl rfl rfl (by decide +kernel) ⟨Nat.le_of_ble_eq_true rfl, Nat.le_of_ble_eq_true rfl⟩ ⟨Nat.le_of_ble_eq_true rfl, Nat.le_of_ble_eq_true rfl⟩ rfl rfl rfl (by decide) rfl (Nat.le_of_ble_eq_true rfl) dX12_parities_30 (fun v τ hq => ?_)
    obtain ⟨r11, rfl, h⟩ := hq
    obtain ⟨s12, es12⟩ : ∃ z, z = τ := ⟨_, rfl⟩
    rw [← es12] at h ⊢
    clear es12
    refine ga_if_eq (tgt := 55) hC dX12_parities_33 (by decide) (fun hc => ?_) (fun hc => ?_)
    · have h := h.1 hc
      refine ga_iload_n hC dX12_parities_55 2 rfl rfl ?_
      refine ga_istore_n (lv' := [(2, .int v2), (0, .ref (ad 0)), (1, .int v1), (3, .int v3)]) hC dX12_parities_56 rfl (by decide) rfl ?_
      refine ga_iinc (v := v3 + 1) (lv' := [(3, .int (v3 + 1)), (2, .int v2), (0, .ref (ad 0)), (1, .int v1)]) hC dX12_parities_57 3 rfl rfl (by decide) rfl ?_
      refine ga_goto (tgt := 19) hC dX12_parities_60 (by decide) ?_
      refine ga_locals [2, 3, 1, 0] rfl ?_
      exact h p l e s m args below meth c D cy ad hC
    · have h := h.2 hc
      refine ga_aload_n hC dX12_parities_36 0 rfl rfl ?_
      refine gM_0_7 hC q_6_92 dX12_parities_37 ?_
      refine ga_iload_n hC dX12_parities_40 3 rfl rfl ?_
      obtain ⟨h14, h⟩ := h
      refine ga_iald hC aM_2 (by decide) h14 dX12_parities_41 ?_
      refine ga_iload_n hC dX12_parities_42 2 rfl rfl ?_
      refine ga_icmp_ge (tgt := 55) hC dX12_parities_43 (by decide) (fun hc => ?_) (fun hc => ?_)
      · have h := h.1 hc
        refine ga_iload_n hC dX12_parities_55 2 rfl rfl ?_
        refine ga_istore_n (lv' := [(2, .int v2), (0, .ref (ad 0)), (1, .int v1), (3, .int v3)]) hC dX12_parities_56 rfl (by decide) rfl ?_
        refine ga_iinc (v := v3 + 1) (lv' := [(3, .int (v3 + 1)), (2, .int v2), (0, .ref (ad 0)), (1, .int v1)]) hC dX12_parities_57 3 rfl rfl (by decide) rfl ?_
        refine ga_goto (tgt := 19) hC dX12_parities_60 (by decide) ?_
        refine ga_locals [2, 3, 1, 0] rfl ?_
        exact h p l e s m args below meth c D cy ad hC
      · have h := h.2 hc
        refine ga_aload_n hC dX12_parities_46 0 rfl rfl ?_
        refine gM_0_7 hC q_6_92 dX12_parities_47 ?_
        refine ga_iload_n hC dX12_parities_50 3 rfl rfl ?_
        obtain ⟨h15, h⟩ := h
        refine ga_iald hC aM_2 (by decide) h15 dX12_parities_51 ?_
        refine ga_goto (tgt := 56) hC dX12_parities_52 (by decide) ?_
        refine ga_topi (fun x16 ex16 => ?_)
        have h := h x16 ex16
        refine ga_istore_n (lv' := [(2, .int x16), (0, .ref (ad 0)), (1, .int v1), (3, .int v3)]) hC dX12_parities_56 rfl (by decide) rfl ?_
        refine ga_iinc (v := v3 + 1) (lv' := [(3, .int (v3 + 1)), (2, .int x16), (0, .ref (ad 0)), (1, .int v1)]) hC dX12_parities_57 3 rfl rfl (by decide) rfl ?_
        refine ga_goto (tgt := 19) hC dX12_parities_60 (by decide) ?_
        refine ga_locals [2, 3, 1, 0] rfl ?_
        exact h p l e s m args below meth c D cy ad hC
set_option maxRecDepth 100000 in
set_option maxHeartbeats 4000000 in
theorem v_X12_parities_6 {v1 : Int32} {σ : cg_S} {Q : cg_S → Prop}
    (h : ((σ.1 0 1) ≤ v1 → L_X12_parities_96 0 σ Q) ∧ (¬ (σ.1 0 1) ≤ v1 → L_X12_parities_19 v1 9 0 σ Q)) : L_X12_parities_6 v1 σ Q := by
  intro p l e s m args below meth c D cy ad hC
  refine ga_iload_n hC dX12_parities_6 1 rfl rfl ?_
  refine ga_aload_n hC dX12_parities_7 0 rfl rfl ?_
  refine gM_0_1 hC q_6_86 dX12_parities_8 ?_
  refine ga_icmp_ge (tgt := 94) hC dX12_parities_11 (by decide) (fun hc => ?_) (fun hc => ?_)
  · have h := h.1 hc
    refine ga_iconst (v := 0) hC dX12_parities_94 (by decide) ?_
    refine ga_istore_n (lv' := [(1, .int 0), (0, .ref (ad 0))]) hC dX12_parities_95 rfl (by decide) rfl ?_
    refine ga_locals [1, 0] rfl ?_
    exact h p l e s m args below meth c D cy ad hC
  · have h := h.2 hc
    refine ga_bipush (v := 9) hC dX12_parities_14 (by decide) ?_
    refine ga_istore_n (lv' := [(2, .int 9), (0, .ref (ad 0)), (1, .int v1)]) hC dX12_parities_16 rfl (by decide) rfl ?_
    refine ga_iconst (v := 0) hC dX12_parities_17 (by decide) ?_
    refine ga_istore_n (lv' := [(3, .int 0), (2, .int 9), (0, .ref (ad 0)), (1, .int v1)]) hC dX12_parities_18 rfl (by decide) rfl ?_
    refine ga_locals [2, 3, 1, 0] rfl ?_
    exact h p l e s m args below meth c D cy ad hC
set_option maxRecDepth 100000 in
set_option maxHeartbeats 4000000 in
theorem v_X12_parities {σ : cg_S} {Q : cg_S → Prop}
    (h : M_X12_reaches σ (fun s2 => L_X12_parities_6 0 s2 Q)) : M_X12_parities σ Q := by
  refine cg_entry (lv := fun ad => [(0, .ref (ad 0))]) (by decide +kernel) (fun _ => rfl) (fun _ => Nat.le_of_ble_eq_true rfl) ?_
  intro p l e s m args below meth c D cy ad hC
  refine ga_aload_n hC dX12_parities_0 0 rfl rfl ?_
  refine ga_callV (As := []) (st := []) (k := 0) (n := 0) hC h q_7_85 q_7_87 q_0_24 q_1_13 q_7_88 rfl rfl rfl (by decide +kernel) ⟨Nat.le_of_ble_eq_true rfl, Nat.le_of_ble_eq_true rfl⟩ ⟨Nat.le_of_ble_eq_true rfl, Nat.le_of_ble_eq_true rfl⟩ rfl rfl rfl (by decide) rfl (Nat.le_of_ble_eq_true rfl) dX12_parities_1 (fun v τ hq => ?_)
  obtain ⟨rfl, h⟩ := hq
  obtain ⟨s2, es2⟩ : ∃ z, z = τ := ⟨_, rfl⟩
  rw [← es2] at h ⊢
  clear es2
  refine ga_iconst (v := 0) hC dX12_parities_4 (by decide) ?_
  refine ga_istore_n (lv' := [(1, .int 0), (0, .ref (ad 0))]) hC dX12_parities_5 rfl (by decide) rfl ?_
  refine ga_locals [1, 0] rfl ?_
  exact h p l e s m args below meth c D cy ad hC
def M_X12_gets (v1 : Int32) (σ : cg_S) (Q : cg_S → Prop) : Prop := cg_M cg_WM yX12_gets cX12_gets 3 none (cg_R 5) (fun ad => [.ref (ad 0), .int v1]) σ (cg_qv Q)
theorem M_X12_gets.mono {v1 : Int32} {σ : cg_S} {Q Q2 : cg_S → Prop} (h : M_X12_gets v1 σ Q) (hq : ∀ τ, Q τ → Q2 τ) : M_X12_gets v1 σ Q2 := cg_M.mono h (fun ad v τ ⟨e, q⟩ => ⟨e, hq τ q⟩)
def L_X12_gets_24 (v1 : Int32) (v2 : Int32) (σ : cg_S) (Q : cg_S → Prop) : Prop := cg_L cg_WM RX12 cX12_gets 3 none (cg_R 5) 24 (fun ad => [(0, .ref (ad 0)), (1, .int v1), (2, .int v2)]) (fun ad => []) σ (cg_qv Q)
def L_X12_gets_62 (v1 : Int32) (v2 : Int32) (σ : cg_S) (Q : cg_S → Prop) : Prop := cg_L cg_WM RX12 cX12_gets 3 none (cg_R 5) 62 (fun ad => [(0, .ref (ad 0)), (1, .int v1), (2, .int v2)]) (fun ad => []) σ (cg_qv Q)
def L_X12_gets_106 (v1 : Int32) (σ : cg_S) (Q : cg_S → Prop) : Prop := cg_L cg_WM RX12 cX12_gets 3 none (cg_R 5) 106 (fun ad => [(0, .ref (ad 0)), (1, .int v1)]) (fun ad => []) σ (cg_qv Q)
def L_X12_gets_116 (σ : cg_S) (Q : cg_S → Prop) : Prop := cg_L cg_WM RX12 cX12_gets 3 none (cg_R 5) 116 (fun ad => [(0, .ref (ad 0))]) (fun ad => []) σ (cg_qv Q)
set_option maxRecDepth 100000 in
set_option maxHeartbeats 4000000 in
theorem v_X12_gets_116 {σ : cg_S} {Q : cg_S → Prop}
    (h : M_X12_tellsAll σ (fun s2 => Q s2)) : L_X12_gets_116 σ Q := by
  intro p l e s m args below meth c D cy ad hC
  refine ga_aload_n hC dX12_gets_116 0 rfl rfl ?_
  refine ga_callV (As := []) (st := []) (k := 0) (n := 0) hC h q_7_145 q_7_147 q_0_39 q_1_13 q_7_148 rfl rfl rfl (by decide +kernel) ⟨Nat.le_of_ble_eq_true rfl, Nat.le_of_ble_eq_true rfl⟩ ⟨Nat.le_of_ble_eq_true rfl, Nat.le_of_ble_eq_true rfl⟩ rfl rfl rfl (by decide) rfl (Nat.le_of_ble_eq_true rfl) dX12_gets_117 (fun v τ hq => ?_)
  obtain ⟨rfl, h⟩ := hq
  obtain ⟨s2, es2⟩ : ∃ z, z = τ := ⟨_, rfl⟩
  rw [← es2] at h ⊢
  clear es2
  exact ga_vret hC dX12_gets_120 ⟨rfl, h⟩
set_option maxRecDepth 100000 in
set_option maxHeartbeats 4000000 in
theorem v_X12_gets_106 {v1 : Int32} {σ : cg_S} {Q : cg_S → Prop}
    (h : (v1 = 114 → L_X12_gets_116 σ Q) ∧ (¬ v1 = 114 → M_X12_solves σ (fun s2 => L_X12_gets_116 s2 Q))) : L_X12_gets_106 v1 σ Q := by
  intro p l e s m args below meth c D cy ad hC
  refine ga_iload_n hC dX12_gets_106 1 rfl rfl ?_
  refine ga_bipush (v := 114) hC dX12_gets_107 (by decide) ?_
  refine ga_icmp_eq (tgt := 116) hC dX12_gets_109 (by decide) (fun hc => ?_) (fun hc => ?_)
  · have h := h.1 hc
    refine ga_locals [0] rfl ?_
    exact h p l e s m args below meth c D cy ad hC
  · have h := h.2 hc
    refine ga_aload_n hC dX12_gets_112 0 rfl rfl ?_
    refine ga_callV (As := []) (st := []) (k := 0) (n := 0) hC h q_7_125 q_7_127 q_0_34 q_1_13 q_7_128 rfl rfl rfl (by decide +kernel) ⟨Nat.le_of_ble_eq_true rfl, Nat.le_of_ble_eq_true rfl⟩ ⟨Nat.le_of_ble_eq_true rfl, Nat.le_of_ble_eq_true rfl⟩ rfl rfl rfl (by decide) rfl (Nat.le_of_ble_eq_true rfl) dX12_gets_113 (fun v τ hq => ?_)
    obtain ⟨rfl, h⟩ := hq
    obtain ⟨s2, es2⟩ : ∃ z, z = τ := ⟨_, rfl⟩
    rw [← es2] at h ⊢
    clear es2
    refine ga_locals [0] rfl ?_
    exact h p l e s m args below meth c D cy ad hC
set_option maxRecDepth 100000 in
set_option maxHeartbeats 4000000 in
theorem v_X12_gets_62 {v1 : Int32} {v2 : Int32} {σ : cg_S} {Q : cg_S → Prop}
    (h : ((σ.1 0 1) ≤ v2 → L_X12_gets_106 v1 σ Q) ∧ (¬ (σ.1 0 1) ≤ v2 → (v1 = 114 → L_X12_gets_106 v1 σ Q) ∧ (¬ v1 = 114 → M_X12_at v2 σ (fun r1 s2 => M_X12_cost v1 r1 s2 (fun r4 s5 => M_X12_laysStep v2 r4.toInt64 (s5.1 0 2) (s5.1 0 3) s5 (fun s8 => L_X12_gets_62 v1 (v2 + 1) s8 Q)))))) : L_X12_gets_62 v1 v2 σ Q := by
  intro p l e s m args below meth c D cy ad hC
  refine ga_iload_n hC dX12_gets_62 2 rfl rfl ?_
  refine ga_aload_n hC dX12_gets_63 0 rfl rfl ?_
  refine gM_0_1 hC q_6_86 dX12_gets_64 ?_
  refine ga_icmp_ge (tgt := 106) hC dX12_gets_67 (by decide) (fun hc => ?_) (fun hc => ?_)
  · have h := h.1 hc
    refine ga_locals [0, 1] rfl ?_
    exact h p l e s m args below meth c D cy ad hC
  · have h := h.2 hc
    refine ga_iload_n hC dX12_gets_70 1 rfl rfl ?_
    refine ga_bipush (v := 114) hC dX12_gets_71 (by decide) ?_
    refine ga_icmp_eq (tgt := 106) hC dX12_gets_73 (by decide) (fun hc => ?_) (fun hc => ?_)
    · have h := h.1 hc
      refine ga_locals [0, 1] rfl ?_
      exact h p l e s m args below meth c D cy ad hC
    · have h := h.2 hc
      refine ga_aload_n hC dX12_gets_76 0 rfl rfl ?_
      refine ga_iload_n hC dX12_gets_77 2 rfl rfl ?_
      refine ga_aload_n hC dX12_gets_78 0 rfl rfl ?_
      refine ga_iload_n hC dX12_gets_79 1 rfl rfl ?_
      refine ga_aload_n hC dX12_gets_80 0 rfl rfl ?_
      refine ga_iload_n hC dX12_gets_81 2 rfl rfl ?_
      refine ga_callV (As := [.int v2]) (st := [.int v1, .ref (ad 0), .int v2, .ref (ad 0)]) (k := 0) (n := 1) hC h q_7_93 q_7_95 q_0_26 q_1_13 q_7_96 rfl rfl rfl (by decide +kernel) ⟨Nat.le_of_ble_eq_true rfl, Nat.le_of_ble_eq_true rfl⟩ ⟨Nat.le_of_ble_eq_true rfl, Nat.le_of_ble_eq_true rfl⟩ rfl rfl rfl (by decide) rfl (Nat.le_of_ble_eq_true rfl) dX12_gets_82 (fun v τ hq => ?_)
      obtain ⟨r1, rfl, h⟩ := hq
      obtain ⟨s2, es2⟩ : ∃ z, z = τ := ⟨_, rfl⟩
      rw [← es2] at h ⊢
      clear es2
      refine ga_callV (As := [.int v1, .int r1]) (st := [.int v2, .ref (ad 0)]) (k := 0) (n := 2) hC h q_7_117 q_7_119 q_0_32 q_1_13 q_7_120 rfl rfl rfl (by decide +kernel) ⟨Nat.le_of_ble_eq_true rfl, Nat.le_of_ble_eq_true rfl⟩ ⟨Nat.le_of_ble_eq_true rfl, Nat.le_of_ble_eq_true rfl⟩ rfl rfl rfl (by decide) rfl (Nat.le_of_ble_eq_true rfl) dX12_gets_85 (fun v τ hq => ?_)
      obtain ⟨r4, rfl, h⟩ := hq
      obtain ⟨s5, es5⟩ : ∃ z, z = τ := ⟨_, rfl⟩
      rw [← es5] at h ⊢
      clear es5
      refine ga_i2l hC dX12_gets_88 ?_
      refine ga_aload_n hC dX12_gets_89 0 rfl rfl ?_
      refine gM_0_2 hC q_6_87 dX12_gets_90 ?_
      refine ga_aload_n hC dX12_gets_93 0 rfl rfl ?_
      refine gM_0_3 hC q_6_88 dX12_gets_94 ?_
      refine ga_callV (As := [.int v2, .long r4.toInt64, .int (s5.1 0 2), .int (s5.1 0 3)]) (st := []) (k := 0) (n := 4) hC h q_7_121 q_7_123 q_0_33 q_1_13 q_7_124 rfl rfl rfl (by decide +kernel) ⟨Nat.le_of_ble_eq_true rfl, Nat.le_of_ble_eq_true rfl⟩ ⟨Nat.le_of_ble_eq_true rfl, Nat.le_of_ble_eq_true rfl⟩ rfl rfl rfl (by decide) rfl (Nat.le_of_ble_eq_true rfl) dX12_gets_97 (fun v τ hq => ?_)
      obtain ⟨rfl, h⟩ := hq
      obtain ⟨s8, es8⟩ : ∃ z, z = τ := ⟨_, rfl⟩
      rw [← es8] at h ⊢
      clear es8
      refine ga_iinc (v := v2 + 1) (lv' := [(2, .int (v2 + 1)), (0, .ref (ad 0)), (1, .int v1)]) hC dX12_gets_100 2 rfl rfl (by decide) rfl ?_
      refine ga_goto (tgt := 62) hC dX12_gets_103 (by decide) ?_
      refine ga_locals [1, 2, 0] rfl ?_
      exact h p l e s m args below meth c D cy ad hC
set_option maxRecDepth 100000 in
set_option maxHeartbeats 4000000 in
theorem v_X12_gets_24 {v1 : Int32} {v2 : Int32} {σ : cg_S} {Q : cg_S → Prop}
    (h : ((σ.1 0 1) ≤ v2 → (¬ v1 = 114 → L_X12_gets_62 v1 0 σ Q) ∧ (v1 = 114 → M_X12_chances σ (fun s2 => L_X12_gets_62 v1 0 s2 Q))) ∧ (¬ (σ.1 0 1) ≤ v2 → vp_in v2 7 ∧ vp_in v2 7 ∧ ∀ s6 : cg_S, s6 = cg_i σ 16 v2.toNatClampNeg (vp_nar .boolean (σ.1 15 v2.toNatClampNeg)) → L_X12_gets_24 v1 (v2 + 1) s6 Q)) : L_X12_gets_24 v1 v2 σ Q := by
  intro p l e s m args below meth c D cy ad hC
  refine ga_iload_n hC dX12_gets_24 2 rfl rfl ?_
  refine ga_aload_n hC dX12_gets_25 0 rfl rfl ?_
  refine gM_0_1 hC q_6_86 dX12_gets_26 ?_
  refine ga_icmp_ge (tgt := 50) hC dX12_gets_29 (by decide) (fun hc => ?_) (fun hc => ?_)
  · have h := h.1 hc
    refine ga_iload_n hC dX12_gets_50 1 rfl rfl ?_
    refine ga_bipush (v := 114) hC dX12_gets_51 (by decide) ?_
    refine ga_icmp_ne (tgt := 60) hC dX12_gets_53 (by decide) (fun hc => ?_) (fun hc => ?_)
    · have h := h.1 hc
      refine ga_iconst (v := 0) hC dX12_gets_60 (by decide) ?_
      refine ga_istore_n (lv' := [(2, .int 0), (0, .ref (ad 0)), (1, .int v1)]) hC dX12_gets_61 rfl (by decide) rfl ?_
      refine ga_locals [1, 2, 0] rfl ?_
      exact h p l e s m args below meth c D cy ad hC
    · have h := h.2 hc
      refine ga_aload_n hC dX12_gets_56 0 rfl rfl ?_
      refine ga_callV (As := []) (st := []) (k := 0) (n := 0) hC h q_7_133 q_7_135 q_0_36 q_1_13 q_7_136 rfl rfl rfl (by decide +kernel) ⟨Nat.le_of_ble_eq_true rfl, Nat.le_of_ble_eq_true rfl⟩ ⟨Nat.le_of_ble_eq_true rfl, Nat.le_of_ble_eq_true rfl⟩ rfl rfl rfl (by decide) rfl (Nat.le_of_ble_eq_true rfl) dX12_gets_57 (fun v τ hq => ?_)
      obtain ⟨rfl, h⟩ := hq
      obtain ⟨s2, es2⟩ : ∃ z, z = τ := ⟨_, rfl⟩
      rw [← es2] at h ⊢
      clear es2
      refine ga_iconst (v := 0) hC dX12_gets_60 (by decide) ?_
      refine ga_istore_n (lv' := [(2, .int 0), (0, .ref (ad 0)), (1, .int v1)]) hC dX12_gets_61 rfl (by decide) rfl ?_
      refine ga_locals [1, 2, 0] rfl ?_
      exact h p l e s m args below meth c D cy ad hC
  · have h := h.2 hc
    refine ga_aload_n hC dX12_gets_32 0 rfl rfl ?_
    refine gM_0_17 hC q_6_102 dX12_gets_33 ?_
    refine ga_iload_n hC dX12_gets_36 2 rfl rfl ?_
    refine ga_aload_n hC dX12_gets_37 0 rfl rfl ?_
    refine gM_0_16 hC q_6_101 dX12_gets_38 ?_
    refine ga_iload_n hC dX12_gets_41 2 rfl rfl ?_
    obtain ⟨h4, h⟩ := h
    refine ga_zald hC aM_15 (by decide) h4 dX12_gets_42 ?_
    obtain ⟨h5, h⟩ := h
    refine ga_zast hC aM_16 (by decide) h5 dX12_gets_43 ?_
    refine ga_sig (σ := cg_i σ 16 v2.toNatClampNeg (vp_nar .boolean (σ.1 15 v2.toNatClampNeg))) (fun s6 es6 => ?_)
    have h := h s6 es6
    refine ga_iinc (v := v2 + 1) (lv' := [(2, .int (v2 + 1)), (0, .ref (ad 0)), (1, .int v1)]) hC dX12_gets_44 2 rfl rfl (by decide) rfl ?_
    refine ga_goto (tgt := 24) hC dX12_gets_47 (by decide) ?_
    refine ga_locals [1, 2, 0] rfl ?_
    exact h p l e s m args below meth c D cy ad hC
set_option maxRecDepth 100000 in
set_option maxHeartbeats 4000000 in
theorem v_X12_gets {v1 : Int32} {σ : cg_S} {Q : cg_S → Prop}
    (h : (¬ v1 = 109 → (¬ v1 = 112 → L_X12_gets_24 v1 0 σ Q) ∧ (v1 = 112 → M_X12_parities σ (fun s2 => Q s2))) ∧ (v1 = 109 → M_X12_means σ (fun s5 => Q s5))) : M_X12_gets v1 σ Q := by
  refine cg_entry (lv := fun ad => [(0, .ref (ad 0)), (1, .int v1)]) (by decide +kernel) (fun _ => rfl) (fun _ => Nat.le_of_ble_eq_true rfl) ?_
  intro p l e s m args below meth c D cy ad hC
  refine ga_iload_n hC dX12_gets_0 1 rfl rfl ?_
  refine ga_bipush (v := 109) hC dX12_gets_1 (by decide) ?_
  refine ga_icmp_ne (tgt := 11) hC dX12_gets_3 (by decide) (fun hc => ?_) (fun hc => ?_)
  · have h := h.1 hc
    refine ga_iload_n hC dX12_gets_11 1 rfl rfl ?_
    refine ga_bipush (v := 112) hC dX12_gets_12 (by decide) ?_
    refine ga_icmp_ne (tgt := 22) hC dX12_gets_14 (by decide) (fun hc => ?_) (fun hc => ?_)
    · have h := h.1 hc
      refine ga_iconst (v := 0) hC dX12_gets_22 (by decide) ?_
      refine ga_istore_n (lv' := [(2, .int 0), (0, .ref (ad 0)), (1, .int v1)]) hC dX12_gets_23 rfl (by decide) rfl ?_
      refine ga_locals [1, 2, 0] rfl ?_
      exact h p l e s m args below meth c D cy ad hC
    · have h := h.2 hc
      refine ga_aload_n hC dX12_gets_17 0 rfl rfl ?_
      refine ga_callV (As := []) (st := []) (k := 0) (n := 0) hC h q_7_141 q_7_143 q_0_38 q_1_13 q_7_144 rfl rfl rfl (by decide +kernel) ⟨Nat.le_of_ble_eq_true rfl, Nat.le_of_ble_eq_true rfl⟩ ⟨Nat.le_of_ble_eq_true rfl, Nat.le_of_ble_eq_true rfl⟩ rfl rfl rfl (by decide) rfl (Nat.le_of_ble_eq_true rfl) dX12_gets_18 (fun v τ hq => ?_)
      obtain ⟨rfl, h⟩ := hq
      obtain ⟨s2, es2⟩ : ∃ z, z = τ := ⟨_, rfl⟩
      rw [← es2] at h ⊢
      clear es2
      exact ga_vret hC dX12_gets_21 ⟨rfl, h⟩
  · have h := h.2 hc
    refine ga_aload_n hC dX12_gets_6 0 rfl rfl ?_
    refine ga_callV (As := []) (st := []) (k := 0) (n := 0) hC h q_7_81 q_7_83 q_0_23 q_1_13 q_7_84 rfl rfl rfl (by decide +kernel) ⟨Nat.le_of_ble_eq_true rfl, Nat.le_of_ble_eq_true rfl⟩ ⟨Nat.le_of_ble_eq_true rfl, Nat.le_of_ble_eq_true rfl⟩ rfl rfl rfl (by decide) rfl (Nat.le_of_ble_eq_true rfl) dX12_gets_7 (fun v τ hq => ?_)
    obtain ⟨rfl, h⟩ := hq
    obtain ⟨s5, es5⟩ : ∃ z, z = τ := ⟨_, rfl⟩
    rw [← es5] at h ⊢
    clear es5
    exact ga_vret hC dX12_gets_10 ⟨rfl, h⟩
def M_X12_goesOn (v1 : Int32) (σ : cg_S) (Q : Int32 → cg_S → Prop) : Prop := cg_M cg_WM yX12_goesOn cX12_goesOn 3 (some .boolean) (cg_R 0) (fun ad => [.ref (ad 0), .int v1]) σ (cg_qi Q)
theorem M_X12_goesOn.mono {v1 : Int32} {σ : cg_S} {Q Q2 : Int32 → cg_S → Prop} (h : M_X12_goesOn v1 σ Q) (hq : ∀ r τ, Q r τ → Q2 r τ) : M_X12_goesOn v1 σ Q2 := cg_M.mono h (fun ad v τ ⟨r, e, q⟩ => ⟨r, e, hq r τ q⟩)
def L_X12_goesOn_2 (v1 : Int32) (v2 : Int32) (σ : cg_S) (Q : Int32 → cg_S → Prop) : Prop := cg_L cg_WM RX12 cX12_goesOn 3 (some .boolean) (cg_R 0) 2 (fun ad => [(0, .ref (ad 0)), (1, .int v1), (2, .int v2)]) (fun ad => []) σ (cg_qi Q)
set_option maxRecDepth 100000 in
set_option maxHeartbeats 4000000 in
theorem v_X12_goesOn_2 {v1 : Int32} {v2 : Int32} {σ : cg_S} {Q : Int32 → cg_S → Prop}
    (h : ((σ.1 0 1) ≤ v2 → Q 0 σ) ∧ (¬ (σ.1 0 1) ≤ v2 → vp_in v2 7 ∧ ((σ.1 1 v2.toNatClampNeg) = v1 → vp_in v2 7 ∧ vp_in v2 7 ∧ ∀ s4 : cg_S, s4 = cg_i σ 5 v2.toNatClampNeg ((σ.1 5 v2.toNatClampNeg) + 1) → vp_in v2 7 ∧ vp_in v2 7 ∧ ((s4.1 3 v2.toNatClampNeg) ≤ (s4.1 5 v2.toNatClampNeg) → vp_in v2 7 ∧ ∀ s8 : cg_S, s8 = cg_i s4 5 v2.toNatClampNeg 0 → L_X12_goesOn_2 v1 (v2 + 1) s8 Q) ∧ (¬ (s4.1 3 v2.toNatClampNeg) ≤ (s4.1 5 v2.toNatClampNeg) → Q 1 s4)) ∧ (¬ (σ.1 1 v2.toNatClampNeg) = v1 → L_X12_goesOn_2 v1 (v2 + 1) σ Q))) : L_X12_goesOn_2 v1 v2 σ Q := by
  intro p l e s m args below meth c D cy ad hC
  refine ga_iload_n hC dX12_goesOn_2 2 rfl rfl ?_
  refine ga_aload_n hC dX12_goesOn_3 0 rfl rfl ?_
  refine gM_0_1 hC q_6_86 dX12_goesOn_4 ?_
  refine ga_icmp_ge (tgt := 63) hC dX12_goesOn_7 (by decide) (fun hc => ?_) (fun hc => ?_)
  · have h := h.1 hc
    refine ga_iconst (v := 0) hC dX12_goesOn_63 (by decide) ?_
    exact ga_zret hC dX12_goesOn_64 (by decide) ⟨_, rfl, h⟩
  · have h := h.2 hc
    refine ga_aload_n hC dX12_goesOn_10 0 rfl rfl ?_
    refine gM_0_6 hC q_6_91 dX12_goesOn_11 ?_
    refine ga_iload_n hC dX12_goesOn_14 2 rfl rfl ?_
    obtain ⟨h1, h⟩ := h
    refine ga_iald hC aM_1 (by decide) h1 dX12_goesOn_15 ?_
    refine ga_iload_n hC dX12_goesOn_16 1 rfl rfl ?_
    refine ga_icmp_eq (tgt := 23) hC dX12_goesOn_17 (by decide) (fun hc => ?_) (fun hc => ?_)
    · have h := h.1 hc
      refine ga_aload_n hC dX12_goesOn_23 0 rfl rfl ?_
      refine gM_0_10 hC q_6_95 dX12_goesOn_24 ?_
      refine ga_iload_n hC dX12_goesOn_27 2 rfl rfl ?_
      refine ga_dup2_11 hC dX12_goesOn_28 rfl rfl ?_
      obtain ⟨h2, h⟩ := h
      refine ga_iald hC aM_5 (by decide) h2 dX12_goesOn_29 ?_
      refine ga_iconst (v := 1) hC dX12_goesOn_30 (by decide) ?_
      refine ga_iadd hC dX12_goesOn_31 ?_
      obtain ⟨h3, h⟩ := h
      refine ga_iast hC aM_5 (by decide) h3 dX12_goesOn_32 ?_
      refine ga_sig (σ := cg_i σ 5 v2.toNatClampNeg ((σ.1 5 v2.toNatClampNeg) + 1)) (fun s4 es4 => ?_)
      have h := h s4 es4
      refine ga_aload_n hC dX12_goesOn_33 0 rfl rfl ?_
      refine gM_0_10 hC q_6_95 dX12_goesOn_34 ?_
      refine ga_iload_n hC dX12_goesOn_37 2 rfl rfl ?_
      obtain ⟨h5, h⟩ := h
      refine ga_iald hC aM_5 (by decide) h5 dX12_goesOn_38 ?_
      refine ga_aload_n hC dX12_goesOn_39 0 rfl rfl ?_
      refine gM_0_8 hC q_6_93 dX12_goesOn_40 ?_
      refine ga_iload_n hC dX12_goesOn_43 2 rfl rfl ?_
      obtain ⟨h6, h⟩ := h
      refine ga_iald hC aM_3 (by decide) h6 dX12_goesOn_44 ?_
      refine ga_icmp_ge (tgt := 50) hC dX12_goesOn_45 (by decide) (fun hc => ?_) (fun hc => ?_)
      · have h := h.1 hc
        refine ga_aload_n hC dX12_goesOn_50 0 rfl rfl ?_
        refine gM_0_10 hC q_6_95 dX12_goesOn_51 ?_
        refine ga_iload_n hC dX12_goesOn_54 2 rfl rfl ?_
        refine ga_iconst (v := 0) hC dX12_goesOn_55 (by decide) ?_
        obtain ⟨h7, h⟩ := h
        refine ga_iast hC aM_5 (by decide) h7 dX12_goesOn_56 ?_
        refine ga_sig (σ := cg_i s4 5 v2.toNatClampNeg 0) (fun s8 es8 => ?_)
        have h := h s8 es8
        refine ga_iinc (v := v2 + 1) (lv' := [(2, .int (v2 + 1)), (0, .ref (ad 0)), (1, .int v1)]) hC dX12_goesOn_57 2 rfl rfl (by decide) rfl ?_
        refine ga_goto (tgt := 2) hC dX12_goesOn_60 (by decide) ?_
        refine ga_locals [1, 2, 0] rfl ?_
        exact h p l e s m args below meth c D cy ad hC
      · have h := h.2 hc
        refine ga_iconst (v := 1) hC dX12_goesOn_48 (by decide) ?_
        exact ga_zret hC dX12_goesOn_49 (by decide) ⟨_, rfl, h⟩
    · have h := h.2 hc
      refine ga_goto (tgt := 57) hC dX12_goesOn_20 (by decide) ?_
      refine ga_iinc (v := v2 + 1) (lv' := [(2, .int (v2 + 1)), (0, .ref (ad 0)), (1, .int v1)]) hC dX12_goesOn_57 2 rfl rfl (by decide) rfl ?_
      refine ga_goto (tgt := 2) hC dX12_goesOn_60 (by decide) ?_
      refine ga_locals [1, 2, 0] rfl ?_
      exact h p l e s m args below meth c D cy ad hC
set_option maxRecDepth 100000 in
set_option maxHeartbeats 4000000 in
theorem v_X12_goesOn {v1 : Int32} {σ : cg_S} {Q : Int32 → cg_S → Prop}
    (h : L_X12_goesOn_2 v1 0 σ Q) : M_X12_goesOn v1 σ Q := by
  refine cg_entry (lv := fun ad => [(0, .ref (ad 0)), (1, .int v1)]) (by decide +kernel) (fun _ => rfl) (fun _ => Nat.le_of_ble_eq_true rfl) ?_
  intro p l e s m args below meth c D cy ad hC
  refine ga_iconst (v := 0) hC dX12_goesOn_0 (by decide) ?_
  refine ga_istore_n (lv' := [(2, .int 0), (0, .ref (ad 0)), (1, .int v1)]) hC dX12_goesOn_1 rfl (by decide) rfl ?_
  refine ga_locals [1, 2, 0] rfl ?_
  exact h p l e s m args below meth c D cy ad hC
def M_X12_begins (v1 : Int32) (σ : cg_S) (Q : cg_S → Prop) : Prop := cg_M cg_WM yX12_begins cX12_begins 3 none (cg_R 0) (fun ad => [.ref (ad 0), .int v1]) σ (cg_qv Q)
theorem M_X12_begins.mono {v1 : Int32} {σ : cg_S} {Q Q2 : cg_S → Prop} (h : M_X12_begins v1 σ Q) (hq : ∀ τ, Q τ → Q2 τ) : M_X12_begins v1 σ Q2 := cg_M.mono h (fun ad v τ ⟨e, q⟩ => ⟨e, hq τ q⟩)
def L_X12_begins_2 (v1 : Int32) (v2 : Int32) (σ : cg_S) (Q : cg_S → Prop) : Prop := cg_L cg_WM RX12 cX12_begins 3 none (cg_R 0) 2 (fun ad => [(0, .ref (ad 0)), (1, .int v1), (2, .int v2)]) (fun ad => []) σ (cg_qv Q)
set_option maxRecDepth 100000 in
set_option maxHeartbeats 4000000 in
theorem v_X12_begins_2 {v1 : Int32} {v2 : Int32} {σ : cg_S} {Q : cg_S → Prop}
    (h : ((σ.1 0 1) ≤ v2 → Q σ) ∧ (¬ (σ.1 0 1) ≤ v2 → vp_in v2 7 ∧ (¬ (σ.1 1 v2.toNatClampNeg) = v1 → vp_in v2 7 ∧ vp_in v2 7 ∧ ∀ s4 : cg_S, s4 = cg_i σ 5 v2.toNatClampNeg (σ.1 5 v2.toNatClampNeg) → L_X12_begins_2 v1 (v2 + 1) s4 Q) ∧ ((σ.1 1 v2.toNatClampNeg) = v1 → vp_in v2 7 ∧ ∀ s6 : cg_S, s6 = cg_i σ 5 v2.toNatClampNeg 0 → L_X12_begins_2 v1 (v2 + 1) s6 Q))) : L_X12_begins_2 v1 v2 σ Q := by
  intro p l e s m args below meth c D cy ad hC
  refine ga_iload_n hC dX12_begins_2 2 rfl rfl ?_
  refine ga_aload_n hC dX12_begins_3 0 rfl rfl ?_
  refine gM_0_1 hC q_6_86 dX12_begins_4 ?_
  refine ga_icmp_ge (tgt := 42) hC dX12_begins_7 (by decide) (fun hc => ?_) (fun hc => ?_)
  · have h := h.1 hc
    exact ga_vret hC dX12_begins_42 ⟨rfl, h⟩
  · have h := h.2 hc
    refine ga_aload_n hC dX12_begins_10 0 rfl rfl ?_
    refine gM_0_10 hC q_6_95 dX12_begins_11 ?_
    refine ga_iload_n hC dX12_begins_14 2 rfl rfl ?_
    refine ga_aload_n hC dX12_begins_15 0 rfl rfl ?_
    refine gM_0_6 hC q_6_91 dX12_begins_16 ?_
    refine ga_iload_n hC dX12_begins_19 2 rfl rfl ?_
    obtain ⟨h1, h⟩ := h
    refine ga_iald hC aM_1 (by decide) h1 dX12_begins_20 ?_
    refine ga_iload_n hC dX12_begins_21 1 rfl rfl ?_
    refine ga_icmp_ne (tgt := 29) hC dX12_begins_22 (by decide) (fun hc => ?_) (fun hc => ?_)
    · have h := h.1 hc
      refine ga_aload_n hC dX12_begins_29 0 rfl rfl ?_
      refine gM_0_10 hC q_6_95 dX12_begins_30 ?_
      refine ga_iload_n hC dX12_begins_33 2 rfl rfl ?_
      obtain ⟨h2, h⟩ := h
      refine ga_iald hC aM_5 (by decide) h2 dX12_begins_34 ?_
      obtain ⟨h3, h⟩ := h
      refine ga_iast hC aM_5 (by decide) h3 dX12_begins_35 ?_
      refine ga_sig (σ := cg_i σ 5 v2.toNatClampNeg (σ.1 5 v2.toNatClampNeg)) (fun s4 es4 => ?_)
      have h := h s4 es4
      refine ga_iinc (v := v2 + 1) (lv' := [(2, .int (v2 + 1)), (0, .ref (ad 0)), (1, .int v1)]) hC dX12_begins_36 2 rfl rfl (by decide) rfl ?_
      refine ga_goto (tgt := 2) hC dX12_begins_39 (by decide) ?_
      refine ga_locals [1, 2, 0] rfl ?_
      exact h p l e s m args below meth c D cy ad hC
    · have h := h.2 hc
      refine ga_iconst (v := 0) hC dX12_begins_25 (by decide) ?_
      refine ga_goto (tgt := 35) hC dX12_begins_26 (by decide) ?_
      obtain ⟨h5, h⟩ := h
      refine ga_iast hC aM_5 (by decide) h5 dX12_begins_35 ?_
      refine ga_sig (σ := cg_i σ 5 v2.toNatClampNeg 0) (fun s6 es6 => ?_)
      have h := h s6 es6
      refine ga_iinc (v := v2 + 1) (lv' := [(2, .int (v2 + 1)), (0, .ref (ad 0)), (1, .int v1)]) hC dX12_begins_36 2 rfl rfl (by decide) rfl ?_
      refine ga_goto (tgt := 2) hC dX12_begins_39 (by decide) ?_
      refine ga_locals [1, 2, 0] rfl ?_
      exact h p l e s m args below meth c D cy ad hC
set_option maxRecDepth 100000 in
set_option maxHeartbeats 4000000 in
theorem v_X12_begins {v1 : Int32} {σ : cg_S} {Q : cg_S → Prop}
    (h : L_X12_begins_2 v1 0 σ Q) : M_X12_begins v1 σ Q := by
  refine cg_entry (lv := fun ad => [(0, .ref (ad 0)), (1, .int v1)]) (by decide +kernel) (fun _ => rfl) (fun _ => Nat.le_of_ble_eq_true rfl) ?_
  intro p l e s m args below meth c D cy ad hC
  refine ga_iconst (v := 0) hC dX12_begins_0 (by decide) ?_
  refine ga_istore_n (lv' := [(2, .int 0), (0, .ref (ad 0)), (1, .int v1)]) hC dX12_begins_1 rfl (by decide) rfl ?_
  refine ga_locals [1, 2, 0] rfl ?_
  exact h p l e s m args below meth c D cy ad hC
def M_X12_answers (v1 : Int32) (v2 : Int32) (σ : cg_S) (Q : cg_S → Prop) : Prop := cg_M cg_WM yX12_answers cX12_answers 7 none (cg_R 6) (fun ad => [.ref (ad 0), .int v1, .int v2]) σ (cg_qv Q)
theorem M_X12_answers.mono {v1 : Int32} {v2 : Int32} {σ : cg_S} {Q Q2 : cg_S → Prop} (h : M_X12_answers v1 v2 σ Q) (hq : ∀ τ, Q τ → Q2 τ) : M_X12_answers v1 v2 σ Q2 := cg_M.mono h (fun ad v τ ⟨e, q⟩ => ⟨e, hq τ q⟩)
def L_X12_answers_11 (v1 : Int32) (v2 : Int32) (t0 : Int32) (σ : cg_S) (Q : cg_S → Prop) : Prop := cg_L cg_WM RX12 cX12_answers 7 none (cg_R 6) 11 (fun ad => [(0, .ref (ad 0)), (1, .int v1), (2, .int v2)]) (fun ad => [.int t0]) σ (cg_qv Q)
def L_X12_answers_23 (v1 : Int32) (v2 : Int32) (v3 : Int32) (v4 : Int32) (v5 : Int32) (σ : cg_S) (Q : cg_S → Prop) : Prop := cg_L cg_WM RX12 cX12_answers 7 none (cg_R 6) 23 (fun ad => [(0, .ref (ad 0)), (1, .int v1), (2, .int v2), (3, .int v3), (4, .int v4), (5, .int v5)]) (fun ad => []) σ (cg_qv Q)
def L_X12_answers_36 (v1 : Int32) (v2 : Int32) (v3 : Int32) (v4 : Int32) (v6 : Int32) (σ : cg_S) (Q : cg_S → Prop) : Prop := cg_L cg_WM RX12 cX12_answers 7 none (cg_R 6) 36 (fun ad => [(0, .ref (ad 0)), (1, .int v1), (2, .int v2), (3, .int v3), (4, .int v4), (6, .int v6)]) (fun ad => []) σ (cg_qv Q)
def L_X12_answers_89 (v1 : Int32) (v2 : Int32) (v3 : Int32) (v4 : Int32) (v6 : Int32) (σ : cg_S) (Q : cg_S → Prop) : Prop := cg_L cg_WM RX12 cX12_answers 7 none (cg_R 6) 89 (fun ad => [(0, .ref (ad 0)), (1, .int v1), (2, .int v2), (3, .int v3), (4, .int v4), (6, .int v6)]) (fun ad => []) σ (cg_qv Q)
set_option maxRecDepth 100000 in
set_option maxHeartbeats 4000000 in
theorem v_X12_answers_89 {v1 : Int32} {v2 : Int32} {v3 : Int32} {v4 : Int32} {v6 : Int32} {σ : cg_S} {Q : cg_S → Prop}
    (h : vp_in v6 7 ∧ vp_in v6 7 ∧ ∀ s3 : cg_S, s3 = cg_l σ 24 v6.toNatClampNeg (σ.2.1 22 v6.toNatClampNeg) → vp_in v6 7 ∧ vp_in v6 7 ∧ ∀ s6 : cg_S, s6 = cg_l s3 25 v6.toNatClampNeg (s3.2.1 23 v6.toNatClampNeg) → L_X12_answers_36 v1 v2 v3 v4 (v6 + 1) s6 Q) : L_X12_answers_89 v1 v2 v3 v4 v6 σ Q := by
  intro p l e s m args below meth c D cy ad hC
  refine ga_aload_n hC dX12_answers_89 0 rfl rfl ?_
  refine gM_0_24 hC q_6_109 dX12_answers_90 ?_
  refine ga_iload hC dX12_answers_93 5 rfl ?_
  refine ga_aload_n hC dX12_answers_95 0 rfl rfl ?_
  refine gM_0_22 hC q_6_107 dX12_answers_96 ?_
  refine ga_iload hC dX12_answers_99 5 rfl ?_
  obtain ⟨h1, h⟩ := h
  refine ga_lald hC aM_22 (by decide) h1 dX12_answers_101 ?_
  obtain ⟨h2, h⟩ := h
  refine ga_last hC aM_24 (by decide) h2 dX12_answers_102 ?_
  refine ga_sig (σ := cg_l σ 24 v6.toNatClampNeg (σ.2.1 22 v6.toNatClampNeg)) (fun s3 es3 => ?_)
  have h := h s3 es3
  refine ga_aload_n hC dX12_answers_103 0 rfl rfl ?_
  refine gM_0_25 hC q_6_110 dX12_answers_104 ?_
  refine ga_iload hC dX12_answers_107 5 rfl ?_
  refine ga_aload_n hC dX12_answers_109 0 rfl rfl ?_
  refine gM_0_23 hC q_6_108 dX12_answers_110 ?_
  refine ga_iload hC dX12_answers_113 5 rfl ?_
  obtain ⟨h4, h⟩ := h
  refine ga_lald hC aM_23 (by decide) h4 dX12_answers_115 ?_
  obtain ⟨h5, h⟩ := h
  refine ga_last hC aM_25 (by decide) h5 dX12_answers_116 ?_
  refine ga_sig (σ := cg_l s3 25 v6.toNatClampNeg (s3.2.1 23 v6.toNatClampNeg)) (fun s6 es6 => ?_)
  have h := h s6 es6
  refine ga_iinc (v := v6 + 1) (lv' := [(6, .int (v6 + 1)), (0, .ref (ad 0)), (1, .int v1), (2, .int v2), (3, .int v3), (4, .int v4)]) hC dX12_answers_117 5 rfl rfl (by decide) rfl ?_
  refine ga_goto (tgt := 36) hC dX12_answers_120 (by decide) ?_
  refine ga_locals [1, 2, 3, 4, 5, 0] rfl ?_
  exact h p l e s m args below meth c D cy ad hC
set_option maxRecDepth 100000 in
set_option maxHeartbeats 4000000 in
theorem v_X12_answers_36 {v1 : Int32} {v2 : Int32} {v3 : Int32} {v4 : Int32} {v6 : Int32} {σ : cg_S} {Q : cg_S → Prop}
    (h : ((σ.1 0 1) ≤ v6 → M_X12_goesOn v1 σ (fun r1 s2 => L_X12_answers_23 v1 v2 v3 0 r1 s2 Q)) ∧ (¬ (σ.1 0 1) ≤ v6 → (¬ v4 = 0 → L_X12_answers_89 v1 v2 v3 v4 v6 σ Q) ∧ (v4 = 0 → vp_in v6 7 ∧ vp_in v6 7 ∧ vp_in v6 7 ∧ vp_in v6 7 ∧ M_X12_compare (σ.2.1 22 v6.toNatClampNeg) (σ.2.1 23 v6.toNatClampNeg) (σ.2.1 24 v6.toNatClampNeg) (σ.2.1 25 v6.toNatClampNeg) σ (fun r8 s9 => (0 < (v3 * r8) → L_X12_answers_89 v1 v2 v3 v4 v6 s9 Q) ∧ (¬ 0 < (v3 * r8) → L_X12_answers_36 v1 v2 v3 v4 (v6 + 1) s9 Q))))) : L_X12_answers_36 v1 v2 v3 v4 v6 σ Q := by
  intro p l e s m args below meth c D cy ad hC
  refine ga_iload hC dX12_answers_36 5 rfl ?_
  refine ga_aload_n hC dX12_answers_38 0 rfl rfl ?_
  refine gM_0_1 hC q_6_86 dX12_answers_39 ?_
  refine ga_icmp_ge (tgt := 123) hC dX12_answers_42 (by decide) (fun hc => ?_) (fun hc => ?_)
  · have h := h.1 hc
    refine ga_iconst (v := 0) hC dX12_answers_123 (by decide) ?_
    refine ga_istore (lv' := [(4, .int 0), (0, .ref (ad 0)), (1, .int v1), (2, .int v2), (3, .int v3), (6, .int v6)]) hC dX12_answers_124 (by decide) rfl ?_
    refine ga_aload_n hC dX12_answers_126 1 rfl rfl ?_
    refine ga_iload_n hC dX12_answers_127 2 rfl rfl ?_
    refine ga_callV (As := [.int v1]) (st := []) (k := 0) (n := 1) hC h q_7_152 q_7_154 q_0_40 q_1_13 q_7_155 rfl rfl rfl (by decide +kernel) ⟨Nat.le_of_ble_eq_true rfl, Nat.le_of_ble_eq_true rfl⟩ ⟨Nat.le_of_ble_eq_true rfl, Nat.le_of_ble_eq_true rfl⟩ rfl rfl rfl (by decide) rfl (Nat.le_of_ble_eq_true rfl) dX12_answers_128 (fun v τ hq => ?_)
    obtain ⟨r1, rfl, h⟩ := hq
    obtain ⟨s2, es2⟩ : ∃ z, z = τ := ⟨_, rfl⟩
    rw [← es2] at h ⊢
    clear es2
    refine ga_istore (lv' := [(5, .int r1), (4, .int 0), (0, .ref (ad 0)), (1, .int v1), (2, .int v2), (3, .int v3), (6, .int v6)]) hC dX12_answers_131 (by decide) rfl ?_
    refine ga_goto (tgt := 23) hC dX12_answers_133 (by decide) ?_
    refine ga_locals [2, 3, 4, 5, 1, 0] rfl ?_
    exact h p l e s m args below meth c D cy ad hC
  · have h := h.2 hc
    refine ga_iload hC dX12_answers_45 4 rfl ?_
    refine ga_if_ne (tgt := 89) hC dX12_answers_47 (by decide) (fun hc => ?_) (fun hc => ?_)
    · have h := h.1 hc
      refine ga_locals [0, 1, 2, 3, 4, 5] rfl ?_
      exact h p l e s m args below meth c D cy ad hC
    · have h := h.2 hc
      refine ga_iload_n hC dX12_answers_50 3 rfl rfl ?_
      refine ga_aload_n hC dX12_answers_51 0 rfl rfl ?_
      refine gM_0_22 hC q_6_107 dX12_answers_52 ?_
      refine ga_iload hC dX12_answers_55 5 rfl ?_
      obtain ⟨h4, h⟩ := h
      refine ga_lald hC aM_22 (by decide) h4 dX12_answers_57 ?_
      refine ga_aload_n hC dX12_answers_58 0 rfl rfl ?_
      refine gM_0_23 hC q_6_108 dX12_answers_59 ?_
      refine ga_iload hC dX12_answers_62 5 rfl ?_
      obtain ⟨h5, h⟩ := h
      refine ga_lald hC aM_23 (by decide) h5 dX12_answers_64 ?_
      refine ga_aload_n hC dX12_answers_65 0 rfl rfl ?_
      refine gM_0_24 hC q_6_109 dX12_answers_66 ?_
      refine ga_iload hC dX12_answers_69 5 rfl ?_
      obtain ⟨h6, h⟩ := h
      refine ga_lald hC aM_24 (by decide) h6 dX12_answers_71 ?_
      refine ga_aload_n hC dX12_answers_72 0 rfl rfl ?_
      refine gM_0_25 hC q_6_110 dX12_answers_73 ?_
      refine ga_iload hC dX12_answers_76 5 rfl ?_
      obtain ⟨h7, h⟩ := h
      refine ga_lald hC aM_25 (by decide) h7 dX12_answers_78 ?_
      refine ga_callS (As := [.long (σ.2.1 22 v6.toNatClampNeg), .long (σ.2.1 23 v6.toNatClampNeg), .long (σ.2.1 24 v6.toNatClampNeg), .long (σ.2.1 25 v6.toNatClampNeg)]) (st := [.int v3]) (n := 4) hC h q_7_149 q_7_150 q_1_13 q_7_151 rfl rfl rfl (by decide +kernel) ⟨Nat.le_of_ble_eq_true rfl, Nat.le_of_ble_eq_true rfl⟩ ⟨Nat.le_of_ble_eq_true rfl, Nat.le_of_ble_eq_true rfl⟩ rfl rfl (Nat.le_of_ble_eq_true rfl) dX12_answers_79 (fun v τ hq => ?_)
      obtain ⟨r8, rfl, h⟩ := hq
      obtain ⟨s9, es9⟩ : ∃ z, z = τ := ⟨_, rfl⟩
      rw [← es9] at h ⊢
      clear es9
      refine ga_imul hC dX12_answers_82 ?_
      refine ga_if_gt (tgt := 89) hC dX12_answers_83 (by decide) (fun hc => ?_) (fun hc => ?_)
      · have h := h.1 hc
        refine ga_locals [0, 1, 2, 3, 4, 5] rfl ?_
        exact h p l e s m args below meth c D cy ad hC
      · have h := h.2 hc
        refine ga_goto (tgt := 117) hC dX12_answers_86 (by decide) ?_
        refine ga_iinc (v := v6 + 1) (lv' := [(6, .int (v6 + 1)), (0, .ref (ad 0)), (1, .int v1), (2, .int v2), (3, .int v3), (4, .int v4)]) hC dX12_answers_117 5 rfl rfl (by decide) rfl ?_
        refine ga_goto (tgt := 36) hC dX12_answers_120 (by decide) ?_
        refine ga_locals [1, 2, 3, 4, 5, 0] rfl ?_
        exact h p l e s m args below meth c D cy ad hC
set_option maxRecDepth 100000 in
set_option maxHeartbeats 4000000 in
theorem v_X12_answers_23 {v1 : Int32} {v2 : Int32} {v3 : Int32} {v4 : Int32} {v5 : Int32} {σ : cg_S} {Q : cg_S → Prop}
    (h : (v5 = 0 → Q σ) ∧ (¬ v5 = 0 → M_X12_gets v2 σ (fun s2 => L_X12_answers_36 v1 v2 v3 v4 0 s2 Q))) : L_X12_answers_23 v1 v2 v3 v4 v5 σ Q := by
  intro p l e s m args below meth c D cy ad hC
  refine ga_iload hC dX12_answers_23 5 rfl ?_
  refine ga_if_eq (tgt := 136) hC dX12_answers_25 (by decide) (fun hc => ?_) (fun hc => ?_)
  · have h := h.1 hc
    exact ga_vret hC dX12_answers_136 ⟨rfl, h⟩
  · have h := h.2 hc
    refine ga_aload_n hC dX12_answers_28 0 rfl rfl ?_
    refine ga_iload_n hC dX12_answers_29 2 rfl rfl ?_
    refine ga_callV (As := [.int v2]) (st := []) (k := 0) (n := 1) hC h q_7_77 q_7_79 q_0_22 q_1_13 q_7_80 rfl rfl rfl (by decide +kernel) ⟨Nat.le_of_ble_eq_true rfl, Nat.le_of_ble_eq_true rfl⟩ ⟨Nat.le_of_ble_eq_true rfl, Nat.le_of_ble_eq_true rfl⟩ rfl rfl rfl (by decide) rfl (Nat.le_of_ble_eq_true rfl) dX12_answers_30 (fun v τ hq => ?_)
    obtain ⟨rfl, h⟩ := hq
    obtain ⟨s2, es2⟩ : ∃ z, z = τ := ⟨_, rfl⟩
    rw [← es2] at h ⊢
    clear es2
    refine ga_iconst (v := 0) hC dX12_answers_33 (by decide) ?_
    refine ga_istore (lv' := [(6, .int 0), (0, .ref (ad 0)), (1, .int v1), (2, .int v2), (3, .int v3), (4, .int v4), (5, .int v5)]) hC dX12_answers_34 (by decide) rfl ?_
    refine ga_locals [1, 2, 3, 4, 5, 0] rfl ?_
    exact h p l e s m args below meth c D cy ad hC
set_option maxRecDepth 100000 in
set_option maxHeartbeats 4000000 in
theorem v_X12_answers_11 {v1 : Int32} {v2 : Int32} {t0 : Int32} {σ : cg_S} {Q : cg_S → Prop}
    (h : M_X12_begins v1 σ (fun s2 => L_X12_answers_23 v1 v2 t0 1 1 s2 Q)) : L_X12_answers_11 v1 v2 t0 σ Q := by
  intro p l e s m args below meth c D cy ad hC
  refine ga_istore_n (lv' := [(3, .int t0), (0, .ref (ad 0)), (1, .int v1), (2, .int v2)]) hC dX12_answers_11 rfl (by decide) rfl ?_
  refine ga_iconst (v := 1) hC dX12_answers_12 (by decide) ?_
  refine ga_istore (lv' := [(4, .int 1), (3, .int t0), (0, .ref (ad 0)), (1, .int v1), (2, .int v2)]) hC dX12_answers_13 (by decide) rfl ?_
  refine ga_iconst (v := 1) hC dX12_answers_15 (by decide) ?_
  refine ga_istore (lv' := [(5, .int 1), (4, .int 1), (3, .int t0), (0, .ref (ad 0)), (1, .int v1), (2, .int v2)]) hC dX12_answers_16 (by decide) rfl ?_
  refine ga_aload_n hC dX12_answers_18 3 rfl rfl ?_
  refine ga_iload_n hC dX12_answers_19 4 rfl rfl ?_
  refine ga_callV (As := [.int v1]) (st := []) (k := 0) (n := 1) hC h q_7_69 q_7_71 q_0_20 q_1_13 q_7_72 rfl rfl rfl (by decide +kernel) ⟨Nat.le_of_ble_eq_true rfl, Nat.le_of_ble_eq_true rfl⟩ ⟨Nat.le_of_ble_eq_true rfl, Nat.le_of_ble_eq_true rfl⟩ rfl rfl rfl (by decide) rfl (Nat.le_of_ble_eq_true rfl) dX12_answers_20 (fun v τ hq => ?_)
  obtain ⟨rfl, h⟩ := hq
  obtain ⟨s2, es2⟩ : ∃ z, z = τ := ⟨_, rfl⟩
  rw [← es2] at h ⊢
  clear es2
  refine ga_locals [3, 4, 5, 2, 1, 0] rfl ?_
  exact h p l e s m args below meth c D cy ad hC
set_option maxRecDepth 100000 in
set_option maxHeartbeats 4000000 in
theorem v_X12_answers {v1 : Int32} {v2 : Int32} {σ : cg_S} {Q : cg_S → Prop}
    (h : (¬ v1 = 98 → L_X12_answers_11 v1 v2 1 σ Q) ∧ (v1 = 98 → L_X12_answers_11 v1 v2 (-1) σ Q)) : M_X12_answers v1 v2 σ Q := by
  refine cg_entry (lv := fun ad => [(0, .ref (ad 0)), (1, .int v1), (2, .int v2)]) (by decide +kernel) (fun _ => rfl) (fun _ => Nat.le_of_ble_eq_true rfl) ?_
  intro p l e s m args below meth c D cy ad hC
  refine ga_iload_n hC dX12_answers_0 1 rfl rfl ?_
  refine ga_bipush (v := 98) hC dX12_answers_1 (by decide) ?_
  refine ga_icmp_ne (tgt := 10) hC dX12_answers_3 (by decide) (fun hc => ?_) (fun hc => ?_)
  · have h := h.1 hc
    refine ga_iconst (v := 1) hC dX12_answers_10 (by decide) ?_
    refine ga_locals [0, 1, 2] rfl ?_
    exact h p l e s m args below meth c D cy ad hC
  · have h := h.2 hc
    refine ga_iconst (v := (-1)) hC dX12_answers_6 (by decide) ?_
    refine ga_goto (tgt := 11) hC dX12_answers_7 (by decide) ?_
    refine ga_locals [0, 1, 2] rfl ?_
    exact h p l e s m args below meth c D cy ad hC
def M_X12_numberOf (v0 : Int32) (σ : cg_S) (Q : Int32 → cg_S → Prop) : Prop := cg_M cg_WM yX12_numberOf cX12_numberOf 1 (some .int) (cg_R 0) (fun ad => [.int v0]) σ (cg_qi Q)
theorem M_X12_numberOf.mono {v0 : Int32} {σ : cg_S} {Q Q2 : Int32 → cg_S → Prop} (h : M_X12_numberOf v0 σ Q) (hq : ∀ r τ, Q r τ → Q2 r τ) : M_X12_numberOf v0 σ Q2 := cg_M.mono h (fun ad v τ ⟨r, e, q⟩ => ⟨r, e, hq r τ q⟩)
set_option maxRecDepth 100000 in
set_option maxHeartbeats 4000000 in
theorem v_X12_numberOf {v0 : Int32} {σ : cg_S} {Q : Int32 → cg_S → Prop}
    (h : (¬ v0 = 114 → (¬ v0 = 102 → (¬ v0 = 115 → (¬ v0 = 119 → Q (-1) σ) ∧ (v0 = 119 → Q 3 σ)) ∧ (v0 = 115 → Q 2 σ)) ∧ (v0 = 102 → Q 1 σ)) ∧ (v0 = 114 → Q 0 σ)) : M_X12_numberOf v0 σ Q := by
  refine cg_entry (lv := fun ad => [(0, .int v0)]) (by decide +kernel) (fun _ => rfl) (fun _ => Nat.le_of_ble_eq_true rfl) ?_
  intro p l e s m args below meth c D cy ad hC
  refine ga_iload_n hC dX12_numberOf_0 0 rfl rfl ?_
  refine ga_bipush (v := 114) hC dX12_numberOf_1 (by decide) ?_
  refine ga_icmp_ne (tgt := 10) hC dX12_numberOf_3 (by decide) (fun hc => ?_) (fun hc => ?_)
  · have h := h.1 hc
    refine ga_iload_n hC dX12_numberOf_10 0 rfl rfl ?_
    refine ga_bipush (v := 102) hC dX12_numberOf_11 (by decide) ?_
    refine ga_icmp_ne (tgt := 20) hC dX12_numberOf_13 (by decide) (fun hc => ?_) (fun hc => ?_)
    · have h := h.1 hc
      refine ga_iload_n hC dX12_numberOf_20 0 rfl rfl ?_
      refine ga_bipush (v := 115) hC dX12_numberOf_21 (by decide) ?_
      refine ga_icmp_ne (tgt := 30) hC dX12_numberOf_23 (by decide) (fun hc => ?_) (fun hc => ?_)
      · have h := h.1 hc
        refine ga_iload_n hC dX12_numberOf_30 0 rfl rfl ?_
        refine ga_bipush (v := 119) hC dX12_numberOf_31 (by decide) ?_
        refine ga_icmp_ne (tgt := 40) hC dX12_numberOf_33 (by decide) (fun hc => ?_) (fun hc => ?_)
        · have h := h.1 hc
          refine ga_iconst (v := (-1)) hC dX12_numberOf_40 (by decide) ?_
          exact ga_iret hC dX12_numberOf_41 ⟨_, rfl, h⟩
        · have h := h.2 hc
          refine ga_iconst (v := 3) hC dX12_numberOf_36 (by decide) ?_
          refine ga_goto (tgt := 41) hC dX12_numberOf_37 (by decide) ?_
          exact ga_iret hC dX12_numberOf_41 ⟨_, rfl, h⟩
      · have h := h.2 hc
        refine ga_iconst (v := 2) hC dX12_numberOf_26 (by decide) ?_
        refine ga_goto (tgt := 41) hC dX12_numberOf_27 (by decide) ?_
        exact ga_iret hC dX12_numberOf_41 ⟨_, rfl, h⟩
    · have h := h.2 hc
      refine ga_iconst (v := 1) hC dX12_numberOf_16 (by decide) ?_
      refine ga_goto (tgt := 41) hC dX12_numberOf_17 (by decide) ?_
      exact ga_iret hC dX12_numberOf_41 ⟨_, rfl, h⟩
  · have h := h.2 hc
    refine ga_iconst (v := 0) hC dX12_numberOf_6 (by decide) ?_
    refine ga_goto (tgt := 41) hC dX12_numberOf_7 (by decide) ?_
    exact ga_iret hC dX12_numberOf_41 ⟨_, rfl, h⟩
def M_X12_values (v1 : Int32) (σ : cg_S) (Q : cg_S → Prop) : Prop := cg_M cg_WM yX12_values cX12_values 6 none (cg_R 7) (fun ad => [.ref (ad 0), .int v1]) σ (cg_qv Q)
theorem M_X12_values.mono {v1 : Int32} {σ : cg_S} {Q Q2 : cg_S → Prop} (h : M_X12_values v1 σ Q) (hq : ∀ τ, Q τ → Q2 τ) : M_X12_values v1 σ Q2 := cg_M.mono h (fun ad v τ ⟨e, q⟩ => ⟨e, hq τ q⟩)
def L_X12_values_33 (v1 : Int32) (v2 : Int32) (v3 : Int32) (v4 : Int32) (σ : cg_S) (Q : cg_S → Prop) : Prop := cg_L cg_WM RX12 cX12_values 6 none (cg_R 7) 33 (fun ad => [(0, .ref (ad 0)), (1, .int v1), (2, .int v2), (3, .int v3), (4, .int v4)]) (fun ad => []) σ (cg_qv Q)
def L_X12_values_48 (v1 : Int32) (v2 : Int32) (v3 : Int32) (v5 : Int32) (σ : cg_S) (Q : cg_S → Prop) : Prop := cg_L cg_WM RX12 cX12_values 6 none (cg_R 7) 48 (fun ad => [(0, .ref (ad 0)), (1, .int v1), (2, .int v2), (3, .int v3), (5, .int v5)]) (fun ad => []) σ (cg_qv Q)
def L_X12_values_108 (v1 : Int32) (v2 : Int32) (v3 : Int32) (v5 : Int32) (σ : cg_S) (Q : cg_S → Prop) : Prop := cg_L cg_WM RX12 cX12_values 6 none (cg_R 7) 108 (fun ad => [(0, .ref (ad 0)), (1, .int v1), (2, .int v2), (3, .int v3), (5, .int v5)]) (fun ad => []) σ (cg_qv Q)
set_option maxRecDepth 100000 in
set_option maxHeartbeats 4000000 in
theorem v_X12_values_108 {v1 : Int32} {v2 : Int32} {v3 : Int32} {v5 : Int32} {σ : cg_S} {Q : cg_S → Prop}
    (h : vp_in v5 7 ∧ vp_in ((7 * v2) + v5) 28 ∧ ∀ s3 : cg_S, s3 = cg_l σ 28 ((7 * v2) + v5).toNatClampNeg (σ.2.1 24 v5.toNatClampNeg) → vp_in v5 7 ∧ vp_in ((7 * v2) + v5) 28 ∧ ∀ s6 : cg_S, s6 = cg_l s3 29 ((7 * v2) + v5).toNatClampNeg (s3.2.1 25 v5.toNatClampNeg) → L_X12_values_48 v1 v2 v3 (v5 + 1) s6 Q) : L_X12_values_108 v1 v2 v3 v5 σ Q := by
  intro p l e s m args below meth c D cy ad hC
  refine ga_aload_n hC dX12_values_108 0 rfl rfl ?_
  refine gM_0_28 hC q_6_113 dX12_values_109 ?_
  refine ga_bipush (v := 7) hC dX12_values_112 (by decide) ?_
  refine ga_iload_n hC dX12_values_114 2 rfl rfl ?_
  refine ga_imul hC dX12_values_115 ?_
  refine ga_iload hC dX12_values_116 4 rfl ?_
  refine ga_iadd hC dX12_values_118 ?_
  refine ga_aload_n hC dX12_values_119 0 rfl rfl ?_
  refine gM_0_24 hC q_6_109 dX12_values_120 ?_
  refine ga_iload hC dX12_values_123 4 rfl ?_
  obtain ⟨h1, h⟩ := h
  refine ga_lald hC aM_24 (by decide) h1 dX12_values_125 ?_
  obtain ⟨h2, h⟩ := h
  refine ga_last hC aM_28 (by decide) h2 dX12_values_126 ?_
  refine ga_sig (σ := cg_l σ 28 ((7 * v2) + v5).toNatClampNeg (σ.2.1 24 v5.toNatClampNeg)) (fun s3 es3 => ?_)
  have h := h s3 es3
  refine ga_aload_n hC dX12_values_127 0 rfl rfl ?_
  refine gM_0_29 hC q_6_114 dX12_values_128 ?_
  refine ga_bipush (v := 7) hC dX12_values_131 (by decide) ?_
  refine ga_iload_n hC dX12_values_133 2 rfl rfl ?_
  refine ga_imul hC dX12_values_134 ?_
  refine ga_iload hC dX12_values_135 4 rfl ?_
  refine ga_iadd hC dX12_values_137 ?_
  refine ga_aload_n hC dX12_values_138 0 rfl rfl ?_
  refine gM_0_25 hC q_6_110 dX12_values_139 ?_
  refine ga_iload hC dX12_values_142 4 rfl ?_
  obtain ⟨h4, h⟩ := h
  refine ga_lald hC aM_25 (by decide) h4 dX12_values_144 ?_
  obtain ⟨h5, h⟩ := h
  refine ga_last hC aM_29 (by decide) h5 dX12_values_145 ?_
  refine ga_sig (σ := cg_l s3 29 ((7 * v2) + v5).toNatClampNeg (s3.2.1 25 v5.toNatClampNeg)) (fun s6 es6 => ?_)
  have h := h s6 es6
  refine ga_iinc (v := v5 + 1) (lv' := [(5, .int (v5 + 1)), (0, .ref (ad 0)), (1, .int v1), (2, .int v2), (3, .int v3)]) hC dX12_values_146 4 rfl rfl (by decide) rfl ?_
  refine ga_goto (tgt := 48) hC dX12_values_149 (by decide) ?_
  refine ga_locals [1, 2, 3, 4, 0] rfl ?_
  exact h p l e s m args below meth c D cy ad hC
set_option maxRecDepth 100000 in
set_option maxHeartbeats 4000000 in
theorem v_X12_values_48 {v1 : Int32} {v2 : Int32} {v3 : Int32} {v5 : Int32} {σ : cg_S} {Q : cg_S → Prop}
    (h : ((σ.1 0 1) ≤ v5 → M_X12_goesOn 97 σ (fun r1 s2 => L_X12_values_33 v1 v2 0 r1 s2 Q)) ∧ (¬ (σ.1 0 1) ≤ v5 → (¬ v3 = 0 → L_X12_values_108 v1 v2 v3 v5 σ Q) ∧ (v3 = 0 → vp_in v5 7 ∧ vp_in v5 7 ∧ vp_in ((7 * v2) + v5) 28 ∧ vp_in ((7 * v2) + v5) 28 ∧ M_X12_compare (σ.2.1 24 v5.toNatClampNeg) (σ.2.1 25 v5.toNatClampNeg) (σ.2.1 28 ((7 * v2) + v5).toNatClampNeg) (σ.2.1 29 ((7 * v2) + v5).toNatClampNeg) σ (fun r8 s9 => (0 < r8 → L_X12_values_108 v1 v2 v3 v5 s9 Q) ∧ (¬ 0 < r8 → L_X12_values_48 v1 v2 v3 (v5 + 1) s9 Q))))) : L_X12_values_48 v1 v2 v3 v5 σ Q := by
  intro p l e s m args below meth c D cy ad hC
  refine ga_iload hC dX12_values_48 4 rfl ?_
  refine ga_aload_n hC dX12_values_50 0 rfl rfl ?_
  refine gM_0_1 hC q_6_86 dX12_values_51 ?_
  refine ga_icmp_ge (tgt := 152) hC dX12_values_54 (by decide) (fun hc => ?_) (fun hc => ?_)
  · have h := h.1 hc
    refine ga_iconst (v := 0) hC dX12_values_152 (by decide) ?_
    refine ga_istore_n (lv' := [(3, .int 0), (0, .ref (ad 0)), (1, .int v1), (2, .int v2), (5, .int v5)]) hC dX12_values_153 rfl (by decide) rfl ?_
    refine ga_aload_n hC dX12_values_154 1 rfl rfl ?_
    refine ga_bipush (v := 97) hC dX12_values_155 (by decide) ?_
    refine ga_callV (As := [.int 97]) (st := []) (k := 0) (n := 1) hC h q_7_152 q_7_154 q_0_40 q_1_13 q_7_155 rfl rfl rfl (by decide +kernel) ⟨Nat.le_of_ble_eq_true rfl, Nat.le_of_ble_eq_true rfl⟩ ⟨Nat.le_of_ble_eq_true rfl, Nat.le_of_ble_eq_true rfl⟩ rfl rfl rfl (by decide) rfl (Nat.le_of_ble_eq_true rfl) dX12_values_157 (fun v τ hq => ?_)
    obtain ⟨r1, rfl, h⟩ := hq
    obtain ⟨s2, es2⟩ : ∃ z, z = τ := ⟨_, rfl⟩
    rw [← es2] at h ⊢
    clear es2
    refine ga_istore (lv' := [(4, .int r1), (3, .int 0), (0, .ref (ad 0)), (1, .int v1), (2, .int v2), (5, .int v5)]) hC dX12_values_160 (by decide) rfl ?_
    refine ga_goto (tgt := 33) hC dX12_values_162 (by decide) ?_
    refine ga_locals [2, 3, 4, 1, 0] rfl ?_
    exact h p l e s m args below meth c D cy ad hC
  · have h := h.2 hc
    refine ga_iload_n hC dX12_values_57 3 rfl rfl ?_
    refine ga_if_ne (tgt := 108) hC dX12_values_58 (by decide) (fun hc => ?_) (fun hc => ?_)
    · have h := h.1 hc
      refine ga_locals [0, 1, 2, 3, 4] rfl ?_
      exact h p l e s m args below meth c D cy ad hC
    · have h := h.2 hc
      refine ga_aload_n hC dX12_values_61 0 rfl rfl ?_
      refine gM_0_24 hC q_6_109 dX12_values_62 ?_
      refine ga_iload hC dX12_values_65 4 rfl ?_
      obtain ⟨h4, h⟩ := h
      refine ga_lald hC aM_24 (by decide) h4 dX12_values_67 ?_
      refine ga_aload_n hC dX12_values_68 0 rfl rfl ?_
      refine gM_0_25 hC q_6_110 dX12_values_69 ?_
      refine ga_iload hC dX12_values_72 4 rfl ?_
      obtain ⟨h5, h⟩ := h
      refine ga_lald hC aM_25 (by decide) h5 dX12_values_74 ?_
      refine ga_aload_n hC dX12_values_75 0 rfl rfl ?_
      refine gM_0_28 hC q_6_113 dX12_values_76 ?_
      refine ga_bipush (v := 7) hC dX12_values_79 (by decide) ?_
      refine ga_iload_n hC dX12_values_81 2 rfl rfl ?_
      refine ga_imul hC dX12_values_82 ?_
      refine ga_iload hC dX12_values_83 4 rfl ?_
      refine ga_iadd hC dX12_values_85 ?_
      obtain ⟨h6, h⟩ := h
      refine ga_lald hC aM_28 (by decide) h6 dX12_values_86 ?_
      refine ga_aload_n hC dX12_values_87 0 rfl rfl ?_
      refine gM_0_29 hC q_6_114 dX12_values_88 ?_
      refine ga_bipush (v := 7) hC dX12_values_91 (by decide) ?_
      refine ga_iload_n hC dX12_values_93 2 rfl rfl ?_
      refine ga_imul hC dX12_values_94 ?_
      refine ga_iload hC dX12_values_95 4 rfl ?_
      refine ga_iadd hC dX12_values_97 ?_
      obtain ⟨h7, h⟩ := h
      refine ga_lald hC aM_29 (by decide) h7 dX12_values_98 ?_
      refine ga_callS (As := [.long (σ.2.1 24 v5.toNatClampNeg), .long (σ.2.1 25 v5.toNatClampNeg), .long (σ.2.1 28 ((7 * v2) + v5).toNatClampNeg), .long (σ.2.1 29 ((7 * v2) + v5).toNatClampNeg)]) (st := []) (n := 4) hC h q_7_149 q_7_150 q_1_13 q_7_151 rfl rfl rfl (by decide +kernel) ⟨Nat.le_of_ble_eq_true rfl, Nat.le_of_ble_eq_true rfl⟩ ⟨Nat.le_of_ble_eq_true rfl, Nat.le_of_ble_eq_true rfl⟩ rfl rfl (Nat.le_of_ble_eq_true rfl) dX12_values_99 (fun v τ hq => ?_)
      obtain ⟨r8, rfl, h⟩ := hq
      obtain ⟨s9, es9⟩ : ∃ z, z = τ := ⟨_, rfl⟩
      rw [← es9] at h ⊢
      clear es9
      refine ga_if_gt (tgt := 108) hC dX12_values_102 (by decide) (fun hc => ?_) (fun hc => ?_)
      · have h := h.1 hc
        refine ga_locals [0, 1, 2, 3, 4] rfl ?_
        exact h p l e s m args below meth c D cy ad hC
      · have h := h.2 hc
        refine ga_goto (tgt := 146) hC dX12_values_105 (by decide) ?_
        refine ga_iinc (v := v5 + 1) (lv' := [(5, .int (v5 + 1)), (0, .ref (ad 0)), (1, .int v1), (2, .int v2), (3, .int v3)]) hC dX12_values_146 4 rfl rfl (by decide) rfl ?_
        refine ga_goto (tgt := 48) hC dX12_values_149 (by decide) ?_
        refine ga_locals [1, 2, 3, 4, 0] rfl ?_
        exact h p l e s m args below meth c D cy ad hC
set_option maxRecDepth 100000 in
set_option maxHeartbeats 4000000 in
theorem v_X12_values_33 {v1 : Int32} {v2 : Int32} {v3 : Int32} {v4 : Int32} {σ : cg_S} {Q : cg_S → Prop}
    (h : (v4 = 0 → Q σ) ∧ (¬ v4 = 0 → M_X12_answers 98 v1 σ (fun s2 => L_X12_values_48 v1 v2 v3 0 s2 Q))) : L_X12_values_33 v1 v2 v3 v4 σ Q := by
  intro p l e s m args below meth c D cy ad hC
  refine ga_iload hC dX12_values_33 4 rfl ?_
  refine ga_if_eq (tgt := 165) hC dX12_values_35 (by decide) (fun hc => ?_) (fun hc => ?_)
  · have h := h.1 hc
    exact ga_vret hC dX12_values_165 ⟨rfl, h⟩
  · have h := h.2 hc
    refine ga_aload_n hC dX12_values_38 0 rfl rfl ?_
    refine ga_bipush (v := 98) hC dX12_values_39 (by decide) ?_
    refine ga_iload_n hC dX12_values_41 1 rfl rfl ?_
    refine ga_callV (As := [.int 98, .int v1]) (st := []) (k := 0) (n := 2) hC h q_7_73 q_7_75 q_0_21 q_1_13 q_7_76 rfl rfl rfl (by decide +kernel) ⟨Nat.le_of_ble_eq_true rfl, Nat.le_of_ble_eq_true rfl⟩ ⟨Nat.le_of_ble_eq_true rfl, Nat.le_of_ble_eq_true rfl⟩ rfl rfl rfl (by decide) rfl (Nat.le_of_ble_eq_true rfl) dX12_values_42 (fun v τ hq => ?_)
    obtain ⟨rfl, h⟩ := hq
    obtain ⟨s2, es2⟩ : ∃ z, z = τ := ⟨_, rfl⟩
    rw [← es2] at h ⊢
    clear es2
    refine ga_iconst (v := 0) hC dX12_values_45 (by decide) ?_
    refine ga_istore (lv' := [(5, .int 0), (0, .ref (ad 0)), (1, .int v1), (2, .int v2), (3, .int v3), (4, .int v4)]) hC dX12_values_46 (by decide) rfl ?_
    refine ga_locals [1, 2, 3, 4, 0] rfl ?_
    exact h p l e s m args below meth c D cy ad hC
set_option maxRecDepth 100000 in
set_option maxHeartbeats 4000000 in
theorem v_X12_values {v1 : Int32} {σ : cg_S} {Q : cg_S → Prop}
    (h : M_X12_numberOf v1 σ (fun r1 s2 => vp_in r1 4 ∧ ((s2.1 19 r1.toNatClampNeg) = 0 → vp_in r1 4 ∧ ∀ s6 : cg_S, s6 = cg_i s2 19 r1.toNatClampNeg (vp_nar .boolean 1) → M_X12_begins 97 s6 (fun s8 => L_X12_values_33 v1 r1 1 1 s8 Q)) ∧ (¬ (s2.1 19 r1.toNatClampNeg) = 0 → Q s2))) : M_X12_values v1 σ Q := by
  refine cg_entry (lv := fun ad => [(0, .ref (ad 0)), (1, .int v1)]) (by decide +kernel) (fun _ => rfl) (fun _ => Nat.le_of_ble_eq_true rfl) ?_
  intro p l e s m args below meth c D cy ad hC
  refine ga_iload_n hC dX12_values_0 1 rfl rfl ?_
  refine ga_callS (As := [.int v1]) (st := []) (n := 1) hC h q_7_62 q_7_63 q_1_13 q_7_64 rfl rfl rfl (by decide +kernel) ⟨Nat.le_of_ble_eq_true rfl, Nat.le_of_ble_eq_true rfl⟩ ⟨Nat.le_of_ble_eq_true rfl, Nat.le_of_ble_eq_true rfl⟩ rfl rfl (Nat.le_of_ble_eq_true rfl) dX12_values_1 (fun v τ hq => ?_)
  obtain ⟨r1, rfl, h⟩ := hq
  obtain ⟨s2, es2⟩ : ∃ z, z = τ := ⟨_, rfl⟩
  rw [← es2] at h ⊢
  clear es2
  refine ga_istore_n (lv' := [(2, .int r1), (0, .ref (ad 0)), (1, .int v1)]) hC dX12_values_4 rfl (by decide) rfl ?_
  refine ga_aload_n hC dX12_values_5 1 rfl rfl ?_
  refine gM_0_19 hC q_6_104 dX12_values_6 ?_
  refine ga_iload_n hC dX12_values_9 0 rfl rfl ?_
  obtain ⟨h4, h⟩ := h
  refine ga_zald hC aM_19 (by decide) h4 dX12_values_10 ?_
  refine ga_if_eq (tgt := 15) hC dX12_values_11 (by decide) (fun hc => ?_) (fun hc => ?_)
  · have h := h.1 hc
    refine ga_aload_n hC dX12_values_15 1 rfl rfl ?_
    refine gM_0_19 hC q_6_104 dX12_values_16 ?_
    refine ga_iload_n hC dX12_values_19 0 rfl rfl ?_
    refine ga_iconst (v := 1) hC dX12_values_20 (by decide) ?_
    obtain ⟨h5, h⟩ := h
    refine ga_zast hC aM_19 (by decide) h5 dX12_values_21 ?_
    refine ga_sig (σ := cg_i s2 19 r1.toNatClampNeg (vp_nar .boolean 1)) (fun s6 es6 => ?_)
    have h := h s6 es6
    refine ga_iconst (v := 1) hC dX12_values_22 (by decide) ?_
    refine ga_istore_n (lv' := [(3, .int 1), (2, .int r1), (0, .ref (ad 0)), (1, .int v1)]) hC dX12_values_23 rfl (by decide) rfl ?_
    refine ga_iconst (v := 1) hC dX12_values_24 (by decide) ?_
    refine ga_istore (lv' := [(4, .int 1), (3, .int 1), (2, .int r1), (0, .ref (ad 0)), (1, .int v1)]) hC dX12_values_25 (by decide) rfl ?_
    refine ga_aload_n hC dX12_values_27 3 rfl rfl ?_
    refine ga_bipush (v := 97) hC dX12_values_28 (by decide) ?_
    refine ga_callV (As := [.int 97]) (st := []) (k := 0) (n := 1) hC h q_7_69 q_7_71 q_0_20 q_1_13 q_7_72 rfl rfl rfl (by decide +kernel) ⟨Nat.le_of_ble_eq_true rfl, Nat.le_of_ble_eq_true rfl⟩ ⟨Nat.le_of_ble_eq_true rfl, Nat.le_of_ble_eq_true rfl⟩ rfl rfl rfl (by decide) rfl (Nat.le_of_ble_eq_true rfl) dX12_values_30 (fun v τ hq => ?_)
    obtain ⟨rfl, h⟩ := hq
    obtain ⟨s8, es8⟩ : ∃ z, z = τ := ⟨_, rfl⟩
    rw [← es8] at h ⊢
    clear es8
    refine ga_locals [3, 4, 2, 1, 0] rfl ?_
    exact h p l e s m args below meth c D cy ad hC
  · have h := h.2 hc
    exact ga_vret hC dX12_values_14 ⟨rfl, h⟩
