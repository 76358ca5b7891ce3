theorem q_5_13 : Cond.constant RJ6 264 (65536) ∈ cg_T := cg_in5 13 (by decide +kernel) (by decide +kernel)
theorem q_4_170 : Cond.methodLink RX11 359 yX11_commonDivisor ∈ cg_T := cg_in4 170 (by decide +kernel) (by decide +kernel)
theorem q_4_171 : Cond.static yX11_commonDivisor ∈ cg_T := cg_in4 171 (by decide +kernel) (by decide +kernel)
theorem q_1_1 : Cond.initialized RX11 ∈ cg_T := cg_in1 1 (by decide +kernel) (by decide +kernel)
theorem q_4_172 : Cond.code yX11_commonDivisor cX11_commonDivisor 11 (some .long) ∈ cg_T := cg_in4 172 (by decide +kernel) (by decide +kernel)
theorem q_3_81 : Cond.methodLink RX11 362 yX11_quotient ∈ cg_T := cg_in3 81 (by decide +kernel) (by decide +kernel)
theorem q_3_36 : Cond.static yX11_quotient ∈ cg_T := cg_in3 36 (by decide +kernel) (by decide +kernel)
theorem q_3_37 : Cond.code yX11_quotient cX11_quotient 4 (some .long) ∈ cg_T := cg_in3 37 (by decide +kernel) (by decide +kernel)
theorem q_3_82 : Cond.methodLink RX11 365 yJ13_compare_74951 ∈ cg_T := cg_in3 82 (by decide +kernel) (by decide +kernel)
theorem q_3_83 : Cond.static yJ13_compare_74951 ∈ cg_T := cg_in3 83 (by decide +kernel) (by decide +kernel)
theorem q_1_21 : Cond.initialized RJ13 ∈ cg_T := cg_in1 21 (by decide +kernel) (by decide +kernel)
theorem q_3_84 : Cond.code yJ13_compare_74951 cJ13_compare_74951 4 (some .int) ∈ cg_T := cg_in3 84 (by decide +kernel) (by decide +kernel)
theorem q_1_54 : Cond.fieldLink RX2 52 "Chanceledger$Game" "count" "I" ∈ cg_T := cg_in1 54 (by decide +kernel) (by decide +kernel)
theorem q_4_56 : Cond.methodLink RX2 55 yX2_hasState ∈ cg_T := cg_in4 56 (by decide +kernel) (by decide +kernel)
theorem q_4_19 : Cond.instanceMethod yX2_hasState ∈ cg_T := cg_in4 19 (by decide +kernel) (by decide +kernel)
theorem q_4_20 : Cond.selects RX2 yX2_hasState yX2_hasState ∈ cg_T := cg_in4 20 (by decide +kernel) (by decide +kernel)
theorem q_1_2 : Cond.initialized RX2 ∈ cg_T := cg_in1 2 (by decide +kernel) (by decide +kernel)
theorem q_4_21 : Cond.code yX2_hasState cX2_hasState 2 (some .boolean) ∈ cg_T := cg_in4 21 (by decide +kernel) (by decide +kernel)
theorem q_1_76 : Cond.fieldLink RX2 32 "Chanceledger$Game" "choiceCount" "[I" ∈ cg_T := cg_in1 76 (by decide +kernel) (by decide +kernel)
theorem q_1_58 : Cond.fieldLink RX2 59 "Chanceledger$Game" "targets" "I" ∈ cg_T := cg_in1 58 (by decide +kernel) (by decide +kernel)
theorem q_2_187 : Cond.methodLink RX2 62 yX2_holds ∈ cg_T := cg_in2 187 (by decide +kernel) (by decide +kernel)
theorem q_2_188 : Cond.static yX2_holds ∈ cg_T := cg_in2 188 (by decide +kernel) (by decide +kernel)
theorem q_2_189 : Cond.code yX2_holds cX2_holds 2 (some .boolean) ∈ cg_T := cg_in2 189 (by decide +kernel) (by decide +kernel)
theorem q_1_88 : Cond.fieldLink RX2 41 "Chanceledger$Game" "weightSum" "[I" ∈ cg_T := cg_in1 88 (by decide +kernel) (by decide +kernel)
theorem q_2_168 : Cond.methodLink RX2 66 yX2_moveOf ∈ cg_T := cg_in2 168 (by decide +kernel) (by decide +kernel)
theorem q_2_169 : Cond.static yX2_moveOf ∈ cg_T := cg_in2 169 (by decide +kernel) (by decide +kernel)
theorem q_2_170 : Cond.code yX2_moveOf cX2_moveOf 2 (some .int) ∈ cg_T := cg_in2 170 (by decide +kernel) (by decide +kernel)
theorem q_1_63 : Cond.fieldLink RX2 18 "Chanceledger$Game" "firstWeight" "I" ∈ cg_T := cg_in1 63 (by decide +kernel) (by decide +kernel)
theorem q_1_83 : Cond.fieldLink RX2 35 "Chanceledger$Game" "firstCost" "[I" ∈ cg_T := cg_in1 83 (by decide +kernel) (by decide +kernel)
theorem q_1_64 : Cond.fieldLink RX2 21 "Chanceledger$Game" "secondWeight" "I" ∈ cg_T := cg_in1 64 (by decide +kernel) (by decide +kernel)
theorem q_1_86 : Cond.fieldLink RX2 38 "Chanceledger$Game" "secondCost" "[I" ∈ cg_T := cg_in1 86 (by decide +kernel) (by decide +kernel)
theorem q_1_67 : Cond.fieldLink RX2 24 "Chanceledger$Game" "isOfA" "[Z" ∈ cg_T := cg_in1 67 (by decide +kernel) (by decide +kernel)
theorem q_1_73 : Cond.fieldLink RX2 28 "Chanceledger$Game" "colour" "[I" ∈ cg_T := cg_in1 73 (by decide +kernel) (by decide +kernel)
theorem q_1_66 : Cond.fieldLink RX2 70 "Chanceledger$Game" "changes" "I" ∈ cg_T := cg_in1 66 (by decide +kernel) (by decide +kernel)
theorem q_1_99 : Cond.fieldLink RX2 49 "Chanceledger$Game" "weight" "[[I" ∈ cg_T := cg_in1 99 (by decide +kernel) (by decide +kernel)
theorem q_1_96 : Cond.fieldLink RX2 44 "Chanceledger$Game" "leads" "[I" ∈ cg_T := cg_in1 96 (by decide +kernel) (by decide +kernel)
theorem q_4_76 : Cond.methodLink RX2 73 yX2_isTarget ∈ cg_T := cg_in4 76 (by decide +kernel) (by decide +kernel)
theorem q_2_184 : Cond.instanceMethod yX2_isTarget ∈ cg_T := cg_in2 184 (by decide +kernel) (by decide +kernel)
theorem q_2_185 : Cond.selects RX2 yX2_isTarget yX2_isTarget ∈ cg_T := cg_in2 185 (by decide +kernel) (by decide +kernel)
theorem q_2_186 : Cond.code yX2_isTarget cX2_isTarget 2 (some .boolean) ∈ cg_T := cg_in2 186 (by decide +kernel) (by decide +kernel)
theorem q_1_59 : Cond.fieldLink RX2 9 "Chanceledger$Game" "discountAbove" "I" ∈ cg_T := cg_in1 59 (by decide +kernel) (by decide +kernel)
theorem q_1_61 : Cond.fieldLink RX2 15 "Chanceledger$Game" "discountBelow" "I" ∈ cg_T := cg_in1 61 (by decide +kernel) (by decide +kernel)
theorem q_2_6 : Cond.fieldLink RX10 9 "Chanceledger$Values" "up" "[J" ∈ cg_T := cg_in2 6 (by decide +kernel) (by decide +kernel)
theorem q_2_11 : Cond.fieldLink RX10 15 "Chanceledger$Values" "down" "[J" ∈ cg_T := cg_in2 11 (by decide +kernel) (by decide +kernel)
theorem q_1_179 : Cond.fieldLink RX1 17 "Chanceledger$Equations" "grid" "[[J" ∈ cg_T := cg_in1 179 (by decide +kernel) (by decide +kernel)
theorem q_1_174 : Cond.fieldLink RX1 28 "Chanceledger$Equations" "size" "I" ∈ cg_T := cg_in1 174 (by decide +kernel) (by decide +kernel)
theorem q_1_176 : Cond.fieldLink RX1 9 "Chanceledger$Equations" "order" "[I" ∈ cg_T := cg_in1 176 (by decide +kernel) (by decide +kernel)
theorem q_1_182 : Cond.fieldLink RX1 20 "Chanceledger$Equations" "answer" "[J" ∈ cg_T := cg_in1 182 (by decide +kernel) (by decide +kernel)
theorem q_1_186 : Cond.fieldLink RX1 24 "Chanceledger$Equations" "divisor" "J" ∈ cg_T := cg_in1 186 (by decide +kernel) (by decide +kernel)
def M_J6_numberOfTrailingZeros_0f7a4 (v0 : Int32) (σ : cg_S) (Q : Int32 → cg_S → Prop) : Prop := cg_M cg_WC yJ6_numberOfTrailingZeros_0f7a4 cJ6_numberOfTrailingZeros_0f7a4 2 (some .int) (cg_R 0) (fun ad => [.int v0]) σ (cg_qi Q)
theorem M_J6_numberOfTrailingZeros_0f7a4.mono {v0 : Int32} {σ : cg_S} {Q Q2 : Int32 → cg_S → Prop} (h : M_J6_numberOfTrailingZeros_0f7a4 v0 σ Q) (hq : ∀ r τ, Q r τ → Q2 r τ) : M_J6_numberOfTrailingZeros_0f7a4 v0 σ Q2 := cg_M.mono h (fun ad v τ ⟨r, e, q⟩ => ⟨r, e, hq r τ q⟩)
def L_J6_numberOfTrailingZeros_0f7a4_34 (v0 : Int32) (v1 : Int32) (σ : cg_S) (Q : Int32 → cg_S → Prop) : Prop := cg_L cg_WC RJ6 cJ6_numberOfTrailingZeros_0f7a4 2 (some .int) (cg_R 0) 34 (fun ad => [(0, .int v0), (1, .int v1)]) (fun ad => []) σ (cg_qi Q)
def L_J6_numberOfTrailingZeros_0f7a4_49 (v0 : Int32) (v1 : Int32) (σ : cg_S) (Q : Int32 → cg_S → Prop) : Prop := cg_L cg_WC RJ6 cJ6_numberOfTrailingZeros_0f7a4 2 (some .int) (cg_R 0) 49 (fun ad => [(0, .int v0), (1, .int v1)]) (fun ad => []) σ (cg_qi Q)
def L_J6_numberOfTrailingZeros_0f7a4_62 (v0 : Int32) (v1 : Int32) (σ : cg_S) (Q : Int32 → cg_S → Prop) : Prop := cg_L cg_WC RJ6 cJ6_numberOfTrailingZeros_0f7a4 2 (some .int) (cg_R 0) 62 (fun ad => [(0, .int v0), (1, .int v1)]) (fun ad => []) σ (cg_qi Q)
set_option maxRecDepth 100000 in
set_option maxHeartbeats 4000000 in
theorem v_J6_numberOfTrailingZeros_0f7a4_62 {v0 : Int32} {v1 : Int32} {σ : cg_S} {Q : Int32 → cg_S → Prop}
    (h : (v0 ≤ 4 → Q (v1 + ((v0.toUInt32 >>> ((1 : Int32).toUInt32 &&& Int32.toUInt32 31)).toInt32)) σ) ∧ (¬ v0 ≤ 4 → ∀ x1 : Int32, x1 = (v0.toUInt32 >>> ((2 : Int32).toUInt32 &&& Int32.toUInt32 31)).toInt32 → Q ((v1 + 2) + ((x1.toUInt32 >>> ((1 : Int32).toUInt32 &&& Int32.toUInt32 31)).toInt32)) σ)) : L_J6_numberOfTrailingZeros_0f7a4_62 v0 v1 σ Q := by
  intro p l e s m args below meth c D cy ad hC
  refine ga_iload_n hC dJ6_numberOfTrailingZeros_0f7a4_62 0 rfl rfl ?_
  refine ga_iconst (v := 4) hC dJ6_numberOfTrailingZeros_0f7a4_63 (by decide) ?_
  refine ga_icmp_le (tgt := 74) hC dJ6_numberOfTrailingZeros_0f7a4_64 (by decide) (fun hc => ?_) (fun hc => ?_)
  · have h := h.1 hc
    refine ga_iload_n hC dJ6_numberOfTrailingZeros_0f7a4_74 1 rfl rfl ?_
    refine ga_iload_n hC dJ6_numberOfTrailingZeros_0f7a4_75 0 rfl rfl ?_
    refine ga_iconst (v := 1) hC dJ6_numberOfTrailingZeros_0f7a4_76 (by decide) ?_
    refine ga_iushr hC dJ6_numberOfTrailingZeros_0f7a4_77 ?_
    refine ga_iadd hC dJ6_numberOfTrailingZeros_0f7a4_78 ?_
    exact ga_iret hC dJ6_numberOfTrailingZeros_0f7a4_79 ⟨_, rfl, h⟩
  · have h := h.2 hc
    refine ga_iinc (v := v1 + 2) (lv' := [(1, .int (v1 + 2)), (0, .int v0)]) hC dJ6_numberOfTrailingZeros_0f7a4_67 1 rfl rfl (by decide) rfl ?_
    refine ga_iload_n hC dJ6_numberOfTrailingZeros_0f7a4_70 1 rfl rfl ?_
    refine ga_iconst (v := 2) hC dJ6_numberOfTrailingZeros_0f7a4_71 (by decide) ?_
    refine ga_iushr hC dJ6_numberOfTrailingZeros_0f7a4_72 ?_
    refine ga_topi (fun x1 ex1 => ?_)
    have h := h x1 ex1
    refine ga_istore_n (lv' := [(0, .int x1), (1, .int (v1 + 2))]) hC dJ6_numberOfTrailingZeros_0f7a4_73 rfl (by decide) rfl ?_
    refine ga_iload_n hC dJ6_numberOfTrailingZeros_0f7a4_74 1 rfl rfl ?_
    refine ga_iload_n hC dJ6_numberOfTrailingZeros_0f7a4_75 0 rfl rfl ?_
    refine ga_iconst (v := 1) hC dJ6_numberOfTrailingZeros_0f7a4_76 (by decide) ?_
    refine ga_iushr hC dJ6_numberOfTrailingZeros_0f7a4_77 ?_
    refine ga_iadd hC dJ6_numberOfTrailingZeros_0f7a4_78 ?_
    exact ga_iret hC dJ6_numberOfTrailingZeros_0f7a4_79 ⟨_, rfl, h⟩
set_option maxRecDepth 100000 in
set_option maxHeartbeats 4000000 in
theorem v_J6_numberOfTrailingZeros_0f7a4_49 {v0 : Int32} {v1 : Int32} {σ : cg_S} {Q : Int32 → cg_S → Prop}
    (h : (v0 ≤ 16 → L_J6_numberOfTrailingZeros_0f7a4_62 v0 v1 σ Q) ∧ (¬ v0 ≤ 16 → ∀ x1 : Int32, x1 = (v0.toUInt32 >>> ((4 : Int32).toUInt32 &&& Int32.toUInt32 31)).toInt32 → L_J6_numberOfTrailingZeros_0f7a4_62 x1 (v1 + 4) σ Q)) : L_J6_numberOfTrailingZeros_0f7a4_49 v0 v1 σ Q := by
  intro p l e s m args below meth c D cy ad hC
  refine ga_iload_n hC dJ6_numberOfTrailingZeros_0f7a4_49 0 rfl rfl ?_
  refine ga_bipush (v := 16) hC dJ6_numberOfTrailingZeros_0f7a4_50 (by decide) ?_
  refine ga_icmp_le (tgt := 62) hC dJ6_numberOfTrailingZeros_0f7a4_52 (by decide) (fun hc => ?_) (fun hc => ?_)
  · have h := h.1 hc
    refine ga_locals [0, 1] rfl ?_
    exact h p l e s m args below meth c D cy ad hC
  · have h := h.2 hc
    refine ga_iinc (v := v1 + 4) (lv' := [(1, .int (v1 + 4)), (0, .int v0)]) hC dJ6_numberOfTrailingZeros_0f7a4_55 1 rfl rfl (by decide) rfl ?_
    refine ga_iload_n hC dJ6_numberOfTrailingZeros_0f7a4_58 1 rfl rfl ?_
    refine ga_iconst (v := 4) hC dJ6_numberOfTrailingZeros_0f7a4_59 (by decide) ?_
    refine ga_iushr hC dJ6_numberOfTrailingZeros_0f7a4_60 ?_
    refine ga_topi (fun x1 ex1 => ?_)
    have h := h x1 ex1
    refine ga_istore_n (lv' := [(0, .int x1), (1, .int (v1 + 4))]) hC dJ6_numberOfTrailingZeros_0f7a4_61 rfl (by decide) rfl ?_
    refine ga_locals [0, 1] rfl ?_
    exact h p l e s m args below meth c D cy ad hC
set_option maxRecDepth 100000 in
set_option maxHeartbeats 4000000 in
theorem v_J6_numberOfTrailingZeros_0f7a4_34 {v0 : Int32} {v1 : Int32} {σ : cg_S} {Q : Int32 → cg_S → Prop}
    (h : (v0 ≤ 256 → L_J6_numberOfTrailingZeros_0f7a4_49 v0 v1 σ Q) ∧ (¬ v0 ≤ 256 → ∀ x1 : Int32, x1 = (v0.toUInt32 >>> ((8 : Int32).toUInt32 &&& Int32.toUInt32 31)).toInt32 → L_J6_numberOfTrailingZeros_0f7a4_49 x1 (v1 + 8) σ Q)) : L_J6_numberOfTrailingZeros_0f7a4_34 v0 v1 σ Q := by
  intro p l e s m args below meth c D cy ad hC
  refine ga_iload_n hC dJ6_numberOfTrailingZeros_0f7a4_34 0 rfl rfl ?_
  refine ga_sipush (v := 256) hC dJ6_numberOfTrailingZeros_0f7a4_35 (by decide) ?_
  refine ga_icmp_le (tgt := 49) hC dJ6_numberOfTrailingZeros_0f7a4_38 (by decide) (fun hc => ?_) (fun hc => ?_)
  · have h := h.1 hc
    refine ga_locals [0, 1] rfl ?_
    exact h p l e s m args below meth c D cy ad hC
  · have h := h.2 hc
    refine ga_iinc (v := v1 + 8) (lv' := [(1, .int (v1 + 8)), (0, .int v0)]) hC dJ6_numberOfTrailingZeros_0f7a4_41 1 rfl rfl (by decide) rfl ?_
    refine ga_iload_n hC dJ6_numberOfTrailingZeros_0f7a4_44 1 rfl rfl ?_
    refine ga_bipush (v := 8) hC dJ6_numberOfTrailingZeros_0f7a4_45 (by decide) ?_
    refine ga_iushr hC dJ6_numberOfTrailingZeros_0f7a4_47 ?_
    refine ga_topi (fun x1 ex1 => ?_)
    have h := h x1 ex1
    refine ga_istore_n (lv' := [(0, .int x1), (1, .int (v1 + 8))]) hC dJ6_numberOfTrailingZeros_0f7a4_48 rfl (by decide) rfl ?_
    refine ga_locals [0, 1] rfl ?_
    exact h p l e s m args below meth c D cy ad hC
set_option maxRecDepth 100000 in
set_option maxHeartbeats 4000000 in
theorem v_J6_numberOfTrailingZeros_0f7a4 {v0 : Int32} {σ : cg_S} {Q : Int32 → cg_S → Prop}
    (h : ∀ x1 : Int32, x1 = (v0 ^^^ (-1)) &&& (v0 - 1) → (0 < x1 → (x1 ≤ 65536 → L_J6_numberOfTrailingZeros_0f7a4_34 x1 1 σ Q) ∧ (¬ x1 ≤ 65536 → ∀ x2 : Int32, x2 = (x1.toUInt32 >>> ((16 : Int32).toUInt32 &&& Int32.toUInt32 31)).toInt32 → L_J6_numberOfTrailingZeros_0f7a4_34 x2 (1 + 16) σ Q)) ∧ (¬ 0 < x1 → Q (x1 &&& 32) σ)) : M_J6_numberOfTrailingZeros_0f7a4 v0 σ Q := by
  refine cg_entry (lv := fun ad => [(0, .int v0)]) (by decide +kernel) (fun _ => rfl) (fun _ => Nat.le_of_ble_eq_true rfl) ?_
  intro p l e s m args below meth c D cy ad hC
  refine ga_iload_n hC dJ6_numberOfTrailingZeros_0f7a4_0 0 rfl rfl ?_
  refine ga_iconst (v := (-1)) hC dJ6_numberOfTrailingZeros_0f7a4_1 (by decide) ?_
  refine ga_ixor hC dJ6_numberOfTrailingZeros_0f7a4_2 ?_
  refine ga_iload_n hC dJ6_numberOfTrailingZeros_0f7a4_3 0 rfl rfl ?_
  refine ga_iconst (v := 1) hC dJ6_numberOfTrailingZeros_0f7a4_4 (by decide) ?_
  refine ga_isub hC dJ6_numberOfTrailingZeros_0f7a4_5 ?_
  refine ga_iand hC dJ6_numberOfTrailingZeros_0f7a4_6 ?_
  refine ga_topi (fun x1 ex1 => ?_)
  have h := h x1 ex1
  refine ga_istore_n (lv' := [(0, .int x1)]) hC dJ6_numberOfTrailingZeros_0f7a4_7 rfl (by decide) rfl ?_
  refine ga_iload_n hC dJ6_numberOfTrailingZeros_0f7a4_8 0 rfl rfl ?_
  refine ga_if_gt (tgt := 17) hC dJ6_numberOfTrailingZeros_0f7a4_9 (by decide) (fun hc => ?_) (fun hc => ?_)
  · have h := h.1 hc
    refine ga_iconst (v := 1) hC dJ6_numberOfTrailingZeros_0f7a4_17 (by decide) ?_
    refine ga_istore_n (lv' := [(1, .int 1), (0, .int x1)]) hC dJ6_numberOfTrailingZeros_0f7a4_18 rfl (by decide) rfl ?_
    refine ga_iload_n hC dJ6_numberOfTrailingZeros_0f7a4_19 1 rfl rfl ?_
    refine ga_ldcw hC q_5_13 dJ6_numberOfTrailingZeros_0f7a4_20 ?_
    refine ga_icmp_le (tgt := 34) hC dJ6_numberOfTrailingZeros_0f7a4_23 (by decide) (fun hc => ?_) (fun hc => ?_)
    · have h := h.1 hc
      refine ga_locals [1, 0] rfl ?_
      exact h p l e s m args below meth c D cy ad hC
    · have h := h.2 hc
      refine ga_iinc (v := 1 + 16) (lv' := [(1, .int (1 + 16)), (0, .int x1)]) hC dJ6_numberOfTrailingZeros_0f7a4_26 0 rfl rfl (by decide) rfl ?_
      refine ga_iload_n hC dJ6_numberOfTrailingZeros_0f7a4_29 1 rfl rfl ?_
      refine ga_bipush (v := 16) hC dJ6_numberOfTrailingZeros_0f7a4_30 (by decide) ?_
      refine ga_iushr hC dJ6_numberOfTrailingZeros_0f7a4_32 ?_
      refine ga_topi (fun x2 ex2 => ?_)
      have h := h x2 ex2
      refine ga_istore_n (lv' := [(0, .int x2), (1, .int (1 + 16))]) hC dJ6_numberOfTrailingZeros_0f7a4_33 rfl (by decide) rfl ?_
      refine ga_locals [0, 1] rfl ?_
      exact h p l e s m args below meth c D cy ad hC
  · have h := h.2 hc
    refine ga_iload_n hC dJ6_numberOfTrailingZeros_0f7a4_12 0 rfl rfl ?_
    refine ga_bipush (v := 32) hC dJ6_numberOfTrailingZeros_0f7a4_13 (by decide) ?_
    refine ga_iand hC dJ6_numberOfTrailingZeros_0f7a4_15 ?_
    exact ga_iret hC dJ6_numberOfTrailingZeros_0f7a4_16 ⟨_, rfl, h⟩
def M_J13_compare_74951 (v0 : Int64) (v2 : Int64) (σ : cg_S) (Q : Int32 → cg_S → Prop) : Prop := cg_M cg_WC yJ13_compare_74951 cJ13_compare_74951 4 (some .int) (cg_R 0) (fun ad => [.long v0, .long v2]) σ (cg_qi Q)
theorem M_J13_compare_74951.mono {v0 : Int64} {v2 : Int64} {σ : cg_S} {Q Q2 : Int32 → cg_S → Prop} (h : M_J13_compare_74951 v0 v2 σ Q) (hq : ∀ r τ, Q r τ → Q2 r τ) : M_J13_compare_74951 v0 v2 σ Q2 := cg_M.mono h (fun ad v τ ⟨r, e, q⟩ => ⟨r, e, hq r τ q⟩)
set_option maxRecDepth 100000 in
set_option maxHeartbeats 4000000 in
theorem v_J13_compare_74951 {v0 : Int64} {v2 : Int64} {σ : cg_S} {Q : Int32 → cg_S → Prop}
    (h : (v2 ≤ v0 → (¬ v0 = v2 → Q 1 σ) ∧ (v0 = v2 → Q 0 σ)) ∧ (¬ v2 ≤ v0 → Q (-1) σ)) : M_J13_compare_74951 v0 v2 σ Q := by
  refine cg_entry (lv := fun ad => [(0, .long v0), (2, .long v2)]) (by decide +kernel) (fun _ => rfl) (fun _ => Nat.le_of_ble_eq_true rfl) ?_
  intro p l e s m args below meth c D cy ad hC
  refine ga_lload_n hC dJ13_compare_74951_0 0 rfl rfl ?_
  refine ga_lload_n hC dJ13_compare_74951_1 1 rfl rfl ?_
  refine ga_lcmp hC dJ13_compare_74951_2 ?_
  refine ga_if_ge (tgt := 10) hC dJ13_compare_74951_3 (by decide) (fun hc => ?_) (fun hc => ?_)
  · have h := h.1 (cg_cmp_ge.1 hc)
    refine ga_lload_n hC dJ13_compare_74951_10 0 rfl rfl ?_
    refine ga_lload_n hC dJ13_compare_74951_11 1 rfl rfl ?_
    refine ga_lcmp hC dJ13_compare_74951_12 ?_
    refine ga_if_ne (tgt := 20) hC dJ13_compare_74951_13 (by decide) (fun hc => ?_) (fun hc => ?_)
    · have h := h.1 (cg_cmp_ne.1 hc)
      refine ga_iconst (v := 1) hC dJ13_compare_74951_20 (by decide) ?_
      exact ga_iret hC dJ13_compare_74951_21 ⟨_, rfl, h⟩
    · have h := h.2 (cg_cmp_ne.2 hc)
      refine ga_iconst (v := 0) hC dJ13_compare_74951_16 (by decide) ?_
      refine ga_goto (tgt := 21) hC dJ13_compare_74951_17 (by decide) ?_
      exact ga_iret hC dJ13_compare_74951_21 ⟨_, rfl, h⟩
  · have h := h.2 (cg_cmp_ge.2 hc)
    refine ga_iconst (v := (-1)) hC dJ13_compare_74951_6 (by decide) ?_
    refine ga_goto (tgt := 21) hC dJ13_compare_74951_7 (by decide) ?_
    exact ga_iret hC dJ13_compare_74951_21 ⟨_, rfl, h⟩
def M_X11_quotient (v0 : Int64) (v2 : Int64) (σ : cg_S) (Q : Int64 → cg_S → Prop) : Prop := cg_M cg_WC yX11_quotient cX11_quotient 4 (some .long) (cg_R 0) (fun ad => [.long v0, .long v2]) σ (cg_ql Q)
theorem M_X11_quotient.mono {v0 : Int64} {v2 : Int64} {σ : cg_S} {Q Q2 : Int64 → cg_S → Prop} (h : M_X11_quotient v0 v2 σ Q) (hq : ∀ r τ, Q r τ → Q2 r τ) : M_X11_quotient v0 v2 σ Q2 := cg_M.mono h (fun ad v τ ⟨r, e, q⟩ => ⟨r, e, hq r τ q⟩)
set_option maxRecDepth 100000 in
set_option maxHeartbeats 4000000 in
theorem v_X11_quotient {v0 : Int64} {v2 : Int64} {σ : cg_S} {Q : Int64 → cg_S → Prop}
    (h : (¬ v2 = 0 → ¬ v2 = 0 ∧ Q (v0 / v2) σ) ∧ (v2 = 0 → Q 0 σ)) : M_X11_quotient v0 v2 σ Q := by
  refine cg_entry (lv := fun ad => [(0, .long v0), (2, .long v2)]) (by decide +kernel) (fun _ => rfl) (fun _ => Nat.le_of_ble_eq_true rfl) ?_
  intro p l e s m args below meth c D cy ad hC
  refine ga_lload_n hC dX11_quotient_0 1 rfl rfl ?_
  refine ga_lconst (v := 0) hC dX11_quotient_1 (by decide) ?_
  refine ga_lcmp hC dX11_quotient_2 ?_
  refine ga_if_ne (tgt := 10) hC dX11_quotient_3 (by decide) (fun hc => ?_) (fun hc => ?_)
  · have h := h.1 (cg_cmp_ne.1 hc)
    refine ga_lload_n hC dX11_quotient_10 0 rfl rfl ?_
    refine ga_lload_n hC dX11_quotient_11 1 rfl rfl ?_
    obtain ⟨h1, h⟩ := h
    refine ga_ldiv hC dX11_quotient_12 h1 ?_
    exact ga_lret hC dX11_quotient_13 ⟨_, rfl, h⟩
  · have h := h.2 (cg_cmp_ne.2 hc)
    refine ga_lconst (v := 0) hC dX11_quotient_6 (by decide) ?_
    refine ga_goto (tgt := 13) hC dX11_quotient_7 (by decide) ?_
    exact ga_lret hC dX11_quotient_13 ⟨_, rfl, h⟩
def M_X11_commonDivisor (v0 : Int64) (v2 : Int64) (σ : cg_S) (Q : Int64 → cg_S → Prop) : Prop := cg_M cg_WC yX11_commonDivisor cX11_commonDivisor 11 (some .long) (cg_R 0) (fun ad => [.long v0, .long v2]) σ (cg_ql Q)
theorem M_X11_commonDivisor.mono {v0 : Int64} {v2 : Int64} {σ : cg_S} {Q Q2 : Int64 → cg_S → Prop} (h : M_X11_commonDivisor v0 v2 σ Q) (hq : ∀ r τ, Q r τ → Q2 r τ) : M_X11_commonDivisor v0 v2 σ Q2 := cg_M.mono h (fun ad v τ ⟨r, e, q⟩ => ⟨r, e, hq r τ q⟩)
def L_X11_commonDivisor_9 (v4 : Int64) (v6 : Int64) (v8 : Int32) (σ : cg_S) (Q : Int64 → cg_S → Prop) : Prop := cg_L cg_WC RX11 cX11_commonDivisor 11 (some .long) (cg_R 0) 9 (fun ad => [(4, .long v4), (6, .long v6), (8, .int v8)]) (fun ad => []) σ (cg_ql Q)
set_option maxRecDepth 100000 in
set_option maxHeartbeats 4000000 in
theorem v_X11_commonDivisor_9 {v4 : Int64} {v6 : Int64} {v8 : Int32} {σ : cg_S} {Q : Int64 → cg_S → Prop}
    (h : (200 ≤ v8 → Q v4 σ) ∧ (¬ 200 ≤ v8 → (v6 = 0 → Q v4 σ) ∧ (¬ v6 = 0 → ¬ v6 = 0 ∧ ∀ x2 : Int64, x2 = v4 - v4 / v6 * v6 → L_X11_commonDivisor_9 v6 x2 (v8 + 1) σ Q))) : L_X11_commonDivisor_9 v4 v6 v8 σ Q := by
  intro p l e s m args below meth c D cy ad hC
  refine ga_iload hC dX11_commonDivisor_9 2 rfl ?_
  refine ga_sipush (v := 200) hC dX11_commonDivisor_11 (by decide) ?_
  refine ga_icmp_ge (tgt := 45) hC dX11_commonDivisor_14 (by decide) (fun hc => ?_) (fun hc => ?_)
  · have h := h.1 hc
    refine ga_lload hC dX11_commonDivisor_45 0 rfl ?_
    exact ga_lret hC dX11_commonDivisor_47 ⟨_, rfl, h⟩
  · have h := h.2 hc
    refine ga_lload hC dX11_commonDivisor_17 1 rfl ?_
    refine ga_lconst (v := 0) hC dX11_commonDivisor_19 (by decide) ?_
    refine ga_lcmp hC dX11_commonDivisor_20 ?_
    refine ga_if_eq (tgt := 45) hC dX11_commonDivisor_21 (by decide) (fun hc => ?_) (fun hc => ?_)
    · have h := h.1 (cg_cmp_eq.1 hc)
      refine ga_lload hC dX11_commonDivisor_45 0 rfl ?_
      exact ga_lret hC dX11_commonDivisor_47 ⟨_, rfl, h⟩
    · have h := h.2 (cg_cmp_eq.2 hc)
      refine ga_lload hC dX11_commonDivisor_24 0 rfl ?_
      refine ga_lload hC dX11_commonDivisor_26 1 rfl ?_
      obtain ⟨h1, h⟩ := h
      refine ga_lrem hC dX11_commonDivisor_28 h1 ?_
      refine ga_topl (fun x2 ex2 => ?_)
      have h := h x2 ex2
      refine ga_lstore (lv' := [(9, .long x2), (4, .long v4), (6, .long v6), (8, .int v8)]) hC dX11_commonDivisor_29 (by decide) rfl ?_
      refine ga_lload hC dX11_commonDivisor_31 2 rfl ?_
      refine ga_lstore (lv' := [(4, .long v6), (9, .long x2), (6, .long v6), (8, .int v8)]) hC dX11_commonDivisor_33 (by decide) rfl ?_
      refine ga_lload hC dX11_commonDivisor_35 1 rfl ?_
      refine ga_lstore (lv' := [(6, .long x2), (4, .long v6), (9, .long x2), (8, .int v8)]) hC dX11_commonDivisor_37 (by decide) rfl ?_
      refine ga_iinc (v := v8 + 1) (lv' := [(8, .int (v8 + 1)), (6, .long x2), (4, .long v6), (9, .long x2)]) hC dX11_commonDivisor_39 3 rfl rfl (by decide) rfl ?_
      refine ga_goto (tgt := 9) hC dX11_commonDivisor_42 (by decide) ?_
      refine ga_locals [2, 1, 0] rfl ?_
      exact h p l e s m args below meth c D cy ad hC
set_option maxRecDepth 100000 in
set_option maxHeartbeats 4000000 in
theorem v_X11_commonDivisor {v0 : Int64} {v2 : Int64} {σ : cg_S} {Q : Int64 → cg_S → Prop}
    (h : L_X11_commonDivisor_9 v0 v2 0 σ Q) : M_X11_commonDivisor v0 v2 σ Q := by
  refine cg_entry (lv := fun ad => [(0, .long v0), (2, .long v2)]) (by decide +kernel) (fun _ => rfl) (fun _ => Nat.le_of_ble_eq_true rfl) ?_
  intro p l e s m args below meth c D cy ad hC
  refine ga_lload_n hC dX11_commonDivisor_0 0 rfl rfl ?_
  refine ga_lstore (lv' := [(4, .long v0), (0, .long v0), (2, .long v2)]) hC dX11_commonDivisor_1 (by decide) rfl ?_
  refine ga_lload_n hC dX11_commonDivisor_3 2 rfl rfl ?_
  refine ga_lstore (lv' := [(6, .long v2), (4, .long v0), (0, .long v0), (2, .long v2)]) hC dX11_commonDivisor_4 (by decide) rfl ?_
  refine ga_iconst (v := 0) hC dX11_commonDivisor_6 (by decide) ?_
  refine ga_istore (lv' := [(8, .int 0), (6, .long v2), (4, .long v0), (0, .long v0), (2, .long v2)]) hC dX11_commonDivisor_7 (by decide) rfl ?_
  refine ga_locals [2, 1, 0] rfl ?_
  exact h p l e s m args below meth c D cy ad hC
def M_X11_lowestAbove (v0 : Int64) (v2 : Int64) (σ : cg_S) (Q : Int64 → cg_S → Prop) : Prop := cg_M cg_WC yX11_lowestAbove cX11_lowestAbove 4 (some .long) (cg_R 1) (fun ad => [.long v0, .long v2]) σ (cg_ql Q)
theorem M_X11_lowestAbove.mono {v0 : Int64} {v2 : Int64} {σ : cg_S} {Q Q2 : Int64 → cg_S → Prop} (h : M_X11_lowestAbove v0 v2 σ Q) (hq : ∀ r τ, Q r τ → Q2 r τ) : M_X11_lowestAbove v0 v2 σ Q2 := cg_M.mono h (fun ad v τ ⟨r, e, q⟩ => ⟨r, e, hq r τ q⟩)
set_option maxRecDepth 100000 in
set_option maxHeartbeats 4000000 in
theorem v_X11_lowestAbove {v0 : Int64} {v2 : Int64} {σ : cg_S} {Q : Int64 → cg_S → Prop}
    (h : M_X11_commonDivisor v0 v2 σ (fun r1 s2 => M_X11_quotient v0 r1 s2 (fun r4 s5 => Q r4 s5))) : M_X11_lowestAbove v0 v2 σ Q := by
  refine cg_entry (lv := fun ad => [(0, .long v0), (2, .long v2)]) (by decide +kernel) (fun _ => rfl) (fun _ => Nat.le_of_ble_eq_true rfl) ?_
  intro p l e s m args below meth c D cy ad hC
  refine ga_lload_n hC dX11_lowestAbove_0 0 rfl rfl ?_
  refine ga_lload_n hC dX11_lowestAbove_1 0 rfl rfl ?_
  refine ga_lload_n hC dX11_lowestAbove_2 1 rfl rfl ?_
  refine ga_callS (As := [.long v0, .long v2]) (st := [.long v0]) (n := 2) hC h q_4_170 q_4_171 q_1_1 q_4_172 rfl rfl rfl (by decide +kernel) ⟨Nat.le_of_ble_eq_true rfl, Nat.le_of_ble_eq_true rfl⟩ ⟨Nat.le_of_ble_eq_true rfl, Nat.le_of_ble_eq_true rfl⟩ rfl rfl (Nat.le_of_ble_eq_true rfl) dX11_lowestAbove_3 (fun v τ hq => ?_)
  obtain ⟨r1, rfl, h⟩ := hq
  obtain ⟨s2, es2⟩ : ∃ z, z = τ := ⟨_, rfl⟩
  rw [← es2] at h ⊢
  clear es2
  refine ga_callS (As := [.long v0, .long r1]) (st := []) (n := 2) hC h q_3_81 q_3_36 q_1_1 q_3_37 rfl rfl rfl (by decide +kernel) ⟨Nat.le_of_ble_eq_true rfl, Nat.le_of_ble_eq_true rfl⟩ ⟨Nat.le_of_ble_eq_true rfl, Nat.le_of_ble_eq_true rfl⟩ rfl rfl (Nat.le_of_ble_eq_true rfl) dX11_lowestAbove_6 (fun v τ hq => ?_)
  obtain ⟨r4, rfl, h⟩ := hq
  obtain ⟨s5, es5⟩ : ∃ z, z = τ := ⟨_, rfl⟩
  rw [← es5] at h ⊢
  clear es5
  exact ga_lret hC dX11_lowestAbove_9 ⟨_, rfl, h⟩
def M_X11_lowestBelow (v0 : Int64) (v2 : Int64) (σ : cg_S) (Q : Int64 → cg_S → Prop) : Prop := cg_M cg_WC yX11_lowestBelow cX11_lowestBelow 4 (some .long) (cg_R 1) (fun ad => [.long v0, .long v2]) σ (cg_ql Q)
theorem M_X11_lowestBelow.mono {v0 : Int64} {v2 : Int64} {σ : cg_S} {Q Q2 : Int64 → cg_S → Prop} (h : M_X11_lowestBelow v0 v2 σ Q) (hq : ∀ r τ, Q r τ → Q2 r τ) : M_X11_lowestBelow v0 v2 σ Q2 := cg_M.mono h (fun ad v τ ⟨r, e, q⟩ => ⟨r, e, hq r τ q⟩)
set_option maxRecDepth 100000 in
set_option maxHeartbeats 4000000 in
theorem v_X11_lowestBelow {v0 : Int64} {v2 : Int64} {σ : cg_S} {Q : Int64 → cg_S → Prop}
    (h : M_X11_commonDivisor v0 v2 σ (fun r1 s2 => M_X11_quotient v2 r1 s2 (fun r4 s5 => Q r4 s5))) : M_X11_lowestBelow v0 v2 σ Q := by
  refine cg_entry (lv := fun ad => [(0, .long v0), (2, .long v2)]) (by decide +kernel) (fun _ => rfl) (fun _ => Nat.le_of_ble_eq_true rfl) ?_
  intro p l e s m args below meth c D cy ad hC
  refine ga_lload_n hC dX11_lowestBelow_0 1 rfl rfl ?_
  refine ga_lload_n hC dX11_lowestBelow_1 0 rfl rfl ?_
  refine ga_lload_n hC dX11_lowestBelow_2 1 rfl rfl ?_
  refine ga_callS (As := [.long v0, .long v2]) (st := [.long v2]) (n := 2) hC h q_4_170 q_4_171 q_1_1 q_4_172 rfl rfl rfl (by decide +kernel) ⟨Nat.le_of_ble_eq_true rfl, Nat.le_of_ble_eq_true rfl⟩ ⟨Nat.le_of_ble_eq_true rfl, Nat.le_of_ble_eq_true rfl⟩ rfl rfl (Nat.le_of_ble_eq_true rfl) dX11_lowestBelow_3 (fun v τ hq => ?_)
  obtain ⟨r1, rfl, h⟩ := hq
  obtain ⟨s2, es2⟩ : ∃ z, z = τ := ⟨_, rfl⟩
  rw [← es2] at h ⊢
  clear es2
  refine ga_callS (As := [.long v2, .long r1]) (st := []) (n := 2) hC h q_3_81 q_3_36 q_1_1 q_3_37 rfl rfl rfl (by decide +kernel) ⟨Nat.le_of_ble_eq_true rfl, Nat.le_of_ble_eq_true rfl⟩ ⟨Nat.le_of_ble_eq_true rfl, Nat.le_of_ble_eq_true rfl⟩ rfl rfl (Nat.le_of_ble_eq_true rfl) dX11_lowestBelow_6 (fun v τ hq => ?_)
  obtain ⟨r4, rfl, h⟩ := hq
  obtain ⟨s5, es5⟩ : ∃ z, z = τ := ⟨_, rfl⟩
  rw [← es5] at h ⊢
  clear es5
  exact ga_lret hC dX11_lowestBelow_9 ⟨_, rfl, h⟩
def M_X11_compareFractions (v0 : Int64) (v2 : Int64) (v4 : Int64) (v6 : Int64) (σ : cg_S) (Q : Int32 → cg_S → Prop) : Prop := cg_M cg_WC yX11_compareFractions cX11_compareFractions 12 (some .int) (cg_R 1) (fun ad => [.long v0, .long v2, .long v4, .long v6]) σ (cg_qi Q)
theorem M_X11_compareFractions.mono {v0 : Int64} {v2 : Int64} {v4 : Int64} {v6 : Int64} {σ : cg_S} {Q Q2 : Int32 → cg_S → Prop} (h : M_X11_compareFractions v0 v2 v4 v6 σ Q) (hq : ∀ r τ, Q r τ → Q2 r τ) : M_X11_compareFractions v0 v2 v4 v6 σ Q2 := cg_M.mono h (fun ad v τ ⟨r, e, q⟩ => ⟨r, e, hq r τ q⟩)
set_option maxRecDepth 100000 in
set_option maxHeartbeats 4000000 in
theorem v_X11_compareFractions {v0 : Int64} {v2 : Int64} {v4 : Int64} {v6 : Int64} {σ : cg_S} {Q : Int32 → cg_S → Prop}
    (h : M_X11_quotient v0 v2 σ (fun r1 s2 => M_X11_quotient v4 v6 s2 (fun r4 s5 => (r1 = r4 → M_J13_compare_74951 ((v0 - (r1 * v2)) * v6) ((v4 - (r4 * v6)) * v2) s5 (fun r7 s8 => Q r7 s8)) ∧ (¬ r1 = r4 → M_J13_compare_74951 r1 r4 s5 (fun r10 s11 => Q r10 s11))))) : M_X11_compareFractions v0 v2 v4 v6 σ Q := by
  refine cg_entry (lv := fun ad => [(0, .long v0), (2, .long v2), (4, .long v4), (6, .long v6)]) (by decide +kernel) (fun _ => rfl) (fun _ => Nat.le_of_ble_eq_true rfl) ?_
  intro p l e s m args below meth c D cy ad hC
  refine ga_lload_n hC dX11_compareFractions_0 0 rfl rfl ?_
  refine ga_lload_n hC dX11_compareFractions_1 1 rfl rfl ?_
  refine ga_callS (As := [.long v0, .long v2]) (st := []) (n := 2) hC h q_3_81 q_3_36 q_1_1 q_3_37 rfl rfl rfl (by decide +kernel) ⟨Nat.le_of_ble_eq_true rfl, Nat.le_of_ble_eq_true rfl⟩ ⟨Nat.le_of_ble_eq_true rfl, Nat.le_of_ble_eq_true rfl⟩ rfl rfl (Nat.le_of_ble_eq_true rfl) dX11_compareFractions_2 (fun v τ hq => ?_)
  obtain ⟨r1, rfl, h⟩ := hq
  obtain ⟨s2, es2⟩ : ∃ z, z = τ := ⟨_, rfl⟩
  rw [← es2] at h ⊢
  clear es2
  refine ga_lstore (lv' := [(8, .long r1), (0, .long v0), (2, .long v2), (4, .long v4), (6, .long v6)]) hC dX11_compareFractions_5 (by decide) rfl ?_
  refine ga_lload hC dX11_compareFractions_7 3 rfl ?_
  refine ga_lload hC dX11_compareFractions_9 4 rfl ?_
  refine ga_callS (As := [.long v4, .long v6]) (st := []) (n := 2) hC h q_3_81 q_3_36 q_1_1 q_3_37 rfl rfl rfl (by decide +kernel) ⟨Nat.le_of_ble_eq_true rfl, Nat.le_of_ble_eq_true rfl⟩ ⟨Nat.le_of_ble_eq_true rfl, Nat.le_of_ble_eq_true rfl⟩ rfl rfl (Nat.le_of_ble_eq_true rfl) dX11_compareFractions_11 (fun v τ hq => ?_)
  obtain ⟨r4, rfl, h⟩ := hq
  obtain ⟨s5, es5⟩ : ∃ z, z = τ := ⟨_, rfl⟩
  rw [← es5] at h ⊢
  clear es5
  refine ga_lstore (lv' := [(10, .long r4), (8, .long r1), (0, .long v0), (2, .long v2), (4, .long v4), (6, .long v6)]) hC dX11_compareFractions_14 (by decide) rfl ?_
  refine ga_lload hC dX11_compareFractions_16 1 rfl ?_
  refine ga_lload hC dX11_compareFractions_18 0 rfl ?_
  refine ga_lcmp hC dX11_compareFractions_20 ?_
  refine ga_if_eq (tgt := 32) hC dX11_compareFractions_21 (by decide) (fun hc => ?_) (fun hc => ?_)
  · have h := h.1 (cg_cmp_eq.1 hc)
    refine ga_lload_n hC dX11_compareFractions_32 2 rfl rfl ?_
    refine ga_lload hC dX11_compareFractions_33 1 rfl ?_
    refine ga_lload_n hC dX11_compareFractions_35 3 rfl rfl ?_
    refine ga_lmul hC dX11_compareFractions_36 ?_
    refine ga_lsub hC dX11_compareFractions_37 ?_
    refine ga_lload hC dX11_compareFractions_38 5 rfl ?_
    refine ga_lmul hC dX11_compareFractions_40 ?_
    refine ga_lload hC dX11_compareFractions_41 4 rfl ?_
    refine ga_lload hC dX11_compareFractions_43 0 rfl ?_
    refine ga_lload hC dX11_compareFractions_45 5 rfl ?_
    refine ga_lmul hC dX11_compareFractions_47 ?_
    refine ga_lsub hC dX11_compareFractions_48 ?_
    refine ga_lload_n hC dX11_compareFractions_49 3 rfl rfl ?_
    refine ga_lmul hC dX11_compareFractions_50 ?_
    refine ga_callS (As := [.long ((v0 - (r1 * v2)) * v6), .long ((v4 - (r4 * v6)) * v2)]) (st := []) (n := 2) hC h q_3_82 q_3_83 q_1_21 q_3_84 rfl rfl rfl (by decide +kernel) ⟨Nat.le_of_ble_eq_true rfl, Nat.le_of_ble_eq_true rfl⟩ ⟨Nat.le_of_ble_eq_true rfl, Nat.le_of_ble_eq_true rfl⟩ rfl rfl (Nat.le_of_ble_eq_true rfl) dX11_compareFractions_51 (fun v τ hq => ?_)
    obtain ⟨r7, rfl, h⟩ := hq
    obtain ⟨s8, es8⟩ : ∃ z, z = τ := ⟨_, rfl⟩
    rw [← es8] at h ⊢
    clear es8
    exact ga_iret hC dX11_compareFractions_54 ⟨_, rfl, h⟩
  · have h := h.2 (cg_cmp_eq.2 hc)
    refine ga_lload hC dX11_compareFractions_24 1 rfl ?_
    refine ga_lload hC dX11_compareFractions_26 0 rfl ?_
    refine ga_callS (As := [.long r1, .long r4]) (st := []) (n := 2) hC h q_3_82 q_3_83 q_1_21 q_3_84 rfl rfl rfl (by decide +kernel) ⟨Nat.le_of_ble_eq_true rfl, Nat.le_of_ble_eq_true rfl⟩ ⟨Nat.le_of_ble_eq_true rfl, Nat.le_of_ble_eq_true rfl⟩ rfl rfl (Nat.le_of_ble_eq_true rfl) dX11_compareFractions_28 (fun v τ hq => ?_)
    obtain ⟨r10, rfl, h⟩ := hq
    obtain ⟨s11, es11⟩ : ∃ z, z = τ := ⟨_, rfl⟩
    rw [← es11] at h ⊢
    clear es11
    exact ga_iret hC dX11_compareFractions_31 ⟨_, rfl, h⟩
def M_X11_floatOf (v0 : Int64) (v2 : Int64) (σ : cg_S) (Q : UInt32 → cg_S → Prop) : Prop := cg_M cg_WC yX11_floatOf cX11_floatOf 4 (some .float) (cg_R 0) (fun ad => [.long v0, .long v2]) σ (cg_qf Q)
theorem M_X11_floatOf.mono {v0 : Int64} {v2 : Int64} {σ : cg_S} {Q Q2 : UInt32 → cg_S → Prop} (h : M_X11_floatOf v0 v2 σ Q) (hq : ∀ r τ, Q r τ → Q2 r τ) : M_X11_floatOf v0 v2 σ Q2 := cg_M.mono h (fun ad v τ ⟨r, e, q⟩ => ⟨r, e, hq r τ q⟩)
set_option maxRecDepth 100000 in
set_option maxHeartbeats 4000000 in
theorem v_X11_floatOf {v0 : Int64} {v2 : Int64} {σ : cg_S} {Q : UInt32 → cg_S → Prop}
    (h : (¬ v2 = 0 → vf_n32 (FP.fdiv (FP.l2f v0) (FP.l2f v2)) ∧ Q (FP.fdiv (FP.l2f v0) (FP.l2f v2)) σ) ∧ (v2 = 0 → Q FP.fconst0 σ)) : M_X11_floatOf v0 v2 σ Q := by
  refine cg_entry (lv := fun ad => [(0, .long v0), (2, .long v2)]) (by decide +kernel) (fun _ => rfl) (fun _ => Nat.le_of_ble_eq_true rfl) ?_
  intro p l e s m args below meth c D cy ad hC
  refine ga_lload_n hC dX11_floatOf_0 1 rfl rfl ?_
  refine ga_lconst (v := 0) hC dX11_floatOf_1 (by decide) ?_
  refine ga_lcmp hC dX11_floatOf_2 ?_
  refine ga_if_ne (tgt := 10) hC dX11_floatOf_3 (by decide) (fun hc => ?_) (fun hc => ?_)
  · have h := h.1 (cg_cmp_ne.1 hc)
    refine ga_lload_n hC dX11_floatOf_10 0 rfl rfl ?_
    refine ga_l2f hC dX11_floatOf_11 ?_
    refine ga_lload_n hC dX11_floatOf_12 1 rfl rfl ?_
    refine ga_l2f hC dX11_floatOf_13 ?_
    obtain ⟨h1, h⟩ := h
    refine ga_fdiv hC dX11_floatOf_14 h1 ?_
    exact ga_fret hC dX11_floatOf_15 ⟨_, rfl, h⟩
  · have h := h.2 (cg_cmp_ne.2 hc)
    refine ga_fconst0 hC dX11_floatOf_6 ?_
    refine ga_goto (tgt := 15) hC dX11_floatOf_7 (by decide) ?_
    exact ga_fret hC dX11_floatOf_15 ⟨_, rfl, h⟩
def M_X2_moveOf (v0 : Int32) (v1 : Int32) (σ : cg_S) (Q : Int32 → cg_S → Prop) : Prop := cg_M cg_WC yX2_moveOf cX2_moveOf 2 (some .int) (cg_R 0) (fun ad => [.int v0, .int v1]) σ (cg_qi Q)
theorem M_X2_moveOf.mono {v0 : Int32} {v1 : Int32} {σ : cg_S} {Q Q2 : Int32 → cg_S → Prop} (h : M_X2_moveOf v0 v1 σ Q) (hq : ∀ r τ, Q r τ → Q2 r τ) : M_X2_moveOf v0 v1 σ Q2 := cg_M.mono h (fun ad v τ ⟨r, e, q⟩ => ⟨r, e, hq r τ q⟩)
set_option maxRecDepth 100000 in
set_option maxHeartbeats 4000000 in
theorem v_X2_moveOf {v0 : Int32} {v1 : Int32} {σ : cg_S} {Q : Int32 → cg_S → Prop}
    (h : Q ((v0 * 3) + v1) σ) : M_X2_moveOf v0 v1 σ Q := by
  refine cg_entry (lv := fun ad => [(0, .int v0), (1, .int v1)]) (by decide +kernel) (fun _ => rfl) (fun _ => Nat.le_of_ble_eq_true rfl) ?_
  intro p l e s m args below meth c D cy ad hC
  refine ga_iload_n hC dX2_moveOf_0 0 rfl rfl ?_
  refine ga_iconst (v := 3) hC dX2_moveOf_1 (by decide) ?_
  refine ga_imul hC dX2_moveOf_2 ?_
  refine ga_iload_n hC dX2_moveOf_3 1 rfl rfl ?_
  refine ga_iadd hC dX2_moveOf_4 ?_
  exact ga_iret hC dX2_moveOf_5 ⟨_, rfl, h⟩
def M_X2_holds (v0 : Int32) (v1 : Int32) (σ : cg_S) (Q : Int32 → cg_S → Prop) : Prop := cg_M cg_WC yX2_holds cX2_holds 2 (some .boolean) (cg_R 0) (fun ad => [.int v0, .int v1]) σ (cg_qi Q)
theorem M_X2_holds.mono {v0 : Int32} {v1 : Int32} {σ : cg_S} {Q Q2 : Int32 → cg_S → Prop} (h : M_X2_holds v0 v1 σ Q) (hq : ∀ r τ, Q r τ → Q2 r τ) : M_X2_holds v0 v1 σ Q2 := cg_M.mono h (fun ad v τ ⟨r, e, q⟩ => ⟨r, e, hq r τ q⟩)
set_option maxRecDepth 100000 in
set_option maxHeartbeats 4000000 in
theorem v_X2_holds {v0 : Int32} {v1 : Int32} {σ : cg_S} {Q : Int32 → cg_S → Prop}
    (h : (¬ ((v0 >>> (v1 &&& 31)) &&& 1) = 1 → Q 0 σ) ∧ (((v0 >>> (v1 &&& 31)) &&& 1) = 1 → Q 1 σ)) : M_X2_holds v0 v1 σ Q := by
  refine cg_entry (lv := fun ad => [(0, .int v0), (1, .int v1)]) (by decide +kernel) (fun _ => rfl) (fun _ => Nat.le_of_ble_eq_true rfl) ?_
  intro p l e s m args below meth c D cy ad hC
  refine ga_iload_n hC dX2_holds_0 0 rfl rfl ?_
  refine ga_iload_n hC dX2_holds_1 1 rfl rfl ?_
  refine ga_ishr hC dX2_holds_2 ?_
  refine ga_iconst (v := 1) hC dX2_holds_3 (by decide) ?_
  refine ga_iand hC dX2_holds_4 ?_
  refine ga_iconst (v := 1) hC dX2_holds_5 (by decide) ?_
  refine ga_icmp_ne (tgt := 13) hC dX2_holds_6 (by decide) (fun hc => ?_) (fun hc => ?_)
  · have h := h.1 hc
    refine ga_iconst (v := 0) hC dX2_holds_13 (by decide) ?_
    exact ga_zret hC dX2_holds_14 (by decide) ⟨_, rfl, h⟩
  · have h := h.2 hc
    refine ga_iconst (v := 1) hC dX2_holds_9 (by decide) ?_
    refine ga_goto (tgt := 14) hC dX2_holds_10 (by decide) ?_
    exact ga_zret hC dX2_holds_14 (by decide) ⟨_, rfl, h⟩
def M_X2_hasState (v1 : Int32) (σ : cg_S) (Q : Int32 → cg_S → Prop) : Prop := cg_M cg_WC yX2_hasState cX2_hasState 2 (some .boolean) (cg_R 0) (fun ad => [.ref (ad 1), .int v1]) σ (cg_qi Q)
theorem M_X2_hasState.mono {v1 : Int32} {σ : cg_S} {Q Q2 : Int32 → cg_S → Prop} (h : M_X2_hasState v1 σ Q) (hq : ∀ r τ, Q r τ → Q2 r τ) : M_X2_hasState v1 σ Q2 := cg_M.mono h (fun ad v τ ⟨r, e, q⟩ => ⟨r, e, hq r τ q⟩)
set_option maxRecDepth 100000 in
set_option maxHeartbeats 4000000 in
theorem v_X2_hasState {v1 : Int32} {σ : cg_S} {Q : Int32 → cg_S → Prop}
    (h : (v1 < 0 → Q 0 σ) ∧ (¬ v1 < 0 → ((σ.1 1 0) ≤ v1 → Q 0 σ) ∧ (¬ (σ.1 1 0) ≤ v1 → Q 1 σ))) : M_X2_hasState v1 σ Q := by
  refine cg_entry (lv := fun ad => [(0, .ref (ad 1)), (1, .int v1)]) (by decide +kernel) (fun _ => rfl) (fun _ => Nat.le_of_ble_eq_true rfl) ?_
  intro p l e s m args below meth c D cy ad hC
  refine ga_iload_n hC dX2_hasState_0 1 rfl rfl ?_
  refine ga_if_lt (tgt := 16) hC dX2_hasState_1 (by decide) (fun hc => ?_) (fun hc => ?_)
  · have h := h.1 hc
    refine ga_iconst (v := 0) hC dX2_hasState_16 (by decide) ?_
    exact ga_zret hC dX2_hasState_17 (by decide) ⟨_, rfl, h⟩
  · have h := h.2 hc
    refine ga_iload_n hC dX2_hasState_4 1 rfl rfl ?_
    refine ga_aload_n hC dX2_hasState_5 0 rfl rfl ?_
    refine gC_1_0 hC q_1_54 dX2_hasState_6 ?_
    refine ga_icmp_ge (tgt := 16) hC dX2_hasState_9 (by decide) (fun hc => ?_) (fun hc => ?_)
    · have h := h.1 hc
      refine ga_iconst (v := 0) hC dX2_hasState_16 (by decide) ?_
      exact ga_zret hC dX2_hasState_17 (by decide) ⟨_, rfl, h⟩
    · have h := h.2 hc
      refine ga_iconst (v := 1) hC dX2_hasState_12 (by decide) ?_
      refine ga_goto (tgt := 17) hC dX2_hasState_13 (by decide) ?_
      exact ga_zret hC dX2_hasState_17 (by decide) ⟨_, rfl, h⟩
def M_X2_hasChoice (v1 : Int32) (v2 : Int32) (σ : cg_S) (Q : Int32 → cg_S → Prop) : Prop := cg_M cg_WC yX2_hasChoice cX2_hasChoice 3 (some .boolean) (cg_R 1) (fun ad => [.ref (ad 1), .int v1, .int v2]) σ (cg_qi Q)
theorem M_X2_hasChoice.mono {v1 : Int32} {v2 : Int32} {σ : cg_S} {Q Q2 : Int32 → cg_S → Prop} (h : M_X2_hasChoice v1 v2 σ Q) (hq : ∀ r τ, Q r τ → Q2 r τ) : M_X2_hasChoice v1 v2 σ Q2 := cg_M.mono h (fun ad v τ ⟨r, e, q⟩ => ⟨r, e, hq r τ q⟩)
set_option maxRecDepth 100000 in
set_option maxHeartbeats 4000000 in
theorem v_X2_hasChoice {v1 : Int32} {v2 : Int32} {σ : cg_S} {Q : Int32 → cg_S → Prop}
    (h : M_X2_hasState v1 σ (fun r1 s2 => (r1 = 0 → Q 0 s2) ∧ (¬ r1 = 0 → (v2 < 0 → Q 0 s2) ∧ (¬ v2 < 0 → vp_in v1 7 ∧ ((s2.1 21 v1.toNatClampNeg) ≤ v2 → Q 0 s2) ∧ (¬ (s2.1 21 v1.toNatClampNeg) ≤ v2 → Q 1 s2))))) : M_X2_hasChoice v1 v2 σ Q := by
  refine cg_entry (lv := fun ad => [(0, .ref (ad 1)), (1, .int v1), (2, .int v2)]) (by decide +kernel) (fun _ => rfl) (fun _ => Nat.le_of_ble_eq_true rfl) ?_
  intro p l e s m args below meth c D cy ad hC
  refine ga_aload_n hC dX2_hasChoice_0 0 rfl rfl ?_
  refine ga_iload_n hC dX2_hasChoice_1 1 rfl rfl ?_
  refine ga_callV (As := [.int v1]) (st := []) (k := 1) (n := 1) hC h q_4_56 q_4_19 q_4_20 q_1_2 q_4_21 rfl rfl rfl (by decide +kernel) ⟨Nat.le_of_ble_eq_true rfl, Nat.le_of_ble_eq_true rfl⟩ ⟨Nat.le_of_ble_eq_true rfl, Nat.le_of_ble_eq_true rfl⟩ rfl rfl rfl (by decide) rfl (Nat.le_of_ble_eq_true rfl) dX2_hasChoice_2 (fun v τ hq => ?_)
  obtain ⟨r1, rfl, h⟩ := hq
  obtain ⟨s2, es2⟩ : ∃ z, z = τ := ⟨_, rfl⟩
  rw [← es2] at h ⊢
  clear es2
  refine ga_if_eq (tgt := 26) hC dX2_hasChoice_5 (by decide) (fun hc => ?_) (fun hc => ?_)
  · have h := h.1 hc
    refine ga_iconst (v := 0) hC dX2_hasChoice_26 (by decide) ?_
    exact ga_zret hC dX2_hasChoice_27 (by decide) ⟨_, rfl, h⟩
  · have h := h.2 hc
    refine ga_iload_n hC dX2_hasChoice_8 2 rfl rfl ?_
    refine ga_if_lt (tgt := 26) hC dX2_hasChoice_9 (by decide) (fun hc => ?_) (fun hc => ?_)
    · have h := h.1 hc
      refine ga_iconst (v := 0) hC dX2_hasChoice_26 (by decide) ?_
      exact ga_zret hC dX2_hasChoice_27 (by decide) ⟨_, rfl, h⟩
    · have h := h.2 hc
      refine ga_iload_n hC dX2_hasChoice_12 2 rfl rfl ?_
      refine ga_aload_n hC dX2_hasChoice_13 0 rfl rfl ?_
      refine gC_1_9 hC q_1_76 dX2_hasChoice_14 ?_
      refine ga_iload_n hC dX2_hasChoice_17 1 rfl rfl ?_
      obtain ⟨h4, h⟩ := h
      refine ga_iald hC aC_21 (by decide) h4 dX2_hasChoice_18 ?_
      refine ga_icmp_ge (tgt := 26) hC dX2_hasChoice_19 (by decide) (fun hc => ?_) (fun hc => ?_)
      · have h := h.1 hc
        refine ga_iconst (v := 0) hC dX2_hasChoice_26 (by decide) ?_
        exact ga_zret hC dX2_hasChoice_27 (by decide) ⟨_, rfl, h⟩
      · have h := h.2 hc
        refine ga_iconst (v := 1) hC dX2_hasChoice_22 (by decide) ?_
        refine ga_goto (tgt := 27) hC dX2_hasChoice_23 (by decide) ?_
        exact ga_zret hC dX2_hasChoice_27 (by decide) ⟨_, rfl, h⟩
def M_X2_isTarget (v1 : Int32) (σ : cg_S) (Q : Int32 → cg_S → Prop) : Prop := cg_M cg_WC yX2_isTarget cX2_isTarget 2 (some .boolean) (cg_R 1) (fun ad => [.ref (ad 1), .int v1]) σ (cg_qi Q)
theorem M_X2_isTarget.mono {v1 : Int32} {σ : cg_S} {Q Q2 : Int32 → cg_S → Prop} (h : M_X2_isTarget v1 σ Q) (hq : ∀ r τ, Q r τ → Q2 r τ) : M_X2_isTarget v1 σ Q2 := cg_M.mono h (fun ad v τ ⟨r, e, q⟩ => ⟨r, e, hq r τ q⟩)
set_option maxRecDepth 100000 in
set_option maxHeartbeats 4000000 in
theorem v_X2_isTarget {v1 : Int32} {σ : cg_S} {Q : Int32 → cg_S → Prop}
    (h : M_X2_holds (σ.1 1 1) v1 σ (fun r1 s2 => (r1 = 0 ∨ r1 = 1) ∧ Q r1 s2)) : M_X2_isTarget v1 σ Q := by
  refine cg_entry (lv := fun ad => [(0, .ref (ad 1)), (1, .int v1)]) (by decide +kernel) (fun _ => rfl) (fun _ => Nat.le_of_ble_eq_true rfl) ?_
  intro p l e s m args below meth c D cy ad hC
  refine ga_aload_n hC dX2_isTarget_0 0 rfl rfl ?_
  refine gC_1_1 hC q_1_58 dX2_isTarget_1 ?_
  refine ga_iload_n hC dX2_isTarget_4 1 rfl rfl ?_
  refine ga_callS (As := [.int (σ.1 1 1), .int v1]) (st := []) (n := 2) hC h q_2_187 q_2_188 q_1_2 q_2_189 rfl rfl rfl (by decide +kernel) ⟨Nat.le_of_ble_eq_true rfl, Nat.le_of_ble_eq_true rfl⟩ ⟨Nat.le_of_ble_eq_true rfl, Nat.le_of_ble_eq_true rfl⟩ rfl rfl (Nat.le_of_ble_eq_true rfl) dX2_isTarget_5 (fun v τ hq => ?_)
  obtain ⟨r1, rfl, h⟩ := hq
  obtain ⟨s2, es2⟩ : ∃ z, z = τ := ⟨_, rfl⟩
  rw [← es2] at h ⊢
  clear es2
  exact ga_zret hC dX2_isTarget_8 h.1 ⟨_, rfl, h.2⟩
def M_X2_everyState (σ : cg_S) (Q : Int32 → cg_S → Prop) : Prop := cg_M cg_WC yX2_everyState cX2_everyState 1 (some .int) (cg_R 0) (fun ad => [.ref (ad 1)]) σ (cg_qi Q)
theorem M_X2_everyState.mono {σ : cg_S} {Q Q2 : Int32 → cg_S → Prop} (h : M_X2_everyState σ Q) (hq : ∀ r τ, Q r τ → Q2 r τ) : M_X2_everyState σ Q2 := cg_M.mono h (fun ad v τ ⟨r, e, q⟩ => ⟨r, e, hq r τ q⟩)
set_option maxRecDepth 100000 in
set_option maxHeartbeats 4000000 in
theorem v_X2_everyState {σ : cg_S} {Q : Int32 → cg_S → Prop}
    (h : Q ((1 <<< ((σ.1 1 0) &&& 31)) - 1) σ) : M_X2_everyState σ Q := by
  refine cg_entry (lv := fun ad => [(0, .ref (ad 1))]) (by decide +kernel) (fun _ => rfl) (fun _ => Nat.le_of_ble_eq_true rfl) ?_
  intro p l e s m args below meth c D cy ad hC
  refine ga_iconst (v := 1) hC dX2_everyState_0 (by decide) ?_
  refine ga_aload_n hC dX2_everyState_1 0 rfl rfl ?_
  refine gC_1_0 hC q_1_54 dX2_everyState_2 ?_
  refine ga_ishl hC dX2_everyState_5 ?_
  refine ga_iconst (v := 1) hC dX2_everyState_6 (by decide) ?_
  refine ga_isub hC dX2_everyState_7 ?_
  exact ga_iret hC dX2_everyState_8 ⟨_, rfl, h⟩
def M_X2_isReady (σ : cg_S) (Q : Int32 → cg_S → Prop) : Prop := cg_M cg_WC yX2_isReady cX2_isReady 3 (some .boolean) (cg_R 1) (fun ad => [.ref (ad 1)]) σ (cg_qi Q)
theorem M_X2_isReady.mono {σ : cg_S} {Q Q2 : Int32 → cg_S → Prop} (h : M_X2_isReady σ Q) (hq : ∀ r τ, Q r τ → Q2 r τ) : M_X2_isReady σ Q2 := cg_M.mono h (fun ad v τ ⟨r, e, q⟩ => ⟨r, e, hq r τ q⟩)
def L_X2_isReady_2 (v1 : Int32) (σ : cg_S) (Q : Int32 → cg_S → Prop) : Prop := cg_L cg_WC RX2 cX2_isReady 3 (some .boolean) (cg_R 1) 2 (fun ad => [(0, .ref (ad 1)), (1, .int v1)]) (fun ad => []) σ (cg_qi Q)
def L_X2_isReady_23 (v1 : Int32) (v2 : Int32) (σ : cg_S) (Q : Int32 → cg_S → Prop) : Prop := cg_L cg_WC RX2 cX2_isReady 3 (some .boolean) (cg_R 1) 23 (fun ad => [(0, .ref (ad 1)), (1, .int v1), (2, .int v2)]) (fun ad => []) σ (cg_qi Q)
set_option maxRecDepth 100000 in
set_option maxHeartbeats 4000000 in
theorem v_X2_isReady_23 {v1 : Int32} {v2 : Int32} {σ : cg_S} {Q : Int32 → cg_S → Prop}
    (h : vp_in v1 7 ∧ ((σ.1 21 v1.toNatClampNeg) ≤ v2 → L_X2_isReady_2 (v1 + 1) σ Q) ∧ (¬ (σ.1 21 v1.toNatClampNeg) ≤ v2 → M_X2_moveOf v1 v2 σ (fun r2 s3 => vp_in r2 21 ∧ (¬ (s3.1 24 r2.toNatClampNeg) = 0 → L_X2_isReady_23 v1 (v2 + 1) s3 Q) ∧ ((s3.1 24 r2.toNatClampNeg) = 0 → Q 0 s3)))) : L_X2_isReady_23 v1 v2 σ Q := by
  intro p l e s m args below meth c D cy ad hC
  refine ga_iload_n hC dX2_isReady_23 2 rfl rfl ?_
  refine ga_aload_n hC dX2_isReady_24 0 rfl rfl ?_
  refine gC_1_9 hC q_1_76 dX2_isReady_25 ?_
  refine ga_iload_n hC dX2_isReady_28 1 rfl rfl ?_
  obtain ⟨h1, h⟩ := h
  refine ga_iald hC aC_21 (by decide) h1 dX2_isReady_29 ?_
  refine ga_icmp_ge (tgt := 54) hC dX2_isReady_30 (by decide) (fun hc => ?_) (fun hc => ?_)
  · have h := h.1 hc
    refine ga_iinc (v := v1 + 1) (lv' := [(1, .int (v1 + 1)), (0, .ref (ad 1)), (2, .int v2)]) hC dX2_isReady_54 1 rfl rfl (by decide) rfl ?_
    refine ga_goto (tgt := 2) hC dX2_isReady_57 (by decide) ?_
    refine ga_locals [1, 0] rfl ?_
    exact h p l e s m args below meth c D cy ad hC
  · have h := h.2 hc
    refine ga_aload_n hC dX2_isReady_33 0 rfl rfl ?_
    refine gC_1_12 hC q_1_88 dX2_isReady_34 ?_
    refine ga_iload_n hC dX2_isReady_37 1 rfl rfl ?_
    refine ga_iload_n hC dX2_isReady_38 2 rfl rfl ?_
    refine ga_callS (As := [.int v1, .int v2]) (st := [.ref (ad 24)]) (n := 2) hC h q_2_168 q_2_169 q_1_2 q_2_170 rfl rfl rfl (by decide +kernel) ⟨Nat.le_of_ble_eq_true rfl, Nat.le_of_ble_eq_true rfl⟩ ⟨Nat.le_of_ble_eq_true rfl, Nat.le_of_ble_eq_true rfl⟩ rfl rfl (Nat.le_of_ble_eq_true rfl) dX2_isReady_39 (fun v τ hq => ?_)
    obtain ⟨r2, rfl, h⟩ := hq
    obtain ⟨s3, es3⟩ : ∃ z, z = τ := ⟨_, rfl⟩
    rw [← es3] at h ⊢
    clear es3
    obtain ⟨h5, h⟩ := h
    refine ga_iald hC aC_24 (by decide) h5 dX2_isReady_42 ?_
    refine ga_if_ne (tgt := 48) hC dX2_isReady_43 (by decide) (fun hc => ?_) (fun hc => ?_)
    · have h := h.1 hc
      refine ga_iinc (v := v2 + 1) (lv' := [(2, .int (v2 + 1)), (0, .ref (ad 1)), (1, .int v1)]) hC dX2_isReady_48 2 rfl rfl (by decide) rfl ?_
      refine ga_goto (tgt := 23) hC dX2_isReady_51 (by decide) ?_
      refine ga_locals [1, 2, 0] rfl ?_
      exact h p l e s m args below meth c D cy ad hC
    · have h := h.2 hc
      refine ga_iconst (v := 0) hC dX2_isReady_46 (by decide) ?_
      exact ga_zret hC dX2_isReady_47 (by decide) ⟨_, rfl, h⟩
set_option maxRecDepth 100000 in
set_option maxHeartbeats 4000000 in
theorem v_X2_isReady_2 {v1 : Int32} {σ : cg_S} {Q : Int32 → cg_S → Prop}
    (h : ((σ.1 1 0) ≤ v1 → ((σ.1 1 0) ≤ 0 → Q 0 σ) ∧ (¬ (σ.1 1 0) ≤ 0 → Q 1 σ)) ∧ (¬ (σ.1 1 0) ≤ v1 → vp_in v1 7 ∧ (¬ (σ.1 21 v1.toNatClampNeg) = 0 → L_X2_isReady_23 v1 0 σ Q) ∧ ((σ.1 21 v1.toNatClampNeg) = 0 → Q 0 σ))) : L_X2_isReady_2 v1 σ Q := by
  intro p l e s m args below meth c D cy ad hC
  refine ga_iload_n hC dX2_isReady_2 1 rfl rfl ?_
  refine ga_aload_n hC dX2_isReady_3 0 rfl rfl ?_
  refine gC_1_0 hC q_1_54 dX2_isReady_4 ?_
  refine ga_icmp_ge (tgt := 60) hC dX2_isReady_7 (by decide) (fun hc => ?_) (fun hc => ?_)
  · have h := h.1 hc
    refine ga_aload_n hC dX2_isReady_60 0 rfl rfl ?_
    refine gC_1_0 hC q_1_54 dX2_isReady_61 ?_
    refine ga_if_le (tgt := 71) hC dX2_isReady_64 (by decide) (fun hc => ?_) (fun hc => ?_)
    · have h := h.1 hc
      refine ga_iconst (v := 0) hC dX2_isReady_71 (by decide) ?_
      exact ga_zret hC dX2_isReady_72 (by decide) ⟨_, rfl, h⟩
    · have h := h.2 hc
      refine ga_iconst (v := 1) hC dX2_isReady_67 (by decide) ?_
      refine ga_goto (tgt := 72) hC dX2_isReady_68 (by decide) ?_
      exact ga_zret hC dX2_isReady_72 (by decide) ⟨_, rfl, h⟩
  · have h := h.2 hc
    refine ga_aload_n hC dX2_isReady_10 0 rfl rfl ?_
    refine gC_1_9 hC q_1_76 dX2_isReady_11 ?_
    refine ga_iload_n hC dX2_isReady_14 1 rfl rfl ?_
    obtain ⟨h1, h⟩ := h
    refine ga_iald hC aC_21 (by decide) h1 dX2_isReady_15 ?_
    refine ga_if_ne (tgt := 21) hC dX2_isReady_16 (by decide) (fun hc => ?_) (fun hc => ?_)
    · have h := h.1 hc
      refine ga_iconst (v := 0) hC dX2_isReady_21 (by decide) ?_
      refine ga_istore_n (lv' := [(2, .int 0), (0, .ref (ad 1)), (1, .int v1)]) hC dX2_isReady_22 rfl (by decide) rfl ?_
      refine ga_locals [1, 2, 0] rfl ?_
      exact h p l e s m args below meth c D cy ad hC
    · have h := h.2 hc
      refine ga_iconst (v := 0) hC dX2_isReady_19 (by decide) ?_
      exact ga_zret hC dX2_isReady_20 (by decide) ⟨_, rfl, h⟩
set_option maxRecDepth 100000 in
set_option maxHeartbeats 4000000 in
theorem v_X2_isReady {σ : cg_S} {Q : Int32 → cg_S → Prop}
    (h : L_X2_isReady_2 0 σ Q) : M_X2_isReady σ Q := by
  refine cg_entry (lv := fun ad => [(0, .ref (ad 1))]) (by decide +kernel) (fun _ => rfl) (fun _ => Nat.le_of_ble_eq_true rfl) ?_
  intro p l e s m args below meth c D cy ad hC
  refine ga_iconst (v := 0) hC dX2_isReady_0 (by decide) ?_
  refine ga_istore_n (lv' := [(1, .int 0), (0, .ref (ad 1))]) hC dX2_isReady_1 rfl (by decide) rfl ?_
  refine ga_locals [1, 0] rfl ?_
  exact h p l e s m args below meth c D cy ad hC
def M_X2_costOf (v1 : Int32) (v2 : Int32) (σ : cg_S) (Q : Int32 → cg_S → Prop) : Prop := cg_M cg_WC yX2_costOf cX2_costOf 3 (some .int) (cg_R 0) (fun ad => [.ref (ad 1), .int v1, .int v2]) σ (cg_qi Q)
theorem M_X2_costOf.mono {v1 : Int32} {v2 : Int32} {σ : cg_S} {Q Q2 : Int32 → cg_S → Prop} (h : M_X2_costOf v1 v2 σ Q) (hq : ∀ r τ, Q r τ → Q2 r τ) : M_X2_costOf v1 v2 σ Q2 := cg_M.mono h (fun ad v τ ⟨r, e, q⟩ => ⟨r, e, hq r τ q⟩)
set_option maxRecDepth 100000 in
set_option maxHeartbeats 4000000 in
theorem v_X2_costOf {v1 : Int32} {v2 : Int32} {σ : cg_S} {Q : Int32 → cg_S → Prop}
    (h : (¬ v2 = 102 → (¬ v2 = 115 → vp_in v1 21 ∧ vp_in v1 21 ∧ Q (((σ.1 1 4) * (σ.1 22 v1.toNatClampNeg)) + ((σ.1 1 5) * (σ.1 23 v1.toNatClampNeg))) σ) ∧ (v2 = 115 → vp_in v1 21 ∧ Q (σ.1 23 v1.toNatClampNeg) σ)) ∧ (v2 = 102 → vp_in v1 21 ∧ Q (σ.1 22 v1.toNatClampNeg) σ)) : M_X2_costOf v1 v2 σ Q := by
  refine cg_entry (lv := fun ad => [(0, .ref (ad 1)), (1, .int v1), (2, .int v2)]) (by decide +kernel) (fun _ => rfl) (fun _ => Nat.le_of_ble_eq_true rfl) ?_
  intro p l e s m args below meth c D cy ad hC
  refine ga_iload_n hC dX2_costOf_0 2 rfl rfl ?_
  refine ga_bipush (v := 102) hC dX2_costOf_1 (by decide) ?_
  refine ga_icmp_ne (tgt := 13) hC dX2_costOf_3 (by decide) (fun hc => ?_) (fun hc => ?_)
  · have h := h.1 hc
    refine ga_iload_n hC dX2_costOf_13 2 rfl rfl ?_
    refine ga_bipush (v := 115) hC dX2_costOf_14 (by decide) ?_
    refine ga_icmp_ne (tgt := 26) hC dX2_costOf_16 (by decide) (fun hc => ?_) (fun hc => ?_)
    · have h := h.1 hc
      refine ga_aload_n hC dX2_costOf_26 0 rfl rfl ?_
      refine gC_1_4 hC q_1_63 dX2_costOf_27 ?_
      refine ga_aload_n hC dX2_costOf_30 0 rfl rfl ?_
      refine gC_1_10 hC q_1_83 dX2_costOf_31 ?_
      refine ga_iload_n hC dX2_costOf_34 1 rfl rfl ?_
      obtain ⟨h1, h⟩ := h
      refine ga_iald hC aC_22 (by decide) h1 dX2_costOf_35 ?_
      refine ga_imul hC dX2_costOf_36 ?_
      refine ga_aload_n hC dX2_costOf_37 0 rfl rfl ?_
      refine gC_1_5 hC q_1_64 dX2_costOf_38 ?_
      refine ga_aload_n hC dX2_costOf_41 0 rfl rfl ?_
      refine gC_1_11 hC q_1_86 dX2_costOf_42 ?_
      refine ga_iload_n hC dX2_costOf_45 1 rfl rfl ?_
      obtain ⟨h2, h⟩ := h
      refine ga_iald hC aC_23 (by decide) h2 dX2_costOf_46 ?_
      refine ga_imul hC dX2_costOf_47 ?_
      refine ga_iadd hC dX2_costOf_48 ?_
      exact ga_iret hC dX2_costOf_49 ⟨_, rfl, h⟩
    · have h := h.2 hc
      refine ga_aload_n hC dX2_costOf_19 0 rfl rfl ?_
      refine gC_1_11 hC q_1_86 dX2_costOf_20 ?_
      refine ga_iload_n hC dX2_costOf_23 1 rfl rfl ?_
      obtain ⟨h3, h⟩ := h
      refine ga_iald hC aC_23 (by decide) h3 dX2_costOf_24 ?_
      exact ga_iret hC dX2_costOf_25 ⟨_, rfl, h⟩
  · have h := h.2 hc
    refine ga_aload_n hC dX2_costOf_6 0 rfl rfl ?_
    refine gC_1_10 hC q_1_83 dX2_costOf_7 ?_
    refine ga_iload_n hC dX2_costOf_10 1 rfl rfl ?_
    obtain ⟨h4, h⟩ := h
    refine ga_iald hC aC_22 (by decide) h4 dX2_costOf_11 ?_
    exact ga_iret hC dX2_costOf_12 ⟨_, rfl, h⟩
def M_X2_placeState (v1 : Int32) (v2 : Int32) (σ : cg_S) (Q : Int32 → cg_S → Prop) : Prop := cg_M cg_WC yX2_placeState cX2_placeState 4 (some .int) (cg_R 0) (fun ad => [.ref (ad 1), .int v1, .int v2]) σ (cg_qi Q)
theorem M_X2_placeState.mono {v1 : Int32} {v2 : Int32} {σ : cg_S} {Q Q2 : Int32 → cg_S → Prop} (h : M_X2_placeState v1 v2 σ Q) (hq : ∀ r τ, Q r τ → Q2 r τ) : M_X2_placeState v1 v2 σ Q2 := cg_M.mono h (fun ad v τ ⟨r, e, q⟩ => ⟨r, e, hq r τ q⟩)
set_option maxRecDepth 100000 in
set_option maxHeartbeats 4000000 in
theorem v_X2_placeState {v1 : Int32} {v2 : Int32} {σ : cg_S} {Q : Int32 → cg_S → Prop}
    (h : ∀ x1 : Int32, x1 = σ.1 1 0 → vp_in x1 7 ∧ ∀ s3 : cg_S, s3 = cg_i σ 57 x1.toNatClampNeg (vp_nar .boolean v1) → vp_in x1 7 ∧ ∀ s5 : cg_S, s5 = cg_i s3 20 x1.toNatClampNeg v2 → ∀ s6 : cg_S, s6 = cg_i s5 1 0 ((s5.1 1 0) + 1) → ∀ s7 : cg_S, s7 = cg_i s6 1 6 ((s6.1 1 6) + 1) → Q x1 s7) : M_X2_placeState v1 v2 σ Q := by
  refine cg_entry (lv := fun ad => [(0, .ref (ad 1)), (1, .int v1), (2, .int v2)]) (by decide +kernel) (fun _ => rfl) (fun _ => Nat.le_of_ble_eq_true rfl) ?_
  intro p l e s m args below meth c D cy ad hC
  refine ga_aload_n hC dX2_placeState_0 0 rfl rfl ?_
  refine gC_1_0 hC q_1_54 dX2_placeState_1 ?_
  refine ga_topi (fun x1 ex1 => ?_)
  have h := h x1 ex1
  refine ga_istore_n (lv' := [(3, .int x1), (0, .ref (ad 1)), (1, .int v1), (2, .int v2)]) hC dX2_placeState_4 rfl (by decide) rfl ?_
  refine ga_aload_n hC dX2_placeState_5 1 rfl rfl ?_
  refine gC_1_7 hC q_1_67 dX2_placeState_6 ?_
  refine ga_iload_n hC dX2_placeState_9 0 rfl rfl ?_
  refine ga_iload_n hC dX2_placeState_10 2 rfl rfl ?_
  obtain ⟨h2, h⟩ := h
  refine ga_zast hC aC_57 (by decide) h2 dX2_placeState_11 ?_
  refine ga_sig (σ := cg_i σ 57 x1.toNatClampNeg (vp_nar .boolean v1)) (fun s3 es3 => ?_)
  have h := h s3 es3
  refine ga_aload_n hC dX2_placeState_12 1 rfl rfl ?_
  refine gC_1_8 hC q_1_73 dX2_placeState_13 ?_
  refine ga_iload_n hC dX2_placeState_16 0 rfl rfl ?_
  refine ga_iload_n hC dX2_placeState_17 3 rfl rfl ?_
  obtain ⟨h4, h⟩ := h
  refine ga_iast hC aC_20 (by decide) h4 dX2_placeState_18 ?_
  refine ga_sig (σ := cg_i s3 20 x1.toNatClampNeg v2) (fun s5 es5 => ?_)
  have h := h s5 es5
  refine ga_aload_n hC dX2_placeState_19 1 rfl rfl ?_
  refine ga_dup hC dX2_placeState_20 rfl ?_
  refine gC_1_0 hC q_1_54 dX2_placeState_21 ?_
  refine ga_iconst (v := 1) hC dX2_placeState_24 (by decide) ?_
  refine ga_iadd hC dX2_placeState_25 ?_
  refine pC_1_0 hC q_1_54 dX2_placeState_26 ?_
  refine ga_sig (σ := cg_i s5 1 0 ((s5.1 1 0) + 1)) (fun s6 es6 => ?_)
  have h := h s6 es6
  refine ga_aload_n hC dX2_placeState_29 1 rfl rfl ?_
  refine ga_dup hC dX2_placeState_30 rfl ?_
  refine gC_1_6 hC q_1_66 dX2_placeState_31 ?_
  refine ga_iconst (v := 1) hC dX2_placeState_34 (by decide) ?_
  refine ga_iadd hC dX2_placeState_35 ?_
  refine pC_1_6 hC q_1_66 dX2_placeState_36 ?_
  refine ga_sig (σ := cg_i s6 1 6 ((s6.1 1 6) + 1)) (fun s7 es7 => ?_)
  have h := h s7 es7
  refine ga_iload_n hC dX2_placeState_39 0 rfl rfl ?_
  exact ga_iret hC dX2_placeState_40 ⟨_, rfl, h⟩
def M_X2_placeChoice (v1 : Int32) (v2 : Int32) (v3 : Int32) (σ : cg_S) (Q : Int32 → cg_S → Prop) : Prop := cg_M cg_WC yX2_placeChoice cX2_placeChoice 6 (some .int) (cg_R 1) (fun ad => [.ref (ad 1), .int v1, .int v2, .int v3]) σ (cg_qi Q)
theorem M_X2_placeChoice.mono {v1 : Int32} {v2 : Int32} {v3 : Int32} {σ : cg_S} {Q Q2 : Int32 → cg_S → Prop} (h : M_X2_placeChoice v1 v2 v3 σ Q) (hq : ∀ r τ, Q r τ → Q2 r τ) : M_X2_placeChoice v1 v2 v3 σ Q2 := cg_M.mono h (fun ad v τ ⟨r, e, q⟩ => ⟨r, e, hq r τ q⟩)
set_option maxRecDepth 100000 in
set_option maxHeartbeats 4000000 in
theorem v_X2_placeChoice {v1 : Int32} {v2 : Int32} {v3 : Int32} {σ : cg_S} {Q : Int32 → cg_S → Prop}
    (h : vp_in v1 7 ∧ ∀ x2 : Int32, x2 = σ.1 21 v1.toNatClampNeg → M_X2_moveOf v1 x2 σ (fun r3 s4 => vp_in r3 21 ∧ ∀ s7 : cg_S, s7 = cg_i s4 22 r3.toNatClampNeg v2 → vp_in r3 21 ∧ ∀ s9 : cg_S, s9 = cg_i s7 23 r3.toNatClampNeg v3 → vp_in v1 7 ∧ vp_in v1 7 ∧ ∀ s12 : cg_S, s12 = cg_i s9 21 v1.toNatClampNeg ((s9.1 21 v1.toNatClampNeg) + 1) → ∀ s13 : cg_S, s13 = cg_i s12 1 6 ((s12.1 1 6) + 1) → Q x2 s13)) : M_X2_placeChoice v1 v2 v3 σ Q := by
  refine cg_entry (lv := fun ad => [(0, .ref (ad 1)), (1, .int v1), (2, .int v2), (3, .int v3)]) (by decide +kernel) (fun _ => rfl) (fun _ => Nat.le_of_ble_eq_true rfl) ?_
  intro p l e s m args below meth c D cy ad hC
  refine ga_aload_n hC dX2_placeChoice_0 0 rfl rfl ?_
  refine gC_1_9 hC q_1_76 dX2_placeChoice_1 ?_
  refine ga_iload_n hC dX2_placeChoice_4 1 rfl rfl ?_
  obtain ⟨h1, h⟩ := h
  refine ga_iald hC aC_21 (by decide) h1 dX2_placeChoice_5 ?_
  refine ga_topi (fun x2 ex2 => ?_)
  have h := h x2 ex2
  refine ga_istore (lv' := [(4, .int x2), (0, .ref (ad 1)), (1, .int v1), (2, .int v2), (3, .int v3)]) hC dX2_placeChoice_6 (by decide) rfl ?_
  refine ga_iload_n hC dX2_placeChoice_8 2 rfl rfl ?_
  refine ga_iload hC dX2_placeChoice_9 0 rfl ?_
  refine ga_callS (As := [.int v1, .int x2]) (st := []) (n := 2) hC h q_2_168 q_2_169 q_1_2 q_2_170 rfl rfl rfl (by decide +kernel) ⟨Nat.le_of_ble_eq_true rfl, Nat.le_of_ble_eq_true rfl⟩ ⟨Nat.le_of_ble_eq_true rfl, Nat.le_of_ble_eq_true rfl⟩ rfl rfl (Nat.le_of_ble_eq_true rfl) dX2_placeChoice_11 (fun v τ hq => ?_)
  obtain ⟨r3, rfl, h⟩ := hq
  obtain ⟨s4, es4⟩ : ∃ z, z = τ := ⟨_, rfl⟩
  rw [← es4] at h ⊢
  clear es4
  refine ga_istore (lv' := [(5, .int r3), (4, .int x2), (0, .ref (ad 1)), (1, .int v1), (2, .int v2), (3, .int v3)]) hC dX2_placeChoice_14 (by decide) rfl ?_
  refine ga_aload_n hC dX2_placeChoice_16 2 rfl rfl ?_
  refine gC_1_10 hC q_1_83 dX2_placeChoice_17 ?_
  refine ga_iload hC dX2_placeChoice_20 0 rfl ?_
  refine ga_iload_n hC dX2_placeChoice_22 4 rfl rfl ?_
  obtain ⟨h6, h⟩ := h
  refine ga_iast hC aC_22 (by decide) h6 dX2_placeChoice_23 ?_
  refine ga_sig (σ := cg_i s4 22 r3.toNatClampNeg v2) (fun s7 es7 => ?_)
  have h := h s7 es7
  refine ga_aload_n hC dX2_placeChoice_24 2 rfl rfl ?_
  refine gC_1_11 hC q_1_86 dX2_placeChoice_25 ?_
  refine ga_iload hC dX2_placeChoice_28 0 rfl ?_
  refine ga_iload_n hC dX2_placeChoice_30 5 rfl rfl ?_
  obtain ⟨h8, h⟩ := h
  refine ga_iast hC aC_23 (by decide) h8 dX2_placeChoice_31 ?_
  refine ga_sig (σ := cg_i s7 23 r3.toNatClampNeg v3) (fun s9 es9 => ?_)
  have h := h s9 es9
  refine ga_aload_n hC dX2_placeChoice_32 2 rfl rfl ?_
  refine gC_1_9 hC q_1_76 dX2_placeChoice_33 ?_
  refine ga_iload_n hC dX2_placeChoice_36 3 rfl rfl ?_
  refine ga_dup2_11 hC dX2_placeChoice_37 rfl rfl ?_
  obtain ⟨h10, h⟩ := h
  refine ga_iald hC aC_21 (by decide) h10 dX2_placeChoice_38 ?_
  refine ga_iconst (v := 1) hC dX2_placeChoice_39 (by decide) ?_
  refine ga_iadd hC dX2_placeChoice_40 ?_
  obtain ⟨h11, h⟩ := h
  refine ga_iast hC aC_21 (by decide) h11 dX2_placeChoice_41 ?_
  refine ga_sig (σ := cg_i s9 21 v1.toNatClampNeg ((s9.1 21 v1.toNatClampNeg) + 1)) (fun s12 es12 => ?_)
  have h := h s12 es12
  refine ga_aload_n hC dX2_placeChoice_42 2 rfl rfl ?_
  refine ga_dup hC dX2_placeChoice_43 rfl ?_
  refine gC_1_6 hC q_1_66 dX2_placeChoice_44 ?_
  refine ga_iconst (v := 1) hC dX2_placeChoice_47 (by decide) ?_
  refine ga_iadd hC dX2_placeChoice_48 ?_
  refine pC_1_6 hC q_1_66 dX2_placeChoice_49 ?_
  refine ga_sig (σ := cg_i s12 1 6 ((s12.1 1 6) + 1)) (fun s13 es13 => ?_)
  have h := h s13 es13
  refine ga_iload hC dX2_placeChoice_52 1 rfl ?_
  exact ga_iret hC dX2_placeChoice_54 ⟨_, rfl, h⟩
def M_X2_placeWeight (v1 : Int32) (v2 : Int32) (v3 : Int32) (σ : cg_S) (Q : Int32 → cg_S → Prop) : Prop := cg_M cg_WC yX2_placeWeight cX2_placeWeight 4 (some .int) (cg_R 0) (fun ad => [.ref (ad 1), .int v1, .int v2, .int v3]) σ (cg_qi Q)
theorem M_X2_placeWeight.mono {v1 : Int32} {v2 : Int32} {v3 : Int32} {σ : cg_S} {Q Q2 : Int32 → cg_S → Prop} (h : M_X2_placeWeight v1 v2 v3 σ Q) (hq : ∀ r τ, Q r τ → Q2 r τ) : M_X2_placeWeight v1 v2 v3 σ Q2 := cg_M.mono h (fun ad v τ ⟨r, e, q⟩ => ⟨r, e, hq r τ q⟩)
set_option maxRecDepth 100000 in
set_option maxHeartbeats 4000000 in
theorem v_X2_placeWeight {v1 : Int32} {v2 : Int32} {v3 : Int32} {σ : cg_S} {Q : Int32 → cg_S → Prop}
    (h : vp_in v1 21 ∧ vp_in v2 7 ∧ vp_in v2 7 ∧ ∀ s4 : cg_S, s4 = cg_i σ (36 + v1.toNatClampNeg) v2.toNatClampNeg ((σ.1 (36 + v1.toNatClampNeg) v2.toNatClampNeg) + v3) → vp_in v1 21 ∧ vp_in v1 21 ∧ ∀ s7 : cg_S, s7 = cg_i s4 24 v1.toNatClampNeg ((s4.1 24 v1.toNatClampNeg) + v3) → vp_in v1 21 ∧ vp_in v1 21 ∧ ∀ s10 : cg_S, s10 = cg_i s7 25 v1.toNatClampNeg ((s7.1 25 v1.toNatClampNeg) ||| (1 <<< (v2 &&& 31))) → ∀ s11 : cg_S, s11 = cg_i s10 1 6 ((s10.1 1 6) + 1) → vp_in v1 21 ∧ Q (s11.1 24 v1.toNatClampNeg) s11) : M_X2_placeWeight v1 v2 v3 σ Q := by
  refine cg_entry (lv := fun ad => [(0, .ref (ad 1)), (1, .int v1), (2, .int v2), (3, .int v3)]) (by decide +kernel) (fun _ => rfl) (fun _ => Nat.le_of_ble_eq_true rfl) ?_
  intro p l e s m args below meth c D cy ad hC
  refine ga_aload_n hC dX2_placeWeight_0 0 rfl rfl ?_
  refine gC_1_14 hC q_1_99 dX2_placeWeight_1 ?_
  refine ga_iload_n hC dX2_placeWeight_4 1 rfl rfl ?_
  obtain ⟨h1, h⟩ := h
  refine ga_aald4 (b := 36) hC rfl (fun j hj => if_pos hj) (by decide) h1 dX2_placeWeight_5 ?_
  refine ga_iload_n hC dX2_placeWeight_6 2 rfl rfl ?_
  refine ga_dup2_11 hC dX2_placeWeight_7 rfl rfl ?_
  obtain ⟨h2, h⟩ := h
  refine ga_iald hC (aC_w (cg_lt h1)) (show 36 + _ < 88 by have := (cg_lt h1); omega) h2 dX2_placeWeight_8 ?_
  refine ga_iload_n hC dX2_placeWeight_9 3 rfl rfl ?_
  refine ga_iadd hC dX2_placeWeight_10 ?_
  obtain ⟨h3, h⟩ := h
  refine ga_iast hC (aC_w (cg_lt h1)) (show 36 + _ < 88 by have := (cg_lt h1); omega) h3 dX2_placeWeight_11 ?_
  refine ga_sig (σ := cg_i σ (36 + v1.toNatClampNeg) v2.toNatClampNeg ((σ.1 (36 + v1.toNatClampNeg) v2.toNatClampNeg) + v3)) (fun s4 es4 => ?_)
  have h := h s4 es4
  refine ga_aload_n hC dX2_placeWeight_12 0 rfl rfl ?_
  refine gC_1_12 hC q_1_88 dX2_placeWeight_13 ?_
  refine ga_iload_n hC dX2_placeWeight_16 1 rfl rfl ?_
  refine ga_dup2_11 hC dX2_placeWeight_17 rfl rfl ?_
  obtain ⟨h5, h⟩ := h
  refine ga_iald hC aC_24 (by decide) h5 dX2_placeWeight_18 ?_
  refine ga_iload_n hC dX2_placeWeight_19 3 rfl rfl ?_
  refine ga_iadd hC dX2_placeWeight_20 ?_
  obtain ⟨h6, h⟩ := h
  refine ga_iast hC aC_24 (by decide) h6 dX2_placeWeight_21 ?_
  refine ga_sig (σ := cg_i s4 24 v1.toNatClampNeg ((s4.1 24 v1.toNatClampNeg) + v3)) (fun s7 es7 => ?_)
  have h := h s7 es7
  refine ga_aload_n hC dX2_placeWeight_22 0 rfl rfl ?_
  refine gC_1_13 hC q_1_96 dX2_placeWeight_23 ?_
  refine ga_iload_n hC dX2_placeWeight_26 1 rfl rfl ?_
  refine ga_dup2_11 hC dX2_placeWeight_27 rfl rfl ?_
  obtain ⟨h8, h⟩ := h
  refine ga_iald hC aC_25 (by decide) h8 dX2_placeWeight_28 ?_
  refine ga_iconst (v := 1) hC dX2_placeWeight_29 (by decide) ?_
  refine ga_iload_n hC dX2_placeWeight_30 2 rfl rfl ?_
  refine ga_ishl hC dX2_placeWeight_31 ?_
  refine ga_ior hC dX2_placeWeight_32 ?_
  obtain ⟨h9, h⟩ := h
  refine ga_iast hC aC_25 (by decide) h9 dX2_placeWeight_33 ?_
  refine ga_sig (σ := cg_i s7 25 v1.toNatClampNeg ((s7.1 25 v1.toNatClampNeg) ||| (1 <<< (v2 &&& 31)))) (fun s10 es10 => ?_)
  have h := h s10 es10
  refine ga_aload_n hC dX2_placeWeight_34 0 rfl rfl ?_
  refine ga_dup hC dX2_placeWeight_35 rfl ?_
  refine gC_1_6 hC q_1_66 dX2_placeWeight_36 ?_
  refine ga_iconst (v := 1) hC dX2_placeWeight_39 (by decide) ?_
  refine ga_iadd hC dX2_placeWeight_40 ?_
  refine pC_1_6 hC q_1_66 dX2_placeWeight_41 ?_
  refine ga_sig (σ := cg_i s10 1 6 ((s10.1 1 6) + 1)) (fun s11 es11 => ?_)
  have h := h s11 es11
  refine ga_aload_n hC dX2_placeWeight_44 0 rfl rfl ?_
  refine gC_1_12 hC q_1_88 dX2_placeWeight_45 ?_
  refine ga_iload_n hC dX2_placeWeight_48 1 rfl rfl ?_
  obtain ⟨h12, h⟩ := h
  refine ga_iald hC aC_24 (by decide) h12 dX2_placeWeight_49 ?_
  exact ga_iret hC dX2_placeWeight_50 ⟨_, rfl, h⟩
def M_X2_mark (v1 : Int32) (v2 : Int32) (σ : cg_S) (Q : Int32 → cg_S → Prop) : Prop := cg_M cg_WC yX2_mark cX2_mark 4 (some .boolean) (cg_R 2) (fun ad => [.ref (ad 1), .int v1, .int v2]) σ (cg_qi Q)
theorem M_X2_mark.mono {v1 : Int32} {v2 : Int32} {σ : cg_S} {Q Q2 : Int32 → cg_S → Prop} (h : M_X2_mark v1 v2 σ Q) (hq : ∀ r τ, Q r τ → Q2 r τ) : M_X2_mark v1 v2 σ Q2 := cg_M.mono h (fun ad v τ ⟨r, e, q⟩ => ⟨r, e, hq r τ q⟩)
def L_X2_mark_39 (v3 : Int32) (σ : cg_S) (Q : Int32 → cg_S → Prop) : Prop := cg_L cg_WC RX2 cX2_mark 4 (some .boolean) (cg_R 2) 39 (fun ad => [(0, .ref (ad 1)), (3, .int v3)]) (fun ad => []) σ (cg_qi Q)
set_option maxRecDepth 100000 in
set_option maxHeartbeats 4000000 in
theorem v_X2_mark_39 {v3 : Int32} {σ : cg_S} {Q : Int32 → cg_S → Prop}
    (h : ∀ s1 : cg_S, s1 = cg_i σ 1 6 ((σ.1 1 6) + 1) → (v3 = 0 ∨ v3 = 1) ∧ Q v3 s1) : L_X2_mark_39 v3 σ Q := by
  intro p l e s m args below meth c D cy ad hC
  refine ga_aload_n hC dX2_mark_39 0 rfl rfl ?_
  refine ga_dup hC dX2_mark_40 rfl ?_
  refine gC_1_6 hC q_1_66 dX2_mark_41 ?_
  refine ga_iconst (v := 1) hC dX2_mark_44 (by decide) ?_
  refine ga_iadd hC dX2_mark_45 ?_
  refine pC_1_6 hC q_1_66 dX2_mark_46 ?_
  refine ga_sig (σ := cg_i σ 1 6 ((σ.1 1 6) + 1)) (fun s1 es1 => ?_)
  have h := h s1 es1
  refine ga_iload_n hC dX2_mark_49 1 rfl rfl ?_
  exact ga_zret hC dX2_mark_50 h.1 ⟨_, rfl, h.2⟩
set_option maxRecDepth 100000 in
set_option maxHeartbeats 4000000 in
theorem v_X2_mark {v1 : Int32} {v2 : Int32} {σ : cg_S} {Q : Int32 → cg_S → Prop}
    (h : M_X2_isTarget v1 σ (fun r1 s2 => (v2 = 0 → ∀ s4 : cg_S, s4 = cg_i s2 1 1 ((s2.1 1 1) &&& ((1 <<< (v1 &&& 31)) ^^^ (-1))) → L_X2_mark_39 r1 s4 Q) ∧ (¬ v2 = 0 → ∀ s5 : cg_S, s5 = cg_i s2 1 1 ((s2.1 1 1) ||| (1 <<< (v1 &&& 31))) → L_X2_mark_39 r1 s5 Q))) : M_X2_mark v1 v2 σ Q := by
  refine cg_entry (lv := fun ad => [(0, .ref (ad 1)), (1, .int v1), (2, .int v2)]) (by decide +kernel) (fun _ => rfl) (fun _ => Nat.le_of_ble_eq_true rfl) ?_
  intro p l e s m args below meth c D cy ad hC
  refine ga_aload_n hC dX2_mark_0 0 rfl rfl ?_
  refine ga_iload_n hC dX2_mark_1 1 rfl rfl ?_
  refine ga_callV (As := [.int v1]) (st := []) (k := 1) (n := 1) hC h q_4_76 q_2_184 q_2_185 q_1_2 q_2_186 rfl rfl rfl (by decide +kernel) ⟨Nat.le_of_ble_eq_true rfl, Nat.le_of_ble_eq_true rfl⟩ ⟨Nat.le_of_ble_eq_true rfl, Nat.le_of_ble_eq_true rfl⟩ rfl rfl rfl (by decide) rfl (Nat.le_of_ble_eq_true rfl) dX2_mark_2 (fun v τ hq => ?_)
  obtain ⟨r1, rfl, h⟩ := hq
  obtain ⟨s2, es2⟩ : ∃ z, z = τ := ⟨_, rfl⟩
  rw [← es2] at h ⊢
  clear es2
  refine ga_istore_n (lv' := [(3, .int r1), (0, .ref (ad 1)), (1, .int v1), (2, .int v2)]) hC dX2_mark_5 rfl (by decide) rfl ?_
  refine ga_iload_n hC dX2_mark_6 3 rfl rfl ?_
  refine ga_if_eq (tgt := 25) hC dX2_mark_7 (by decide) (fun hc => ?_) (fun hc => ?_)
  · have h := h.1 hc
    refine ga_aload_n hC dX2_mark_25 1 rfl rfl ?_
    refine ga_dup hC dX2_mark_26 rfl ?_
    refine gC_1_1 hC q_1_58 dX2_mark_27 ?_
    refine ga_iconst (v := 1) hC dX2_mark_30 (by decide) ?_
    refine ga_iload_n hC dX2_mark_31 2 rfl rfl ?_
    refine ga_ishl hC dX2_mark_32 ?_
    refine ga_iconst (v := (-1)) hC dX2_mark_33 (by decide) ?_
    refine ga_ixor hC dX2_mark_34 ?_
    refine ga_iand hC dX2_mark_35 ?_
    refine pC_1_1 hC q_1_58 dX2_mark_36 ?_
    refine ga_sig (σ := cg_i s2 1 1 ((s2.1 1 1) &&& ((1 <<< (v1 &&& 31)) ^^^ (-1)))) (fun s4 es4 => ?_)
    have h := h s4 es4
    refine ga_locals [1, 0] rfl ?_
    exact h p l e s m args below meth c D cy ad hC
  · have h := h.2 hc
    refine ga_aload_n hC dX2_mark_10 1 rfl rfl ?_
    refine ga_dup hC dX2_mark_11 rfl ?_
    refine gC_1_1 hC q_1_58 dX2_mark_12 ?_
    refine ga_iconst (v := 1) hC dX2_mark_15 (by decide) ?_
    refine ga_iload_n hC dX2_mark_16 2 rfl rfl ?_
    refine ga_ishl hC dX2_mark_17 ?_
    refine ga_ior hC dX2_mark_18 ?_
    refine pC_1_1 hC q_1_58 dX2_mark_19 ?_
    refine ga_sig (σ := cg_i s2 1 1 ((s2.1 1 1) ||| (1 <<< (v1 &&& 31)))) (fun s5 es5 => ?_)
    have h := h s5 es5
    refine ga_goto (tgt := 39) hC dX2_mark_22 (by decide) ?_
    refine ga_locals [1, 0] rfl ?_
    exact h p l e s m args below meth c D cy ad hC
def M_X2_changeDiscount (v1 : Int32) (v2 : Int32) (σ : cg_S) (Q : Int32 → cg_S → Prop) : Prop := cg_M cg_WC yX2_changeDiscount cX2_changeDiscount 4 (some .int) (cg_R 0) (fun ad => [.ref (ad 1), .int v1, .int v2]) σ (cg_qi Q)
theorem M_X2_changeDiscount.mono {v1 : Int32} {v2 : Int32} {σ : cg_S} {Q Q2 : Int32 → cg_S → Prop} (h : M_X2_changeDiscount v1 v2 σ Q) (hq : ∀ r τ, Q r τ → Q2 r τ) : M_X2_changeDiscount v1 v2 σ Q2 := cg_M.mono h (fun ad v τ ⟨r, e, q⟩ => ⟨r, e, hq r τ q⟩)
set_option maxRecDepth 100000 in
set_option maxHeartbeats 4000000 in
theorem v_X2_changeDiscount {v1 : Int32} {v2 : Int32} {σ : cg_S} {Q : Int32 → cg_S → Prop}
    (h : ∀ x1 : Int32, x1 = (10 * (σ.1 1 2)) + (σ.1 1 3) → ∀ s2 : cg_S, s2 = cg_i σ 1 2 v1 → ∀ s3 : cg_S, s3 = cg_i s2 1 3 v2 → ∀ s4 : cg_S, s4 = cg_i s3 1 6 ((s3.1 1 6) + 1) → Q x1 s4) : M_X2_changeDiscount v1 v2 σ Q := by
  refine cg_entry (lv := fun ad => [(0, .ref (ad 1)), (1, .int v1), (2, .int v2)]) (by decide +kernel) (fun _ => rfl) (fun _ => Nat.le_of_ble_eq_true rfl) ?_
  intro p l e s m args below meth c D cy ad hC
  refine ga_bipush (v := 10) hC dX2_changeDiscount_0 (by decide) ?_
  refine ga_aload_n hC dX2_changeDiscount_2 0 rfl rfl ?_
  refine gC_1_2 hC q_1_59 dX2_changeDiscount_3 ?_
  refine ga_imul hC dX2_changeDiscount_6 ?_
  refine ga_aload_n hC dX2_changeDiscount_7 0 rfl rfl ?_
  refine gC_1_3 hC q_1_61 dX2_changeDiscount_8 ?_
  refine ga_iadd hC dX2_changeDiscount_11 ?_
  refine ga_topi (fun x1 ex1 => ?_)
  have h := h x1 ex1
  refine ga_istore_n (lv' := [(3, .int x1), (0, .ref (ad 1)), (1, .int v1), (2, .int v2)]) hC dX2_changeDiscount_12 rfl (by decide) rfl ?_
  refine ga_aload_n hC dX2_changeDiscount_13 1 rfl rfl ?_
  refine ga_iload_n hC dX2_changeDiscount_14 2 rfl rfl ?_
  refine pC_1_2 hC q_1_59 dX2_changeDiscount_15 ?_
  refine ga_sig (σ := cg_i σ 1 2 v1) (fun s2 es2 => ?_)
  have h := h s2 es2
  refine ga_aload_n hC dX2_changeDiscount_18 1 rfl rfl ?_
  refine ga_iload_n hC dX2_changeDiscount_19 3 rfl rfl ?_
  refine pC_1_3 hC q_1_61 dX2_changeDiscount_20 ?_
  refine ga_sig (σ := cg_i s2 1 3 v2) (fun s3 es3 => ?_)
  have h := h s3 es3
  refine ga_aload_n hC dX2_changeDiscount_23 1 rfl rfl ?_
  refine ga_dup hC dX2_changeDiscount_24 rfl ?_
  refine gC_1_6 hC q_1_66 dX2_changeDiscount_25 ?_
  refine ga_iconst (v := 1) hC dX2_changeDiscount_28 (by decide) ?_
  refine ga_iadd hC dX2_changeDiscount_29 ?_
  refine pC_1_6 hC q_1_66 dX2_changeDiscount_30 ?_
  refine ga_sig (σ := cg_i s3 1 6 ((s3.1 1 6) + 1)) (fun s4 es4 => ?_)
  have h := h s4 es4
  refine ga_iload_n hC dX2_changeDiscount_33 0 rfl rfl ?_
  exact ga_iret hC dX2_changeDiscount_34 ⟨_, rfl, h⟩
def M_X2_changeWeights (v1 : Int32) (v2 : Int32) (σ : cg_S) (Q : Int32 → cg_S → Prop) : Prop := cg_M cg_WC yX2_changeWeights cX2_changeWeights 4 (some .int) (cg_R 0) (fun ad => [.ref (ad 1), .int v1, .int v2]) σ (cg_qi Q)
theorem M_X2_changeWeights.mono {v1 : Int32} {v2 : Int32} {σ : cg_S} {Q Q2 : Int32 → cg_S → Prop} (h : M_X2_changeWeights v1 v2 σ Q) (hq : ∀ r τ, Q r τ → Q2 r τ) : M_X2_changeWeights v1 v2 σ Q2 := cg_M.mono h (fun ad v τ ⟨r, e, q⟩ => ⟨r, e, hq r τ q⟩)
set_option maxRecDepth 100000 in
set_option maxHeartbeats 4000000 in
theorem v_X2_changeWeights {v1 : Int32} {v2 : Int32} {σ : cg_S} {Q : Int32 → cg_S → Prop}
    (h : ∀ x1 : Int32, x1 = (10 * (σ.1 1 4)) + (σ.1 1 5) → ∀ s2 : cg_S, s2 = cg_i σ 1 4 v1 → ∀ s3 : cg_S, s3 = cg_i s2 1 5 v2 → ∀ s4 : cg_S, s4 = cg_i s3 1 6 ((s3.1 1 6) + 1) → Q x1 s4) : M_X2_changeWeights v1 v2 σ Q := by
  refine cg_entry (lv := fun ad => [(0, .ref (ad 1)), (1, .int v1), (2, .int v2)]) (by decide +kernel) (fun _ => rfl) (fun _ => Nat.le_of_ble_eq_true rfl) ?_
  intro p l e s m args below meth c D cy ad hC
  refine ga_bipush (v := 10) hC dX2_changeWeights_0 (by decide) ?_
  refine ga_aload_n hC dX2_changeWeights_2 0 rfl rfl ?_
  refine gC_1_4 hC q_1_63 dX2_changeWeights_3 ?_
  refine ga_imul hC dX2_changeWeights_6 ?_
  refine ga_aload_n hC dX2_changeWeights_7 0 rfl rfl ?_
  refine gC_1_5 hC q_1_64 dX2_changeWeights_8 ?_
  refine ga_iadd hC dX2_changeWeights_11 ?_
  refine ga_topi (fun x1 ex1 => ?_)
  have h := h x1 ex1
  refine ga_istore_n (lv' := [(3, .int x1), (0, .ref (ad 1)), (1, .int v1), (2, .int v2)]) hC dX2_changeWeights_12 rfl (by decide) rfl ?_
  refine ga_aload_n hC dX2_changeWeights_13 1 rfl rfl ?_
  refine ga_iload_n hC dX2_changeWeights_14 2 rfl rfl ?_
  refine pC_1_4 hC q_1_63 dX2_changeWeights_15 ?_
  refine ga_sig (σ := cg_i σ 1 4 v1) (fun s2 es2 => ?_)
  have h := h s2 es2
  refine ga_aload_n hC dX2_changeWeights_18 1 rfl rfl ?_
  refine ga_iload_n hC dX2_changeWeights_19 3 rfl rfl ?_
  refine pC_1_5 hC q_1_64 dX2_changeWeights_20 ?_
  refine ga_sig (σ := cg_i s2 1 5 v2) (fun s3 es3 => ?_)
  have h := h s3 es3
  refine ga_aload_n hC dX2_changeWeights_23 1 rfl rfl ?_
  refine ga_dup hC dX2_changeWeights_24 rfl ?_
  refine gC_1_6 hC q_1_66 dX2_changeWeights_25 ?_
  refine ga_iconst (v := 1) hC dX2_changeWeights_28 (by decide) ?_
  refine ga_iadd hC dX2_changeWeights_29 ?_
  refine pC_1_6 hC q_1_66 dX2_changeWeights_30 ?_
  refine ga_sig (σ := cg_i s3 1 6 ((s3.1 1 6) + 1)) (fun s4 es4 => ?_)
  have h := h s4 es4
  refine ga_iload_n hC dX2_changeWeights_33 0 rfl rfl ?_
  exact ga_iret hC dX2_changeWeights_34 ⟨_, rfl, h⟩
def M_X10_put (v0 : Nat) (v1 : Int32) (v2 : Int64) (v4 : Int64) (σ : cg_S) (Q : cg_S → Prop) : Prop := cg_M cg_WC yX10_put cX10_put 6 none (cg_R 0) (fun ad => [.ref (ad v0), .int v1, .long v2, .long v4]) σ (cg_qv Q)
theorem M_X10_put.mono {v0 : Nat} {v1 : Int32} {v2 : Int64} {v4 : Int64} {σ : cg_S} {Q Q2 : cg_S → Prop} (h : M_X10_put v0 v1 v2 v4 σ Q) (hq : ∀ τ, Q τ → Q2 τ) : M_X10_put v0 v1 v2 v4 σ Q2 := cg_M.mono h (fun ad v τ ⟨e, q⟩ => ⟨e, hq τ q⟩)
set_option maxRecDepth 100000 in
set_option maxHeartbeats 4000000 in
theorem v_X10_put {v0 : Nat} {v1 : Int32} {v2 : Int64} {v4 : Int64} {σ : cg_S} {Q : cg_S → Prop} (h_v0 : 11 ≤ v0 ∧ v0 ≤ 18)
    (h : vp_in v1 7 ∧ ∀ s2 : cg_S, s2 = cg_l σ (v0 + 56) v1.toNatClampNeg v2 → vp_in v1 7 ∧ ∀ s4 : cg_S, s4 = cg_l s2 (v0 + 64) v1.toNatClampNeg v4 → Q s4) : M_X10_put v0 v1 v2 v4 σ Q := by
  refine cg_entry (lv := fun ad => [(0, .ref (ad v0)), (1, .int v1), (2, .long v2), (4, .long v4)]) (by decide +kernel) (fun _ => rfl) (fun _ => Nat.le_of_ble_eq_true rfl) ?_
  intro p l e s m args below meth c D cy ad hC
  refine ga_aload_n hC dX10_put_0 0 rfl rfl ?_
  refine gC_v_0 h_v0 hC q_2_6 dX10_put_1 ?_
  refine ga_iload_n hC dX10_put_4 1 rfl rfl ?_
  refine ga_lload_n hC dX10_put_5 2 rfl rfl ?_
  obtain ⟨h1, h⟩ := h
  refine ga_last hC (aC_vu h_v0) (show _ + 56 < 88 by have := h_v0; omega) h1 dX10_put_6 ?_
  refine ga_sig (σ := cg_l σ (v0 + 56) v1.toNatClampNeg v2) (fun s2 es2 => ?_)
  have h := h s2 es2
  refine ga_aload_n hC dX10_put_7 0 rfl rfl ?_
  refine gC_v_1 h_v0 hC q_2_11 dX10_put_8 ?_
  refine ga_iload_n hC dX10_put_11 1 rfl rfl ?_
  refine ga_lload hC dX10_put_12 3 rfl ?_
  obtain ⟨h3, h⟩ := h
  refine ga_last hC (aC_vd h_v0) (show _ + 64 < 88 by have := h_v0; omega) h3 dX10_put_14 ?_
  refine ga_sig (σ := cg_l s2 (v0 + 64) v1.toNatClampNeg v4) (fun s4 es4 => ?_)
  have h := h s4 es4
  exact ga_vret hC dX10_put_15 ⟨rfl, h⟩
def M_X1_fix (v1 : Int32) (v2 : Int64) (σ : cg_S) (Q : cg_S → Prop) : Prop := cg_M cg_WC yX1_fix cX1_fix 6 none (cg_R 0) (fun ad => [.ref (ad 4), .int v1, .long v2]) σ (cg_qv Q)
theorem M_X1_fix.mono {v1 : Int32} {v2 : Int64} {σ : cg_S} {Q Q2 : cg_S → Prop} (h : M_X1_fix v1 v2 σ Q) (hq : ∀ τ, Q τ → Q2 τ) : M_X1_fix v1 v2 σ Q2 := cg_M.mono h (fun ad v τ ⟨e, q⟩ => ⟨e, hq τ q⟩)
def L_X1_fix_11 (v1 : Int32) (v2 : Int64) (v4 : Nat) (v5 : Int32) (σ : cg_S) (Q : cg_S → Prop) : Prop := cg_L cg_WC RX1 cX1_fix 6 none (cg_R 0) 11 (fun ad => [(1, .int v1), (2, .long v2), (4, .ref (ad (60 + v4))), (5, .int v5)]) (fun ad => []) σ (cg_qv Q)
set_option maxRecDepth 100000 in
set_option maxHeartbeats 4000000 in
theorem v_X1_fix_11 {v1 : Int32} {v2 : Int64} {v4 : Nat} {v5 : Int32} {σ : cg_S} {Q : cg_S → Prop} (h_v4 : v4 < 7)
    (h : (7 ≤ v5 → vp_in v1 8 ∧ ∀ s2 : cg_S, s2 = cg_l σ (60 + v4) v1.toNatClampNeg 1 → ∀ s4 : cg_S, s4 = cg_l s2 (60 + v4) 7 v2 → Q s4) ∧ (¬ 7 ≤ v5 → vp_in v5 8 ∧ ∀ s6 : cg_S, s6 = cg_l σ (60 + v4) v5.toNatClampNeg 0 → L_X1_fix_11 v1 v2 v4 (v5 + 1) s6 Q)) : L_X1_fix_11 v1 v2 v4 v5 σ Q := by
  intro p l e s m args below meth c D cy ad hC
  refine ga_iload hC dX1_fix_11 3 rfl ?_
  refine ga_bipush (v := 7) hC dX1_fix_13 (by decide) ?_
  refine ga_icmp_ge (tgt := 30) hC dX1_fix_15 (by decide) (fun hc => ?_) (fun hc => ?_)
  · have h := h.1 hc
    refine ga_aload hC dX1_fix_30 2 rfl ?_
    refine ga_iload_n hC dX1_fix_32 0 rfl rfl ?_
    refine ga_lconst (v := 1) hC dX1_fix_33 (by decide) ?_
    obtain ⟨h1, h⟩ := h
    refine ga_last hC (aC_g h_v4) (show 60 + _ < 88 by have := h_v4; omega) h1 dX1_fix_34 ?_
    refine ga_sig (σ := cg_l σ (60 + v4) v1.toNatClampNeg 1) (fun s2 es2 => ?_)
    have h := h s2 es2
    refine ga_aload hC dX1_fix_35 2 rfl ?_
    refine ga_bipush (v := 7) hC dX1_fix_37 (by decide) ?_
    refine ga_lload_n hC dX1_fix_39 1 rfl rfl ?_
    refine ga_last hC (aC_g h_v4) (show 60 + _ < 88 by have := h_v4; omega) (by unfold vp_in; decide) dX1_fix_40 ?_
    refine ga_sig (σ := cg_l s2 (60 + v4) 7 v2) (fun s4 es4 => ?_)
    have h := h s4 es4
    exact ga_vret hC dX1_fix_41 ⟨rfl, h⟩
  · have h := h.2 hc
    refine ga_aload hC dX1_fix_18 2 rfl ?_
    refine ga_iload hC dX1_fix_20 3 rfl ?_
    refine ga_lconst (v := 0) hC dX1_fix_22 (by decide) ?_
    obtain ⟨h5, h⟩ := h
    refine ga_last hC (aC_g h_v4) (show 60 + _ < 88 by have := h_v4; omega) h5 dX1_fix_23 ?_
    refine ga_sig (σ := cg_l σ (60 + v4) v5.toNatClampNeg 0) (fun s6 es6 => ?_)
    have h := h s6 es6
    refine ga_iinc (v := v5 + 1) (lv' := [(5, .int (v5 + 1)), (1, .int v1), (2, .long v2), (4, .ref (ad (60 + v4)))]) hC dX1_fix_24 3 rfl rfl (by decide) rfl ?_
    refine ga_goto (tgt := 11) hC dX1_fix_27 (by decide) ?_
    refine ga_locals [1, 2, 3, 0] rfl ?_
    exact h p l e s m args below meth c D cy ad hC
set_option maxRecDepth 100000 in
set_option maxHeartbeats 4000000 in
theorem v_X1_fix {v1 : Int32} {v2 : Int64} {σ : cg_S} {Q : cg_S → Prop}
    (h : vp_in v1 7 ∧ ∀ n2 : Nat, n2 = v1.toNatClampNeg → L_X1_fix_11 v1 v2 n2 0 σ Q) : M_X1_fix v1 v2 σ Q := by
  refine cg_entry (lv := fun ad => [(0, .ref (ad 4)), (1, .int v1), (2, .long v2)]) (by decide +kernel) (fun _ => rfl) (fun _ => Nat.le_of_ble_eq_true rfl) ?_
  intro p l e s m args below meth c D cy ad hC
  refine ga_aload_n hC dX1_fix_0 0 rfl rfl ?_
  refine gC_4_2 hC q_1_179 dX1_fix_1 ?_
  refine ga_iload_n hC dX1_fix_4 1 rfl rfl ?_
  obtain ⟨h1, h⟩ := h
  refine ga_aald5 (b := 60) hC rfl (fun j hj => if_pos hj) (by decide) h1 dX1_fix_5 ?_
  obtain ⟨n2, en2⟩ : ∃ y : Nat, y = v1.toNatClampNeg := ⟨_, rfl⟩
  have h := h n2 en2
  have hn2 : n2 < 7 := by rw [en2]; exact (cg_lt h1)
  rw [← en2]
  refine ga_astore (lv' := [(4, .ref (ad (60 + n2))), (0, .ref (ad 4)), (1, .int v1), (2, .long v2)]) hC dX1_fix_6 (by decide) rfl ?_
  refine ga_iconst (v := 0) hC dX1_fix_8 (by decide) ?_
  refine ga_istore (lv' := [(5, .int 0), (4, .ref (ad (60 + n2))), (0, .ref (ad 4)), (1, .int v1), (2, .long v2)]) hC dX1_fix_9 (by decide) rfl ?_
  refine ga_locals [3, 4, 1, 0] rfl ?_
  exact h p l e s m args below meth c D cy ad hC
def M_X1_reduce (v1 : Int32) (σ : cg_S) (Q : cg_S → Prop) : Prop := cg_M cg_WC yX1_reduce cX1_reduce 15 none (cg_R 1) (fun ad => [.ref (ad 4), .int v1]) σ (cg_qv Q)
theorem M_X1_reduce.mono {v1 : Int32} {σ : cg_S} {Q Q2 : cg_S → Prop} (h : M_X1_reduce v1 σ Q) (hq : ∀ τ, Q τ → Q2 τ) : M_X1_reduce v1 σ Q2 := cg_M.mono h (fun ad v τ ⟨e, q⟩ => ⟨e, hq τ q⟩)
def L_X1_reduce_20 (v1 : Int32) (v2 : Int32) (v3 : Nat) (v4 : Int64) (v6 : Int32) (σ : cg_S) (Q : cg_S → Prop) : Prop := cg_L cg_WC RX1 cX1_reduce 15 none (cg_R 1) 20 (fun ad => [(0, .ref (ad 4)), (1, .int v1), (2, .int v2), (3, .ref (ad (60 + v3))), (4, .long v4), (6, .int v6)]) (fun ad => []) σ (cg_qv Q)
def L_X1_reduce_63 (v1 : Int32) (v2 : Int32) (v3 : Nat) (v4 : Int64) (v6 : Int32) (v8 : Nat) (v9 : Int64) (v11 : Int64) (v13 : Int32) (σ : cg_S) (Q : cg_S → Prop) : Prop := cg_L cg_WC RX1 cX1_reduce 15 none (cg_R 1) 63 (fun ad => [(0, .ref (ad 4)), (1, .int v1), (2, .int v2), (3, .ref (ad (60 + v3))), (4, .long v4), (6, .int v6), (8, .ref (ad (60 + v8))), (9, .long v9), (11, .long v11), (13, .int v13)]) (fun ad => []) σ (cg_qv Q)
set_option maxRecDepth 100000 in
set_option maxHeartbeats 4000000 in
theorem v_X1_reduce_63 {v1 : Int32} {v2 : Int32} {v3 : Nat} {v4 : Int64} {v6 : Int32} {v8 : Nat} {v9 : Int64} {v11 : Int64} {v13 : Int32} {σ : cg_S} {Q : cg_S → Prop} (h_v3 : v3 < 7) (h_v8 : v8 < 7)
    (h : ((σ.1 4 0) ≤ v13 → M_X11_quotient ((v9 * (σ.2.1 (60 + v3) 7)) - (v11 * (σ.2.1 (60 + v8) 7))) v4 σ (fun r3 s4 => ∀ s7 : cg_S, s7 = cg_l s4 (60 + v3) 7 r3 → L_X1_reduce_20 v1 v2 v3 v9 (v6 + 1) s7 Q)) ∧ (¬ (σ.1 4 0) ≤ v13 → vp_in v13 7 ∧ ∀ x9 : Int32, x9 = σ.1 27 v13.toNatClampNeg → vp_in x9 8 ∧ vp_in x9 8 ∧ M_X11_quotient ((v9 * (σ.2.1 (60 + v3) x9.toNatClampNeg)) - (v11 * (σ.2.1 (60 + v8) x9.toNatClampNeg))) v4 σ (fun r12 s13 => vp_in x9 8 ∧ ∀ s16 : cg_S, s16 = cg_l s13 (60 + v3) x9.toNatClampNeg r12 → L_X1_reduce_63 v1 v2 v3 v4 v6 v8 v9 v11 (v13 + 1) s16 Q))) : L_X1_reduce_63 v1 v2 v3 v4 v6 v8 v9 v11 v13 σ Q := by
  intro p l e s m args below meth c D cy ad hC
  refine ga_iload hC dX1_reduce_63 9 rfl ?_
  refine ga_aload_n hC dX1_reduce_65 0 rfl rfl ?_
  refine gC_4_0 hC q_1_174 dX1_reduce_66 ?_
  refine ga_icmp_ge (tgt := 112) hC dX1_reduce_69 (by decide) (fun hc => ?_) (fun hc => ?_)
  · have h := h.1 hc
    refine ga_aload_n hC dX1_reduce_112 3 rfl rfl ?_
    refine ga_bipush (v := 7) hC dX1_reduce_113 (by decide) ?_
    refine ga_lload hC dX1_reduce_115 7 rfl ?_
    refine ga_aload_n hC dX1_reduce_117 3 rfl rfl ?_
    refine ga_bipush (v := 7) hC dX1_reduce_118 (by decide) ?_
    refine ga_lald hC (aC_g h_v3) (show 60 + _ < 88 by have := h_v3; omega) (by unfold vp_in; decide) dX1_reduce_120 ?_
    refine ga_lmul hC dX1_reduce_121 ?_
    refine ga_lload hC dX1_reduce_122 8 rfl ?_
    refine ga_aload hC dX1_reduce_124 6 rfl ?_
    refine ga_bipush (v := 7) hC dX1_reduce_126 (by decide) ?_
    refine ga_lald hC (aC_g h_v8) (show 60 + _ < 88 by have := h_v8; omega) (by unfold vp_in; decide) dX1_reduce_128 ?_
    refine ga_lmul hC dX1_reduce_129 ?_
    refine ga_lsub hC dX1_reduce_130 ?_
    refine ga_lload hC dX1_reduce_131 4 rfl ?_
    refine ga_callSN (As := [.long ((v9 * (σ.2.1 (60 + v3) 7)) - (v11 * (σ.2.1 (60 + v8) 7))), .long v4]) (st := [.int 7, .ref (ad (60 + v3))]) (n := 2) hC h (by decide +kernel) q_3_36 q_1_1 q_3_37 rfl rfl rfl (by decide +kernel) ⟨Nat.le_of_ble_eq_true rfl, Nat.le_of_ble_eq_true rfl⟩ ⟨Nat.le_of_ble_eq_true rfl, Nat.le_of_ble_eq_true rfl⟩ rfl rfl (Nat.le_of_ble_eq_true rfl) dX1_reduce_133 (fun v τ hq => ?_)
    obtain ⟨r3, rfl, h⟩ := hq
    obtain ⟨s4, es4⟩ : ∃ z, z = τ := ⟨_, rfl⟩
    rw [← es4] at h ⊢
    clear es4
    refine ga_last hC (aC_g h_v3) (show 60 + _ < 88 by have := h_v3; omega) (by unfold vp_in; decide) dX1_reduce_136 ?_
    refine ga_sig (σ := cg_l s4 (60 + v3) 7 r3) (fun s7 es7 => ?_)
    have h := h s7 es7
    refine ga_lload hC dX1_reduce_137 7 rfl ?_
    refine ga_lstore (lv' := [(4, .long v9), (0, .ref (ad 4)), (1, .int v1), (2, .int v2), (3, .ref (ad (60 + v3))), (6, .int v6), (8, .ref (ad (60 + v8))), (9, .long v9), (11, .long v11), (13, .int v13)]) hC dX1_reduce_139 (by decide) rfl ?_
    refine ga_iinc (v := v6 + 1) (lv' := [(6, .int (v6 + 1)), (4, .long v9), (0, .ref (ad 4)), (1, .int v1), (2, .int v2), (3, .ref (ad (60 + v3))), (8, .ref (ad (60 + v8))), (9, .long v9), (11, .long v11), (13, .int v13)]) hC dX1_reduce_141 5 rfl rfl (by decide) rfl ?_
    refine ga_goto (tgt := 20) hC dX1_reduce_144 (by decide) ?_
    refine ga_locals [2, 3, 4, 5, 1, 0] rfl ?_
    exact h p l e s m args below meth c D cy ad hC
  · have h := h.2 hc
    refine ga_aload_n hC dX1_reduce_72 0 rfl rfl ?_
    refine gC_4_1 hC q_1_176 dX1_reduce_73 ?_
    refine ga_iload hC dX1_reduce_76 9 rfl ?_
    obtain ⟨h8, h⟩ := h
    refine ga_iald hC aC_27 (by decide) h8 dX1_reduce_78 ?_
    refine ga_topi (fun x9 ex9 => ?_)
    have h := h x9 ex9
    refine ga_istore (lv' := [(14, .int x9), (0, .ref (ad 4)), (1, .int v1), (2, .int v2), (3, .ref (ad (60 + v3))), (4, .long v4), (6, .int v6), (8, .ref (ad (60 + v8))), (9, .long v9), (11, .long v11), (13, .int v13)]) hC dX1_reduce_79 (by decide) rfl ?_
    refine ga_aload_n hC dX1_reduce_81 4 rfl rfl ?_
    refine ga_iload hC dX1_reduce_82 0 rfl ?_
    refine ga_lload hC dX1_reduce_84 8 rfl ?_
    refine ga_aload_n hC dX1_reduce_86 4 rfl rfl ?_
    refine ga_iload hC dX1_reduce_87 0 rfl ?_
    obtain ⟨h10, h⟩ := h
    refine ga_lald hC (aC_g h_v3) (show 60 + _ < 88 by have := h_v3; omega) h10 dX1_reduce_89 ?_
    refine ga_lmul hC dX1_reduce_90 ?_
    refine ga_lload hC dX1_reduce_91 9 rfl ?_
    refine ga_aload hC dX1_reduce_93 7 rfl ?_
    refine ga_iload hC dX1_reduce_95 0 rfl ?_
    obtain ⟨h11, h⟩ := h
    refine ga_lald hC (aC_g h_v8) (show 60 + _ < 88 by have := h_v8; omega) h11 dX1_reduce_97 ?_
    refine ga_lmul hC dX1_reduce_98 ?_
    refine ga_lsub hC dX1_reduce_99 ?_
    refine ga_lload hC dX1_reduce_100 5 rfl ?_
    refine ga_callSN (As := [.long ((v9 * (σ.2.1 (60 + v3) x9.toNatClampNeg)) - (v11 * (σ.2.1 (60 + v8) x9.toNatClampNeg))), .long v4]) (st := [.int x9, .ref (ad (60 + v3))]) (n := 2) hC h (by decide +kernel) q_3_36 q_1_1 q_3_37 rfl rfl rfl (by decide +kernel) ⟨Nat.le_of_ble_eq_true rfl, Nat.le_of_ble_eq_true rfl⟩ ⟨Nat.le_of_ble_eq_true rfl, Nat.le_of_ble_eq_true rfl⟩ rfl rfl (Nat.le_of_ble_eq_true rfl) dX1_reduce_102 (fun v τ hq => ?_)
    obtain ⟨r12, rfl, h⟩ := hq
    obtain ⟨s13, es13⟩ : ∃ z, z = τ := ⟨_, rfl⟩
    rw [← es13] at h ⊢
    clear es13
    obtain ⟨h15, h⟩ := h
    refine ga_last hC (aC_g h_v3) (show 60 + _ < 88 by have := h_v3; omega) h15 dX1_reduce_105 ?_
    refine ga_sig (σ := cg_l s13 (60 + v3) x9.toNatClampNeg r12) (fun s16 es16 => ?_)
    have h := h s16 es16
    refine ga_iinc (v := v13 + 1) (lv' := [(13, .int (v13 + 1)), (14, .int x9), (0, .ref (ad 4)), (1, .int v1), (2, .int v2), (3, .ref (ad (60 + v3))), (4, .long v4), (6, .int v6), (8, .ref (ad (60 + v8))), (9, .long v9), (11, .long v11)]) hC dX1_reduce_106 10 rfl rfl (by decide) rfl ?_
    refine ga_goto (tgt := 63) hC dX1_reduce_109 (by decide) ?_
    refine ga_locals [2, 3, 4, 5, 6, 7, 8, 9, 10, 0] rfl ?_
    exact h p l e s m args below meth c D cy ad hC
set_option maxRecDepth 100000 in
set_option maxHeartbeats 4000000 in
theorem v_X1_reduce_20 {v1 : Int32} {v2 : Int32} {v3 : Nat} {v4 : Int64} {v6 : Int32} {σ : cg_S} {Q : cg_S → Prop} (h_v3 : v3 < 7)
    (h : (v1 ≤ v6 → vp_in v2 8 ∧ (¬ (σ.2.1 (60 + v3) v2.toNatClampNeg) = 0 → Q σ) ∧ ((σ.2.1 (60 + v3) v2.toNatClampNeg) = 0 → vp_in v2 8 ∧ ∀ s3 : cg_S, s3 = cg_l σ (60 + v3) v2.toNatClampNeg v4 → Q s3)) ∧ (¬ v1 ≤ v6 → vp_in v6 7 ∧ ∀ x5 : Int32, x5 = σ.1 27 v6.toNatClampNeg → vp_in x5 7 ∧ ∀ n7 : Nat, n7 = x5.toNatClampNeg → vp_in x5 8 ∧ ∀ x9 : Int64, x9 = σ.2.1 (60 + n7) x5.toNatClampNeg → vp_in x5 8 ∧ ∀ x11 : Int64, x11 = σ.2.1 (60 + v3) x5.toNatClampNeg → ∀ x12 : Int32, x12 = v6 + 1 → L_X1_reduce_63 v1 v2 v3 v4 v6 n7 x9 x11 x12 σ Q)) : L_X1_reduce_20 v1 v2 v3 v4 v6 σ Q := by
  intro p l e s m args below meth c D cy ad hC
  refine ga_iload hC dX1_reduce_20 5 rfl ?_
  refine ga_iload_n hC dX1_reduce_22 1 rfl rfl ?_
  refine ga_icmp_ge (tgt := 147) hC dX1_reduce_23 (by decide) (fun hc => ?_) (fun hc => ?_)
  · have h := h.1 hc
    refine ga_aload_n hC dX1_reduce_147 3 rfl rfl ?_
    refine ga_iload_n hC dX1_reduce_148 2 rfl rfl ?_
    obtain ⟨h1, h⟩ := h
    refine ga_lald hC (aC_g h_v3) (show 60 + _ < 88 by have := h_v3; omega) h1 dX1_reduce_149 ?_
    refine ga_lconst (v := 0) hC dX1_reduce_150 (by decide) ?_
    refine ga_lcmp hC dX1_reduce_151 ?_
    refine ga_if_ne (tgt := 160) hC dX1_reduce_152 (by decide) (fun hc => ?_) (fun hc => ?_)
    · have h := h.1 (cg_cmp_ne.1 hc)
      exact ga_vret hC dX1_reduce_160 ⟨rfl, h⟩
    · have h := h.2 (cg_cmp_ne.2 hc)
      refine ga_aload_n hC dX1_reduce_155 3 rfl rfl ?_
      refine ga_iload_n hC dX1_reduce_156 2 rfl rfl ?_
      refine ga_lload hC dX1_reduce_157 4 rfl ?_
      obtain ⟨h2, h⟩ := h
      refine ga_last hC (aC_g h_v3) (show 60 + _ < 88 by have := h_v3; omega) h2 dX1_reduce_159 ?_
      refine ga_sig (σ := cg_l σ (60 + v3) v2.toNatClampNeg v4) (fun s3 es3 => ?_)
      have h := h s3 es3
      exact ga_vret hC dX1_reduce_160 ⟨rfl, h⟩
  · have h := h.2 hc
    refine ga_aload_n hC dX1_reduce_26 0 rfl rfl ?_
    refine gC_4_1 hC q_1_176 dX1_reduce_27 ?_
    refine ga_iload hC dX1_reduce_30 5 rfl ?_
    obtain ⟨h4, h⟩ := h
    refine ga_iald hC aC_27 (by decide) h4 dX1_reduce_32 ?_
    refine ga_topi (fun x5 ex5 => ?_)
    have h := h x5 ex5
    refine ga_istore (lv' := [(7, .int x5), (0, .ref (ad 4)), (1, .int v1), (2, .int v2), (3, .ref (ad (60 + v3))), (4, .long v4), (6, .int v6)]) hC dX1_reduce_33 (by decide) rfl ?_
    refine ga_aload_n hC dX1_reduce_35 1 rfl rfl ?_
    refine gC_4_2 hC q_1_179 dX1_reduce_36 ?_
    refine ga_iload hC dX1_reduce_39 0 rfl ?_
    obtain ⟨h6, h⟩ := h
    refine ga_aald5 (b := 60) hC rfl (fun j hj => if_pos hj) (by decide) h6 dX1_reduce_41 ?_
    obtain ⟨n7, en7⟩ : ∃ y : Nat, y = x5.toNatClampNeg := ⟨_, rfl⟩
    have h := h n7 en7
    have hn7 : n7 < 7 := by rw [en7]; exact (cg_lt h6)
    rw [← en7]
    refine ga_astore (lv' := [(8, .ref (ad (60 + n7))), (7, .int x5), (0, .ref (ad 4)), (1, .int v1), (2, .int v2), (3, .ref (ad (60 + v3))), (4, .long v4), (6, .int v6)]) hC dX1_reduce_42 (by decide) rfl ?_
    refine ga_aload hC dX1_reduce_44 0 rfl ?_
    refine ga_iload hC dX1_reduce_46 1 rfl ?_
    obtain ⟨h8, h⟩ := h
    refine ga_lald hC (aC_g hn7) (show 60 + _ < 88 by have := hn7; omega) h8 dX1_reduce_48 ?_
    refine ga_topl (fun x9 ex9 => ?_)
    have h := h x9 ex9
    refine ga_lstore (lv' := [(9, .long x9), (8, .ref (ad (60 + n7))), (7, .int x5), (0, .ref (ad 4)), (1, .int v1), (2, .int v2), (3, .ref (ad (60 + v3))), (4, .long v4), (6, .int v6)]) hC dX1_reduce_49 (by decide) rfl ?_
    refine ga_aload_n hC dX1_reduce_51 6 rfl rfl ?_
    refine ga_iload hC dX1_reduce_52 2 rfl ?_
    obtain ⟨h10, h⟩ := h
    refine ga_lald hC (aC_g h_v3) (show 60 + _ < 88 by have := h_v3; omega) h10 dX1_reduce_54 ?_
    refine ga_topl (fun x11 ex11 => ?_)
    have h := h x11 ex11
    refine ga_lstore (lv' := [(11, .long x11), (9, .long x9), (8, .ref (ad (60 + n7))), (7, .int x5), (0, .ref (ad 4)), (1, .int v1), (2, .int v2), (3, .ref (ad (60 + v3))), (4, .long v4), (6, .int v6)]) hC dX1_reduce_55 (by decide) rfl ?_
    refine ga_iload hC dX1_reduce_57 9 rfl ?_
    refine ga_iconst (v := 1) hC dX1_reduce_59 (by decide) ?_
    refine ga_iadd hC dX1_reduce_60 ?_
    refine ga_topi (fun x12 ex12 => ?_)
    have h := h x12 ex12
    refine ga_istore (lv' := [(13, .int x12), (11, .long x11), (9, .long x9), (8, .ref (ad (60 + n7))), (7, .int x5), (0, .ref (ad 4)), (1, .int v1), (2, .int v2), (3, .ref (ad (60 + v3))), (4, .long v4), (6, .int v6)]) hC dX1_reduce_61 (by decide) rfl ?_
    refine ga_locals [5, 6, 7, 8, 9, 10, 3, 2, 1, 0] rfl ?_
    exact h p l e s m args below meth c D cy ad hC
set_option maxRecDepth 100000 in
set_option maxHeartbeats 4000000 in
theorem v_X1_reduce {v1 : Int32} {σ : cg_S} {Q : cg_S → Prop}
    (h : vp_in v1 7 ∧ ∀ x2 : Int32, x2 = σ.1 27 v1.toNatClampNeg → vp_in x2 7 ∧ ∀ n4 : Nat, n4 = x2.toNatClampNeg → L_X1_reduce_20 v1 x2 n4 1 0 σ Q) : M_X1_reduce v1 σ Q := by
  refine cg_entry (lv := fun ad => [(0, .ref (ad 4)), (1, .int v1)]) (by decide +kernel) (fun _ => rfl) (fun _ => Nat.le_of_ble_eq_true rfl) ?_
  intro p l e s m args below meth c D cy ad hC
  refine ga_aload_n hC dX1_reduce_0 0 rfl rfl ?_
  refine gC_4_1 hC q_1_176 dX1_reduce_1 ?_
  refine ga_iload_n hC dX1_reduce_4 1 rfl rfl ?_
  obtain ⟨h1, h⟩ := h
  refine ga_iald hC aC_27 (by decide) h1 dX1_reduce_5 ?_
  refine ga_topi (fun x2 ex2 => ?_)
  have h := h x2 ex2
  refine ga_istore_n (lv' := [(2, .int x2), (0, .ref (ad 4)), (1, .int v1)]) hC dX1_reduce_6 rfl (by decide) rfl ?_
  refine ga_aload_n hC dX1_reduce_7 1 rfl rfl ?_
  refine gC_4_2 hC q_1_179 dX1_reduce_8 ?_
  refine ga_iload_n hC dX1_reduce_11 0 rfl rfl ?_
  obtain ⟨h3, h⟩ := h
  refine ga_aald5 (b := 60) hC rfl (fun j hj => if_pos hj) (by decide) h3 dX1_reduce_12 ?_
  obtain ⟨n4, en4⟩ : ∃ y : Nat, y = x2.toNatClampNeg := ⟨_, rfl⟩
  have h := h n4 en4
  have hn4 : n4 < 7 := by rw [en4]; exact (cg_lt h3)
  rw [← en4]
  refine ga_astore_n (lv' := [(3, .ref (ad (60 + n4))), (2, .int x2), (0, .ref (ad 4)), (1, .int v1)]) hC dX1_reduce_13 rfl (by decide) rfl ?_
  refine ga_lconst (v := 1) hC dX1_reduce_14 (by decide) ?_
  refine ga_lstore (lv' := [(4, .long 1), (3, .ref (ad (60 + n4))), (2, .int x2), (0, .ref (ad 4)), (1, .int v1)]) hC dX1_reduce_15 (by decide) rfl ?_
  refine ga_iconst (v := 0) hC dX1_reduce_17 (by decide) ?_
  refine ga_istore (lv' := [(6, .int 0), (4, .long 1), (3, .ref (ad (60 + n4))), (2, .int x2), (0, .ref (ad 4)), (1, .int v1)]) hC dX1_reduce_18 (by decide) rfl ?_
  refine ga_locals [4, 5, 3, 2, 1, 0] rfl ?_
  exact h p l e s m args below meth c D cy ad hC
def M_X1_settle (σ : cg_S) (Q : cg_S → Prop) : Prop := cg_M cg_WC yX1_settle cX1_settle 8 none (cg_R 1) (fun ad => [.ref (ad 4)]) σ (cg_qv Q)
theorem M_X1_settle.mono {σ : cg_S} {Q Q2 : cg_S → Prop} (h : M_X1_settle σ Q) (hq : ∀ τ, Q τ → Q2 τ) : M_X1_settle σ Q2 := cg_M.mono h (fun ad v τ ⟨e, q⟩ => ⟨e, hq τ q⟩)
def L_X1_settle_55 (v2 : Int32) (σ : cg_S) (Q : cg_S → Prop) : Prop := cg_L cg_WC RX1 cX1_settle 8 none (cg_R 1) 55 (fun ad => [(0, .ref (ad 4)), (2, .int v2)]) (fun ad => []) σ (cg_qv Q)
def L_X1_settle_91 (v2 : Int32) (v3 : Int32) (v4 : Nat) (v5 : Int64) (v7 : Int32) (σ : cg_S) (Q : cg_S → Prop) : Prop := cg_L cg_WC RX1 cX1_settle 8 none (cg_R 1) 91 (fun ad => [(0, .ref (ad 4)), (2, .int v2), (3, .int v3), (4, .ref (ad (60 + v4))), (5, .long v5), (7, .int v7)]) (fun ad => []) σ (cg_qv Q)
set_option maxRecDepth 100000 in
set_option maxHeartbeats 4000000 in
theorem v_X1_settle_91 {v2 : Int32} {v3 : Int32} {v4 : Nat} {v5 : Int64} {v7 : Int32} {σ : cg_S} {Q : cg_S → Prop} (h_v4 : v4 < 7)
    (h : ((σ.1 4 0) ≤ v7 → vp_in v3 8 ∧ M_X11_quotient v5 (σ.2.1 (60 + v4) v3.toNatClampNeg) σ (fun r2 s3 => vp_in v3 7 ∧ ∀ s6 : cg_S, s6 = cg_l s3 58 v3.toNatClampNeg r2 → L_X1_settle_55 (v2 + (-1)) s6 Q)) ∧ (¬ (σ.1 4 0) ≤ v7 → vp_in v7 7 ∧ vp_in (σ.1 27 v7.toNatClampNeg) 8 ∧ vp_in v7 7 ∧ vp_in (σ.1 27 v7.toNatClampNeg) 7 ∧ ∀ x11 : Int64, x11 = v5 - ((σ.2.1 (60 + v4) (σ.1 27 v7.toNatClampNeg).toNatClampNeg) * (σ.2.1 58 (σ.1 27 v7.toNatClampNeg).toNatClampNeg)) → L_X1_settle_91 v2 v3 v4 x11 (v7 + 1) σ Q)) : L_X1_settle_91 v2 v3 v4 v5 v7 σ Q := by
  intro p l e s m args below meth c D cy ad hC
  refine ga_iload hC dX1_settle_91 5 rfl ?_
  refine ga_aload_n hC dX1_settle_93 0 rfl rfl ?_
  refine gC_4_0 hC q_1_174 dX1_settle_94 ?_
  refine ga_icmp_ge (tgt := 134) hC dX1_settle_97 (by decide) (fun hc => ?_) (fun hc => ?_)
  · have h := h.1 hc
    refine ga_aload_n hC dX1_settle_134 0 rfl rfl ?_
    refine gC_4_3 hC q_1_182 dX1_settle_135 ?_
    refine ga_iload_n hC dX1_settle_138 2 rfl rfl ?_
    refine ga_lload hC dX1_settle_139 4 rfl ?_
    refine ga_aload hC dX1_settle_141 3 rfl ?_
    refine ga_iload_n hC dX1_settle_143 2 rfl rfl ?_
    obtain ⟨h1, h⟩ := h
    refine ga_lald hC (aC_g h_v4) (show 60 + _ < 88 by have := h_v4; omega) h1 dX1_settle_144 ?_
    refine ga_callSN (As := [.long v5, .long (σ.2.1 (60 + v4) v3.toNatClampNeg)]) (st := [.int v3, .ref (ad 58)]) (n := 2) hC h (by decide +kernel) q_3_36 q_1_1 q_3_37 rfl rfl rfl (by decide +kernel) ⟨Nat.le_of_ble_eq_true rfl, Nat.le_of_ble_eq_true rfl⟩ ⟨Nat.le_of_ble_eq_true rfl, Nat.le_of_ble_eq_true rfl⟩ rfl rfl (Nat.le_of_ble_eq_true rfl) dX1_settle_145 (fun v τ hq => ?_)
    obtain ⟨r2, rfl, h⟩ := hq
    obtain ⟨s3, es3⟩ : ∃ z, z = τ := ⟨_, rfl⟩
    rw [← es3] at h ⊢
    clear es3
    obtain ⟨h5, h⟩ := h
    refine ga_last hC aC_58 (by decide) h5 dX1_settle_148 ?_
    refine ga_sig (σ := cg_l s3 58 v3.toNatClampNeg r2) (fun s6 es6 => ?_)
    have h := h s6 es6
    refine ga_iinc (v := v2 + (-1)) (lv' := [(2, .int (v2 + (-1))), (0, .ref (ad 4)), (3, .int v3), (4, .ref (ad (60 + v4))), (5, .long v5), (7, .int v7)]) hC dX1_settle_149 1 rfl rfl (by decide) rfl ?_
    refine ga_goto (tgt := 55) hC dX1_settle_152 (by decide) ?_
    refine ga_locals [1, 0] rfl ?_
    exact h p l e s m args below meth c D cy ad hC
  · have h := h.2 hc
    refine ga_lload hC dX1_settle_100 4 rfl ?_
    refine ga_aload hC dX1_settle_102 3 rfl ?_
    refine ga_aload_n hC dX1_settle_104 0 rfl rfl ?_
    refine gC_4_1 hC q_1_176 dX1_settle_105 ?_
    refine ga_iload hC dX1_settle_108 5 rfl ?_
    obtain ⟨h7, h⟩ := h
    refine ga_iald hC aC_27 (by decide) h7 dX1_settle_110 ?_
    obtain ⟨h8, h⟩ := h
    refine ga_lald hC (aC_g h_v4) (show 60 + _ < 88 by have := h_v4; omega) h8 dX1_settle_111 ?_
    refine ga_aload_n hC dX1_settle_112 0 rfl rfl ?_
    refine gC_4_3 hC q_1_182 dX1_settle_113 ?_
    refine ga_aload_n hC dX1_settle_116 0 rfl rfl ?_
    refine gC_4_1 hC q_1_176 dX1_settle_117 ?_
    refine ga_iload hC dX1_settle_120 5 rfl ?_
    obtain ⟨h9, h⟩ := h
    refine ga_iald hC aC_27 (by decide) h9 dX1_settle_122 ?_
    obtain ⟨h10, h⟩ := h
    refine ga_lald hC aC_58 (by decide) h10 dX1_settle_123 ?_
    refine ga_lmul hC dX1_settle_124 ?_
    refine ga_lsub hC dX1_settle_125 ?_
    refine ga_topl (fun x11 ex11 => ?_)
    have h := h x11 ex11
    refine ga_lstore (lv' := [(5, .long x11), (0, .ref (ad 4)), (2, .int v2), (3, .int v3), (4, .ref (ad (60 + v4))), (7, .int v7)]) hC dX1_settle_126 (by decide) rfl ?_
    refine ga_iinc (v := v7 + 1) (lv' := [(7, .int (v7 + 1)), (5, .long x11), (0, .ref (ad 4)), (2, .int v2), (3, .int v3), (4, .ref (ad (60 + v4)))]) hC dX1_settle_128 5 rfl rfl (by decide) rfl ?_
    refine ga_goto (tgt := 91) hC dX1_settle_131 (by decide) ?_
    refine ga_locals [2, 3, 4, 5, 1, 0] rfl ?_
    exact h p l e s m args below meth c D cy ad hC
set_option maxRecDepth 100000 in
set_option maxHeartbeats 4000000 in
theorem v_X1_settle_55 {v2 : Int32} {σ : cg_S} {Q : cg_S → Prop}
    (h : (v2 < 0 → Q σ) ∧ (¬ v2 < 0 → vp_in v2 7 ∧ ∀ x2 : Int32, x2 = σ.1 27 v2.toNatClampNeg → vp_in x2 7 ∧ ∀ n4 : Nat, n4 = x2.toNatClampNeg → ∀ x6 : Int64, x6 = (σ.2.1 4 4) * (σ.2.1 (60 + n4) 7) → ∀ x7 : Int32, x7 = v2 + 1 → L_X1_settle_91 v2 x2 n4 x6 x7 σ Q)) : L_X1_settle_55 v2 σ Q := by
  intro p l e s m args below meth c D cy ad hC
  refine ga_iload_n hC dX1_settle_55 1 rfl rfl ?_
  refine ga_if_lt (tgt := 155) hC dX1_settle_56 (by decide) (fun hc => ?_) (fun hc => ?_)
  · have h := h.1 hc
    exact ga_vret hC dX1_settle_155 ⟨rfl, h⟩
  · have h := h.2 hc
    refine ga_aload_n hC dX1_settle_59 0 rfl rfl ?_
    refine gC_4_1 hC q_1_176 dX1_settle_60 ?_
    refine ga_iload_n hC dX1_settle_63 1 rfl rfl ?_
    obtain ⟨h1, h⟩ := h
    refine ga_iald hC aC_27 (by decide) h1 dX1_settle_64 ?_
    refine ga_topi (fun x2 ex2 => ?_)
    have h := h x2 ex2
    refine ga_istore_n (lv' := [(3, .int x2), (0, .ref (ad 4)), (2, .int v2)]) hC dX1_settle_65 rfl (by decide) rfl ?_
    refine ga_aload_n hC dX1_settle_66 1 rfl rfl ?_
    refine gC_4_2 hC q_1_179 dX1_settle_67 ?_
    refine ga_iload_n hC dX1_settle_70 0 rfl rfl ?_
    obtain ⟨h3, h⟩ := h
    refine ga_aald5 (b := 60) hC rfl (fun j hj => if_pos hj) (by decide) h3 dX1_settle_71 ?_
    obtain ⟨n4, en4⟩ : ∃ y : Nat, y = x2.toNatClampNeg := ⟨_, rfl⟩
    have h := h n4 en4
    have hn4 : n4 < 7 := by rw [en4]; exact (cg_lt h3)
    rw [← en4]
    refine ga_astore (lv' := [(4, .ref (ad (60 + n4))), (3, .int x2), (0, .ref (ad 4)), (2, .int v2)]) hC dX1_settle_72 (by decide) rfl ?_
    refine ga_aload_n hC dX1_settle_74 2 rfl rfl ?_
    refine gC_4_4 hC q_1_186 dX1_settle_75 ?_
    refine ga_aload hC dX1_settle_78 0 rfl ?_
    refine ga_bipush (v := 7) hC dX1_settle_80 (by decide) ?_
    refine ga_lald hC (aC_g hn4) (show 60 + _ < 88 by have := hn4; omega) (by unfold vp_in; decide) dX1_settle_82 ?_
    refine ga_lmul hC dX1_settle_83 ?_
    refine ga_topl (fun x6 ex6 => ?_)
    have h := h x6 ex6
    refine ga_lstore (lv' := [(5, .long x6), (4, .ref (ad (60 + n4))), (3, .int x2), (0, .ref (ad 4)), (2, .int v2)]) hC dX1_settle_84 (by decide) rfl ?_
    refine ga_iload_n hC dX1_settle_86 4 rfl rfl ?_
    refine ga_iconst (v := 1) hC dX1_settle_87 (by decide) ?_
    refine ga_iadd hC dX1_settle_88 ?_
    refine ga_topi (fun x7 ex7 => ?_)
    have h := h x7 ex7
    refine ga_istore (lv' := [(7, .int x7), (5, .long x6), (4, .ref (ad (60 + n4))), (3, .int x2), (0, .ref (ad 4)), (2, .int v2)]) hC dX1_settle_89 (by decide) rfl ?_
    refine ga_locals [4, 5, 3, 2, 1, 0] rfl ?_
    exact h p l e s m args below meth c D cy ad hC
set_option maxRecDepth 100000 in
set_option maxHeartbeats 4000000 in
theorem v_X1_settle {σ : cg_S} {Q : cg_S → Prop}
    (h : (1 ≤ (σ.1 4 0) → vp_in ((σ.1 4 0) - 1) 7 ∧ ∀ x2 : Int32, x2 = σ.1 27 ((σ.1 4 0) - 1).toNatClampNeg → vp_in x2 7 ∧ vp_in x2 8 ∧ ∀ s5 : cg_S, s5 = cg_l σ 4 4 (σ.2.1 (60 + x2.toNatClampNeg) x2.toNatClampNeg) → vp_in x2 7 ∧ vp_in x2 7 ∧ ∀ s9 : cg_S, s9 = cg_l s5 58 x2.toNatClampNeg (s5.2.1 (60 + x2.toNatClampNeg) 7) → ∀ x10 : Int32, x10 = (s9.1 4 0) - 2 → L_X1_settle_55 x10 s9 Q) ∧ (¬ 1 ≤ (σ.1 4 0) → Q σ)) : M_X1_settle σ Q := by
  refine cg_entry (lv := fun ad => [(0, .ref (ad 4))]) (by decide +kernel) (fun _ => rfl) (fun _ => Nat.le_of_ble_eq_true rfl) ?_
  intro p l e s m args below meth c D cy ad hC
  refine ga_aload_n hC dX1_settle_0 0 rfl rfl ?_
  refine gC_4_0 hC q_1_174 dX1_settle_1 ?_
  refine ga_iconst (v := 1) hC dX1_settle_4 (by decide) ?_
  refine ga_icmp_ge (tgt := 9) hC dX1_settle_5 (by decide) (fun hc => ?_) (fun hc => ?_)
  · have h := h.1 hc
    refine ga_aload_n hC dX1_settle_9 0 rfl rfl ?_
    refine gC_4_1 hC q_1_176 dX1_settle_10 ?_
    refine ga_aload_n hC dX1_settle_13 0 rfl rfl ?_
    refine gC_4_0 hC q_1_174 dX1_settle_14 ?_
    refine ga_iconst (v := 1) hC dX1_settle_17 (by decide) ?_
    refine ga_isub hC dX1_settle_18 ?_
    obtain ⟨h1, h⟩ := h
    refine ga_iald hC aC_27 (by decide) h1 dX1_settle_19 ?_
    refine ga_topi (fun x2 ex2 => ?_)
    have h := h x2 ex2
    refine ga_istore_n (lv' := [(1, .int x2), (0, .ref (ad 4))]) hC dX1_settle_20 rfl (by decide) rfl ?_
    refine ga_aload_n hC dX1_settle_21 1 rfl rfl ?_
    refine ga_aload_n hC dX1_settle_22 1 rfl rfl ?_
    refine gC_4_2 hC q_1_179 dX1_settle_23 ?_
    refine ga_iload_n hC dX1_settle_26 0 rfl rfl ?_
    obtain ⟨h3, h⟩ := h
    refine ga_aald5 (b := 60) hC rfl (fun j hj => if_pos hj) (by decide) h3 dX1_settle_27 ?_
    refine ga_iload_n hC dX1_settle_28 0 rfl rfl ?_
    obtain ⟨h4, h⟩ := h
    refine ga_lald hC (aC_g (cg_lt h3)) (show 60 + _ < 88 by have := (cg_lt h3); omega) h4 dX1_settle_29 ?_
    refine pC_4_4 hC q_1_186 dX1_settle_30 ?_
    refine ga_sig (σ := cg_l σ 4 4 (σ.2.1 (60 + x2.toNatClampNeg) x2.toNatClampNeg)) (fun s5 es5 => ?_)
    have h := h s5 es5
    refine ga_aload_n hC dX1_settle_33 1 rfl rfl ?_
    refine gC_4_3 hC q_1_182 dX1_settle_34 ?_
    refine ga_iload_n hC dX1_settle_37 0 rfl rfl ?_
    refine ga_aload_n hC dX1_settle_38 1 rfl rfl ?_
    refine gC_4_2 hC q_1_179 dX1_settle_39 ?_
    refine ga_iload_n hC dX1_settle_42 0 rfl rfl ?_
    obtain ⟨h6, h⟩ := h
    refine ga_aald5 (b := 60) hC rfl (fun j hj => if_pos hj) (by decide) h6 dX1_settle_43 ?_
    refine ga_bipush (v := 7) hC dX1_settle_44 (by decide) ?_
    refine ga_lald hC (aC_g (cg_lt h6)) (show 60 + _ < 88 by have := (cg_lt h6); omega) (by unfold vp_in; decide) dX1_settle_46 ?_
    obtain ⟨h8, h⟩ := h
    refine ga_last hC aC_58 (by decide) h8 dX1_settle_47 ?_
    refine ga_sig (σ := cg_l s5 58 x2.toNatClampNeg (s5.2.1 (60 + x2.toNatClampNeg) 7)) (fun s9 es9 => ?_)
    have h := h s9 es9
    refine ga_aload_n hC dX1_settle_48 1 rfl rfl ?_
    refine gC_4_0 hC q_1_174 dX1_settle_49 ?_
    refine ga_iconst (v := 2) hC dX1_settle_52 (by decide) ?_
    refine ga_isub hC dX1_settle_53 ?_
    refine ga_topi (fun x10 ex10 => ?_)
    have h := h x10 ex10
    refine ga_istore_n (lv' := [(2, .int x10), (1, .int x2), (0, .ref (ad 4))]) hC dX1_settle_54 rfl (by decide) rfl ?_
    refine ga_locals [2, 0] rfl ?_
    exact h p l e s m args below meth c D cy ad hC
  · have h := h.2 hc
    exact ga_vret hC dX1_settle_8 ⟨rfl, h⟩
