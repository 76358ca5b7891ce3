theorem ql_5_96 : Cond.methodLink RL 233 yL_valueFloat ∈ cg_T := cg_in5 96 (by decide +kernel) (by decide +kernel)
theorem ql_5_97 : Cond.static yL_valueFloat ∈ cg_T := cg_in5 97 (by decide +kernel) (by decide +kernel)
theorem ql_1_0 : Cond.initialized RL ∈ cg_T := cg_in1 0 (by decide +kernel) (by decide +kernel)
theorem ql_5_89 : Cond.methodLink RL 231 yL_isOne ∈ cg_T := cg_in5 89 (by decide +kernel) (by decide +kernel)
theorem ql_5_90 : Cond.static yL_isOne ∈ cg_T := cg_in5 90 (by decide +kernel) (by decide +kernel)
theorem ql_5_82 : Cond.methodLink RL 229 yL_isZero ∈ cg_T := cg_in5 82 (by decide +kernel) (by decide +kernel)
theorem ql_5_83 : Cond.static yL_isZero ∈ cg_T := cg_in5 83 (by decide +kernel) (by decide +kernel)
theorem ql_5_64 : Cond.methodLink RL 224 yL_responseAbove ∈ cg_T := cg_in5 64 (by decide +kernel) (by decide +kernel)
theorem ql_5_65 : Cond.static yL_responseAbove ∈ cg_T := cg_in5 65 (by decide +kernel) (by decide +kernel)
theorem ql_5_75 : Cond.methodLink RL 227 yL_responseBelow ∈ cg_T := cg_in5 75 (by decide +kernel) (by decide +kernel)
theorem ql_5_76 : Cond.static yL_responseBelow ∈ cg_T := cg_in5 76 (by decide +kernel) (by decide +kernel)
theorem ql_4_144 : Cond.methodLink RL 211 yL_above ∈ cg_T := cg_in4 144 (by decide +kernel) (by decide +kernel)
theorem ql_4_145 : Cond.static yL_above ∈ cg_T := cg_in4 145 (by decide +kernel) (by decide +kernel)
theorem ql_4_176 : Cond.methodLink RL 214 yL_below ∈ cg_T := cg_in4 176 (by decide +kernel) (by decide +kernel)
theorem ql_4_177 : Cond.static yL_below ∈ cg_T := cg_in4 177 (by decide +kernel) (by decide +kernel)
theorem ql_4_190 : Cond.methodLink RL 216 yL_aboveByAll ∈ cg_T := cg_in4 190 (by decide +kernel) (by decide +kernel)
theorem ql_4_191 : Cond.static yL_aboveByAll ∈ cg_T := cg_in4 191 (by decide +kernel) (by decide +kernel)
theorem ql_4_198 : Cond.methodLink RL 218 yL_belowByAll ∈ cg_T := cg_in4 198 (by decide +kernel) (by decide +kernel)
theorem ql_4_199 : Cond.static yL_belowByAll ∈ cg_T := cg_in4 199 (by decide +kernel) (by decide +kernel)
theorem ql_4_206 : Cond.methodLink RL 220 yL_chainAbove ∈ cg_T := cg_in4 206 (by decide +kernel) (by decide +kernel)
theorem ql_4_207 : Cond.static yL_chainAbove ∈ cg_T := cg_in4 207 (by decide +kernel) (by decide +kernel)
theorem ql_5_57 : Cond.methodLink RL 222 yL_chainBelow ∈ cg_T := cg_in5 57 (by decide +kernel) (by decide +kernel)
theorem ql_5_58 : Cond.static yL_chainBelow ∈ cg_T := cg_in5 58 (by decide +kernel) (by decide +kernel)
theorem ql_4_77 : Cond.methodLink RL 199 yL_choices ∈ cg_T := cg_in4 77 (by decide +kernel) (by decide +kernel)
theorem ql_4_78 : Cond.static yL_choices ∈ cg_T := cg_in4 78 (by decide +kernel) (by decide +kernel)
theorem ql_6_100 : Cond.constantLong RL 265 (31) ∈ cg_T := cg_in6 100 (by decide +kernel) (by decide +kernel)
theorem ql_6_7 : Cond.methodLink RL 250 yL_chance ∈ cg_T := cg_in6 7 (by decide +kernel) (by decide +kernel)
theorem ql_6_8 : Cond.static yL_chance ∈ cg_T := cg_in6 8 (by decide +kernel) (by decide +kernel)
theorem ql_4_134 : Cond.methodLink RL 193 yL_told ∈ cg_T := cg_in4 134 (by decide +kernel) (by decide +kernel)
theorem ql_4_135 : Cond.static yL_told ∈ cg_T := cg_in4 135 (by decide +kernel) (by decide +kernel)
theorem ql_6_101 : Cond.constantLong RL 267 (7) ∈ cg_T := cg_in6 101 (by decide +kernel) (by decide +kernel)
theorem ql_6_102 : Cond.constantLong RL 269 (11) ∈ cg_T := cg_in6 102 (by decide +kernel) (by decide +kernel)
theorem ql_6_103 : Cond.constantLong RL 271 (13) ∈ cg_T := cg_in6 103 (by decide +kernel) (by decide +kernel)
theorem ql_6_104 : Cond.constantLong RL 273 (17) ∈ cg_T := cg_in6 104 (by decide +kernel) (by decide +kernel)
theorem ql_6_96 : Cond.methodLink RL 262 yX11_states ∈ cg_T := cg_in6 96 (by decide +kernel) (by decide +kernel)
theorem ql_6_97 : Cond.instanceMethod yX11_states ∈ cg_T := cg_in6 97 (by decide +kernel) (by decide +kernel)
theorem ql_6_98 : Cond.selects RX11 yX11_states yX11_states ∈ cg_T := cg_in6 98 (by decide +kernel) (by decide +kernel)
theorem ql_1_1 : Cond.initialized RX11 ∈ cg_T := cg_in1 1 (by decide +kernel) (by decide +kernel)
theorem ql_6_99 : Cond.code yX11_states cX11_states 1 (some .int) ∈ cg_T := cg_in6 99 (by decide +kernel) (by decide +kernel)
theorem ql_6_93 : Cond.methodLink RL 275 yL_sum ∈ cg_T := cg_in6 93 (by decide +kernel) (by decide +kernel)
theorem ql_6_94 : Cond.static yL_sum ∈ cg_T := cg_in6 94 (by decide +kernel) (by decide +kernel)
theorem ql_6_95 : Cond.code yL_sum cL_sum 6 (some .long) ∈ cg_T := cg_in6 95 (by decide +kernel) (by decide +kernel)
theorem ql_3_119 : Cond.methodLink RL 155 yL_addState ∈ cg_T := cg_in3 119 (by decide +kernel) (by decide +kernel)
theorem ql_3_120 : Cond.static yL_addState ∈ cg_T := cg_in3 120 (by decide +kernel) (by decide +kernel)
theorem ql_3_223 : Cond.methodLink RL 161 yL_addChoice ∈ cg_T := cg_in3 223 (by decide +kernel) (by decide +kernel)
theorem ql_3_224 : Cond.static yL_addChoice ∈ cg_T := cg_in3 224 (by decide +kernel) (by decide +kernel)
theorem ql_4_41 : Cond.methodLink RL 164 yL_addWeight ∈ cg_T := cg_in4 41 (by decide +kernel) (by decide +kernel)
theorem ql_4_42 : Cond.static yL_addWeight ∈ cg_T := cg_in4 42 (by decide +kernel) (by decide +kernel)
theorem ql_6_105 : Cond.methodLink RL 278 yL_setDiscount ∈ cg_T := cg_in6 105 (by decide +kernel) (by decide +kernel)
theorem ql_6_106 : Cond.static yL_setDiscount ∈ cg_T := cg_in6 106 (by decide +kernel) (by decide +kernel)
theorem ql_6_117 : Cond.methodLink RL 280 yL_setWeights ∈ cg_T := cg_in6 117 (by decide +kernel) (by decide +kernel)
theorem ql_6_118 : Cond.static yL_setWeights ∈ cg_T := cg_in6 118 (by decide +kernel) (by decide +kernel)
theorem ql_6_129 : Cond.methodLink RL 282 yL_tell ∈ cg_T := cg_in6 129 (by decide +kernel) (by decide +kernel)
theorem ql_6_130 : Cond.static yL_tell ∈ cg_T := cg_in6 130 (by decide +kernel) (by decide +kernel)
theorem ql_4_84 : Cond.methodLink RL 196 yL_solve ∈ cg_T := cg_in4 84 (by decide +kernel) (by decide +kernel)
theorem ql_4_85 : Cond.static yL_solve ∈ cg_T := cg_in4 85 (by decide +kernel) (by decide +kernel)
theorem ql_5_112 : Cond.methodLink RL 236 yL_bound ∈ cg_T := cg_in5 112 (by decide +kernel) (by decide +kernel)
theorem ql_5_113 : Cond.static yL_bound ∈ cg_T := cg_in5 113 (by decide +kernel) (by decide +kernel)
theorem ql_5_134 : Cond.constantDouble RL 86 (13858561215837503488) ∈ cg_T := cg_in5 134 (by decide +kernel) (by decide +kernel)
theorem ql_6_59 : Cond.methodLink RL 254 yL_traceAt ∈ cg_T := cg_in6 59 (by decide +kernel) (by decide +kernel)
theorem ql_6_60 : Cond.static yL_traceAt ∈ cg_T := cg_in6 60 (by decide +kernel) (by decide +kernel)
theorem ql_4_173 : Cond.constantLong RL 58 (-78) ∈ cg_T := cg_in4 173 (by decide +kernel) (by decide +kernel)
theorem ql_5_148 : Cond.methodLink RL 187 yJ0_charAt_5068e ∈ cg_T := cg_in5 148 (by decide +kernel) (by decide +kernel)
theorem ql_5_149 : Cond.instanceMethod yJ0_charAt_5068e ∈ cg_T := cg_in5 149 (by decide +kernel) (by decide +kernel)
theorem ql_5_150 : Cond.selects RJ0 yJ0_charAt_5068e yJ0_charAt_5068e ∈ cg_T := cg_in5 150 (by decide +kernel) (by decide +kernel)
theorem ql_1_20 : Cond.initialized RJ0 ∈ cg_T := cg_in1 20 (by decide +kernel) (by decide +kernel)
theorem ql_5_151 : Cond.code yJ0_charAt_5068e cJ0_charAt_5068e 2 (some .char) ∈ cg_T := cg_in5 151 (by decide +kernel) (by decide +kernel)
theorem ql_5_140 : Cond.methodLink RL 241 yL_classOf ∈ cg_T := cg_in5 140 (by decide +kernel) (by decide +kernel)
theorem ql_5_141 : Cond.static yL_classOf ∈ cg_T := cg_in5 141 (by decide +kernel) (by decide +kernel)
theorem ql_5_188 : Cond.methodLink RL 243 yL_classes ∈ cg_T := cg_in5 188 (by decide +kernel) (by decide +kernel)
theorem ql_5_189 : Cond.static yL_classes ∈ cg_T := cg_in5 189 (by decide +kernel) (by decide +kernel)
theorem ql_5_202 : Cond.methodLink RL 246 yL_closedOf ∈ cg_T := cg_in5 202 (by decide +kernel) (by decide +kernel)
theorem ql_5_203 : Cond.static yL_closedOf ∈ cg_T := cg_in5 203 (by decide +kernel) (by decide +kernel)
theorem ql_5_232 : Cond.methodLink RL 248 yL_endOf ∈ cg_T := cg_in5 232 (by decide +kernel) (by decide +kernel)
theorem ql_5_233 : Cond.static yL_endOf ∈ cg_T := cg_in5 233 (by decide +kernel) (by decide +kernel)
theorem ql_5_136 : Cond.constantDouble RL 239 (4517329193108106637) ∈ cg_T := cg_in5 136 (by decide +kernel) (by decide +kernel)
theorem ql_6_75 : Cond.methodLink RL 257 yL_traceAbove ∈ cg_T := cg_in6 75 (by decide +kernel) (by decide +kernel)
theorem ql_6_76 : Cond.static yL_traceAbove ∈ cg_T := cg_in6 76 (by decide +kernel) (by decide +kernel)
theorem ql_6_83 : Cond.methodLink RL 260 yL_traceBelow ∈ cg_T := cg_in6 83 (by decide +kernel) (by decide +kernel)
theorem ql_6_84 : Cond.static yL_traceBelow ∈ cg_T := cg_in6 84 (by decide +kernel) (by decide +kernel)
theorem ql_6_35 : Cond.methodLink RL 252 yL_traceLength ∈ cg_T := cg_in6 35 (by decide +kernel) (by decide +kernel)
theorem ql_6_36 : Cond.static yL_traceLength ∈ cg_T := cg_in6 36 (by decide +kernel) (by decide +kernel)
def M_L_isBest (v1 : Int32) (v2 : Int32) (σ : cg_S) (Q : Int32 → cg_S → Prop) : Prop := cp_M cg_WC yL_isBest (Cond.code yL_isBest cL_isBest 8 (some .boolean)) (cg_RX 8 60) 60 360 (fun ad => [.ref (ad 0), .int v1, .int v2]) σ (cg_qi Q)
theorem M_L_isBest.mono {v1 : Int32} {v2 : Int32} {σ : cg_S} {Q Q2 : Int32 → cg_S → Prop} (h : M_L_isBest v1 v2 σ Q) (hq : ∀ r τ, Q r τ → Q2 r τ) : M_L_isBest v1 v2 σ Q2 := cp_M.mono h (fun ad v τ ⟨r, e, q⟩ => ⟨r, e, hq r τ q⟩)
def L_L_isBest_79 (kc : Nat) (v1 : Int32) (v2 : Int32) (v3 : Int64) (v5 : Int64) (t0 : Int32) (σ : cg_S) (Q : Int32 → cg_S → Prop) : Prop := cp_L cg_WC RL cL_isBest 8 (some .boolean) [] (cg_RX 8 60) 60 360 79 (fun ad => [(0, .ref (ad 0)), (1, .int v1), (2, .int v2), (3, .long v3), (5, .long v5)]) (fun ad => [.int t0]) kc (6 * kc) σ (cg_qi Q)
def L_L_isBest_142 (kc : Nat) (v1 : Int32) (v2 : Int32) (v3 : Int64) (v5 : Int64) (t0 : Int32) (t1 : Int32) (σ : cg_S) (Q : Int32 → cg_S → Prop) : Prop := cp_L cg_WC RL cL_isBest 8 (some .boolean) [] (cg_RX 8 60) 60 360 142 (fun ad => [(0, .ref (ad 0)), (1, .int v1), (2, .int v2), (3, .long v3), (5, .long v5)]) (fun ad => [.int t1, .int t0]) kc (6 * kc) σ (cg_qi Q)
def L_L_isBest_179 (kc : Nat) (v1 : Int32) (v2 : Int32) (v3 : Int64) (v5 : Int64) (t0 : Int32) (t1 : Int32) (σ : cg_S) (Q : Int32 → cg_S → Prop) : Prop := cp_L cg_WC RL cL_isBest 8 (some .boolean) [] (cg_RX 8 60) 60 360 179 (fun ad => [(0, .ref (ad 0)), (1, .int v1), (2, .int v2), (3, .long v3), (5, .long v5)]) (fun ad => [.int t1, .int t0]) kc (6 * kc) σ (cg_qi Q)
def L_L_isBest_202 (kc : Nat) (v1 : Int32) (v2 : Int32) (v3 : Int64) (v5 : Int64) (σ : cg_S) (Q : Int32 → cg_S → Prop) : Prop := cp_L cg_WC RL cL_isBest 8 (some .boolean) [] (cg_RX 8 60) 60 360 202 (fun ad => [(0, .ref (ad 0)), (1, .int v1), (2, .int v2), (3, .long v3), (5, .long v5)]) (fun ad => []) kc (6 * kc) σ (cg_qi Q)
set_option maxRecDepth 100000 in
set_option maxHeartbeats 4000000 in
theorem v_L_isBest_202 {kc : Nat} {v1 : Int32} {v2 : Int32} {v3 : Int64} {v5 : Int64} {σ : cg_S} {Q : Int32 → cg_S → Prop} (hk : kc + 3 ≤ 60) 
    (h : M_L_valueFloat v1 v2 σ (fun r1 s2 => vf_n32 (FP.fdiv (FP.l2f v3) (FP.l2f v5)) ∧ (¬ (Op.cmpValue (FP.fcmp r1 (FP.fdiv (FP.l2f v3) (FP.l2f v5))) .l) = 0 → Q 0 s2) ∧ ((Op.cmpValue (FP.fcmp r1 (FP.fdiv (FP.l2f v3) (FP.l2f v5))) .l) = 0 → Q 1 s2))) : L_L_isBest_202 kc v1 v2 v3 v5 σ Q := by
  intro p l e s m args below meth c D cy ad hY
  have hC := hY.1
  refine ga_aload_n hC dL_isBest_202 0 rfl rfl ?_
  refine ga_iload_n hC dL_isBest_203 1 rfl rfl ?_
  refine ga_iload_n hC dL_isBest_204 2 rfl rfl ?_
  refine gp_callW (As := [.ref (ad 0), .int v1, .int v2]) (st := []) (n := 3) (Nat.le_refl _) cg_in.rf hY h ql_5_96 ql_5_97 ql_1_0 (cg_in5 98 (by decide +kernel) (by decide +kernel)) rfl rfl rfl (by decide +kernel) ⟨by show _ ≤ 60; omega, by show _ ≤ 360; omega⟩ ⟨Nat.le_of_ble_eq_true rfl, Nat.le_of_ble_eq_true rfl⟩ rfl rfl (Nat.le_of_ble_eq_true rfl) dL_isBest_205 (fun v s2 hq => ⟨s2, cg_in.rf, cg_ke.rf, ?_⟩)
  obtain ⟨r1, rfl, h⟩ := hq
  refine ga_lload_n hC dL_isBest_208 3 rfl rfl ?_
  refine ga_l2f hC dL_isBest_209 ?_
  refine ga_lload hC dL_isBest_210 4 rfl ?_
  refine ga_l2f hC dL_isBest_212 ?_
  obtain ⟨h3, h⟩ := h
  refine ga_fdiv hC dL_isBest_213 h3 ?_
  refine ga_fcmp hC dL_isBest_214 ?_
  refine ga_if_ne (tgt := 222) hC dL_isBest_215 (by decide) (fun hc => ?_) (fun hc => ?_)
  · have h := h.1 hc
    refine ga_iconst (v := 0) hC dL_isBest_222 (by decide) ?_
    exact gx_zret hC dL_isBest_223 ⟨by omega, by omega⟩ (by decide) ⟨_, rfl, h⟩
  · have h := h.2 hc
    refine ga_iconst (v := 1) hC dL_isBest_218 (by decide) ?_
    refine ga_goto (tgt := 223) hC dL_isBest_219 (by decide) ?_
    exact gx_zret hC dL_isBest_223 ⟨by omega, by omega⟩ (by decide) ⟨_, rfl, h⟩
set_option maxRecDepth 100000 in
set_option maxHeartbeats 4000000 in
theorem v_L_isBest_179 {kc : Nat} {v1 : Int32} {v2 : Int32} {v3 : Int64} {v5 : Int64} {t0 : Int32} {t1 : Int32} {σ : cg_S} {Q : Int32 → cg_S → Prop} (hk : kc + 2 ≤ 60) 
    (h : (¬ t0 = t1 → Q 0 σ) ∧ (t0 = t1 → M_L_isOne v2 σ (fun r1 s2 => (¬ v3 = v5 → (¬ r1 = 0 → Q 0 s2) ∧ (r1 = 0 → L_L_isBest_202 (kc + 2) v1 v2 v3 v5 s2 Q)) ∧ (v3 = v5 → (¬ r1 = 1 → Q 0 s2) ∧ (r1 = 1 → L_L_isBest_202 (kc + 2) v1 v2 v3 v5 s2 Q))))) : L_L_isBest_179 kc v1 v2 v3 v5 t0 t1 σ Q := by
  intro p l e s m args below meth c D cy ad hY
  have hC := hY.1
  refine ga_icmp_ne (tgt := 222) hC dL_isBest_179 (by decide) (fun hc => ?_) (fun hc => ?_)
  · have h := h.1 hc
    refine ga_iconst (v := 0) hC dL_isBest_222 (by decide) ?_
    exact gx_zret hC dL_isBest_223 ⟨by omega, by omega⟩ (by decide) ⟨_, rfl, h⟩
  · have h := h.2 hc
    refine ga_aload_n hC dL_isBest_182 0 rfl rfl ?_
    refine ga_iload_n hC dL_isBest_183 2 rfl rfl ?_
    refine gp_callW (As := [.ref (ad 0), .int v2]) (st := []) (n := 2) (Nat.le_refl _) cg_in.rf hY h ql_5_89 ql_5_90 ql_1_0 (cg_in5 91 (by decide +kernel) (by decide +kernel)) rfl rfl rfl (by decide +kernel) ⟨by show _ ≤ 60; omega, by show _ ≤ 360; omega⟩ ⟨Nat.le_of_ble_eq_true rfl, Nat.le_of_ble_eq_true rfl⟩ rfl rfl (Nat.le_of_ble_eq_true rfl) dL_isBest_184 (fun v s2 hq => ⟨s2, cg_in.rf, cg_ke.rf, ?_⟩)
    obtain ⟨r1, rfl, h⟩ := hq
    refine ga_lload_n hC dL_isBest_187 3 rfl rfl ?_
    refine ga_lload hC dL_isBest_188 4 rfl ?_
    refine ga_lcmp hC dL_isBest_190 ?_
    refine ga_if_ne (tgt := 198) hC dL_isBest_191 (by decide) (fun hc => ?_) (fun hc => ?_)
    · have h := h.1 (cg_cmp_ne.1 hc)
      refine ga_iconst (v := 0) hC dL_isBest_198 (by decide) ?_
      refine ga_icmp_ne (tgt := 222) hC dL_isBest_199 (by decide) (fun hc => ?_) (fun hc => ?_)
      · have h := h.1 hc
        refine ga_iconst (v := 0) hC dL_isBest_222 (by decide) ?_
        exact gx_zret hC dL_isBest_223 ⟨by omega, by omega⟩ (by decide) ⟨_, rfl, h⟩
      · have h := h.2 hc
        refine ga_locals [0, 1, 2, 3, 4] rfl ?_
        refine gp_kc (k := kc + 2) (by omega) (by omega) ?_
        exact h p l e s m args below meth c D cy ad hY
    · have h := h.2 (cg_cmp_ne.2 hc)
      refine ga_iconst (v := 1) hC dL_isBest_194 (by decide) ?_
      refine ga_goto (tgt := 199) hC dL_isBest_195 (by decide) ?_
      refine ga_icmp_ne (tgt := 222) hC dL_isBest_199 (by decide) (fun hc => ?_) (fun hc => ?_)
      · have h := h.1 hc
        refine ga_iconst (v := 0) hC dL_isBest_222 (by decide) ?_
        exact gx_zret hC dL_isBest_223 ⟨by omega, by omega⟩ (by decide) ⟨_, rfl, h⟩
      · have h := h.2 hc
        refine ga_locals [0, 1, 2, 3, 4] rfl ?_
        refine gp_kc (k := kc + 2) (by omega) (by omega) ?_
        exact h p l e s m args below meth c D cy ad hY
set_option maxRecDepth 100000 in
set_option maxHeartbeats 4000000 in
theorem v_L_isBest_142 {kc : Nat} {v1 : Int32} {v2 : Int32} {v3 : Int64} {v5 : Int64} {t0 : Int32} {t1 : Int32} {σ : cg_S} {Q : Int32 → cg_S → Prop} (hk : kc + 2 ≤ 60) 
    (h : ∀ x1 : Int32, x1 = t0 &&& t1 → (x1 = 0 → Q 0 σ) ∧ (¬ x1 = 0 → (¬ v1 = 114 → L_L_isBest_202 kc v1 v2 v3 v5 σ Q) ∧ (v1 = 114 → (v5 < v3 → Q 0 σ) ∧ (¬ v5 < v3 → M_L_isZero v2 σ (fun r2 s3 => (¬ v3 = 0 → L_L_isBest_179 (kc + 2) v1 v2 v3 v5 r2 0 s3 Q) ∧ (v3 = 0 → L_L_isBest_179 (kc + 2) v1 v2 v3 v5 r2 1 s3 Q)))))) : L_L_isBest_142 kc v1 v2 v3 v5 t0 t1 σ Q := by
  intro p l e s m args below meth c D cy ad hY
  have hC := hY.1
  refine ga_iand hC dL_isBest_142 ?_
  refine ga_topi (fun x1 ex1 => ?_)
  have h := h x1 ex1
  refine ga_istore (lv' := [(7, .int x1), (0, .ref (ad 0)), (1, .int v1), (2, .int v2), (3, .long v3), (5, .long v5)]) hC dL_isBest_143 (by decide) rfl ?_
  refine ga_iload hC dL_isBest_145 0 rfl ?_
  refine ga_if_eq (tgt := 222) hC dL_isBest_147 (by decide) (fun hc => ?_) (fun hc => ?_)
  · have h := h.1 hc
    refine ga_iconst (v := 0) hC dL_isBest_222 (by decide) ?_
    exact gx_zret hC dL_isBest_223 ⟨by omega, by omega⟩ (by decide) ⟨_, rfl, h⟩
  · have h := h.2 hc
    refine ga_iload_n hC dL_isBest_150 2 rfl rfl ?_
    refine ga_bipush (v := 114) hC dL_isBest_151 (by decide) ?_
    refine ga_icmp_ne (tgt := 202) hC dL_isBest_153 (by decide) (fun hc => ?_) (fun hc => ?_)
    · have h := h.1 hc
      refine ga_locals [1, 2, 3, 4, 5] rfl ?_
      refine gp_kc (k := kc) (by omega) (by omega) ?_
      exact h p l e s m args below meth c D cy ad hY
    · have h := h.2 hc
      refine ga_lload_n hC dL_isBest_156 4 rfl rfl ?_
      refine ga_lload hC dL_isBest_157 5 rfl ?_
      refine ga_lcmp hC dL_isBest_159 ?_
      refine ga_if_gt (tgt := 222) hC dL_isBest_160 (by decide) (fun hc => ?_) (fun hc => ?_)
      · have h := h.1 (cg_cmp_gt.1 hc)
        refine ga_iconst (v := 0) hC dL_isBest_222 (by decide) ?_
        exact gx_zret hC dL_isBest_223 ⟨by omega, by omega⟩ (by decide) ⟨_, rfl, h⟩
      · have h := h.2 (cg_cmp_gt.2 hc)
        refine ga_aload_n hC dL_isBest_163 1 rfl rfl ?_
        refine ga_iload_n hC dL_isBest_164 3 rfl rfl ?_
        refine gp_callW (As := [.ref (ad 0), .int v2]) (st := []) (n := 2) (Nat.le_refl _) cg_in.rf hY h ql_5_82 ql_5_83 ql_1_0 (cg_in5 84 (by decide +kernel) (by decide +kernel)) rfl rfl rfl (by decide +kernel) ⟨by show _ ≤ 60; omega, by show _ ≤ 360; omega⟩ ⟨Nat.le_of_ble_eq_true rfl, Nat.le_of_ble_eq_true rfl⟩ rfl rfl (Nat.le_of_ble_eq_true rfl) dL_isBest_165 (fun v s3 hq => ⟨s3, cg_in.rf, cg_ke.rf, ?_⟩)
        obtain ⟨r2, rfl, h⟩ := hq
        refine ga_lload_n hC dL_isBest_168 4 rfl rfl ?_
        refine ga_lconst (v := 0) hC dL_isBest_169 (by decide) ?_
        refine ga_lcmp hC dL_isBest_170 ?_
        refine ga_if_ne (tgt := 178) hC dL_isBest_171 (by decide) (fun hc => ?_) (fun hc => ?_)
        · have h := h.1 (cg_cmp_ne.1 hc)
          refine ga_iconst (v := 0) hC dL_isBest_178 (by decide) ?_
          refine ga_locals [1, 2, 3, 4, 5] rfl ?_
          refine gp_kc (k := kc + 2) (by omega) (by omega) ?_
          exact h p l e s m args below meth c D cy ad hY
        · have h := h.2 (cg_cmp_ne.2 hc)
          refine ga_iconst (v := 1) hC dL_isBest_174 (by decide) ?_
          refine ga_goto (tgt := 179) hC dL_isBest_175 (by decide) ?_
          refine ga_locals [1, 2, 3, 4, 5] rfl ?_
          refine gp_kc (k := kc + 2) (by omega) (by omega) ?_
          exact h p l e s m args below meth c D cy ad hY
set_option maxRecDepth 100000 in
set_option maxHeartbeats 4000000 in
theorem v_L_isBest_79 {kc : Nat} {v1 : Int32} {v2 : Int32} {v3 : Int64} {v5 : Int64} {t0 : Int32} {σ : cg_S} {Q : Int32 → cg_S → Prop} (hk : kc + 16 ≤ 60) 
    (h : M_L_responseAbove 97 v1 v2 σ (fun r1 s2 => (¬ r1 = v3 → L_L_isBest_142 (kc + 4) v1 v2 v3 v5 t0 0 s2 Q) ∧ (r1 = v3 → M_L_responseBelow 97 v1 v2 s2 (fun r3 s4 => (¬ r3 = v5 → L_L_isBest_142 (kc + 8) v1 v2 v3 v5 t0 0 s4 Q) ∧ (r3 = v5 → M_L_responseAbove 98 v1 v2 s4 (fun r5 s6 => (¬ r5 = v3 → L_L_isBest_142 (kc + 12) v1 v2 v3 v5 t0 0 s6 Q) ∧ (r5 = v3 → M_L_responseBelow 98 v1 v2 s6 (fun r7 s8 => (¬ r7 = v5 → L_L_isBest_142 (kc + 16) v1 v2 v3 v5 t0 0 s8 Q) ∧ (r7 = v5 → L_L_isBest_142 (kc + 16) v1 v2 v3 v5 t0 1 s8 Q))))))))) : L_L_isBest_79 kc v1 v2 v3 v5 t0 σ Q := by
  intro p l e s m args below meth c D cy ad hY
  have hC := hY.1
  refine ga_istore (lv' := [(7, .int t0), (0, .ref (ad 0)), (1, .int v1), (2, .int v2), (3, .long v3), (5, .long v5)]) hC dL_isBest_79 (by decide) rfl ?_
  refine ga_iload hC dL_isBest_81 0 rfl ?_
  refine ga_aload_n hC dL_isBest_83 1 rfl rfl ?_
  refine ga_bipush (v := 97) hC dL_isBest_84 (by decide) ?_
  refine ga_iload_n hC dL_isBest_86 2 rfl rfl ?_
  refine ga_iload_n hC dL_isBest_87 3 rfl rfl ?_
  refine gp_callW (As := [.ref (ad 0), .int 97, .int v1, .int v2]) (st := [.int t0]) (n := 4) (Nat.le_refl _) cg_in.rf hY h ql_5_64 ql_5_65 ql_1_0 (cg_in5 66 (by decide +kernel) (by decide +kernel)) rfl rfl rfl (by decide +kernel) ⟨by show _ ≤ 60; omega, by show _ ≤ 360; omega⟩ ⟨Nat.le_of_ble_eq_true rfl, Nat.le_of_ble_eq_true rfl⟩ rfl rfl (Nat.le_of_ble_eq_true rfl) dL_isBest_88 (fun v s2 hq => ⟨s2, cg_in.rf, cg_ke.rf, ?_⟩)
  obtain ⟨r1, rfl, h⟩ := hq
  refine ga_lload_n hC dL_isBest_91 4 rfl rfl ?_
  refine ga_lcmp hC dL_isBest_92 ?_
  refine ga_if_ne (tgt := 141) hC dL_isBest_93 (by decide) (fun hc => ?_) (fun hc => ?_)
  · have h := h.1 (cg_cmp_ne.1 hc)
    refine ga_iconst (v := 0) hC dL_isBest_141 (by decide) ?_
    refine ga_locals [1, 2, 3, 4, 5] rfl ?_
    refine gp_kc (k := kc + 4) (by omega) (by omega) ?_
    exact h p l e s m args below meth c D cy ad hY
  · have h := h.2 (cg_cmp_ne.2 hc)
    refine ga_aload_n hC dL_isBest_96 1 rfl rfl ?_
    refine ga_bipush (v := 97) hC dL_isBest_97 (by decide) ?_
    refine ga_iload_n hC dL_isBest_99 2 rfl rfl ?_
    refine ga_iload_n hC dL_isBest_100 3 rfl rfl ?_
    refine gp_callW (As := [.ref (ad 0), .int 97, .int v1, .int v2]) (st := [.int t0]) (n := 4) (Nat.le_refl _) cg_in.rf hY h ql_5_75 ql_5_76 ql_1_0 (cg_in5 77 (by decide +kernel) (by decide +kernel)) rfl rfl rfl (by decide +kernel) ⟨by show _ ≤ 60; omega, by show _ ≤ 360; omega⟩ ⟨Nat.le_of_ble_eq_true rfl, Nat.le_of_ble_eq_true rfl⟩ rfl rfl (Nat.le_of_ble_eq_true rfl) dL_isBest_101 (fun v s4 hq => ⟨s4, cg_in.rf, cg_ke.rf, ?_⟩)
    obtain ⟨r3, rfl, h⟩ := hq
    refine ga_lload hC dL_isBest_104 5 rfl ?_
    refine ga_lcmp hC dL_isBest_106 ?_
    refine ga_if_ne (tgt := 141) hC dL_isBest_107 (by decide) (fun hc => ?_) (fun hc => ?_)
    · have h := h.1 (cg_cmp_ne.1 hc)
      refine ga_iconst (v := 0) hC dL_isBest_141 (by decide) ?_
      refine ga_locals [1, 2, 3, 4, 5] rfl ?_
      refine gp_kc (k := kc + 8) (by omega) (by omega) ?_
      exact h p l e s m args below meth c D cy ad hY
    · have h := h.2 (cg_cmp_ne.2 hc)
      refine ga_aload_n hC dL_isBest_110 1 rfl rfl ?_
      refine ga_bipush (v := 98) hC dL_isBest_111 (by decide) ?_
      refine ga_iload_n hC dL_isBest_113 2 rfl rfl ?_
      refine ga_iload_n hC dL_isBest_114 3 rfl rfl ?_
      refine gp_callW (As := [.ref (ad 0), .int 98, .int v1, .int v2]) (st := [.int t0]) (n := 4) (Nat.le_refl _) cg_in.rf hY h ql_5_64 ql_5_65 ql_1_0 (cg_in5 66 (by decide +kernel) (by decide +kernel)) rfl rfl rfl (by decide +kernel) ⟨by show _ ≤ 60; omega, by show _ ≤ 360; omega⟩ ⟨Nat.le_of_ble_eq_true rfl, Nat.le_of_ble_eq_true rfl⟩ rfl rfl (Nat.le_of_ble_eq_true rfl) dL_isBest_115 (fun v s6 hq => ⟨s6, cg_in.rf, cg_ke.rf, ?_⟩)
      obtain ⟨r5, rfl, h⟩ := hq
      refine ga_lload_n hC dL_isBest_118 4 rfl rfl ?_
      refine ga_lcmp hC dL_isBest_119 ?_
      refine ga_if_ne (tgt := 141) hC dL_isBest_120 (by decide) (fun hc => ?_) (fun hc => ?_)
      · have h := h.1 (cg_cmp_ne.1 hc)
        refine ga_iconst (v := 0) hC dL_isBest_141 (by decide) ?_
        refine ga_locals [1, 2, 3, 4, 5] rfl ?_
        refine gp_kc (k := kc + 12) (by omega) (by omega) ?_
        exact h p l e s m args below meth c D cy ad hY
      · have h := h.2 (cg_cmp_ne.2 hc)
        refine ga_aload_n hC dL_isBest_123 1 rfl rfl ?_
        refine ga_bipush (v := 98) hC dL_isBest_124 (by decide) ?_
        refine ga_iload_n hC dL_isBest_126 2 rfl rfl ?_
        refine ga_iload_n hC dL_isBest_127 3 rfl rfl ?_
        refine gp_callW (As := [.ref (ad 0), .int 98, .int v1, .int v2]) (st := [.int t0]) (n := 4) (Nat.le_refl _) cg_in.rf hY h ql_5_75 ql_5_76 ql_1_0 (cg_in5 77 (by decide +kernel) (by decide +kernel)) rfl rfl rfl (by decide +kernel) ⟨by show _ ≤ 60; omega, by show _ ≤ 360; omega⟩ ⟨Nat.le_of_ble_eq_true rfl, Nat.le_of_ble_eq_true rfl⟩ rfl rfl (Nat.le_of_ble_eq_true rfl) dL_isBest_128 (fun v s8 hq => ⟨s8, cg_in.rf, cg_ke.rf, ?_⟩)
        obtain ⟨r7, rfl, h⟩ := hq
        refine ga_lload hC dL_isBest_131 5 rfl ?_
        refine ga_lcmp hC dL_isBest_133 ?_
        refine ga_if_ne (tgt := 141) hC dL_isBest_134 (by decide) (fun hc => ?_) (fun hc => ?_)
        · have h := h.1 (cg_cmp_ne.1 hc)
          refine ga_iconst (v := 0) hC dL_isBest_141 (by decide) ?_
          refine ga_locals [1, 2, 3, 4, 5] rfl ?_
          refine gp_kc (k := kc + 16) (by omega) (by omega) ?_
          exact h p l e s m args below meth c D cy ad hY
        · have h := h.2 (cg_cmp_ne.2 hc)
          refine ga_iconst (v := 1) hC dL_isBest_137 (by decide) ?_
          refine ga_goto (tgt := 142) hC dL_isBest_138 (by decide) ?_
          refine ga_locals [1, 2, 3, 4, 5] rfl ?_
          refine gp_kc (k := kc + 16) (by omega) (by omega) ?_
          exact h p l e s m args below meth c D cy ad hY
set_option maxRecDepth 100000 in
set_option maxHeartbeats 4000000 in
theorem v_L_isBest {v1 : Int32} {v2 : Int32} {σ : cg_S} {Q : Int32 → cg_S → Prop} 
    (h : M_L_above v1 v2 σ (fun r1 s2 => M_L_below v1 v2 s2 (fun r3 s4 => (r1 < 0 → L_L_isBest_79 6 v1 v2 r1 r3 0 s4 Q) ∧ (¬ r1 < 0 → (r3 ≤ 0 → L_L_isBest_79 6 v1 v2 r1 r3 0 s4 Q) ∧ (¬ r3 ≤ 0 → M_L_aboveByAll v1 v2 s4 (fun r5 s6 => (¬ r5 = r1 → L_L_isBest_79 9 v1 v2 r1 r3 0 s6 Q) ∧ (r5 = r1 → M_L_belowByAll v1 v2 s6 (fun r7 s8 => (¬ r7 = r3 → L_L_isBest_79 12 v1 v2 r1 r3 0 s8 Q) ∧ (r7 = r3 → M_L_chainAbove v1 v2 s8 (fun r9 s10 => (¬ r9 = r1 → L_L_isBest_79 15 v1 v2 r1 r3 0 s10 Q) ∧ (r9 = r1 → M_L_chainBelow v1 v2 s10 (fun r11 s12 => (¬ r11 = r3 → L_L_isBest_79 18 v1 v2 r1 r3 0 s12 Q) ∧ (r11 = r3 → L_L_isBest_79 18 v1 v2 r1 r3 1 s12 Q))))))))))))) : M_L_isBest v1 v2 σ Q := by
  refine cp_entryH (lv := fun ad => [(0, .ref (ad 0)), (1, .int v1), (2, .int v2)]) (by decide +kernel) (fun _ => rfl) (fun _ => Nat.le_of_ble_eq_true rfl) ?_
  intro p l e s m args below meth c D cy ad hY
  have hC := hY.1
  refine ga_aload_n hC dL_isBest_0 0 rfl rfl ?_
  refine ga_iload_n hC dL_isBest_1 1 rfl rfl ?_
  refine ga_iload_n hC dL_isBest_2 2 rfl rfl ?_
  refine gp_callW (As := [.ref (ad 0), .int v1, .int v2]) (st := []) (n := 3) (Nat.le_refl _) cg_in.rf hY h ql_4_144 ql_4_145 ql_1_0 (cg_in4 146 (by decide +kernel) (by decide +kernel)) rfl rfl rfl (by decide +kernel) ⟨by show _ ≤ 60; omega, by show _ ≤ 360; omega⟩ ⟨Nat.le_of_ble_eq_true rfl, Nat.le_of_ble_eq_true rfl⟩ rfl rfl (Nat.le_of_ble_eq_true rfl) dL_isBest_3 (fun v s2 hq => ⟨s2, cg_in.rf, cg_ke.rf, ?_⟩)
  obtain ⟨r1, rfl, h⟩ := hq
  refine ga_lstore_n (lv' := [(3, .long r1), (0, .ref (ad 0)), (1, .int v1), (2, .int v2)]) hC dL_isBest_6 rfl (by decide) rfl ?_
  refine ga_aload_n hC dL_isBest_7 1 rfl rfl ?_
  refine ga_iload_n hC dL_isBest_8 2 rfl rfl ?_
  refine ga_iload_n hC dL_isBest_9 3 rfl rfl ?_
  refine gp_callW (As := [.ref (ad 0), .int v1, .int v2]) (st := []) (n := 3) (Nat.le_refl _) cg_in.rf hY h ql_4_176 ql_4_177 ql_1_0 (cg_in4 178 (by decide +kernel) (by decide +kernel)) rfl rfl rfl (by decide +kernel) ⟨by show _ ≤ 60; omega, by show _ ≤ 360; omega⟩ ⟨Nat.le_of_ble_eq_true rfl, Nat.le_of_ble_eq_true rfl⟩ rfl rfl (Nat.le_of_ble_eq_true rfl) dL_isBest_10 (fun v s4 hq => ⟨s4, cg_in.rf, cg_ke.rf, ?_⟩)
  obtain ⟨r3, rfl, h⟩ := hq
  refine ga_lstore (lv' := [(5, .long r3), (3, .long r1), (0, .ref (ad 0)), (1, .int v1), (2, .int v2)]) hC dL_isBest_13 (by decide) rfl ?_
  refine ga_lload_n hC dL_isBest_15 1 rfl rfl ?_
  refine ga_lconst (v := 0) hC dL_isBest_16 (by decide) ?_
  refine ga_lcmp hC dL_isBest_17 ?_
  refine ga_if_lt (tgt := 78) hC dL_isBest_18 (by decide) (fun hc => ?_) (fun hc => ?_)
  · have h := h.1 (cg_cmp_lt.1 hc)
    refine ga_iconst (v := 0) hC dL_isBest_78 (by decide) ?_
    refine ga_locals [2, 3, 4, 1, 0] rfl ?_
    refine gp_kc (k := 6) (by omega) (by omega) ?_
    exact h p l e s m args below meth c D cy ad hY
  · have h := h.2 (cg_cmp_lt.2 hc)
    refine ga_lload hC dL_isBest_21 0 rfl ?_
    refine ga_lconst (v := 0) hC dL_isBest_23 (by decide) ?_
    refine ga_lcmp hC dL_isBest_24 ?_
    refine ga_if_le (tgt := 78) hC dL_isBest_25 (by decide) (fun hc => ?_) (fun hc => ?_)
    · have h := h.1 (cg_cmp_le.1 hc)
      refine ga_iconst (v := 0) hC dL_isBest_78 (by decide) ?_
      refine ga_locals [2, 3, 4, 1, 0] rfl ?_
      refine gp_kc (k := 6) (by omega) (by omega) ?_
      exact h p l e s m args below meth c D cy ad hY
    · have h := h.2 (cg_cmp_le.2 hc)
      refine ga_aload_n hC dL_isBest_28 2 rfl rfl ?_
      refine ga_iload_n hC dL_isBest_29 3 rfl rfl ?_
      refine ga_iload_n hC dL_isBest_30 4 rfl rfl ?_
      refine gp_callW (As := [.ref (ad 0), .int v1, .int v2]) (st := []) (n := 3) (Nat.le_refl _) cg_in.rf hY h ql_4_190 ql_4_191 ql_1_0 (cg_in4 192 (by decide +kernel) (by decide +kernel)) rfl rfl rfl (by decide +kernel) ⟨by show _ ≤ 60; omega, by show _ ≤ 360; omega⟩ ⟨Nat.le_of_ble_eq_true rfl, Nat.le_of_ble_eq_true rfl⟩ rfl rfl (Nat.le_of_ble_eq_true rfl) dL_isBest_31 (fun v s6 hq => ⟨s6, cg_in.rf, cg_ke.rf, ?_⟩)
      obtain ⟨r5, rfl, h⟩ := hq
      refine ga_lload_n hC dL_isBest_34 1 rfl rfl ?_
      refine ga_lcmp hC dL_isBest_35 ?_
      refine ga_if_ne (tgt := 78) hC dL_isBest_36 (by decide) (fun hc => ?_) (fun hc => ?_)
      · have h := h.1 (cg_cmp_ne.1 hc)
        refine ga_iconst (v := 0) hC dL_isBest_78 (by decide) ?_
        refine ga_locals [2, 3, 4, 1, 0] rfl ?_
        refine gp_kc (k := 9) (by omega) (by omega) ?_
        exact h p l e s m args below meth c D cy ad hY
      · have h := h.2 (cg_cmp_ne.2 hc)
        refine ga_aload_n hC dL_isBest_39 2 rfl rfl ?_
        refine ga_iload_n hC dL_isBest_40 3 rfl rfl ?_
        refine ga_iload_n hC dL_isBest_41 4 rfl rfl ?_
        refine gp_callW (As := [.ref (ad 0), .int v1, .int v2]) (st := []) (n := 3) (Nat.le_refl _) cg_in.rf hY h ql_4_198 ql_4_199 ql_1_0 (cg_in4 200 (by decide +kernel) (by decide +kernel)) rfl rfl rfl (by decide +kernel) ⟨by show _ ≤ 60; omega, by show _ ≤ 360; omega⟩ ⟨Nat.le_of_ble_eq_true rfl, Nat.le_of_ble_eq_true rfl⟩ rfl rfl (Nat.le_of_ble_eq_true rfl) dL_isBest_42 (fun v s8 hq => ⟨s8, cg_in.rf, cg_ke.rf, ?_⟩)
        obtain ⟨r7, rfl, h⟩ := hq
        refine ga_lload hC dL_isBest_45 0 rfl ?_
        refine ga_lcmp hC dL_isBest_47 ?_
        refine ga_if_ne (tgt := 78) hC dL_isBest_48 (by decide) (fun hc => ?_) (fun hc => ?_)
        · have h := h.1 (cg_cmp_ne.1 hc)
          refine ga_iconst (v := 0) hC dL_isBest_78 (by decide) ?_
          refine ga_locals [2, 3, 4, 1, 0] rfl ?_
          refine gp_kc (k := 12) (by omega) (by omega) ?_
          exact h p l e s m args below meth c D cy ad hY
        · have h := h.2 (cg_cmp_ne.2 hc)
          refine ga_aload_n hC dL_isBest_51 2 rfl rfl ?_
          refine ga_iload_n hC dL_isBest_52 3 rfl rfl ?_
          refine ga_iload_n hC dL_isBest_53 4 rfl rfl ?_
          refine gp_callW (As := [.ref (ad 0), .int v1, .int v2]) (st := []) (n := 3) (Nat.le_refl _) cg_in.rf hY h ql_4_206 ql_4_207 ql_1_0 (cg_in4 208 (by decide +kernel) (by decide +kernel)) rfl rfl rfl (by decide +kernel) ⟨by show _ ≤ 60; omega, by show _ ≤ 360; omega⟩ ⟨Nat.le_of_ble_eq_true rfl, Nat.le_of_ble_eq_true rfl⟩ rfl rfl (Nat.le_of_ble_eq_true rfl) dL_isBest_54 (fun v s10 hq => ⟨s10, cg_in.rf, cg_ke.rf, ?_⟩)
          obtain ⟨r9, rfl, h⟩ := hq
          refine ga_lload_n hC dL_isBest_57 1 rfl rfl ?_
          refine ga_lcmp hC dL_isBest_58 ?_
          refine ga_if_ne (tgt := 78) hC dL_isBest_59 (by decide) (fun hc => ?_) (fun hc => ?_)
          · have h := h.1 (cg_cmp_ne.1 hc)
            refine ga_iconst (v := 0) hC dL_isBest_78 (by decide) ?_
            refine ga_locals [2, 3, 4, 1, 0] rfl ?_
            refine gp_kc (k := 15) (by omega) (by omega) ?_
            exact h p l e s m args below meth c D cy ad hY
          · have h := h.2 (cg_cmp_ne.2 hc)
            refine ga_aload_n hC dL_isBest_62 2 rfl rfl ?_
            refine ga_iload_n hC dL_isBest_63 3 rfl rfl ?_
            refine ga_iload_n hC dL_isBest_64 4 rfl rfl ?_
            refine gp_callW (As := [.ref (ad 0), .int v1, .int v2]) (st := []) (n := 3) (Nat.le_refl _) cg_in.rf hY h ql_5_57 ql_5_58 ql_1_0 (cg_in5 59 (by decide +kernel) (by decide +kernel)) rfl rfl rfl (by decide +kernel) ⟨by show _ ≤ 60; omega, by show _ ≤ 360; omega⟩ ⟨Nat.le_of_ble_eq_true rfl, Nat.le_of_ble_eq_true rfl⟩ rfl rfl (Nat.le_of_ble_eq_true rfl) dL_isBest_65 (fun v s12 hq => ⟨s12, cg_in.rf, cg_ke.rf, ?_⟩)
            obtain ⟨r11, rfl, h⟩ := hq
            refine ga_lload hC dL_isBest_68 0 rfl ?_
            refine ga_lcmp hC dL_isBest_70 ?_
            refine ga_if_ne (tgt := 78) hC dL_isBest_71 (by decide) (fun hc => ?_) (fun hc => ?_)
            · have h := h.1 (cg_cmp_ne.1 hc)
              refine ga_iconst (v := 0) hC dL_isBest_78 (by decide) ?_
              refine ga_locals [2, 3, 4, 1, 0] rfl ?_
              refine gp_kc (k := 18) (by omega) (by omega) ?_
              exact h p l e s m args below meth c D cy ad hY
            · have h := h.2 (cg_cmp_ne.2 hc)
              refine ga_iconst (v := 1) hC dL_isBest_74 (by decide) ?_
              refine ga_goto (tgt := 79) hC dL_isBest_75 (by decide) ?_
              refine ga_locals [2, 3, 4, 1, 0] rfl ?_
              refine gp_kc (k := 18) (by omega) (by omega) ?_
              exact h p l e s m args below meth c D cy ad hY
def M_L_sum (v1 : Int32) (σ : cg_S) (Q : Int64 → cg_S → Prop) : Prop := cp_M cg_WC yL_sum (Cond.code yL_sum cL_sum 6 (some .long)) (cg_RX 8 200) 200 1200 (fun ad => [.ref (ad 0), .int v1]) σ (cg_ql Q)
theorem M_L_sum.mono {v1 : Int32} {σ : cg_S} {Q Q2 : Int64 → cg_S → Prop} (h : M_L_sum v1 σ Q) (hq : ∀ r τ, Q r τ → Q2 r τ) : M_L_sum v1 σ Q2 := cp_M.mono h (fun ad v τ ⟨r, e, q⟩ => ⟨r, e, hq r τ q⟩)
def L_L_sum_9 (kc : Nat) (v1 : Int32) (v2 : Int64) (v4 : Int32) (σ : cg_S) (Q : Int64 → cg_S → Prop) : Prop := cp_L cg_WC RL cL_sum 6 (some .long) [] (cg_RX 8 200) 200 1200 9 (fun ad => [(0, .ref (ad 0)), (1, .int v1), (2, .long v2), (4, .int v4)]) (fun ad => []) kc (6 * kc) σ (cg_ql Q)
def L_L_sum_83 (kc : Nat) (v1 : Int32) (v2 : Int64) (v4 : Int32) (v5 : Int32) (σ : cg_S) (Q : Int64 → cg_S → Prop) : Prop := cp_L cg_WC RL cL_sum 6 (some .long) [] (cg_RX 8 200) 200 1200 83 (fun ad => [(0, .ref (ad 0)), (1, .int v1), (2, .long v2), (4, .int v4), (5, .int v5)]) (fun ad => []) kc (6 * kc) σ (cg_ql Q)
set_option maxRecDepth 100000 in
set_option maxHeartbeats 4000000 in
theorem v_L_sum_83 {kc : Nat} {v1 : Int32} {v2 : Int64} {v4 : Int32} {v5 : Int32} {σ : cg_S} {Q : Int64 → cg_S → Prop} (hk : kc + 4 ≤ 200) 
    (h : M_L_choices v4 σ (fun r1 s2 => (r1 ≤ v5 → L_L_sum_9 (kc + 1) v1 v2 (v4 + 1) s2 Q) ∧ (¬ r1 ≤ v5 → M_L_chance v4 v5 v4 s2 (fun r3 s4 => ∀ x5 : Int64, x5 = (31 * v2) + r3.toInt64 → L_L_sum_83 (kc + 4) v1 x5 v4 (v5 + 1) s4 Q)))) : L_L_sum_83 kc v1 v2 v4 v5 σ Q := by
  intro p l e s m args below meth c D cy ad hY
  have hC := hY.1
  refine ga_iload hC dL_sum_83 4 rfl ?_
  refine ga_aload_n hC dL_sum_85 0 rfl rfl ?_
  refine ga_iload hC dL_sum_86 3 rfl ?_
  refine gp_callW (As := [.ref (ad 0), .int v4]) (st := [.int v5]) (n := 2) (Nat.le_refl _) cg_in.rf hY h ql_4_77 ql_4_78 ql_1_0 (cg_in4 79 (by decide +kernel) (by decide +kernel)) rfl rfl rfl (by decide +kernel) ⟨by show _ ≤ 200; omega, by show _ ≤ 1200; omega⟩ ⟨Nat.le_of_ble_eq_true rfl, Nat.le_of_ble_eq_true rfl⟩ rfl rfl (Nat.le_of_ble_eq_true rfl) dL_sum_88 (fun v s2 hq => ⟨s2, cg_in.rf, cg_ke.rf, ?_⟩)
  obtain ⟨r1, rfl, h⟩ := hq
  refine ga_icmp_ge (tgt := 118) hC dL_sum_91 (by decide) (fun hc => ?_) (fun hc => ?_)
  · have h := h.1 hc
    refine ga_iinc (v := v4 + 1) (lv' := [(4, .int (v4 + 1)), (0, .ref (ad 0)), (1, .int v1), (2, .long v2), (5, .int v5)]) hC dL_sum_118 3 rfl rfl (by decide) rfl ?_
    refine ga_goto (tgt := 9) hC dL_sum_121 (by decide) ?_
    refine ga_locals [1, 2, 3, 0] rfl ?_
    refine gp_kc (k := kc + 1) (by omega) (by omega) ?_
    exact h p l e s m args below meth c D cy ad hY
  · have h := h.2 hc
    refine ga_ldc2 hC ql_6_100 dL_sum_94 ?_
    refine ga_lload_n hC dL_sum_97 2 rfl rfl ?_
    refine ga_lmul hC dL_sum_98 ?_
    refine ga_aload_n hC dL_sum_99 0 rfl rfl ?_
    refine ga_iload hC dL_sum_100 3 rfl ?_
    refine ga_iload hC dL_sum_102 4 rfl ?_
    refine ga_iload hC dL_sum_104 3 rfl ?_
    refine gp_callW (As := [.ref (ad 0), .int v4, .int v5, .int v4]) (st := [.long (31 * v2)]) (n := 4) (Nat.le_refl _) cg_in.rf hY h ql_6_7 ql_6_8 ql_1_0 (cg_in6 9 (by decide +kernel) (by decide +kernel)) rfl rfl rfl (by decide +kernel) ⟨by show _ ≤ 200; omega, by show _ ≤ 1200; omega⟩ ⟨Nat.le_of_ble_eq_true rfl, Nat.le_of_ble_eq_true rfl⟩ rfl rfl (Nat.le_of_ble_eq_true rfl) dL_sum_106 (fun v s4 hq => ⟨s4, cg_in.rf, cg_ke.rf, ?_⟩)
    obtain ⟨r3, rfl, h⟩ := hq
    refine ga_i2l hC dL_sum_109 ?_
    refine ga_ladd hC dL_sum_110 ?_
    refine ga_topl (fun x5 ex5 => ?_)
    have h := h x5 ex5
    refine ga_lstore_n (lv' := [(2, .long x5), (0, .ref (ad 0)), (1, .int v1), (4, .int v4), (5, .int v5)]) hC dL_sum_111 rfl (by decide) rfl ?_
    refine ga_iinc (v := v5 + 1) (lv' := [(5, .int (v5 + 1)), (2, .long x5), (0, .ref (ad 0)), (1, .int v1), (4, .int v4)]) hC dL_sum_112 4 rfl rfl (by decide) rfl ?_
    refine ga_goto (tgt := 83) hC dL_sum_115 (by decide) ?_
    refine ga_locals [2, 3, 1, 4, 0] rfl ?_
    refine gp_kc (k := kc + 4) (by omega) (by omega) ?_
    exact h p l e s m args below meth c D cy ad hY
set_option maxRecDepth 100000 in
set_option maxHeartbeats 4000000 in
theorem v_L_sum_9 {kc : Nat} {v1 : Int32} {v2 : Int64} {v4 : Int32} {σ : cg_S} {Q : Int64 → cg_S → Prop} (hk : kc + 11 ≤ 200) 
    (h : (v1 ≤ v4 → Q v2 σ) ∧ (¬ v1 ≤ v4 → M_L_told v4 σ (fun r1 s2 => M_L_choices v4 s2 (fun r3 s4 => M_L_above 119 v4 s4 (fun r5 s6 => M_L_below 119 v4 s6 (fun r7 s8 => M_L_above 114 v4 s8 (fun r9 s10 => ∀ x11 : Int64, x11 = (((((31 * v2) + r1.toInt64) + (7 * r3.toInt64)) + (11 * r5)) + (13 * r7)) + (17 * r9) → L_L_sum_83 (kc + 11) v1 x11 v4 0 s10 Q))))))) : L_L_sum_9 kc v1 v2 v4 σ Q := by
  intro p l e s m args below meth c D cy ad hY
  have hC := hY.1
  refine ga_iload hC dL_sum_9 3 rfl ?_
  refine ga_iload_n hC dL_sum_11 1 rfl rfl ?_
  refine ga_icmp_ge (tgt := 124) hC dL_sum_12 (by decide) (fun hc => ?_) (fun hc => ?_)
  · have h := h.1 hc
    refine ga_lload_n hC dL_sum_124 2 rfl rfl ?_
    exact gx_lret hC dL_sum_125 ⟨by omega, by omega⟩ ⟨_, rfl, h⟩
  · have h := h.2 hc
    refine ga_ldc2 hC ql_6_100 dL_sum_15 ?_
    refine ga_lload_n hC dL_sum_18 2 rfl rfl ?_
    refine ga_lmul hC dL_sum_19 ?_
    refine ga_aload_n hC dL_sum_20 0 rfl rfl ?_
    refine ga_iload hC dL_sum_21 3 rfl ?_
    refine gp_callW (As := [.ref (ad 0), .int v4]) (st := [.long (31 * v2)]) (n := 2) (Nat.le_refl _) cg_in.rf hY h ql_4_134 ql_4_135 ql_1_0 (cg_in4 136 (by decide +kernel) (by decide +kernel)) rfl rfl rfl (by decide +kernel) ⟨by show _ ≤ 200; omega, by show _ ≤ 1200; omega⟩ ⟨Nat.le_of_ble_eq_true rfl, Nat.le_of_ble_eq_true rfl⟩ rfl rfl (Nat.le_of_ble_eq_true rfl) dL_sum_23 (fun v s2 hq => ⟨s2, cg_in.rf, cg_ke.rf, ?_⟩)
    obtain ⟨r1, rfl, h⟩ := hq
    refine ga_i2l hC dL_sum_26 ?_
    refine ga_ladd hC dL_sum_27 ?_
    refine ga_ldc2 hC ql_6_101 dL_sum_28 ?_
    refine ga_aload_n hC dL_sum_31 0 rfl rfl ?_
    refine ga_iload hC dL_sum_32 3 rfl ?_
    refine gp_callW (As := [.ref (ad 0), .int v4]) (st := [.long 7, .long ((31 * v2) + r1.toInt64)]) (n := 2) (Nat.le_refl _) cg_in.rf hY h ql_4_77 ql_4_78 ql_1_0 (cg_in4 79 (by decide +kernel) (by decide +kernel)) rfl rfl rfl (by decide +kernel) ⟨by show _ ≤ 200; omega, by show _ ≤ 1200; omega⟩ ⟨Nat.le_of_ble_eq_true rfl, Nat.le_of_ble_eq_true rfl⟩ rfl rfl (Nat.le_of_ble_eq_true rfl) dL_sum_34 (fun v s4 hq => ⟨s4, cg_in.rf, cg_ke.rf, ?_⟩)
    obtain ⟨r3, rfl, h⟩ := hq
    refine ga_i2l hC dL_sum_37 ?_
    refine ga_lmul hC dL_sum_38 ?_
    refine ga_ladd hC dL_sum_39 ?_
    refine ga_ldc2 hC ql_6_102 dL_sum_40 ?_
    refine ga_aload_n hC dL_sum_43 0 rfl rfl ?_
    refine ga_bipush (v := 119) hC dL_sum_44 (by decide) ?_
    refine ga_iload hC dL_sum_46 3 rfl ?_
    refine gp_callW (As := [.ref (ad 0), .int 119, .int v4]) (st := [.long 11, .long (((31 * v2) + r1.toInt64) + (7 * r3.toInt64))]) (n := 3) (Nat.le_refl _) cg_in.rf hY h ql_4_144 ql_4_145 ql_1_0 (cg_in4 146 (by decide +kernel) (by decide +kernel)) rfl rfl rfl (by decide +kernel) ⟨by show _ ≤ 200; omega, by show _ ≤ 1200; omega⟩ ⟨Nat.le_of_ble_eq_true rfl, Nat.le_of_ble_eq_true rfl⟩ rfl rfl (Nat.le_of_ble_eq_true rfl) dL_sum_48 (fun v s6 hq => ⟨s6, cg_in.rf, cg_ke.rf, ?_⟩)
    obtain ⟨r5, rfl, h⟩ := hq
    refine ga_lmul hC dL_sum_51 ?_
    refine ga_ladd hC dL_sum_52 ?_
    refine ga_ldc2 hC ql_6_103 dL_sum_53 ?_
    refine ga_aload_n hC dL_sum_56 0 rfl rfl ?_
    refine ga_bipush (v := 119) hC dL_sum_57 (by decide) ?_
    refine ga_iload hC dL_sum_59 3 rfl ?_
    refine gp_callW (As := [.ref (ad 0), .int 119, .int v4]) (st := [.long 13, .long ((((31 * v2) + r1.toInt64) + (7 * r3.toInt64)) + (11 * r5))]) (n := 3) (Nat.le_refl _) cg_in.rf hY h ql_4_176 ql_4_177 ql_1_0 (cg_in4 178 (by decide +kernel) (by decide +kernel)) rfl rfl rfl (by decide +kernel) ⟨by show _ ≤ 200; omega, by show _ ≤ 1200; omega⟩ ⟨Nat.le_of_ble_eq_true rfl, Nat.le_of_ble_eq_true rfl⟩ rfl rfl (Nat.le_of_ble_eq_true rfl) dL_sum_61 (fun v s8 hq => ⟨s8, cg_in.rf, cg_ke.rf, ?_⟩)
    obtain ⟨r7, rfl, h⟩ := hq
    refine ga_lmul hC dL_sum_64 ?_
    refine ga_ladd hC dL_sum_65 ?_
    refine ga_ldc2 hC ql_6_104 dL_sum_66 ?_
    refine ga_aload_n hC dL_sum_69 0 rfl rfl ?_
    refine ga_bipush (v := 114) hC dL_sum_70 (by decide) ?_
    refine ga_iload hC dL_sum_72 3 rfl ?_
    refine gp_callW (As := [.ref (ad 0), .int 114, .int v4]) (st := [.long 17, .long (((((31 * v2) + r1.toInt64) + (7 * r3.toInt64)) + (11 * r5)) + (13 * r7))]) (n := 3) (Nat.le_refl _) cg_in.rf hY h ql_4_144 ql_4_145 ql_1_0 (cg_in4 146 (by decide +kernel) (by decide +kernel)) rfl rfl rfl (by decide +kernel) ⟨by show _ ≤ 200; omega, by show _ ≤ 1200; omega⟩ ⟨Nat.le_of_ble_eq_true rfl, Nat.le_of_ble_eq_true rfl⟩ rfl rfl (Nat.le_of_ble_eq_true rfl) dL_sum_74 (fun v s10 hq => ⟨s10, cg_in.rf, cg_ke.rf, ?_⟩)
    obtain ⟨r9, rfl, h⟩ := hq
    refine ga_lmul hC dL_sum_77 ?_
    refine ga_ladd hC dL_sum_78 ?_
    refine ga_topl (fun x11 ex11 => ?_)
    have h := h x11 ex11
    refine ga_lstore_n (lv' := [(2, .long x11), (0, .ref (ad 0)), (1, .int v1), (4, .int v4)]) hC dL_sum_79 rfl (by decide) rfl ?_
    refine ga_iconst (v := 0) hC dL_sum_80 (by decide) ?_
    refine ga_istore (lv' := [(5, .int 0), (2, .long x11), (0, .ref (ad 0)), (1, .int v1), (4, .int v4)]) hC dL_sum_81 (by decide) rfl ?_
    refine ga_locals [2, 3, 1, 4, 0] rfl ?_
    refine gp_kc (k := kc + 11) (by omega) (by omega) ?_
    exact h p l e s m args below meth c D cy ad hY
set_option maxRecDepth 100000 in
set_option maxHeartbeats 4000000 in
theorem v_L_sum {v1 : Int32} {σ : cg_S} {Q : Int64 → cg_S → Prop} 
    (h : M_X11_states σ (fun r1 s2 => L_L_sum_9 0 v1 r1.toInt64 0 s2 Q)) : M_L_sum v1 σ Q := by
  refine cp_entryH (lv := fun ad => [(0, .ref (ad 0)), (1, .int v1)]) (by decide +kernel) (fun _ => rfl) (fun _ => Nat.le_of_ble_eq_true rfl) ?_
  intro p l e s m args below meth c D cy ad hY
  have hC := hY.1
  refine ga_aload_n hC dL_sum_0 0 rfl rfl ?_
  refine gp_callC (As := []) (st := []) (n := 0) (Nat.le_refl _) cg_in.rf hC h ql_6_96 ql_6_97 ql_6_98 ql_1_1 ql_6_99 rfl rfl rfl (by decide +kernel) ⟨by show _ ≤ 200; omega, by show _ ≤ 1200; omega⟩ ⟨Nat.le_of_ble_eq_true rfl, Nat.le_of_ble_eq_true rfl⟩ rfl rfl (Nat.le_of_ble_eq_true rfl) dL_sum_1 (fun v s2 hq => ⟨s2, cg_in.rf, cg_ke.rf, ?_⟩)
  obtain ⟨r1, rfl, h⟩ := hq
  refine ga_i2l hC dL_sum_4 ?_
  refine ga_lstore_n (lv' := [(2, .long r1.toInt64), (0, .ref (ad 0)), (1, .int v1)]) hC dL_sum_5 rfl (by decide) rfl ?_
  refine ga_iconst (v := 0) hC dL_sum_6 (by decide) ?_
  refine ga_istore (lv' := [(4, .int 0), (2, .long r1.toInt64), (0, .ref (ad 0)), (1, .int v1)]) hC dL_sum_7 (by decide) rfl ?_
  refine ga_locals [2, 3, 1, 0] rfl ?_
  refine gp_kc (k := 0) (by omega) (by omega) ?_
  exact h p l e s m args below meth c D cy ad hY
def M_L_isRefused (v1 : Int32) (σ : cg_S) (Q : Int32 → cg_S → Prop) : Prop := cp_M cg_WC yL_isRefused (Cond.code yL_isRefused cL_isRefused 5 (some .boolean)) (cg_RX 9 500) 500 3000 (fun ad => [.ref (ad 0), .int v1]) σ (cg_qi Q)
theorem M_L_isRefused.mono {v1 : Int32} {σ : cg_S} {Q Q2 : Int32 → cg_S → Prop} (h : M_L_isRefused v1 σ Q) (hq : ∀ r τ, Q r τ → Q2 r τ) : M_L_isRefused v1 σ Q2 := cp_M.mono h (fun ad v τ ⟨r, e, q⟩ => ⟨r, e, hq r τ q⟩)
def L_L_isRefused_158 (kc : Nat) (v1 : Int32) (v2 : Int64) (t0 : Int32) (σ : cg_S) (Q : Int32 → cg_S → Prop) : Prop := cp_L cg_WC RL cL_isRefused 5 (some .boolean) [] (cg_RX 9 500) 500 3000 158 (fun ad => [(0, .ref (ad 0)), (1, .int v1), (2, .long v2)]) (fun ad => [.int t0]) kc (6 * kc) σ (cg_qi Q)
set_option maxRecDepth 100000 in
set_option maxHeartbeats 4000000 in
theorem v_L_isRefused_158 {kc : Nat} {v1 : Int32} {v2 : Int64} {t0 : Int32} {σ : cg_S} {Q : Int32 → cg_S → Prop} (hk : kc + 200 ≤ 500) 
    (h : (t0 = 0 → Q 0 σ) ∧ (¬ t0 = 0 → M_L_sum v1 σ (fun r1 s2 => (¬ r1 = v2 → Q 0 s2) ∧ (r1 = v2 → Q 1 s2)))) : L_L_isRefused_158 kc v1 v2 t0 σ Q := by
  intro p l e s m args below meth c D cy ad hY
  have hC := hY.1
  refine ga_istore (lv' := [(4, .int t0), (0, .ref (ad 0)), (1, .int v1), (2, .long v2)]) hC dL_isRefused_158 (by decide) rfl ?_
  refine ga_iload hC dL_isRefused_160 0 rfl ?_
  refine ga_if_eq (tgt := 179) hC dL_isRefused_162 (by decide) (fun hc => ?_) (fun hc => ?_)
  · have h := h.1 hc
    refine ga_iconst (v := 0) hC dL_isRefused_179 (by decide) ?_
    exact gx_zret hC dL_isRefused_180 ⟨by omega, by omega⟩ (by decide) ⟨_, rfl, h⟩
  · have h := h.2 hc
    refine ga_aload_n hC dL_isRefused_165 1 rfl rfl ?_
    refine ga_iload_n hC dL_isRefused_166 2 rfl rfl ?_
    refine gp_callH (As := [.ref (ad 0), .int v1]) (st := []) (n := 2) (Nat.le_refl _) cg_in.rf hY h ql_6_93 ql_6_94 ql_1_0 ql_6_95 rfl rfl rfl (by decide +kernel) ⟨by show _ ≤ 500; omega, by show _ ≤ 3000; omega⟩ ⟨Nat.le_of_ble_eq_true rfl, Nat.le_of_ble_eq_true rfl⟩ rfl rfl (Nat.le_of_ble_eq_true rfl) dL_isRefused_167 (fun v s2 hq => ⟨s2, cg_in.rf, cg_ke.rf, ?_⟩)
    obtain ⟨r1, rfl, h⟩ := hq
    refine ga_lload_n hC dL_isRefused_170 3 rfl rfl ?_
    refine ga_lcmp hC dL_isRefused_171 ?_
    refine ga_if_ne (tgt := 179) hC dL_isRefused_172 (by decide) (fun hc => ?_) (fun hc => ?_)
    · have h := h.1 (cg_cmp_ne.1 hc)
      refine ga_iconst (v := 0) hC dL_isRefused_179 (by decide) ?_
      exact gx_zret hC dL_isRefused_180 ⟨by omega, by omega⟩ (by decide) ⟨_, rfl, h⟩
    · have h := h.2 (cg_cmp_ne.2 hc)
      refine ga_iconst (v := 1) hC dL_isRefused_175 (by decide) ?_
      refine ga_goto (tgt := 180) hC dL_isRefused_176 (by decide) ?_
      exact gx_zret hC dL_isRefused_180 ⟨by omega, by omega⟩ (by decide) ⟨_, rfl, h⟩
set_option maxRecDepth 100000 in
set_option maxHeartbeats 4000000 in
theorem v_L_isRefused {v1 : Int32} {σ : cg_S} {Q : Int32 → cg_S → Prop} 
    (h : M_L_sum v1 σ (fun r1 s2 => M_L_addState 120 0 s2 (fun r3 s4 => (¬ r3 = (-78) → L_L_isRefused_158 202 v1 r1 0 s4 Q) ∧ (r3 = (-78) → M_L_addChoice v1 0 0 s4 (fun r5 s6 => (¬ r5 = (-77) → L_L_isRefused_158 204 v1 r1 0 s6 Q) ∧ (r5 = (-77) → M_L_addChoice 0 10 0 s6 (fun r7 s8 => (¬ r7 = (-78) → L_L_isRefused_158 206 v1 r1 0 s8 Q) ∧ (r7 = (-78) → M_L_addWeight 0 0 0 7 s8 (fun r9 s10 => (¬ r9 = (-78) → L_L_isRefused_158 209 v1 r1 0 s10 Q) ∧ (r9 = (-78) → M_L_addWeight 0 3 0 1 s10 (fun r11 s12 => (¬ r11 = (-77) → L_L_isRefused_158 212 v1 r1 0 s12 Q) ∧ (r11 = (-77) → M_L_setDiscount 3 2 s12 (fun r13 s14 => (¬ r13 = (-78) → L_L_isRefused_158 213 v1 r1 0 s14 Q) ∧ (r13 = (-78) → M_L_setWeights 4 4 s14 (fun r15 s16 => (¬ r15 = (-78) → L_L_isRefused_158 214 v1 r1 0 s16 Q) ∧ (r15 = (-78) → M_L_tell 0 3 s16 (fun r17 s18 => (¬ r17 = (-77) → L_L_isRefused_158 215 v1 r1 0 s18 Q) ∧ (r17 = (-77) → M_L_solve 112 s18 (fun r19 s20 => (¬ r19 = (-78) → L_L_isRefused_158 217 v1 r1 0 s20 Q) ∧ (r19 = (-78) → M_L_bound 0 (-1) s20 (fun r21 s22 => (¬ (Op.cmpValue (FP.dcmp r21 13858561215837503488) .l) = 0 → L_L_isRefused_158 220 v1 r1 0 s22 Q) ∧ ((Op.cmpValue (FP.dcmp r21 13858561215837503488) .l) = 0 → M_L_traceAt 0 7 s22 (fun r23 s24 => (0 ≤ r23 → L_L_isRefused_158 224 v1 r1 0 s24 Q) ∧ (¬ 0 ≤ r23 → M_L_responseAbove 120 114 0 s24 (fun r25 s26 => (¬ r25 = (-78) → L_L_isRefused_158 228 v1 r1 0 s26 Q) ∧ (r25 = (-78) → L_L_isRefused_158 228 v1 r1 1 s26 Q)))))))))))))))))))))))))) : M_L_isRefused v1 σ Q := by
  refine cp_entryH (lv := fun ad => [(0, .ref (ad 0)), (1, .int v1)]) (by decide +kernel) (fun _ => rfl) (fun _ => Nat.le_of_ble_eq_true rfl) ?_
  intro p l e s m args below meth c D cy ad hY
  have hC := hY.1
  refine ga_aload_n hC dL_isRefused_0 0 rfl rfl ?_
  refine ga_iload_n hC dL_isRefused_1 1 rfl rfl ?_
  refine gp_callH (As := [.ref (ad 0), .int v1]) (st := []) (n := 2) (Nat.le_refl _) cg_in.rf hY h ql_6_93 ql_6_94 ql_1_0 ql_6_95 rfl rfl rfl (by decide +kernel) ⟨by show _ ≤ 500; omega, by show _ ≤ 3000; omega⟩ ⟨Nat.le_of_ble_eq_true rfl, Nat.le_of_ble_eq_true rfl⟩ rfl rfl (Nat.le_of_ble_eq_true rfl) dL_isRefused_2 (fun v s2 hq => ⟨s2, cg_in.rf, cg_ke.rf, ?_⟩)
  obtain ⟨r1, rfl, h⟩ := hq
  refine ga_lstore_n (lv' := [(2, .long r1), (0, .ref (ad 0)), (1, .int v1)]) hC dL_isRefused_5 rfl (by decide) rfl ?_
  refine ga_aload_n hC dL_isRefused_6 1 rfl rfl ?_
  refine ga_bipush (v := 120) hC dL_isRefused_7 (by decide) ?_
  refine ga_iconst (v := 0) hC dL_isRefused_9 (by decide) ?_
  refine gp_callW (As := [.ref (ad 0), .int 120, .int 0]) (st := []) (n := 3) (Nat.le_refl _) cg_in.rf hY h ql_3_119 ql_3_120 ql_1_0 (cg_in3 121 (by decide +kernel) (by decide +kernel)) rfl rfl rfl (by decide +kernel) ⟨by show _ ≤ 500; omega, by show _ ≤ 3000; omega⟩ ⟨Nat.le_of_ble_eq_true rfl, Nat.le_of_ble_eq_true rfl⟩ rfl rfl (Nat.le_of_ble_eq_true rfl) dL_isRefused_10 (fun v s4 hq => ⟨s4, cg_in.rf, cg_ke.rf, ?_⟩)
  obtain ⟨r3, rfl, h⟩ := hq
  refine ga_bipush (v := (-78)) hC dL_isRefused_13 (by decide) ?_
  refine ga_icmp_ne (tgt := 157) hC dL_isRefused_15 (by decide) (fun hc => ?_) (fun hc => ?_)
  · have h := h.1 hc
    refine ga_iconst (v := 0) hC dL_isRefused_157 (by decide) ?_
    refine ga_locals [1, 2, 0] rfl ?_
    refine gp_kc (k := 202) (by omega) (by omega) ?_
    exact h p l e s m args below meth c D cy ad hY
  · have h := h.2 hc
    refine ga_aload_n hC dL_isRefused_18 1 rfl rfl ?_
    refine ga_iload_n hC dL_isRefused_19 2 rfl rfl ?_
    refine ga_iconst (v := 0) hC dL_isRefused_20 (by decide) ?_
    refine ga_iconst (v := 0) hC dL_isRefused_21 (by decide) ?_
    refine gp_callW (As := [.ref (ad 0), .int v1, .int 0, .int 0]) (st := []) (n := 4) (Nat.le_refl _) cg_in.rf hY h ql_3_223 ql_3_224 ql_1_0 (cg_in3 225 (by decide +kernel) (by decide +kernel)) rfl rfl rfl (by decide +kernel) ⟨by show _ ≤ 500; omega, by show _ ≤ 3000; omega⟩ ⟨Nat.le_of_ble_eq_true rfl, Nat.le_of_ble_eq_true rfl⟩ rfl rfl (Nat.le_of_ble_eq_true rfl) dL_isRefused_22 (fun v s6 hq => ⟨s6, cg_in.rf, cg_ke.rf, ?_⟩)
    obtain ⟨r5, rfl, h⟩ := hq
    refine ga_bipush (v := (-77)) hC dL_isRefused_25 (by decide) ?_
    refine ga_icmp_ne (tgt := 157) hC dL_isRefused_27 (by decide) (fun hc => ?_) (fun hc => ?_)
    · have h := h.1 hc
      refine ga_iconst (v := 0) hC dL_isRefused_157 (by decide) ?_
      refine ga_locals [1, 2, 0] rfl ?_
      refine gp_kc (k := 204) (by omega) (by omega) ?_
      exact h p l e s m args below meth c D cy ad hY
    · have h := h.2 hc
      refine ga_aload_n hC dL_isRefused_30 1 rfl rfl ?_
      refine ga_iconst (v := 0) hC dL_isRefused_31 (by decide) ?_
      refine ga_bipush (v := 10) hC dL_isRefused_32 (by decide) ?_
      refine ga_iconst (v := 0) hC dL_isRefused_34 (by decide) ?_
      refine gp_callW (As := [.ref (ad 0), .int 0, .int 10, .int 0]) (st := []) (n := 4) (Nat.le_refl _) cg_in.rf hY h ql_3_223 ql_3_224 ql_1_0 (cg_in3 225 (by decide +kernel) (by decide +kernel)) rfl rfl rfl (by decide +kernel) ⟨by show _ ≤ 500; omega, by show _ ≤ 3000; omega⟩ ⟨Nat.le_of_ble_eq_true rfl, Nat.le_of_ble_eq_true rfl⟩ rfl rfl (Nat.le_of_ble_eq_true rfl) dL_isRefused_35 (fun v s8 hq => ⟨s8, cg_in.rf, cg_ke.rf, ?_⟩)
      obtain ⟨r7, rfl, h⟩ := hq
      refine ga_bipush (v := (-78)) hC dL_isRefused_38 (by decide) ?_
      refine ga_icmp_ne (tgt := 157) hC dL_isRefused_40 (by decide) (fun hc => ?_) (fun hc => ?_)
      · have h := h.1 hc
        refine ga_iconst (v := 0) hC dL_isRefused_157 (by decide) ?_
        refine ga_locals [1, 2, 0] rfl ?_
        refine gp_kc (k := 206) (by omega) (by omega) ?_
        exact h p l e s m args below meth c D cy ad hY
      · have h := h.2 hc
        refine ga_aload_n hC dL_isRefused_43 1 rfl rfl ?_
        refine ga_iconst (v := 0) hC dL_isRefused_44 (by decide) ?_
        refine ga_iconst (v := 0) hC dL_isRefused_45 (by decide) ?_
        refine ga_iconst (v := 0) hC dL_isRefused_46 (by decide) ?_
        refine ga_bipush (v := 7) hC dL_isRefused_47 (by decide) ?_
        refine gp_callW (As := [.ref (ad 0), .int 0, .int 0, .int 0, .int 7]) (st := []) (n := 5) (Nat.le_refl _) cg_in.rf hY h ql_4_41 ql_4_42 ql_1_0 (cg_in4 43 (by decide +kernel) (by decide +kernel)) rfl rfl rfl (by decide +kernel) ⟨by show _ ≤ 500; omega, by show _ ≤ 3000; omega⟩ ⟨Nat.le_of_ble_eq_true rfl, Nat.le_of_ble_eq_true rfl⟩ rfl rfl (Nat.le_of_ble_eq_true rfl) dL_isRefused_49 (fun v s10 hq => ⟨s10, cg_in.rf, cg_ke.rf, ?_⟩)
        obtain ⟨r9, rfl, h⟩ := hq
        refine ga_bipush (v := (-78)) hC dL_isRefused_52 (by decide) ?_
        refine ga_icmp_ne (tgt := 157) hC dL_isRefused_54 (by decide) (fun hc => ?_) (fun hc => ?_)
        · have h := h.1 hc
          refine ga_iconst (v := 0) hC dL_isRefused_157 (by decide) ?_
          refine ga_locals [1, 2, 0] rfl ?_
          refine gp_kc (k := 209) (by omega) (by omega) ?_
          exact h p l e s m args below meth c D cy ad hY
        · have h := h.2 hc
          refine ga_aload_n hC dL_isRefused_57 1 rfl rfl ?_
          refine ga_iconst (v := 0) hC dL_isRefused_58 (by decide) ?_
          refine ga_iconst (v := 3) hC dL_isRefused_59 (by decide) ?_
          refine ga_iconst (v := 0) hC dL_isRefused_60 (by decide) ?_
          refine ga_iconst (v := 1) hC dL_isRefused_61 (by decide) ?_
          refine gp_callW (As := [.ref (ad 0), .int 0, .int 3, .int 0, .int 1]) (st := []) (n := 5) (Nat.le_refl _) cg_in.rf hY h ql_4_41 ql_4_42 ql_1_0 (cg_in4 43 (by decide +kernel) (by decide +kernel)) rfl rfl rfl (by decide +kernel) ⟨by show _ ≤ 500; omega, by show _ ≤ 3000; omega⟩ ⟨Nat.le_of_ble_eq_true rfl, Nat.le_of_ble_eq_true rfl⟩ rfl rfl (Nat.le_of_ble_eq_true rfl) dL_isRefused_62 (fun v s12 hq => ⟨s12, cg_in.rf, cg_ke.rf, ?_⟩)
          obtain ⟨r11, rfl, h⟩ := hq
          refine ga_bipush (v := (-77)) hC dL_isRefused_65 (by decide) ?_
          refine ga_icmp_ne (tgt := 157) hC dL_isRefused_67 (by decide) (fun hc => ?_) (fun hc => ?_)
          · have h := h.1 hc
            refine ga_iconst (v := 0) hC dL_isRefused_157 (by decide) ?_
            refine ga_locals [1, 2, 0] rfl ?_
            refine gp_kc (k := 212) (by omega) (by omega) ?_
            exact h p l e s m args below meth c D cy ad hY
          · have h := h.2 hc
            refine ga_aload_n hC dL_isRefused_70 1 rfl rfl ?_
            refine ga_iconst (v := 3) hC dL_isRefused_71 (by decide) ?_
            refine ga_iconst (v := 2) hC dL_isRefused_72 (by decide) ?_
            refine gp_callW (As := [.ref (ad 0), .int 3, .int 2]) (st := []) (n := 3) (Nat.le_refl _) cg_in.rf hY h ql_6_105 ql_6_106 ql_1_0 (cg_in6 107 (by decide +kernel) (by decide +kernel)) rfl rfl rfl (by decide +kernel) ⟨by show _ ≤ 500; omega, by show _ ≤ 3000; omega⟩ ⟨Nat.le_of_ble_eq_true rfl, Nat.le_of_ble_eq_true rfl⟩ rfl rfl (Nat.le_of_ble_eq_true rfl) dL_isRefused_73 (fun v s14 hq => ⟨s14, cg_in.rf, cg_ke.rf, ?_⟩)
            obtain ⟨r13, rfl, h⟩ := hq
            refine ga_bipush (v := (-78)) hC dL_isRefused_76 (by decide) ?_
            refine ga_icmp_ne (tgt := 157) hC dL_isRefused_78 (by decide) (fun hc => ?_) (fun hc => ?_)
            · have h := h.1 hc
              refine ga_iconst (v := 0) hC dL_isRefused_157 (by decide) ?_
              refine ga_locals [1, 2, 0] rfl ?_
              refine gp_kc (k := 213) (by omega) (by omega) ?_
              exact h p l e s m args below meth c D cy ad hY
            · have h := h.2 hc
              refine ga_aload_n hC dL_isRefused_81 1 rfl rfl ?_
              refine ga_iconst (v := 4) hC dL_isRefused_82 (by decide) ?_
              refine ga_iconst (v := 4) hC dL_isRefused_83 (by decide) ?_
              refine gp_callW (As := [.ref (ad 0), .int 4, .int 4]) (st := []) (n := 3) (Nat.le_refl _) cg_in.rf hY h ql_6_117 ql_6_118 ql_1_0 (cg_in6 119 (by decide +kernel) (by decide +kernel)) rfl rfl rfl (by decide +kernel) ⟨by show _ ≤ 500; omega, by show _ ≤ 3000; omega⟩ ⟨Nat.le_of_ble_eq_true rfl, Nat.le_of_ble_eq_true rfl⟩ rfl rfl (Nat.le_of_ble_eq_true rfl) dL_isRefused_84 (fun v s16 hq => ⟨s16, cg_in.rf, cg_ke.rf, ?_⟩)
              obtain ⟨r15, rfl, h⟩ := hq
              refine ga_bipush (v := (-78)) hC dL_isRefused_87 (by decide) ?_
              refine ga_icmp_ne (tgt := 157) hC dL_isRefused_89 (by decide) (fun hc => ?_) (fun hc => ?_)
              · have h := h.1 hc
                refine ga_iconst (v := 0) hC dL_isRefused_157 (by decide) ?_
                refine ga_locals [1, 2, 0] rfl ?_
                refine gp_kc (k := 214) (by omega) (by omega) ?_
                exact h p l e s m args below meth c D cy ad hY
              · have h := h.2 hc
                refine ga_aload_n hC dL_isRefused_92 1 rfl rfl ?_
                refine ga_iconst (v := 0) hC dL_isRefused_93 (by decide) ?_
                refine ga_iconst (v := 3) hC dL_isRefused_94 (by decide) ?_
                refine gp_callW (As := [.ref (ad 0), .int 0, .int 3]) (st := []) (n := 3) (Nat.le_refl _) cg_in.rf hY h ql_6_129 ql_6_130 ql_1_0 (cg_in6 131 (by decide +kernel) (by decide +kernel)) rfl rfl rfl (by decide +kernel) ⟨by show _ ≤ 500; omega, by show _ ≤ 3000; omega⟩ ⟨Nat.le_of_ble_eq_true rfl, Nat.le_of_ble_eq_true rfl⟩ rfl rfl (Nat.le_of_ble_eq_true rfl) dL_isRefused_95 (fun v s18 hq => ⟨s18, cg_in.rf, cg_ke.rf, ?_⟩)
                obtain ⟨r17, rfl, h⟩ := hq
                refine ga_bipush (v := (-77)) hC dL_isRefused_98 (by decide) ?_
                refine ga_icmp_ne (tgt := 157) hC dL_isRefused_100 (by decide) (fun hc => ?_) (fun hc => ?_)
                · have h := h.1 hc
                  refine ga_iconst (v := 0) hC dL_isRefused_157 (by decide) ?_
                  refine ga_locals [1, 2, 0] rfl ?_
                  refine gp_kc (k := 215) (by omega) (by omega) ?_
                  exact h p l e s m args below meth c D cy ad hY
                · have h := h.2 hc
                  refine ga_aload_n hC dL_isRefused_103 1 rfl rfl ?_
                  refine ga_bipush (v := 112) hC dL_isRefused_104 (by decide) ?_
                  refine gp_callW (As := [.ref (ad 0), .int 112]) (st := []) (n := 2) (Nat.le_refl _) cg_in.rf hY h ql_4_84 ql_4_85 ql_1_0 (cg_in4 86 (by decide +kernel) (by decide +kernel)) rfl rfl rfl (by decide +kernel) ⟨by show _ ≤ 500; omega, by show _ ≤ 3000; omega⟩ ⟨Nat.le_of_ble_eq_true rfl, Nat.le_of_ble_eq_true rfl⟩ rfl rfl (Nat.le_of_ble_eq_true rfl) dL_isRefused_106 (fun v s20 hq => ⟨s20, cg_in.rf, cg_ke.rf, ?_⟩)
                  obtain ⟨r19, rfl, h⟩ := hq
                  refine ga_bipush (v := (-78)) hC dL_isRefused_109 (by decide) ?_
                  refine ga_icmp_ne (tgt := 157) hC dL_isRefused_111 (by decide) (fun hc => ?_) (fun hc => ?_)
                  · have h := h.1 hc
                    refine ga_iconst (v := 0) hC dL_isRefused_157 (by decide) ?_
                    refine ga_locals [1, 2, 0] rfl ?_
                    refine gp_kc (k := 217) (by omega) (by omega) ?_
                    exact h p l e s m args below meth c D cy ad hY
                  · have h := h.2 hc
                    refine ga_aload_n hC dL_isRefused_114 1 rfl rfl ?_
                    refine ga_iconst (v := 0) hC dL_isRefused_115 (by decide) ?_
                    refine ga_iconst (v := (-1)) hC dL_isRefused_116 (by decide) ?_
                    refine gp_callW (As := [.ref (ad 0), .int 0, .int (-1)]) (st := []) (n := 3) (Nat.le_refl _) cg_in.rf hY h ql_5_112 ql_5_113 ql_1_0 (cg_in5 114 (by decide +kernel) (by decide +kernel)) rfl rfl rfl (by decide +kernel) ⟨by show _ ≤ 500; omega, by show _ ≤ 3000; omega⟩ ⟨Nat.le_of_ble_eq_true rfl, Nat.le_of_ble_eq_true rfl⟩ rfl rfl (Nat.le_of_ble_eq_true rfl) dL_isRefused_117 (fun v s22 hq => ⟨s22, cg_in.rf, cg_ke.rf, ?_⟩)
                    obtain ⟨r21, rfl, h⟩ := hq
                    refine ga_ldc2d hC ql_5_134 dL_isRefused_120 ?_
                    refine ga_dcmp hC dL_isRefused_123 ?_
                    refine ga_if_ne (tgt := 157) hC dL_isRefused_124 (by decide) (fun hc => ?_) (fun hc => ?_)
                    · have h := h.1 hc
                      refine ga_iconst (v := 0) hC dL_isRefused_157 (by decide) ?_
                      refine ga_locals [1, 2, 0] rfl ?_
                      refine gp_kc (k := 220) (by omega) (by omega) ?_
                      exact h p l e s m args below meth c D cy ad hY
                    · have h := h.2 hc
                      refine ga_aload_n hC dL_isRefused_127 1 rfl rfl ?_
                      refine ga_iconst (v := 0) hC dL_isRefused_128 (by decide) ?_
                      refine ga_bipush (v := 7) hC dL_isRefused_129 (by decide) ?_
                      refine gp_callW (As := [.ref (ad 0), .int 0, .int 7]) (st := []) (n := 3) (Nat.le_refl _) cg_in.rf hY h ql_6_59 ql_6_60 ql_1_0 (cg_in6 61 (by decide +kernel) (by decide +kernel)) rfl rfl rfl (by decide +kernel) ⟨by show _ ≤ 500; omega, by show _ ≤ 3000; omega⟩ ⟨Nat.le_of_ble_eq_true rfl, Nat.le_of_ble_eq_true rfl⟩ rfl rfl (Nat.le_of_ble_eq_true rfl) dL_isRefused_131 (fun v s24 hq => ⟨s24, cg_in.rf, cg_ke.rf, ?_⟩)
                      obtain ⟨r23, rfl, h⟩ := hq
                      refine ga_if_ge (tgt := 157) hC dL_isRefused_134 (by decide) (fun hc => ?_) (fun hc => ?_)
                      · have h := h.1 hc
                        refine ga_iconst (v := 0) hC dL_isRefused_157 (by decide) ?_
                        refine ga_locals [1, 2, 0] rfl ?_
                        refine gp_kc (k := 224) (by omega) (by omega) ?_
                        exact h p l e s m args below meth c D cy ad hY
                      · have h := h.2 hc
                        refine ga_aload_n hC dL_isRefused_137 1 rfl rfl ?_
                        refine ga_bipush (v := 120) hC dL_isRefused_138 (by decide) ?_
                        refine ga_bipush (v := 114) hC dL_isRefused_140 (by decide) ?_
                        refine ga_iconst (v := 0) hC dL_isRefused_142 (by decide) ?_
                        refine gp_callW (As := [.ref (ad 0), .int 120, .int 114, .int 0]) (st := []) (n := 4) (Nat.le_refl _) cg_in.rf hY h ql_5_64 ql_5_65 ql_1_0 (cg_in5 66 (by decide +kernel) (by decide +kernel)) rfl rfl rfl (by decide +kernel) ⟨by show _ ≤ 500; omega, by show _ ≤ 3000; omega⟩ ⟨Nat.le_of_ble_eq_true rfl, Nat.le_of_ble_eq_true rfl⟩ rfl rfl (Nat.le_of_ble_eq_true rfl) dL_isRefused_143 (fun v s26 hq => ⟨s26, cg_in.rf, cg_ke.rf, ?_⟩)
                        obtain ⟨r25, rfl, h⟩ := hq
                        refine ga_ldc2 hC ql_4_173 dL_isRefused_146 ?_
                        refine ga_lcmp hC dL_isRefused_149 ?_
                        refine ga_if_ne (tgt := 157) hC dL_isRefused_150 (by decide) (fun hc => ?_) (fun hc => ?_)
                        · have h := h.1 (cg_cmp_ne.1 hc)
                          refine ga_iconst (v := 0) hC dL_isRefused_157 (by decide) ?_
                          refine ga_locals [1, 2, 0] rfl ?_
                          refine gp_kc (k := 228) (by omega) (by omega) ?_
                          exact h p l e s m args below meth c D cy ad hY
                        · have h := h.2 (cg_cmp_ne.2 hc)
                          refine ga_iconst (v := 1) hC dL_isRefused_153 (by decide) ?_
                          refine ga_goto (tgt := 158) hC dL_isRefused_154 (by decide) ?_
                          refine ga_locals [1, 2, 0] rfl ?_
                          refine gp_kc (k := 228) (by omega) (by omega) ?_
                          exact h p l e s m args below meth c D cy ad hY
def M_L_areClasses (v1 : Int32) (σ : cg_S) (Q : Int32 → cg_S → Prop) : Prop := cp_M cg_WC yL_areClasses (Cond.code yL_areClasses cL_areClasses 8 (some .boolean)) (cg_RX 8 400) 400 2400 (fun ad => [.ref (ad 0), .int v1]) σ (cg_qi Q)
theorem M_L_areClasses.mono {v1 : Int32} {σ : cg_S} {Q Q2 : Int32 → cg_S → Prop} (h : M_L_areClasses v1 σ Q) (hq : ∀ r τ, Q r τ → Q2 r τ) : M_L_areClasses v1 σ Q2 := cp_M.mono h (fun ad v τ ⟨r, e, q⟩ => ⟨r, e, hq r τ q⟩)
def L_L_areClasses_7 (kc : Nat) (v1 : Int32) (v2 : Int32) (v3 : Int32) (v4 : Int32) (σ : cg_S) (Q : Int32 → cg_S → Prop) : Prop := cp_L cg_WC RL cL_areClasses 8 (some .boolean) [] (cg_RX 8 400) 400 2400 7 (fun ad => [(0, .ref (ad 0)), (1, .int v1), (2, .int v2), (3, .int v3), (4, .int v4)]) (fun ad => []) kc (6 * kc) σ (cg_qi Q)
def L_L_areClasses_34 (kc : Nat) (v1 : Int32) (v3 : Int32) (v4 : Int32) (v5 : Int32) (t0 : Int32) (t1 : Int32) (σ : cg_S) (Q : Int32 → cg_S → Prop) : Prop := cp_L cg_WC RL cL_areClasses 8 (some .boolean) [] (cg_RX 8 400) 400 2400 34 (fun ad => [(0, .ref (ad 0)), (1, .int v1), (3, .int v3), (4, .int v4), (5, .int v5)]) (fun ad => [.int t1, .int t0]) kc (6 * kc) σ (cg_qi Q)
def L_L_areClasses_75 (kc : Nat) (v1 : Int32) (v2 : Int32) (v3 : Int32) (v4 : Int32) (v5 : Int32) (v6 : Int32) (σ : cg_S) (Q : Int32 → cg_S → Prop) : Prop := cp_L cg_WC RL cL_areClasses 8 (some .boolean) [] (cg_RX 8 400) 400 2400 75 (fun ad => [(0, .ref (ad 0)), (1, .int v1), (2, .int v2), (3, .int v3), (4, .int v4), (5, .int v5), (6, .int v6)]) (fun ad => []) kc (6 * kc) σ (cg_qi Q)
set_option maxRecDepth 100000 in
set_option maxHeartbeats 4000000 in
theorem v_L_areClasses_75 {kc : Nat} {v1 : Int32} {v2 : Int32} {v3 : Int32} {v4 : Int32} {v5 : Int32} {v6 : Int32} {σ : cg_S} {Q : Int32 → cg_S → Prop} (hk : kc + 12 ≤ 400) 
    (h : (4 ≤ v6 → L_L_areClasses_7 kc v1 v2 v3 (v4 + 1) σ Q) ∧ (¬ 4 ≤ v6 → vp_in v6 4 ∧ ∀ x2 : Int32, x2 = aimc v6 → M_L_above x2 v5 σ (fun r3 s4 => M_L_above x2 v4 s4 (fun r5 s6 => (¬ r3 = r5 → ∀ x7 : Int32, x7 = v3 &&& 0 → L_L_areClasses_75 (kc + 6) v1 v2 x7 v4 v5 (v6 + 1) s6 Q) ∧ (r3 = r5 → M_L_below x2 v5 s6 (fun r8 s9 => M_L_below x2 v4 s9 (fun r10 s11 => (¬ r8 = r10 → ∀ x12 : Int32, x12 = v3 &&& 0 → L_L_areClasses_75 (kc + 12) v1 v2 x12 v4 v5 (v6 + 1) s11 Q) ∧ (r8 = r10 → ∀ x13 : Int32, x13 = v3 &&& 1 → L_L_areClasses_75 (kc + 12) v1 v2 x13 v4 v5 (v6 + 1) s11 Q)))))))) : L_L_areClasses_75 kc v1 v2 v3 v4 v5 v6 σ Q := by
  intro p l e s m args below meth c D cy ad hY
  have hC := hY.1
  refine ga_iload hC dL_areClasses_75 6 rfl ?_
  refine ga_iconst (v := 4) hC dL_areClasses_77 (by decide) ?_
  refine ga_icmp_ge (tgt := 144) hC dL_areClasses_78 (by decide) (fun hc => ?_) (fun hc => ?_)
  · have h := h.1 hc
    refine ga_iinc (v := v4 + 1) (lv' := [(4, .int (v4 + 1)), (0, .ref (ad 0)), (1, .int v1), (2, .int v2), (3, .int v3), (5, .int v5), (6, .int v6)]) hC dL_areClasses_144 4 rfl rfl (by decide) rfl ?_
    refine ga_goto (tgt := 7) hC dL_areClasses_147 (by decide) ?_
    refine ga_locals [1, 2, 3, 4, 0] rfl ?_
    refine gp_kc (k := kc) (by omega) (by omega) ?_
    exact h p l e s m args below meth c D cy ad hY
  · have h := h.2 hc
    obtain ⟨sa, sc, hsp⟩ := hY.2.2.2.2.2.2
    refine gs_ldc hC hsp dL_areClasses_81 ?_
    refine ga_iload hC dL_areClasses_83 6 rfl ?_
    obtain ⟨h1, h⟩ := h
    refine gs_callV (As := [.int v6]) (st := []) (n := 1) hC hsp (j_charAt h1) ql_5_148 ql_5_149 ql_5_150 ql_1_20 ql_5_151 rfl rfl (by decide +kernel) ⟨by show _ ≤ 400; omega, by show _ ≤ 2400; omega⟩ ⟨Nat.le_of_ble_eq_true rfl, Nat.le_of_ble_eq_true rfl⟩ rfl rfl (Nat.le_of_ble_eq_true rfl) dL_areClasses_85 (fun v hq => ?_)
    subst hq
    refine ga_topi (fun x2 ex2 => ?_)
    have h := h x2 ex2
    refine ga_istore (lv' := [(7, .int x2), (0, .ref (ad 0)), (1, .int v1), (2, .int v2), (3, .int v3), (4, .int v4), (5, .int v5), (6, .int v6)]) hC dL_areClasses_88 (by decide) rfl ?_
    refine ga_iload_n hC dL_areClasses_90 4 rfl rfl ?_
    refine ga_aload_n hC dL_areClasses_91 1 rfl rfl ?_
    refine ga_iload hC dL_areClasses_92 0 rfl ?_
    refine ga_iload hC dL_areClasses_94 6 rfl ?_
    refine gp_callW (As := [.ref (ad 0), .int x2, .int v5]) (st := [.int v3]) (n := 3) (Nat.le_refl _) cg_in.rf hY h ql_4_144 ql_4_145 ql_1_0 (cg_in4 146 (by decide +kernel) (by decide +kernel)) rfl rfl rfl (by decide +kernel) ⟨by show _ ≤ 400; omega, by show _ ≤ 2400; omega⟩ ⟨Nat.le_of_ble_eq_true rfl, Nat.le_of_ble_eq_true rfl⟩ rfl rfl (Nat.le_of_ble_eq_true rfl) dL_areClasses_96 (fun v s4 hq => ⟨s4, cg_in.rf, cg_ke.rf, ?_⟩)
    obtain ⟨r3, rfl, h⟩ := hq
    refine ga_aload_n hC dL_areClasses_99 1 rfl rfl ?_
    refine ga_iload hC dL_areClasses_100 0 rfl ?_
    refine ga_iload hC dL_areClasses_102 5 rfl ?_
    refine gp_callW (As := [.ref (ad 0), .int x2, .int v4]) (st := [.long r3, .int v3]) (n := 3) (Nat.le_refl _) cg_in.rf hY h ql_4_144 ql_4_145 ql_1_0 (cg_in4 146 (by decide +kernel) (by decide +kernel)) rfl rfl rfl (by decide +kernel) ⟨by show _ ≤ 400; omega, by show _ ≤ 2400; omega⟩ ⟨Nat.le_of_ble_eq_true rfl, Nat.le_of_ble_eq_true rfl⟩ rfl rfl (Nat.le_of_ble_eq_true rfl) dL_areClasses_104 (fun v s6 hq => ⟨s6, cg_in.rf, cg_ke.rf, ?_⟩)
    obtain ⟨r5, rfl, h⟩ := hq
    refine ga_lcmp hC dL_areClasses_107 ?_
    refine ga_if_ne (tgt := 135) hC dL_areClasses_108 (by decide) (fun hc => ?_) (fun hc => ?_)
    · have h := h.1 (cg_cmp_ne.1 hc)
      refine ga_iconst (v := 0) hC dL_areClasses_135 (by decide) ?_
      refine ga_iand hC dL_areClasses_136 ?_
      refine ga_topi (fun x7 ex7 => ?_)
      have h := h x7 ex7
      refine ga_istore_n (lv' := [(3, .int x7), (7, .int x2), (0, .ref (ad 0)), (1, .int v1), (2, .int v2), (4, .int v4), (5, .int v5), (6, .int v6)]) hC dL_areClasses_137 rfl (by decide) rfl ?_
      refine ga_iinc (v := v6 + 1) (lv' := [(6, .int (v6 + 1)), (3, .int x7), (7, .int x2), (0, .ref (ad 0)), (1, .int v1), (2, .int v2), (4, .int v4), (5, .int v5)]) hC dL_areClasses_138 7 rfl rfl (by decide) rfl ?_
      refine ga_goto (tgt := 75) hC dL_areClasses_141 (by decide) ?_
      refine ga_locals [3, 4, 5, 1, 6, 7, 0] rfl ?_
      refine gp_kc (k := kc + 6) (by omega) (by omega) ?_
      exact h p l e s m args below meth c D cy ad hY
    · have h := h.2 (cg_cmp_ne.2 hc)
      refine ga_aload_n hC dL_areClasses_111 1 rfl rfl ?_
      refine ga_iload hC dL_areClasses_112 0 rfl ?_
      refine ga_iload hC dL_areClasses_114 6 rfl ?_
      refine gp_callW (As := [.ref (ad 0), .int x2, .int v5]) (st := [.int v3]) (n := 3) (Nat.le_refl _) cg_in.rf hY h ql_4_176 ql_4_177 ql_1_0 (cg_in4 178 (by decide +kernel) (by decide +kernel)) rfl rfl rfl (by decide +kernel) ⟨by show _ ≤ 400; omega, by show _ ≤ 2400; omega⟩ ⟨Nat.le_of_ble_eq_true rfl, Nat.le_of_ble_eq_true rfl⟩ rfl rfl (Nat.le_of_ble_eq_true rfl) dL_areClasses_116 (fun v s9 hq => ⟨s9, cg_in.rf, cg_ke.rf, ?_⟩)
      obtain ⟨r8, rfl, h⟩ := hq
      refine ga_aload_n hC dL_areClasses_119 1 rfl rfl ?_
      refine ga_iload hC dL_areClasses_120 0 rfl ?_
      refine ga_iload hC dL_areClasses_122 5 rfl ?_
      refine gp_callW (As := [.ref (ad 0), .int x2, .int v4]) (st := [.long r8, .int v3]) (n := 3) (Nat.le_refl _) cg_in.rf hY h ql_4_176 ql_4_177 ql_1_0 (cg_in4 178 (by decide +kernel) (by decide +kernel)) rfl rfl rfl (by decide +kernel) ⟨by show _ ≤ 400; omega, by show _ ≤ 2400; omega⟩ ⟨Nat.le_of_ble_eq_true rfl, Nat.le_of_ble_eq_true rfl⟩ rfl rfl (Nat.le_of_ble_eq_true rfl) dL_areClasses_124 (fun v s11 hq => ⟨s11, cg_in.rf, cg_ke.rf, ?_⟩)
      obtain ⟨r10, rfl, h⟩ := hq
      refine ga_lcmp hC dL_areClasses_127 ?_
      refine ga_if_ne (tgt := 135) hC dL_areClasses_128 (by decide) (fun hc => ?_) (fun hc => ?_)
      · have h := h.1 (cg_cmp_ne.1 hc)
        refine ga_iconst (v := 0) hC dL_areClasses_135 (by decide) ?_
        refine ga_iand hC dL_areClasses_136 ?_
        refine ga_topi (fun x12 ex12 => ?_)
        have h := h x12 ex12
        refine ga_istore_n (lv' := [(3, .int x12), (7, .int x2), (0, .ref (ad 0)), (1, .int v1), (2, .int v2), (4, .int v4), (5, .int v5), (6, .int v6)]) hC dL_areClasses_137 rfl (by decide) rfl ?_
        refine ga_iinc (v := v6 + 1) (lv' := [(6, .int (v6 + 1)), (3, .int x12), (7, .int x2), (0, .ref (ad 0)), (1, .int v1), (2, .int v2), (4, .int v4), (5, .int v5)]) hC dL_areClasses_138 7 rfl rfl (by decide) rfl ?_
        refine ga_goto (tgt := 75) hC dL_areClasses_141 (by decide) ?_
        refine ga_locals [3, 4, 5, 1, 6, 7, 0] rfl ?_
        refine gp_kc (k := kc + 12) (by omega) (by omega) ?_
        exact h p l e s m args below meth c D cy ad hY
      · have h := h.2 (cg_cmp_ne.2 hc)
        refine ga_iconst (v := 1) hC dL_areClasses_131 (by decide) ?_
        refine ga_goto (tgt := 136) hC dL_areClasses_132 (by decide) ?_
        refine ga_iand hC dL_areClasses_136 ?_
        refine ga_topi (fun x13 ex13 => ?_)
        have h := h x13 ex13
        refine ga_istore_n (lv' := [(3, .int x13), (7, .int x2), (0, .ref (ad 0)), (1, .int v1), (2, .int v2), (4, .int v4), (5, .int v5), (6, .int v6)]) hC dL_areClasses_137 rfl (by decide) rfl ?_
        refine ga_iinc (v := v6 + 1) (lv' := [(6, .int (v6 + 1)), (3, .int x13), (7, .int x2), (0, .ref (ad 0)), (1, .int v1), (2, .int v2), (4, .int v4), (5, .int v5)]) hC dL_areClasses_138 7 rfl rfl (by decide) rfl ?_
        refine ga_goto (tgt := 75) hC dL_areClasses_141 (by decide) ?_
        refine ga_locals [3, 4, 5, 1, 6, 7, 0] rfl ?_
        refine gp_kc (k := kc + 12) (by omega) (by omega) ?_
        exact h p l e s m args below meth c D cy ad hY
set_option maxRecDepth 100000 in
set_option maxHeartbeats 4000000 in
theorem v_L_areClasses_34 {kc : Nat} {v1 : Int32} {v3 : Int32} {v4 : Int32} {v5 : Int32} {t0 : Int32} {t1 : Int32} {σ : cg_S} {Q : Int32 → cg_S → Prop} (hk : kc + 3 ≤ 400) 
    (h : ∀ x1 : Int32, x1 = t0 + t1 → (v4 < v5 → ∀ x2 : Int32, x2 = v3 &&& 0 → L_L_areClasses_75 kc v1 x1 x2 v4 v5 0 σ Q) ∧ (¬ v4 < v5 → M_L_classOf v5 σ (fun r3 s4 => (¬ r3 = v5 → ∀ x5 : Int32, x5 = v3 &&& 0 → L_L_areClasses_75 (kc + 2) v1 x1 x5 v4 v5 0 s4 Q) ∧ (r3 = v5 → M_L_choices v4 s4 (fun r6 s7 => (r6 < 1 → ∀ x8 : Int32, x8 = v3 &&& 0 → L_L_areClasses_75 (kc + 3) v1 x1 x8 v4 v5 0 s7 Q) ∧ (¬ r6 < 1 → ∀ x9 : Int32, x9 = v3 &&& 1 → L_L_areClasses_75 (kc + 3) v1 x1 x9 v4 v5 0 s7 Q)))))) : L_L_areClasses_34 kc v1 v3 v4 v5 t0 t1 σ Q := by
  intro p l e s m args below meth c D cy ad hY
  have hC := hY.1
  refine ga_iadd hC dL_areClasses_34 ?_
  refine ga_topi (fun x1 ex1 => ?_)
  have h := h x1 ex1
  refine ga_istore_n (lv' := [(2, .int x1), (0, .ref (ad 0)), (1, .int v1), (3, .int v3), (4, .int v4), (5, .int v5)]) hC dL_areClasses_35 rfl (by decide) rfl ?_
  refine ga_iload_n hC dL_areClasses_36 3 rfl rfl ?_
  refine ga_iload hC dL_areClasses_37 5 rfl ?_
  refine ga_iload hC dL_areClasses_39 4 rfl ?_
  refine ga_icmp_gt (tgt := 69) hC dL_areClasses_41 (by decide) (fun hc => ?_) (fun hc => ?_)
  · have h := h.1 hc
    refine ga_iconst (v := 0) hC dL_areClasses_69 (by decide) ?_
    refine ga_iand hC dL_areClasses_70 ?_
    refine ga_topi (fun x2 ex2 => ?_)
    have h := h x2 ex2
    refine ga_istore_n (lv' := [(3, .int x2), (2, .int x1), (0, .ref (ad 0)), (1, .int v1), (4, .int v4), (5, .int v5)]) hC dL_areClasses_71 rfl (by decide) rfl ?_
    refine ga_iconst (v := 0) hC dL_areClasses_72 (by decide) ?_
    refine ga_istore (lv' := [(6, .int 0), (3, .int x2), (2, .int x1), (0, .ref (ad 0)), (1, .int v1), (4, .int v4), (5, .int v5)]) hC dL_areClasses_73 (by decide) rfl ?_
    refine ga_locals [3, 4, 2, 1, 5, 6, 0] rfl ?_
    refine gp_kc (k := kc) (by omega) (by omega) ?_
    exact h p l e s m args below meth c D cy ad hY
  · have h := h.2 hc
    refine ga_aload_n hC dL_areClasses_44 1 rfl rfl ?_
    refine ga_iload hC dL_areClasses_45 5 rfl ?_
    refine gp_callW (As := [.ref (ad 0), .int v5]) (st := [.int v3]) (n := 2) (Nat.le_refl _) cg_in.rf hY h ql_5_140 ql_5_141 ql_1_0 (cg_in5 142 (by decide +kernel) (by decide +kernel)) rfl rfl rfl (by decide +kernel) ⟨by show _ ≤ 400; omega, by show _ ≤ 2400; omega⟩ ⟨Nat.le_of_ble_eq_true rfl, Nat.le_of_ble_eq_true rfl⟩ rfl rfl (Nat.le_of_ble_eq_true rfl) dL_areClasses_47 (fun v s4 hq => ⟨s4, cg_in.rf, cg_ke.rf, ?_⟩)
    obtain ⟨r3, rfl, h⟩ := hq
    refine ga_iload hC dL_areClasses_50 5 rfl ?_
    refine ga_icmp_ne (tgt := 69) hC dL_areClasses_52 (by decide) (fun hc => ?_) (fun hc => ?_)
    · have h := h.1 hc
      refine ga_iconst (v := 0) hC dL_areClasses_69 (by decide) ?_
      refine ga_iand hC dL_areClasses_70 ?_
      refine ga_topi (fun x5 ex5 => ?_)
      have h := h x5 ex5
      refine ga_istore_n (lv' := [(3, .int x5), (2, .int x1), (0, .ref (ad 0)), (1, .int v1), (4, .int v4), (5, .int v5)]) hC dL_areClasses_71 rfl (by decide) rfl ?_
      refine ga_iconst (v := 0) hC dL_areClasses_72 (by decide) ?_
      refine ga_istore (lv' := [(6, .int 0), (3, .int x5), (2, .int x1), (0, .ref (ad 0)), (1, .int v1), (4, .int v4), (5, .int v5)]) hC dL_areClasses_73 (by decide) rfl ?_
      refine ga_locals [3, 4, 2, 1, 5, 6, 0] rfl ?_
      refine gp_kc (k := kc + 2) (by omega) (by omega) ?_
      exact h p l e s m args below meth c D cy ad hY
    · have h := h.2 hc
      refine ga_aload_n hC dL_areClasses_55 1 rfl rfl ?_
      refine ga_iload hC dL_areClasses_56 4 rfl ?_
      refine gp_callW (As := [.ref (ad 0), .int v4]) (st := [.int v3]) (n := 2) (Nat.le_refl _) cg_in.rf hY h ql_4_77 ql_4_78 ql_1_0 (cg_in4 79 (by decide +kernel) (by decide +kernel)) rfl rfl rfl (by decide +kernel) ⟨by show _ ≤ 400; omega, by show _ ≤ 2400; omega⟩ ⟨Nat.le_of_ble_eq_true rfl, Nat.le_of_ble_eq_true rfl⟩ rfl rfl (Nat.le_of_ble_eq_true rfl) dL_areClasses_58 (fun v s7 hq => ⟨s7, cg_in.rf, cg_ke.rf, ?_⟩)
      obtain ⟨r6, rfl, h⟩ := hq
      refine ga_iconst (v := 1) hC dL_areClasses_61 (by decide) ?_
      refine ga_icmp_lt (tgt := 69) hC dL_areClasses_62 (by decide) (fun hc => ?_) (fun hc => ?_)
      · have h := h.1 hc
        refine ga_iconst (v := 0) hC dL_areClasses_69 (by decide) ?_
        refine ga_iand hC dL_areClasses_70 ?_
        refine ga_topi (fun x8 ex8 => ?_)
        have h := h x8 ex8
        refine ga_istore_n (lv' := [(3, .int x8), (2, .int x1), (0, .ref (ad 0)), (1, .int v1), (4, .int v4), (5, .int v5)]) hC dL_areClasses_71 rfl (by decide) rfl ?_
        refine ga_iconst (v := 0) hC dL_areClasses_72 (by decide) ?_
        refine ga_istore (lv' := [(6, .int 0), (3, .int x8), (2, .int x1), (0, .ref (ad 0)), (1, .int v1), (4, .int v4), (5, .int v5)]) hC dL_areClasses_73 (by decide) rfl ?_
        refine ga_locals [3, 4, 2, 1, 5, 6, 0] rfl ?_
        refine gp_kc (k := kc + 3) (by omega) (by omega) ?_
        exact h p l e s m args below meth c D cy ad hY
      · have h := h.2 hc
        refine ga_iconst (v := 1) hC dL_areClasses_65 (by decide) ?_
        refine ga_goto (tgt := 70) hC dL_areClasses_66 (by decide) ?_
        refine ga_iand hC dL_areClasses_70 ?_
        refine ga_topi (fun x9 ex9 => ?_)
        have h := h x9 ex9
        refine ga_istore_n (lv' := [(3, .int x9), (2, .int x1), (0, .ref (ad 0)), (1, .int v1), (4, .int v4), (5, .int v5)]) hC dL_areClasses_71 rfl (by decide) rfl ?_
        refine ga_iconst (v := 0) hC dL_areClasses_72 (by decide) ?_
        refine ga_istore (lv' := [(6, .int 0), (3, .int x9), (2, .int x1), (0, .ref (ad 0)), (1, .int v1), (4, .int v4), (5, .int v5)]) hC dL_areClasses_73 (by decide) rfl ?_
        refine ga_locals [3, 4, 2, 1, 5, 6, 0] rfl ?_
        refine gp_kc (k := kc + 3) (by omega) (by omega) ?_
        exact h p l e s m args below meth c D cy ad hY
set_option maxRecDepth 100000 in
set_option maxHeartbeats 4000000 in
theorem v_L_areClasses_7 {kc : Nat} {v1 : Int32} {v2 : Int32} {v3 : Int32} {v4 : Int32} {σ : cg_S} {Q : Int32 → cg_S → Prop} (hk : kc + 2 ≤ 400) 
    (h : (v1 ≤ v4 → (v3 = 0 → Q 0 σ) ∧ (¬ v3 = 0 → M_L_classes σ (fun r1 s2 => (¬ r1 = v2 → Q 0 s2) ∧ (r1 = v2 → Q 1 s2)))) ∧ (¬ v1 ≤ v4 → M_L_classOf v4 σ (fun r3 s4 => (¬ r3 = v4 → L_L_areClasses_34 (kc + 2) v1 v3 v4 r3 v2 0 s4 Q) ∧ (r3 = v4 → L_L_areClasses_34 (kc + 2) v1 v3 v4 r3 v2 1 s4 Q)))) : L_L_areClasses_7 kc v1 v2 v3 v4 σ Q := by
  intro p l e s m args below meth c D cy ad hY
  have hC := hY.1
  refine ga_iload hC dL_areClasses_7 4 rfl ?_
  refine ga_iload_n hC dL_areClasses_9 1 rfl rfl ?_
  refine ga_icmp_ge (tgt := 150) hC dL_areClasses_10 (by decide) (fun hc => ?_) (fun hc => ?_)
  · have h := h.1 hc
    refine ga_iload_n hC dL_areClasses_150 3 rfl rfl ?_
    refine ga_if_eq (tgt := 166) hC dL_areClasses_151 (by decide) (fun hc => ?_) (fun hc => ?_)
    · have h := h.1 hc
      refine ga_iconst (v := 0) hC dL_areClasses_166 (by decide) ?_
      exact gx_zret hC dL_areClasses_167 ⟨by omega, by omega⟩ (by decide) ⟨_, rfl, h⟩
    · have h := h.2 hc
      refine ga_aload_n hC dL_areClasses_154 0 rfl rfl ?_
      refine gp_callW (As := [.ref (ad 0)]) (st := []) (n := 1) (Nat.le_refl _) cg_in.rf hY h ql_5_188 ql_5_189 ql_1_0 (cg_in5 190 (by decide +kernel) (by decide +kernel)) rfl rfl rfl (by decide +kernel) ⟨by show _ ≤ 400; omega, by show _ ≤ 2400; omega⟩ ⟨Nat.le_of_ble_eq_true rfl, Nat.le_of_ble_eq_true rfl⟩ rfl rfl (Nat.le_of_ble_eq_true rfl) dL_areClasses_155 (fun v s2 hq => ⟨s2, cg_in.rf, cg_ke.rf, ?_⟩)
      obtain ⟨r1, rfl, h⟩ := hq
      refine ga_iload_n hC dL_areClasses_158 2 rfl rfl ?_
      refine ga_icmp_ne (tgt := 166) hC dL_areClasses_159 (by decide) (fun hc => ?_) (fun hc => ?_)
      · have h := h.1 hc
        refine ga_iconst (v := 0) hC dL_areClasses_166 (by decide) ?_
        exact gx_zret hC dL_areClasses_167 ⟨by omega, by omega⟩ (by decide) ⟨_, rfl, h⟩
      · have h := h.2 hc
        refine ga_iconst (v := 1) hC dL_areClasses_162 (by decide) ?_
        refine ga_goto (tgt := 167) hC dL_areClasses_163 (by decide) ?_
        exact gx_zret hC dL_areClasses_167 ⟨by omega, by omega⟩ (by decide) ⟨_, rfl, h⟩
  · have h := h.2 hc
    refine ga_aload_n hC dL_areClasses_13 0 rfl rfl ?_
    refine ga_iload hC dL_areClasses_14 4 rfl ?_
    refine gp_callW (As := [.ref (ad 0), .int v4]) (st := []) (n := 2) (Nat.le_refl _) cg_in.rf hY h ql_5_140 ql_5_141 ql_1_0 (cg_in5 142 (by decide +kernel) (by decide +kernel)) rfl rfl rfl (by decide +kernel) ⟨by show _ ≤ 400; omega, by show _ ≤ 2400; omega⟩ ⟨Nat.le_of_ble_eq_true rfl, Nat.le_of_ble_eq_true rfl⟩ rfl rfl (Nat.le_of_ble_eq_true rfl) dL_areClasses_16 (fun v s4 hq => ⟨s4, cg_in.rf, cg_ke.rf, ?_⟩)
    obtain ⟨r3, rfl, h⟩ := hq
    refine ga_istore (lv' := [(5, .int r3), (0, .ref (ad 0)), (1, .int v1), (2, .int v2), (3, .int v3), (4, .int v4)]) hC dL_areClasses_19 (by decide) rfl ?_
    refine ga_iload_n hC dL_areClasses_21 3 rfl rfl ?_
    refine ga_iload hC dL_areClasses_22 0 rfl ?_
    refine ga_iload hC dL_areClasses_24 5 rfl ?_
    refine ga_icmp_ne (tgt := 33) hC dL_areClasses_26 (by decide) (fun hc => ?_) (fun hc => ?_)
    · have h := h.1 hc
      refine ga_iconst (v := 0) hC dL_areClasses_33 (by decide) ?_
      refine ga_locals [1, 2, 4, 5, 0] rfl ?_
      refine gp_kc (k := kc + 2) (by omega) (by omega) ?_
      exact h p l e s m args below meth c D cy ad hY
    · have h := h.2 hc
      refine ga_iconst (v := 1) hC dL_areClasses_29 (by decide) ?_
      refine ga_goto (tgt := 34) hC dL_areClasses_30 (by decide) ?_
      refine ga_locals [1, 2, 4, 5, 0] rfl ?_
      refine gp_kc (k := kc + 2) (by omega) (by omega) ?_
      exact h p l e s m args below meth c D cy ad hY
set_option maxRecDepth 100000 in
set_option maxHeartbeats 4000000 in
theorem v_L_areClasses {v1 : Int32} {σ : cg_S} {Q : Int32 → cg_S → Prop} 
    (h : L_L_areClasses_7 0 v1 0 1 0 σ Q) : M_L_areClasses v1 σ Q := by
  refine cp_entryH (lv := fun ad => [(0, .ref (ad 0)), (1, .int v1)]) (by decide +kernel) (fun _ => rfl) (fun _ => Nat.le_of_ble_eq_true rfl) ?_
  intro p l e s m args below meth c D cy ad hY
  have hC := hY.1
  refine ga_iconst (v := 0) hC dL_areClasses_0 (by decide) ?_
  refine ga_istore_n (lv' := [(2, .int 0), (0, .ref (ad 0)), (1, .int v1)]) hC dL_areClasses_1 rfl (by decide) rfl ?_
  refine ga_iconst (v := 1) hC dL_areClasses_2 (by decide) ?_
  refine ga_istore_n (lv' := [(3, .int 1), (2, .int 0), (0, .ref (ad 0)), (1, .int v1)]) hC dL_areClasses_3 rfl (by decide) rfl ?_
  refine ga_iconst (v := 0) hC dL_areClasses_4 (by decide) ?_
  refine ga_istore (lv' := [(4, .int 0), (3, .int 1), (2, .int 0), (0, .ref (ad 0)), (1, .int v1)]) hC dL_areClasses_5 (by decide) rfl ?_
  refine ga_locals [3, 4, 2, 1, 0] rfl ?_
  refine gp_kc (k := 0) (by omega) (by omega) ?_
  exact h p l e s m args below meth c D cy ad hY
def M_L_areClosed (v1 : Int32) (σ : cg_S) (Q : Int32 → cg_S → Prop) : Prop := cp_M cg_WC yL_areClosed (Cond.code yL_areClosed cL_areClosed 8 (some .boolean)) (cg_RX 6 300) 300 1800 (fun ad => [.ref (ad 0), .int v1]) σ (cg_qi Q)
theorem M_L_areClosed.mono {v1 : Int32} {σ : cg_S} {Q Q2 : Int32 → cg_S → Prop} (h : M_L_areClosed v1 σ Q) (hq : ∀ r τ, Q r τ → Q2 r τ) : M_L_areClosed v1 σ Q2 := cp_M.mono h (fun ad v τ ⟨r, e, q⟩ => ⟨r, e, hq r τ q⟩)
def L_L_areClosed_7 (kc : Nat) (v1 : Int32) (v2 : Int32) (v3 : Int32) (v4 : Int32) (σ : cg_S) (Q : Int32 → cg_S → Prop) : Prop := cp_L cg_WC RL cL_areClosed 8 (some .boolean) [] (cg_RX 6 300) 300 1800 7 (fun ad => [(0, .ref (ad 0)), (1, .int v1), (2, .int v2), (3, .int v3), (4, .int v4)]) (fun ad => []) kc (6 * kc) σ (cg_qi Q)
def L_L_areClosed_40 (kc : Nat) (v1 : Int32) (v2 : Int32) (v4 : Int32) (v5 : Int32) (v6 : Int32) (t0 : Int32) (t1 : Int32) (σ : cg_S) (Q : Int32 → cg_S → Prop) : Prop := cp_L cg_WC RL cL_areClosed 8 (some .boolean) [] (cg_RX 6 300) 300 1800 40 (fun ad => [(0, .ref (ad 0)), (1, .int v1), (2, .int v2), (4, .int v4), (5, .int v5), (6, .int v6)]) (fun ad => [.int t1, .int t0]) kc (6 * kc) σ (cg_qi Q)
def L_L_areClosed_90 (kc : Nat) (v1 : Int32) (v2 : Int32) (v3 : Int32) (v4 : Int32) (v5 : Int32) (v7 : Int32) (σ : cg_S) (Q : Int32 → cg_S → Prop) : Prop := cp_L cg_WC RL cL_areClosed 8 (some .boolean) [] (cg_RX 6 300) 300 1800 90 (fun ad => [(0, .ref (ad 0)), (1, .int v1), (2, .int v2), (3, .int v3), (4, .int v4), (5, .int v5), (7, .int v7)]) (fun ad => []) kc (6 * kc) σ (cg_qi Q)
set_option maxRecDepth 100000 in
set_option maxHeartbeats 4000000 in
theorem v_L_areClosed_90 {kc : Nat} {v1 : Int32} {v2 : Int32} {v3 : Int32} {v4 : Int32} {v5 : Int32} {v7 : Int32} {σ : cg_S} {Q : Int32 → cg_S → Prop} (hk : kc + 7 ≤ 300) 
    (h : (v1 ≤ v7 → L_L_areClosed_7 kc v1 v2 v3 (v4 + 1) σ Q) ∧ (¬ v1 ≤ v7 → (v5 < 0 → L_L_areClosed_7 kc v1 v2 v3 (v4 + 1) σ Q) ∧ (¬ v5 < 0 → M_L_told v4 σ (fun r1 s2 => M_L_chance v4 r1 v7 s2 (fun r3 s4 => (r3 = 1 → ∀ x5 : Int32, x5 = v2 &&& 1 → L_L_areClosed_90 (kc + 4) v1 x5 v3 v4 v5 (v7 + 1) s4 Q) ∧ (¬ r3 = 1 → M_L_closedOf v7 s4 (fun r6 s7 => (¬ r6 = v5 → ∀ x8 : Int32, x8 = v2 &&& 0 → L_L_areClosed_90 (kc + 7) v1 x8 v3 v4 v5 (v7 + 1) s7 Q) ∧ (r6 = v5 → ∀ x9 : Int32, x9 = v2 &&& 1 → L_L_areClosed_90 (kc + 7) v1 x9 v3 v4 v5 (v7 + 1) s7 Q)))))))) : L_L_areClosed_90 kc v1 v2 v3 v4 v5 v7 σ Q := by
  intro p l e s m args below meth c D cy ad hY
  have hC := hY.1
  refine ga_iload hC dL_areClosed_90 6 rfl ?_
  refine ga_iload_n hC dL_areClosed_92 1 rfl rfl ?_
  refine ga_icmp_ge (tgt := 144) hC dL_areClosed_93 (by decide) (fun hc => ?_) (fun hc => ?_)
  · have h := h.1 hc
    refine ga_iinc (v := v4 + 1) (lv' := [(4, .int (v4 + 1)), (0, .ref (ad 0)), (1, .int v1), (2, .int v2), (3, .int v3), (5, .int v5), (7, .int v7)]) hC dL_areClosed_144 4 rfl rfl (by decide) rfl ?_
    refine ga_goto (tgt := 7) hC dL_areClosed_147 (by decide) ?_
    refine ga_locals [1, 2, 3, 4, 0] rfl ?_
    refine gp_kc (k := kc) (by omega) (by omega) ?_
    exact h p l e s m args below meth c D cy ad hY
  · have h := h.2 hc
    refine ga_iload hC dL_areClosed_96 5 rfl ?_
    refine ga_if_lt (tgt := 144) hC dL_areClosed_98 (by decide) (fun hc => ?_) (fun hc => ?_)
    · have h := h.1 hc
      refine ga_iinc (v := v4 + 1) (lv' := [(4, .int (v4 + 1)), (0, .ref (ad 0)), (1, .int v1), (2, .int v2), (3, .int v3), (5, .int v5), (7, .int v7)]) hC dL_areClosed_144 4 rfl rfl (by decide) rfl ?_
      refine ga_goto (tgt := 7) hC dL_areClosed_147 (by decide) ?_
      refine ga_locals [1, 2, 3, 4, 0] rfl ?_
      refine gp_kc (k := kc) (by omega) (by omega) ?_
      exact h p l e s m args below meth c D cy ad hY
    · have h := h.2 hc
      refine ga_iload_n hC dL_areClosed_101 2 rfl rfl ?_
      refine ga_aload_n hC dL_areClosed_102 0 rfl rfl ?_
      refine ga_iload hC dL_areClosed_103 4 rfl ?_
      refine ga_aload_n hC dL_areClosed_105 0 rfl rfl ?_
      refine ga_iload hC dL_areClosed_106 4 rfl ?_
      refine gp_callW (As := [.ref (ad 0), .int v4]) (st := [.int v4, .ref (ad 0), .int v2]) (n := 2) (Nat.le_refl _) cg_in.rf hY h ql_4_134 ql_4_135 ql_1_0 (cg_in4 136 (by decide +kernel) (by decide +kernel)) rfl rfl rfl (by decide +kernel) ⟨by show _ ≤ 300; omega, by show _ ≤ 1800; omega⟩ ⟨Nat.le_of_ble_eq_true rfl, Nat.le_of_ble_eq_true rfl⟩ rfl rfl (Nat.le_of_ble_eq_true rfl) dL_areClosed_108 (fun v s2 hq => ⟨s2, cg_in.rf, cg_ke.rf, ?_⟩)
      obtain ⟨r1, rfl, h⟩ := hq
      refine ga_iload hC dL_areClosed_111 6 rfl ?_
      refine gp_callW (As := [.ref (ad 0), .int v4, .int r1, .int v7]) (st := [.int v2]) (n := 4) (Nat.le_refl _) cg_in.rf hY h ql_6_7 ql_6_8 ql_1_0 (cg_in6 9 (by decide +kernel) (by decide +kernel)) rfl rfl rfl (by decide +kernel) ⟨by show _ ≤ 300; omega, by show _ ≤ 1800; omega⟩ ⟨Nat.le_of_ble_eq_true rfl, Nat.le_of_ble_eq_true rfl⟩ rfl rfl (Nat.le_of_ble_eq_true rfl) dL_areClosed_113 (fun v s4 hq => ⟨s4, cg_in.rf, cg_ke.rf, ?_⟩)
      obtain ⟨r3, rfl, h⟩ := hq
      refine ga_iconst (v := 1) hC dL_areClosed_116 (by decide) ?_
      refine ga_icmp_eq (tgt := 131) hC dL_areClosed_117 (by decide) (fun hc => ?_) (fun hc => ?_)
      · have h := h.1 hc
        refine ga_iconst (v := 1) hC dL_areClosed_131 (by decide) ?_
        refine ga_goto (tgt := 136) hC dL_areClosed_132 (by decide) ?_
        refine ga_iand hC dL_areClosed_136 ?_
        refine ga_topi (fun x5 ex5 => ?_)
        have h := h x5 ex5
        refine ga_istore_n (lv' := [(2, .int x5), (0, .ref (ad 0)), (1, .int v1), (3, .int v3), (4, .int v4), (5, .int v5), (7, .int v7)]) hC dL_areClosed_137 rfl (by decide) rfl ?_
        refine ga_iinc (v := v7 + 1) (lv' := [(7, .int (v7 + 1)), (2, .int x5), (0, .ref (ad 0)), (1, .int v1), (3, .int v3), (4, .int v4), (5, .int v5)]) hC dL_areClosed_138 6 rfl rfl (by decide) rfl ?_
        refine ga_goto (tgt := 90) hC dL_areClosed_141 (by decide) ?_
        refine ga_locals [2, 3, 1, 4, 5, 6, 0] rfl ?_
        refine gp_kc (k := kc + 4) (by omega) (by omega) ?_
        exact h p l e s m args below meth c D cy ad hY
      · have h := h.2 hc
        refine ga_aload_n hC dL_areClosed_120 0 rfl rfl ?_
        refine ga_iload hC dL_areClosed_121 6 rfl ?_
        refine gp_callW (As := [.ref (ad 0), .int v7]) (st := [.int v2]) (n := 2) (Nat.le_refl _) cg_in.rf hY h ql_5_202 ql_5_203 ql_1_0 (cg_in5 204 (by decide +kernel) (by decide +kernel)) rfl rfl rfl (by decide +kernel) ⟨by show _ ≤ 300; omega, by show _ ≤ 1800; omega⟩ ⟨Nat.le_of_ble_eq_true rfl, Nat.le_of_ble_eq_true rfl⟩ rfl rfl (Nat.le_of_ble_eq_true rfl) dL_areClosed_123 (fun v s7 hq => ⟨s7, cg_in.rf, cg_ke.rf, ?_⟩)
        obtain ⟨r6, rfl, h⟩ := hq
        refine ga_iload hC dL_areClosed_126 5 rfl ?_
        refine ga_icmp_ne (tgt := 135) hC dL_areClosed_128 (by decide) (fun hc => ?_) (fun hc => ?_)
        · have h := h.1 hc
          refine ga_iconst (v := 0) hC dL_areClosed_135 (by decide) ?_
          refine ga_iand hC dL_areClosed_136 ?_
          refine ga_topi (fun x8 ex8 => ?_)
          have h := h x8 ex8
          refine ga_istore_n (lv' := [(2, .int x8), (0, .ref (ad 0)), (1, .int v1), (3, .int v3), (4, .int v4), (5, .int v5), (7, .int v7)]) hC dL_areClosed_137 rfl (by decide) rfl ?_
          refine ga_iinc (v := v7 + 1) (lv' := [(7, .int (v7 + 1)), (2, .int x8), (0, .ref (ad 0)), (1, .int v1), (3, .int v3), (4, .int v4), (5, .int v5)]) hC dL_areClosed_138 6 rfl rfl (by decide) rfl ?_
          refine ga_goto (tgt := 90) hC dL_areClosed_141 (by decide) ?_
          refine ga_locals [2, 3, 1, 4, 5, 6, 0] rfl ?_
          refine gp_kc (k := kc + 7) (by omega) (by omega) ?_
          exact h p l e s m args below meth c D cy ad hY
        · have h := h.2 hc
          refine ga_iconst (v := 1) hC dL_areClosed_131 (by decide) ?_
          refine ga_goto (tgt := 136) hC dL_areClosed_132 (by decide) ?_
          refine ga_iand hC dL_areClosed_136 ?_
          refine ga_topi (fun x9 ex9 => ?_)
          have h := h x9 ex9
          refine ga_istore_n (lv' := [(2, .int x9), (0, .ref (ad 0)), (1, .int v1), (3, .int v3), (4, .int v4), (5, .int v5), (7, .int v7)]) hC dL_areClosed_137 rfl (by decide) rfl ?_
          refine ga_iinc (v := v7 + 1) (lv' := [(7, .int (v7 + 1)), (2, .int x9), (0, .ref (ad 0)), (1, .int v1), (3, .int v3), (4, .int v4), (5, .int v5)]) hC dL_areClosed_138 6 rfl rfl (by decide) rfl ?_
          refine ga_goto (tgt := 90) hC dL_areClosed_141 (by decide) ?_
          refine ga_locals [2, 3, 1, 4, 5, 6, 0] rfl ?_
          refine gp_kc (k := kc + 7) (by omega) (by omega) ?_
          exact h p l e s m args below meth c D cy ad hY
set_option maxRecDepth 100000 in
set_option maxHeartbeats 4000000 in
theorem v_L_areClosed_40 {kc : Nat} {v1 : Int32} {v2 : Int32} {v4 : Int32} {v5 : Int32} {v6 : Int32} {t0 : Int32} {t1 : Int32} {σ : cg_S} {Q : Int32 → cg_S → Prop} (hk : kc + 3 ≤ 300) 
    (h : ∀ x1 : Int32, x1 = t0 ||| t1 → (v5 = (-75) → ∀ x2 : Int32, x2 = v2 &&& 1 → L_L_areClosed_90 kc v1 x2 x1 v4 v5 0 σ Q) ∧ (¬ v5 = (-75) → (v4 < v5 → ∀ x3 : Int32, x3 = v2 &&& 0 → L_L_areClosed_90 kc v1 x3 x1 v4 v5 0 σ Q) ∧ (¬ v4 < v5 → M_L_closedOf v5 σ (fun r4 s5 => (¬ r4 = v5 → ∀ x6 : Int32, x6 = v2 &&& 0 → L_L_areClosed_90 (kc + 3) v1 x6 x1 v4 v5 0 s5 Q) ∧ (r4 = v5 → (v6 < 0 → ∀ x7 : Int32, x7 = v2 &&& 0 → L_L_areClosed_90 (kc + 3) v1 x7 x1 v4 v5 0 s5 Q) ∧ (¬ v6 < 0 → (v5 < v6 → ∀ x8 : Int32, x8 = v2 &&& 0 → L_L_areClosed_90 (kc + 3) v1 x8 x1 v4 v5 0 s5 Q) ∧ (¬ v5 < v6 → ∀ x9 : Int32, x9 = v2 &&& 1 → L_L_areClosed_90 (kc + 3) v1 x9 x1 v4 v5 0 s5 Q))))))) : L_L_areClosed_40 kc v1 v2 v4 v5 v6 t0 t1 σ Q := by
  intro p l e s m args below meth c D cy ad hY
  have hC := hY.1
  refine ga_ior hC dL_areClosed_40 ?_
  refine ga_topi (fun x1 ex1 => ?_)
  have h := h x1 ex1
  refine ga_istore_n (lv' := [(3, .int x1), (0, .ref (ad 0)), (1, .int v1), (2, .int v2), (4, .int v4), (5, .int v5), (6, .int v6)]) hC dL_areClosed_41 rfl (by decide) rfl ?_
  refine ga_iload_n hC dL_areClosed_42 3 rfl rfl ?_
  refine ga_iload hC dL_areClosed_43 5 rfl ?_
  refine ga_bipush (v := (-75)) hC dL_areClosed_45 (by decide) ?_
  refine ga_icmp_eq (tgt := 80) hC dL_areClosed_47 (by decide) (fun hc => ?_) (fun hc => ?_)
  · have h := h.1 hc
    refine ga_iconst (v := 1) hC dL_areClosed_80 (by decide) ?_
    refine ga_goto (tgt := 85) hC dL_areClosed_81 (by decide) ?_
    refine ga_iand hC dL_areClosed_85 ?_
    refine ga_topi (fun x2 ex2 => ?_)
    have h := h x2 ex2
    refine ga_istore_n (lv' := [(2, .int x2), (3, .int x1), (0, .ref (ad 0)), (1, .int v1), (4, .int v4), (5, .int v5), (6, .int v6)]) hC dL_areClosed_86 rfl (by decide) rfl ?_
    refine ga_iconst (v := 0) hC dL_areClosed_87 (by decide) ?_
    refine ga_istore (lv' := [(7, .int 0), (2, .int x2), (3, .int x1), (0, .ref (ad 0)), (1, .int v1), (4, .int v4), (5, .int v5), (6, .int v6)]) hC dL_areClosed_88 (by decide) rfl ?_
    refine ga_locals [3, 4, 1, 2, 5, 6, 0] rfl ?_
    refine gp_kc (k := kc) (by omega) (by omega) ?_
    exact h p l e s m args below meth c D cy ad hY
  · have h := h.2 hc
    refine ga_iload hC dL_areClosed_50 5 rfl ?_
    refine ga_iload hC dL_areClosed_52 4 rfl ?_
    refine ga_icmp_gt (tgt := 84) hC dL_areClosed_54 (by decide) (fun hc => ?_) (fun hc => ?_)
    · have h := h.1 hc
      refine ga_iconst (v := 0) hC dL_areClosed_84 (by decide) ?_
      refine ga_iand hC dL_areClosed_85 ?_
      refine ga_topi (fun x3 ex3 => ?_)
      have h := h x3 ex3
      refine ga_istore_n (lv' := [(2, .int x3), (3, .int x1), (0, .ref (ad 0)), (1, .int v1), (4, .int v4), (5, .int v5), (6, .int v6)]) hC dL_areClosed_86 rfl (by decide) rfl ?_
      refine ga_iconst (v := 0) hC dL_areClosed_87 (by decide) ?_
      refine ga_istore (lv' := [(7, .int 0), (2, .int x3), (3, .int x1), (0, .ref (ad 0)), (1, .int v1), (4, .int v4), (5, .int v5), (6, .int v6)]) hC dL_areClosed_88 (by decide) rfl ?_
      refine ga_locals [3, 4, 1, 2, 5, 6, 0] rfl ?_
      refine gp_kc (k := kc) (by omega) (by omega) ?_
      exact h p l e s m args below meth c D cy ad hY
    · have h := h.2 hc
      refine ga_aload_n hC dL_areClosed_57 1 rfl rfl ?_
      refine ga_iload hC dL_areClosed_58 5 rfl ?_
      refine gp_callW (As := [.ref (ad 0), .int v5]) (st := [.int v2]) (n := 2) (Nat.le_refl _) cg_in.rf hY h ql_5_202 ql_5_203 ql_1_0 (cg_in5 204 (by decide +kernel) (by decide +kernel)) rfl rfl rfl (by decide +kernel) ⟨by show _ ≤ 300; omega, by show _ ≤ 1800; omega⟩ ⟨Nat.le_of_ble_eq_true rfl, Nat.le_of_ble_eq_true rfl⟩ rfl rfl (Nat.le_of_ble_eq_true rfl) dL_areClosed_60 (fun v s5 hq => ⟨s5, cg_in.rf, cg_ke.rf, ?_⟩)
      obtain ⟨r4, rfl, h⟩ := hq
      refine ga_iload hC dL_areClosed_63 5 rfl ?_
      refine ga_icmp_ne (tgt := 84) hC dL_areClosed_65 (by decide) (fun hc => ?_) (fun hc => ?_)
      · have h := h.1 hc
        refine ga_iconst (v := 0) hC dL_areClosed_84 (by decide) ?_
        refine ga_iand hC dL_areClosed_85 ?_
        refine ga_topi (fun x6 ex6 => ?_)
        have h := h x6 ex6
        refine ga_istore_n (lv' := [(2, .int x6), (3, .int x1), (0, .ref (ad 0)), (1, .int v1), (4, .int v4), (5, .int v5), (6, .int v6)]) hC dL_areClosed_86 rfl (by decide) rfl ?_
        refine ga_iconst (v := 0) hC dL_areClosed_87 (by decide) ?_
        refine ga_istore (lv' := [(7, .int 0), (2, .int x6), (3, .int x1), (0, .ref (ad 0)), (1, .int v1), (4, .int v4), (5, .int v5), (6, .int v6)]) hC dL_areClosed_88 (by decide) rfl ?_
        refine ga_locals [3, 4, 1, 2, 5, 6, 0] rfl ?_
        refine gp_kc (k := kc + 3) (by omega) (by omega) ?_
        exact h p l e s m args below meth c D cy ad hY
      · have h := h.2 hc
        refine ga_iload hC dL_areClosed_68 6 rfl ?_
        refine ga_if_lt (tgt := 84) hC dL_areClosed_70 (by decide) (fun hc => ?_) (fun hc => ?_)
        · have h := h.1 hc
          refine ga_iconst (v := 0) hC dL_areClosed_84 (by decide) ?_
          refine ga_iand hC dL_areClosed_85 ?_
          refine ga_topi (fun x7 ex7 => ?_)
          have h := h x7 ex7
          refine ga_istore_n (lv' := [(2, .int x7), (3, .int x1), (0, .ref (ad 0)), (1, .int v1), (4, .int v4), (5, .int v5), (6, .int v6)]) hC dL_areClosed_86 rfl (by decide) rfl ?_
          refine ga_iconst (v := 0) hC dL_areClosed_87 (by decide) ?_
          refine ga_istore (lv' := [(7, .int 0), (2, .int x7), (3, .int x1), (0, .ref (ad 0)), (1, .int v1), (4, .int v4), (5, .int v5), (6, .int v6)]) hC dL_areClosed_88 (by decide) rfl ?_
          refine ga_locals [3, 4, 1, 2, 5, 6, 0] rfl ?_
          refine gp_kc (k := kc + 3) (by omega) (by omega) ?_
          exact h p l e s m args below meth c D cy ad hY
        · have h := h.2 hc
          refine ga_iload hC dL_areClosed_73 6 rfl ?_
          refine ga_iload hC dL_areClosed_75 5 rfl ?_
          refine ga_icmp_gt (tgt := 84) hC dL_areClosed_77 (by decide) (fun hc => ?_) (fun hc => ?_)
          · have h := h.1 hc
            refine ga_iconst (v := 0) hC dL_areClosed_84 (by decide) ?_
            refine ga_iand hC dL_areClosed_85 ?_
            refine ga_topi (fun x8 ex8 => ?_)
            have h := h x8 ex8
            refine ga_istore_n (lv' := [(2, .int x8), (3, .int x1), (0, .ref (ad 0)), (1, .int v1), (4, .int v4), (5, .int v5), (6, .int v6)]) hC dL_areClosed_86 rfl (by decide) rfl ?_
            refine ga_iconst (v := 0) hC dL_areClosed_87 (by decide) ?_
            refine ga_istore (lv' := [(7, .int 0), (2, .int x8), (3, .int x1), (0, .ref (ad 0)), (1, .int v1), (4, .int v4), (5, .int v5), (6, .int v6)]) hC dL_areClosed_88 (by decide) rfl ?_
            refine ga_locals [3, 4, 1, 2, 5, 6, 0] rfl ?_
            refine gp_kc (k := kc + 3) (by omega) (by omega) ?_
            exact h p l e s m args below meth c D cy ad hY
          · have h := h.2 hc
            refine ga_iconst (v := 1) hC dL_areClosed_80 (by decide) ?_
            refine ga_goto (tgt := 85) hC dL_areClosed_81 (by decide) ?_
            refine ga_iand hC dL_areClosed_85 ?_
            refine ga_topi (fun x9 ex9 => ?_)
            have h := h x9 ex9
            refine ga_istore_n (lv' := [(2, .int x9), (3, .int x1), (0, .ref (ad 0)), (1, .int v1), (4, .int v4), (5, .int v5), (6, .int v6)]) hC dL_areClosed_86 rfl (by decide) rfl ?_
            refine ga_iconst (v := 0) hC dL_areClosed_87 (by decide) ?_
            refine ga_istore (lv' := [(7, .int 0), (2, .int x9), (3, .int x1), (0, .ref (ad 0)), (1, .int v1), (4, .int v4), (5, .int v5), (6, .int v6)]) hC dL_areClosed_88 (by decide) rfl ?_
            refine ga_locals [3, 4, 1, 2, 5, 6, 0] rfl ?_
            refine gp_kc (k := kc + 3) (by omega) (by omega) ?_
            exact h p l e s m args below meth c D cy ad hY
set_option maxRecDepth 100000 in
set_option maxHeartbeats 4000000 in
theorem v_L_areClosed_7 {kc : Nat} {v1 : Int32} {v2 : Int32} {v3 : Int32} {v4 : Int32} {σ : cg_S} {Q : Int32 → cg_S → Prop} (hk : kc + 6 ≤ 300) 
    (h : (v1 ≤ v4 → (v2 = 0 → Q 0 σ) ∧ (¬ v2 = 0 → (v3 = 0 → Q 0 σ) ∧ (¬ v3 = 0 → Q 1 σ))) ∧ (¬ v1 ≤ v4 → M_L_closedOf v4 σ (fun r1 s2 => M_L_endOf v4 s2 (fun r3 s4 => (r1 < 0 → L_L_areClosed_40 (kc + 6) v1 v2 v4 r1 r3 v3 0 s4 Q) ∧ (¬ r1 < 0 → L_L_areClosed_40 (kc + 6) v1 v2 v4 r1 r3 v3 1 s4 Q))))) : L_L_areClosed_7 kc v1 v2 v3 v4 σ Q := by
  intro p l e s m args below meth c D cy ad hY
  have hC := hY.1
  refine ga_iload hC dL_areClosed_7 4 rfl ?_
  refine ga_iload_n hC dL_areClosed_9 1 rfl rfl ?_
  refine ga_icmp_ge (tgt := 150) hC dL_areClosed_10 (by decide) (fun hc => ?_) (fun hc => ?_)
  · have h := h.1 hc
    refine ga_iload_n hC dL_areClosed_150 2 rfl rfl ?_
    refine ga_if_eq (tgt := 162) hC dL_areClosed_151 (by decide) (fun hc => ?_) (fun hc => ?_)
    · have h := h.1 hc
      refine ga_iconst (v := 0) hC dL_areClosed_162 (by decide) ?_
      exact gx_zret hC dL_areClosed_163 ⟨by omega, by omega⟩ (by decide) ⟨_, rfl, h⟩
    · have h := h.2 hc
      refine ga_iload_n hC dL_areClosed_154 3 rfl rfl ?_
      refine ga_if_eq (tgt := 162) hC dL_areClosed_155 (by decide) (fun hc => ?_) (fun hc => ?_)
      · have h := h.1 hc
        refine ga_iconst (v := 0) hC dL_areClosed_162 (by decide) ?_
        exact gx_zret hC dL_areClosed_163 ⟨by omega, by omega⟩ (by decide) ⟨_, rfl, h⟩
      · have h := h.2 hc
        refine ga_iconst (v := 1) hC dL_areClosed_158 (by decide) ?_
        refine ga_goto (tgt := 163) hC dL_areClosed_159 (by decide) ?_
        exact gx_zret hC dL_areClosed_163 ⟨by omega, by omega⟩ (by decide) ⟨_, rfl, h⟩
  · have h := h.2 hc
    refine ga_aload_n hC dL_areClosed_13 0 rfl rfl ?_
    refine ga_iload hC dL_areClosed_14 4 rfl ?_
    refine gp_callW (As := [.ref (ad 0), .int v4]) (st := []) (n := 2) (Nat.le_refl _) cg_in.rf hY h ql_5_202 ql_5_203 ql_1_0 (cg_in5 204 (by decide +kernel) (by decide +kernel)) rfl rfl rfl (by decide +kernel) ⟨by show _ ≤ 300; omega, by show _ ≤ 1800; omega⟩ ⟨Nat.le_of_ble_eq_true rfl, Nat.le_of_ble_eq_true rfl⟩ rfl rfl (Nat.le_of_ble_eq_true rfl) dL_areClosed_16 (fun v s2 hq => ⟨s2, cg_in.rf, cg_ke.rf, ?_⟩)
    obtain ⟨r1, rfl, h⟩ := hq
    refine ga_istore (lv' := [(5, .int r1), (0, .ref (ad 0)), (1, .int v1), (2, .int v2), (3, .int v3), (4, .int v4)]) hC dL_areClosed_19 (by decide) rfl ?_
    refine ga_aload_n hC dL_areClosed_21 1 rfl rfl ?_
    refine ga_iload hC dL_areClosed_22 5 rfl ?_
    refine gp_callW (As := [.ref (ad 0), .int v4]) (st := []) (n := 2) (Nat.le_refl _) cg_in.rf hY h ql_5_232 ql_5_233 ql_1_0 (cg_in5 234 (by decide +kernel) (by decide +kernel)) rfl rfl rfl (by decide +kernel) ⟨by show _ ≤ 300; omega, by show _ ≤ 1800; omega⟩ ⟨Nat.le_of_ble_eq_true rfl, Nat.le_of_ble_eq_true rfl⟩ rfl rfl (Nat.le_of_ble_eq_true rfl) dL_areClosed_24 (fun v s4 hq => ⟨s4, cg_in.rf, cg_ke.rf, ?_⟩)
    obtain ⟨r3, rfl, h⟩ := hq
    refine ga_istore (lv' := [(6, .int r3), (5, .int r1), (0, .ref (ad 0)), (1, .int v1), (2, .int v2), (3, .int v3), (4, .int v4)]) hC dL_areClosed_27 (by decide) rfl ?_
    refine ga_iload_n hC dL_areClosed_29 5 rfl rfl ?_
    refine ga_iload hC dL_areClosed_30 1 rfl ?_
    refine ga_if_lt (tgt := 39) hC dL_areClosed_32 (by decide) (fun hc => ?_) (fun hc => ?_)
    · have h := h.1 hc
      refine ga_iconst (v := 0) hC dL_areClosed_39 (by decide) ?_
      refine ga_locals [2, 3, 4, 6, 1, 0] rfl ?_
      refine gp_kc (k := kc + 6) (by omega) (by omega) ?_
      exact h p l e s m args below meth c D cy ad hY
    · have h := h.2 hc
      refine ga_iconst (v := 1) hC dL_areClosed_35 (by decide) ?_
      refine ga_goto (tgt := 40) hC dL_areClosed_36 (by decide) ?_
      refine ga_locals [2, 3, 4, 6, 1, 0] rfl ?_
      refine gp_kc (k := kc + 6) (by omega) (by omega) ?_
      exact h p l e s m args below meth c D cy ad hY
set_option maxRecDepth 100000 in
set_option maxHeartbeats 4000000 in
theorem v_L_areClosed {v1 : Int32} {σ : cg_S} {Q : Int32 → cg_S → Prop} 
    (h : L_L_areClosed_7 0 v1 1 0 0 σ Q) : M_L_areClosed v1 σ Q := by
  refine cp_entryH (lv := fun ad => [(0, .ref (ad 0)), (1, .int v1)]) (by decide +kernel) (fun _ => rfl) (fun _ => Nat.le_of_ble_eq_true rfl) ?_
  intro p l e s m args below meth c D cy ad hY
  have hC := hY.1
  refine ga_iconst (v := 1) hC dL_areClosed_0 (by decide) ?_
  refine ga_istore_n (lv' := [(2, .int 1), (0, .ref (ad 0)), (1, .int v1)]) hC dL_areClosed_1 rfl (by decide) rfl ?_
  refine ga_iconst (v := 0) hC dL_areClosed_2 (by decide) ?_
  refine ga_istore_n (lv' := [(3, .int 0), (2, .int 1), (0, .ref (ad 0)), (1, .int v1)]) hC dL_areClosed_3 rfl (by decide) rfl ?_
  refine ga_iconst (v := 0) hC dL_areClosed_4 (by decide) ?_
  refine ga_istore (lv' := [(4, .int 0), (3, .int 0), (2, .int 1), (0, .ref (ad 0)), (1, .int v1)]) hC dL_areClosed_5 (by decide) rfl ?_
  refine ga_locals [3, 4, 2, 1, 0] rfl ?_
  refine gp_kc (k := 0) (by omega) (by omega) ?_
  exact h p l e s m args below meth c D cy ad hY
def M_L_areBounds (n : Nat) (tt ff : Nat → Int32) (v1 : Int32) (σ : cg_S) (Q : Int32 → cg_S → Prop) : Prop := cp_M (cg_W2 n) yL_areBounds (Cond.code yL_areBounds cL_areBounds 12 (some .boolean)) (cg_RX 8 250) 250 1500 (fun ad => [.ref (ad 0), .int v1, .ref (ad 88)]) (jp σ tt ff) (fun _ v τ => ∃ r a, v = some (.int r) ∧ τ = jp a tt ff ∧ Q r a)
theorem M_L_areBounds.mono {n : Nat} {tt ff : Nat → Int32} {v1 : Int32} {σ : cg_S} {Q Q2 : Int32 → cg_S → Prop} (h : M_L_areBounds n tt ff v1 σ Q) (hq : ∀ r τ, Q r τ → Q2 r τ) : M_L_areBounds n tt ff v1 σ Q2 := cp_M.mono h (fun ad v τ ⟨r, a, e, e2, q⟩ => ⟨r, a, e, e2, hq r a q⟩)
def L_L_areBounds_5 (n : Nat) (tt ff : Nat → Int32) (kc : Nat) (v1 : Int32) (v3 : Int32) (v4 : Int32) (σ : cg_S) (Q : Int32 → cg_S → Prop) : Prop := cp_L (cg_W2 n) RL cL_areBounds 12 (some .boolean) [] (cg_RX 8 250) 250 1500 5 (fun ad => [(0, .ref (ad 0)), (1, .int v1), (2, .ref (ad 88)), (3, .int v3), (4, .int v4)]) (fun ad => []) kc (6 * kc) (jp σ tt ff) (fun _ v τ => ∃ r a, v = some (.int r) ∧ τ = jp a tt ff ∧ Q r a)
def L_L_areBounds_38 (n : Nat) (tt ff : Nat → Int32) (kc : Nat) (v1 : Int32) (v3 : Int32) (v4 : Int32) (v5 : UInt64) (v7 : UInt64) (v9 : Int32) (σ : cg_S) (Q : Int32 → cg_S → Prop) : Prop := cp_L (cg_W2 n) RL cL_areBounds 12 (some .boolean) [] (cg_RX 8 250) 250 1500 38 (fun ad => [(0, .ref (ad 0)), (1, .int v1), (2, .ref (ad 88)), (3, .int v3), (4, .int v4), (5, .double v5), (7, .double v7), (9, .int v9)]) (fun ad => []) kc (6 * kc) (jp σ tt ff) (fun _ v τ => ∃ r a, v = some (.int r) ∧ τ = jp a tt ff ∧ Q r a)
set_option maxRecDepth 100000 in
set_option maxHeartbeats 4000000 in
theorem v_L_areBounds_38 {n : Nat} {tt ff : Nat → Int32} {kc : Nat} {v1 : Int32} {v3 : Int32} {v4 : Int32} {v5 : UInt64} {v7 : UInt64} {v9 : Int32} {σ : cg_S} {Q : Int32 → cg_S → Prop} (hk : kc + 5 ≤ 250) 
    (h : (20 ≤ v9 → vp_in v4 n ∧ ((tt v4.toNatClampNeg) = 0 → ∀ x2 : Int32, x2 = v3 &&& 1 → L_L_areBounds_5 n tt ff kc v1 x2 (v4 + 1) σ Q) ∧ (¬ (tt v4.toNatClampNeg) = 0 → M_L_isOne v4 σ (fun r3 s4 => (¬ r3 = 1 → ∀ x5 : Int32, x5 = v3 &&& 0 → L_L_areBounds_5 n tt ff (kc + 2) v1 x5 (v4 + 1) s4 Q) ∧ (r3 = 1 → M_L_bound v4 7 s4 (fun r6 s7 => (¬ (Op.cmpValue (FP.dcmp r6 FP.dconst1) .l) = 0 → ∀ x8 : Int32, x8 = v3 &&& 0 → L_L_areBounds_5 n tt ff (kc + 5) v1 x8 (v4 + 1) s7 Q) ∧ ((Op.cmpValue (FP.dcmp r6 FP.dconst1) .l) = 0 → ∀ x9 : Int32, x9 = v3 &&& 1 → L_L_areBounds_5 n tt ff (kc + 5) v1 x9 (v4 + 1) s7 Q)))))) ∧ (¬ 20 ≤ v9 → M_L_bound v4 v9 σ (fun r10 s11 => vf_n64 (FP.dsub v5 4517329193108106637) ∧ ((Op.cmpValue (FP.dcmp r10 (FP.dsub v5 4517329193108106637)) .l) < 0 → ∀ x13 : Int32, x13 = v3 &&& 0 → L_L_areBounds_38 n tt ff (kc + 3) v1 x13 v4 r10 v7 (v9 + 3) s11 Q) ∧ (¬ (Op.cmpValue (FP.dcmp r10 (FP.dsub v5 4517329193108106637)) .l) < 0 → vf_n64 (FP.dadd v7 4517329193108106637) ∧ (0 < (Op.cmpValue (FP.dcmp r10 (FP.dadd v7 4517329193108106637)) .g) → ∀ x15 : Int32, x15 = v3 &&& 0 → L_L_areBounds_38 n tt ff (kc + 3) v1 x15 v4 r10 v7 (v9 + 3) s11 Q) ∧ (¬ 0 < (Op.cmpValue (FP.dcmp r10 (FP.dadd v7 4517329193108106637)) .g) → ∀ x16 : Int32, x16 = v3 &&& 1 → L_L_areBounds_38 n tt ff (kc + 3) v1 x16 v4 r10 v7 (v9 + 3) s11 Q))))) : L_L_areBounds_38 n tt ff kc v1 v3 v4 v5 v7 v9 σ Q := by
  intro p l e s m args below meth c D cy ad hY
  have hC := hY.1
  refine ga_iload hC dL_areBounds_38 7 rfl ?_
  refine ga_bipush (v := 20) hC dL_areBounds_40 (by decide) ?_
  refine ga_icmp_ge (tgt := 97) hC dL_areBounds_42 (by decide) (fun hc => ?_) (fun hc => ?_)
  · have h := h.1 hc
    refine ga_iload_n hC dL_areBounds_97 3 rfl rfl ?_
    refine ga_aload_n hC dL_areBounds_98 2 rfl rfl ?_
    refine ga_iload hC dL_areBounds_99 4 rfl ?_
    obtain ⟨h1, h⟩ := h
    refine ga_zald hC aP_88 (Nat.le_of_ble_eq_true rfl) h1 dL_areBounds_101 ?_
    refine ga_eqi (tt v4.toNatClampNeg) rfl ?_
    refine ga_if_eq (tgt := 128) hC dL_areBounds_102 (by decide) (fun hc => ?_) (fun hc => ?_)
    · have h := h.1 hc
      refine ga_iconst (v := 1) hC dL_areBounds_128 (by decide) ?_
      refine ga_goto (tgt := 133) hC dL_areBounds_129 (by decide) ?_
      refine ga_iand hC dL_areBounds_133 ?_
      refine ga_topi (fun x2 ex2 => ?_)
      have h := h x2 ex2
      refine ga_istore_n (lv' := [(3, .int x2), (0, .ref (ad 0)), (1, .int v1), (2, .ref (ad 88)), (4, .int v4), (5, .double v5), (7, .double v7), (9, .int v9)]) hC dL_areBounds_134 rfl (by decide) rfl ?_
      refine ga_iinc (v := v4 + 1) (lv' := [(4, .int (v4 + 1)), (3, .int x2), (0, .ref (ad 0)), (1, .int v1), (2, .ref (ad 88)), (5, .double v5), (7, .double v7), (9, .int v9)]) hC dL_areBounds_135 4 rfl rfl (by decide) rfl ?_
      refine ga_goto (tgt := 5) hC dL_areBounds_138 (by decide) ?_
      refine ga_locals [2, 3, 4, 1, 0] rfl ?_
      refine gp_kc (k := kc) (by omega) (by omega) ?_
      exact h p l e s m args below meth c D cy ad hY
    · have h := h.2 hc
      refine ga_aload_n hC dL_areBounds_105 0 rfl rfl ?_
      refine ga_iload hC dL_areBounds_106 4 rfl ?_
      refine gp_callW (As := [.ref (ad 0), .int v4]) (st := [.int v3]) (n := 2) (Nat.le_of_ble_eq_true rfl) jp_in2 hY h ql_5_89 ql_5_90 ql_1_0 (cg_in5 91 (by decide +kernel) (by decide +kernel)) rfl rfl rfl (by decide +kernel) ⟨by show _ ≤ 250; omega, by show _ ≤ 1500; omega⟩ ⟨Nat.le_of_ble_eq_true rfl, Nat.le_of_ble_eq_true rfl⟩ rfl rfl (Nat.le_of_ble_eq_true rfl) dL_areBounds_108 (fun v s4 hq => ⟨jp s4 tt ff, jp_in2, jp_ke2, ?_⟩)
      obtain ⟨r3, rfl, h⟩ := hq
      refine ga_iconst (v := 1) hC dL_areBounds_111 (by decide) ?_
      refine ga_icmp_ne (tgt := 132) hC dL_areBounds_112 (by decide) (fun hc => ?_) (fun hc => ?_)
      · have h := h.1 hc
        refine ga_iconst (v := 0) hC dL_areBounds_132 (by decide) ?_
        refine ga_iand hC dL_areBounds_133 ?_
        refine ga_topi (fun x5 ex5 => ?_)
        have h := h x5 ex5
        refine ga_istore_n (lv' := [(3, .int x5), (0, .ref (ad 0)), (1, .int v1), (2, .ref (ad 88)), (4, .int v4), (5, .double v5), (7, .double v7), (9, .int v9)]) hC dL_areBounds_134 rfl (by decide) rfl ?_
        refine ga_iinc (v := v4 + 1) (lv' := [(4, .int (v4 + 1)), (3, .int x5), (0, .ref (ad 0)), (1, .int v1), (2, .ref (ad 88)), (5, .double v5), (7, .double v7), (9, .int v9)]) hC dL_areBounds_135 4 rfl rfl (by decide) rfl ?_
        refine ga_goto (tgt := 5) hC dL_areBounds_138 (by decide) ?_
        refine ga_locals [2, 3, 4, 1, 0] rfl ?_
        refine gp_kc (k := kc + 2) (by omega) (by omega) ?_
        exact h p l e s m args below meth c D cy ad hY
      · have h := h.2 hc
        refine ga_aload_n hC dL_areBounds_115 0 rfl rfl ?_
        refine ga_iload hC dL_areBounds_116 4 rfl ?_
        refine ga_bipush (v := 7) hC dL_areBounds_118 (by decide) ?_
        refine gp_callW (As := [.ref (ad 0), .int v4, .int 7]) (st := [.int v3]) (n := 3) (Nat.le_of_ble_eq_true rfl) jp_in2 hY h ql_5_112 ql_5_113 ql_1_0 (cg_in5 114 (by decide +kernel) (by decide +kernel)) rfl rfl rfl (by decide +kernel) ⟨by show _ ≤ 250; omega, by show _ ≤ 1500; omega⟩ ⟨Nat.le_of_ble_eq_true rfl, Nat.le_of_ble_eq_true rfl⟩ rfl rfl (Nat.le_of_ble_eq_true rfl) dL_areBounds_120 (fun v s7 hq => ⟨jp s7 tt ff, jp_in2, jp_ke2, ?_⟩)
        obtain ⟨r6, rfl, h⟩ := hq
        refine ga_dconst1 hC dL_areBounds_123 ?_
        refine ga_dcmp hC dL_areBounds_124 ?_
        refine ga_if_ne (tgt := 132) hC dL_areBounds_125 (by decide) (fun hc => ?_) (fun hc => ?_)
        · have h := h.1 hc
          refine ga_iconst (v := 0) hC dL_areBounds_132 (by decide) ?_
          refine ga_iand hC dL_areBounds_133 ?_
          refine ga_topi (fun x8 ex8 => ?_)
          have h := h x8 ex8
          refine ga_istore_n (lv' := [(3, .int x8), (0, .ref (ad 0)), (1, .int v1), (2, .ref (ad 88)), (4, .int v4), (5, .double v5), (7, .double v7), (9, .int v9)]) hC dL_areBounds_134 rfl (by decide) rfl ?_
          refine ga_iinc (v := v4 + 1) (lv' := [(4, .int (v4 + 1)), (3, .int x8), (0, .ref (ad 0)), (1, .int v1), (2, .ref (ad 88)), (5, .double v5), (7, .double v7), (9, .int v9)]) hC dL_areBounds_135 4 rfl rfl (by decide) rfl ?_
          refine ga_goto (tgt := 5) hC dL_areBounds_138 (by decide) ?_
          refine ga_locals [2, 3, 4, 1, 0] rfl ?_
          refine gp_kc (k := kc + 5) (by omega) (by omega) ?_
          exact h p l e s m args below meth c D cy ad hY
        · have h := h.2 hc
          refine ga_iconst (v := 1) hC dL_areBounds_128 (by decide) ?_
          refine ga_goto (tgt := 133) hC dL_areBounds_129 (by decide) ?_
          refine ga_iand hC dL_areBounds_133 ?_
          refine ga_topi (fun x9 ex9 => ?_)
          have h := h x9 ex9
          refine ga_istore_n (lv' := [(3, .int x9), (0, .ref (ad 0)), (1, .int v1), (2, .ref (ad 88)), (4, .int v4), (5, .double v5), (7, .double v7), (9, .int v9)]) hC dL_areBounds_134 rfl (by decide) rfl ?_
          refine ga_iinc (v := v4 + 1) (lv' := [(4, .int (v4 + 1)), (3, .int x9), (0, .ref (ad 0)), (1, .int v1), (2, .ref (ad 88)), (5, .double v5), (7, .double v7), (9, .int v9)]) hC dL_areBounds_135 4 rfl rfl (by decide) rfl ?_
          refine ga_goto (tgt := 5) hC dL_areBounds_138 (by decide) ?_
          refine ga_locals [2, 3, 4, 1, 0] rfl ?_
          refine gp_kc (k := kc + 5) (by omega) (by omega) ?_
          exact h p l e s m args below meth c D cy ad hY
  · have h := h.2 hc
    refine ga_aload_n hC dL_areBounds_45 0 rfl rfl ?_
    refine ga_iload hC dL_areBounds_46 4 rfl ?_
    refine ga_iload hC dL_areBounds_48 7 rfl ?_
    refine gp_callW (As := [.ref (ad 0), .int v4, .int v9]) (st := []) (n := 3) (Nat.le_of_ble_eq_true rfl) jp_in2 hY h ql_5_112 ql_5_113 ql_1_0 (cg_in5 114 (by decide +kernel) (by decide +kernel)) rfl rfl rfl (by decide +kernel) ⟨by show _ ≤ 250; omega, by show _ ≤ 1500; omega⟩ ⟨Nat.le_of_ble_eq_true rfl, Nat.le_of_ble_eq_true rfl⟩ rfl rfl (Nat.le_of_ble_eq_true rfl) dL_areBounds_50 (fun v s11 hq => ⟨jp s11 tt ff, jp_in2, jp_ke2, ?_⟩)
    obtain ⟨r10, rfl, h⟩ := hq
    refine ga_dstore (lv' := [(10, .double r10), (0, .ref (ad 0)), (1, .int v1), (2, .ref (ad 88)), (3, .int v3), (4, .int v4), (5, .double v5), (7, .double v7), (9, .int v9)]) hC dL_areBounds_53 (by decide) rfl ?_
    refine ga_iload_n hC dL_areBounds_55 4 rfl rfl ?_
    refine ga_dload hC dL_areBounds_56 0 rfl ?_
    refine ga_dload hC dL_areBounds_58 6 rfl ?_
    refine ga_ldc2d hC ql_5_136 dL_areBounds_60 ?_
    obtain ⟨h12, h⟩ := h
    refine ga_dsub hC dL_areBounds_63 h12 ?_
    refine ga_dcmp hC dL_areBounds_64 ?_
    refine ga_if_lt (tgt := 84) hC dL_areBounds_65 (by decide) (fun hc => ?_) (fun hc => ?_)
    · have h := h.1 hc
      refine ga_iconst (v := 0) hC dL_areBounds_84 (by decide) ?_
      refine ga_iand hC dL_areBounds_85 ?_
      refine ga_topi (fun x13 ex13 => ?_)
      have h := h x13 ex13
      refine ga_istore_n (lv' := [(3, .int x13), (10, .double r10), (0, .ref (ad 0)), (1, .int v1), (2, .ref (ad 88)), (4, .int v4), (5, .double v5), (7, .double v7), (9, .int v9)]) hC dL_areBounds_86 rfl (by decide) rfl ?_
      refine ga_dload hC dL_areBounds_87 1 rfl ?_
      refine ga_dstore (lv' := [(5, .double r10), (3, .int x13), (10, .double r10), (0, .ref (ad 0)), (1, .int v1), (2, .ref (ad 88)), (4, .int v4), (7, .double v7), (9, .int v9)]) hC dL_areBounds_89 (by decide) rfl ?_
      refine ga_iinc (v := v9 + 3) (lv' := [(9, .int (v9 + 3)), (5, .double r10), (3, .int x13), (10, .double r10), (0, .ref (ad 0)), (1, .int v1), (2, .ref (ad 88)), (4, .int v4), (7, .double v7)]) hC dL_areBounds_91 8 rfl rfl (by decide) rfl ?_
      refine ga_goto (tgt := 38) hC dL_areBounds_94 (by decide) ?_
      refine ga_locals [4, 5, 6, 2, 7, 1, 8, 0] rfl ?_
      refine gp_kc (k := kc + 3) (by omega) (by omega) ?_
      exact h p l e s m args below meth c D cy ad hY
    · have h := h.2 hc
      refine ga_dload hC dL_areBounds_68 0 rfl ?_
      refine ga_dload hC dL_areBounds_70 7 rfl ?_
      refine ga_ldc2d hC ql_5_136 dL_areBounds_72 ?_
      obtain ⟨h14, h⟩ := h
      refine ga_dadd hC dL_areBounds_75 h14 ?_
      refine ga_dcmp hC dL_areBounds_76 ?_
      refine ga_if_gt (tgt := 84) hC dL_areBounds_77 (by decide) (fun hc => ?_) (fun hc => ?_)
      · have h := h.1 hc
        refine ga_iconst (v := 0) hC dL_areBounds_84 (by decide) ?_
        refine ga_iand hC dL_areBounds_85 ?_
        refine ga_topi (fun x15 ex15 => ?_)
        have h := h x15 ex15
        refine ga_istore_n (lv' := [(3, .int x15), (10, .double r10), (0, .ref (ad 0)), (1, .int v1), (2, .ref (ad 88)), (4, .int v4), (5, .double v5), (7, .double v7), (9, .int v9)]) hC dL_areBounds_86 rfl (by decide) rfl ?_
        refine ga_dload hC dL_areBounds_87 1 rfl ?_
        refine ga_dstore (lv' := [(5, .double r10), (3, .int x15), (10, .double r10), (0, .ref (ad 0)), (1, .int v1), (2, .ref (ad 88)), (4, .int v4), (7, .double v7), (9, .int v9)]) hC dL_areBounds_89 (by decide) rfl ?_
        refine ga_iinc (v := v9 + 3) (lv' := [(9, .int (v9 + 3)), (5, .double r10), (3, .int x15), (10, .double r10), (0, .ref (ad 0)), (1, .int v1), (2, .ref (ad 88)), (4, .int v4), (7, .double v7)]) hC dL_areBounds_91 8 rfl rfl (by decide) rfl ?_
        refine ga_goto (tgt := 38) hC dL_areBounds_94 (by decide) ?_
        refine ga_locals [4, 5, 6, 2, 7, 1, 8, 0] rfl ?_
        refine gp_kc (k := kc + 3) (by omega) (by omega) ?_
        exact h p l e s m args below meth c D cy ad hY
      · have h := h.2 hc
        refine ga_iconst (v := 1) hC dL_areBounds_80 (by decide) ?_
        refine ga_goto (tgt := 85) hC dL_areBounds_81 (by decide) ?_
        refine ga_iand hC dL_areBounds_85 ?_
        refine ga_topi (fun x16 ex16 => ?_)
        have h := h x16 ex16
        refine ga_istore_n (lv' := [(3, .int x16), (10, .double r10), (0, .ref (ad 0)), (1, .int v1), (2, .ref (ad 88)), (4, .int v4), (5, .double v5), (7, .double v7), (9, .int v9)]) hC dL_areBounds_86 rfl (by decide) rfl ?_
        refine ga_dload hC dL_areBounds_87 1 rfl ?_
        refine ga_dstore (lv' := [(5, .double r10), (3, .int x16), (10, .double r10), (0, .ref (ad 0)), (1, .int v1), (2, .ref (ad 88)), (4, .int v4), (7, .double v7), (9, .int v9)]) hC dL_areBounds_89 (by decide) rfl ?_
        refine ga_iinc (v := v9 + 3) (lv' := [(9, .int (v9 + 3)), (5, .double r10), (3, .int x16), (10, .double r10), (0, .ref (ad 0)), (1, .int v1), (2, .ref (ad 88)), (4, .int v4), (7, .double v7)]) hC dL_areBounds_91 8 rfl rfl (by decide) rfl ?_
        refine ga_goto (tgt := 38) hC dL_areBounds_94 (by decide) ?_
        refine ga_locals [4, 5, 6, 2, 7, 1, 8, 0] rfl ?_
        refine gp_kc (k := kc + 3) (by omega) (by omega) ?_
        exact h p l e s m args below meth c D cy ad hY
set_option maxRecDepth 100000 in
set_option maxHeartbeats 4000000 in
theorem v_L_areBounds_5 {n : Nat} {tt ff : Nat → Int32} {kc : Nat} {v1 : Int32} {v3 : Int32} {v4 : Int32} {σ : cg_S} {Q : Int32 → cg_S → Prop} (hk : kc + 6 ≤ 250) 
    (h : (v1 ≤ v4 → (v3 = 0 ∨ v3 = 1) ∧ Q v3 σ) ∧ (¬ v1 ≤ v4 → M_L_above 114 v4 σ (fun r1 s2 => M_L_below 114 v4 s2 (fun r3 s4 => vf_n64 (FP.ddiv (FP.l2d r1) (FP.l2d r3)) ∧ ∀ x6 : UInt64, x6 = FP.ddiv (FP.l2d r1) (FP.l2d r3) → L_L_areBounds_38 n tt ff (kc + 6) v1 v3 v4 FP.dconst0 x6 0 s4 Q)))) : L_L_areBounds_5 n tt ff kc v1 v3 v4 σ Q := by
  intro p l e s m args below meth c D cy ad hY
  have hC := hY.1
  refine ga_iload hC dL_areBounds_5 4 rfl ?_
  refine ga_iload_n hC dL_areBounds_7 1 rfl rfl ?_
  refine ga_icmp_ge (tgt := 141) hC dL_areBounds_8 (by decide) (fun hc => ?_) (fun hc => ?_)
  · have h := h.1 hc
    refine ga_iload_n hC dL_areBounds_141 3 rfl rfl ?_
    exact gx_zret hC dL_areBounds_142 ⟨by omega, by omega⟩ h.1 ⟨_, _, rfl, rfl, h.2⟩
  · have h := h.2 hc
    refine ga_dconst0 hC dL_areBounds_11 ?_
    refine ga_dstore (lv' := [(5, .double FP.dconst0), (0, .ref (ad 0)), (1, .int v1), (2, .ref (ad 88)), (3, .int v3), (4, .int v4)]) hC dL_areBounds_12 (by decide) rfl ?_
    refine ga_aload_n hC dL_areBounds_14 1 rfl rfl ?_
    refine ga_bipush (v := 114) hC dL_areBounds_15 (by decide) ?_
    refine ga_iload hC dL_areBounds_17 5 rfl ?_
    refine gp_callW (As := [.ref (ad 0), .int 114, .int v4]) (st := []) (n := 3) (Nat.le_of_ble_eq_true rfl) jp_in2 hY h ql_4_144 ql_4_145 ql_1_0 (cg_in4 146 (by decide +kernel) (by decide +kernel)) rfl rfl rfl (by decide +kernel) ⟨by show _ ≤ 250; omega, by show _ ≤ 1500; omega⟩ ⟨Nat.le_of_ble_eq_true rfl, Nat.le_of_ble_eq_true rfl⟩ rfl rfl (Nat.le_of_ble_eq_true rfl) dL_areBounds_19 (fun v s2 hq => ⟨jp s2 tt ff, jp_in2, jp_ke2, ?_⟩)
    obtain ⟨r1, rfl, h⟩ := hq
    refine ga_l2d hC dL_areBounds_22 ?_
    refine ga_aload_n hC dL_areBounds_23 1 rfl rfl ?_
    refine ga_bipush (v := 114) hC dL_areBounds_24 (by decide) ?_
    refine ga_iload hC dL_areBounds_26 5 rfl ?_
    refine gp_callW (As := [.ref (ad 0), .int 114, .int v4]) (st := [.double (FP.l2d r1)]) (n := 3) (Nat.le_of_ble_eq_true rfl) jp_in2 hY h ql_4_176 ql_4_177 ql_1_0 (cg_in4 178 (by decide +kernel) (by decide +kernel)) rfl rfl rfl (by decide +kernel) ⟨by show _ ≤ 250; omega, by show _ ≤ 1500; omega⟩ ⟨Nat.le_of_ble_eq_true rfl, Nat.le_of_ble_eq_true rfl⟩ rfl rfl (Nat.le_of_ble_eq_true rfl) dL_areBounds_28 (fun v s4 hq => ⟨jp s4 tt ff, jp_in2, jp_ke2, ?_⟩)
    obtain ⟨r3, rfl, h⟩ := hq
    refine ga_l2d hC dL_areBounds_31 ?_
    obtain ⟨h5, h⟩ := h
    refine ga_ddiv hC dL_areBounds_32 h5 ?_
    refine ga_topd (fun x6 ex6 => ?_)
    have h := h x6 ex6
    refine ga_dstore (lv' := [(7, .double x6), (5, .double FP.dconst0), (0, .ref (ad 0)), (1, .int v1), (2, .ref (ad 88)), (3, .int v3), (4, .int v4)]) hC dL_areBounds_33 (by decide) rfl ?_
    refine ga_iconst (v := 0) hC dL_areBounds_35 (by decide) ?_
    refine ga_istore (lv' := [(9, .int 0), (7, .double x6), (5, .double FP.dconst0), (0, .ref (ad 0)), (1, .int v1), (2, .ref (ad 88)), (3, .int v3), (4, .int v4)]) hC dL_areBounds_36 (by decide) rfl ?_
    refine ga_locals [3, 4, 5, 6, 7, 2, 1, 0] rfl ?_
    refine gp_kc (k := kc + 6) (by omega) (by omega) ?_
    exact h p l e s m args below meth c D cy ad hY
set_option maxRecDepth 100000 in
set_option maxHeartbeats 4000000 in
theorem v_L_areBounds {n : Nat} {tt ff : Nat → Int32} {v1 : Int32} {σ : cg_S} {Q : Int32 → cg_S → Prop} 
    (h : L_L_areBounds_5 n tt ff 0 v1 1 0 σ Q) : M_L_areBounds n tt ff v1 σ Q := by
  refine cp_entryH (lv := fun ad => [(0, .ref (ad 0)), (1, .int v1), (2, .ref (ad 88))]) (by decide +kernel) (fun _ => rfl) (fun _ => Nat.le_of_ble_eq_true rfl) ?_
  intro p l e s m args below meth c D cy ad hY
  have hC := hY.1
  refine ga_iconst (v := 1) hC dL_areBounds_0 (by decide) ?_
  refine ga_istore_n (lv' := [(3, .int 1), (0, .ref (ad 0)), (1, .int v1), (2, .ref (ad 88))]) hC dL_areBounds_1 rfl (by decide) rfl ?_
  refine ga_iconst (v := 0) hC dL_areBounds_2 (by decide) ?_
  refine ga_istore (lv' := [(4, .int 0), (3, .int 1), (0, .ref (ad 0)), (1, .int v1), (2, .ref (ad 88))]) hC dL_areBounds_3 (by decide) rfl ?_
  refine ga_locals [2, 3, 4, 1, 0] rfl ?_
  refine gp_kc (k := 0) (by omega) (by omega) ?_
  exact h p l e s m args below meth c D cy ad hY
def M_L_areTraces (n : Nat) (tt ff : Nat → Int32) (v1 : Int32) (σ : cg_S) (Q : Int32 → cg_S → Prop) : Prop := cp_M (cg_W2 n) yL_areTraces (Cond.code yL_areTraces cL_areTraces 12 (some .boolean)) (cg_RX 8 500) 500 3000 (fun ad => [.ref (ad 0), .int v1, .ref (ad 88)]) (jp σ tt ff) (fun _ v τ => ∃ r a, v = some (.int r) ∧ τ = jp a tt ff ∧ Q r a)
theorem M_L_areTraces.mono {n : Nat} {tt ff : Nat → Int32} {v1 : Int32} {σ : cg_S} {Q Q2 : Int32 → cg_S → Prop} (h : M_L_areTraces n tt ff v1 σ Q) (hq : ∀ r τ, Q r τ → Q2 r τ) : M_L_areTraces n tt ff v1 σ Q2 := cp_M.mono h (fun ad v τ ⟨r, a, e, e2, q⟩ => ⟨r, a, e, e2, hq r a q⟩)
def L_L_areTraces_5 (n : Nat) (tt ff : Nat → Int32) (kc : Nat) (v1 : Int32) (v3 : Int32) (v4 : Int32) (σ : cg_S) (Q : Int32 → cg_S → Prop) : Prop := cp_L (cg_W2 n) RL cL_areTraces 12 (some .boolean) [] (cg_RX 8 500) 500 3000 5 (fun ad => [(0, .ref (ad 0)), (1, .int v1), (2, .ref (ad 88)), (3, .int v3), (4, .int v4)]) (fun ad => []) kc (6 * kc) (jp σ tt ff) (fun _ v τ => ∃ r a, v = some (.int r) ∧ τ = jp a tt ff ∧ Q r a)
def L_L_areTraces_100 (n : Nat) (tt ff : Nat → Int32) (kc : Nat) (v1 : Int32) (v3 : Int32) (v4 : Int32) (v5 : Int32) (v6 : UInt64) (v8 : Int32) (σ : cg_S) (Q : Int32 → cg_S → Prop) : Prop := cp_L (cg_W2 n) RL cL_areTraces 12 (some .boolean) [] (cg_RX 8 500) 500 3000 100 (fun ad => [(0, .ref (ad 0)), (1, .int v1), (2, .ref (ad 88)), (3, .int v3), (4, .int v4), (5, .int v5), (6, .double v6), (8, .int v8)]) (fun ad => []) kc (6 * kc) (jp σ tt ff) (fun _ v τ => ∃ r a, v = some (.int r) ∧ τ = jp a tt ff ∧ Q r a)
def L_L_areTraces_162 (n : Nat) (tt ff : Nat → Int32) (kc : Nat) (v1 : Int32) (v4 : Int32) (v5 : Int32) (v6 : UInt64) (v8 : Int32) (v10 : Int32) (t0 : Int32) (t1 : Int32) (σ : cg_S) (Q : Int32 → cg_S → Prop) : Prop := cp_L (cg_W2 n) RL cL_areTraces 12 (some .boolean) [] (cg_RX 8 500) 500 3000 162 (fun ad => [(0, .ref (ad 0)), (1, .int v1), (2, .ref (ad 88)), (4, .int v4), (5, .int v5), (6, .double v6), (8, .int v8), (10, .int v10)]) (fun ad => [.int t1, .int t0]) kc (6 * kc) (jp σ tt ff) (fun _ v τ => ∃ r a, v = some (.int r) ∧ τ = jp a tt ff ∧ Q r a)
def L_L_areTraces_214 (n : Nat) (tt ff : Nat → Int32) (kc : Nat) (v1 : Int32) (v3 : Int32) (v4 : Int32) (v5 : Int32) (v6 : UInt64) (t0 : UInt64) (σ : cg_S) (Q : Int32 → cg_S → Prop) : Prop := cp_L (cg_W2 n) RL cL_areTraces 12 (some .boolean) [] (cg_RX 8 500) 500 3000 214 (fun ad => [(0, .ref (ad 0)), (1, .int v1), (2, .ref (ad 88)), (3, .int v3), (4, .int v4), (5, .int v5), (6, .double v6)]) (fun ad => [.double t0]) kc (6 * kc) (jp σ tt ff) (fun _ v τ => ∃ r a, v = some (.int r) ∧ τ = jp a tt ff ∧ Q r a)
set_option maxRecDepth 100000 in
set_option maxHeartbeats 4000000 in
theorem v_L_areTraces_214 {n : Nat} {tt ff : Nat → Int32} {kc : Nat} {v1 : Int32} {v3 : Int32} {v4 : Int32} {v5 : Int32} {v6 : UInt64} {t0 : UInt64} {σ : cg_S} {Q : Int32 → cg_S → Prop} (hk : kc + 6 ≤ 500) 
    (h : M_L_chainAbove 114 v4 σ (fun r1 s2 => M_L_chainBelow 114 v4 s2 (fun r3 s4 => vf_n64 (FP.ddiv (FP.l2d r1) (FP.l2d r3)) ∧ ∀ x6 : UInt64, x6 = FP.ddiv (FP.l2d r1) (FP.l2d r3) → vf_n64 (FP.dadd x6 4517329193108106637) ∧ (0 < (Op.cmpValue (FP.dcmp t0 (FP.dadd x6 4517329193108106637)) .g) → ∀ x8 : Int32, x8 = v3 &&& 0 → L_L_areTraces_5 n tt ff (kc + 6) v1 x8 (v4 + 1) s4 Q) ∧ (¬ 0 < (Op.cmpValue (FP.dcmp t0 (FP.dadd x6 4517329193108106637)) .g) → (v5 = (-75) → ∀ x9 : Int32, x9 = v3 &&& 1 → L_L_areTraces_5 n tt ff (kc + 6) v1 x9 (v4 + 1) s4 Q) ∧ (¬ v5 = (-75) → vf_n64 (FP.dadd v6 4517329193108106637) ∧ (0 < (Op.cmpValue (FP.dcmp t0 (FP.dadd v6 4517329193108106637)) .g) → ∀ x11 : Int32, x11 = v3 &&& 0 → L_L_areTraces_5 n tt ff (kc + 6) v1 x11 (v4 + 1) s4 Q) ∧ (¬ 0 < (Op.cmpValue (FP.dcmp t0 (FP.dadd v6 4517329193108106637)) .g) → vf_n64 (FP.dadd t0 4517329193108106637) ∧ (0 < (Op.cmpValue (FP.dcmp v6 (FP.dadd t0 4517329193108106637)) .g) → ∀ x13 : Int32, x13 = v3 &&& 0 → L_L_areTraces_5 n tt ff (kc + 6) v1 x13 (v4 + 1) s4 Q) ∧ (¬ 0 < (Op.cmpValue (FP.dcmp v6 (FP.dadd t0 4517329193108106637)) .g) → ∀ x14 : Int32, x14 = v3 &&& 1 → L_L_areTraces_5 n tt ff (kc + 6) v1 x14 (v4 + 1) s4 Q))))))) : L_L_areTraces_214 n tt ff kc v1 v3 v4 v5 v6 t0 σ Q := by
  intro p l e s m args below meth c D cy ad hY
  have hC := hY.1
  refine ga_dstore (lv' := [(8, .double t0), (0, .ref (ad 0)), (1, .int v1), (2, .ref (ad 88)), (3, .int v3), (4, .int v4), (5, .int v5), (6, .double v6)]) hC dL_areTraces_214 (by decide) rfl ?_
  refine ga_aload_n hC dL_areTraces_216 1 rfl rfl ?_
  refine ga_bipush (v := 114) hC dL_areTraces_217 (by decide) ?_
  refine ga_iload hC dL_areTraces_219 5 rfl ?_
  refine gp_callW (As := [.ref (ad 0), .int 114, .int v4]) (st := []) (n := 3) (Nat.le_of_ble_eq_true rfl) jp_in2 hY h ql_4_206 ql_4_207 ql_1_0 (cg_in4 208 (by decide +kernel) (by decide +kernel)) rfl rfl rfl (by decide +kernel) ⟨by show _ ≤ 500; omega, by show _ ≤ 3000; omega⟩ ⟨Nat.le_of_ble_eq_true rfl, Nat.le_of_ble_eq_true rfl⟩ rfl rfl (Nat.le_of_ble_eq_true rfl) dL_areTraces_221 (fun v s2 hq => ⟨jp s2 tt ff, jp_in2, jp_ke2, ?_⟩)
  obtain ⟨r1, rfl, h⟩ := hq
  refine ga_l2d hC dL_areTraces_224 ?_
  refine ga_aload_n hC dL_areTraces_225 1 rfl rfl ?_
  refine ga_bipush (v := 114) hC dL_areTraces_226 (by decide) ?_
  refine ga_iload hC dL_areTraces_228 5 rfl ?_
  refine gp_callW (As := [.ref (ad 0), .int 114, .int v4]) (st := [.double (FP.l2d r1)]) (n := 3) (Nat.le_of_ble_eq_true rfl) jp_in2 hY h ql_5_57 ql_5_58 ql_1_0 (cg_in5 59 (by decide +kernel) (by decide +kernel)) rfl rfl rfl (by decide +kernel) ⟨by show _ ≤ 500; omega, by show _ ≤ 3000; omega⟩ ⟨Nat.le_of_ble_eq_true rfl, Nat.le_of_ble_eq_true rfl⟩ rfl rfl (Nat.le_of_ble_eq_true rfl) dL_areTraces_230 (fun v s4 hq => ⟨jp s4 tt ff, jp_in2, jp_ke2, ?_⟩)
  obtain ⟨r3, rfl, h⟩ := hq
  refine ga_l2d hC dL_areTraces_233 ?_
  obtain ⟨h5, h⟩ := h
  refine ga_ddiv hC dL_areTraces_234 h5 ?_
  refine ga_topd (fun x6 ex6 => ?_)
  have h := h x6 ex6
  refine ga_dstore (lv' := [(10, .double x6), (8, .double t0), (0, .ref (ad 0)), (1, .int v1), (2, .ref (ad 88)), (3, .int v3), (4, .int v4), (5, .int v5), (6, .double v6)]) hC dL_areTraces_235 (by decide) rfl ?_
  refine ga_iload_n hC dL_areTraces_237 5 rfl rfl ?_
  refine ga_dload hC dL_areTraces_238 1 rfl ?_
  refine ga_dload hC dL_areTraces_240 0 rfl ?_
  refine ga_ldc2d hC ql_5_136 dL_areTraces_242 ?_
  obtain ⟨h7, h⟩ := h
  refine ga_dadd hC dL_areTraces_245 h7 ?_
  refine ga_dcmp hC dL_areTraces_246 ?_
  refine ga_if_gt (tgt := 285) hC dL_areTraces_247 (by decide) (fun hc => ?_) (fun hc => ?_)
  · have h := h.1 hc
    refine ga_iconst (v := 0) hC dL_areTraces_285 (by decide) ?_
    refine ga_iand hC dL_areTraces_286 ?_
    refine ga_topi (fun x8 ex8 => ?_)
    have h := h x8 ex8
    refine ga_istore_n (lv' := [(3, .int x8), (10, .double x6), (8, .double t0), (0, .ref (ad 0)), (1, .int v1), (2, .ref (ad 88)), (4, .int v4), (5, .int v5), (6, .double v6)]) hC dL_areTraces_287 rfl (by decide) rfl ?_
    refine ga_iinc (v := v4 + 1) (lv' := [(4, .int (v4 + 1)), (3, .int x8), (10, .double x6), (8, .double t0), (0, .ref (ad 0)), (1, .int v1), (2, .ref (ad 88)), (5, .int v5), (6, .double v6)]) hC dL_areTraces_288 6 rfl rfl (by decide) rfl ?_
    refine ga_goto (tgt := 5) hC dL_areTraces_291 (by decide) ?_
    refine ga_locals [4, 5, 6, 1, 0] rfl ?_
    refine gp_kc (k := kc + 6) (by omega) (by omega) ?_
    exact h p l e s m args below meth c D cy ad hY
  · have h := h.2 hc
    refine ga_iload hC dL_areTraces_250 7 rfl ?_
    refine ga_bipush (v := (-75)) hC dL_areTraces_252 (by decide) ?_
    refine ga_icmp_eq (tgt := 281) hC dL_areTraces_254 (by decide) (fun hc => ?_) (fun hc => ?_)
    · have h := h.1 hc
      refine ga_iconst (v := 1) hC dL_areTraces_281 (by decide) ?_
      refine ga_goto (tgt := 286) hC dL_areTraces_282 (by decide) ?_
      refine ga_iand hC dL_areTraces_286 ?_
      refine ga_topi (fun x9 ex9 => ?_)
      have h := h x9 ex9
      refine ga_istore_n (lv' := [(3, .int x9), (10, .double x6), (8, .double t0), (0, .ref (ad 0)), (1, .int v1), (2, .ref (ad 88)), (4, .int v4), (5, .int v5), (6, .double v6)]) hC dL_areTraces_287 rfl (by decide) rfl ?_
      refine ga_iinc (v := v4 + 1) (lv' := [(4, .int (v4 + 1)), (3, .int x9), (10, .double x6), (8, .double t0), (0, .ref (ad 0)), (1, .int v1), (2, .ref (ad 88)), (5, .int v5), (6, .double v6)]) hC dL_areTraces_288 6 rfl rfl (by decide) rfl ?_
      refine ga_goto (tgt := 5) hC dL_areTraces_291 (by decide) ?_
      refine ga_locals [4, 5, 6, 1, 0] rfl ?_
      refine gp_kc (k := kc + 6) (by omega) (by omega) ?_
      exact h p l e s m args below meth c D cy ad hY
    · have h := h.2 hc
      refine ga_dload hC dL_areTraces_257 1 rfl ?_
      refine ga_dload hC dL_areTraces_259 8 rfl ?_
      refine ga_ldc2d hC ql_5_136 dL_areTraces_261 ?_
      obtain ⟨h10, h⟩ := h
      refine ga_dadd hC dL_areTraces_264 h10 ?_
      refine ga_dcmp hC dL_areTraces_265 ?_
      refine ga_if_gt (tgt := 285) hC dL_areTraces_266 (by decide) (fun hc => ?_) (fun hc => ?_)
      · have h := h.1 hc
        refine ga_iconst (v := 0) hC dL_areTraces_285 (by decide) ?_
        refine ga_iand hC dL_areTraces_286 ?_
        refine ga_topi (fun x11 ex11 => ?_)
        have h := h x11 ex11
        refine ga_istore_n (lv' := [(3, .int x11), (10, .double x6), (8, .double t0), (0, .ref (ad 0)), (1, .int v1), (2, .ref (ad 88)), (4, .int v4), (5, .int v5), (6, .double v6)]) hC dL_areTraces_287 rfl (by decide) rfl ?_
        refine ga_iinc (v := v4 + 1) (lv' := [(4, .int (v4 + 1)), (3, .int x11), (10, .double x6), (8, .double t0), (0, .ref (ad 0)), (1, .int v1), (2, .ref (ad 88)), (5, .int v5), (6, .double v6)]) hC dL_areTraces_288 6 rfl rfl (by decide) rfl ?_
        refine ga_goto (tgt := 5) hC dL_areTraces_291 (by decide) ?_
        refine ga_locals [4, 5, 6, 1, 0] rfl ?_
        refine gp_kc (k := kc + 6) (by omega) (by omega) ?_
        exact h p l e s m args below meth c D cy ad hY
      · have h := h.2 hc
        refine ga_dload hC dL_areTraces_269 8 rfl ?_
        refine ga_dload hC dL_areTraces_271 1 rfl ?_
        refine ga_ldc2d hC ql_5_136 dL_areTraces_273 ?_
        obtain ⟨h12, h⟩ := h
        refine ga_dadd hC dL_areTraces_276 h12 ?_
        refine ga_dcmp hC dL_areTraces_277 ?_
        refine ga_if_gt (tgt := 285) hC dL_areTraces_278 (by decide) (fun hc => ?_) (fun hc => ?_)
        · have h := h.1 hc
          refine ga_iconst (v := 0) hC dL_areTraces_285 (by decide) ?_
          refine ga_iand hC dL_areTraces_286 ?_
          refine ga_topi (fun x13 ex13 => ?_)
          have h := h x13 ex13
          refine ga_istore_n (lv' := [(3, .int x13), (10, .double x6), (8, .double t0), (0, .ref (ad 0)), (1, .int v1), (2, .ref (ad 88)), (4, .int v4), (5, .int v5), (6, .double v6)]) hC dL_areTraces_287 rfl (by decide) rfl ?_
          refine ga_iinc (v := v4 + 1) (lv' := [(4, .int (v4 + 1)), (3, .int x13), (10, .double x6), (8, .double t0), (0, .ref (ad 0)), (1, .int v1), (2, .ref (ad 88)), (5, .int v5), (6, .double v6)]) hC dL_areTraces_288 6 rfl rfl (by decide) rfl ?_
          refine ga_goto (tgt := 5) hC dL_areTraces_291 (by decide) ?_
          refine ga_locals [4, 5, 6, 1, 0] rfl ?_
          refine gp_kc (k := kc + 6) (by omega) (by omega) ?_
          exact h p l e s m args below meth c D cy ad hY
        · have h := h.2 hc
          refine ga_iconst (v := 1) hC dL_areTraces_281 (by decide) ?_
          refine ga_goto (tgt := 286) hC dL_areTraces_282 (by decide) ?_
          refine ga_iand hC dL_areTraces_286 ?_
          refine ga_topi (fun x14 ex14 => ?_)
          have h := h x14 ex14
          refine ga_istore_n (lv' := [(3, .int x14), (10, .double x6), (8, .double t0), (0, .ref (ad 0)), (1, .int v1), (2, .ref (ad 88)), (4, .int v4), (5, .int v5), (6, .double v6)]) hC dL_areTraces_287 rfl (by decide) rfl ?_
          refine ga_iinc (v := v4 + 1) (lv' := [(4, .int (v4 + 1)), (3, .int x14), (10, .double x6), (8, .double t0), (0, .ref (ad 0)), (1, .int v1), (2, .ref (ad 88)), (5, .int v5), (6, .double v6)]) hC dL_areTraces_288 6 rfl rfl (by decide) rfl ?_
          refine ga_goto (tgt := 5) hC dL_areTraces_291 (by decide) ?_
          refine ga_locals [4, 5, 6, 1, 0] rfl ?_
          refine gp_kc (k := kc + 6) (by omega) (by omega) ?_
          exact h p l e s m args below meth c D cy ad hY
set_option maxRecDepth 100000 in
set_option maxHeartbeats 4000000 in
theorem v_L_areTraces_162 {n : Nat} {tt ff : Nat → Int32} {kc : Nat} {v1 : Int32} {v4 : Int32} {v5 : Int32} {v6 : UInt64} {v8 : Int32} {v10 : Int32} {t0 : Int32} {t1 : Int32} {σ : cg_S} {Q : Int32 → cg_S → Prop} (hk : kc + 0 ≤ 500) 
    (h : ∀ x1 : Int32, x1 = t0 &&& t1 → vf_n64 (FP.ddiv (FP.i2d (v10 / 10)) (FP.i2d (v10 - v10 / 10 * 10))) ∧ vf_n64 (FP.dmul v6 (FP.ddiv (FP.i2d (v10 / 10)) (FP.i2d (v10 - v10 / 10 * 10)))) ∧ ∀ x6 : UInt64, x6 = FP.dmul v6 (FP.ddiv (FP.i2d (v10 / 10)) (FP.i2d (v10 - v10 / 10 * 10))) → L_L_areTraces_100 n tt ff kc v1 x1 v4 v5 x6 (v8 + 1) σ Q) : L_L_areTraces_162 n tt ff kc v1 v4 v5 v6 v8 v10 t0 t1 σ Q := by
  intro p l e s m args below meth c D cy ad hY
  have hC := hY.1
  refine ga_iand hC dL_areTraces_162 ?_
  refine ga_topi (fun x1 ex1 => ?_)
  have h := h x1 ex1
  refine ga_istore_n (lv' := [(3, .int x1), (0, .ref (ad 0)), (1, .int v1), (2, .ref (ad 88)), (4, .int v4), (5, .int v5), (6, .double v6), (8, .int v8), (10, .int v10)]) hC dL_areTraces_163 rfl (by decide) rfl ?_
  refine ga_dload hC dL_areTraces_164 6 rfl ?_
  refine ga_iload hC dL_areTraces_166 8 rfl ?_
  refine ga_bipush (v := 10) hC dL_areTraces_168 (by decide) ?_
  refine ga_idiv hC dL_areTraces_170 (by decide) ?_
  refine ga_i2d hC dL_areTraces_171 ?_
  refine ga_iload hC dL_areTraces_172 8 rfl ?_
  refine ga_bipush (v := 10) hC dL_areTraces_174 (by decide) ?_
  refine ga_irem hC dL_areTraces_176 (by decide) ?_
  refine ga_i2d hC dL_areTraces_177 ?_
  obtain ⟨h4, h⟩ := h
  refine ga_ddiv hC dL_areTraces_178 h4 ?_
  obtain ⟨h5, h⟩ := h
  refine ga_dmul hC dL_areTraces_179 h5 ?_
  refine ga_topd (fun x6 ex6 => ?_)
  have h := h x6 ex6
  refine ga_dstore (lv' := [(6, .double x6), (3, .int x1), (0, .ref (ad 0)), (1, .int v1), (2, .ref (ad 88)), (4, .int v4), (5, .int v5), (8, .int v8), (10, .int v10)]) hC dL_areTraces_180 (by decide) rfl ?_
  refine ga_iinc (v := v8 + 1) (lv' := [(8, .int (v8 + 1)), (6, .double x6), (3, .int x1), (0, .ref (ad 0)), (1, .int v1), (2, .ref (ad 88)), (4, .int v4), (5, .int v5), (10, .int v10)]) hC dL_areTraces_182 7 rfl rfl (by decide) rfl ?_
  refine ga_goto (tgt := 100) hC dL_areTraces_185 (by decide) ?_
  refine ga_locals [3, 4, 5, 2, 6, 7, 1, 0] rfl ?_
  refine gp_kc (k := kc) (by omega) (by omega) ?_
  exact h p l e s m args below meth c D cy ad hY
set_option maxRecDepth 100000 in
set_option maxHeartbeats 4000000 in
theorem v_L_areTraces_100 {n : Nat} {tt ff : Nat → Int32} {kc : Nat} {v1 : Int32} {v3 : Int32} {v4 : Int32} {v5 : Int32} {v6 : UInt64} {v8 : Int32} {σ : cg_S} {Q : Int32 → cg_S → Prop} (hk : kc + 12 ≤ 500) 
    (h : (v5 ≤ (v8 + 1) → (¬ v5 = (-75) → M_L_traceAbove v4 σ (fun r1 s2 => M_L_traceBelow v4 s2 (fun r3 s4 => vf_n64 (FP.ddiv (FP.l2d r1) (FP.l2d r3)) ∧ L_L_areTraces_214 n tt ff (kc + 6) v1 v3 v4 v5 v6 (FP.ddiv (FP.l2d r1) (FP.l2d r3)) s4 Q))) ∧ (v5 = (-75) → L_L_areTraces_214 n tt ff kc v1 v3 v4 v5 v6 FP.dconst0 σ Q)) ∧ (¬ v5 ≤ (v8 + 1) → M_L_traceAt v4 v8 σ (fun r6 s7 => M_L_told r6 s7 (fun r8 s9 => M_L_traceAt v4 (v8 + 1) s9 (fun r10 s11 => M_L_chance r6 r8 r10 s11 (fun r12 s13 => vp_in r6 n ∧ (¬ (tt r6.toNatClampNeg) = 0 → L_L_areTraces_162 n tt ff (kc + 12) v1 v4 v5 v6 v8 r12 v3 0 s13 Q) ∧ ((tt r6.toNatClampNeg) = 0 → (r12 ≤ 1 → L_L_areTraces_162 n tt ff (kc + 12) v1 v4 v5 v6 v8 r12 v3 0 s13 Q) ∧ (¬ r12 ≤ 1 → L_L_areTraces_162 n tt ff (kc + 12) v1 v4 v5 v6 v8 r12 v3 1 s13 Q)))))))) : L_L_areTraces_100 n tt ff kc v1 v3 v4 v5 v6 v8 σ Q := by
  intro p l e s m args below meth c D cy ad hY
  have hC := hY.1
  refine ga_iload hC dL_areTraces_100 7 rfl ?_
  refine ga_iconst (v := 1) hC dL_areTraces_102 (by decide) ?_
  refine ga_iadd hC dL_areTraces_103 ?_
  refine ga_iload hC dL_areTraces_104 5 rfl ?_
  refine ga_icmp_ge (tgt := 188) hC dL_areTraces_106 (by decide) (fun hc => ?_) (fun hc => ?_)
  · have h := h.1 hc
    refine ga_iload hC dL_areTraces_188 5 rfl ?_
    refine ga_bipush (v := (-75)) hC dL_areTraces_190 (by decide) ?_
    refine ga_icmp_ne (tgt := 199) hC dL_areTraces_192 (by decide) (fun hc => ?_) (fun hc => ?_)
    · have h := h.1 hc
      refine ga_aload_n hC dL_areTraces_199 0 rfl rfl ?_
      refine ga_iload hC dL_areTraces_200 4 rfl ?_
      refine gp_callW (As := [.ref (ad 0), .int v4]) (st := []) (n := 2) (Nat.le_of_ble_eq_true rfl) jp_in2 hY h ql_6_75 ql_6_76 ql_1_0 (cg_in6 77 (by decide +kernel) (by decide +kernel)) rfl rfl rfl (by decide +kernel) ⟨by show _ ≤ 500; omega, by show _ ≤ 3000; omega⟩ ⟨Nat.le_of_ble_eq_true rfl, Nat.le_of_ble_eq_true rfl⟩ rfl rfl (Nat.le_of_ble_eq_true rfl) dL_areTraces_202 (fun v s2 hq => ⟨jp s2 tt ff, jp_in2, jp_ke2, ?_⟩)
      obtain ⟨r1, rfl, h⟩ := hq
      refine ga_l2d hC dL_areTraces_205 ?_
      refine ga_aload_n hC dL_areTraces_206 0 rfl rfl ?_
      refine ga_iload hC dL_areTraces_207 4 rfl ?_
      refine gp_callW (As := [.ref (ad 0), .int v4]) (st := [.double (FP.l2d r1)]) (n := 2) (Nat.le_of_ble_eq_true rfl) jp_in2 hY h ql_6_83 ql_6_84 ql_1_0 (cg_in6 85 (by decide +kernel) (by decide +kernel)) rfl rfl rfl (by decide +kernel) ⟨by show _ ≤ 500; omega, by show _ ≤ 3000; omega⟩ ⟨Nat.le_of_ble_eq_true rfl, Nat.le_of_ble_eq_true rfl⟩ rfl rfl (Nat.le_of_ble_eq_true rfl) dL_areTraces_209 (fun v s4 hq => ⟨jp s4 tt ff, jp_in2, jp_ke2, ?_⟩)
      obtain ⟨r3, rfl, h⟩ := hq
      refine ga_l2d hC dL_areTraces_212 ?_
      obtain ⟨h5, h⟩ := h
      refine ga_ddiv hC dL_areTraces_213 h5 ?_
      refine ga_locals [0, 1, 2, 3, 4, 5, 6] rfl ?_
      refine gp_kc (k := kc + 6) (by omega) (by omega) ?_
      exact h p l e s m args below meth c D cy ad hY
    · have h := h.2 hc
      refine ga_dconst0 hC dL_areTraces_195 ?_
      refine ga_goto (tgt := 214) hC dL_areTraces_196 (by decide) ?_
      refine ga_locals [0, 1, 2, 3, 4, 5, 6] rfl ?_
      refine gp_kc (k := kc) (by omega) (by omega) ?_
      exact h p l e s m args below meth c D cy ad hY
  · have h := h.2 hc
    refine ga_aload_n hC dL_areTraces_109 0 rfl rfl ?_
    refine ga_iload hC dL_areTraces_110 4 rfl ?_
    refine ga_iload hC dL_areTraces_112 7 rfl ?_
    refine gp_callW (As := [.ref (ad 0), .int v4, .int v8]) (st := []) (n := 3) (Nat.le_of_ble_eq_true rfl) jp_in2 hY h ql_6_59 ql_6_60 ql_1_0 (cg_in6 61 (by decide +kernel) (by decide +kernel)) rfl rfl rfl (by decide +kernel) ⟨by show _ ≤ 500; omega, by show _ ≤ 3000; omega⟩ ⟨Nat.le_of_ble_eq_true rfl, Nat.le_of_ble_eq_true rfl⟩ rfl rfl (Nat.le_of_ble_eq_true rfl) dL_areTraces_114 (fun v s7 hq => ⟨jp s7 tt ff, jp_in2, jp_ke2, ?_⟩)
    obtain ⟨r6, rfl, h⟩ := hq
    refine ga_istore (lv' := [(9, .int r6), (0, .ref (ad 0)), (1, .int v1), (2, .ref (ad 88)), (3, .int v3), (4, .int v4), (5, .int v5), (6, .double v6), (8, .int v8)]) hC dL_areTraces_117 (by decide) rfl ?_
    refine ga_aload_n hC dL_areTraces_119 1 rfl rfl ?_
    refine ga_iload hC dL_areTraces_120 0 rfl ?_
    refine ga_aload_n hC dL_areTraces_122 1 rfl rfl ?_
    refine ga_iload hC dL_areTraces_123 0 rfl ?_
    refine gp_callW (As := [.ref (ad 0), .int r6]) (st := [.int r6, .ref (ad 0)]) (n := 2) (Nat.le_of_ble_eq_true rfl) jp_in2 hY h ql_4_134 ql_4_135 ql_1_0 (cg_in4 136 (by decide +kernel) (by decide +kernel)) rfl rfl rfl (by decide +kernel) ⟨by show _ ≤ 500; omega, by show _ ≤ 3000; omega⟩ ⟨Nat.le_of_ble_eq_true rfl, Nat.le_of_ble_eq_true rfl⟩ rfl rfl (Nat.le_of_ble_eq_true rfl) dL_areTraces_125 (fun v s9 hq => ⟨jp s9 tt ff, jp_in2, jp_ke2, ?_⟩)
    obtain ⟨r8, rfl, h⟩ := hq
    refine ga_aload_n hC dL_areTraces_128 1 rfl rfl ?_
    refine ga_iload hC dL_areTraces_129 5 rfl ?_
    refine ga_iload hC dL_areTraces_131 8 rfl ?_
    refine ga_iconst (v := 1) hC dL_areTraces_133 (by decide) ?_
    refine ga_iadd hC dL_areTraces_134 ?_
    refine gp_callW (As := [.ref (ad 0), .int v4, .int (v8 + 1)]) (st := [.int r8, .int r6, .ref (ad 0)]) (n := 3) (Nat.le_of_ble_eq_true rfl) jp_in2 hY h ql_6_59 ql_6_60 ql_1_0 (cg_in6 61 (by decide +kernel) (by decide +kernel)) rfl rfl rfl (by decide +kernel) ⟨by show _ ≤ 500; omega, by show _ ≤ 3000; omega⟩ ⟨Nat.le_of_ble_eq_true rfl, Nat.le_of_ble_eq_true rfl⟩ rfl rfl (Nat.le_of_ble_eq_true rfl) dL_areTraces_135 (fun v s11 hq => ⟨jp s11 tt ff, jp_in2, jp_ke2, ?_⟩)
    obtain ⟨r10, rfl, h⟩ := hq
    refine gp_callW (As := [.ref (ad 0), .int r6, .int r8, .int r10]) (st := []) (n := 4) (Nat.le_of_ble_eq_true rfl) jp_in2 hY h ql_6_7 ql_6_8 ql_1_0 (cg_in6 9 (by decide +kernel) (by decide +kernel)) rfl rfl rfl (by decide +kernel) ⟨by show _ ≤ 500; omega, by show _ ≤ 3000; omega⟩ ⟨Nat.le_of_ble_eq_true rfl, Nat.le_of_ble_eq_true rfl⟩ rfl rfl (Nat.le_of_ble_eq_true rfl) dL_areTraces_138 (fun v s13 hq => ⟨jp s13 tt ff, jp_in2, jp_ke2, ?_⟩)
    obtain ⟨r12, rfl, h⟩ := hq
    refine ga_istore (lv' := [(10, .int r12), (9, .int r6), (0, .ref (ad 0)), (1, .int v1), (2, .ref (ad 88)), (3, .int v3), (4, .int v4), (5, .int v5), (6, .double v6), (8, .int v8)]) hC dL_areTraces_141 (by decide) rfl ?_
    refine ga_iload_n hC dL_areTraces_143 5 rfl rfl ?_
    refine ga_aload_n hC dL_areTraces_144 4 rfl rfl ?_
    refine ga_iload hC dL_areTraces_145 1 rfl ?_
    obtain ⟨h14, h⟩ := h
    refine ga_zald hC aP_88 (Nat.le_of_ble_eq_true rfl) h14 dL_areTraces_147 ?_
    refine ga_eqi (tt r6.toNatClampNeg) rfl ?_
    refine ga_if_ne (tgt := 161) hC dL_areTraces_148 (by decide) (fun hc => ?_) (fun hc => ?_)
    · have h := h.1 hc
      refine ga_iconst (v := 0) hC dL_areTraces_161 (by decide) ?_
      refine ga_locals [2, 3, 4, 6, 7, 8, 9, 0] rfl ?_
      refine gp_kc (k := kc + 12) (by omega) (by omega) ?_
      exact h p l e s m args below meth c D cy ad hY
    · have h := h.2 hc
      refine ga_iload hC dL_areTraces_151 0 rfl ?_
      refine ga_iconst (v := 1) hC dL_areTraces_153 (by decide) ?_
      refine ga_icmp_le (tgt := 161) hC dL_areTraces_154 (by decide) (fun hc => ?_) (fun hc => ?_)
      · have h := h.1 hc
        refine ga_iconst (v := 0) hC dL_areTraces_161 (by decide) ?_
        refine ga_locals [2, 3, 4, 6, 7, 8, 9, 0] rfl ?_
        refine gp_kc (k := kc + 12) (by omega) (by omega) ?_
        exact h p l e s m args below meth c D cy ad hY
      · have h := h.2 hc
        refine ga_iconst (v := 1) hC dL_areTraces_157 (by decide) ?_
        refine ga_goto (tgt := 162) hC dL_areTraces_158 (by decide) ?_
        refine ga_locals [2, 3, 4, 6, 7, 8, 9, 0] rfl ?_
        refine gp_kc (k := kc + 12) (by omega) (by omega) ?_
        exact h p l e s m args below meth c D cy ad hY
set_option maxRecDepth 100000 in
set_option maxHeartbeats 4000000 in
theorem v_L_areTraces_5 {n : Nat} {tt ff : Nat → Int32} {kc : Nat} {v1 : Int32} {v3 : Int32} {v4 : Int32} {σ : cg_S} {Q : Int32 → cg_S → Prop} (hk : kc + 11 ≤ 500) 
    (h : (v1 ≤ v4 → (v3 = 0 ∨ v3 = 1) ∧ Q v3 σ) ∧ (¬ v1 ≤ v4 → M_L_traceLength v4 σ (fun r1 s2 => (¬ r1 = (-75) → (r1 < 1 → ∀ x3 : Int32, x3 = v3 &&& 0 → L_L_areTraces_100 n tt ff (kc + 3) v1 x3 v4 r1 FP.dconst1 0 s2 Q) ∧ (¬ r1 < 1 → (v1 < r1 → ∀ x4 : Int32, x4 = v3 &&& 0 → L_L_areTraces_100 n tt ff (kc + 3) v1 x4 v4 r1 FP.dconst1 0 s2 Q) ∧ (¬ v1 < r1 → M_L_traceAt v4 0 s2 (fun r5 s6 => (¬ r5 = v4 → ∀ x7 : Int32, x7 = v3 &&& 0 → L_L_areTraces_100 n tt ff (kc + 7) v1 x7 v4 r1 FP.dconst1 0 s6 Q) ∧ (r5 = v4 → M_L_traceAt v4 (r1 - 1) s6 (fun r8 s9 => vp_in r8 n ∧ ((tt r8.toNatClampNeg) = 0 → ∀ x11 : Int32, x11 = v3 &&& 0 → L_L_areTraces_100 n tt ff (kc + 11) v1 x11 v4 r1 FP.dconst1 0 s9 Q) ∧ (¬ (tt r8.toNatClampNeg) = 0 → ∀ x12 : Int32, x12 = v3 &&& 1 → L_L_areTraces_100 n tt ff (kc + 11) v1 x12 v4 r1 FP.dconst1 0 s9 Q))))))) ∧ (r1 = (-75) → M_L_chainAbove 114 v4 s2 (fun r13 s14 => (¬ r13 = 0 → ∀ x15 : Int32, x15 = v3 &&& 0 → L_L_areTraces_100 n tt ff (kc + 6) v1 x15 v4 r1 FP.dconst1 0 s14 Q) ∧ (r13 = 0 → ∀ x16 : Int32, x16 = v3 &&& 1 → L_L_areTraces_100 n tt ff (kc + 6) v1 x16 v4 r1 FP.dconst1 0 s14 Q)))))) : L_L_areTraces_5 n tt ff kc v1 v3 v4 σ Q := by
  intro p l e s m args below meth c D cy ad hY
  have hC := hY.1
  refine ga_iload hC dL_areTraces_5 4 rfl ?_
  refine ga_iload_n hC dL_areTraces_7 1 rfl rfl ?_
  refine ga_icmp_ge (tgt := 294) hC dL_areTraces_8 (by decide) (fun hc => ?_) (fun hc => ?_)
  · have h := h.1 hc
    refine ga_iload_n hC dL_areTraces_294 3 rfl rfl ?_
    exact gx_zret hC dL_areTraces_295 ⟨by omega, by omega⟩ h.1 ⟨_, _, rfl, rfl, h.2⟩
  · have h := h.2 hc
    refine ga_aload_n hC dL_areTraces_11 0 rfl rfl ?_
    refine ga_iload hC dL_areTraces_12 4 rfl ?_
    refine gp_callW (As := [.ref (ad 0), .int v4]) (st := []) (n := 2) (Nat.le_of_ble_eq_true rfl) jp_in2 hY h ql_6_35 ql_6_36 ql_1_0 (cg_in6 37 (by decide +kernel) (by decide +kernel)) rfl rfl rfl (by decide +kernel) ⟨by show _ ≤ 500; omega, by show _ ≤ 3000; omega⟩ ⟨Nat.le_of_ble_eq_true rfl, Nat.le_of_ble_eq_true rfl⟩ rfl rfl (Nat.le_of_ble_eq_true rfl) dL_areTraces_14 (fun v s2 hq => ⟨jp s2 tt ff, jp_in2, jp_ke2, ?_⟩)
    obtain ⟨r1, rfl, h⟩ := hq
    refine ga_istore (lv' := [(5, .int r1), (0, .ref (ad 0)), (1, .int v1), (2, .ref (ad 88)), (3, .int v3), (4, .int v4)]) hC dL_areTraces_17 (by decide) rfl ?_
    refine ga_dconst1 hC dL_areTraces_19 ?_
    refine ga_dstore (lv' := [(6, .double FP.dconst1), (5, .int r1), (0, .ref (ad 0)), (1, .int v1), (2, .ref (ad 88)), (3, .int v3), (4, .int v4)]) hC dL_areTraces_20 (by decide) rfl ?_
    refine ga_iload_n hC dL_areTraces_22 5 rfl rfl ?_
    refine ga_iload hC dL_areTraces_23 1 rfl ?_
    refine ga_bipush (v := (-75)) hC dL_areTraces_25 (by decide) ?_
    refine ga_icmp_ne (tgt := 51) hC dL_areTraces_27 (by decide) (fun hc => ?_) (fun hc => ?_)
    · have h := h.1 hc
      refine ga_iload hC dL_areTraces_51 1 rfl ?_
      refine ga_iconst (v := 1) hC dL_areTraces_53 (by decide) ?_
      refine ga_icmp_lt (tgt := 94) hC dL_areTraces_54 (by decide) (fun hc => ?_) (fun hc => ?_)
      · have h := h.1 hc
        refine ga_iconst (v := 0) hC dL_areTraces_94 (by decide) ?_
        refine ga_iand hC dL_areTraces_95 ?_
        refine ga_topi (fun x3 ex3 => ?_)
        have h := h x3 ex3
        refine ga_istore_n (lv' := [(3, .int x3), (6, .double FP.dconst1), (5, .int r1), (0, .ref (ad 0)), (1, .int v1), (2, .ref (ad 88)), (4, .int v4)]) hC dL_areTraces_96 rfl (by decide) rfl ?_
        refine ga_iconst (v := 0) hC dL_areTraces_97 (by decide) ?_
        refine ga_istore (lv' := [(8, .int 0), (3, .int x3), (6, .double FP.dconst1), (5, .int r1), (0, .ref (ad 0)), (1, .int v1), (2, .ref (ad 88)), (4, .int v4)]) hC dL_areTraces_98 (by decide) rfl ?_
        refine ga_locals [4, 5, 6, 1, 7, 3, 2, 0] rfl ?_
        refine gp_kc (k := kc + 3) (by omega) (by omega) ?_
        exact h p l e s m args below meth c D cy ad hY
      · have h := h.2 hc
        refine ga_iload hC dL_areTraces_57 1 rfl ?_
        refine ga_iload_n hC dL_areTraces_59 3 rfl rfl ?_
        refine ga_icmp_gt (tgt := 94) hC dL_areTraces_60 (by decide) (fun hc => ?_) (fun hc => ?_)
        · have h := h.1 hc
          refine ga_iconst (v := 0) hC dL_areTraces_94 (by decide) ?_
          refine ga_iand hC dL_areTraces_95 ?_
          refine ga_topi (fun x4 ex4 => ?_)
          have h := h x4 ex4
          refine ga_istore_n (lv' := [(3, .int x4), (6, .double FP.dconst1), (5, .int r1), (0, .ref (ad 0)), (1, .int v1), (2, .ref (ad 88)), (4, .int v4)]) hC dL_areTraces_96 rfl (by decide) rfl ?_
          refine ga_iconst (v := 0) hC dL_areTraces_97 (by decide) ?_
          refine ga_istore (lv' := [(8, .int 0), (3, .int x4), (6, .double FP.dconst1), (5, .int r1), (0, .ref (ad 0)), (1, .int v1), (2, .ref (ad 88)), (4, .int v4)]) hC dL_areTraces_98 (by decide) rfl ?_
          refine ga_locals [4, 5, 6, 1, 7, 3, 2, 0] rfl ?_
          refine gp_kc (k := kc + 3) (by omega) (by omega) ?_
          exact h p l e s m args below meth c D cy ad hY
        · have h := h.2 hc
          refine ga_aload_n hC dL_areTraces_63 2 rfl rfl ?_
          refine ga_iload hC dL_areTraces_64 6 rfl ?_
          refine ga_iconst (v := 0) hC dL_areTraces_66 (by decide) ?_
          refine gp_callW (As := [.ref (ad 0), .int v4, .int 0]) (st := [.int v3]) (n := 3) (Nat.le_of_ble_eq_true rfl) jp_in2 hY h ql_6_59 ql_6_60 ql_1_0 (cg_in6 61 (by decide +kernel) (by decide +kernel)) rfl rfl rfl (by decide +kernel) ⟨by show _ ≤ 500; omega, by show _ ≤ 3000; omega⟩ ⟨Nat.le_of_ble_eq_true rfl, Nat.le_of_ble_eq_true rfl⟩ rfl rfl (Nat.le_of_ble_eq_true rfl) dL_areTraces_67 (fun v s6 hq => ⟨jp s6 tt ff, jp_in2, jp_ke2, ?_⟩)
          obtain ⟨r5, rfl, h⟩ := hq
          refine ga_iload hC dL_areTraces_70 6 rfl ?_
          refine ga_icmp_ne (tgt := 94) hC dL_areTraces_72 (by decide) (fun hc => ?_) (fun hc => ?_)
          · have h := h.1 hc
            refine ga_iconst (v := 0) hC dL_areTraces_94 (by decide) ?_
            refine ga_iand hC dL_areTraces_95 ?_
            refine ga_topi (fun x7 ex7 => ?_)
            have h := h x7 ex7
            refine ga_istore_n (lv' := [(3, .int x7), (6, .double FP.dconst1), (5, .int r1), (0, .ref (ad 0)), (1, .int v1), (2, .ref (ad 88)), (4, .int v4)]) hC dL_areTraces_96 rfl (by decide) rfl ?_
            refine ga_iconst (v := 0) hC dL_areTraces_97 (by decide) ?_
            refine ga_istore (lv' := [(8, .int 0), (3, .int x7), (6, .double FP.dconst1), (5, .int r1), (0, .ref (ad 0)), (1, .int v1), (2, .ref (ad 88)), (4, .int v4)]) hC dL_areTraces_98 (by decide) rfl ?_
            refine ga_locals [4, 5, 6, 1, 7, 3, 2, 0] rfl ?_
            refine gp_kc (k := kc + 7) (by omega) (by omega) ?_
            exact h p l e s m args below meth c D cy ad hY
          · have h := h.2 hc
            refine ga_aload_n hC dL_areTraces_75 4 rfl rfl ?_
            refine ga_aload_n hC dL_areTraces_76 2 rfl rfl ?_
            refine ga_iload hC dL_areTraces_77 6 rfl ?_
            refine ga_iload hC dL_areTraces_79 1 rfl ?_
            refine ga_iconst (v := 1) hC dL_areTraces_81 (by decide) ?_
            refine ga_isub hC dL_areTraces_82 ?_
            refine gp_callW (As := [.ref (ad 0), .int v4, .int (r1 - 1)]) (st := [.ref (ad 88), .int v3]) (n := 3) (Nat.le_of_ble_eq_true rfl) jp_in2 hY h ql_6_59 ql_6_60 ql_1_0 (cg_in6 61 (by decide +kernel) (by decide +kernel)) rfl rfl rfl (by decide +kernel) ⟨by show _ ≤ 500; omega, by show _ ≤ 3000; omega⟩ ⟨Nat.le_of_ble_eq_true rfl, Nat.le_of_ble_eq_true rfl⟩ rfl rfl (Nat.le_of_ble_eq_true rfl) dL_areTraces_83 (fun v s9 hq => ⟨jp s9 tt ff, jp_in2, jp_ke2, ?_⟩)
            obtain ⟨r8, rfl, h⟩ := hq
            obtain ⟨h10, h⟩ := h
            refine ga_zald hC aP_88 (Nat.le_of_ble_eq_true rfl) h10 dL_areTraces_86 ?_
            refine ga_eqi (tt r8.toNatClampNeg) rfl ?_
            refine ga_if_eq (tgt := 94) hC dL_areTraces_87 (by decide) (fun hc => ?_) (fun hc => ?_)
            · have h := h.1 hc
              refine ga_iconst (v := 0) hC dL_areTraces_94 (by decide) ?_
              refine ga_iand hC dL_areTraces_95 ?_
              refine ga_topi (fun x11 ex11 => ?_)
              have h := h x11 ex11
              refine ga_istore_n (lv' := [(3, .int x11), (6, .double FP.dconst1), (5, .int r1), (0, .ref (ad 0)), (1, .int v1), (2, .ref (ad 88)), (4, .int v4)]) hC dL_areTraces_96 rfl (by decide) rfl ?_
              refine ga_iconst (v := 0) hC dL_areTraces_97 (by decide) ?_
              refine ga_istore (lv' := [(8, .int 0), (3, .int x11), (6, .double FP.dconst1), (5, .int r1), (0, .ref (ad 0)), (1, .int v1), (2, .ref (ad 88)), (4, .int v4)]) hC dL_areTraces_98 (by decide) rfl ?_
              refine ga_locals [4, 5, 6, 1, 7, 3, 2, 0] rfl ?_
              refine gp_kc (k := kc + 11) (by omega) (by omega) ?_
              exact h p l e s m args below meth c D cy ad hY
            · have h := h.2 hc
              refine ga_iconst (v := 1) hC dL_areTraces_90 (by decide) ?_
              refine ga_goto (tgt := 95) hC dL_areTraces_91 (by decide) ?_
              refine ga_iand hC dL_areTraces_95 ?_
              refine ga_topi (fun x12 ex12 => ?_)
              have h := h x12 ex12
              refine ga_istore_n (lv' := [(3, .int x12), (6, .double FP.dconst1), (5, .int r1), (0, .ref (ad 0)), (1, .int v1), (2, .ref (ad 88)), (4, .int v4)]) hC dL_areTraces_96 rfl (by decide) rfl ?_
              refine ga_iconst (v := 0) hC dL_areTraces_97 (by decide) ?_
              refine ga_istore (lv' := [(8, .int 0), (3, .int x12), (6, .double FP.dconst1), (5, .int r1), (0, .ref (ad 0)), (1, .int v1), (2, .ref (ad 88)), (4, .int v4)]) hC dL_areTraces_98 (by decide) rfl ?_
              refine ga_locals [4, 5, 6, 1, 7, 3, 2, 0] rfl ?_
              refine gp_kc (k := kc + 11) (by omega) (by omega) ?_
              exact h p l e s m args below meth c D cy ad hY
    · have h := h.2 hc
      refine ga_aload_n hC dL_areTraces_30 2 rfl rfl ?_
      refine ga_bipush (v := 114) hC dL_areTraces_31 (by decide) ?_
      refine ga_iload hC dL_areTraces_33 6 rfl ?_
      refine gp_callW (As := [.ref (ad 0), .int 114, .int v4]) (st := [.int v3]) (n := 3) (Nat.le_of_ble_eq_true rfl) jp_in2 hY h ql_4_206 ql_4_207 ql_1_0 (cg_in4 208 (by decide +kernel) (by decide +kernel)) rfl rfl rfl (by decide +kernel) ⟨by show _ ≤ 500; omega, by show _ ≤ 3000; omega⟩ ⟨Nat.le_of_ble_eq_true rfl, Nat.le_of_ble_eq_true rfl⟩ rfl rfl (Nat.le_of_ble_eq_true rfl) dL_areTraces_35 (fun v s14 hq => ⟨jp s14 tt ff, jp_in2, jp_ke2, ?_⟩)
      obtain ⟨r13, rfl, h⟩ := hq
      refine ga_lconst (v := 0) hC dL_areTraces_38 (by decide) ?_
      refine ga_lcmp hC dL_areTraces_39 ?_
      refine ga_if_ne (tgt := 47) hC dL_areTraces_40 (by decide) (fun hc => ?_) (fun hc => ?_)
      · have h := h.1 (cg_cmp_ne.1 hc)
        refine ga_iconst (v := 0) hC dL_areTraces_47 (by decide) ?_
        refine ga_goto (tgt := 95) hC dL_areTraces_48 (by decide) ?_
        refine ga_iand hC dL_areTraces_95 ?_
        refine ga_topi (fun x15 ex15 => ?_)
        have h := h x15 ex15
        refine ga_istore_n (lv' := [(3, .int x15), (6, .double FP.dconst1), (5, .int r1), (0, .ref (ad 0)), (1, .int v1), (2, .ref (ad 88)), (4, .int v4)]) hC dL_areTraces_96 rfl (by decide) rfl ?_
        refine ga_iconst (v := 0) hC dL_areTraces_97 (by decide) ?_
        refine ga_istore (lv' := [(8, .int 0), (3, .int x15), (6, .double FP.dconst1), (5, .int r1), (0, .ref (ad 0)), (1, .int v1), (2, .ref (ad 88)), (4, .int v4)]) hC dL_areTraces_98 (by decide) rfl ?_
        refine ga_locals [4, 5, 6, 1, 7, 3, 2, 0] rfl ?_
        refine gp_kc (k := kc + 6) (by omega) (by omega) ?_
        exact h p l e s m args below meth c D cy ad hY
      · have h := h.2 (cg_cmp_ne.2 hc)
        refine ga_iconst (v := 1) hC dL_areTraces_43 (by decide) ?_
        refine ga_goto (tgt := 95) hC dL_areTraces_44 (by decide) ?_
        refine ga_iand hC dL_areTraces_95 ?_
        refine ga_topi (fun x16 ex16 => ?_)
        have h := h x16 ex16
        refine ga_istore_n (lv' := [(3, .int x16), (6, .double FP.dconst1), (5, .int r1), (0, .ref (ad 0)), (1, .int v1), (2, .ref (ad 88)), (4, .int v4)]) hC dL_areTraces_96 rfl (by decide) rfl ?_
        refine ga_iconst (v := 0) hC dL_areTraces_97 (by decide) ?_
        refine ga_istore (lv' := [(8, .int 0), (3, .int x16), (6, .double FP.dconst1), (5, .int r1), (0, .ref (ad 0)), (1, .int v1), (2, .ref (ad 88)), (4, .int v4)]) hC dL_areTraces_98 (by decide) rfl ?_
        refine ga_locals [4, 5, 6, 1, 7, 3, 2, 0] rfl ?_
        refine gp_kc (k := kc + 6) (by omega) (by omega) ?_
        exact h p l e s m args below meth c D cy ad hY
set_option maxRecDepth 100000 in
set_option maxHeartbeats 4000000 in
theorem v_L_areTraces {n : Nat} {tt ff : Nat → Int32} {v1 : Int32} {σ : cg_S} {Q : Int32 → cg_S → Prop} 
    (h : L_L_areTraces_5 n tt ff 0 v1 1 0 σ Q) : M_L_areTraces n tt ff v1 σ Q := by
  refine cp_entryH (lv := fun ad => [(0, .ref (ad 0)), (1, .int v1), (2, .ref (ad 88))]) (by decide +kernel) (fun _ => rfl) (fun _ => Nat.le_of_ble_eq_true rfl) ?_
  intro p l e s m args below meth c D cy ad hY
  have hC := hY.1
  refine ga_iconst (v := 1) hC dL_areTraces_0 (by decide) ?_
  refine ga_istore_n (lv' := [(3, .int 1), (0, .ref (ad 0)), (1, .int v1), (2, .ref (ad 88))]) hC dL_areTraces_1 rfl (by decide) rfl ?_
  refine ga_iconst (v := 0) hC dL_areTraces_2 (by decide) ?_
  refine ga_istore (lv' := [(4, .int 0), (3, .int 1), (0, .ref (ad 0)), (1, .int v1), (2, .ref (ad 88))]) hC dL_areTraces_3 (by decide) rfl ?_
  refine ga_locals [2, 3, 4, 1, 0] rfl ?_
  refine gp_kc (k := 0) (by omega) (by omega) ?_
  exact h p l e s m args below meth c D cy ad hY
