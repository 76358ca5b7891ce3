theorem qw_4_134 : Cond.methodLink RL 193 yL_told ∈ cg_T := cg_in4 134 (by decide +kernel) (by decide +kernel)
theorem qw_4_135 : Cond.static yL_told ∈ cg_T := cg_in4 135 (by decide +kernel) (by decide +kernel)
theorem qw_1_0 : Cond.initialized RL ∈ cg_T := cg_in1 0 (by decide +kernel) (by decide +kernel)
theorem qw_4_77 : Cond.methodLink RL 199 yL_choices ∈ cg_T := cg_in4 77 (by decide +kernel) (by decide +kernel)
theorem qw_4_78 : Cond.static yL_choices ∈ cg_T := cg_in4 78 (by decide +kernel) (by decide +kernel)
theorem qw_4_141 : Cond.methodLink RL 201 yL_isBest ∈ cg_T := cg_in4 141 (by decide +kernel) (by decide +kernel)
theorem qw_4_142 : Cond.static yL_isBest ∈ cg_T := cg_in4 142 (by decide +kernel) (by decide +kernel)
theorem qw_4_143 : Cond.code yL_isBest cL_isBest 8 (some .boolean) ∈ cg_T := cg_in4 143 (by decide +kernel) (by decide +kernel)
theorem qw_4_84 : Cond.methodLink RL 196 yL_solve ∈ cg_T := cg_in4 84 (by decide +kernel) (by decide +kernel)
theorem qw_4_85 : Cond.static yL_solve ∈ cg_T := cg_in4 85 (by decide +kernel) (by decide +kernel)
theorem qw_6_32 : Cond.methodLink RL 205 yL_areTraces ∈ cg_T := cg_in6 32 (by decide +kernel) (by decide +kernel)
theorem qw_6_33 : Cond.static yL_areTraces ∈ cg_T := cg_in6 33 (by decide +kernel) (by decide +kernel)
theorem qw_6_34 : Cond.code yL_areTraces cL_areTraces 12 (some .boolean) ∈ cg_T := cg_in6 34 (by decide +kernel) (by decide +kernel)
theorem qw_5_199 : Cond.methodLink RL 208 yL_areClosed ∈ cg_T := cg_in5 199 (by decide +kernel) (by decide +kernel)
theorem qw_5_200 : Cond.static yL_areClosed ∈ cg_T := cg_in5 200 (by decide +kernel) (by decide +kernel)
theorem qw_5_201 : Cond.code yL_areClosed cL_areClosed 8 (some .boolean) ∈ cg_T := cg_in5 201 (by decide +kernel) (by decide +kernel)
theorem qw_5_148 : Cond.methodLink RL 187 yJ0_charAt_5068e ∈ cg_T := cg_in5 148 (by decide +kernel) (by decide +kernel)
theorem qw_5_149 : Cond.instanceMethod yJ0_charAt_5068e ∈ cg_T := cg_in5 149 (by decide +kernel) (by decide +kernel)
theorem qw_5_150 : Cond.selects RJ0 yJ0_charAt_5068e yJ0_charAt_5068e ∈ cg_T := cg_in5 150 (by decide +kernel) (by decide +kernel)
theorem qw_1_20 : Cond.initialized RJ0 ∈ cg_T := cg_in1 20 (by decide +kernel) (by decide +kernel)
theorem qw_5_151 : Cond.code yJ0_charAt_5068e cJ0_charAt_5068e 2 (some .char) ∈ cg_T := cg_in5 151 (by decide +kernel) (by decide +kernel)
theorem qw_3_112 : Cond.methodLink RL 151 yL_pick ∈ cg_T := cg_in3 112 (by decide +kernel) (by decide +kernel)
theorem qw_3_113 : Cond.static yL_pick ∈ cg_T := cg_in3 113 (by decide +kernel) (by decide +kernel)
theorem qw_3_114 : Cond.code yL_pick cL_pick 3 (some .int) ∈ cg_T := cg_in3 114 (by decide +kernel) (by decide +kernel)
theorem qw_3_223 : Cond.methodLink RL 161 yL_addChoice ∈ cg_T := cg_in3 223 (by decide +kernel) (by decide +kernel)
theorem qw_3_224 : Cond.static yL_addChoice ∈ cg_T := cg_in3 224 (by decide +kernel) (by decide +kernel)
theorem qw_4_41 : Cond.methodLink RL 164 yL_addWeight ∈ cg_T := cg_in4 41 (by decide +kernel) (by decide +kernel)
theorem qw_4_42 : Cond.static yL_addWeight ∈ cg_T := cg_in4 42 (by decide +kernel) (by decide +kernel)
theorem qw_2_160 : Cond.methodLink RL 167 yX11_isWhole ∈ cg_T := cg_in2 160 (by decide +kernel) (by decide +kernel)
theorem qw_2_161 : Cond.instanceMethod yX11_isWhole ∈ cg_T := cg_in2 161 (by decide +kernel) (by decide +kernel)
theorem qw_2_162 : Cond.selects RX11 yX11_isWhole yX11_isWhole ∈ cg_T := cg_in2 162 (by decide +kernel) (by decide +kernel)
theorem qw_1_1 : Cond.initialized RX11 ∈ cg_T := cg_in1 1 (by decide +kernel) (by decide +kernel)
theorem qw_2_163 : Cond.code yX11_isWhole cX11_isWhole 1 (some .boolean) ∈ cg_T := cg_in2 163 (by decide +kernel) (by decide +kernel)
theorem qw_2_171 : Cond.methodLink RL 171 yX11_isConsistent ∈ cg_T := cg_in2 171 (by decide +kernel) (by decide +kernel)
theorem qw_2_172 : Cond.instanceMethod yX11_isConsistent ∈ cg_T := cg_in2 172 (by decide +kernel) (by decide +kernel)
theorem qw_2_173 : Cond.selects RX11 yX11_isConsistent yX11_isConsistent ∈ cg_T := cg_in2 173 (by decide +kernel) (by decide +kernel)
theorem qw_2_174 : Cond.code yX11_isConsistent cX11_isConsistent 1 (some .boolean) ∈ cg_T := cg_in2 174 (by decide +kernel) (by decide +kernel)
theorem qw_6_90 : Cond.methodLink RL 174 yL_isRefused ∈ cg_T := cg_in6 90 (by decide +kernel) (by decide +kernel)
theorem qw_6_91 : Cond.static yL_isRefused ∈ cg_T := cg_in6 91 (by decide +kernel) (by decide +kernel)
theorem qw_6_92 : Cond.code yL_isRefused cL_isRefused 5 (some .boolean) ∈ cg_T := cg_in6 92 (by decide +kernel) (by decide +kernel)
theorem qw_5_137 : Cond.methodLink RL 178 yL_areClasses ∈ cg_T := cg_in5 137 (by decide +kernel) (by decide +kernel)
theorem qw_5_138 : Cond.static yL_areClasses ∈ cg_T := cg_in5 138 (by decide +kernel) (by decide +kernel)
theorem qw_5_139 : Cond.code yL_areClasses cL_areClasses 8 (some .boolean) ∈ cg_T := cg_in5 139 (by decide +kernel) (by decide +kernel)
theorem qw_5_109 : Cond.methodLink RL 181 yL_areBounds ∈ cg_T := cg_in5 109 (by decide +kernel) (by decide +kernel)
theorem qw_5_110 : Cond.static yL_areBounds ∈ cg_T := cg_in5 110 (by decide +kernel) (by decide +kernel)
theorem qw_5_111 : Cond.code yL_areBounds cL_areBounds 12 (some .boolean) ∈ cg_T := cg_in5 111 (by decide +kernel) (by decide +kernel)
theorem qw_3_119 : Cond.methodLink RL 155 yL_addState ∈ cg_T := cg_in3 119 (by decide +kernel) (by decide +kernel)
theorem qw_3_120 : Cond.static yL_addState ∈ cg_T := cg_in3 120 (by decide +kernel) (by decide +kernel)
theorem qw_4_65 : Cond.methodLink RL 158 yL_setTarget ∈ cg_T := cg_in4 65 (by decide +kernel) (by decide +kernel)
theorem qw_4_66 : Cond.static yL_setTarget ∈ cg_T := cg_in4 66 (by decide +kernel) (by decide +kernel)
def L_law_24 (n L : Nat) (xs : Nat → Int32) (tt ff : Nat → Int32) (kc : Nat) (v2 : Int32) (v3 : Int32) (σ : cg_S) : Prop := cq_L (cg_W2 n) n L xs 24 (fun ad sb => [(0, .ref sb), (1, .ref (ad 0)), (2, .int v2), (3, .int v3), (4, .ref (ad 88))]) (fun ad sb => []) kc (jp σ tt ff)
def L_law_30 (n L : Nat) (xs : Nat → Int32) (tt ff : Nat → Int32) (kc : Nat) (v2 : Int32) (v3 : Int32) (v5 : Int32) (v6 : Int32) (σ : cg_S) : Prop := cq_L (cg_W2 n) n L xs 30 (fun ad sb => [(0, .ref sb), (1, .ref (ad 0)), (2, .int v2), (3, .int v3), (4, .ref (ad 88)), (5, .int v5), (6, .int v6)]) (fun ad sb => []) kc (jp σ tt ff)
def L_law_55 (n L : Nat) (xs : Nat → Int32) (tt ff : Nat → Int32) (kc : Nat) (v2 : Int32) (v3 : Int32) (v5 : Int32) (v6 : Int32) (t1 : Int32) (t2 : Int32) (σ : cg_S) : Prop := cq_L (cg_W2 n) n L xs 55 (fun ad sb => [(0, .ref sb), (1, .ref (ad 0)), (2, .int v2), (3, .int v3), (4, .ref (ad 88)), (5, .int v5), (6, .int v6)]) (fun ad sb => [.int t2, .int t1, .ref (ad 88)]) kc (jp σ tt ff)
def L_law_77 (n L : Nat) (xs : Nat → Int32) (tt ff : Nat → Int32) (kc : Nat) (v2 : Int32) (v5 : Int32) (v6 : Int32) (t0 : Int32) (t2 : Int32) (σ : cg_S) : Prop := cq_L (cg_W2 n) n L xs 77 (fun ad sb => [(0, .ref sb), (1, .ref (ad 0)), (2, .int v2), (4, .ref (ad 88)), (5, .int v5), (6, .int v6)]) (fun ad sb => [.int t2, .ref (ad 0), .int t0]) kc (jp σ tt ff)
def L_law_127 (n L : Nat) (xs : Nat → Int32) (tt ff : Nat → Int32) (kc : Nat) (v2 : Int32) (v3 : Int32) (v5 : Int32) (v6 : Int32) (σ : cg_S) : Prop := cq_L (cg_W2 n) n L xs 127 (fun ad sb => [(0, .ref sb), (1, .ref (ad 0)), (2, .int v2), (3, .int v3), (4, .ref (ad 88)), (5, .int v5), (6, .int v6)]) (fun ad sb => []) kc (jp σ tt ff)
def L_law_147 (n L : Nat) (xs : Nat → Int32) (tt ff : Nat → Int32) (kc : Nat) (v2 : Int32) (v3 : Int32) (v5 : Int32) (v6 : Int32) (t0 : Int32) (t2 : Int32) (t3 : Int32) (σ : cg_S) : Prop := cq_L (cg_W2 n) n L xs 147 (fun ad sb => [(0, .ref sb), (1, .ref (ad 0)), (2, .int v2), (3, .int v3), (4, .ref (ad 88)), (5, .int v5), (6, .int v6)]) (fun ad sb => [.int t3, .int t2, .ref sb, .int t0]) kc (jp σ tt ff)
def L_law_156 (n L : Nat) (xs : Nat → Int32) (tt ff : Nat → Int32) (kc : Nat) (v2 : Int32) (v3 : Int32) (v5 : Int32) (v6 : Int32) (v7 : Int32) (v8 : Int32) (σ : cg_S) : Prop := cq_L (cg_W2 n) n L xs 156 (fun ad sb => [(0, .ref sb), (1, .ref (ad 0)), (2, .int v2), (3, .int v3), (4, .ref (ad 88)), (5, .int v5), (6, .int v6), (7, .int v7), (8, .int v8)]) (fun ad sb => []) kc (jp σ tt ff)
def L_law_332 (n L : Nat) (xs : Nat → Int32) (tt ff : Nat → Int32) (kc : Nat) (v2 : Int32) (v3 : Int32) (v6 : Int32) (σ : cg_S) : Prop := cq_L (cg_W2 n) n L xs 332 (fun ad sb => [(1, .ref (ad 0)), (2, .int v2), (3, .int v3), (4, .ref (ad 88)), (6, .int v6)]) (fun ad sb => []) kc (jp σ tt ff)
def L_law_356 (n L : Nat) (xs : Nat → Int32) (tt ff : Nat → Int32) (kc : Nat) (v2 : Int32) (v3 : Int32) (v6 : Int32) (v7 : Int32) (σ : cg_S) : Prop := cq_L (cg_W3 n) n L xs 356 (fun ad sb => [(1, .ref (ad 0)), (2, .int v2), (3, .int v3), (4, .ref (ad 88)), (6, .int v6), (7, .int v7), (8, .ref (ad 89))]) (fun ad sb => []) kc (jp σ tt ff)
def L_law_362 (n L : Nat) (xs : Nat → Int32) (tt ff : Nat → Int32) (kc : Nat) (v2 : Int32) (v3 : Int32) (v6 : Int32) (v7 : Int32) (v9 : Int32) (v10 : Int32) (σ : cg_S) : Prop := cq_L (cg_W3 n) n L xs 362 (fun ad sb => [(1, .ref (ad 0)), (2, .int v2), (3, .int v3), (4, .ref (ad 88)), (6, .int v6), (7, .int v7), (8, .ref (ad 89)), (9, .int v9), (10, .int v10)]) (fun ad sb => []) kc (jp σ tt ff)
def L_law_396 (n L : Nat) (xs : Nat → Int32) (tt ff : Nat → Int32) (kc : Nat) (v2 : Int32) (v3 : Int32) (v6 : Int32) (v7 : Int32) (v9 : Int32) (v10 : Int32) (v11 : Int32) (σ : cg_S) : Prop := cq_L (cg_W3 n) n L xs 396 (fun ad sb => [(1, .ref (ad 0)), (2, .int v2), (3, .int v3), (4, .ref (ad 88)), (6, .int v6), (7, .int v7), (8, .ref (ad 89)), (9, .int v9), (10, .int v10), (11, .int v11)]) (fun ad sb => []) kc (jp σ tt ff)
def L_law_423 (n L : Nat) (xs : Nat → Int32) (tt ff : Nat → Int32) (kc : Nat) (v2 : Int32) (v3 : Int32) (v6 : Int32) (v7 : Int32) (v10 : Int32) (v11 : Int32) (t0 : Int32) (t1 : Int32) (σ : cg_S) : Prop := cq_L (cg_W3 n) n L xs 423 (fun ad sb => [(1, .ref (ad 0)), (2, .int v2), (3, .int v3), (4, .ref (ad 88)), (6, .int v6), (7, .int v7), (8, .ref (ad 89)), (10, .int v10), (11, .int v11)]) (fun ad sb => [.int t1, .int t0]) kc (jp σ tt ff)
set_option maxRecDepth 100000 in
set_option maxHeartbeats 4000000 in
theorem v_law_423 {n L : Nat} {xs tt ff : Nat → Int32} {kc : Nat} {v2 : Int32} {v3 : Int32} {v6 : Int32} {v7 : Int32} {v10 : Int32} {v11 : Int32} {t0 : Int32} {t1 : Int32} {σ : cg_S} (hL : L ≤ 260) (hk : kc + 62 ≤ 8000)
    (h : ∀ x1 : Int32, x1 = t0 + t1 → M_L_told v11 σ (fun r2 s3 => M_L_choices v11 s3 (fun r4 s5 => (r4 ≤ r2 → ∀ x6 : Int32, x6 = v3 &&& 0 → L_law_396 n L xs tt ff (kc + 2) v2 x6 v6 v7 x1 v10 (v11 + 1) s5) ∧ (¬ r4 ≤ r2 → M_L_isBest v7 v11 s5 (fun r7 s8 => (r7 = 0 → ∀ x9 : Int32, x9 = v3 &&& 0 → L_law_396 n L xs tt ff (kc + 62) v2 x9 v6 v7 x1 v10 (v11 + 1) s8) ∧ (¬ r7 = 0 → ∀ x10 : Int32, x10 = v3 &&& 1 → L_law_396 n L xs tt ff (kc + 62) v2 x10 v6 v7 x1 v10 (v11 + 1) s8)))))) : L_law_423 n L xs tt ff kc v2 v3 v6 v7 v10 v11 t0 t1 σ := by
  intro p l e s m args below meth c D cy ad Z sb tab hQ hE
  have hY := hQ.1
  have hC := hY.1
  refine ga_iadd hC dL_law_423 ?_
  refine ga_topi (fun x1 ex1 => ?_)
  have h := h x1 ex1
  refine ga_istore (lv' := [(9, .int x1), (1, .ref (ad 0)), (2, .int v2), (3, .int v3), (4, .ref (ad 88)), (6, .int v6), (7, .int v7), (8, .ref (ad 89)), (10, .int v10), (11, .int v11)]) hC dL_law_424 (by decide) rfl ?_
  refine ga_iload_n hC dL_law_426 3 rfl rfl ?_
  refine ga_aload_n hC dL_law_427 1 rfl rfl ?_
  refine ga_iload hC dL_law_428 9 rfl ?_
  refine gp_callW (As := [.ref (ad 0), .int v11]) (st := [.int v3]) (n := 2) (Nat.le_of_ble_eq_true rfl) jp_in3 hY h qw_4_134 qw_4_135 qw_1_0 (cg_in4 136 (by decide +kernel) (by decide +kernel)) rfl rfl rfl (by decide +kernel) ⟨by show _ ≤ 600312; omega, by show _ ≤ 7291745; omega⟩ ⟨Nat.le_of_ble_eq_true rfl, Nat.le_of_ble_eq_true rfl⟩ rfl rfl (Nat.le_of_ble_eq_true rfl) dL_law_430 (fun v s3 hq => ⟨jp s3 tt ff, jp_in3, jp_ke3, ?_⟩)
  obtain ⟨r2, rfl, h⟩ := hq
  refine ga_aload_n hC dL_law_433 1 rfl rfl ?_
  refine ga_iload hC dL_law_434 9 rfl ?_
  refine gp_callW (As := [.ref (ad 0), .int v11]) (st := [.int r2, .int v3]) (n := 2) (Nat.le_of_ble_eq_true rfl) jp_in3 hY h qw_4_77 qw_4_78 qw_1_0 (cg_in4 79 (by decide +kernel) (by decide +kernel)) rfl rfl rfl (by decide +kernel) ⟨by show _ ≤ 600312; omega, by show _ ≤ 7291745; omega⟩ ⟨Nat.le_of_ble_eq_true rfl, Nat.le_of_ble_eq_true rfl⟩ rfl rfl (Nat.le_of_ble_eq_true rfl) dL_law_436 (fun v s5 hq => ⟨jp s5 tt ff, jp_in3, jp_ke3, ?_⟩)
  obtain ⟨r4, rfl, h⟩ := hq
  refine ga_icmp_ge (tgt := 457) hC dL_law_439 (by decide) (fun hc => ?_) (fun hc => ?_)
  · have h := h.1 hc
    refine ga_iconst (v := 0) hC dL_law_457 (by decide) ?_
    refine ga_iand hC dL_law_458 ?_
    refine ga_topi (fun x6 ex6 => ?_)
    have h := h x6 ex6
    refine ga_istore_n (lv' := [(3, .int x6), (9, .int x1), (1, .ref (ad 0)), (2, .int v2), (4, .ref (ad 88)), (6, .int v6), (7, .int v7), (8, .ref (ad 89)), (10, .int v10), (11, .int v11)]) hC dL_law_459 rfl (by decide) rfl ?_
    refine ga_iinc (v := v11 + 1) (lv' := [(11, .int (v11 + 1)), (3, .int x6), (9, .int x1), (1, .ref (ad 0)), (2, .int v2), (4, .ref (ad 88)), (6, .int v6), (7, .int v7), (8, .ref (ad 89)), (10, .int v10)]) hC dL_law_460 9 rfl rfl (by decide) rfl ?_
    refine ga_goto (tgt := 396) hC dL_law_463 (by decide) ?_
    refine ga_locals [3, 4, 1, 5, 6, 7, 8, 2, 9, 0] rfl ?_
    refine gp_kc (k := kc + 2) (by omega) (by omega) ?_
    exact h p l e s m args below meth c D cy ad Z sb tab hQ hE
  · have h := h.2 hc
    refine ga_aload_n hC dL_law_442 1 rfl rfl ?_
    refine ga_iload hC dL_law_443 6 rfl ?_
    refine ga_iload hC dL_law_445 9 rfl ?_
    refine gp_callH (As := [.ref (ad 0), .int v7, .int v11]) (st := [.int v3]) (n := 3) (Nat.le_of_ble_eq_true rfl) jp_in3 hY h qw_4_141 qw_4_142 qw_1_0 qw_4_143 rfl rfl rfl (by decide +kernel) ⟨by show _ ≤ 600312; omega, by show _ ≤ 7291745; omega⟩ ⟨Nat.le_of_ble_eq_true rfl, Nat.le_of_ble_eq_true rfl⟩ rfl rfl (Nat.le_of_ble_eq_true rfl) dL_law_447 (fun v s8 hq => ⟨jp s8 tt ff, jp_in3, jp_ke3, ?_⟩)
    obtain ⟨r7, rfl, h⟩ := hq
    refine ga_if_eq (tgt := 457) hC dL_law_450 (by decide) (fun hc => ?_) (fun hc => ?_)
    · have h := h.1 hc
      refine ga_iconst (v := 0) hC dL_law_457 (by decide) ?_
      refine ga_iand hC dL_law_458 ?_
      refine ga_topi (fun x9 ex9 => ?_)
      have h := h x9 ex9
      refine ga_istore_n (lv' := [(3, .int x9), (9, .int x1), (1, .ref (ad 0)), (2, .int v2), (4, .ref (ad 88)), (6, .int v6), (7, .int v7), (8, .ref (ad 89)), (10, .int v10), (11, .int v11)]) hC dL_law_459 rfl (by decide) rfl ?_
      refine ga_iinc (v := v11 + 1) (lv' := [(11, .int (v11 + 1)), (3, .int x9), (9, .int x1), (1, .ref (ad 0)), (2, .int v2), (4, .ref (ad 88)), (6, .int v6), (7, .int v7), (8, .ref (ad 89)), (10, .int v10)]) hC dL_law_460 9 rfl rfl (by decide) rfl ?_
      refine ga_goto (tgt := 396) hC dL_law_463 (by decide) ?_
      refine ga_locals [3, 4, 1, 5, 6, 7, 8, 2, 9, 0] rfl ?_
      refine gp_kc (k := kc + 62) (by omega) (by omega) ?_
      exact h p l e s m args below meth c D cy ad Z sb tab hQ hE
    · have h := h.2 hc
      refine ga_iconst (v := 1) hC dL_law_453 (by decide) ?_
      refine ga_goto (tgt := 458) hC dL_law_454 (by decide) ?_
      refine ga_iand hC dL_law_458 ?_
      refine ga_topi (fun x10 ex10 => ?_)
      have h := h x10 ex10
      refine ga_istore_n (lv' := [(3, .int x10), (9, .int x1), (1, .ref (ad 0)), (2, .int v2), (4, .ref (ad 88)), (6, .int v6), (7, .int v7), (8, .ref (ad 89)), (10, .int v10), (11, .int v11)]) hC dL_law_459 rfl (by decide) rfl ?_
      refine ga_iinc (v := v11 + 1) (lv' := [(11, .int (v11 + 1)), (3, .int x10), (9, .int x1), (1, .ref (ad 0)), (2, .int v2), (4, .ref (ad 88)), (6, .int v6), (7, .int v7), (8, .ref (ad 89)), (10, .int v10)]) hC dL_law_460 9 rfl rfl (by decide) rfl ?_
      refine ga_goto (tgt := 396) hC dL_law_463 (by decide) ?_
      refine ga_locals [3, 4, 1, 5, 6, 7, 8, 2, 9, 0] rfl ?_
      refine gp_kc (k := kc + 62) (by omega) (by omega) ?_
      exact h p l e s m args below meth c D cy ad Z sb tab hQ hE
set_option maxRecDepth 100000 in
set_option maxHeartbeats 4000000 in
theorem v_law_396 {n L : Nat} {xs tt ff : Nat → Int32} {kc : Nat} {v2 : Int32} {v3 : Int32} {v6 : Int32} {v7 : Int32} {v9 : Int32} {v10 : Int32} {v11 : Int32} {σ : cg_S} (hL : L ≤ 260) (hk : kc + 802 ≤ 8000)
    (h : (v2 ≤ v11 → (¬ v10 = v9 → ∀ x1 : Int32, x1 = v3 &&& 0 → L_law_332 n L xs tt ff kc v2 x1 (v6 + 1) σ) ∧ (v10 = v9 → M_L_solve v7 σ (fun r2 s3 => (¬ r2 = 0 → ∀ x4 : Int32, x4 = v3 &&& 0 → L_law_332 n L xs tt ff (kc + 2) v2 x4 (v6 + 1) s3) ∧ (r2 = 0 → M_L_areTraces n tt ff v2 s3 (fun r5 s6 => (r5 = 0 → ∀ x7 : Int32, x7 = v3 &&& 0 → L_law_332 n L xs tt ff (kc + 502) v2 x7 (v6 + 1) s6) ∧ (¬ r5 = 0 → M_L_areClosed v2 s6 (fun r8 s9 => (r8 = 0 → ∀ x10 : Int32, x10 = v3 &&& 0 → L_law_332 n L xs tt ff (kc + 802) v2 x10 (v6 + 1) s9) ∧ (¬ r8 = 0 → ∀ x11 : Int32, x11 = v3 &&& 1 → L_law_332 n L xs tt ff (kc + 802) v2 x11 (v6 + 1) s9)))))))) ∧ (¬ v2 ≤ v11 → vp_in v11 n ∧ M_L_told v11 σ (fun r13 s14 => (¬ (ff v11.toNatClampNeg) = r13 → L_law_423 n L xs tt ff (kc + 1) v2 v3 v6 v7 v10 v11 v9 1 s14) ∧ ((ff v11.toNatClampNeg) = r13 → L_law_423 n L xs tt ff (kc + 1) v2 v3 v6 v7 v10 v11 v9 0 s14)))) : L_law_396 n L xs tt ff kc v2 v3 v6 v7 v9 v10 v11 σ := by
  intro p l e s m args below meth c D cy ad Z sb tab hQ hE
  have hY := hQ.1
  have hC := hY.1
  refine ga_iload hC dL_law_396 9 rfl ?_
  refine ga_iload_n hC dL_law_398 1 rfl rfl ?_
  refine ga_icmp_ge (tgt := 466) hC dL_law_399 (by decide) (fun hc => ?_) (fun hc => ?_)
  · have h := h.1 hc
    refine ga_iload_n hC dL_law_466 2 rfl rfl ?_
    refine ga_iload hC dL_law_467 8 rfl ?_
    refine ga_iload hC dL_law_469 7 rfl ?_
    refine ga_icmp_ne (tgt := 505) hC dL_law_471 (by decide) (fun hc => ?_) (fun hc => ?_)
    · have h := h.1 hc
      refine ga_iconst (v := 0) hC dL_law_505 (by decide) ?_
      refine ga_iand hC dL_law_506 ?_
      refine ga_topi (fun x1 ex1 => ?_)
      have h := h x1 ex1
      refine ga_istore_n (lv' := [(3, .int x1), (1, .ref (ad 0)), (2, .int v2), (4, .ref (ad 88)), (6, .int v6), (7, .int v7), (8, .ref (ad 89)), (9, .int v9), (10, .int v10), (11, .int v11)]) hC dL_law_507 rfl (by decide) rfl ?_
      refine ga_iinc (v := v6 + 1) (lv' := [(6, .int (v6 + 1)), (3, .int x1), (1, .ref (ad 0)), (2, .int v2), (4, .ref (ad 88)), (7, .int v7), (8, .ref (ad 89)), (9, .int v9), (10, .int v10), (11, .int v11)]) hC dL_law_508 4 rfl rfl (by decide) rfl ?_
      refine ga_goto (tgt := 332) hC dL_law_511 (by decide) ?_
      refine ga_locals [2, 3, 1, 4, 0] rfl ?_
      refine gp_kc (k := kc) (by omega) (by omega) ?_
      refine gp_drop (g := ff) hQ ?_
      exact h p l e s m args below meth c D cy ad Z sb tab (cq_drop hQ) hE
    · have h := h.2 hc
      refine ga_aload_n hC dL_law_474 0 rfl rfl ?_
      refine ga_iload hC dL_law_475 5 rfl ?_
      refine gp_callW (As := [.ref (ad 0), .int v7]) (st := [.int v3]) (n := 2) (Nat.le_of_ble_eq_true rfl) jp_in3 hY h qw_4_84 qw_4_85 qw_1_0 (cg_in4 86 (by decide +kernel) (by decide +kernel)) rfl rfl rfl (by decide +kernel) ⟨by show _ ≤ 600312; omega, by show _ ≤ 7291745; omega⟩ ⟨Nat.le_of_ble_eq_true rfl, Nat.le_of_ble_eq_true rfl⟩ rfl rfl (Nat.le_of_ble_eq_true rfl) dL_law_477 (fun v s3 hq => ⟨jp s3 tt ff, jp_in3, jp_ke3, ?_⟩)
      obtain ⟨r2, rfl, h⟩ := hq
      refine ga_if_ne (tgt := 505) hC dL_law_480 (by decide) (fun hc => ?_) (fun hc => ?_)
      · have h := h.1 hc
        refine ga_iconst (v := 0) hC dL_law_505 (by decide) ?_
        refine ga_iand hC dL_law_506 ?_
        refine ga_topi (fun x4 ex4 => ?_)
        have h := h x4 ex4
        refine ga_istore_n (lv' := [(3, .int x4), (1, .ref (ad 0)), (2, .int v2), (4, .ref (ad 88)), (6, .int v6), (7, .int v7), (8, .ref (ad 89)), (9, .int v9), (10, .int v10), (11, .int v11)]) hC dL_law_507 rfl (by decide) rfl ?_
        refine ga_iinc (v := v6 + 1) (lv' := [(6, .int (v6 + 1)), (3, .int x4), (1, .ref (ad 0)), (2, .int v2), (4, .ref (ad 88)), (7, .int v7), (8, .ref (ad 89)), (9, .int v9), (10, .int v10), (11, .int v11)]) hC dL_law_508 4 rfl rfl (by decide) rfl ?_
        refine ga_goto (tgt := 332) hC dL_law_511 (by decide) ?_
        refine ga_locals [2, 3, 1, 4, 0] rfl ?_
        refine gp_kc (k := kc + 2) (by omega) (by omega) ?_
        refine gp_drop (g := ff) hQ ?_
        exact h p l e s m args below meth c D cy ad Z sb tab (cq_drop hQ) hE
      · have h := h.2 hc
        refine ga_aload_n hC dL_law_483 0 rfl rfl ?_
        refine ga_iload_n hC dL_law_484 1 rfl rfl ?_
        refine ga_aload hC dL_law_485 3 rfl ?_
        refine gp_callH (As := [.ref (ad 0), .int v2, .ref (ad 88)]) (st := [.int v3]) (n := 3) (Nat.le_of_ble_eq_true rfl) jp_in23 hY h qw_6_32 qw_6_33 qw_1_0 qw_6_34 rfl rfl rfl (by decide +kernel) ⟨by show _ ≤ 600312; omega, by show _ ≤ 7291745; omega⟩ ⟨Nat.le_of_ble_eq_true rfl, Nat.le_of_ble_eq_true rfl⟩ rfl rfl (Nat.le_of_ble_eq_true rfl) dL_law_487 (fun v s6 hq => ?_)
        obtain ⟨r5, s6a, rfl, rfl, h⟩ := hq
        refine ⟨jp s6a tt ff, jp_in23, jp_ke23, ?_⟩
        obtain ⟨s6, es6⟩ : ∃ z, z = s6a := ⟨_, rfl⟩
        rw [← es6] at h ⊢
        clear es6
        refine ga_if_eq (tgt := 505) hC dL_law_490 (by decide) (fun hc => ?_) (fun hc => ?_)
        · have h := h.1 hc
          refine ga_iconst (v := 0) hC dL_law_505 (by decide) ?_
          refine ga_iand hC dL_law_506 ?_
          refine ga_topi (fun x7 ex7 => ?_)
          have h := h x7 ex7
          refine ga_istore_n (lv' := [(3, .int x7), (1, .ref (ad 0)), (2, .int v2), (4, .ref (ad 88)), (6, .int v6), (7, .int v7), (8, .ref (ad 89)), (9, .int v9), (10, .int v10), (11, .int v11)]) hC dL_law_507 rfl (by decide) rfl ?_
          refine ga_iinc (v := v6 + 1) (lv' := [(6, .int (v6 + 1)), (3, .int x7), (1, .ref (ad 0)), (2, .int v2), (4, .ref (ad 88)), (7, .int v7), (8, .ref (ad 89)), (9, .int v9), (10, .int v10), (11, .int v11)]) hC dL_law_508 4 rfl rfl (by decide) rfl ?_
          refine ga_goto (tgt := 332) hC dL_law_511 (by decide) ?_
          refine ga_locals [2, 3, 1, 4, 0] rfl ?_
          refine gp_kc (k := kc + 502) (by omega) (by omega) ?_
          refine gp_drop (g := ff) hQ ?_
          exact h p l e s m args below meth c D cy ad Z sb tab (cq_drop hQ) hE
        · have h := h.2 hc
          refine ga_aload_n hC dL_law_493 0 rfl rfl ?_
          refine ga_iload_n hC dL_law_494 1 rfl rfl ?_
          refine gp_callH (As := [.ref (ad 0), .int v2]) (st := [.int v3]) (n := 2) (Nat.le_of_ble_eq_true rfl) jp_in3 hY h qw_5_199 qw_5_200 qw_1_0 qw_5_201 rfl rfl rfl (by decide +kernel) ⟨by show _ ≤ 600312; omega, by show _ ≤ 7291745; omega⟩ ⟨Nat.le_of_ble_eq_true rfl, Nat.le_of_ble_eq_true rfl⟩ rfl rfl (Nat.le_of_ble_eq_true rfl) dL_law_495 (fun v s9 hq => ⟨jp s9 tt ff, jp_in3, jp_ke3, ?_⟩)
          obtain ⟨r8, rfl, h⟩ := hq
          refine ga_if_eq (tgt := 505) hC dL_law_498 (by decide) (fun hc => ?_) (fun hc => ?_)
          · have h := h.1 hc
            refine ga_iconst (v := 0) hC dL_law_505 (by decide) ?_
            refine ga_iand hC dL_law_506 ?_
            refine ga_topi (fun x10 ex10 => ?_)
            have h := h x10 ex10
            refine ga_istore_n (lv' := [(3, .int x10), (1, .ref (ad 0)), (2, .int v2), (4, .ref (ad 88)), (6, .int v6), (7, .int v7), (8, .ref (ad 89)), (9, .int v9), (10, .int v10), (11, .int v11)]) hC dL_law_507 rfl (by decide) rfl ?_
            refine ga_iinc (v := v6 + 1) (lv' := [(6, .int (v6 + 1)), (3, .int x10), (1, .ref (ad 0)), (2, .int v2), (4, .ref (ad 88)), (7, .int v7), (8, .ref (ad 89)), (9, .int v9), (10, .int v10), (11, .int v11)]) hC dL_law_508 4 rfl rfl (by decide) rfl ?_
            refine ga_goto (tgt := 332) hC dL_law_511 (by decide) ?_
            refine ga_locals [2, 3, 1, 4, 0] rfl ?_
            refine gp_kc (k := kc + 802) (by omega) (by omega) ?_
            refine gp_drop (g := ff) hQ ?_
            exact h p l e s m args below meth c D cy ad Z sb tab (cq_drop hQ) hE
          · have h := h.2 hc
            refine ga_iconst (v := 1) hC dL_law_501 (by decide) ?_
            refine ga_goto (tgt := 506) hC dL_law_502 (by decide) ?_
            refine ga_iand hC dL_law_506 ?_
            refine ga_topi (fun x11 ex11 => ?_)
            have h := h x11 ex11
            refine ga_istore_n (lv' := [(3, .int x11), (1, .ref (ad 0)), (2, .int v2), (4, .ref (ad 88)), (6, .int v6), (7, .int v7), (8, .ref (ad 89)), (9, .int v9), (10, .int v10), (11, .int v11)]) hC dL_law_507 rfl (by decide) rfl ?_
            refine ga_iinc (v := v6 + 1) (lv' := [(6, .int (v6 + 1)), (3, .int x11), (1, .ref (ad 0)), (2, .int v2), (4, .ref (ad 88)), (7, .int v7), (8, .ref (ad 89)), (9, .int v9), (10, .int v10), (11, .int v11)]) hC dL_law_508 4 rfl rfl (by decide) rfl ?_
            refine ga_goto (tgt := 332) hC dL_law_511 (by decide) ?_
            refine ga_locals [2, 3, 1, 4, 0] rfl ?_
            refine gp_kc (k := kc + 802) (by omega) (by omega) ?_
            refine gp_drop (g := ff) hQ ?_
            exact h p l e s m args below meth c D cy ad Z sb tab (cq_drop hQ) hE
  · have h := h.2 hc
    refine ga_iload hC dL_law_402 7 rfl ?_
    refine ga_aload hC dL_law_404 6 rfl ?_
    refine ga_iload hC dL_law_406 9 rfl ?_
    obtain ⟨h12, h⟩ := h
    refine ga_iald hC aQ_89 (Nat.le_of_ble_eq_true rfl) h12 dL_law_408 ?_
    refine ga_eqi (ff v11.toNatClampNeg) rfl ?_
    refine ga_aload_n hC dL_law_409 0 rfl rfl ?_
    refine ga_iload hC dL_law_410 9 rfl ?_
    refine gp_callW (As := [.ref (ad 0), .int v11]) (st := [.int (ff v11.toNatClampNeg), .int v9]) (n := 2) (Nat.le_of_ble_eq_true rfl) jp_in3 hY h qw_4_134 qw_4_135 qw_1_0 (cg_in4 136 (by decide +kernel) (by decide +kernel)) rfl rfl rfl (by decide +kernel) ⟨by show _ ≤ 600312; omega, by show _ ≤ 7291745; omega⟩ ⟨Nat.le_of_ble_eq_true rfl, Nat.le_of_ble_eq_true rfl⟩ rfl rfl (Nat.le_of_ble_eq_true rfl) dL_law_412 (fun v s14 hq => ⟨jp s14 tt ff, jp_in3, jp_ke3, ?_⟩)
    obtain ⟨r13, rfl, h⟩ := hq
    refine ga_icmp_ne (tgt := 422) hC dL_law_415 (by decide) (fun hc => ?_) (fun hc => ?_)
    · have h := h.1 hc
      refine ga_iconst (v := 1) hC dL_law_422 (by decide) ?_
      refine ga_locals [0, 1, 2, 3, 4, 5, 6, 8, 9] rfl ?_
      refine gp_kc (k := kc + 1) (by omega) (by omega) ?_
      exact h p l e s m args below meth c D cy ad Z sb tab hQ hE
    · have h := h.2 hc
      refine ga_iconst (v := 0) hC dL_law_418 (by decide) ?_
      refine ga_goto (tgt := 423) hC dL_law_419 (by decide) ?_
      refine ga_locals [0, 1, 2, 3, 4, 5, 6, 8, 9] rfl ?_
      refine gp_kc (k := kc + 1) (by omega) (by omega) ?_
      exact h p l e s m args below meth c D cy ad Z sb tab hQ hE
set_option maxRecDepth 100000 in
set_option maxHeartbeats 4000000 in
theorem v_law_362 {n L : Nat} {xs tt ff : Nat → Int32} {kc : Nat} {v2 : Int32} {v3 : Int32} {v6 : Int32} {v7 : Int32} {v9 : Int32} {v10 : Int32} {σ : cg_S} (hL : L ≤ 260) (hk : kc + 2 ≤ 8000)
    (h : (v2 ≤ v10 → M_L_solve v7 σ (fun r1 s2 => L_law_396 n L xs tt ff (kc + 2) v2 v3 v6 v7 v9 r1 0 s2)) ∧ (¬ v2 ≤ v10 → M_L_told v10 σ (fun r3 s4 => vp_in v10 n ∧ ∀ ta6 : Nat → Int32, ta6 = upd ff v10.toNatClampNeg r3 → L_law_362 n L xs tt ta6 (kc + 1) v2 v3 v6 v7 v9 (v10 + 1) s4))) : L_law_362 n L xs tt ff kc v2 v3 v6 v7 v9 v10 σ := by
  intro p l e s m args below meth c D cy ad Z sb tab hQ hE
  have hY := hQ.1
  have hC := hY.1
  refine ga_iload hC dL_law_362 8 rfl ?_
  refine ga_iload_n hC dL_law_364 1 rfl rfl ?_
  refine ga_icmp_ge (tgt := 385) hC dL_law_365 (by decide) (fun hc => ?_) (fun hc => ?_)
  · have h := h.1 hc
    refine ga_aload_n hC dL_law_385 0 rfl rfl ?_
    refine ga_iload hC dL_law_386 5 rfl ?_
    refine gp_callW (As := [.ref (ad 0), .int v7]) (st := []) (n := 2) (Nat.le_of_ble_eq_true rfl) jp_in3 hY h qw_4_84 qw_4_85 qw_1_0 (cg_in4 86 (by decide +kernel) (by decide +kernel)) rfl rfl rfl (by decide +kernel) ⟨by show _ ≤ 600312; omega, by show _ ≤ 7291745; omega⟩ ⟨Nat.le_of_ble_eq_true rfl, Nat.le_of_ble_eq_true rfl⟩ rfl rfl (Nat.le_of_ble_eq_true rfl) dL_law_388 (fun v s2 hq => ⟨jp s2 tt ff, jp_in3, jp_ke3, ?_⟩)
    obtain ⟨r1, rfl, h⟩ := hq
    refine ga_istore (lv' := [(10, .int r1), (1, .ref (ad 0)), (2, .int v2), (3, .int v3), (4, .ref (ad 88)), (6, .int v6), (7, .int v7), (8, .ref (ad 89)), (9, .int v9)]) hC dL_law_391 (by decide) rfl ?_
    refine ga_iconst (v := 0) hC dL_law_393 (by decide) ?_
    refine ga_istore (lv' := [(11, .int 0), (10, .int r1), (1, .ref (ad 0)), (2, .int v2), (3, .int v3), (4, .ref (ad 88)), (6, .int v6), (7, .int v7), (8, .ref (ad 89)), (9, .int v9)]) hC dL_law_394 (by decide) rfl ?_
    refine ga_locals [2, 3, 4, 5, 6, 7, 8, 9, 1, 0] rfl ?_
    refine gp_kc (k := kc + 2) (by omega) (by omega) ?_
    exact h p l e s m args below meth c D cy ad Z sb tab hQ hE
  · have h := h.2 hc
    refine ga_aload hC dL_law_368 6 rfl ?_
    refine ga_iload hC dL_law_370 8 rfl ?_
    refine ga_aload_n hC dL_law_372 0 rfl rfl ?_
    refine ga_iload hC dL_law_373 8 rfl ?_
    refine gp_callW (As := [.ref (ad 0), .int v10]) (st := [.int v10, .ref (ad 89)]) (n := 2) (Nat.le_of_ble_eq_true rfl) jp_in3 hY h qw_4_134 qw_4_135 qw_1_0 (cg_in4 136 (by decide +kernel) (by decide +kernel)) rfl rfl rfl (by decide +kernel) ⟨by show _ ≤ 600312; omega, by show _ ≤ 7291745; omega⟩ ⟨Nat.le_of_ble_eq_true rfl, Nat.le_of_ble_eq_true rfl⟩ rfl rfl (Nat.le_of_ble_eq_true rfl) dL_law_375 (fun v s4 hq => ⟨jp s4 tt ff, jp_in3, jp_ke3, ?_⟩)
    obtain ⟨r3, rfl, h⟩ := hq
    obtain ⟨h5, h⟩ := h
    refine ga_iast hC aQ_89 (Nat.le_of_ble_eq_true rfl) h5 dL_law_378 ?_
    obtain ⟨ta6, eta6⟩ : ∃ z : Nat → Int32, z = upd ff v10.toNatClampNeg r3 := ⟨_, rfl⟩
    have h := h ta6 eta6
    rw [jp_j, ← eta6]
    refine ga_iinc (v := v10 + 1) (lv' := [(10, .int (v10 + 1)), (1, .ref (ad 0)), (2, .int v2), (3, .int v3), (4, .ref (ad 88)), (6, .int v6), (7, .int v7), (8, .ref (ad 89)), (9, .int v9)]) hC dL_law_379 8 rfl rfl (by decide) rfl ?_
    refine ga_goto (tgt := 362) hC dL_law_382 (by decide) ?_
    refine ga_locals [1, 2, 3, 4, 5, 6, 7, 8, 0] rfl ?_
    refine gp_kc (k := kc + 1) (by omega) (by omega) ?_
    exact h p l e s m args below meth c D cy ad Z sb tab hQ hE
set_option maxRecDepth 100000 in
set_option maxHeartbeats 4000000 in
theorem v_law_356 {n L : Nat} {xs tt ff : Nat → Int32} {kc : Nat} {v2 : Int32} {v3 : Int32} {v6 : Int32} {v7 : Int32} {σ : cg_S} (hL : L ≤ 260) (hk : kc + 0 ≤ 8000)
    (h : L_law_362 n L xs tt ff kc v2 v3 v6 v7 0 0 σ) : L_law_356 n L xs tt ff kc v2 v3 v6 v7 σ := by
  intro p l e s m args below meth c D cy ad Z sb tab hQ hE
  have hY := hQ.1
  have hC := hY.1
  refine ga_iconst (v := 0) hC dL_law_356 (by decide) ?_
  refine ga_istore (lv' := [(9, .int 0), (1, .ref (ad 0)), (2, .int v2), (3, .int v3), (4, .ref (ad 88)), (6, .int v6), (7, .int v7), (8, .ref (ad 89))]) hC dL_law_357 (by decide) rfl ?_
  refine ga_iconst (v := 0) hC dL_law_359 (by decide) ?_
  refine ga_istore (lv' := [(10, .int 0), (9, .int 0), (1, .ref (ad 0)), (2, .int v2), (3, .int v3), (4, .ref (ad 88)), (6, .int v6), (7, .int v7), (8, .ref (ad 89))]) hC dL_law_360 (by decide) rfl ?_
  refine ga_locals [2, 3, 4, 5, 6, 7, 8, 1, 0] rfl ?_
  refine gp_kc (k := kc) (by omega) (by omega) ?_
  exact h p l e s m args below meth c D cy ad Z sb tab hQ hE
set_option maxRecDepth 100000 in
set_option maxHeartbeats 4000000 in
theorem v_law_332 {n L : Nat} {xs tt ff : Nat → Int32} {kc : Nat} {v2 : Int32} {v3 : Int32} {v6 : Int32} {σ : cg_S} (hL : L ≤ 260) (hk : kc + 1 ≤ 8000)
    (h : (4 ≤ v6 → v3 = 1) ∧ (¬ 4 ≤ v6 → (v3 = 0 → v3 = 1) ∧ (¬ v3 = 0 → vp_in v6 4 ∧ ∀ x2 : Int32, x2 = aimc v6 → (¬ v2 < 0 ∧ v2.toNatClampNeg = n ∧ n ≤ 6) ∧ L_law_356 n L xs tt (fun _ => 0) (kc + 1) v2 v3 v6 x2 σ))) : L_law_332 n L xs tt ff kc v2 v3 v6 σ := by
  intro p l e s m args below meth c D cy ad Z sb tab hQ hE
  have hY := hQ.1
  have hC := hY.1
  refine ga_iload hC dL_law_332 4 rfl ?_
  refine ga_iconst (v := 4) hC dL_law_334 (by decide) ?_
  refine ga_icmp_ge (tgt := 514) hC dL_law_335 (by decide) (fun hc => ?_) (fun hc => ?_)
  · have h := h.1 hc
    refine ga_locals [2] rfl ?_
    refine gp_kc (k := kc) (by omega) (by omega) ?_
    exact hE ad _ _ _ h (by omega) hQ
  · have h := h.2 hc
    refine ga_iload_n hC dL_law_338 2 rfl rfl ?_
    refine ga_if_eq (tgt := 514) hC dL_law_339 (by decide) (fun hc => ?_) (fun hc => ?_)
    · have h := h.1 hc
      refine ga_locals [2] rfl ?_
      refine gp_kc (k := kc) (by omega) (by omega) ?_
      exact hE ad _ _ _ h (by omega) hQ
    · have h := h.2 hc
      obtain ⟨sa, sc, hsp⟩ := hQ.1.2.2.2.2.2.2
      refine gs_ldc hC hsp dL_law_342 ?_
      refine ga_iload hC dL_law_344 4 rfl ?_
      obtain ⟨h1, h⟩ := h
      refine gs_callV (As := [.int v6]) (st := []) (n := 1) hC hsp (j_charAt h1) qw_5_148 qw_5_149 qw_5_150 qw_1_20 qw_5_151 rfl rfl (by decide +kernel) ⟨by show _ ≤ 600312; omega, by show _ ≤ 7291745; omega⟩ ⟨Nat.le_of_ble_eq_true rfl, Nat.le_of_ble_eq_true rfl⟩ rfl rfl (Nat.le_of_ble_eq_true rfl) dL_law_346 (fun v hq => ?_)
      subst hq
      refine ga_topi (fun x2 ex2 => ?_)
      have h := h x2 ex2
      refine ga_istore (lv' := [(7, .int x2), (1, .ref (ad 0)), (2, .int v2), (3, .int v3), (4, .ref (ad 88)), (6, .int v6)]) hC dL_law_349 (by decide) rfl ?_
      refine ga_iload_n hC dL_law_351 2 rfl rfl ?_
      obtain ⟨h3, h⟩ := h
      refine cq_newa (w := cg_W2 n) (w' := cg_W3 n) (t0 := 1) (N := n) (cA := cy 1) (ty := .int) (a0 := (n, .inl (fun _ => 0))) (σ := jp σ tt ff) (σ' := jp σ tt (fun _ => 0)) (lvf := (fun ad => [(7, .int x2), (1, .ref (ad 0)), (2, .int v2), (3, .int v3), (4, .ref (ad 88)), (6, .int v6)])) (stf := (fun ad => [])) hQ rfl (jp_c23 (f := ff)) (fun _ => rfl) (cg_in1 138 (by decide +kernel) (by decide +kernel)) rfl rfl (fun _ z => nomatch z) (fun _ => rfl) h3.1 h3.2.1 (by show n * 4 ≤ 536870912; omega) ⟨by show _ ≤ 600312; omega, by show _ ≤ 7291745; omega⟩ dL_law_352 (fun ad' hag => by simp only [hag 0 (Nat.le_of_ble_eq_true rfl), hag 88 (Nat.le_of_ble_eq_true rfl)]) (fun ad' hag => by simp only [hag 0 (Nat.le_of_ble_eq_true rfl), hag 88 (Nat.le_of_ble_eq_true rfl)]) (fun ad hag hQ => ?_)
      have hY := hQ.1
      have hC := hY.1
      refine gp_kw (k := kc + 1) (by omega) (by omega) ?_
      refine ga_astore (lv' := [(8, .ref (ad 89)), (7, .int x2), (1, .ref (ad 0)), (2, .int v2), (3, .int v3), (4, .ref (ad 88)), (6, .int v6)]) hC dL_law_354 (by decide) rfl ?_
      refine ga_locals [2, 3, 4, 5, 6, 1, 0] rfl ?_
      refine gp_kc (k := kc + 1) (by omega) (by omega) ?_
      exact h p l e s m args below meth c D cy ad Z sb tab hQ hE
set_option maxRecDepth 100000 in
set_option maxHeartbeats 4000000 in
theorem v_law_156 {n L : Nat} {xs tt ff : Nat → Int32} {kc : Nat} {v2 : Int32} {v3 : Int32} {v5 : Int32} {v6 : Int32} {v7 : Int32} {v8 : Int32} {σ : cg_S} (hL : L ≤ 260) (hk : kc + 8 ≤ 8000)
    (h : (v7 ≤ v8 → L_law_127 n L xs tt ff kc v2 v3 v5 (v6 + 1) σ) ∧ (¬ v7 ≤ v8 → ¬ (v5 + 1) < 0 ∧ ¬ (v5 + 2) < 0 ∧ M_L_addChoice v6 (pickw L xs (v5 + 1) 10) (pickw L xs (v5 + 2) 10) σ (fun r3 s4 => (¬ r3 = v8 → ∀ x5 : Int32, x5 = v3 &&& 0 → L_law_156 n L xs tt ff (kc + 2) v2 x5 (v5 + 7) v6 v7 (v8 + 1) s4) ∧ (r3 = v8 → ¬ (v5 + 3) < 0 ∧ ¬ v2 = 0 ∧ ¬ (v5 + 4) < 0 ∧ M_L_addWeight v6 v8 (pickw L xs (v5 + 3) v2) (1 + (pickw L xs (v5 + 4) 3)) s4 (fun r9 s10 => (r9 ≤ 0 → ∀ x11 : Int32, x11 = v3 &&& 0 → L_law_156 n L xs tt ff (kc + 5) v2 x11 (v5 + 7) v6 v7 (v8 + 1) s10) ∧ (¬ r9 ≤ 0 → ¬ (v5 + 5) < 0 ∧ ¬ v2 = 0 ∧ ¬ (v5 + 6) < 0 ∧ M_L_addWeight v6 v8 (pickw L xs (v5 + 5) v2) (1 + (pickw L xs (v5 + 6) 3)) s10 (fun r15 s16 => (r15 ≤ 1 → ∀ x17 : Int32, x17 = v3 &&& 0 → L_law_156 n L xs tt ff (kc + 8) v2 x17 (v5 + 7) v6 v7 (v8 + 1) s16) ∧ (¬ r15 ≤ 1 → ∀ x18 : Int32, x18 = v3 &&& 1 → L_law_156 n L xs tt ff (kc + 8) v2 x18 (v5 + 7) v6 v7 (v8 + 1) s16)))))))) : L_law_156 n L xs tt ff kc v2 v3 v5 v6 v7 v8 σ := by
  intro p l e s m args below meth c D cy ad Z sb tab hQ hE
  have hY := hQ.1
  have hC := hY.1
  refine ga_iload hC dL_law_156 8 rfl ?_
  refine ga_iload hC dL_law_158 7 rfl ?_
  refine ga_icmp_ge (tgt := 275) hC dL_law_160 (by decide) (fun hc => ?_) (fun hc => ?_)
  · have h := h.1 hc
    refine ga_iinc (v := v6 + 1) (lv' := [(6, .int (v6 + 1)), (0, .ref sb), (1, .ref (ad 0)), (2, .int v2), (3, .int v3), (4, .ref (ad 88)), (5, .int v5), (7, .int v7), (8, .int v8)]) hC dL_law_275 6 rfl rfl (by decide) rfl ?_
    refine ga_goto (tgt := 127) hC dL_law_278 (by decide) ?_
    refine ga_locals [1, 2, 3, 4, 5, 6, 0] rfl ?_
    refine gp_kc (k := kc) (by omega) (by omega) ?_
    exact h p l e s m args below meth c D cy ad Z sb tab hQ hE
  · have h := h.2 hc
    refine ga_iload_n hC dL_law_163 3 rfl rfl ?_
    refine ga_aload_n hC dL_law_164 1 rfl rfl ?_
    refine ga_iload hC dL_law_165 6 rfl ?_
    refine ga_aload_n hC dL_law_167 0 rfl rfl ?_
    refine ga_iload hC dL_law_168 5 rfl ?_
    refine ga_iconst (v := 1) hC dL_law_170 (by decide) ?_
    refine ga_iadd hC dL_law_171 ?_
    refine ga_bipush (v := 10) hC dL_law_172 (by decide) ?_
    obtain ⟨h1, h⟩ := h
    refine ck_callS (As := [.ref sb, .int (v5 + 1), .int 10]) (st := [.int v6, .ref (ad 0), .int v3]) (n := 3) hC hQ.2.2.1 hQ.2.2.2 (cq_out hQ) (k_pick hL h1 (by decide)) qw_3_112 qw_3_113 qw_1_0 qw_3_114 rfl rfl (by decide +kernel) ⟨by show _ ≤ 600312; omega, by show _ ≤ 7291745; omega⟩ ⟨Nat.le_of_ble_eq_true rfl, Nat.le_of_ble_eq_true rfl⟩ rfl rfl (Nat.le_of_ble_eq_true rfl) dL_law_174 (fun v hq => ?_)
    subst hq
    refine ga_aload_n hC dL_law_177 0 rfl rfl ?_
    refine ga_iload hC dL_law_178 5 rfl ?_
    refine ga_iconst (v := 2) hC dL_law_180 (by decide) ?_
    refine ga_iadd hC dL_law_181 ?_
    refine ga_bipush (v := 10) hC dL_law_182 (by decide) ?_
    obtain ⟨h2, h⟩ := h
    refine ck_callS (As := [.ref sb, .int (v5 + 2), .int 10]) (st := [.int (pickw L xs (v5 + 1) 10), .int v6, .ref (ad 0), .int v3]) (n := 3) hC hQ.2.2.1 hQ.2.2.2 (cq_out hQ) (k_pick hL h2 (by decide)) qw_3_112 qw_3_113 qw_1_0 qw_3_114 rfl rfl (by decide +kernel) ⟨by show _ ≤ 600312; omega, by show _ ≤ 7291745; omega⟩ ⟨Nat.le_of_ble_eq_true rfl, Nat.le_of_ble_eq_true rfl⟩ rfl rfl (Nat.le_of_ble_eq_true rfl) dL_law_184 (fun v hq => ?_)
    subst hq
    refine gp_callW (As := [.ref (ad 0), .int v6, .int (pickw L xs (v5 + 1) 10), .int (pickw L xs (v5 + 2) 10)]) (st := [.int v3]) (n := 4) (Nat.le_of_ble_eq_true rfl) jp_in2 hY h qw_3_223 qw_3_224 qw_1_0 (cg_in3 225 (by decide +kernel) (by decide +kernel)) rfl rfl rfl (by decide +kernel) ⟨by show _ ≤ 600312; omega, by show _ ≤ 7291745; omega⟩ ⟨Nat.le_of_ble_eq_true rfl, Nat.le_of_ble_eq_true rfl⟩ rfl rfl (Nat.le_of_ble_eq_true rfl) dL_law_187 (fun v s4 hq => ⟨jp s4 tt ff, jp_in2, jp_ke2, ?_⟩)
    obtain ⟨r3, rfl, h⟩ := hq
    refine ga_iload hC dL_law_190 8 rfl ?_
    refine ga_icmp_ne (tgt := 263) hC dL_law_192 (by decide) (fun hc => ?_) (fun hc => ?_)
    · have h := h.1 hc
      refine ga_iconst (v := 0) hC dL_law_263 (by decide) ?_
      refine ga_iand hC dL_law_264 ?_
      refine ga_topi (fun x5 ex5 => ?_)
      have h := h x5 ex5
      refine ga_istore_n (lv' := [(3, .int x5), (0, .ref sb), (1, .ref (ad 0)), (2, .int v2), (4, .ref (ad 88)), (5, .int v5), (6, .int v6), (7, .int v7), (8, .int v8)]) hC dL_law_265 rfl (by decide) rfl ?_
      refine ga_iinc (v := v5 + 7) (lv' := [(5, .int (v5 + 7)), (3, .int x5), (0, .ref sb), (1, .ref (ad 0)), (2, .int v2), (4, .ref (ad 88)), (6, .int v6), (7, .int v7), (8, .int v8)]) hC dL_law_266 5 rfl rfl (by decide) rfl ?_
      refine ga_iinc (v := v8 + 1) (lv' := [(8, .int (v8 + 1)), (5, .int (v5 + 7)), (3, .int x5), (0, .ref sb), (1, .ref (ad 0)), (2, .int v2), (4, .ref (ad 88)), (6, .int v6), (7, .int v7)]) hC dL_law_269 8 rfl rfl (by decide) rfl ?_
      refine ga_goto (tgt := 156) hC dL_law_272 (by decide) ?_
      refine ga_locals [3, 4, 5, 2, 6, 1, 7, 8, 0] rfl ?_
      refine gp_kc (k := kc + 2) (by omega) (by omega) ?_
      exact h p l e s m args below meth c D cy ad Z sb tab hQ hE
    · have h := h.2 hc
      refine ga_aload_n hC dL_law_195 1 rfl rfl ?_
      refine ga_iload hC dL_law_196 6 rfl ?_
      refine ga_iload hC dL_law_198 8 rfl ?_
      refine ga_aload_n hC dL_law_200 0 rfl rfl ?_
      refine ga_iload hC dL_law_201 5 rfl ?_
      refine ga_iconst (v := 3) hC dL_law_203 (by decide) ?_
      refine ga_iadd hC dL_law_204 ?_
      refine ga_iload_n hC dL_law_205 2 rfl rfl ?_
      obtain ⟨h6, h⟩ := h
      obtain ⟨h7, h⟩ := h
      refine ck_callS (As := [.ref sb, .int (v5 + 3), .int v2]) (st := [.int v8, .int v6, .ref (ad 0), .int v3]) (n := 3) hC hQ.2.2.1 hQ.2.2.2 (cq_out hQ) (k_pick hL h6 h7) qw_3_112 qw_3_113 qw_1_0 qw_3_114 rfl rfl (by decide +kernel) ⟨by show _ ≤ 600312; omega, by show _ ≤ 7291745; omega⟩ ⟨Nat.le_of_ble_eq_true rfl, Nat.le_of_ble_eq_true rfl⟩ rfl rfl (Nat.le_of_ble_eq_true rfl) dL_law_206 (fun v hq => ?_)
      subst hq
      refine ga_iconst (v := 1) hC dL_law_209 (by decide) ?_
      refine ga_aload_n hC dL_law_210 0 rfl rfl ?_
      refine ga_iload hC dL_law_211 5 rfl ?_
      refine ga_iconst (v := 4) hC dL_law_213 (by decide) ?_
      refine ga_iadd hC dL_law_214 ?_
      refine ga_iconst (v := 3) hC dL_law_215 (by decide) ?_
      obtain ⟨h8, h⟩ := h
      refine ck_callS (As := [.ref sb, .int (v5 + 4), .int 3]) (st := [.int 1, .int (pickw L xs (v5 + 3) v2), .int v8, .int v6, .ref (ad 0), .int v3]) (n := 3) hC hQ.2.2.1 hQ.2.2.2 (cq_out hQ) (k_pick hL h8 (by decide)) qw_3_112 qw_3_113 qw_1_0 qw_3_114 rfl rfl (by decide +kernel) ⟨by show _ ≤ 600312; omega, by show _ ≤ 7291745; omega⟩ ⟨Nat.le_of_ble_eq_true rfl, Nat.le_of_ble_eq_true rfl⟩ rfl rfl (Nat.le_of_ble_eq_true rfl) dL_law_216 (fun v hq => ?_)
      subst hq
      refine ga_iadd hC dL_law_219 ?_
      refine gp_callW (As := [.ref (ad 0), .int v6, .int v8, .int (pickw L xs (v5 + 3) v2), .int (1 + (pickw L xs (v5 + 4) 3))]) (st := [.int v3]) (n := 5) (Nat.le_of_ble_eq_true rfl) jp_in2 hY h qw_4_41 qw_4_42 qw_1_0 (cg_in4 43 (by decide +kernel) (by decide +kernel)) rfl rfl rfl (by decide +kernel) ⟨by show _ ≤ 600312; omega, by show _ ≤ 7291745; omega⟩ ⟨Nat.le_of_ble_eq_true rfl, Nat.le_of_ble_eq_true rfl⟩ rfl rfl (Nat.le_of_ble_eq_true rfl) dL_law_220 (fun v s10 hq => ⟨jp s10 tt ff, jp_in2, jp_ke2, ?_⟩)
      obtain ⟨r9, rfl, h⟩ := hq
      refine ga_if_le (tgt := 263) hC dL_law_223 (by decide) (fun hc => ?_) (fun hc => ?_)
      · have h := h.1 hc
        refine ga_iconst (v := 0) hC dL_law_263 (by decide) ?_
        refine ga_iand hC dL_law_264 ?_
        refine ga_topi (fun x11 ex11 => ?_)
        have h := h x11 ex11
        refine ga_istore_n (lv' := [(3, .int x11), (0, .ref sb), (1, .ref (ad 0)), (2, .int v2), (4, .ref (ad 88)), (5, .int v5), (6, .int v6), (7, .int v7), (8, .int v8)]) hC dL_law_265 rfl (by decide) rfl ?_
        refine ga_iinc (v := v5 + 7) (lv' := [(5, .int (v5 + 7)), (3, .int x11), (0, .ref sb), (1, .ref (ad 0)), (2, .int v2), (4, .ref (ad 88)), (6, .int v6), (7, .int v7), (8, .int v8)]) hC dL_law_266 5 rfl rfl (by decide) rfl ?_
        refine ga_iinc (v := v8 + 1) (lv' := [(8, .int (v8 + 1)), (5, .int (v5 + 7)), (3, .int x11), (0, .ref sb), (1, .ref (ad 0)), (2, .int v2), (4, .ref (ad 88)), (6, .int v6), (7, .int v7)]) hC dL_law_269 8 rfl rfl (by decide) rfl ?_
        refine ga_goto (tgt := 156) hC dL_law_272 (by decide) ?_
        refine ga_locals [3, 4, 5, 2, 6, 1, 7, 8, 0] rfl ?_
        refine gp_kc (k := kc + 5) (by omega) (by omega) ?_
        exact h p l e s m args below meth c D cy ad Z sb tab hQ hE
      · have h := h.2 hc
        refine ga_aload_n hC dL_law_226 1 rfl rfl ?_
        refine ga_iload hC dL_law_227 6 rfl ?_
        refine ga_iload hC dL_law_229 8 rfl ?_
        refine ga_aload_n hC dL_law_231 0 rfl rfl ?_
        refine ga_iload hC dL_law_232 5 rfl ?_
        refine ga_iconst (v := 5) hC dL_law_234 (by decide) ?_
        refine ga_iadd hC dL_law_235 ?_
        refine ga_iload_n hC dL_law_236 2 rfl rfl ?_
        obtain ⟨h12, h⟩ := h
        obtain ⟨h13, h⟩ := h
        refine ck_callS (As := [.ref sb, .int (v5 + 5), .int v2]) (st := [.int v8, .int v6, .ref (ad 0), .int v3]) (n := 3) hC hQ.2.2.1 hQ.2.2.2 (cq_out hQ) (k_pick hL h12 h13) qw_3_112 qw_3_113 qw_1_0 qw_3_114 rfl rfl (by decide +kernel) ⟨by show _ ≤ 600312; omega, by show _ ≤ 7291745; omega⟩ ⟨Nat.le_of_ble_eq_true rfl, Nat.le_of_ble_eq_true rfl⟩ rfl rfl (Nat.le_of_ble_eq_true rfl) dL_law_237 (fun v hq => ?_)
        subst hq
        refine ga_iconst (v := 1) hC dL_law_240 (by decide) ?_
        refine ga_aload_n hC dL_law_241 0 rfl rfl ?_
        refine ga_iload hC dL_law_242 5 rfl ?_
        refine ga_bipush (v := 6) hC dL_law_244 (by decide) ?_
        refine ga_iadd hC dL_law_246 ?_
        refine ga_iconst (v := 3) hC dL_law_247 (by decide) ?_
        obtain ⟨h14, h⟩ := h
        refine ck_callS (As := [.ref sb, .int (v5 + 6), .int 3]) (st := [.int 1, .int (pickw L xs (v5 + 5) v2), .int v8, .int v6, .ref (ad 0), .int v3]) (n := 3) hC hQ.2.2.1 hQ.2.2.2 (cq_out hQ) (k_pick hL h14 (by decide)) qw_3_112 qw_3_113 qw_1_0 qw_3_114 rfl rfl (by decide +kernel) ⟨by show _ ≤ 600312; omega, by show _ ≤ 7291745; omega⟩ ⟨Nat.le_of_ble_eq_true rfl, Nat.le_of_ble_eq_true rfl⟩ rfl rfl (Nat.le_of_ble_eq_true rfl) dL_law_248 (fun v hq => ?_)
        subst hq
        refine ga_iadd hC dL_law_251 ?_
        refine gp_callW (As := [.ref (ad 0), .int v6, .int v8, .int (pickw L xs (v5 + 5) v2), .int (1 + (pickw L xs (v5 + 6) 3))]) (st := [.int v3]) (n := 5) (Nat.le_of_ble_eq_true rfl) jp_in2 hY h qw_4_41 qw_4_42 qw_1_0 (cg_in4 43 (by decide +kernel) (by decide +kernel)) rfl rfl rfl (by decide +kernel) ⟨by show _ ≤ 600312; omega, by show _ ≤ 7291745; omega⟩ ⟨Nat.le_of_ble_eq_true rfl, Nat.le_of_ble_eq_true rfl⟩ rfl rfl (Nat.le_of_ble_eq_true rfl) dL_law_252 (fun v s16 hq => ⟨jp s16 tt ff, jp_in2, jp_ke2, ?_⟩)
        obtain ⟨r15, rfl, h⟩ := hq
        refine ga_iconst (v := 1) hC dL_law_255 (by decide) ?_
        refine ga_icmp_le (tgt := 263) hC dL_law_256 (by decide) (fun hc => ?_) (fun hc => ?_)
        · have h := h.1 hc
          refine ga_iconst (v := 0) hC dL_law_263 (by decide) ?_
          refine ga_iand hC dL_law_264 ?_
          refine ga_topi (fun x17 ex17 => ?_)
          have h := h x17 ex17
          refine ga_istore_n (lv' := [(3, .int x17), (0, .ref sb), (1, .ref (ad 0)), (2, .int v2), (4, .ref (ad 88)), (5, .int v5), (6, .int v6), (7, .int v7), (8, .int v8)]) hC dL_law_265 rfl (by decide) rfl ?_
          refine ga_iinc (v := v5 + 7) (lv' := [(5, .int (v5 + 7)), (3, .int x17), (0, .ref sb), (1, .ref (ad 0)), (2, .int v2), (4, .ref (ad 88)), (6, .int v6), (7, .int v7), (8, .int v8)]) hC dL_law_266 5 rfl rfl (by decide) rfl ?_
          refine ga_iinc (v := v8 + 1) (lv' := [(8, .int (v8 + 1)), (5, .int (v5 + 7)), (3, .int x17), (0, .ref sb), (1, .ref (ad 0)), (2, .int v2), (4, .ref (ad 88)), (6, .int v6), (7, .int v7)]) hC dL_law_269 8 rfl rfl (by decide) rfl ?_
          refine ga_goto (tgt := 156) hC dL_law_272 (by decide) ?_
          refine ga_locals [3, 4, 5, 2, 6, 1, 7, 8, 0] rfl ?_
          refine gp_kc (k := kc + 8) (by omega) (by omega) ?_
          exact h p l e s m args below meth c D cy ad Z sb tab hQ hE
        · have h := h.2 hc
          refine ga_iconst (v := 1) hC dL_law_259 (by decide) ?_
          refine ga_goto (tgt := 264) hC dL_law_260 (by decide) ?_
          refine ga_iand hC dL_law_264 ?_
          refine ga_topi (fun x18 ex18 => ?_)
          have h := h x18 ex18
          refine ga_istore_n (lv' := [(3, .int x18), (0, .ref sb), (1, .ref (ad 0)), (2, .int v2), (4, .ref (ad 88)), (5, .int v5), (6, .int v6), (7, .int v7), (8, .int v8)]) hC dL_law_265 rfl (by decide) rfl ?_
          refine ga_iinc (v := v5 + 7) (lv' := [(5, .int (v5 + 7)), (3, .int x18), (0, .ref sb), (1, .ref (ad 0)), (2, .int v2), (4, .ref (ad 88)), (6, .int v6), (7, .int v7), (8, .int v8)]) hC dL_law_266 5 rfl rfl (by decide) rfl ?_
          refine ga_iinc (v := v8 + 1) (lv' := [(8, .int (v8 + 1)), (5, .int (v5 + 7)), (3, .int x18), (0, .ref sb), (1, .ref (ad 0)), (2, .int v2), (4, .ref (ad 88)), (6, .int v6), (7, .int v7)]) hC dL_law_269 8 rfl rfl (by decide) rfl ?_
          refine ga_goto (tgt := 156) hC dL_law_272 (by decide) ?_
          refine ga_locals [3, 4, 5, 2, 6, 1, 7, 8, 0] rfl ?_
          refine gp_kc (k := kc + 8) (by omega) (by omega) ?_
          exact h p l e s m args below meth c D cy ad Z sb tab hQ hE
set_option maxRecDepth 100000 in
set_option maxHeartbeats 4000000 in
theorem v_law_147 {n L : Nat} {xs tt ff : Nat → Int32} {kc : Nat} {v2 : Int32} {v3 : Int32} {v5 : Int32} {v6 : Int32} {t0 : Int32} {t2 : Int32} {t3 : Int32} {σ : cg_S} (hL : L ≤ 260) (hk : kc + 0 ≤ 8000)
    (h : ¬ t2 < 0 ∧ ¬ t3 = 0 ∧ ∀ x3 : Int32, x3 = t0 + (pickw L xs t2 t3) → L_law_156 n L xs tt ff kc v2 v3 v5 v6 x3 0 σ) : L_law_147 n L xs tt ff kc v2 v3 v5 v6 t0 t2 t3 σ := by
  intro p l e s m args below meth c D cy ad Z sb tab hQ hE
  have hY := hQ.1
  have hC := hY.1
  obtain ⟨h1, h⟩ := h
  obtain ⟨h2, h⟩ := h
  refine ck_callS (As := [.ref sb, .int t2, .int t3]) (st := [.int t0]) (n := 3) hC hQ.2.2.1 hQ.2.2.2 (cq_out hQ) (k_pick hL h1 h2) qw_3_112 qw_3_113 qw_1_0 qw_3_114 rfl rfl (by decide +kernel) ⟨by show _ ≤ 600312; omega, by show _ ≤ 7291745; omega⟩ ⟨Nat.le_of_ble_eq_true rfl, Nat.le_of_ble_eq_true rfl⟩ rfl rfl (Nat.le_of_ble_eq_true rfl) dL_law_147 (fun v hq => ?_)
  subst hq
  refine ga_iadd hC dL_law_150 ?_
  refine ga_topi (fun x3 ex3 => ?_)
  have h := h x3 ex3
  refine ga_istore (lv' := [(7, .int x3), (0, .ref sb), (1, .ref (ad 0)), (2, .int v2), (3, .int v3), (4, .ref (ad 88)), (5, .int v5), (6, .int v6)]) hC dL_law_151 (by decide) rfl ?_
  refine ga_iconst (v := 0) hC dL_law_153 (by decide) ?_
  refine ga_istore (lv' := [(8, .int 0), (7, .int x3), (0, .ref sb), (1, .ref (ad 0)), (2, .int v2), (3, .int v3), (4, .ref (ad 88)), (5, .int v5), (6, .int v6)]) hC dL_law_154 (by decide) rfl ?_
  refine ga_locals [2, 3, 4, 5, 6, 7, 8, 1, 0] rfl ?_
  refine gp_kc (k := kc) (by omega) (by omega) ?_
  exact h p l e s m args below meth c D cy ad Z sb tab hQ hE
set_option maxRecDepth 100000 in
set_option maxHeartbeats 4000000 in
theorem v_law_127 {n L : Nat} {xs tt ff : Nat → Int32} {kc : Nat} {v2 : Int32} {v3 : Int32} {v5 : Int32} {v6 : Int32} {σ : cg_S} (hL : L ≤ 260) (hk : kc + 1150 ≤ 8000)
    (h : (v2 ≤ v6 → M_X11_isWhole σ (fun r1 s2 => (r1 = 0 → ∀ x3 : Int32, x3 = v3 &&& 0 → L_law_332 n L xs tt ff kc v2 x3 0 s2) ∧ (¬ r1 = 0 → M_X11_isConsistent s2 (fun r4 s5 => (r4 = 0 → ∀ x6 : Int32, x6 = v3 &&& 0 → L_law_332 n L xs tt ff kc v2 x6 0 s5) ∧ (¬ r4 = 0 → M_L_isRefused v2 s5 (fun r7 s8 => (r7 = 0 → ∀ x9 : Int32, x9 = v3 &&& 0 → L_law_332 n L xs tt ff (kc + 500) v2 x9 0 s8) ∧ (¬ r7 = 0 → M_L_areClasses v2 s8 (fun r10 s11 => (r10 = 0 → ∀ x12 : Int32, x12 = v3 &&& 0 → L_law_332 n L xs tt ff (kc + 900) v2 x12 0 s11) ∧ (¬ r10 = 0 → M_L_areBounds n tt ff v2 s11 (fun r13 s14 => (r13 = 0 → ∀ x15 : Int32, x15 = v3 &&& 0 → L_law_332 n L xs tt ff (kc + 1150) v2 x15 0 s14) ∧ (¬ r13 = 0 → ∀ x16 : Int32, x16 = v3 &&& 1 → L_law_332 n L xs tt ff (kc + 1150) v2 x16 0 s14))))))))))) ∧ (¬ v2 ≤ v6 → (v2 ≤ 4 → L_law_147 n L xs tt ff kc v2 v3 v5 v6 1 v5 3 σ) ∧ (¬ v2 ≤ 4 → L_law_147 n L xs tt ff kc v2 v3 v5 v6 1 v5 2 σ))) : L_law_127 n L xs tt ff kc v2 v3 v5 v6 σ := by
  intro p l e s m args below meth c D cy ad Z sb tab hQ hE
  have hY := hQ.1
  have hC := hY.1
  refine ga_iload hC dL_law_127 6 rfl ?_
  refine ga_iload_n hC dL_law_129 2 rfl rfl ?_
  refine ga_icmp_ge (tgt := 281) hC dL_law_130 (by decide) (fun hc => ?_) (fun hc => ?_)
  · have h := h.1 hc
    refine ga_iload_n hC dL_law_281 3 rfl rfl ?_
    refine ga_aload_n hC dL_law_282 1 rfl rfl ?_
    refine gp_callC (As := []) (st := [.int v3]) (n := 0) (Nat.le_of_ble_eq_true rfl) jp_in2 hC h qw_2_160 qw_2_161 qw_2_162 qw_1_1 qw_2_163 rfl rfl rfl (by decide +kernel) ⟨by show _ ≤ 600312; omega, by show _ ≤ 7291745; omega⟩ ⟨Nat.le_of_ble_eq_true rfl, Nat.le_of_ble_eq_true rfl⟩ rfl rfl (Nat.le_of_ble_eq_true rfl) dL_law_283 (fun v s2 hq => ⟨jp s2 tt ff, jp_in2, jp_ke2, ?_⟩)
    obtain ⟨r1, rfl, h⟩ := hq
    refine ga_if_eq (tgt := 326) hC dL_law_286 (by decide) (fun hc => ?_) (fun hc => ?_)
    · have h := h.1 hc
      refine ga_iconst (v := 0) hC dL_law_326 (by decide) ?_
      refine ga_iand hC dL_law_327 ?_
      refine ga_topi (fun x3 ex3 => ?_)
      have h := h x3 ex3
      refine ga_istore_n (lv' := [(3, .int x3), (0, .ref sb), (1, .ref (ad 0)), (2, .int v2), (4, .ref (ad 88)), (5, .int v5), (6, .int v6)]) hC dL_law_328 rfl (by decide) rfl ?_
      refine ga_iconst (v := 0) hC dL_law_329 (by decide) ?_
      refine ga_istore (lv' := [(6, .int 0), (3, .int x3), (0, .ref sb), (1, .ref (ad 0)), (2, .int v2), (4, .ref (ad 88)), (5, .int v5)]) hC dL_law_330 (by decide) rfl ?_
      refine ga_locals [3, 4, 1, 5, 0] rfl ?_
      refine gp_kc (k := kc) (by omega) (by omega) ?_
      exact h p l e s m args below meth c D cy ad Z sb tab hQ hE
    · have h := h.2 hc
      refine ga_aload_n hC dL_law_289 1 rfl rfl ?_
      refine gp_callC (As := []) (st := [.int v3]) (n := 0) (Nat.le_of_ble_eq_true rfl) jp_in2 hC h qw_2_171 qw_2_172 qw_2_173 qw_1_1 qw_2_174 rfl rfl rfl (by decide +kernel) ⟨by show _ ≤ 600312; omega, by show _ ≤ 7291745; omega⟩ ⟨Nat.le_of_ble_eq_true rfl, Nat.le_of_ble_eq_true rfl⟩ rfl rfl (Nat.le_of_ble_eq_true rfl) dL_law_290 (fun v s5 hq => ⟨jp s5 tt ff, jp_in2, jp_ke2, ?_⟩)
      obtain ⟨r4, rfl, h⟩ := hq
      refine ga_if_eq (tgt := 326) hC dL_law_293 (by decide) (fun hc => ?_) (fun hc => ?_)
      · have h := h.1 hc
        refine ga_iconst (v := 0) hC dL_law_326 (by decide) ?_
        refine ga_iand hC dL_law_327 ?_
        refine ga_topi (fun x6 ex6 => ?_)
        have h := h x6 ex6
        refine ga_istore_n (lv' := [(3, .int x6), (0, .ref sb), (1, .ref (ad 0)), (2, .int v2), (4, .ref (ad 88)), (5, .int v5), (6, .int v6)]) hC dL_law_328 rfl (by decide) rfl ?_
        refine ga_iconst (v := 0) hC dL_law_329 (by decide) ?_
        refine ga_istore (lv' := [(6, .int 0), (3, .int x6), (0, .ref sb), (1, .ref (ad 0)), (2, .int v2), (4, .ref (ad 88)), (5, .int v5)]) hC dL_law_330 (by decide) rfl ?_
        refine ga_locals [3, 4, 1, 5, 0] rfl ?_
        refine gp_kc (k := kc) (by omega) (by omega) ?_
        exact h p l e s m args below meth c D cy ad Z sb tab hQ hE
      · have h := h.2 hc
        refine ga_aload_n hC dL_law_296 1 rfl rfl ?_
        refine ga_iload_n hC dL_law_297 2 rfl rfl ?_
        refine gp_callH (As := [.ref (ad 0), .int v2]) (st := [.int v3]) (n := 2) (Nat.le_of_ble_eq_true rfl) jp_in2 hY h qw_6_90 qw_6_91 qw_1_0 qw_6_92 rfl rfl rfl (by decide +kernel) ⟨by show _ ≤ 600312; omega, by show _ ≤ 7291745; omega⟩ ⟨Nat.le_of_ble_eq_true rfl, Nat.le_of_ble_eq_true rfl⟩ rfl rfl (Nat.le_of_ble_eq_true rfl) dL_law_298 (fun v s8 hq => ⟨jp s8 tt ff, jp_in2, jp_ke2, ?_⟩)
        obtain ⟨r7, rfl, h⟩ := hq
        refine ga_if_eq (tgt := 326) hC dL_law_301 (by decide) (fun hc => ?_) (fun hc => ?_)
        · have h := h.1 hc
          refine ga_iconst (v := 0) hC dL_law_326 (by decide) ?_
          refine ga_iand hC dL_law_327 ?_
          refine ga_topi (fun x9 ex9 => ?_)
          have h := h x9 ex9
          refine ga_istore_n (lv' := [(3, .int x9), (0, .ref sb), (1, .ref (ad 0)), (2, .int v2), (4, .ref (ad 88)), (5, .int v5), (6, .int v6)]) hC dL_law_328 rfl (by decide) rfl ?_
          refine ga_iconst (v := 0) hC dL_law_329 (by decide) ?_
          refine ga_istore (lv' := [(6, .int 0), (3, .int x9), (0, .ref sb), (1, .ref (ad 0)), (2, .int v2), (4, .ref (ad 88)), (5, .int v5)]) hC dL_law_330 (by decide) rfl ?_
          refine ga_locals [3, 4, 1, 5, 0] rfl ?_
          refine gp_kc (k := kc + 500) (by omega) (by omega) ?_
          exact h p l e s m args below meth c D cy ad Z sb tab hQ hE
        · have h := h.2 hc
          refine ga_aload_n hC dL_law_304 1 rfl rfl ?_
          refine ga_iload_n hC dL_law_305 2 rfl rfl ?_
          refine gp_callH (As := [.ref (ad 0), .int v2]) (st := [.int v3]) (n := 2) (Nat.le_of_ble_eq_true rfl) jp_in2 hY h qw_5_137 qw_5_138 qw_1_0 qw_5_139 rfl rfl rfl (by decide +kernel) ⟨by show _ ≤ 600312; omega, by show _ ≤ 7291745; omega⟩ ⟨Nat.le_of_ble_eq_true rfl, Nat.le_of_ble_eq_true rfl⟩ rfl rfl (Nat.le_of_ble_eq_true rfl) dL_law_306 (fun v s11 hq => ⟨jp s11 tt ff, jp_in2, jp_ke2, ?_⟩)
          obtain ⟨r10, rfl, h⟩ := hq
          refine ga_if_eq (tgt := 326) hC dL_law_309 (by decide) (fun hc => ?_) (fun hc => ?_)
          · have h := h.1 hc
            refine ga_iconst (v := 0) hC dL_law_326 (by decide) ?_
            refine ga_iand hC dL_law_327 ?_
            refine ga_topi (fun x12 ex12 => ?_)
            have h := h x12 ex12
            refine ga_istore_n (lv' := [(3, .int x12), (0, .ref sb), (1, .ref (ad 0)), (2, .int v2), (4, .ref (ad 88)), (5, .int v5), (6, .int v6)]) hC dL_law_328 rfl (by decide) rfl ?_
            refine ga_iconst (v := 0) hC dL_law_329 (by decide) ?_
            refine ga_istore (lv' := [(6, .int 0), (3, .int x12), (0, .ref sb), (1, .ref (ad 0)), (2, .int v2), (4, .ref (ad 88)), (5, .int v5)]) hC dL_law_330 (by decide) rfl ?_
            refine ga_locals [3, 4, 1, 5, 0] rfl ?_
            refine gp_kc (k := kc + 900) (by omega) (by omega) ?_
            exact h p l e s m args below meth c D cy ad Z sb tab hQ hE
          · have h := h.2 hc
            refine ga_aload_n hC dL_law_312 1 rfl rfl ?_
            refine ga_iload_n hC dL_law_313 2 rfl rfl ?_
            refine ga_aload hC dL_law_314 4 rfl ?_
            refine gp_callH (As := [.ref (ad 0), .int v2, .ref (ad 88)]) (st := [.int v3]) (n := 3) (Nat.le_refl _) cg_in.rf hY h qw_5_109 qw_5_110 qw_1_0 qw_5_111 rfl rfl rfl (by decide +kernel) ⟨by show _ ≤ 600312; omega, by show _ ≤ 7291745; omega⟩ ⟨Nat.le_of_ble_eq_true rfl, Nat.le_of_ble_eq_true rfl⟩ rfl rfl (Nat.le_of_ble_eq_true rfl) dL_law_316 (fun v s14 hq => ⟨s14, cg_in.rf, cg_ke.rf, ?_⟩)
            obtain ⟨r13, s14a, rfl, rfl, h⟩ := hq
            obtain ⟨s14, es14⟩ : ∃ z, z = s14a := ⟨_, rfl⟩
            rw [← es14] at h ⊢
            clear es14
            refine ga_if_eq (tgt := 326) hC dL_law_319 (by decide) (fun hc => ?_) (fun hc => ?_)
            · have h := h.1 hc
              refine ga_iconst (v := 0) hC dL_law_326 (by decide) ?_
              refine ga_iand hC dL_law_327 ?_
              refine ga_topi (fun x15 ex15 => ?_)
              have h := h x15 ex15
              refine ga_istore_n (lv' := [(3, .int x15), (0, .ref sb), (1, .ref (ad 0)), (2, .int v2), (4, .ref (ad 88)), (5, .int v5), (6, .int v6)]) hC dL_law_328 rfl (by decide) rfl ?_
              refine ga_iconst (v := 0) hC dL_law_329 (by decide) ?_
              refine ga_istore (lv' := [(6, .int 0), (3, .int x15), (0, .ref sb), (1, .ref (ad 0)), (2, .int v2), (4, .ref (ad 88)), (5, .int v5)]) hC dL_law_330 (by decide) rfl ?_
              refine ga_locals [3, 4, 1, 5, 0] rfl ?_
              refine gp_kc (k := kc + 1150) (by omega) (by omega) ?_
              exact h p l e s m args below meth c D cy ad Z sb tab hQ hE
            · have h := h.2 hc
              refine ga_iconst (v := 1) hC dL_law_322 (by decide) ?_
              refine ga_goto (tgt := 327) hC dL_law_323 (by decide) ?_
              refine ga_iand hC dL_law_327 ?_
              refine ga_topi (fun x16 ex16 => ?_)
              have h := h x16 ex16
              refine ga_istore_n (lv' := [(3, .int x16), (0, .ref sb), (1, .ref (ad 0)), (2, .int v2), (4, .ref (ad 88)), (5, .int v5), (6, .int v6)]) hC dL_law_328 rfl (by decide) rfl ?_
              refine ga_iconst (v := 0) hC dL_law_329 (by decide) ?_
              refine ga_istore (lv' := [(6, .int 0), (3, .int x16), (0, .ref sb), (1, .ref (ad 0)), (2, .int v2), (4, .ref (ad 88)), (5, .int v5)]) hC dL_law_330 (by decide) rfl ?_
              refine ga_locals [3, 4, 1, 5, 0] rfl ?_
              refine gp_kc (k := kc + 1150) (by omega) (by omega) ?_
              exact h p l e s m args below meth c D cy ad Z sb tab hQ hE
  · have h := h.2 hc
    refine ga_iconst (v := 1) hC dL_law_133 (by decide) ?_
    refine ga_aload_n hC dL_law_134 0 rfl rfl ?_
    refine ga_iload hC dL_law_135 5 rfl ?_
    refine ga_iload_n hC dL_law_137 2 rfl rfl ?_
    refine ga_iconst (v := 4) hC dL_law_138 (by decide) ?_
    refine ga_icmp_le (tgt := 146) hC dL_law_139 (by decide) (fun hc => ?_) (fun hc => ?_)
    · have h := h.1 hc
      refine ga_iconst (v := 3) hC dL_law_146 (by decide) ?_
      refine ga_locals [0, 1, 2, 3, 4, 5, 6] rfl ?_
      refine gp_kc (k := kc) (by omega) (by omega) ?_
      exact h p l e s m args below meth c D cy ad Z sb tab hQ hE
    · have h := h.2 hc
      refine ga_iconst (v := 2) hC dL_law_142 (by decide) ?_
      refine ga_goto (tgt := 147) hC dL_law_143 (by decide) ?_
      refine ga_locals [0, 1, 2, 3, 4, 5, 6] rfl ?_
      refine gp_kc (k := kc) (by omega) (by omega) ?_
      exact h p l e s m args below meth c D cy ad Z sb tab hQ hE
set_option maxRecDepth 100000 in
set_option maxHeartbeats 4000000 in
theorem v_law_77 {n L : Nat} {xs tt ff : Nat → Int32} {kc : Nat} {v2 : Int32} {v5 : Int32} {v6 : Int32} {t0 : Int32} {t2 : Int32} {σ : cg_S} (hL : L ≤ 260) (hk : kc + 3 ≤ 8000)
    (h : ¬ (v5 + 2) < 0 ∧ M_L_addState t2 (pickw L xs (v5 + 2) 4) σ (fun r2 s3 => (¬ r2 = v6 → ∀ x4 : Int32, x4 = t0 &&& 0 → L_law_30 n L xs tt ff (kc + 2) v2 x4 (v5 + 3) (v6 + 1) s3) ∧ (r2 = v6 → vp_in v6 n ∧ M_L_setTarget v6 (tt v6.toNatClampNeg) s3 (fun r6 s7 => (¬ r6 = 0 → ∀ x8 : Int32, x8 = t0 &&& 0 → L_law_30 n L xs tt ff (kc + 3) v2 x8 (v5 + 3) (v6 + 1) s7) ∧ (r6 = 0 → ∀ x9 : Int32, x9 = t0 &&& 1 → L_law_30 n L xs tt ff (kc + 3) v2 x9 (v5 + 3) (v6 + 1) s7))))) : L_law_77 n L xs tt ff kc v2 v5 v6 t0 t2 σ := by
  intro p l e s m args below meth c D cy ad Z sb tab hQ hE
  have hY := hQ.1
  have hC := hY.1
  refine ga_aload_n hC dL_law_77 0 rfl rfl ?_
  refine ga_iload hC dL_law_78 4 rfl ?_
  refine ga_iconst (v := 2) hC dL_law_80 (by decide) ?_
  refine ga_iadd hC dL_law_81 ?_
  refine ga_iconst (v := 4) hC dL_law_82 (by decide) ?_
  obtain ⟨h1, h⟩ := h
  refine ck_callS (As := [.ref sb, .int (v5 + 2), .int 4]) (st := [.int t2, .ref (ad 0), .int t0]) (n := 3) hC hQ.2.2.1 hQ.2.2.2 (cq_out hQ) (k_pick hL h1 (by decide)) qw_3_112 qw_3_113 qw_1_0 qw_3_114 rfl rfl (by decide +kernel) ⟨by show _ ≤ 600312; omega, by show _ ≤ 7291745; omega⟩ ⟨Nat.le_of_ble_eq_true rfl, Nat.le_of_ble_eq_true rfl⟩ rfl rfl (Nat.le_of_ble_eq_true rfl) dL_law_83 (fun v hq => ?_)
  subst hq
  refine gp_callW (As := [.ref (ad 0), .int t2, .int (pickw L xs (v5 + 2) 4)]) (st := [.int t0]) (n := 3) (Nat.le_of_ble_eq_true rfl) jp_in2 hY h qw_3_119 qw_3_120 qw_1_0 (cg_in3 121 (by decide +kernel) (by decide +kernel)) rfl rfl rfl (by decide +kernel) ⟨by show _ ≤ 600312; omega, by show _ ≤ 7291745; omega⟩ ⟨Nat.le_of_ble_eq_true rfl, Nat.le_of_ble_eq_true rfl⟩ rfl rfl (Nat.le_of_ble_eq_true rfl) dL_law_86 (fun v s3 hq => ⟨jp s3 tt ff, jp_in2, jp_ke2, ?_⟩)
  obtain ⟨r2, rfl, h⟩ := hq
  refine ga_iload hC dL_law_89 5 rfl ?_
  refine ga_icmp_ne (tgt := 112) hC dL_law_91 (by decide) (fun hc => ?_) (fun hc => ?_)
  · have h := h.1 hc
    refine ga_iconst (v := 0) hC dL_law_112 (by decide) ?_
    refine ga_iand hC dL_law_113 ?_
    refine ga_topi (fun x4 ex4 => ?_)
    have h := h x4 ex4
    refine ga_istore_n (lv' := [(3, .int x4), (0, .ref sb), (1, .ref (ad 0)), (2, .int v2), (4, .ref (ad 88)), (5, .int v5), (6, .int v6)]) hC dL_law_114 rfl (by decide) rfl ?_
    refine ga_iinc (v := v5 + 3) (lv' := [(5, .int (v5 + 3)), (3, .int x4), (0, .ref sb), (1, .ref (ad 0)), (2, .int v2), (4, .ref (ad 88)), (6, .int v6)]) hC dL_law_115 5 rfl rfl (by decide) rfl ?_
    refine ga_iinc (v := v6 + 1) (lv' := [(6, .int (v6 + 1)), (5, .int (v5 + 3)), (3, .int x4), (0, .ref sb), (1, .ref (ad 0)), (2, .int v2), (4, .ref (ad 88))]) hC dL_law_118 6 rfl rfl (by decide) rfl ?_
    refine ga_goto (tgt := 30) hC dL_law_121 (by decide) ?_
    refine ga_locals [3, 4, 5, 2, 6, 1, 0] rfl ?_
    refine gp_kc (k := kc + 2) (by omega) (by omega) ?_
    exact h p l e s m args below meth c D cy ad Z sb tab hQ hE
  · have h := h.2 hc
    refine ga_aload_n hC dL_law_94 1 rfl rfl ?_
    refine ga_iload hC dL_law_95 5 rfl ?_
    refine ga_aload hC dL_law_97 3 rfl ?_
    refine ga_iload hC dL_law_99 5 rfl ?_
    obtain ⟨h5, h⟩ := h
    refine ga_zald hC aP_88 (Nat.le_of_ble_eq_true rfl) h5 dL_law_101 ?_
    refine ga_eqi (tt v6.toNatClampNeg) rfl ?_
    refine gp_callW (As := [.ref (ad 0), .int v6, .int (tt v6.toNatClampNeg)]) (st := [.int t0]) (n := 3) (Nat.le_of_ble_eq_true rfl) jp_in2 hY h qw_4_65 qw_4_66 qw_1_0 (cg_in4 67 (by decide +kernel) (by decide +kernel)) rfl rfl rfl (by decide +kernel) ⟨by show _ ≤ 600312; omega, by show _ ≤ 7291745; omega⟩ ⟨Nat.le_of_ble_eq_true rfl, Nat.le_of_ble_eq_true rfl⟩ rfl rfl (Nat.le_of_ble_eq_true rfl) dL_law_102 (fun v s7 hq => ⟨jp s7 tt ff, jp_in2, jp_ke2, ?_⟩)
    obtain ⟨r6, rfl, h⟩ := hq
    refine ga_if_ne (tgt := 112) hC dL_law_105 (by decide) (fun hc => ?_) (fun hc => ?_)
    · have h := h.1 hc
      refine ga_iconst (v := 0) hC dL_law_112 (by decide) ?_
      refine ga_iand hC dL_law_113 ?_
      refine ga_topi (fun x8 ex8 => ?_)
      have h := h x8 ex8
      refine ga_istore_n (lv' := [(3, .int x8), (0, .ref sb), (1, .ref (ad 0)), (2, .int v2), (4, .ref (ad 88)), (5, .int v5), (6, .int v6)]) hC dL_law_114 rfl (by decide) rfl ?_
      refine ga_iinc (v := v5 + 3) (lv' := [(5, .int (v5 + 3)), (3, .int x8), (0, .ref sb), (1, .ref (ad 0)), (2, .int v2), (4, .ref (ad 88)), (6, .int v6)]) hC dL_law_115 5 rfl rfl (by decide) rfl ?_
      refine ga_iinc (v := v6 + 1) (lv' := [(6, .int (v6 + 1)), (5, .int (v5 + 3)), (3, .int x8), (0, .ref sb), (1, .ref (ad 0)), (2, .int v2), (4, .ref (ad 88))]) hC dL_law_118 6 rfl rfl (by decide) rfl ?_
      refine ga_goto (tgt := 30) hC dL_law_121 (by decide) ?_
      refine ga_locals [3, 4, 5, 2, 6, 1, 0] rfl ?_
      refine gp_kc (k := kc + 3) (by omega) (by omega) ?_
      exact h p l e s m args below meth c D cy ad Z sb tab hQ hE
    · have h := h.2 hc
      refine ga_iconst (v := 1) hC dL_law_108 (by decide) ?_
      refine ga_goto (tgt := 113) hC dL_law_109 (by decide) ?_
      refine ga_iand hC dL_law_113 ?_
      refine ga_topi (fun x9 ex9 => ?_)
      have h := h x9 ex9
      refine ga_istore_n (lv' := [(3, .int x9), (0, .ref sb), (1, .ref (ad 0)), (2, .int v2), (4, .ref (ad 88)), (5, .int v5), (6, .int v6)]) hC dL_law_114 rfl (by decide) rfl ?_
      refine ga_iinc (v := v5 + 3) (lv' := [(5, .int (v5 + 3)), (3, .int x9), (0, .ref sb), (1, .ref (ad 0)), (2, .int v2), (4, .ref (ad 88)), (6, .int v6)]) hC dL_law_115 5 rfl rfl (by decide) rfl ?_
      refine ga_iinc (v := v6 + 1) (lv' := [(6, .int (v6 + 1)), (5, .int (v5 + 3)), (3, .int x9), (0, .ref sb), (1, .ref (ad 0)), (2, .int v2), (4, .ref (ad 88))]) hC dL_law_118 6 rfl rfl (by decide) rfl ?_
      refine ga_goto (tgt := 30) hC dL_law_121 (by decide) ?_
      refine ga_locals [3, 4, 5, 2, 6, 1, 0] rfl ?_
      refine gp_kc (k := kc + 3) (by omega) (by omega) ?_
      exact h p l e s m args below meth c D cy ad Z sb tab hQ hE
set_option maxRecDepth 100000 in
set_option maxHeartbeats 4000000 in
theorem v_law_55 {n L : Nat} {xs tt ff : Nat → Int32} {kc : Nat} {v2 : Int32} {v3 : Int32} {v5 : Int32} {v6 : Int32} {t1 : Int32} {t2 : Int32} {σ : cg_S} (hL : L ≤ 260) (hk : kc + 0 ≤ 8000)
    (h : vp_in t1 n ∧ ∀ ta2 : Nat → Int32, ta2 = upd tt t1.toNatClampNeg (vp_nar .boolean t2) → ¬ (v5 + 1) < 0 ∧ (¬ (pickw L xs (v5 + 1) 2) = 0 → L_law_77 n L xs ta2 ff kc v2 v5 v6 v3 98 σ) ∧ ((pickw L xs (v5 + 1) 2) = 0 → L_law_77 n L xs ta2 ff kc v2 v5 v6 v3 97 σ)) : L_law_55 n L xs tt ff kc v2 v3 v5 v6 t1 t2 σ := by
  intro p l e s m args below meth c D cy ad Z sb tab hQ hE
  have hY := hQ.1
  have hC := hY.1
  obtain ⟨h1, h⟩ := h
  refine ga_zast hC aP_88 (Nat.le_of_ble_eq_true rfl) h1 dL_law_55 ?_
  obtain ⟨ta2, eta2⟩ : ∃ z : Nat → Int32, z = upd tt t1.toNatClampNeg (vp_nar .boolean t2) := ⟨_, rfl⟩
  have h := h ta2 eta2
  rw [jp_i, ← eta2]
  refine ga_iload_n hC dL_law_56 3 rfl rfl ?_
  refine ga_aload_n hC dL_law_57 1 rfl rfl ?_
  refine ga_aload_n hC dL_law_58 0 rfl rfl ?_
  refine ga_iload hC dL_law_59 5 rfl ?_
  refine ga_iconst (v := 1) hC dL_law_61 (by decide) ?_
  refine ga_iadd hC dL_law_62 ?_
  refine ga_iconst (v := 2) hC dL_law_63 (by decide) ?_
  obtain ⟨h3, h⟩ := h
  refine ck_callS (As := [.ref sb, .int (v5 + 1), .int 2]) (st := [.ref (ad 0), .int v3]) (n := 3) hC hQ.2.2.1 hQ.2.2.2 (cq_out hQ) (k_pick hL h3 (by decide)) qw_3_112 qw_3_113 qw_1_0 qw_3_114 rfl rfl (by decide +kernel) ⟨by show _ ≤ 600312; omega, by show _ ≤ 7291745; omega⟩ ⟨Nat.le_of_ble_eq_true rfl, Nat.le_of_ble_eq_true rfl⟩ rfl rfl (Nat.le_of_ble_eq_true rfl) dL_law_64 (fun v hq => ?_)
  subst hq
  refine ga_if_ne (tgt := 75) hC dL_law_67 (by decide) (fun hc => ?_) (fun hc => ?_)
  · have h := h.1 hc
    refine ga_bipush (v := 98) hC dL_law_75 (by decide) ?_
    refine ga_locals [0, 1, 2, 4, 5, 6] rfl ?_
    refine gp_kc (k := kc) (by omega) (by omega) ?_
    exact h p l e s m args below meth c D cy ad Z sb tab hQ hE
  · have h := h.2 hc
    refine ga_bipush (v := 97) hC dL_law_70 (by decide) ?_
    refine ga_goto (tgt := 77) hC dL_law_72 (by decide) ?_
    refine ga_locals [0, 1, 2, 4, 5, 6] rfl ?_
    refine gp_kc (k := kc) (by omega) (by omega) ?_
    exact h p l e s m args below meth c D cy ad Z sb tab hQ hE
set_option maxRecDepth 100000 in
set_option maxHeartbeats 4000000 in
theorem v_law_30 {n L : Nat} {xs tt ff : Nat → Int32} {kc : Nat} {v2 : Int32} {v3 : Int32} {v5 : Int32} {v6 : Int32} {σ : cg_S} (hL : L ≤ 260) (hk : kc + 0 ≤ 8000)
    (h : (v2 ≤ v6 → L_law_127 n L xs tt ff kc v2 v3 v5 0 σ) ∧ (¬ v2 ≤ v6 → ¬ v5 < 0 ∧ (¬ (pickw L xs v5 4) = 0 → L_law_55 n L xs tt ff kc v2 v3 v5 v6 v6 0 σ) ∧ ((pickw L xs v5 4) = 0 → L_law_55 n L xs tt ff kc v2 v3 v5 v6 v6 1 σ))) : L_law_30 n L xs tt ff kc v2 v3 v5 v6 σ := by
  intro p l e s m args below meth c D cy ad Z sb tab hQ hE
  have hY := hQ.1
  have hC := hY.1
  refine ga_iload hC dL_law_30 6 rfl ?_
  refine ga_iload_n hC dL_law_32 2 rfl rfl ?_
  refine ga_icmp_ge (tgt := 124) hC dL_law_33 (by decide) (fun hc => ?_) (fun hc => ?_)
  · have h := h.1 hc
    refine ga_iconst (v := 0) hC dL_law_124 (by decide) ?_
    refine ga_istore (lv' := [(6, .int 0), (0, .ref sb), (1, .ref (ad 0)), (2, .int v2), (3, .int v3), (4, .ref (ad 88)), (5, .int v5)]) hC dL_law_125 (by decide) rfl ?_
    refine ga_locals [1, 2, 3, 4, 5, 6, 0] rfl ?_
    refine gp_kc (k := kc) (by omega) (by omega) ?_
    exact h p l e s m args below meth c D cy ad Z sb tab hQ hE
  · have h := h.2 hc
    refine ga_aload hC dL_law_36 4 rfl ?_
    refine ga_iload hC dL_law_38 6 rfl ?_
    refine ga_aload_n hC dL_law_40 0 rfl rfl ?_
    refine ga_iload hC dL_law_41 5 rfl ?_
    refine ga_iconst (v := 4) hC dL_law_43 (by decide) ?_
    obtain ⟨h1, h⟩ := h
    refine ck_callS (As := [.ref sb, .int v5, .int 4]) (st := [.int v6, .ref (ad 88)]) (n := 3) hC hQ.2.2.1 hQ.2.2.2 (cq_out hQ) (k_pick hL h1 (by decide)) qw_3_112 qw_3_113 qw_1_0 qw_3_114 rfl rfl (by decide +kernel) ⟨by show _ ≤ 600312; omega, by show _ ≤ 7291745; omega⟩ ⟨Nat.le_of_ble_eq_true rfl, Nat.le_of_ble_eq_true rfl⟩ rfl rfl (Nat.le_of_ble_eq_true rfl) dL_law_44 (fun v hq => ?_)
    subst hq
    refine ga_if_ne (tgt := 54) hC dL_law_47 (by decide) (fun hc => ?_) (fun hc => ?_)
    · have h := h.1 hc
      refine ga_iconst (v := 0) hC dL_law_54 (by decide) ?_
      refine ga_locals [0, 1, 2, 3, 4, 5, 6] rfl ?_
      refine gp_kc (k := kc) (by omega) (by omega) ?_
      exact h p l e s m args below meth c D cy ad Z sb tab hQ hE
    · have h := h.2 hc
      refine ga_iconst (v := 1) hC dL_law_50 (by decide) ?_
      refine ga_goto (tgt := 55) hC dL_law_51 (by decide) ?_
      refine ga_locals [0, 1, 2, 3, 4, 5, 6] rfl ?_
      refine gp_kc (k := kc) (by omega) (by omega) ?_
      exact h p l e s m args below meth c D cy ad Z sb tab hQ hE
set_option maxRecDepth 100000 in
set_option maxHeartbeats 4000000 in
theorem v_law_24 {n L : Nat} {xs tt ff : Nat → Int32} {kc : Nat} {v2 : Int32} {v3 : Int32} {σ : cg_S} (hL : L ≤ 260) (hk : kc + 0 ≤ 8000)
    (h : L_law_30 n L xs tt ff kc v2 v3 1 0 σ) : L_law_24 n L xs tt ff kc v2 v3 σ := by
  intro p l e s m args below meth c D cy ad Z sb tab hQ hE
  have hY := hQ.1
  have hC := hY.1
  refine ga_iconst (v := 1) hC dL_law_24 (by decide) ?_
  refine ga_istore (lv' := [(5, .int 1), (0, .ref sb), (1, .ref (ad 0)), (2, .int v2), (3, .int v3), (4, .ref (ad 88))]) hC dL_law_25 (by decide) rfl ?_
  refine ga_iconst (v := 0) hC dL_law_27 (by decide) ?_
  refine ga_istore (lv' := [(6, .int 0), (5, .int 1), (0, .ref sb), (1, .ref (ad 0)), (2, .int v2), (3, .int v3), (4, .ref (ad 88))]) hC dL_law_28 (by decide) rfl ?_
  refine ga_locals [2, 3, 4, 5, 6, 1, 0] rfl ?_
  refine gp_kc (k := kc) (by omega) (by omega) ?_
  exact h p l e s m args below meth c D cy ad Z sb tab hQ hE
