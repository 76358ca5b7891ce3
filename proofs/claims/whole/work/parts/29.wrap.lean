theorem lw_cst : Cond.castable "java/lang/IllegalArgumentException" "java/lang/IllegalArgumentException" ∈ tables_1.filter cg_isN ∧ Cond.castable "java/lang/IllegalStateException" "java/lang/IllegalStateException" ∈ tables_1.filter cg_isN ∧ Cond.castable "java/lang/IndexOutOfBoundsException" "java/lang/IndexOutOfBoundsException" ∈ tables_1.filter cg_isN ∧ Cond.castable "java/lang/ArithmeticException" "java/lang/ArithmeticException" ∈ tables_1.filter cg_isN ∧ Cond.castable "java/util/NoSuchElementException" "java/util/NoSuchElementException" ∈ tables_1.filter cg_isN := by decide +kernel
theorem lw_in0 : vp_in 0 1 := fun h => by revert h; decide
def M_L_addState (v1 : Int32) (v2 : Int32) (a b : cg_S) (o : Nat → Int64) (od : Nat → UInt64) (Q : Int32 → cg_S → (Nat → Int64) → (Nat → UInt64) → Prop) : Prop := cl_M yL_addState cL_addState 5 [(0, 10, 13, 13), (0, 10, 17, 15)] (cg_RX 2 2) 2 12 (fun ad => [.ref (ad 0), .int v1, .int v2, .ref (ad 121)]) (jn a b o od) (fun _ v τ => ∃ (k : Int32) (a1 : cg_S) (o1 : Nat → Int64) (od1 : Nat → UInt64), v = some (.int k) ∧ τ = jn a1 b o1 od1 ∧ Q k a1 o1 od1)
set_option maxRecDepth 100000 in
set_option maxHeartbeats 4000000 in
theorem w_addState {v1 v2 : Int32} {a b : cg_S} {o : Nat → Int64} {od : Nat → UInt64} {Q : Int32 → cg_S → (Nat → Int64) → (Nat → UInt64) → Prop}
    (h : M_X11_addState v1 v2 a (fun r a1 => Q 0 a1 (vp_updL o 0 r.toInt64) od) (fun E a1 => (E = "java/lang/IllegalArgumentException" ∧ Q 1 a1 o od) ∨ (E = "java/lang/IllegalStateException" ∧ Q 2 a1 o od))) : M_L_addState v1 v2 a b o od Q := by
  refine cl_entry (lv := fun ad => [(0, .ref (ad 0)), (1, .int v1), (2, .int v2), (3, .ref (ad 121))]) (by decide +kernel) rfl (fun _ => rfl) (fun _ => Nat.le_of_ble_eq_true rfl) ?_
  intro p l e s m args below meth c D cy ad hY
  have hC := hY.1
  refine ga_aload_n hC dL_addState_0 3 rfl rfl ?_
  refine ga_iconst (v := 0) hC dL_addState_1 (by decide) ?_
  refine ga_aload_n hC dL_addState_2 0 rfl rfl ?_
  refine ga_iload_n hC dL_addState_3 1 rfl rfl ?_
  refine ga_iload_n hC dL_addState_4 2 rfl rfl ?_
  refine gl_callX (As := [.int v1, .int v2]) (st := [.int 0, .ref (ad 121)]) (n := 2) (hs := [("java/lang/IllegalArgumentException", 13, 13), ("java/lang/IllegalStateException", 17, 15)]) (sp := 0) (ep := 10) hY h lw_cst (cg_in3 119 (by decide +kernel) (by decide +kernel)) (cg_in3 120 (by decide +kernel) (by decide +kernel)) (cg_in3 121 (by decide +kernel) (by decide +kernel)) (cg_in1 1 (by decide +kernel) (by decide +kernel)) (cg_in3 122 (by decide +kernel) (by decide +kernel)) rfl rfl rfl (by decide +kernel) ⟨Nat.le_of_ble_eq_true rfl, Nat.le_of_ble_eq_true rfl⟩ ⟨Nat.le_of_ble_eq_true rfl, Nat.le_of_ble_eq_true rfl⟩ rfl rfl (Nat.le_of_ble_eq_true rfl) dL_addState_5 rfl ⟨by decide, by decide⟩ (List.forall_mem_cons.mpr ⟨⟨by decide, by decide, (cg_in3 117 (by decide +kernel) (by decide +kernel))⟩, (List.forall_mem_cons.mpr ⟨⟨by decide, by decide, (cg_in3 118 (by decide +kernel) (by decide +kernel))⟩, fun _ h => absurd h List.not_mem_nil⟩)⟩) (fun E a1 hx => ?_) (fun v a1 hq => ?_)
  · rcases hx with ⟨rfl, hx⟩ | ⟨rfl, hx⟩
    · refine ⟨[], [("java/lang/IllegalStateException", 17, 15)], 13, 13, rfl, by decide, fun q => ?_⟩
      refine ga_astore (lv' := [(4, .ref q), (0, .ref (ad 0)), (1, .int v1), (2, .int v2), (3, .ref (ad 121))]) hC dL_addState_13 (by decide) rfl ?_
      refine ga_iconst (v := 1) hC dL_addState_15 (by decide) ?_
      exact gx_iret hC dL_addState_16 ⟨Nat.le_of_ble_eq_true rfl, Nat.le_of_ble_eq_true rfl⟩ ⟨_, _, _, _, rfl, rfl, hx⟩
    · refine ⟨[("java/lang/IllegalArgumentException", 13, 13)], [], 17, 15, rfl, by decide, fun q => ?_⟩
      refine ga_astore (lv' := [(4, .ref q), (0, .ref (ad 0)), (1, .int v1), (2, .int v2), (3, .ref (ad 121))]) hC dL_addState_17 (by decide) rfl ?_
      refine ga_iconst (v := 2) hC dL_addState_19 (by decide) ?_
      exact gx_iret hC dL_addState_20 ⟨Nat.le_of_ble_eq_true rfl, Nat.le_of_ble_eq_true rfl⟩ ⟨_, _, _, _, rfl, rfl, hx⟩
  · obtain ⟨r, rfl, h⟩ := hq
    refine ga_i2l hC dL_addState_8 ?_
    refine ga_last (k := 121) (n := 1) hC (fun _ => rfl) (by decide) lw_in0 dL_addState_9 ?_
    rw [jn_l]
    refine ga_goto (tgt := 21) hC dL_addState_10 (by decide) ?_
    refine ga_iconst (v := 0) hC dL_addState_21 (by decide) ?_
    exact gx_iret hC dL_addState_22 ⟨Nat.le_of_ble_eq_true rfl, Nat.le_of_ble_eq_true rfl⟩ ⟨_, _, _, _, rfl, rfl, h⟩
def M_L_addChoice (v1 : Int32) (v2 : Int32) (v3 : Int32) (a b : cg_S) (o : Nat → Int64) (od : Nat → UInt64) (Q : Int32 → cg_S → (Nat → Int64) → (Nat → UInt64) → Prop) : Prop := cl_M yL_addChoice cL_addChoice 6 [(0, 12, 15, 21), (0, 12, 19, 13), (0, 12, 23, 15)] (cg_RX 3 2) 2 12 (fun ad => [.ref (ad 0), .int v1, .int v2, .int v3, .ref (ad 121)]) (jn a b o od) (fun _ v τ => ∃ (k : Int32) (a1 : cg_S) (o1 : Nat → Int64) (od1 : Nat → UInt64), v = some (.int k) ∧ τ = jn a1 b o1 od1 ∧ Q k a1 o1 od1)
set_option maxRecDepth 100000 in
set_option maxHeartbeats 4000000 in
theorem w_addChoice {v1 v2 v3 : Int32} {a b : cg_S} {o : Nat → Int64} {od : Nat → UInt64} {Q : Int32 → cg_S → (Nat → Int64) → (Nat → UInt64) → Prop}
    (h : M_X11_addChoice v1 v2 v3 a (fun r a1 => Q 0 a1 (vp_updL o 0 r.toInt64) od) (fun E a1 => (E = "java/lang/IndexOutOfBoundsException" ∧ Q 1 a1 o od) ∨ (E = "java/lang/IllegalArgumentException" ∧ Q 2 a1 o od) ∨ (E = "java/lang/IllegalStateException" ∧ Q 3 a1 o od))) : M_L_addChoice v1 v2 v3 a b o od Q := by
  refine cl_entry (lv := fun ad => [(0, .ref (ad 0)), (1, .int v1), (2, .int v2), (3, .int v3), (4, .ref (ad 121))]) (by decide +kernel) rfl (fun _ => rfl) (fun _ => Nat.le_of_ble_eq_true rfl) ?_
  intro p l e s m args below meth c D cy ad hY
  have hC := hY.1
  refine ga_aload hC dL_addChoice_0 4 rfl ?_
  refine ga_iconst (v := 0) hC dL_addChoice_2 (by decide) ?_
  refine ga_aload_n hC dL_addChoice_3 0 rfl rfl ?_
  refine ga_iload_n hC dL_addChoice_4 1 rfl rfl ?_
  refine ga_iload_n hC dL_addChoice_5 2 rfl rfl ?_
  refine ga_iload_n hC dL_addChoice_6 3 rfl rfl ?_
  refine gl_callX (As := [.int v1, .int v2, .int v3]) (st := [.int 0, .ref (ad 121)]) (n := 3) (hs := [("java/lang/IndexOutOfBoundsException", 15, 21), ("java/lang/IllegalArgumentException", 19, 13), ("java/lang/IllegalStateException", 23, 15)]) (sp := 0) (ep := 12) hY h lw_cst (cg_in4 5 (by decide +kernel) (by decide +kernel)) (cg_in4 6 (by decide +kernel) (by decide +kernel)) (cg_in4 7 (by decide +kernel) (by decide +kernel)) (cg_in1 1 (by decide +kernel) (by decide +kernel)) (cg_in4 8 (by decide +kernel) (by decide +kernel)) rfl rfl rfl (by decide +kernel) ⟨Nat.le_of_ble_eq_true rfl, Nat.le_of_ble_eq_true rfl⟩ ⟨Nat.le_of_ble_eq_true rfl, Nat.le_of_ble_eq_true rfl⟩ rfl rfl (Nat.le_of_ble_eq_true rfl) dL_addChoice_7 rfl ⟨by decide, by decide⟩ (List.forall_mem_cons.mpr ⟨⟨by decide, by decide, (cg_in3 221 (by decide +kernel) (by decide +kernel))⟩, (List.forall_mem_cons.mpr ⟨⟨by decide, by decide, (cg_in3 117 (by decide +kernel) (by decide +kernel))⟩, (List.forall_mem_cons.mpr ⟨⟨by decide, by decide, (cg_in3 118 (by decide +kernel) (by decide +kernel))⟩, fun _ h => absurd h List.not_mem_nil⟩)⟩)⟩) (fun E a1 hx => ?_) (fun v a1 hq => ?_)
  · rcases hx with ⟨rfl, hx⟩ | ⟨rfl, hx⟩ | ⟨rfl, hx⟩
    · refine ⟨[], [("java/lang/IllegalArgumentException", 19, 13), ("java/lang/IllegalStateException", 23, 15)], 15, 21, rfl, by decide, fun q => ?_⟩
      refine ga_astore (lv' := [(5, .ref q), (0, .ref (ad 0)), (1, .int v1), (2, .int v2), (3, .int v3), (4, .ref (ad 121))]) hC dL_addChoice_15 (by decide) rfl ?_
      refine ga_iconst (v := 1) hC dL_addChoice_17 (by decide) ?_
      exact gx_iret hC dL_addChoice_18 ⟨Nat.le_of_ble_eq_true rfl, Nat.le_of_ble_eq_true rfl⟩ ⟨_, _, _, _, rfl, rfl, hx⟩
    · refine ⟨[("java/lang/IndexOutOfBoundsException", 15, 21)], [("java/lang/IllegalStateException", 23, 15)], 19, 13, rfl, by decide, fun q => ?_⟩
      refine ga_astore (lv' := [(5, .ref q), (0, .ref (ad 0)), (1, .int v1), (2, .int v2), (3, .int v3), (4, .ref (ad 121))]) hC dL_addChoice_19 (by decide) rfl ?_
      refine ga_iconst (v := 2) hC dL_addChoice_21 (by decide) ?_
      exact gx_iret hC dL_addChoice_22 ⟨Nat.le_of_ble_eq_true rfl, Nat.le_of_ble_eq_true rfl⟩ ⟨_, _, _, _, rfl, rfl, hx⟩
    · refine ⟨[("java/lang/IndexOutOfBoundsException", 15, 21), ("java/lang/IllegalArgumentException", 19, 13)], [], 23, 15, rfl, by decide, fun q => ?_⟩
      refine ga_astore (lv' := [(5, .ref q), (0, .ref (ad 0)), (1, .int v1), (2, .int v2), (3, .int v3), (4, .ref (ad 121))]) hC dL_addChoice_23 (by decide) rfl ?_
      refine ga_iconst (v := 3) hC dL_addChoice_25 (by decide) ?_
      exact gx_iret hC dL_addChoice_26 ⟨Nat.le_of_ble_eq_true rfl, Nat.le_of_ble_eq_true rfl⟩ ⟨_, _, _, _, rfl, rfl, hx⟩
  · obtain ⟨r, rfl, h⟩ := hq
    refine ga_i2l hC dL_addChoice_10 ?_
    refine ga_last (k := 121) (n := 1) hC (fun _ => rfl) (by decide) lw_in0 dL_addChoice_11 ?_
    rw [jn_l]
    refine ga_goto (tgt := 27) hC dL_addChoice_12 (by decide) ?_
    refine ga_iconst (v := 0) hC dL_addChoice_27 (by decide) ?_
    exact gx_iret hC dL_addChoice_28 ⟨Nat.le_of_ble_eq_true rfl, Nat.le_of_ble_eq_true rfl⟩ ⟨_, _, _, _, rfl, rfl, h⟩
def M_L_addWeight (v1 : Int32) (v2 : Int32) (v3 : Int32) (v4 : Int32) (a b : cg_S) (o : Nat → Int64) (od : Nat → UInt64) (Q : Int32 → cg_S → (Nat → Int64) → (Nat → UInt64) → Prop) : Prop := cl_M yL_addWeight cL_addWeight 7 [(0, 14, 17, 21), (0, 14, 21, 13), (0, 14, 25, 15)] (cg_RX 4 3) 3 18 (fun ad => [.ref (ad 0), .int v1, .int v2, .int v3, .int v4, .ref (ad 121)]) (jn a b o od) (fun _ v τ => ∃ (k : Int32) (a1 : cg_S) (o1 : Nat → Int64) (od1 : Nat → UInt64), v = some (.int k) ∧ τ = jn a1 b o1 od1 ∧ Q k a1 o1 od1)
set_option maxRecDepth 100000 in
set_option maxHeartbeats 4000000 in
theorem w_addWeight {v1 v2 v3 v4 : Int32} {a b : cg_S} {o : Nat → Int64} {od : Nat → UInt64} {Q : Int32 → cg_S → (Nat → Int64) → (Nat → UInt64) → Prop}
    (h : M_X11_addWeight v1 v2 v3 v4 a (fun r a1 => Q 0 a1 (vp_updL o 0 r.toInt64) od) (fun E a1 => (E = "java/lang/IndexOutOfBoundsException" ∧ Q 1 a1 o od) ∨ (E = "java/lang/IllegalArgumentException" ∧ Q 2 a1 o od) ∨ (E = "java/lang/IllegalStateException" ∧ Q 3 a1 o od))) : M_L_addWeight v1 v2 v3 v4 a b o od Q := by
  refine cl_entry (lv := fun ad => [(0, .ref (ad 0)), (1, .int v1), (2, .int v2), (3, .int v3), (4, .int v4), (5, .ref (ad 121))]) (by decide +kernel) rfl (fun _ => rfl) (fun _ => Nat.le_of_ble_eq_true rfl) ?_
  intro p l e s m args below meth c D cy ad hY
  have hC := hY.1
  refine ga_aload hC dL_addWeight_0 5 rfl ?_
  refine ga_iconst (v := 0) hC dL_addWeight_2 (by decide) ?_
  refine ga_aload_n hC dL_addWeight_3 0 rfl rfl ?_
  refine ga_iload_n hC dL_addWeight_4 1 rfl rfl ?_
  refine ga_iload_n hC dL_addWeight_5 2 rfl rfl ?_
  refine ga_iload_n hC dL_addWeight_6 3 rfl rfl ?_
  refine ga_iload hC dL_addWeight_7 4 rfl ?_
  refine gl_callX (As := [.int v1, .int v2, .int v3, .int v4]) (st := [.int 0, .ref (ad 121)]) (n := 4) (hs := [("java/lang/IndexOutOfBoundsException", 17, 21), ("java/lang/IllegalArgumentException", 21, 13), ("java/lang/IllegalStateException", 25, 15)]) (sp := 0) (ep := 14) hY h lw_cst (cg_in4 39 (by decide +kernel) (by decide +kernel)) (cg_in4 40 (by decide +kernel) (by decide +kernel)) (cg_in4 41 (by decide +kernel) (by decide +kernel)) (cg_in1 1 (by decide +kernel) (by decide +kernel)) (cg_in4 42 (by decide +kernel) (by decide +kernel)) rfl rfl rfl (by decide +kernel) ⟨Nat.le_of_ble_eq_true rfl, Nat.le_of_ble_eq_true rfl⟩ ⟨Nat.le_of_ble_eq_true rfl, Nat.le_of_ble_eq_true rfl⟩ rfl rfl (Nat.le_of_ble_eq_true rfl) dL_addWeight_9 rfl ⟨by decide, by decide⟩ (List.forall_mem_cons.mpr ⟨⟨by decide, by decide, (cg_in3 221 (by decide +kernel) (by decide +kernel))⟩, (List.forall_mem_cons.mpr ⟨⟨by decide, by decide, (cg_in3 117 (by decide +kernel) (by decide +kernel))⟩, (List.forall_mem_cons.mpr ⟨⟨by decide, by decide, (cg_in3 118 (by decide +kernel) (by decide +kernel))⟩, fun _ h => absurd h List.not_mem_nil⟩)⟩)⟩) (fun E a1 hx => ?_) (fun v a1 hq => ?_)
  · rcases hx with ⟨rfl, hx⟩ | ⟨rfl, hx⟩ | ⟨rfl, hx⟩
    · refine ⟨[], [("java/lang/IllegalArgumentException", 21, 13), ("java/lang/IllegalStateException", 25, 15)], 17, 21, rfl, by decide, fun q => ?_⟩
      refine ga_astore (lv' := [(6, .ref q), (0, .ref (ad 0)), (1, .int v1), (2, .int v2), (3, .int v3), (4, .int v4), (5, .ref (ad 121))]) hC dL_addWeight_17 (by decide) rfl ?_
      refine ga_iconst (v := 1) hC dL_addWeight_19 (by decide) ?_
      exact gx_iret hC dL_addWeight_20 ⟨Nat.le_of_ble_eq_true rfl, Nat.le_of_ble_eq_true rfl⟩ ⟨_, _, _, _, rfl, rfl, hx⟩
    · refine ⟨[("java/lang/IndexOutOfBoundsException", 17, 21)], [("java/lang/IllegalStateException", 25, 15)], 21, 13, rfl, by decide, fun q => ?_⟩
      refine ga_astore (lv' := [(6, .ref q), (0, .ref (ad 0)), (1, .int v1), (2, .int v2), (3, .int v3), (4, .int v4), (5, .ref (ad 121))]) hC dL_addWeight_21 (by decide) rfl ?_
      refine ga_iconst (v := 2) hC dL_addWeight_23 (by decide) ?_
      exact gx_iret hC dL_addWeight_24 ⟨Nat.le_of_ble_eq_true rfl, Nat.le_of_ble_eq_true rfl⟩ ⟨_, _, _, _, rfl, rfl, hx⟩
    · refine ⟨[("java/lang/IndexOutOfBoundsException", 17, 21), ("java/lang/IllegalArgumentException", 21, 13)], [], 25, 15, rfl, by decide, fun q => ?_⟩
      refine ga_astore (lv' := [(6, .ref q), (0, .ref (ad 0)), (1, .int v1), (2, .int v2), (3, .int v3), (4, .int v4), (5, .ref (ad 121))]) hC dL_addWeight_25 (by decide) rfl ?_
      refine ga_iconst (v := 3) hC dL_addWeight_27 (by decide) ?_
      exact gx_iret hC dL_addWeight_28 ⟨Nat.le_of_ble_eq_true rfl, Nat.le_of_ble_eq_true rfl⟩ ⟨_, _, _, _, rfl, rfl, hx⟩
  · obtain ⟨r, rfl, h⟩ := hq
    refine ga_i2l hC dL_addWeight_12 ?_
    refine ga_last (k := 121) (n := 1) hC (fun _ => rfl) (by decide) lw_in0 dL_addWeight_13 ?_
    rw [jn_l]
    refine ga_goto (tgt := 29) hC dL_addWeight_14 (by decide) ?_
    refine ga_iconst (v := 0) hC dL_addWeight_29 (by decide) ?_
    exact gx_iret hC dL_addWeight_30 ⟨Nat.le_of_ble_eq_true rfl, Nat.le_of_ble_eq_true rfl⟩ ⟨_, _, _, _, rfl, rfl, h⟩
def M_L_setTarget (v1 : Int32) (v2 : Int32) (a b : cg_S) (o : Nat → Int64) (od : Nat → UInt64) (Q : Int32 → cg_S → (Nat → Int64) → (Nat → UInt64) → Prop) : Prop := cl_M yL_setTarget cL_setTarget 5 [(0, 17, 20, 21)] (cg_RX 4 1) 1 6 (fun ad => [.ref (ad 0), .int v1, .int v2, .ref (ad 121)]) (jn a b o od) (fun _ v τ => ∃ (k : Int32) (a1 : cg_S) (o1 : Nat → Int64) (od1 : Nat → UInt64), v = some (.int k) ∧ τ = jn a1 b o1 od1 ∧ Q k a1 o1 od1)
set_option maxRecDepth 100000 in
set_option maxHeartbeats 4000000 in
theorem w_setTarget {v1 v2 : Int32} {a b : cg_S} {o : Nat → Int64} {od : Nat → UInt64} {Q : Int32 → cg_S → (Nat → Int64) → (Nat → UInt64) → Prop}
    (h : M_X11_setTarget v1 v2 a (fun r a1 => (r = 0 → Q 0 a1 (vp_updL o 0 0) od) ∧ (¬ r = 0 → Q 0 a1 (vp_updL o 0 1) od)) (fun E a1 => (E = "java/lang/IndexOutOfBoundsException" ∧ Q 1 a1 o od))) : M_L_setTarget v1 v2 a b o od Q := by
  refine cl_entry (lv := fun ad => [(0, .ref (ad 0)), (1, .int v1), (2, .int v2), (3, .ref (ad 121))]) (by decide +kernel) rfl (fun _ => rfl) (fun _ => Nat.le_of_ble_eq_true rfl) ?_
  intro p l e s m args below meth c D cy ad hY
  have hC := hY.1
  refine ga_aload_n hC dL_setTarget_0 3 rfl rfl ?_
  refine ga_iconst (v := 0) hC dL_setTarget_1 (by decide) ?_
  refine ga_aload_n hC dL_setTarget_2 0 rfl rfl ?_
  refine ga_iload_n hC dL_setTarget_3 1 rfl rfl ?_
  refine ga_iload_n hC dL_setTarget_4 2 rfl rfl ?_
  refine gl_callX (As := [.int v1, .int v2]) (st := [.int 0, .ref (ad 121)]) (n := 2) (hs := [("java/lang/IndexOutOfBoundsException", 20, 21)]) (sp := 0) (ep := 17) hY h lw_cst (cg_in4 63 (by decide +kernel) (by decide +kernel)) (cg_in4 64 (by decide +kernel) (by decide +kernel)) (cg_in4 65 (by decide +kernel) (by decide +kernel)) (cg_in1 1 (by decide +kernel) (by decide +kernel)) (cg_in4 66 (by decide +kernel) (by decide +kernel)) rfl rfl rfl (by decide +kernel) ⟨Nat.le_of_ble_eq_true rfl, Nat.le_of_ble_eq_true rfl⟩ ⟨Nat.le_of_ble_eq_true rfl, Nat.le_of_ble_eq_true rfl⟩ rfl rfl (Nat.le_of_ble_eq_true rfl) dL_setTarget_5 rfl ⟨by decide, by decide⟩ (List.forall_mem_cons.mpr ⟨⟨by decide, by decide, (cg_in3 221 (by decide +kernel) (by decide +kernel))⟩, fun _ h => absurd h List.not_mem_nil⟩) (fun E a1 hx => ?_) (fun v a1 hq => ?_)
  · obtain ⟨rfl, hx⟩ := hx
    refine ⟨[], [], 20, 21, rfl, by decide, fun q => ?_⟩
    refine ga_astore (lv' := [(4, .ref q), (0, .ref (ad 0)), (1, .int v1), (2, .int v2), (3, .ref (ad 121))]) hC dL_setTarget_20 (by decide) rfl ?_
    refine ga_iconst (v := 1) hC dL_setTarget_22 (by decide) ?_
    exact gx_iret hC dL_setTarget_23 ⟨Nat.le_of_ble_eq_true rfl, Nat.le_of_ble_eq_true rfl⟩ ⟨_, _, _, _, rfl, rfl, hx⟩
  · obtain ⟨r, rfl, h⟩ := hq
    refine ga_if_eq (tgt := 15) hC dL_setTarget_8 (by decide) (fun hc => ?_) (fun hc => ?_)
    · have h := h.1 hc
      refine ga_lconst (v := 0) hC dL_setTarget_15 (by decide) ?_
      refine ga_last (k := 121) (n := 1) hC (fun _ => rfl) (by decide) lw_in0 dL_setTarget_16 ?_
      rw [jn_l]
      refine ga_goto (tgt := 24) hC dL_setTarget_17 (by decide) ?_
      refine ga_iconst (v := 0) hC dL_setTarget_24 (by decide) ?_
      exact gx_iret hC dL_setTarget_25 ⟨Nat.le_of_ble_eq_true rfl, Nat.le_of_ble_eq_true rfl⟩ ⟨_, _, _, _, rfl, rfl, h⟩
    · have h := h.2 hc
      refine ga_lconst (v := 1) hC dL_setTarget_11 (by decide) ?_
      refine ga_goto (tgt := 16) hC dL_setTarget_12 (by decide) ?_
      refine ga_last (k := 121) (n := 1) hC (fun _ => rfl) (by decide) lw_in0 dL_setTarget_16 ?_
      rw [jn_l]
      refine ga_goto (tgt := 24) hC dL_setTarget_17 (by decide) ?_
      refine ga_iconst (v := 0) hC dL_setTarget_24 (by decide) ?_
      exact gx_iret hC dL_setTarget_25 ⟨Nat.le_of_ble_eq_true rfl, Nat.le_of_ble_eq_true rfl⟩ ⟨_, _, _, _, rfl, rfl, h⟩
def M_L_setDiscount (v1 : Int32) (v2 : Int32) (a b : cg_S) (o : Nat → Int64) (od : Nat → UInt64) (Q : Int32 → cg_S → (Nat → Int64) → (Nat → UInt64) → Prop) : Prop := cl_M yL_setDiscount cL_setDiscount 5 [(0, 10, 13, 13)] (cg_RX 2 1) 1 6 (fun ad => [.ref (ad 0), .int v1, .int v2, .ref (ad 121)]) (jn a b o od) (fun _ v τ => ∃ (k : Int32) (a1 : cg_S) (o1 : Nat → Int64) (od1 : Nat → UInt64), v = some (.int k) ∧ τ = jn a1 b o1 od1 ∧ Q k a1 o1 od1)
set_option maxRecDepth 100000 in
set_option maxHeartbeats 4000000 in
theorem w_setDiscount {v1 v2 : Int32} {a b : cg_S} {o : Nat → Int64} {od : Nat → UInt64} {Q : Int32 → cg_S → (Nat → Int64) → (Nat → UInt64) → Prop}
    (h : M_X11_setDiscount v1 v2 a (fun r a1 => Q 0 a1 (vp_updL o 0 r.toInt64) od) (fun E a1 => (E = "java/lang/IllegalArgumentException" ∧ Q 1 a1 o od))) : M_L_setDiscount v1 v2 a b o od Q := by
  refine cl_entry (lv := fun ad => [(0, .ref (ad 0)), (1, .int v1), (2, .int v2), (3, .ref (ad 121))]) (by decide +kernel) rfl (fun _ => rfl) (fun _ => Nat.le_of_ble_eq_true rfl) ?_
  intro p l e s m args below meth c D cy ad hY
  have hC := hY.1
  refine ga_aload_n hC dL_setDiscount_0 3 rfl rfl ?_
  refine ga_iconst (v := 0) hC dL_setDiscount_1 (by decide) ?_
  refine ga_aload_n hC dL_setDiscount_2 0 rfl rfl ?_
  refine ga_iload_n hC dL_setDiscount_3 1 rfl rfl ?_
  refine ga_iload_n hC dL_setDiscount_4 2 rfl rfl ?_
  refine gl_callX (As := [.int v1, .int v2]) (st := [.int 0, .ref (ad 121)]) (n := 2) (hs := [("java/lang/IllegalArgumentException", 13, 13)]) (sp := 0) (ep := 10) hY h lw_cst (cg_in4 75 (by decide +kernel) (by decide +kernel)) (cg_in4 76 (by decide +kernel) (by decide +kernel)) (cg_in4 77 (by decide +kernel) (by decide +kernel)) (cg_in1 1 (by decide +kernel) (by decide +kernel)) (cg_in4 78 (by decide +kernel) (by decide +kernel)) rfl rfl rfl (by decide +kernel) ⟨Nat.le_of_ble_eq_true rfl, Nat.le_of_ble_eq_true rfl⟩ ⟨Nat.le_of_ble_eq_true rfl, Nat.le_of_ble_eq_true rfl⟩ rfl rfl (Nat.le_of_ble_eq_true rfl) dL_setDiscount_5 rfl ⟨by decide, by decide⟩ (List.forall_mem_cons.mpr ⟨⟨by decide, by decide, (cg_in3 117 (by decide +kernel) (by decide +kernel))⟩, fun _ h => absurd h List.not_mem_nil⟩) (fun E a1 hx => ?_) (fun v a1 hq => ?_)
  · obtain ⟨rfl, hx⟩ := hx
    refine ⟨[], [], 13, 13, rfl, by decide, fun q => ?_⟩
    refine ga_astore (lv' := [(4, .ref q), (0, .ref (ad 0)), (1, .int v1), (2, .int v2), (3, .ref (ad 121))]) hC dL_setDiscount_13 (by decide) rfl ?_
    refine ga_iconst (v := 1) hC dL_setDiscount_15 (by decide) ?_
    exact gx_iret hC dL_setDiscount_16 ⟨Nat.le_of_ble_eq_true rfl, Nat.le_of_ble_eq_true rfl⟩ ⟨_, _, _, _, rfl, rfl, hx⟩
  · obtain ⟨r, rfl, h⟩ := hq
    refine ga_i2l hC dL_setDiscount_8 ?_
    refine ga_last (k := 121) (n := 1) hC (fun _ => rfl) (by decide) lw_in0 dL_setDiscount_9 ?_
    rw [jn_l]
    refine ga_goto (tgt := 17) hC dL_setDiscount_10 (by decide) ?_
    refine ga_iconst (v := 0) hC dL_setDiscount_17 (by decide) ?_
    exact gx_iret hC dL_setDiscount_18 ⟨Nat.le_of_ble_eq_true rfl, Nat.le_of_ble_eq_true rfl⟩ ⟨_, _, _, _, rfl, rfl, h⟩
def M_L_setWeights (v1 : Int32) (v2 : Int32) (a b : cg_S) (o : Nat → Int64) (od : Nat → UInt64) (Q : Int32 → cg_S → (Nat → Int64) → (Nat → UInt64) → Prop) : Prop := cl_M yL_setWeights cL_setWeights 5 [(0, 10, 13, 13)] (cg_RX 2 1) 1 6 (fun ad => [.ref (ad 0), .int v1, .int v2, .ref (ad 121)]) (jn a b o od) (fun _ v τ => ∃ (k : Int32) (a1 : cg_S) (o1 : Nat → Int64) (od1 : Nat → UInt64), v = some (.int k) ∧ τ = jn a1 b o1 od1 ∧ Q k a1 o1 od1)
set_option maxRecDepth 100000 in
set_option maxHeartbeats 4000000 in
theorem w_setWeights {v1 v2 : Int32} {a b : cg_S} {o : Nat → Int64} {od : Nat → UInt64} {Q : Int32 → cg_S → (Nat → Int64) → (Nat → UInt64) → Prop}
    (h : M_X11_setWeights v1 v2 a (fun r a1 => Q 0 a1 (vp_updL o 0 r.toInt64) od) (fun E a1 => (E = "java/lang/IllegalArgumentException" ∧ Q 1 a1 o od))) : M_L_setWeights v1 v2 a b o od Q := by
  refine cl_entry (lv := fun ad => [(0, .ref (ad 0)), (1, .int v1), (2, .int v2), (3, .ref (ad 121))]) (by decide +kernel) rfl (fun _ => rfl) (fun _ => Nat.le_of_ble_eq_true rfl) ?_
  intro p l e s m args below meth c D cy ad hY
  have hC := hY.1
  refine ga_aload_n hC dL_setWeights_0 3 rfl rfl ?_
  refine ga_iconst (v := 0) hC dL_setWeights_1 (by decide) ?_
  refine ga_aload_n hC dL_setWeights_2 0 rfl rfl ?_
  refine ga_iload_n hC dL_setWeights_3 1 rfl rfl ?_
  refine ga_iload_n hC dL_setWeights_4 2 rfl rfl ?_
  refine gl_callX (As := [.int v1, .int v2]) (st := [.int 0, .ref (ad 121)]) (n := 2) (hs := [("java/lang/IllegalArgumentException", 13, 13)]) (sp := 0) (ep := 10) hY h lw_cst (cg_in4 87 (by decide +kernel) (by decide +kernel)) (cg_in4 88 (by decide +kernel) (by decide +kernel)) (cg_in4 89 (by decide +kernel) (by decide +kernel)) (cg_in1 1 (by decide +kernel) (by decide +kernel)) (cg_in4 90 (by decide +kernel) (by decide +kernel)) rfl rfl rfl (by decide +kernel) ⟨Nat.le_of_ble_eq_true rfl, Nat.le_of_ble_eq_true rfl⟩ ⟨Nat.le_of_ble_eq_true rfl, Nat.le_of_ble_eq_true rfl⟩ rfl rfl (Nat.le_of_ble_eq_true rfl) dL_setWeights_5 rfl ⟨by decide, by decide⟩ (List.forall_mem_cons.mpr ⟨⟨by decide, by decide, (cg_in3 117 (by decide +kernel) (by decide +kernel))⟩, fun _ h => absurd h List.not_mem_nil⟩) (fun E a1 hx => ?_) (fun v a1 hq => ?_)
  · obtain ⟨rfl, hx⟩ := hx
    refine ⟨[], [], 13, 13, rfl, by decide, fun q => ?_⟩
    refine ga_astore (lv' := [(4, .ref q), (0, .ref (ad 0)), (1, .int v1), (2, .int v2), (3, .ref (ad 121))]) hC dL_setWeights_13 (by decide) rfl ?_
    refine ga_iconst (v := 1) hC dL_setWeights_15 (by decide) ?_
    exact gx_iret hC dL_setWeights_16 ⟨Nat.le_of_ble_eq_true rfl, Nat.le_of_ble_eq_true rfl⟩ ⟨_, _, _, _, rfl, rfl, hx⟩
  · obtain ⟨r, rfl, h⟩ := hq
    refine ga_i2l hC dL_setWeights_8 ?_
    refine ga_last (k := 121) (n := 1) hC (fun _ => rfl) (by decide) lw_in0 dL_setWeights_9 ?_
    rw [jn_l]
    refine ga_goto (tgt := 17) hC dL_setWeights_10 (by decide) ?_
    refine ga_iconst (v := 0) hC dL_setWeights_17 (by decide) ?_
    exact gx_iret hC dL_setWeights_18 ⟨Nat.le_of_ble_eq_true rfl, Nat.le_of_ble_eq_true rfl⟩ ⟨_, _, _, _, rfl, rfl, h⟩
def M_L_choices (v1 : Int32) (a b : cg_S) (o : Nat → Int64) (od : Nat → UInt64) (Q : Int32 → cg_S → (Nat → Int64) → (Nat → UInt64) → Prop) : Prop := cl_M yL_choices cL_choices 4 [(0, 9, 12, 21)] (cg_RX 3 1) 1 6 (fun ad => [.ref (ad 0), .int v1, .ref (ad 121)]) (jn a b o od) (fun _ v τ => ∃ (k : Int32) (a1 : cg_S) (o1 : Nat → Int64) (od1 : Nat → UInt64), v = some (.int k) ∧ τ = jn a1 b o1 od1 ∧ Q k a1 o1 od1)
set_option maxRecDepth 100000 in
set_option maxHeartbeats 4000000 in
theorem w_choices {v1 : Int32} {a b : cg_S} {o : Nat → Int64} {od : Nat → UInt64} {Q : Int32 → cg_S → (Nat → Int64) → (Nat → UInt64) → Prop}
    (h : M_X11_choices v1 a (fun r a1 => Q 0 a1 (vp_updL o 0 r.toInt64) od) (fun E a1 => (E = "java/lang/IndexOutOfBoundsException" ∧ Q 1 a1 o od))) : M_L_choices v1 a b o od Q := by
  refine cl_entry (lv := fun ad => [(0, .ref (ad 0)), (1, .int v1), (2, .ref (ad 121))]) (by decide +kernel) rfl (fun _ => rfl) (fun _ => Nat.le_of_ble_eq_true rfl) ?_
  intro p l e s m args below meth c D cy ad hY
  have hC := hY.1
  refine ga_aload_n hC dL_choices_0 2 rfl rfl ?_
  refine ga_iconst (v := 0) hC dL_choices_1 (by decide) ?_
  refine ga_aload_n hC dL_choices_2 0 rfl rfl ?_
  refine ga_iload_n hC dL_choices_3 1 rfl rfl ?_
  refine gl_callX (As := [.int v1]) (st := [.int 0, .ref (ad 121)]) (n := 1) (hs := [("java/lang/IndexOutOfBoundsException", 12, 21)]) (sp := 0) (ep := 9) hY h lw_cst (cg_in4 99 (by decide +kernel) (by decide +kernel)) (cg_in4 100 (by decide +kernel) (by decide +kernel)) (cg_in4 101 (by decide +kernel) (by decide +kernel)) (cg_in1 1 (by decide +kernel) (by decide +kernel)) (cg_in4 102 (by decide +kernel) (by decide +kernel)) rfl rfl rfl (by decide +kernel) ⟨Nat.le_of_ble_eq_true rfl, Nat.le_of_ble_eq_true rfl⟩ ⟨Nat.le_of_ble_eq_true rfl, Nat.le_of_ble_eq_true rfl⟩ rfl rfl (Nat.le_of_ble_eq_true rfl) dL_choices_4 rfl ⟨by decide, by decide⟩ (List.forall_mem_cons.mpr ⟨⟨by decide, by decide, (cg_in3 221 (by decide +kernel) (by decide +kernel))⟩, fun _ h => absurd h List.not_mem_nil⟩) (fun E a1 hx => ?_) (fun v a1 hq => ?_)
  · obtain ⟨rfl, hx⟩ := hx
    refine ⟨[], [], 12, 21, rfl, by decide, fun q => ?_⟩
    refine ga_astore_n (lv' := [(3, .ref q), (0, .ref (ad 0)), (1, .int v1), (2, .ref (ad 121))]) hC dL_choices_12 rfl (by decide) rfl ?_
    refine ga_iconst (v := 1) hC dL_choices_13 (by decide) ?_
    exact gx_iret hC dL_choices_14 ⟨Nat.le_of_ble_eq_true rfl, Nat.le_of_ble_eq_true rfl⟩ ⟨_, _, _, _, rfl, rfl, hx⟩
  · obtain ⟨r, rfl, h⟩ := hq
    refine ga_i2l hC dL_choices_7 ?_
    refine ga_last (k := 121) (n := 1) hC (fun _ => rfl) (by decide) lw_in0 dL_choices_8 ?_
    rw [jn_l]
    refine ga_goto (tgt := 15) hC dL_choices_9 (by decide) ?_
    refine ga_iconst (v := 0) hC dL_choices_15 (by decide) ?_
    exact gx_iret hC dL_choices_16 ⟨Nat.le_of_ble_eq_true rfl, Nat.le_of_ble_eq_true rfl⟩ ⟨_, _, _, _, rfl, rfl, h⟩
def M_L_chance (v1 : Int32) (v2 : Int32) (v3 : Int32) (a b : cg_S) (o : Nat → Int64) (od : Nat → UInt64) (Q : Int32 → cg_S → (Nat → Int64) → (Nat → UInt64) → Prop) : Prop := cl_M yL_chance cL_chance 6 [(0, 12, 15, 21), (0, 12, 19, 45)] (cg_RX 4 3) 3 18 (fun ad => [.ref (ad 0), .int v1, .int v2, .int v3, .ref (ad 121)]) (jn a b o od) (fun _ v τ => ∃ (k : Int32) (a1 : cg_S) (o1 : Nat → Int64) (od1 : Nat → UInt64), v = some (.int k) ∧ τ = jn a1 b o1 od1 ∧ Q k a1 o1 od1)
set_option maxRecDepth 100000 in
set_option maxHeartbeats 4000000 in
theorem w_chance {v1 v2 v3 : Int32} {a b : cg_S} {o : Nat → Int64} {od : Nat → UInt64} {Q : Int32 → cg_S → (Nat → Int64) → (Nat → UInt64) → Prop}
    (h : M_X11_chance v1 v2 v3 a (fun r a1 => Q 0 a1 (vp_updL o 0 r.toInt64) od) (fun E a1 => (E = "java/lang/IndexOutOfBoundsException" ∧ Q 1 a1 o od) ∨ (E = "java/lang/ArithmeticException" ∧ Q 2 a1 o od))) : M_L_chance v1 v2 v3 a b o od Q := by
  refine cl_entry (lv := fun ad => [(0, .ref (ad 0)), (1, .int v1), (2, .int v2), (3, .int v3), (4, .ref (ad 121))]) (by decide +kernel) rfl (fun _ => rfl) (fun _ => Nat.le_of_ble_eq_true rfl) ?_
  intro p l e s m args below meth c D cy ad hY
  have hC := hY.1
  refine ga_aload hC dL_chance_0 4 rfl ?_
  refine ga_iconst (v := 0) hC dL_chance_2 (by decide) ?_
  refine ga_aload_n hC dL_chance_3 0 rfl rfl ?_
  refine ga_iload_n hC dL_chance_4 1 rfl rfl ?_
  refine ga_iload_n hC dL_chance_5 2 rfl rfl ?_
  refine ga_iload_n hC dL_chance_6 3 rfl rfl ?_
  refine gl_callX (As := [.int v1, .int v2, .int v3]) (st := [.int 0, .ref (ad 121)]) (n := 3) (hs := [("java/lang/IndexOutOfBoundsException", 15, 21), ("java/lang/ArithmeticException", 19, 45)]) (sp := 0) (ep := 12) hY h lw_cst (cg_in4 120 (by decide +kernel) (by decide +kernel)) (cg_in4 121 (by decide +kernel) (by decide +kernel)) (cg_in4 122 (by decide +kernel) (by decide +kernel)) (cg_in1 1 (by decide +kernel) (by decide +kernel)) (cg_in4 123 (by decide +kernel) (by decide +kernel)) rfl rfl rfl (by decide +kernel) ⟨Nat.le_of_ble_eq_true rfl, Nat.le_of_ble_eq_true rfl⟩ ⟨Nat.le_of_ble_eq_true rfl, Nat.le_of_ble_eq_true rfl⟩ rfl rfl (Nat.le_of_ble_eq_true rfl) dL_chance_7 rfl ⟨by decide, by decide⟩ (List.forall_mem_cons.mpr ⟨⟨by decide, by decide, (cg_in3 221 (by decide +kernel) (by decide +kernel))⟩, (List.forall_mem_cons.mpr ⟨⟨by decide, by decide, (cg_in4 106 (by decide +kernel) (by decide +kernel))⟩, fun _ h => absurd h List.not_mem_nil⟩)⟩) (fun E a1 hx => ?_) (fun v a1 hq => ?_)
  · rcases hx with ⟨rfl, hx⟩ | ⟨rfl, hx⟩
    · refine ⟨[], [("java/lang/ArithmeticException", 19, 45)], 15, 21, rfl, by decide, fun q => ?_⟩
      refine ga_astore (lv' := [(5, .ref q), (0, .ref (ad 0)), (1, .int v1), (2, .int v2), (3, .int v3), (4, .ref (ad 121))]) hC dL_chance_15 (by decide) rfl ?_
      refine ga_iconst (v := 1) hC dL_chance_17 (by decide) ?_
      exact gx_iret hC dL_chance_18 ⟨Nat.le_of_ble_eq_true rfl, Nat.le_of_ble_eq_true rfl⟩ ⟨_, _, _, _, rfl, rfl, hx⟩
    · refine ⟨[("java/lang/IndexOutOfBoundsException", 15, 21)], [], 19, 45, rfl, by decide, fun q => ?_⟩
      refine ga_astore (lv' := [(5, .ref q), (0, .ref (ad 0)), (1, .int v1), (2, .int v2), (3, .int v3), (4, .ref (ad 121))]) hC dL_chance_19 (by decide) rfl ?_
      refine ga_iconst (v := 2) hC dL_chance_21 (by decide) ?_
      exact gx_iret hC dL_chance_22 ⟨Nat.le_of_ble_eq_true rfl, Nat.le_of_ble_eq_true rfl⟩ ⟨_, _, _, _, rfl, rfl, hx⟩
  · obtain ⟨r, rfl, h⟩ := hq
    refine ga_i2l hC dL_chance_10 ?_
    refine ga_last (k := 121) (n := 1) hC (fun _ => rfl) (by decide) lw_in0 dL_chance_11 ?_
    rw [jn_l]
    refine ga_goto (tgt := 23) hC dL_chance_12 (by decide) ?_
    refine ga_iconst (v := 0) hC dL_chance_23 (by decide) ?_
    exact gx_iret hC dL_chance_24 ⟨Nat.le_of_ble_eq_true rfl, Nat.le_of_ble_eq_true rfl⟩ ⟨_, _, _, _, rfl, rfl, h⟩
def M_L_above (v1 : Int32) (v2 : Int32) (a b : cg_S) (o : Nat → Int64) (od : Nat → UInt64) (Q : Int32 → cg_S → (Nat → Int64) → (Nat → UInt64) → Prop) : Prop := cl_M yL_above cL_above 5 [(0, 9, 12, 13), (0, 9, 16, 21), (0, 9, 20, 15)] (cg_RX 7 3) 3 18 (fun ad => [.ref (ad 0), .int v1, .int v2, .ref (ad 121)]) (jn a b o od) (fun _ v τ => ∃ (k : Int32) (a1 : cg_S) (o1 : Nat → Int64) (od1 : Nat → UInt64), v = some (.int k) ∧ τ = jn a1 b o1 od1 ∧ Q k a1 o1 od1)
set_option maxRecDepth 100000 in
set_option maxHeartbeats 4000000 in
theorem w_above {v1 v2 : Int32} {a b : cg_S} {o : Nat → Int64} {od : Nat → UInt64} {Q : Int32 → cg_S → (Nat → Int64) → (Nat → UInt64) → Prop}
    (h : M_X11_above v1 v2 a (fun r a1 => Q 0 a1 (vp_updL o 0 r) od) (fun E a1 => (E = "java/lang/IllegalArgumentException" ∧ Q 1 a1 o od) ∨ (E = "java/lang/IndexOutOfBoundsException" ∧ Q 2 a1 o od) ∨ (E = "java/lang/IllegalStateException" ∧ Q 3 a1 o od))) : M_L_above v1 v2 a b o od Q := by
  refine cl_entry (lv := fun ad => [(0, .ref (ad 0)), (1, .int v1), (2, .int v2), (3, .ref (ad 121))]) (by decide +kernel) rfl (fun _ => rfl) (fun _ => Nat.le_of_ble_eq_true rfl) ?_
  intro p l e s m args below meth c D cy ad hY
  have hC := hY.1
  refine ga_aload_n hC dL_above_0 3 rfl rfl ?_
  refine ga_iconst (v := 0) hC dL_above_1 (by decide) ?_
  refine ga_aload_n hC dL_above_2 0 rfl rfl ?_
  refine ga_iload_n hC dL_above_3 1 rfl rfl ?_
  refine ga_iload_n hC dL_above_4 2 rfl rfl ?_
  refine gl_callX (As := [.int v1, .int v2]) (st := [.int 0, .ref (ad 121)]) (n := 2) (hs := [("java/lang/IllegalArgumentException", 12, 13), ("java/lang/IndexOutOfBoundsException", 16, 21), ("java/lang/IllegalStateException", 20, 15)]) (sp := 0) (ep := 9) hY h lw_cst (cg_in4 140 (by decide +kernel) (by decide +kernel)) (cg_in4 141 (by decide +kernel) (by decide +kernel)) (cg_in4 142 (by decide +kernel) (by decide +kernel)) (cg_in1 1 (by decide +kernel) (by decide +kernel)) (cg_in4 143 (by decide +kernel) (by decide +kernel)) rfl rfl rfl (by decide +kernel) ⟨Nat.le_of_ble_eq_true rfl, Nat.le_of_ble_eq_true rfl⟩ ⟨Nat.le_of_ble_eq_true rfl, Nat.le_of_ble_eq_true rfl⟩ rfl rfl (Nat.le_of_ble_eq_true rfl) dL_above_5 rfl ⟨by decide, by decide⟩ (List.forall_mem_cons.mpr ⟨⟨by decide, by decide, (cg_in3 117 (by decide +kernel) (by decide +kernel))⟩, (List.forall_mem_cons.mpr ⟨⟨by decide, by decide, (cg_in3 221 (by decide +kernel) (by decide +kernel))⟩, (List.forall_mem_cons.mpr ⟨⟨by decide, by decide, (cg_in3 118 (by decide +kernel) (by decide +kernel))⟩, fun _ h => absurd h List.not_mem_nil⟩)⟩)⟩) (fun E a1 hx => ?_) (fun v a1 hq => ?_)
  · rcases hx with ⟨rfl, hx⟩ | ⟨rfl, hx⟩ | ⟨rfl, hx⟩
    · refine ⟨[], [("java/lang/IndexOutOfBoundsException", 16, 21), ("java/lang/IllegalStateException", 20, 15)], 12, 13, rfl, by decide, fun q => ?_⟩
      refine ga_astore (lv' := [(4, .ref q), (0, .ref (ad 0)), (1, .int v1), (2, .int v2), (3, .ref (ad 121))]) hC dL_above_12 (by decide) rfl ?_
      refine ga_iconst (v := 1) hC dL_above_14 (by decide) ?_
      exact gx_iret hC dL_above_15 ⟨Nat.le_of_ble_eq_true rfl, Nat.le_of_ble_eq_true rfl⟩ ⟨_, _, _, _, rfl, rfl, hx⟩
    · refine ⟨[("java/lang/IllegalArgumentException", 12, 13)], [("java/lang/IllegalStateException", 20, 15)], 16, 21, rfl, by decide, fun q => ?_⟩
      refine ga_astore (lv' := [(4, .ref q), (0, .ref (ad 0)), (1, .int v1), (2, .int v2), (3, .ref (ad 121))]) hC dL_above_16 (by decide) rfl ?_
      refine ga_iconst (v := 2) hC dL_above_18 (by decide) ?_
      exact gx_iret hC dL_above_19 ⟨Nat.le_of_ble_eq_true rfl, Nat.le_of_ble_eq_true rfl⟩ ⟨_, _, _, _, rfl, rfl, hx⟩
    · refine ⟨[("java/lang/IllegalArgumentException", 12, 13), ("java/lang/IndexOutOfBoundsException", 16, 21)], [], 20, 15, rfl, by decide, fun q => ?_⟩
      refine ga_astore (lv' := [(4, .ref q), (0, .ref (ad 0)), (1, .int v1), (2, .int v2), (3, .ref (ad 121))]) hC dL_above_20 (by decide) rfl ?_
      refine ga_iconst (v := 3) hC dL_above_22 (by decide) ?_
      exact gx_iret hC dL_above_23 ⟨Nat.le_of_ble_eq_true rfl, Nat.le_of_ble_eq_true rfl⟩ ⟨_, _, _, _, rfl, rfl, hx⟩
  · obtain ⟨r, rfl, h⟩ := hq
    refine ga_last (k := 121) (n := 1) hC (fun _ => rfl) (by decide) lw_in0 dL_above_8 ?_
    rw [jn_l]
    refine ga_goto (tgt := 24) hC dL_above_9 (by decide) ?_
    refine ga_iconst (v := 0) hC dL_above_24 (by decide) ?_
    exact gx_iret hC dL_above_25 ⟨Nat.le_of_ble_eq_true rfl, Nat.le_of_ble_eq_true rfl⟩ ⟨_, _, _, _, rfl, rfl, h⟩
def M_L_below (v1 : Int32) (v2 : Int32) (a b : cg_S) (o : Nat → Int64) (od : Nat → UInt64) (Q : Int32 → cg_S → (Nat → Int64) → (Nat → UInt64) → Prop) : Prop := cl_M yL_below cL_below 5 [(0, 9, 12, 13), (0, 9, 16, 21), (0, 9, 20, 15)] (cg_RX 7 3) 3 18 (fun ad => [.ref (ad 0), .int v1, .int v2, .ref (ad 121)]) (jn a b o od) (fun _ v τ => ∃ (k : Int32) (a1 : cg_S) (o1 : Nat → Int64) (od1 : Nat → UInt64), v = some (.int k) ∧ τ = jn a1 b o1 od1 ∧ Q k a1 o1 od1)
set_option maxRecDepth 100000 in
set_option maxHeartbeats 4000000 in
theorem w_below {v1 v2 : Int32} {a b : cg_S} {o : Nat → Int64} {od : Nat → UInt64} {Q : Int32 → cg_S → (Nat → Int64) → (Nat → UInt64) → Prop}
    (h : M_X11_below v1 v2 a (fun r a1 => Q 0 a1 (vp_updL o 0 r) od) (fun E a1 => (E = "java/lang/IllegalArgumentException" ∧ Q 1 a1 o od) ∨ (E = "java/lang/IndexOutOfBoundsException" ∧ Q 2 a1 o od) ∨ (E = "java/lang/IllegalStateException" ∧ Q 3 a1 o od))) : M_L_below v1 v2 a b o od Q := by
  refine cl_entry (lv := fun ad => [(0, .ref (ad 0)), (1, .int v1), (2, .int v2), (3, .ref (ad 121))]) (by decide +kernel) rfl (fun _ => rfl) (fun _ => Nat.le_of_ble_eq_true rfl) ?_
  intro p l e s m args below meth c D cy ad hY
  have hC := hY.1
  refine ga_aload_n hC dL_below_0 3 rfl rfl ?_
  refine ga_iconst (v := 0) hC dL_below_1 (by decide) ?_
  refine ga_aload_n hC dL_below_2 0 rfl rfl ?_
  refine ga_iload_n hC dL_below_3 1 rfl rfl ?_
  refine ga_iload_n hC dL_below_4 2 rfl rfl ?_
  refine gl_callX (As := [.int v1, .int v2]) (st := [.int 0, .ref (ad 121)]) (n := 2) (hs := [("java/lang/IllegalArgumentException", 12, 13), ("java/lang/IndexOutOfBoundsException", 16, 21), ("java/lang/IllegalStateException", 20, 15)]) (sp := 0) (ep := 9) hY h lw_cst (cg_in4 173 (by decide +kernel) (by decide +kernel)) (cg_in4 174 (by decide +kernel) (by decide +kernel)) (cg_in4 175 (by decide +kernel) (by decide +kernel)) (cg_in1 1 (by decide +kernel) (by decide +kernel)) (cg_in4 176 (by decide +kernel) (by decide +kernel)) rfl rfl rfl (by decide +kernel) ⟨Nat.le_of_ble_eq_true rfl, Nat.le_of_ble_eq_true rfl⟩ ⟨Nat.le_of_ble_eq_true rfl, Nat.le_of_ble_eq_true rfl⟩ rfl rfl (Nat.le_of_ble_eq_true rfl) dL_below_5 rfl ⟨by decide, by decide⟩ (List.forall_mem_cons.mpr ⟨⟨by decide, by decide, (cg_in3 117 (by decide +kernel) (by decide +kernel))⟩, (List.forall_mem_cons.mpr ⟨⟨by decide, by decide, (cg_in3 221 (by decide +kernel) (by decide +kernel))⟩, (List.forall_mem_cons.mpr ⟨⟨by decide, by decide, (cg_in3 118 (by decide +kernel) (by decide +kernel))⟩, fun _ h => absurd h List.not_mem_nil⟩)⟩)⟩) (fun E a1 hx => ?_) (fun v a1 hq => ?_)
  · rcases hx with ⟨rfl, hx⟩ | ⟨rfl, hx⟩ | ⟨rfl, hx⟩
    · refine ⟨[], [("java/lang/IndexOutOfBoundsException", 16, 21), ("java/lang/IllegalStateException", 20, 15)], 12, 13, rfl, by decide, fun q => ?_⟩
      refine ga_astore (lv' := [(4, .ref q), (0, .ref (ad 0)), (1, .int v1), (2, .int v2), (3, .ref (ad 121))]) hC dL_below_12 (by decide) rfl ?_
      refine ga_iconst (v := 1) hC dL_below_14 (by decide) ?_
      exact gx_iret hC dL_below_15 ⟨Nat.le_of_ble_eq_true rfl, Nat.le_of_ble_eq_true rfl⟩ ⟨_, _, _, _, rfl, rfl, hx⟩
    · refine ⟨[("java/lang/IllegalArgumentException", 12, 13)], [("java/lang/IllegalStateException", 20, 15)], 16, 21, rfl, by decide, fun q => ?_⟩
      refine ga_astore (lv' := [(4, .ref q), (0, .ref (ad 0)), (1, .int v1), (2, .int v2), (3, .ref (ad 121))]) hC dL_below_16 (by decide) rfl ?_
      refine ga_iconst (v := 2) hC dL_below_18 (by decide) ?_
      exact gx_iret hC dL_below_19 ⟨Nat.le_of_ble_eq_true rfl, Nat.le_of_ble_eq_true rfl⟩ ⟨_, _, _, _, rfl, rfl, hx⟩
    · refine ⟨[("java/lang/IllegalArgumentException", 12, 13), ("java/lang/IndexOutOfBoundsException", 16, 21)], [], 20, 15, rfl, by decide, fun q => ?_⟩
      refine ga_astore (lv' := [(4, .ref q), (0, .ref (ad 0)), (1, .int v1), (2, .int v2), (3, .ref (ad 121))]) hC dL_below_20 (by decide) rfl ?_
      refine ga_iconst (v := 3) hC dL_below_22 (by decide) ?_
      exact gx_iret hC dL_below_23 ⟨Nat.le_of_ble_eq_true rfl, Nat.le_of_ble_eq_true rfl⟩ ⟨_, _, _, _, rfl, rfl, hx⟩
  · obtain ⟨r, rfl, h⟩ := hq
    refine ga_last (k := 121) (n := 1) hC (fun _ => rfl) (by decide) lw_in0 dL_below_8 ?_
    rw [jn_l]
    refine ga_goto (tgt := 24) hC dL_below_9 (by decide) ?_
    refine ga_iconst (v := 0) hC dL_below_24 (by decide) ?_
    exact gx_iret hC dL_below_25 ⟨Nat.le_of_ble_eq_true rfl, Nat.le_of_ble_eq_true rfl⟩ ⟨_, _, _, _, rfl, rfl, h⟩
def M_L_aboveByAll (v1 : Int32) (v2 : Int32) (a b : cg_S) (o : Nat → Int64) (od : Nat → UInt64) (Q : Int32 → cg_S → (Nat → Int64) → (Nat → UInt64) → Prop) : Prop := cl_M yL_aboveByAll cL_aboveByAll 5 [(0, 9, 12, 13), (0, 9, 16, 21), (0, 9, 20, 15)] (cg_RX 6 3) 3 18 (fun ad => [.ref (ad 0), .int v1, .int v2, .ref (ad 121)]) (jn a b o od) (fun _ v τ => ∃ (k : Int32) (a1 : cg_S) (o1 : Nat → Int64) (od1 : Nat → UInt64), v = some (.int k) ∧ τ = jn a1 b o1 od1 ∧ Q k a1 o1 od1)
set_option maxRecDepth 100000 in
set_option maxHeartbeats 4000000 in
theorem w_aboveByAll {v1 v2 : Int32} {a b : cg_S} {o : Nat → Int64} {od : Nat → UInt64} {Q : Int32 → cg_S → (Nat → Int64) → (Nat → UInt64) → Prop}
    (h : M_X11_aboveByAll v1 v2 a (fun r a1 => Q 0 a1 (vp_updL o 0 r) od) (fun E a1 => (E = "java/lang/IllegalArgumentException" ∧ Q 1 a1 o od) ∨ (E = "java/lang/IndexOutOfBoundsException" ∧ Q 2 a1 o od) ∨ (E = "java/lang/IllegalStateException" ∧ Q 3 a1 o od))) : M_L_aboveByAll v1 v2 a b o od Q := by
  refine cl_entry (lv := fun ad => [(0, .ref (ad 0)), (1, .int v1), (2, .int v2), (3, .ref (ad 121))]) (by decide +kernel) rfl (fun _ => rfl) (fun _ => Nat.le_of_ble_eq_true rfl) ?_
  intro p l e s m args below meth c D cy ad hY
  have hC := hY.1
  refine ga_aload_n hC dL_aboveByAll_0 3 rfl rfl ?_
  refine ga_iconst (v := 0) hC dL_aboveByAll_1 (by decide) ?_
  refine ga_aload_n hC dL_aboveByAll_2 0 rfl rfl ?_
  refine ga_iload_n hC dL_aboveByAll_3 1 rfl rfl ?_
  refine ga_iload_n hC dL_aboveByAll_4 2 rfl rfl ?_
  refine gl_callX (As := [.int v1, .int v2]) (st := [.int 0, .ref (ad 121)]) (n := 2) (hs := [("java/lang/IllegalArgumentException", 12, 13), ("java/lang/IndexOutOfBoundsException", 16, 21), ("java/lang/IllegalStateException", 20, 15)]) (sp := 0) (ep := 9) hY h lw_cst (cg_in4 185 (by decide +kernel) (by decide +kernel)) (cg_in4 186 (by decide +kernel) (by decide +kernel)) (cg_in4 187 (by decide +kernel) (by decide +kernel)) (cg_in1 1 (by decide +kernel) (by decide +kernel)) (cg_in4 188 (by decide +kernel) (by decide +kernel)) rfl rfl rfl (by decide +kernel) ⟨Nat.le_of_ble_eq_true rfl, Nat.le_of_ble_eq_true rfl⟩ ⟨Nat.le_of_ble_eq_true rfl, Nat.le_of_ble_eq_true rfl⟩ rfl rfl (Nat.le_of_ble_eq_true rfl) dL_aboveByAll_5 rfl ⟨by decide, by decide⟩ (List.forall_mem_cons.mpr ⟨⟨by decide, by decide, (cg_in3 117 (by decide +kernel) (by decide +kernel))⟩, (List.forall_mem_cons.mpr ⟨⟨by decide, by decide, (cg_in3 221 (by decide +kernel) (by decide +kernel))⟩, (List.forall_mem_cons.mpr ⟨⟨by decide, by decide, (cg_in3 118 (by decide +kernel) (by decide +kernel))⟩, fun _ h => absurd h List.not_mem_nil⟩)⟩)⟩) (fun E a1 hx => ?_) (fun v a1 hq => ?_)
  · rcases hx with ⟨rfl, hx⟩ | ⟨rfl, hx⟩ | ⟨rfl, hx⟩
    · refine ⟨[], [("java/lang/IndexOutOfBoundsException", 16, 21), ("java/lang/IllegalStateException", 20, 15)], 12, 13, rfl, by decide, fun q => ?_⟩
      refine ga_astore (lv' := [(4, .ref q), (0, .ref (ad 0)), (1, .int v1), (2, .int v2), (3, .ref (ad 121))]) hC dL_aboveByAll_12 (by decide) rfl ?_
      refine ga_iconst (v := 1) hC dL_aboveByAll_14 (by decide) ?_
      exact gx_iret hC dL_aboveByAll_15 ⟨Nat.le_of_ble_eq_true rfl, Nat.le_of_ble_eq_true rfl⟩ ⟨_, _, _, _, rfl, rfl, hx⟩
    · refine ⟨[("java/lang/IllegalArgumentException", 12, 13)], [("java/lang/IllegalStateException", 20, 15)], 16, 21, rfl, by decide, fun q => ?_⟩
      refine ga_astore (lv' := [(4, .ref q), (0, .ref (ad 0)), (1, .int v1), (2, .int v2), (3, .ref (ad 121))]) hC dL_aboveByAll_16 (by decide) rfl ?_
      refine ga_iconst (v := 2) hC dL_aboveByAll_18 (by decide) ?_
      exact gx_iret hC dL_aboveByAll_19 ⟨Nat.le_of_ble_eq_true rfl, Nat.le_of_ble_eq_true rfl⟩ ⟨_, _, _, _, rfl, rfl, hx⟩
    · refine ⟨[("java/lang/IllegalArgumentException", 12, 13), ("java/lang/IndexOutOfBoundsException", 16, 21)], [], 20, 15, rfl, by decide, fun q => ?_⟩
      refine ga_astore (lv' := [(4, .ref q), (0, .ref (ad 0)), (1, .int v1), (2, .int v2), (3, .ref (ad 121))]) hC dL_aboveByAll_20 (by decide) rfl ?_
      refine ga_iconst (v := 3) hC dL_aboveByAll_22 (by decide) ?_
      exact gx_iret hC dL_aboveByAll_23 ⟨Nat.le_of_ble_eq_true rfl, Nat.le_of_ble_eq_true rfl⟩ ⟨_, _, _, _, rfl, rfl, hx⟩
  · obtain ⟨r, rfl, h⟩ := hq
    refine ga_last (k := 121) (n := 1) hC (fun _ => rfl) (by decide) lw_in0 dL_aboveByAll_8 ?_
    rw [jn_l]
    refine ga_goto (tgt := 24) hC dL_aboveByAll_9 (by decide) ?_
    refine ga_iconst (v := 0) hC dL_aboveByAll_24 (by decide) ?_
    exact gx_iret hC dL_aboveByAll_25 ⟨Nat.le_of_ble_eq_true rfl, Nat.le_of_ble_eq_true rfl⟩ ⟨_, _, _, _, rfl, rfl, h⟩
def M_L_belowByAll (v1 : Int32) (v2 : Int32) (a b : cg_S) (o : Nat → Int64) (od : Nat → UInt64) (Q : Int32 → cg_S → (Nat → Int64) → (Nat → UInt64) → Prop) : Prop := cl_M yL_belowByAll cL_belowByAll 5 [(0, 9, 12, 13), (0, 9, 16, 21), (0, 9, 20, 15)] (cg_RX 6 3) 3 18 (fun ad => [.ref (ad 0), .int v1, .int v2, .ref (ad 121)]) (jn a b o od) (fun _ v τ => ∃ (k : Int32) (a1 : cg_S) (o1 : Nat → Int64) (od1 : Nat → UInt64), v = some (.int k) ∧ τ = jn a1 b o1 od1 ∧ Q k a1 o1 od1)
set_option maxRecDepth 100000 in
set_option maxHeartbeats 4000000 in
theorem w_belowByAll {v1 v2 : Int32} {a b : cg_S} {o : Nat → Int64} {od : Nat → UInt64} {Q : Int32 → cg_S → (Nat → Int64) → (Nat → UInt64) → Prop}
    (h : M_X11_belowByAll v1 v2 a (fun r a1 => Q 0 a1 (vp_updL o 0 r) od) (fun E a1 => (E = "java/lang/IllegalArgumentException" ∧ Q 1 a1 o od) ∨ (E = "java/lang/IndexOutOfBoundsException" ∧ Q 2 a1 o od) ∨ (E = "java/lang/IllegalStateException" ∧ Q 3 a1 o od))) : M_L_belowByAll v1 v2 a b o od Q := by
  refine cl_entry (lv := fun ad => [(0, .ref (ad 0)), (1, .int v1), (2, .int v2), (3, .ref (ad 121))]) (by decide +kernel) rfl (fun _ => rfl) (fun _ => Nat.le_of_ble_eq_true rfl) ?_
  intro p l e s m args below meth c D cy ad hY
  have hC := hY.1
  refine ga_aload_n hC dL_belowByAll_0 3 rfl rfl ?_
  refine ga_iconst (v := 0) hC dL_belowByAll_1 (by decide) ?_
  refine ga_aload_n hC dL_belowByAll_2 0 rfl rfl ?_
  refine ga_iload_n hC dL_belowByAll_3 1 rfl rfl ?_
  refine ga_iload_n hC dL_belowByAll_4 2 rfl rfl ?_
  refine gl_callX (As := [.int v1, .int v2]) (st := [.int 0, .ref (ad 121)]) (n := 2) (hs := [("java/lang/IllegalArgumentException", 12, 13), ("java/lang/IndexOutOfBoundsException", 16, 21), ("java/lang/IllegalStateException", 20, 15)]) (sp := 0) (ep := 9) hY h lw_cst (cg_in4 192 (by decide +kernel) (by decide +kernel)) (cg_in4 193 (by decide +kernel) (by decide +kernel)) (cg_in4 194 (by decide +kernel) (by decide +kernel)) (cg_in1 1 (by decide +kernel) (by decide +kernel)) (cg_in4 195 (by decide +kernel) (by decide +kernel)) rfl rfl rfl (by decide +kernel) ⟨Nat.le_of_ble_eq_true rfl, Nat.le_of_ble_eq_true rfl⟩ ⟨Nat.le_of_ble_eq_true rfl, Nat.le_of_ble_eq_true rfl⟩ rfl rfl (Nat.le_of_ble_eq_true rfl) dL_belowByAll_5 rfl ⟨by decide, by decide⟩ (List.forall_mem_cons.mpr ⟨⟨by decide, by decide, (cg_in3 117 (by decide +kernel) (by decide +kernel))⟩, (List.forall_mem_cons.mpr ⟨⟨by decide, by decide, (cg_in3 221 (by decide +kernel) (by decide +kernel))⟩, (List.forall_mem_cons.mpr ⟨⟨by decide, by decide, (cg_in3 118 (by decide +kernel) (by decide +kernel))⟩, fun _ h => absurd h List.not_mem_nil⟩)⟩)⟩) (fun E a1 hx => ?_) (fun v a1 hq => ?_)
  · rcases hx with ⟨rfl, hx⟩ | ⟨rfl, hx⟩ | ⟨rfl, hx⟩
    · refine ⟨[], [("java/lang/IndexOutOfBoundsException", 16, 21), ("java/lang/IllegalStateException", 20, 15)], 12, 13, rfl, by decide, fun q => ?_⟩
      refine ga_astore (lv' := [(4, .ref q), (0, .ref (ad 0)), (1, .int v1), (2, .int v2), (3, .ref (ad 121))]) hC dL_belowByAll_12 (by decide) rfl ?_
      refine ga_iconst (v := 1) hC dL_belowByAll_14 (by decide) ?_
      exact gx_iret hC dL_belowByAll_15 ⟨Nat.le_of_ble_eq_true rfl, Nat.le_of_ble_eq_true rfl⟩ ⟨_, _, _, _, rfl, rfl, hx⟩
    · refine ⟨[("java/lang/IllegalArgumentException", 12, 13)], [("java/lang/IllegalStateException", 20, 15)], 16, 21, rfl, by decide, fun q => ?_⟩
      refine ga_astore (lv' := [(4, .ref q), (0, .ref (ad 0)), (1, .int v1), (2, .int v2), (3, .ref (ad 121))]) hC dL_belowByAll_16 (by decide) rfl ?_
      refine ga_iconst (v := 2) hC dL_belowByAll_18 (by decide) ?_
      exact gx_iret hC dL_belowByAll_19 ⟨Nat.le_of_ble_eq_true rfl, Nat.le_of_ble_eq_true rfl⟩ ⟨_, _, _, _, rfl, rfl, hx⟩
    · refine ⟨[("java/lang/IllegalArgumentException", 12, 13), ("java/lang/IndexOutOfBoundsException", 16, 21)], [], 20, 15, rfl, by decide, fun q => ?_⟩
      refine ga_astore (lv' := [(4, .ref q), (0, .ref (ad 0)), (1, .int v1), (2, .int v2), (3, .ref (ad 121))]) hC dL_belowByAll_20 (by decide) rfl ?_
      refine ga_iconst (v := 3) hC dL_belowByAll_22 (by decide) ?_
      exact gx_iret hC dL_belowByAll_23 ⟨Nat.le_of_ble_eq_true rfl, Nat.le_of_ble_eq_true rfl⟩ ⟨_, _, _, _, rfl, rfl, hx⟩
  · obtain ⟨r, rfl, h⟩ := hq
    refine ga_last (k := 121) (n := 1) hC (fun _ => rfl) (by decide) lw_in0 dL_belowByAll_8 ?_
    rw [jn_l]
    refine ga_goto (tgt := 24) hC dL_belowByAll_9 (by decide) ?_
    refine ga_iconst (v := 0) hC dL_belowByAll_24 (by decide) ?_
    exact gx_iret hC dL_belowByAll_25 ⟨Nat.le_of_ble_eq_true rfl, Nat.le_of_ble_eq_true rfl⟩ ⟨_, _, _, _, rfl, rfl, h⟩
def M_L_valueFloat (v1 : Int32) (v2 : Int32) (a b : cg_S) (o : Nat → Int64) (od : Nat → UInt64) (Q : Int32 → cg_S → (Nat → Int64) → (Nat → UInt64) → Prop) : Prop := cl_M yL_valueFloat cL_valueFloat 5 [(0, 10, 13, 13), (0, 10, 17, 21), (0, 10, 21, 15)] (cg_RX 7 3) 3 18 (fun ad => [.ref (ad 0), .int v1, .int v2, .ref (ad 122)]) (jn a b o od) (fun _ v τ => ∃ (k : Int32) (a1 : cg_S) (o1 : Nat → Int64) (od1 : Nat → UInt64), v = some (.int k) ∧ τ = jn a1 b o1 od1 ∧ Q k a1 o1 od1)
set_option maxRecDepth 100000 in
set_option maxHeartbeats 4000000 in
theorem w_valueFloat {v1 v2 : Int32} {a b : cg_S} {o : Nat → Int64} {od : Nat → UInt64} {Q : Int32 → cg_S → (Nat → Int64) → (Nat → UInt64) → Prop}
    (h : M_X11_valueFloat v1 v2 a (fun r a1 => vf_n64 (FP.f2d r) ∧ Q 0 a1 o (vf_upd od 0 (FP.f2d r))) (fun E a1 => (E = "java/lang/IllegalArgumentException" ∧ Q 1 a1 o od) ∨ (E = "java/lang/IndexOutOfBoundsException" ∧ Q 2 a1 o od) ∨ (E = "java/lang/IllegalStateException" ∧ Q 3 a1 o od))) : M_L_valueFloat v1 v2 a b o od Q := by
  refine cl_entry (lv := fun ad => [(0, .ref (ad 0)), (1, .int v1), (2, .int v2), (3, .ref (ad 122))]) (by decide +kernel) rfl (fun _ => rfl) (fun _ => Nat.le_of_ble_eq_true rfl) ?_
  intro p l e s m args below meth c D cy ad hY
  have hC := hY.1
  refine ga_aload_n hC dL_valueFloat_0 3 rfl rfl ?_
  refine ga_iconst (v := 0) hC dL_valueFloat_1 (by decide) ?_
  refine ga_aload_n hC dL_valueFloat_2 0 rfl rfl ?_
  refine ga_iload_n hC dL_valueFloat_3 1 rfl rfl ?_
  refine ga_iload_n hC dL_valueFloat_4 2 rfl rfl ?_
  refine gl_callX (As := [.int v1, .int v2]) (st := [.int 0, .ref (ad 122)]) (n := 2) (hs := [("java/lang/IllegalArgumentException", 13, 13), ("java/lang/IndexOutOfBoundsException", 17, 21), ("java/lang/IllegalStateException", 21, 15)]) (sp := 0) (ep := 10) hY h lw_cst (cg_in4 199 (by decide +kernel) (by decide +kernel)) (cg_in4 200 (by decide +kernel) (by decide +kernel)) (cg_in4 201 (by decide +kernel) (by decide +kernel)) (cg_in1 1 (by decide +kernel) (by decide +kernel)) (cg_in4 202 (by decide +kernel) (by decide +kernel)) rfl rfl rfl (by decide +kernel) ⟨Nat.le_of_ble_eq_true rfl, Nat.le_of_ble_eq_true rfl⟩ ⟨Nat.le_of_ble_eq_true rfl, Nat.le_of_ble_eq_true rfl⟩ rfl rfl (Nat.le_of_ble_eq_true rfl) dL_valueFloat_5 rfl ⟨by decide, by decide⟩ (List.forall_mem_cons.mpr ⟨⟨by decide, by decide, (cg_in3 117 (by decide +kernel) (by decide +kernel))⟩, (List.forall_mem_cons.mpr ⟨⟨by decide, by decide, (cg_in3 221 (by decide +kernel) (by decide +kernel))⟩, (List.forall_mem_cons.mpr ⟨⟨by decide, by decide, (cg_in3 118 (by decide +kernel) (by decide +kernel))⟩, fun _ h => absurd h List.not_mem_nil⟩)⟩)⟩) (fun E a1 hx => ?_) (fun v a1 hq => ?_)
  · rcases hx with ⟨rfl, hx⟩ | ⟨rfl, hx⟩ | ⟨rfl, hx⟩
    · refine ⟨[], [("java/lang/IndexOutOfBoundsException", 17, 21), ("java/lang/IllegalStateException", 21, 15)], 13, 13, rfl, by decide, fun q => ?_⟩
      refine ga_astore (lv' := [(4, .ref q), (0, .ref (ad 0)), (1, .int v1), (2, .int v2), (3, .ref (ad 122))]) hC dL_valueFloat_13 (by decide) rfl ?_
      refine ga_iconst (v := 1) hC dL_valueFloat_15 (by decide) ?_
      exact gx_iret hC dL_valueFloat_16 ⟨Nat.le_of_ble_eq_true rfl, Nat.le_of_ble_eq_true rfl⟩ ⟨_, _, _, _, rfl, rfl, hx⟩
    · refine ⟨[("java/lang/IllegalArgumentException", 13, 13)], [("java/lang/IllegalStateException", 21, 15)], 17, 21, rfl, by decide, fun q => ?_⟩
      refine ga_astore (lv' := [(4, .ref q), (0, .ref (ad 0)), (1, .int v1), (2, .int v2), (3, .ref (ad 122))]) hC dL_valueFloat_17 (by decide) rfl ?_
      refine ga_iconst (v := 2) hC dL_valueFloat_19 (by decide) ?_
      exact gx_iret hC dL_valueFloat_20 ⟨Nat.le_of_ble_eq_true rfl, Nat.le_of_ble_eq_true rfl⟩ ⟨_, _, _, _, rfl, rfl, hx⟩
    · refine ⟨[("java/lang/IllegalArgumentException", 13, 13), ("java/lang/IndexOutOfBoundsException", 17, 21)], [], 21, 15, rfl, by decide, fun q => ?_⟩
      refine ga_astore (lv' := [(4, .ref q), (0, .ref (ad 0)), (1, .int v1), (2, .int v2), (3, .ref (ad 122))]) hC dL_valueFloat_21 (by decide) rfl ?_
      refine ga_iconst (v := 3) hC dL_valueFloat_23 (by decide) ?_
      exact gx_iret hC dL_valueFloat_24 ⟨Nat.le_of_ble_eq_true rfl, Nat.le_of_ble_eq_true rfl⟩ ⟨_, _, _, _, rfl, rfl, hx⟩
  · obtain ⟨r, rfl, h⟩ := hq
    refine ga_f2d hC dL_valueFloat_8 h.1 ?_
    refine ga_dast (k := 122) (n := 1) hC (fun _ => rfl) (by decide) lw_in0 dL_valueFloat_9 ?_
    rw [jn_d']
    refine ga_goto (tgt := 25) hC dL_valueFloat_10 (by decide) ?_
    refine ga_iconst (v := 0) hC dL_valueFloat_25 (by decide) ?_
    exact gx_iret hC dL_valueFloat_26 ⟨Nat.le_of_ble_eq_true rfl, Nat.le_of_ble_eq_true rfl⟩ ⟨_, _, _, _, rfl, rfl, h.2⟩
def M_L_restFloat (v1 : Int32) (v2 : Int32) (a b : cg_S) (o : Nat → Int64) (od : Nat → UInt64) (Q : Int32 → cg_S → (Nat → Int64) → (Nat → UInt64) → Prop) : Prop := cl_M yL_restFloat cL_restFloat 5 [(0, 10, 13, 13), (0, 10, 17, 21), (0, 10, 21, 15)] (cg_RX 7 3) 3 18 (fun ad => [.ref (ad 0), .int v1, .int v2, .ref (ad 122)]) (jn a b o od) (fun _ v τ => ∃ (k : Int32) (a1 : cg_S) (o1 : Nat → Int64) (od1 : Nat → UInt64), v = some (.int k) ∧ τ = jn a1 b o1 od1 ∧ Q k a1 o1 od1)
set_option maxRecDepth 100000 in
set_option maxHeartbeats 4000000 in
theorem w_restFloat {v1 v2 : Int32} {a b : cg_S} {o : Nat → Int64} {od : Nat → UInt64} {Q : Int32 → cg_S → (Nat → Int64) → (Nat → UInt64) → Prop}
    (h : M_X11_restFloat v1 v2 a (fun r a1 => vf_n64 (FP.f2d r) ∧ Q 0 a1 o (vf_upd od 0 (FP.f2d r))) (fun E a1 => (E = "java/lang/IllegalArgumentException" ∧ Q 1 a1 o od) ∨ (E = "java/lang/IndexOutOfBoundsException" ∧ Q 2 a1 o od) ∨ (E = "java/lang/IllegalStateException" ∧ Q 3 a1 o od))) : M_L_restFloat v1 v2 a b o od Q := by
  refine cl_entry (lv := fun ad => [(0, .ref (ad 0)), (1, .int v1), (2, .int v2), (3, .ref (ad 122))]) (by decide +kernel) rfl (fun _ => rfl) (fun _ => Nat.le_of_ble_eq_true rfl) ?_
  intro p l e s m args below meth c D cy ad hY
  have hC := hY.1
  refine ga_aload_n hC dL_restFloat_0 3 rfl rfl ?_
  refine ga_iconst (v := 0) hC dL_restFloat_1 (by decide) ?_
  refine ga_aload_n hC dL_restFloat_2 0 rfl rfl ?_
  refine ga_iload_n hC dL_restFloat_3 1 rfl rfl ?_
  refine ga_iload_n hC dL_restFloat_4 2 rfl rfl ?_
  refine gl_callX (As := [.int v1, .int v2]) (st := [.int 0, .ref (ad 122)]) (n := 2) (hs := [("java/lang/IllegalArgumentException", 13, 13), ("java/lang/IndexOutOfBoundsException", 17, 21), ("java/lang/IllegalStateException", 21, 15)]) (sp := 0) (ep := 10) hY h lw_cst (cg_in4 209 (by decide +kernel) (by decide +kernel)) (cg_in4 210 (by decide +kernel) (by decide +kernel)) (cg_in4 211 (by decide +kernel) (by decide +kernel)) (cg_in1 1 (by decide +kernel) (by decide +kernel)) (cg_in4 212 (by decide +kernel) (by decide +kernel)) rfl rfl rfl (by decide +kernel) ⟨Nat.le_of_ble_eq_true rfl, Nat.le_of_ble_eq_true rfl⟩ ⟨Nat.le_of_ble_eq_true rfl, Nat.le_of_ble_eq_true rfl⟩ rfl rfl (Nat.le_of_ble_eq_true rfl) dL_restFloat_5 rfl ⟨by decide, by decide⟩ (List.forall_mem_cons.mpr ⟨⟨by decide, by decide, (cg_in3 117 (by decide +kernel) (by decide +kernel))⟩, (List.forall_mem_cons.mpr ⟨⟨by decide, by decide, (cg_in3 221 (by decide +kernel) (by decide +kernel))⟩, (List.forall_mem_cons.mpr ⟨⟨by decide, by decide, (cg_in3 118 (by decide +kernel) (by decide +kernel))⟩, fun _ h => absurd h List.not_mem_nil⟩)⟩)⟩) (fun E a1 hx => ?_) (fun v a1 hq => ?_)
  · rcases hx with ⟨rfl, hx⟩ | ⟨rfl, hx⟩ | ⟨rfl, hx⟩
    · refine ⟨[], [("java/lang/IndexOutOfBoundsException", 17, 21), ("java/lang/IllegalStateException", 21, 15)], 13, 13, rfl, by decide, fun q => ?_⟩
      refine ga_astore (lv' := [(4, .ref q), (0, .ref (ad 0)), (1, .int v1), (2, .int v2), (3, .ref (ad 122))]) hC dL_restFloat_13 (by decide) rfl ?_
      refine ga_iconst (v := 1) hC dL_restFloat_15 (by decide) ?_
      exact gx_iret hC dL_restFloat_16 ⟨Nat.le_of_ble_eq_true rfl, Nat.le_of_ble_eq_true rfl⟩ ⟨_, _, _, _, rfl, rfl, hx⟩
    · refine ⟨[("java/lang/IllegalArgumentException", 13, 13)], [("java/lang/IllegalStateException", 21, 15)], 17, 21, rfl, by decide, fun q => ?_⟩
      refine ga_astore (lv' := [(4, .ref q), (0, .ref (ad 0)), (1, .int v1), (2, .int v2), (3, .ref (ad 122))]) hC dL_restFloat_17 (by decide) rfl ?_
      refine ga_iconst (v := 2) hC dL_restFloat_19 (by decide) ?_
      exact gx_iret hC dL_restFloat_20 ⟨Nat.le_of_ble_eq_true rfl, Nat.le_of_ble_eq_true rfl⟩ ⟨_, _, _, _, rfl, rfl, hx⟩
    · refine ⟨[("java/lang/IllegalArgumentException", 13, 13), ("java/lang/IndexOutOfBoundsException", 17, 21)], [], 21, 15, rfl, by decide, fun q => ?_⟩
      refine ga_astore (lv' := [(4, .ref q), (0, .ref (ad 0)), (1, .int v1), (2, .int v2), (3, .ref (ad 122))]) hC dL_restFloat_21 (by decide) rfl ?_
      refine ga_iconst (v := 3) hC dL_restFloat_23 (by decide) ?_
      exact gx_iret hC dL_restFloat_24 ⟨Nat.le_of_ble_eq_true rfl, Nat.le_of_ble_eq_true rfl⟩ ⟨_, _, _, _, rfl, rfl, hx⟩
  · obtain ⟨r, rfl, h⟩ := hq
    refine ga_f2d hC dL_restFloat_8 h.1 ?_
    refine ga_dast (k := 122) (n := 1) hC (fun _ => rfl) (by decide) lw_in0 dL_restFloat_9 ?_
    rw [jn_d']
    refine ga_goto (tgt := 25) hC dL_restFloat_10 (by decide) ?_
    refine ga_iconst (v := 0) hC dL_restFloat_25 (by decide) ?_
    exact gx_iret hC dL_restFloat_26 ⟨Nat.le_of_ble_eq_true rfl, Nat.le_of_ble_eq_true rfl⟩ ⟨_, _, _, _, rfl, rfl, h.2⟩
def M_L_rounded (v1 : Int32) (v2 : Int32) (a b : cg_S) (o : Nat → Int64) (od : Nat → UInt64) (Q : Int32 → cg_S → (Nat → Int64) → (Nat → UInt64) → Prop) : Prop := cl_M yL_rounded cL_rounded 5 [(0, 9, 12, 13), (0, 9, 16, 21), (0, 9, 20, 15)] (cg_RX 7 3) 3 18 (fun ad => [.ref (ad 0), .int v1, .int v2, .ref (ad 121)]) (jn a b o od) (fun _ v τ => ∃ (k : Int32) (a1 : cg_S) (o1 : Nat → Int64) (od1 : Nat → UInt64), v = some (.int k) ∧ τ = jn a1 b o1 od1 ∧ Q k a1 o1 od1)
set_option maxRecDepth 100000 in
set_option maxHeartbeats 4000000 in
theorem w_rounded {v1 v2 : Int32} {a b : cg_S} {o : Nat → Int64} {od : Nat → UInt64} {Q : Int32 → cg_S → (Nat → Int64) → (Nat → UInt64) → Prop}
    (h : M_X11_rounded v1 v2 a (fun r a1 => Q 0 a1 (vp_updL o 0 r) od) (fun E a1 => (E = "java/lang/IllegalArgumentException" ∧ Q 1 a1 o od) ∨ (E = "java/lang/IndexOutOfBoundsException" ∧ Q 2 a1 o od) ∨ (E = "java/lang/IllegalStateException" ∧ Q 3 a1 o od))) : M_L_rounded v1 v2 a b o od Q := by
  refine cl_entry (lv := fun ad => [(0, .ref (ad 0)), (1, .int v1), (2, .int v2), (3, .ref (ad 121))]) (by decide +kernel) rfl (fun _ => rfl) (fun _ => Nat.le_of_ble_eq_true rfl) ?_
  intro p l e s m args below meth c D cy ad hY
  have hC := hY.1
  refine ga_aload_n hC dL_rounded_0 3 rfl rfl ?_
  refine ga_iconst (v := 0) hC dL_rounded_1 (by decide) ?_
  refine ga_aload_n hC dL_rounded_2 0 rfl rfl ?_
  refine ga_iload_n hC dL_rounded_3 1 rfl rfl ?_
  refine ga_iload_n hC dL_rounded_4 2 rfl rfl ?_
  refine gl_callX (As := [.int v1, .int v2]) (st := [.int 0, .ref (ad 121)]) (n := 2) (hs := [("java/lang/IllegalArgumentException", 12, 13), ("java/lang/IndexOutOfBoundsException", 16, 21), ("java/lang/IllegalStateException", 20, 15)]) (sp := 0) (ep := 9) hY h lw_cst (cg_in4 220 (by decide +kernel) (by decide +kernel)) (cg_in4 221 (by decide +kernel) (by decide +kernel)) (cg_in4 222 (by decide +kernel) (by decide +kernel)) (cg_in1 1 (by decide +kernel) (by decide +kernel)) (cg_in4 223 (by decide +kernel) (by decide +kernel)) rfl rfl rfl (by decide +kernel) ⟨Nat.le_of_ble_eq_true rfl, Nat.le_of_ble_eq_true rfl⟩ ⟨Nat.le_of_ble_eq_true rfl, Nat.le_of_ble_eq_true rfl⟩ rfl rfl (Nat.le_of_ble_eq_true rfl) dL_rounded_5 rfl ⟨by decide, by decide⟩ (List.forall_mem_cons.mpr ⟨⟨by decide, by decide, (cg_in3 117 (by decide +kernel) (by decide +kernel))⟩, (List.forall_mem_cons.mpr ⟨⟨by decide, by decide, (cg_in3 221 (by decide +kernel) (by decide +kernel))⟩, (List.forall_mem_cons.mpr ⟨⟨by decide, by decide, (cg_in3 118 (by decide +kernel) (by decide +kernel))⟩, fun _ h => absurd h List.not_mem_nil⟩)⟩)⟩) (fun E a1 hx => ?_) (fun v a1 hq => ?_)
  · rcases hx with ⟨rfl, hx⟩ | ⟨rfl, hx⟩ | ⟨rfl, hx⟩
    · refine ⟨[], [("java/lang/IndexOutOfBoundsException", 16, 21), ("java/lang/IllegalStateException", 20, 15)], 12, 13, rfl, by decide, fun q => ?_⟩
      refine ga_astore (lv' := [(4, .ref q), (0, .ref (ad 0)), (1, .int v1), (2, .int v2), (3, .ref (ad 121))]) hC dL_rounded_12 (by decide) rfl ?_
      refine ga_iconst (v := 1) hC dL_rounded_14 (by decide) ?_
      exact gx_iret hC dL_rounded_15 ⟨Nat.le_of_ble_eq_true rfl, Nat.le_of_ble_eq_true rfl⟩ ⟨_, _, _, _, rfl, rfl, hx⟩
    · refine ⟨[("java/lang/IllegalArgumentException", 12, 13)], [("java/lang/IllegalStateException", 20, 15)], 16, 21, rfl, by decide, fun q => ?_⟩
      refine ga_astore (lv' := [(4, .ref q), (0, .ref (ad 0)), (1, .int v1), (2, .int v2), (3, .ref (ad 121))]) hC dL_rounded_16 (by decide) rfl ?_
      refine ga_iconst (v := 2) hC dL_rounded_18 (by decide) ?_
      exact gx_iret hC dL_rounded_19 ⟨Nat.le_of_ble_eq_true rfl, Nat.le_of_ble_eq_true rfl⟩ ⟨_, _, _, _, rfl, rfl, hx⟩
    · refine ⟨[("java/lang/IllegalArgumentException", 12, 13), ("java/lang/IndexOutOfBoundsException", 16, 21)], [], 20, 15, rfl, by decide, fun q => ?_⟩
      refine ga_astore (lv' := [(4, .ref q), (0, .ref (ad 0)), (1, .int v1), (2, .int v2), (3, .ref (ad 121))]) hC dL_rounded_20 (by decide) rfl ?_
      refine ga_iconst (v := 3) hC dL_rounded_22 (by decide) ?_
      exact gx_iret hC dL_rounded_23 ⟨Nat.le_of_ble_eq_true rfl, Nat.le_of_ble_eq_true rfl⟩ ⟨_, _, _, _, rfl, rfl, hx⟩
  · obtain ⟨r, rfl, h⟩ := hq
    refine ga_last (k := 121) (n := 1) hC (fun _ => rfl) (by decide) lw_in0 dL_rounded_8 ?_
    rw [jn_l]
    refine ga_goto (tgt := 24) hC dL_rounded_9 (by decide) ?_
    refine ga_iconst (v := 0) hC dL_rounded_24 (by decide) ?_
    exact gx_iret hC dL_rounded_25 ⟨Nat.le_of_ble_eq_true rfl, Nat.le_of_ble_eq_true rfl⟩ ⟨_, _, _, _, rfl, rfl, h⟩
def M_L_bound (v1 : Int32) (v2 : Int32) (a b : cg_S) (o : Nat → Int64) (od : Nat → UInt64) (Q : Int32 → cg_S → (Nat → Int64) → (Nat → UInt64) → Prop) : Prop := cl_M yL_bound cL_bound 5 [(0, 9, 12, 21), (0, 9, 16, 13), (0, 9, 20, 15)] (cg_RX 4 3) 3 18 (fun ad => [.ref (ad 0), .int v1, .int v2, .ref (ad 122)]) (jn a b o od) (fun _ v τ => ∃ (k : Int32) (a1 : cg_S) (o1 : Nat → Int64) (od1 : Nat → UInt64), v = some (.int k) ∧ τ = jn a1 b o1 od1 ∧ Q k a1 o1 od1)
set_option maxRecDepth 100000 in
set_option maxHeartbeats 4000000 in
theorem w_bound {v1 v2 : Int32} {a b : cg_S} {o : Nat → Int64} {od : Nat → UInt64} {Q : Int32 → cg_S → (Nat → Int64) → (Nat → UInt64) → Prop}
    (h : M_X11_bound v1 v2 a (fun r a1 => Q 0 a1 o (vf_upd od 0 r)) (fun E a1 => (E = "java/lang/IndexOutOfBoundsException" ∧ Q 1 a1 o od) ∨ (E = "java/lang/IllegalArgumentException" ∧ Q 2 a1 o od) ∨ (E = "java/lang/IllegalStateException" ∧ Q 3 a1 o od))) : M_L_bound v1 v2 a b o od Q := by
  refine cl_entry (lv := fun ad => [(0, .ref (ad 0)), (1, .int v1), (2, .int v2), (3, .ref (ad 122))]) (by decide +kernel) rfl (fun _ => rfl) (fun _ => Nat.le_of_ble_eq_true rfl) ?_
  intro p l e s m args below meth c D cy ad hY
  have hC := hY.1
  refine ga_aload_n hC dL_bound_0 3 rfl rfl ?_
  refine ga_iconst (v := 0) hC dL_bound_1 (by decide) ?_
  refine ga_aload_n hC dL_bound_2 0 rfl rfl ?_
  refine ga_iload_n hC dL_bound_3 1 rfl rfl ?_
  refine ga_iload_n hC dL_bound_4 2 rfl rfl ?_
  refine gl_callX (As := [.int v1, .int v2]) (st := [.int 0, .ref (ad 122)]) (n := 2) (hs := [("java/lang/IndexOutOfBoundsException", 12, 21), ("java/lang/IllegalArgumentException", 16, 13), ("java/lang/IllegalStateException", 20, 15)]) (sp := 0) (ep := 9) hY h lw_cst (cg_in4 231 (by decide +kernel) (by decide +kernel)) (cg_in4 232 (by decide +kernel) (by decide +kernel)) (cg_in4 233 (by decide +kernel) (by decide +kernel)) (cg_in1 1 (by decide +kernel) (by decide +kernel)) (cg_in4 234 (by decide +kernel) (by decide +kernel)) rfl rfl rfl (by decide +kernel) ⟨Nat.le_of_ble_eq_true rfl, Nat.le_of_ble_eq_true rfl⟩ ⟨Nat.le_of_ble_eq_true rfl, Nat.le_of_ble_eq_true rfl⟩ rfl rfl (Nat.le_of_ble_eq_true rfl) dL_bound_5 rfl ⟨by decide, by decide⟩ (List.forall_mem_cons.mpr ⟨⟨by decide, by decide, (cg_in3 221 (by decide +kernel) (by decide +kernel))⟩, (List.forall_mem_cons.mpr ⟨⟨by decide, by decide, (cg_in3 117 (by decide +kernel) (by decide +kernel))⟩, (List.forall_mem_cons.mpr ⟨⟨by decide, by decide, (cg_in3 118 (by decide +kernel) (by decide +kernel))⟩, fun _ h => absurd h List.not_mem_nil⟩)⟩)⟩) (fun E a1 hx => ?_) (fun v a1 hq => ?_)
  · rcases hx with ⟨rfl, hx⟩ | ⟨rfl, hx⟩ | ⟨rfl, hx⟩
    · refine ⟨[], [("java/lang/IllegalArgumentException", 16, 13), ("java/lang/IllegalStateException", 20, 15)], 12, 21, rfl, by decide, fun q => ?_⟩
      refine ga_astore (lv' := [(4, .ref q), (0, .ref (ad 0)), (1, .int v1), (2, .int v2), (3, .ref (ad 122))]) hC dL_bound_12 (by decide) rfl ?_
      refine ga_iconst (v := 1) hC dL_bound_14 (by decide) ?_
      exact gx_iret hC dL_bound_15 ⟨Nat.le_of_ble_eq_true rfl, Nat.le_of_ble_eq_true rfl⟩ ⟨_, _, _, _, rfl, rfl, hx⟩
    · refine ⟨[("java/lang/IndexOutOfBoundsException", 12, 21)], [("java/lang/IllegalStateException", 20, 15)], 16, 13, rfl, by decide, fun q => ?_⟩
      refine ga_astore (lv' := [(4, .ref q), (0, .ref (ad 0)), (1, .int v1), (2, .int v2), (3, .ref (ad 122))]) hC dL_bound_16 (by decide) rfl ?_
      refine ga_iconst (v := 2) hC dL_bound_18 (by decide) ?_
      exact gx_iret hC dL_bound_19 ⟨Nat.le_of_ble_eq_true rfl, Nat.le_of_ble_eq_true rfl⟩ ⟨_, _, _, _, rfl, rfl, hx⟩
    · refine ⟨[("java/lang/IndexOutOfBoundsException", 12, 21), ("java/lang/IllegalArgumentException", 16, 13)], [], 20, 15, rfl, by decide, fun q => ?_⟩
      refine ga_astore (lv' := [(4, .ref q), (0, .ref (ad 0)), (1, .int v1), (2, .int v2), (3, .ref (ad 122))]) hC dL_bound_20 (by decide) rfl ?_
      refine ga_iconst (v := 3) hC dL_bound_22 (by decide) ?_
      exact gx_iret hC dL_bound_23 ⟨Nat.le_of_ble_eq_true rfl, Nat.le_of_ble_eq_true rfl⟩ ⟨_, _, _, _, rfl, rfl, hx⟩
  · obtain ⟨r, rfl, h⟩ := hq
    refine ga_dast (k := 122) (n := 1) hC (fun _ => rfl) (by decide) lw_in0 dL_bound_8 ?_
    rw [jn_d']
    refine ga_goto (tgt := 24) hC dL_bound_9 (by decide) ?_
    refine ga_iconst (v := 0) hC dL_bound_24 (by decide) ?_
    exact gx_iret hC dL_bound_25 ⟨Nat.le_of_ble_eq_true rfl, Nat.le_of_ble_eq_true rfl⟩ ⟨_, _, _, _, rfl, rfl, h⟩
def M_L_isZero (v1 : Int32) (a b : cg_S) (o : Nat → Int64) (od : Nat → UInt64) (Q : Int32 → cg_S → (Nat → Int64) → (Nat → UInt64) → Prop) : Prop := cl_M yL_isZero cL_isZero 4 [(0, 16, 19, 21), (0, 16, 22, 15)] (cg_RX 5 2) 2 12 (fun ad => [.ref (ad 0), .int v1, .ref (ad 121)]) (jn a b o od) (fun _ v τ => ∃ (k : Int32) (a1 : cg_S) (o1 : Nat → Int64) (od1 : Nat → UInt64), v = some (.int k) ∧ τ = jn a1 b o1 od1 ∧ Q k a1 o1 od1)
set_option maxRecDepth 100000 in
set_option maxHeartbeats 4000000 in
theorem w_isZero {v1 : Int32} {a b : cg_S} {o : Nat → Int64} {od : Nat → UInt64} {Q : Int32 → cg_S → (Nat → Int64) → (Nat → UInt64) → Prop}
    (h : M_X11_isZero v1 a (fun r a1 => (r = 0 → Q 0 a1 (vp_updL o 0 0) od) ∧ (¬ r = 0 → Q 0 a1 (vp_updL o 0 1) od)) (fun E a1 => (E = "java/lang/IndexOutOfBoundsException" ∧ Q 1 a1 o od) ∨ (E = "java/lang/IllegalStateException" ∧ Q 2 a1 o od))) : M_L_isZero v1 a b o od Q := by
  refine cl_entry (lv := fun ad => [(0, .ref (ad 0)), (1, .int v1), (2, .ref (ad 121))]) (by decide +kernel) rfl (fun _ => rfl) (fun _ => Nat.le_of_ble_eq_true rfl) ?_
  intro p l e s m args below meth c D cy ad hY
  have hC := hY.1
  refine ga_aload_n hC dL_isZero_0 2 rfl rfl ?_
  refine ga_iconst (v := 0) hC dL_isZero_1 (by decide) ?_
  refine ga_aload_n hC dL_isZero_2 0 rfl rfl ?_
  refine ga_iload_n hC dL_isZero_3 1 rfl rfl ?_
  refine gl_callX (As := [.int v1]) (st := [.int 0, .ref (ad 121)]) (n := 1) (hs := [("java/lang/IndexOutOfBoundsException", 19, 21), ("java/lang/IllegalStateException", 22, 15)]) (sp := 0) (ep := 16) hY h lw_cst (cg_in5 12 (by decide +kernel) (by decide +kernel)) (cg_in5 13 (by decide +kernel) (by decide +kernel)) (cg_in5 14 (by decide +kernel) (by decide +kernel)) (cg_in1 1 (by decide +kernel) (by decide +kernel)) (cg_in5 15 (by decide +kernel) (by decide +kernel)) rfl rfl rfl (by decide +kernel) ⟨Nat.le_of_ble_eq_true rfl, Nat.le_of_ble_eq_true rfl⟩ ⟨Nat.le_of_ble_eq_true rfl, Nat.le_of_ble_eq_true rfl⟩ rfl rfl (Nat.le_of_ble_eq_true rfl) dL_isZero_4 rfl ⟨by decide, by decide⟩ (List.forall_mem_cons.mpr ⟨⟨by decide, by decide, (cg_in3 221 (by decide +kernel) (by decide +kernel))⟩, (List.forall_mem_cons.mpr ⟨⟨by decide, by decide, (cg_in3 118 (by decide +kernel) (by decide +kernel))⟩, fun _ h => absurd h List.not_mem_nil⟩)⟩) (fun E a1 hx => ?_) (fun v a1 hq => ?_)
  · rcases hx with ⟨rfl, hx⟩ | ⟨rfl, hx⟩
    · refine ⟨[], [("java/lang/IllegalStateException", 22, 15)], 19, 21, rfl, by decide, fun q => ?_⟩
      refine ga_astore_n (lv' := [(3, .ref q), (0, .ref (ad 0)), (1, .int v1), (2, .ref (ad 121))]) hC dL_isZero_19 rfl (by decide) rfl ?_
      refine ga_iconst (v := 1) hC dL_isZero_20 (by decide) ?_
      exact gx_iret hC dL_isZero_21 ⟨Nat.le_of_ble_eq_true rfl, Nat.le_of_ble_eq_true rfl⟩ ⟨_, _, _, _, rfl, rfl, hx⟩
    · refine ⟨[("java/lang/IndexOutOfBoundsException", 19, 21)], [], 22, 15, rfl, by decide, fun q => ?_⟩
      refine ga_astore_n (lv' := [(3, .ref q), (0, .ref (ad 0)), (1, .int v1), (2, .ref (ad 121))]) hC dL_isZero_22 rfl (by decide) rfl ?_
      refine ga_iconst (v := 2) hC dL_isZero_23 (by decide) ?_
      exact gx_iret hC dL_isZero_24 ⟨Nat.le_of_ble_eq_true rfl, Nat.le_of_ble_eq_true rfl⟩ ⟨_, _, _, _, rfl, rfl, hx⟩
  · obtain ⟨r, rfl, h⟩ := hq
    refine ga_if_eq (tgt := 14) hC dL_isZero_7 (by decide) (fun hc => ?_) (fun hc => ?_)
    · have h := h.1 hc
      refine ga_lconst (v := 0) hC dL_isZero_14 (by decide) ?_
      refine ga_last (k := 121) (n := 1) hC (fun _ => rfl) (by decide) lw_in0 dL_isZero_15 ?_
      rw [jn_l]
      refine ga_goto (tgt := 25) hC dL_isZero_16 (by decide) ?_
      refine ga_iconst (v := 0) hC dL_isZero_25 (by decide) ?_
      exact gx_iret hC dL_isZero_26 ⟨Nat.le_of_ble_eq_true rfl, Nat.le_of_ble_eq_true rfl⟩ ⟨_, _, _, _, rfl, rfl, h⟩
    · have h := h.2 hc
      refine ga_lconst (v := 1) hC dL_isZero_10 (by decide) ?_
      refine ga_goto (tgt := 15) hC dL_isZero_11 (by decide) ?_
      refine ga_last (k := 121) (n := 1) hC (fun _ => rfl) (by decide) lw_in0 dL_isZero_15 ?_
      rw [jn_l]
      refine ga_goto (tgt := 25) hC dL_isZero_16 (by decide) ?_
      refine ga_iconst (v := 0) hC dL_isZero_25 (by decide) ?_
      exact gx_iret hC dL_isZero_26 ⟨Nat.le_of_ble_eq_true rfl, Nat.le_of_ble_eq_true rfl⟩ ⟨_, _, _, _, rfl, rfl, h⟩
def M_L_isOne (v1 : Int32) (a b : cg_S) (o : Nat → Int64) (od : Nat → UInt64) (Q : Int32 → cg_S → (Nat → Int64) → (Nat → UInt64) → Prop) : Prop := cl_M yL_isOne cL_isOne 4 [(0, 16, 19, 21), (0, 16, 22, 15)] (cg_RX 5 2) 2 12 (fun ad => [.ref (ad 0), .int v1, .ref (ad 121)]) (jn a b o od) (fun _ v τ => ∃ (k : Int32) (a1 : cg_S) (o1 : Nat → Int64) (od1 : Nat → UInt64), v = some (.int k) ∧ τ = jn a1 b o1 od1 ∧ Q k a1 o1 od1)
set_option maxRecDepth 100000 in
set_option maxHeartbeats 4000000 in
theorem w_isOne {v1 : Int32} {a b : cg_S} {o : Nat → Int64} {od : Nat → UInt64} {Q : Int32 → cg_S → (Nat → Int64) → (Nat → UInt64) → Prop}
    (h : M_X11_isOne v1 a (fun r a1 => (r = 0 → Q 0 a1 (vp_updL o 0 0) od) ∧ (¬ r = 0 → Q 0 a1 (vp_updL o 0 1) od)) (fun E a1 => (E = "java/lang/IndexOutOfBoundsException" ∧ Q 1 a1 o od) ∨ (E = "java/lang/IllegalStateException" ∧ Q 2 a1 o od))) : M_L_isOne v1 a b o od Q := by
  refine cl_entry (lv := fun ad => [(0, .ref (ad 0)), (1, .int v1), (2, .ref (ad 121))]) (by decide +kernel) rfl (fun _ => rfl) (fun _ => Nat.le_of_ble_eq_true rfl) ?_
  intro p l e s m args below meth c D cy ad hY
  have hC := hY.1
  refine ga_aload_n hC dL_isOne_0 2 rfl rfl ?_
  refine ga_iconst (v := 0) hC dL_isOne_1 (by decide) ?_
  refine ga_aload_n hC dL_isOne_2 0 rfl rfl ?_
  refine ga_iload_n hC dL_isOne_3 1 rfl rfl ?_
  refine gl_callX (As := [.int v1]) (st := [.int 0, .ref (ad 121)]) (n := 1) (hs := [("java/lang/IndexOutOfBoundsException", 19, 21), ("java/lang/IllegalStateException", 22, 15)]) (sp := 0) (ep := 16) hY h lw_cst (cg_in5 19 (by decide +kernel) (by decide +kernel)) (cg_in5 20 (by decide +kernel) (by decide +kernel)) (cg_in5 21 (by decide +kernel) (by decide +kernel)) (cg_in1 1 (by decide +kernel) (by decide +kernel)) (cg_in5 22 (by decide +kernel) (by decide +kernel)) rfl rfl rfl (by decide +kernel) ⟨Nat.le_of_ble_eq_true rfl, Nat.le_of_ble_eq_true rfl⟩ ⟨Nat.le_of_ble_eq_true rfl, Nat.le_of_ble_eq_true rfl⟩ rfl rfl (Nat.le_of_ble_eq_true rfl) dL_isOne_4 rfl ⟨by decide, by decide⟩ (List.forall_mem_cons.mpr ⟨⟨by decide, by decide, (cg_in3 221 (by decide +kernel) (by decide +kernel))⟩, (List.forall_mem_cons.mpr ⟨⟨by decide, by decide, (cg_in3 118 (by decide +kernel) (by decide +kernel))⟩, fun _ h => absurd h List.not_mem_nil⟩)⟩) (fun E a1 hx => ?_) (fun v a1 hq => ?_)
  · rcases hx with ⟨rfl, hx⟩ | ⟨rfl, hx⟩
    · refine ⟨[], [("java/lang/IllegalStateException", 22, 15)], 19, 21, rfl, by decide, fun q => ?_⟩
      refine ga_astore_n (lv' := [(3, .ref q), (0, .ref (ad 0)), (1, .int v1), (2, .ref (ad 121))]) hC dL_isOne_19 rfl (by decide) rfl ?_
      refine ga_iconst (v := 1) hC dL_isOne_20 (by decide) ?_
      exact gx_iret hC dL_isOne_21 ⟨Nat.le_of_ble_eq_true rfl, Nat.le_of_ble_eq_true rfl⟩ ⟨_, _, _, _, rfl, rfl, hx⟩
    · refine ⟨[("java/lang/IndexOutOfBoundsException", 19, 21)], [], 22, 15, rfl, by decide, fun q => ?_⟩
      refine ga_astore_n (lv' := [(3, .ref q), (0, .ref (ad 0)), (1, .int v1), (2, .ref (ad 121))]) hC dL_isOne_22 rfl (by decide) rfl ?_
      refine ga_iconst (v := 2) hC dL_isOne_23 (by decide) ?_
      exact gx_iret hC dL_isOne_24 ⟨Nat.le_of_ble_eq_true rfl, Nat.le_of_ble_eq_true rfl⟩ ⟨_, _, _, _, rfl, rfl, hx⟩
  · obtain ⟨r, rfl, h⟩ := hq
    refine ga_if_eq (tgt := 14) hC dL_isOne_7 (by decide) (fun hc => ?_) (fun hc => ?_)
    · have h := h.1 hc
      refine ga_lconst (v := 0) hC dL_isOne_14 (by decide) ?_
      refine ga_last (k := 121) (n := 1) hC (fun _ => rfl) (by decide) lw_in0 dL_isOne_15 ?_
      rw [jn_l]
      refine ga_goto (tgt := 25) hC dL_isOne_16 (by decide) ?_
      refine ga_iconst (v := 0) hC dL_isOne_25 (by decide) ?_
      exact gx_iret hC dL_isOne_26 ⟨Nat.le_of_ble_eq_true rfl, Nat.le_of_ble_eq_true rfl⟩ ⟨_, _, _, _, rfl, rfl, h⟩
    · have h := h.2 hc
      refine ga_lconst (v := 1) hC dL_isOne_10 (by decide) ?_
      refine ga_goto (tgt := 15) hC dL_isOne_11 (by decide) ?_
      refine ga_last (k := 121) (n := 1) hC (fun _ => rfl) (by decide) lw_in0 dL_isOne_15 ?_
      rw [jn_l]
      refine ga_goto (tgt := 25) hC dL_isOne_16 (by decide) ?_
      refine ga_iconst (v := 0) hC dL_isOne_25 (by decide) ?_
      exact gx_iret hC dL_isOne_26 ⟨Nat.le_of_ble_eq_true rfl, Nat.le_of_ble_eq_true rfl⟩ ⟨_, _, _, _, rfl, rfl, h⟩
def M_L_solve (v1 : Int32) (a b : cg_S) (o : Nat → Int64) (od : Nat → UInt64) (Q : Int32 → cg_S → (Nat → Int64) → (Nat → UInt64) → Prop) : Prop := cl_M yL_solve cL_solve 4 [(0, 9, 12, 13), (0, 9, 15, 15)] (cg_RX 7 2) 2 12 (fun ad => [.ref (ad 0), .int v1, .ref (ad 121)]) (jn a b o od) (fun _ v τ => ∃ (k : Int32) (a1 : cg_S) (o1 : Nat → Int64) (od1 : Nat → UInt64), v = some (.int k) ∧ τ = jn a1 b o1 od1 ∧ Q k a1 o1 od1)
set_option maxRecDepth 100000 in
set_option maxHeartbeats 4000000 in
theorem w_solve {v1 : Int32} {a b : cg_S} {o : Nat → Int64} {od : Nat → UInt64} {Q : Int32 → cg_S → (Nat → Int64) → (Nat → UInt64) → Prop}
    (h : M_X11_solve v1 a (fun r a1 => Q 0 a1 (vp_updL o 0 r.toInt64) od) (fun E a1 => (E = "java/lang/IllegalArgumentException" ∧ Q 1 a1 o od) ∨ (E = "java/lang/IllegalStateException" ∧ Q 2 a1 o od))) : M_L_solve v1 a b o od Q := by
  refine cl_entry (lv := fun ad => [(0, .ref (ad 0)), (1, .int v1), (2, .ref (ad 121))]) (by decide +kernel) rfl (fun _ => rfl) (fun _ => Nat.le_of_ble_eq_true rfl) ?_
  intro p l e s m args below meth c D cy ad hY
  have hC := hY.1
  refine ga_aload_n hC dL_solve_0 2 rfl rfl ?_
  refine ga_iconst (v := 0) hC dL_solve_1 (by decide) ?_
  refine ga_aload_n hC dL_solve_2 0 rfl rfl ?_
  refine ga_iload_n hC dL_solve_3 1 rfl rfl ?_
  refine gl_callX (As := [.int v1]) (st := [.int 0, .ref (ad 121)]) (n := 1) (hs := [("java/lang/IllegalArgumentException", 12, 13), ("java/lang/IllegalStateException", 15, 15)]) (sp := 0) (ep := 9) hY h lw_cst (cg_in5 26 (by decide +kernel) (by decide +kernel)) (cg_in5 27 (by decide +kernel) (by decide +kernel)) (cg_in5 28 (by decide +kernel) (by decide +kernel)) (cg_in1 1 (by decide +kernel) (by decide +kernel)) (cg_in5 29 (by decide +kernel) (by decide +kernel)) rfl rfl rfl (by decide +kernel) ⟨Nat.le_of_ble_eq_true rfl, Nat.le_of_ble_eq_true rfl⟩ ⟨Nat.le_of_ble_eq_true rfl, Nat.le_of_ble_eq_true rfl⟩ rfl rfl (Nat.le_of_ble_eq_true rfl) dL_solve_4 rfl ⟨by decide, by decide⟩ (List.forall_mem_cons.mpr ⟨⟨by decide, by decide, (cg_in3 117 (by decide +kernel) (by decide +kernel))⟩, (List.forall_mem_cons.mpr ⟨⟨by decide, by decide, (cg_in3 118 (by decide +kernel) (by decide +kernel))⟩, fun _ h => absurd h List.not_mem_nil⟩)⟩) (fun E a1 hx => ?_) (fun v a1 hq => ?_)
  · rcases hx with ⟨rfl, hx⟩ | ⟨rfl, hx⟩
    · refine ⟨[], [("java/lang/IllegalStateException", 15, 15)], 12, 13, rfl, by decide, fun q => ?_⟩
      refine ga_astore_n (lv' := [(3, .ref q), (0, .ref (ad 0)), (1, .int v1), (2, .ref (ad 121))]) hC dL_solve_12 rfl (by decide) rfl ?_
      refine ga_iconst (v := 1) hC dL_solve_13 (by decide) ?_
      exact gx_iret hC dL_solve_14 ⟨Nat.le_of_ble_eq_true rfl, Nat.le_of_ble_eq_true rfl⟩ ⟨_, _, _, _, rfl, rfl, hx⟩
    · refine ⟨[("java/lang/IllegalArgumentException", 12, 13)], [], 15, 15, rfl, by decide, fun q => ?_⟩
      refine ga_astore_n (lv' := [(3, .ref q), (0, .ref (ad 0)), (1, .int v1), (2, .ref (ad 121))]) hC dL_solve_15 rfl (by decide) rfl ?_
      refine ga_iconst (v := 2) hC dL_solve_16 (by decide) ?_
      exact gx_iret hC dL_solve_17 ⟨Nat.le_of_ble_eq_true rfl, Nat.le_of_ble_eq_true rfl⟩ ⟨_, _, _, _, rfl, rfl, hx⟩
  · obtain ⟨r, rfl, h⟩ := hq
    refine ga_i2l hC dL_solve_7 ?_
    refine ga_last (k := 121) (n := 1) hC (fun _ => rfl) (by decide) lw_in0 dL_solve_8 ?_
    rw [jn_l]
    refine ga_goto (tgt := 18) hC dL_solve_9 (by decide) ?_
    refine ga_iconst (v := 0) hC dL_solve_18 (by decide) ?_
    exact gx_iret hC dL_solve_19 ⟨Nat.le_of_ble_eq_true rfl, Nat.le_of_ble_eq_true rfl⟩ ⟨_, _, _, _, rfl, rfl, h⟩
def M_L_tell (v1 : Int32) (v2 : Int32) (a b : cg_S) (o : Nat → Int64) (od : Nat → UInt64) (Q : Int32 → cg_S → (Nat → Int64) → (Nat → UInt64) → Prop) : Prop := cl_M yL_tell cL_tell 5 [(0, 10, 13, 21)] (cg_RX 4 1) 1 6 (fun ad => [.ref (ad 0), .int v1, .int v2, .ref (ad 121)]) (jn a b o od) (fun _ v τ => ∃ (k : Int32) (a1 : cg_S) (o1 : Nat → Int64) (od1 : Nat → UInt64), v = some (.int k) ∧ τ = jn a1 b o1 od1 ∧ Q k a1 o1 od1)
set_option maxRecDepth 100000 in
set_option maxHeartbeats 4000000 in
theorem w_tell {v1 v2 : Int32} {a b : cg_S} {o : Nat → Int64} {od : Nat → UInt64} {Q : Int32 → cg_S → (Nat → Int64) → (Nat → UInt64) → Prop}
    (h : M_X11_tell v1 v2 a (fun r a1 => Q 0 a1 (vp_updL o 0 r.toInt64) od) (fun E a1 => (E = "java/lang/IndexOutOfBoundsException" ∧ Q 1 a1 o od))) : M_L_tell v1 v2 a b o od Q := by
  refine cl_entry (lv := fun ad => [(0, .ref (ad 0)), (1, .int v1), (2, .int v2), (3, .ref (ad 121))]) (by decide +kernel) rfl (fun _ => rfl) (fun _ => Nat.le_of_ble_eq_true rfl) ?_
  intro p l e s m args below meth c D cy ad hY
  have hC := hY.1
  refine ga_aload_n hC dL_tell_0 3 rfl rfl ?_
  refine ga_iconst (v := 0) hC dL_tell_1 (by decide) ?_
  refine ga_aload_n hC dL_tell_2 0 rfl rfl ?_
  refine ga_iload_n hC dL_tell_3 1 rfl rfl ?_
  refine ga_iload_n hC dL_tell_4 2 rfl rfl ?_
  refine gl_callX (As := [.int v1, .int v2]) (st := [.int 0, .ref (ad 121)]) (n := 2) (hs := [("java/lang/IndexOutOfBoundsException", 13, 21)]) (sp := 0) (ep := 10) hY h lw_cst (cg_in5 67 (by decide +kernel) (by decide +kernel)) (cg_in5 68 (by decide +kernel) (by decide +kernel)) (cg_in5 69 (by decide +kernel) (by decide +kernel)) (cg_in1 1 (by decide +kernel) (by decide +kernel)) (cg_in5 70 (by decide +kernel) (by decide +kernel)) rfl rfl rfl (by decide +kernel) ⟨Nat.le_of_ble_eq_true rfl, Nat.le_of_ble_eq_true rfl⟩ ⟨Nat.le_of_ble_eq_true rfl, Nat.le_of_ble_eq_true rfl⟩ rfl rfl (Nat.le_of_ble_eq_true rfl) dL_tell_5 rfl ⟨by decide, by decide⟩ (List.forall_mem_cons.mpr ⟨⟨by decide, by decide, (cg_in3 221 (by decide +kernel) (by decide +kernel))⟩, fun _ h => absurd h List.not_mem_nil⟩) (fun E a1 hx => ?_) (fun v a1 hq => ?_)
  · obtain ⟨rfl, hx⟩ := hx
    refine ⟨[], [], 13, 21, rfl, by decide, fun q => ?_⟩
    refine ga_astore (lv' := [(4, .ref q), (0, .ref (ad 0)), (1, .int v1), (2, .int v2), (3, .ref (ad 121))]) hC dL_tell_13 (by decide) rfl ?_
    refine ga_iconst (v := 1) hC dL_tell_15 (by decide) ?_
    exact gx_iret hC dL_tell_16 ⟨Nat.le_of_ble_eq_true rfl, Nat.le_of_ble_eq_true rfl⟩ ⟨_, _, _, _, rfl, rfl, hx⟩
  · obtain ⟨r, rfl, h⟩ := hq
    refine ga_i2l hC dL_tell_8 ?_
    refine ga_last (k := 121) (n := 1) hC (fun _ => rfl) (by decide) lw_in0 dL_tell_9 ?_
    rw [jn_l]
    refine ga_goto (tgt := 17) hC dL_tell_10 (by decide) ?_
    refine ga_iconst (v := 0) hC dL_tell_17 (by decide) ?_
    exact gx_iret hC dL_tell_18 ⟨Nat.le_of_ble_eq_true rfl, Nat.le_of_ble_eq_true rfl⟩ ⟨_, _, _, _, rfl, rfl, h⟩
def M_L_told (v1 : Int32) (a b : cg_S) (o : Nat → Int64) (od : Nat → UInt64) (Q : Int32 → cg_S → (Nat → Int64) → (Nat → UInt64) → Prop) : Prop := cl_M yL_told cL_told 4 [(0, 9, 12, 21)] (cg_RX 3 1) 1 6 (fun ad => [.ref (ad 0), .int v1, .ref (ad 121)]) (jn a b o od) (fun _ v τ => ∃ (k : Int32) (a1 : cg_S) (o1 : Nat → Int64) (od1 : Nat → UInt64), v = some (.int k) ∧ τ = jn a1 b o1 od1 ∧ Q k a1 o1 od1)
set_option maxRecDepth 100000 in
set_option maxHeartbeats 4000000 in
theorem w_told {v1 : Int32} {a b : cg_S} {o : Nat → Int64} {od : Nat → UInt64} {Q : Int32 → cg_S → (Nat → Int64) → (Nat → UInt64) → Prop}
    (h : M_X11_told v1 a (fun r a1 => Q 0 a1 (vp_updL o 0 r.toInt64) od) (fun E a1 => (E = "java/lang/IndexOutOfBoundsException" ∧ Q 1 a1 o od))) : M_L_told v1 a b o od Q := by
  refine cl_entry (lv := fun ad => [(0, .ref (ad 0)), (1, .int v1), (2, .ref (ad 121))]) (by decide +kernel) rfl (fun _ => rfl) (fun _ => Nat.le_of_ble_eq_true rfl) ?_
  intro p l e s m args below meth c D cy ad hY
  have hC := hY.1
  refine ga_aload_n hC dL_told_0 2 rfl rfl ?_
  refine ga_iconst (v := 0) hC dL_told_1 (by decide) ?_
  refine ga_aload_n hC dL_told_2 0 rfl rfl ?_
  refine ga_iload_n hC dL_told_3 1 rfl rfl ?_
  refine gl_callX (As := [.int v1]) (st := [.int 0, .ref (ad 121)]) (n := 1) (hs := [("java/lang/IndexOutOfBoundsException", 12, 21)]) (sp := 0) (ep := 9) hY h lw_cst (cg_in5 74 (by decide +kernel) (by decide +kernel)) (cg_in5 75 (by decide +kernel) (by decide +kernel)) (cg_in5 76 (by decide +kernel) (by decide +kernel)) (cg_in1 1 (by decide +kernel) (by decide +kernel)) (cg_in5 77 (by decide +kernel) (by decide +kernel)) rfl rfl rfl (by decide +kernel) ⟨Nat.le_of_ble_eq_true rfl, Nat.le_of_ble_eq_true rfl⟩ ⟨Nat.le_of_ble_eq_true rfl, Nat.le_of_ble_eq_true rfl⟩ rfl rfl (Nat.le_of_ble_eq_true rfl) dL_told_4 rfl ⟨by decide, by decide⟩ (List.forall_mem_cons.mpr ⟨⟨by decide, by decide, (cg_in3 221 (by decide +kernel) (by decide +kernel))⟩, fun _ h => absurd h List.not_mem_nil⟩) (fun E a1 hx => ?_) (fun v a1 hq => ?_)
  · obtain ⟨rfl, hx⟩ := hx
    refine ⟨[], [], 12, 21, rfl, by decide, fun q => ?_⟩
    refine ga_astore_n (lv' := [(3, .ref q), (0, .ref (ad 0)), (1, .int v1), (2, .ref (ad 121))]) hC dL_told_12 rfl (by decide) rfl ?_
    refine ga_iconst (v := 1) hC dL_told_13 (by decide) ?_
    exact gx_iret hC dL_told_14 ⟨Nat.le_of_ble_eq_true rfl, Nat.le_of_ble_eq_true rfl⟩ ⟨_, _, _, _, rfl, rfl, hx⟩
  · obtain ⟨r, rfl, h⟩ := hq
    refine ga_i2l hC dL_told_7 ?_
    refine ga_last (k := 121) (n := 1) hC (fun _ => rfl) (by decide) lw_in0 dL_told_8 ?_
    rw [jn_l]
    refine ga_goto (tgt := 15) hC dL_told_9 (by decide) ?_
    refine ga_iconst (v := 0) hC dL_told_15 (by decide) ?_
    exact gx_iret hC dL_told_16 ⟨Nat.le_of_ble_eq_true rfl, Nat.le_of_ble_eq_true rfl⟩ ⟨_, _, _, _, rfl, rfl, h⟩
def M_L_chainAbove (v1 : Int32) (v2 : Int32) (a b : cg_S) (o : Nat → Int64) (od : Nat → UInt64) (Q : Int32 → cg_S → (Nat → Int64) → (Nat → UInt64) → Prop) : Prop := cl_M yL_chainAbove cL_chainAbove 5 [(0, 9, 12, 13), (0, 9, 16, 21), (0, 9, 20, 15)] (cg_RX 7 3) 3 18 (fun ad => [.ref (ad 0), .int v1, .int v2, .ref (ad 121)]) (jn a b o od) (fun _ v τ => ∃ (k : Int32) (a1 : cg_S) (o1 : Nat → Int64) (od1 : Nat → UInt64), v = some (.int k) ∧ τ = jn a1 b o1 od1 ∧ Q k a1 o1 od1)
set_option maxRecDepth 100000 in
set_option maxHeartbeats 4000000 in
theorem w_chainAbove {v1 v2 : Int32} {a b : cg_S} {o : Nat → Int64} {od : Nat → UInt64} {Q : Int32 → cg_S → (Nat → Int64) → (Nat → UInt64) → Prop}
    (h : M_X11_chainAbove v1 v2 a (fun r a1 => Q 0 a1 (vp_updL o 0 r) od) (fun E a1 => (E = "java/lang/IllegalArgumentException" ∧ Q 1 a1 o od) ∨ (E = "java/lang/IndexOutOfBoundsException" ∧ Q 2 a1 o od) ∨ (E = "java/lang/IllegalStateException" ∧ Q 3 a1 o od))) : M_L_chainAbove v1 v2 a b o od Q := by
  refine cl_entry (lv := fun ad => [(0, .ref (ad 0)), (1, .int v1), (2, .int v2), (3, .ref (ad 121))]) (by decide +kernel) rfl (fun _ => rfl) (fun _ => Nat.le_of_ble_eq_true rfl) ?_
  intro p l e s m args below meth c D cy ad hY
  have hC := hY.1
  refine ga_aload_n hC dL_chainAbove_0 3 rfl rfl ?_
  refine ga_iconst (v := 0) hC dL_chainAbove_1 (by decide) ?_
  refine ga_aload_n hC dL_chainAbove_2 0 rfl rfl ?_
  refine ga_iload_n hC dL_chainAbove_3 1 rfl rfl ?_
  refine ga_iload_n hC dL_chainAbove_4 2 rfl rfl ?_
  refine gl_callX (As := [.int v1, .int v2]) (st := [.int 0, .ref (ad 121)]) (n := 2) (hs := [("java/lang/IllegalArgumentException", 12, 13), ("java/lang/IndexOutOfBoundsException", 16, 21), ("java/lang/IllegalStateException", 20, 15)]) (sp := 0) (ep := 9) hY h lw_cst (cg_in5 81 (by decide +kernel) (by decide +kernel)) (cg_in5 82 (by decide +kernel) (by decide +kernel)) (cg_in5 83 (by decide +kernel) (by decide +kernel)) (cg_in1 1 (by decide +kernel) (by decide +kernel)) (cg_in5 84 (by decide +kernel) (by decide +kernel)) rfl rfl rfl (by decide +kernel) ⟨Nat.le_of_ble_eq_true rfl, Nat.le_of_ble_eq_true rfl⟩ ⟨Nat.le_of_ble_eq_true rfl, Nat.le_of_ble_eq_true rfl⟩ rfl rfl (Nat.le_of_ble_eq_true rfl) dL_chainAbove_5 rfl ⟨by decide, by decide⟩ (List.forall_mem_cons.mpr ⟨⟨by decide, by decide, (cg_in3 117 (by decide +kernel) (by decide +kernel))⟩, (List.forall_mem_cons.mpr ⟨⟨by decide, by decide, (cg_in3 221 (by decide +kernel) (by decide +kernel))⟩, (List.forall_mem_cons.mpr ⟨⟨by decide, by decide, (cg_in3 118 (by decide +kernel) (by decide +kernel))⟩, fun _ h => absurd h List.not_mem_nil⟩)⟩)⟩) (fun E a1 hx => ?_) (fun v a1 hq => ?_)
  · rcases hx with ⟨rfl, hx⟩ | ⟨rfl, hx⟩ | ⟨rfl, hx⟩
    · refine ⟨[], [("java/lang/IndexOutOfBoundsException", 16, 21), ("java/lang/IllegalStateException", 20, 15)], 12, 13, rfl, by decide, fun q => ?_⟩
      refine ga_astore (lv' := [(4, .ref q), (0, .ref (ad 0)), (1, .int v1), (2, .int v2), (3, .ref (ad 121))]) hC dL_chainAbove_12 (by decide) rfl ?_
      refine ga_iconst (v := 1) hC dL_chainAbove_14 (by decide) ?_
      exact gx_iret hC dL_chainAbove_15 ⟨Nat.le_of_ble_eq_true rfl, Nat.le_of_ble_eq_true rfl⟩ ⟨_, _, _, _, rfl, rfl, hx⟩
    · refine ⟨[("java/lang/IllegalArgumentException", 12, 13)], [("java/lang/IllegalStateException", 20, 15)], 16, 21, rfl, by decide, fun q => ?_⟩
      refine ga_astore (lv' := [(4, .ref q), (0, .ref (ad 0)), (1, .int v1), (2, .int v2), (3, .ref (ad 121))]) hC dL_chainAbove_16 (by decide) rfl ?_
      refine ga_iconst (v := 2) hC dL_chainAbove_18 (by decide) ?_
      exact gx_iret hC dL_chainAbove_19 ⟨Nat.le_of_ble_eq_true rfl, Nat.le_of_ble_eq_true rfl⟩ ⟨_, _, _, _, rfl, rfl, hx⟩
    · refine ⟨[("java/lang/IllegalArgumentException", 12, 13), ("java/lang/IndexOutOfBoundsException", 16, 21)], [], 20, 15, rfl, by decide, fun q => ?_⟩
      refine ga_astore (lv' := [(4, .ref q), (0, .ref (ad 0)), (1, .int v1), (2, .int v2), (3, .ref (ad 121))]) hC dL_chainAbove_20 (by decide) rfl ?_
      refine ga_iconst (v := 3) hC dL_chainAbove_22 (by decide) ?_
      exact gx_iret hC dL_chainAbove_23 ⟨Nat.le_of_ble_eq_true rfl, Nat.le_of_ble_eq_true rfl⟩ ⟨_, _, _, _, rfl, rfl, hx⟩
  · obtain ⟨r, rfl, h⟩ := hq
    refine ga_last (k := 121) (n := 1) hC (fun _ => rfl) (by decide) lw_in0 dL_chainAbove_8 ?_
    rw [jn_l]
    refine ga_goto (tgt := 24) hC dL_chainAbove_9 (by decide) ?_
    refine ga_iconst (v := 0) hC dL_chainAbove_24 (by decide) ?_
    exact gx_iret hC dL_chainAbove_25 ⟨Nat.le_of_ble_eq_true rfl, Nat.le_of_ble_eq_true rfl⟩ ⟨_, _, _, _, rfl, rfl, h⟩
def M_L_chainBelow (v1 : Int32) (v2 : Int32) (a b : cg_S) (o : Nat → Int64) (od : Nat → UInt64) (Q : Int32 → cg_S → (Nat → Int64) → (Nat → UInt64) → Prop) : Prop := cl_M yL_chainBelow cL_chainBelow 5 [(0, 9, 12, 13), (0, 9, 16, 21), (0, 9, 20, 15)] (cg_RX 7 3) 3 18 (fun ad => [.ref (ad 0), .int v1, .int v2, .ref (ad 121)]) (jn a b o od) (fun _ v τ => ∃ (k : Int32) (a1 : cg_S) (o1 : Nat → Int64) (od1 : Nat → UInt64), v = some (.int k) ∧ τ = jn a1 b o1 od1 ∧ Q k a1 o1 od1)
set_option maxRecDepth 100000 in
set_option maxHeartbeats 4000000 in
theorem w_chainBelow {v1 v2 : Int32} {a b : cg_S} {o : Nat → Int64} {od : Nat → UInt64} {Q : Int32 → cg_S → (Nat → Int64) → (Nat → UInt64) → Prop}
    (h : M_X11_chainBelow v1 v2 a (fun r a1 => Q 0 a1 (vp_updL o 0 r) od) (fun E a1 => (E = "java/lang/IllegalArgumentException" ∧ Q 1 a1 o od) ∨ (E = "java/lang/IndexOutOfBoundsException" ∧ Q 2 a1 o od) ∨ (E = "java/lang/IllegalStateException" ∧ Q 3 a1 o od))) : M_L_chainBelow v1 v2 a b o od Q := by
  refine cl_entry (lv := fun ad => [(0, .ref (ad 0)), (1, .int v1), (2, .int v2), (3, .ref (ad 121))]) (by decide +kernel) rfl (fun _ => rfl) (fun _ => Nat.le_of_ble_eq_true rfl) ?_
  intro p l e s m args below meth c D cy ad hY
  have hC := hY.1
  refine ga_aload_n hC dL_chainBelow_0 3 rfl rfl ?_
  refine ga_iconst (v := 0) hC dL_chainBelow_1 (by decide) ?_
  refine ga_aload_n hC dL_chainBelow_2 0 rfl rfl ?_
  refine ga_iload_n hC dL_chainBelow_3 1 rfl rfl ?_
  refine ga_iload_n hC dL_chainBelow_4 2 rfl rfl ?_
  refine gl_callX (As := [.int v1, .int v2]) (st := [.int 0, .ref (ad 121)]) (n := 2) (hs := [("java/lang/IllegalArgumentException", 12, 13), ("java/lang/IndexOutOfBoundsException", 16, 21), ("java/lang/IllegalStateException", 20, 15)]) (sp := 0) (ep := 9) hY h lw_cst (cg_in5 172 (by decide +kernel) (by decide +kernel)) (cg_in5 173 (by decide +kernel) (by decide +kernel)) (cg_in5 174 (by decide +kernel) (by decide +kernel)) (cg_in1 1 (by decide +kernel) (by decide +kernel)) (cg_in5 175 (by decide +kernel) (by decide +kernel)) rfl rfl rfl (by decide +kernel) ⟨Nat.le_of_ble_eq_true rfl, Nat.le_of_ble_eq_true rfl⟩ ⟨Nat.le_of_ble_eq_true rfl, Nat.le_of_ble_eq_true rfl⟩ rfl rfl (Nat.le_of_ble_eq_true rfl) dL_chainBelow_5 rfl ⟨by decide, by decide⟩ (List.forall_mem_cons.mpr ⟨⟨by decide, by decide, (cg_in3 117 (by decide +kernel) (by decide +kernel))⟩, (List.forall_mem_cons.mpr ⟨⟨by decide, by decide, (cg_in3 221 (by decide +kernel) (by decide +kernel))⟩, (List.forall_mem_cons.mpr ⟨⟨by decide, by decide, (cg_in3 118 (by decide +kernel) (by decide +kernel))⟩, fun _ h => absurd h List.not_mem_nil⟩)⟩)⟩) (fun E a1 hx => ?_) (fun v a1 hq => ?_)
  · rcases hx with ⟨rfl, hx⟩ | ⟨rfl, hx⟩ | ⟨rfl, hx⟩
    · refine ⟨[], [("java/lang/IndexOutOfBoundsException", 16, 21), ("java/lang/IllegalStateException", 20, 15)], 12, 13, rfl, by decide, fun q => ?_⟩
      refine ga_astore (lv' := [(4, .ref q), (0, .ref (ad 0)), (1, .int v1), (2, .int v2), (3, .ref (ad 121))]) hC dL_chainBelow_12 (by decide) rfl ?_
      refine ga_iconst (v := 1) hC dL_chainBelow_14 (by decide) ?_
      exact gx_iret hC dL_chainBelow_15 ⟨Nat.le_of_ble_eq_true rfl, Nat.le_of_ble_eq_true rfl⟩ ⟨_, _, _, _, rfl, rfl, hx⟩
    · refine ⟨[("java/lang/IllegalArgumentException", 12, 13)], [("java/lang/IllegalStateException", 20, 15)], 16, 21, rfl, by decide, fun q => ?_⟩
      refine ga_astore (lv' := [(4, .ref q), (0, .ref (ad 0)), (1, .int v1), (2, .int v2), (3, .ref (ad 121))]) hC dL_chainBelow_16 (by decide) rfl ?_
      refine ga_iconst (v := 2) hC dL_chainBelow_18 (by decide) ?_
      exact gx_iret hC dL_chainBelow_19 ⟨Nat.le_of_ble_eq_true rfl, Nat.le_of_ble_eq_true rfl⟩ ⟨_, _, _, _, rfl, rfl, hx⟩
    · refine ⟨[("java/lang/IllegalArgumentException", 12, 13), ("java/lang/IndexOutOfBoundsException", 16, 21)], [], 20, 15, rfl, by decide, fun q => ?_⟩
      refine ga_astore (lv' := [(4, .ref q), (0, .ref (ad 0)), (1, .int v1), (2, .int v2), (3, .ref (ad 121))]) hC dL_chainBelow_20 (by decide) rfl ?_
      refine ga_iconst (v := 3) hC dL_chainBelow_22 (by decide) ?_
      exact gx_iret hC dL_chainBelow_23 ⟨Nat.le_of_ble_eq_true rfl, Nat.le_of_ble_eq_true rfl⟩ ⟨_, _, _, _, rfl, rfl, hx⟩
  · obtain ⟨r, rfl, h⟩ := hq
    refine ga_last (k := 121) (n := 1) hC (fun _ => rfl) (by decide) lw_in0 dL_chainBelow_8 ?_
    rw [jn_l]
    refine ga_goto (tgt := 24) hC dL_chainBelow_9 (by decide) ?_
    refine ga_iconst (v := 0) hC dL_chainBelow_24 (by decide) ?_
    exact gx_iret hC dL_chainBelow_25 ⟨Nat.le_of_ble_eq_true rfl, Nat.le_of_ble_eq_true rfl⟩ ⟨_, _, _, _, rfl, rfl, h⟩
def M_L_responseAbove (v1 : Int32) (v2 : Int32) (v3 : Int32) (a b : cg_S) (o : Nat → Int64) (od : Nat → UInt64) (Q : Int32 → cg_S → (Nat → Int64) → (Nat → UInt64) → Prop) : Prop := cl_M yL_responseAbove cL_responseAbove 6 [(0, 11, 14, 13), (0, 11, 18, 21), (0, 11, 22, 15)] (cg_RX 7 4) 4 24 (fun ad => [.ref (ad 0), .int v1, .int v2, .int v3, .ref (ad 121)]) (jn a b o od) (fun _ v τ => ∃ (k : Int32) (a1 : cg_S) (o1 : Nat → Int64) (od1 : Nat → UInt64), v = some (.int k) ∧ τ = jn a1 b o1 od1 ∧ Q k a1 o1 od1)
set_option maxRecDepth 100000 in
set_option maxHeartbeats 4000000 in
theorem w_responseAbove {v1 v2 v3 : Int32} {a b : cg_S} {o : Nat → Int64} {od : Nat → UInt64} {Q : Int32 → cg_S → (Nat → Int64) → (Nat → UInt64) → Prop}
    (h : M_X11_responseAbove v1 v2 v3 a (fun r a1 => Q 0 a1 (vp_updL o 0 r) od) (fun E a1 => (E = "java/lang/IllegalArgumentException" ∧ Q 1 a1 o od) ∨ (E = "java/lang/IndexOutOfBoundsException" ∧ Q 2 a1 o od) ∨ (E = "java/lang/IllegalStateException" ∧ Q 3 a1 o od))) : M_L_responseAbove v1 v2 v3 a b o od Q := by
  refine cl_entry (lv := fun ad => [(0, .ref (ad 0)), (1, .int v1), (2, .int v2), (3, .int v3), (4, .ref (ad 121))]) (by decide +kernel) rfl (fun _ => rfl) (fun _ => Nat.le_of_ble_eq_true rfl) ?_
  intro p l e s m args below meth c D cy ad hY
  have hC := hY.1
  refine ga_aload hC dL_responseAbove_0 4 rfl ?_
  refine ga_iconst (v := 0) hC dL_responseAbove_2 (by decide) ?_
  refine ga_aload_n hC dL_responseAbove_3 0 rfl rfl ?_
  refine ga_iload_n hC dL_responseAbove_4 1 rfl rfl ?_
  refine ga_iload_n hC dL_responseAbove_5 2 rfl rfl ?_
  refine ga_iload_n hC dL_responseAbove_6 3 rfl rfl ?_
  refine gl_callX (As := [.int v1, .int v2, .int v3]) (st := [.int 0, .ref (ad 121)]) (n := 3) (hs := [("java/lang/IllegalArgumentException", 14, 13), ("java/lang/IndexOutOfBoundsException", 18, 21), ("java/lang/IllegalStateException", 22, 15)]) (sp := 0) (ep := 11) hY h lw_cst (cg_in5 179 (by decide +kernel) (by decide +kernel)) (cg_in5 180 (by decide +kernel) (by decide +kernel)) (cg_in5 181 (by decide +kernel) (by decide +kernel)) (cg_in1 1 (by decide +kernel) (by decide +kernel)) (cg_in5 182 (by decide +kernel) (by decide +kernel)) rfl rfl rfl (by decide +kernel) ⟨Nat.le_of_ble_eq_true rfl, Nat.le_of_ble_eq_true rfl⟩ ⟨Nat.le_of_ble_eq_true rfl, Nat.le_of_ble_eq_true rfl⟩ rfl rfl (Nat.le_of_ble_eq_true rfl) dL_responseAbove_7 rfl ⟨by decide, by decide⟩ (List.forall_mem_cons.mpr ⟨⟨by decide, by decide, (cg_in3 117 (by decide +kernel) (by decide +kernel))⟩, (List.forall_mem_cons.mpr ⟨⟨by decide, by decide, (cg_in3 221 (by decide +kernel) (by decide +kernel))⟩, (List.forall_mem_cons.mpr ⟨⟨by decide, by decide, (cg_in3 118 (by decide +kernel) (by decide +kernel))⟩, fun _ h => absurd h List.not_mem_nil⟩)⟩)⟩) (fun E a1 hx => ?_) (fun v a1 hq => ?_)
  · rcases hx with ⟨rfl, hx⟩ | ⟨rfl, hx⟩ | ⟨rfl, hx⟩
    · refine ⟨[], [("java/lang/IndexOutOfBoundsException", 18, 21), ("java/lang/IllegalStateException", 22, 15)], 14, 13, rfl, by decide, fun q => ?_⟩
      refine ga_astore (lv' := [(5, .ref q), (0, .ref (ad 0)), (1, .int v1), (2, .int v2), (3, .int v3), (4, .ref (ad 121))]) hC dL_responseAbove_14 (by decide) rfl ?_
      refine ga_iconst (v := 1) hC dL_responseAbove_16 (by decide) ?_
      exact gx_iret hC dL_responseAbove_17 ⟨Nat.le_of_ble_eq_true rfl, Nat.le_of_ble_eq_true rfl⟩ ⟨_, _, _, _, rfl, rfl, hx⟩
    · refine ⟨[("java/lang/IllegalArgumentException", 14, 13)], [("java/lang/IllegalStateException", 22, 15)], 18, 21, rfl, by decide, fun q => ?_⟩
      refine ga_astore (lv' := [(5, .ref q), (0, .ref (ad 0)), (1, .int v1), (2, .int v2), (3, .int v3), (4, .ref (ad 121))]) hC dL_responseAbove_18 (by decide) rfl ?_
      refine ga_iconst (v := 2) hC dL_responseAbove_20 (by decide) ?_
      exact gx_iret hC dL_responseAbove_21 ⟨Nat.le_of_ble_eq_true rfl, Nat.le_of_ble_eq_true rfl⟩ ⟨_, _, _, _, rfl, rfl, hx⟩
    · refine ⟨[("java/lang/IllegalArgumentException", 14, 13), ("java/lang/IndexOutOfBoundsException", 18, 21)], [], 22, 15, rfl, by decide, fun q => ?_⟩
      refine ga_astore (lv' := [(5, .ref q), (0, .ref (ad 0)), (1, .int v1), (2, .int v2), (3, .int v3), (4, .ref (ad 121))]) hC dL_responseAbove_22 (by decide) rfl ?_
      refine ga_iconst (v := 3) hC dL_responseAbove_24 (by decide) ?_
      exact gx_iret hC dL_responseAbove_25 ⟨Nat.le_of_ble_eq_true rfl, Nat.le_of_ble_eq_true rfl⟩ ⟨_, _, _, _, rfl, rfl, hx⟩
  · obtain ⟨r, rfl, h⟩ := hq
    refine ga_last (k := 121) (n := 1) hC (fun _ => rfl) (by decide) lw_in0 dL_responseAbove_10 ?_
    rw [jn_l]
    refine ga_goto (tgt := 26) hC dL_responseAbove_11 (by decide) ?_
    refine ga_iconst (v := 0) hC dL_responseAbove_26 (by decide) ?_
    exact gx_iret hC dL_responseAbove_27 ⟨Nat.le_of_ble_eq_true rfl, Nat.le_of_ble_eq_true rfl⟩ ⟨_, _, _, _, rfl, rfl, h⟩
def M_L_responseBelow (v1 : Int32) (v2 : Int32) (v3 : Int32) (a b : cg_S) (o : Nat → Int64) (od : Nat → UInt64) (Q : Int32 → cg_S → (Nat → Int64) → (Nat → UInt64) → Prop) : Prop := cl_M yL_responseBelow cL_responseBelow 6 [(0, 11, 14, 13), (0, 11, 18, 21), (0, 11, 22, 15)] (cg_RX 7 4) 4 24 (fun ad => [.ref (ad 0), .int v1, .int v2, .int v3, .ref (ad 121)]) (jn a b o od) (fun _ v τ => ∃ (k : Int32) (a1 : cg_S) (o1 : Nat → Int64) (od1 : Nat → UInt64), v = some (.int k) ∧ τ = jn a1 b o1 od1 ∧ Q k a1 o1 od1)
set_option maxRecDepth 100000 in
set_option maxHeartbeats 4000000 in
theorem w_responseBelow {v1 v2 v3 : Int32} {a b : cg_S} {o : Nat → Int64} {od : Nat → UInt64} {Q : Int32 → cg_S → (Nat → Int64) → (Nat → UInt64) → Prop}
    (h : M_X11_responseBelow v1 v2 v3 a (fun r a1 => Q 0 a1 (vp_updL o 0 r) od) (fun E a1 => (E = "java/lang/IllegalArgumentException" ∧ Q 1 a1 o od) ∨ (E = "java/lang/IndexOutOfBoundsException" ∧ Q 2 a1 o od) ∨ (E = "java/lang/IllegalStateException" ∧ Q 3 a1 o od))) : M_L_responseBelow v1 v2 v3 a b o od Q := by
  refine cl_entry (lv := fun ad => [(0, .ref (ad 0)), (1, .int v1), (2, .int v2), (3, .int v3), (4, .ref (ad 121))]) (by decide +kernel) rfl (fun _ => rfl) (fun _ => Nat.le_of_ble_eq_true rfl) ?_
  intro p l e s m args below meth c D cy ad hY
  have hC := hY.1
  refine ga_aload hC dL_responseBelow_0 4 rfl ?_
  refine ga_iconst (v := 0) hC dL_responseBelow_2 (by decide) ?_
  refine ga_aload_n hC dL_responseBelow_3 0 rfl rfl ?_
  refine ga_iload_n hC dL_responseBelow_4 1 rfl rfl ?_
  refine ga_iload_n hC dL_responseBelow_5 2 rfl rfl ?_
  refine ga_iload_n hC dL_responseBelow_6 3 rfl rfl ?_
  refine gl_callX (As := [.int v1, .int v2, .int v3]) (st := [.int 0, .ref (ad 121)]) (n := 3) (hs := [("java/lang/IllegalArgumentException", 14, 13), ("java/lang/IndexOutOfBoundsException", 18, 21), ("java/lang/IllegalStateException", 22, 15)]) (sp := 0) (ep := 11) hY h lw_cst (cg_in5 190 (by decide +kernel) (by decide +kernel)) (cg_in5 191 (by decide +kernel) (by decide +kernel)) (cg_in5 192 (by decide +kernel) (by decide +kernel)) (cg_in1 1 (by decide +kernel) (by decide +kernel)) (cg_in5 193 (by decide +kernel) (by decide +kernel)) rfl rfl rfl (by decide +kernel) ⟨Nat.le_of_ble_eq_true rfl, Nat.le_of_ble_eq_true rfl⟩ ⟨Nat.le_of_ble_eq_true rfl, Nat.le_of_ble_eq_true rfl⟩ rfl rfl (Nat.le_of_ble_eq_true rfl) dL_responseBelow_7 rfl ⟨by decide, by decide⟩ (List.forall_mem_cons.mpr ⟨⟨by decide, by decide, (cg_in3 117 (by decide +kernel) (by decide +kernel))⟩, (List.forall_mem_cons.mpr ⟨⟨by decide, by decide, (cg_in3 221 (by decide +kernel) (by decide +kernel))⟩, (List.forall_mem_cons.mpr ⟨⟨by decide, by decide, (cg_in3 118 (by decide +kernel) (by decide +kernel))⟩, fun _ h => absurd h List.not_mem_nil⟩)⟩)⟩) (fun E a1 hx => ?_) (fun v a1 hq => ?_)
  · rcases hx with ⟨rfl, hx⟩ | ⟨rfl, hx⟩ | ⟨rfl, hx⟩
    · refine ⟨[], [("java/lang/IndexOutOfBoundsException", 18, 21), ("java/lang/IllegalStateException", 22, 15)], 14, 13, rfl, by decide, fun q => ?_⟩
      refine ga_astore (lv' := [(5, .ref q), (0, .ref (ad 0)), (1, .int v1), (2, .int v2), (3, .int v3), (4, .ref (ad 121))]) hC dL_responseBelow_14 (by decide) rfl ?_
      refine ga_iconst (v := 1) hC dL_responseBelow_16 (by decide) ?_
      exact gx_iret hC dL_responseBelow_17 ⟨Nat.le_of_ble_eq_true rfl, Nat.le_of_ble_eq_true rfl⟩ ⟨_, _, _, _, rfl, rfl, hx⟩
    · refine ⟨[("java/lang/IllegalArgumentException", 14, 13)], [("java/lang/IllegalStateException", 22, 15)], 18, 21, rfl, by decide, fun q => ?_⟩
      refine ga_astore (lv' := [(5, .ref q), (0, .ref (ad 0)), (1, .int v1), (2, .int v2), (3, .int v3), (4, .ref (ad 121))]) hC dL_responseBelow_18 (by decide) rfl ?_
      refine ga_iconst (v := 2) hC dL_responseBelow_20 (by decide) ?_
      exact gx_iret hC dL_responseBelow_21 ⟨Nat.le_of_ble_eq_true rfl, Nat.le_of_ble_eq_true rfl⟩ ⟨_, _, _, _, rfl, rfl, hx⟩
    · refine ⟨[("java/lang/IllegalArgumentException", 14, 13), ("java/lang/IndexOutOfBoundsException", 18, 21)], [], 22, 15, rfl, by decide, fun q => ?_⟩
      refine ga_astore (lv' := [(5, .ref q), (0, .ref (ad 0)), (1, .int v1), (2, .int v2), (3, .int v3), (4, .ref (ad 121))]) hC dL_responseBelow_22 (by decide) rfl ?_
      refine ga_iconst (v := 3) hC dL_responseBelow_24 (by decide) ?_
      exact gx_iret hC dL_responseBelow_25 ⟨Nat.le_of_ble_eq_true rfl, Nat.le_of_ble_eq_true rfl⟩ ⟨_, _, _, _, rfl, rfl, hx⟩
  · obtain ⟨r, rfl, h⟩ := hq
    refine ga_last (k := 121) (n := 1) hC (fun _ => rfl) (by decide) lw_in0 dL_responseBelow_10 ?_
    rw [jn_l]
    refine ga_goto (tgt := 26) hC dL_responseBelow_11 (by decide) ?_
    refine ga_iconst (v := 0) hC dL_responseBelow_26 (by decide) ?_
    exact gx_iret hC dL_responseBelow_27 ⟨Nat.le_of_ble_eq_true rfl, Nat.le_of_ble_eq_true rfl⟩ ⟨_, _, _, _, rfl, rfl, h⟩
def M_L_closedOf (v1 : Int32) (a b : cg_S) (o : Nat → Int64) (od : Nat → UInt64) (Q : Int32 → cg_S → (Nat → Int64) → (Nat → UInt64) → Prop) : Prop := cl_M yL_closedOf cL_closedOf 4 [(0, 9, 12, 21), (0, 9, 15, 15), (0, 9, 18, 107)] (cg_RX 5 3) 3 18 (fun ad => [.ref (ad 0), .int v1, .ref (ad 121)]) (jn a b o od) (fun _ v τ => ∃ (k : Int32) (a1 : cg_S) (o1 : Nat → Int64) (od1 : Nat → UInt64), v = some (.int k) ∧ τ = jn a1 b o1 od1 ∧ Q k a1 o1 od1)
set_option maxRecDepth 100000 in
set_option maxHeartbeats 4000000 in
theorem w_closedOf {v1 : Int32} {a b : cg_S} {o : Nat → Int64} {od : Nat → UInt64} {Q : Int32 → cg_S → (Nat → Int64) → (Nat → UInt64) → Prop}
    (h : M_X11_closedOf v1 a (fun r a1 => Q 0 a1 (vp_updL o 0 r.toInt64) od) (fun E a1 => (E = "java/lang/IndexOutOfBoundsException" ∧ Q 1 a1 o od) ∨ (E = "java/lang/IllegalStateException" ∧ Q 2 a1 o od) ∨ (E = "java/util/NoSuchElementException" ∧ Q 3 a1 o od))) : M_L_closedOf v1 a b o od Q := by
  refine cl_entry (lv := fun ad => [(0, .ref (ad 0)), (1, .int v1), (2, .ref (ad 121))]) (by decide +kernel) rfl (fun _ => rfl) (fun _ => Nat.le_of_ble_eq_true rfl) ?_
  intro p l e s m args below meth c D cy ad hY
  have hC := hY.1
  refine ga_aload_n hC dL_closedOf_0 2 rfl rfl ?_
  refine ga_iconst (v := 0) hC dL_closedOf_1 (by decide) ?_
  refine ga_aload_n hC dL_closedOf_2 0 rfl rfl ?_
  refine ga_iload_n hC dL_closedOf_3 1 rfl rfl ?_
  refine gl_callX (As := [.int v1]) (st := [.int 0, .ref (ad 121)]) (n := 1) (hs := [("java/lang/IndexOutOfBoundsException", 12, 21), ("java/lang/IllegalStateException", 15, 15), ("java/util/NoSuchElementException", 18, 107)]) (sp := 0) (ep := 9) hY h lw_cst (cg_in5 198 (by decide +kernel) (by decide +kernel)) (cg_in5 199 (by decide +kernel) (by decide +kernel)) (cg_in5 200 (by decide +kernel) (by decide +kernel)) (cg_in1 1 (by decide +kernel) (by decide +kernel)) (cg_in5 201 (by decide +kernel) (by decide +kernel)) rfl rfl rfl (by decide +kernel) ⟨Nat.le_of_ble_eq_true rfl, Nat.le_of_ble_eq_true rfl⟩ ⟨Nat.le_of_ble_eq_true rfl, Nat.le_of_ble_eq_true rfl⟩ rfl rfl (Nat.le_of_ble_eq_true rfl) dL_closedOf_4 rfl ⟨by decide, by decide⟩ (List.forall_mem_cons.mpr ⟨⟨by decide, by decide, (cg_in3 221 (by decide +kernel) (by decide +kernel))⟩, (List.forall_mem_cons.mpr ⟨⟨by decide, by decide, (cg_in3 118 (by decide +kernel) (by decide +kernel))⟩, (List.forall_mem_cons.mpr ⟨⟨by decide, by decide, (cg_in5 197 (by decide +kernel) (by decide +kernel))⟩, fun _ h => absurd h List.not_mem_nil⟩)⟩)⟩) (fun E a1 hx => ?_) (fun v a1 hq => ?_)
  · rcases hx with ⟨rfl, hx⟩ | ⟨rfl, hx⟩ | ⟨rfl, hx⟩
    · refine ⟨[], [("java/lang/IllegalStateException", 15, 15), ("java/util/NoSuchElementException", 18, 107)], 12, 21, rfl, by decide, fun q => ?_⟩
      refine ga_astore_n (lv' := [(3, .ref q), (0, .ref (ad 0)), (1, .int v1), (2, .ref (ad 121))]) hC dL_closedOf_12 rfl (by decide) rfl ?_
      refine ga_iconst (v := 1) hC dL_closedOf_13 (by decide) ?_
      exact gx_iret hC dL_closedOf_14 ⟨Nat.le_of_ble_eq_true rfl, Nat.le_of_ble_eq_true rfl⟩ ⟨_, _, _, _, rfl, rfl, hx⟩
    · refine ⟨[("java/lang/IndexOutOfBoundsException", 12, 21)], [("java/util/NoSuchElementException", 18, 107)], 15, 15, rfl, by decide, fun q => ?_⟩
      refine ga_astore_n (lv' := [(3, .ref q), (0, .ref (ad 0)), (1, .int v1), (2, .ref (ad 121))]) hC dL_closedOf_15 rfl (by decide) rfl ?_
      refine ga_iconst (v := 2) hC dL_closedOf_16 (by decide) ?_
      exact gx_iret hC dL_closedOf_17 ⟨Nat.le_of_ble_eq_true rfl, Nat.le_of_ble_eq_true rfl⟩ ⟨_, _, _, _, rfl, rfl, hx⟩
    · refine ⟨[("java/lang/IndexOutOfBoundsException", 12, 21), ("java/lang/IllegalStateException", 15, 15)], [], 18, 107, rfl, by decide, fun q => ?_⟩
      refine ga_astore_n (lv' := [(3, .ref q), (0, .ref (ad 0)), (1, .int v1), (2, .ref (ad 121))]) hC dL_closedOf_18 rfl (by decide) rfl ?_
      refine ga_iconst (v := 3) hC dL_closedOf_19 (by decide) ?_
      exact gx_iret hC dL_closedOf_20 ⟨Nat.le_of_ble_eq_true rfl, Nat.le_of_ble_eq_true rfl⟩ ⟨_, _, _, _, rfl, rfl, hx⟩
  · obtain ⟨r, rfl, h⟩ := hq
    refine ga_i2l hC dL_closedOf_7 ?_
    refine ga_last (k := 121) (n := 1) hC (fun _ => rfl) (by decide) lw_in0 dL_closedOf_8 ?_
    rw [jn_l]
    refine ga_goto (tgt := 21) hC dL_closedOf_9 (by decide) ?_
    refine ga_iconst (v := 0) hC dL_closedOf_21 (by decide) ?_
    exact gx_iret hC dL_closedOf_22 ⟨Nat.le_of_ble_eq_true rfl, Nat.le_of_ble_eq_true rfl⟩ ⟨_, _, _, _, rfl, rfl, h⟩
def M_L_endOf (v1 : Int32) (a b : cg_S) (o : Nat → Int64) (od : Nat → UInt64) (Q : Int32 → cg_S → (Nat → Int64) → (Nat → UInt64) → Prop) : Prop := cl_M yL_endOf cL_endOf 4 [(0, 9, 12, 21), (0, 9, 15, 15), (0, 9, 18, 107)] (cg_RX 5 3) 3 18 (fun ad => [.ref (ad 0), .int v1, .ref (ad 121)]) (jn a b o od) (fun _ v τ => ∃ (k : Int32) (a1 : cg_S) (o1 : Nat → Int64) (od1 : Nat → UInt64), v = some (.int k) ∧ τ = jn a1 b o1 od1 ∧ Q k a1 o1 od1)
set_option maxRecDepth 100000 in
set_option maxHeartbeats 4000000 in
theorem w_endOf {v1 : Int32} {a b : cg_S} {o : Nat → Int64} {od : Nat → UInt64} {Q : Int32 → cg_S → (Nat → Int64) → (Nat → UInt64) → Prop}
    (h : M_X11_endOf v1 a (fun r a1 => Q 0 a1 (vp_updL o 0 r.toInt64) od) (fun E a1 => (E = "java/lang/IndexOutOfBoundsException" ∧ Q 1 a1 o od) ∨ (E = "java/lang/IllegalStateException" ∧ Q 2 a1 o od) ∨ (E = "java/util/NoSuchElementException" ∧ Q 3 a1 o od))) : M_L_endOf v1 a b o od Q := by
  refine cl_entry (lv := fun ad => [(0, .ref (ad 0)), (1, .int v1), (2, .ref (ad 121))]) (by decide +kernel) rfl (fun _ => rfl) (fun _ => Nat.le_of_ble_eq_true rfl) ?_
  intro p l e s m args below meth c D cy ad hY
  have hC := hY.1
  refine ga_aload_n hC dL_endOf_0 2 rfl rfl ?_
  refine ga_iconst (v := 0) hC dL_endOf_1 (by decide) ?_
  refine ga_aload_n hC dL_endOf_2 0 rfl rfl ?_
  refine ga_iload_n hC dL_endOf_3 1 rfl rfl ?_
  refine gl_callX (As := [.int v1]) (st := [.int 0, .ref (ad 121)]) (n := 1) (hs := [("java/lang/IndexOutOfBoundsException", 12, 21), ("java/lang/IllegalStateException", 15, 15), ("java/util/NoSuchElementException", 18, 107)]) (sp := 0) (ep := 9) hY h lw_cst (cg_in5 227 (by decide +kernel) (by decide +kernel)) (cg_in5 228 (by decide +kernel) (by decide +kernel)) (cg_in5 229 (by decide +kernel) (by decide +kernel)) (cg_in1 1 (by decide +kernel) (by decide +kernel)) (cg_in5 230 (by decide +kernel) (by decide +kernel)) rfl rfl rfl (by decide +kernel) ⟨Nat.le_of_ble_eq_true rfl, Nat.le_of_ble_eq_true rfl⟩ ⟨Nat.le_of_ble_eq_true rfl, Nat.le_of_ble_eq_true rfl⟩ rfl rfl (Nat.le_of_ble_eq_true rfl) dL_endOf_4 rfl ⟨by decide, by decide⟩ (List.forall_mem_cons.mpr ⟨⟨by decide, by decide, (cg_in3 221 (by decide +kernel) (by decide +kernel))⟩, (List.forall_mem_cons.mpr ⟨⟨by decide, by decide, (cg_in3 118 (by decide +kernel) (by decide +kernel))⟩, (List.forall_mem_cons.mpr ⟨⟨by decide, by decide, (cg_in5 197 (by decide +kernel) (by decide +kernel))⟩, fun _ h => absurd h List.not_mem_nil⟩)⟩)⟩) (fun E a1 hx => ?_) (fun v a1 hq => ?_)
  · rcases hx with ⟨rfl, hx⟩ | ⟨rfl, hx⟩ | ⟨rfl, hx⟩
    · refine ⟨[], [("java/lang/IllegalStateException", 15, 15), ("java/util/NoSuchElementException", 18, 107)], 12, 21, rfl, by decide, fun q => ?_⟩
      refine ga_astore_n (lv' := [(3, .ref q), (0, .ref (ad 0)), (1, .int v1), (2, .ref (ad 121))]) hC dL_endOf_12 rfl (by decide) rfl ?_
      refine ga_iconst (v := 1) hC dL_endOf_13 (by decide) ?_
      exact gx_iret hC dL_endOf_14 ⟨Nat.le_of_ble_eq_true rfl, Nat.le_of_ble_eq_true rfl⟩ ⟨_, _, _, _, rfl, rfl, hx⟩
    · refine ⟨[("java/lang/IndexOutOfBoundsException", 12, 21)], [("java/util/NoSuchElementException", 18, 107)], 15, 15, rfl, by decide, fun q => ?_⟩
      refine ga_astore_n (lv' := [(3, .ref q), (0, .ref (ad 0)), (1, .int v1), (2, .ref (ad 121))]) hC dL_endOf_15 rfl (by decide) rfl ?_
      refine ga_iconst (v := 2) hC dL_endOf_16 (by decide) ?_
      exact gx_iret hC dL_endOf_17 ⟨Nat.le_of_ble_eq_true rfl, Nat.le_of_ble_eq_true rfl⟩ ⟨_, _, _, _, rfl, rfl, hx⟩
    · refine ⟨[("java/lang/IndexOutOfBoundsException", 12, 21), ("java/lang/IllegalStateException", 15, 15)], [], 18, 107, rfl, by decide, fun q => ?_⟩
      refine ga_astore_n (lv' := [(3, .ref q), (0, .ref (ad 0)), (1, .int v1), (2, .ref (ad 121))]) hC dL_endOf_18 rfl (by decide) rfl ?_
      refine ga_iconst (v := 3) hC dL_endOf_19 (by decide) ?_
      exact gx_iret hC dL_endOf_20 ⟨Nat.le_of_ble_eq_true rfl, Nat.le_of_ble_eq_true rfl⟩ ⟨_, _, _, _, rfl, rfl, hx⟩
  · obtain ⟨r, rfl, h⟩ := hq
    refine ga_i2l hC dL_endOf_7 ?_
    refine ga_last (k := 121) (n := 1) hC (fun _ => rfl) (by decide) lw_in0 dL_endOf_8 ?_
    rw [jn_l]
    refine ga_goto (tgt := 21) hC dL_endOf_9 (by decide) ?_
    refine ga_iconst (v := 0) hC dL_endOf_21 (by decide) ?_
    exact gx_iret hC dL_endOf_22 ⟨Nat.le_of_ble_eq_true rfl, Nat.le_of_ble_eq_true rfl⟩ ⟨_, _, _, _, rfl, rfl, h⟩
def M_L_classOf (v1 : Int32) (a b : cg_S) (o : Nat → Int64) (od : Nat → UInt64) (Q : Int32 → cg_S → (Nat → Int64) → (Nat → UInt64) → Prop) : Prop := cl_M yL_classOf cL_classOf 4 [(0, 9, 12, 21), (0, 9, 15, 15)] (cg_RX 7 2) 2 12 (fun ad => [.ref (ad 0), .int v1, .ref (ad 121)]) (jn a b o od) (fun _ v τ => ∃ (k : Int32) (a1 : cg_S) (o1 : Nat → Int64) (od1 : Nat → UInt64), v = some (.int k) ∧ τ = jn a1 b o1 od1 ∧ Q k a1 o1 od1)
set_option maxRecDepth 100000 in
set_option maxHeartbeats 4000000 in
theorem w_classOf {v1 : Int32} {a b : cg_S} {o : Nat → Int64} {od : Nat → UInt64} {Q : Int32 → cg_S → (Nat → Int64) → (Nat → UInt64) → Prop}
    (h : M_X11_classOf v1 a (fun r a1 => Q 0 a1 (vp_updL o 0 r.toInt64) od) (fun E a1 => (E = "java/lang/IndexOutOfBoundsException" ∧ Q 1 a1 o od) ∨ (E = "java/lang/IllegalStateException" ∧ Q 2 a1 o od))) : M_L_classOf v1 a b o od Q := by
  refine cl_entry (lv := fun ad => [(0, .ref (ad 0)), (1, .int v1), (2, .ref (ad 121))]) (by decide +kernel) rfl (fun _ => rfl) (fun _ => Nat.le_of_ble_eq_true rfl) ?_
  intro p l e s m args below meth c D cy ad hY
  have hC := hY.1
  refine ga_aload_n hC dL_classOf_0 2 rfl rfl ?_
  refine ga_iconst (v := 0) hC dL_classOf_1 (by decide) ?_
  refine ga_aload_n hC dL_classOf_2 0 rfl rfl ?_
  refine ga_iload_n hC dL_classOf_3 1 rfl rfl ?_
  refine gl_callX (As := [.int v1]) (st := [.int 0, .ref (ad 121)]) (n := 1) (hs := [("java/lang/IndexOutOfBoundsException", 12, 21), ("java/lang/IllegalStateException", 15, 15)]) (sp := 0) (ep := 9) hY h lw_cst (cg_in6 2 (by decide +kernel) (by decide +kernel)) (cg_in6 3 (by decide +kernel) (by decide +kernel)) (cg_in6 4 (by decide +kernel) (by decide +kernel)) (cg_in1 1 (by decide +kernel) (by decide +kernel)) (cg_in6 5 (by decide +kernel) (by decide +kernel)) rfl rfl rfl (by decide +kernel) ⟨Nat.le_of_ble_eq_true rfl, Nat.le_of_ble_eq_true rfl⟩ ⟨Nat.le_of_ble_eq_true rfl, Nat.le_of_ble_eq_true rfl⟩ rfl rfl (Nat.le_of_ble_eq_true rfl) dL_classOf_4 rfl ⟨by decide, by decide⟩ (List.forall_mem_cons.mpr ⟨⟨by decide, by decide, (cg_in3 221 (by decide +kernel) (by decide +kernel))⟩, (List.forall_mem_cons.mpr ⟨⟨by decide, by decide, (cg_in3 118 (by decide +kernel) (by decide +kernel))⟩, fun _ h => absurd h List.not_mem_nil⟩)⟩) (fun E a1 hx => ?_) (fun v a1 hq => ?_)
  · rcases hx with ⟨rfl, hx⟩ | ⟨rfl, hx⟩
    · refine ⟨[], [("java/lang/IllegalStateException", 15, 15)], 12, 21, rfl, by decide, fun q => ?_⟩
      refine ga_astore_n (lv' := [(3, .ref q), (0, .ref (ad 0)), (1, .int v1), (2, .ref (ad 121))]) hC dL_classOf_12 rfl (by decide) rfl ?_
      refine ga_iconst (v := 1) hC dL_classOf_13 (by decide) ?_
      exact gx_iret hC dL_classOf_14 ⟨Nat.le_of_ble_eq_true rfl, Nat.le_of_ble_eq_true rfl⟩ ⟨_, _, _, _, rfl, rfl, hx⟩
    · refine ⟨[("java/lang/IndexOutOfBoundsException", 12, 21)], [], 15, 15, rfl, by decide, fun q => ?_⟩
      refine ga_astore_n (lv' := [(3, .ref q), (0, .ref (ad 0)), (1, .int v1), (2, .ref (ad 121))]) hC dL_classOf_15 rfl (by decide) rfl ?_
      refine ga_iconst (v := 2) hC dL_classOf_16 (by decide) ?_
      exact gx_iret hC dL_classOf_17 ⟨Nat.le_of_ble_eq_true rfl, Nat.le_of_ble_eq_true rfl⟩ ⟨_, _, _, _, rfl, rfl, hx⟩
  · obtain ⟨r, rfl, h⟩ := hq
    refine ga_i2l hC dL_classOf_7 ?_
    refine ga_last (k := 121) (n := 1) hC (fun _ => rfl) (by decide) lw_in0 dL_classOf_8 ?_
    rw [jn_l]
    refine ga_goto (tgt := 18) hC dL_classOf_9 (by decide) ?_
    refine ga_iconst (v := 0) hC dL_classOf_18 (by decide) ?_
    exact gx_iret hC dL_classOf_19 ⟨Nat.le_of_ble_eq_true rfl, Nat.le_of_ble_eq_true rfl⟩ ⟨_, _, _, _, rfl, rfl, h⟩
def M_L_classes  (a b : cg_S) (o : Nat → Int64) (od : Nat → UInt64) (Q : Int32 → cg_S → (Nat → Int64) → (Nat → UInt64) → Prop) : Prop := cl_M yL_classes cL_classes 3 [(0, 8, 11, 15)] (cg_RX 7 1) 1 6 (fun ad => [.ref (ad 0), .ref (ad 121)]) (jn a b o od) (fun _ v τ => ∃ (k : Int32) (a1 : cg_S) (o1 : Nat → Int64) (od1 : Nat → UInt64), v = some (.int k) ∧ τ = jn a1 b o1 od1 ∧ Q k a1 o1 od1)
set_option maxRecDepth 100000 in
set_option maxHeartbeats 4000000 in
theorem w_classes {a b : cg_S} {o : Nat → Int64} {od : Nat → UInt64} {Q : Int32 → cg_S → (Nat → Int64) → (Nat → UInt64) → Prop}
    (h : M_X11_classes  a (fun r a1 => Q 0 a1 (vp_updL o 0 r.toInt64) od) (fun E a1 => (E = "java/lang/IllegalStateException" ∧ Q 1 a1 o od))) : M_L_classes  a b o od Q := by
  refine cl_entry (lv := fun ad => [(0, .ref (ad 0)), (1, .ref (ad 121))]) (by decide +kernel) rfl (fun _ => rfl) (fun _ => Nat.le_of_ble_eq_true rfl) ?_
  intro p l e s m args below meth c D cy ad hY
  have hC := hY.1
  refine ga_aload_n hC dL_classes_0 1 rfl rfl ?_
  refine ga_iconst (v := 0) hC dL_classes_1 (by decide) ?_
  refine ga_aload_n hC dL_classes_2 0 rfl rfl ?_
  refine gl_callX (As := []) (st := [.int 0, .ref (ad 121)]) (n := 0) (hs := [("java/lang/IllegalStateException", 11, 15)]) (sp := 0) (ep := 8) hY h lw_cst (cg_in6 9 (by decide +kernel) (by decide +kernel)) (cg_in6 10 (by decide +kernel) (by decide +kernel)) (cg_in6 11 (by decide +kernel) (by decide +kernel)) (cg_in1 1 (by decide +kernel) (by decide +kernel)) (cg_in6 12 (by decide +kernel) (by decide +kernel)) rfl rfl rfl (by decide +kernel) ⟨Nat.le_of_ble_eq_true rfl, Nat.le_of_ble_eq_true rfl⟩ ⟨Nat.le_of_ble_eq_true rfl, Nat.le_of_ble_eq_true rfl⟩ rfl rfl (Nat.le_of_ble_eq_true rfl) dL_classes_3 rfl ⟨by decide, by decide⟩ (List.forall_mem_cons.mpr ⟨⟨by decide, by decide, (cg_in3 118 (by decide +kernel) (by decide +kernel))⟩, fun _ h => absurd h List.not_mem_nil⟩) (fun E a1 hx => ?_) (fun v a1 hq => ?_)
  · obtain ⟨rfl, hx⟩ := hx
    refine ⟨[], [], 11, 15, rfl, by decide, fun q => ?_⟩
    refine ga_astore_n (lv' := [(2, .ref q), (0, .ref (ad 0)), (1, .ref (ad 121))]) hC dL_classes_11 rfl (by decide) rfl ?_
    refine ga_iconst (v := 1) hC dL_classes_12 (by decide) ?_
    exact gx_iret hC dL_classes_13 ⟨Nat.le_of_ble_eq_true rfl, Nat.le_of_ble_eq_true rfl⟩ ⟨_, _, _, _, rfl, rfl, hx⟩
  · obtain ⟨r, rfl, h⟩ := hq
    refine ga_i2l hC dL_classes_6 ?_
    refine ga_last (k := 121) (n := 1) hC (fun _ => rfl) (by decide) lw_in0 dL_classes_7 ?_
    rw [jn_l]
    refine ga_goto (tgt := 14) hC dL_classes_8 (by decide) ?_
    refine ga_iconst (v := 0) hC dL_classes_14 (by decide) ?_
    exact gx_iret hC dL_classes_15 ⟨Nat.le_of_ble_eq_true rfl, Nat.le_of_ble_eq_true rfl⟩ ⟨_, _, _, _, rfl, rfl, h⟩
def M_L_traceLength (v1 : Int32) (a b : cg_S) (o : Nat → Int64) (od : Nat → UInt64) (Q : Int32 → cg_S → (Nat → Int64) → (Nat → UInt64) → Prop) : Prop := cl_M yL_traceLength cL_traceLength 4 [(0, 9, 12, 21), (0, 9, 15, 15), (0, 9, 18, 107)] (cg_RX 6 3) 3 18 (fun ad => [.ref (ad 0), .int v1, .ref (ad 121)]) (jn a b o od) (fun _ v τ => ∃ (k : Int32) (a1 : cg_S) (o1 : Nat → Int64) (od1 : Nat → UInt64), v = some (.int k) ∧ τ = jn a1 b o1 od1 ∧ Q k a1 o1 od1)
set_option maxRecDepth 100000 in
set_option maxHeartbeats 4000000 in
theorem w_traceLength {v1 : Int32} {a b : cg_S} {o : Nat → Int64} {od : Nat → UInt64} {Q : Int32 → cg_S → (Nat → Int64) → (Nat → UInt64) → Prop}
    (h : M_X11_traceLength v1 a (fun r a1 => Q 0 a1 (vp_updL o 0 r.toInt64) od) (fun E a1 => (E = "java/lang/IndexOutOfBoundsException" ∧ Q 1 a1 o od) ∨ (E = "java/lang/IllegalStateException" ∧ Q 2 a1 o od) ∨ (E = "java/util/NoSuchElementException" ∧ Q 3 a1 o od))) : M_L_traceLength v1 a b o od Q := by
  refine cl_entry (lv := fun ad => [(0, .ref (ad 0)), (1, .int v1), (2, .ref (ad 121))]) (by decide +kernel) rfl (fun _ => rfl) (fun _ => Nat.le_of_ble_eq_true rfl) ?_
  intro p l e s m args below meth c D cy ad hY
  have hC := hY.1
  refine ga_aload_n hC dL_traceLength_0 2 rfl rfl ?_
  refine ga_iconst (v := 0) hC dL_traceLength_1 (by decide) ?_
  refine ga_aload_n hC dL_traceLength_2 0 rfl rfl ?_
  refine ga_iload_n hC dL_traceLength_3 1 rfl rfl ?_
  refine gl_callX (As := [.int v1]) (st := [.int 0, .ref (ad 121)]) (n := 1) (hs := [("java/lang/IndexOutOfBoundsException", 12, 21), ("java/lang/IllegalStateException", 15, 15), ("java/util/NoSuchElementException", 18, 107)]) (sp := 0) (ep := 9) hY h lw_cst (cg_in6 20 (by decide +kernel) (by decide +kernel)) (cg_in6 21 (by decide +kernel) (by decide +kernel)) (cg_in6 22 (by decide +kernel) (by decide +kernel)) (cg_in1 1 (by decide +kernel) (by decide +kernel)) (cg_in6 23 (by decide +kernel) (by decide +kernel)) rfl rfl rfl (by decide +kernel) ⟨Nat.le_of_ble_eq_true rfl, Nat.le_of_ble_eq_true rfl⟩ ⟨Nat.le_of_ble_eq_true rfl, Nat.le_of_ble_eq_true rfl⟩ rfl rfl (Nat.le_of_ble_eq_true rfl) dL_traceLength_4 rfl ⟨by decide, by decide⟩ (List.forall_mem_cons.mpr ⟨⟨by decide, by decide, (cg_in3 221 (by decide +kernel) (by decide +kernel))⟩, (List.forall_mem_cons.mpr ⟨⟨by decide, by decide, (cg_in3 118 (by decide +kernel) (by decide +kernel))⟩, (List.forall_mem_cons.mpr ⟨⟨by decide, by decide, (cg_in5 197 (by decide +kernel) (by decide +kernel))⟩, fun _ h => absurd h List.not_mem_nil⟩)⟩)⟩) (fun E a1 hx => ?_) (fun v a1 hq => ?_)
  · rcases hx with ⟨rfl, hx⟩ | ⟨rfl, hx⟩ | ⟨rfl, hx⟩
    · refine ⟨[], [("java/lang/IllegalStateException", 15, 15), ("java/util/NoSuchElementException", 18, 107)], 12, 21, rfl, by decide, fun q => ?_⟩
      refine ga_astore_n (lv' := [(3, .ref q), (0, .ref (ad 0)), (1, .int v1), (2, .ref (ad 121))]) hC dL_traceLength_12 rfl (by decide) rfl ?_
      refine ga_iconst (v := 1) hC dL_traceLength_13 (by decide) ?_
      exact gx_iret hC dL_traceLength_14 ⟨Nat.le_of_ble_eq_true rfl, Nat.le_of_ble_eq_true rfl⟩ ⟨_, _, _, _, rfl, rfl, hx⟩
    · refine ⟨[("java/lang/IndexOutOfBoundsException", 12, 21)], [("java/util/NoSuchElementException", 18, 107)], 15, 15, rfl, by decide, fun q => ?_⟩
      refine ga_astore_n (lv' := [(3, .ref q), (0, .ref (ad 0)), (1, .int v1), (2, .ref (ad 121))]) hC dL_traceLength_15 rfl (by decide) rfl ?_
      refine ga_iconst (v := 2) hC dL_traceLength_16 (by decide) ?_
      exact gx_iret hC dL_traceLength_17 ⟨Nat.le_of_ble_eq_true rfl, Nat.le_of_ble_eq_true rfl⟩ ⟨_, _, _, _, rfl, rfl, hx⟩
    · refine ⟨[("java/lang/IndexOutOfBoundsException", 12, 21), ("java/lang/IllegalStateException", 15, 15)], [], 18, 107, rfl, by decide, fun q => ?_⟩
      refine ga_astore_n (lv' := [(3, .ref q), (0, .ref (ad 0)), (1, .int v1), (2, .ref (ad 121))]) hC dL_traceLength_18 rfl (by decide) rfl ?_
      refine ga_iconst (v := 3) hC dL_traceLength_19 (by decide) ?_
      exact gx_iret hC dL_traceLength_20 ⟨Nat.le_of_ble_eq_true rfl, Nat.le_of_ble_eq_true rfl⟩ ⟨_, _, _, _, rfl, rfl, hx⟩
  · obtain ⟨r, rfl, h⟩ := hq
    refine ga_i2l hC dL_traceLength_7 ?_
    refine ga_last (k := 121) (n := 1) hC (fun _ => rfl) (by decide) lw_in0 dL_traceLength_8 ?_
    rw [jn_l]
    refine ga_goto (tgt := 21) hC dL_traceLength_9 (by decide) ?_
    refine ga_iconst (v := 0) hC dL_traceLength_21 (by decide) ?_
    exact gx_iret hC dL_traceLength_22 ⟨Nat.le_of_ble_eq_true rfl, Nat.le_of_ble_eq_true rfl⟩ ⟨_, _, _, _, rfl, rfl, h⟩
def M_L_traceAt (v1 : Int32) (v2 : Int32) (a b : cg_S) (o : Nat → Int64) (od : Nat → UInt64) (Q : Int32 → cg_S → (Nat → Int64) → (Nat → UInt64) → Prop) : Prop := cl_M yL_traceAt cL_traceAt 5 [(0, 10, 13, 21), (0, 10, 17, 15), (0, 10, 21, 107)] (cg_RX 6 4) 4 24 (fun ad => [.ref (ad 0), .int v1, .int v2, .ref (ad 121)]) (jn a b o od) (fun _ v τ => ∃ (k : Int32) (a1 : cg_S) (o1 : Nat → Int64) (od1 : Nat → UInt64), v = some (.int k) ∧ τ = jn a1 b o1 od1 ∧ Q k a1 o1 od1)
set_option maxRecDepth 100000 in
set_option maxHeartbeats 4000000 in
theorem w_traceAt {v1 v2 : Int32} {a b : cg_S} {o : Nat → Int64} {od : Nat → UInt64} {Q : Int32 → cg_S → (Nat → Int64) → (Nat → UInt64) → Prop}
    (h : M_X11_traceAt v1 v2 a (fun r a1 => Q 0 a1 (vp_updL o 0 r.toInt64) od) (fun E a1 => (E = "java/lang/IndexOutOfBoundsException" ∧ Q 1 a1 o od) ∨ (E = "java/lang/IllegalStateException" ∧ Q 2 a1 o od) ∨ (E = "java/util/NoSuchElementException" ∧ Q 3 a1 o od))) : M_L_traceAt v1 v2 a b o od Q := by
  refine cl_entry (lv := fun ad => [(0, .ref (ad 0)), (1, .int v1), (2, .int v2), (3, .ref (ad 121))]) (by decide +kernel) rfl (fun _ => rfl) (fun _ => Nat.le_of_ble_eq_true rfl) ?_
  intro p l e s m args below meth c D cy ad hY
  have hC := hY.1
  refine ga_aload_n hC dL_traceAt_0 3 rfl rfl ?_
  refine ga_iconst (v := 0) hC dL_traceAt_1 (by decide) ?_
  refine ga_aload_n hC dL_traceAt_2 0 rfl rfl ?_
  refine ga_iload_n hC dL_traceAt_3 1 rfl rfl ?_
  refine ga_iload_n hC dL_traceAt_4 2 rfl rfl ?_
  refine gl_callX (As := [.int v1, .int v2]) (st := [.int 0, .ref (ad 121)]) (n := 2) (hs := [("java/lang/IndexOutOfBoundsException", 13, 21), ("java/lang/IllegalStateException", 17, 15), ("java/util/NoSuchElementException", 21, 107)]) (sp := 0) (ep := 10) hY h lw_cst (cg_in6 44 (by decide +kernel) (by decide +kernel)) (cg_in6 45 (by decide +kernel) (by decide +kernel)) (cg_in6 46 (by decide +kernel) (by decide +kernel)) (cg_in1 1 (by decide +kernel) (by decide +kernel)) (cg_in6 47 (by decide +kernel) (by decide +kernel)) rfl rfl rfl (by decide +kernel) ⟨Nat.le_of_ble_eq_true rfl, Nat.le_of_ble_eq_true rfl⟩ ⟨Nat.le_of_ble_eq_true rfl, Nat.le_of_ble_eq_true rfl⟩ rfl rfl (Nat.le_of_ble_eq_true rfl) dL_traceAt_5 rfl ⟨by decide, by decide⟩ (List.forall_mem_cons.mpr ⟨⟨by decide, by decide, (cg_in3 221 (by decide +kernel) (by decide +kernel))⟩, (List.forall_mem_cons.mpr ⟨⟨by decide, by decide, (cg_in3 118 (by decide +kernel) (by decide +kernel))⟩, (List.forall_mem_cons.mpr ⟨⟨by decide, by decide, (cg_in5 197 (by decide +kernel) (by decide +kernel))⟩, fun _ h => absurd h List.not_mem_nil⟩)⟩)⟩) (fun E a1 hx => ?_) (fun v a1 hq => ?_)
  · rcases hx with ⟨rfl, hx⟩ | ⟨rfl, hx⟩ | ⟨rfl, hx⟩
    · refine ⟨[], [("java/lang/IllegalStateException", 17, 15), ("java/util/NoSuchElementException", 21, 107)], 13, 21, rfl, by decide, fun q => ?_⟩
      refine ga_astore (lv' := [(4, .ref q), (0, .ref (ad 0)), (1, .int v1), (2, .int v2), (3, .ref (ad 121))]) hC dL_traceAt_13 (by decide) rfl ?_
      refine ga_iconst (v := 1) hC dL_traceAt_15 (by decide) ?_
      exact gx_iret hC dL_traceAt_16 ⟨Nat.le_of_ble_eq_true rfl, Nat.le_of_ble_eq_true rfl⟩ ⟨_, _, _, _, rfl, rfl, hx⟩
    · refine ⟨[("java/lang/IndexOutOfBoundsException", 13, 21)], [("java/util/NoSuchElementException", 21, 107)], 17, 15, rfl, by decide, fun q => ?_⟩
      refine ga_astore (lv' := [(4, .ref q), (0, .ref (ad 0)), (1, .int v1), (2, .int v2), (3, .ref (ad 121))]) hC dL_traceAt_17 (by decide) rfl ?_
      refine ga_iconst (v := 2) hC dL_traceAt_19 (by decide) ?_
      exact gx_iret hC dL_traceAt_20 ⟨Nat.le_of_ble_eq_true rfl, Nat.le_of_ble_eq_true rfl⟩ ⟨_, _, _, _, rfl, rfl, hx⟩
    · refine ⟨[("java/lang/IndexOutOfBoundsException", 13, 21), ("java/lang/IllegalStateException", 17, 15)], [], 21, 107, rfl, by decide, fun q => ?_⟩
      refine ga_astore (lv' := [(4, .ref q), (0, .ref (ad 0)), (1, .int v1), (2, .int v2), (3, .ref (ad 121))]) hC dL_traceAt_21 (by decide) rfl ?_
      refine ga_iconst (v := 3) hC dL_traceAt_23 (by decide) ?_
      exact gx_iret hC dL_traceAt_24 ⟨Nat.le_of_ble_eq_true rfl, Nat.le_of_ble_eq_true rfl⟩ ⟨_, _, _, _, rfl, rfl, hx⟩
  · obtain ⟨r, rfl, h⟩ := hq
    refine ga_i2l hC dL_traceAt_8 ?_
    refine ga_last (k := 121) (n := 1) hC (fun _ => rfl) (by decide) lw_in0 dL_traceAt_9 ?_
    rw [jn_l]
    refine ga_goto (tgt := 25) hC dL_traceAt_10 (by decide) ?_
    refine ga_iconst (v := 0) hC dL_traceAt_25 (by decide) ?_
    exact gx_iret hC dL_traceAt_26 ⟨Nat.le_of_ble_eq_true rfl, Nat.le_of_ble_eq_true rfl⟩ ⟨_, _, _, _, rfl, rfl, h⟩
def M_L_traceAbove (v1 : Int32) (a b : cg_S) (o : Nat → Int64) (od : Nat → UInt64) (Q : Int32 → cg_S → (Nat → Int64) → (Nat → UInt64) → Prop) : Prop := cl_M yL_traceAbove cL_traceAbove 4 [(0, 8, 11, 21), (0, 8, 14, 15), (0, 8, 17, 107)] (cg_RX 6 3) 3 18 (fun ad => [.ref (ad 0), .int v1, .ref (ad 121)]) (jn a b o od) (fun _ v τ => ∃ (k : Int32) (a1 : cg_S) (o1 : Nat → Int64) (od1 : Nat → UInt64), v = some (.int k) ∧ τ = jn a1 b o1 od1 ∧ Q k a1 o1 od1)
set_option maxRecDepth 100000 in
set_option maxHeartbeats 4000000 in
theorem w_traceAbove {v1 : Int32} {a b : cg_S} {o : Nat → Int64} {od : Nat → UInt64} {Q : Int32 → cg_S → (Nat → Int64) → (Nat → UInt64) → Prop}
    (h : M_X11_traceAbove v1 a (fun r a1 => Q 0 a1 (vp_updL o 0 r) od) (fun E a1 => (E = "java/lang/IndexOutOfBoundsException" ∧ Q 1 a1 o od) ∨ (E = "java/lang/IllegalStateException" ∧ Q 2 a1 o od) ∨ (E = "java/util/NoSuchElementException" ∧ Q 3 a1 o od))) : M_L_traceAbove v1 a b o od Q := by
  refine cl_entry (lv := fun ad => [(0, .ref (ad 0)), (1, .int v1), (2, .ref (ad 121))]) (by decide +kernel) rfl (fun _ => rfl) (fun _ => Nat.le_of_ble_eq_true rfl) ?_
  intro p l e s m args below meth c D cy ad hY
  have hC := hY.1
  refine ga_aload_n hC dL_traceAbove_0 2 rfl rfl ?_
  refine ga_iconst (v := 0) hC dL_traceAbove_1 (by decide) ?_
  refine ga_aload_n hC dL_traceAbove_2 0 rfl rfl ?_
  refine ga_iload_n hC dL_traceAbove_3 1 rfl rfl ?_
  refine gl_callX (As := [.int v1]) (st := [.int 0, .ref (ad 121)]) (n := 1) (hs := [("java/lang/IndexOutOfBoundsException", 11, 21), ("java/lang/IllegalStateException", 14, 15), ("java/util/NoSuchElementException", 17, 107)]) (sp := 0) (ep := 8) hY h lw_cst (cg_in6 60 (by decide +kernel) (by decide +kernel)) (cg_in6 61 (by decide +kernel) (by decide +kernel)) (cg_in6 62 (by decide +kernel) (by decide +kernel)) (cg_in1 1 (by decide +kernel) (by decide +kernel)) (cg_in6 63 (by decide +kernel) (by decide +kernel)) rfl rfl rfl (by decide +kernel) ⟨Nat.le_of_ble_eq_true rfl, Nat.le_of_ble_eq_true rfl⟩ ⟨Nat.le_of_ble_eq_true rfl, Nat.le_of_ble_eq_true rfl⟩ rfl rfl (Nat.le_of_ble_eq_true rfl) dL_traceAbove_4 rfl ⟨by decide, by decide⟩ (List.forall_mem_cons.mpr ⟨⟨by decide, by decide, (cg_in3 221 (by decide +kernel) (by decide +kernel))⟩, (List.forall_mem_cons.mpr ⟨⟨by decide, by decide, (cg_in3 118 (by decide +kernel) (by decide +kernel))⟩, (List.forall_mem_cons.mpr ⟨⟨by decide, by decide, (cg_in5 197 (by decide +kernel) (by decide +kernel))⟩, fun _ h => absurd h List.not_mem_nil⟩)⟩)⟩) (fun E a1 hx => ?_) (fun v a1 hq => ?_)
  · rcases hx with ⟨rfl, hx⟩ | ⟨rfl, hx⟩ | ⟨rfl, hx⟩
    · refine ⟨[], [("java/lang/IllegalStateException", 14, 15), ("java/util/NoSuchElementException", 17, 107)], 11, 21, rfl, by decide, fun q => ?_⟩
      refine ga_astore_n (lv' := [(3, .ref q), (0, .ref (ad 0)), (1, .int v1), (2, .ref (ad 121))]) hC dL_traceAbove_11 rfl (by decide) rfl ?_
      refine ga_iconst (v := 1) hC dL_traceAbove_12 (by decide) ?_
      exact gx_iret hC dL_traceAbove_13 ⟨Nat.le_of_ble_eq_true rfl, Nat.le_of_ble_eq_true rfl⟩ ⟨_, _, _, _, rfl, rfl, hx⟩
    · refine ⟨[("java/lang/IndexOutOfBoundsException", 11, 21)], [("java/util/NoSuchElementException", 17, 107)], 14, 15, rfl, by decide, fun q => ?_⟩
      refine ga_astore_n (lv' := [(3, .ref q), (0, .ref (ad 0)), (1, .int v1), (2, .ref (ad 121))]) hC dL_traceAbove_14 rfl (by decide) rfl ?_
      refine ga_iconst (v := 2) hC dL_traceAbove_15 (by decide) ?_
      exact gx_iret hC dL_traceAbove_16 ⟨Nat.le_of_ble_eq_true rfl, Nat.le_of_ble_eq_true rfl⟩ ⟨_, _, _, _, rfl, rfl, hx⟩
    · refine ⟨[("java/lang/IndexOutOfBoundsException", 11, 21), ("java/lang/IllegalStateException", 14, 15)], [], 17, 107, rfl, by decide, fun q => ?_⟩
      refine ga_astore_n (lv' := [(3, .ref q), (0, .ref (ad 0)), (1, .int v1), (2, .ref (ad 121))]) hC dL_traceAbove_17 rfl (by decide) rfl ?_
      refine ga_iconst (v := 3) hC dL_traceAbove_18 (by decide) ?_
      exact gx_iret hC dL_traceAbove_19 ⟨Nat.le_of_ble_eq_true rfl, Nat.le_of_ble_eq_true rfl⟩ ⟨_, _, _, _, rfl, rfl, hx⟩
  · obtain ⟨r, rfl, h⟩ := hq
    refine ga_last (k := 121) (n := 1) hC (fun _ => rfl) (by decide) lw_in0 dL_traceAbove_7 ?_
    rw [jn_l]
    refine ga_goto (tgt := 20) hC dL_traceAbove_8 (by decide) ?_
    refine ga_iconst (v := 0) hC dL_traceAbove_20 (by decide) ?_
    exact gx_iret hC dL_traceAbove_21 ⟨Nat.le_of_ble_eq_true rfl, Nat.le_of_ble_eq_true rfl⟩ ⟨_, _, _, _, rfl, rfl, h⟩
def M_L_traceBelow (v1 : Int32) (a b : cg_S) (o : Nat → Int64) (od : Nat → UInt64) (Q : Int32 → cg_S → (Nat → Int64) → (Nat → UInt64) → Prop) : Prop := cl_M yL_traceBelow cL_traceBelow 4 [(0, 8, 11, 21), (0, 8, 14, 15), (0, 8, 17, 107)] (cg_RX 6 3) 3 18 (fun ad => [.ref (ad 0), .int v1, .ref (ad 121)]) (jn a b o od) (fun _ v τ => ∃ (k : Int32) (a1 : cg_S) (o1 : Nat → Int64) (od1 : Nat → UInt64), v = some (.int k) ∧ τ = jn a1 b o1 od1 ∧ Q k a1 o1 od1)
set_option maxRecDepth 100000 in
set_option maxHeartbeats 4000000 in
theorem w_traceBelow {v1 : Int32} {a b : cg_S} {o : Nat → Int64} {od : Nat → UInt64} {Q : Int32 → cg_S → (Nat → Int64) → (Nat → UInt64) → Prop}
    (h : M_X11_traceBelow v1 a (fun r a1 => Q 0 a1 (vp_updL o 0 r) od) (fun E a1 => (E = "java/lang/IndexOutOfBoundsException" ∧ Q 1 a1 o od) ∨ (E = "java/lang/IllegalStateException" ∧ Q 2 a1 o od) ∨ (E = "java/util/NoSuchElementException" ∧ Q 3 a1 o od))) : M_L_traceBelow v1 a b o od Q := by
  refine cl_entry (lv := fun ad => [(0, .ref (ad 0)), (1, .int v1), (2, .ref (ad 121))]) (by decide +kernel) rfl (fun _ => rfl) (fun _ => Nat.le_of_ble_eq_true rfl) ?_
  intro p l e s m args below meth c D cy ad hY
  have hC := hY.1
  refine ga_aload_n hC dL_traceBelow_0 2 rfl rfl ?_
  refine ga_iconst (v := 0) hC dL_traceBelow_1 (by decide) ?_
  refine ga_aload_n hC dL_traceBelow_2 0 rfl rfl ?_
  refine ga_iload_n hC dL_traceBelow_3 1 rfl rfl ?_
  refine gl_callX (As := [.int v1]) (st := [.int 0, .ref (ad 121)]) (n := 1) (hs := [("java/lang/IndexOutOfBoundsException", 11, 21), ("java/lang/IllegalStateException", 14, 15), ("java/util/NoSuchElementException", 17, 107)]) (sp := 0) (ep := 8) hY h lw_cst (cg_in6 67 (by decide +kernel) (by decide +kernel)) (cg_in6 68 (by decide +kernel) (by decide +kernel)) (cg_in6 69 (by decide +kernel) (by decide +kernel)) (cg_in1 1 (by decide +kernel) (by decide +kernel)) (cg_in6 70 (by decide +kernel) (by decide +kernel)) rfl rfl rfl (by decide +kernel) ⟨Nat.le_of_ble_eq_true rfl, Nat.le_of_ble_eq_true rfl⟩ ⟨Nat.le_of_ble_eq_true rfl, Nat.le_of_ble_eq_true rfl⟩ rfl rfl (Nat.le_of_ble_eq_true rfl) dL_traceBelow_4 rfl ⟨by decide, by decide⟩ (List.forall_mem_cons.mpr ⟨⟨by decide, by decide, (cg_in3 221 (by decide +kernel) (by decide +kernel))⟩, (List.forall_mem_cons.mpr ⟨⟨by decide, by decide, (cg_in3 118 (by decide +kernel) (by decide +kernel))⟩, (List.forall_mem_cons.mpr ⟨⟨by decide, by decide, (cg_in5 197 (by decide +kernel) (by decide +kernel))⟩, fun _ h => absurd h List.not_mem_nil⟩)⟩)⟩) (fun E a1 hx => ?_) (fun v a1 hq => ?_)
  · rcases hx with ⟨rfl, hx⟩ | ⟨rfl, hx⟩ | ⟨rfl, hx⟩
    · refine ⟨[], [("java/lang/IllegalStateException", 14, 15), ("java/util/NoSuchElementException", 17, 107)], 11, 21, rfl, by decide, fun q => ?_⟩
      refine ga_astore_n (lv' := [(3, .ref q), (0, .ref (ad 0)), (1, .int v1), (2, .ref (ad 121))]) hC dL_traceBelow_11 rfl (by decide) rfl ?_
      refine ga_iconst (v := 1) hC dL_traceBelow_12 (by decide) ?_
      exact gx_iret hC dL_traceBelow_13 ⟨Nat.le_of_ble_eq_true rfl, Nat.le_of_ble_eq_true rfl⟩ ⟨_, _, _, _, rfl, rfl, hx⟩
    · refine ⟨[("java/lang/IndexOutOfBoundsException", 11, 21)], [("java/util/NoSuchElementException", 17, 107)], 14, 15, rfl, by decide, fun q => ?_⟩
      refine ga_astore_n (lv' := [(3, .ref q), (0, .ref (ad 0)), (1, .int v1), (2, .ref (ad 121))]) hC dL_traceBelow_14 rfl (by decide) rfl ?_
      refine ga_iconst (v := 2) hC dL_traceBelow_15 (by decide) ?_
      exact gx_iret hC dL_traceBelow_16 ⟨Nat.le_of_ble_eq_true rfl, Nat.le_of_ble_eq_true rfl⟩ ⟨_, _, _, _, rfl, rfl, hx⟩
    · refine ⟨[("java/lang/IndexOutOfBoundsException", 11, 21), ("java/lang/IllegalStateException", 14, 15)], [], 17, 107, rfl, by decide, fun q => ?_⟩
      refine ga_astore_n (lv' := [(3, .ref q), (0, .ref (ad 0)), (1, .int v1), (2, .ref (ad 121))]) hC dL_traceBelow_17 rfl (by decide) rfl ?_
      refine ga_iconst (v := 3) hC dL_traceBelow_18 (by decide) ?_
      exact gx_iret hC dL_traceBelow_19 ⟨Nat.le_of_ble_eq_true rfl, Nat.le_of_ble_eq_true rfl⟩ ⟨_, _, _, _, rfl, rfl, hx⟩
  · obtain ⟨r, rfl, h⟩ := hq
    refine ga_last (k := 121) (n := 1) hC (fun _ => rfl) (by decide) lw_in0 dL_traceBelow_7 ?_
    rw [jn_l]
    refine ga_goto (tgt := 20) hC dL_traceBelow_8 (by decide) ?_
    refine ga_iconst (v := 0) hC dL_traceBelow_20 (by decide) ?_
    exact gx_iret hC dL_traceBelow_21 ⟨Nat.le_of_ble_eq_true rfl, Nat.le_of_ble_eq_true rfl⟩ ⟨_, _, _, _, rfl, rfl, h⟩
def M_L_meanChoices  (a b : cg_S) (o : Nat → Int64) (od : Nat → UInt64) (Q : Int32 → cg_S → (Nat → Int64) → (Nat → UInt64) → Prop) : Prop := cl_M yL_meanChoices cL_meanChoices 3 [(0, 7, 10, 45)] (cg_RX 1 1) 1 6 (fun ad => [.ref (ad 0), .ref (ad 122)]) (jn a b o od) (fun _ v τ => ∃ (k : Int32) (a1 : cg_S) (o1 : Nat → Int64) (od1 : Nat → UInt64), v = some (.int k) ∧ τ = jn a1 b o1 od1 ∧ Q k a1 o1 od1)
set_option maxRecDepth 100000 in
set_option maxHeartbeats 4000000 in
theorem w_meanChoices {a b : cg_S} {o : Nat → Int64} {od : Nat → UInt64} {Q : Int32 → cg_S → (Nat → Int64) → (Nat → UInt64) → Prop}
    (h : M_X11_meanChoices  a (fun r a1 => Q 0 a1 o (vf_upd od 0 r)) (fun E a1 => (E = "java/lang/ArithmeticException" ∧ Q 1 a1 o od))) : M_L_meanChoices  a b o od Q := by
  refine cl_entry (lv := fun ad => [(0, .ref (ad 0)), (1, .ref (ad 122))]) (by decide +kernel) rfl (fun _ => rfl) (fun _ => Nat.le_of_ble_eq_true rfl) ?_
  intro p l e s m args below meth c D cy ad hY
  have hC := hY.1
  refine ga_aload_n hC dL_meanChoices_0 1 rfl rfl ?_
  refine ga_iconst (v := 0) hC dL_meanChoices_1 (by decide) ?_
  refine ga_aload_n hC dL_meanChoices_2 0 rfl rfl ?_
  refine gl_callX (As := []) (st := [.int 0, .ref (ad 122)]) (n := 0) (hs := [("java/lang/ArithmeticException", 10, 45)]) (sp := 0) (ep := 7) hY h lw_cst (cg_in6 74 (by decide +kernel) (by decide +kernel)) (cg_in6 75 (by decide +kernel) (by decide +kernel)) (cg_in6 76 (by decide +kernel) (by decide +kernel)) (cg_in1 1 (by decide +kernel) (by decide +kernel)) (cg_in6 77 (by decide +kernel) (by decide +kernel)) rfl rfl rfl (by decide +kernel) ⟨Nat.le_of_ble_eq_true rfl, Nat.le_of_ble_eq_true rfl⟩ ⟨Nat.le_of_ble_eq_true rfl, Nat.le_of_ble_eq_true rfl⟩ rfl rfl (Nat.le_of_ble_eq_true rfl) dL_meanChoices_3 rfl ⟨by decide, by decide⟩ (List.forall_mem_cons.mpr ⟨⟨by decide, by decide, (cg_in4 106 (by decide +kernel) (by decide +kernel))⟩, fun _ h => absurd h List.not_mem_nil⟩) (fun E a1 hx => ?_) (fun v a1 hq => ?_)
  · obtain ⟨rfl, hx⟩ := hx
    refine ⟨[], [], 10, 45, rfl, by decide, fun q => ?_⟩
    refine ga_astore_n (lv' := [(2, .ref q), (0, .ref (ad 0)), (1, .ref (ad 122))]) hC dL_meanChoices_10 rfl (by decide) rfl ?_
    refine ga_iconst (v := 1) hC dL_meanChoices_11 (by decide) ?_
    exact gx_iret hC dL_meanChoices_12 ⟨Nat.le_of_ble_eq_true rfl, Nat.le_of_ble_eq_true rfl⟩ ⟨_, _, _, _, rfl, rfl, hx⟩
  · obtain ⟨r, rfl, h⟩ := hq
    refine ga_dast (k := 122) (n := 1) hC (fun _ => rfl) (by decide) lw_in0 dL_meanChoices_6 ?_
    rw [jn_d']
    refine ga_goto (tgt := 13) hC dL_meanChoices_7 (by decide) ?_
    refine ga_iconst (v := 0) hC dL_meanChoices_13 (by decide) ?_
    exact gx_iret hC dL_meanChoices_14 ⟨Nat.le_of_ble_eq_true rfl, Nat.le_of_ble_eq_true rfl⟩ ⟨_, _, _, _, rfl, rfl, h⟩
