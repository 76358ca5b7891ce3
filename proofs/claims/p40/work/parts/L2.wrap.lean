def M_L_addState (v1 : Int32) (v2 : Int32) (σ : cg_S) (Q : Int32 → cg_S → Prop) : Prop := cp_M cg_WC yL_addState (Cond.codeWith yL_addState cL_addState 4 (some .int) [(0, 6, 7, 20), (0, 6, 11, 22)]) (cg_RX 2 2) 2 12 (fun ad => [.ref (ad 0), .int v1, .int v2]) σ (cg_qi Q)
theorem M_L_addState.mono {v1 : Int32} {v2 : Int32} {σ : cg_S} {Q Q2 : Int32 → cg_S → Prop} (h : M_L_addState v1 v2 σ Q) (hq : ∀ r τ, Q r τ → Q2 r τ) : M_L_addState v1 v2 σ Q2 := cp_M.mono h (fun ad v τ ⟨r, e, q⟩ => ⟨r, e, hq r τ q⟩)
set_option maxRecDepth 100000 in
set_option maxHeartbeats 4000000 in
theorem w_addState {v1 : Int32} {v2 : Int32} {σ : cg_S} {Q : Int32 → cg_S → Prop}
    (h : M_X11_addState v1 v2 σ (fun r τ => Q r τ) (fun E τ => (E = "java/lang/IllegalArgumentException" ∧ Q (-78) τ) ∨ (E = "java/lang/IllegalStateException" ∧ Q (-79) τ))) : M_L_addState v1 v2 σ Q := by
  refine cp_entryW (lv := fun ad => [(0, .ref (ad 0)), (1, .int v1), (2, .int v2)]) (by decide +kernel) (fun _ => rfl) (fun _ => Nat.le_of_ble_eq_true rfl) ?_
  intro p l e s m args below meth c D cy ad hY
  have hC := hY.1
  refine ga_aload_n hC dL_addState_0 0 rfl rfl ?_
  refine ga_iload_n hC dL_addState_1 1 rfl rfl ?_
  refine ga_iload_n hC dL_addState_2 2 rfl rfl ?_
  refine gp_callX (As := [.int v1, .int v2]) (st := []) (n := 2) (hs := [("java/lang/IllegalArgumentException", 7, 20), ("java/lang/IllegalStateException", 11, 22)]) (sp := 0) (ep := 6) hY h (cg_in3 124 (by decide +kernel) (by decide +kernel)) (cg_in3 125 (by decide +kernel) (by decide +kernel)) (cg_in3 126 (by decide +kernel) (by decide +kernel)) (cg_in1 1 (by decide +kernel) (by decide +kernel)) (cg_in3 127 (by decide +kernel) (by decide +kernel)) rfl rfl rfl (by decide +kernel) ⟨Nat.le_of_ble_eq_true rfl, Nat.le_of_ble_eq_true rfl⟩ ⟨Nat.le_of_ble_eq_true rfl, Nat.le_of_ble_eq_true rfl⟩ rfl rfl (Nat.le_of_ble_eq_true rfl) dL_addState_3 rfl ⟨by decide, by decide⟩ (List.forall_mem_cons.mpr ⟨⟨by decide, by decide, (cg_in3 122 (by decide +kernel) (by decide +kernel))⟩, (List.forall_mem_cons.mpr ⟨⟨by decide, by decide, (cg_in3 123 (by decide +kernel) (by decide +kernel))⟩, fun _ h => absurd h List.not_mem_nil⟩)⟩) (fun E τ hx => ?_) (fun v τ hq => ?_)
  · rcases hx with ⟨rfl, hx⟩ | ⟨rfl, hx⟩
    · refine ⟨[], [("java/lang/IllegalStateException", 11, 22)], 7, 20, rfl, by decide, fun q => ?_⟩
      refine ga_astore_n (lv' := [(3, .ref q), (0, .ref (ad 0)), (1, .int v1), (2, .int v2)]) hC dL_addState_7 rfl (by decide) rfl ?_
      refine ga_bipush (v := (-78)) hC dL_addState_8 (by decide) ?_
      exact gx_iret hC dL_addState_10 ⟨Nat.le_of_ble_eq_true rfl, Nat.le_of_ble_eq_true rfl⟩ ⟨_, rfl, hx⟩
    · refine ⟨[("java/lang/IllegalArgumentException", 7, 20)], [], 11, 22, rfl, by decide, fun q => ?_⟩
      refine ga_astore_n (lv' := [(3, .ref q), (0, .ref (ad 0)), (1, .int v1), (2, .int v2)]) hC dL_addState_11 rfl (by decide) rfl ?_
      refine ga_bipush (v := (-79)) hC dL_addState_12 (by decide) ?_
      exact gx_iret hC dL_addState_14 ⟨Nat.le_of_ble_eq_true rfl, Nat.le_of_ble_eq_true rfl⟩ ⟨_, rfl, hx⟩
  · obtain ⟨r, rfl, h⟩ := hq
    exact gx_iret hC dL_addState_6 ⟨Nat.le_of_ble_eq_true rfl, Nat.le_of_ble_eq_true rfl⟩ ⟨_, rfl, h⟩
def M_L_addChoice (v1 : Int32) (v2 : Int32) (v3 : Int32) (σ : cg_S) (Q : Int32 → cg_S → Prop) : Prop := cp_M cg_WC yL_addChoice (Cond.codeWith yL_addChoice cL_addChoice 5 (some .int) [(0, 7, 8, 28), (0, 7, 13, 20), (0, 7, 18, 22)]) (cg_RX 3 2) 2 12 (fun ad => [.ref (ad 0), .int v1, .int v2, .int v3]) σ (cg_qi Q)
theorem M_L_addChoice.mono {v1 : Int32} {v2 : Int32} {v3 : Int32} {σ : cg_S} {Q Q2 : Int32 → cg_S → Prop} (h : M_L_addChoice v1 v2 v3 σ Q) (hq : ∀ r τ, Q r τ → Q2 r τ) : M_L_addChoice v1 v2 v3 σ Q2 := cp_M.mono h (fun ad v τ ⟨r, e, q⟩ => ⟨r, e, hq r τ q⟩)
set_option maxRecDepth 100000 in
set_option maxHeartbeats 4000000 in
theorem w_addChoice {v1 : Int32} {v2 : Int32} {v3 : Int32} {σ : cg_S} {Q : Int32 → cg_S → Prop}
    (h : M_X11_addChoice v1 v2 v3 σ (fun r τ => Q r τ) (fun E τ => (E = "java/lang/IndexOutOfBoundsException" ∧ Q (-77) τ) ∨ (E = "java/lang/IllegalArgumentException" ∧ Q (-78) τ) ∨ (E = "java/lang/IllegalStateException" ∧ Q (-79) τ))) : M_L_addChoice v1 v2 v3 σ Q := by
  refine cp_entryW (lv := fun ad => [(0, .ref (ad 0)), (1, .int v1), (2, .int v2), (3, .int v3)]) (by decide +kernel) (fun _ => rfl) (fun _ => Nat.le_of_ble_eq_true rfl) ?_
  intro p l e s m args below meth c D cy ad hY
  have hC := hY.1
  refine ga_aload_n hC dL_addChoice_0 0 rfl rfl ?_
  refine ga_iload_n hC dL_addChoice_1 1 rfl rfl ?_
  refine ga_iload_n hC dL_addChoice_2 2 rfl rfl ?_
  refine ga_iload_n hC dL_addChoice_3 3 rfl rfl ?_
  refine gp_callX (As := [.int v1, .int v2, .int v3]) (st := []) (n := 3) (hs := [("java/lang/IndexOutOfBoundsException", 8, 28), ("java/lang/IllegalArgumentException", 13, 20), ("java/lang/IllegalStateException", 18, 22)]) (sp := 0) (ep := 7) hY h (cg_in4 10 (by decide +kernel) (by decide +kernel)) (cg_in4 11 (by decide +kernel) (by decide +kernel)) (cg_in4 12 (by decide +kernel) (by decide +kernel)) (cg_in1 1 (by decide +kernel) (by decide +kernel)) (cg_in4 13 (by decide +kernel) (by decide +kernel)) rfl rfl rfl (by decide +kernel) ⟨Nat.le_of_ble_eq_true rfl, Nat.le_of_ble_eq_true rfl⟩ ⟨Nat.le_of_ble_eq_true rfl, Nat.le_of_ble_eq_true rfl⟩ rfl rfl (Nat.le_of_ble_eq_true rfl) dL_addChoice_4 rfl ⟨by decide, by decide⟩ (List.forall_mem_cons.mpr ⟨⟨by decide, by decide, (cg_in3 226 (by decide +kernel) (by decide +kernel))⟩, (List.forall_mem_cons.mpr ⟨⟨by decide, by decide, (cg_in3 122 (by decide +kernel) (by decide +kernel))⟩, (List.forall_mem_cons.mpr ⟨⟨by decide, by decide, (cg_in3 123 (by decide +kernel) (by decide +kernel))⟩, fun _ h => absurd h List.not_mem_nil⟩)⟩)⟩) (fun E τ hx => ?_) (fun v τ hq => ?_)
  · rcases hx with ⟨rfl, hx⟩ | ⟨rfl, hx⟩ | ⟨rfl, hx⟩
    · refine ⟨[], [("java/lang/IllegalArgumentException", 13, 20), ("java/lang/IllegalStateException", 18, 22)], 8, 28, rfl, by decide, fun q => ?_⟩
      refine ga_astore (lv' := [(4, .ref q), (0, .ref (ad 0)), (1, .int v1), (2, .int v2), (3, .int v3)]) hC dL_addChoice_8 (by decide) rfl ?_
      refine ga_bipush (v := (-77)) hC dL_addChoice_10 (by decide) ?_
      exact gx_iret hC dL_addChoice_12 ⟨Nat.le_of_ble_eq_true rfl, Nat.le_of_ble_eq_true rfl⟩ ⟨_, rfl, hx⟩
    · refine ⟨[("java/lang/IndexOutOfBoundsException", 8, 28)], [("java/lang/IllegalStateException", 18, 22)], 13, 20, rfl, by decide, fun q => ?_⟩
      refine ga_astore (lv' := [(4, .ref q), (0, .ref (ad 0)), (1, .int v1), (2, .int v2), (3, .int v3)]) hC dL_addChoice_13 (by decide) rfl ?_
      refine ga_bipush (v := (-78)) hC dL_addChoice_15 (by decide) ?_
      exact gx_iret hC dL_addChoice_17 ⟨Nat.le_of_ble_eq_true rfl, Nat.le_of_ble_eq_true rfl⟩ ⟨_, rfl, hx⟩
    · refine ⟨[("java/lang/IndexOutOfBoundsException", 8, 28), ("java/lang/IllegalArgumentException", 13, 20)], [], 18, 22, rfl, by decide, fun q => ?_⟩
      refine ga_astore (lv' := [(4, .ref q), (0, .ref (ad 0)), (1, .int v1), (2, .int v2), (3, .int v3)]) hC dL_addChoice_18 (by decide) rfl ?_
      refine ga_bipush (v := (-79)) hC dL_addChoice_20 (by decide) ?_
      exact gx_iret hC dL_addChoice_22 ⟨Nat.le_of_ble_eq_true rfl, Nat.le_of_ble_eq_true rfl⟩ ⟨_, rfl, hx⟩
  · obtain ⟨r, rfl, h⟩ := hq
    exact gx_iret hC dL_addChoice_7 ⟨Nat.le_of_ble_eq_true rfl, Nat.le_of_ble_eq_true rfl⟩ ⟨_, rfl, h⟩
def M_L_addWeight (v1 : Int32) (v2 : Int32) (v3 : Int32) (v4 : Int32) (σ : cg_S) (Q : Int32 → cg_S → Prop) : Prop := cp_M cg_WC yL_addWeight (Cond.codeWith yL_addWeight cL_addWeight 6 (some .int) [(0, 9, 10, 28), (0, 9, 15, 20), (0, 9, 20, 22)]) (cg_RX 4 3) 3 18 (fun ad => [.ref (ad 0), .int v1, .int v2, .int v3, .int v4]) σ (cg_qi Q)
theorem M_L_addWeight.mono {v1 : Int32} {v2 : Int32} {v3 : Int32} {v4 : Int32} {σ : cg_S} {Q Q2 : Int32 → cg_S → Prop} (h : M_L_addWeight v1 v2 v3 v4 σ Q) (hq : ∀ r τ, Q r τ → Q2 r τ) : M_L_addWeight v1 v2 v3 v4 σ Q2 := cp_M.mono h (fun ad v τ ⟨r, e, q⟩ => ⟨r, e, hq r τ q⟩)
set_option maxRecDepth 100000 in
set_option maxHeartbeats 4000000 in
theorem w_addWeight {v1 : Int32} {v2 : Int32} {v3 : Int32} {v4 : Int32} {σ : cg_S} {Q : Int32 → cg_S → Prop}
    (h : M_X11_addWeight v1 v2 v3 v4 σ (fun r τ => Q r τ) (fun E τ => (E = "java/lang/IndexOutOfBoundsException" ∧ Q (-77) τ) ∨ (E = "java/lang/IllegalArgumentException" ∧ Q (-78) τ) ∨ (E = "java/lang/IllegalStateException" ∧ Q (-79) τ))) : M_L_addWeight v1 v2 v3 v4 σ Q := by
  refine cp_entryW (lv := fun ad => [(0, .ref (ad 0)), (1, .int v1), (2, .int v2), (3, .int v3), (4, .int v4)]) (by decide +kernel) (fun _ => rfl) (fun _ => Nat.le_of_ble_eq_true rfl) ?_
  intro p l e s m args below meth c D cy ad hY
  have hC := hY.1
  refine ga_aload_n hC dL_addWeight_0 0 rfl rfl ?_
  refine ga_iload_n hC dL_addWeight_1 1 rfl rfl ?_
  refine ga_iload_n hC dL_addWeight_2 2 rfl rfl ?_
  refine ga_iload_n hC dL_addWeight_3 3 rfl rfl ?_
  refine ga_iload hC dL_addWeight_4 4 rfl ?_
  refine gp_callX (As := [.int v1, .int v2, .int v3, .int v4]) (st := []) (n := 4) (hs := [("java/lang/IndexOutOfBoundsException", 10, 28), ("java/lang/IllegalArgumentException", 15, 20), ("java/lang/IllegalStateException", 20, 22)]) (sp := 0) (ep := 9) hY h (cg_in4 44 (by decide +kernel) (by decide +kernel)) (cg_in4 45 (by decide +kernel) (by decide +kernel)) (cg_in4 46 (by decide +kernel) (by decide +kernel)) (cg_in1 1 (by decide +kernel) (by decide +kernel)) (cg_in4 47 (by decide +kernel) (by decide +kernel)) rfl rfl rfl (by decide +kernel) ⟨Nat.le_of_ble_eq_true rfl, Nat.le_of_ble_eq_true rfl⟩ ⟨Nat.le_of_ble_eq_true rfl, Nat.le_of_ble_eq_true rfl⟩ rfl rfl (Nat.le_of_ble_eq_true rfl) dL_addWeight_6 rfl ⟨by decide, by decide⟩ (List.forall_mem_cons.mpr ⟨⟨by decide, by decide, (cg_in3 226 (by decide +kernel) (by decide +kernel))⟩, (List.forall_mem_cons.mpr ⟨⟨by decide, by decide, (cg_in3 122 (by decide +kernel) (by decide +kernel))⟩, (List.forall_mem_cons.mpr ⟨⟨by decide, by decide, (cg_in3 123 (by decide +kernel) (by decide +kernel))⟩, fun _ h => absurd h List.not_mem_nil⟩)⟩)⟩) (fun E τ hx => ?_) (fun v τ hq => ?_)
  · rcases hx with ⟨rfl, hx⟩ | ⟨rfl, hx⟩ | ⟨rfl, hx⟩
    · refine ⟨[], [("java/lang/IllegalArgumentException", 15, 20), ("java/lang/IllegalStateException", 20, 22)], 10, 28, rfl, by decide, fun q => ?_⟩
      refine ga_astore (lv' := [(5, .ref q), (0, .ref (ad 0)), (1, .int v1), (2, .int v2), (3, .int v3), (4, .int v4)]) hC dL_addWeight_10 (by decide) rfl ?_
      refine ga_bipush (v := (-77)) hC dL_addWeight_12 (by decide) ?_
      exact gx_iret hC dL_addWeight_14 ⟨Nat.le_of_ble_eq_true rfl, Nat.le_of_ble_eq_true rfl⟩ ⟨_, rfl, hx⟩
    · refine ⟨[("java/lang/IndexOutOfBoundsException", 10, 28)], [("java/lang/IllegalStateException", 20, 22)], 15, 20, rfl, by decide, fun q => ?_⟩
      refine ga_astore (lv' := [(5, .ref q), (0, .ref (ad 0)), (1, .int v1), (2, .int v2), (3, .int v3), (4, .int v4)]) hC dL_addWeight_15 (by decide) rfl ?_
      refine ga_bipush (v := (-78)) hC dL_addWeight_17 (by decide) ?_
      exact gx_iret hC dL_addWeight_19 ⟨Nat.le_of_ble_eq_true rfl, Nat.le_of_ble_eq_true rfl⟩ ⟨_, rfl, hx⟩
    · refine ⟨[("java/lang/IndexOutOfBoundsException", 10, 28), ("java/lang/IllegalArgumentException", 15, 20)], [], 20, 22, rfl, by decide, fun q => ?_⟩
      refine ga_astore (lv' := [(5, .ref q), (0, .ref (ad 0)), (1, .int v1), (2, .int v2), (3, .int v3), (4, .int v4)]) hC dL_addWeight_20 (by decide) rfl ?_
      refine ga_bipush (v := (-79)) hC dL_addWeight_22 (by decide) ?_
      exact gx_iret hC dL_addWeight_24 ⟨Nat.le_of_ble_eq_true rfl, Nat.le_of_ble_eq_true rfl⟩ ⟨_, rfl, hx⟩
  · obtain ⟨r, rfl, h⟩ := hq
    exact gx_iret hC dL_addWeight_9 ⟨Nat.le_of_ble_eq_true rfl, Nat.le_of_ble_eq_true rfl⟩ ⟨_, rfl, h⟩
def M_L_setTarget (v1 : Int32) (v2 : Int32) (σ : cg_S) (Q : Int32 → cg_S → Prop) : Prop := cp_M cg_WC yL_setTarget (Cond.codeWith yL_setTarget cL_setTarget 4 (some .int) [(0, 14, 15, 28)]) (cg_RX 4 1) 1 6 (fun ad => [.ref (ad 0), .int v1, .int v2]) σ (cg_qi Q)
theorem M_L_setTarget.mono {v1 : Int32} {v2 : Int32} {σ : cg_S} {Q Q2 : Int32 → cg_S → Prop} (h : M_L_setTarget v1 v2 σ Q) (hq : ∀ r τ, Q r τ → Q2 r τ) : M_L_setTarget v1 v2 σ Q2 := cp_M.mono h (fun ad v τ ⟨r, e, q⟩ => ⟨r, e, hq r τ q⟩)
set_option maxRecDepth 100000 in
set_option maxHeartbeats 4000000 in
theorem w_setTarget {v1 : Int32} {v2 : Int32} {σ : cg_S} {Q : Int32 → cg_S → Prop}
    (h : M_X11_setTarget v1 v2 σ (fun r τ => (r = 0 → Q 0 τ) ∧ (¬ r = 0 → Q 1 τ)) (fun E τ => (E = "java/lang/IndexOutOfBoundsException" ∧ Q (-77) τ))) : M_L_setTarget v1 v2 σ Q := by
  refine cp_entryW (lv := fun ad => [(0, .ref (ad 0)), (1, .int v1), (2, .int v2)]) (by decide +kernel) (fun _ => rfl) (fun _ => Nat.le_of_ble_eq_true rfl) ?_
  intro p l e s m args below meth c D cy ad hY
  have hC := hY.1
  refine ga_aload_n hC dL_setTarget_0 0 rfl rfl ?_
  refine ga_iload_n hC dL_setTarget_1 1 rfl rfl ?_
  refine ga_iload_n hC dL_setTarget_2 2 rfl rfl ?_
  refine gp_callX (As := [.int v1, .int v2]) (st := []) (n := 2) (hs := [("java/lang/IndexOutOfBoundsException", 15, 28)]) (sp := 0) (ep := 14) hY h (cg_in4 68 (by decide +kernel) (by decide +kernel)) (cg_in4 69 (by decide +kernel) (by decide +kernel)) (cg_in4 70 (by decide +kernel) (by decide +kernel)) (cg_in1 1 (by decide +kernel) (by decide +kernel)) (cg_in4 71 (by decide +kernel) (by decide +kernel)) rfl rfl rfl (by decide +kernel) ⟨Nat.le_of_ble_eq_true rfl, Nat.le_of_ble_eq_true rfl⟩ ⟨Nat.le_of_ble_eq_true rfl, Nat.le_of_ble_eq_true rfl⟩ rfl rfl (Nat.le_of_ble_eq_true rfl) dL_setTarget_3 rfl ⟨by decide, by decide⟩ (List.forall_mem_cons.mpr ⟨⟨by decide, by decide, (cg_in3 226 (by decide +kernel) (by decide +kernel))⟩, fun _ h => absurd h List.not_mem_nil⟩) (fun E τ hx => ?_) (fun v τ hq => ?_)
  · obtain ⟨rfl, hx⟩ := hx
    refine ⟨[], [], 15, 28, rfl, by decide, fun q => ?_⟩
    refine ga_astore_n (lv' := [(3, .ref q), (0, .ref (ad 0)), (1, .int v1), (2, .int v2)]) hC dL_setTarget_15 rfl (by decide) rfl ?_
    refine ga_bipush (v := (-77)) hC dL_setTarget_16 (by decide) ?_
    exact gx_iret hC dL_setTarget_18 ⟨Nat.le_of_ble_eq_true rfl, Nat.le_of_ble_eq_true rfl⟩ ⟨_, rfl, hx⟩
  · obtain ⟨r, rfl, h⟩ := hq
    refine ga_if_eq (tgt := 13) hC dL_setTarget_6 (by decide) (fun hc => ?_) (fun hc => ?_)
    · have h := h.1 hc
      refine ga_iconst (v := 0) hC dL_setTarget_13 (by decide) ?_
      exact gx_iret hC dL_setTarget_14 ⟨Nat.le_of_ble_eq_true rfl, Nat.le_of_ble_eq_true rfl⟩ ⟨_, rfl, h⟩
    · have h := h.2 hc
      refine ga_iconst (v := 1) hC dL_setTarget_9 (by decide) ?_
      refine ga_goto (tgt := 14) hC dL_setTarget_10 (by decide) ?_
      exact gx_iret hC dL_setTarget_14 ⟨Nat.le_of_ble_eq_true rfl, Nat.le_of_ble_eq_true rfl⟩ ⟨_, rfl, h⟩
def M_L_setDiscount (v1 : Int32) (v2 : Int32) (σ : cg_S) (Q : Int32 → cg_S → Prop) : Prop := cp_M cg_WC yL_setDiscount (Cond.codeWith yL_setDiscount cL_setDiscount 4 (some .int) [(0, 6, 7, 20)]) (cg_RX 2 1) 1 6 (fun ad => [.ref (ad 0), .int v1, .int v2]) σ (cg_qi Q)
theorem M_L_setDiscount.mono {v1 : Int32} {v2 : Int32} {σ : cg_S} {Q Q2 : Int32 → cg_S → Prop} (h : M_L_setDiscount v1 v2 σ Q) (hq : ∀ r τ, Q r τ → Q2 r τ) : M_L_setDiscount v1 v2 σ Q2 := cp_M.mono h (fun ad v τ ⟨r, e, q⟩ => ⟨r, e, hq r τ q⟩)
set_option maxRecDepth 100000 in
set_option maxHeartbeats 4000000 in
theorem w_setDiscount {v1 : Int32} {v2 : Int32} {σ : cg_S} {Q : Int32 → cg_S → Prop}
    (h : M_X11_setDiscount v1 v2 σ (fun r τ => Q r τ) (fun E τ => (E = "java/lang/IllegalArgumentException" ∧ Q (-78) τ))) : M_L_setDiscount v1 v2 σ Q := by
  refine cp_entryW (lv := fun ad => [(0, .ref (ad 0)), (1, .int v1), (2, .int v2)]) (by decide +kernel) (fun _ => rfl) (fun _ => Nat.le_of_ble_eq_true rfl) ?_
  intro p l e s m args below meth c D cy ad hY
  have hC := hY.1
  refine ga_aload_n hC dL_setDiscount_0 0 rfl rfl ?_
  refine ga_iload_n hC dL_setDiscount_1 1 rfl rfl ?_
  refine ga_iload_n hC dL_setDiscount_2 2 rfl rfl ?_
  refine gp_callX (As := [.int v1, .int v2]) (st := []) (n := 2) (hs := [("java/lang/IllegalArgumentException", 7, 20)]) (sp := 0) (ep := 6) hY h (cg_in6 108 (by decide +kernel) (by decide +kernel)) (cg_in6 109 (by decide +kernel) (by decide +kernel)) (cg_in6 110 (by decide +kernel) (by decide +kernel)) (cg_in1 1 (by decide +kernel) (by decide +kernel)) (cg_in6 111 (by decide +kernel) (by decide +kernel)) rfl rfl rfl (by decide +kernel) ⟨Nat.le_of_ble_eq_true rfl, Nat.le_of_ble_eq_true rfl⟩ ⟨Nat.le_of_ble_eq_true rfl, Nat.le_of_ble_eq_true rfl⟩ rfl rfl (Nat.le_of_ble_eq_true rfl) dL_setDiscount_3 rfl ⟨by decide, by decide⟩ (List.forall_mem_cons.mpr ⟨⟨by decide, by decide, (cg_in3 122 (by decide +kernel) (by decide +kernel))⟩, fun _ h => absurd h List.not_mem_nil⟩) (fun E τ hx => ?_) (fun v τ hq => ?_)
  · obtain ⟨rfl, hx⟩ := hx
    refine ⟨[], [], 7, 20, rfl, by decide, fun q => ?_⟩
    refine ga_astore_n (lv' := [(3, .ref q), (0, .ref (ad 0)), (1, .int v1), (2, .int v2)]) hC dL_setDiscount_7 rfl (by decide) rfl ?_
    refine ga_bipush (v := (-78)) hC dL_setDiscount_8 (by decide) ?_
    exact gx_iret hC dL_setDiscount_10 ⟨Nat.le_of_ble_eq_true rfl, Nat.le_of_ble_eq_true rfl⟩ ⟨_, rfl, hx⟩
  · obtain ⟨r, rfl, h⟩ := hq
    exact gx_iret hC dL_setDiscount_6 ⟨Nat.le_of_ble_eq_true rfl, Nat.le_of_ble_eq_true rfl⟩ ⟨_, rfl, h⟩
def M_L_setWeights (v1 : Int32) (v2 : Int32) (σ : cg_S) (Q : Int32 → cg_S → Prop) : Prop := cp_M cg_WC yL_setWeights (Cond.codeWith yL_setWeights cL_setWeights 4 (some .int) [(0, 6, 7, 20)]) (cg_RX 2 1) 1 6 (fun ad => [.ref (ad 0), .int v1, .int v2]) σ (cg_qi Q)
theorem M_L_setWeights.mono {v1 : Int32} {v2 : Int32} {σ : cg_S} {Q Q2 : Int32 → cg_S → Prop} (h : M_L_setWeights v1 v2 σ Q) (hq : ∀ r τ, Q r τ → Q2 r τ) : M_L_setWeights v1 v2 σ Q2 := cp_M.mono h (fun ad v τ ⟨r, e, q⟩ => ⟨r, e, hq r τ q⟩)
set_option maxRecDepth 100000 in
set_option maxHeartbeats 4000000 in
theorem w_setWeights {v1 : Int32} {v2 : Int32} {σ : cg_S} {Q : Int32 → cg_S → Prop}
    (h : M_X11_setWeights v1 v2 σ (fun r τ => Q r τ) (fun E τ => (E = "java/lang/IllegalArgumentException" ∧ Q (-78) τ))) : M_L_setWeights v1 v2 σ Q := by
  refine cp_entryW (lv := fun ad => [(0, .ref (ad 0)), (1, .int v1), (2, .int v2)]) (by decide +kernel) (fun _ => rfl) (fun _ => Nat.le_of_ble_eq_true rfl) ?_
  intro p l e s m args below meth c D cy ad hY
  have hC := hY.1
  refine ga_aload_n hC dL_setWeights_0 0 rfl rfl ?_
  refine ga_iload_n hC dL_setWeights_1 1 rfl rfl ?_
  refine ga_iload_n hC dL_setWeights_2 2 rfl rfl ?_
  refine gp_callX (As := [.int v1, .int v2]) (st := []) (n := 2) (hs := [("java/lang/IllegalArgumentException", 7, 20)]) (sp := 0) (ep := 6) hY h (cg_in6 120 (by decide +kernel) (by decide +kernel)) (cg_in6 121 (by decide +kernel) (by decide +kernel)) (cg_in6 122 (by decide +kernel) (by decide +kernel)) (cg_in1 1 (by decide +kernel) (by decide +kernel)) (cg_in6 123 (by decide +kernel) (by decide +kernel)) rfl rfl rfl (by decide +kernel) ⟨Nat.le_of_ble_eq_true rfl, Nat.le_of_ble_eq_true rfl⟩ ⟨Nat.le_of_ble_eq_true rfl, Nat.le_of_ble_eq_true rfl⟩ rfl rfl (Nat.le_of_ble_eq_true rfl) dL_setWeights_3 rfl ⟨by decide, by decide⟩ (List.forall_mem_cons.mpr ⟨⟨by decide, by decide, (cg_in3 122 (by decide +kernel) (by decide +kernel))⟩, fun _ h => absurd h List.not_mem_nil⟩) (fun E τ hx => ?_) (fun v τ hq => ?_)
  · obtain ⟨rfl, hx⟩ := hx
    refine ⟨[], [], 7, 20, rfl, by decide, fun q => ?_⟩
    refine ga_astore_n (lv' := [(3, .ref q), (0, .ref (ad 0)), (1, .int v1), (2, .int v2)]) hC dL_setWeights_7 rfl (by decide) rfl ?_
    refine ga_bipush (v := (-78)) hC dL_setWeights_8 (by decide) ?_
    exact gx_iret hC dL_setWeights_10 ⟨Nat.le_of_ble_eq_true rfl, Nat.le_of_ble_eq_true rfl⟩ ⟨_, rfl, hx⟩
  · obtain ⟨r, rfl, h⟩ := hq
    exact gx_iret hC dL_setWeights_6 ⟨Nat.le_of_ble_eq_true rfl, Nat.le_of_ble_eq_true rfl⟩ ⟨_, rfl, h⟩
def M_L_choices (v1 : Int32) (σ : cg_S) (Q : Int32 → cg_S → Prop) : Prop := cp_M cg_WC yL_choices (Cond.codeWith yL_choices cL_choices 3 (some .int) [(0, 5, 6, 28)]) (cg_RX 3 1) 1 6 (fun ad => [.ref (ad 0), .int v1]) σ (cg_qi Q)
theorem M_L_choices.mono {v1 : Int32} {σ : cg_S} {Q Q2 : Int32 → cg_S → Prop} (h : M_L_choices v1 σ Q) (hq : ∀ r τ, Q r τ → Q2 r τ) : M_L_choices v1 σ Q2 := cp_M.mono h (fun ad v τ ⟨r, e, q⟩ => ⟨r, e, hq r τ q⟩)
set_option maxRecDepth 100000 in
set_option maxHeartbeats 4000000 in
theorem w_choices {v1 : Int32} {σ : cg_S} {Q : Int32 → cg_S → Prop}
    (h : M_X11_choices v1 σ (fun r τ => Q r τ) (fun E τ => (E = "java/lang/IndexOutOfBoundsException" ∧ Q (-77) τ))) : M_L_choices v1 σ Q := by
  refine cp_entryW (lv := fun ad => [(0, .ref (ad 0)), (1, .int v1)]) (by decide +kernel) (fun _ => rfl) (fun _ => Nat.le_of_ble_eq_true rfl) ?_
  intro p l e s m args below meth c D cy ad hY
  have hC := hY.1
  refine ga_aload_n hC dL_choices_0 0 rfl rfl ?_
  refine ga_iload_n hC dL_choices_1 1 rfl rfl ?_
  refine gp_callX (As := [.int v1]) (st := []) (n := 1) (hs := [("java/lang/IndexOutOfBoundsException", 6, 28)]) (sp := 0) (ep := 5) hY h (cg_in4 80 (by decide +kernel) (by decide +kernel)) (cg_in4 81 (by decide +kernel) (by decide +kernel)) (cg_in4 82 (by decide +kernel) (by decide +kernel)) (cg_in1 1 (by decide +kernel) (by decide +kernel)) (cg_in4 83 (by decide +kernel) (by decide +kernel)) rfl rfl rfl (by decide +kernel) ⟨Nat.le_of_ble_eq_true rfl, Nat.le_of_ble_eq_true rfl⟩ ⟨Nat.le_of_ble_eq_true rfl, Nat.le_of_ble_eq_true rfl⟩ rfl rfl (Nat.le_of_ble_eq_true rfl) dL_choices_2 rfl ⟨by decide, by decide⟩ (List.forall_mem_cons.mpr ⟨⟨by decide, by decide, (cg_in3 226 (by decide +kernel) (by decide +kernel))⟩, fun _ h => absurd h List.not_mem_nil⟩) (fun E τ hx => ?_) (fun v τ hq => ?_)
  · obtain ⟨rfl, hx⟩ := hx
    refine ⟨[], [], 6, 28, rfl, by decide, fun q => ?_⟩
    refine ga_astore_n (lv' := [(2, .ref q), (0, .ref (ad 0)), (1, .int v1)]) hC dL_choices_6 rfl (by decide) rfl ?_
    refine ga_bipush (v := (-77)) hC dL_choices_7 (by decide) ?_
    exact gx_iret hC dL_choices_9 ⟨Nat.le_of_ble_eq_true rfl, Nat.le_of_ble_eq_true rfl⟩ ⟨_, rfl, hx⟩
  · obtain ⟨r, rfl, h⟩ := hq
    exact gx_iret hC dL_choices_5 ⟨Nat.le_of_ble_eq_true rfl, Nat.le_of_ble_eq_true rfl⟩ ⟨_, rfl, h⟩
def M_L_chance (v1 : Int32) (v2 : Int32) (v3 : Int32) (σ : cg_S) (Q : Int32 → cg_S → Prop) : Prop := cp_M cg_WC yL_chance (Cond.codeWith yL_chance cL_chance 5 (some .int) [(0, 7, 8, 28), (0, 7, 13, 52)]) (cg_RX 4 3) 3 18 (fun ad => [.ref (ad 0), .int v1, .int v2, .int v3]) σ (cg_qi Q)
theorem M_L_chance.mono {v1 : Int32} {v2 : Int32} {v3 : Int32} {σ : cg_S} {Q Q2 : Int32 → cg_S → Prop} (h : M_L_chance v1 v2 v3 σ Q) (hq : ∀ r τ, Q r τ → Q2 r τ) : M_L_chance v1 v2 v3 σ Q2 := cp_M.mono h (fun ad v τ ⟨r, e, q⟩ => ⟨r, e, hq r τ q⟩)
set_option maxRecDepth 100000 in
set_option maxHeartbeats 4000000 in
theorem w_chance {v1 : Int32} {v2 : Int32} {v3 : Int32} {σ : cg_S} {Q : Int32 → cg_S → Prop}
    (h : M_X11_chance v1 v2 v3 σ (fun r τ => Q r τ) (fun E τ => (E = "java/lang/IndexOutOfBoundsException" ∧ Q (-77) τ) ∨ (E = "java/lang/ArithmeticException" ∧ Q (-74) τ))) : M_L_chance v1 v2 v3 σ Q := by
  refine cp_entryW (lv := fun ad => [(0, .ref (ad 0)), (1, .int v1), (2, .int v2), (3, .int v3)]) (by decide +kernel) (fun _ => rfl) (fun _ => Nat.le_of_ble_eq_true rfl) ?_
  intro p l e s m args below meth c D cy ad hY
  have hC := hY.1
  refine ga_aload_n hC dL_chance_0 0 rfl rfl ?_
  refine ga_iload_n hC dL_chance_1 1 rfl rfl ?_
  refine ga_iload_n hC dL_chance_2 2 rfl rfl ?_
  refine ga_iload_n hC dL_chance_3 3 rfl rfl ?_
  refine gp_callX (As := [.int v1, .int v2, .int v3]) (st := []) (n := 3) (hs := [("java/lang/IndexOutOfBoundsException", 8, 28), ("java/lang/ArithmeticException", 13, 52)]) (sp := 0) (ep := 7) hY h (cg_in6 24 (by decide +kernel) (by decide +kernel)) (cg_in6 25 (by decide +kernel) (by decide +kernel)) (cg_in6 26 (by decide +kernel) (by decide +kernel)) (cg_in1 1 (by decide +kernel) (by decide +kernel)) (cg_in6 27 (by decide +kernel) (by decide +kernel)) rfl rfl rfl (by decide +kernel) ⟨Nat.le_of_ble_eq_true rfl, Nat.le_of_ble_eq_true rfl⟩ ⟨Nat.le_of_ble_eq_true rfl, Nat.le_of_ble_eq_true rfl⟩ rfl rfl (Nat.le_of_ble_eq_true rfl) dL_chance_4 rfl ⟨by decide, by decide⟩ (List.forall_mem_cons.mpr ⟨⟨by decide, by decide, (cg_in3 226 (by decide +kernel) (by decide +kernel))⟩, (List.forall_mem_cons.mpr ⟨⟨by decide, by decide, (cg_in6 10 (by decide +kernel) (by decide +kernel))⟩, fun _ h => absurd h List.not_mem_nil⟩)⟩) (fun E τ hx => ?_) (fun v τ hq => ?_)
  · rcases hx with ⟨rfl, hx⟩ | ⟨rfl, hx⟩
    · refine ⟨[], [("java/lang/ArithmeticException", 13, 52)], 8, 28, rfl, by decide, fun q => ?_⟩
      refine ga_astore (lv' := [(4, .ref q), (0, .ref (ad 0)), (1, .int v1), (2, .int v2), (3, .int v3)]) hC dL_chance_8 (by decide) rfl ?_
      refine ga_bipush (v := (-77)) hC dL_chance_10 (by decide) ?_
      exact gx_iret hC dL_chance_12 ⟨Nat.le_of_ble_eq_true rfl, Nat.le_of_ble_eq_true rfl⟩ ⟨_, rfl, hx⟩
    · refine ⟨[("java/lang/IndexOutOfBoundsException", 8, 28)], [], 13, 52, rfl, by decide, fun q => ?_⟩
      refine ga_astore (lv' := [(4, .ref q), (0, .ref (ad 0)), (1, .int v1), (2, .int v2), (3, .int v3)]) hC dL_chance_13 (by decide) rfl ?_
      refine ga_bipush (v := (-74)) hC dL_chance_15 (by decide) ?_
      exact gx_iret hC dL_chance_17 ⟨Nat.le_of_ble_eq_true rfl, Nat.le_of_ble_eq_true rfl⟩ ⟨_, rfl, hx⟩
  · obtain ⟨r, rfl, h⟩ := hq
    exact gx_iret hC dL_chance_7 ⟨Nat.le_of_ble_eq_true rfl, Nat.le_of_ble_eq_true rfl⟩ ⟨_, rfl, h⟩
def M_L_above (v1 : Int32) (v2 : Int32) (σ : cg_S) (Q : Int64 → cg_S → Prop) : Prop := cp_M cg_WC yL_above (Cond.codeWith yL_above cL_above 4 (some .long) [(0, 6, 7, 20), (0, 6, 12, 28), (0, 6, 17, 22)]) (cg_RX 7 3) 3 18 (fun ad => [.ref (ad 0), .int v1, .int v2]) σ (cg_ql Q)
theorem M_L_above.mono {v1 : Int32} {v2 : Int32} {σ : cg_S} {Q Q2 : Int64 → cg_S → Prop} (h : M_L_above v1 v2 σ Q) (hq : ∀ r τ, Q r τ → Q2 r τ) : M_L_above v1 v2 σ Q2 := cp_M.mono h (fun ad v τ ⟨r, e, q⟩ => ⟨r, e, hq r τ q⟩)
set_option maxRecDepth 100000 in
set_option maxHeartbeats 4000000 in
theorem w_above {v1 : Int32} {v2 : Int32} {σ : cg_S} {Q : Int64 → cg_S → Prop}
    (h : M_X11_above v1 v2 σ (fun r τ => Q r τ) (fun E τ => (E = "java/lang/IllegalArgumentException" ∧ Q (-78) τ) ∨ (E = "java/lang/IndexOutOfBoundsException" ∧ Q (-77) τ) ∨ (E = "java/lang/IllegalStateException" ∧ Q (-79) τ))) : M_L_above v1 v2 σ Q := by
  refine cp_entryW (lv := fun ad => [(0, .ref (ad 0)), (1, .int v1), (2, .int v2)]) (by decide +kernel) (fun _ => rfl) (fun _ => Nat.le_of_ble_eq_true rfl) ?_
  intro p l e s m args below meth c D cy ad hY
  have hC := hY.1
  refine ga_aload_n hC dL_above_0 0 rfl rfl ?_
  refine ga_iload_n hC dL_above_1 1 rfl rfl ?_
  refine ga_iload_n hC dL_above_2 2 rfl rfl ?_
  refine gp_callX (As := [.int v1, .int v2]) (st := []) (n := 2) (hs := [("java/lang/IllegalArgumentException", 7, 20), ("java/lang/IndexOutOfBoundsException", 12, 28), ("java/lang/IllegalStateException", 17, 22)]) (sp := 0) (ep := 6) hY h (cg_in4 147 (by decide +kernel) (by decide +kernel)) (cg_in4 148 (by decide +kernel) (by decide +kernel)) (cg_in4 149 (by decide +kernel) (by decide +kernel)) (cg_in1 1 (by decide +kernel) (by decide +kernel)) (cg_in4 150 (by decide +kernel) (by decide +kernel)) rfl rfl rfl (by decide +kernel) ⟨Nat.le_of_ble_eq_true rfl, Nat.le_of_ble_eq_true rfl⟩ ⟨Nat.le_of_ble_eq_true rfl, Nat.le_of_ble_eq_true rfl⟩ rfl rfl (Nat.le_of_ble_eq_true rfl) dL_above_3 rfl ⟨by decide, by decide⟩ (List.forall_mem_cons.mpr ⟨⟨by decide, by decide, (cg_in3 122 (by decide +kernel) (by decide +kernel))⟩, (List.forall_mem_cons.mpr ⟨⟨by decide, by decide, (cg_in3 226 (by decide +kernel) (by decide +kernel))⟩, (List.forall_mem_cons.mpr ⟨⟨by decide, by decide, (cg_in3 123 (by decide +kernel) (by decide +kernel))⟩, fun _ h => absurd h List.not_mem_nil⟩)⟩)⟩) (fun E τ hx => ?_) (fun v τ hq => ?_)
  · rcases hx with ⟨rfl, hx⟩ | ⟨rfl, hx⟩ | ⟨rfl, hx⟩
    · refine ⟨[], [("java/lang/IndexOutOfBoundsException", 12, 28), ("java/lang/IllegalStateException", 17, 22)], 7, 20, rfl, by decide, fun q => ?_⟩
      refine ga_astore_n (lv' := [(3, .ref q), (0, .ref (ad 0)), (1, .int v1), (2, .int v2)]) hC dL_above_7 rfl (by decide) rfl ?_
      refine ga_ldc2 (v := (-78)) hC (cg_in4 173 (by decide +kernel) (by decide +kernel)) dL_above_8 ?_
      exact gx_lret hC dL_above_11 ⟨Nat.le_of_ble_eq_true rfl, Nat.le_of_ble_eq_true rfl⟩ ⟨_, rfl, hx⟩
    · refine ⟨[("java/lang/IllegalArgumentException", 7, 20)], [("java/lang/IllegalStateException", 17, 22)], 12, 28, rfl, by decide, fun q => ?_⟩
      refine ga_astore_n (lv' := [(3, .ref q), (0, .ref (ad 0)), (1, .int v1), (2, .int v2)]) hC dL_above_12 rfl (by decide) rfl ?_
      refine ga_ldc2 (v := (-77)) hC (cg_in4 174 (by decide +kernel) (by decide +kernel)) dL_above_13 ?_
      exact gx_lret hC dL_above_16 ⟨Nat.le_of_ble_eq_true rfl, Nat.le_of_ble_eq_true rfl⟩ ⟨_, rfl, hx⟩
    · refine ⟨[("java/lang/IllegalArgumentException", 7, 20), ("java/lang/IndexOutOfBoundsException", 12, 28)], [], 17, 22, rfl, by decide, fun q => ?_⟩
      refine ga_astore_n (lv' := [(3, .ref q), (0, .ref (ad 0)), (1, .int v1), (2, .int v2)]) hC dL_above_17 rfl (by decide) rfl ?_
      refine ga_ldc2 (v := (-79)) hC (cg_in4 175 (by decide +kernel) (by decide +kernel)) dL_above_18 ?_
      exact gx_lret hC dL_above_21 ⟨Nat.le_of_ble_eq_true rfl, Nat.le_of_ble_eq_true rfl⟩ ⟨_, rfl, hx⟩
  · obtain ⟨r, rfl, h⟩ := hq
    exact gx_lret hC dL_above_6 ⟨Nat.le_of_ble_eq_true rfl, Nat.le_of_ble_eq_true rfl⟩ ⟨_, rfl, h⟩
def M_L_below (v1 : Int32) (v2 : Int32) (σ : cg_S) (Q : Int64 → cg_S → Prop) : Prop := cp_M cg_WC yL_below (Cond.codeWith yL_below cL_below 4 (some .long) [(0, 6, 7, 20), (0, 6, 12, 28), (0, 6, 17, 22)]) (cg_RX 7 3) 3 18 (fun ad => [.ref (ad 0), .int v1, .int v2]) σ (cg_ql Q)
theorem M_L_below.mono {v1 : Int32} {v2 : Int32} {σ : cg_S} {Q Q2 : Int64 → cg_S → Prop} (h : M_L_below v1 v2 σ Q) (hq : ∀ r τ, Q r τ → Q2 r τ) : M_L_below v1 v2 σ Q2 := cp_M.mono h (fun ad v τ ⟨r, e, q⟩ => ⟨r, e, hq r τ q⟩)
set_option maxRecDepth 100000 in
set_option maxHeartbeats 4000000 in
theorem w_below {v1 : Int32} {v2 : Int32} {σ : cg_S} {Q : Int64 → cg_S → Prop}
    (h : M_X11_below v1 v2 σ (fun r τ => Q r τ) (fun E τ => (E = "java/lang/IllegalArgumentException" ∧ Q (-78) τ) ∨ (E = "java/lang/IndexOutOfBoundsException" ∧ Q (-77) τ) ∨ (E = "java/lang/IllegalStateException" ∧ Q (-79) τ))) : M_L_below v1 v2 σ Q := by
  refine cp_entryW (lv := fun ad => [(0, .ref (ad 0)), (1, .int v1), (2, .int v2)]) (by decide +kernel) (fun _ => rfl) (fun _ => Nat.le_of_ble_eq_true rfl) ?_
  intro p l e s m args below meth c D cy ad hY
  have hC := hY.1
  refine ga_aload_n hC dL_below_0 0 rfl rfl ?_
  refine ga_iload_n hC dL_below_1 1 rfl rfl ?_
  refine ga_iload_n hC dL_below_2 2 rfl rfl ?_
  refine gp_callX (As := [.int v1, .int v2]) (st := []) (n := 2) (hs := [("java/lang/IllegalArgumentException", 7, 20), ("java/lang/IndexOutOfBoundsException", 12, 28), ("java/lang/IllegalStateException", 17, 22)]) (sp := 0) (ep := 6) hY h (cg_in4 179 (by decide +kernel) (by decide +kernel)) (cg_in4 180 (by decide +kernel) (by decide +kernel)) (cg_in4 181 (by decide +kernel) (by decide +kernel)) (cg_in1 1 (by decide +kernel) (by decide +kernel)) (cg_in4 182 (by decide +kernel) (by decide +kernel)) rfl rfl rfl (by decide +kernel) ⟨Nat.le_of_ble_eq_true rfl, Nat.le_of_ble_eq_true rfl⟩ ⟨Nat.le_of_ble_eq_true rfl, Nat.le_of_ble_eq_true rfl⟩ rfl rfl (Nat.le_of_ble_eq_true rfl) dL_below_3 rfl ⟨by decide, by decide⟩ (List.forall_mem_cons.mpr ⟨⟨by decide, by decide, (cg_in3 122 (by decide +kernel) (by decide +kernel))⟩, (List.forall_mem_cons.mpr ⟨⟨by decide, by decide, (cg_in3 226 (by decide +kernel) (by decide +kernel))⟩, (List.forall_mem_cons.mpr ⟨⟨by decide, by decide, (cg_in3 123 (by decide +kernel) (by decide +kernel))⟩, fun _ h => absurd h List.not_mem_nil⟩)⟩)⟩) (fun E τ hx => ?_) (fun v τ hq => ?_)
  · rcases hx with ⟨rfl, hx⟩ | ⟨rfl, hx⟩ | ⟨rfl, hx⟩
    · refine ⟨[], [("java/lang/IndexOutOfBoundsException", 12, 28), ("java/lang/IllegalStateException", 17, 22)], 7, 20, rfl, by decide, fun q => ?_⟩
      refine ga_astore_n (lv' := [(3, .ref q), (0, .ref (ad 0)), (1, .int v1), (2, .int v2)]) hC dL_below_7 rfl (by decide) rfl ?_
      refine ga_ldc2 (v := (-78)) hC (cg_in4 173 (by decide +kernel) (by decide +kernel)) dL_below_8 ?_
      exact gx_lret hC dL_below_11 ⟨Nat.le_of_ble_eq_true rfl, Nat.le_of_ble_eq_true rfl⟩ ⟨_, rfl, hx⟩
    · refine ⟨[("java/lang/IllegalArgumentException", 7, 20)], [("java/lang/IllegalStateException", 17, 22)], 12, 28, rfl, by decide, fun q => ?_⟩
      refine ga_astore_n (lv' := [(3, .ref q), (0, .ref (ad 0)), (1, .int v1), (2, .int v2)]) hC dL_below_12 rfl (by decide) rfl ?_
      refine ga_ldc2 (v := (-77)) hC (cg_in4 174 (by decide +kernel) (by decide +kernel)) dL_below_13 ?_
      exact gx_lret hC dL_below_16 ⟨Nat.le_of_ble_eq_true rfl, Nat.le_of_ble_eq_true rfl⟩ ⟨_, rfl, hx⟩
    · refine ⟨[("java/lang/IllegalArgumentException", 7, 20), ("java/lang/IndexOutOfBoundsException", 12, 28)], [], 17, 22, rfl, by decide, fun q => ?_⟩
      refine ga_astore_n (lv' := [(3, .ref q), (0, .ref (ad 0)), (1, .int v1), (2, .int v2)]) hC dL_below_17 rfl (by decide) rfl ?_
      refine ga_ldc2 (v := (-79)) hC (cg_in4 175 (by decide +kernel) (by decide +kernel)) dL_below_18 ?_
      exact gx_lret hC dL_below_21 ⟨Nat.le_of_ble_eq_true rfl, Nat.le_of_ble_eq_true rfl⟩ ⟨_, rfl, hx⟩
  · obtain ⟨r, rfl, h⟩ := hq
    exact gx_lret hC dL_below_6 ⟨Nat.le_of_ble_eq_true rfl, Nat.le_of_ble_eq_true rfl⟩ ⟨_, rfl, h⟩
def M_L_aboveByAll (v1 : Int32) (v2 : Int32) (σ : cg_S) (Q : Int64 → cg_S → Prop) : Prop := cp_M cg_WC yL_aboveByAll (Cond.codeWith yL_aboveByAll cL_aboveByAll 4 (some .long) [(0, 6, 7, 20), (0, 6, 12, 28), (0, 6, 17, 22)]) (cg_RX 6 3) 3 18 (fun ad => [.ref (ad 0), .int v1, .int v2]) σ (cg_ql Q)
theorem M_L_aboveByAll.mono {v1 : Int32} {v2 : Int32} {σ : cg_S} {Q Q2 : Int64 → cg_S → Prop} (h : M_L_aboveByAll v1 v2 σ Q) (hq : ∀ r τ, Q r τ → Q2 r τ) : M_L_aboveByAll v1 v2 σ Q2 := cp_M.mono h (fun ad v τ ⟨r, e, q⟩ => ⟨r, e, hq r τ q⟩)
set_option maxRecDepth 100000 in
set_option maxHeartbeats 4000000 in
theorem w_aboveByAll {v1 : Int32} {v2 : Int32} {σ : cg_S} {Q : Int64 → cg_S → Prop}
    (h : M_X11_aboveByAll v1 v2 σ (fun r τ => Q r τ) (fun E τ => (E = "java/lang/IllegalArgumentException" ∧ Q (-78) τ) ∨ (E = "java/lang/IndexOutOfBoundsException" ∧ Q (-77) τ) ∨ (E = "java/lang/IllegalStateException" ∧ Q (-79) τ))) : M_L_aboveByAll v1 v2 σ Q := by
  refine cp_entryW (lv := fun ad => [(0, .ref (ad 0)), (1, .int v1), (2, .int v2)]) (by decide +kernel) (fun _ => rfl) (fun _ => Nat.le_of_ble_eq_true rfl) ?_
  intro p l e s m args below meth c D cy ad hY
  have hC := hY.1
  refine ga_aload_n hC dL_aboveByAll_0 0 rfl rfl ?_
  refine ga_iload_n hC dL_aboveByAll_1 1 rfl rfl ?_
  refine ga_iload_n hC dL_aboveByAll_2 2 rfl rfl ?_
  refine gp_callX (As := [.int v1, .int v2]) (st := []) (n := 2) (hs := [("java/lang/IllegalArgumentException", 7, 20), ("java/lang/IndexOutOfBoundsException", 12, 28), ("java/lang/IllegalStateException", 17, 22)]) (sp := 0) (ep := 6) hY h (cg_in4 193 (by decide +kernel) (by decide +kernel)) (cg_in4 194 (by decide +kernel) (by decide +kernel)) (cg_in4 195 (by decide +kernel) (by decide +kernel)) (cg_in1 1 (by decide +kernel) (by decide +kernel)) (cg_in4 196 (by decide +kernel) (by decide +kernel)) rfl rfl rfl (by decide +kernel) ⟨Nat.le_of_ble_eq_true rfl, Nat.le_of_ble_eq_true rfl⟩ ⟨Nat.le_of_ble_eq_true rfl, Nat.le_of_ble_eq_true rfl⟩ rfl rfl (Nat.le_of_ble_eq_true rfl) dL_aboveByAll_3 rfl ⟨by decide, by decide⟩ (List.forall_mem_cons.mpr ⟨⟨by decide, by decide, (cg_in3 122 (by decide +kernel) (by decide +kernel))⟩, (List.forall_mem_cons.mpr ⟨⟨by decide, by decide, (cg_in3 226 (by decide +kernel) (by decide +kernel))⟩, (List.forall_mem_cons.mpr ⟨⟨by decide, by decide, (cg_in3 123 (by decide +kernel) (by decide +kernel))⟩, fun _ h => absurd h List.not_mem_nil⟩)⟩)⟩) (fun E τ hx => ?_) (fun v τ hq => ?_)
  · rcases hx with ⟨rfl, hx⟩ | ⟨rfl, hx⟩ | ⟨rfl, hx⟩
    · refine ⟨[], [("java/lang/IndexOutOfBoundsException", 12, 28), ("java/lang/IllegalStateException", 17, 22)], 7, 20, rfl, by decide, fun q => ?_⟩
      refine ga_astore_n (lv' := [(3, .ref q), (0, .ref (ad 0)), (1, .int v1), (2, .int v2)]) hC dL_aboveByAll_7 rfl (by decide) rfl ?_
      refine ga_ldc2 (v := (-78)) hC (cg_in4 173 (by decide +kernel) (by decide +kernel)) dL_aboveByAll_8 ?_
      exact gx_lret hC dL_aboveByAll_11 ⟨Nat.le_of_ble_eq_true rfl, Nat.le_of_ble_eq_true rfl⟩ ⟨_, rfl, hx⟩
    · refine ⟨[("java/lang/IllegalArgumentException", 7, 20)], [("java/lang/IllegalStateException", 17, 22)], 12, 28, rfl, by decide, fun q => ?_⟩
      refine ga_astore_n (lv' := [(3, .ref q), (0, .ref (ad 0)), (1, .int v1), (2, .int v2)]) hC dL_aboveByAll_12 rfl (by decide) rfl ?_
      refine ga_ldc2 (v := (-77)) hC (cg_in4 174 (by decide +kernel) (by decide +kernel)) dL_aboveByAll_13 ?_
      exact gx_lret hC dL_aboveByAll_16 ⟨Nat.le_of_ble_eq_true rfl, Nat.le_of_ble_eq_true rfl⟩ ⟨_, rfl, hx⟩
    · refine ⟨[("java/lang/IllegalArgumentException", 7, 20), ("java/lang/IndexOutOfBoundsException", 12, 28)], [], 17, 22, rfl, by decide, fun q => ?_⟩
      refine ga_astore_n (lv' := [(3, .ref q), (0, .ref (ad 0)), (1, .int v1), (2, .int v2)]) hC dL_aboveByAll_17 rfl (by decide) rfl ?_
      refine ga_ldc2 (v := (-79)) hC (cg_in4 175 (by decide +kernel) (by decide +kernel)) dL_aboveByAll_18 ?_
      exact gx_lret hC dL_aboveByAll_21 ⟨Nat.le_of_ble_eq_true rfl, Nat.le_of_ble_eq_true rfl⟩ ⟨_, rfl, hx⟩
  · obtain ⟨r, rfl, h⟩ := hq
    exact gx_lret hC dL_aboveByAll_6 ⟨Nat.le_of_ble_eq_true rfl, Nat.le_of_ble_eq_true rfl⟩ ⟨_, rfl, h⟩
def M_L_belowByAll (v1 : Int32) (v2 : Int32) (σ : cg_S) (Q : Int64 → cg_S → Prop) : Prop := cp_M cg_WC yL_belowByAll (Cond.codeWith yL_belowByAll cL_belowByAll 4 (some .long) [(0, 6, 7, 20), (0, 6, 12, 28), (0, 6, 17, 22)]) (cg_RX 6 3) 3 18 (fun ad => [.ref (ad 0), .int v1, .int v2]) σ (cg_ql Q)
theorem M_L_belowByAll.mono {v1 : Int32} {v2 : Int32} {σ : cg_S} {Q Q2 : Int64 → cg_S → Prop} (h : M_L_belowByAll v1 v2 σ Q) (hq : ∀ r τ, Q r τ → Q2 r τ) : M_L_belowByAll v1 v2 σ Q2 := cp_M.mono h (fun ad v τ ⟨r, e, q⟩ => ⟨r, e, hq r τ q⟩)
set_option maxRecDepth 100000 in
set_option maxHeartbeats 4000000 in
theorem w_belowByAll {v1 : Int32} {v2 : Int32} {σ : cg_S} {Q : Int64 → cg_S → Prop}
    (h : M_X11_belowByAll v1 v2 σ (fun r τ => Q r τ) (fun E τ => (E = "java/lang/IllegalArgumentException" ∧ Q (-78) τ) ∨ (E = "java/lang/IndexOutOfBoundsException" ∧ Q (-77) τ) ∨ (E = "java/lang/IllegalStateException" ∧ Q (-79) τ))) : M_L_belowByAll v1 v2 σ Q := by
  refine cp_entryW (lv := fun ad => [(0, .ref (ad 0)), (1, .int v1), (2, .int v2)]) (by decide +kernel) (fun _ => rfl) (fun _ => Nat.le_of_ble_eq_true rfl) ?_
  intro p l e s m args below meth c D cy ad hY
  have hC := hY.1
  refine ga_aload_n hC dL_belowByAll_0 0 rfl rfl ?_
  refine ga_iload_n hC dL_belowByAll_1 1 rfl rfl ?_
  refine ga_iload_n hC dL_belowByAll_2 2 rfl rfl ?_
  refine gp_callX (As := [.int v1, .int v2]) (st := []) (n := 2) (hs := [("java/lang/IllegalArgumentException", 7, 20), ("java/lang/IndexOutOfBoundsException", 12, 28), ("java/lang/IllegalStateException", 17, 22)]) (sp := 0) (ep := 6) hY h (cg_in4 201 (by decide +kernel) (by decide +kernel)) (cg_in4 202 (by decide +kernel) (by decide +kernel)) (cg_in4 203 (by decide +kernel) (by decide +kernel)) (cg_in1 1 (by decide +kernel) (by decide +kernel)) (cg_in4 204 (by decide +kernel) (by decide +kernel)) rfl rfl rfl (by decide +kernel) ⟨Nat.le_of_ble_eq_true rfl, Nat.le_of_ble_eq_true rfl⟩ ⟨Nat.le_of_ble_eq_true rfl, Nat.le_of_ble_eq_true rfl⟩ rfl rfl (Nat.le_of_ble_eq_true rfl) dL_belowByAll_3 rfl ⟨by decide, by decide⟩ (List.forall_mem_cons.mpr ⟨⟨by decide, by decide, (cg_in3 122 (by decide +kernel) (by decide +kernel))⟩, (List.forall_mem_cons.mpr ⟨⟨by decide, by decide, (cg_in3 226 (by decide +kernel) (by decide +kernel))⟩, (List.forall_mem_cons.mpr ⟨⟨by decide, by decide, (cg_in3 123 (by decide +kernel) (by decide +kernel))⟩, fun _ h => absurd h List.not_mem_nil⟩)⟩)⟩) (fun E τ hx => ?_) (fun v τ hq => ?_)
  · rcases hx with ⟨rfl, hx⟩ | ⟨rfl, hx⟩ | ⟨rfl, hx⟩
    · refine ⟨[], [("java/lang/IndexOutOfBoundsException", 12, 28), ("java/lang/IllegalStateException", 17, 22)], 7, 20, rfl, by decide, fun q => ?_⟩
      refine ga_astore_n (lv' := [(3, .ref q), (0, .ref (ad 0)), (1, .int v1), (2, .int v2)]) hC dL_belowByAll_7 rfl (by decide) rfl ?_
      refine ga_ldc2 (v := (-78)) hC (cg_in4 173 (by decide +kernel) (by decide +kernel)) dL_belowByAll_8 ?_
      exact gx_lret hC dL_belowByAll_11 ⟨Nat.le_of_ble_eq_true rfl, Nat.le_of_ble_eq_true rfl⟩ ⟨_, rfl, hx⟩
    · refine ⟨[("java/lang/IllegalArgumentException", 7, 20)], [("java/lang/IllegalStateException", 17, 22)], 12, 28, rfl, by decide, fun q => ?_⟩
      refine ga_astore_n (lv' := [(3, .ref q), (0, .ref (ad 0)), (1, .int v1), (2, .int v2)]) hC dL_belowByAll_12 rfl (by decide) rfl ?_
      refine ga_ldc2 (v := (-77)) hC (cg_in4 174 (by decide +kernel) (by decide +kernel)) dL_belowByAll_13 ?_
      exact gx_lret hC dL_belowByAll_16 ⟨Nat.le_of_ble_eq_true rfl, Nat.le_of_ble_eq_true rfl⟩ ⟨_, rfl, hx⟩
    · refine ⟨[("java/lang/IllegalArgumentException", 7, 20), ("java/lang/IndexOutOfBoundsException", 12, 28)], [], 17, 22, rfl, by decide, fun q => ?_⟩
      refine ga_astore_n (lv' := [(3, .ref q), (0, .ref (ad 0)), (1, .int v1), (2, .int v2)]) hC dL_belowByAll_17 rfl (by decide) rfl ?_
      refine ga_ldc2 (v := (-79)) hC (cg_in4 175 (by decide +kernel) (by decide +kernel)) dL_belowByAll_18 ?_
      exact gx_lret hC dL_belowByAll_21 ⟨Nat.le_of_ble_eq_true rfl, Nat.le_of_ble_eq_true rfl⟩ ⟨_, rfl, hx⟩
  · obtain ⟨r, rfl, h⟩ := hq
    exact gx_lret hC dL_belowByAll_6 ⟨Nat.le_of_ble_eq_true rfl, Nat.le_of_ble_eq_true rfl⟩ ⟨_, rfl, h⟩
def M_L_valueFloat (v1 : Int32) (v2 : Int32) (σ : cg_S) (Q : UInt32 → cg_S → Prop) : Prop := cp_M cg_WC yL_valueFloat (Cond.codeWith yL_valueFloat cL_valueFloat 4 (some .float) [(0, 6, 7, 20), (0, 6, 11, 28), (0, 6, 15, 22)]) (cg_RX 7 3) 3 18 (fun ad => [.ref (ad 0), .int v1, .int v2]) σ (cg_qf Q)
theorem M_L_valueFloat.mono {v1 : Int32} {v2 : Int32} {σ : cg_S} {Q Q2 : UInt32 → cg_S → Prop} (h : M_L_valueFloat v1 v2 σ Q) (hq : ∀ r τ, Q r τ → Q2 r τ) : M_L_valueFloat v1 v2 σ Q2 := cp_M.mono h (fun ad v τ ⟨r, e, q⟩ => ⟨r, e, hq r τ q⟩)
set_option maxRecDepth 100000 in
set_option maxHeartbeats 4000000 in
theorem w_valueFloat {v1 : Int32} {v2 : Int32} {σ : cg_S} {Q : UInt32 → cg_S → Prop}
    (h : M_X11_valueFloat v1 v2 σ (fun r τ => Q r τ) (fun E τ => (E = "java/lang/IllegalArgumentException" ∧ Q (3265003520) τ) ∨ (E = "java/lang/IndexOutOfBoundsException" ∧ Q (3264872448) τ) ∨ (E = "java/lang/IllegalStateException" ∧ Q (3265134592) τ))) : M_L_valueFloat v1 v2 σ Q := by
  refine cp_entryW (lv := fun ad => [(0, .ref (ad 0)), (1, .int v1), (2, .int v2)]) (by decide +kernel) (fun _ => rfl) (fun _ => Nat.le_of_ble_eq_true rfl) ?_
  intro p l e s m args below meth c D cy ad hY
  have hC := hY.1
  refine ga_aload_n hC dL_valueFloat_0 0 rfl rfl ?_
  refine ga_iload_n hC dL_valueFloat_1 1 rfl rfl ?_
  refine ga_iload_n hC dL_valueFloat_2 2 rfl rfl ?_
  refine gp_callX (As := [.int v1, .int v2]) (st := []) (n := 2) (hs := [("java/lang/IllegalArgumentException", 7, 20), ("java/lang/IndexOutOfBoundsException", 11, 28), ("java/lang/IllegalStateException", 15, 22)]) (sp := 0) (ep := 6) hY h (cg_in5 99 (by decide +kernel) (by decide +kernel)) (cg_in5 100 (by decide +kernel) (by decide +kernel)) (cg_in5 101 (by decide +kernel) (by decide +kernel)) (cg_in1 1 (by decide +kernel) (by decide +kernel)) (cg_in5 102 (by decide +kernel) (by decide +kernel)) rfl rfl rfl (by decide +kernel) ⟨Nat.le_of_ble_eq_true rfl, Nat.le_of_ble_eq_true rfl⟩ ⟨Nat.le_of_ble_eq_true rfl, Nat.le_of_ble_eq_true rfl⟩ rfl rfl (Nat.le_of_ble_eq_true rfl) dL_valueFloat_3 rfl ⟨by decide, by decide⟩ (List.forall_mem_cons.mpr ⟨⟨by decide, by decide, (cg_in3 122 (by decide +kernel) (by decide +kernel))⟩, (List.forall_mem_cons.mpr ⟨⟨by decide, by decide, (cg_in3 226 (by decide +kernel) (by decide +kernel))⟩, (List.forall_mem_cons.mpr ⟨⟨by decide, by decide, (cg_in3 123 (by decide +kernel) (by decide +kernel))⟩, fun _ h => absurd h List.not_mem_nil⟩)⟩)⟩) (fun E τ hx => ?_) (fun v τ hq => ?_)
  · rcases hx with ⟨rfl, hx⟩ | ⟨rfl, hx⟩ | ⟨rfl, hx⟩
    · refine ⟨[], [("java/lang/IndexOutOfBoundsException", 11, 28), ("java/lang/IllegalStateException", 15, 22)], 7, 20, rfl, by decide, fun q => ?_⟩
      refine ga_astore_n (lv' := [(3, .ref q), (0, .ref (ad 0)), (1, .int v1), (2, .int v2)]) hC dL_valueFloat_7 rfl (by decide) rfl ?_
      refine ga_ldcf (v := (3265003520)) hC (cg_in5 106 (by decide +kernel) (by decide +kernel)) dL_valueFloat_8 ?_
      exact gx_fret hC dL_valueFloat_10 ⟨Nat.le_of_ble_eq_true rfl, Nat.le_of_ble_eq_true rfl⟩ ⟨_, rfl, hx⟩
    · refine ⟨[("java/lang/IllegalArgumentException", 7, 20)], [("java/lang/IllegalStateException", 15, 22)], 11, 28, rfl, by decide, fun q => ?_⟩
      refine ga_astore_n (lv' := [(3, .ref q), (0, .ref (ad 0)), (1, .int v1), (2, .int v2)]) hC dL_valueFloat_11 rfl (by decide) rfl ?_
      refine ga_ldcf (v := (3264872448)) hC (cg_in5 107 (by decide +kernel) (by decide +kernel)) dL_valueFloat_12 ?_
      exact gx_fret hC dL_valueFloat_14 ⟨Nat.le_of_ble_eq_true rfl, Nat.le_of_ble_eq_true rfl⟩ ⟨_, rfl, hx⟩
    · refine ⟨[("java/lang/IllegalArgumentException", 7, 20), ("java/lang/IndexOutOfBoundsException", 11, 28)], [], 15, 22, rfl, by decide, fun q => ?_⟩
      refine ga_astore_n (lv' := [(3, .ref q), (0, .ref (ad 0)), (1, .int v1), (2, .int v2)]) hC dL_valueFloat_15 rfl (by decide) rfl ?_
      refine ga_ldcf (v := (3265134592)) hC (cg_in5 108 (by decide +kernel) (by decide +kernel)) dL_valueFloat_16 ?_
      exact gx_fret hC dL_valueFloat_18 ⟨Nat.le_of_ble_eq_true rfl, Nat.le_of_ble_eq_true rfl⟩ ⟨_, rfl, hx⟩
  · obtain ⟨r, rfl, h⟩ := hq
    exact gx_fret hC dL_valueFloat_6 ⟨Nat.le_of_ble_eq_true rfl, Nat.le_of_ble_eq_true rfl⟩ ⟨_, rfl, h⟩
def M_L_bound (v1 : Int32) (v2 : Int32) (σ : cg_S) (Q : UInt64 → cg_S → Prop) : Prop := cp_M cg_WC yL_bound (Cond.codeWith yL_bound cL_bound 4 (some .double) [(0, 6, 7, 28), (0, 6, 12, 20), (0, 6, 17, 22)]) (cg_RX 4 3) 3 18 (fun ad => [.ref (ad 0), .int v1, .int v2]) σ (cg_qd Q)
theorem M_L_bound.mono {v1 : Int32} {v2 : Int32} {σ : cg_S} {Q Q2 : UInt64 → cg_S → Prop} (h : M_L_bound v1 v2 σ Q) (hq : ∀ r τ, Q r τ → Q2 r τ) : M_L_bound v1 v2 σ Q2 := cp_M.mono h (fun ad v τ ⟨r, e, q⟩ => ⟨r, e, hq r τ q⟩)
set_option maxRecDepth 100000 in
set_option maxHeartbeats 4000000 in
theorem w_bound {v1 : Int32} {v2 : Int32} {σ : cg_S} {Q : UInt64 → cg_S → Prop}
    (h : M_X11_bound v1 v2 σ (fun r τ => Q r τ) (fun E τ => (E = "java/lang/IndexOutOfBoundsException" ∧ Q (13858490847093325824) τ) ∨ (E = "java/lang/IllegalArgumentException" ∧ Q (13858561215837503488) τ) ∨ (E = "java/lang/IllegalStateException" ∧ Q (13858631584581681152) τ))) : M_L_bound v1 v2 σ Q := by
  refine cp_entryW (lv := fun ad => [(0, .ref (ad 0)), (1, .int v1), (2, .int v2)]) (by decide +kernel) (fun _ => rfl) (fun _ => Nat.le_of_ble_eq_true rfl) ?_
  intro p l e s m args below meth c D cy ad hY
  have hC := hY.1
  refine ga_aload_n hC dL_bound_0 0 rfl rfl ?_
  refine ga_iload_n hC dL_bound_1 1 rfl rfl ?_
  refine ga_iload_n hC dL_bound_2 2 rfl rfl ?_
  refine gp_callX (As := [.int v1, .int v2]) (st := []) (n := 2) (hs := [("java/lang/IndexOutOfBoundsException", 7, 28), ("java/lang/IllegalArgumentException", 12, 20), ("java/lang/IllegalStateException", 17, 22)]) (sp := 0) (ep := 6) hY h (cg_in5 115 (by decide +kernel) (by decide +kernel)) (cg_in5 116 (by decide +kernel) (by decide +kernel)) (cg_in5 117 (by decide +kernel) (by decide +kernel)) (cg_in1 1 (by decide +kernel) (by decide +kernel)) (cg_in5 118 (by decide +kernel) (by decide +kernel)) rfl rfl rfl (by decide +kernel) ⟨Nat.le_of_ble_eq_true rfl, Nat.le_of_ble_eq_true rfl⟩ ⟨Nat.le_of_ble_eq_true rfl, Nat.le_of_ble_eq_true rfl⟩ rfl rfl (Nat.le_of_ble_eq_true rfl) dL_bound_3 rfl ⟨by decide, by decide⟩ (List.forall_mem_cons.mpr ⟨⟨by decide, by decide, (cg_in3 226 (by decide +kernel) (by decide +kernel))⟩, (List.forall_mem_cons.mpr ⟨⟨by decide, by decide, (cg_in3 122 (by decide +kernel) (by decide +kernel))⟩, (List.forall_mem_cons.mpr ⟨⟨by decide, by decide, (cg_in3 123 (by decide +kernel) (by decide +kernel))⟩, fun _ h => absurd h List.not_mem_nil⟩)⟩)⟩) (fun E τ hx => ?_) (fun v τ hq => ?_)
  · rcases hx with ⟨rfl, hx⟩ | ⟨rfl, hx⟩ | ⟨rfl, hx⟩
    · refine ⟨[], [("java/lang/IllegalArgumentException", 12, 20), ("java/lang/IllegalStateException", 17, 22)], 7, 28, rfl, by decide, fun q => ?_⟩
      refine ga_astore_n (lv' := [(3, .ref q), (0, .ref (ad 0)), (1, .int v1), (2, .int v2)]) hC dL_bound_7 rfl (by decide) rfl ?_
      refine ga_ldc2d (v := (13858490847093325824)) hC (cg_in5 133 (by decide +kernel) (by decide +kernel)) dL_bound_8 ?_
      exact gx_dret hC dL_bound_11 ⟨Nat.le_of_ble_eq_true rfl, Nat.le_of_ble_eq_true rfl⟩ ⟨_, rfl, hx⟩
    · refine ⟨[("java/lang/IndexOutOfBoundsException", 7, 28)], [("java/lang/IllegalStateException", 17, 22)], 12, 20, rfl, by decide, fun q => ?_⟩
      refine ga_astore_n (lv' := [(3, .ref q), (0, .ref (ad 0)), (1, .int v1), (2, .int v2)]) hC dL_bound_12 rfl (by decide) rfl ?_
      refine ga_ldc2d (v := (13858561215837503488)) hC (cg_in5 134 (by decide +kernel) (by decide +kernel)) dL_bound_13 ?_
      exact gx_dret hC dL_bound_16 ⟨Nat.le_of_ble_eq_true rfl, Nat.le_of_ble_eq_true rfl⟩ ⟨_, rfl, hx⟩
    · refine ⟨[("java/lang/IndexOutOfBoundsException", 7, 28), ("java/lang/IllegalArgumentException", 12, 20)], [], 17, 22, rfl, by decide, fun q => ?_⟩
      refine ga_astore_n (lv' := [(3, .ref q), (0, .ref (ad 0)), (1, .int v1), (2, .int v2)]) hC dL_bound_17 rfl (by decide) rfl ?_
      refine ga_ldc2d (v := (13858631584581681152)) hC (cg_in5 135 (by decide +kernel) (by decide +kernel)) dL_bound_18 ?_
      exact gx_dret hC dL_bound_21 ⟨Nat.le_of_ble_eq_true rfl, Nat.le_of_ble_eq_true rfl⟩ ⟨_, rfl, hx⟩
  · obtain ⟨r, rfl, h⟩ := hq
    exact gx_dret hC dL_bound_6 ⟨Nat.le_of_ble_eq_true rfl, Nat.le_of_ble_eq_true rfl⟩ ⟨_, rfl, h⟩
def M_L_isZero (v1 : Int32) (σ : cg_S) (Q : Int32 → cg_S → Prop) : Prop := cp_M cg_WC yL_isZero (Cond.codeWith yL_isZero cL_isZero 3 (some .int) [(0, 13, 14, 28), (0, 13, 18, 22)]) (cg_RX 5 2) 2 12 (fun ad => [.ref (ad 0), .int v1]) σ (cg_qi Q)
theorem M_L_isZero.mono {v1 : Int32} {σ : cg_S} {Q Q2 : Int32 → cg_S → Prop} (h : M_L_isZero v1 σ Q) (hq : ∀ r τ, Q r τ → Q2 r τ) : M_L_isZero v1 σ Q2 := cp_M.mono h (fun ad v τ ⟨r, e, q⟩ => ⟨r, e, hq r τ q⟩)
set_option maxRecDepth 100000 in
set_option maxHeartbeats 4000000 in
theorem w_isZero {v1 : Int32} {σ : cg_S} {Q : Int32 → cg_S → Prop}
    (h : M_X11_isZero v1 σ (fun r τ => (r = 0 → Q 0 τ) ∧ (¬ r = 0 → Q 1 τ)) (fun E τ => (E = "java/lang/IndexOutOfBoundsException" ∧ Q (-77) τ) ∨ (E = "java/lang/IllegalStateException" ∧ Q (-79) τ))) : M_L_isZero v1 σ Q := by
  refine cp_entryW (lv := fun ad => [(0, .ref (ad 0)), (1, .int v1)]) (by decide +kernel) (fun _ => rfl) (fun _ => Nat.le_of_ble_eq_true rfl) ?_
  intro p l e s m args below meth c D cy ad hY
  have hC := hY.1
  refine ga_aload_n hC dL_isZero_0 0 rfl rfl ?_
  refine ga_iload_n hC dL_isZero_1 1 rfl rfl ?_
  refine gp_callX (As := [.int v1]) (st := []) (n := 1) (hs := [("java/lang/IndexOutOfBoundsException", 14, 28), ("java/lang/IllegalStateException", 18, 22)]) (sp := 0) (ep := 13) hY h (cg_in5 85 (by decide +kernel) (by decide +kernel)) (cg_in5 86 (by decide +kernel) (by decide +kernel)) (cg_in5 87 (by decide +kernel) (by decide +kernel)) (cg_in1 1 (by decide +kernel) (by decide +kernel)) (cg_in5 88 (by decide +kernel) (by decide +kernel)) rfl rfl rfl (by decide +kernel) ⟨Nat.le_of_ble_eq_true rfl, Nat.le_of_ble_eq_true rfl⟩ ⟨Nat.le_of_ble_eq_true rfl, Nat.le_of_ble_eq_true rfl⟩ rfl rfl (Nat.le_of_ble_eq_true rfl) dL_isZero_2 rfl ⟨by decide, by decide⟩ (List.forall_mem_cons.mpr ⟨⟨by decide, by decide, (cg_in3 226 (by decide +kernel) (by decide +kernel))⟩, (List.forall_mem_cons.mpr ⟨⟨by decide, by decide, (cg_in3 123 (by decide +kernel) (by decide +kernel))⟩, fun _ h => absurd h List.not_mem_nil⟩)⟩) (fun E τ hx => ?_) (fun v τ hq => ?_)
  · rcases hx with ⟨rfl, hx⟩ | ⟨rfl, hx⟩
    · refine ⟨[], [("java/lang/IllegalStateException", 18, 22)], 14, 28, rfl, by decide, fun q => ?_⟩
      refine ga_astore_n (lv' := [(2, .ref q), (0, .ref (ad 0)), (1, .int v1)]) hC dL_isZero_14 rfl (by decide) rfl ?_
      refine ga_bipush (v := (-77)) hC dL_isZero_15 (by decide) ?_
      exact gx_iret hC dL_isZero_17 ⟨Nat.le_of_ble_eq_true rfl, Nat.le_of_ble_eq_true rfl⟩ ⟨_, rfl, hx⟩
    · refine ⟨[("java/lang/IndexOutOfBoundsException", 14, 28)], [], 18, 22, rfl, by decide, fun q => ?_⟩
      refine ga_astore_n (lv' := [(2, .ref q), (0, .ref (ad 0)), (1, .int v1)]) hC dL_isZero_18 rfl (by decide) rfl ?_
      refine ga_bipush (v := (-79)) hC dL_isZero_19 (by decide) ?_
      exact gx_iret hC dL_isZero_21 ⟨Nat.le_of_ble_eq_true rfl, Nat.le_of_ble_eq_true rfl⟩ ⟨_, rfl, hx⟩
  · obtain ⟨r, rfl, h⟩ := hq
    refine ga_if_eq (tgt := 12) hC dL_isZero_5 (by decide) (fun hc => ?_) (fun hc => ?_)
    · have h := h.1 hc
      refine ga_iconst (v := 0) hC dL_isZero_12 (by decide) ?_
      exact gx_iret hC dL_isZero_13 ⟨Nat.le_of_ble_eq_true rfl, Nat.le_of_ble_eq_true rfl⟩ ⟨_, rfl, h⟩
    · have h := h.2 hc
      refine ga_iconst (v := 1) hC dL_isZero_8 (by decide) ?_
      refine ga_goto (tgt := 13) hC dL_isZero_9 (by decide) ?_
      exact gx_iret hC dL_isZero_13 ⟨Nat.le_of_ble_eq_true rfl, Nat.le_of_ble_eq_true rfl⟩ ⟨_, rfl, h⟩
def M_L_isOne (v1 : Int32) (σ : cg_S) (Q : Int32 → cg_S → Prop) : Prop := cp_M cg_WC yL_isOne (Cond.codeWith yL_isOne cL_isOne 3 (some .int) [(0, 13, 14, 28), (0, 13, 18, 22)]) (cg_RX 5 2) 2 12 (fun ad => [.ref (ad 0), .int v1]) σ (cg_qi Q)
theorem M_L_isOne.mono {v1 : Int32} {σ : cg_S} {Q Q2 : Int32 → cg_S → Prop} (h : M_L_isOne v1 σ Q) (hq : ∀ r τ, Q r τ → Q2 r τ) : M_L_isOne v1 σ Q2 := cp_M.mono h (fun ad v τ ⟨r, e, q⟩ => ⟨r, e, hq r τ q⟩)
set_option maxRecDepth 100000 in
set_option maxHeartbeats 4000000 in
theorem w_isOne {v1 : Int32} {σ : cg_S} {Q : Int32 → cg_S → Prop}
    (h : M_X11_isOne v1 σ (fun r τ => (r = 0 → Q 0 τ) ∧ (¬ r = 0 → Q 1 τ)) (fun E τ => (E = "java/lang/IndexOutOfBoundsException" ∧ Q (-77) τ) ∨ (E = "java/lang/IllegalStateException" ∧ Q (-79) τ))) : M_L_isOne v1 σ Q := by
  refine cp_entryW (lv := fun ad => [(0, .ref (ad 0)), (1, .int v1)]) (by decide +kernel) (fun _ => rfl) (fun _ => Nat.le_of_ble_eq_true rfl) ?_
  intro p l e s m args below meth c D cy ad hY
  have hC := hY.1
  refine ga_aload_n hC dL_isOne_0 0 rfl rfl ?_
  refine ga_iload_n hC dL_isOne_1 1 rfl rfl ?_
  refine gp_callX (As := [.int v1]) (st := []) (n := 1) (hs := [("java/lang/IndexOutOfBoundsException", 14, 28), ("java/lang/IllegalStateException", 18, 22)]) (sp := 0) (ep := 13) hY h (cg_in5 92 (by decide +kernel) (by decide +kernel)) (cg_in5 93 (by decide +kernel) (by decide +kernel)) (cg_in5 94 (by decide +kernel) (by decide +kernel)) (cg_in1 1 (by decide +kernel) (by decide +kernel)) (cg_in5 95 (by decide +kernel) (by decide +kernel)) rfl rfl rfl (by decide +kernel) ⟨Nat.le_of_ble_eq_true rfl, Nat.le_of_ble_eq_true rfl⟩ ⟨Nat.le_of_ble_eq_true rfl, Nat.le_of_ble_eq_true rfl⟩ rfl rfl (Nat.le_of_ble_eq_true rfl) dL_isOne_2 rfl ⟨by decide, by decide⟩ (List.forall_mem_cons.mpr ⟨⟨by decide, by decide, (cg_in3 226 (by decide +kernel) (by decide +kernel))⟩, (List.forall_mem_cons.mpr ⟨⟨by decide, by decide, (cg_in3 123 (by decide +kernel) (by decide +kernel))⟩, fun _ h => absurd h List.not_mem_nil⟩)⟩) (fun E τ hx => ?_) (fun v τ hq => ?_)
  · rcases hx with ⟨rfl, hx⟩ | ⟨rfl, hx⟩
    · refine ⟨[], [("java/lang/IllegalStateException", 18, 22)], 14, 28, rfl, by decide, fun q => ?_⟩
      refine ga_astore_n (lv' := [(2, .ref q), (0, .ref (ad 0)), (1, .int v1)]) hC dL_isOne_14 rfl (by decide) rfl ?_
      refine ga_bipush (v := (-77)) hC dL_isOne_15 (by decide) ?_
      exact gx_iret hC dL_isOne_17 ⟨Nat.le_of_ble_eq_true rfl, Nat.le_of_ble_eq_true rfl⟩ ⟨_, rfl, hx⟩
    · refine ⟨[("java/lang/IndexOutOfBoundsException", 14, 28)], [], 18, 22, rfl, by decide, fun q => ?_⟩
      refine ga_astore_n (lv' := [(2, .ref q), (0, .ref (ad 0)), (1, .int v1)]) hC dL_isOne_18 rfl (by decide) rfl ?_
      refine ga_bipush (v := (-79)) hC dL_isOne_19 (by decide) ?_
      exact gx_iret hC dL_isOne_21 ⟨Nat.le_of_ble_eq_true rfl, Nat.le_of_ble_eq_true rfl⟩ ⟨_, rfl, hx⟩
  · obtain ⟨r, rfl, h⟩ := hq
    refine ga_if_eq (tgt := 12) hC dL_isOne_5 (by decide) (fun hc => ?_) (fun hc => ?_)
    · have h := h.1 hc
      refine ga_iconst (v := 0) hC dL_isOne_12 (by decide) ?_
      exact gx_iret hC dL_isOne_13 ⟨Nat.le_of_ble_eq_true rfl, Nat.le_of_ble_eq_true rfl⟩ ⟨_, rfl, h⟩
    · have h := h.2 hc
      refine ga_iconst (v := 1) hC dL_isOne_8 (by decide) ?_
      refine ga_goto (tgt := 13) hC dL_isOne_9 (by decide) ?_
      exact gx_iret hC dL_isOne_13 ⟨Nat.le_of_ble_eq_true rfl, Nat.le_of_ble_eq_true rfl⟩ ⟨_, rfl, h⟩
def M_L_solve (v1 : Int32) (σ : cg_S) (Q : Int32 → cg_S → Prop) : Prop := cp_M cg_WC yL_solve (Cond.codeWith yL_solve cL_solve 3 (some .int) [(0, 5, 6, 20), (0, 5, 10, 22)]) (cg_RX 7 2) 2 12 (fun ad => [.ref (ad 0), .int v1]) σ (cg_qi Q)
theorem M_L_solve.mono {v1 : Int32} {σ : cg_S} {Q Q2 : Int32 → cg_S → Prop} (h : M_L_solve v1 σ Q) (hq : ∀ r τ, Q r τ → Q2 r τ) : M_L_solve v1 σ Q2 := cp_M.mono h (fun ad v τ ⟨r, e, q⟩ => ⟨r, e, hq r τ q⟩)
set_option maxRecDepth 100000 in
set_option maxHeartbeats 4000000 in
theorem w_solve {v1 : Int32} {σ : cg_S} {Q : Int32 → cg_S → Prop}
    (h : M_X11_solve v1 σ (fun r τ => Q r τ) (fun E τ => (E = "java/lang/IllegalArgumentException" ∧ Q (-78) τ) ∨ (E = "java/lang/IllegalStateException" ∧ Q (-79) τ))) : M_L_solve v1 σ Q := by
  refine cp_entryW (lv := fun ad => [(0, .ref (ad 0)), (1, .int v1)]) (by decide +kernel) (fun _ => rfl) (fun _ => Nat.le_of_ble_eq_true rfl) ?_
  intro p l e s m args below meth c D cy ad hY
  have hC := hY.1
  refine ga_aload_n hC dL_solve_0 0 rfl rfl ?_
  refine ga_iload_n hC dL_solve_1 1 rfl rfl ?_
  refine gp_callX (As := [.int v1]) (st := []) (n := 1) (hs := [("java/lang/IllegalArgumentException", 6, 20), ("java/lang/IllegalStateException", 10, 22)]) (sp := 0) (ep := 5) hY h (cg_in4 87 (by decide +kernel) (by decide +kernel)) (cg_in4 88 (by decide +kernel) (by decide +kernel)) (cg_in4 89 (by decide +kernel) (by decide +kernel)) (cg_in1 1 (by decide +kernel) (by decide +kernel)) (cg_in4 90 (by decide +kernel) (by decide +kernel)) rfl rfl rfl (by decide +kernel) ⟨Nat.le_of_ble_eq_true rfl, Nat.le_of_ble_eq_true rfl⟩ ⟨Nat.le_of_ble_eq_true rfl, Nat.le_of_ble_eq_true rfl⟩ rfl rfl (Nat.le_of_ble_eq_true rfl) dL_solve_2 rfl ⟨by decide, by decide⟩ (List.forall_mem_cons.mpr ⟨⟨by decide, by decide, (cg_in3 122 (by decide +kernel) (by decide +kernel))⟩, (List.forall_mem_cons.mpr ⟨⟨by decide, by decide, (cg_in3 123 (by decide +kernel) (by decide +kernel))⟩, fun _ h => absurd h List.not_mem_nil⟩)⟩) (fun E τ hx => ?_) (fun v τ hq => ?_)
  · rcases hx with ⟨rfl, hx⟩ | ⟨rfl, hx⟩
    · refine ⟨[], [("java/lang/IllegalStateException", 10, 22)], 6, 20, rfl, by decide, fun q => ?_⟩
      refine ga_astore_n (lv' := [(2, .ref q), (0, .ref (ad 0)), (1, .int v1)]) hC dL_solve_6 rfl (by decide) rfl ?_
      refine ga_bipush (v := (-78)) hC dL_solve_7 (by decide) ?_
      exact gx_iret hC dL_solve_9 ⟨Nat.le_of_ble_eq_true rfl, Nat.le_of_ble_eq_true rfl⟩ ⟨_, rfl, hx⟩
    · refine ⟨[("java/lang/IllegalArgumentException", 6, 20)], [], 10, 22, rfl, by decide, fun q => ?_⟩
      refine ga_astore_n (lv' := [(2, .ref q), (0, .ref (ad 0)), (1, .int v1)]) hC dL_solve_10 rfl (by decide) rfl ?_
      refine ga_bipush (v := (-79)) hC dL_solve_11 (by decide) ?_
      exact gx_iret hC dL_solve_13 ⟨Nat.le_of_ble_eq_true rfl, Nat.le_of_ble_eq_true rfl⟩ ⟨_, rfl, hx⟩
  · obtain ⟨r, rfl, h⟩ := hq
    exact gx_iret hC dL_solve_5 ⟨Nat.le_of_ble_eq_true rfl, Nat.le_of_ble_eq_true rfl⟩ ⟨_, rfl, h⟩
def M_L_tell (v1 : Int32) (v2 : Int32) (σ : cg_S) (Q : Int32 → cg_S → Prop) : Prop := cp_M cg_WC yL_tell (Cond.codeWith yL_tell cL_tell 4 (some .int) [(0, 6, 7, 28)]) (cg_RX 4 1) 1 6 (fun ad => [.ref (ad 0), .int v1, .int v2]) σ (cg_qi Q)
theorem M_L_tell.mono {v1 : Int32} {v2 : Int32} {σ : cg_S} {Q Q2 : Int32 → cg_S → Prop} (h : M_L_tell v1 v2 σ Q) (hq : ∀ r τ, Q r τ → Q2 r τ) : M_L_tell v1 v2 σ Q2 := cp_M.mono h (fun ad v τ ⟨r, e, q⟩ => ⟨r, e, hq r τ q⟩)
set_option maxRecDepth 100000 in
set_option maxHeartbeats 4000000 in
theorem w_tell {v1 : Int32} {v2 : Int32} {σ : cg_S} {Q : Int32 → cg_S → Prop}
    (h : M_X11_tell v1 v2 σ (fun r τ => Q r τ) (fun E τ => (E = "java/lang/IndexOutOfBoundsException" ∧ Q (-77) τ))) : M_L_tell v1 v2 σ Q := by
  refine cp_entryW (lv := fun ad => [(0, .ref (ad 0)), (1, .int v1), (2, .int v2)]) (by decide +kernel) (fun _ => rfl) (fun _ => Nat.le_of_ble_eq_true rfl) ?_
  intro p l e s m args below meth c D cy ad hY
  have hC := hY.1
  refine ga_aload_n hC dL_tell_0 0 rfl rfl ?_
  refine ga_iload_n hC dL_tell_1 1 rfl rfl ?_
  refine ga_iload_n hC dL_tell_2 2 rfl rfl ?_
  refine gp_callX (As := [.int v1, .int v2]) (st := []) (n := 2) (hs := [("java/lang/IndexOutOfBoundsException", 7, 28)]) (sp := 0) (ep := 6) hY h (cg_in6 132 (by decide +kernel) (by decide +kernel)) (cg_in6 133 (by decide +kernel) (by decide +kernel)) (cg_in6 134 (by decide +kernel) (by decide +kernel)) (cg_in1 1 (by decide +kernel) (by decide +kernel)) (cg_in6 135 (by decide +kernel) (by decide +kernel)) rfl rfl rfl (by decide +kernel) ⟨Nat.le_of_ble_eq_true rfl, Nat.le_of_ble_eq_true rfl⟩ ⟨Nat.le_of_ble_eq_true rfl, Nat.le_of_ble_eq_true rfl⟩ rfl rfl (Nat.le_of_ble_eq_true rfl) dL_tell_3 rfl ⟨by decide, by decide⟩ (List.forall_mem_cons.mpr ⟨⟨by decide, by decide, (cg_in3 226 (by decide +kernel) (by decide +kernel))⟩, fun _ h => absurd h List.not_mem_nil⟩) (fun E τ hx => ?_) (fun v τ hq => ?_)
  · obtain ⟨rfl, hx⟩ := hx
    refine ⟨[], [], 7, 28, rfl, by decide, fun q => ?_⟩
    refine ga_astore_n (lv' := [(3, .ref q), (0, .ref (ad 0)), (1, .int v1), (2, .int v2)]) hC dL_tell_7 rfl (by decide) rfl ?_
    refine ga_bipush (v := (-77)) hC dL_tell_8 (by decide) ?_
    exact gx_iret hC dL_tell_10 ⟨Nat.le_of_ble_eq_true rfl, Nat.le_of_ble_eq_true rfl⟩ ⟨_, rfl, hx⟩
  · obtain ⟨r, rfl, h⟩ := hq
    exact gx_iret hC dL_tell_6 ⟨Nat.le_of_ble_eq_true rfl, Nat.le_of_ble_eq_true rfl⟩ ⟨_, rfl, h⟩
def M_L_told (v1 : Int32) (σ : cg_S) (Q : Int32 → cg_S → Prop) : Prop := cp_M cg_WC yL_told (Cond.codeWith yL_told cL_told 3 (some .int) [(0, 5, 6, 28)]) (cg_RX 3 1) 1 6 (fun ad => [.ref (ad 0), .int v1]) σ (cg_qi Q)
theorem M_L_told.mono {v1 : Int32} {σ : cg_S} {Q Q2 : Int32 → cg_S → Prop} (h : M_L_told v1 σ Q) (hq : ∀ r τ, Q r τ → Q2 r τ) : M_L_told v1 σ Q2 := cp_M.mono h (fun ad v τ ⟨r, e, q⟩ => ⟨r, e, hq r τ q⟩)
set_option maxRecDepth 100000 in
set_option maxHeartbeats 4000000 in
theorem w_told {v1 : Int32} {σ : cg_S} {Q : Int32 → cg_S → Prop}
    (h : M_X11_told v1 σ (fun r τ => Q r τ) (fun E τ => (E = "java/lang/IndexOutOfBoundsException" ∧ Q (-77) τ))) : M_L_told v1 σ Q := by
  refine cp_entryW (lv := fun ad => [(0, .ref (ad 0)), (1, .int v1)]) (by decide +kernel) (fun _ => rfl) (fun _ => Nat.le_of_ble_eq_true rfl) ?_
  intro p l e s m args below meth c D cy ad hY
  have hC := hY.1
  refine ga_aload_n hC dL_told_0 0 rfl rfl ?_
  refine ga_iload_n hC dL_told_1 1 rfl rfl ?_
  refine gp_callX (As := [.int v1]) (st := []) (n := 1) (hs := [("java/lang/IndexOutOfBoundsException", 6, 28)]) (sp := 0) (ep := 5) hY h (cg_in4 137 (by decide +kernel) (by decide +kernel)) (cg_in4 138 (by decide +kernel) (by decide +kernel)) (cg_in4 139 (by decide +kernel) (by decide +kernel)) (cg_in1 1 (by decide +kernel) (by decide +kernel)) (cg_in4 140 (by decide +kernel) (by decide +kernel)) rfl rfl rfl (by decide +kernel) ⟨Nat.le_of_ble_eq_true rfl, Nat.le_of_ble_eq_true rfl⟩ ⟨Nat.le_of_ble_eq_true rfl, Nat.le_of_ble_eq_true rfl⟩ rfl rfl (Nat.le_of_ble_eq_true rfl) dL_told_2 rfl ⟨by decide, by decide⟩ (List.forall_mem_cons.mpr ⟨⟨by decide, by decide, (cg_in3 226 (by decide +kernel) (by decide +kernel))⟩, fun _ h => absurd h List.not_mem_nil⟩) (fun E τ hx => ?_) (fun v τ hq => ?_)
  · obtain ⟨rfl, hx⟩ := hx
    refine ⟨[], [], 6, 28, rfl, by decide, fun q => ?_⟩
    refine ga_astore_n (lv' := [(2, .ref q), (0, .ref (ad 0)), (1, .int v1)]) hC dL_told_6 rfl (by decide) rfl ?_
    refine ga_bipush (v := (-77)) hC dL_told_7 (by decide) ?_
    exact gx_iret hC dL_told_9 ⟨Nat.le_of_ble_eq_true rfl, Nat.le_of_ble_eq_true rfl⟩ ⟨_, rfl, hx⟩
  · obtain ⟨r, rfl, h⟩ := hq
    exact gx_iret hC dL_told_5 ⟨Nat.le_of_ble_eq_true rfl, Nat.le_of_ble_eq_true rfl⟩ ⟨_, rfl, h⟩
def M_L_chainAbove (v1 : Int32) (v2 : Int32) (σ : cg_S) (Q : Int64 → cg_S → Prop) : Prop := cp_M cg_WC yL_chainAbove (Cond.codeWith yL_chainAbove cL_chainAbove 4 (some .long) [(0, 6, 7, 20), (0, 6, 12, 28), (0, 6, 17, 22)]) (cg_RX 7 3) 3 18 (fun ad => [.ref (ad 0), .int v1, .int v2]) σ (cg_ql Q)
theorem M_L_chainAbove.mono {v1 : Int32} {v2 : Int32} {σ : cg_S} {Q Q2 : Int64 → cg_S → Prop} (h : M_L_chainAbove v1 v2 σ Q) (hq : ∀ r τ, Q r τ → Q2 r τ) : M_L_chainAbove v1 v2 σ Q2 := cp_M.mono h (fun ad v τ ⟨r, e, q⟩ => ⟨r, e, hq r τ q⟩)
set_option maxRecDepth 100000 in
set_option maxHeartbeats 4000000 in
theorem w_chainAbove {v1 : Int32} {v2 : Int32} {σ : cg_S} {Q : Int64 → cg_S → Prop}
    (h : M_X11_chainAbove v1 v2 σ (fun r τ => Q r τ) (fun E τ => (E = "java/lang/IllegalArgumentException" ∧ Q (-78) τ) ∨ (E = "java/lang/IndexOutOfBoundsException" ∧ Q (-77) τ) ∨ (E = "java/lang/IllegalStateException" ∧ Q (-79) τ))) : M_L_chainAbove v1 v2 σ Q := by
  refine cp_entryW (lv := fun ad => [(0, .ref (ad 0)), (1, .int v1), (2, .int v2)]) (by decide +kernel) (fun _ => rfl) (fun _ => Nat.le_of_ble_eq_true rfl) ?_
  intro p l e s m args below meth c D cy ad hY
  have hC := hY.1
  refine ga_aload_n hC dL_chainAbove_0 0 rfl rfl ?_
  refine ga_iload_n hC dL_chainAbove_1 1 rfl rfl ?_
  refine ga_iload_n hC dL_chainAbove_2 2 rfl rfl ?_
  refine gp_callX (As := [.int v1, .int v2]) (st := []) (n := 2) (hs := [("java/lang/IllegalArgumentException", 7, 20), ("java/lang/IndexOutOfBoundsException", 12, 28), ("java/lang/IllegalStateException", 17, 22)]) (sp := 0) (ep := 6) hY h (cg_in4 209 (by decide +kernel) (by decide +kernel)) (cg_in4 210 (by decide +kernel) (by decide +kernel)) (cg_in4 211 (by decide +kernel) (by decide +kernel)) (cg_in1 1 (by decide +kernel) (by decide +kernel)) (cg_in4 212 (by decide +kernel) (by decide +kernel)) rfl rfl rfl (by decide +kernel) ⟨Nat.le_of_ble_eq_true rfl, Nat.le_of_ble_eq_true rfl⟩ ⟨Nat.le_of_ble_eq_true rfl, Nat.le_of_ble_eq_true rfl⟩ rfl rfl (Nat.le_of_ble_eq_true rfl) dL_chainAbove_3 rfl ⟨by decide, by decide⟩ (List.forall_mem_cons.mpr ⟨⟨by decide, by decide, (cg_in3 122 (by decide +kernel) (by decide +kernel))⟩, (List.forall_mem_cons.mpr ⟨⟨by decide, by decide, (cg_in3 226 (by decide +kernel) (by decide +kernel))⟩, (List.forall_mem_cons.mpr ⟨⟨by decide, by decide, (cg_in3 123 (by decide +kernel) (by decide +kernel))⟩, fun _ h => absurd h List.not_mem_nil⟩)⟩)⟩) (fun E τ hx => ?_) (fun v τ hq => ?_)
  · rcases hx with ⟨rfl, hx⟩ | ⟨rfl, hx⟩ | ⟨rfl, hx⟩
    · refine ⟨[], [("java/lang/IndexOutOfBoundsException", 12, 28), ("java/lang/IllegalStateException", 17, 22)], 7, 20, rfl, by decide, fun q => ?_⟩
      refine ga_astore_n (lv' := [(3, .ref q), (0, .ref (ad 0)), (1, .int v1), (2, .int v2)]) hC dL_chainAbove_7 rfl (by decide) rfl ?_
      refine ga_ldc2 (v := (-78)) hC (cg_in4 173 (by decide +kernel) (by decide +kernel)) dL_chainAbove_8 ?_
      exact gx_lret hC dL_chainAbove_11 ⟨Nat.le_of_ble_eq_true rfl, Nat.le_of_ble_eq_true rfl⟩ ⟨_, rfl, hx⟩
    · refine ⟨[("java/lang/IllegalArgumentException", 7, 20)], [("java/lang/IllegalStateException", 17, 22)], 12, 28, rfl, by decide, fun q => ?_⟩
      refine ga_astore_n (lv' := [(3, .ref q), (0, .ref (ad 0)), (1, .int v1), (2, .int v2)]) hC dL_chainAbove_12 rfl (by decide) rfl ?_
      refine ga_ldc2 (v := (-77)) hC (cg_in4 174 (by decide +kernel) (by decide +kernel)) dL_chainAbove_13 ?_
      exact gx_lret hC dL_chainAbove_16 ⟨Nat.le_of_ble_eq_true rfl, Nat.le_of_ble_eq_true rfl⟩ ⟨_, rfl, hx⟩
    · refine ⟨[("java/lang/IllegalArgumentException", 7, 20), ("java/lang/IndexOutOfBoundsException", 12, 28)], [], 17, 22, rfl, by decide, fun q => ?_⟩
      refine ga_astore_n (lv' := [(3, .ref q), (0, .ref (ad 0)), (1, .int v1), (2, .int v2)]) hC dL_chainAbove_17 rfl (by decide) rfl ?_
      refine ga_ldc2 (v := (-79)) hC (cg_in4 175 (by decide +kernel) (by decide +kernel)) dL_chainAbove_18 ?_
      exact gx_lret hC dL_chainAbove_21 ⟨Nat.le_of_ble_eq_true rfl, Nat.le_of_ble_eq_true rfl⟩ ⟨_, rfl, hx⟩
  · obtain ⟨r, rfl, h⟩ := hq
    exact gx_lret hC dL_chainAbove_6 ⟨Nat.le_of_ble_eq_true rfl, Nat.le_of_ble_eq_true rfl⟩ ⟨_, rfl, h⟩
def M_L_chainBelow (v1 : Int32) (v2 : Int32) (σ : cg_S) (Q : Int64 → cg_S → Prop) : Prop := cp_M cg_WC yL_chainBelow (Cond.codeWith yL_chainBelow cL_chainBelow 4 (some .long) [(0, 6, 7, 20), (0, 6, 12, 28), (0, 6, 17, 22)]) (cg_RX 7 3) 3 18 (fun ad => [.ref (ad 0), .int v1, .int v2]) σ (cg_ql Q)
theorem M_L_chainBelow.mono {v1 : Int32} {v2 : Int32} {σ : cg_S} {Q Q2 : Int64 → cg_S → Prop} (h : M_L_chainBelow v1 v2 σ Q) (hq : ∀ r τ, Q r τ → Q2 r τ) : M_L_chainBelow v1 v2 σ Q2 := cp_M.mono h (fun ad v τ ⟨r, e, q⟩ => ⟨r, e, hq r τ q⟩)
set_option maxRecDepth 100000 in
set_option maxHeartbeats 4000000 in
theorem w_chainBelow {v1 : Int32} {v2 : Int32} {σ : cg_S} {Q : Int64 → cg_S → Prop}
    (h : M_X11_chainBelow v1 v2 σ (fun r τ => Q r τ) (fun E τ => (E = "java/lang/IllegalArgumentException" ∧ Q (-78) τ) ∨ (E = "java/lang/IndexOutOfBoundsException" ∧ Q (-77) τ) ∨ (E = "java/lang/IllegalStateException" ∧ Q (-79) τ))) : M_L_chainBelow v1 v2 σ Q := by
  refine cp_entryW (lv := fun ad => [(0, .ref (ad 0)), (1, .int v1), (2, .int v2)]) (by decide +kernel) (fun _ => rfl) (fun _ => Nat.le_of_ble_eq_true rfl) ?_
  intro p l e s m args below meth c D cy ad hY
  have hC := hY.1
  refine ga_aload_n hC dL_chainBelow_0 0 rfl rfl ?_
  refine ga_iload_n hC dL_chainBelow_1 1 rfl rfl ?_
  refine ga_iload_n hC dL_chainBelow_2 2 rfl rfl ?_
  refine gp_callX (As := [.int v1, .int v2]) (st := []) (n := 2) (hs := [("java/lang/IllegalArgumentException", 7, 20), ("java/lang/IndexOutOfBoundsException", 12, 28), ("java/lang/IllegalStateException", 17, 22)]) (sp := 0) (ep := 6) hY h (cg_in5 60 (by decide +kernel) (by decide +kernel)) (cg_in5 61 (by decide +kernel) (by decide +kernel)) (cg_in5 62 (by decide +kernel) (by decide +kernel)) (cg_in1 1 (by decide +kernel) (by decide +kernel)) (cg_in5 63 (by decide +kernel) (by decide +kernel)) rfl rfl rfl (by decide +kernel) ⟨Nat.le_of_ble_eq_true rfl, Nat.le_of_ble_eq_true rfl⟩ ⟨Nat.le_of_ble_eq_true rfl, Nat.le_of_ble_eq_true rfl⟩ rfl rfl (Nat.le_of_ble_eq_true rfl) dL_chainBelow_3 rfl ⟨by decide, by decide⟩ (List.forall_mem_cons.mpr ⟨⟨by decide, by decide, (cg_in3 122 (by decide +kernel) (by decide +kernel))⟩, (List.forall_mem_cons.mpr ⟨⟨by decide, by decide, (cg_in3 226 (by decide +kernel) (by decide +kernel))⟩, (List.forall_mem_cons.mpr ⟨⟨by decide, by decide, (cg_in3 123 (by decide +kernel) (by decide +kernel))⟩, fun _ h => absurd h List.not_mem_nil⟩)⟩)⟩) (fun E τ hx => ?_) (fun v τ hq => ?_)
  · rcases hx with ⟨rfl, hx⟩ | ⟨rfl, hx⟩ | ⟨rfl, hx⟩
    · refine ⟨[], [("java/lang/IndexOutOfBoundsException", 12, 28), ("java/lang/IllegalStateException", 17, 22)], 7, 20, rfl, by decide, fun q => ?_⟩
      refine ga_astore_n (lv' := [(3, .ref q), (0, .ref (ad 0)), (1, .int v1), (2, .int v2)]) hC dL_chainBelow_7 rfl (by decide) rfl ?_
      refine ga_ldc2 (v := (-78)) hC (cg_in4 173 (by decide +kernel) (by decide +kernel)) dL_chainBelow_8 ?_
      exact gx_lret hC dL_chainBelow_11 ⟨Nat.le_of_ble_eq_true rfl, Nat.le_of_ble_eq_true rfl⟩ ⟨_, rfl, hx⟩
    · refine ⟨[("java/lang/IllegalArgumentException", 7, 20)], [("java/lang/IllegalStateException", 17, 22)], 12, 28, rfl, by decide, fun q => ?_⟩
      refine ga_astore_n (lv' := [(3, .ref q), (0, .ref (ad 0)), (1, .int v1), (2, .int v2)]) hC dL_chainBelow_12 rfl (by decide) rfl ?_
      refine ga_ldc2 (v := (-77)) hC (cg_in4 174 (by decide +kernel) (by decide +kernel)) dL_chainBelow_13 ?_
      exact gx_lret hC dL_chainBelow_16 ⟨Nat.le_of_ble_eq_true rfl, Nat.le_of_ble_eq_true rfl⟩ ⟨_, rfl, hx⟩
    · refine ⟨[("java/lang/IllegalArgumentException", 7, 20), ("java/lang/IndexOutOfBoundsException", 12, 28)], [], 17, 22, rfl, by decide, fun q => ?_⟩
      refine ga_astore_n (lv' := [(3, .ref q), (0, .ref (ad 0)), (1, .int v1), (2, .int v2)]) hC dL_chainBelow_17 rfl (by decide) rfl ?_
      refine ga_ldc2 (v := (-79)) hC (cg_in4 175 (by decide +kernel) (by decide +kernel)) dL_chainBelow_18 ?_
      exact gx_lret hC dL_chainBelow_21 ⟨Nat.le_of_ble_eq_true rfl, Nat.le_of_ble_eq_true rfl⟩ ⟨_, rfl, hx⟩
  · obtain ⟨r, rfl, h⟩ := hq
    exact gx_lret hC dL_chainBelow_6 ⟨Nat.le_of_ble_eq_true rfl, Nat.le_of_ble_eq_true rfl⟩ ⟨_, rfl, h⟩
def M_L_responseAbove (v1 : Int32) (v2 : Int32) (v3 : Int32) (σ : cg_S) (Q : Int64 → cg_S → Prop) : Prop := cp_M cg_WC yL_responseAbove (Cond.codeWith yL_responseAbove cL_responseAbove 5 (some .long) [(0, 7, 8, 20), (0, 7, 14, 28), (0, 7, 20, 22)]) (cg_RX 7 4) 4 24 (fun ad => [.ref (ad 0), .int v1, .int v2, .int v3]) σ (cg_ql Q)
theorem M_L_responseAbove.mono {v1 : Int32} {v2 : Int32} {v3 : Int32} {σ : cg_S} {Q Q2 : Int64 → cg_S → Prop} (h : M_L_responseAbove v1 v2 v3 σ Q) (hq : ∀ r τ, Q r τ → Q2 r τ) : M_L_responseAbove v1 v2 v3 σ Q2 := cp_M.mono h (fun ad v τ ⟨r, e, q⟩ => ⟨r, e, hq r τ q⟩)
set_option maxRecDepth 100000 in
set_option maxHeartbeats 4000000 in
theorem w_responseAbove {v1 : Int32} {v2 : Int32} {v3 : Int32} {σ : cg_S} {Q : Int64 → cg_S → Prop}
    (h : M_X11_responseAbove v1 v2 v3 σ (fun r τ => Q r τ) (fun E τ => (E = "java/lang/IllegalArgumentException" ∧ Q (-78) τ) ∨ (E = "java/lang/IndexOutOfBoundsException" ∧ Q (-77) τ) ∨ (E = "java/lang/IllegalStateException" ∧ Q (-79) τ))) : M_L_responseAbove v1 v2 v3 σ Q := by
  refine cp_entryW (lv := fun ad => [(0, .ref (ad 0)), (1, .int v1), (2, .int v2), (3, .int v3)]) (by decide +kernel) (fun _ => rfl) (fun _ => Nat.le_of_ble_eq_true rfl) ?_
  intro p l e s m args below meth c D cy ad hY
  have hC := hY.1
  refine ga_aload_n hC dL_responseAbove_0 0 rfl rfl ?_
  refine ga_iload_n hC dL_responseAbove_1 1 rfl rfl ?_
  refine ga_iload_n hC dL_responseAbove_2 2 rfl rfl ?_
  refine ga_iload_n hC dL_responseAbove_3 3 rfl rfl ?_
  refine gp_callX (As := [.int v1, .int v2, .int v3]) (st := []) (n := 3) (hs := [("java/lang/IllegalArgumentException", 8, 20), ("java/lang/IndexOutOfBoundsException", 14, 28), ("java/lang/IllegalStateException", 20, 22)]) (sp := 0) (ep := 7) hY h (cg_in5 67 (by decide +kernel) (by decide +kernel)) (cg_in5 68 (by decide +kernel) (by decide +kernel)) (cg_in5 69 (by decide +kernel) (by decide +kernel)) (cg_in1 1 (by decide +kernel) (by decide +kernel)) (cg_in5 70 (by decide +kernel) (by decide +kernel)) rfl rfl rfl (by decide +kernel) ⟨Nat.le_of_ble_eq_true rfl, Nat.le_of_ble_eq_true rfl⟩ ⟨Nat.le_of_ble_eq_true rfl, Nat.le_of_ble_eq_true rfl⟩ rfl rfl (Nat.le_of_ble_eq_true rfl) dL_responseAbove_4 rfl ⟨by decide, by decide⟩ (List.forall_mem_cons.mpr ⟨⟨by decide, by decide, (cg_in3 122 (by decide +kernel) (by decide +kernel))⟩, (List.forall_mem_cons.mpr ⟨⟨by decide, by decide, (cg_in3 226 (by decide +kernel) (by decide +kernel))⟩, (List.forall_mem_cons.mpr ⟨⟨by decide, by decide, (cg_in3 123 (by decide +kernel) (by decide +kernel))⟩, fun _ h => absurd h List.not_mem_nil⟩)⟩)⟩) (fun E τ hx => ?_) (fun v τ hq => ?_)
  · rcases hx with ⟨rfl, hx⟩ | ⟨rfl, hx⟩ | ⟨rfl, hx⟩
    · refine ⟨[], [("java/lang/IndexOutOfBoundsException", 14, 28), ("java/lang/IllegalStateException", 20, 22)], 8, 20, rfl, by decide, fun q => ?_⟩
      refine ga_astore (lv' := [(4, .ref q), (0, .ref (ad 0)), (1, .int v1), (2, .int v2), (3, .int v3)]) hC dL_responseAbove_8 (by decide) rfl ?_
      refine ga_ldc2 (v := (-78)) hC (cg_in4 173 (by decide +kernel) (by decide +kernel)) dL_responseAbove_10 ?_
      exact gx_lret hC dL_responseAbove_13 ⟨Nat.le_of_ble_eq_true rfl, Nat.le_of_ble_eq_true rfl⟩ ⟨_, rfl, hx⟩
    · refine ⟨[("java/lang/IllegalArgumentException", 8, 20)], [("java/lang/IllegalStateException", 20, 22)], 14, 28, rfl, by decide, fun q => ?_⟩
      refine ga_astore (lv' := [(4, .ref q), (0, .ref (ad 0)), (1, .int v1), (2, .int v2), (3, .int v3)]) hC dL_responseAbove_14 (by decide) rfl ?_
      refine ga_ldc2 (v := (-77)) hC (cg_in4 174 (by decide +kernel) (by decide +kernel)) dL_responseAbove_16 ?_
      exact gx_lret hC dL_responseAbove_19 ⟨Nat.le_of_ble_eq_true rfl, Nat.le_of_ble_eq_true rfl⟩ ⟨_, rfl, hx⟩
    · refine ⟨[("java/lang/IllegalArgumentException", 8, 20), ("java/lang/IndexOutOfBoundsException", 14, 28)], [], 20, 22, rfl, by decide, fun q => ?_⟩
      refine ga_astore (lv' := [(4, .ref q), (0, .ref (ad 0)), (1, .int v1), (2, .int v2), (3, .int v3)]) hC dL_responseAbove_20 (by decide) rfl ?_
      refine ga_ldc2 (v := (-79)) hC (cg_in4 175 (by decide +kernel) (by decide +kernel)) dL_responseAbove_22 ?_
      exact gx_lret hC dL_responseAbove_25 ⟨Nat.le_of_ble_eq_true rfl, Nat.le_of_ble_eq_true rfl⟩ ⟨_, rfl, hx⟩
  · obtain ⟨r, rfl, h⟩ := hq
    exact gx_lret hC dL_responseAbove_7 ⟨Nat.le_of_ble_eq_true rfl, Nat.le_of_ble_eq_true rfl⟩ ⟨_, rfl, h⟩
def M_L_responseBelow (v1 : Int32) (v2 : Int32) (v3 : Int32) (σ : cg_S) (Q : Int64 → cg_S → Prop) : Prop := cp_M cg_WC yL_responseBelow (Cond.codeWith yL_responseBelow cL_responseBelow 5 (some .long) [(0, 7, 8, 20), (0, 7, 14, 28), (0, 7, 20, 22)]) (cg_RX 7 4) 4 24 (fun ad => [.ref (ad 0), .int v1, .int v2, .int v3]) σ (cg_ql Q)
theorem M_L_responseBelow.mono {v1 : Int32} {v2 : Int32} {v3 : Int32} {σ : cg_S} {Q Q2 : Int64 → cg_S → Prop} (h : M_L_responseBelow v1 v2 v3 σ Q) (hq : ∀ r τ, Q r τ → Q2 r τ) : M_L_responseBelow v1 v2 v3 σ Q2 := cp_M.mono h (fun ad v τ ⟨r, e, q⟩ => ⟨r, e, hq r τ q⟩)
set_option maxRecDepth 100000 in
set_option maxHeartbeats 4000000 in
theorem w_responseBelow {v1 : Int32} {v2 : Int32} {v3 : Int32} {σ : cg_S} {Q : Int64 → cg_S → Prop}
    (h : M_X11_responseBelow v1 v2 v3 σ (fun r τ => Q r τ) (fun E τ => (E = "java/lang/IllegalArgumentException" ∧ Q (-78) τ) ∨ (E = "java/lang/IndexOutOfBoundsException" ∧ Q (-77) τ) ∨ (E = "java/lang/IllegalStateException" ∧ Q (-79) τ))) : M_L_responseBelow v1 v2 v3 σ Q := by
  refine cp_entryW (lv := fun ad => [(0, .ref (ad 0)), (1, .int v1), (2, .int v2), (3, .int v3)]) (by decide +kernel) (fun _ => rfl) (fun _ => Nat.le_of_ble_eq_true rfl) ?_
  intro p l e s m args below meth c D cy ad hY
  have hC := hY.1
  refine ga_aload_n hC dL_responseBelow_0 0 rfl rfl ?_
  refine ga_iload_n hC dL_responseBelow_1 1 rfl rfl ?_
  refine ga_iload_n hC dL_responseBelow_2 2 rfl rfl ?_
  refine ga_iload_n hC dL_responseBelow_3 3 rfl rfl ?_
  refine gp_callX (As := [.int v1, .int v2, .int v3]) (st := []) (n := 3) (hs := [("java/lang/IllegalArgumentException", 8, 20), ("java/lang/IndexOutOfBoundsException", 14, 28), ("java/lang/IllegalStateException", 20, 22)]) (sp := 0) (ep := 7) hY h (cg_in5 78 (by decide +kernel) (by decide +kernel)) (cg_in5 79 (by decide +kernel) (by decide +kernel)) (cg_in5 80 (by decide +kernel) (by decide +kernel)) (cg_in1 1 (by decide +kernel) (by decide +kernel)) (cg_in5 81 (by decide +kernel) (by decide +kernel)) rfl rfl rfl (by decide +kernel) ⟨Nat.le_of_ble_eq_true rfl, Nat.le_of_ble_eq_true rfl⟩ ⟨Nat.le_of_ble_eq_true rfl, Nat.le_of_ble_eq_true rfl⟩ rfl rfl (Nat.le_of_ble_eq_true rfl) dL_responseBelow_4 rfl ⟨by decide, by decide⟩ (List.forall_mem_cons.mpr ⟨⟨by decide, by decide, (cg_in3 122 (by decide +kernel) (by decide +kernel))⟩, (List.forall_mem_cons.mpr ⟨⟨by decide, by decide, (cg_in3 226 (by decide +kernel) (by decide +kernel))⟩, (List.forall_mem_cons.mpr ⟨⟨by decide, by decide, (cg_in3 123 (by decide +kernel) (by decide +kernel))⟩, fun _ h => absurd h List.not_mem_nil⟩)⟩)⟩) (fun E τ hx => ?_) (fun v τ hq => ?_)
  · rcases hx with ⟨rfl, hx⟩ | ⟨rfl, hx⟩ | ⟨rfl, hx⟩
    · refine ⟨[], [("java/lang/IndexOutOfBoundsException", 14, 28), ("java/lang/IllegalStateException", 20, 22)], 8, 20, rfl, by decide, fun q => ?_⟩
      refine ga_astore (lv' := [(4, .ref q), (0, .ref (ad 0)), (1, .int v1), (2, .int v2), (3, .int v3)]) hC dL_responseBelow_8 (by decide) rfl ?_
      refine ga_ldc2 (v := (-78)) hC (cg_in4 173 (by decide +kernel) (by decide +kernel)) dL_responseBelow_10 ?_
      exact gx_lret hC dL_responseBelow_13 ⟨Nat.le_of_ble_eq_true rfl, Nat.le_of_ble_eq_true rfl⟩ ⟨_, rfl, hx⟩
    · refine ⟨[("java/lang/IllegalArgumentException", 8, 20)], [("java/lang/IllegalStateException", 20, 22)], 14, 28, rfl, by decide, fun q => ?_⟩
      refine ga_astore (lv' := [(4, .ref q), (0, .ref (ad 0)), (1, .int v1), (2, .int v2), (3, .int v3)]) hC dL_responseBelow_14 (by decide) rfl ?_
      refine ga_ldc2 (v := (-77)) hC (cg_in4 174 (by decide +kernel) (by decide +kernel)) dL_responseBelow_16 ?_
      exact gx_lret hC dL_responseBelow_19 ⟨Nat.le_of_ble_eq_true rfl, Nat.le_of_ble_eq_true rfl⟩ ⟨_, rfl, hx⟩
    · refine ⟨[("java/lang/IllegalArgumentException", 8, 20), ("java/lang/IndexOutOfBoundsException", 14, 28)], [], 20, 22, rfl, by decide, fun q => ?_⟩
      refine ga_astore (lv' := [(4, .ref q), (0, .ref (ad 0)), (1, .int v1), (2, .int v2), (3, .int v3)]) hC dL_responseBelow_20 (by decide) rfl ?_
      refine ga_ldc2 (v := (-79)) hC (cg_in4 175 (by decide +kernel) (by decide +kernel)) dL_responseBelow_22 ?_
      exact gx_lret hC dL_responseBelow_25 ⟨Nat.le_of_ble_eq_true rfl, Nat.le_of_ble_eq_true rfl⟩ ⟨_, rfl, hx⟩
  · obtain ⟨r, rfl, h⟩ := hq
    exact gx_lret hC dL_responseBelow_7 ⟨Nat.le_of_ble_eq_true rfl, Nat.le_of_ble_eq_true rfl⟩ ⟨_, rfl, h⟩
def M_L_closedOf (v1 : Int32) (σ : cg_S) (Q : Int32 → cg_S → Prop) : Prop := cp_M cg_WC yL_closedOf (Cond.codeWith yL_closedOf cL_closedOf 3 (some .int) [(0, 5, 6, 28), (0, 5, 10, 22), (0, 5, 14, 123)]) (cg_RX 5 3) 3 18 (fun ad => [.ref (ad 0), .int v1]) σ (cg_qi Q)
theorem M_L_closedOf.mono {v1 : Int32} {σ : cg_S} {Q Q2 : Int32 → cg_S → Prop} (h : M_L_closedOf v1 σ Q) (hq : ∀ r τ, Q r τ → Q2 r τ) : M_L_closedOf v1 σ Q2 := cp_M.mono h (fun ad v τ ⟨r, e, q⟩ => ⟨r, e, hq r τ q⟩)
set_option maxRecDepth 100000 in
set_option maxHeartbeats 4000000 in
theorem w_closedOf {v1 : Int32} {σ : cg_S} {Q : Int32 → cg_S → Prop}
    (h : M_X11_closedOf v1 σ (fun r τ => Q r τ) (fun E τ => (E = "java/lang/IndexOutOfBoundsException" ∧ Q (-77) τ) ∨ (E = "java/lang/IllegalStateException" ∧ Q (-79) τ) ∨ (E = "java/util/NoSuchElementException" ∧ Q (-75) τ))) : M_L_closedOf v1 σ Q := by
  refine cp_entryW (lv := fun ad => [(0, .ref (ad 0)), (1, .int v1)]) (by decide +kernel) (fun _ => rfl) (fun _ => Nat.le_of_ble_eq_true rfl) ?_
  intro p l e s m args below meth c D cy ad hY
  have hC := hY.1
  refine ga_aload_n hC dL_closedOf_0 0 rfl rfl ?_
  refine ga_iload_n hC dL_closedOf_1 1 rfl rfl ?_
  refine gp_callX (As := [.int v1]) (st := []) (n := 1) (hs := [("java/lang/IndexOutOfBoundsException", 6, 28), ("java/lang/IllegalStateException", 10, 22), ("java/util/NoSuchElementException", 14, 123)]) (sp := 0) (ep := 5) hY h (cg_in5 206 (by decide +kernel) (by decide +kernel)) (cg_in5 207 (by decide +kernel) (by decide +kernel)) (cg_in5 208 (by decide +kernel) (by decide +kernel)) (cg_in1 1 (by decide +kernel) (by decide +kernel)) (cg_in5 209 (by decide +kernel) (by decide +kernel)) rfl rfl rfl (by decide +kernel) ⟨Nat.le_of_ble_eq_true rfl, Nat.le_of_ble_eq_true rfl⟩ ⟨Nat.le_of_ble_eq_true rfl, Nat.le_of_ble_eq_true rfl⟩ rfl rfl (Nat.le_of_ble_eq_true rfl) dL_closedOf_2 rfl ⟨by decide, by decide⟩ (List.forall_mem_cons.mpr ⟨⟨by decide, by decide, (cg_in3 226 (by decide +kernel) (by decide +kernel))⟩, (List.forall_mem_cons.mpr ⟨⟨by decide, by decide, (cg_in3 123 (by decide +kernel) (by decide +kernel))⟩, (List.forall_mem_cons.mpr ⟨⟨by decide, by decide, (cg_in5 205 (by decide +kernel) (by decide +kernel))⟩, fun _ h => absurd h List.not_mem_nil⟩)⟩)⟩) (fun E τ hx => ?_) (fun v τ hq => ?_)
  · rcases hx with ⟨rfl, hx⟩ | ⟨rfl, hx⟩ | ⟨rfl, hx⟩
    · refine ⟨[], [("java/lang/IllegalStateException", 10, 22), ("java/util/NoSuchElementException", 14, 123)], 6, 28, rfl, by decide, fun q => ?_⟩
      refine ga_astore_n (lv' := [(2, .ref q), (0, .ref (ad 0)), (1, .int v1)]) hC dL_closedOf_6 rfl (by decide) rfl ?_
      refine ga_bipush (v := (-77)) hC dL_closedOf_7 (by decide) ?_
      exact gx_iret hC dL_closedOf_9 ⟨Nat.le_of_ble_eq_true rfl, Nat.le_of_ble_eq_true rfl⟩ ⟨_, rfl, hx⟩
    · refine ⟨[("java/lang/IndexOutOfBoundsException", 6, 28)], [("java/util/NoSuchElementException", 14, 123)], 10, 22, rfl, by decide, fun q => ?_⟩
      refine ga_astore_n (lv' := [(2, .ref q), (0, .ref (ad 0)), (1, .int v1)]) hC dL_closedOf_10 rfl (by decide) rfl ?_
      refine ga_bipush (v := (-79)) hC dL_closedOf_11 (by decide) ?_
      exact gx_iret hC dL_closedOf_13 ⟨Nat.le_of_ble_eq_true rfl, Nat.le_of_ble_eq_true rfl⟩ ⟨_, rfl, hx⟩
    · refine ⟨[("java/lang/IndexOutOfBoundsException", 6, 28), ("java/lang/IllegalStateException", 10, 22)], [], 14, 123, rfl, by decide, fun q => ?_⟩
      refine ga_astore_n (lv' := [(2, .ref q), (0, .ref (ad 0)), (1, .int v1)]) hC dL_closedOf_14 rfl (by decide) rfl ?_
      refine ga_bipush (v := (-75)) hC dL_closedOf_15 (by decide) ?_
      exact gx_iret hC dL_closedOf_17 ⟨Nat.le_of_ble_eq_true rfl, Nat.le_of_ble_eq_true rfl⟩ ⟨_, rfl, hx⟩
  · obtain ⟨r, rfl, h⟩ := hq
    exact gx_iret hC dL_closedOf_5 ⟨Nat.le_of_ble_eq_true rfl, Nat.le_of_ble_eq_true rfl⟩ ⟨_, rfl, h⟩
def M_L_endOf (v1 : Int32) (σ : cg_S) (Q : Int32 → cg_S → Prop) : Prop := cp_M cg_WC yL_endOf (Cond.codeWith yL_endOf cL_endOf 3 (some .int) [(0, 5, 6, 28), (0, 5, 10, 22), (0, 5, 14, 123)]) (cg_RX 5 3) 3 18 (fun ad => [.ref (ad 0), .int v1]) σ (cg_qi Q)
theorem M_L_endOf.mono {v1 : Int32} {σ : cg_S} {Q Q2 : Int32 → cg_S → Prop} (h : M_L_endOf v1 σ Q) (hq : ∀ r τ, Q r τ → Q2 r τ) : M_L_endOf v1 σ Q2 := cp_M.mono h (fun ad v τ ⟨r, e, q⟩ => ⟨r, e, hq r τ q⟩)
set_option maxRecDepth 100000 in
set_option maxHeartbeats 4000000 in
theorem w_endOf {v1 : Int32} {σ : cg_S} {Q : Int32 → cg_S → Prop}
    (h : M_X11_endOf v1 σ (fun r τ => Q r τ) (fun E τ => (E = "java/lang/IndexOutOfBoundsException" ∧ Q (-77) τ) ∨ (E = "java/lang/IllegalStateException" ∧ Q (-79) τ) ∨ (E = "java/util/NoSuchElementException" ∧ Q (-75) τ))) : M_L_endOf v1 σ Q := by
  refine cp_entryW (lv := fun ad => [(0, .ref (ad 0)), (1, .int v1)]) (by decide +kernel) (fun _ => rfl) (fun _ => Nat.le_of_ble_eq_true rfl) ?_
  intro p l e s m args below meth c D cy ad hY
  have hC := hY.1
  refine ga_aload_n hC dL_endOf_0 0 rfl rfl ?_
  refine ga_iload_n hC dL_endOf_1 1 rfl rfl ?_
  refine gp_callX (As := [.int v1]) (st := []) (n := 1) (hs := [("java/lang/IndexOutOfBoundsException", 6, 28), ("java/lang/IllegalStateException", 10, 22), ("java/util/NoSuchElementException", 14, 123)]) (sp := 0) (ep := 5) hY h (cg_in5 235 (by decide +kernel) (by decide +kernel)) (cg_in5 236 (by decide +kernel) (by decide +kernel)) (cg_in5 237 (by decide +kernel) (by decide +kernel)) (cg_in1 1 (by decide +kernel) (by decide +kernel)) (cg_in5 238 (by decide +kernel) (by decide +kernel)) rfl rfl rfl (by decide +kernel) ⟨Nat.le_of_ble_eq_true rfl, Nat.le_of_ble_eq_true rfl⟩ ⟨Nat.le_of_ble_eq_true rfl, Nat.le_of_ble_eq_true rfl⟩ rfl rfl (Nat.le_of_ble_eq_true rfl) dL_endOf_2 rfl ⟨by decide, by decide⟩ (List.forall_mem_cons.mpr ⟨⟨by decide, by decide, (cg_in3 226 (by decide +kernel) (by decide +kernel))⟩, (List.forall_mem_cons.mpr ⟨⟨by decide, by decide, (cg_in3 123 (by decide +kernel) (by decide +kernel))⟩, (List.forall_mem_cons.mpr ⟨⟨by decide, by decide, (cg_in5 205 (by decide +kernel) (by decide +kernel))⟩, fun _ h => absurd h List.not_mem_nil⟩)⟩)⟩) (fun E τ hx => ?_) (fun v τ hq => ?_)
  · rcases hx with ⟨rfl, hx⟩ | ⟨rfl, hx⟩ | ⟨rfl, hx⟩
    · refine ⟨[], [("java/lang/IllegalStateException", 10, 22), ("java/util/NoSuchElementException", 14, 123)], 6, 28, rfl, by decide, fun q => ?_⟩
      refine ga_astore_n (lv' := [(2, .ref q), (0, .ref (ad 0)), (1, .int v1)]) hC dL_endOf_6 rfl (by decide) rfl ?_
      refine ga_bipush (v := (-77)) hC dL_endOf_7 (by decide) ?_
      exact gx_iret hC dL_endOf_9 ⟨Nat.le_of_ble_eq_true rfl, Nat.le_of_ble_eq_true rfl⟩ ⟨_, rfl, hx⟩
    · refine ⟨[("java/lang/IndexOutOfBoundsException", 6, 28)], [("java/util/NoSuchElementException", 14, 123)], 10, 22, rfl, by decide, fun q => ?_⟩
      refine ga_astore_n (lv' := [(2, .ref q), (0, .ref (ad 0)), (1, .int v1)]) hC dL_endOf_10 rfl (by decide) rfl ?_
      refine ga_bipush (v := (-79)) hC dL_endOf_11 (by decide) ?_
      exact gx_iret hC dL_endOf_13 ⟨Nat.le_of_ble_eq_true rfl, Nat.le_of_ble_eq_true rfl⟩ ⟨_, rfl, hx⟩
    · refine ⟨[("java/lang/IndexOutOfBoundsException", 6, 28), ("java/lang/IllegalStateException", 10, 22)], [], 14, 123, rfl, by decide, fun q => ?_⟩
      refine ga_astore_n (lv' := [(2, .ref q), (0, .ref (ad 0)), (1, .int v1)]) hC dL_endOf_14 rfl (by decide) rfl ?_
      refine ga_bipush (v := (-75)) hC dL_endOf_15 (by decide) ?_
      exact gx_iret hC dL_endOf_17 ⟨Nat.le_of_ble_eq_true rfl, Nat.le_of_ble_eq_true rfl⟩ ⟨_, rfl, hx⟩
  · obtain ⟨r, rfl, h⟩ := hq
    exact gx_iret hC dL_endOf_5 ⟨Nat.le_of_ble_eq_true rfl, Nat.le_of_ble_eq_true rfl⟩ ⟨_, rfl, h⟩
def M_L_classOf (v1 : Int32) (σ : cg_S) (Q : Int32 → cg_S → Prop) : Prop := cp_M cg_WC yL_classOf (Cond.codeWith yL_classOf cL_classOf 3 (some .int) [(0, 5, 6, 28), (0, 5, 10, 22)]) (cg_RX 7 2) 2 12 (fun ad => [.ref (ad 0), .int v1]) σ (cg_qi Q)
theorem M_L_classOf.mono {v1 : Int32} {σ : cg_S} {Q Q2 : Int32 → cg_S → Prop} (h : M_L_classOf v1 σ Q) (hq : ∀ r τ, Q r τ → Q2 r τ) : M_L_classOf v1 σ Q2 := cp_M.mono h (fun ad v τ ⟨r, e, q⟩ => ⟨r, e, hq r τ q⟩)
set_option maxRecDepth 100000 in
set_option maxHeartbeats 4000000 in
theorem w_classOf {v1 : Int32} {σ : cg_S} {Q : Int32 → cg_S → Prop}
    (h : M_X11_classOf v1 σ (fun r τ => Q r τ) (fun E τ => (E = "java/lang/IndexOutOfBoundsException" ∧ Q (-77) τ) ∨ (E = "java/lang/IllegalStateException" ∧ Q (-79) τ))) : M_L_classOf v1 σ Q := by
  refine cp_entryW (lv := fun ad => [(0, .ref (ad 0)), (1, .int v1)]) (by decide +kernel) (fun _ => rfl) (fun _ => Nat.le_of_ble_eq_true rfl) ?_
  intro p l e s m args below meth c D cy ad hY
  have hC := hY.1
  refine ga_aload_n hC dL_classOf_0 0 rfl rfl ?_
  refine ga_iload_n hC dL_classOf_1 1 rfl rfl ?_
  refine gp_callX (As := [.int v1]) (st := []) (n := 1) (hs := [("java/lang/IndexOutOfBoundsException", 6, 28), ("java/lang/IllegalStateException", 10, 22)]) (sp := 0) (ep := 5) hY h (cg_in5 143 (by decide +kernel) (by decide +kernel)) (cg_in5 144 (by decide +kernel) (by decide +kernel)) (cg_in5 145 (by decide +kernel) (by decide +kernel)) (cg_in1 1 (by decide +kernel) (by decide +kernel)) (cg_in5 146 (by decide +kernel) (by decide +kernel)) rfl rfl rfl (by decide +kernel) ⟨Nat.le_of_ble_eq_true rfl, Nat.le_of_ble_eq_true rfl⟩ ⟨Nat.le_of_ble_eq_true rfl, Nat.le_of_ble_eq_true rfl⟩ rfl rfl (Nat.le_of_ble_eq_true rfl) dL_classOf_2 rfl ⟨by decide, by decide⟩ (List.forall_mem_cons.mpr ⟨⟨by decide, by decide, (cg_in3 226 (by decide +kernel) (by decide +kernel))⟩, (List.forall_mem_cons.mpr ⟨⟨by decide, by decide, (cg_in3 123 (by decide +kernel) (by decide +kernel))⟩, fun _ h => absurd h List.not_mem_nil⟩)⟩) (fun E τ hx => ?_) (fun v τ hq => ?_)
  · rcases hx with ⟨rfl, hx⟩ | ⟨rfl, hx⟩
    · refine ⟨[], [("java/lang/IllegalStateException", 10, 22)], 6, 28, rfl, by decide, fun q => ?_⟩
      refine ga_astore_n (lv' := [(2, .ref q), (0, .ref (ad 0)), (1, .int v1)]) hC dL_classOf_6 rfl (by decide) rfl ?_
      refine ga_bipush (v := (-77)) hC dL_classOf_7 (by decide) ?_
      exact gx_iret hC dL_classOf_9 ⟨Nat.le_of_ble_eq_true rfl, Nat.le_of_ble_eq_true rfl⟩ ⟨_, rfl, hx⟩
    · refine ⟨[("java/lang/IndexOutOfBoundsException", 6, 28)], [], 10, 22, rfl, by decide, fun q => ?_⟩
      refine ga_astore_n (lv' := [(2, .ref q), (0, .ref (ad 0)), (1, .int v1)]) hC dL_classOf_10 rfl (by decide) rfl ?_
      refine ga_bipush (v := (-79)) hC dL_classOf_11 (by decide) ?_
      exact gx_iret hC dL_classOf_13 ⟨Nat.le_of_ble_eq_true rfl, Nat.le_of_ble_eq_true rfl⟩ ⟨_, rfl, hx⟩
  · obtain ⟨r, rfl, h⟩ := hq
    exact gx_iret hC dL_classOf_5 ⟨Nat.le_of_ble_eq_true rfl, Nat.le_of_ble_eq_true rfl⟩ ⟨_, rfl, h⟩
def M_L_classes  (σ : cg_S) (Q : Int32 → cg_S → Prop) : Prop := cp_M cg_WC yL_classes (Cond.codeWith yL_classes cL_classes 2 (some .int) [(0, 4, 5, 22)]) (cg_RX 7 1) 1 6 (fun ad => [.ref (ad 0)]) σ (cg_qi Q)
theorem M_L_classes.mono {σ : cg_S} {Q Q2 : Int32 → cg_S → Prop} (h : M_L_classes  σ Q) (hq : ∀ r τ, Q r τ → Q2 r τ) : M_L_classes  σ Q2 := cp_M.mono h (fun ad v τ ⟨r, e, q⟩ => ⟨r, e, hq r τ q⟩)
set_option maxRecDepth 100000 in
set_option maxHeartbeats 4000000 in
theorem w_classes {σ : cg_S} {Q : Int32 → cg_S → Prop}
    (h : M_X11_classes  σ (fun r τ => Q r τ) (fun E τ => (E = "java/lang/IllegalStateException" ∧ Q (-79) τ))) : M_L_classes  σ Q := by
  refine cp_entryW (lv := fun ad => [(0, .ref (ad 0))]) (by decide +kernel) (fun _ => rfl) (fun _ => Nat.le_of_ble_eq_true rfl) ?_
  intro p l e s m args below meth c D cy ad hY
  have hC := hY.1
  refine ga_aload_n hC dL_classes_0 0 rfl rfl ?_
  refine gp_callX (As := []) (st := []) (n := 0) (hs := [("java/lang/IllegalStateException", 5, 22)]) (sp := 0) (ep := 4) hY h (cg_in5 191 (by decide +kernel) (by decide +kernel)) (cg_in5 192 (by decide +kernel) (by decide +kernel)) (cg_in5 193 (by decide +kernel) (by decide +kernel)) (cg_in1 1 (by decide +kernel) (by decide +kernel)) (cg_in5 194 (by decide +kernel) (by decide +kernel)) rfl rfl rfl (by decide +kernel) ⟨Nat.le_of_ble_eq_true rfl, Nat.le_of_ble_eq_true rfl⟩ ⟨Nat.le_of_ble_eq_true rfl, Nat.le_of_ble_eq_true rfl⟩ rfl rfl (Nat.le_of_ble_eq_true rfl) dL_classes_1 rfl ⟨by decide, by decide⟩ (List.forall_mem_cons.mpr ⟨⟨by decide, by decide, (cg_in3 123 (by decide +kernel) (by decide +kernel))⟩, fun _ h => absurd h List.not_mem_nil⟩) (fun E τ hx => ?_) (fun v τ hq => ?_)
  · obtain ⟨rfl, hx⟩ := hx
    refine ⟨[], [], 5, 22, rfl, by decide, fun q => ?_⟩
    refine ga_astore_n (lv' := [(1, .ref q), (0, .ref (ad 0))]) hC dL_classes_5 rfl (by decide) rfl ?_
    refine ga_bipush (v := (-79)) hC dL_classes_6 (by decide) ?_
    exact gx_iret hC dL_classes_8 ⟨Nat.le_of_ble_eq_true rfl, Nat.le_of_ble_eq_true rfl⟩ ⟨_, rfl, hx⟩
  · obtain ⟨r, rfl, h⟩ := hq
    exact gx_iret hC dL_classes_4 ⟨Nat.le_of_ble_eq_true rfl, Nat.le_of_ble_eq_true rfl⟩ ⟨_, rfl, h⟩
def M_L_traceLength (v1 : Int32) (σ : cg_S) (Q : Int32 → cg_S → Prop) : Prop := cp_M cg_WC yL_traceLength (Cond.codeWith yL_traceLength cL_traceLength 3 (some .int) [(0, 5, 6, 28), (0, 5, 10, 22), (0, 5, 14, 123)]) (cg_RX 6 3) 3 18 (fun ad => [.ref (ad 0), .int v1]) σ (cg_qi Q)
theorem M_L_traceLength.mono {v1 : Int32} {σ : cg_S} {Q Q2 : Int32 → cg_S → Prop} (h : M_L_traceLength v1 σ Q) (hq : ∀ r τ, Q r τ → Q2 r τ) : M_L_traceLength v1 σ Q2 := cp_M.mono h (fun ad v τ ⟨r, e, q⟩ => ⟨r, e, hq r τ q⟩)
set_option maxRecDepth 100000 in
set_option maxHeartbeats 4000000 in
theorem w_traceLength {v1 : Int32} {σ : cg_S} {Q : Int32 → cg_S → Prop}
    (h : M_X11_traceLength v1 σ (fun r τ => Q r τ) (fun E τ => (E = "java/lang/IndexOutOfBoundsException" ∧ Q (-77) τ) ∨ (E = "java/lang/IllegalStateException" ∧ Q (-79) τ) ∨ (E = "java/util/NoSuchElementException" ∧ Q (-75) τ))) : M_L_traceLength v1 σ Q := by
  refine cp_entryW (lv := fun ad => [(0, .ref (ad 0)), (1, .int v1)]) (by decide +kernel) (fun _ => rfl) (fun _ => Nat.le_of_ble_eq_true rfl) ?_
  intro p l e s m args below meth c D cy ad hY
  have hC := hY.1
  refine ga_aload_n hC dL_traceLength_0 0 rfl rfl ?_
  refine ga_iload_n hC dL_traceLength_1 1 rfl rfl ?_
  refine gp_callX (As := [.int v1]) (st := []) (n := 1) (hs := [("java/lang/IndexOutOfBoundsException", 6, 28), ("java/lang/IllegalStateException", 10, 22), ("java/util/NoSuchElementException", 14, 123)]) (sp := 0) (ep := 5) hY h (cg_in6 38 (by decide +kernel) (by decide +kernel)) (cg_in6 39 (by decide +kernel) (by decide +kernel)) (cg_in6 40 (by decide +kernel) (by decide +kernel)) (cg_in1 1 (by decide +kernel) (by decide +kernel)) (cg_in6 41 (by decide +kernel) (by decide +kernel)) rfl rfl rfl (by decide +kernel) ⟨Nat.le_of_ble_eq_true rfl, Nat.le_of_ble_eq_true rfl⟩ ⟨Nat.le_of_ble_eq_true rfl, Nat.le_of_ble_eq_true rfl⟩ rfl rfl (Nat.le_of_ble_eq_true rfl) dL_traceLength_2 rfl ⟨by decide, by decide⟩ (List.forall_mem_cons.mpr ⟨⟨by decide, by decide, (cg_in3 226 (by decide +kernel) (by decide +kernel))⟩, (List.forall_mem_cons.mpr ⟨⟨by decide, by decide, (cg_in3 123 (by decide +kernel) (by decide +kernel))⟩, (List.forall_mem_cons.mpr ⟨⟨by decide, by decide, (cg_in5 205 (by decide +kernel) (by decide +kernel))⟩, fun _ h => absurd h List.not_mem_nil⟩)⟩)⟩) (fun E τ hx => ?_) (fun v τ hq => ?_)
  · rcases hx with ⟨rfl, hx⟩ | ⟨rfl, hx⟩ | ⟨rfl, hx⟩
    · refine ⟨[], [("java/lang/IllegalStateException", 10, 22), ("java/util/NoSuchElementException", 14, 123)], 6, 28, rfl, by decide, fun q => ?_⟩
      refine ga_astore_n (lv' := [(2, .ref q), (0, .ref (ad 0)), (1, .int v1)]) hC dL_traceLength_6 rfl (by decide) rfl ?_
      refine ga_bipush (v := (-77)) hC dL_traceLength_7 (by decide) ?_
      exact gx_iret hC dL_traceLength_9 ⟨Nat.le_of_ble_eq_true rfl, Nat.le_of_ble_eq_true rfl⟩ ⟨_, rfl, hx⟩
    · refine ⟨[("java/lang/IndexOutOfBoundsException", 6, 28)], [("java/util/NoSuchElementException", 14, 123)], 10, 22, rfl, by decide, fun q => ?_⟩
      refine ga_astore_n (lv' := [(2, .ref q), (0, .ref (ad 0)), (1, .int v1)]) hC dL_traceLength_10 rfl (by decide) rfl ?_
      refine ga_bipush (v := (-79)) hC dL_traceLength_11 (by decide) ?_
      exact gx_iret hC dL_traceLength_13 ⟨Nat.le_of_ble_eq_true rfl, Nat.le_of_ble_eq_true rfl⟩ ⟨_, rfl, hx⟩
    · refine ⟨[("java/lang/IndexOutOfBoundsException", 6, 28), ("java/lang/IllegalStateException", 10, 22)], [], 14, 123, rfl, by decide, fun q => ?_⟩
      refine ga_astore_n (lv' := [(2, .ref q), (0, .ref (ad 0)), (1, .int v1)]) hC dL_traceLength_14 rfl (by decide) rfl ?_
      refine ga_bipush (v := (-75)) hC dL_traceLength_15 (by decide) ?_
      exact gx_iret hC dL_traceLength_17 ⟨Nat.le_of_ble_eq_true rfl, Nat.le_of_ble_eq_true rfl⟩ ⟨_, rfl, hx⟩
  · obtain ⟨r, rfl, h⟩ := hq
    exact gx_iret hC dL_traceLength_5 ⟨Nat.le_of_ble_eq_true rfl, Nat.le_of_ble_eq_true rfl⟩ ⟨_, rfl, h⟩
def M_L_traceAt (v1 : Int32) (v2 : Int32) (σ : cg_S) (Q : Int32 → cg_S → Prop) : Prop := cp_M cg_WC yL_traceAt (Cond.codeWith yL_traceAt cL_traceAt 4 (some .int) [(0, 6, 7, 28), (0, 6, 11, 22), (0, 6, 15, 123)]) (cg_RX 6 4) 4 24 (fun ad => [.ref (ad 0), .int v1, .int v2]) σ (cg_qi Q)
theorem M_L_traceAt.mono {v1 : Int32} {v2 : Int32} {σ : cg_S} {Q Q2 : Int32 → cg_S → Prop} (h : M_L_traceAt v1 v2 σ Q) (hq : ∀ r τ, Q r τ → Q2 r τ) : M_L_traceAt v1 v2 σ Q2 := cp_M.mono h (fun ad v τ ⟨r, e, q⟩ => ⟨r, e, hq r τ q⟩)
set_option maxRecDepth 100000 in
set_option maxHeartbeats 4000000 in
theorem w_traceAt {v1 : Int32} {v2 : Int32} {σ : cg_S} {Q : Int32 → cg_S → Prop}
    (h : M_X11_traceAt v1 v2 σ (fun r τ => Q r τ) (fun E τ => (E = "java/lang/IndexOutOfBoundsException" ∧ Q (-77) τ) ∨ (E = "java/lang/IllegalStateException" ∧ Q (-79) τ) ∨ (E = "java/util/NoSuchElementException" ∧ Q (-75) τ))) : M_L_traceAt v1 v2 σ Q := by
  refine cp_entryW (lv := fun ad => [(0, .ref (ad 0)), (1, .int v1), (2, .int v2)]) (by decide +kernel) (fun _ => rfl) (fun _ => Nat.le_of_ble_eq_true rfl) ?_
  intro p l e s m args below meth c D cy ad hY
  have hC := hY.1
  refine ga_aload_n hC dL_traceAt_0 0 rfl rfl ?_
  refine ga_iload_n hC dL_traceAt_1 1 rfl rfl ?_
  refine ga_iload_n hC dL_traceAt_2 2 rfl rfl ?_
  refine gp_callX (As := [.int v1, .int v2]) (st := []) (n := 2) (hs := [("java/lang/IndexOutOfBoundsException", 7, 28), ("java/lang/IllegalStateException", 11, 22), ("java/util/NoSuchElementException", 15, 123)]) (sp := 0) (ep := 6) hY h (cg_in6 62 (by decide +kernel) (by decide +kernel)) (cg_in6 63 (by decide +kernel) (by decide +kernel)) (cg_in6 64 (by decide +kernel) (by decide +kernel)) (cg_in1 1 (by decide +kernel) (by decide +kernel)) (cg_in6 65 (by decide +kernel) (by decide +kernel)) rfl rfl rfl (by decide +kernel) ⟨Nat.le_of_ble_eq_true rfl, Nat.le_of_ble_eq_true rfl⟩ ⟨Nat.le_of_ble_eq_true rfl, Nat.le_of_ble_eq_true rfl⟩ rfl rfl (Nat.le_of_ble_eq_true rfl) dL_traceAt_3 rfl ⟨by decide, by decide⟩ (List.forall_mem_cons.mpr ⟨⟨by decide, by decide, (cg_in3 226 (by decide +kernel) (by decide +kernel))⟩, (List.forall_mem_cons.mpr ⟨⟨by decide, by decide, (cg_in3 123 (by decide +kernel) (by decide +kernel))⟩, (List.forall_mem_cons.mpr ⟨⟨by decide, by decide, (cg_in5 205 (by decide +kernel) (by decide +kernel))⟩, fun _ h => absurd h List.not_mem_nil⟩)⟩)⟩) (fun E τ hx => ?_) (fun v τ hq => ?_)
  · rcases hx with ⟨rfl, hx⟩ | ⟨rfl, hx⟩ | ⟨rfl, hx⟩
    · refine ⟨[], [("java/lang/IllegalStateException", 11, 22), ("java/util/NoSuchElementException", 15, 123)], 7, 28, rfl, by decide, fun q => ?_⟩
      refine ga_astore_n (lv' := [(3, .ref q), (0, .ref (ad 0)), (1, .int v1), (2, .int v2)]) hC dL_traceAt_7 rfl (by decide) rfl ?_
      refine ga_bipush (v := (-77)) hC dL_traceAt_8 (by decide) ?_
      exact gx_iret hC dL_traceAt_10 ⟨Nat.le_of_ble_eq_true rfl, Nat.le_of_ble_eq_true rfl⟩ ⟨_, rfl, hx⟩
    · refine ⟨[("java/lang/IndexOutOfBoundsException", 7, 28)], [("java/util/NoSuchElementException", 15, 123)], 11, 22, rfl, by decide, fun q => ?_⟩
      refine ga_astore_n (lv' := [(3, .ref q), (0, .ref (ad 0)), (1, .int v1), (2, .int v2)]) hC dL_traceAt_11 rfl (by decide) rfl ?_
      refine ga_bipush (v := (-79)) hC dL_traceAt_12 (by decide) ?_
      exact gx_iret hC dL_traceAt_14 ⟨Nat.le_of_ble_eq_true rfl, Nat.le_of_ble_eq_true rfl⟩ ⟨_, rfl, hx⟩
    · refine ⟨[("java/lang/IndexOutOfBoundsException", 7, 28), ("java/lang/IllegalStateException", 11, 22)], [], 15, 123, rfl, by decide, fun q => ?_⟩
      refine ga_astore_n (lv' := [(3, .ref q), (0, .ref (ad 0)), (1, .int v1), (2, .int v2)]) hC dL_traceAt_15 rfl (by decide) rfl ?_
      refine ga_bipush (v := (-75)) hC dL_traceAt_16 (by decide) ?_
      exact gx_iret hC dL_traceAt_18 ⟨Nat.le_of_ble_eq_true rfl, Nat.le_of_ble_eq_true rfl⟩ ⟨_, rfl, hx⟩
  · obtain ⟨r, rfl, h⟩ := hq
    exact gx_iret hC dL_traceAt_6 ⟨Nat.le_of_ble_eq_true rfl, Nat.le_of_ble_eq_true rfl⟩ ⟨_, rfl, h⟩
def M_L_traceAbove (v1 : Int32) (σ : cg_S) (Q : Int64 → cg_S → Prop) : Prop := cp_M cg_WC yL_traceAbove (Cond.codeWith yL_traceAbove cL_traceAbove 3 (some .long) [(0, 5, 6, 28), (0, 5, 11, 22), (0, 5, 16, 123)]) (cg_RX 6 3) 3 18 (fun ad => [.ref (ad 0), .int v1]) σ (cg_ql Q)
theorem M_L_traceAbove.mono {v1 : Int32} {σ : cg_S} {Q Q2 : Int64 → cg_S → Prop} (h : M_L_traceAbove v1 σ Q) (hq : ∀ r τ, Q r τ → Q2 r τ) : M_L_traceAbove v1 σ Q2 := cp_M.mono h (fun ad v τ ⟨r, e, q⟩ => ⟨r, e, hq r τ q⟩)
set_option maxRecDepth 100000 in
set_option maxHeartbeats 4000000 in
theorem w_traceAbove {v1 : Int32} {σ : cg_S} {Q : Int64 → cg_S → Prop}
    (h : M_X11_traceAbove v1 σ (fun r τ => Q r τ) (fun E τ => (E = "java/lang/IndexOutOfBoundsException" ∧ Q (-77) τ) ∨ (E = "java/lang/IllegalStateException" ∧ Q (-79) τ) ∨ (E = "java/util/NoSuchElementException" ∧ Q (-75) τ))) : M_L_traceAbove v1 σ Q := by
  refine cp_entryW (lv := fun ad => [(0, .ref (ad 0)), (1, .int v1)]) (by decide +kernel) (fun _ => rfl) (fun _ => Nat.le_of_ble_eq_true rfl) ?_
  intro p l e s m args below meth c D cy ad hY
  have hC := hY.1
  refine ga_aload_n hC dL_traceAbove_0 0 rfl rfl ?_
  refine ga_iload_n hC dL_traceAbove_1 1 rfl rfl ?_
  refine gp_callX (As := [.int v1]) (st := []) (n := 1) (hs := [("java/lang/IndexOutOfBoundsException", 6, 28), ("java/lang/IllegalStateException", 11, 22), ("java/util/NoSuchElementException", 16, 123)]) (sp := 0) (ep := 5) hY h (cg_in6 78 (by decide +kernel) (by decide +kernel)) (cg_in6 79 (by decide +kernel) (by decide +kernel)) (cg_in6 80 (by decide +kernel) (by decide +kernel)) (cg_in1 1 (by decide +kernel) (by decide +kernel)) (cg_in6 81 (by decide +kernel) (by decide +kernel)) rfl rfl rfl (by decide +kernel) ⟨Nat.le_of_ble_eq_true rfl, Nat.le_of_ble_eq_true rfl⟩ ⟨Nat.le_of_ble_eq_true rfl, Nat.le_of_ble_eq_true rfl⟩ rfl rfl (Nat.le_of_ble_eq_true rfl) dL_traceAbove_2 rfl ⟨by decide, by decide⟩ (List.forall_mem_cons.mpr ⟨⟨by decide, by decide, (cg_in3 226 (by decide +kernel) (by decide +kernel))⟩, (List.forall_mem_cons.mpr ⟨⟨by decide, by decide, (cg_in3 123 (by decide +kernel) (by decide +kernel))⟩, (List.forall_mem_cons.mpr ⟨⟨by decide, by decide, (cg_in5 205 (by decide +kernel) (by decide +kernel))⟩, fun _ h => absurd h List.not_mem_nil⟩)⟩)⟩) (fun E τ hx => ?_) (fun v τ hq => ?_)
  · rcases hx with ⟨rfl, hx⟩ | ⟨rfl, hx⟩ | ⟨rfl, hx⟩
    · refine ⟨[], [("java/lang/IllegalStateException", 11, 22), ("java/util/NoSuchElementException", 16, 123)], 6, 28, rfl, by decide, fun q => ?_⟩
      refine ga_astore_n (lv' := [(2, .ref q), (0, .ref (ad 0)), (1, .int v1)]) hC dL_traceAbove_6 rfl (by decide) rfl ?_
      refine ga_ldc2 (v := (-77)) hC (cg_in4 174 (by decide +kernel) (by decide +kernel)) dL_traceAbove_7 ?_
      exact gx_lret hC dL_traceAbove_10 ⟨Nat.le_of_ble_eq_true rfl, Nat.le_of_ble_eq_true rfl⟩ ⟨_, rfl, hx⟩
    · refine ⟨[("java/lang/IndexOutOfBoundsException", 6, 28)], [("java/util/NoSuchElementException", 16, 123)], 11, 22, rfl, by decide, fun q => ?_⟩
      refine ga_astore_n (lv' := [(2, .ref q), (0, .ref (ad 0)), (1, .int v1)]) hC dL_traceAbove_11 rfl (by decide) rfl ?_
      refine ga_ldc2 (v := (-79)) hC (cg_in4 175 (by decide +kernel) (by decide +kernel)) dL_traceAbove_12 ?_
      exact gx_lret hC dL_traceAbove_15 ⟨Nat.le_of_ble_eq_true rfl, Nat.le_of_ble_eq_true rfl⟩ ⟨_, rfl, hx⟩
    · refine ⟨[("java/lang/IndexOutOfBoundsException", 6, 28), ("java/lang/IllegalStateException", 11, 22)], [], 16, 123, rfl, by decide, fun q => ?_⟩
      refine ga_astore_n (lv' := [(2, .ref q), (0, .ref (ad 0)), (1, .int v1)]) hC dL_traceAbove_16 rfl (by decide) rfl ?_
      refine ga_ldc2 (v := (-75)) hC (cg_in6 82 (by decide +kernel) (by decide +kernel)) dL_traceAbove_17 ?_
      exact gx_lret hC dL_traceAbove_20 ⟨Nat.le_of_ble_eq_true rfl, Nat.le_of_ble_eq_true rfl⟩ ⟨_, rfl, hx⟩
  · obtain ⟨r, rfl, h⟩ := hq
    exact gx_lret hC dL_traceAbove_5 ⟨Nat.le_of_ble_eq_true rfl, Nat.le_of_ble_eq_true rfl⟩ ⟨_, rfl, h⟩
def M_L_traceBelow (v1 : Int32) (σ : cg_S) (Q : Int64 → cg_S → Prop) : Prop := cp_M cg_WC yL_traceBelow (Cond.codeWith yL_traceBelow cL_traceBelow 3 (some .long) [(0, 5, 6, 28), (0, 5, 11, 22), (0, 5, 16, 123)]) (cg_RX 6 3) 3 18 (fun ad => [.ref (ad 0), .int v1]) σ (cg_ql Q)
theorem M_L_traceBelow.mono {v1 : Int32} {σ : cg_S} {Q Q2 : Int64 → cg_S → Prop} (h : M_L_traceBelow v1 σ Q) (hq : ∀ r τ, Q r τ → Q2 r τ) : M_L_traceBelow v1 σ Q2 := cp_M.mono h (fun ad v τ ⟨r, e, q⟩ => ⟨r, e, hq r τ q⟩)
set_option maxRecDepth 100000 in
set_option maxHeartbeats 4000000 in
theorem w_traceBelow {v1 : Int32} {σ : cg_S} {Q : Int64 → cg_S → Prop}
    (h : M_X11_traceBelow v1 σ (fun r τ => Q r τ) (fun E τ => (E = "java/lang/IndexOutOfBoundsException" ∧ Q (-77) τ) ∨ (E = "java/lang/IllegalStateException" ∧ Q (-79) τ) ∨ (E = "java/util/NoSuchElementException" ∧ Q (-75) τ))) : M_L_traceBelow v1 σ Q := by
  refine cp_entryW (lv := fun ad => [(0, .ref (ad 0)), (1, .int v1)]) (by decide +kernel) (fun _ => rfl) (fun _ => Nat.le_of_ble_eq_true rfl) ?_
  intro p l e s m args below meth c D cy ad hY
  have hC := hY.1
  refine ga_aload_n hC dL_traceBelow_0 0 rfl rfl ?_
  refine ga_iload_n hC dL_traceBelow_1 1 rfl rfl ?_
  refine gp_callX (As := [.int v1]) (st := []) (n := 1) (hs := [("java/lang/IndexOutOfBoundsException", 6, 28), ("java/lang/IllegalStateException", 11, 22), ("java/util/NoSuchElementException", 16, 123)]) (sp := 0) (ep := 5) hY h (cg_in6 86 (by decide +kernel) (by decide +kernel)) (cg_in6 87 (by decide +kernel) (by decide +kernel)) (cg_in6 88 (by decide +kernel) (by decide +kernel)) (cg_in1 1 (by decide +kernel) (by decide +kernel)) (cg_in6 89 (by decide +kernel) (by decide +kernel)) rfl rfl rfl (by decide +kernel) ⟨Nat.le_of_ble_eq_true rfl, Nat.le_of_ble_eq_true rfl⟩ ⟨Nat.le_of_ble_eq_true rfl, Nat.le_of_ble_eq_true rfl⟩ rfl rfl (Nat.le_of_ble_eq_true rfl) dL_traceBelow_2 rfl ⟨by decide, by decide⟩ (List.forall_mem_cons.mpr ⟨⟨by decide, by decide, (cg_in3 226 (by decide +kernel) (by decide +kernel))⟩, (List.forall_mem_cons.mpr ⟨⟨by decide, by decide, (cg_in3 123 (by decide +kernel) (by decide +kernel))⟩, (List.forall_mem_cons.mpr ⟨⟨by decide, by decide, (cg_in5 205 (by decide +kernel) (by decide +kernel))⟩, fun _ h => absurd h List.not_mem_nil⟩)⟩)⟩) (fun E τ hx => ?_) (fun v τ hq => ?_)
  · rcases hx with ⟨rfl, hx⟩ | ⟨rfl, hx⟩ | ⟨rfl, hx⟩
    · refine ⟨[], [("java/lang/IllegalStateException", 11, 22), ("java/util/NoSuchElementException", 16, 123)], 6, 28, rfl, by decide, fun q => ?_⟩
      refine ga_astore_n (lv' := [(2, .ref q), (0, .ref (ad 0)), (1, .int v1)]) hC dL_traceBelow_6 rfl (by decide) rfl ?_
      refine ga_ldc2 (v := (-77)) hC (cg_in4 174 (by decide +kernel) (by decide +kernel)) dL_traceBelow_7 ?_
      exact gx_lret hC dL_traceBelow_10 ⟨Nat.le_of_ble_eq_true rfl, Nat.le_of_ble_eq_true rfl⟩ ⟨_, rfl, hx⟩
    · refine ⟨[("java/lang/IndexOutOfBoundsException", 6, 28)], [("java/util/NoSuchElementException", 16, 123)], 11, 22, rfl, by decide, fun q => ?_⟩
      refine ga_astore_n (lv' := [(2, .ref q), (0, .ref (ad 0)), (1, .int v1)]) hC dL_traceBelow_11 rfl (by decide) rfl ?_
      refine ga_ldc2 (v := (-79)) hC (cg_in4 175 (by decide +kernel) (by decide +kernel)) dL_traceBelow_12 ?_
      exact gx_lret hC dL_traceBelow_15 ⟨Nat.le_of_ble_eq_true rfl, Nat.le_of_ble_eq_true rfl⟩ ⟨_, rfl, hx⟩
    · refine ⟨[("java/lang/IndexOutOfBoundsException", 6, 28), ("java/lang/IllegalStateException", 11, 22)], [], 16, 123, rfl, by decide, fun q => ?_⟩
      refine ga_astore_n (lv' := [(2, .ref q), (0, .ref (ad 0)), (1, .int v1)]) hC dL_traceBelow_16 rfl (by decide) rfl ?_
      refine ga_ldc2 (v := (-75)) hC (cg_in6 82 (by decide +kernel) (by decide +kernel)) dL_traceBelow_17 ?_
      exact gx_lret hC dL_traceBelow_20 ⟨Nat.le_of_ble_eq_true rfl, Nat.le_of_ble_eq_true rfl⟩ ⟨_, rfl, hx⟩
  · obtain ⟨r, rfl, h⟩ := hq
    exact gx_lret hC dL_traceBelow_5 ⟨Nat.le_of_ble_eq_true rfl, Nat.le_of_ble_eq_true rfl⟩ ⟨_, rfl, h⟩
