def cn_w10 (cy : Nat → ClassId) (h0 : Nat) (u : Nat → Nat) : va_W := (([(h0, .inr (12, [.ref (u 0), .ref (u 1)]))] ++ [((u 0), .inl (cy 2, 7, .inr (.inl (fun _ => 0))))]) ++ [((u 1), .inl (cy 2, 7, .inr (.inl (fun _ => 0))))])
set_option maxHeartbeats 4000000 in
set_option maxRecDepth 100000 in
theorem c_X10 (h0 : Nat) : cn_M yX10_init cX10_init 1 ({ frames := 2, cells := 2, slots := 14, locals := 120 }) 2 14 [.ref h0] [(h0, .inr (12, [.null, .null]))] (fun cy u => cn_w10 cy h0 u) := by
  refine cn_entry (lv := [(0, .ref h0)]) (by decide) rfl (Nat.le_of_ble_eq_true rfl) rfl ?_
  intro p l e s m args below meth c D cy hC hni
  refine cn_aload_n hC dX10_init_0 0 rfl rfl ?_
  refine cn_objInit hC (cg_in2 5 (by decide +kernel) (by decide +kernel)) (cg_in1 35 (by decide +kernel) (by decide +kernel)) (cg_in1 36 (by decide +kernel) (by decide +kernel)) dX10_init_1 (Nat.le_of_ble_eq_true rfl) (Nat.le_of_ble_eq_true rfl) ?_
  refine cn_aload_n hC dX10_init_4 0 rfl rfl ?_
  refine cn_bipush (v := 7) hC dX10_init_5 (by decide) ?_
  refine cn_newa (N := 7) (t0 := 2) (cA := cy 2) (ty := .long) (a0 := (7, .inr (.inl (fun _ => 0)))) hC (cg_in1 201 (by decide +kernel) (by decide +kernel)) rfl rfl (fun _ z => nomatch z) (fun _ => rfl) (by decide) (by decide) (by decide) ⟨Nat.le_of_ble_eq_true rfl, Nat.le_of_ble_eq_true rfl⟩ dX10_init_7 (fun q0 => ?_)
  refine cn_putF (ci := 12) (C := RX10) (T := TX10) (N := 2) (ty := tyX10 0) (ws' := ([(h0, .inr (12, [.ref q0, .null]))] ++ [(q0, .inl (cy 2, 7, .inr (.inl (fun _ => 0))))])) hC uw_X10 tyX10 tyX10_ok nmX10 0 rfl rfl 0 (by decide) (cg_in2 6 (by decide +kernel) (by decide +kernel)) rfl hni rfl (by decide +kernel) rfl rfl (Nat.le_of_ble_eq_true rfl) rfl dX10_init_9 ?_
  refine cn_aload_n hC dX10_init_12 0 rfl rfl ?_
  refine cn_bipush (v := 7) hC dX10_init_13 (by decide) ?_
  refine cn_newa (N := 7) (t0 := 2) (cA := cy 2) (ty := .long) (a0 := (7, .inr (.inl (fun _ => 0)))) hC (cg_in1 201 (by decide +kernel) (by decide +kernel)) rfl rfl (fun _ z => nomatch z) (fun _ => rfl) (by decide) (by decide) (by decide) ⟨Nat.le_of_ble_eq_true rfl, Nat.le_of_ble_eq_true rfl⟩ dX10_init_15 (fun q1 => ?_)
  refine cn_putF (ci := 12) (C := RX10) (T := TX10) (N := 2) (ty := tyX10 1) (ws' := (([(h0, .inr (12, [.ref q0, .ref q1]))] ++ [(q0, .inl (cy 2, 7, .inr (.inl (fun _ => 0))))]) ++ [(q1, .inl (cy 2, 7, .inr (.inl (fun _ => 0))))])) hC uw_X10 tyX10 tyX10_ok nmX10 0 rfl rfl 1 (by decide) (cg_in2 11 (by decide +kernel) (by decide +kernel)) rfl hni rfl (by decide +kernel) rfl rfl (Nat.le_of_ble_eq_true rfl) rfl dX10_init_17 ?_
  refine cn_retv (w0 := []) (w := fun cy u => cn_w10 cy h0 u) (kc := 2) (ks := 14) (mc := 2) (ms := 14) hC (cn_u [q0, q1] (fun _ => 0)) ?_ ⟨Nat.le_of_ble_eq_true rfl, Nat.le_of_ble_eq_true rfl⟩ dX10_init_20
  rfl
def cn_w2 (cy : Nat → ClassId) (h0 : Nat) (u : Nat → Nat) : va_W := ((((((((([(h0, .inr (4, [.int 0, .int 0, .int 1, .int 2, .int 1, .int 1, .int 0, .ref (u 0), .ref (u 1), .ref (u 2), .ref (u 3), .ref (u 4), .ref (u 5), .ref (u 6), .ref (u 7)]))] ++ [((u 0), .inl (cy 0, 7, .inl (fun _ => 0)))]) ++ [((u 1), .inl (cy 1, 7, .inl (fun _ => 0)))]) ++ [((u 2), .inl (cy 1, 7, .inl (fun _ => 0)))]) ++ [((u 3), .inl (cy 1, 21, .inl (fun _ => 0)))]) ++ [((u 4), .inl (cy 1, 21, .inl (fun _ => 0)))]) ++ [((u 5), .inl (cy 1, 21, .inl (fun _ => 0)))]) ++ [((u 6), .inl (cy 1, 21, .inl (fun _ => 0)))]) ++ [((u 7), .inl (cy 4, 21, .inr (.inr (.inr (.inr (fun i => if i < 21 then some ((u (8 + i))) else none))))))]) ++ (List.range 21).map (fun i => ((u (8 + i)), .inl (cy 1, (7, .inl (fun _ => 0))))))
set_option maxHeartbeats 4000000 in
set_option maxRecDepth 100000 in
theorem c_X2 (h0 : Nat) : cn_M yX2_init cX2_init 1 ({ frames := 2, cells := 29, slots := 273, locals := 120 }) 29 273 [.ref h0] [(h0, .inr (4, [.int 0, .int 0, .int 0, .int 0, .int 0, .int 0, .int 0, .null, .null, .null, .null, .null, .null, .null, .null]))] (fun cy u => cn_w2 cy h0 u) := by
  refine cn_entry (lv := [(0, .ref h0)]) (by decide) rfl (Nat.le_of_ble_eq_true rfl) rfl ?_
  intro p l e s m args below meth c D cy hC hni
  refine cn_aload_n hC dX2_init_0 0 rfl rfl ?_
  refine cn_objInit hC (cg_in1 42 (by decide +kernel) (by decide +kernel)) (cg_in1 35 (by decide +kernel) (by decide +kernel)) (cg_in1 36 (by decide +kernel) (by decide +kernel)) dX2_init_1 (Nat.le_of_ble_eq_true rfl) (Nat.le_of_ble_eq_true rfl) ?_
  refine cn_aload_n hC dX2_init_4 0 rfl rfl ?_
  refine cn_iconst (v := 1) hC dX2_init_5 (by decide) ?_
  refine cn_put (ci := 4) (C := RX2) (T := TX2) (N := 15) (ty := tyX2 2) (ws' := [(h0, .inr (4, [.int 0, .int 0, .int 1, .int 0, .int 0, .int 0, .int 0, .null, .null, .null, .null, .null, .null, .null, .null]))]) hC uw_X2 tyX2 tyX2_ok nmX2 0 rfl rfl 2 (by decide) (cg_in1 59 (by decide +kernel) (by decide +kernel)) rfl (by decide +kernel) rfl rfl (Nat.le_of_ble_eq_true rfl) rfl dX2_init_6 ?_
  refine cn_aload_n hC dX2_init_9 0 rfl rfl ?_
  refine cn_iconst (v := 2) hC dX2_init_10 (by decide) ?_
  refine cn_put (ci := 4) (C := RX2) (T := TX2) (N := 15) (ty := tyX2 3) (ws' := [(h0, .inr (4, [.int 0, .int 0, .int 1, .int 2, .int 0, .int 0, .int 0, .null, .null, .null, .null, .null, .null, .null, .null]))]) hC uw_X2 tyX2 tyX2_ok nmX2 0 rfl rfl 3 (by decide) (cg_in1 61 (by decide +kernel) (by decide +kernel)) rfl (by decide +kernel) rfl rfl (Nat.le_of_ble_eq_true rfl) rfl dX2_init_11 ?_
  refine cn_aload_n hC dX2_init_14 0 rfl rfl ?_
  refine cn_iconst (v := 1) hC dX2_init_15 (by decide) ?_
  refine cn_put (ci := 4) (C := RX2) (T := TX2) (N := 15) (ty := tyX2 4) (ws' := [(h0, .inr (4, [.int 0, .int 0, .int 1, .int 2, .int 1, .int 0, .int 0, .null, .null, .null, .null, .null, .null, .null, .null]))]) hC uw_X2 tyX2 tyX2_ok nmX2 0 rfl rfl 4 (by decide) (cg_in1 63 (by decide +kernel) (by decide +kernel)) rfl (by decide +kernel) rfl rfl (Nat.le_of_ble_eq_true rfl) rfl dX2_init_16 ?_
  refine cn_aload_n hC dX2_init_19 0 rfl rfl ?_
  refine cn_iconst (v := 1) hC dX2_init_20 (by decide) ?_
  refine cn_put (ci := 4) (C := RX2) (T := TX2) (N := 15) (ty := tyX2 5) (ws' := [(h0, .inr (4, [.int 0, .int 0, .int 1, .int 2, .int 1, .int 1, .int 0, .null, .null, .null, .null, .null, .null, .null, .null]))]) hC uw_X2 tyX2 tyX2_ok nmX2 0 rfl rfl 5 (by decide) (cg_in1 64 (by decide +kernel) (by decide +kernel)) rfl (by decide +kernel) rfl rfl (Nat.le_of_ble_eq_true rfl) rfl dX2_init_21 ?_
  refine cn_aload_n hC dX2_init_24 0 rfl rfl ?_
  refine cn_bipush (v := 7) hC dX2_init_25 (by decide) ?_
  refine cn_newa (N := 7) (t0 := 0) (cA := cy 0) (ty := .boolean) (a0 := (7, .inl (fun _ => 0))) hC (cg_in1 137 (by decide +kernel) (by decide +kernel)) rfl rfl (fun _ z => nomatch z) (fun _ => rfl) (by decide) (by decide) (by decide) ⟨Nat.le_of_ble_eq_true rfl, Nat.le_of_ble_eq_true rfl⟩ dX2_init_27 (fun q0 => ?_)
  refine cn_putF (ci := 4) (C := RX2) (T := TX2) (N := 15) (ty := tyX2 7) (ws' := ([(h0, .inr (4, [.int 0, .int 0, .int 1, .int 2, .int 1, .int 1, .int 0, .ref q0, .null, .null, .null, .null, .null, .null, .null]))] ++ [(q0, .inl (cy 0, 7, .inl (fun _ => 0)))])) hC uw_X2 tyX2 tyX2_ok nmX2 0 rfl rfl 7 (by decide) (cg_in1 67 (by decide +kernel) (by decide +kernel)) rfl hni rfl (by decide +kernel) rfl rfl (Nat.le_of_ble_eq_true rfl) rfl dX2_init_29 ?_
  refine cn_aload_n hC dX2_init_32 0 rfl rfl ?_
  refine cn_bipush (v := 7) hC dX2_init_33 (by decide) ?_
  refine cn_newa (N := 7) (t0 := 1) (cA := cy 1) (ty := .int) (a0 := (7, .inl (fun _ => 0))) hC (cg_in1 138 (by decide +kernel) (by decide +kernel)) rfl rfl (fun _ z => nomatch z) (fun _ => rfl) (by decide) (by decide) (by decide) ⟨Nat.le_of_ble_eq_true rfl, Nat.le_of_ble_eq_true rfl⟩ dX2_init_35 (fun q1 => ?_)
  refine cn_putF (ci := 4) (C := RX2) (T := TX2) (N := 15) (ty := tyX2 8) (ws' := (([(h0, .inr (4, [.int 0, .int 0, .int 1, .int 2, .int 1, .int 1, .int 0, .ref q0, .ref q1, .null, .null, .null, .null, .null, .null]))] ++ [(q0, .inl (cy 0, 7, .inl (fun _ => 0)))]) ++ [(q1, .inl (cy 1, 7, .inl (fun _ => 0)))])) hC uw_X2 tyX2 tyX2_ok nmX2 0 rfl rfl 8 (by decide) (cg_in1 73 (by decide +kernel) (by decide +kernel)) rfl hni rfl (by decide +kernel) rfl rfl (Nat.le_of_ble_eq_true rfl) rfl dX2_init_37 ?_
  refine cn_aload_n hC dX2_init_40 0 rfl rfl ?_
  refine cn_bipush (v := 7) hC dX2_init_41 (by decide) ?_
  refine cn_newa (N := 7) (t0 := 1) (cA := cy 1) (ty := .int) (a0 := (7, .inl (fun _ => 0))) hC (cg_in1 138 (by decide +kernel) (by decide +kernel)) rfl rfl (fun _ z => nomatch z) (fun _ => rfl) (by decide) (by decide) (by decide) ⟨Nat.le_of_ble_eq_true rfl, Nat.le_of_ble_eq_true rfl⟩ dX2_init_43 (fun q2 => ?_)
  refine cn_putF (ci := 4) (C := RX2) (T := TX2) (N := 15) (ty := tyX2 9) (ws' := ((([(h0, .inr (4, [.int 0, .int 0, .int 1, .int 2, .int 1, .int 1, .int 0, .ref q0, .ref q1, .ref q2, .null, .null, .null, .null, .null]))] ++ [(q0, .inl (cy 0, 7, .inl (fun _ => 0)))]) ++ [(q1, .inl (cy 1, 7, .inl (fun _ => 0)))]) ++ [(q2, .inl (cy 1, 7, .inl (fun _ => 0)))])) hC uw_X2 tyX2 tyX2_ok nmX2 0 rfl rfl 9 (by decide) (cg_in1 76 (by decide +kernel) (by decide +kernel)) rfl hni rfl (by decide +kernel) rfl rfl (Nat.le_of_ble_eq_true rfl) rfl dX2_init_45 ?_
  refine cn_aload_n hC dX2_init_48 0 rfl rfl ?_
  refine cn_bipush (v := 21) hC dX2_init_49 (by decide) ?_
  refine cn_newa (N := 21) (t0 := 1) (cA := cy 1) (ty := .int) (a0 := (21, .inl (fun _ => 0))) hC (cg_in1 138 (by decide +kernel) (by decide +kernel)) rfl rfl (fun _ z => nomatch z) (fun _ => rfl) (by decide) (by decide) (by decide) ⟨Nat.le_of_ble_eq_true rfl, Nat.le_of_ble_eq_true rfl⟩ dX2_init_51 (fun q3 => ?_)
  refine cn_putF (ci := 4) (C := RX2) (T := TX2) (N := 15) (ty := tyX2 10) (ws' := (((([(h0, .inr (4, [.int 0, .int 0, .int 1, .int 2, .int 1, .int 1, .int 0, .ref q0, .ref q1, .ref q2, .ref q3, .null, .null, .null, .null]))] ++ [(q0, .inl (cy 0, 7, .inl (fun _ => 0)))]) ++ [(q1, .inl (cy 1, 7, .inl (fun _ => 0)))]) ++ [(q2, .inl (cy 1, 7, .inl (fun _ => 0)))]) ++ [(q3, .inl (cy 1, 21, .inl (fun _ => 0)))])) hC uw_X2 tyX2 tyX2_ok nmX2 0 rfl rfl 10 (by decide) (cg_in1 83 (by decide +kernel) (by decide +kernel)) rfl hni rfl (by decide +kernel) rfl rfl (Nat.le_of_ble_eq_true rfl) rfl dX2_init_53 ?_
  refine cn_aload_n hC dX2_init_56 0 rfl rfl ?_
  refine cn_bipush (v := 21) hC dX2_init_57 (by decide) ?_
  refine cn_newa (N := 21) (t0 := 1) (cA := cy 1) (ty := .int) (a0 := (21, .inl (fun _ => 0))) hC (cg_in1 138 (by decide +kernel) (by decide +kernel)) rfl rfl (fun _ z => nomatch z) (fun _ => rfl) (by decide) (by decide) (by decide) ⟨Nat.le_of_ble_eq_true rfl, Nat.le_of_ble_eq_true rfl⟩ dX2_init_59 (fun q4 => ?_)
  refine cn_putF (ci := 4) (C := RX2) (T := TX2) (N := 15) (ty := tyX2 11) (ws' := ((((([(h0, .inr (4, [.int 0, .int 0, .int 1, .int 2, .int 1, .int 1, .int 0, .ref q0, .ref q1, .ref q2, .ref q3, .ref q4, .null, .null, .null]))] ++ [(q0, .inl (cy 0, 7, .inl (fun _ => 0)))]) ++ [(q1, .inl (cy 1, 7, .inl (fun _ => 0)))]) ++ [(q2, .inl (cy 1, 7, .inl (fun _ => 0)))]) ++ [(q3, .inl (cy 1, 21, .inl (fun _ => 0)))]) ++ [(q4, .inl (cy 1, 21, .inl (fun _ => 0)))])) hC uw_X2 tyX2 tyX2_ok nmX2 0 rfl rfl 11 (by decide) (cg_in1 86 (by decide +kernel) (by decide +kernel)) rfl hni rfl (by decide +kernel) rfl rfl (Nat.le_of_ble_eq_true rfl) rfl dX2_init_61 ?_
  refine cn_aload_n hC dX2_init_64 0 rfl rfl ?_
  refine cn_bipush (v := 21) hC dX2_init_65 (by decide) ?_
  refine cn_newa (N := 21) (t0 := 1) (cA := cy 1) (ty := .int) (a0 := (21, .inl (fun _ => 0))) hC (cg_in1 138 (by decide +kernel) (by decide +kernel)) rfl rfl (fun _ z => nomatch z) (fun _ => rfl) (by decide) (by decide) (by decide) ⟨Nat.le_of_ble_eq_true rfl, Nat.le_of_ble_eq_true rfl⟩ dX2_init_67 (fun q5 => ?_)
  refine cn_putF (ci := 4) (C := RX2) (T := TX2) (N := 15) (ty := tyX2 12) (ws' := (((((([(h0, .inr (4, [.int 0, .int 0, .int 1, .int 2, .int 1, .int 1, .int 0, .ref q0, .ref q1, .ref q2, .ref q3, .ref q4, .ref q5, .null, .null]))] ++ [(q0, .inl (cy 0, 7, .inl (fun _ => 0)))]) ++ [(q1, .inl (cy 1, 7, .inl (fun _ => 0)))]) ++ [(q2, .inl (cy 1, 7, .inl (fun _ => 0)))]) ++ [(q3, .inl (cy 1, 21, .inl (fun _ => 0)))]) ++ [(q4, .inl (cy 1, 21, .inl (fun _ => 0)))]) ++ [(q5, .inl (cy 1, 21, .inl (fun _ => 0)))])) hC uw_X2 tyX2 tyX2_ok nmX2 0 rfl rfl 12 (by decide) (cg_in1 88 (by decide +kernel) (by decide +kernel)) rfl hni rfl (by decide +kernel) rfl rfl (Nat.le_of_ble_eq_true rfl) rfl dX2_init_69 ?_
  refine cn_aload_n hC dX2_init_72 0 rfl rfl ?_
  refine cn_bipush (v := 21) hC dX2_init_73 (by decide) ?_
  refine cn_newa (N := 21) (t0 := 1) (cA := cy 1) (ty := .int) (a0 := (21, .inl (fun _ => 0))) hC (cg_in1 138 (by decide +kernel) (by decide +kernel)) rfl rfl (fun _ z => nomatch z) (fun _ => rfl) (by decide) (by decide) (by decide) ⟨Nat.le_of_ble_eq_true rfl, Nat.le_of_ble_eq_true rfl⟩ dX2_init_75 (fun q6 => ?_)
  refine cn_putF (ci := 4) (C := RX2) (T := TX2) (N := 15) (ty := tyX2 13) (ws' := ((((((([(h0, .inr (4, [.int 0, .int 0, .int 1, .int 2, .int 1, .int 1, .int 0, .ref q0, .ref q1, .ref q2, .ref q3, .ref q4, .ref q5, .ref q6, .null]))] ++ [(q0, .inl (cy 0, 7, .inl (fun _ => 0)))]) ++ [(q1, .inl (cy 1, 7, .inl (fun _ => 0)))]) ++ [(q2, .inl (cy 1, 7, .inl (fun _ => 0)))]) ++ [(q3, .inl (cy 1, 21, .inl (fun _ => 0)))]) ++ [(q4, .inl (cy 1, 21, .inl (fun _ => 0)))]) ++ [(q5, .inl (cy 1, 21, .inl (fun _ => 0)))]) ++ [(q6, .inl (cy 1, 21, .inl (fun _ => 0)))])) hC uw_X2 tyX2 tyX2_ok nmX2 0 rfl rfl 13 (by decide) (cg_in1 96 (by decide +kernel) (by decide +kernel)) rfl hni rfl (by decide +kernel) rfl rfl (Nat.le_of_ble_eq_true rfl) rfl dX2_init_77 ?_
  refine cn_aload_n hC dX2_init_80 0 rfl rfl ?_
  refine cn_bipush (v := 21) hC dX2_init_81 (by decide) ?_
  refine cn_bipush (v := 7) hC dX2_init_83 (by decide) ?_
  refine cn_mna (t1 := 1) (t2 := 4) (c1 := cy 1) (c2 := cy 4) (ty := .int) (N := 21) (K := 7) (z := (7, .inl (fun _ => 0))) hC (cg_in1 43 (by decide +kernel) (by decide +kernel)) (cg_in1 138 (by decide +kernel) (by decide +kernel)) hC.2.2.2.2.2.2.2.2.2.2.1 rfl rfl (fun _ z => nomatch z) (by decide) (by decide) (by decide) (by decide) (by decide) (by decide) (by decide) (by decide) (by decide) ⟨Nat.le_of_ble_eq_true rfl, Nat.le_of_ble_eq_true rfl⟩ (fun _ => arrV_new _ _ _) dX2_init_85 (fun q7 r8 => ?_)
  refine cn_putF (ci := 4) (C := RX2) (T := TX2) (N := 15) (ty := tyX2 14) (ws' := ((((((((([(h0, .inr (4, [.int 0, .int 0, .int 1, .int 2, .int 1, .int 1, .int 0, .ref q0, .ref q1, .ref q2, .ref q3, .ref q4, .ref q5, .ref q6, .ref q7]))] ++ [(q0, .inl (cy 0, 7, .inl (fun _ => 0)))]) ++ [(q1, .inl (cy 1, 7, .inl (fun _ => 0)))]) ++ [(q2, .inl (cy 1, 7, .inl (fun _ => 0)))]) ++ [(q3, .inl (cy 1, 21, .inl (fun _ => 0)))]) ++ [(q4, .inl (cy 1, 21, .inl (fun _ => 0)))]) ++ [(q5, .inl (cy 1, 21, .inl (fun _ => 0)))]) ++ [(q6, .inl (cy 1, 21, .inl (fun _ => 0)))]) ++ [(q7, .inl (cy 4, 21, .inr (.inr (.inr (.inr (fun i => if i < 21 then some (r8 i) else none))))))]) ++ (List.range 21).map (fun i => (r8 i, .inl (cy 1, (7, .inl (fun _ => 0))))))) hC uw_X2 tyX2 tyX2_ok nmX2 0 rfl rfl 14 (by decide) (cg_in1 99 (by decide +kernel) (by decide +kernel)) rfl hni rfl (by decide +kernel) rfl rfl (Nat.le_of_ble_eq_true rfl) rfl dX2_init_89 ?_
  refine cn_retv (w0 := []) (w := fun cy u => cn_w2 cy h0 u) (kc := 29) (ks := 273) (mc := 29) (ms := 273) hC (cn_u [q0, q1, q2, q3, q4, q5, q6, q7] r8) ?_ ⟨Nat.le_of_ble_eq_true rfl, Nat.le_of_ble_eq_true rfl⟩ dX2_init_92
  simp only [cn_w2, cn_u_r (xs := [q0, q1, q2, q3, q4, q5, q6, q7]) (n := 8) rfl]
  rfl
def cn_w3 (cy : Nat → ClassId) (h0 g0 : Nat) (u : Nat → Nat) : va_W := ((([(h0, .inr (5, [.ref g0, .ref (u 0), .ref (u 1), .ref (u 2)]))] ++ [((u 0), .inl (cy 1, 7, .inl (fun _ => 0)))]) ++ [((u 1), .inl (cy 3, 7, .inr (.inr (.inr (.inl (fun _ => 0))))))]) ++ [((u 2), .inl (cy 3, 7, .inr (.inr (.inr (.inl (fun _ => 0))))))])
set_option maxHeartbeats 4000000 in
set_option maxRecDepth 100000 in
theorem c_X3 (h0 g0 : Nat) : cn_M yX3_init cX3_init 2 ({ frames := 2, cells := 3, slots := 21, locals := 120 }) 3 21 [.ref h0, .ref g0] [(h0, .inr (5, [.null, .null, .null, .null]))] (fun cy u => cn_w3 cy h0 g0 u) := by
  refine cn_entry (lv := [(0, .ref h0), (1, .ref g0)]) (by decide) rfl (Nat.le_of_ble_eq_true rfl) rfl ?_
  intro p l e s m args below meth c D cy hC hni
  refine cn_aload_n hC dX3_init_0 0 rfl rfl ?_
  refine cn_objInit hC (cg_in1 144 (by decide +kernel) (by decide +kernel)) (cg_in1 35 (by decide +kernel) (by decide +kernel)) (cg_in1 36 (by decide +kernel) (by decide +kernel)) dX3_init_1 (Nat.le_of_ble_eq_true rfl) (Nat.le_of_ble_eq_true rfl) ?_
  refine cn_aload_n hC dX3_init_4 0 rfl rfl ?_
  refine cn_bipush (v := 7) hC dX3_init_5 (by decide) ?_
  refine cn_newa (N := 7) (t0 := 1) (cA := cy 1) (ty := .int) (a0 := (7, .inl (fun _ => 0))) hC (cg_in1 138 (by decide +kernel) (by decide +kernel)) rfl rfl (fun _ z => nomatch z) (fun _ => rfl) (by decide) (by decide) (by decide) ⟨Nat.le_of_ble_eq_true rfl, Nat.le_of_ble_eq_true rfl⟩ dX3_init_7 (fun q0 => ?_)
  refine cn_putF (ci := 5) (C := RX3) (T := TX3) (N := 4) (ty := tyX3 1) (ws' := ([(h0, .inr (5, [.null, .ref q0, .null, .null]))] ++ [(q0, .inl (cy 1, 7, .inl (fun _ => 0)))])) hC uw_X3 tyX3 tyX3_ok nmX3 0 rfl rfl 1 (by decide) (cg_in1 146 (by decide +kernel) (by decide +kernel)) rfl hni rfl (by decide +kernel) rfl rfl (Nat.le_of_ble_eq_true rfl) rfl dX3_init_9 ?_
  refine cn_aload_n hC dX3_init_12 0 rfl rfl ?_
  refine cn_bipush (v := 7) hC dX3_init_13 (by decide) ?_
  refine cn_newa (N := 7) (t0 := 3) (cA := cy 3) (ty := .double) (a0 := (7, .inr (.inr (.inr (.inl (fun _ => 0)))))) hC (cg_in1 158 (by decide +kernel) (by decide +kernel)) rfl rfl (fun _ z => nomatch z) (fun _ => rfl) (by decide) (by decide) (by decide) ⟨Nat.le_of_ble_eq_true rfl, Nat.le_of_ble_eq_true rfl⟩ dX3_init_15 (fun q1 => ?_)
  refine cn_putF (ci := 5) (C := RX3) (T := TX3) (N := 4) (ty := tyX3 2) (ws' := (([(h0, .inr (5, [.null, .ref q0, .ref q1, .null]))] ++ [(q0, .inl (cy 1, 7, .inl (fun _ => 0)))]) ++ [(q1, .inl (cy 3, 7, .inr (.inr (.inr (.inl (fun _ => 0))))))])) hC uw_X3 tyX3 tyX3_ok nmX3 0 rfl rfl 2 (by decide) (cg_in1 147 (by decide +kernel) (by decide +kernel)) rfl hni rfl (by decide +kernel) rfl rfl (Nat.le_of_ble_eq_true rfl) rfl dX3_init_17 ?_
  refine cn_aload_n hC dX3_init_20 0 rfl rfl ?_
  refine cn_bipush (v := 7) hC dX3_init_21 (by decide) ?_
  refine cn_newa (N := 7) (t0 := 3) (cA := cy 3) (ty := .double) (a0 := (7, .inr (.inr (.inr (.inl (fun _ => 0)))))) hC (cg_in1 158 (by decide +kernel) (by decide +kernel)) rfl rfl (fun _ z => nomatch z) (fun _ => rfl) (by decide) (by decide) (by decide) ⟨Nat.le_of_ble_eq_true rfl, Nat.le_of_ble_eq_true rfl⟩ dX3_init_23 (fun q2 => ?_)
  refine cn_putF (ci := 5) (C := RX3) (T := TX3) (N := 4) (ty := tyX3 3) (ws' := ((([(h0, .inr (5, [.null, .ref q0, .ref q1, .ref q2]))] ++ [(q0, .inl (cy 1, 7, .inl (fun _ => 0)))]) ++ [(q1, .inl (cy 3, 7, .inr (.inr (.inr (.inl (fun _ => 0))))))]) ++ [(q2, .inl (cy 3, 7, .inr (.inr (.inr (.inl (fun _ => 0))))))])) hC uw_X3 tyX3 tyX3_ok nmX3 0 rfl rfl 3 (by decide) (cg_in1 148 (by decide +kernel) (by decide +kernel)) rfl hni rfl (by decide +kernel) rfl rfl (Nat.le_of_ble_eq_true rfl) rfl dX3_init_25 ?_
  refine cn_aload_n hC dX3_init_28 0 rfl rfl ?_
  refine cn_aload_n hC dX3_init_29 1 rfl rfl ?_
  refine cn_putF (ci := 5) (C := RX3) (T := TX3) (N := 4) (ty := tyX3 0) (ws' := ((([(h0, .inr (5, [.ref g0, .ref q0, .ref q1, .ref q2]))] ++ [(q0, .inl (cy 1, 7, .inl (fun _ => 0)))]) ++ [(q1, .inl (cy 3, 7, .inr (.inr (.inr (.inl (fun _ => 0))))))]) ++ [(q2, .inl (cy 3, 7, .inr (.inr (.inr (.inl (fun _ => 0))))))])) hC uw_X3 tyX3 tyX3_ok nmX3 0 rfl rfl 0 (by decide) (cg_in1 145 (by decide +kernel) (by decide +kernel)) rfl hni rfl (by decide +kernel) rfl rfl (Nat.le_of_ble_eq_true rfl) rfl dX3_init_30 ?_
  refine cn_retv (w0 := []) (w := fun cy u => cn_w3 cy h0 g0 u) (kc := 3) (ks := 21) (mc := 3) (ms := 21) hC (cn_u [q0, q1, q2] (fun _ => 0)) ?_ ⟨Nat.le_of_ble_eq_true rfl, Nat.le_of_ble_eq_true rfl⟩ dX3_init_33
  rfl
def cn_w1 (cy : Nat → ClassId) (h0 : Nat) (u : Nat → Nat) : va_W := (((([(h0, .inr (3, [.int 0, .ref (u 0), .ref (u 1), .ref (u 2), .long 1]))] ++ [((u 0), .inl (cy 1, 7, .inl (fun _ => 0)))]) ++ [((u 1), .inl (cy 5, 7, .inr (.inr (.inr (.inr (fun i => if i < 7 then some ((u (3 + i))) else none))))))]) ++ (List.range 7).map (fun i => ((u (3 + i)), .inl (cy 2, (8, .inr (.inl (fun _ => 0))))))) ++ [((u 2), .inl (cy 2, 7, .inr (.inl (fun _ => 0))))])
set_option maxHeartbeats 4000000 in
set_option maxRecDepth 100000 in
theorem c_X1 (h0 : Nat) : cn_M yX1_init cX1_init 1 ({ frames := 2, cells := 10, slots := 77, locals := 120 }) 10 77 [.ref h0] [(h0, .inr (3, [.int 0, .null, .null, .null, .long 0]))] (fun cy u => cn_w1 cy h0 u) := by
  refine cn_entry (lv := [(0, .ref h0)]) (by decide) rfl (Nat.le_of_ble_eq_true rfl) rfl ?_
  intro p l e s m args below meth c D cy hC hni
  refine cn_aload_n hC dX1_init_0 0 rfl rfl ?_
  refine cn_objInit hC (cg_in1 170 (by decide +kernel) (by decide +kernel)) (cg_in1 35 (by decide +kernel) (by decide +kernel)) (cg_in1 36 (by decide +kernel) (by decide +kernel)) dX1_init_1 (Nat.le_of_ble_eq_true rfl) (Nat.le_of_ble_eq_true rfl) ?_
  refine cn_aload_n hC dX1_init_4 0 rfl rfl ?_
  refine cn_bipush (v := 7) hC dX1_init_5 (by decide) ?_
  refine cn_newa (N := 7) (t0 := 1) (cA := cy 1) (ty := .int) (a0 := (7, .inl (fun _ => 0))) hC (cg_in1 138 (by decide +kernel) (by decide +kernel)) rfl rfl (fun _ z => nomatch z) (fun _ => rfl) (by decide) (by decide) (by decide) ⟨Nat.le_of_ble_eq_true rfl, Nat.le_of_ble_eq_true rfl⟩ dX1_init_7 (fun q0 => ?_)
  refine cn_putF (ci := 3) (C := RX1) (T := TX1) (N := 5) (ty := tyX1 1) (ws' := ([(h0, .inr (3, [.int 0, .ref q0, .null, .null, .long 0]))] ++ [(q0, .inl (cy 1, 7, .inl (fun _ => 0)))])) hC uw_X1 tyX1 tyX1_ok nmX1 0 rfl rfl 1 (by decide) (cg_in1 176 (by decide +kernel) (by decide +kernel)) rfl hni rfl (by decide +kernel) rfl rfl (Nat.le_of_ble_eq_true rfl) rfl dX1_init_9 ?_
  refine cn_aload_n hC dX1_init_12 0 rfl rfl ?_
  refine cn_bipush (v := 7) hC dX1_init_13 (by decide) ?_
  refine cn_bipush (v := 8) hC dX1_init_15 (by decide) ?_
  refine cn_mna (t1 := 2) (t2 := 5) (c1 := cy 2) (c2 := cy 5) (ty := .long) (N := 7) (K := 8) (z := (8, .inr (.inl (fun _ => 0)))) hC (cg_in1 171 (by decide +kernel) (by decide +kernel)) (cg_in1 201 (by decide +kernel) (by decide +kernel)) hC.2.2.2.2.2.2.2.2.2.2.2.1 rfl rfl (fun _ z => nomatch z) (by decide) (by decide) (by decide) (by decide) (by decide) (by decide) (by decide) (by decide) (by decide) ⟨Nat.le_of_ble_eq_true rfl, Nat.le_of_ble_eq_true rfl⟩ (fun _ => arrV_new _ _ _) dX1_init_17 (fun q1 r2 => ?_)
  refine cn_putF (ci := 3) (C := RX1) (T := TX1) (N := 5) (ty := tyX1 2) (ws' := ((([(h0, .inr (3, [.int 0, .ref q0, .ref q1, .null, .long 0]))] ++ [(q0, .inl (cy 1, 7, .inl (fun _ => 0)))]) ++ [(q1, .inl (cy 5, 7, .inr (.inr (.inr (.inr (fun i => if i < 7 then some (r2 i) else none))))))]) ++ (List.range 7).map (fun i => (r2 i, .inl (cy 2, (8, .inr (.inl (fun _ => 0)))))))) hC uw_X1 tyX1 tyX1_ok nmX1 0 rfl rfl 2 (by decide) (cg_in1 179 (by decide +kernel) (by decide +kernel)) rfl hni rfl (by decide +kernel) rfl rfl (Nat.le_of_ble_eq_true rfl) rfl dX1_init_21 ?_
  refine cn_aload_n hC dX1_init_24 0 rfl rfl ?_
  refine cn_bipush (v := 7) hC dX1_init_25 (by decide) ?_
  refine cn_newa (N := 7) (t0 := 2) (cA := cy 2) (ty := .long) (a0 := (7, .inr (.inl (fun _ => 0)))) hC (cg_in1 201 (by decide +kernel) (by decide +kernel)) rfl rfl (fun _ z => nomatch z) (fun _ => rfl) (by decide) (by decide) (by decide) ⟨Nat.le_of_ble_eq_true rfl, Nat.le_of_ble_eq_true rfl⟩ dX1_init_27 (fun q3 => ?_)
  refine cn_putF (ci := 3) (C := RX1) (T := TX1) (N := 5) (ty := tyX1 3) (ws' := (((([(h0, .inr (3, [.int 0, .ref q0, .ref q1, .ref q3, .long 0]))] ++ [(q0, .inl (cy 1, 7, .inl (fun _ => 0)))]) ++ [(q1, .inl (cy 5, 7, .inr (.inr (.inr (.inr (fun i => if i < 7 then some (r2 i) else none))))))]) ++ (List.range 7).map (fun i => (r2 i, .inl (cy 2, (8, .inr (.inl (fun _ => 0))))))) ++ [(q3, .inl (cy 2, 7, .inr (.inl (fun _ => 0))))])) hC uw_X1 tyX1 tyX1_ok nmX1 0 rfl rfl 3 (by decide) (cg_in1 182 (by decide +kernel) (by decide +kernel)) rfl hni rfl (by decide +kernel) rfl rfl (Nat.le_of_ble_eq_true rfl) rfl dX1_init_29 ?_
  refine cn_aload_n hC dX1_init_32 0 rfl rfl ?_
  refine cn_lconst (v := 1) hC dX1_init_33 (by decide) ?_
  refine cn_put (ci := 3) (C := RX1) (T := TX1) (N := 5) (ty := tyX1 4) (ws' := (((([(h0, .inr (3, [.int 0, .ref q0, .ref q1, .ref q3, .long 1]))] ++ [(q0, .inl (cy 1, 7, .inl (fun _ => 0)))]) ++ [(q1, .inl (cy 5, 7, .inr (.inr (.inr (.inr (fun i => if i < 7 then some (r2 i) else none))))))]) ++ (List.range 7).map (fun i => (r2 i, .inl (cy 2, (8, .inr (.inl (fun _ => 0))))))) ++ [(q3, .inl (cy 2, 7, .inr (.inl (fun _ => 0))))])) hC uw_X1 tyX1 tyX1_ok nmX1 0 rfl rfl 4 (by decide) (cg_in1 186 (by decide +kernel) (by decide +kernel)) rfl (by decide +kernel) rfl rfl (Nat.le_of_ble_eq_true rfl) rfl dX1_init_34 ?_
  refine cn_retv (w0 := []) (w := fun cy u => cn_w1 cy h0 u) (kc := 10) (ks := 77) (mc := 10) (ms := 77) hC (cn_u [q0, q1, q3] r2) ?_ ⟨Nat.le_of_ble_eq_true rfl, Nat.le_of_ble_eq_true rfl⟩ dX1_init_37
  simp only [cn_w1, cn_u_r (xs := [q0, q1, q3]) (n := 3) rfl]
  rfl
def cn_w0 (cy : Nat → ClassId) (h0 g0 : Nat) (u : Nat → Nat) : va_W := ([(h0, .inr (2, [.ref g0, .ref (u 0), .int 0]))] ++ cn_w1 cy (u 0) (fun k => u (1 + k)))
set_option maxHeartbeats 4000000 in
set_option maxRecDepth 100000 in
theorem c_X0 (h0 g0 : Nat) : cn_M yX0_init cX0_init 2 ({ frames := 3, cells := 11, slots := 82, locals := 160 }) 11 82 [.ref h0, .ref g0] [(h0, .inr (2, [.null, .null, .int 0]))] (fun cy u => cn_w0 cy h0 g0 u) := by
  refine cn_entry (lv := [(0, .ref h0), (1, .ref g0)]) (by decide) rfl (Nat.le_of_ble_eq_true rfl) rfl ?_
  intro p l e s m args below meth c D cy hC hni
  refine cn_aload_n hC dX0_init_0 0 rfl rfl ?_
  refine cn_objInit hC (cg_in1 164 (by decide +kernel) (by decide +kernel)) (cg_in1 35 (by decide +kernel) (by decide +kernel)) (cg_in1 36 (by decide +kernel) (by decide +kernel)) dX0_init_1 (Nat.le_of_ble_eq_true rfl) (Nat.le_of_ble_eq_true rfl) ?_
  refine cn_aload_n hC dX0_init_4 0 rfl rfl ?_
  refine cn_new (ci := 3) (fs := [.int 0, .null, .null, .null, .long 0]) hC uw_X1 tyX1 tyX1_ok (cg_in1 165 (by decide +kernel) (by decide +kernel)) (cg_in1 166 (by decide +kernel) (by decide +kernel)) (cg_in1 5 (by decide +kernel) (by decide +kernel)) rfl (by decide) ⟨Nat.le_of_ble_eq_true rfl, Nat.le_of_ble_eq_true rfl⟩ dX0_init_5 (fun q0 => ?_)
  refine cn_dup hC dX0_init_8 rfl ?_
  refine cn_init true hC (c_X1 q0) rfl rfl rfl rfl (by decide) (by decide) (cg_in1 168 (by decide +kernel) (by decide +kernel)) (cg_in1 5 (by decide +kernel) (by decide +kernel)) (cg_in1 169 (by decide +kernel) (by decide +kernel)) rfl rfl ⟨Nat.le_of_ble_eq_true rfl, Nat.le_of_ble_eq_true rfl⟩ (Nat.le_of_ble_eq_true rfl) ⟨Nat.le_of_ble_eq_true rfl, Nat.le_of_ble_eq_true rfl⟩ (wr := [(h0, .inr (2, [.null, .null, .int 0]))]) rfl dX0_init_9 (fun u1 => ?_)
  refine cn_putF (ci := 2) (C := RX0) (T := TX0) (N := 3) (ty := tyX0 1) (ws' := ([(h0, .inr (2, [.null, .ref q0, .int 0]))] ++ cn_w1 cy q0 u1)) hC uw_X0 tyX0 tyX0_ok nmX0 0 rfl rfl 1 (by decide) (cg_in1 203 (by decide +kernel) (by decide +kernel)) rfl hni rfl (by decide +kernel) rfl rfl (Nat.le_of_ble_eq_true rfl) rfl dX0_init_12 ?_
  refine cn_aload_n hC dX0_init_15 0 rfl rfl ?_
  refine cn_aload_n hC dX0_init_16 1 rfl rfl ?_
  refine cn_putF (ci := 2) (C := RX0) (T := TX0) (N := 3) (ty := tyX0 0) (ws' := ([(h0, .inr (2, [.ref g0, .ref q0, .int 0]))] ++ cn_w1 cy q0 u1)) hC uw_X0 tyX0 tyX0_ok nmX0 0 rfl rfl 0 (by decide) (cg_in1 202 (by decide +kernel) (by decide +kernel)) rfl hni rfl (by decide +kernel) rfl rfl (Nat.le_of_ble_eq_true rfl) rfl dX0_init_17 ?_
  refine cn_retv (w0 := []) (w := fun cy u => cn_w0 cy h0 g0 u) (kc := 11) (ks := 82) (mc := 11) (ms := 82) hC (cn_u [q0] u1) ?_ ⟨Nat.le_of_ble_eq_true rfl, Nat.le_of_ble_eq_true rfl⟩ dX0_init_20
  simp only [cn_w0, cn_u_r (xs := [q0]) (n := 1) rfl]
  rfl
def cn_w4 (cy : Nat → ClassId) (h0 g0 g1 g2 : Nat) (u : Nat → Nat) : va_W := ([(h0, .inr (6, [.ref g0, .ref g1, .ref g2, .ref (u 0)]))] ++ [((u 0), .inl (cy 1, 7, .inl (fun _ => 0)))])
set_option maxHeartbeats 4000000 in
set_option maxRecDepth 100000 in
theorem c_X4 (h0 g0 g1 g2 : Nat) : cn_M yX4_init cX4_init 4 ({ frames := 2, cells := 1, slots := 7, locals := 120 }) 1 7 [.ref h0, .ref g0, .ref g1, .ref g2] [(h0, .inr (6, [.null, .null, .null, .null]))] (fun cy u => cn_w4 cy h0 g0 g1 g2 u) := by
  refine cn_entry (lv := [(0, .ref h0), (1, .ref g0), (2, .ref g1), (3, .ref g2)]) (by decide) rfl (Nat.le_of_ble_eq_true rfl) rfl ?_
  intro p l e s m args below meth c D cy hC hni
  refine cn_aload_n hC dX4_init_0 0 rfl rfl ?_
  refine cn_objInit hC (cg_in1 220 (by decide +kernel) (by decide +kernel)) (cg_in1 35 (by decide +kernel) (by decide +kernel)) (cg_in1 36 (by decide +kernel) (by decide +kernel)) dX4_init_1 (Nat.le_of_ble_eq_true rfl) (Nat.le_of_ble_eq_true rfl) ?_
  refine cn_aload_n hC dX4_init_4 0 rfl rfl ?_
  refine cn_bipush (v := 7) hC dX4_init_5 (by decide) ?_
  refine cn_newa (N := 7) (t0 := 1) (cA := cy 1) (ty := .int) (a0 := (7, .inl (fun _ => 0))) hC (cg_in1 138 (by decide +kernel) (by decide +kernel)) rfl rfl (fun _ z => nomatch z) (fun _ => rfl) (by decide) (by decide) (by decide) ⟨Nat.le_of_ble_eq_true rfl, Nat.le_of_ble_eq_true rfl⟩ dX4_init_7 (fun q0 => ?_)
  refine cn_putF (ci := 6) (C := RX4) (T := TX4) (N := 4) (ty := tyX4 3) (ws' := ([(h0, .inr (6, [.null, .null, .null, .ref q0]))] ++ [(q0, .inl (cy 1, 7, .inl (fun _ => 0)))])) hC uw_X4 tyX4 tyX4_ok nmX4 0 rfl rfl 3 (by decide) (cg_in1 224 (by decide +kernel) (by decide +kernel)) rfl hni rfl (by decide +kernel) rfl rfl (Nat.le_of_ble_eq_true rfl) rfl dX4_init_9 ?_
  refine cn_aload_n hC dX4_init_12 0 rfl rfl ?_
  refine cn_aload_n hC dX4_init_13 1 rfl rfl ?_
  refine cn_putF (ci := 6) (C := RX4) (T := TX4) (N := 4) (ty := tyX4 0) (ws' := ([(h0, .inr (6, [.ref g0, .null, .null, .ref q0]))] ++ [(q0, .inl (cy 1, 7, .inl (fun _ => 0)))])) hC uw_X4 tyX4 tyX4_ok nmX4 0 rfl rfl 0 (by decide) (cg_in1 221 (by decide +kernel) (by decide +kernel)) rfl hni rfl (by decide +kernel) rfl rfl (Nat.le_of_ble_eq_true rfl) rfl dX4_init_14 ?_
  refine cn_aload_n hC dX4_init_17 0 rfl rfl ?_
  refine cn_aload_n hC dX4_init_18 2 rfl rfl ?_
  refine cn_putF (ci := 6) (C := RX4) (T := TX4) (N := 4) (ty := tyX4 1) (ws' := ([(h0, .inr (6, [.ref g0, .ref g1, .null, .ref q0]))] ++ [(q0, .inl (cy 1, 7, .inl (fun _ => 0)))])) hC uw_X4 tyX4 tyX4_ok nmX4 0 rfl rfl 1 (by decide) (cg_in1 222 (by decide +kernel) (by decide +kernel)) rfl hni rfl (by decide +kernel) rfl rfl (Nat.le_of_ble_eq_true rfl) rfl dX4_init_19 ?_
  refine cn_aload_n hC dX4_init_22 0 rfl rfl ?_
  refine cn_aload_n hC dX4_init_23 3 rfl rfl ?_
  refine cn_putF (ci := 6) (C := RX4) (T := TX4) (N := 4) (ty := tyX4 2) (ws' := ([(h0, .inr (6, [.ref g0, .ref g1, .ref g2, .ref q0]))] ++ [(q0, .inl (cy 1, 7, .inl (fun _ => 0)))])) hC uw_X4 tyX4 tyX4_ok nmX4 0 rfl rfl 2 (by decide) (cg_in1 223 (by decide +kernel) (by decide +kernel)) rfl hni rfl (by decide +kernel) rfl rfl (Nat.le_of_ble_eq_true rfl) rfl dX4_init_24 ?_
  refine cn_retv (w0 := []) (w := fun cy u => cn_w4 cy h0 g0 g1 g2 u) (kc := 1) (ks := 7) (mc := 1) (ms := 7) hC (cn_u [q0] (fun _ => 0)) ?_ ⟨Nat.le_of_ble_eq_true rfl, Nat.le_of_ble_eq_true rfl⟩ dX4_init_27
  rfl
def cn_w5 (cy : Nat → ClassId) (h0 g0 : Nat) (u : Nat → Nat) : va_W := (([(h0, .inr (7, [.ref g0, .ref (u 0), .ref (u 1)]))] ++ [((u 0), .inl (cy 1, 7, .inl (fun _ => 0)))]) ++ [((u 1), .inl (cy 1, 7, .inl (fun _ => 0)))])
set_option maxHeartbeats 4000000 in
set_option maxRecDepth 100000 in
theorem c_X5 (h0 g0 : Nat) : cn_M yX5_init cX5_init 2 ({ frames := 2, cells := 2, slots := 14, locals := 120 }) 2 14 [.ref h0, .ref g0] [(h0, .inr (7, [.null, .null, .null]))] (fun cy u => cn_w5 cy h0 g0 u) := by
  refine cn_entry (lv := [(0, .ref h0), (1, .ref g0)]) (by decide) rfl (Nat.le_of_ble_eq_true rfl) rfl ?_
  intro p l e s m args below meth c D cy hC hni
  refine cn_aload_n hC dX5_init_0 0 rfl rfl ?_
  refine cn_objInit hC (cg_in2 92 (by decide +kernel) (by decide +kernel)) (cg_in1 35 (by decide +kernel) (by decide +kernel)) (cg_in1 36 (by decide +kernel) (by decide +kernel)) dX5_init_1 (Nat.le_of_ble_eq_true rfl) (Nat.le_of_ble_eq_true rfl) ?_
  refine cn_aload_n hC dX5_init_4 0 rfl rfl ?_
  refine cn_bipush (v := 7) hC dX5_init_5 (by decide) ?_
  refine cn_newa (N := 7) (t0 := 1) (cA := cy 1) (ty := .int) (a0 := (7, .inl (fun _ => 0))) hC (cg_in1 138 (by decide +kernel) (by decide +kernel)) rfl rfl (fun _ z => nomatch z) (fun _ => rfl) (by decide) (by decide) (by decide) ⟨Nat.le_of_ble_eq_true rfl, Nat.le_of_ble_eq_true rfl⟩ dX5_init_7 (fun q0 => ?_)
  refine cn_putF (ci := 7) (C := RX5) (T := TX5) (N := 3) (ty := tyX5 1) (ws' := ([(h0, .inr (7, [.null, .ref q0, .null]))] ++ [(q0, .inl (cy 1, 7, .inl (fun _ => 0)))])) hC uw_X5 tyX5 tyX5_ok nmX5 0 rfl rfl 1 (by decide) (cg_in2 94 (by decide +kernel) (by decide +kernel)) rfl hni rfl (by decide +kernel) rfl rfl (Nat.le_of_ble_eq_true rfl) rfl dX5_init_9 ?_
  refine cn_aload_n hC dX5_init_12 0 rfl rfl ?_
  refine cn_bipush (v := 7) hC dX5_init_13 (by decide) ?_
  refine cn_newa (N := 7) (t0 := 1) (cA := cy 1) (ty := .int) (a0 := (7, .inl (fun _ => 0))) hC (cg_in1 138 (by decide +kernel) (by decide +kernel)) rfl rfl (fun _ z => nomatch z) (fun _ => rfl) (by decide) (by decide) (by decide) ⟨Nat.le_of_ble_eq_true rfl, Nat.le_of_ble_eq_true rfl⟩ dX5_init_15 (fun q1 => ?_)
  refine cn_putF (ci := 7) (C := RX5) (T := TX5) (N := 3) (ty := tyX5 2) (ws' := (([(h0, .inr (7, [.null, .ref q0, .ref q1]))] ++ [(q0, .inl (cy 1, 7, .inl (fun _ => 0)))]) ++ [(q1, .inl (cy 1, 7, .inl (fun _ => 0)))])) hC uw_X5 tyX5 tyX5_ok nmX5 0 rfl rfl 2 (by decide) (cg_in2 96 (by decide +kernel) (by decide +kernel)) rfl hni rfl (by decide +kernel) rfl rfl (Nat.le_of_ble_eq_true rfl) rfl dX5_init_17 ?_
  refine cn_aload_n hC dX5_init_20 0 rfl rfl ?_
  refine cn_aload_n hC dX5_init_21 1 rfl rfl ?_
  refine cn_putF (ci := 7) (C := RX5) (T := TX5) (N := 3) (ty := tyX5 0) (ws' := (([(h0, .inr (7, [.ref g0, .ref q0, .ref q1]))] ++ [(q0, .inl (cy 1, 7, .inl (fun _ => 0)))]) ++ [(q1, .inl (cy 1, 7, .inl (fun _ => 0)))])) hC uw_X5 tyX5 tyX5_ok nmX5 0 rfl rfl 0 (by decide) (cg_in2 93 (by decide +kernel) (by decide +kernel)) rfl hni rfl (by decide +kernel) rfl rfl (Nat.le_of_ble_eq_true rfl) rfl dX5_init_22 ?_
  refine cn_retv (w0 := []) (w := fun cy u => cn_w5 cy h0 g0 u) (kc := 2) (ks := 14) (mc := 2) (ms := 14) hC (cn_u [q0, q1] (fun _ => 0)) ?_ ⟨Nat.le_of_ble_eq_true rfl, Nat.le_of_ble_eq_true rfl⟩ dX5_init_25
  rfl
def cn_w6 (cy : Nat → ClassId) (h0 g0 g1 g2 : Nat) (u : Nat → Nat) : va_W := ((([(h0, .inr (8, [.ref g0, .ref g1, .ref g2, .ref (u 0), .ref (u 1), .ref (u 2)]))] ++ [((u 0), .inl (cy 1, 7, .inl (fun _ => 0)))]) ++ [((u 1), .inl (cy 2, 7, .inr (.inl (fun _ => 0))))]) ++ cn_w10 cy (u 2) (fun k => u (3 + k)))
set_option maxHeartbeats 4000000 in
set_option maxRecDepth 100000 in
theorem c_X6 (h0 g0 g1 g2 : Nat) : cn_M yX6_init cX6_init 4 ({ frames := 3, cells := 5, slots := 30, locals := 160 }) 5 30 [.ref h0, .ref g0, .ref g1, .ref g2] [(h0, .inr (8, [.null, .null, .null, .null, .null, .null]))] (fun cy u => cn_w6 cy h0 g0 g1 g2 u) := by
  refine cn_entry (lv := [(0, .ref h0), (1, .ref g0), (2, .ref g1), (3, .ref g2)]) (by decide) rfl (Nat.le_of_ble_eq_true rfl) rfl ?_
  intro p l e s m args below meth c D cy hC hni
  refine cn_aload_n hC dX6_init_0 0 rfl rfl ?_
  refine cn_objInit hC (cg_in1 239 (by decide +kernel) (by decide +kernel)) (cg_in1 35 (by decide +kernel) (by decide +kernel)) (cg_in1 36 (by decide +kernel) (by decide +kernel)) dX6_init_1 (Nat.le_of_ble_eq_true rfl) (Nat.le_of_ble_eq_true rfl) ?_
  refine cn_aload_n hC dX6_init_4 0 rfl rfl ?_
  refine cn_bipush (v := 7) hC dX6_init_5 (by decide) ?_
  refine cn_newa (N := 7) (t0 := 1) (cA := cy 1) (ty := .int) (a0 := (7, .inl (fun _ => 0))) hC (cg_in1 138 (by decide +kernel) (by decide +kernel)) rfl rfl (fun _ z => nomatch z) (fun _ => rfl) (by decide) (by decide) (by decide) ⟨Nat.le_of_ble_eq_true rfl, Nat.le_of_ble_eq_true rfl⟩ dX6_init_7 (fun q0 => ?_)
  refine cn_putF (ci := 8) (C := RX6) (T := TX6) (N := 6) (ty := tyX6 3) (ws' := ([(h0, .inr (8, [.null, .null, .null, .ref q0, .null, .null]))] ++ [(q0, .inl (cy 1, 7, .inl (fun _ => 0)))])) hC uw_X6 tyX6 tyX6_ok nmX6 0 rfl rfl 3 (by decide) (cg_in2 24 (by decide +kernel) (by decide +kernel)) rfl hni rfl (by decide +kernel) rfl rfl (Nat.le_of_ble_eq_true rfl) rfl dX6_init_9 ?_
  refine cn_aload_n hC dX6_init_12 0 rfl rfl ?_
  refine cn_bipush (v := 7) hC dX6_init_13 (by decide) ?_
  refine cn_newa (N := 7) (t0 := 2) (cA := cy 2) (ty := .long) (a0 := (7, .inr (.inl (fun _ => 0)))) hC (cg_in1 201 (by decide +kernel) (by decide +kernel)) rfl rfl (fun _ z => nomatch z) (fun _ => rfl) (by decide) (by decide) (by decide) ⟨Nat.le_of_ble_eq_true rfl, Nat.le_of_ble_eq_true rfl⟩ dX6_init_15 (fun q1 => ?_)
  refine cn_putF (ci := 8) (C := RX6) (T := TX6) (N := 6) (ty := tyX6 4) (ws' := (([(h0, .inr (8, [.null, .null, .null, .ref q0, .ref q1, .null]))] ++ [(q0, .inl (cy 1, 7, .inl (fun _ => 0)))]) ++ [(q1, .inl (cy 2, 7, .inr (.inl (fun _ => 0))))])) hC uw_X6 tyX6 tyX6_ok nmX6 0 rfl rfl 4 (by decide) (cg_in2 25 (by decide +kernel) (by decide +kernel)) rfl hni rfl (by decide +kernel) rfl rfl (Nat.le_of_ble_eq_true rfl) rfl dX6_init_17 ?_
  refine cn_aload_n hC dX6_init_20 0 rfl rfl ?_
  refine cn_new (ci := 12) (fs := [.null, .null]) hC uw_X10 tyX10 tyX10_ok (cg_in2 0 (by decide +kernel) (by decide +kernel)) (cg_in2 1 (by decide +kernel) (by decide +kernel)) (cg_in1 8 (by decide +kernel) (by decide +kernel)) rfl (by decide) ⟨Nat.le_of_ble_eq_true rfl, Nat.le_of_ble_eq_true rfl⟩ dX6_init_21 (fun q2 => ?_)
  refine cn_dup hC dX6_init_24 rfl ?_
  refine cn_init true hC (c_X10 q2) rfl rfl rfl rfl (by decide) (by decide) (cg_in2 3 (by decide +kernel) (by decide +kernel)) (cg_in1 8 (by decide +kernel) (by decide +kernel)) (cg_in2 4 (by decide +kernel) (by decide +kernel)) rfl rfl ⟨Nat.le_of_ble_eq_true rfl, Nat.le_of_ble_eq_true rfl⟩ (Nat.le_of_ble_eq_true rfl) ⟨Nat.le_of_ble_eq_true rfl, Nat.le_of_ble_eq_true rfl⟩ (wr := (([(h0, .inr (8, [.null, .null, .null, .ref q0, .ref q1, .null]))] ++ [(q0, .inl (cy 1, 7, .inl (fun _ => 0)))]) ++ [(q1, .inl (cy 2, 7, .inr (.inl (fun _ => 0))))])) rfl dX6_init_25 (fun u3 => ?_)
  refine cn_putF (ci := 8) (C := RX6) (T := TX6) (N := 6) (ty := tyX6 5) (ws' := ((([(h0, .inr (8, [.null, .null, .null, .ref q0, .ref q1, .ref q2]))] ++ [(q0, .inl (cy 1, 7, .inl (fun _ => 0)))]) ++ [(q1, .inl (cy 2, 7, .inr (.inl (fun _ => 0))))]) ++ cn_w10 cy q2 u3)) hC uw_X6 tyX6 tyX6_ok nmX6 0 rfl rfl 5 (by decide) (cg_in2 26 (by decide +kernel) (by decide +kernel)) rfl hni rfl (by decide +kernel) rfl rfl (Nat.le_of_ble_eq_true rfl) rfl dX6_init_28 ?_
  refine cn_aload_n hC dX6_init_31 0 rfl rfl ?_
  refine cn_aload_n hC dX6_init_32 1 rfl rfl ?_
  refine cn_putF (ci := 8) (C := RX6) (T := TX6) (N := 6) (ty := tyX6 0) (ws' := ((([(h0, .inr (8, [.ref g0, .null, .null, .ref q0, .ref q1, .ref q2]))] ++ [(q0, .inl (cy 1, 7, .inl (fun _ => 0)))]) ++ [(q1, .inl (cy 2, 7, .inr (.inl (fun _ => 0))))]) ++ cn_w10 cy q2 u3)) hC uw_X6 tyX6 tyX6_ok nmX6 0 rfl rfl 0 (by decide) (cg_in2 21 (by decide +kernel) (by decide +kernel)) rfl hni rfl (by decide +kernel) rfl rfl (Nat.le_of_ble_eq_true rfl) rfl dX6_init_33 ?_
  refine cn_aload_n hC dX6_init_36 0 rfl rfl ?_
  refine cn_aload_n hC dX6_init_37 2 rfl rfl ?_
  refine cn_putF (ci := 8) (C := RX6) (T := TX6) (N := 6) (ty := tyX6 1) (ws' := ((([(h0, .inr (8, [.ref g0, .ref g1, .null, .ref q0, .ref q1, .ref q2]))] ++ [(q0, .inl (cy 1, 7, .inl (fun _ => 0)))]) ++ [(q1, .inl (cy 2, 7, .inr (.inl (fun _ => 0))))]) ++ cn_w10 cy q2 u3)) hC uw_X6 tyX6 tyX6_ok nmX6 0 rfl rfl 1 (by decide) (cg_in2 22 (by decide +kernel) (by decide +kernel)) rfl hni rfl (by decide +kernel) rfl rfl (Nat.le_of_ble_eq_true rfl) rfl dX6_init_38 ?_
  refine cn_aload_n hC dX6_init_41 0 rfl rfl ?_
  refine cn_aload_n hC dX6_init_42 3 rfl rfl ?_
  refine cn_putF (ci := 8) (C := RX6) (T := TX6) (N := 6) (ty := tyX6 2) (ws' := ((([(h0, .inr (8, [.ref g0, .ref g1, .ref g2, .ref q0, .ref q1, .ref q2]))] ++ [(q0, .inl (cy 1, 7, .inl (fun _ => 0)))]) ++ [(q1, .inl (cy 2, 7, .inr (.inl (fun _ => 0))))]) ++ cn_w10 cy q2 u3)) hC uw_X6 tyX6 tyX6_ok nmX6 0 rfl rfl 2 (by decide) (cg_in2 23 (by decide +kernel) (by decide +kernel)) rfl hni rfl (by decide +kernel) rfl rfl (Nat.le_of_ble_eq_true rfl) rfl dX6_init_43 ?_
  refine cn_retv (w0 := []) (w := fun cy u => cn_w6 cy h0 g0 g1 g2 u) (kc := 5) (ks := 30) (mc := 5) (ms := 30) hC (cn_u [q0, q1, q2, (u3 0), (u3 1)] (fun _ => 0)) ?_ ⟨Nat.le_of_ble_eq_true rfl, Nat.le_of_ble_eq_true rfl⟩ dX6_init_46
  rfl
def cn_w7 (cy : Nat → ClassId) (h0 g0 g1 : Nat) (u : Nat → Nat) : va_W := (((((((([(h0, .inr (9, [.ref g0, .ref g1, .ref (u 0), .ref (u 1), .ref (u 2), .ref (u 3)]))] ++ [((u 0), .inl (cy 1, 7, .inl (fun _ => 0)))]) ++ cn_w10 cy (u 1) (fun k => u (8 + k))) ++ [((u 2), .inl (cy 6, 4, .inr (.inr (.inr (.inr (va_up (va_up (va_up (va_up (fun _ => none) 0 (some (u 4))) 1 (some (u 5))) 2 (some (u 6))) 3 (some (u 7))))))))]) ++ [((u 3), .inl (cy 1, 4, .inl (upd (upd (upd (upd (fun _ => 0) 0 (-1)) 1 (-1)) 2 (-1)) 3 (-1))))]) ++ cn_w10 cy (u 4) (fun k => u (10 + k))) ++ cn_w10 cy (u 5) (fun k => u (12 + k))) ++ cn_w10 cy (u 6) (fun k => u (14 + k))) ++ cn_w10 cy (u 7) (fun k => u (16 + k)))
set_option maxHeartbeats 4000000 in
set_option maxRecDepth 100000 in
theorem c_X7 (h0 g0 g1 : Nat) : cn_M yX7_init cX7_init 4 ({ frames := 3, cells := 18, slots := 95, locals := 160 }) 18 95 [.ref h0, .ref g0, .ref g1] [(h0, .inr (9, [.null, .null, .null, .null, .null, .null]))] (fun cy u => cn_w7 cy h0 g0 g1 u) := by
  refine cn_entry (lv := [(0, .ref h0), (1, .ref g0), (2, .ref g1)]) (by decide) rfl (Nat.le_of_ble_eq_true rfl) rfl ?_
  intro p l e s m args below meth c D cy hC hni
  refine cn_aload_n hC dX7_init_0 0 rfl rfl ?_
  refine cn_objInit hC (cg_in2 45 (by decide +kernel) (by decide +kernel)) (cg_in1 35 (by decide +kernel) (by decide +kernel)) (cg_in1 36 (by decide +kernel) (by decide +kernel)) dX7_init_1 (Nat.le_of_ble_eq_true rfl) (Nat.le_of_ble_eq_true rfl) ?_
  refine cn_aload_n hC dX7_init_4 0 rfl rfl ?_
  refine cn_bipush (v := 7) hC dX7_init_5 (by decide) ?_
  refine cn_newa (N := 7) (t0 := 1) (cA := cy 1) (ty := .int) (a0 := (7, .inl (fun _ => 0))) hC (cg_in1 138 (by decide +kernel) (by decide +kernel)) rfl rfl (fun _ z => nomatch z) (fun _ => rfl) (by decide) (by decide) (by decide) ⟨Nat.le_of_ble_eq_true rfl, Nat.le_of_ble_eq_true rfl⟩ dX7_init_7 (fun q0 => ?_)
  refine cn_putF (ci := 9) (C := RX7) (T := TX7) (N := 6) (ty := tyX7 2) (ws' := ([(h0, .inr (9, [.null, .null, .ref q0, .null, .null, .null]))] ++ [(q0, .inl (cy 1, 7, .inl (fun _ => 0)))])) hC uw_X7 tyX7 tyX7_ok nmX7 0 rfl rfl 2 (by decide) (cg_in2 51 (by decide +kernel) (by decide +kernel)) rfl hni rfl (by decide +kernel) rfl rfl (Nat.le_of_ble_eq_true rfl) rfl dX7_init_9 ?_
  refine cn_aload_n hC dX7_init_12 0 rfl rfl ?_
  refine cn_new (ci := 12) (fs := [.null, .null]) hC uw_X10 tyX10 tyX10_ok (cg_in2 46 (by decide +kernel) (by decide +kernel)) (cg_in2 1 (by decide +kernel) (by decide +kernel)) (cg_in1 8 (by decide +kernel) (by decide +kernel)) rfl (by decide) ⟨Nat.le_of_ble_eq_true rfl, Nat.le_of_ble_eq_true rfl⟩ dX7_init_13 (fun q1 => ?_)
  refine cn_dup hC dX7_init_16 rfl ?_
  refine cn_init true hC (c_X10 q1) rfl rfl rfl rfl (by decide) (by decide) (cg_in2 3 (by decide +kernel) (by decide +kernel)) (cg_in1 8 (by decide +kernel) (by decide +kernel)) (cg_in2 4 (by decide +kernel) (by decide +kernel)) rfl rfl ⟨Nat.le_of_ble_eq_true rfl, Nat.le_of_ble_eq_true rfl⟩ (Nat.le_of_ble_eq_true rfl) ⟨Nat.le_of_ble_eq_true rfl, Nat.le_of_ble_eq_true rfl⟩ (wr := ([(h0, .inr (9, [.null, .null, .ref q0, .null, .null, .null]))] ++ [(q0, .inl (cy 1, 7, .inl (fun _ => 0)))])) rfl dX7_init_17 (fun u2 => ?_)
  refine cn_putF (ci := 9) (C := RX7) (T := TX7) (N := 6) (ty := tyX7 3) (ws' := (([(h0, .inr (9, [.null, .null, .ref q0, .ref q1, .null, .null]))] ++ [(q0, .inl (cy 1, 7, .inl (fun _ => 0)))]) ++ cn_w10 cy q1 u2)) hC uw_X7 tyX7 tyX7_ok nmX7 0 rfl rfl 3 (by decide) (cg_in2 52 (by decide +kernel) (by decide +kernel)) rfl hni rfl (by decide +kernel) rfl rfl (Nat.le_of_ble_eq_true rfl) rfl dX7_init_20 ?_
  refine cn_aload_n hC dX7_init_23 0 rfl rfl ?_
  refine cn_iconst (v := 4) hC dX7_init_24 (by decide) ?_
  refine cn_anew (N := 4) hC (cg_in2 46 (by decide +kernel) (by decide +kernel)) (by decide) (by decide) (by decide) ⟨Nat.le_of_ble_eq_true rfl, Nat.le_of_ble_eq_true rfl⟩ dX7_init_25 (fun q3 => ?_)
  refine cn_putF (ci := 9) (C := RX7) (T := TX7) (N := 6) (ty := tyX7 4) (ws' := ((([(h0, .inr (9, [.null, .null, .ref q0, .ref q1, .ref q3, .null]))] ++ [(q0, .inl (cy 1, 7, .inl (fun _ => 0)))]) ++ cn_w10 cy q1 u2) ++ [(q3, .inl (cy 6, 4, .inr (.inr (.inr (.inr (fun _ => none))))))])) hC uw_X7 tyX7 tyX7_ok nmX7 0 rfl rfl 4 (by decide) (cg_in2 53 (by decide +kernel) (by decide +kernel)) rfl hni rfl (by decide +kernel) rfl rfl (Nat.le_of_ble_eq_true rfl) rfl dX7_init_28 ?_
  refine cn_aload_n hC dX7_init_31 0 rfl rfl ?_
  refine cn_iconst (v := 4) hC dX7_init_32 (by decide) ?_
  refine cn_newa (N := 4) (t0 := 1) (cA := cy 1) (ty := .int) (a0 := (4, .inl (fun _ => 0))) hC (cg_in1 138 (by decide +kernel) (by decide +kernel)) rfl rfl (fun _ z => nomatch z) (fun _ => rfl) (by decide) (by decide) (by decide) ⟨Nat.le_of_ble_eq_true rfl, Nat.le_of_ble_eq_true rfl⟩ dX7_init_33 (fun q4 => ?_)
  refine cn_putF (ci := 9) (C := RX7) (T := TX7) (N := 6) (ty := tyX7 5) (ws' := (((([(h0, .inr (9, [.null, .null, .ref q0, .ref q1, .ref q3, .ref q4]))] ++ [(q0, .inl (cy 1, 7, .inl (fun _ => 0)))]) ++ cn_w10 cy q1 u2) ++ [(q3, .inl (cy 6, 4, .inr (.inr (.inr (.inr (fun _ => none))))))]) ++ [(q4, .inl (cy 1, 4, .inl (fun _ => 0)))])) hC uw_X7 tyX7 tyX7_ok nmX7 0 rfl rfl 5 (by decide) (cg_in2 54 (by decide +kernel) (by decide +kernel)) rfl hni rfl (by decide +kernel) rfl rfl (Nat.le_of_ble_eq_true rfl) rfl dX7_init_35 ?_
  refine cn_aload_n hC dX7_init_38 0 rfl rfl ?_
  refine cn_aload_n hC dX7_init_39 1 rfl rfl ?_
  refine cn_putF (ci := 9) (C := RX7) (T := TX7) (N := 6) (ty := tyX7 0) (ws' := (((([(h0, .inr (9, [.ref g0, .null, .ref q0, .ref q1, .ref q3, .ref q4]))] ++ [(q0, .inl (cy 1, 7, .inl (fun _ => 0)))]) ++ cn_w10 cy q1 u2) ++ [(q3, .inl (cy 6, 4, .inr (.inr (.inr (.inr (fun _ => none))))))]) ++ [(q4, .inl (cy 1, 4, .inl (fun _ => 0)))])) hC uw_X7 tyX7 tyX7_ok nmX7 0 rfl rfl 0 (by decide) (cg_in2 49 (by decide +kernel) (by decide +kernel)) rfl hni rfl (by decide +kernel) rfl rfl (Nat.le_of_ble_eq_true rfl) rfl dX7_init_40 ?_
  refine cn_aload_n hC dX7_init_43 0 rfl rfl ?_
  refine cn_aload_n hC dX7_init_44 2 rfl rfl ?_
  refine cn_putF (ci := 9) (C := RX7) (T := TX7) (N := 6) (ty := tyX7 1) (ws' := (((([(h0, .inr (9, [.ref g0, .ref g1, .ref q0, .ref q1, .ref q3, .ref q4]))] ++ [(q0, .inl (cy 1, 7, .inl (fun _ => 0)))]) ++ cn_w10 cy q1 u2) ++ [(q3, .inl (cy 6, 4, .inr (.inr (.inr (.inr (fun _ => none))))))]) ++ [(q4, .inl (cy 1, 4, .inl (fun _ => 0)))])) hC uw_X7 tyX7 tyX7_ok nmX7 0 rfl rfl 1 (by decide) (cg_in2 50 (by decide +kernel) (by decide +kernel)) rfl hni rfl (by decide +kernel) rfl rfl (Nat.le_of_ble_eq_true rfl) rfl dX7_init_45 ?_
  refine cn_iconst (v := 0) hC dX7_init_48 (by decide) ?_
  refine cn_istore_n (lv' := [(3, .int 0), (0, .ref h0), (1, .ref g0), (2, .ref g1)]) hC dX7_init_49 rfl (by decide) rfl ?_
  refine cn_iload_n hC dX7_init_50 0 rfl rfl ?_
  refine cn_iconst (v := 4) hC dX7_init_51 (by decide) ?_
  refine cn_icmp_ge (tgt := 81) hC dX7_init_52 (by decide) (fun z => absurd z (by decide)) (fun _ => ?_)
  refine cn_aload_n hC dX7_init_55 1 rfl rfl ?_
  refine cn_get (ci := 9) (C := RX7) (T := TX7) (N := 6) hC uw_X7 0 rfl rfl 4 (by decide) (cg_in2 53 (by decide +kernel) (by decide +kernel)) rfl dX7_init_56 ?_
  refine cn_iload_n hC dX7_init_59 0 rfl rfl ?_
  refine cn_new (ci := 12) (fs := [.null, .null]) hC uw_X10 tyX10 tyX10_ok (cg_in2 46 (by decide +kernel) (by decide +kernel)) (cg_in2 1 (by decide +kernel) (by decide +kernel)) (cg_in1 8 (by decide +kernel) (by decide +kernel)) rfl (by decide) ⟨Nat.le_of_ble_eq_true rfl, Nat.le_of_ble_eq_true rfl⟩ dX7_init_60 (fun q5 => ?_)
  refine cn_dup hC dX7_init_63 rfl ?_
  refine cn_init true hC (c_X10 q5) rfl rfl rfl rfl (by decide) (by decide) (cg_in2 3 (by decide +kernel) (by decide +kernel)) (cg_in1 8 (by decide +kernel) (by decide +kernel)) (cg_in2 4 (by decide +kernel) (by decide +kernel)) rfl rfl ⟨Nat.le_of_ble_eq_true rfl, Nat.le_of_ble_eq_true rfl⟩ (Nat.le_of_ble_eq_true rfl) ⟨Nat.le_of_ble_eq_true rfl, Nat.le_of_ble_eq_true rfl⟩ (wr := (((([(h0, .inr (9, [.ref g0, .ref g1, .ref q0, .ref q1, .ref q3, .ref q4]))] ++ [(q0, .inl (cy 1, 7, .inl (fun _ => 0)))]) ++ cn_w10 cy q1 u2) ++ [(q3, .inl (cy 6, 4, .inr (.inr (.inr (.inr (fun _ => none))))))]) ++ [(q4, .inl (cy 1, 4, .inl (fun _ => 0)))])) rfl dX7_init_64 (fun u6 => ?_)
  refine cn_aast (ws' := ((((([(h0, .inr (9, [.ref g0, .ref g1, .ref q0, .ref q1, .ref q3, .ref q4]))] ++ [(q0, .inl (cy 1, 7, .inl (fun _ => 0)))]) ++ cn_w10 cy q1 u2) ++ [(q3, .inl (cy 6, 4, .inr (.inr (.inr (.inr (va_up (fun _ => none) 0 (some q5)))))))]) ++ [(q4, .inl (cy 1, 4, .inl (fun _ => 0)))]) ++ cn_w10 cy q5 u6)) hC 5 7 rfl rfl (fun h => by revert h; decide) rfl dX7_init_67 ?_
  refine cn_aload_n hC dX7_init_68 1 rfl rfl ?_
  refine cn_get (ci := 9) (C := RX7) (T := TX7) (N := 6) hC uw_X7 0 rfl rfl 5 (by decide) (cg_in2 54 (by decide +kernel) (by decide +kernel)) rfl dX7_init_69 ?_
  refine cn_iload_n hC dX7_init_72 0 rfl rfl ?_
  refine cn_iconst (v := -1) hC dX7_init_73 (by decide) ?_
  refine cn_iast (ws' := ((((([(h0, .inr (9, [.ref g0, .ref g1, .ref q0, .ref q1, .ref q3, .ref q4]))] ++ [(q0, .inl (cy 1, 7, .inl (fun _ => 0)))]) ++ cn_w10 cy q1 u2) ++ [(q3, .inl (cy 6, 4, .inr (.inr (.inr (.inr (va_up (fun _ => none) 0 (some q5)))))))]) ++ [(q4, .inl (cy 1, 4, .inl (upd (fun _ => 0) 0 (-1))))]) ++ cn_w10 cy q5 u6)) hC 6 rfl (fun h => by revert h; decide) rfl dX7_init_74 ?_
  refine cn_iinc (v := 1) (lv' := [(3, .int 1), (0, .ref h0), (1, .ref g0), (2, .ref g1)]) hC dX7_init_75 0 rfl (by decide) (by decide) rfl ?_
  refine cn_goto (tgt := 50) hC dX7_init_78 (by decide) ?_
  refine cn_iload_n hC dX7_init_50 0 rfl rfl ?_
  refine cn_iconst (v := 4) hC dX7_init_51 (by decide) ?_
  refine cn_icmp_ge (tgt := 81) hC dX7_init_52 (by decide) (fun z => absurd z (by decide)) (fun _ => ?_)
  refine cn_aload_n hC dX7_init_55 1 rfl rfl ?_
  refine cn_get (ci := 9) (C := RX7) (T := TX7) (N := 6) hC uw_X7 0 rfl rfl 4 (by decide) (cg_in2 53 (by decide +kernel) (by decide +kernel)) rfl dX7_init_56 ?_
  refine cn_iload_n hC dX7_init_59 0 rfl rfl ?_
  refine cn_new (ci := 12) (fs := [.null, .null]) hC uw_X10 tyX10 tyX10_ok (cg_in2 46 (by decide +kernel) (by decide +kernel)) (cg_in2 1 (by decide +kernel) (by decide +kernel)) (cg_in1 8 (by decide +kernel) (by decide +kernel)) rfl (by decide) ⟨Nat.le_of_ble_eq_true rfl, Nat.le_of_ble_eq_true rfl⟩ dX7_init_60 (fun q7 => ?_)
  refine cn_dup hC dX7_init_63 rfl ?_
  refine cn_init true hC (c_X10 q7) rfl rfl rfl rfl (by decide) (by decide) (cg_in2 3 (by decide +kernel) (by decide +kernel)) (cg_in1 8 (by decide +kernel) (by decide +kernel)) (cg_in2 4 (by decide +kernel) (by decide +kernel)) rfl rfl ⟨Nat.le_of_ble_eq_true rfl, Nat.le_of_ble_eq_true rfl⟩ (Nat.le_of_ble_eq_true rfl) ⟨Nat.le_of_ble_eq_true rfl, Nat.le_of_ble_eq_true rfl⟩ (wr := ((((([(h0, .inr (9, [.ref g0, .ref g1, .ref q0, .ref q1, .ref q3, .ref q4]))] ++ [(q0, .inl (cy 1, 7, .inl (fun _ => 0)))]) ++ cn_w10 cy q1 u2) ++ [(q3, .inl (cy 6, 4, .inr (.inr (.inr (.inr (va_up (fun _ => none) 0 (some q5)))))))]) ++ [(q4, .inl (cy 1, 4, .inl (upd (fun _ => 0) 0 (-1))))]) ++ cn_w10 cy q5 u6)) rfl dX7_init_64 (fun u8 => ?_)
  refine cn_aast (ws' := (((((([(h0, .inr (9, [.ref g0, .ref g1, .ref q0, .ref q1, .ref q3, .ref q4]))] ++ [(q0, .inl (cy 1, 7, .inl (fun _ => 0)))]) ++ cn_w10 cy q1 u2) ++ [(q3, .inl (cy 6, 4, .inr (.inr (.inr (.inr (va_up (va_up (fun _ => none) 0 (some q5)) 1 (some q7)))))))]) ++ [(q4, .inl (cy 1, 4, .inl (upd (fun _ => 0) 0 (-1))))]) ++ cn_w10 cy q5 u6) ++ cn_w10 cy q7 u8)) hC 5 10 rfl rfl (fun h => by revert h; decide) rfl dX7_init_67 ?_
  refine cn_aload_n hC dX7_init_68 1 rfl rfl ?_
  refine cn_get (ci := 9) (C := RX7) (T := TX7) (N := 6) hC uw_X7 0 rfl rfl 5 (by decide) (cg_in2 54 (by decide +kernel) (by decide +kernel)) rfl dX7_init_69 ?_
  refine cn_iload_n hC dX7_init_72 0 rfl rfl ?_
  refine cn_iconst (v := -1) hC dX7_init_73 (by decide) ?_
  refine cn_iast (ws' := (((((([(h0, .inr (9, [.ref g0, .ref g1, .ref q0, .ref q1, .ref q3, .ref q4]))] ++ [(q0, .inl (cy 1, 7, .inl (fun _ => 0)))]) ++ cn_w10 cy q1 u2) ++ [(q3, .inl (cy 6, 4, .inr (.inr (.inr (.inr (va_up (va_up (fun _ => none) 0 (some q5)) 1 (some q7)))))))]) ++ [(q4, .inl (cy 1, 4, .inl (upd (upd (fun _ => 0) 0 (-1)) 1 (-1))))]) ++ cn_w10 cy q5 u6) ++ cn_w10 cy q7 u8)) hC 6 rfl (fun h => by revert h; decide) rfl dX7_init_74 ?_
  refine cn_iinc (v := 2) (lv' := [(3, .int 2), (0, .ref h0), (1, .ref g0), (2, .ref g1)]) hC dX7_init_75 0 rfl (by decide) (by decide) rfl ?_
  refine cn_goto (tgt := 50) hC dX7_init_78 (by decide) ?_
  refine cn_iload_n hC dX7_init_50 0 rfl rfl ?_
  refine cn_iconst (v := 4) hC dX7_init_51 (by decide) ?_
  refine cn_icmp_ge (tgt := 81) hC dX7_init_52 (by decide) (fun z => absurd z (by decide)) (fun _ => ?_)
  refine cn_aload_n hC dX7_init_55 1 rfl rfl ?_
  refine cn_get (ci := 9) (C := RX7) (T := TX7) (N := 6) hC uw_X7 0 rfl rfl 4 (by decide) (cg_in2 53 (by decide +kernel) (by decide +kernel)) rfl dX7_init_56 ?_
  refine cn_iload_n hC dX7_init_59 0 rfl rfl ?_
  refine cn_new (ci := 12) (fs := [.null, .null]) hC uw_X10 tyX10 tyX10_ok (cg_in2 46 (by decide +kernel) (by decide +kernel)) (cg_in2 1 (by decide +kernel) (by decide +kernel)) (cg_in1 8 (by decide +kernel) (by decide +kernel)) rfl (by decide) ⟨Nat.le_of_ble_eq_true rfl, Nat.le_of_ble_eq_true rfl⟩ dX7_init_60 (fun q9 => ?_)
  refine cn_dup hC dX7_init_63 rfl ?_
  refine cn_init true hC (c_X10 q9) rfl rfl rfl rfl (by decide) (by decide) (cg_in2 3 (by decide +kernel) (by decide +kernel)) (cg_in1 8 (by decide +kernel) (by decide +kernel)) (cg_in2 4 (by decide +kernel) (by decide +kernel)) rfl rfl ⟨Nat.le_of_ble_eq_true rfl, Nat.le_of_ble_eq_true rfl⟩ (Nat.le_of_ble_eq_true rfl) ⟨Nat.le_of_ble_eq_true rfl, Nat.le_of_ble_eq_true rfl⟩ (wr := (((((([(h0, .inr (9, [.ref g0, .ref g1, .ref q0, .ref q1, .ref q3, .ref q4]))] ++ [(q0, .inl (cy 1, 7, .inl (fun _ => 0)))]) ++ cn_w10 cy q1 u2) ++ [(q3, .inl (cy 6, 4, .inr (.inr (.inr (.inr (va_up (va_up (fun _ => none) 0 (some q5)) 1 (some q7)))))))]) ++ [(q4, .inl (cy 1, 4, .inl (upd (upd (fun _ => 0) 0 (-1)) 1 (-1))))]) ++ cn_w10 cy q5 u6) ++ cn_w10 cy q7 u8)) rfl dX7_init_64 (fun u10 => ?_)
  refine cn_aast (ws' := ((((((([(h0, .inr (9, [.ref g0, .ref g1, .ref q0, .ref q1, .ref q3, .ref q4]))] ++ [(q0, .inl (cy 1, 7, .inl (fun _ => 0)))]) ++ cn_w10 cy q1 u2) ++ [(q3, .inl (cy 6, 4, .inr (.inr (.inr (.inr (va_up (va_up (va_up (fun _ => none) 0 (some q5)) 1 (some q7)) 2 (some q9)))))))]) ++ [(q4, .inl (cy 1, 4, .inl (upd (upd (fun _ => 0) 0 (-1)) 1 (-1))))]) ++ cn_w10 cy q5 u6) ++ cn_w10 cy q7 u8) ++ cn_w10 cy q9 u10)) hC 5 13 rfl rfl (fun h => by revert h; decide) rfl dX7_init_67 ?_
  refine cn_aload_n hC dX7_init_68 1 rfl rfl ?_
  refine cn_get (ci := 9) (C := RX7) (T := TX7) (N := 6) hC uw_X7 0 rfl rfl 5 (by decide) (cg_in2 54 (by decide +kernel) (by decide +kernel)) rfl dX7_init_69 ?_
  refine cn_iload_n hC dX7_init_72 0 rfl rfl ?_
  refine cn_iconst (v := -1) hC dX7_init_73 (by decide) ?_
  refine cn_iast (ws' := ((((((([(h0, .inr (9, [.ref g0, .ref g1, .ref q0, .ref q1, .ref q3, .ref q4]))] ++ [(q0, .inl (cy 1, 7, .inl (fun _ => 0)))]) ++ cn_w10 cy q1 u2) ++ [(q3, .inl (cy 6, 4, .inr (.inr (.inr (.inr (va_up (va_up (va_up (fun _ => none) 0 (some q5)) 1 (some q7)) 2 (some q9)))))))]) ++ [(q4, .inl (cy 1, 4, .inl (upd (upd (upd (fun _ => 0) 0 (-1)) 1 (-1)) 2 (-1))))]) ++ cn_w10 cy q5 u6) ++ cn_w10 cy q7 u8) ++ cn_w10 cy q9 u10)) hC 6 rfl (fun h => by revert h; decide) rfl dX7_init_74 ?_
  refine cn_iinc (v := 3) (lv' := [(3, .int 3), (0, .ref h0), (1, .ref g0), (2, .ref g1)]) hC dX7_init_75 0 rfl (by decide) (by decide) rfl ?_
  refine cn_goto (tgt := 50) hC dX7_init_78 (by decide) ?_
  refine cn_iload_n hC dX7_init_50 0 rfl rfl ?_
  refine cn_iconst (v := 4) hC dX7_init_51 (by decide) ?_
  refine cn_icmp_ge (tgt := 81) hC dX7_init_52 (by decide) (fun z => absurd z (by decide)) (fun _ => ?_)
  refine cn_aload_n hC dX7_init_55 1 rfl rfl ?_
  refine cn_get (ci := 9) (C := RX7) (T := TX7) (N := 6) hC uw_X7 0 rfl rfl 4 (by decide) (cg_in2 53 (by decide +kernel) (by decide +kernel)) rfl dX7_init_56 ?_
  refine cn_iload_n hC dX7_init_59 0 rfl rfl ?_
  refine cn_new (ci := 12) (fs := [.null, .null]) hC uw_X10 tyX10 tyX10_ok (cg_in2 46 (by decide +kernel) (by decide +kernel)) (cg_in2 1 (by decide +kernel) (by decide +kernel)) (cg_in1 8 (by decide +kernel) (by decide +kernel)) rfl (by decide) ⟨Nat.le_of_ble_eq_true rfl, Nat.le_of_ble_eq_true rfl⟩ dX7_init_60 (fun q11 => ?_)
  refine cn_dup hC dX7_init_63 rfl ?_
  refine cn_init true hC (c_X10 q11) rfl rfl rfl rfl (by decide) (by decide) (cg_in2 3 (by decide +kernel) (by decide +kernel)) (cg_in1 8 (by decide +kernel) (by decide +kernel)) (cg_in2 4 (by decide +kernel) (by decide +kernel)) rfl rfl ⟨Nat.le_of_ble_eq_true rfl, Nat.le_of_ble_eq_true rfl⟩ (Nat.le_of_ble_eq_true rfl) ⟨Nat.le_of_ble_eq_true rfl, Nat.le_of_ble_eq_true rfl⟩ (wr := ((((((([(h0, .inr (9, [.ref g0, .ref g1, .ref q0, .ref q1, .ref q3, .ref q4]))] ++ [(q0, .inl (cy 1, 7, .inl (fun _ => 0)))]) ++ cn_w10 cy q1 u2) ++ [(q3, .inl (cy 6, 4, .inr (.inr (.inr (.inr (va_up (va_up (va_up (fun _ => none) 0 (some q5)) 1 (some q7)) 2 (some q9)))))))]) ++ [(q4, .inl (cy 1, 4, .inl (upd (upd (upd (fun _ => 0) 0 (-1)) 1 (-1)) 2 (-1))))]) ++ cn_w10 cy q5 u6) ++ cn_w10 cy q7 u8) ++ cn_w10 cy q9 u10)) rfl dX7_init_64 (fun u12 => ?_)
  refine cn_aast (ws' := (((((((([(h0, .inr (9, [.ref g0, .ref g1, .ref q0, .ref q1, .ref q3, .ref q4]))] ++ [(q0, .inl (cy 1, 7, .inl (fun _ => 0)))]) ++ cn_w10 cy q1 u2) ++ [(q3, .inl (cy 6, 4, .inr (.inr (.inr (.inr (va_up (va_up (va_up (va_up (fun _ => none) 0 (some q5)) 1 (some q7)) 2 (some q9)) 3 (some q11)))))))]) ++ [(q4, .inl (cy 1, 4, .inl (upd (upd (upd (fun _ => 0) 0 (-1)) 1 (-1)) 2 (-1))))]) ++ cn_w10 cy q5 u6) ++ cn_w10 cy q7 u8) ++ cn_w10 cy q9 u10) ++ cn_w10 cy q11 u12)) hC 5 16 rfl rfl (fun h => by revert h; decide) rfl dX7_init_67 ?_
  refine cn_aload_n hC dX7_init_68 1 rfl rfl ?_
  refine cn_get (ci := 9) (C := RX7) (T := TX7) (N := 6) hC uw_X7 0 rfl rfl 5 (by decide) (cg_in2 54 (by decide +kernel) (by decide +kernel)) rfl dX7_init_69 ?_
  refine cn_iload_n hC dX7_init_72 0 rfl rfl ?_
  refine cn_iconst (v := -1) hC dX7_init_73 (by decide) ?_
  refine cn_iast (ws' := (((((((([(h0, .inr (9, [.ref g0, .ref g1, .ref q0, .ref q1, .ref q3, .ref q4]))] ++ [(q0, .inl (cy 1, 7, .inl (fun _ => 0)))]) ++ cn_w10 cy q1 u2) ++ [(q3, .inl (cy 6, 4, .inr (.inr (.inr (.inr (va_up (va_up (va_up (va_up (fun _ => none) 0 (some q5)) 1 (some q7)) 2 (some q9)) 3 (some q11)))))))]) ++ [(q4, .inl (cy 1, 4, .inl (upd (upd (upd (upd (fun _ => 0) 0 (-1)) 1 (-1)) 2 (-1)) 3 (-1))))]) ++ cn_w10 cy q5 u6) ++ cn_w10 cy q7 u8) ++ cn_w10 cy q9 u10) ++ cn_w10 cy q11 u12)) hC 6 rfl (fun h => by revert h; decide) rfl dX7_init_74 ?_
  refine cn_iinc (v := 4) (lv' := [(3, .int 4), (0, .ref h0), (1, .ref g0), (2, .ref g1)]) hC dX7_init_75 0 rfl (by decide) (by decide) rfl ?_
  refine cn_goto (tgt := 50) hC dX7_init_78 (by decide) ?_
  refine cn_iload_n hC dX7_init_50 0 rfl rfl ?_
  refine cn_iconst (v := 4) hC dX7_init_51 (by decide) ?_
  refine cn_icmp_ge (tgt := 81) hC dX7_init_52 (by decide) (fun _ => ?_) (fun z => absurd (by decide) z)
  refine cn_retv (w0 := []) (w := fun cy u => cn_w7 cy h0 g0 g1 u) (kc := 18) (ks := 95) (mc := 18) (ms := 95) hC (cn_u [q0, q1, q3, q4, q5, q7, q9, q11, (u2 0), (u2 1), (u6 0), (u6 1), (u8 0), (u8 1), (u10 0), (u10 1), (u12 0), (u12 1)] (fun _ => 0)) ?_ ⟨Nat.le_of_ble_eq_true rfl, Nat.le_of_ble_eq_true rfl⟩ dX7_init_81
  rfl
def cn_w8 (cy : Nat → ClassId) (h0 g0 g1 g2 : Nat) (u : Nat → Nat) : va_W := ([(h0, .inr (10, [.ref g0, .ref g1, .ref g2, .ref (u 0)]))] ++ [((u 0), .inl (cy 1, 7, .inl (fun _ => 0)))])
set_option maxHeartbeats 4000000 in
set_option maxRecDepth 100000 in
theorem c_X8 (h0 g0 g1 g2 : Nat) : cn_M yX8_init cX8_init 4 ({ frames := 2, cells := 1, slots := 7, locals := 120 }) 1 7 [.ref h0, .ref g0, .ref g1, .ref g2] [(h0, .inr (10, [.null, .null, .null, .null]))] (fun cy u => cn_w8 cy h0 g0 g1 g2 u) := by
  refine cn_entry (lv := [(0, .ref h0), (1, .ref g0), (2, .ref g1), (3, .ref g2)]) (by decide) rfl (Nat.le_of_ble_eq_true rfl) rfl ?_
  intro p l e s m args below meth c D cy hC hni
  refine cn_aload_n hC dX8_init_0 0 rfl rfl ?_
  refine cn_objInit hC (cg_in2 73 (by decide +kernel) (by decide +kernel)) (cg_in1 35 (by decide +kernel) (by decide +kernel)) (cg_in1 36 (by decide +kernel) (by decide +kernel)) dX8_init_1 (Nat.le_of_ble_eq_true rfl) (Nat.le_of_ble_eq_true rfl) ?_
  refine cn_aload_n hC dX8_init_4 0 rfl rfl ?_
  refine cn_bipush (v := 7) hC dX8_init_5 (by decide) ?_
  refine cn_newa (N := 7) (t0 := 1) (cA := cy 1) (ty := .int) (a0 := (7, .inl (fun _ => 0))) hC (cg_in1 138 (by decide +kernel) (by decide +kernel)) rfl rfl (fun _ z => nomatch z) (fun _ => rfl) (by decide) (by decide) (by decide) ⟨Nat.le_of_ble_eq_true rfl, Nat.le_of_ble_eq_true rfl⟩ dX8_init_7 (fun q0 => ?_)
  refine cn_putF (ci := 10) (C := RX8) (T := TX8) (N := 4) (ty := tyX8 3) (ws' := ([(h0, .inr (10, [.null, .null, .null, .ref q0]))] ++ [(q0, .inl (cy 1, 7, .inl (fun _ => 0)))])) hC uw_X8 tyX8 tyX8_ok nmX8 0 rfl rfl 3 (by decide) (cg_in2 77 (by decide +kernel) (by decide +kernel)) rfl hni rfl (by decide +kernel) rfl rfl (Nat.le_of_ble_eq_true rfl) rfl dX8_init_9 ?_
  refine cn_aload_n hC dX8_init_12 0 rfl rfl ?_
  refine cn_aload_n hC dX8_init_13 1 rfl rfl ?_
  refine cn_putF (ci := 10) (C := RX8) (T := TX8) (N := 4) (ty := tyX8 0) (ws' := ([(h0, .inr (10, [.ref g0, .null, .null, .ref q0]))] ++ [(q0, .inl (cy 1, 7, .inl (fun _ => 0)))])) hC uw_X8 tyX8 tyX8_ok nmX8 0 rfl rfl 0 (by decide) (cg_in2 74 (by decide +kernel) (by decide +kernel)) rfl hni rfl (by decide +kernel) rfl rfl (Nat.le_of_ble_eq_true rfl) rfl dX8_init_14 ?_
  refine cn_aload_n hC dX8_init_17 0 rfl rfl ?_
  refine cn_aload_n hC dX8_init_18 2 rfl rfl ?_
  refine cn_putF (ci := 10) (C := RX8) (T := TX8) (N := 4) (ty := tyX8 1) (ws' := ([(h0, .inr (10, [.ref g0, .ref g1, .null, .ref q0]))] ++ [(q0, .inl (cy 1, 7, .inl (fun _ => 0)))])) hC uw_X8 tyX8 tyX8_ok nmX8 0 rfl rfl 1 (by decide) (cg_in2 75 (by decide +kernel) (by decide +kernel)) rfl hni rfl (by decide +kernel) rfl rfl (Nat.le_of_ble_eq_true rfl) rfl dX8_init_19 ?_
  refine cn_aload_n hC dX8_init_22 0 rfl rfl ?_
  refine cn_aload_n hC dX8_init_23 3 rfl rfl ?_
  refine cn_putF (ci := 10) (C := RX8) (T := TX8) (N := 4) (ty := tyX8 2) (ws' := ([(h0, .inr (10, [.ref g0, .ref g1, .ref g2, .ref q0]))] ++ [(q0, .inl (cy 1, 7, .inl (fun _ => 0)))])) hC uw_X8 tyX8 tyX8_ok nmX8 0 rfl rfl 2 (by decide) (cg_in2 76 (by decide +kernel) (by decide +kernel)) rfl hni rfl (by decide +kernel) rfl rfl (Nat.le_of_ble_eq_true rfl) rfl dX8_init_24 ?_
  refine cn_retv (w0 := []) (w := fun cy u => cn_w8 cy h0 g0 g1 g2 u) (kc := 1) (ks := 7) (mc := 1) (ms := 7) hC (cn_u [q0] (fun _ => 0)) ?_ ⟨Nat.le_of_ble_eq_true rfl, Nat.le_of_ble_eq_true rfl⟩ dX8_init_27
  rfl
def cn_w9 (cy : Nat → ClassId) (h0 g0 : Nat) (u : Nat → Nat) : va_W := (([(h0, .inr (11, [.ref g0, .ref (u 0), .ref (u 1)]))] ++ cn_w10 cy (u 0) (fun k => u (2 + k))) ++ [((u 1), .inl (cy 1, 7, .inl (fun _ => 0)))])
set_option maxHeartbeats 4000000 in
set_option maxRecDepth 100000 in
theorem c_X9 (h0 g0 : Nat) : cn_M yX9_init cX9_init 2 ({ frames := 3, cells := 4, slots := 23, locals := 160 }) 4 23 [.ref h0, .ref g0] [(h0, .inr (11, [.null, .null, .null]))] (fun cy u => cn_w9 cy h0 g0 u) := by
  refine cn_entry (lv := [(0, .ref h0), (1, .ref g0)]) (by decide) rfl (Nat.le_of_ble_eq_true rfl) rfl ?_
  intro p l e s m args below meth c D cy hC hni
  refine cn_aload_n hC dX9_init_0 0 rfl rfl ?_
  refine cn_objInit hC (cg_in2 109 (by decide +kernel) (by decide +kernel)) (cg_in1 35 (by decide +kernel) (by decide +kernel)) (cg_in1 36 (by decide +kernel) (by decide +kernel)) dX9_init_1 (Nat.le_of_ble_eq_true rfl) (Nat.le_of_ble_eq_true rfl) ?_
  refine cn_aload_n hC dX9_init_4 0 rfl rfl ?_
  refine cn_new (ci := 12) (fs := [.null, .null]) hC uw_X10 tyX10 tyX10_ok (cg_in2 110 (by decide +kernel) (by decide +kernel)) (cg_in2 1 (by decide +kernel) (by decide +kernel)) (cg_in1 8 (by decide +kernel) (by decide +kernel)) rfl (by decide) ⟨Nat.le_of_ble_eq_true rfl, Nat.le_of_ble_eq_true rfl⟩ dX9_init_5 (fun q0 => ?_)
  refine cn_dup hC dX9_init_8 rfl ?_
  refine cn_init true hC (c_X10 q0) rfl rfl rfl rfl (by decide) (by decide) (cg_in2 3 (by decide +kernel) (by decide +kernel)) (cg_in1 8 (by decide +kernel) (by decide +kernel)) (cg_in2 4 (by decide +kernel) (by decide +kernel)) rfl rfl ⟨Nat.le_of_ble_eq_true rfl, Nat.le_of_ble_eq_true rfl⟩ (Nat.le_of_ble_eq_true rfl) ⟨Nat.le_of_ble_eq_true rfl, Nat.le_of_ble_eq_true rfl⟩ (wr := [(h0, .inr (11, [.null, .null, .null]))]) rfl dX9_init_9 (fun u1 => ?_)
  refine cn_putF (ci := 11) (C := RX9) (T := TX9) (N := 3) (ty := tyX9 1) (ws' := ([(h0, .inr (11, [.null, .ref q0, .null]))] ++ cn_w10 cy q0 u1)) hC uw_X9 tyX9 tyX9_ok nmX9 0 rfl rfl 1 (by decide) (cg_in2 113 (by decide +kernel) (by decide +kernel)) rfl hni rfl (by decide +kernel) rfl rfl (Nat.le_of_ble_eq_true rfl) rfl dX9_init_12 ?_
  refine cn_aload_n hC dX9_init_15 0 rfl rfl ?_
  refine cn_bipush (v := 7) hC dX9_init_16 (by decide) ?_
  refine cn_newa (N := 7) (t0 := 1) (cA := cy 1) (ty := .int) (a0 := (7, .inl (fun _ => 0))) hC (cg_in1 138 (by decide +kernel) (by decide +kernel)) rfl rfl (fun _ z => nomatch z) (fun _ => rfl) (by decide) (by decide) (by decide) ⟨Nat.le_of_ble_eq_true rfl, Nat.le_of_ble_eq_true rfl⟩ dX9_init_18 (fun q2 => ?_)
  refine cn_putF (ci := 11) (C := RX9) (T := TX9) (N := 3) (ty := tyX9 2) (ws' := (([(h0, .inr (11, [.null, .ref q0, .ref q2]))] ++ cn_w10 cy q0 u1) ++ [(q2, .inl (cy 1, 7, .inl (fun _ => 0)))])) hC uw_X9 tyX9 tyX9_ok nmX9 0 rfl rfl 2 (by decide) (cg_in2 115 (by decide +kernel) (by decide +kernel)) rfl hni rfl (by decide +kernel) rfl rfl (Nat.le_of_ble_eq_true rfl) rfl dX9_init_20 ?_
  refine cn_aload_n hC dX9_init_23 0 rfl rfl ?_
  refine cn_aload_n hC dX9_init_24 1 rfl rfl ?_
  refine cn_putF (ci := 11) (C := RX9) (T := TX9) (N := 3) (ty := tyX9 0) (ws' := (([(h0, .inr (11, [.ref g0, .ref q0, .ref q2]))] ++ cn_w10 cy q0 u1) ++ [(q2, .inl (cy 1, 7, .inl (fun _ => 0)))])) hC uw_X9 tyX9 tyX9_ok nmX9 0 rfl rfl 0 (by decide) (cg_in2 112 (by decide +kernel) (by decide +kernel)) rfl hni rfl (by decide +kernel) rfl rfl (Nat.le_of_ble_eq_true rfl) rfl dX9_init_25 ?_
  refine cn_retv (w0 := []) (w := fun cy u => cn_w9 cy h0 g0 u) (kc := 4) (ks := 23) (mc := 4) (ms := 23) hC (cn_u [q0, q2, (u1 0), (u1 1)] (fun _ => 0)) ?_ ⟨Nat.le_of_ble_eq_true rfl, Nat.le_of_ble_eq_true rfl⟩ dX9_init_28
  rfl
