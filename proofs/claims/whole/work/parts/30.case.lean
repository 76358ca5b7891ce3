theorem lw_lc (x : Int64) : lg_cmp x x = 0 := by simp [lg_cmp]
theorem lw_ord (d : FP.Core.Datum) : d = .nan ∨ FP.Core.order d d = some .eq := by
  cases d with
  | nan => exact Or.inl rfl
  | inf s => right; simp [FP.Core.order, compare, compareOfLessAndEq]
  | fin s c q => right; simp [FP.Core.order, compare, compareOfLessAndEq]
theorem lw_nn {x : UInt64} (h : vf_n64 x) : FP.Core.decode FP.Core.b64 x.toNat ≠ .nan := by
  have h1 : x.toNat % 2 ^ 63 ≤ 9218868437227405312 := by
    have h2 : (x &&& 0x7fffffffffffffff).toNat ≤ (0x7ff0000000000000 : UInt64).toNat := UInt64.le_iff_toNat_le.mp h
    rw [UInt64.toNat_and, show (0x7fffffffffffffff : UInt64).toNat = 2 ^ 63 - 1 from rfl, Nat.and_two_pow_sub_one_eq_mod] at h2
    exact h2
  intro h3
  unfold FP.Core.decode at h3
  by_cases c1 : FP.Core.fieldE FP.Core.b64 x.toNat = FP.Core.b64.exps - 1
  · rw [if_pos c1] at h3
    by_cases c2 : FP.Core.fieldT FP.Core.b64 x.toNat = 0
    · rw [if_pos c2] at h3; cases h3
    · have e1 : FP.Core.fieldE FP.Core.b64 x.toNat = x.toNat / 2 ^ 52 % 2 ^ 11 := rfl
      have e2 : FP.Core.fieldT FP.Core.b64 x.toNat = x.toNat % 2 ^ 52 := rfl
      have e3 : FP.Core.b64.exps - 1 = 2047 := rfl
      rw [e1, e3] at c1
      rw [e2] at c2
      omega
  · rw [if_neg c1] at h3
    by_cases c2 : FP.Core.fieldE FP.Core.b64 x.toNat = 0
    · rw [if_pos c2] at h3; cases h3
    · rw [if_neg c2] at h3; cases h3
theorem lw_dc {x : UInt64} (h : vf_n64 x) : Op.cmpValue (FP.dcmp x x) .l = 0 := by
  have h1 : FP.dcmp x x = some .eq := (lw_ord _).resolve_left (lw_nn h)
  rw [h1]; rfl
section GL3
variable {cc : ByteArray} {nL : Nat} {ret : Option FieldType} {p : Program} {l : Launch} {e : Env} {R : Room} {s : State} {m : MethodId} {args : Array Value} {below : List Frame} {meth : Method} {c : Code} {D : va_G} {cy : Nat → ClassId} {ad : Nat → Nat} {kc ks pc : Nat} {lv : List (Nat × Value)} {st : List Value} {Z : State → Prop} {own : String} {σ : cg_S} {wd : cg_Wd}
theorem gl_bool {x : Int32} (hC : cg_X wd own cc nL ret p s m args meth c D cy ad) (d1 : decode cc pc = .ok (.ifCond .eq 7, 3)) (d2 : decode cc (pc + 3) = .ok (.iconst 1, 1)) (d3 : decode cc (pc + 4) = .ok (.goto 4, 3)) (d4 : decode cc (pc + 7) = .ok (.iconst 0, 1)) (kk : cg_G wd R p l e s m args below meth c D cy ad Z kc ks nL (pc + 8) lv (.int (if x = 0 then (0 : Int32) else 1) :: st) σ) : cg_G wd R p l e s m args below meth c D cy ad Z kc ks nL pc lv (.int x :: st) σ := by
  refine ga_if_eq (tgt := pc + 7) hC d1 (by omega) (fun hc => ?_) (fun hc => ?_)
  · rw [if_pos hc] at kk
    exact ga_iconst hC d4 rfl kk
  · rw [if_neg hc] at kk
    exact ga_iconst hC d2 rfl (ga_goto (tgt := pc + 8) hC d3 (by omega) kk)
theorem gl_boolL {x : Int32} (hC : cg_X wd own cc nL ret p s m args meth c D cy ad) (d1 : decode cc pc = .ok (.ifCond .eq 7, 3)) (d2 : decode cc (pc + 3) = .ok (.lconst 1, 1)) (d3 : decode cc (pc + 4) = .ok (.goto 4, 3)) (d4 : decode cc (pc + 7) = .ok (.lconst 0, 1)) (kk : cg_G wd R p l e s m args below meth c D cy ad Z kc ks nL (pc + 8) lv (.long (if x = 0 then (0 : Int64) else 1) :: st) σ) : cg_G wd R p l e s m args below meth c D cy ad Z kc ks nL pc lv (.int x :: st) σ := by
  refine ga_if_eq (tgt := pc + 7) hC d1 (by omega) (fun hc => ?_) (fun hc => ?_)
  · rw [if_pos hc] at kk
    exact ga_lconst hC d4 rfl kk
  · rw [if_neg hc] at kk
    exact ga_lconst hC d2 rfl (ga_goto (tgt := pc + 8) hC d3 (by omega) kk)
end GL3
/-- what is to be shown of a call of addState -/
def OP_addState (Nx : cg_S → cg_S → Prop) (v1 v2 : Int32) (a b : cg_S) : Prop := M_X11_addState v1 v2 a (fun r a1 => M_X12_addState v1 v2 b (fun r2 b1 => M_X12_thrown b1 (fun t b2 => t = 0 ∧ r = r2 ∧ Nx a1 b2))) (fun E a1 => (E = "java/lang/IllegalArgumentException" ∧ M_X12_addState v1 v2 b (fun r2 b1 => M_X12_thrown b1 (fun t b2 => t = 1 ∧ Nx a1 b2))) ∨ (E = "java/lang/IllegalStateException" ∧ M_X12_addState v1 v2 b (fun r2 b1 => M_X12_thrown b1 (fun t b2 => t = 2 ∧ Nx a1 b2))))
set_option maxRecDepth 100000 in
set_option maxHeartbeats 4000000 in
theorem z_addState {p : Program} {l : Launch} {e : Env} {s : State} {m : MethodId} {args : Array Value} {below : List Frame} {meth : Method} {c : Code} {D : va_G} {cy : Nat → ClassId} {ad : Nat → Nat} {kc ks : Nat} {ret : Option FieldType} {a b : cg_S} {o : Nat → Int64} {od : Nat → UInt64} {Z : State → Prop} {sb L n : Nat} {xs : Nat → Int32} {Nx : cg_S → cg_S → Prop} (hC : cg_X cg_WL RL cL_law 9 ret p s m args meth c D cy ad) (hK : cl_K l s ad) (hX : va_X sb L xs s s.heap) (hbl : sb < s.heap.size) (hbA : ¬ cg_F ad 123 s.heap.size sb) (hL : 5 * n + 5 ≤ L) (hL2 : L ≤ 2560) (hr : kc + 4 ≤ room_1.cells ∧ ks + 24 ≤ room_1.slots)
    (kk : ∀ (a1 b1 : cg_S) (o1 : Nat → Int64) (od1 : Nat → UInt64), Nx a1 b1 → cg_G cg_WL room_1 p l e s m args below meth c D cy ad Z (kc + 4) (ks + 24) 9 2593 [(5, .int (Int32.ofNat (5 * n))), (4, .ref (ad 122)), (3, .ref (ad 121)), (2, .ref (ad 88)), (1, .ref (ad 0)), (0, .ref sb)] [] (jn a1 b1 o1 od1))
    (h : OP_addState Nx (((xs (5 * n + 1)).toUInt32 % 65536).toInt32) (xs (5 * n + 2)) a b) : cg_G cg_WL room_1 p l e s m args below meth c D cy ad Z kc ks 9 208 [(5, .int (Int32.ofNat (5 * n))), (4, .ref (ad 122)), (3, .ref (ad 121)), (2, .ref (ad 88)), (1, .ref (ad 0)), (0, .ref sb)] [] (jn a b o od) := by
  have hw : M_L_addState (((xs (5 * n + 1)).toUInt32 % 65536).toInt32) (xs (5 * n + 2)) a b o od (fun k a1 o1 od1 => M_X12_addState (((xs (5 * n + 1)).toUInt32 % 65536).toInt32) (xs (5 * n + 2)) b (fun r2 b1 => M_X12_thrown b1 (fun t b2 => t = k ∧ (k = 0 → o1 0 = r2.toInt64) ∧ Nx a1 b2))) := by
    refine w_addState (M_X11_addState.mono h (fun r a1 q => M_X12_addState.mono q (fun r2 b1 q2 => M_X12_thrown.mono q2 (fun t b2 q3 => ⟨q3.1, fun _ => by rw [← q3.2.1]; rfl, q3.2.2⟩))) (fun E a1 q => ?_))
    rcases q with ⟨e9, q⟩ | ⟨e9, q⟩
    · exact Or.inl ⟨e9, M_X12_addState.mono q (fun r2 b1 q2 => M_X12_thrown.mono q2 (fun t b2 q3 => ⟨q3.1, fun z => absurd z (by decide), q3.2⟩))⟩
    · exact Or.inr (⟨e9, M_X12_addState.mono q (fun r2 b1 q2 => M_X12_thrown.mono q2 (fun t b2 q3 => ⟨q3.1, fun z => absurd z (by decide), q3.2⟩))⟩)
  refine ga_aload_n hC dL_law_208 4 rfl rfl ?_
  refine gl_arg (j := 1) 5 0 hC hX hbl hbA hL hL2 rfl rfl (by decide) rfl dL_law_209 dL_law_210 dL_law_212 dL_law_213 dL_law_214 ?_
  refine ga_i2c hC dL_law_215 ?_
  refine gl_arg (j := 2) 5 0 hC hX hbl hbA hL hL2 rfl rfl (by decide) rfl dL_law_216 dL_law_217 dL_law_219 dL_law_220 dL_law_221 ?_
  refine ga_aload_n hC dL_law_222 2 rfl rfl ?_
  refine gl_callS (As := [.ref (ad 0), .int (((xs (5 * n + 1)).toUInt32 % 65536).toInt32), .int (xs (5 * n + 2)), .ref (ad 121)]) (st := []) (n := 4) hC hK hw (cg_in3 114 (by decide +kernel) (by decide +kernel)) (cg_in3 115 (by decide +kernel) (by decide +kernel)) (cg_in1 0 (by decide +kernel) (by decide +kernel)) (cg_in3 116 (by decide +kernel) (by decide +kernel)) rfl rfl rfl (by decide +kernel) ⟨Nat.le_trans (Nat.add_le_add_left (by decide) _) hr.1, Nat.le_trans (Nat.add_le_add_left (by decide) _) hr.2⟩ ⟨Nat.le_of_ble_eq_true rfl, Nat.le_of_ble_eq_true rfl⟩ rfl rfl (Nat.le_of_ble_eq_true rfl) dL_law_223 (fun v τ hq => ?_)
  obtain ⟨k, a1, o1, od1, rfl, rfl, h⟩ := hq
  refine ga_istore (lv' := [(6, .int k), (5, .int (Int32.ofNat (5 * n))), (4, .ref (ad 122)), (3, .ref (ad 121)), (2, .ref (ad 88)), (1, .ref (ad 0)), (0, .ref sb)]) hC dL_law_226 (by decide) rfl ?_
  refine ga_aload_n hC dL_law_228 4 rfl rfl ?_
  refine gl_arg (j := 1) 6 1 hC hX hbl hbA hL hL2 rfl rfl (by decide) rfl dL_law_229 dL_law_230 dL_law_232 dL_law_233 dL_law_234 ?_
  refine ga_i2c hC dL_law_235 ?_
  refine gl_arg (j := 2) 6 1 hC hX hbl hbA hL hL2 rfl rfl (by decide) rfl dL_law_236 dL_law_237 dL_law_239 dL_law_240 dL_law_241 ?_
  refine gl_callM (As := [.int (((xs (5 * n + 1)).toUInt32 % 65536).toInt32), .int (xs (5 * n + 2))]) (st := []) (n := 2) hC h (cg_in6 222 (by decide +kernel) (by decide +kernel)) (cg_in6 223 (by decide +kernel) (by decide +kernel)) (cg_in6 224 (by decide +kernel) (by decide +kernel)) (cg_in1 13 (by decide +kernel) (by decide +kernel)) (cg_in6 225 (by decide +kernel) (by decide +kernel)) rfl rfl rfl (by decide +kernel) ⟨Nat.le_trans (Nat.add_le_add_left (by decide) _) hr.1, Nat.le_trans (Nat.add_le_add_left (by decide) _) hr.2⟩ ⟨Nat.le_of_ble_eq_true rfl, Nat.le_of_ble_eq_true rfl⟩ rfl rfl (Nat.le_of_ble_eq_true rfl) dL_law_242 (fun v τ hq => ?_)
  obtain ⟨r2, rfl, h⟩ := hq
  refine ga_istore (lv' := [(7, .int r2), (6, .int k), (5, .int (Int32.ofNat (5 * n))), (4, .ref (ad 122)), (3, .ref (ad 121)), (2, .ref (ad 88)), (1, .ref (ad 0)), (0, .ref sb)]) hC dL_law_245 (by decide) rfl ?_
  refine ga_aload_n hC dL_law_247 5 rfl rfl ?_
  refine gl_callM (As := []) (st := []) (n := 0) hC h (cg_in6 218 (by decide +kernel) (by decide +kernel)) (cg_in6 219 (by decide +kernel) (by decide +kernel)) (cg_in6 220 (by decide +kernel) (by decide +kernel)) (cg_in1 13 (by decide +kernel) (by decide +kernel)) (cg_in6 221 (by decide +kernel) (by decide +kernel)) rfl rfl rfl (by decide +kernel) ⟨Nat.le_trans (Nat.add_le_add_left (by decide) _) hr.1, Nat.le_trans (Nat.add_le_add_left (by decide) _) hr.2⟩ ⟨Nat.le_of_ble_eq_true rfl, Nat.le_of_ble_eq_true rfl⟩ rfl rfl (Nat.le_of_ble_eq_true rfl) dL_law_248 (fun v τ hq => ?_)
  obtain ⟨t, rfl, h1, h2, h3⟩ := hq
  refine ga_iload hC dL_law_251 1 rfl ?_
  refine ga_icmp_eq (tgt := 258) hC dL_law_253 (by decide) (fun _ => ?_) (fun hc => absurd h1 hc)
  refine ga_iload hC dL_law_258 1 rfl ?_
  refine ga_if_ne (tgt := 275) hC dL_law_260 (by decide) (fun hc => ?_) (fun hc => ?_)
  · skip
    refine ga_goto (tgt := 2593) hC dL_law_275 (by decide) ?_
    refine ga_locals [2, 3, 4, 5, 6, 7] rfl ?_
    exact ga_widen (Nat.add_le_add_left (by decide) _) (Nat.add_le_add_left (by decide) _) (kk _ _ _ _ h3)
  · have h2 := h2 hc
    refine ga_aload_n hC dL_law_263 4 rfl rfl ?_
    refine ga_iconst (v := 0) hC dL_law_264 (by decide) ?_
    refine ga_lald (k := 121) (n := 1) hC (fun _ => rfl) (by decide) lw_in0 dL_law_265 ?_
    refine ga_iload hC dL_law_266 0 rfl ?_
    refine ga_i2l hC dL_law_268 ?_
    refine ga_lcmp hC dL_law_269 ?_
    refine ga_if_eq (tgt := 275) hC dL_law_270 (by decide) (fun _ => ?_) (fun hc2 => absurd (show lg_cmp (o1 0) _ = 0 by rw [h2]; exact lw_lc _) hc2)
    refine ga_goto (tgt := 2593) hC dL_law_275 (by decide) ?_
    refine ga_locals [2, 3, 4, 5, 6, 7] rfl ?_
    exact ga_widen (Nat.add_le_add_left (by decide) _) (Nat.add_le_add_left (by decide) _) (kk _ _ _ _ h3)
/-- what is to be shown of a call of addChoice -/
def OP_addChoice (Nx : cg_S → cg_S → Prop) (v1 v2 v3 : Int32) (a b : cg_S) : Prop := M_X11_addChoice v1 v2 v3 a (fun r a1 => M_X12_addChoice v1 v2 v3 b (fun r2 b1 => M_X12_thrown b1 (fun t b2 => t = 0 ∧ r = r2 ∧ Nx a1 b2))) (fun E a1 => (E = "java/lang/IndexOutOfBoundsException" ∧ M_X12_addChoice v1 v2 v3 b (fun r2 b1 => M_X12_thrown b1 (fun t b2 => t = 1 ∧ Nx a1 b2))) ∨ (E = "java/lang/IllegalArgumentException" ∧ M_X12_addChoice v1 v2 v3 b (fun r2 b1 => M_X12_thrown b1 (fun t b2 => t = 2 ∧ Nx a1 b2))) ∨ (E = "java/lang/IllegalStateException" ∧ M_X12_addChoice v1 v2 v3 b (fun r2 b1 => M_X12_thrown b1 (fun t b2 => t = 3 ∧ Nx a1 b2))))
set_option maxRecDepth 100000 in
set_option maxHeartbeats 4000000 in
theorem z_addChoice {p : Program} {l : Launch} {e : Env} {s : State} {m : MethodId} {args : Array Value} {below : List Frame} {meth : Method} {c : Code} {D : va_G} {cy : Nat → ClassId} {ad : Nat → Nat} {kc ks : Nat} {ret : Option FieldType} {a b : cg_S} {o : Nat → Int64} {od : Nat → UInt64} {Z : State → Prop} {sb L n : Nat} {xs : Nat → Int32} {Nx : cg_S → cg_S → Prop} (hC : cg_X cg_WL RL cL_law 9 ret p s m args meth c D cy ad) (hK : cl_K l s ad) (hX : va_X sb L xs s s.heap) (hbl : sb < s.heap.size) (hbA : ¬ cg_F ad 123 s.heap.size sb) (hL : 5 * n + 5 ≤ L) (hL2 : L ≤ 2560) (hr : kc + 4 ≤ room_1.cells ∧ ks + 24 ≤ room_1.slots)
    (kk : ∀ (a1 b1 : cg_S) (o1 : Nat → Int64) (od1 : Nat → UInt64), Nx a1 b1 → cg_G cg_WL room_1 p l e s m args below meth c D cy ad Z (kc + 4) (ks + 24) 9 2593 [(5, .int (Int32.ofNat (5 * n))), (4, .ref (ad 122)), (3, .ref (ad 121)), (2, .ref (ad 88)), (1, .ref (ad 0)), (0, .ref sb)] [] (jn a1 b1 o1 od1))
    (h : OP_addChoice Nx (xs (5 * n + 1)) (xs (5 * n + 2)) (xs (5 * n + 3)) a b) : cg_G cg_WL room_1 p l e s m args below meth c D cy ad Z kc ks 9 278 [(5, .int (Int32.ofNat (5 * n))), (4, .ref (ad 122)), (3, .ref (ad 121)), (2, .ref (ad 88)), (1, .ref (ad 0)), (0, .ref sb)] [] (jn a b o od) := by
  have hw : M_L_addChoice (xs (5 * n + 1)) (xs (5 * n + 2)) (xs (5 * n + 3)) a b o od (fun k a1 o1 od1 => M_X12_addChoice (xs (5 * n + 1)) (xs (5 * n + 2)) (xs (5 * n + 3)) b (fun r2 b1 => M_X12_thrown b1 (fun t b2 => t = k ∧ (k = 0 → o1 0 = r2.toInt64) ∧ Nx a1 b2))) := by
    refine w_addChoice (M_X11_addChoice.mono h (fun r a1 q => M_X12_addChoice.mono q (fun r2 b1 q2 => M_X12_thrown.mono q2 (fun t b2 q3 => ⟨q3.1, fun _ => by rw [← q3.2.1]; rfl, q3.2.2⟩))) (fun E a1 q => ?_))
    rcases q with ⟨e9, q⟩ | ⟨e9, q⟩ | ⟨e9, q⟩
    · exact Or.inl ⟨e9, M_X12_addChoice.mono q (fun r2 b1 q2 => M_X12_thrown.mono q2 (fun t b2 q3 => ⟨q3.1, fun z => absurd z (by decide), q3.2⟩))⟩
    · exact Or.inr (Or.inl ⟨e9, M_X12_addChoice.mono q (fun r2 b1 q2 => M_X12_thrown.mono q2 (fun t b2 q3 => ⟨q3.1, fun z => absurd z (by decide), q3.2⟩))⟩)
    · exact Or.inr (Or.inr (⟨e9, M_X12_addChoice.mono q (fun r2 b1 q2 => M_X12_thrown.mono q2 (fun t b2 q3 => ⟨q3.1, fun z => absurd z (by decide), q3.2⟩))⟩))
  refine ga_aload_n hC dL_law_278 4 rfl rfl ?_
  refine gl_arg (j := 1) 5 0 hC hX hbl hbA hL hL2 rfl rfl (by decide) rfl dL_law_279 dL_law_280 dL_law_282 dL_law_283 dL_law_284 ?_
  refine gl_arg (j := 2) 5 0 hC hX hbl hbA hL hL2 rfl rfl (by decide) rfl dL_law_285 dL_law_286 dL_law_288 dL_law_289 dL_law_290 ?_
  refine gl_arg (j := 3) 5 0 hC hX hbl hbA hL hL2 rfl rfl (by decide) rfl dL_law_291 dL_law_292 dL_law_294 dL_law_295 dL_law_296 ?_
  refine ga_aload_n hC dL_law_297 2 rfl rfl ?_
  refine gl_callS (As := [.ref (ad 0), .int (xs (5 * n + 1)), .int (xs (5 * n + 2)), .int (xs (5 * n + 3)), .ref (ad 121)]) (st := []) (n := 5) hC hK hw (cg_in3 218 (by decide +kernel) (by decide +kernel)) (cg_in3 219 (by decide +kernel) (by decide +kernel)) (cg_in1 0 (by decide +kernel) (by decide +kernel)) (cg_in3 220 (by decide +kernel) (by decide +kernel)) rfl rfl rfl (by decide +kernel) ⟨Nat.le_trans (Nat.add_le_add_left (by decide) _) hr.1, Nat.le_trans (Nat.add_le_add_left (by decide) _) hr.2⟩ ⟨Nat.le_of_ble_eq_true rfl, Nat.le_of_ble_eq_true rfl⟩ rfl rfl (Nat.le_of_ble_eq_true rfl) dL_law_298 (fun v τ hq => ?_)
  obtain ⟨k, a1, o1, od1, rfl, rfl, h⟩ := hq
  refine ga_istore (lv' := [(6, .int k), (5, .int (Int32.ofNat (5 * n))), (4, .ref (ad 122)), (3, .ref (ad 121)), (2, .ref (ad 88)), (1, .ref (ad 0)), (0, .ref sb)]) hC dL_law_301 (by decide) rfl ?_
  refine ga_aload_n hC dL_law_303 4 rfl rfl ?_
  refine gl_arg (j := 1) 6 1 hC hX hbl hbA hL hL2 rfl rfl (by decide) rfl dL_law_304 dL_law_305 dL_law_307 dL_law_308 dL_law_309 ?_
  refine gl_arg (j := 2) 6 1 hC hX hbl hbA hL hL2 rfl rfl (by decide) rfl dL_law_310 dL_law_311 dL_law_313 dL_law_314 dL_law_315 ?_
  refine gl_arg (j := 3) 6 1 hC hX hbl hbA hL hL2 rfl rfl (by decide) rfl dL_law_316 dL_law_317 dL_law_319 dL_law_320 dL_law_321 ?_
  refine gl_callM (As := [.int (xs (5 * n + 1)), .int (xs (5 * n + 2)), .int (xs (5 * n + 3))]) (st := []) (n := 3) hC h (cg_in6 237 (by decide +kernel) (by decide +kernel)) (cg_in6 238 (by decide +kernel) (by decide +kernel)) (cg_in6 239 (by decide +kernel) (by decide +kernel)) (cg_in1 13 (by decide +kernel) (by decide +kernel)) (cg_in7 0 (by decide +kernel) (by decide +kernel)) rfl rfl rfl (by decide +kernel) ⟨Nat.le_trans (Nat.add_le_add_left (by decide) _) hr.1, Nat.le_trans (Nat.add_le_add_left (by decide) _) hr.2⟩ ⟨Nat.le_of_ble_eq_true rfl, Nat.le_of_ble_eq_true rfl⟩ rfl rfl (Nat.le_of_ble_eq_true rfl) dL_law_322 (fun v τ hq => ?_)
  obtain ⟨r2, rfl, h⟩ := hq
  refine ga_istore (lv' := [(7, .int r2), (6, .int k), (5, .int (Int32.ofNat (5 * n))), (4, .ref (ad 122)), (3, .ref (ad 121)), (2, .ref (ad 88)), (1, .ref (ad 0)), (0, .ref sb)]) hC dL_law_325 (by decide) rfl ?_
  refine ga_aload_n hC dL_law_327 5 rfl rfl ?_
  refine gl_callM (As := []) (st := []) (n := 0) hC h (cg_in6 218 (by decide +kernel) (by decide +kernel)) (cg_in6 219 (by decide +kernel) (by decide +kernel)) (cg_in6 220 (by decide +kernel) (by decide +kernel)) (cg_in1 13 (by decide +kernel) (by decide +kernel)) (cg_in6 221 (by decide +kernel) (by decide +kernel)) rfl rfl rfl (by decide +kernel) ⟨Nat.le_trans (Nat.add_le_add_left (by decide) _) hr.1, Nat.le_trans (Nat.add_le_add_left (by decide) _) hr.2⟩ ⟨Nat.le_of_ble_eq_true rfl, Nat.le_of_ble_eq_true rfl⟩ rfl rfl (Nat.le_of_ble_eq_true rfl) dL_law_328 (fun v τ hq => ?_)
  obtain ⟨t, rfl, h1, h2, h3⟩ := hq
  refine ga_iload hC dL_law_331 1 rfl ?_
  refine ga_icmp_eq (tgt := 338) hC dL_law_333 (by decide) (fun _ => ?_) (fun hc => absurd h1 hc)
  refine ga_iload hC dL_law_338 1 rfl ?_
  refine ga_if_ne (tgt := 355) hC dL_law_340 (by decide) (fun hc => ?_) (fun hc => ?_)
  · skip
    refine ga_goto (tgt := 2593) hC dL_law_355 (by decide) ?_
    refine ga_locals [2, 3, 4, 5, 6, 7] rfl ?_
    exact ga_widen (Nat.add_le_add_left (by decide) _) (Nat.add_le_add_left (by decide) _) (kk _ _ _ _ h3)
  · have h2 := h2 hc
    refine ga_aload_n hC dL_law_343 4 rfl rfl ?_
    refine ga_iconst (v := 0) hC dL_law_344 (by decide) ?_
    refine ga_lald (k := 121) (n := 1) hC (fun _ => rfl) (by decide) lw_in0 dL_law_345 ?_
    refine ga_iload hC dL_law_346 0 rfl ?_
    refine ga_i2l hC dL_law_348 ?_
    refine ga_lcmp hC dL_law_349 ?_
    refine ga_if_eq (tgt := 355) hC dL_law_350 (by decide) (fun _ => ?_) (fun hc2 => absurd (show lg_cmp (o1 0) _ = 0 by rw [h2]; exact lw_lc _) hc2)
    refine ga_goto (tgt := 2593) hC dL_law_355 (by decide) ?_
    refine ga_locals [2, 3, 4, 5, 6, 7] rfl ?_
    exact ga_widen (Nat.add_le_add_left (by decide) _) (Nat.add_le_add_left (by decide) _) (kk _ _ _ _ h3)
/-- what is to be shown of a call of addWeight -/
def OP_addWeight (Nx : cg_S → cg_S → Prop) (v1 v2 v3 v4 : Int32) (a b : cg_S) : Prop := M_X11_addWeight v1 v2 v3 v4 a (fun r a1 => M_X12_addWeight v1 v2 v3 v4 b (fun r2 b1 => M_X12_thrown b1 (fun t b2 => t = 0 ∧ r = r2 ∧ Nx a1 b2))) (fun E a1 => (E = "java/lang/IndexOutOfBoundsException" ∧ M_X12_addWeight v1 v2 v3 v4 b (fun r2 b1 => M_X12_thrown b1 (fun t b2 => t = 1 ∧ Nx a1 b2))) ∨ (E = "java/lang/IllegalArgumentException" ∧ M_X12_addWeight v1 v2 v3 v4 b (fun r2 b1 => M_X12_thrown b1 (fun t b2 => t = 2 ∧ Nx a1 b2))) ∨ (E = "java/lang/IllegalStateException" ∧ M_X12_addWeight v1 v2 v3 v4 b (fun r2 b1 => M_X12_thrown b1 (fun t b2 => t = 3 ∧ Nx a1 b2))))
set_option maxRecDepth 100000 in
set_option maxHeartbeats 4000000 in
theorem z_addWeight {p : Program} {l : Launch} {e : Env} {s : State} {m : MethodId} {args : Array Value} {below : List Frame} {meth : Method} {c : Code} {D : va_G} {cy : Nat → ClassId} {ad : Nat → Nat} {kc ks : Nat} {ret : Option FieldType} {a b : cg_S} {o : Nat → Int64} {od : Nat → UInt64} {Z : State → Prop} {sb L n : Nat} {xs : Nat → Int32} {Nx : cg_S → cg_S → Prop} (hC : cg_X cg_WL RL cL_law 9 ret p s m args meth c D cy ad) (hK : cl_K l s ad) (hX : va_X sb L xs s s.heap) (hbl : sb < s.heap.size) (hbA : ¬ cg_F ad 123 s.heap.size sb) (hL : 5 * n + 5 ≤ L) (hL2 : L ≤ 2560) (hr : kc + 4 ≤ room_1.cells ∧ ks + 24 ≤ room_1.slots)
    (kk : ∀ (a1 b1 : cg_S) (o1 : Nat → Int64) (od1 : Nat → UInt64), Nx a1 b1 → cg_G cg_WL room_1 p l e s m args below meth c D cy ad Z (kc + 4) (ks + 24) 9 2593 [(5, .int (Int32.ofNat (5 * n))), (4, .ref (ad 122)), (3, .ref (ad 121)), (2, .ref (ad 88)), (1, .ref (ad 0)), (0, .ref sb)] [] (jn a1 b1 o1 od1))
    (h : OP_addWeight Nx (xs (5 * n + 1)) (xs (5 * n + 2)) (xs (5 * n + 3)) (xs (5 * n + 4)) a b) : cg_G cg_WL room_1 p l e s m args below meth c D cy ad Z kc ks 9 358 [(5, .int (Int32.ofNat (5 * n))), (4, .ref (ad 122)), (3, .ref (ad 121)), (2, .ref (ad 88)), (1, .ref (ad 0)), (0, .ref sb)] [] (jn a b o od) := by
  have hw : M_L_addWeight (xs (5 * n + 1)) (xs (5 * n + 2)) (xs (5 * n + 3)) (xs (5 * n + 4)) a b o od (fun k a1 o1 od1 => M_X12_addWeight (xs (5 * n + 1)) (xs (5 * n + 2)) (xs (5 * n + 3)) (xs (5 * n + 4)) b (fun r2 b1 => M_X12_thrown b1 (fun t b2 => t = k ∧ (k = 0 → o1 0 = r2.toInt64) ∧ Nx a1 b2))) := by
    refine w_addWeight (M_X11_addWeight.mono h (fun r a1 q => M_X12_addWeight.mono q (fun r2 b1 q2 => M_X12_thrown.mono q2 (fun t b2 q3 => ⟨q3.1, fun _ => by rw [← q3.2.1]; rfl, q3.2.2⟩))) (fun E a1 q => ?_))
    rcases q with ⟨e9, q⟩ | ⟨e9, q⟩ | ⟨e9, q⟩
    · exact Or.inl ⟨e9, M_X12_addWeight.mono q (fun r2 b1 q2 => M_X12_thrown.mono q2 (fun t b2 q3 => ⟨q3.1, fun z => absurd z (by decide), q3.2⟩))⟩
    · exact Or.inr (Or.inl ⟨e9, M_X12_addWeight.mono q (fun r2 b1 q2 => M_X12_thrown.mono q2 (fun t b2 q3 => ⟨q3.1, fun z => absurd z (by decide), q3.2⟩))⟩)
    · exact Or.inr (Or.inr (⟨e9, M_X12_addWeight.mono q (fun r2 b1 q2 => M_X12_thrown.mono q2 (fun t b2 q3 => ⟨q3.1, fun z => absurd z (by decide), q3.2⟩))⟩))
  refine ga_aload_n hC dL_law_358 4 rfl rfl ?_
  refine gl_arg (j := 1) 5 0 hC hX hbl hbA hL hL2 rfl rfl (by decide) rfl dL_law_359 dL_law_360 dL_law_362 dL_law_363 dL_law_364 ?_
  refine gl_arg (j := 2) 5 0 hC hX hbl hbA hL hL2 rfl rfl (by decide) rfl dL_law_365 dL_law_366 dL_law_368 dL_law_369 dL_law_370 ?_
  refine gl_arg (j := 3) 5 0 hC hX hbl hbA hL hL2 rfl rfl (by decide) rfl dL_law_371 dL_law_372 dL_law_374 dL_law_375 dL_law_376 ?_
  refine gl_arg (j := 4) 5 0 hC hX hbl hbA hL hL2 rfl rfl (by decide) rfl dL_law_377 dL_law_378 dL_law_380 dL_law_381 dL_law_382 ?_
  refine ga_aload_n hC dL_law_383 2 rfl rfl ?_
  refine gl_callS (As := [.ref (ad 0), .int (xs (5 * n + 1)), .int (xs (5 * n + 2)), .int (xs (5 * n + 3)), .int (xs (5 * n + 4)), .ref (ad 121)]) (st := []) (n := 6) hC hK hw (cg_in4 36 (by decide +kernel) (by decide +kernel)) (cg_in4 37 (by decide +kernel) (by decide +kernel)) (cg_in1 0 (by decide +kernel) (by decide +kernel)) (cg_in4 38 (by decide +kernel) (by decide +kernel)) rfl rfl rfl (by decide +kernel) ⟨Nat.le_trans (Nat.add_le_add_left (by decide) _) hr.1, Nat.le_trans (Nat.add_le_add_left (by decide) _) hr.2⟩ ⟨Nat.le_of_ble_eq_true rfl, Nat.le_of_ble_eq_true rfl⟩ rfl rfl (Nat.le_of_ble_eq_true rfl) dL_law_384 (fun v τ hq => ?_)
  obtain ⟨k, a1, o1, od1, rfl, rfl, h⟩ := hq
  refine ga_istore (lv' := [(6, .int k), (5, .int (Int32.ofNat (5 * n))), (4, .ref (ad 122)), (3, .ref (ad 121)), (2, .ref (ad 88)), (1, .ref (ad 0)), (0, .ref sb)]) hC dL_law_387 (by decide) rfl ?_
  refine ga_aload_n hC dL_law_389 4 rfl rfl ?_
  refine gl_arg (j := 1) 6 1 hC hX hbl hbA hL hL2 rfl rfl (by decide) rfl dL_law_390 dL_law_391 dL_law_393 dL_law_394 dL_law_395 ?_
  refine gl_arg (j := 2) 6 1 hC hX hbl hbA hL hL2 rfl rfl (by decide) rfl dL_law_396 dL_law_397 dL_law_399 dL_law_400 dL_law_401 ?_
  refine gl_arg (j := 3) 6 1 hC hX hbl hbA hL hL2 rfl rfl (by decide) rfl dL_law_402 dL_law_403 dL_law_405 dL_law_406 dL_law_407 ?_
  refine gl_arg (j := 4) 6 1 hC hX hbl hbA hL hL2 rfl rfl (by decide) rfl dL_law_408 dL_law_409 dL_law_411 dL_law_412 dL_law_413 ?_
  refine gl_callM (As := [.int (xs (5 * n + 1)), .int (xs (5 * n + 2)), .int (xs (5 * n + 3)), .int (xs (5 * n + 4))]) (st := []) (n := 4) hC h (cg_in7 5 (by decide +kernel) (by decide +kernel)) (cg_in7 6 (by decide +kernel) (by decide +kernel)) (cg_in7 7 (by decide +kernel) (by decide +kernel)) (cg_in1 13 (by decide +kernel) (by decide +kernel)) (cg_in7 8 (by decide +kernel) (by decide +kernel)) rfl rfl rfl (by decide +kernel) ⟨Nat.le_trans (Nat.add_le_add_left (by decide) _) hr.1, Nat.le_trans (Nat.add_le_add_left (by decide) _) hr.2⟩ ⟨Nat.le_of_ble_eq_true rfl, Nat.le_of_ble_eq_true rfl⟩ rfl rfl (Nat.le_of_ble_eq_true rfl) dL_law_414 (fun v τ hq => ?_)
  obtain ⟨r2, rfl, h⟩ := hq
  refine ga_istore (lv' := [(7, .int r2), (6, .int k), (5, .int (Int32.ofNat (5 * n))), (4, .ref (ad 122)), (3, .ref (ad 121)), (2, .ref (ad 88)), (1, .ref (ad 0)), (0, .ref sb)]) hC dL_law_417 (by decide) rfl ?_
  refine ga_aload_n hC dL_law_419 5 rfl rfl ?_
  refine gl_callM (As := []) (st := []) (n := 0) hC h (cg_in6 218 (by decide +kernel) (by decide +kernel)) (cg_in6 219 (by decide +kernel) (by decide +kernel)) (cg_in6 220 (by decide +kernel) (by decide +kernel)) (cg_in1 13 (by decide +kernel) (by decide +kernel)) (cg_in6 221 (by decide +kernel) (by decide +kernel)) rfl rfl rfl (by decide +kernel) ⟨Nat.le_trans (Nat.add_le_add_left (by decide) _) hr.1, Nat.le_trans (Nat.add_le_add_left (by decide) _) hr.2⟩ ⟨Nat.le_of_ble_eq_true rfl, Nat.le_of_ble_eq_true rfl⟩ rfl rfl (Nat.le_of_ble_eq_true rfl) dL_law_420 (fun v τ hq => ?_)
  obtain ⟨t, rfl, h1, h2, h3⟩ := hq
  refine ga_iload hC dL_law_423 1 rfl ?_
  refine ga_icmp_eq (tgt := 430) hC dL_law_425 (by decide) (fun _ => ?_) (fun hc => absurd h1 hc)
  refine ga_iload hC dL_law_430 1 rfl ?_
  refine ga_if_ne (tgt := 447) hC dL_law_432 (by decide) (fun hc => ?_) (fun hc => ?_)
  · skip
    refine ga_goto (tgt := 2593) hC dL_law_447 (by decide) ?_
    refine ga_locals [2, 3, 4, 5, 6, 7] rfl ?_
    exact ga_widen (Nat.add_le_add_left (by decide) _) (Nat.add_le_add_left (by decide) _) (kk _ _ _ _ h3)
  · have h2 := h2 hc
    refine ga_aload_n hC dL_law_435 4 rfl rfl ?_
    refine ga_iconst (v := 0) hC dL_law_436 (by decide) ?_
    refine ga_lald (k := 121) (n := 1) hC (fun _ => rfl) (by decide) lw_in0 dL_law_437 ?_
    refine ga_iload hC dL_law_438 0 rfl ?_
    refine ga_i2l hC dL_law_440 ?_
    refine ga_lcmp hC dL_law_441 ?_
    refine ga_if_eq (tgt := 447) hC dL_law_442 (by decide) (fun _ => ?_) (fun hc2 => absurd (show lg_cmp (o1 0) _ = 0 by rw [h2]; exact lw_lc _) hc2)
    refine ga_goto (tgt := 2593) hC dL_law_447 (by decide) ?_
    refine ga_locals [2, 3, 4, 5, 6, 7] rfl ?_
    exact ga_widen (Nat.add_le_add_left (by decide) _) (Nat.add_le_add_left (by decide) _) (kk _ _ _ _ h3)
/-- what is to be shown of a call of setTarget -/
def OP_setTarget (Nx : cg_S → cg_S → Prop) (v1 v2 : Int32) (a b : cg_S) : Prop := M_X11_setTarget v1 v2 a (fun r a1 => M_X12_setTarget v1 v2 b (fun r2 b1 => M_X12_thrown b1 (fun t b2 => t = 0 ∧ (r = 0 ↔ r2 = 0) ∧ Nx a1 b2))) (fun E a1 => (E = "java/lang/IndexOutOfBoundsException" ∧ M_X12_setTarget v1 v2 b (fun r2 b1 => M_X12_thrown b1 (fun t b2 => t = 1 ∧ Nx a1 b2))))
set_option maxRecDepth 100000 in
set_option maxHeartbeats 4000000 in
theorem z_setTarget {p : Program} {l : Launch} {e : Env} {s : State} {m : MethodId} {args : Array Value} {below : List Frame} {meth : Method} {c : Code} {D : va_G} {cy : Nat → ClassId} {ad : Nat → Nat} {kc ks : Nat} {ret : Option FieldType} {a b : cg_S} {o : Nat → Int64} {od : Nat → UInt64} {Z : State → Prop} {sb L n : Nat} {xs : Nat → Int32} {Nx : cg_S → cg_S → Prop} (hC : cg_X cg_WL RL cL_law 9 ret p s m args meth c D cy ad) (hK : cl_K l s ad) (hX : va_X sb L xs s s.heap) (hbl : sb < s.heap.size) (hbA : ¬ cg_F ad 123 s.heap.size sb) (hL : 5 * n + 5 ≤ L) (hL2 : L ≤ 2560) (hr : kc + 4 ≤ room_1.cells ∧ ks + 24 ≤ room_1.slots)
    (kk : ∀ (a1 b1 : cg_S) (o1 : Nat → Int64) (od1 : Nat → UInt64), Nx a1 b1 → cg_G cg_WL room_1 p l e s m args below meth c D cy ad Z (kc + 4) (ks + 24) 9 2593 [(5, .int (Int32.ofNat (5 * n))), (4, .ref (ad 122)), (3, .ref (ad 121)), (2, .ref (ad 88)), (1, .ref (ad 0)), (0, .ref sb)] [] (jn a1 b1 o1 od1))
    (h : OP_setTarget Nx (xs (5 * n + 1)) (if (xs (5 * n + 2)) = 0 then (0 : Int32) else 1) a b) : cg_G cg_WL room_1 p l e s m args below meth c D cy ad Z kc ks 9 450 [(5, .int (Int32.ofNat (5 * n))), (4, .ref (ad 122)), (3, .ref (ad 121)), (2, .ref (ad 88)), (1, .ref (ad 0)), (0, .ref sb)] [] (jn a b o od) := by
  have hw : M_L_setTarget (xs (5 * n + 1)) (if (xs (5 * n + 2)) = 0 then (0 : Int32) else 1) a b o od (fun k a1 o1 od1 => M_X12_setTarget (xs (5 * n + 1)) (if (xs (5 * n + 2)) = 0 then (0 : Int32) else 1) b (fun r2 b1 => M_X12_thrown b1 (fun t b2 => t = k ∧ (k = 0 → o1 0 = if r2 = 0 then (0 : Int64) else 1) ∧ Nx a1 b2))) := by
    refine w_setTarget (M_X11_setTarget.mono h (fun r a1 q => ⟨fun z => M_X12_setTarget.mono q (fun r2 b1 q2 => M_X12_thrown.mono q2 (fun t b2 q3 => ⟨q3.1, fun _ => by rw [if_pos (q3.2.1.mp z)]; rfl, q3.2.2⟩)), fun z => M_X12_setTarget.mono q (fun r2 b1 q2 => M_X12_thrown.mono q2 (fun t b2 q3 => ⟨q3.1, fun _ => by rw [if_neg (fun y => z (q3.2.1.mpr y))]; rfl, q3.2.2⟩))⟩) (fun E a1 q => ?_))
    obtain ⟨e9, q⟩ := q
    exact ⟨e9, M_X12_setTarget.mono q (fun r2 b1 q2 => M_X12_thrown.mono q2 (fun t b2 q3 => ⟨q3.1, fun z => absurd z (by decide), q3.2⟩))⟩
  refine ga_aload_n hC dL_law_450 4 rfl rfl ?_
  refine gl_arg (j := 1) 5 0 hC hX hbl hbA hL hL2 rfl rfl (by decide) rfl dL_law_451 dL_law_452 dL_law_454 dL_law_455 dL_law_456 ?_
  refine gl_arg (j := 2) 5 0 hC hX hbl hbA hL hL2 rfl rfl (by decide) rfl dL_law_457 dL_law_458 dL_law_460 dL_law_461 dL_law_462 ?_
  refine gl_bool hC dL_law_463 dL_law_466 dL_law_467 dL_law_470 ?_
  refine ga_aload_n hC dL_law_471 2 rfl rfl ?_
  refine gl_callS (As := [.ref (ad 0), .int (xs (5 * n + 1)), .int (if (xs (5 * n + 2)) = 0 then (0 : Int32) else 1), .ref (ad 121)]) (st := []) (n := 4) hC hK hw (cg_in4 60 (by decide +kernel) (by decide +kernel)) (cg_in4 61 (by decide +kernel) (by decide +kernel)) (cg_in1 0 (by decide +kernel) (by decide +kernel)) (cg_in4 62 (by decide +kernel) (by decide +kernel)) rfl rfl rfl (by decide +kernel) ⟨Nat.le_trans (Nat.add_le_add_left (by decide) _) hr.1, Nat.le_trans (Nat.add_le_add_left (by decide) _) hr.2⟩ ⟨Nat.le_of_ble_eq_true rfl, Nat.le_of_ble_eq_true rfl⟩ rfl rfl (Nat.le_of_ble_eq_true rfl) dL_law_472 (fun v τ hq => ?_)
  obtain ⟨k, a1, o1, od1, rfl, rfl, h⟩ := hq
  refine ga_istore (lv' := [(6, .int k), (5, .int (Int32.ofNat (5 * n))), (4, .ref (ad 122)), (3, .ref (ad 121)), (2, .ref (ad 88)), (1, .ref (ad 0)), (0, .ref sb)]) hC dL_law_475 (by decide) rfl ?_
  refine ga_aload_n hC dL_law_477 4 rfl rfl ?_
  refine gl_arg (j := 1) 6 1 hC hX hbl hbA hL hL2 rfl rfl (by decide) rfl dL_law_478 dL_law_479 dL_law_481 dL_law_482 dL_law_483 ?_
  refine gl_arg (j := 2) 6 1 hC hX hbl hbA hL hL2 rfl rfl (by decide) rfl dL_law_484 dL_law_485 dL_law_487 dL_law_488 dL_law_489 ?_
  refine gl_bool hC dL_law_490 dL_law_493 dL_law_494 dL_law_497 ?_
  refine gl_callM (As := [.int (xs (5 * n + 1)), .int (if (xs (5 * n + 2)) = 0 then (0 : Int32) else 1)]) (st := []) (n := 2) hC h (cg_in7 13 (by decide +kernel) (by decide +kernel)) (cg_in7 14 (by decide +kernel) (by decide +kernel)) (cg_in7 15 (by decide +kernel) (by decide +kernel)) (cg_in1 13 (by decide +kernel) (by decide +kernel)) (cg_in7 16 (by decide +kernel) (by decide +kernel)) rfl rfl rfl (by decide +kernel) ⟨Nat.le_trans (Nat.add_le_add_left (by decide) _) hr.1, Nat.le_trans (Nat.add_le_add_left (by decide) _) hr.2⟩ ⟨Nat.le_of_ble_eq_true rfl, Nat.le_of_ble_eq_true rfl⟩ rfl rfl (Nat.le_of_ble_eq_true rfl) dL_law_498 (fun v τ hq => ?_)
  obtain ⟨r2, rfl, h⟩ := hq
  refine ga_istore (lv' := [(7, .int r2), (6, .int k), (5, .int (Int32.ofNat (5 * n))), (4, .ref (ad 122)), (3, .ref (ad 121)), (2, .ref (ad 88)), (1, .ref (ad 0)), (0, .ref sb)]) hC dL_law_501 (by decide) rfl ?_
  refine ga_aload_n hC dL_law_503 5 rfl rfl ?_
  refine gl_callM (As := []) (st := []) (n := 0) hC h (cg_in6 218 (by decide +kernel) (by decide +kernel)) (cg_in6 219 (by decide +kernel) (by decide +kernel)) (cg_in6 220 (by decide +kernel) (by decide +kernel)) (cg_in1 13 (by decide +kernel) (by decide +kernel)) (cg_in6 221 (by decide +kernel) (by decide +kernel)) rfl rfl rfl (by decide +kernel) ⟨Nat.le_trans (Nat.add_le_add_left (by decide) _) hr.1, Nat.le_trans (Nat.add_le_add_left (by decide) _) hr.2⟩ ⟨Nat.le_of_ble_eq_true rfl, Nat.le_of_ble_eq_true rfl⟩ rfl rfl (Nat.le_of_ble_eq_true rfl) dL_law_504 (fun v τ hq => ?_)
  obtain ⟨t, rfl, h1, h2, h3⟩ := hq
  refine ga_iload hC dL_law_507 1 rfl ?_
  refine ga_icmp_eq (tgt := 514) hC dL_law_509 (by decide) (fun _ => ?_) (fun hc => absurd h1 hc)
  refine ga_iload hC dL_law_514 1 rfl ?_
  refine ga_if_ne (tgt := 538) hC dL_law_516 (by decide) (fun hc => ?_) (fun hc => ?_)
  · skip
    refine ga_goto (tgt := 2593) hC dL_law_538 (by decide) ?_
    refine ga_locals [2, 3, 4, 5, 6, 7] rfl ?_
    exact ga_widen (Nat.add_le_add_left (by decide) _) (Nat.add_le_add_left (by decide) _) (kk _ _ _ _ h3)
  · have h2 := h2 hc
    refine ga_aload_n hC dL_law_519 4 rfl rfl ?_
    refine ga_iconst (v := 0) hC dL_law_520 (by decide) ?_
    refine ga_lald (k := 121) (n := 1) hC (fun _ => rfl) (by decide) lw_in0 dL_law_521 ?_
    refine ga_iload hC dL_law_522 0 rfl ?_
    refine gl_boolL hC dL_law_524 dL_law_527 dL_law_528 dL_law_531 ?_
    refine ga_lcmp hC dL_law_532 ?_
    refine ga_if_eq (tgt := 538) hC dL_law_533 (by decide) (fun _ => ?_) (fun hc2 => absurd (show lg_cmp (o1 0) _ = 0 by rw [h2]; exact lw_lc _) hc2)
    refine ga_goto (tgt := 2593) hC dL_law_538 (by decide) ?_
    refine ga_locals [2, 3, 4, 5, 6, 7] rfl ?_
    exact ga_widen (Nat.add_le_add_left (by decide) _) (Nat.add_le_add_left (by decide) _) (kk _ _ _ _ h3)
/-- what is to be shown of a call of setDiscount -/
def OP_setDiscount (Nx : cg_S → cg_S → Prop) (v1 v2 : Int32) (a b : cg_S) : Prop := M_X11_setDiscount v1 v2 a (fun r a1 => M_X12_setDiscount v1 v2 b (fun r2 b1 => M_X12_thrown b1 (fun t b2 => t = 0 ∧ r = r2 ∧ Nx a1 b2))) (fun E a1 => (E = "java/lang/IllegalArgumentException" ∧ M_X12_setDiscount v1 v2 b (fun r2 b1 => M_X12_thrown b1 (fun t b2 => t = 1 ∧ Nx a1 b2))))
set_option maxRecDepth 100000 in
set_option maxHeartbeats 4000000 in
theorem z_setDiscount {p : Program} {l : Launch} {e : Env} {s : State} {m : MethodId} {args : Array Value} {below : List Frame} {meth : Method} {c : Code} {D : va_G} {cy : Nat → ClassId} {ad : Nat → Nat} {kc ks : Nat} {ret : Option FieldType} {a b : cg_S} {o : Nat → Int64} {od : Nat → UInt64} {Z : State → Prop} {sb L n : Nat} {xs : Nat → Int32} {Nx : cg_S → cg_S → Prop} (hC : cg_X cg_WL RL cL_law 9 ret p s m args meth c D cy ad) (hK : cl_K l s ad) (hX : va_X sb L xs s s.heap) (hbl : sb < s.heap.size) (hbA : ¬ cg_F ad 123 s.heap.size sb) (hL : 5 * n + 5 ≤ L) (hL2 : L ≤ 2560) (hr : kc + 4 ≤ room_1.cells ∧ ks + 24 ≤ room_1.slots)
    (kk : ∀ (a1 b1 : cg_S) (o1 : Nat → Int64) (od1 : Nat → UInt64), Nx a1 b1 → cg_G cg_WL room_1 p l e s m args below meth c D cy ad Z (kc + 4) (ks + 24) 9 2593 [(5, .int (Int32.ofNat (5 * n))), (4, .ref (ad 122)), (3, .ref (ad 121)), (2, .ref (ad 88)), (1, .ref (ad 0)), (0, .ref sb)] [] (jn a1 b1 o1 od1))
    (h : OP_setDiscount Nx (xs (5 * n + 1)) (xs (5 * n + 2)) a b) : cg_G cg_WL room_1 p l e s m args below meth c D cy ad Z kc ks 9 541 [(5, .int (Int32.ofNat (5 * n))), (4, .ref (ad 122)), (3, .ref (ad 121)), (2, .ref (ad 88)), (1, .ref (ad 0)), (0, .ref sb)] [] (jn a b o od) := by
  have hw : M_L_setDiscount (xs (5 * n + 1)) (xs (5 * n + 2)) a b o od (fun k a1 o1 od1 => M_X12_setDiscount (xs (5 * n + 1)) (xs (5 * n + 2)) b (fun r2 b1 => M_X12_thrown b1 (fun t b2 => t = k ∧ (k = 0 → o1 0 = r2.toInt64) ∧ Nx a1 b2))) := by
    refine w_setDiscount (M_X11_setDiscount.mono h (fun r a1 q => M_X12_setDiscount.mono q (fun r2 b1 q2 => M_X12_thrown.mono q2 (fun t b2 q3 => ⟨q3.1, fun _ => by rw [← q3.2.1]; rfl, q3.2.2⟩))) (fun E a1 q => ?_))
    obtain ⟨e9, q⟩ := q
    exact ⟨e9, M_X12_setDiscount.mono q (fun r2 b1 q2 => M_X12_thrown.mono q2 (fun t b2 q3 => ⟨q3.1, fun z => absurd z (by decide), q3.2⟩))⟩
  refine ga_aload_n hC dL_law_541 4 rfl rfl ?_
  refine gl_arg (j := 1) 5 0 hC hX hbl hbA hL hL2 rfl rfl (by decide) rfl dL_law_542 dL_law_543 dL_law_545 dL_law_546 dL_law_547 ?_
  refine gl_arg (j := 2) 5 0 hC hX hbl hbA hL hL2 rfl rfl (by decide) rfl dL_law_548 dL_law_549 dL_law_551 dL_law_552 dL_law_553 ?_
  refine ga_aload_n hC dL_law_554 2 rfl rfl ?_
  refine gl_callS (As := [.ref (ad 0), .int (xs (5 * n + 1)), .int (xs (5 * n + 2)), .ref (ad 121)]) (st := []) (n := 4) hC hK hw (cg_in4 72 (by decide +kernel) (by decide +kernel)) (cg_in4 73 (by decide +kernel) (by decide +kernel)) (cg_in1 0 (by decide +kernel) (by decide +kernel)) (cg_in4 74 (by decide +kernel) (by decide +kernel)) rfl rfl rfl (by decide +kernel) ⟨Nat.le_trans (Nat.add_le_add_left (by decide) _) hr.1, Nat.le_trans (Nat.add_le_add_left (by decide) _) hr.2⟩ ⟨Nat.le_of_ble_eq_true rfl, Nat.le_of_ble_eq_true rfl⟩ rfl rfl (Nat.le_of_ble_eq_true rfl) dL_law_555 (fun v τ hq => ?_)
  obtain ⟨k, a1, o1, od1, rfl, rfl, h⟩ := hq
  refine ga_istore (lv' := [(6, .int k), (5, .int (Int32.ofNat (5 * n))), (4, .ref (ad 122)), (3, .ref (ad 121)), (2, .ref (ad 88)), (1, .ref (ad 0)), (0, .ref sb)]) hC dL_law_558 (by decide) rfl ?_
  refine ga_aload_n hC dL_law_560 4 rfl rfl ?_
  refine gl_arg (j := 1) 6 1 hC hX hbl hbA hL hL2 rfl rfl (by decide) rfl dL_law_561 dL_law_562 dL_law_564 dL_law_565 dL_law_566 ?_
  refine gl_arg (j := 2) 6 1 hC hX hbl hbA hL hL2 rfl rfl (by decide) rfl dL_law_567 dL_law_568 dL_law_570 dL_law_571 dL_law_572 ?_
  refine gl_callM (As := [.int (xs (5 * n + 1)), .int (xs (5 * n + 2))]) (st := []) (n := 2) hC h (cg_in7 17 (by decide +kernel) (by decide +kernel)) (cg_in7 18 (by decide +kernel) (by decide +kernel)) (cg_in7 19 (by decide +kernel) (by decide +kernel)) (cg_in1 13 (by decide +kernel) (by decide +kernel)) (cg_in7 20 (by decide +kernel) (by decide +kernel)) rfl rfl rfl (by decide +kernel) ⟨Nat.le_trans (Nat.add_le_add_left (by decide) _) hr.1, Nat.le_trans (Nat.add_le_add_left (by decide) _) hr.2⟩ ⟨Nat.le_of_ble_eq_true rfl, Nat.le_of_ble_eq_true rfl⟩ rfl rfl (Nat.le_of_ble_eq_true rfl) dL_law_573 (fun v τ hq => ?_)
  obtain ⟨r2, rfl, h⟩ := hq
  refine ga_istore (lv' := [(7, .int r2), (6, .int k), (5, .int (Int32.ofNat (5 * n))), (4, .ref (ad 122)), (3, .ref (ad 121)), (2, .ref (ad 88)), (1, .ref (ad 0)), (0, .ref sb)]) hC dL_law_576 (by decide) rfl ?_
  refine ga_aload_n hC dL_law_578 5 rfl rfl ?_
  refine gl_callM (As := []) (st := []) (n := 0) hC h (cg_in6 218 (by decide +kernel) (by decide +kernel)) (cg_in6 219 (by decide +kernel) (by decide +kernel)) (cg_in6 220 (by decide +kernel) (by decide +kernel)) (cg_in1 13 (by decide +kernel) (by decide +kernel)) (cg_in6 221 (by decide +kernel) (by decide +kernel)) rfl rfl rfl (by decide +kernel) ⟨Nat.le_trans (Nat.add_le_add_left (by decide) _) hr.1, Nat.le_trans (Nat.add_le_add_left (by decide) _) hr.2⟩ ⟨Nat.le_of_ble_eq_true rfl, Nat.le_of_ble_eq_true rfl⟩ rfl rfl (Nat.le_of_ble_eq_true rfl) dL_law_579 (fun v τ hq => ?_)
  obtain ⟨t, rfl, h1, h2, h3⟩ := hq
  refine ga_iload hC dL_law_582 1 rfl ?_
  refine ga_icmp_eq (tgt := 589) hC dL_law_584 (by decide) (fun _ => ?_) (fun hc => absurd h1 hc)
  refine ga_iload hC dL_law_589 1 rfl ?_
  refine ga_if_ne (tgt := 606) hC dL_law_591 (by decide) (fun hc => ?_) (fun hc => ?_)
  · skip
    refine ga_goto (tgt := 2593) hC dL_law_606 (by decide) ?_
    refine ga_locals [2, 3, 4, 5, 6, 7] rfl ?_
    exact ga_widen (Nat.add_le_add_left (by decide) _) (Nat.add_le_add_left (by decide) _) (kk _ _ _ _ h3)
  · have h2 := h2 hc
    refine ga_aload_n hC dL_law_594 4 rfl rfl ?_
    refine ga_iconst (v := 0) hC dL_law_595 (by decide) ?_
    refine ga_lald (k := 121) (n := 1) hC (fun _ => rfl) (by decide) lw_in0 dL_law_596 ?_
    refine ga_iload hC dL_law_597 0 rfl ?_
    refine ga_i2l hC dL_law_599 ?_
    refine ga_lcmp hC dL_law_600 ?_
    refine ga_if_eq (tgt := 606) hC dL_law_601 (by decide) (fun _ => ?_) (fun hc2 => absurd (show lg_cmp (o1 0) _ = 0 by rw [h2]; exact lw_lc _) hc2)
    refine ga_goto (tgt := 2593) hC dL_law_606 (by decide) ?_
    refine ga_locals [2, 3, 4, 5, 6, 7] rfl ?_
    exact ga_widen (Nat.add_le_add_left (by decide) _) (Nat.add_le_add_left (by decide) _) (kk _ _ _ _ h3)
/-- what is to be shown of a call of setWeights -/
def OP_setWeights (Nx : cg_S → cg_S → Prop) (v1 v2 : Int32) (a b : cg_S) : Prop := M_X11_setWeights v1 v2 a (fun r a1 => M_X12_setWeights v1 v2 b (fun r2 b1 => M_X12_thrown b1 (fun t b2 => t = 0 ∧ r = r2 ∧ Nx a1 b2))) (fun E a1 => (E = "java/lang/IllegalArgumentException" ∧ M_X12_setWeights v1 v2 b (fun r2 b1 => M_X12_thrown b1 (fun t b2 => t = 1 ∧ Nx a1 b2))))
set_option maxRecDepth 100000 in
set_option maxHeartbeats 4000000 in
theorem z_setWeights {p : Program} {l : Launch} {e : Env} {s : State} {m : MethodId} {args : Array Value} {below : List Frame} {meth : Method} {c : Code} {D : va_G} {cy : Nat → ClassId} {ad : Nat → Nat} {kc ks : Nat} {ret : Option FieldType} {a b : cg_S} {o : Nat → Int64} {od : Nat → UInt64} {Z : State → Prop} {sb L n : Nat} {xs : Nat → Int32} {Nx : cg_S → cg_S → Prop} (hC : cg_X cg_WL RL cL_law 9 ret p s m args meth c D cy ad) (hK : cl_K l s ad) (hX : va_X sb L xs s s.heap) (hbl : sb < s.heap.size) (hbA : ¬ cg_F ad 123 s.heap.size sb) (hL : 5 * n + 5 ≤ L) (hL2 : L ≤ 2560) (hr : kc + 4 ≤ room_1.cells ∧ ks + 24 ≤ room_1.slots)
    (kk : ∀ (a1 b1 : cg_S) (o1 : Nat → Int64) (od1 : Nat → UInt64), Nx a1 b1 → cg_G cg_WL room_1 p l e s m args below meth c D cy ad Z (kc + 4) (ks + 24) 9 2593 [(5, .int (Int32.ofNat (5 * n))), (4, .ref (ad 122)), (3, .ref (ad 121)), (2, .ref (ad 88)), (1, .ref (ad 0)), (0, .ref sb)] [] (jn a1 b1 o1 od1))
    (h : OP_setWeights Nx (xs (5 * n + 1)) (xs (5 * n + 2)) a b) : cg_G cg_WL room_1 p l e s m args below meth c D cy ad Z kc ks 9 609 [(5, .int (Int32.ofNat (5 * n))), (4, .ref (ad 122)), (3, .ref (ad 121)), (2, .ref (ad 88)), (1, .ref (ad 0)), (0, .ref sb)] [] (jn a b o od) := by
  have hw : M_L_setWeights (xs (5 * n + 1)) (xs (5 * n + 2)) a b o od (fun k a1 o1 od1 => M_X12_setWeights (xs (5 * n + 1)) (xs (5 * n + 2)) b (fun r2 b1 => M_X12_thrown b1 (fun t b2 => t = k ∧ (k = 0 → o1 0 = r2.toInt64) ∧ Nx a1 b2))) := by
    refine w_setWeights (M_X11_setWeights.mono h (fun r a1 q => M_X12_setWeights.mono q (fun r2 b1 q2 => M_X12_thrown.mono q2 (fun t b2 q3 => ⟨q3.1, fun _ => by rw [← q3.2.1]; rfl, q3.2.2⟩))) (fun E a1 q => ?_))
    obtain ⟨e9, q⟩ := q
    exact ⟨e9, M_X12_setWeights.mono q (fun r2 b1 q2 => M_X12_thrown.mono q2 (fun t b2 q3 => ⟨q3.1, fun z => absurd z (by decide), q3.2⟩))⟩
  refine ga_aload_n hC dL_law_609 4 rfl rfl ?_
  refine gl_arg (j := 1) 5 0 hC hX hbl hbA hL hL2 rfl rfl (by decide) rfl dL_law_610 dL_law_611 dL_law_613 dL_law_614 dL_law_615 ?_
  refine gl_arg (j := 2) 5 0 hC hX hbl hbA hL hL2 rfl rfl (by decide) rfl dL_law_616 dL_law_617 dL_law_619 dL_law_620 dL_law_621 ?_
  refine ga_aload_n hC dL_law_622 2 rfl rfl ?_
  refine gl_callS (As := [.ref (ad 0), .int (xs (5 * n + 1)), .int (xs (5 * n + 2)), .ref (ad 121)]) (st := []) (n := 4) hC hK hw (cg_in4 84 (by decide +kernel) (by decide +kernel)) (cg_in4 85 (by decide +kernel) (by decide +kernel)) (cg_in1 0 (by decide +kernel) (by decide +kernel)) (cg_in4 86 (by decide +kernel) (by decide +kernel)) rfl rfl rfl (by decide +kernel) ⟨Nat.le_trans (Nat.add_le_add_left (by decide) _) hr.1, Nat.le_trans (Nat.add_le_add_left (by decide) _) hr.2⟩ ⟨Nat.le_of_ble_eq_true rfl, Nat.le_of_ble_eq_true rfl⟩ rfl rfl (Nat.le_of_ble_eq_true rfl) dL_law_623 (fun v τ hq => ?_)
  obtain ⟨k, a1, o1, od1, rfl, rfl, h⟩ := hq
  refine ga_istore (lv' := [(6, .int k), (5, .int (Int32.ofNat (5 * n))), (4, .ref (ad 122)), (3, .ref (ad 121)), (2, .ref (ad 88)), (1, .ref (ad 0)), (0, .ref sb)]) hC dL_law_626 (by decide) rfl ?_
  refine ga_aload_n hC dL_law_628 4 rfl rfl ?_
  refine gl_arg (j := 1) 6 1 hC hX hbl hbA hL hL2 rfl rfl (by decide) rfl dL_law_629 dL_law_630 dL_law_632 dL_law_633 dL_law_634 ?_
  refine gl_arg (j := 2) 6 1 hC hX hbl hbA hL hL2 rfl rfl (by decide) rfl dL_law_635 dL_law_636 dL_law_638 dL_law_639 dL_law_640 ?_
  refine gl_callM (As := [.int (xs (5 * n + 1)), .int (xs (5 * n + 2))]) (st := []) (n := 2) hC h (cg_in7 21 (by decide +kernel) (by decide +kernel)) (cg_in7 22 (by decide +kernel) (by decide +kernel)) (cg_in7 23 (by decide +kernel) (by decide +kernel)) (cg_in1 13 (by decide +kernel) (by decide +kernel)) (cg_in7 24 (by decide +kernel) (by decide +kernel)) rfl rfl rfl (by decide +kernel) ⟨Nat.le_trans (Nat.add_le_add_left (by decide) _) hr.1, Nat.le_trans (Nat.add_le_add_left (by decide) _) hr.2⟩ ⟨Nat.le_of_ble_eq_true rfl, Nat.le_of_ble_eq_true rfl⟩ rfl rfl (Nat.le_of_ble_eq_true rfl) dL_law_641 (fun v τ hq => ?_)
  obtain ⟨r2, rfl, h⟩ := hq
  refine ga_istore (lv' := [(7, .int r2), (6, .int k), (5, .int (Int32.ofNat (5 * n))), (4, .ref (ad 122)), (3, .ref (ad 121)), (2, .ref (ad 88)), (1, .ref (ad 0)), (0, .ref sb)]) hC dL_law_644 (by decide) rfl ?_
  refine ga_aload_n hC dL_law_646 5 rfl rfl ?_
  refine gl_callM (As := []) (st := []) (n := 0) hC h (cg_in6 218 (by decide +kernel) (by decide +kernel)) (cg_in6 219 (by decide +kernel) (by decide +kernel)) (cg_in6 220 (by decide +kernel) (by decide +kernel)) (cg_in1 13 (by decide +kernel) (by decide +kernel)) (cg_in6 221 (by decide +kernel) (by decide +kernel)) rfl rfl rfl (by decide +kernel) ⟨Nat.le_trans (Nat.add_le_add_left (by decide) _) hr.1, Nat.le_trans (Nat.add_le_add_left (by decide) _) hr.2⟩ ⟨Nat.le_of_ble_eq_true rfl, Nat.le_of_ble_eq_true rfl⟩ rfl rfl (Nat.le_of_ble_eq_true rfl) dL_law_647 (fun v τ hq => ?_)
  obtain ⟨t, rfl, h1, h2, h3⟩ := hq
  refine ga_iload hC dL_law_650 1 rfl ?_
  refine ga_icmp_eq (tgt := 657) hC dL_law_652 (by decide) (fun _ => ?_) (fun hc => absurd h1 hc)
  refine ga_iload hC dL_law_657 1 rfl ?_
  refine ga_if_ne (tgt := 674) hC dL_law_659 (by decide) (fun hc => ?_) (fun hc => ?_)
  · skip
    refine ga_goto (tgt := 2593) hC dL_law_674 (by decide) ?_
    refine ga_locals [2, 3, 4, 5, 6, 7] rfl ?_
    exact ga_widen (Nat.add_le_add_left (by decide) _) (Nat.add_le_add_left (by decide) _) (kk _ _ _ _ h3)
  · have h2 := h2 hc
    refine ga_aload_n hC dL_law_662 4 rfl rfl ?_
    refine ga_iconst (v := 0) hC dL_law_663 (by decide) ?_
    refine ga_lald (k := 121) (n := 1) hC (fun _ => rfl) (by decide) lw_in0 dL_law_664 ?_
    refine ga_iload hC dL_law_665 0 rfl ?_
    refine ga_i2l hC dL_law_667 ?_
    refine ga_lcmp hC dL_law_668 ?_
    refine ga_if_eq (tgt := 674) hC dL_law_669 (by decide) (fun _ => ?_) (fun hc2 => absurd (show lg_cmp (o1 0) _ = 0 by rw [h2]; exact lw_lc _) hc2)
    refine ga_goto (tgt := 2593) hC dL_law_674 (by decide) ?_
    refine ga_locals [2, 3, 4, 5, 6, 7] rfl ?_
    exact ga_widen (Nat.add_le_add_left (by decide) _) (Nat.add_le_add_left (by decide) _) (kk _ _ _ _ h3)
def OP_states (Nx : cg_S → cg_S → Prop) (a b : cg_S) : Prop := M_X11_states a (fun r a1 => M_X12_states b (fun r2 b1 => r = r2 ∧ Nx a1 b1))
set_option maxRecDepth 100000 in
set_option maxHeartbeats 4000000 in
theorem z_states {p : Program} {l : Launch} {e : Env} {s : State} {m : MethodId} {args : Array Value} {below : List Frame} {meth : Method} {c : Code} {D : va_G} {cy : Nat → ClassId} {ad : Nat → Nat} {kc ks : Nat} {ret : Option FieldType} {a b : cg_S} {o : Nat → Int64} {od : Nat → UInt64} {Z : State → Prop} {sb L n : Nat} {xs : Nat → Int32} {Nx : cg_S → cg_S → Prop} (hC : cg_X cg_WL RL cL_law 9 ret p s m args meth c D cy ad) (hK : cl_K l s ad) (hX : va_X sb L xs s s.heap) (hbl : sb < s.heap.size) (hbA : ¬ cg_F ad 123 s.heap.size sb) (hL : 5 * n + 5 ≤ L) (hL2 : L ≤ 2560) (hr : kc + 4 ≤ room_1.cells ∧ ks + 24 ≤ room_1.slots)
    (kk : ∀ (a1 b1 : cg_S) (o1 : Nat → Int64) (od1 : Nat → UInt64), Nx a1 b1 → cg_G cg_WL room_1 p l e s m args below meth c D cy ad Z (kc + 4) (ks + 24) 9 2593 [(5, .int (Int32.ofNat (5 * n))), (4, .ref (ad 122)), (3, .ref (ad 121)), (2, .ref (ad 88)), (1, .ref (ad 0)), (0, .ref sb)] [] (jn a1 b1 o1 od1))
    (h : OP_states Nx  a b) : cg_G cg_WL room_1 p l e s m args below meth c D cy ad Z kc ks 9 677 [(5, .int (Int32.ofNat (5 * n))), (4, .ref (ad 122)), (3, .ref (ad 121)), (2, .ref (ad 88)), (1, .ref (ad 0)), (0, .ref sb)] [] (jn a b o od) := by
  refine ga_aload_n hC dL_law_677 4 rfl rfl ?_
  refine gl_callC (As := []) (st := []) (n := 0) hC h (cg_in2 158 (by decide +kernel) (by decide +kernel)) (cg_in2 159 (by decide +kernel) (by decide +kernel)) (cg_in2 160 (by decide +kernel) (by decide +kernel)) (cg_in1 1 (by decide +kernel) (by decide +kernel)) (cg_in2 161 (by decide +kernel) (by decide +kernel)) rfl rfl rfl (by decide +kernel) ⟨Nat.le_trans (Nat.le_add_right _ _) hr.1, Nat.le_trans (Nat.le_add_right _ _) hr.2⟩ ⟨Nat.le_of_ble_eq_true rfl, Nat.le_of_ble_eq_true rfl⟩ rfl rfl (Nat.le_of_ble_eq_true rfl) dL_law_678 (fun v τ hq => ?_)
  obtain ⟨r, rfl, h⟩ := hq
  refine ga_aload_n hC dL_law_681 3 rfl rfl ?_
  refine gl_callM (As := []) (st := [.int r]) (n := 0) hC h (cg_in7 25 (by decide +kernel) (by decide +kernel)) (cg_in7 26 (by decide +kernel) (by decide +kernel)) (cg_in7 27 (by decide +kernel) (by decide +kernel)) (cg_in1 13 (by decide +kernel) (by decide +kernel)) (cg_in7 28 (by decide +kernel) (by decide +kernel)) rfl rfl rfl (by decide +kernel) ⟨Nat.le_trans (Nat.le_add_right _ _) hr.1, Nat.le_trans (Nat.le_add_right _ _) hr.2⟩ ⟨Nat.le_of_ble_eq_true rfl, Nat.le_of_ble_eq_true rfl⟩ rfl rfl (Nat.le_of_ble_eq_true rfl) dL_law_682 (fun v τ hq => ?_)
  obtain ⟨r2, rfl, h1, h3⟩ := hq
  refine ga_icmp_eq (tgt := 2593) hC dL_law_685 (by decide) (fun _ => ?_) (fun hc => absurd h1 hc)
  refine ga_locals [0, 1, 2, 3, 4, 5] rfl ?_
  exact ga_widen (Nat.le_add_right _ _) (Nat.le_add_right _ _) (kk _ _ _ _ h3)
/-- what is to be shown of a call of choices -/
def OP_choices (Nx : cg_S → cg_S → Prop) (v1 : Int32) (a b : cg_S) : Prop := M_X11_choices v1 a (fun r a1 => M_X12_choices v1 b (fun r2 b1 => M_X12_thrown b1 (fun t b2 => t = 0 ∧ r = r2 ∧ Nx a1 b2))) (fun E a1 => (E = "java/lang/IndexOutOfBoundsException" ∧ M_X12_choices v1 b (fun r2 b1 => M_X12_thrown b1 (fun t b2 => t = 1 ∧ Nx a1 b2))))
set_option maxRecDepth 100000 in
set_option maxHeartbeats 4000000 in
theorem z_choices {p : Program} {l : Launch} {e : Env} {s : State} {m : MethodId} {args : Array Value} {below : List Frame} {meth : Method} {c : Code} {D : va_G} {cy : Nat → ClassId} {ad : Nat → Nat} {kc ks : Nat} {ret : Option FieldType} {a b : cg_S} {o : Nat → Int64} {od : Nat → UInt64} {Z : State → Prop} {sb L n : Nat} {xs : Nat → Int32} {Nx : cg_S → cg_S → Prop} (hC : cg_X cg_WL RL cL_law 9 ret p s m args meth c D cy ad) (hK : cl_K l s ad) (hX : va_X sb L xs s s.heap) (hbl : sb < s.heap.size) (hbA : ¬ cg_F ad 123 s.heap.size sb) (hL : 5 * n + 5 ≤ L) (hL2 : L ≤ 2560) (hr : kc + 4 ≤ room_1.cells ∧ ks + 24 ≤ room_1.slots)
    (kk : ∀ (a1 b1 : cg_S) (o1 : Nat → Int64) (od1 : Nat → UInt64), Nx a1 b1 → cg_G cg_WL room_1 p l e s m args below meth c D cy ad Z (kc + 4) (ks + 24) 9 2593 [(5, .int (Int32.ofNat (5 * n))), (4, .ref (ad 122)), (3, .ref (ad 121)), (2, .ref (ad 88)), (1, .ref (ad 0)), (0, .ref sb)] [] (jn a1 b1 o1 od1))
    (h : OP_choices Nx (xs (5 * n + 1)) a b) : cg_G cg_WL room_1 p l e s m args below meth c D cy ad Z kc ks 9 690 [(5, .int (Int32.ofNat (5 * n))), (4, .ref (ad 122)), (3, .ref (ad 121)), (2, .ref (ad 88)), (1, .ref (ad 0)), (0, .ref sb)] [] (jn a b o od) := by
  have hw : M_L_choices (xs (5 * n + 1)) a b o od (fun k a1 o1 od1 => M_X12_choices (xs (5 * n + 1)) b (fun r2 b1 => M_X12_thrown b1 (fun t b2 => t = k ∧ (k = 0 → o1 0 = r2.toInt64) ∧ Nx a1 b2))) := by
    refine w_choices (M_X11_choices.mono h (fun r a1 q => M_X12_choices.mono q (fun r2 b1 q2 => M_X12_thrown.mono q2 (fun t b2 q3 => ⟨q3.1, fun _ => by rw [← q3.2.1]; rfl, q3.2.2⟩))) (fun E a1 q => ?_))
    obtain ⟨e9, q⟩ := q
    exact ⟨e9, M_X12_choices.mono q (fun r2 b1 q2 => M_X12_thrown.mono q2 (fun t b2 q3 => ⟨q3.1, fun z => absurd z (by decide), q3.2⟩))⟩
  refine ga_aload_n hC dL_law_690 4 rfl rfl ?_
  refine gl_arg (j := 1) 5 0 hC hX hbl hbA hL hL2 rfl rfl (by decide) rfl dL_law_691 dL_law_692 dL_law_694 dL_law_695 dL_law_696 ?_
  refine ga_aload_n hC dL_law_697 2 rfl rfl ?_
  refine gl_callS (As := [.ref (ad 0), .int (xs (5 * n + 1)), .ref (ad 121)]) (st := []) (n := 3) hC hK hw (cg_in4 96 (by decide +kernel) (by decide +kernel)) (cg_in4 97 (by decide +kernel) (by decide +kernel)) (cg_in1 0 (by decide +kernel) (by decide +kernel)) (cg_in4 98 (by decide +kernel) (by decide +kernel)) rfl rfl rfl (by decide +kernel) ⟨Nat.le_trans (Nat.add_le_add_left (by decide) _) hr.1, Nat.le_trans (Nat.add_le_add_left (by decide) _) hr.2⟩ ⟨Nat.le_of_ble_eq_true rfl, Nat.le_of_ble_eq_true rfl⟩ rfl rfl (Nat.le_of_ble_eq_true rfl) dL_law_698 (fun v τ hq => ?_)
  obtain ⟨k, a1, o1, od1, rfl, rfl, h⟩ := hq
  refine ga_istore (lv' := [(6, .int k), (5, .int (Int32.ofNat (5 * n))), (4, .ref (ad 122)), (3, .ref (ad 121)), (2, .ref (ad 88)), (1, .ref (ad 0)), (0, .ref sb)]) hC dL_law_701 (by decide) rfl ?_
  refine ga_aload_n hC dL_law_703 4 rfl rfl ?_
  refine gl_arg (j := 1) 6 1 hC hX hbl hbA hL hL2 rfl rfl (by decide) rfl dL_law_704 dL_law_705 dL_law_707 dL_law_708 dL_law_709 ?_
  refine gl_callM (As := [.int (xs (5 * n + 1))]) (st := []) (n := 1) hC h (cg_in7 29 (by decide +kernel) (by decide +kernel)) (cg_in7 30 (by decide +kernel) (by decide +kernel)) (cg_in7 31 (by decide +kernel) (by decide +kernel)) (cg_in1 13 (by decide +kernel) (by decide +kernel)) (cg_in7 32 (by decide +kernel) (by decide +kernel)) rfl rfl rfl (by decide +kernel) ⟨Nat.le_trans (Nat.add_le_add_left (by decide) _) hr.1, Nat.le_trans (Nat.add_le_add_left (by decide) _) hr.2⟩ ⟨Nat.le_of_ble_eq_true rfl, Nat.le_of_ble_eq_true rfl⟩ rfl rfl (Nat.le_of_ble_eq_true rfl) dL_law_710 (fun v τ hq => ?_)
  obtain ⟨r2, rfl, h⟩ := hq
  refine ga_istore (lv' := [(7, .int r2), (6, .int k), (5, .int (Int32.ofNat (5 * n))), (4, .ref (ad 122)), (3, .ref (ad 121)), (2, .ref (ad 88)), (1, .ref (ad 0)), (0, .ref sb)]) hC dL_law_713 (by decide) rfl ?_
  refine ga_aload_n hC dL_law_715 5 rfl rfl ?_
  refine gl_callM (As := []) (st := []) (n := 0) hC h (cg_in6 218 (by decide +kernel) (by decide +kernel)) (cg_in6 219 (by decide +kernel) (by decide +kernel)) (cg_in6 220 (by decide +kernel) (by decide +kernel)) (cg_in1 13 (by decide +kernel) (by decide +kernel)) (cg_in6 221 (by decide +kernel) (by decide +kernel)) rfl rfl rfl (by decide +kernel) ⟨Nat.le_trans (Nat.add_le_add_left (by decide) _) hr.1, Nat.le_trans (Nat.add_le_add_left (by decide) _) hr.2⟩ ⟨Nat.le_of_ble_eq_true rfl, Nat.le_of_ble_eq_true rfl⟩ rfl rfl (Nat.le_of_ble_eq_true rfl) dL_law_716 (fun v τ hq => ?_)
  obtain ⟨t, rfl, h1, h2, h3⟩ := hq
  refine ga_iload hC dL_law_719 1 rfl ?_
  refine ga_icmp_eq (tgt := 726) hC dL_law_721 (by decide) (fun _ => ?_) (fun hc => absurd h1 hc)
  refine ga_iload hC dL_law_726 1 rfl ?_
  refine ga_if_ne (tgt := 743) hC dL_law_728 (by decide) (fun hc => ?_) (fun hc => ?_)
  · skip
    refine ga_goto (tgt := 2593) hC dL_law_743 (by decide) ?_
    refine ga_locals [2, 3, 4, 5, 6, 7] rfl ?_
    exact ga_widen (Nat.add_le_add_left (by decide) _) (Nat.add_le_add_left (by decide) _) (kk _ _ _ _ h3)
  · have h2 := h2 hc
    refine ga_aload_n hC dL_law_731 4 rfl rfl ?_
    refine ga_iconst (v := 0) hC dL_law_732 (by decide) ?_
    refine ga_lald (k := 121) (n := 1) hC (fun _ => rfl) (by decide) lw_in0 dL_law_733 ?_
    refine ga_iload hC dL_law_734 0 rfl ?_
    refine ga_i2l hC dL_law_736 ?_
    refine ga_lcmp hC dL_law_737 ?_
    refine ga_if_eq (tgt := 743) hC dL_law_738 (by decide) (fun _ => ?_) (fun hc2 => absurd (show lg_cmp (o1 0) _ = 0 by rw [h2]; exact lw_lc _) hc2)
    refine ga_goto (tgt := 2593) hC dL_law_743 (by decide) ?_
    refine ga_locals [2, 3, 4, 5, 6, 7] rfl ?_
    exact ga_widen (Nat.add_le_add_left (by decide) _) (Nat.add_le_add_left (by decide) _) (kk _ _ _ _ h3)
/-- what is to be shown of a call of chance -/
def OP_chance (Nx : cg_S → cg_S → Prop) (v1 v2 v3 : Int32) (a b : cg_S) : Prop := M_X11_chance v1 v2 v3 a (fun r a1 => M_X12_chance v1 v2 v3 b (fun r2 b1 => M_X12_thrown b1 (fun t b2 => t = 0 ∧ r = r2 ∧ Nx a1 b2))) (fun E a1 => (E = "java/lang/IndexOutOfBoundsException" ∧ M_X12_chance v1 v2 v3 b (fun r2 b1 => M_X12_thrown b1 (fun t b2 => t = 1 ∧ Nx a1 b2))) ∨ (E = "java/lang/ArithmeticException" ∧ M_X12_chance v1 v2 v3 b (fun r2 b1 => M_X12_thrown b1 (fun t b2 => t = 2 ∧ Nx a1 b2))))
set_option maxRecDepth 100000 in
set_option maxHeartbeats 4000000 in
theorem z_chance {p : Program} {l : Launch} {e : Env} {s : State} {m : MethodId} {args : Array Value} {below : List Frame} {meth : Method} {c : Code} {D : va_G} {cy : Nat → ClassId} {ad : Nat → Nat} {kc ks : Nat} {ret : Option FieldType} {a b : cg_S} {o : Nat → Int64} {od : Nat → UInt64} {Z : State → Prop} {sb L n : Nat} {xs : Nat → Int32} {Nx : cg_S → cg_S → Prop} (hC : cg_X cg_WL RL cL_law 9 ret p s m args meth c D cy ad) (hK : cl_K l s ad) (hX : va_X sb L xs s s.heap) (hbl : sb < s.heap.size) (hbA : ¬ cg_F ad 123 s.heap.size sb) (hL : 5 * n + 5 ≤ L) (hL2 : L ≤ 2560) (hr : kc + 4 ≤ room_1.cells ∧ ks + 24 ≤ room_1.slots)
    (kk : ∀ (a1 b1 : cg_S) (o1 : Nat → Int64) (od1 : Nat → UInt64), Nx a1 b1 → cg_G cg_WL room_1 p l e s m args below meth c D cy ad Z (kc + 4) (ks + 24) 9 2593 [(5, .int (Int32.ofNat (5 * n))), (4, .ref (ad 122)), (3, .ref (ad 121)), (2, .ref (ad 88)), (1, .ref (ad 0)), (0, .ref sb)] [] (jn a1 b1 o1 od1))
    (h : OP_chance Nx (xs (5 * n + 1)) (xs (5 * n + 2)) (xs (5 * n + 3)) a b) : cg_G cg_WL room_1 p l e s m args below meth c D cy ad Z kc ks 9 746 [(5, .int (Int32.ofNat (5 * n))), (4, .ref (ad 122)), (3, .ref (ad 121)), (2, .ref (ad 88)), (1, .ref (ad 0)), (0, .ref sb)] [] (jn a b o od) := by
  have hw : M_L_chance (xs (5 * n + 1)) (xs (5 * n + 2)) (xs (5 * n + 3)) a b o od (fun k a1 o1 od1 => M_X12_chance (xs (5 * n + 1)) (xs (5 * n + 2)) (xs (5 * n + 3)) b (fun r2 b1 => M_X12_thrown b1 (fun t b2 => t = k ∧ (k = 0 → o1 0 = r2.toInt64) ∧ Nx a1 b2))) := by
    refine w_chance (M_X11_chance.mono h (fun r a1 q => M_X12_chance.mono q (fun r2 b1 q2 => M_X12_thrown.mono q2 (fun t b2 q3 => ⟨q3.1, fun _ => by rw [← q3.2.1]; rfl, q3.2.2⟩))) (fun E a1 q => ?_))
    rcases q with ⟨e9, q⟩ | ⟨e9, q⟩
    · exact Or.inl ⟨e9, M_X12_chance.mono q (fun r2 b1 q2 => M_X12_thrown.mono q2 (fun t b2 q3 => ⟨q3.1, fun z => absurd z (by decide), q3.2⟩))⟩
    · exact Or.inr (⟨e9, M_X12_chance.mono q (fun r2 b1 q2 => M_X12_thrown.mono q2 (fun t b2 q3 => ⟨q3.1, fun z => absurd z (by decide), q3.2⟩))⟩)
  refine ga_aload_n hC dL_law_746 4 rfl rfl ?_
  refine gl_arg (j := 1) 5 0 hC hX hbl hbA hL hL2 rfl rfl (by decide) rfl dL_law_747 dL_law_748 dL_law_750 dL_law_751 dL_law_752 ?_
  refine gl_arg (j := 2) 5 0 hC hX hbl hbA hL hL2 rfl rfl (by decide) rfl dL_law_753 dL_law_754 dL_law_756 dL_law_757 dL_law_758 ?_
  refine gl_arg (j := 3) 5 0 hC hX hbl hbA hL hL2 rfl rfl (by decide) rfl dL_law_759 dL_law_760 dL_law_762 dL_law_763 dL_law_764 ?_
  refine ga_aload_n hC dL_law_765 2 rfl rfl ?_
  refine gl_callS (As := [.ref (ad 0), .int (xs (5 * n + 1)), .int (xs (5 * n + 2)), .int (xs (5 * n + 3)), .ref (ad 121)]) (st := []) (n := 5) hC hK hw (cg_in4 103 (by decide +kernel) (by decide +kernel)) (cg_in4 104 (by decide +kernel) (by decide +kernel)) (cg_in1 0 (by decide +kernel) (by decide +kernel)) (cg_in4 105 (by decide +kernel) (by decide +kernel)) rfl rfl rfl (by decide +kernel) ⟨Nat.le_trans (Nat.add_le_add_left (by decide) _) hr.1, Nat.le_trans (Nat.add_le_add_left (by decide) _) hr.2⟩ ⟨Nat.le_of_ble_eq_true rfl, Nat.le_of_ble_eq_true rfl⟩ rfl rfl (Nat.le_of_ble_eq_true rfl) dL_law_766 (fun v τ hq => ?_)
  obtain ⟨k, a1, o1, od1, rfl, rfl, h⟩ := hq
  refine ga_istore (lv' := [(6, .int k), (5, .int (Int32.ofNat (5 * n))), (4, .ref (ad 122)), (3, .ref (ad 121)), (2, .ref (ad 88)), (1, .ref (ad 0)), (0, .ref sb)]) hC dL_law_769 (by decide) rfl ?_
  refine ga_aload_n hC dL_law_771 4 rfl rfl ?_
  refine gl_arg (j := 1) 6 1 hC hX hbl hbA hL hL2 rfl rfl (by decide) rfl dL_law_772 dL_law_773 dL_law_775 dL_law_776 dL_law_777 ?_
  refine gl_arg (j := 2) 6 1 hC hX hbl hbA hL hL2 rfl rfl (by decide) rfl dL_law_778 dL_law_779 dL_law_781 dL_law_782 dL_law_783 ?_
  refine gl_arg (j := 3) 6 1 hC hX hbl hbA hL hL2 rfl rfl (by decide) rfl dL_law_784 dL_law_785 dL_law_787 dL_law_788 dL_law_789 ?_
  refine gl_callM (As := [.int (xs (5 * n + 1)), .int (xs (5 * n + 2)), .int (xs (5 * n + 3))]) (st := []) (n := 3) hC h (cg_in7 33 (by decide +kernel) (by decide +kernel)) (cg_in7 34 (by decide +kernel) (by decide +kernel)) (cg_in7 35 (by decide +kernel) (by decide +kernel)) (cg_in1 13 (by decide +kernel) (by decide +kernel)) (cg_in7 36 (by decide +kernel) (by decide +kernel)) rfl rfl rfl (by decide +kernel) ⟨Nat.le_trans (Nat.add_le_add_left (by decide) _) hr.1, Nat.le_trans (Nat.add_le_add_left (by decide) _) hr.2⟩ ⟨Nat.le_of_ble_eq_true rfl, Nat.le_of_ble_eq_true rfl⟩ rfl rfl (Nat.le_of_ble_eq_true rfl) dL_law_790 (fun v τ hq => ?_)
  obtain ⟨r2, rfl, h⟩ := hq
  refine ga_istore (lv' := [(7, .int r2), (6, .int k), (5, .int (Int32.ofNat (5 * n))), (4, .ref (ad 122)), (3, .ref (ad 121)), (2, .ref (ad 88)), (1, .ref (ad 0)), (0, .ref sb)]) hC dL_law_793 (by decide) rfl ?_
  refine ga_aload_n hC dL_law_795 5 rfl rfl ?_
  refine gl_callM (As := []) (st := []) (n := 0) hC h (cg_in6 218 (by decide +kernel) (by decide +kernel)) (cg_in6 219 (by decide +kernel) (by decide +kernel)) (cg_in6 220 (by decide +kernel) (by decide +kernel)) (cg_in1 13 (by decide +kernel) (by decide +kernel)) (cg_in6 221 (by decide +kernel) (by decide +kernel)) rfl rfl rfl (by decide +kernel) ⟨Nat.le_trans (Nat.add_le_add_left (by decide) _) hr.1, Nat.le_trans (Nat.add_le_add_left (by decide) _) hr.2⟩ ⟨Nat.le_of_ble_eq_true rfl, Nat.le_of_ble_eq_true rfl⟩ rfl rfl (Nat.le_of_ble_eq_true rfl) dL_law_796 (fun v τ hq => ?_)
  obtain ⟨t, rfl, h1, h2, h3⟩ := hq
  refine ga_iload hC dL_law_799 1 rfl ?_
  refine ga_icmp_eq (tgt := 806) hC dL_law_801 (by decide) (fun _ => ?_) (fun hc => absurd h1 hc)
  refine ga_iload hC dL_law_806 1 rfl ?_
  refine ga_if_ne (tgt := 823) hC dL_law_808 (by decide) (fun hc => ?_) (fun hc => ?_)
  · skip
    refine ga_goto (tgt := 2593) hC dL_law_823 (by decide) ?_
    refine ga_locals [2, 3, 4, 5, 6, 7] rfl ?_
    exact ga_widen (Nat.add_le_add_left (by decide) _) (Nat.add_le_add_left (by decide) _) (kk _ _ _ _ h3)
  · have h2 := h2 hc
    refine ga_aload_n hC dL_law_811 4 rfl rfl ?_
    refine ga_iconst (v := 0) hC dL_law_812 (by decide) ?_
    refine ga_lald (k := 121) (n := 1) hC (fun _ => rfl) (by decide) lw_in0 dL_law_813 ?_
    refine ga_iload hC dL_law_814 0 rfl ?_
    refine ga_i2l hC dL_law_816 ?_
    refine ga_lcmp hC dL_law_817 ?_
    refine ga_if_eq (tgt := 823) hC dL_law_818 (by decide) (fun _ => ?_) (fun hc2 => absurd (show lg_cmp (o1 0) _ = 0 by rw [h2]; exact lw_lc _) hc2)
    refine ga_goto (tgt := 2593) hC dL_law_823 (by decide) ?_
    refine ga_locals [2, 3, 4, 5, 6, 7] rfl ?_
    exact ga_widen (Nat.add_le_add_left (by decide) _) (Nat.add_le_add_left (by decide) _) (kk _ _ _ _ h3)
def OP_isWhole (Nx : cg_S → cg_S → Prop) (a b : cg_S) : Prop := M_X11_isWhole a (fun r a1 => M_X12_isWhole b (fun r2 b1 => r = r2 ∧ Nx a1 b1))
set_option maxRecDepth 100000 in
set_option maxHeartbeats 4000000 in
theorem z_isWhole {p : Program} {l : Launch} {e : Env} {s : State} {m : MethodId} {args : Array Value} {below : List Frame} {meth : Method} {c : Code} {D : va_G} {cy : Nat → ClassId} {ad : Nat → Nat} {kc ks : Nat} {ret : Option FieldType} {a b : cg_S} {o : Nat → Int64} {od : Nat → UInt64} {Z : State → Prop} {sb L n : Nat} {xs : Nat → Int32} {Nx : cg_S → cg_S → Prop} (hC : cg_X cg_WL RL cL_law 9 ret p s m args meth c D cy ad) (hK : cl_K l s ad) (hX : va_X sb L xs s s.heap) (hbl : sb < s.heap.size) (hbA : ¬ cg_F ad 123 s.heap.size sb) (hL : 5 * n + 5 ≤ L) (hL2 : L ≤ 2560) (hr : kc + 4 ≤ room_1.cells ∧ ks + 24 ≤ room_1.slots)
    (kk : ∀ (a1 b1 : cg_S) (o1 : Nat → Int64) (od1 : Nat → UInt64), Nx a1 b1 → cg_G cg_WL room_1 p l e s m args below meth c D cy ad Z (kc + 4) (ks + 24) 9 2593 [(5, .int (Int32.ofNat (5 * n))), (4, .ref (ad 122)), (3, .ref (ad 121)), (2, .ref (ad 88)), (1, .ref (ad 0)), (0, .ref sb)] [] (jn a1 b1 o1 od1))
    (h : OP_isWhole Nx  a b) : cg_G cg_WL room_1 p l e s m args below meth c D cy ad Z kc ks 9 826 [(5, .int (Int32.ofNat (5 * n))), (4, .ref (ad 122)), (3, .ref (ad 121)), (2, .ref (ad 88)), (1, .ref (ad 0)), (0, .ref sb)] [] (jn a b o od) := by
  refine ga_aload_n hC dL_law_826 4 rfl rfl ?_
  refine gl_callC (As := []) (st := []) (n := 0) hC h (cg_in2 162 (by decide +kernel) (by decide +kernel)) (cg_in2 163 (by decide +kernel) (by decide +kernel)) (cg_in2 164 (by decide +kernel) (by decide +kernel)) (cg_in1 1 (by decide +kernel) (by decide +kernel)) (cg_in2 165 (by decide +kernel) (by decide +kernel)) rfl rfl rfl (by decide +kernel) ⟨Nat.le_trans (Nat.le_add_right _ _) hr.1, Nat.le_trans (Nat.le_add_right _ _) hr.2⟩ ⟨Nat.le_of_ble_eq_true rfl, Nat.le_of_ble_eq_true rfl⟩ rfl rfl (Nat.le_of_ble_eq_true rfl) dL_law_827 (fun v τ hq => ?_)
  obtain ⟨r, rfl, h⟩ := hq
  refine ga_aload_n hC dL_law_830 3 rfl rfl ?_
  refine gl_callM (As := []) (st := [.int r]) (n := 0) hC h (cg_in7 46 (by decide +kernel) (by decide +kernel)) (cg_in7 47 (by decide +kernel) (by decide +kernel)) (cg_in7 48 (by decide +kernel) (by decide +kernel)) (cg_in1 13 (by decide +kernel) (by decide +kernel)) (cg_in7 49 (by decide +kernel) (by decide +kernel)) rfl rfl rfl (by decide +kernel) ⟨Nat.le_trans (Nat.le_add_right _ _) hr.1, Nat.le_trans (Nat.le_add_right _ _) hr.2⟩ ⟨Nat.le_of_ble_eq_true rfl, Nat.le_of_ble_eq_true rfl⟩ rfl rfl (Nat.le_of_ble_eq_true rfl) dL_law_831 (fun v τ hq => ?_)
  obtain ⟨r2, rfl, h1, h3⟩ := hq
  refine ga_icmp_eq (tgt := 2593) hC dL_law_834 (by decide) (fun _ => ?_) (fun hc => absurd h1 hc)
  refine ga_locals [0, 1, 2, 3, 4, 5] rfl ?_
  exact ga_widen (Nat.le_add_right _ _) (Nat.le_add_right _ _) (kk _ _ _ _ h3)
/-- what is to be shown of a call of above -/
def OP_above (Nx : cg_S → cg_S → Prop) (v1 v2 : Int32) (a b : cg_S) : Prop := M_X11_above v1 v2 a (fun r a1 => M_X12_above v1 v2 b (fun r2 b1 => M_X12_thrown b1 (fun t b2 => t = 0 ∧ r = r2 ∧ Nx a1 b2))) (fun E a1 => (E = "java/lang/IllegalArgumentException" ∧ M_X12_above v1 v2 b (fun r2 b1 => M_X12_thrown b1 (fun t b2 => t = 1 ∧ Nx a1 b2))) ∨ (E = "java/lang/IndexOutOfBoundsException" ∧ M_X12_above v1 v2 b (fun r2 b1 => M_X12_thrown b1 (fun t b2 => t = 2 ∧ Nx a1 b2))) ∨ (E = "java/lang/IllegalStateException" ∧ M_X12_above v1 v2 b (fun r2 b1 => M_X12_thrown b1 (fun t b2 => t = 3 ∧ Nx a1 b2))))
set_option maxRecDepth 100000 in
set_option maxHeartbeats 4000000 in
theorem z_above {p : Program} {l : Launch} {e : Env} {s : State} {m : MethodId} {args : Array Value} {below : List Frame} {meth : Method} {c : Code} {D : va_G} {cy : Nat → ClassId} {ad : Nat → Nat} {kc ks : Nat} {ret : Option FieldType} {a b : cg_S} {o : Nat → Int64} {od : Nat → UInt64} {Z : State → Prop} {sb L n : Nat} {xs : Nat → Int32} {Nx : cg_S → cg_S → Prop} (hC : cg_X cg_WL RL cL_law 9 ret p s m args meth c D cy ad) (hK : cl_K l s ad) (hX : va_X sb L xs s s.heap) (hbl : sb < s.heap.size) (hbA : ¬ cg_F ad 123 s.heap.size sb) (hL : 5 * n + 5 ≤ L) (hL2 : L ≤ 2560) (hr : kc + 4 ≤ room_1.cells ∧ ks + 24 ≤ room_1.slots)
    (kk : ∀ (a1 b1 : cg_S) (o1 : Nat → Int64) (od1 : Nat → UInt64), Nx a1 b1 → cg_G cg_WL room_1 p l e s m args below meth c D cy ad Z (kc + 4) (ks + 24) 9 2593 [(5, .int (Int32.ofNat (5 * n))), (4, .ref (ad 122)), (3, .ref (ad 121)), (2, .ref (ad 88)), (1, .ref (ad 0)), (0, .ref sb)] [] (jn a1 b1 o1 od1))
    (h : OP_above Nx (((xs (5 * n + 1)).toUInt32 % 65536).toInt32) (xs (5 * n + 2)) a b) : cg_G cg_WL room_1 p l e s m args below meth c D cy ad Z kc ks 9 839 [(5, .int (Int32.ofNat (5 * n))), (4, .ref (ad 122)), (3, .ref (ad 121)), (2, .ref (ad 88)), (1, .ref (ad 0)), (0, .ref sb)] [] (jn a b o od) := by
  have hw : M_L_above (((xs (5 * n + 1)).toUInt32 % 65536).toInt32) (xs (5 * n + 2)) a b o od (fun k a1 o1 od1 => M_X12_above (((xs (5 * n + 1)).toUInt32 % 65536).toInt32) (xs (5 * n + 2)) b (fun r2 b1 => M_X12_thrown b1 (fun t b2 => t = k ∧ (k = 0 → o1 0 = r2) ∧ Nx a1 b2))) := by
    refine w_above (M_X11_above.mono h (fun r a1 q => M_X12_above.mono q (fun r2 b1 q2 => M_X12_thrown.mono q2 (fun t b2 q3 => ⟨q3.1, fun _ => by rw [← q3.2.1]; rfl, q3.2.2⟩))) (fun E a1 q => ?_))
    rcases q with ⟨e9, q⟩ | ⟨e9, q⟩ | ⟨e9, q⟩
    · exact Or.inl ⟨e9, M_X12_above.mono q (fun r2 b1 q2 => M_X12_thrown.mono q2 (fun t b2 q3 => ⟨q3.1, fun z => absurd z (by decide), q3.2⟩))⟩
    · exact Or.inr (Or.inl ⟨e9, M_X12_above.mono q (fun r2 b1 q2 => M_X12_thrown.mono q2 (fun t b2 q3 => ⟨q3.1, fun z => absurd z (by decide), q3.2⟩))⟩)
    · exact Or.inr (Or.inr (⟨e9, M_X12_above.mono q (fun r2 b1 q2 => M_X12_thrown.mono q2 (fun t b2 q3 => ⟨q3.1, fun z => absurd z (by decide), q3.2⟩))⟩))
  refine ga_aload_n hC dL_law_839 4 rfl rfl ?_
  refine gl_arg (j := 1) 5 0 hC hX hbl hbA hL hL2 rfl rfl (by decide) rfl dL_law_840 dL_law_841 dL_law_843 dL_law_844 dL_law_845 ?_
  refine ga_i2c hC dL_law_846 ?_
  refine gl_arg (j := 2) 5 0 hC hX hbl hbA hL hL2 rfl rfl (by decide) rfl dL_law_847 dL_law_848 dL_law_850 dL_law_851 dL_law_852 ?_
  refine ga_aload_n hC dL_law_853 2 rfl rfl ?_
  refine gl_callS (As := [.ref (ad 0), .int (((xs (5 * n + 1)).toUInt32 % 65536).toInt32), .int (xs (5 * n + 2)), .ref (ad 121)]) (st := []) (n := 4) hC hK hw (cg_in4 137 (by decide +kernel) (by decide +kernel)) (cg_in4 138 (by decide +kernel) (by decide +kernel)) (cg_in1 0 (by decide +kernel) (by decide +kernel)) (cg_in4 139 (by decide +kernel) (by decide +kernel)) rfl rfl rfl (by decide +kernel) ⟨Nat.le_trans (Nat.add_le_add_left (by decide) _) hr.1, Nat.le_trans (Nat.add_le_add_left (by decide) _) hr.2⟩ ⟨Nat.le_of_ble_eq_true rfl, Nat.le_of_ble_eq_true rfl⟩ rfl rfl (Nat.le_of_ble_eq_true rfl) dL_law_854 (fun v τ hq => ?_)
  obtain ⟨k, a1, o1, od1, rfl, rfl, h⟩ := hq
  refine ga_istore (lv' := [(6, .int k), (5, .int (Int32.ofNat (5 * n))), (4, .ref (ad 122)), (3, .ref (ad 121)), (2, .ref (ad 88)), (1, .ref (ad 0)), (0, .ref sb)]) hC dL_law_857 (by decide) rfl ?_
  refine ga_aload_n hC dL_law_859 4 rfl rfl ?_
  refine gl_arg (j := 1) 6 1 hC hX hbl hbA hL hL2 rfl rfl (by decide) rfl dL_law_860 dL_law_861 dL_law_863 dL_law_864 dL_law_865 ?_
  refine ga_i2c hC dL_law_866 ?_
  refine gl_arg (j := 2) 6 1 hC hX hbl hbA hL hL2 rfl rfl (by decide) rfl dL_law_867 dL_law_868 dL_law_870 dL_law_871 dL_law_872 ?_
  refine gl_callM (As := [.int (((xs (5 * n + 1)).toUInt32 % 65536).toInt32), .int (xs (5 * n + 2))]) (st := []) (n := 2) hC h (cg_in7 54 (by decide +kernel) (by decide +kernel)) (cg_in7 55 (by decide +kernel) (by decide +kernel)) (cg_in7 56 (by decide +kernel) (by decide +kernel)) (cg_in1 13 (by decide +kernel) (by decide +kernel)) (cg_in7 57 (by decide +kernel) (by decide +kernel)) rfl rfl rfl (by decide +kernel) ⟨Nat.le_trans (Nat.add_le_add_left (by decide) _) hr.1, Nat.le_trans (Nat.add_le_add_left (by decide) _) hr.2⟩ ⟨Nat.le_of_ble_eq_true rfl, Nat.le_of_ble_eq_true rfl⟩ rfl rfl (Nat.le_of_ble_eq_true rfl) dL_law_873 (fun v τ hq => ?_)
  obtain ⟨r2, rfl, h⟩ := hq
  refine ga_lstore (lv' := [(7, .long r2), (6, .int k), (5, .int (Int32.ofNat (5 * n))), (4, .ref (ad 122)), (3, .ref (ad 121)), (2, .ref (ad 88)), (1, .ref (ad 0)), (0, .ref sb)]) hC dL_law_876 (by decide) rfl ?_
  refine ga_aload_n hC dL_law_878 5 rfl rfl ?_
  refine gl_callM (As := []) (st := []) (n := 0) hC h (cg_in6 218 (by decide +kernel) (by decide +kernel)) (cg_in6 219 (by decide +kernel) (by decide +kernel)) (cg_in6 220 (by decide +kernel) (by decide +kernel)) (cg_in1 13 (by decide +kernel) (by decide +kernel)) (cg_in6 221 (by decide +kernel) (by decide +kernel)) rfl rfl rfl (by decide +kernel) ⟨Nat.le_trans (Nat.add_le_add_left (by decide) _) hr.1, Nat.le_trans (Nat.add_le_add_left (by decide) _) hr.2⟩ ⟨Nat.le_of_ble_eq_true rfl, Nat.le_of_ble_eq_true rfl⟩ rfl rfl (Nat.le_of_ble_eq_true rfl) dL_law_879 (fun v τ hq => ?_)
  obtain ⟨t, rfl, h1, h2, h3⟩ := hq
  refine ga_iload hC dL_law_882 1 rfl ?_
  refine ga_icmp_eq (tgt := 889) hC dL_law_884 (by decide) (fun _ => ?_) (fun hc => absurd h1 hc)
  refine ga_iload hC dL_law_889 1 rfl ?_
  refine ga_if_ne (tgt := 905) hC dL_law_891 (by decide) (fun hc => ?_) (fun hc => ?_)
  · skip
    refine ga_goto (tgt := 2593) hC dL_law_905 (by decide) ?_
    refine ga_locals [2, 3, 4, 5, 6, 7] rfl ?_
    exact ga_widen (Nat.add_le_add_left (by decide) _) (Nat.add_le_add_left (by decide) _) (kk _ _ _ _ h3)
  · have h2 := h2 hc
    refine ga_aload_n hC dL_law_894 4 rfl rfl ?_
    refine ga_iconst (v := 0) hC dL_law_895 (by decide) ?_
    refine ga_lald (k := 121) (n := 1) hC (fun _ => rfl) (by decide) lw_in0 dL_law_896 ?_
    refine ga_lload hC dL_law_897 0 rfl ?_
    refine ga_lcmp hC dL_law_899 ?_
    refine ga_if_eq (tgt := 905) hC dL_law_900 (by decide) (fun _ => ?_) (fun hc2 => absurd (show lg_cmp (o1 0) _ = 0 by rw [h2]; exact lw_lc _) hc2)
    refine ga_goto (tgt := 2593) hC dL_law_905 (by decide) ?_
    refine ga_locals [2, 3, 4, 5, 6, 7] rfl ?_
    exact ga_widen (Nat.add_le_add_left (by decide) _) (Nat.add_le_add_left (by decide) _) (kk _ _ _ _ h3)
/-- what is to be shown of a call of below -/
def OP_below (Nx : cg_S → cg_S → Prop) (v1 v2 : Int32) (a b : cg_S) : Prop := M_X11_below v1 v2 a (fun r a1 => M_X12_below v1 v2 b (fun r2 b1 => M_X12_thrown b1 (fun t b2 => t = 0 ∧ r = r2 ∧ Nx a1 b2))) (fun E a1 => (E = "java/lang/IllegalArgumentException" ∧ M_X12_below v1 v2 b (fun r2 b1 => M_X12_thrown b1 (fun t b2 => t = 1 ∧ Nx a1 b2))) ∨ (E = "java/lang/IndexOutOfBoundsException" ∧ M_X12_below v1 v2 b (fun r2 b1 => M_X12_thrown b1 (fun t b2 => t = 2 ∧ Nx a1 b2))) ∨ (E = "java/lang/IllegalStateException" ∧ M_X12_below v1 v2 b (fun r2 b1 => M_X12_thrown b1 (fun t b2 => t = 3 ∧ Nx a1 b2))))
set_option maxRecDepth 100000 in
set_option maxHeartbeats 4000000 in
theorem z_below {p : Program} {l : Launch} {e : Env} {s : State} {m : MethodId} {args : Array Value} {below : List Frame} {meth : Method} {c : Code} {D : va_G} {cy : Nat → ClassId} {ad : Nat → Nat} {kc ks : Nat} {ret : Option FieldType} {a b : cg_S} {o : Nat → Int64} {od : Nat → UInt64} {Z : State → Prop} {sb L n : Nat} {xs : Nat → Int32} {Nx : cg_S → cg_S → Prop} (hC : cg_X cg_WL RL cL_law 9 ret p s m args meth c D cy ad) (hK : cl_K l s ad) (hX : va_X sb L xs s s.heap) (hbl : sb < s.heap.size) (hbA : ¬ cg_F ad 123 s.heap.size sb) (hL : 5 * n + 5 ≤ L) (hL2 : L ≤ 2560) (hr : kc + 4 ≤ room_1.cells ∧ ks + 24 ≤ room_1.slots)
    (kk : ∀ (a1 b1 : cg_S) (o1 : Nat → Int64) (od1 : Nat → UInt64), Nx a1 b1 → cg_G cg_WL room_1 p l e s m args below meth c D cy ad Z (kc + 4) (ks + 24) 9 2593 [(5, .int (Int32.ofNat (5 * n))), (4, .ref (ad 122)), (3, .ref (ad 121)), (2, .ref (ad 88)), (1, .ref (ad 0)), (0, .ref sb)] [] (jn a1 b1 o1 od1))
    (h : OP_below Nx (((xs (5 * n + 1)).toUInt32 % 65536).toInt32) (xs (5 * n + 2)) a b) : cg_G cg_WL room_1 p l e s m args below meth c D cy ad Z kc ks 9 908 [(5, .int (Int32.ofNat (5 * n))), (4, .ref (ad 122)), (3, .ref (ad 121)), (2, .ref (ad 88)), (1, .ref (ad 0)), (0, .ref sb)] [] (jn a b o od) := by
  have hw : M_L_below (((xs (5 * n + 1)).toUInt32 % 65536).toInt32) (xs (5 * n + 2)) a b o od (fun k a1 o1 od1 => M_X12_below (((xs (5 * n + 1)).toUInt32 % 65536).toInt32) (xs (5 * n + 2)) b (fun r2 b1 => M_X12_thrown b1 (fun t b2 => t = k ∧ (k = 0 → o1 0 = r2) ∧ Nx a1 b2))) := by
    refine w_below (M_X11_below.mono h (fun r a1 q => M_X12_below.mono q (fun r2 b1 q2 => M_X12_thrown.mono q2 (fun t b2 q3 => ⟨q3.1, fun _ => by rw [← q3.2.1]; rfl, q3.2.2⟩))) (fun E a1 q => ?_))
    rcases q with ⟨e9, q⟩ | ⟨e9, q⟩ | ⟨e9, q⟩
    · exact Or.inl ⟨e9, M_X12_below.mono q (fun r2 b1 q2 => M_X12_thrown.mono q2 (fun t b2 q3 => ⟨q3.1, fun z => absurd z (by decide), q3.2⟩))⟩
    · exact Or.inr (Or.inl ⟨e9, M_X12_below.mono q (fun r2 b1 q2 => M_X12_thrown.mono q2 (fun t b2 q3 => ⟨q3.1, fun z => absurd z (by decide), q3.2⟩))⟩)
    · exact Or.inr (Or.inr (⟨e9, M_X12_below.mono q (fun r2 b1 q2 => M_X12_thrown.mono q2 (fun t b2 q3 => ⟨q3.1, fun z => absurd z (by decide), q3.2⟩))⟩))
  refine ga_aload_n hC dL_law_908 4 rfl rfl ?_
  refine gl_arg (j := 1) 5 0 hC hX hbl hbA hL hL2 rfl rfl (by decide) rfl dL_law_909 dL_law_910 dL_law_912 dL_law_913 dL_law_914 ?_
  refine ga_i2c hC dL_law_915 ?_
  refine gl_arg (j := 2) 5 0 hC hX hbl hbA hL hL2 rfl rfl (by decide) rfl dL_law_916 dL_law_917 dL_law_919 dL_law_920 dL_law_921 ?_
  refine ga_aload_n hC dL_law_922 2 rfl rfl ?_
  refine gl_callS (As := [.ref (ad 0), .int (((xs (5 * n + 1)).toUInt32 % 65536).toInt32), .int (xs (5 * n + 2)), .ref (ad 121)]) (st := []) (n := 4) hC hK hw (cg_in4 170 (by decide +kernel) (by decide +kernel)) (cg_in4 171 (by decide +kernel) (by decide +kernel)) (cg_in1 0 (by decide +kernel) (by decide +kernel)) (cg_in4 172 (by decide +kernel) (by decide +kernel)) rfl rfl rfl (by decide +kernel) ⟨Nat.le_trans (Nat.add_le_add_left (by decide) _) hr.1, Nat.le_trans (Nat.add_le_add_left (by decide) _) hr.2⟩ ⟨Nat.le_of_ble_eq_true rfl, Nat.le_of_ble_eq_true rfl⟩ rfl rfl (Nat.le_of_ble_eq_true rfl) dL_law_923 (fun v τ hq => ?_)
  obtain ⟨k, a1, o1, od1, rfl, rfl, h⟩ := hq
  refine ga_istore (lv' := [(6, .int k), (5, .int (Int32.ofNat (5 * n))), (4, .ref (ad 122)), (3, .ref (ad 121)), (2, .ref (ad 88)), (1, .ref (ad 0)), (0, .ref sb)]) hC dL_law_926 (by decide) rfl ?_
  refine ga_aload_n hC dL_law_928 4 rfl rfl ?_
  refine gl_arg (j := 1) 6 1 hC hX hbl hbA hL hL2 rfl rfl (by decide) rfl dL_law_929 dL_law_930 dL_law_932 dL_law_933 dL_law_934 ?_
  refine ga_i2c hC dL_law_935 ?_
  refine gl_arg (j := 2) 6 1 hC hX hbl hbA hL hL2 rfl rfl (by decide) rfl dL_law_936 dL_law_937 dL_law_939 dL_law_940 dL_law_941 ?_
  refine gl_callM (As := [.int (((xs (5 * n + 1)).toUInt32 % 65536).toInt32), .int (xs (5 * n + 2))]) (st := []) (n := 2) hC h (cg_in7 156 (by decide +kernel) (by decide +kernel)) (cg_in7 157 (by decide +kernel) (by decide +kernel)) (cg_in7 158 (by decide +kernel) (by decide +kernel)) (cg_in1 13 (by decide +kernel) (by decide +kernel)) (cg_in7 159 (by decide +kernel) (by decide +kernel)) rfl rfl rfl (by decide +kernel) ⟨Nat.le_trans (Nat.add_le_add_left (by decide) _) hr.1, Nat.le_trans (Nat.add_le_add_left (by decide) _) hr.2⟩ ⟨Nat.le_of_ble_eq_true rfl, Nat.le_of_ble_eq_true rfl⟩ rfl rfl (Nat.le_of_ble_eq_true rfl) dL_law_942 (fun v τ hq => ?_)
  obtain ⟨r2, rfl, h⟩ := hq
  refine ga_lstore (lv' := [(7, .long r2), (6, .int k), (5, .int (Int32.ofNat (5 * n))), (4, .ref (ad 122)), (3, .ref (ad 121)), (2, .ref (ad 88)), (1, .ref (ad 0)), (0, .ref sb)]) hC dL_law_945 (by decide) rfl ?_
  refine ga_aload_n hC dL_law_947 5 rfl rfl ?_
  refine gl_callM (As := []) (st := []) (n := 0) hC h (cg_in6 218 (by decide +kernel) (by decide +kernel)) (cg_in6 219 (by decide +kernel) (by decide +kernel)) (cg_in6 220 (by decide +kernel) (by decide +kernel)) (cg_in1 13 (by decide +kernel) (by decide +kernel)) (cg_in6 221 (by decide +kernel) (by decide +kernel)) rfl rfl rfl (by decide +kernel) ⟨Nat.le_trans (Nat.add_le_add_left (by decide) _) hr.1, Nat.le_trans (Nat.add_le_add_left (by decide) _) hr.2⟩ ⟨Nat.le_of_ble_eq_true rfl, Nat.le_of_ble_eq_true rfl⟩ rfl rfl (Nat.le_of_ble_eq_true rfl) dL_law_948 (fun v τ hq => ?_)
  obtain ⟨t, rfl, h1, h2, h3⟩ := hq
  refine ga_iload hC dL_law_951 1 rfl ?_
  refine ga_icmp_eq (tgt := 958) hC dL_law_953 (by decide) (fun _ => ?_) (fun hc => absurd h1 hc)
  refine ga_iload hC dL_law_958 1 rfl ?_
  refine ga_if_ne (tgt := 974) hC dL_law_960 (by decide) (fun hc => ?_) (fun hc => ?_)
  · skip
    refine ga_goto (tgt := 2593) hC dL_law_974 (by decide) ?_
    refine ga_locals [2, 3, 4, 5, 6, 7] rfl ?_
    exact ga_widen (Nat.add_le_add_left (by decide) _) (Nat.add_le_add_left (by decide) _) (kk _ _ _ _ h3)
  · have h2 := h2 hc
    refine ga_aload_n hC dL_law_963 4 rfl rfl ?_
    refine ga_iconst (v := 0) hC dL_law_964 (by decide) ?_
    refine ga_lald (k := 121) (n := 1) hC (fun _ => rfl) (by decide) lw_in0 dL_law_965 ?_
    refine ga_lload hC dL_law_966 0 rfl ?_
    refine ga_lcmp hC dL_law_968 ?_
    refine ga_if_eq (tgt := 974) hC dL_law_969 (by decide) (fun _ => ?_) (fun hc2 => absurd (show lg_cmp (o1 0) _ = 0 by rw [h2]; exact lw_lc _) hc2)
    refine ga_goto (tgt := 2593) hC dL_law_974 (by decide) ?_
    refine ga_locals [2, 3, 4, 5, 6, 7] rfl ?_
    exact ga_widen (Nat.add_le_add_left (by decide) _) (Nat.add_le_add_left (by decide) _) (kk _ _ _ _ h3)
/-- what is to be shown of a call of aboveByAll -/
def OP_aboveByAll (Nx : cg_S → cg_S → Prop) (v1 v2 : Int32) (a b : cg_S) : Prop := M_X11_aboveByAll v1 v2 a (fun r a1 => M_X12_aboveByAll v1 v2 b (fun r2 b1 => M_X12_thrown b1 (fun t b2 => t = 0 ∧ r = r2 ∧ Nx a1 b2))) (fun E a1 => (E = "java/lang/IllegalArgumentException" ∧ M_X12_aboveByAll v1 v2 b (fun r2 b1 => M_X12_thrown b1 (fun t b2 => t = 1 ∧ Nx a1 b2))) ∨ (E = "java/lang/IndexOutOfBoundsException" ∧ M_X12_aboveByAll v1 v2 b (fun r2 b1 => M_X12_thrown b1 (fun t b2 => t = 2 ∧ Nx a1 b2))) ∨ (E = "java/lang/IllegalStateException" ∧ M_X12_aboveByAll v1 v2 b (fun r2 b1 => M_X12_thrown b1 (fun t b2 => t = 3 ∧ Nx a1 b2))))
set_option maxRecDepth 100000 in
set_option maxHeartbeats 4000000 in
theorem z_aboveByAll {p : Program} {l : Launch} {e : Env} {s : State} {m : MethodId} {args : Array Value} {below : List Frame} {meth : Method} {c : Code} {D : va_G} {cy : Nat → ClassId} {ad : Nat → Nat} {kc ks : Nat} {ret : Option FieldType} {a b : cg_S} {o : Nat → Int64} {od : Nat → UInt64} {Z : State → Prop} {sb L n : Nat} {xs : Nat → Int32} {Nx : cg_S → cg_S → Prop} (hC : cg_X cg_WL RL cL_law 9 ret p s m args meth c D cy ad) (hK : cl_K l s ad) (hX : va_X sb L xs s s.heap) (hbl : sb < s.heap.size) (hbA : ¬ cg_F ad 123 s.heap.size sb) (hL : 5 * n + 5 ≤ L) (hL2 : L ≤ 2560) (hr : kc + 4 ≤ room_1.cells ∧ ks + 24 ≤ room_1.slots)
    (kk : ∀ (a1 b1 : cg_S) (o1 : Nat → Int64) (od1 : Nat → UInt64), Nx a1 b1 → cg_G cg_WL room_1 p l e s m args below meth c D cy ad Z (kc + 4) (ks + 24) 9 2593 [(5, .int (Int32.ofNat (5 * n))), (4, .ref (ad 122)), (3, .ref (ad 121)), (2, .ref (ad 88)), (1, .ref (ad 0)), (0, .ref sb)] [] (jn a1 b1 o1 od1))
    (h : OP_aboveByAll Nx (((xs (5 * n + 1)).toUInt32 % 65536).toInt32) (xs (5 * n + 2)) a b) : cg_G cg_WL room_1 p l e s m args below meth c D cy ad Z kc ks 9 977 [(5, .int (Int32.ofNat (5 * n))), (4, .ref (ad 122)), (3, .ref (ad 121)), (2, .ref (ad 88)), (1, .ref (ad 0)), (0, .ref sb)] [] (jn a b o od) := by
  have hw : M_L_aboveByAll (((xs (5 * n + 1)).toUInt32 % 65536).toInt32) (xs (5 * n + 2)) a b o od (fun k a1 o1 od1 => M_X12_aboveByAll (((xs (5 * n + 1)).toUInt32 % 65536).toInt32) (xs (5 * n + 2)) b (fun r2 b1 => M_X12_thrown b1 (fun t b2 => t = k ∧ (k = 0 → o1 0 = r2) ∧ Nx a1 b2))) := by
    refine w_aboveByAll (M_X11_aboveByAll.mono h (fun r a1 q => M_X12_aboveByAll.mono q (fun r2 b1 q2 => M_X12_thrown.mono q2 (fun t b2 q3 => ⟨q3.1, fun _ => by rw [← q3.2.1]; rfl, q3.2.2⟩))) (fun E a1 q => ?_))
    rcases q with ⟨e9, q⟩ | ⟨e9, q⟩ | ⟨e9, q⟩
    · exact Or.inl ⟨e9, M_X12_aboveByAll.mono q (fun r2 b1 q2 => M_X12_thrown.mono q2 (fun t b2 q3 => ⟨q3.1, fun z => absurd z (by decide), q3.2⟩))⟩
    · exact Or.inr (Or.inl ⟨e9, M_X12_aboveByAll.mono q (fun r2 b1 q2 => M_X12_thrown.mono q2 (fun t b2 q3 => ⟨q3.1, fun z => absurd z (by decide), q3.2⟩))⟩)
    · exact Or.inr (Or.inr (⟨e9, M_X12_aboveByAll.mono q (fun r2 b1 q2 => M_X12_thrown.mono q2 (fun t b2 q3 => ⟨q3.1, fun z => absurd z (by decide), q3.2⟩))⟩))
  refine ga_aload_n hC dL_law_977 4 rfl rfl ?_
  refine gl_arg (j := 1) 5 0 hC hX hbl hbA hL hL2 rfl rfl (by decide) rfl dL_law_978 dL_law_979 dL_law_981 dL_law_982 dL_law_983 ?_
  refine ga_i2c hC dL_law_984 ?_
  refine gl_arg (j := 2) 5 0 hC hX hbl hbA hL hL2 rfl rfl (by decide) rfl dL_law_985 dL_law_986 dL_law_988 dL_law_989 dL_law_990 ?_
  refine ga_aload_n hC dL_law_991 2 rfl rfl ?_
  refine gl_callS (As := [.ref (ad 0), .int (((xs (5 * n + 1)).toUInt32 % 65536).toInt32), .int (xs (5 * n + 2)), .ref (ad 121)]) (st := []) (n := 4) hC hK hw (cg_in4 182 (by decide +kernel) (by decide +kernel)) (cg_in4 183 (by decide +kernel) (by decide +kernel)) (cg_in1 0 (by decide +kernel) (by decide +kernel)) (cg_in4 184 (by decide +kernel) (by decide +kernel)) rfl rfl rfl (by decide +kernel) ⟨Nat.le_trans (Nat.add_le_add_left (by decide) _) hr.1, Nat.le_trans (Nat.add_le_add_left (by decide) _) hr.2⟩ ⟨Nat.le_of_ble_eq_true rfl, Nat.le_of_ble_eq_true rfl⟩ rfl rfl (Nat.le_of_ble_eq_true rfl) dL_law_992 (fun v τ hq => ?_)
  obtain ⟨k, a1, o1, od1, rfl, rfl, h⟩ := hq
  refine ga_istore (lv' := [(6, .int k), (5, .int (Int32.ofNat (5 * n))), (4, .ref (ad 122)), (3, .ref (ad 121)), (2, .ref (ad 88)), (1, .ref (ad 0)), (0, .ref sb)]) hC dL_law_995 (by decide) rfl ?_
  refine ga_aload_n hC dL_law_997 4 rfl rfl ?_
  refine gl_arg (j := 1) 6 1 hC hX hbl hbA hL hL2 rfl rfl (by decide) rfl dL_law_998 dL_law_999 dL_law_1001 dL_law_1002 dL_law_1003 ?_
  refine ga_i2c hC dL_law_1004 ?_
  refine gl_arg (j := 2) 6 1 hC hX hbl hbA hL hL2 rfl rfl (by decide) rfl dL_law_1005 dL_law_1006 dL_law_1008 dL_law_1009 dL_law_1010 ?_
  refine gl_callM (As := [.int (((xs (5 * n + 1)).toUInt32 % 65536).toInt32), .int (xs (5 * n + 2))]) (st := []) (n := 2) hC h (cg_in7 160 (by decide +kernel) (by decide +kernel)) (cg_in7 161 (by decide +kernel) (by decide +kernel)) (cg_in7 162 (by decide +kernel) (by decide +kernel)) (cg_in1 13 (by decide +kernel) (by decide +kernel)) (cg_in7 163 (by decide +kernel) (by decide +kernel)) rfl rfl rfl (by decide +kernel) ⟨Nat.le_trans (Nat.add_le_add_left (by decide) _) hr.1, Nat.le_trans (Nat.add_le_add_left (by decide) _) hr.2⟩ ⟨Nat.le_of_ble_eq_true rfl, Nat.le_of_ble_eq_true rfl⟩ rfl rfl (Nat.le_of_ble_eq_true rfl) dL_law_1011 (fun v τ hq => ?_)
  obtain ⟨r2, rfl, h⟩ := hq
  refine ga_lstore (lv' := [(7, .long r2), (6, .int k), (5, .int (Int32.ofNat (5 * n))), (4, .ref (ad 122)), (3, .ref (ad 121)), (2, .ref (ad 88)), (1, .ref (ad 0)), (0, .ref sb)]) hC dL_law_1014 (by decide) rfl ?_
  refine ga_aload_n hC dL_law_1016 5 rfl rfl ?_
  refine gl_callM (As := []) (st := []) (n := 0) hC h (cg_in6 218 (by decide +kernel) (by decide +kernel)) (cg_in6 219 (by decide +kernel) (by decide +kernel)) (cg_in6 220 (by decide +kernel) (by decide +kernel)) (cg_in1 13 (by decide +kernel) (by decide +kernel)) (cg_in6 221 (by decide +kernel) (by decide +kernel)) rfl rfl rfl (by decide +kernel) ⟨Nat.le_trans (Nat.add_le_add_left (by decide) _) hr.1, Nat.le_trans (Nat.add_le_add_left (by decide) _) hr.2⟩ ⟨Nat.le_of_ble_eq_true rfl, Nat.le_of_ble_eq_true rfl⟩ rfl rfl (Nat.le_of_ble_eq_true rfl) dL_law_1017 (fun v τ hq => ?_)
  obtain ⟨t, rfl, h1, h2, h3⟩ := hq
  refine ga_iload hC dL_law_1020 1 rfl ?_
  refine ga_icmp_eq (tgt := 1027) hC dL_law_1022 (by decide) (fun _ => ?_) (fun hc => absurd h1 hc)
  refine ga_iload hC dL_law_1027 1 rfl ?_
  refine ga_if_ne (tgt := 1043) hC dL_law_1029 (by decide) (fun hc => ?_) (fun hc => ?_)
  · skip
    refine ga_goto (tgt := 2593) hC dL_law_1043 (by decide) ?_
    refine ga_locals [2, 3, 4, 5, 6, 7] rfl ?_
    exact ga_widen (Nat.add_le_add_left (by decide) _) (Nat.add_le_add_left (by decide) _) (kk _ _ _ _ h3)
  · have h2 := h2 hc
    refine ga_aload_n hC dL_law_1032 4 rfl rfl ?_
    refine ga_iconst (v := 0) hC dL_law_1033 (by decide) ?_
    refine ga_lald (k := 121) (n := 1) hC (fun _ => rfl) (by decide) lw_in0 dL_law_1034 ?_
    refine ga_lload hC dL_law_1035 0 rfl ?_
    refine ga_lcmp hC dL_law_1037 ?_
    refine ga_if_eq (tgt := 1043) hC dL_law_1038 (by decide) (fun _ => ?_) (fun hc2 => absurd (show lg_cmp (o1 0) _ = 0 by rw [h2]; exact lw_lc _) hc2)
    refine ga_goto (tgt := 2593) hC dL_law_1043 (by decide) ?_
    refine ga_locals [2, 3, 4, 5, 6, 7] rfl ?_
    exact ga_widen (Nat.add_le_add_left (by decide) _) (Nat.add_le_add_left (by decide) _) (kk _ _ _ _ h3)
/-- what is to be shown of a call of belowByAll -/
def OP_belowByAll (Nx : cg_S → cg_S → Prop) (v1 v2 : Int32) (a b : cg_S) : Prop := M_X11_belowByAll v1 v2 a (fun r a1 => M_X12_belowByAll v1 v2 b (fun r2 b1 => M_X12_thrown b1 (fun t b2 => t = 0 ∧ r = r2 ∧ Nx a1 b2))) (fun E a1 => (E = "java/lang/IllegalArgumentException" ∧ M_X12_belowByAll v1 v2 b (fun r2 b1 => M_X12_thrown b1 (fun t b2 => t = 1 ∧ Nx a1 b2))) ∨ (E = "java/lang/IndexOutOfBoundsException" ∧ M_X12_belowByAll v1 v2 b (fun r2 b1 => M_X12_thrown b1 (fun t b2 => t = 2 ∧ Nx a1 b2))) ∨ (E = "java/lang/IllegalStateException" ∧ M_X12_belowByAll v1 v2 b (fun r2 b1 => M_X12_thrown b1 (fun t b2 => t = 3 ∧ Nx a1 b2))))
set_option maxRecDepth 100000 in
set_option maxHeartbeats 4000000 in
theorem z_belowByAll {p : Program} {l : Launch} {e : Env} {s : State} {m : MethodId} {args : Array Value} {below : List Frame} {meth : Method} {c : Code} {D : va_G} {cy : Nat → ClassId} {ad : Nat → Nat} {kc ks : Nat} {ret : Option FieldType} {a b : cg_S} {o : Nat → Int64} {od : Nat → UInt64} {Z : State → Prop} {sb L n : Nat} {xs : Nat → Int32} {Nx : cg_S → cg_S → Prop} (hC : cg_X cg_WL RL cL_law 9 ret p s m args meth c D cy ad) (hK : cl_K l s ad) (hX : va_X sb L xs s s.heap) (hbl : sb < s.heap.size) (hbA : ¬ cg_F ad 123 s.heap.size sb) (hL : 5 * n + 5 ≤ L) (hL2 : L ≤ 2560) (hr : kc + 4 ≤ room_1.cells ∧ ks + 24 ≤ room_1.slots)
    (kk : ∀ (a1 b1 : cg_S) (o1 : Nat → Int64) (od1 : Nat → UInt64), Nx a1 b1 → cg_G cg_WL room_1 p l e s m args below meth c D cy ad Z (kc + 4) (ks + 24) 9 2593 [(5, .int (Int32.ofNat (5 * n))), (4, .ref (ad 122)), (3, .ref (ad 121)), (2, .ref (ad 88)), (1, .ref (ad 0)), (0, .ref sb)] [] (jn a1 b1 o1 od1))
    (h : OP_belowByAll Nx (((xs (5 * n + 1)).toUInt32 % 65536).toInt32) (xs (5 * n + 2)) a b) : cg_G cg_WL room_1 p l e s m args below meth c D cy ad Z kc ks 9 1046 [(5, .int (Int32.ofNat (5 * n))), (4, .ref (ad 122)), (3, .ref (ad 121)), (2, .ref (ad 88)), (1, .ref (ad 0)), (0, .ref sb)] [] (jn a b o od) := by
  have hw : M_L_belowByAll (((xs (5 * n + 1)).toUInt32 % 65536).toInt32) (xs (5 * n + 2)) a b o od (fun k a1 o1 od1 => M_X12_belowByAll (((xs (5 * n + 1)).toUInt32 % 65536).toInt32) (xs (5 * n + 2)) b (fun r2 b1 => M_X12_thrown b1 (fun t b2 => t = k ∧ (k = 0 → o1 0 = r2) ∧ Nx a1 b2))) := by
    refine w_belowByAll (M_X11_belowByAll.mono h (fun r a1 q => M_X12_belowByAll.mono q (fun r2 b1 q2 => M_X12_thrown.mono q2 (fun t b2 q3 => ⟨q3.1, fun _ => by rw [← q3.2.1]; rfl, q3.2.2⟩))) (fun E a1 q => ?_))
    rcases q with ⟨e9, q⟩ | ⟨e9, q⟩ | ⟨e9, q⟩
    · exact Or.inl ⟨e9, M_X12_belowByAll.mono q (fun r2 b1 q2 => M_X12_thrown.mono q2 (fun t b2 q3 => ⟨q3.1, fun z => absurd z (by decide), q3.2⟩))⟩
    · exact Or.inr (Or.inl ⟨e9, M_X12_belowByAll.mono q (fun r2 b1 q2 => M_X12_thrown.mono q2 (fun t b2 q3 => ⟨q3.1, fun z => absurd z (by decide), q3.2⟩))⟩)
    · exact Or.inr (Or.inr (⟨e9, M_X12_belowByAll.mono q (fun r2 b1 q2 => M_X12_thrown.mono q2 (fun t b2 q3 => ⟨q3.1, fun z => absurd z (by decide), q3.2⟩))⟩))
  refine ga_aload_n hC dL_law_1046 4 rfl rfl ?_
  refine gl_arg (j := 1) 5 0 hC hX hbl hbA hL hL2 rfl rfl (by decide) rfl dL_law_1047 dL_law_1048 dL_law_1050 dL_law_1051 dL_law_1052 ?_
  refine ga_i2c hC dL_law_1053 ?_
  refine gl_arg (j := 2) 5 0 hC hX hbl hbA hL hL2 rfl rfl (by decide) rfl dL_law_1054 dL_law_1055 dL_law_1057 dL_law_1058 dL_law_1059 ?_
  refine ga_aload_n hC dL_law_1060 2 rfl rfl ?_
  refine gl_callS (As := [.ref (ad 0), .int (((xs (5 * n + 1)).toUInt32 % 65536).toInt32), .int (xs (5 * n + 2)), .ref (ad 121)]) (st := []) (n := 4) hC hK hw (cg_in4 189 (by decide +kernel) (by decide +kernel)) (cg_in4 190 (by decide +kernel) (by decide +kernel)) (cg_in1 0 (by decide +kernel) (by decide +kernel)) (cg_in4 191 (by decide +kernel) (by decide +kernel)) rfl rfl rfl (by decide +kernel) ⟨Nat.le_trans (Nat.add_le_add_left (by decide) _) hr.1, Nat.le_trans (Nat.add_le_add_left (by decide) _) hr.2⟩ ⟨Nat.le_of_ble_eq_true rfl, Nat.le_of_ble_eq_true rfl⟩ rfl rfl (Nat.le_of_ble_eq_true rfl) dL_law_1061 (fun v τ hq => ?_)
  obtain ⟨k, a1, o1, od1, rfl, rfl, h⟩ := hq
  refine ga_istore (lv' := [(6, .int k), (5, .int (Int32.ofNat (5 * n))), (4, .ref (ad 122)), (3, .ref (ad 121)), (2, .ref (ad 88)), (1, .ref (ad 0)), (0, .ref sb)]) hC dL_law_1064 (by decide) rfl ?_
  refine ga_aload_n hC dL_law_1066 4 rfl rfl ?_
  refine gl_arg (j := 1) 6 1 hC hX hbl hbA hL hL2 rfl rfl (by decide) rfl dL_law_1067 dL_law_1068 dL_law_1070 dL_law_1071 dL_law_1072 ?_
  refine ga_i2c hC dL_law_1073 ?_
  refine gl_arg (j := 2) 6 1 hC hX hbl hbA hL hL2 rfl rfl (by decide) rfl dL_law_1074 dL_law_1075 dL_law_1077 dL_law_1078 dL_law_1079 ?_
  refine gl_callM (As := [.int (((xs (5 * n + 1)).toUInt32 % 65536).toInt32), .int (xs (5 * n + 2))]) (st := []) (n := 2) hC h (cg_in7 165 (by decide +kernel) (by decide +kernel)) (cg_in7 166 (by decide +kernel) (by decide +kernel)) (cg_in7 167 (by decide +kernel) (by decide +kernel)) (cg_in1 13 (by decide +kernel) (by decide +kernel)) (cg_in7 168 (by decide +kernel) (by decide +kernel)) rfl rfl rfl (by decide +kernel) ⟨Nat.le_trans (Nat.add_le_add_left (by decide) _) hr.1, Nat.le_trans (Nat.add_le_add_left (by decide) _) hr.2⟩ ⟨Nat.le_of_ble_eq_true rfl, Nat.le_of_ble_eq_true rfl⟩ rfl rfl (Nat.le_of_ble_eq_true rfl) dL_law_1080 (fun v τ hq => ?_)
  obtain ⟨r2, rfl, h⟩ := hq
  refine ga_lstore (lv' := [(7, .long r2), (6, .int k), (5, .int (Int32.ofNat (5 * n))), (4, .ref (ad 122)), (3, .ref (ad 121)), (2, .ref (ad 88)), (1, .ref (ad 0)), (0, .ref sb)]) hC dL_law_1083 (by decide) rfl ?_
  refine ga_aload_n hC dL_law_1085 5 rfl rfl ?_
  refine gl_callM (As := []) (st := []) (n := 0) hC h (cg_in6 218 (by decide +kernel) (by decide +kernel)) (cg_in6 219 (by decide +kernel) (by decide +kernel)) (cg_in6 220 (by decide +kernel) (by decide +kernel)) (cg_in1 13 (by decide +kernel) (by decide +kernel)) (cg_in6 221 (by decide +kernel) (by decide +kernel)) rfl rfl rfl (by decide +kernel) ⟨Nat.le_trans (Nat.add_le_add_left (by decide) _) hr.1, Nat.le_trans (Nat.add_le_add_left (by decide) _) hr.2⟩ ⟨Nat.le_of_ble_eq_true rfl, Nat.le_of_ble_eq_true rfl⟩ rfl rfl (Nat.le_of_ble_eq_true rfl) dL_law_1086 (fun v τ hq => ?_)
  obtain ⟨t, rfl, h1, h2, h3⟩ := hq
  refine ga_iload hC dL_law_1089 1 rfl ?_
  refine ga_icmp_eq (tgt := 1096) hC dL_law_1091 (by decide) (fun _ => ?_) (fun hc => absurd h1 hc)
  refine ga_iload hC dL_law_1096 1 rfl ?_
  refine ga_if_ne (tgt := 1112) hC dL_law_1098 (by decide) (fun hc => ?_) (fun hc => ?_)
  · skip
    refine ga_goto (tgt := 2593) hC dL_law_1112 (by decide) ?_
    refine ga_locals [2, 3, 4, 5, 6, 7] rfl ?_
    exact ga_widen (Nat.add_le_add_left (by decide) _) (Nat.add_le_add_left (by decide) _) (kk _ _ _ _ h3)
  · have h2 := h2 hc
    refine ga_aload_n hC dL_law_1101 4 rfl rfl ?_
    refine ga_iconst (v := 0) hC dL_law_1102 (by decide) ?_
    refine ga_lald (k := 121) (n := 1) hC (fun _ => rfl) (by decide) lw_in0 dL_law_1103 ?_
    refine ga_lload hC dL_law_1104 0 rfl ?_
    refine ga_lcmp hC dL_law_1106 ?_
    refine ga_if_eq (tgt := 1112) hC dL_law_1107 (by decide) (fun _ => ?_) (fun hc2 => absurd (show lg_cmp (o1 0) _ = 0 by rw [h2]; exact lw_lc _) hc2)
    refine ga_goto (tgt := 2593) hC dL_law_1112 (by decide) ?_
    refine ga_locals [2, 3, 4, 5, 6, 7] rfl ?_
    exact ga_widen (Nat.add_le_add_left (by decide) _) (Nat.add_le_add_left (by decide) _) (kk _ _ _ _ h3)
/-- what is to be shown of a call of valueFloat -/
def OP_valueFloat (Nx : cg_S → cg_S → Prop) (v1 v2 : Int32) (a b : cg_S) : Prop := M_X11_valueFloat v1 v2 a (fun r a1 => vf_n64 (FP.f2d r) ∧ M_X12_valueFloat v1 v2 b (fun r2 b1 => M_X12_thrown b1 (fun t b2 => t = 0 ∧ r = r2 ∧ Nx a1 b2))) (fun E a1 => (E = "java/lang/IllegalArgumentException" ∧ M_X12_valueFloat v1 v2 b (fun r2 b1 => M_X12_thrown b1 (fun t b2 => t = 1 ∧ Nx a1 b2))) ∨ (E = "java/lang/IndexOutOfBoundsException" ∧ M_X12_valueFloat v1 v2 b (fun r2 b1 => M_X12_thrown b1 (fun t b2 => t = 2 ∧ Nx a1 b2))) ∨ (E = "java/lang/IllegalStateException" ∧ M_X12_valueFloat v1 v2 b (fun r2 b1 => M_X12_thrown b1 (fun t b2 => t = 3 ∧ Nx a1 b2))))
set_option maxRecDepth 100000 in
set_option maxHeartbeats 4000000 in
theorem z_valueFloat {p : Program} {l : Launch} {e : Env} {s : State} {m : MethodId} {args : Array Value} {below : List Frame} {meth : Method} {c : Code} {D : va_G} {cy : Nat → ClassId} {ad : Nat → Nat} {kc ks : Nat} {ret : Option FieldType} {a b : cg_S} {o : Nat → Int64} {od : Nat → UInt64} {Z : State → Prop} {sb L n : Nat} {xs : Nat → Int32} {Nx : cg_S → cg_S → Prop} (hC : cg_X cg_WL RL cL_law 9 ret p s m args meth c D cy ad) (hK : cl_K l s ad) (hX : va_X sb L xs s s.heap) (hbl : sb < s.heap.size) (hbA : ¬ cg_F ad 123 s.heap.size sb) (hL : 5 * n + 5 ≤ L) (hL2 : L ≤ 2560) (hr : kc + 4 ≤ room_1.cells ∧ ks + 24 ≤ room_1.slots)
    (kk : ∀ (a1 b1 : cg_S) (o1 : Nat → Int64) (od1 : Nat → UInt64), Nx a1 b1 → cg_G cg_WL room_1 p l e s m args below meth c D cy ad Z (kc + 4) (ks + 24) 9 2593 [(5, .int (Int32.ofNat (5 * n))), (4, .ref (ad 122)), (3, .ref (ad 121)), (2, .ref (ad 88)), (1, .ref (ad 0)), (0, .ref sb)] [] (jn a1 b1 o1 od1))
    (h : OP_valueFloat Nx (((xs (5 * n + 1)).toUInt32 % 65536).toInt32) (xs (5 * n + 2)) a b) : cg_G cg_WL room_1 p l e s m args below meth c D cy ad Z kc ks 9 1115 [(5, .int (Int32.ofNat (5 * n))), (4, .ref (ad 122)), (3, .ref (ad 121)), (2, .ref (ad 88)), (1, .ref (ad 0)), (0, .ref sb)] [] (jn a b o od) := by
  have hw : M_L_valueFloat (((xs (5 * n + 1)).toUInt32 % 65536).toInt32) (xs (5 * n + 2)) a b o od (fun k a1 o1 od1 => M_X12_valueFloat (((xs (5 * n + 1)).toUInt32 % 65536).toInt32) (xs (5 * n + 2)) b (fun r2 b1 => M_X12_thrown b1 (fun t b2 => t = k ∧ (k = 0 → vf_n64 (FP.f2d r2) ∧ od1 0 = FP.f2d r2) ∧ Nx a1 b2))) := by
    refine w_valueFloat (M_X11_valueFloat.mono h (fun r a1 q => ⟨q.1, M_X12_valueFloat.mono q.2 (fun r2 b1 q2 => M_X12_thrown.mono q2 (fun t b2 q3 => ⟨q3.1, fun _ => by rw [← q3.2.1]; exact ⟨q.1, rfl⟩, q3.2.2⟩))⟩) (fun E a1 q => ?_))
    rcases q with ⟨e9, q⟩ | ⟨e9, q⟩ | ⟨e9, q⟩
    · exact Or.inl ⟨e9, M_X12_valueFloat.mono q (fun r2 b1 q2 => M_X12_thrown.mono q2 (fun t b2 q3 => ⟨q3.1, fun z => absurd z (by decide), q3.2⟩))⟩
    · exact Or.inr (Or.inl ⟨e9, M_X12_valueFloat.mono q (fun r2 b1 q2 => M_X12_thrown.mono q2 (fun t b2 q3 => ⟨q3.1, fun z => absurd z (by decide), q3.2⟩))⟩)
    · exact Or.inr (Or.inr (⟨e9, M_X12_valueFloat.mono q (fun r2 b1 q2 => M_X12_thrown.mono q2 (fun t b2 q3 => ⟨q3.1, fun z => absurd z (by decide), q3.2⟩))⟩))
  refine ga_aload_n hC dL_law_1115 4 rfl rfl ?_
  refine gl_arg (j := 1) 5 0 hC hX hbl hbA hL hL2 rfl rfl (by decide) rfl dL_law_1116 dL_law_1117 dL_law_1119 dL_law_1120 dL_law_1121 ?_
  refine ga_i2c hC dL_law_1122 ?_
  refine gl_arg (j := 2) 5 0 hC hX hbl hbA hL hL2 rfl rfl (by decide) rfl dL_law_1123 dL_law_1124 dL_law_1126 dL_law_1127 dL_law_1128 ?_
  refine ga_aload hC dL_law_1129 1 rfl ?_
  refine gl_callS (As := [.ref (ad 0), .int (((xs (5 * n + 1)).toUInt32 % 65536).toInt32), .int (xs (5 * n + 2)), .ref (ad 122)]) (st := []) (n := 4) hC hK hw (cg_in4 196 (by decide +kernel) (by decide +kernel)) (cg_in4 197 (by decide +kernel) (by decide +kernel)) (cg_in1 0 (by decide +kernel) (by decide +kernel)) (cg_in4 198 (by decide +kernel) (by decide +kernel)) rfl rfl rfl (by decide +kernel) ⟨Nat.le_trans (Nat.add_le_add_left (by decide) _) hr.1, Nat.le_trans (Nat.add_le_add_left (by decide) _) hr.2⟩ ⟨Nat.le_of_ble_eq_true rfl, Nat.le_of_ble_eq_true rfl⟩ rfl rfl (Nat.le_of_ble_eq_true rfl) dL_law_1131 (fun v τ hq => ?_)
  obtain ⟨k, a1, o1, od1, rfl, rfl, h⟩ := hq
  refine ga_istore (lv' := [(6, .int k), (5, .int (Int32.ofNat (5 * n))), (4, .ref (ad 122)), (3, .ref (ad 121)), (2, .ref (ad 88)), (1, .ref (ad 0)), (0, .ref sb)]) hC dL_law_1134 (by decide) rfl ?_
  refine ga_aload_n hC dL_law_1136 4 rfl rfl ?_
  refine gl_arg (j := 1) 6 1 hC hX hbl hbA hL hL2 rfl rfl (by decide) rfl dL_law_1137 dL_law_1138 dL_law_1140 dL_law_1141 dL_law_1142 ?_
  refine ga_i2c hC dL_law_1143 ?_
  refine gl_arg (j := 2) 6 1 hC hX hbl hbA hL hL2 rfl rfl (by decide) rfl dL_law_1144 dL_law_1145 dL_law_1147 dL_law_1148 dL_law_1149 ?_
  refine gl_callM (As := [.int (((xs (5 * n + 1)).toUInt32 % 65536).toInt32), .int (xs (5 * n + 2))]) (st := []) (n := 2) hC h (cg_in7 170 (by decide +kernel) (by decide +kernel)) (cg_in7 171 (by decide +kernel) (by decide +kernel)) (cg_in7 172 (by decide +kernel) (by decide +kernel)) (cg_in1 13 (by decide +kernel) (by decide +kernel)) (cg_in7 173 (by decide +kernel) (by decide +kernel)) rfl rfl rfl (by decide +kernel) ⟨Nat.le_trans (Nat.add_le_add_left (by decide) _) hr.1, Nat.le_trans (Nat.add_le_add_left (by decide) _) hr.2⟩ ⟨Nat.le_of_ble_eq_true rfl, Nat.le_of_ble_eq_true rfl⟩ rfl rfl (Nat.le_of_ble_eq_true rfl) dL_law_1150 (fun v τ hq => ?_)
  obtain ⟨r2, rfl, h⟩ := hq
  refine ga_fstore (lv' := [(7, .float r2), (6, .int k), (5, .int (Int32.ofNat (5 * n))), (4, .ref (ad 122)), (3, .ref (ad 121)), (2, .ref (ad 88)), (1, .ref (ad 0)), (0, .ref sb)]) hC dL_law_1153 (by decide) rfl ?_
  refine ga_aload_n hC dL_law_1155 5 rfl rfl ?_
  refine gl_callM (As := []) (st := []) (n := 0) hC h (cg_in6 218 (by decide +kernel) (by decide +kernel)) (cg_in6 219 (by decide +kernel) (by decide +kernel)) (cg_in6 220 (by decide +kernel) (by decide +kernel)) (cg_in1 13 (by decide +kernel) (by decide +kernel)) (cg_in6 221 (by decide +kernel) (by decide +kernel)) rfl rfl rfl (by decide +kernel) ⟨Nat.le_trans (Nat.add_le_add_left (by decide) _) hr.1, Nat.le_trans (Nat.add_le_add_left (by decide) _) hr.2⟩ ⟨Nat.le_of_ble_eq_true rfl, Nat.le_of_ble_eq_true rfl⟩ rfl rfl (Nat.le_of_ble_eq_true rfl) dL_law_1156 (fun v τ hq => ?_)
  obtain ⟨t, rfl, h1, h2, h3⟩ := hq
  refine ga_iload hC dL_law_1159 1 rfl ?_
  refine ga_icmp_eq (tgt := 1166) hC dL_law_1161 (by decide) (fun _ => ?_) (fun hc => absurd h1 hc)
  refine ga_iload hC dL_law_1166 1 rfl ?_
  refine ga_if_ne (tgt := 1204) hC dL_law_1168 (by decide) (fun hc => ?_) (fun hc => ?_)
  · skip
    refine ga_goto (tgt := 2593) hC dL_law_1204 (by decide) ?_
    refine ga_locals [2, 3, 4, 5, 6, 7] rfl ?_
    exact ga_widen (Nat.add_le_add_left (by decide) _) (Nat.add_le_add_left (by decide) _) (kk _ _ _ _ h3)
  · have h2 := h2 hc
    refine ga_aload hC dL_law_1171 3 rfl ?_
    refine ga_iconst (v := 0) hC dL_law_1173 (by decide) ?_
    refine ga_dald (k := 122) (n := 1) hC (fun _ => rfl) (by decide) lw_in0 dL_law_1174 ?_
    refine ga_fload hC dL_law_1175 0 rfl ?_
    refine ga_f2d hC dL_law_1177 h2.1 ?_
    refine ga_dcmp hC dL_law_1178 ?_
    refine ga_if_eq (tgt := 1204) hC dL_law_1179 (by decide) (fun _ => ?_) (fun hc2 => absurd (show Op.cmpValue (FP.dcmp (od1 0) _) .l = 0 by rw [h2.2]; exact lw_dc h2.1) hc2)
    refine ga_goto (tgt := 2593) hC dL_law_1204 (by decide) ?_
    refine ga_locals [2, 3, 4, 5, 6, 7] rfl ?_
    exact ga_widen (Nat.add_le_add_left (by decide) _) (Nat.add_le_add_left (by decide) _) (kk _ _ _ _ h3)
/-- what is to be shown of a call of restFloat -/
def OP_restFloat (Nx : cg_S → cg_S → Prop) (v1 v2 : Int32) (a b : cg_S) : Prop := M_X11_restFloat v1 v2 a (fun r a1 => vf_n64 (FP.f2d r) ∧ M_X12_restFloat v1 v2 b (fun r2 b1 => M_X12_thrown b1 (fun t b2 => t = 0 ∧ r = r2 ∧ Nx a1 b2))) (fun E a1 => (E = "java/lang/IllegalArgumentException" ∧ M_X12_restFloat v1 v2 b (fun r2 b1 => M_X12_thrown b1 (fun t b2 => t = 1 ∧ Nx a1 b2))) ∨ (E = "java/lang/IndexOutOfBoundsException" ∧ M_X12_restFloat v1 v2 b (fun r2 b1 => M_X12_thrown b1 (fun t b2 => t = 2 ∧ Nx a1 b2))) ∨ (E = "java/lang/IllegalStateException" ∧ M_X12_restFloat v1 v2 b (fun r2 b1 => M_X12_thrown b1 (fun t b2 => t = 3 ∧ Nx a1 b2))))
set_option maxRecDepth 100000 in
set_option maxHeartbeats 4000000 in
theorem z_restFloat {p : Program} {l : Launch} {e : Env} {s : State} {m : MethodId} {args : Array Value} {below : List Frame} {meth : Method} {c : Code} {D : va_G} {cy : Nat → ClassId} {ad : Nat → Nat} {kc ks : Nat} {ret : Option FieldType} {a b : cg_S} {o : Nat → Int64} {od : Nat → UInt64} {Z : State → Prop} {sb L n : Nat} {xs : Nat → Int32} {Nx : cg_S → cg_S → Prop} (hC : cg_X cg_WL RL cL_law 9 ret p s m args meth c D cy ad) (hK : cl_K l s ad) (hX : va_X sb L xs s s.heap) (hbl : sb < s.heap.size) (hbA : ¬ cg_F ad 123 s.heap.size sb) (hL : 5 * n + 5 ≤ L) (hL2 : L ≤ 2560) (hr : kc + 4 ≤ room_1.cells ∧ ks + 24 ≤ room_1.slots)
    (kk : ∀ (a1 b1 : cg_S) (o1 : Nat → Int64) (od1 : Nat → UInt64), Nx a1 b1 → cg_G cg_WL room_1 p l e s m args below meth c D cy ad Z (kc + 4) (ks + 24) 9 2593 [(5, .int (Int32.ofNat (5 * n))), (4, .ref (ad 122)), (3, .ref (ad 121)), (2, .ref (ad 88)), (1, .ref (ad 0)), (0, .ref sb)] [] (jn a1 b1 o1 od1))
    (h : OP_restFloat Nx (((xs (5 * n + 1)).toUInt32 % 65536).toInt32) (xs (5 * n + 2)) a b) : cg_G cg_WL room_1 p l e s m args below meth c D cy ad Z kc ks 9 1207 [(5, .int (Int32.ofNat (5 * n))), (4, .ref (ad 122)), (3, .ref (ad 121)), (2, .ref (ad 88)), (1, .ref (ad 0)), (0, .ref sb)] [] (jn a b o od) := by
  have hw : M_L_restFloat (((xs (5 * n + 1)).toUInt32 % 65536).toInt32) (xs (5 * n + 2)) a b o od (fun k a1 o1 od1 => M_X12_restFloat (((xs (5 * n + 1)).toUInt32 % 65536).toInt32) (xs (5 * n + 2)) b (fun r2 b1 => M_X12_thrown b1 (fun t b2 => t = k ∧ (k = 0 → vf_n64 (FP.f2d r2) ∧ od1 0 = FP.f2d r2) ∧ Nx a1 b2))) := by
    refine w_restFloat (M_X11_restFloat.mono h (fun r a1 q => ⟨q.1, M_X12_restFloat.mono q.2 (fun r2 b1 q2 => M_X12_thrown.mono q2 (fun t b2 q3 => ⟨q3.1, fun _ => by rw [← q3.2.1]; exact ⟨q.1, rfl⟩, q3.2.2⟩))⟩) (fun E a1 q => ?_))
    rcases q with ⟨e9, q⟩ | ⟨e9, q⟩ | ⟨e9, q⟩
    · exact Or.inl ⟨e9, M_X12_restFloat.mono q (fun r2 b1 q2 => M_X12_thrown.mono q2 (fun t b2 q3 => ⟨q3.1, fun z => absurd z (by decide), q3.2⟩))⟩
    · exact Or.inr (Or.inl ⟨e9, M_X12_restFloat.mono q (fun r2 b1 q2 => M_X12_thrown.mono q2 (fun t b2 q3 => ⟨q3.1, fun z => absurd z (by decide), q3.2⟩))⟩)
    · exact Or.inr (Or.inr (⟨e9, M_X12_restFloat.mono q (fun r2 b1 q2 => M_X12_thrown.mono q2 (fun t b2 q3 => ⟨q3.1, fun z => absurd z (by decide), q3.2⟩))⟩))
  refine ga_aload_n hC dL_law_1207 4 rfl rfl ?_
  refine gl_arg (j := 1) 5 0 hC hX hbl hbA hL hL2 rfl rfl (by decide) rfl dL_law_1208 dL_law_1209 dL_law_1211 dL_law_1212 dL_law_1213 ?_
  refine ga_i2c hC dL_law_1214 ?_
  refine gl_arg (j := 2) 5 0 hC hX hbl hbA hL hL2 rfl rfl (by decide) rfl dL_law_1215 dL_law_1216 dL_law_1218 dL_law_1219 dL_law_1220 ?_
  refine ga_aload hC dL_law_1221 1 rfl ?_
  refine gl_callS (As := [.ref (ad 0), .int (((xs (5 * n + 1)).toUInt32 % 65536).toInt32), .int (xs (5 * n + 2)), .ref (ad 122)]) (st := []) (n := 4) hC hK hw (cg_in4 206 (by decide +kernel) (by decide +kernel)) (cg_in4 207 (by decide +kernel) (by decide +kernel)) (cg_in1 0 (by decide +kernel) (by decide +kernel)) (cg_in4 208 (by decide +kernel) (by decide +kernel)) rfl rfl rfl (by decide +kernel) ⟨Nat.le_trans (Nat.add_le_add_left (by decide) _) hr.1, Nat.le_trans (Nat.add_le_add_left (by decide) _) hr.2⟩ ⟨Nat.le_of_ble_eq_true rfl, Nat.le_of_ble_eq_true rfl⟩ rfl rfl (Nat.le_of_ble_eq_true rfl) dL_law_1223 (fun v τ hq => ?_)
  obtain ⟨k, a1, o1, od1, rfl, rfl, h⟩ := hq
  refine ga_istore (lv' := [(6, .int k), (5, .int (Int32.ofNat (5 * n))), (4, .ref (ad 122)), (3, .ref (ad 121)), (2, .ref (ad 88)), (1, .ref (ad 0)), (0, .ref sb)]) hC dL_law_1226 (by decide) rfl ?_
  refine ga_aload_n hC dL_law_1228 4 rfl rfl ?_
  refine gl_arg (j := 1) 6 1 hC hX hbl hbA hL hL2 rfl rfl (by decide) rfl dL_law_1229 dL_law_1230 dL_law_1232 dL_law_1233 dL_law_1234 ?_
  refine ga_i2c hC dL_law_1235 ?_
  refine gl_arg (j := 2) 6 1 hC hX hbl hbA hL hL2 rfl rfl (by decide) rfl dL_law_1236 dL_law_1237 dL_law_1239 dL_law_1240 dL_law_1241 ?_
  refine gl_callM (As := [.int (((xs (5 * n + 1)).toUInt32 % 65536).toInt32), .int (xs (5 * n + 2))]) (st := []) (n := 2) hC h (cg_in7 174 (by decide +kernel) (by decide +kernel)) (cg_in7 175 (by decide +kernel) (by decide +kernel)) (cg_in7 176 (by decide +kernel) (by decide +kernel)) (cg_in1 13 (by decide +kernel) (by decide +kernel)) (cg_in7 177 (by decide +kernel) (by decide +kernel)) rfl rfl rfl (by decide +kernel) ⟨Nat.le_trans (Nat.add_le_add_left (by decide) _) hr.1, Nat.le_trans (Nat.add_le_add_left (by decide) _) hr.2⟩ ⟨Nat.le_of_ble_eq_true rfl, Nat.le_of_ble_eq_true rfl⟩ rfl rfl (Nat.le_of_ble_eq_true rfl) dL_law_1242 (fun v τ hq => ?_)
  obtain ⟨r2, rfl, h⟩ := hq
  refine ga_fstore (lv' := [(7, .float r2), (6, .int k), (5, .int (Int32.ofNat (5 * n))), (4, .ref (ad 122)), (3, .ref (ad 121)), (2, .ref (ad 88)), (1, .ref (ad 0)), (0, .ref sb)]) hC dL_law_1245 (by decide) rfl ?_
  refine ga_aload_n hC dL_law_1247 5 rfl rfl ?_
  refine gl_callM (As := []) (st := []) (n := 0) hC h (cg_in6 218 (by decide +kernel) (by decide +kernel)) (cg_in6 219 (by decide +kernel) (by decide +kernel)) (cg_in6 220 (by decide +kernel) (by decide +kernel)) (cg_in1 13 (by decide +kernel) (by decide +kernel)) (cg_in6 221 (by decide +kernel) (by decide +kernel)) rfl rfl rfl (by decide +kernel) ⟨Nat.le_trans (Nat.add_le_add_left (by decide) _) hr.1, Nat.le_trans (Nat.add_le_add_left (by decide) _) hr.2⟩ ⟨Nat.le_of_ble_eq_true rfl, Nat.le_of_ble_eq_true rfl⟩ rfl rfl (Nat.le_of_ble_eq_true rfl) dL_law_1248 (fun v τ hq => ?_)
  obtain ⟨t, rfl, h1, h2, h3⟩ := hq
  refine ga_iload hC dL_law_1251 1 rfl ?_
  refine ga_icmp_eq (tgt := 1258) hC dL_law_1253 (by decide) (fun _ => ?_) (fun hc => absurd h1 hc)
  refine ga_iload hC dL_law_1258 1 rfl ?_
  refine ga_if_ne (tgt := 1296) hC dL_law_1260 (by decide) (fun hc => ?_) (fun hc => ?_)
  · skip
    refine ga_goto (tgt := 2593) hC dL_law_1296 (by decide) ?_
    refine ga_locals [2, 3, 4, 5, 6, 7] rfl ?_
    exact ga_widen (Nat.add_le_add_left (by decide) _) (Nat.add_le_add_left (by decide) _) (kk _ _ _ _ h3)
  · have h2 := h2 hc
    refine ga_aload hC dL_law_1263 3 rfl ?_
    refine ga_iconst (v := 0) hC dL_law_1265 (by decide) ?_
    refine ga_dald (k := 122) (n := 1) hC (fun _ => rfl) (by decide) lw_in0 dL_law_1266 ?_
    refine ga_fload hC dL_law_1267 0 rfl ?_
    refine ga_f2d hC dL_law_1269 h2.1 ?_
    refine ga_dcmp hC dL_law_1270 ?_
    refine ga_if_eq (tgt := 1296) hC dL_law_1271 (by decide) (fun _ => ?_) (fun hc2 => absurd (show Op.cmpValue (FP.dcmp (od1 0) _) .l = 0 by rw [h2.2]; exact lw_dc h2.1) hc2)
    refine ga_goto (tgt := 2593) hC dL_law_1296 (by decide) ?_
    refine ga_locals [2, 3, 4, 5, 6, 7] rfl ?_
    exact ga_widen (Nat.add_le_add_left (by decide) _) (Nat.add_le_add_left (by decide) _) (kk _ _ _ _ h3)
/-- what is to be shown of a call of rounded -/
def OP_rounded (Nx : cg_S → cg_S → Prop) (v1 v2 : Int32) (a b : cg_S) : Prop := M_X11_rounded v1 v2 a (fun r a1 => M_X12_rounded v1 v2 b (fun r2 b1 => M_X12_thrown b1 (fun t b2 => t = 0 ∧ r = r2 ∧ Nx a1 b2))) (fun E a1 => (E = "java/lang/IllegalArgumentException" ∧ M_X12_rounded v1 v2 b (fun r2 b1 => M_X12_thrown b1 (fun t b2 => t = 1 ∧ Nx a1 b2))) ∨ (E = "java/lang/IndexOutOfBoundsException" ∧ M_X12_rounded v1 v2 b (fun r2 b1 => M_X12_thrown b1 (fun t b2 => t = 2 ∧ Nx a1 b2))) ∨ (E = "java/lang/IllegalStateException" ∧ M_X12_rounded v1 v2 b (fun r2 b1 => M_X12_thrown b1 (fun t b2 => t = 3 ∧ Nx a1 b2))))
set_option maxRecDepth 100000 in
set_option maxHeartbeats 4000000 in
theorem z_rounded {p : Program} {l : Launch} {e : Env} {s : State} {m : MethodId} {args : Array Value} {below : List Frame} {meth : Method} {c : Code} {D : va_G} {cy : Nat → ClassId} {ad : Nat → Nat} {kc ks : Nat} {ret : Option FieldType} {a b : cg_S} {o : Nat → Int64} {od : Nat → UInt64} {Z : State → Prop} {sb L n : Nat} {xs : Nat → Int32} {Nx : cg_S → cg_S → Prop} (hC : cg_X cg_WL RL cL_law 9 ret p s m args meth c D cy ad) (hK : cl_K l s ad) (hX : va_X sb L xs s s.heap) (hbl : sb < s.heap.size) (hbA : ¬ cg_F ad 123 s.heap.size sb) (hL : 5 * n + 5 ≤ L) (hL2 : L ≤ 2560) (hr : kc + 4 ≤ room_1.cells ∧ ks + 24 ≤ room_1.slots)
    (kk : ∀ (a1 b1 : cg_S) (o1 : Nat → Int64) (od1 : Nat → UInt64), Nx a1 b1 → cg_G cg_WL room_1 p l e s m args below meth c D cy ad Z (kc + 4) (ks + 24) 9 2593 [(5, .int (Int32.ofNat (5 * n))), (4, .ref (ad 122)), (3, .ref (ad 121)), (2, .ref (ad 88)), (1, .ref (ad 0)), (0, .ref sb)] [] (jn a1 b1 o1 od1))
    (h : OP_rounded Nx (((xs (5 * n + 1)).toUInt32 % 65536).toInt32) (xs (5 * n + 2)) a b) : cg_G cg_WL room_1 p l e s m args below meth c D cy ad Z kc ks 9 1299 [(5, .int (Int32.ofNat (5 * n))), (4, .ref (ad 122)), (3, .ref (ad 121)), (2, .ref (ad 88)), (1, .ref (ad 0)), (0, .ref sb)] [] (jn a b o od) := by
  have hw : M_L_rounded (((xs (5 * n + 1)).toUInt32 % 65536).toInt32) (xs (5 * n + 2)) a b o od (fun k a1 o1 od1 => M_X12_rounded (((xs (5 * n + 1)).toUInt32 % 65536).toInt32) (xs (5 * n + 2)) b (fun r2 b1 => M_X12_thrown b1 (fun t b2 => t = k ∧ (k = 0 → o1 0 = r2) ∧ Nx a1 b2))) := by
    refine w_rounded (M_X11_rounded.mono h (fun r a1 q => M_X12_rounded.mono q (fun r2 b1 q2 => M_X12_thrown.mono q2 (fun t b2 q3 => ⟨q3.1, fun _ => by rw [← q3.2.1]; rfl, q3.2.2⟩))) (fun E a1 q => ?_))
    rcases q with ⟨e9, q⟩ | ⟨e9, q⟩ | ⟨e9, q⟩
    · exact Or.inl ⟨e9, M_X12_rounded.mono q (fun r2 b1 q2 => M_X12_thrown.mono q2 (fun t b2 q3 => ⟨q3.1, fun z => absurd z (by decide), q3.2⟩))⟩
    · exact Or.inr (Or.inl ⟨e9, M_X12_rounded.mono q (fun r2 b1 q2 => M_X12_thrown.mono q2 (fun t b2 q3 => ⟨q3.1, fun z => absurd z (by decide), q3.2⟩))⟩)
    · exact Or.inr (Or.inr (⟨e9, M_X12_rounded.mono q (fun r2 b1 q2 => M_X12_thrown.mono q2 (fun t b2 q3 => ⟨q3.1, fun z => absurd z (by decide), q3.2⟩))⟩))
  refine ga_aload_n hC dL_law_1299 4 rfl rfl ?_
  refine gl_arg (j := 1) 5 0 hC hX hbl hbA hL hL2 rfl rfl (by decide) rfl dL_law_1300 dL_law_1301 dL_law_1303 dL_law_1304 dL_law_1305 ?_
  refine ga_i2c hC dL_law_1306 ?_
  refine gl_arg (j := 2) 5 0 hC hX hbl hbA hL hL2 rfl rfl (by decide) rfl dL_law_1307 dL_law_1308 dL_law_1310 dL_law_1311 dL_law_1312 ?_
  refine ga_aload_n hC dL_law_1313 2 rfl rfl ?_
  refine gl_callS (As := [.ref (ad 0), .int (((xs (5 * n + 1)).toUInt32 % 65536).toInt32), .int (xs (5 * n + 2)), .ref (ad 121)]) (st := []) (n := 4) hC hK hw (cg_in4 217 (by decide +kernel) (by decide +kernel)) (cg_in4 218 (by decide +kernel) (by decide +kernel)) (cg_in1 0 (by decide +kernel) (by decide +kernel)) (cg_in4 219 (by decide +kernel) (by decide +kernel)) rfl rfl rfl (by decide +kernel) ⟨Nat.le_trans (Nat.add_le_add_left (by decide) _) hr.1, Nat.le_trans (Nat.add_le_add_left (by decide) _) hr.2⟩ ⟨Nat.le_of_ble_eq_true rfl, Nat.le_of_ble_eq_true rfl⟩ rfl rfl (Nat.le_of_ble_eq_true rfl) dL_law_1314 (fun v τ hq => ?_)
  obtain ⟨k, a1, o1, od1, rfl, rfl, h⟩ := hq
  refine ga_istore (lv' := [(6, .int k), (5, .int (Int32.ofNat (5 * n))), (4, .ref (ad 122)), (3, .ref (ad 121)), (2, .ref (ad 88)), (1, .ref (ad 0)), (0, .ref sb)]) hC dL_law_1317 (by decide) rfl ?_
  refine ga_aload_n hC dL_law_1319 4 rfl rfl ?_
  refine gl_arg (j := 1) 6 1 hC hX hbl hbA hL hL2 rfl rfl (by decide) rfl dL_law_1320 dL_law_1321 dL_law_1323 dL_law_1324 dL_law_1325 ?_
  refine ga_i2c hC dL_law_1326 ?_
  refine gl_arg (j := 2) 6 1 hC hX hbl hbA hL hL2 rfl rfl (by decide) rfl dL_law_1327 dL_law_1328 dL_law_1330 dL_law_1331 dL_law_1332 ?_
  refine gl_callM (As := [.int (((xs (5 * n + 1)).toUInt32 % 65536).toInt32), .int (xs (5 * n + 2))]) (st := []) (n := 2) hC h (cg_in7 179 (by decide +kernel) (by decide +kernel)) (cg_in7 180 (by decide +kernel) (by decide +kernel)) (cg_in7 181 (by decide +kernel) (by decide +kernel)) (cg_in1 13 (by decide +kernel) (by decide +kernel)) (cg_in7 182 (by decide +kernel) (by decide +kernel)) rfl rfl rfl (by decide +kernel) ⟨Nat.le_trans (Nat.add_le_add_left (by decide) _) hr.1, Nat.le_trans (Nat.add_le_add_left (by decide) _) hr.2⟩ ⟨Nat.le_of_ble_eq_true rfl, Nat.le_of_ble_eq_true rfl⟩ rfl rfl (Nat.le_of_ble_eq_true rfl) dL_law_1333 (fun v τ hq => ?_)
  obtain ⟨r2, rfl, h⟩ := hq
  refine ga_lstore (lv' := [(7, .long r2), (6, .int k), (5, .int (Int32.ofNat (5 * n))), (4, .ref (ad 122)), (3, .ref (ad 121)), (2, .ref (ad 88)), (1, .ref (ad 0)), (0, .ref sb)]) hC dL_law_1336 (by decide) rfl ?_
  refine ga_aload_n hC dL_law_1338 5 rfl rfl ?_
  refine gl_callM (As := []) (st := []) (n := 0) hC h (cg_in6 218 (by decide +kernel) (by decide +kernel)) (cg_in6 219 (by decide +kernel) (by decide +kernel)) (cg_in6 220 (by decide +kernel) (by decide +kernel)) (cg_in1 13 (by decide +kernel) (by decide +kernel)) (cg_in6 221 (by decide +kernel) (by decide +kernel)) rfl rfl rfl (by decide +kernel) ⟨Nat.le_trans (Nat.add_le_add_left (by decide) _) hr.1, Nat.le_trans (Nat.add_le_add_left (by decide) _) hr.2⟩ ⟨Nat.le_of_ble_eq_true rfl, Nat.le_of_ble_eq_true rfl⟩ rfl rfl (Nat.le_of_ble_eq_true rfl) dL_law_1339 (fun v τ hq => ?_)
  obtain ⟨t, rfl, h1, h2, h3⟩ := hq
  refine ga_iload hC dL_law_1342 1 rfl ?_
  refine ga_icmp_eq (tgt := 1349) hC dL_law_1344 (by decide) (fun _ => ?_) (fun hc => absurd h1 hc)
  refine ga_iload hC dL_law_1349 1 rfl ?_
  refine ga_if_ne (tgt := 1365) hC dL_law_1351 (by decide) (fun hc => ?_) (fun hc => ?_)
  · skip
    refine ga_goto (tgt := 2593) hC dL_law_1365 (by decide) ?_
    refine ga_locals [2, 3, 4, 5, 6, 7] rfl ?_
    exact ga_widen (Nat.add_le_add_left (by decide) _) (Nat.add_le_add_left (by decide) _) (kk _ _ _ _ h3)
  · have h2 := h2 hc
    refine ga_aload_n hC dL_law_1354 4 rfl rfl ?_
    refine ga_iconst (v := 0) hC dL_law_1355 (by decide) ?_
    refine ga_lald (k := 121) (n := 1) hC (fun _ => rfl) (by decide) lw_in0 dL_law_1356 ?_
    refine ga_lload hC dL_law_1357 0 rfl ?_
    refine ga_lcmp hC dL_law_1359 ?_
    refine ga_if_eq (tgt := 1365) hC dL_law_1360 (by decide) (fun _ => ?_) (fun hc2 => absurd (show lg_cmp (o1 0) _ = 0 by rw [h2]; exact lw_lc _) hc2)
    refine ga_goto (tgt := 2593) hC dL_law_1365 (by decide) ?_
    refine ga_locals [2, 3, 4, 5, 6, 7] rfl ?_
    exact ga_widen (Nat.add_le_add_left (by decide) _) (Nat.add_le_add_left (by decide) _) (kk _ _ _ _ h3)
/-- what is to be shown of a call of bound -/
def OP_bound (Nx : cg_S → cg_S → Prop) (v1 v2 : Int32) (a b : cg_S) : Prop := M_X11_bound v1 v2 a (fun r a1 => M_X12_bound v1 v2 b (fun r2 b1 => M_X12_thrown b1 (fun t b2 => t = 0 ∧ r = r2 ∧ Nx a1 b2))) (fun E a1 => (E = "java/lang/IndexOutOfBoundsException" ∧ M_X12_bound v1 v2 b (fun r2 b1 => M_X12_thrown b1 (fun t b2 => t = 1 ∧ Nx a1 b2))) ∨ (E = "java/lang/IllegalArgumentException" ∧ M_X12_bound v1 v2 b (fun r2 b1 => M_X12_thrown b1 (fun t b2 => t = 2 ∧ Nx a1 b2))) ∨ (E = "java/lang/IllegalStateException" ∧ M_X12_bound v1 v2 b (fun r2 b1 => M_X12_thrown b1 (fun t b2 => t = 3 ∧ Nx a1 b2))))
set_option maxRecDepth 100000 in
set_option maxHeartbeats 4000000 in
theorem z_bound {p : Program} {l : Launch} {e : Env} {s : State} {m : MethodId} {args : Array Value} {below : List Frame} {meth : Method} {c : Code} {D : va_G} {cy : Nat → ClassId} {ad : Nat → Nat} {kc ks : Nat} {ret : Option FieldType} {a b : cg_S} {o : Nat → Int64} {od : Nat → UInt64} {Z : State → Prop} {sb L n : Nat} {xs : Nat → Int32} {Nx : cg_S → cg_S → Prop} (hC : cg_X cg_WL RL cL_law 9 ret p s m args meth c D cy ad) (hK : cl_K l s ad) (hX : va_X sb L xs s s.heap) (hbl : sb < s.heap.size) (hbA : ¬ cg_F ad 123 s.heap.size sb) (hL : 5 * n + 5 ≤ L) (hL2 : L ≤ 2560) (hr : kc + 4 ≤ room_1.cells ∧ ks + 24 ≤ room_1.slots)
    (kk : ∀ (a1 b1 : cg_S) (o1 : Nat → Int64) (od1 : Nat → UInt64), Nx a1 b1 → cg_G cg_WL room_1 p l e s m args below meth c D cy ad Z (kc + 4) (ks + 24) 9 2593 [(5, .int (Int32.ofNat (5 * n))), (4, .ref (ad 122)), (3, .ref (ad 121)), (2, .ref (ad 88)), (1, .ref (ad 0)), (0, .ref sb)] [] (jn a1 b1 o1 od1))
    (h : OP_bound Nx (xs (5 * n + 1)) (xs (5 * n + 2)) a b) : cg_G cg_WL room_1 p l e s m args below meth c D cy ad Z kc ks 9 1368 [(5, .int (Int32.ofNat (5 * n))), (4, .ref (ad 122)), (3, .ref (ad 121)), (2, .ref (ad 88)), (1, .ref (ad 0)), (0, .ref sb)] [] (jn a b o od) := by
  have hw : M_L_bound (xs (5 * n + 1)) (xs (5 * n + 2)) a b o od (fun k a1 o1 od1 => M_X12_bound (xs (5 * n + 1)) (xs (5 * n + 2)) b (fun r2 b1 => M_X12_thrown b1 (fun t b2 => t = k ∧ (k = 0 → od1 0 = r2) ∧ Nx a1 b2))) := by
    refine w_bound (M_X11_bound.mono h (fun r a1 q => M_X12_bound.mono q (fun r2 b1 q2 => M_X12_thrown.mono q2 (fun t b2 q3 => ⟨q3.1, fun _ => by rw [← q3.2.1]; rfl, q3.2.2⟩))) (fun E a1 q => ?_))
    rcases q with ⟨e9, q⟩ | ⟨e9, q⟩ | ⟨e9, q⟩
    · exact Or.inl ⟨e9, M_X12_bound.mono q (fun r2 b1 q2 => M_X12_thrown.mono q2 (fun t b2 q3 => ⟨q3.1, fun z => absurd z (by decide), q3.2⟩))⟩
    · exact Or.inr (Or.inl ⟨e9, M_X12_bound.mono q (fun r2 b1 q2 => M_X12_thrown.mono q2 (fun t b2 q3 => ⟨q3.1, fun z => absurd z (by decide), q3.2⟩))⟩)
    · exact Or.inr (Or.inr (⟨e9, M_X12_bound.mono q (fun r2 b1 q2 => M_X12_thrown.mono q2 (fun t b2 q3 => ⟨q3.1, fun z => absurd z (by decide), q3.2⟩))⟩))
  refine ga_aload_n hC dL_law_1368 4 rfl rfl ?_
  refine gl_arg (j := 1) 5 0 hC hX hbl hbA hL hL2 rfl rfl (by decide) rfl dL_law_1369 dL_law_1370 dL_law_1372 dL_law_1373 dL_law_1374 ?_
  refine gl_arg (j := 2) 5 0 hC hX hbl hbA hL hL2 rfl rfl (by decide) rfl dL_law_1375 dL_law_1376 dL_law_1378 dL_law_1379 dL_law_1380 ?_
  refine ga_aload hC dL_law_1381 1 rfl ?_
  refine gl_callS (As := [.ref (ad 0), .int (xs (5 * n + 1)), .int (xs (5 * n + 2)), .ref (ad 122)]) (st := []) (n := 4) hC hK hw (cg_in4 228 (by decide +kernel) (by decide +kernel)) (cg_in4 229 (by decide +kernel) (by decide +kernel)) (cg_in1 0 (by decide +kernel) (by decide +kernel)) (cg_in4 230 (by decide +kernel) (by decide +kernel)) rfl rfl rfl (by decide +kernel) ⟨Nat.le_trans (Nat.add_le_add_left (by decide) _) hr.1, Nat.le_trans (Nat.add_le_add_left (by decide) _) hr.2⟩ ⟨Nat.le_of_ble_eq_true rfl, Nat.le_of_ble_eq_true rfl⟩ rfl rfl (Nat.le_of_ble_eq_true rfl) dL_law_1383 (fun v τ hq => ?_)
  obtain ⟨k, a1, o1, od1, rfl, rfl, h⟩ := hq
  refine ga_istore (lv' := [(6, .int k), (5, .int (Int32.ofNat (5 * n))), (4, .ref (ad 122)), (3, .ref (ad 121)), (2, .ref (ad 88)), (1, .ref (ad 0)), (0, .ref sb)]) hC dL_law_1386 (by decide) rfl ?_
  refine ga_aload_n hC dL_law_1388 4 rfl rfl ?_
  refine gl_arg (j := 1) 6 1 hC hX hbl hbA hL hL2 rfl rfl (by decide) rfl dL_law_1389 dL_law_1390 dL_law_1392 dL_law_1393 dL_law_1394 ?_
  refine gl_arg (j := 2) 6 1 hC hX hbl hbA hL hL2 rfl rfl (by decide) rfl dL_law_1395 dL_law_1396 dL_law_1398 dL_law_1399 dL_law_1400 ?_
  refine gl_callM (As := [.int (xs (5 * n + 1)), .int (xs (5 * n + 2))]) (st := []) (n := 2) hC h (cg_in7 185 (by decide +kernel) (by decide +kernel)) (cg_in7 186 (by decide +kernel) (by decide +kernel)) (cg_in7 187 (by decide +kernel) (by decide +kernel)) (cg_in1 13 (by decide +kernel) (by decide +kernel)) (cg_in7 188 (by decide +kernel) (by decide +kernel)) rfl rfl rfl (by decide +kernel) ⟨Nat.le_trans (Nat.add_le_add_left (by decide) _) hr.1, Nat.le_trans (Nat.add_le_add_left (by decide) _) hr.2⟩ ⟨Nat.le_of_ble_eq_true rfl, Nat.le_of_ble_eq_true rfl⟩ rfl rfl (Nat.le_of_ble_eq_true rfl) dL_law_1401 (fun v τ hq => ?_)
  obtain ⟨r2, rfl, h⟩ := hq
  refine ga_dstore (lv' := [(7, .double r2), (6, .int k), (5, .int (Int32.ofNat (5 * n))), (4, .ref (ad 122)), (3, .ref (ad 121)), (2, .ref (ad 88)), (1, .ref (ad 0)), (0, .ref sb)]) hC dL_law_1404 (by decide) rfl ?_
  refine ga_aload_n hC dL_law_1406 5 rfl rfl ?_
  refine gl_callM (As := []) (st := []) (n := 0) hC h (cg_in6 218 (by decide +kernel) (by decide +kernel)) (cg_in6 219 (by decide +kernel) (by decide +kernel)) (cg_in6 220 (by decide +kernel) (by decide +kernel)) (cg_in1 13 (by decide +kernel) (by decide +kernel)) (cg_in6 221 (by decide +kernel) (by decide +kernel)) rfl rfl rfl (by decide +kernel) ⟨Nat.le_trans (Nat.add_le_add_left (by decide) _) hr.1, Nat.le_trans (Nat.add_le_add_left (by decide) _) hr.2⟩ ⟨Nat.le_of_ble_eq_true rfl, Nat.le_of_ble_eq_true rfl⟩ rfl rfl (Nat.le_of_ble_eq_true rfl) dL_law_1407 (fun v τ hq => ?_)
  obtain ⟨t, rfl, h1, h2, h3⟩ := hq
  refine ga_iload hC dL_law_1410 1 rfl ?_
  refine ga_icmp_eq (tgt := 1417) hC dL_law_1412 (by decide) (fun _ => ?_) (fun hc => absurd h1 hc)
  refine ga_iload hC dL_law_1417 1 rfl ?_
  refine ga_if_ne (tgt := 1454) hC dL_law_1419 (by decide) (fun hc => ?_) (fun hc => ?_)
  · skip
    refine ga_goto (tgt := 2593) hC dL_law_1454 (by decide) ?_
    refine ga_locals [2, 3, 4, 5, 6, 7] rfl ?_
    exact ga_widen (Nat.add_le_add_left (by decide) _) (Nat.add_le_add_left (by decide) _) (kk _ _ _ _ h3)
  · have h2 := h2 hc
    refine ga_aload hC dL_law_1422 3 rfl ?_
    refine ga_iconst (v := 0) hC dL_law_1424 (by decide) ?_
    refine ga_dald (k := 122) (n := 1) hC (fun _ => rfl) (by decide) lw_in0 dL_law_1425 ?_
    refine ga_dload hC dL_law_1426 0 rfl ?_
    refine ga_dcmp hC dL_law_1428 ?_
    refine ga_if_eq (tgt := 1454) hC dL_law_1429 (by decide) (fun _ => ?_) (fun hc2 => ?_)
    · skip
      refine ga_goto (tgt := 2593) hC dL_law_1454 (by decide) ?_
      refine ga_locals [2, 3, 4, 5, 6, 7] rfl ?_
      exact ga_widen (Nat.add_le_add_left (by decide) _) (Nat.add_le_add_left (by decide) _) (kk _ _ _ _ h3)
    · skip
      refine ga_aload hC dL_law_1432 3 rfl ?_
      refine ga_iconst (v := 0) hC dL_law_1434 (by decide) ?_
      refine ga_dald (k := 122) (n := 1) hC (fun _ => rfl) (by decide) lw_in0 dL_law_1435 ?_
      refine ga_aload hC dL_law_1436 3 rfl ?_
      refine ga_iconst (v := 0) hC dL_law_1438 (by decide) ?_
      refine ga_dald (k := 122) (n := 1) hC (fun _ => rfl) (by decide) lw_in0 dL_law_1439 ?_
      refine ga_dcmp hC dL_law_1440 ?_
      refine ga_if_eq (tgt := 1452) hC dL_law_1441 (by decide) (fun hc3 => absurd (show Op.cmpValue (FP.dcmp (od1 0) _) .l = 0 by rw [← h2]; exact hc3) hc2) (fun _ => ?_)
      refine ga_dload hC dL_law_1444 0 rfl ?_
      refine ga_dload hC dL_law_1446 0 rfl ?_
      refine ga_dcmp hC dL_law_1448 ?_
      refine ga_if_ne (tgt := 1454) hC dL_law_1449 (by decide) (fun _ => ?_) (fun hc3 => absurd (show Op.cmpValue (FP.dcmp (od1 0) _) .l = 0 by rw [h2]; exact hc3) hc2)
      refine ga_goto (tgt := 2593) hC dL_law_1454 (by decide) ?_
      refine ga_locals [2, 3, 4, 5, 6, 7] rfl ?_
      exact ga_widen (Nat.add_le_add_left (by decide) _) (Nat.add_le_add_left (by decide) _) (kk _ _ _ _ h3)
/-- what is to be shown of a call of isZero -/
def OP_isZero (Nx : cg_S → cg_S → Prop) (v1 : Int32) (a b : cg_S) : Prop := M_X11_isZero v1 a (fun r a1 => M_X12_isZero v1 b (fun r2 b1 => M_X12_thrown b1 (fun t b2 => t = 0 ∧ (r = 0 ↔ r2 = 0) ∧ Nx a1 b2))) (fun E a1 => (E = "java/lang/IndexOutOfBoundsException" ∧ M_X12_isZero v1 b (fun r2 b1 => M_X12_thrown b1 (fun t b2 => t = 1 ∧ Nx a1 b2))) ∨ (E = "java/lang/IllegalStateException" ∧ M_X12_isZero v1 b (fun r2 b1 => M_X12_thrown b1 (fun t b2 => t = 2 ∧ Nx a1 b2))))
set_option maxRecDepth 100000 in
set_option maxHeartbeats 4000000 in
theorem z_isZero {p : Program} {l : Launch} {e : Env} {s : State} {m : MethodId} {args : Array Value} {below : List Frame} {meth : Method} {c : Code} {D : va_G} {cy : Nat → ClassId} {ad : Nat → Nat} {kc ks : Nat} {ret : Option FieldType} {a b : cg_S} {o : Nat → Int64} {od : Nat → UInt64} {Z : State → Prop} {sb L n : Nat} {xs : Nat → Int32} {Nx : cg_S → cg_S → Prop} (hC : cg_X cg_WL RL cL_law 9 ret p s m args meth c D cy ad) (hK : cl_K l s ad) (hX : va_X sb L xs s s.heap) (hbl : sb < s.heap.size) (hbA : ¬ cg_F ad 123 s.heap.size sb) (hL : 5 * n + 5 ≤ L) (hL2 : L ≤ 2560) (hr : kc + 4 ≤ room_1.cells ∧ ks + 24 ≤ room_1.slots)
    (kk : ∀ (a1 b1 : cg_S) (o1 : Nat → Int64) (od1 : Nat → UInt64), Nx a1 b1 → cg_G cg_WL room_1 p l e s m args below meth c D cy ad Z (kc + 4) (ks + 24) 9 2593 [(5, .int (Int32.ofNat (5 * n))), (4, .ref (ad 122)), (3, .ref (ad 121)), (2, .ref (ad 88)), (1, .ref (ad 0)), (0, .ref sb)] [] (jn a1 b1 o1 od1))
    (h : OP_isZero Nx (xs (5 * n + 1)) a b) : cg_G cg_WL room_1 p l e s m args below meth c D cy ad Z kc ks 9 1457 [(5, .int (Int32.ofNat (5 * n))), (4, .ref (ad 122)), (3, .ref (ad 121)), (2, .ref (ad 88)), (1, .ref (ad 0)), (0, .ref sb)] [] (jn a b o od) := by
  have hw : M_L_isZero (xs (5 * n + 1)) a b o od (fun k a1 o1 od1 => M_X12_isZero (xs (5 * n + 1)) b (fun r2 b1 => M_X12_thrown b1 (fun t b2 => t = k ∧ (k = 0 → o1 0 = if r2 = 0 then (0 : Int64) else 1) ∧ Nx a1 b2))) := by
    refine w_isZero (M_X11_isZero.mono h (fun r a1 q => ⟨fun z => M_X12_isZero.mono q (fun r2 b1 q2 => M_X12_thrown.mono q2 (fun t b2 q3 => ⟨q3.1, fun _ => by rw [if_pos (q3.2.1.mp z)]; rfl, q3.2.2⟩)), fun z => M_X12_isZero.mono q (fun r2 b1 q2 => M_X12_thrown.mono q2 (fun t b2 q3 => ⟨q3.1, fun _ => by rw [if_neg (fun y => z (q3.2.1.mpr y))]; rfl, q3.2.2⟩))⟩) (fun E a1 q => ?_))
    rcases q with ⟨e9, q⟩ | ⟨e9, q⟩
    · exact Or.inl ⟨e9, M_X12_isZero.mono q (fun r2 b1 q2 => M_X12_thrown.mono q2 (fun t b2 q3 => ⟨q3.1, fun z => absurd z (by decide), q3.2⟩))⟩
    · exact Or.inr (⟨e9, M_X12_isZero.mono q (fun r2 b1 q2 => M_X12_thrown.mono q2 (fun t b2 q3 => ⟨q3.1, fun z => absurd z (by decide), q3.2⟩))⟩)
  refine ga_aload_n hC dL_law_1457 4 rfl rfl ?_
  refine gl_arg (j := 1) 5 0 hC hX hbl hbA hL hL2 rfl rfl (by decide) rfl dL_law_1458 dL_law_1459 dL_law_1461 dL_law_1462 dL_law_1463 ?_
  refine ga_aload_n hC dL_law_1464 2 rfl rfl ?_
  refine gl_callS (As := [.ref (ad 0), .int (xs (5 * n + 1)), .ref (ad 121)]) (st := []) (n := 3) hC hK hw (cg_in5 9 (by decide +kernel) (by decide +kernel)) (cg_in5 10 (by decide +kernel) (by decide +kernel)) (cg_in1 0 (by decide +kernel) (by decide +kernel)) (cg_in5 11 (by decide +kernel) (by decide +kernel)) rfl rfl rfl (by decide +kernel) ⟨Nat.le_trans (Nat.add_le_add_left (by decide) _) hr.1, Nat.le_trans (Nat.add_le_add_left (by decide) _) hr.2⟩ ⟨Nat.le_of_ble_eq_true rfl, Nat.le_of_ble_eq_true rfl⟩ rfl rfl (Nat.le_of_ble_eq_true rfl) dL_law_1465 (fun v τ hq => ?_)
  obtain ⟨k, a1, o1, od1, rfl, rfl, h⟩ := hq
  refine ga_istore (lv' := [(6, .int k), (5, .int (Int32.ofNat (5 * n))), (4, .ref (ad 122)), (3, .ref (ad 121)), (2, .ref (ad 88)), (1, .ref (ad 0)), (0, .ref sb)]) hC dL_law_1468 (by decide) rfl ?_
  refine ga_aload_n hC dL_law_1470 4 rfl rfl ?_
  refine gl_arg (j := 1) 6 1 hC hX hbl hbA hL hL2 rfl rfl (by decide) rfl dL_law_1471 dL_law_1472 dL_law_1474 dL_law_1475 dL_law_1476 ?_
  refine gl_callM (As := [.int (xs (5 * n + 1))]) (st := []) (n := 1) hC h (cg_in7 193 (by decide +kernel) (by decide +kernel)) (cg_in7 194 (by decide +kernel) (by decide +kernel)) (cg_in7 195 (by decide +kernel) (by decide +kernel)) (cg_in1 13 (by decide +kernel) (by decide +kernel)) (cg_in7 196 (by decide +kernel) (by decide +kernel)) rfl rfl rfl (by decide +kernel) ⟨Nat.le_trans (Nat.add_le_add_left (by decide) _) hr.1, Nat.le_trans (Nat.add_le_add_left (by decide) _) hr.2⟩ ⟨Nat.le_of_ble_eq_true rfl, Nat.le_of_ble_eq_true rfl⟩ rfl rfl (Nat.le_of_ble_eq_true rfl) dL_law_1477 (fun v τ hq => ?_)
  obtain ⟨r2, rfl, h⟩ := hq
  refine ga_istore (lv' := [(7, .int r2), (6, .int k), (5, .int (Int32.ofNat (5 * n))), (4, .ref (ad 122)), (3, .ref (ad 121)), (2, .ref (ad 88)), (1, .ref (ad 0)), (0, .ref sb)]) hC dL_law_1480 (by decide) rfl ?_
  refine ga_aload_n hC dL_law_1482 5 rfl rfl ?_
  refine gl_callM (As := []) (st := []) (n := 0) hC h (cg_in6 218 (by decide +kernel) (by decide +kernel)) (cg_in6 219 (by decide +kernel) (by decide +kernel)) (cg_in6 220 (by decide +kernel) (by decide +kernel)) (cg_in1 13 (by decide +kernel) (by decide +kernel)) (cg_in6 221 (by decide +kernel) (by decide +kernel)) rfl rfl rfl (by decide +kernel) ⟨Nat.le_trans (Nat.add_le_add_left (by decide) _) hr.1, Nat.le_trans (Nat.add_le_add_left (by decide) _) hr.2⟩ ⟨Nat.le_of_ble_eq_true rfl, Nat.le_of_ble_eq_true rfl⟩ rfl rfl (Nat.le_of_ble_eq_true rfl) dL_law_1483 (fun v τ hq => ?_)
  obtain ⟨t, rfl, h1, h2, h3⟩ := hq
  refine ga_iload hC dL_law_1486 1 rfl ?_
  refine ga_icmp_eq (tgt := 1493) hC dL_law_1488 (by decide) (fun _ => ?_) (fun hc => absurd h1 hc)
  refine ga_iload hC dL_law_1493 1 rfl ?_
  refine ga_if_ne (tgt := 1517) hC dL_law_1495 (by decide) (fun hc => ?_) (fun hc => ?_)
  · skip
    refine ga_goto (tgt := 2593) hC dL_law_1517 (by decide) ?_
    refine ga_locals [2, 3, 4, 5, 6, 7] rfl ?_
    exact ga_widen (Nat.add_le_add_left (by decide) _) (Nat.add_le_add_left (by decide) _) (kk _ _ _ _ h3)
  · have h2 := h2 hc
    refine ga_aload_n hC dL_law_1498 4 rfl rfl ?_
    refine ga_iconst (v := 0) hC dL_law_1499 (by decide) ?_
    refine ga_lald (k := 121) (n := 1) hC (fun _ => rfl) (by decide) lw_in0 dL_law_1500 ?_
    refine ga_iload hC dL_law_1501 0 rfl ?_
    refine gl_boolL hC dL_law_1503 dL_law_1506 dL_law_1507 dL_law_1510 ?_
    refine ga_lcmp hC dL_law_1511 ?_
    refine ga_if_eq (tgt := 1517) hC dL_law_1512 (by decide) (fun _ => ?_) (fun hc2 => absurd (show lg_cmp (o1 0) _ = 0 by rw [h2]; exact lw_lc _) hc2)
    refine ga_goto (tgt := 2593) hC dL_law_1517 (by decide) ?_
    refine ga_locals [2, 3, 4, 5, 6, 7] rfl ?_
    exact ga_widen (Nat.add_le_add_left (by decide) _) (Nat.add_le_add_left (by decide) _) (kk _ _ _ _ h3)
/-- what is to be shown of a call of isOne -/
def OP_isOne (Nx : cg_S → cg_S → Prop) (v1 : Int32) (a b : cg_S) : Prop := M_X11_isOne v1 a (fun r a1 => M_X12_isOne v1 b (fun r2 b1 => M_X12_thrown b1 (fun t b2 => t = 0 ∧ (r = 0 ↔ r2 = 0) ∧ Nx a1 b2))) (fun E a1 => (E = "java/lang/IndexOutOfBoundsException" ∧ M_X12_isOne v1 b (fun r2 b1 => M_X12_thrown b1 (fun t b2 => t = 1 ∧ Nx a1 b2))) ∨ (E = "java/lang/IllegalStateException" ∧ M_X12_isOne v1 b (fun r2 b1 => M_X12_thrown b1 (fun t b2 => t = 2 ∧ Nx a1 b2))))
set_option maxRecDepth 100000 in
set_option maxHeartbeats 4000000 in
theorem z_isOne {p : Program} {l : Launch} {e : Env} {s : State} {m : MethodId} {args : Array Value} {below : List Frame} {meth : Method} {c : Code} {D : va_G} {cy : Nat → ClassId} {ad : Nat → Nat} {kc ks : Nat} {ret : Option FieldType} {a b : cg_S} {o : Nat → Int64} {od : Nat → UInt64} {Z : State → Prop} {sb L n : Nat} {xs : Nat → Int32} {Nx : cg_S → cg_S → Prop} (hC : cg_X cg_WL RL cL_law 9 ret p s m args meth c D cy ad) (hK : cl_K l s ad) (hX : va_X sb L xs s s.heap) (hbl : sb < s.heap.size) (hbA : ¬ cg_F ad 123 s.heap.size sb) (hL : 5 * n + 5 ≤ L) (hL2 : L ≤ 2560) (hr : kc + 4 ≤ room_1.cells ∧ ks + 24 ≤ room_1.slots)
    (kk : ∀ (a1 b1 : cg_S) (o1 : Nat → Int64) (od1 : Nat → UInt64), Nx a1 b1 → cg_G cg_WL room_1 p l e s m args below meth c D cy ad Z (kc + 4) (ks + 24) 9 2593 [(5, .int (Int32.ofNat (5 * n))), (4, .ref (ad 122)), (3, .ref (ad 121)), (2, .ref (ad 88)), (1, .ref (ad 0)), (0, .ref sb)] [] (jn a1 b1 o1 od1))
    (h : OP_isOne Nx (xs (5 * n + 1)) a b) : cg_G cg_WL room_1 p l e s m args below meth c D cy ad Z kc ks 9 1520 [(5, .int (Int32.ofNat (5 * n))), (4, .ref (ad 122)), (3, .ref (ad 121)), (2, .ref (ad 88)), (1, .ref (ad 0)), (0, .ref sb)] [] (jn a b o od) := by
  have hw : M_L_isOne (xs (5 * n + 1)) a b o od (fun k a1 o1 od1 => M_X12_isOne (xs (5 * n + 1)) b (fun r2 b1 => M_X12_thrown b1 (fun t b2 => t = k ∧ (k = 0 → o1 0 = if r2 = 0 then (0 : Int64) else 1) ∧ Nx a1 b2))) := by
    refine w_isOne (M_X11_isOne.mono h (fun r a1 q => ⟨fun z => M_X12_isOne.mono q (fun r2 b1 q2 => M_X12_thrown.mono q2 (fun t b2 q3 => ⟨q3.1, fun _ => by rw [if_pos (q3.2.1.mp z)]; rfl, q3.2.2⟩)), fun z => M_X12_isOne.mono q (fun r2 b1 q2 => M_X12_thrown.mono q2 (fun t b2 q3 => ⟨q3.1, fun _ => by rw [if_neg (fun y => z (q3.2.1.mpr y))]; rfl, q3.2.2⟩))⟩) (fun E a1 q => ?_))
    rcases q with ⟨e9, q⟩ | ⟨e9, q⟩
    · exact Or.inl ⟨e9, M_X12_isOne.mono q (fun r2 b1 q2 => M_X12_thrown.mono q2 (fun t b2 q3 => ⟨q3.1, fun z => absurd z (by decide), q3.2⟩))⟩
    · exact Or.inr (⟨e9, M_X12_isOne.mono q (fun r2 b1 q2 => M_X12_thrown.mono q2 (fun t b2 q3 => ⟨q3.1, fun z => absurd z (by decide), q3.2⟩))⟩)
  refine ga_aload_n hC dL_law_1520 4 rfl rfl ?_
  refine gl_arg (j := 1) 5 0 hC hX hbl hbA hL hL2 rfl rfl (by decide) rfl dL_law_1521 dL_law_1522 dL_law_1524 dL_law_1525 dL_law_1526 ?_
  refine ga_aload_n hC dL_law_1527 2 rfl rfl ?_
  refine gl_callS (As := [.ref (ad 0), .int (xs (5 * n + 1)), .ref (ad 121)]) (st := []) (n := 3) hC hK hw (cg_in5 16 (by decide +kernel) (by decide +kernel)) (cg_in5 17 (by decide +kernel) (by decide +kernel)) (cg_in1 0 (by decide +kernel) (by decide +kernel)) (cg_in5 18 (by decide +kernel) (by decide +kernel)) rfl rfl rfl (by decide +kernel) ⟨Nat.le_trans (Nat.add_le_add_left (by decide) _) hr.1, Nat.le_trans (Nat.add_le_add_left (by decide) _) hr.2⟩ ⟨Nat.le_of_ble_eq_true rfl, Nat.le_of_ble_eq_true rfl⟩ rfl rfl (Nat.le_of_ble_eq_true rfl) dL_law_1528 (fun v τ hq => ?_)
  obtain ⟨k, a1, o1, od1, rfl, rfl, h⟩ := hq
  refine ga_istore (lv' := [(6, .int k), (5, .int (Int32.ofNat (5 * n))), (4, .ref (ad 122)), (3, .ref (ad 121)), (2, .ref (ad 88)), (1, .ref (ad 0)), (0, .ref sb)]) hC dL_law_1531 (by decide) rfl ?_
  refine ga_aload_n hC dL_law_1533 4 rfl rfl ?_
  refine gl_arg (j := 1) 6 1 hC hX hbl hbA hL hL2 rfl rfl (by decide) rfl dL_law_1534 dL_law_1535 dL_law_1537 dL_law_1538 dL_law_1539 ?_
  refine gl_callM (As := [.int (xs (5 * n + 1))]) (st := []) (n := 1) hC h (cg_in7 201 (by decide +kernel) (by decide +kernel)) (cg_in7 202 (by decide +kernel) (by decide +kernel)) (cg_in7 203 (by decide +kernel) (by decide +kernel)) (cg_in1 13 (by decide +kernel) (by decide +kernel)) (cg_in7 204 (by decide +kernel) (by decide +kernel)) rfl rfl rfl (by decide +kernel) ⟨Nat.le_trans (Nat.add_le_add_left (by decide) _) hr.1, Nat.le_trans (Nat.add_le_add_left (by decide) _) hr.2⟩ ⟨Nat.le_of_ble_eq_true rfl, Nat.le_of_ble_eq_true rfl⟩ rfl rfl (Nat.le_of_ble_eq_true rfl) dL_law_1540 (fun v τ hq => ?_)
  obtain ⟨r2, rfl, h⟩ := hq
  refine ga_istore (lv' := [(7, .int r2), (6, .int k), (5, .int (Int32.ofNat (5 * n))), (4, .ref (ad 122)), (3, .ref (ad 121)), (2, .ref (ad 88)), (1, .ref (ad 0)), (0, .ref sb)]) hC dL_law_1543 (by decide) rfl ?_
  refine ga_aload_n hC dL_law_1545 5 rfl rfl ?_
  refine gl_callM (As := []) (st := []) (n := 0) hC h (cg_in6 218 (by decide +kernel) (by decide +kernel)) (cg_in6 219 (by decide +kernel) (by decide +kernel)) (cg_in6 220 (by decide +kernel) (by decide +kernel)) (cg_in1 13 (by decide +kernel) (by decide +kernel)) (cg_in6 221 (by decide +kernel) (by decide +kernel)) rfl rfl rfl (by decide +kernel) ⟨Nat.le_trans (Nat.add_le_add_left (by decide) _) hr.1, Nat.le_trans (Nat.add_le_add_left (by decide) _) hr.2⟩ ⟨Nat.le_of_ble_eq_true rfl, Nat.le_of_ble_eq_true rfl⟩ rfl rfl (Nat.le_of_ble_eq_true rfl) dL_law_1546 (fun v τ hq => ?_)
  obtain ⟨t, rfl, h1, h2, h3⟩ := hq
  refine ga_iload hC dL_law_1549 1 rfl ?_
  refine ga_icmp_eq (tgt := 1556) hC dL_law_1551 (by decide) (fun _ => ?_) (fun hc => absurd h1 hc)
  refine ga_iload hC dL_law_1556 1 rfl ?_
  refine ga_if_ne (tgt := 1580) hC dL_law_1558 (by decide) (fun hc => ?_) (fun hc => ?_)
  · skip
    refine ga_goto (tgt := 2593) hC dL_law_1580 (by decide) ?_
    refine ga_locals [2, 3, 4, 5, 6, 7] rfl ?_
    exact ga_widen (Nat.add_le_add_left (by decide) _) (Nat.add_le_add_left (by decide) _) (kk _ _ _ _ h3)
  · have h2 := h2 hc
    refine ga_aload_n hC dL_law_1561 4 rfl rfl ?_
    refine ga_iconst (v := 0) hC dL_law_1562 (by decide) ?_
    refine ga_lald (k := 121) (n := 1) hC (fun _ => rfl) (by decide) lw_in0 dL_law_1563 ?_
    refine ga_iload hC dL_law_1564 0 rfl ?_
    refine gl_boolL hC dL_law_1566 dL_law_1569 dL_law_1570 dL_law_1573 ?_
    refine ga_lcmp hC dL_law_1574 ?_
    refine ga_if_eq (tgt := 1580) hC dL_law_1575 (by decide) (fun _ => ?_) (fun hc2 => absurd (show lg_cmp (o1 0) _ = 0 by rw [h2]; exact lw_lc _) hc2)
    refine ga_goto (tgt := 2593) hC dL_law_1580 (by decide) ?_
    refine ga_locals [2, 3, 4, 5, 6, 7] rfl ?_
    exact ga_widen (Nat.add_le_add_left (by decide) _) (Nat.add_le_add_left (by decide) _) (kk _ _ _ _ h3)
/-- what is to be shown of a call of solve -/
def OP_solve (Nx : cg_S → cg_S → Prop) (v1 : Int32) (a b : cg_S) : Prop := M_X11_solve v1 a (fun r a1 => M_X12_solve v1 b (fun r2 b1 => M_X12_thrown b1 (fun t b2 => t = 0 ∧ r = r2 ∧ Nx a1 b2))) (fun E a1 => (E = "java/lang/IllegalArgumentException" ∧ M_X12_solve v1 b (fun r2 b1 => M_X12_thrown b1 (fun t b2 => t = 1 ∧ Nx a1 b2))) ∨ (E = "java/lang/IllegalStateException" ∧ M_X12_solve v1 b (fun r2 b1 => M_X12_thrown b1 (fun t b2 => t = 2 ∧ Nx a1 b2))))
set_option maxRecDepth 100000 in
set_option maxHeartbeats 4000000 in
theorem z_solve {p : Program} {l : Launch} {e : Env} {s : State} {m : MethodId} {args : Array Value} {below : List Frame} {meth : Method} {c : Code} {D : va_G} {cy : Nat → ClassId} {ad : Nat → Nat} {kc ks : Nat} {ret : Option FieldType} {a b : cg_S} {o : Nat → Int64} {od : Nat → UInt64} {Z : State → Prop} {sb L n : Nat} {xs : Nat → Int32} {Nx : cg_S → cg_S → Prop} (hC : cg_X cg_WL RL cL_law 9 ret p s m args meth c D cy ad) (hK : cl_K l s ad) (hX : va_X sb L xs s s.heap) (hbl : sb < s.heap.size) (hbA : ¬ cg_F ad 123 s.heap.size sb) (hL : 5 * n + 5 ≤ L) (hL2 : L ≤ 2560) (hr : kc + 4 ≤ room_1.cells ∧ ks + 24 ≤ room_1.slots)
    (kk : ∀ (a1 b1 : cg_S) (o1 : Nat → Int64) (od1 : Nat → UInt64), Nx a1 b1 → cg_G cg_WL room_1 p l e s m args below meth c D cy ad Z (kc + 4) (ks + 24) 9 2593 [(5, .int (Int32.ofNat (5 * n))), (4, .ref (ad 122)), (3, .ref (ad 121)), (2, .ref (ad 88)), (1, .ref (ad 0)), (0, .ref sb)] [] (jn a1 b1 o1 od1))
    (h : OP_solve Nx (((xs (5 * n + 1)).toUInt32 % 65536).toInt32) a b) : cg_G cg_WL room_1 p l e s m args below meth c D cy ad Z kc ks 9 1583 [(5, .int (Int32.ofNat (5 * n))), (4, .ref (ad 122)), (3, .ref (ad 121)), (2, .ref (ad 88)), (1, .ref (ad 0)), (0, .ref sb)] [] (jn a b o od) := by
  have hw : M_L_solve (((xs (5 * n + 1)).toUInt32 % 65536).toInt32) a b o od (fun k a1 o1 od1 => M_X12_solve (((xs (5 * n + 1)).toUInt32 % 65536).toInt32) b (fun r2 b1 => M_X12_thrown b1 (fun t b2 => t = k ∧ (k = 0 → o1 0 = r2.toInt64) ∧ Nx a1 b2))) := by
    refine w_solve (M_X11_solve.mono h (fun r a1 q => M_X12_solve.mono q (fun r2 b1 q2 => M_X12_thrown.mono q2 (fun t b2 q3 => ⟨q3.1, fun _ => by rw [← q3.2.1]; rfl, q3.2.2⟩))) (fun E a1 q => ?_))
    rcases q with ⟨e9, q⟩ | ⟨e9, q⟩
    · exact Or.inl ⟨e9, M_X12_solve.mono q (fun r2 b1 q2 => M_X12_thrown.mono q2 (fun t b2 q3 => ⟨q3.1, fun z => absurd z (by decide), q3.2⟩))⟩
    · exact Or.inr (⟨e9, M_X12_solve.mono q (fun r2 b1 q2 => M_X12_thrown.mono q2 (fun t b2 q3 => ⟨q3.1, fun z => absurd z (by decide), q3.2⟩))⟩)
  refine ga_aload_n hC dL_law_1583 4 rfl rfl ?_
  refine gl_arg (j := 1) 5 0 hC hX hbl hbA hL hL2 rfl rfl (by decide) rfl dL_law_1584 dL_law_1585 dL_law_1587 dL_law_1588 dL_law_1589 ?_
  refine ga_i2c hC dL_law_1590 ?_
  refine ga_aload_n hC dL_law_1591 2 rfl rfl ?_
  refine gl_callS (As := [.ref (ad 0), .int (((xs (5 * n + 1)).toUInt32 % 65536).toInt32), .ref (ad 121)]) (st := []) (n := 3) hC hK hw (cg_in5 23 (by decide +kernel) (by decide +kernel)) (cg_in5 24 (by decide +kernel) (by decide +kernel)) (cg_in1 0 (by decide +kernel) (by decide +kernel)) (cg_in5 25 (by decide +kernel) (by decide +kernel)) rfl rfl rfl (by decide +kernel) ⟨Nat.le_trans (Nat.add_le_add_left (by decide) _) hr.1, Nat.le_trans (Nat.add_le_add_left (by decide) _) hr.2⟩ ⟨Nat.le_of_ble_eq_true rfl, Nat.le_of_ble_eq_true rfl⟩ rfl rfl (Nat.le_of_ble_eq_true rfl) dL_law_1592 (fun v τ hq => ?_)
  obtain ⟨k, a1, o1, od1, rfl, rfl, h⟩ := hq
  refine ga_istore (lv' := [(6, .int k), (5, .int (Int32.ofNat (5 * n))), (4, .ref (ad 122)), (3, .ref (ad 121)), (2, .ref (ad 88)), (1, .ref (ad 0)), (0, .ref sb)]) hC dL_law_1595 (by decide) rfl ?_
  refine ga_aload_n hC dL_law_1597 4 rfl rfl ?_
  refine gl_arg (j := 1) 6 1 hC hX hbl hbA hL hL2 rfl rfl (by decide) rfl dL_law_1598 dL_law_1599 dL_law_1601 dL_law_1602 dL_law_1603 ?_
  refine ga_i2c hC dL_law_1604 ?_
  refine gl_callM (As := [.int (((xs (5 * n + 1)).toUInt32 % 65536).toInt32)]) (st := []) (n := 1) hC h (cg_in7 205 (by decide +kernel) (by decide +kernel)) (cg_in7 206 (by decide +kernel) (by decide +kernel)) (cg_in7 207 (by decide +kernel) (by decide +kernel)) (cg_in1 13 (by decide +kernel) (by decide +kernel)) (cg_in7 208 (by decide +kernel) (by decide +kernel)) rfl rfl rfl (by decide +kernel) ⟨Nat.le_trans (Nat.add_le_add_left (by decide) _) hr.1, Nat.le_trans (Nat.add_le_add_left (by decide) _) hr.2⟩ ⟨Nat.le_of_ble_eq_true rfl, Nat.le_of_ble_eq_true rfl⟩ rfl rfl (Nat.le_of_ble_eq_true rfl) dL_law_1605 (fun v τ hq => ?_)
  obtain ⟨r2, rfl, h⟩ := hq
  refine ga_istore (lv' := [(7, .int r2), (6, .int k), (5, .int (Int32.ofNat (5 * n))), (4, .ref (ad 122)), (3, .ref (ad 121)), (2, .ref (ad 88)), (1, .ref (ad 0)), (0, .ref sb)]) hC dL_law_1608 (by decide) rfl ?_
  refine ga_aload_n hC dL_law_1610 5 rfl rfl ?_
  refine gl_callM (As := []) (st := []) (n := 0) hC h (cg_in6 218 (by decide +kernel) (by decide +kernel)) (cg_in6 219 (by decide +kernel) (by decide +kernel)) (cg_in6 220 (by decide +kernel) (by decide +kernel)) (cg_in1 13 (by decide +kernel) (by decide +kernel)) (cg_in6 221 (by decide +kernel) (by decide +kernel)) rfl rfl rfl (by decide +kernel) ⟨Nat.le_trans (Nat.add_le_add_left (by decide) _) hr.1, Nat.le_trans (Nat.add_le_add_left (by decide) _) hr.2⟩ ⟨Nat.le_of_ble_eq_true rfl, Nat.le_of_ble_eq_true rfl⟩ rfl rfl (Nat.le_of_ble_eq_true rfl) dL_law_1611 (fun v τ hq => ?_)
  obtain ⟨t, rfl, h1, h2, h3⟩ := hq
  refine ga_iload hC dL_law_1614 1 rfl ?_
  refine ga_icmp_eq (tgt := 1621) hC dL_law_1616 (by decide) (fun _ => ?_) (fun hc => absurd h1 hc)
  refine ga_iload hC dL_law_1621 1 rfl ?_
  refine ga_if_ne (tgt := 1638) hC dL_law_1623 (by decide) (fun hc => ?_) (fun hc => ?_)
  · skip
    refine ga_goto (tgt := 2593) hC dL_law_1638 (by decide) ?_
    refine ga_locals [2, 3, 4, 5, 6, 7] rfl ?_
    exact ga_widen (Nat.add_le_add_left (by decide) _) (Nat.add_le_add_left (by decide) _) (kk _ _ _ _ h3)
  · have h2 := h2 hc
    refine ga_aload_n hC dL_law_1626 4 rfl rfl ?_
    refine ga_iconst (v := 0) hC dL_law_1627 (by decide) ?_
    refine ga_lald (k := 121) (n := 1) hC (fun _ => rfl) (by decide) lw_in0 dL_law_1628 ?_
    refine ga_iload hC dL_law_1629 0 rfl ?_
    refine ga_i2l hC dL_law_1631 ?_
    refine ga_lcmp hC dL_law_1632 ?_
    refine ga_if_eq (tgt := 1638) hC dL_law_1633 (by decide) (fun _ => ?_) (fun hc2 => absurd (show lg_cmp (o1 0) _ = 0 by rw [h2]; exact lw_lc _) hc2)
    refine ga_goto (tgt := 2593) hC dL_law_1638 (by decide) ?_
    refine ga_locals [2, 3, 4, 5, 6, 7] rfl ?_
    exact ga_widen (Nat.add_le_add_left (by decide) _) (Nat.add_le_add_left (by decide) _) (kk _ _ _ _ h3)
/-- what is to be shown of a call of tell -/
def OP_tell (Nx : cg_S → cg_S → Prop) (v1 v2 : Int32) (a b : cg_S) : Prop := M_X11_tell v1 v2 a (fun r a1 => M_X12_tell v1 v2 b (fun r2 b1 => M_X12_thrown b1 (fun t b2 => t = 0 ∧ r = r2 ∧ Nx a1 b2))) (fun E a1 => (E = "java/lang/IndexOutOfBoundsException" ∧ M_X12_tell v1 v2 b (fun r2 b1 => M_X12_thrown b1 (fun t b2 => t = 1 ∧ Nx a1 b2))))
set_option maxRecDepth 100000 in
set_option maxHeartbeats 4000000 in
theorem z_tell {p : Program} {l : Launch} {e : Env} {s : State} {m : MethodId} {args : Array Value} {below : List Frame} {meth : Method} {c : Code} {D : va_G} {cy : Nat → ClassId} {ad : Nat → Nat} {kc ks : Nat} {ret : Option FieldType} {a b : cg_S} {o : Nat → Int64} {od : Nat → UInt64} {Z : State → Prop} {sb L n : Nat} {xs : Nat → Int32} {Nx : cg_S → cg_S → Prop} (hC : cg_X cg_WL RL cL_law 9 ret p s m args meth c D cy ad) (hK : cl_K l s ad) (hX : va_X sb L xs s s.heap) (hbl : sb < s.heap.size) (hbA : ¬ cg_F ad 123 s.heap.size sb) (hL : 5 * n + 5 ≤ L) (hL2 : L ≤ 2560) (hr : kc + 4 ≤ room_1.cells ∧ ks + 24 ≤ room_1.slots)
    (kk : ∀ (a1 b1 : cg_S) (o1 : Nat → Int64) (od1 : Nat → UInt64), Nx a1 b1 → cg_G cg_WL room_1 p l e s m args below meth c D cy ad Z (kc + 4) (ks + 24) 9 2593 [(5, .int (Int32.ofNat (5 * n))), (4, .ref (ad 122)), (3, .ref (ad 121)), (2, .ref (ad 88)), (1, .ref (ad 0)), (0, .ref sb)] [] (jn a1 b1 o1 od1))
    (h : OP_tell Nx (xs (5 * n + 1)) (xs (5 * n + 2)) a b) : cg_G cg_WL room_1 p l e s m args below meth c D cy ad Z kc ks 9 1641 [(5, .int (Int32.ofNat (5 * n))), (4, .ref (ad 122)), (3, .ref (ad 121)), (2, .ref (ad 88)), (1, .ref (ad 0)), (0, .ref sb)] [] (jn a b o od) := by
  have hw : M_L_tell (xs (5 * n + 1)) (xs (5 * n + 2)) a b o od (fun k a1 o1 od1 => M_X12_tell (xs (5 * n + 1)) (xs (5 * n + 2)) b (fun r2 b1 => M_X12_thrown b1 (fun t b2 => t = k ∧ (k = 0 → o1 0 = r2.toInt64) ∧ Nx a1 b2))) := by
    refine w_tell (M_X11_tell.mono h (fun r a1 q => M_X12_tell.mono q (fun r2 b1 q2 => M_X12_thrown.mono q2 (fun t b2 q3 => ⟨q3.1, fun _ => by rw [← q3.2.1]; rfl, q3.2.2⟩))) (fun E a1 q => ?_))
    obtain ⟨e9, q⟩ := q
    exact ⟨e9, M_X12_tell.mono q (fun r2 b1 q2 => M_X12_thrown.mono q2 (fun t b2 q3 => ⟨q3.1, fun z => absurd z (by decide), q3.2⟩))⟩
  refine ga_aload_n hC dL_law_1641 4 rfl rfl ?_
  refine gl_arg (j := 1) 5 0 hC hX hbl hbA hL hL2 rfl rfl (by decide) rfl dL_law_1642 dL_law_1643 dL_law_1645 dL_law_1646 dL_law_1647 ?_
  refine gl_arg (j := 2) 5 0 hC hX hbl hbA hL hL2 rfl rfl (by decide) rfl dL_law_1648 dL_law_1649 dL_law_1651 dL_law_1652 dL_law_1653 ?_
  refine ga_aload_n hC dL_law_1654 2 rfl rfl ?_
  refine gl_callS (As := [.ref (ad 0), .int (xs (5 * n + 1)), .int (xs (5 * n + 2)), .ref (ad 121)]) (st := []) (n := 4) hC hK hw (cg_in5 64 (by decide +kernel) (by decide +kernel)) (cg_in5 65 (by decide +kernel) (by decide +kernel)) (cg_in1 0 (by decide +kernel) (by decide +kernel)) (cg_in5 66 (by decide +kernel) (by decide +kernel)) rfl rfl rfl (by decide +kernel) ⟨Nat.le_trans (Nat.add_le_add_left (by decide) _) hr.1, Nat.le_trans (Nat.add_le_add_left (by decide) _) hr.2⟩ ⟨Nat.le_of_ble_eq_true rfl, Nat.le_of_ble_eq_true rfl⟩ rfl rfl (Nat.le_of_ble_eq_true rfl) dL_law_1655 (fun v τ hq => ?_)
  obtain ⟨k, a1, o1, od1, rfl, rfl, h⟩ := hq
  refine ga_istore (lv' := [(6, .int k), (5, .int (Int32.ofNat (5 * n))), (4, .ref (ad 122)), (3, .ref (ad 121)), (2, .ref (ad 88)), (1, .ref (ad 0)), (0, .ref sb)]) hC dL_law_1658 (by decide) rfl ?_
  refine ga_aload_n hC dL_law_1660 4 rfl rfl ?_
  refine gl_arg (j := 1) 6 1 hC hX hbl hbA hL hL2 rfl rfl (by decide) rfl dL_law_1661 dL_law_1662 dL_law_1664 dL_law_1665 dL_law_1666 ?_
  refine gl_arg (j := 2) 6 1 hC hX hbl hbA hL hL2 rfl rfl (by decide) rfl dL_law_1667 dL_law_1668 dL_law_1670 dL_law_1671 dL_law_1672 ?_
  refine gl_callM (As := [.int (xs (5 * n + 1)), .int (xs (5 * n + 2))]) (st := []) (n := 2) hC h (cg_in7 229 (by decide +kernel) (by decide +kernel)) (cg_in7 230 (by decide +kernel) (by decide +kernel)) (cg_in7 231 (by decide +kernel) (by decide +kernel)) (cg_in1 13 (by decide +kernel) (by decide +kernel)) (cg_in7 232 (by decide +kernel) (by decide +kernel)) rfl rfl rfl (by decide +kernel) ⟨Nat.le_trans (Nat.add_le_add_left (by decide) _) hr.1, Nat.le_trans (Nat.add_le_add_left (by decide) _) hr.2⟩ ⟨Nat.le_of_ble_eq_true rfl, Nat.le_of_ble_eq_true rfl⟩ rfl rfl (Nat.le_of_ble_eq_true rfl) dL_law_1673 (fun v τ hq => ?_)
  obtain ⟨r2, rfl, h⟩ := hq
  refine ga_istore (lv' := [(7, .int r2), (6, .int k), (5, .int (Int32.ofNat (5 * n))), (4, .ref (ad 122)), (3, .ref (ad 121)), (2, .ref (ad 88)), (1, .ref (ad 0)), (0, .ref sb)]) hC dL_law_1676 (by decide) rfl ?_
  refine ga_aload_n hC dL_law_1678 5 rfl rfl ?_
  refine gl_callM (As := []) (st := []) (n := 0) hC h (cg_in6 218 (by decide +kernel) (by decide +kernel)) (cg_in6 219 (by decide +kernel) (by decide +kernel)) (cg_in6 220 (by decide +kernel) (by decide +kernel)) (cg_in1 13 (by decide +kernel) (by decide +kernel)) (cg_in6 221 (by decide +kernel) (by decide +kernel)) rfl rfl rfl (by decide +kernel) ⟨Nat.le_trans (Nat.add_le_add_left (by decide) _) hr.1, Nat.le_trans (Nat.add_le_add_left (by decide) _) hr.2⟩ ⟨Nat.le_of_ble_eq_true rfl, Nat.le_of_ble_eq_true rfl⟩ rfl rfl (Nat.le_of_ble_eq_true rfl) dL_law_1679 (fun v τ hq => ?_)
  obtain ⟨t, rfl, h1, h2, h3⟩ := hq
  refine ga_iload hC dL_law_1682 1 rfl ?_
  refine ga_icmp_eq (tgt := 1689) hC dL_law_1684 (by decide) (fun _ => ?_) (fun hc => absurd h1 hc)
  refine ga_iload hC dL_law_1689 1 rfl ?_
  refine ga_if_ne (tgt := 1706) hC dL_law_1691 (by decide) (fun hc => ?_) (fun hc => ?_)
  · skip
    refine ga_goto (tgt := 2593) hC dL_law_1706 (by decide) ?_
    refine ga_locals [2, 3, 4, 5, 6, 7] rfl ?_
    exact ga_widen (Nat.add_le_add_left (by decide) _) (Nat.add_le_add_left (by decide) _) (kk _ _ _ _ h3)
  · have h2 := h2 hc
    refine ga_aload_n hC dL_law_1694 4 rfl rfl ?_
    refine ga_iconst (v := 0) hC dL_law_1695 (by decide) ?_
    refine ga_lald (k := 121) (n := 1) hC (fun _ => rfl) (by decide) lw_in0 dL_law_1696 ?_
    refine ga_iload hC dL_law_1697 0 rfl ?_
    refine ga_i2l hC dL_law_1699 ?_
    refine ga_lcmp hC dL_law_1700 ?_
    refine ga_if_eq (tgt := 1706) hC dL_law_1701 (by decide) (fun _ => ?_) (fun hc2 => absurd (show lg_cmp (o1 0) _ = 0 by rw [h2]; exact lw_lc _) hc2)
    refine ga_goto (tgt := 2593) hC dL_law_1706 (by decide) ?_
    refine ga_locals [2, 3, 4, 5, 6, 7] rfl ?_
    exact ga_widen (Nat.add_le_add_left (by decide) _) (Nat.add_le_add_left (by decide) _) (kk _ _ _ _ h3)
/-- what is to be shown of a call of told -/
def OP_told (Nx : cg_S → cg_S → Prop) (v1 : Int32) (a b : cg_S) : Prop := M_X11_told v1 a (fun r a1 => M_X12_told v1 b (fun r2 b1 => M_X12_thrown b1 (fun t b2 => t = 0 ∧ r = r2 ∧ Nx a1 b2))) (fun E a1 => (E = "java/lang/IndexOutOfBoundsException" ∧ M_X12_told v1 b (fun r2 b1 => M_X12_thrown b1 (fun t b2 => t = 1 ∧ Nx a1 b2))))
set_option maxRecDepth 100000 in
set_option maxHeartbeats 4000000 in
theorem z_told {p : Program} {l : Launch} {e : Env} {s : State} {m : MethodId} {args : Array Value} {below : List Frame} {meth : Method} {c : Code} {D : va_G} {cy : Nat → ClassId} {ad : Nat → Nat} {kc ks : Nat} {ret : Option FieldType} {a b : cg_S} {o : Nat → Int64} {od : Nat → UInt64} {Z : State → Prop} {sb L n : Nat} {xs : Nat → Int32} {Nx : cg_S → cg_S → Prop} (hC : cg_X cg_WL RL cL_law 9 ret p s m args meth c D cy ad) (hK : cl_K l s ad) (hX : va_X sb L xs s s.heap) (hbl : sb < s.heap.size) (hbA : ¬ cg_F ad 123 s.heap.size sb) (hL : 5 * n + 5 ≤ L) (hL2 : L ≤ 2560) (hr : kc + 4 ≤ room_1.cells ∧ ks + 24 ≤ room_1.slots)
    (kk : ∀ (a1 b1 : cg_S) (o1 : Nat → Int64) (od1 : Nat → UInt64), Nx a1 b1 → cg_G cg_WL room_1 p l e s m args below meth c D cy ad Z (kc + 4) (ks + 24) 9 2593 [(5, .int (Int32.ofNat (5 * n))), (4, .ref (ad 122)), (3, .ref (ad 121)), (2, .ref (ad 88)), (1, .ref (ad 0)), (0, .ref sb)] [] (jn a1 b1 o1 od1))
    (h : OP_told Nx (xs (5 * n + 1)) a b) : cg_G cg_WL room_1 p l e s m args below meth c D cy ad Z kc ks 9 1709 [(5, .int (Int32.ofNat (5 * n))), (4, .ref (ad 122)), (3, .ref (ad 121)), (2, .ref (ad 88)), (1, .ref (ad 0)), (0, .ref sb)] [] (jn a b o od) := by
  have hw : M_L_told (xs (5 * n + 1)) a b o od (fun k a1 o1 od1 => M_X12_told (xs (5 * n + 1)) b (fun r2 b1 => M_X12_thrown b1 (fun t b2 => t = k ∧ (k = 0 → o1 0 = r2.toInt64) ∧ Nx a1 b2))) := by
    refine w_told (M_X11_told.mono h (fun r a1 q => M_X12_told.mono q (fun r2 b1 q2 => M_X12_thrown.mono q2 (fun t b2 q3 => ⟨q3.1, fun _ => by rw [← q3.2.1]; rfl, q3.2.2⟩))) (fun E a1 q => ?_))
    obtain ⟨e9, q⟩ := q
    exact ⟨e9, M_X12_told.mono q (fun r2 b1 q2 => M_X12_thrown.mono q2 (fun t b2 q3 => ⟨q3.1, fun z => absurd z (by decide), q3.2⟩))⟩
  refine ga_aload_n hC dL_law_1709 4 rfl rfl ?_
  refine gl_arg (j := 1) 5 0 hC hX hbl hbA hL hL2 rfl rfl (by decide) rfl dL_law_1710 dL_law_1711 dL_law_1713 dL_law_1714 dL_law_1715 ?_
  refine ga_aload_n hC dL_law_1716 2 rfl rfl ?_
  refine gl_callS (As := [.ref (ad 0), .int (xs (5 * n + 1)), .ref (ad 121)]) (st := []) (n := 3) hC hK hw (cg_in5 71 (by decide +kernel) (by decide +kernel)) (cg_in5 72 (by decide +kernel) (by decide +kernel)) (cg_in1 0 (by decide +kernel) (by decide +kernel)) (cg_in5 73 (by decide +kernel) (by decide +kernel)) rfl rfl rfl (by decide +kernel) ⟨Nat.le_trans (Nat.add_le_add_left (by decide) _) hr.1, Nat.le_trans (Nat.add_le_add_left (by decide) _) hr.2⟩ ⟨Nat.le_of_ble_eq_true rfl, Nat.le_of_ble_eq_true rfl⟩ rfl rfl (Nat.le_of_ble_eq_true rfl) dL_law_1717 (fun v τ hq => ?_)
  obtain ⟨k, a1, o1, od1, rfl, rfl, h⟩ := hq
  refine ga_istore (lv' := [(6, .int k), (5, .int (Int32.ofNat (5 * n))), (4, .ref (ad 122)), (3, .ref (ad 121)), (2, .ref (ad 88)), (1, .ref (ad 0)), (0, .ref sb)]) hC dL_law_1720 (by decide) rfl ?_
  refine ga_aload_n hC dL_law_1722 4 rfl rfl ?_
  refine gl_arg (j := 1) 6 1 hC hX hbl hbA hL hL2 rfl rfl (by decide) rfl dL_law_1723 dL_law_1724 dL_law_1726 dL_law_1727 dL_law_1728 ?_
  refine gl_callM (As := [.int (xs (5 * n + 1))]) (st := []) (n := 1) hC h (cg_in7 233 (by decide +kernel) (by decide +kernel)) (cg_in7 234 (by decide +kernel) (by decide +kernel)) (cg_in7 235 (by decide +kernel) (by decide +kernel)) (cg_in1 13 (by decide +kernel) (by decide +kernel)) (cg_in7 236 (by decide +kernel) (by decide +kernel)) rfl rfl rfl (by decide +kernel) ⟨Nat.le_trans (Nat.add_le_add_left (by decide) _) hr.1, Nat.le_trans (Nat.add_le_add_left (by decide) _) hr.2⟩ ⟨Nat.le_of_ble_eq_true rfl, Nat.le_of_ble_eq_true rfl⟩ rfl rfl (Nat.le_of_ble_eq_true rfl) dL_law_1729 (fun v τ hq => ?_)
  obtain ⟨r2, rfl, h⟩ := hq
  refine ga_istore (lv' := [(7, .int r2), (6, .int k), (5, .int (Int32.ofNat (5 * n))), (4, .ref (ad 122)), (3, .ref (ad 121)), (2, .ref (ad 88)), (1, .ref (ad 0)), (0, .ref sb)]) hC dL_law_1732 (by decide) rfl ?_
  refine ga_aload_n hC dL_law_1734 5 rfl rfl ?_
  refine gl_callM (As := []) (st := []) (n := 0) hC h (cg_in6 218 (by decide +kernel) (by decide +kernel)) (cg_in6 219 (by decide +kernel) (by decide +kernel)) (cg_in6 220 (by decide +kernel) (by decide +kernel)) (cg_in1 13 (by decide +kernel) (by decide +kernel)) (cg_in6 221 (by decide +kernel) (by decide +kernel)) rfl rfl rfl (by decide +kernel) ⟨Nat.le_trans (Nat.add_le_add_left (by decide) _) hr.1, Nat.le_trans (Nat.add_le_add_left (by decide) _) hr.2⟩ ⟨Nat.le_of_ble_eq_true rfl, Nat.le_of_ble_eq_true rfl⟩ rfl rfl (Nat.le_of_ble_eq_true rfl) dL_law_1735 (fun v τ hq => ?_)
  obtain ⟨t, rfl, h1, h2, h3⟩ := hq
  refine ga_iload hC dL_law_1738 1 rfl ?_
  refine ga_icmp_eq (tgt := 1745) hC dL_law_1740 (by decide) (fun _ => ?_) (fun hc => absurd h1 hc)
  refine ga_iload hC dL_law_1745 1 rfl ?_
  refine ga_if_ne (tgt := 1762) hC dL_law_1747 (by decide) (fun hc => ?_) (fun hc => ?_)
  · skip
    refine ga_goto (tgt := 2593) hC dL_law_1762 (by decide) ?_
    refine ga_locals [2, 3, 4, 5, 6, 7] rfl ?_
    exact ga_widen (Nat.add_le_add_left (by decide) _) (Nat.add_le_add_left (by decide) _) (kk _ _ _ _ h3)
  · have h2 := h2 hc
    refine ga_aload_n hC dL_law_1750 4 rfl rfl ?_
    refine ga_iconst (v := 0) hC dL_law_1751 (by decide) ?_
    refine ga_lald (k := 121) (n := 1) hC (fun _ => rfl) (by decide) lw_in0 dL_law_1752 ?_
    refine ga_iload hC dL_law_1753 0 rfl ?_
    refine ga_i2l hC dL_law_1755 ?_
    refine ga_lcmp hC dL_law_1756 ?_
    refine ga_if_eq (tgt := 1762) hC dL_law_1757 (by decide) (fun _ => ?_) (fun hc2 => absurd (show lg_cmp (o1 0) _ = 0 by rw [h2]; exact lw_lc _) hc2)
    refine ga_goto (tgt := 2593) hC dL_law_1762 (by decide) ?_
    refine ga_locals [2, 3, 4, 5, 6, 7] rfl ?_
    exact ga_widen (Nat.add_le_add_left (by decide) _) (Nat.add_le_add_left (by decide) _) (kk _ _ _ _ h3)
/-- what is to be shown of a call of chainAbove -/
def OP_chainAbove (Nx : cg_S → cg_S → Prop) (v1 v2 : Int32) (a b : cg_S) : Prop := M_X11_chainAbove v1 v2 a (fun r a1 => M_X12_chainAbove v1 v2 b (fun r2 b1 => M_X12_thrown b1 (fun t b2 => t = 0 ∧ r = r2 ∧ Nx a1 b2))) (fun E a1 => (E = "java/lang/IllegalArgumentException" ∧ M_X12_chainAbove v1 v2 b (fun r2 b1 => M_X12_thrown b1 (fun t b2 => t = 1 ∧ Nx a1 b2))) ∨ (E = "java/lang/IndexOutOfBoundsException" ∧ M_X12_chainAbove v1 v2 b (fun r2 b1 => M_X12_thrown b1 (fun t b2 => t = 2 ∧ Nx a1 b2))) ∨ (E = "java/lang/IllegalStateException" ∧ M_X12_chainAbove v1 v2 b (fun r2 b1 => M_X12_thrown b1 (fun t b2 => t = 3 ∧ Nx a1 b2))))
set_option maxRecDepth 100000 in
set_option maxHeartbeats 4000000 in
theorem z_chainAbove {p : Program} {l : Launch} {e : Env} {s : State} {m : MethodId} {args : Array Value} {below : List Frame} {meth : Method} {c : Code} {D : va_G} {cy : Nat → ClassId} {ad : Nat → Nat} {kc ks : Nat} {ret : Option FieldType} {a b : cg_S} {o : Nat → Int64} {od : Nat → UInt64} {Z : State → Prop} {sb L n : Nat} {xs : Nat → Int32} {Nx : cg_S → cg_S → Prop} (hC : cg_X cg_WL RL cL_law 9 ret p s m args meth c D cy ad) (hK : cl_K l s ad) (hX : va_X sb L xs s s.heap) (hbl : sb < s.heap.size) (hbA : ¬ cg_F ad 123 s.heap.size sb) (hL : 5 * n + 5 ≤ L) (hL2 : L ≤ 2560) (hr : kc + 4 ≤ room_1.cells ∧ ks + 24 ≤ room_1.slots)
    (kk : ∀ (a1 b1 : cg_S) (o1 : Nat → Int64) (od1 : Nat → UInt64), Nx a1 b1 → cg_G cg_WL room_1 p l e s m args below meth c D cy ad Z (kc + 4) (ks + 24) 9 2593 [(5, .int (Int32.ofNat (5 * n))), (4, .ref (ad 122)), (3, .ref (ad 121)), (2, .ref (ad 88)), (1, .ref (ad 0)), (0, .ref sb)] [] (jn a1 b1 o1 od1))
    (h : OP_chainAbove Nx (((xs (5 * n + 1)).toUInt32 % 65536).toInt32) (xs (5 * n + 2)) a b) : cg_G cg_WL room_1 p l e s m args below meth c D cy ad Z kc ks 9 1765 [(5, .int (Int32.ofNat (5 * n))), (4, .ref (ad 122)), (3, .ref (ad 121)), (2, .ref (ad 88)), (1, .ref (ad 0)), (0, .ref sb)] [] (jn a b o od) := by
  have hw : M_L_chainAbove (((xs (5 * n + 1)).toUInt32 % 65536).toInt32) (xs (5 * n + 2)) a b o od (fun k a1 o1 od1 => M_X12_chainAbove (((xs (5 * n + 1)).toUInt32 % 65536).toInt32) (xs (5 * n + 2)) b (fun r2 b1 => M_X12_thrown b1 (fun t b2 => t = k ∧ (k = 0 → o1 0 = r2) ∧ Nx a1 b2))) := by
    refine w_chainAbove (M_X11_chainAbove.mono h (fun r a1 q => M_X12_chainAbove.mono q (fun r2 b1 q2 => M_X12_thrown.mono q2 (fun t b2 q3 => ⟨q3.1, fun _ => by rw [← q3.2.1]; rfl, q3.2.2⟩))) (fun E a1 q => ?_))
    rcases q with ⟨e9, q⟩ | ⟨e9, q⟩ | ⟨e9, q⟩
    · exact Or.inl ⟨e9, M_X12_chainAbove.mono q (fun r2 b1 q2 => M_X12_thrown.mono q2 (fun t b2 q3 => ⟨q3.1, fun z => absurd z (by decide), q3.2⟩))⟩
    · exact Or.inr (Or.inl ⟨e9, M_X12_chainAbove.mono q (fun r2 b1 q2 => M_X12_thrown.mono q2 (fun t b2 q3 => ⟨q3.1, fun z => absurd z (by decide), q3.2⟩))⟩)
    · exact Or.inr (Or.inr (⟨e9, M_X12_chainAbove.mono q (fun r2 b1 q2 => M_X12_thrown.mono q2 (fun t b2 q3 => ⟨q3.1, fun z => absurd z (by decide), q3.2⟩))⟩))
  refine ga_aload_n hC dL_law_1765 4 rfl rfl ?_
  refine gl_arg (j := 1) 5 0 hC hX hbl hbA hL hL2 rfl rfl (by decide) rfl dL_law_1766 dL_law_1767 dL_law_1769 dL_law_1770 dL_law_1771 ?_
  refine ga_i2c hC dL_law_1772 ?_
  refine gl_arg (j := 2) 5 0 hC hX hbl hbA hL hL2 rfl rfl (by decide) rfl dL_law_1773 dL_law_1774 dL_law_1776 dL_law_1777 dL_law_1778 ?_
  refine ga_aload_n hC dL_law_1779 2 rfl rfl ?_
  refine gl_callS (As := [.ref (ad 0), .int (((xs (5 * n + 1)).toUInt32 % 65536).toInt32), .int (xs (5 * n + 2)), .ref (ad 121)]) (st := []) (n := 4) hC hK hw (cg_in5 78 (by decide +kernel) (by decide +kernel)) (cg_in5 79 (by decide +kernel) (by decide +kernel)) (cg_in1 0 (by decide +kernel) (by decide +kernel)) (cg_in5 80 (by decide +kernel) (by decide +kernel)) rfl rfl rfl (by decide +kernel) ⟨Nat.le_trans (Nat.add_le_add_left (by decide) _) hr.1, Nat.le_trans (Nat.add_le_add_left (by decide) _) hr.2⟩ ⟨Nat.le_of_ble_eq_true rfl, Nat.le_of_ble_eq_true rfl⟩ rfl rfl (Nat.le_of_ble_eq_true rfl) dL_law_1780 (fun v τ hq => ?_)
  obtain ⟨k, a1, o1, od1, rfl, rfl, h⟩ := hq
  refine ga_istore (lv' := [(6, .int k), (5, .int (Int32.ofNat (5 * n))), (4, .ref (ad 122)), (3, .ref (ad 121)), (2, .ref (ad 88)), (1, .ref (ad 0)), (0, .ref sb)]) hC dL_law_1783 (by decide) rfl ?_
  refine ga_aload_n hC dL_law_1785 4 rfl rfl ?_
  refine gl_arg (j := 1) 6 1 hC hX hbl hbA hL hL2 rfl rfl (by decide) rfl dL_law_1786 dL_law_1787 dL_law_1789 dL_law_1790 dL_law_1791 ?_
  refine ga_i2c hC dL_law_1792 ?_
  refine gl_arg (j := 2) 6 1 hC hX hbl hbA hL hL2 rfl rfl (by decide) rfl dL_law_1793 dL_law_1794 dL_law_1796 dL_law_1797 dL_law_1798 ?_
  refine gl_callM (As := [.int (((xs (5 * n + 1)).toUInt32 % 65536).toInt32), .int (xs (5 * n + 2))]) (st := []) (n := 2) hC h (cg_in7 237 (by decide +kernel) (by decide +kernel)) (cg_in7 238 (by decide +kernel) (by decide +kernel)) (cg_in7 239 (by decide +kernel) (by decide +kernel)) (cg_in1 13 (by decide +kernel) (by decide +kernel)) (cg_in8 0 (by decide +kernel) (by decide +kernel)) rfl rfl rfl (by decide +kernel) ⟨Nat.le_trans (Nat.add_le_add_left (by decide) _) hr.1, Nat.le_trans (Nat.add_le_add_left (by decide) _) hr.2⟩ ⟨Nat.le_of_ble_eq_true rfl, Nat.le_of_ble_eq_true rfl⟩ rfl rfl (Nat.le_of_ble_eq_true rfl) dL_law_1799 (fun v τ hq => ?_)
  obtain ⟨r2, rfl, h⟩ := hq
  refine ga_lstore (lv' := [(7, .long r2), (6, .int k), (5, .int (Int32.ofNat (5 * n))), (4, .ref (ad 122)), (3, .ref (ad 121)), (2, .ref (ad 88)), (1, .ref (ad 0)), (0, .ref sb)]) hC dL_law_1802 (by decide) rfl ?_
  refine ga_aload_n hC dL_law_1804 5 rfl rfl ?_
  refine gl_callM (As := []) (st := []) (n := 0) hC h (cg_in6 218 (by decide +kernel) (by decide +kernel)) (cg_in6 219 (by decide +kernel) (by decide +kernel)) (cg_in6 220 (by decide +kernel) (by decide +kernel)) (cg_in1 13 (by decide +kernel) (by decide +kernel)) (cg_in6 221 (by decide +kernel) (by decide +kernel)) rfl rfl rfl (by decide +kernel) ⟨Nat.le_trans (Nat.add_le_add_left (by decide) _) hr.1, Nat.le_trans (Nat.add_le_add_left (by decide) _) hr.2⟩ ⟨Nat.le_of_ble_eq_true rfl, Nat.le_of_ble_eq_true rfl⟩ rfl rfl (Nat.le_of_ble_eq_true rfl) dL_law_1805 (fun v τ hq => ?_)
  obtain ⟨t, rfl, h1, h2, h3⟩ := hq
  refine ga_iload hC dL_law_1808 1 rfl ?_
  refine ga_icmp_eq (tgt := 1815) hC dL_law_1810 (by decide) (fun _ => ?_) (fun hc => absurd h1 hc)
  refine ga_iload hC dL_law_1815 1 rfl ?_
  refine ga_if_ne (tgt := 1831) hC dL_law_1817 (by decide) (fun hc => ?_) (fun hc => ?_)
  · skip
    refine ga_goto (tgt := 2593) hC dL_law_1831 (by decide) ?_
    refine ga_locals [2, 3, 4, 5, 6, 7] rfl ?_
    exact ga_widen (Nat.add_le_add_left (by decide) _) (Nat.add_le_add_left (by decide) _) (kk _ _ _ _ h3)
  · have h2 := h2 hc
    refine ga_aload_n hC dL_law_1820 4 rfl rfl ?_
    refine ga_iconst (v := 0) hC dL_law_1821 (by decide) ?_
    refine ga_lald (k := 121) (n := 1) hC (fun _ => rfl) (by decide) lw_in0 dL_law_1822 ?_
    refine ga_lload hC dL_law_1823 0 rfl ?_
    refine ga_lcmp hC dL_law_1825 ?_
    refine ga_if_eq (tgt := 1831) hC dL_law_1826 (by decide) (fun _ => ?_) (fun hc2 => absurd (show lg_cmp (o1 0) _ = 0 by rw [h2]; exact lw_lc _) hc2)
    refine ga_goto (tgt := 2593) hC dL_law_1831 (by decide) ?_
    refine ga_locals [2, 3, 4, 5, 6, 7] rfl ?_
    exact ga_widen (Nat.add_le_add_left (by decide) _) (Nat.add_le_add_left (by decide) _) (kk _ _ _ _ h3)
/-- what is to be shown of a call of chainBelow -/
def OP_chainBelow (Nx : cg_S → cg_S → Prop) (v1 v2 : Int32) (a b : cg_S) : Prop := M_X11_chainBelow v1 v2 a (fun r a1 => M_X12_chainBelow v1 v2 b (fun r2 b1 => M_X12_thrown b1 (fun t b2 => t = 0 ∧ r = r2 ∧ Nx a1 b2))) (fun E a1 => (E = "java/lang/IllegalArgumentException" ∧ M_X12_chainBelow v1 v2 b (fun r2 b1 => M_X12_thrown b1 (fun t b2 => t = 1 ∧ Nx a1 b2))) ∨ (E = "java/lang/IndexOutOfBoundsException" ∧ M_X12_chainBelow v1 v2 b (fun r2 b1 => M_X12_thrown b1 (fun t b2 => t = 2 ∧ Nx a1 b2))) ∨ (E = "java/lang/IllegalStateException" ∧ M_X12_chainBelow v1 v2 b (fun r2 b1 => M_X12_thrown b1 (fun t b2 => t = 3 ∧ Nx a1 b2))))
set_option maxRecDepth 100000 in
set_option maxHeartbeats 4000000 in
theorem z_chainBelow {p : Program} {l : Launch} {e : Env} {s : State} {m : MethodId} {args : Array Value} {below : List Frame} {meth : Method} {c : Code} {D : va_G} {cy : Nat → ClassId} {ad : Nat → Nat} {kc ks : Nat} {ret : Option FieldType} {a b : cg_S} {o : Nat → Int64} {od : Nat → UInt64} {Z : State → Prop} {sb L n : Nat} {xs : Nat → Int32} {Nx : cg_S → cg_S → Prop} (hC : cg_X cg_WL RL cL_law 9 ret p s m args meth c D cy ad) (hK : cl_K l s ad) (hX : va_X sb L xs s s.heap) (hbl : sb < s.heap.size) (hbA : ¬ cg_F ad 123 s.heap.size sb) (hL : 5 * n + 5 ≤ L) (hL2 : L ≤ 2560) (hr : kc + 4 ≤ room_1.cells ∧ ks + 24 ≤ room_1.slots)
    (kk : ∀ (a1 b1 : cg_S) (o1 : Nat → Int64) (od1 : Nat → UInt64), Nx a1 b1 → cg_G cg_WL room_1 p l e s m args below meth c D cy ad Z (kc + 4) (ks + 24) 9 2593 [(5, .int (Int32.ofNat (5 * n))), (4, .ref (ad 122)), (3, .ref (ad 121)), (2, .ref (ad 88)), (1, .ref (ad 0)), (0, .ref sb)] [] (jn a1 b1 o1 od1))
    (h : OP_chainBelow Nx (((xs (5 * n + 1)).toUInt32 % 65536).toInt32) (xs (5 * n + 2)) a b) : cg_G cg_WL room_1 p l e s m args below meth c D cy ad Z kc ks 9 1834 [(5, .int (Int32.ofNat (5 * n))), (4, .ref (ad 122)), (3, .ref (ad 121)), (2, .ref (ad 88)), (1, .ref (ad 0)), (0, .ref sb)] [] (jn a b o od) := by
  have hw : M_L_chainBelow (((xs (5 * n + 1)).toUInt32 % 65536).toInt32) (xs (5 * n + 2)) a b o od (fun k a1 o1 od1 => M_X12_chainBelow (((xs (5 * n + 1)).toUInt32 % 65536).toInt32) (xs (5 * n + 2)) b (fun r2 b1 => M_X12_thrown b1 (fun t b2 => t = k ∧ (k = 0 → o1 0 = r2) ∧ Nx a1 b2))) := by
    refine w_chainBelow (M_X11_chainBelow.mono h (fun r a1 q => M_X12_chainBelow.mono q (fun r2 b1 q2 => M_X12_thrown.mono q2 (fun t b2 q3 => ⟨q3.1, fun _ => by rw [← q3.2.1]; rfl, q3.2.2⟩))) (fun E a1 q => ?_))
    rcases q with ⟨e9, q⟩ | ⟨e9, q⟩ | ⟨e9, q⟩
    · exact Or.inl ⟨e9, M_X12_chainBelow.mono q (fun r2 b1 q2 => M_X12_thrown.mono q2 (fun t b2 q3 => ⟨q3.1, fun z => absurd z (by decide), q3.2⟩))⟩
    · exact Or.inr (Or.inl ⟨e9, M_X12_chainBelow.mono q (fun r2 b1 q2 => M_X12_thrown.mono q2 (fun t b2 q3 => ⟨q3.1, fun z => absurd z (by decide), q3.2⟩))⟩)
    · exact Or.inr (Or.inr (⟨e9, M_X12_chainBelow.mono q (fun r2 b1 q2 => M_X12_thrown.mono q2 (fun t b2 q3 => ⟨q3.1, fun z => absurd z (by decide), q3.2⟩))⟩))
  refine ga_aload_n hC dL_law_1834 4 rfl rfl ?_
  refine gl_arg (j := 1) 5 0 hC hX hbl hbA hL hL2 rfl rfl (by decide) rfl dL_law_1835 dL_law_1836 dL_law_1838 dL_law_1839 dL_law_1840 ?_
  refine ga_i2c hC dL_law_1841 ?_
  refine gl_arg (j := 2) 5 0 hC hX hbl hbA hL hL2 rfl rfl (by decide) rfl dL_law_1842 dL_law_1843 dL_law_1845 dL_law_1846 dL_law_1847 ?_
  refine ga_aload_n hC dL_law_1848 2 rfl rfl ?_
  refine gl_callS (As := [.ref (ad 0), .int (((xs (5 * n + 1)).toUInt32 % 65536).toInt32), .int (xs (5 * n + 2)), .ref (ad 121)]) (st := []) (n := 4) hC hK hw (cg_in5 169 (by decide +kernel) (by decide +kernel)) (cg_in5 170 (by decide +kernel) (by decide +kernel)) (cg_in1 0 (by decide +kernel) (by decide +kernel)) (cg_in5 171 (by decide +kernel) (by decide +kernel)) rfl rfl rfl (by decide +kernel) ⟨Nat.le_trans (Nat.add_le_add_left (by decide) _) hr.1, Nat.le_trans (Nat.add_le_add_left (by decide) _) hr.2⟩ ⟨Nat.le_of_ble_eq_true rfl, Nat.le_of_ble_eq_true rfl⟩ rfl rfl (Nat.le_of_ble_eq_true rfl) dL_law_1849 (fun v τ hq => ?_)
  obtain ⟨k, a1, o1, od1, rfl, rfl, h⟩ := hq
  refine ga_istore (lv' := [(6, .int k), (5, .int (Int32.ofNat (5 * n))), (4, .ref (ad 122)), (3, .ref (ad 121)), (2, .ref (ad 88)), (1, .ref (ad 0)), (0, .ref sb)]) hC dL_law_1852 (by decide) rfl ?_
  refine ga_aload_n hC dL_law_1854 4 rfl rfl ?_
  refine gl_arg (j := 1) 6 1 hC hX hbl hbA hL hL2 rfl rfl (by decide) rfl dL_law_1855 dL_law_1856 dL_law_1858 dL_law_1859 dL_law_1860 ?_
  refine ga_i2c hC dL_law_1861 ?_
  refine gl_arg (j := 2) 6 1 hC hX hbl hbA hL hL2 rfl rfl (by decide) rfl dL_law_1862 dL_law_1863 dL_law_1865 dL_law_1866 dL_law_1867 ?_
  refine gl_callM (As := [.int (((xs (5 * n + 1)).toUInt32 % 65536).toInt32), .int (xs (5 * n + 2))]) (st := []) (n := 2) hC h (cg_in8 9 (by decide +kernel) (by decide +kernel)) (cg_in8 10 (by decide +kernel) (by decide +kernel)) (cg_in8 11 (by decide +kernel) (by decide +kernel)) (cg_in1 13 (by decide +kernel) (by decide +kernel)) (cg_in8 12 (by decide +kernel) (by decide +kernel)) rfl rfl rfl (by decide +kernel) ⟨Nat.le_trans (Nat.add_le_add_left (by decide) _) hr.1, Nat.le_trans (Nat.add_le_add_left (by decide) _) hr.2⟩ ⟨Nat.le_of_ble_eq_true rfl, Nat.le_of_ble_eq_true rfl⟩ rfl rfl (Nat.le_of_ble_eq_true rfl) dL_law_1868 (fun v τ hq => ?_)
  obtain ⟨r2, rfl, h⟩ := hq
  refine ga_lstore (lv' := [(7, .long r2), (6, .int k), (5, .int (Int32.ofNat (5 * n))), (4, .ref (ad 122)), (3, .ref (ad 121)), (2, .ref (ad 88)), (1, .ref (ad 0)), (0, .ref sb)]) hC dL_law_1871 (by decide) rfl ?_
  refine ga_aload_n hC dL_law_1873 5 rfl rfl ?_
  refine gl_callM (As := []) (st := []) (n := 0) hC h (cg_in6 218 (by decide +kernel) (by decide +kernel)) (cg_in6 219 (by decide +kernel) (by decide +kernel)) (cg_in6 220 (by decide +kernel) (by decide +kernel)) (cg_in1 13 (by decide +kernel) (by decide +kernel)) (cg_in6 221 (by decide +kernel) (by decide +kernel)) rfl rfl rfl (by decide +kernel) ⟨Nat.le_trans (Nat.add_le_add_left (by decide) _) hr.1, Nat.le_trans (Nat.add_le_add_left (by decide) _) hr.2⟩ ⟨Nat.le_of_ble_eq_true rfl, Nat.le_of_ble_eq_true rfl⟩ rfl rfl (Nat.le_of_ble_eq_true rfl) dL_law_1874 (fun v τ hq => ?_)
  obtain ⟨t, rfl, h1, h2, h3⟩ := hq
  refine ga_iload hC dL_law_1877 1 rfl ?_
  refine ga_icmp_eq (tgt := 1884) hC dL_law_1879 (by decide) (fun _ => ?_) (fun hc => absurd h1 hc)
  refine ga_iload hC dL_law_1884 1 rfl ?_
  refine ga_if_ne (tgt := 1900) hC dL_law_1886 (by decide) (fun hc => ?_) (fun hc => ?_)
  · skip
    refine ga_goto (tgt := 2593) hC dL_law_1900 (by decide) ?_
    refine ga_locals [2, 3, 4, 5, 6, 7] rfl ?_
    exact ga_widen (Nat.add_le_add_left (by decide) _) (Nat.add_le_add_left (by decide) _) (kk _ _ _ _ h3)
  · have h2 := h2 hc
    refine ga_aload_n hC dL_law_1889 4 rfl rfl ?_
    refine ga_iconst (v := 0) hC dL_law_1890 (by decide) ?_
    refine ga_lald (k := 121) (n := 1) hC (fun _ => rfl) (by decide) lw_in0 dL_law_1891 ?_
    refine ga_lload hC dL_law_1892 0 rfl ?_
    refine ga_lcmp hC dL_law_1894 ?_
    refine ga_if_eq (tgt := 1900) hC dL_law_1895 (by decide) (fun _ => ?_) (fun hc2 => absurd (show lg_cmp (o1 0) _ = 0 by rw [h2]; exact lw_lc _) hc2)
    refine ga_goto (tgt := 2593) hC dL_law_1900 (by decide) ?_
    refine ga_locals [2, 3, 4, 5, 6, 7] rfl ?_
    exact ga_widen (Nat.add_le_add_left (by decide) _) (Nat.add_le_add_left (by decide) _) (kk _ _ _ _ h3)
/-- what is to be shown of a call of responseAbove -/
def OP_responseAbove (Nx : cg_S → cg_S → Prop) (v1 v2 v3 : Int32) (a b : cg_S) : Prop := M_X11_responseAbove v1 v2 v3 a (fun r a1 => M_X12_responseAbove v1 v2 v3 b (fun r2 b1 => M_X12_thrown b1 (fun t b2 => t = 0 ∧ r = r2 ∧ Nx a1 b2))) (fun E a1 => (E = "java/lang/IllegalArgumentException" ∧ M_X12_responseAbove v1 v2 v3 b (fun r2 b1 => M_X12_thrown b1 (fun t b2 => t = 1 ∧ Nx a1 b2))) ∨ (E = "java/lang/IndexOutOfBoundsException" ∧ M_X12_responseAbove v1 v2 v3 b (fun r2 b1 => M_X12_thrown b1 (fun t b2 => t = 2 ∧ Nx a1 b2))) ∨ (E = "java/lang/IllegalStateException" ∧ M_X12_responseAbove v1 v2 v3 b (fun r2 b1 => M_X12_thrown b1 (fun t b2 => t = 3 ∧ Nx a1 b2))))
set_option maxRecDepth 100000 in
set_option maxHeartbeats 4000000 in
theorem z_responseAbove {p : Program} {l : Launch} {e : Env} {s : State} {m : MethodId} {args : Array Value} {below : List Frame} {meth : Method} {c : Code} {D : va_G} {cy : Nat → ClassId} {ad : Nat → Nat} {kc ks : Nat} {ret : Option FieldType} {a b : cg_S} {o : Nat → Int64} {od : Nat → UInt64} {Z : State → Prop} {sb L n : Nat} {xs : Nat → Int32} {Nx : cg_S → cg_S → Prop} (hC : cg_X cg_WL RL cL_law 9 ret p s m args meth c D cy ad) (hK : cl_K l s ad) (hX : va_X sb L xs s s.heap) (hbl : sb < s.heap.size) (hbA : ¬ cg_F ad 123 s.heap.size sb) (hL : 5 * n + 5 ≤ L) (hL2 : L ≤ 2560) (hr : kc + 4 ≤ room_1.cells ∧ ks + 24 ≤ room_1.slots)
    (kk : ∀ (a1 b1 : cg_S) (o1 : Nat → Int64) (od1 : Nat → UInt64), Nx a1 b1 → cg_G cg_WL room_1 p l e s m args below meth c D cy ad Z (kc + 4) (ks + 24) 9 2593 [(5, .int (Int32.ofNat (5 * n))), (4, .ref (ad 122)), (3, .ref (ad 121)), (2, .ref (ad 88)), (1, .ref (ad 0)), (0, .ref sb)] [] (jn a1 b1 o1 od1))
    (h : OP_responseAbove Nx (((xs (5 * n + 1)).toUInt32 % 65536).toInt32) (((xs (5 * n + 2)).toUInt32 % 65536).toInt32) (xs (5 * n + 3)) a b) : cg_G cg_WL room_1 p l e s m args below meth c D cy ad Z kc ks 9 1903 [(5, .int (Int32.ofNat (5 * n))), (4, .ref (ad 122)), (3, .ref (ad 121)), (2, .ref (ad 88)), (1, .ref (ad 0)), (0, .ref sb)] [] (jn a b o od) := by
  have hw : M_L_responseAbove (((xs (5 * n + 1)).toUInt32 % 65536).toInt32) (((xs (5 * n + 2)).toUInt32 % 65536).toInt32) (xs (5 * n + 3)) a b o od (fun k a1 o1 od1 => M_X12_responseAbove (((xs (5 * n + 1)).toUInt32 % 65536).toInt32) (((xs (5 * n + 2)).toUInt32 % 65536).toInt32) (xs (5 * n + 3)) b (fun r2 b1 => M_X12_thrown b1 (fun t b2 => t = k ∧ (k = 0 → o1 0 = r2) ∧ Nx a1 b2))) := by
    refine w_responseAbove (M_X11_responseAbove.mono h (fun r a1 q => M_X12_responseAbove.mono q (fun r2 b1 q2 => M_X12_thrown.mono q2 (fun t b2 q3 => ⟨q3.1, fun _ => by rw [← q3.2.1]; rfl, q3.2.2⟩))) (fun E a1 q => ?_))
    rcases q with ⟨e9, q⟩ | ⟨e9, q⟩ | ⟨e9, q⟩
    · exact Or.inl ⟨e9, M_X12_responseAbove.mono q (fun r2 b1 q2 => M_X12_thrown.mono q2 (fun t b2 q3 => ⟨q3.1, fun z => absurd z (by decide), q3.2⟩))⟩
    · exact Or.inr (Or.inl ⟨e9, M_X12_responseAbove.mono q (fun r2 b1 q2 => M_X12_thrown.mono q2 (fun t b2 q3 => ⟨q3.1, fun z => absurd z (by decide), q3.2⟩))⟩)
    · exact Or.inr (Or.inr (⟨e9, M_X12_responseAbove.mono q (fun r2 b1 q2 => M_X12_thrown.mono q2 (fun t b2 q3 => ⟨q3.1, fun z => absurd z (by decide), q3.2⟩))⟩))
  refine ga_aload_n hC dL_law_1903 4 rfl rfl ?_
  refine gl_arg (j := 1) 5 0 hC hX hbl hbA hL hL2 rfl rfl (by decide) rfl dL_law_1904 dL_law_1905 dL_law_1907 dL_law_1908 dL_law_1909 ?_
  refine ga_i2c hC dL_law_1910 ?_
  refine gl_arg (j := 2) 5 0 hC hX hbl hbA hL hL2 rfl rfl (by decide) rfl dL_law_1911 dL_law_1912 dL_law_1914 dL_law_1915 dL_law_1916 ?_
  refine ga_i2c hC dL_law_1917 ?_
  refine gl_arg (j := 3) 5 0 hC hX hbl hbA hL hL2 rfl rfl (by decide) rfl dL_law_1918 dL_law_1919 dL_law_1921 dL_law_1922 dL_law_1923 ?_
  refine ga_aload_n hC dL_law_1924 2 rfl rfl ?_
  refine gl_callS (As := [.ref (ad 0), .int (((xs (5 * n + 1)).toUInt32 % 65536).toInt32), .int (((xs (5 * n + 2)).toUInt32 % 65536).toInt32), .int (xs (5 * n + 3)), .ref (ad 121)]) (st := []) (n := 5) hC hK hw (cg_in5 176 (by decide +kernel) (by decide +kernel)) (cg_in5 177 (by decide +kernel) (by decide +kernel)) (cg_in1 0 (by decide +kernel) (by decide +kernel)) (cg_in5 178 (by decide +kernel) (by decide +kernel)) rfl rfl rfl (by decide +kernel) ⟨Nat.le_trans (Nat.add_le_add_left (by decide) _) hr.1, Nat.le_trans (Nat.add_le_add_left (by decide) _) hr.2⟩ ⟨Nat.le_of_ble_eq_true rfl, Nat.le_of_ble_eq_true rfl⟩ rfl rfl (Nat.le_of_ble_eq_true rfl) dL_law_1925 (fun v τ hq => ?_)
  obtain ⟨k, a1, o1, od1, rfl, rfl, h⟩ := hq
  refine ga_istore (lv' := [(6, .int k), (5, .int (Int32.ofNat (5 * n))), (4, .ref (ad 122)), (3, .ref (ad 121)), (2, .ref (ad 88)), (1, .ref (ad 0)), (0, .ref sb)]) hC dL_law_1928 (by decide) rfl ?_
  refine ga_aload_n hC dL_law_1930 4 rfl rfl ?_
  refine gl_arg (j := 1) 6 1 hC hX hbl hbA hL hL2 rfl rfl (by decide) rfl dL_law_1931 dL_law_1932 dL_law_1934 dL_law_1935 dL_law_1936 ?_
  refine ga_i2c hC dL_law_1937 ?_
  refine gl_arg (j := 2) 6 1 hC hX hbl hbA hL hL2 rfl rfl (by decide) rfl dL_law_1938 dL_law_1939 dL_law_1941 dL_law_1942 dL_law_1943 ?_
  refine ga_i2c hC dL_law_1944 ?_
  refine gl_arg (j := 3) 6 1 hC hX hbl hbA hL hL2 rfl rfl (by decide) rfl dL_law_1945 dL_law_1946 dL_law_1948 dL_law_1949 dL_law_1950 ?_
  refine gl_callM (As := [.int (((xs (5 * n + 1)).toUInt32 % 65536).toInt32), .int (((xs (5 * n + 2)).toUInt32 % 65536).toInt32), .int (xs (5 * n + 3))]) (st := []) (n := 3) hC h (cg_in8 13 (by decide +kernel) (by decide +kernel)) (cg_in8 14 (by decide +kernel) (by decide +kernel)) (cg_in8 15 (by decide +kernel) (by decide +kernel)) (cg_in1 13 (by decide +kernel) (by decide +kernel)) (cg_in8 16 (by decide +kernel) (by decide +kernel)) rfl rfl rfl (by decide +kernel) ⟨Nat.le_trans (Nat.add_le_add_left (by decide) _) hr.1, Nat.le_trans (Nat.add_le_add_left (by decide) _) hr.2⟩ ⟨Nat.le_of_ble_eq_true rfl, Nat.le_of_ble_eq_true rfl⟩ rfl rfl (Nat.le_of_ble_eq_true rfl) dL_law_1951 (fun v τ hq => ?_)
  obtain ⟨r2, rfl, h⟩ := hq
  refine ga_lstore (lv' := [(7, .long r2), (6, .int k), (5, .int (Int32.ofNat (5 * n))), (4, .ref (ad 122)), (3, .ref (ad 121)), (2, .ref (ad 88)), (1, .ref (ad 0)), (0, .ref sb)]) hC dL_law_1954 (by decide) rfl ?_
  refine ga_aload_n hC dL_law_1956 5 rfl rfl ?_
  refine gl_callM (As := []) (st := []) (n := 0) hC h (cg_in6 218 (by decide +kernel) (by decide +kernel)) (cg_in6 219 (by decide +kernel) (by decide +kernel)) (cg_in6 220 (by decide +kernel) (by decide +kernel)) (cg_in1 13 (by decide +kernel) (by decide +kernel)) (cg_in6 221 (by decide +kernel) (by decide +kernel)) rfl rfl rfl (by decide +kernel) ⟨Nat.le_trans (Nat.add_le_add_left (by decide) _) hr.1, Nat.le_trans (Nat.add_le_add_left (by decide) _) hr.2⟩ ⟨Nat.le_of_ble_eq_true rfl, Nat.le_of_ble_eq_true rfl⟩ rfl rfl (Nat.le_of_ble_eq_true rfl) dL_law_1957 (fun v τ hq => ?_)
  obtain ⟨t, rfl, h1, h2, h3⟩ := hq
  refine ga_iload hC dL_law_1960 1 rfl ?_
  refine ga_icmp_eq (tgt := 1967) hC dL_law_1962 (by decide) (fun _ => ?_) (fun hc => absurd h1 hc)
  refine ga_iload hC dL_law_1967 1 rfl ?_
  refine ga_if_ne (tgt := 1983) hC dL_law_1969 (by decide) (fun hc => ?_) (fun hc => ?_)
  · skip
    refine ga_goto (tgt := 2593) hC dL_law_1983 (by decide) ?_
    refine ga_locals [2, 3, 4, 5, 6, 7] rfl ?_
    exact ga_widen (Nat.add_le_add_left (by decide) _) (Nat.add_le_add_left (by decide) _) (kk _ _ _ _ h3)
  · have h2 := h2 hc
    refine ga_aload_n hC dL_law_1972 4 rfl rfl ?_
    refine ga_iconst (v := 0) hC dL_law_1973 (by decide) ?_
    refine ga_lald (k := 121) (n := 1) hC (fun _ => rfl) (by decide) lw_in0 dL_law_1974 ?_
    refine ga_lload hC dL_law_1975 0 rfl ?_
    refine ga_lcmp hC dL_law_1977 ?_
    refine ga_if_eq (tgt := 1983) hC dL_law_1978 (by decide) (fun _ => ?_) (fun hc2 => absurd (show lg_cmp (o1 0) _ = 0 by rw [h2]; exact lw_lc _) hc2)
    refine ga_goto (tgt := 2593) hC dL_law_1983 (by decide) ?_
    refine ga_locals [2, 3, 4, 5, 6, 7] rfl ?_
    exact ga_widen (Nat.add_le_add_left (by decide) _) (Nat.add_le_add_left (by decide) _) (kk _ _ _ _ h3)
/-- what is to be shown of a call of responseBelow -/
def OP_responseBelow (Nx : cg_S → cg_S → Prop) (v1 v2 v3 : Int32) (a b : cg_S) : Prop := M_X11_responseBelow v1 v2 v3 a (fun r a1 => M_X12_responseBelow v1 v2 v3 b (fun r2 b1 => M_X12_thrown b1 (fun t b2 => t = 0 ∧ r = r2 ∧ Nx a1 b2))) (fun E a1 => (E = "java/lang/IllegalArgumentException" ∧ M_X12_responseBelow v1 v2 v3 b (fun r2 b1 => M_X12_thrown b1 (fun t b2 => t = 1 ∧ Nx a1 b2))) ∨ (E = "java/lang/IndexOutOfBoundsException" ∧ M_X12_responseBelow v1 v2 v3 b (fun r2 b1 => M_X12_thrown b1 (fun t b2 => t = 2 ∧ Nx a1 b2))) ∨ (E = "java/lang/IllegalStateException" ∧ M_X12_responseBelow v1 v2 v3 b (fun r2 b1 => M_X12_thrown b1 (fun t b2 => t = 3 ∧ Nx a1 b2))))
set_option maxRecDepth 100000 in
set_option maxHeartbeats 4000000 in
theorem z_responseBelow {p : Program} {l : Launch} {e : Env} {s : State} {m : MethodId} {args : Array Value} {below : List Frame} {meth : Method} {c : Code} {D : va_G} {cy : Nat → ClassId} {ad : Nat → Nat} {kc ks : Nat} {ret : Option FieldType} {a b : cg_S} {o : Nat → Int64} {od : Nat → UInt64} {Z : State → Prop} {sb L n : Nat} {xs : Nat → Int32} {Nx : cg_S → cg_S → Prop} (hC : cg_X cg_WL RL cL_law 9 ret p s m args meth c D cy ad) (hK : cl_K l s ad) (hX : va_X sb L xs s s.heap) (hbl : sb < s.heap.size) (hbA : ¬ cg_F ad 123 s.heap.size sb) (hL : 5 * n + 5 ≤ L) (hL2 : L ≤ 2560) (hr : kc + 4 ≤ room_1.cells ∧ ks + 24 ≤ room_1.slots)
    (kk : ∀ (a1 b1 : cg_S) (o1 : Nat → Int64) (od1 : Nat → UInt64), Nx a1 b1 → cg_G cg_WL room_1 p l e s m args below meth c D cy ad Z (kc + 4) (ks + 24) 9 2593 [(5, .int (Int32.ofNat (5 * n))), (4, .ref (ad 122)), (3, .ref (ad 121)), (2, .ref (ad 88)), (1, .ref (ad 0)), (0, .ref sb)] [] (jn a1 b1 o1 od1))
    (h : OP_responseBelow Nx (((xs (5 * n + 1)).toUInt32 % 65536).toInt32) (((xs (5 * n + 2)).toUInt32 % 65536).toInt32) (xs (5 * n + 3)) a b) : cg_G cg_WL room_1 p l e s m args below meth c D cy ad Z kc ks 9 1986 [(5, .int (Int32.ofNat (5 * n))), (4, .ref (ad 122)), (3, .ref (ad 121)), (2, .ref (ad 88)), (1, .ref (ad 0)), (0, .ref sb)] [] (jn a b o od) := by
  have hw : M_L_responseBelow (((xs (5 * n + 1)).toUInt32 % 65536).toInt32) (((xs (5 * n + 2)).toUInt32 % 65536).toInt32) (xs (5 * n + 3)) a b o od (fun k a1 o1 od1 => M_X12_responseBelow (((xs (5 * n + 1)).toUInt32 % 65536).toInt32) (((xs (5 * n + 2)).toUInt32 % 65536).toInt32) (xs (5 * n + 3)) b (fun r2 b1 => M_X12_thrown b1 (fun t b2 => t = k ∧ (k = 0 → o1 0 = r2) ∧ Nx a1 b2))) := by
    refine w_responseBelow (M_X11_responseBelow.mono h (fun r a1 q => M_X12_responseBelow.mono q (fun r2 b1 q2 => M_X12_thrown.mono q2 (fun t b2 q3 => ⟨q3.1, fun _ => by rw [← q3.2.1]; rfl, q3.2.2⟩))) (fun E a1 q => ?_))
    rcases q with ⟨e9, q⟩ | ⟨e9, q⟩ | ⟨e9, q⟩
    · exact Or.inl ⟨e9, M_X12_responseBelow.mono q (fun r2 b1 q2 => M_X12_thrown.mono q2 (fun t b2 q3 => ⟨q3.1, fun z => absurd z (by decide), q3.2⟩))⟩
    · exact Or.inr (Or.inl ⟨e9, M_X12_responseBelow.mono q (fun r2 b1 q2 => M_X12_thrown.mono q2 (fun t b2 q3 => ⟨q3.1, fun z => absurd z (by decide), q3.2⟩))⟩)
    · exact Or.inr (Or.inr (⟨e9, M_X12_responseBelow.mono q (fun r2 b1 q2 => M_X12_thrown.mono q2 (fun t b2 q3 => ⟨q3.1, fun z => absurd z (by decide), q3.2⟩))⟩))
  refine ga_aload_n hC dL_law_1986 4 rfl rfl ?_
  refine gl_arg (j := 1) 5 0 hC hX hbl hbA hL hL2 rfl rfl (by decide) rfl dL_law_1987 dL_law_1988 dL_law_1990 dL_law_1991 dL_law_1992 ?_
  refine ga_i2c hC dL_law_1993 ?_
  refine gl_arg (j := 2) 5 0 hC hX hbl hbA hL hL2 rfl rfl (by decide) rfl dL_law_1994 dL_law_1995 dL_law_1997 dL_law_1998 dL_law_1999 ?_
  refine ga_i2c hC dL_law_2000 ?_
  refine gl_arg (j := 3) 5 0 hC hX hbl hbA hL hL2 rfl rfl (by decide) rfl dL_law_2001 dL_law_2002 dL_law_2004 dL_law_2005 dL_law_2006 ?_
  refine ga_aload_n hC dL_law_2007 2 rfl rfl ?_
  refine gl_callS (As := [.ref (ad 0), .int (((xs (5 * n + 1)).toUInt32 % 65536).toInt32), .int (((xs (5 * n + 2)).toUInt32 % 65536).toInt32), .int (xs (5 * n + 3)), .ref (ad 121)]) (st := []) (n := 5) hC hK hw (cg_in5 187 (by decide +kernel) (by decide +kernel)) (cg_in5 188 (by decide +kernel) (by decide +kernel)) (cg_in1 0 (by decide +kernel) (by decide +kernel)) (cg_in5 189 (by decide +kernel) (by decide +kernel)) rfl rfl rfl (by decide +kernel) ⟨Nat.le_trans (Nat.add_le_add_left (by decide) _) hr.1, Nat.le_trans (Nat.add_le_add_left (by decide) _) hr.2⟩ ⟨Nat.le_of_ble_eq_true rfl, Nat.le_of_ble_eq_true rfl⟩ rfl rfl (Nat.le_of_ble_eq_true rfl) dL_law_2008 (fun v τ hq => ?_)
  obtain ⟨k, a1, o1, od1, rfl, rfl, h⟩ := hq
  refine ga_istore (lv' := [(6, .int k), (5, .int (Int32.ofNat (5 * n))), (4, .ref (ad 122)), (3, .ref (ad 121)), (2, .ref (ad 88)), (1, .ref (ad 0)), (0, .ref sb)]) hC dL_law_2011 (by decide) rfl ?_
  refine ga_aload_n hC dL_law_2013 4 rfl rfl ?_
  refine gl_arg (j := 1) 6 1 hC hX hbl hbA hL hL2 rfl rfl (by decide) rfl dL_law_2014 dL_law_2015 dL_law_2017 dL_law_2018 dL_law_2019 ?_
  refine ga_i2c hC dL_law_2020 ?_
  refine gl_arg (j := 2) 6 1 hC hX hbl hbA hL hL2 rfl rfl (by decide) rfl dL_law_2021 dL_law_2022 dL_law_2024 dL_law_2025 dL_law_2026 ?_
  refine ga_i2c hC dL_law_2027 ?_
  refine gl_arg (j := 3) 6 1 hC hX hbl hbA hL hL2 rfl rfl (by decide) rfl dL_law_2028 dL_law_2029 dL_law_2031 dL_law_2032 dL_law_2033 ?_
  refine gl_callM (As := [.int (((xs (5 * n + 1)).toUInt32 % 65536).toInt32), .int (((xs (5 * n + 2)).toUInt32 % 65536).toInt32), .int (xs (5 * n + 3))]) (st := []) (n := 3) hC h (cg_in8 21 (by decide +kernel) (by decide +kernel)) (cg_in8 22 (by decide +kernel) (by decide +kernel)) (cg_in8 23 (by decide +kernel) (by decide +kernel)) (cg_in1 13 (by decide +kernel) (by decide +kernel)) (cg_in8 24 (by decide +kernel) (by decide +kernel)) rfl rfl rfl (by decide +kernel) ⟨Nat.le_trans (Nat.add_le_add_left (by decide) _) hr.1, Nat.le_trans (Nat.add_le_add_left (by decide) _) hr.2⟩ ⟨Nat.le_of_ble_eq_true rfl, Nat.le_of_ble_eq_true rfl⟩ rfl rfl (Nat.le_of_ble_eq_true rfl) dL_law_2034 (fun v τ hq => ?_)
  obtain ⟨r2, rfl, h⟩ := hq
  refine ga_lstore (lv' := [(7, .long r2), (6, .int k), (5, .int (Int32.ofNat (5 * n))), (4, .ref (ad 122)), (3, .ref (ad 121)), (2, .ref (ad 88)), (1, .ref (ad 0)), (0, .ref sb)]) hC dL_law_2037 (by decide) rfl ?_
  refine ga_aload_n hC dL_law_2039 5 rfl rfl ?_
  refine gl_callM (As := []) (st := []) (n := 0) hC h (cg_in6 218 (by decide +kernel) (by decide +kernel)) (cg_in6 219 (by decide +kernel) (by decide +kernel)) (cg_in6 220 (by decide +kernel) (by decide +kernel)) (cg_in1 13 (by decide +kernel) (by decide +kernel)) (cg_in6 221 (by decide +kernel) (by decide +kernel)) rfl rfl rfl (by decide +kernel) ⟨Nat.le_trans (Nat.add_le_add_left (by decide) _) hr.1, Nat.le_trans (Nat.add_le_add_left (by decide) _) hr.2⟩ ⟨Nat.le_of_ble_eq_true rfl, Nat.le_of_ble_eq_true rfl⟩ rfl rfl (Nat.le_of_ble_eq_true rfl) dL_law_2040 (fun v τ hq => ?_)
  obtain ⟨t, rfl, h1, h2, h3⟩ := hq
  refine ga_iload hC dL_law_2043 1 rfl ?_
  refine ga_icmp_eq (tgt := 2050) hC dL_law_2045 (by decide) (fun _ => ?_) (fun hc => absurd h1 hc)
  refine ga_iload hC dL_law_2050 1 rfl ?_
  refine ga_if_ne (tgt := 2066) hC dL_law_2052 (by decide) (fun hc => ?_) (fun hc => ?_)
  · skip
    refine ga_goto (tgt := 2593) hC dL_law_2066 (by decide) ?_
    refine ga_locals [2, 3, 4, 5, 6, 7] rfl ?_
    exact ga_widen (Nat.add_le_add_left (by decide) _) (Nat.add_le_add_left (by decide) _) (kk _ _ _ _ h3)
  · have h2 := h2 hc
    refine ga_aload_n hC dL_law_2055 4 rfl rfl ?_
    refine ga_iconst (v := 0) hC dL_law_2056 (by decide) ?_
    refine ga_lald (k := 121) (n := 1) hC (fun _ => rfl) (by decide) lw_in0 dL_law_2057 ?_
    refine ga_lload hC dL_law_2058 0 rfl ?_
    refine ga_lcmp hC dL_law_2060 ?_
    refine ga_if_eq (tgt := 2066) hC dL_law_2061 (by decide) (fun _ => ?_) (fun hc2 => absurd (show lg_cmp (o1 0) _ = 0 by rw [h2]; exact lw_lc _) hc2)
    refine ga_goto (tgt := 2593) hC dL_law_2066 (by decide) ?_
    refine ga_locals [2, 3, 4, 5, 6, 7] rfl ?_
    exact ga_widen (Nat.add_le_add_left (by decide) _) (Nat.add_le_add_left (by decide) _) (kk _ _ _ _ h3)
/-- what is to be shown of a call of closedOf -/
def OP_closedOf (Nx : cg_S → cg_S → Prop) (v1 : Int32) (a b : cg_S) : Prop := M_X11_closedOf v1 a (fun r a1 => M_X12_closedOf v1 b (fun r2 b1 => M_X12_thrown b1 (fun t b2 => t = 0 ∧ r = r2 ∧ Nx a1 b2))) (fun E a1 => (E = "java/lang/IndexOutOfBoundsException" ∧ M_X12_closedOf v1 b (fun r2 b1 => M_X12_thrown b1 (fun t b2 => t = 1 ∧ Nx a1 b2))) ∨ (E = "java/lang/IllegalStateException" ∧ M_X12_closedOf v1 b (fun r2 b1 => M_X12_thrown b1 (fun t b2 => t = 2 ∧ Nx a1 b2))) ∨ (E = "java/util/NoSuchElementException" ∧ M_X12_closedOf v1 b (fun r2 b1 => M_X12_thrown b1 (fun t b2 => t = 3 ∧ Nx a1 b2))))
set_option maxRecDepth 100000 in
set_option maxHeartbeats 4000000 in
theorem z_closedOf {p : Program} {l : Launch} {e : Env} {s : State} {m : MethodId} {args : Array Value} {below : List Frame} {meth : Method} {c : Code} {D : va_G} {cy : Nat → ClassId} {ad : Nat → Nat} {kc ks : Nat} {ret : Option FieldType} {a b : cg_S} {o : Nat → Int64} {od : Nat → UInt64} {Z : State → Prop} {sb L n : Nat} {xs : Nat → Int32} {Nx : cg_S → cg_S → Prop} (hC : cg_X cg_WL RL cL_law 9 ret p s m args meth c D cy ad) (hK : cl_K l s ad) (hX : va_X sb L xs s s.heap) (hbl : sb < s.heap.size) (hbA : ¬ cg_F ad 123 s.heap.size sb) (hL : 5 * n + 5 ≤ L) (hL2 : L ≤ 2560) (hr : kc + 4 ≤ room_1.cells ∧ ks + 24 ≤ room_1.slots)
    (kk : ∀ (a1 b1 : cg_S) (o1 : Nat → Int64) (od1 : Nat → UInt64), Nx a1 b1 → cg_G cg_WL room_1 p l e s m args below meth c D cy ad Z (kc + 4) (ks + 24) 9 2593 [(5, .int (Int32.ofNat (5 * n))), (4, .ref (ad 122)), (3, .ref (ad 121)), (2, .ref (ad 88)), (1, .ref (ad 0)), (0, .ref sb)] [] (jn a1 b1 o1 od1))
    (h : OP_closedOf Nx (xs (5 * n + 1)) a b) : cg_G cg_WL room_1 p l e s m args below meth c D cy ad Z kc ks 9 2069 [(5, .int (Int32.ofNat (5 * n))), (4, .ref (ad 122)), (3, .ref (ad 121)), (2, .ref (ad 88)), (1, .ref (ad 0)), (0, .ref sb)] [] (jn a b o od) := by
  have hw : M_L_closedOf (xs (5 * n + 1)) a b o od (fun k a1 o1 od1 => M_X12_closedOf (xs (5 * n + 1)) b (fun r2 b1 => M_X12_thrown b1 (fun t b2 => t = k ∧ (k = 0 → o1 0 = r2.toInt64) ∧ Nx a1 b2))) := by
    refine w_closedOf (M_X11_closedOf.mono h (fun r a1 q => M_X12_closedOf.mono q (fun r2 b1 q2 => M_X12_thrown.mono q2 (fun t b2 q3 => ⟨q3.1, fun _ => by rw [← q3.2.1]; rfl, q3.2.2⟩))) (fun E a1 q => ?_))
    rcases q with ⟨e9, q⟩ | ⟨e9, q⟩ | ⟨e9, q⟩
    · exact Or.inl ⟨e9, M_X12_closedOf.mono q (fun r2 b1 q2 => M_X12_thrown.mono q2 (fun t b2 q3 => ⟨q3.1, fun z => absurd z (by decide), q3.2⟩))⟩
    · exact Or.inr (Or.inl ⟨e9, M_X12_closedOf.mono q (fun r2 b1 q2 => M_X12_thrown.mono q2 (fun t b2 q3 => ⟨q3.1, fun z => absurd z (by decide), q3.2⟩))⟩)
    · exact Or.inr (Or.inr (⟨e9, M_X12_closedOf.mono q (fun r2 b1 q2 => M_X12_thrown.mono q2 (fun t b2 q3 => ⟨q3.1, fun z => absurd z (by decide), q3.2⟩))⟩))
  refine ga_aload_n hC dL_law_2069 4 rfl rfl ?_
  refine gl_arg (j := 1) 5 0 hC hX hbl hbA hL hL2 rfl rfl (by decide) rfl dL_law_2070 dL_law_2071 dL_law_2073 dL_law_2074 dL_law_2075 ?_
  refine ga_aload_n hC dL_law_2076 2 rfl rfl ?_
  refine gl_callS (As := [.ref (ad 0), .int (xs (5 * n + 1)), .ref (ad 121)]) (st := []) (n := 3) hC hK hw (cg_in5 194 (by decide +kernel) (by decide +kernel)) (cg_in5 195 (by decide +kernel) (by decide +kernel)) (cg_in1 0 (by decide +kernel) (by decide +kernel)) (cg_in5 196 (by decide +kernel) (by decide +kernel)) rfl rfl rfl (by decide +kernel) ⟨Nat.le_trans (Nat.add_le_add_left (by decide) _) hr.1, Nat.le_trans (Nat.add_le_add_left (by decide) _) hr.2⟩ ⟨Nat.le_of_ble_eq_true rfl, Nat.le_of_ble_eq_true rfl⟩ rfl rfl (Nat.le_of_ble_eq_true rfl) dL_law_2077 (fun v τ hq => ?_)
  obtain ⟨k, a1, o1, od1, rfl, rfl, h⟩ := hq
  refine ga_istore (lv' := [(6, .int k), (5, .int (Int32.ofNat (5 * n))), (4, .ref (ad 122)), (3, .ref (ad 121)), (2, .ref (ad 88)), (1, .ref (ad 0)), (0, .ref sb)]) hC dL_law_2080 (by decide) rfl ?_
  refine ga_aload_n hC dL_law_2082 4 rfl rfl ?_
  refine gl_arg (j := 1) 6 1 hC hX hbl hbA hL hL2 rfl rfl (by decide) rfl dL_law_2083 dL_law_2084 dL_law_2086 dL_law_2087 dL_law_2088 ?_
  refine gl_callM (As := [.int (xs (5 * n + 1))]) (st := []) (n := 1) hC h (cg_in8 25 (by decide +kernel) (by decide +kernel)) (cg_in8 26 (by decide +kernel) (by decide +kernel)) (cg_in8 27 (by decide +kernel) (by decide +kernel)) (cg_in1 13 (by decide +kernel) (by decide +kernel)) (cg_in8 28 (by decide +kernel) (by decide +kernel)) rfl rfl rfl (by decide +kernel) ⟨Nat.le_trans (Nat.add_le_add_left (by decide) _) hr.1, Nat.le_trans (Nat.add_le_add_left (by decide) _) hr.2⟩ ⟨Nat.le_of_ble_eq_true rfl, Nat.le_of_ble_eq_true rfl⟩ rfl rfl (Nat.le_of_ble_eq_true rfl) dL_law_2089 (fun v τ hq => ?_)
  obtain ⟨r2, rfl, h⟩ := hq
  refine ga_istore (lv' := [(7, .int r2), (6, .int k), (5, .int (Int32.ofNat (5 * n))), (4, .ref (ad 122)), (3, .ref (ad 121)), (2, .ref (ad 88)), (1, .ref (ad 0)), (0, .ref sb)]) hC dL_law_2092 (by decide) rfl ?_
  refine ga_aload_n hC dL_law_2094 5 rfl rfl ?_
  refine gl_callM (As := []) (st := []) (n := 0) hC h (cg_in6 218 (by decide +kernel) (by decide +kernel)) (cg_in6 219 (by decide +kernel) (by decide +kernel)) (cg_in6 220 (by decide +kernel) (by decide +kernel)) (cg_in1 13 (by decide +kernel) (by decide +kernel)) (cg_in6 221 (by decide +kernel) (by decide +kernel)) rfl rfl rfl (by decide +kernel) ⟨Nat.le_trans (Nat.add_le_add_left (by decide) _) hr.1, Nat.le_trans (Nat.add_le_add_left (by decide) _) hr.2⟩ ⟨Nat.le_of_ble_eq_true rfl, Nat.le_of_ble_eq_true rfl⟩ rfl rfl (Nat.le_of_ble_eq_true rfl) dL_law_2095 (fun v τ hq => ?_)
  obtain ⟨t, rfl, h1, h2, h3⟩ := hq
  refine ga_iload hC dL_law_2098 1 rfl ?_
  refine ga_icmp_eq (tgt := 2105) hC dL_law_2100 (by decide) (fun _ => ?_) (fun hc => absurd h1 hc)
  refine ga_iload hC dL_law_2105 1 rfl ?_
  refine ga_if_ne (tgt := 2122) hC dL_law_2107 (by decide) (fun hc => ?_) (fun hc => ?_)
  · skip
    refine ga_goto (tgt := 2593) hC dL_law_2122 (by decide) ?_
    refine ga_locals [2, 3, 4, 5, 6, 7] rfl ?_
    exact ga_widen (Nat.add_le_add_left (by decide) _) (Nat.add_le_add_left (by decide) _) (kk _ _ _ _ h3)
  · have h2 := h2 hc
    refine ga_aload_n hC dL_law_2110 4 rfl rfl ?_
    refine ga_iconst (v := 0) hC dL_law_2111 (by decide) ?_
    refine ga_lald (k := 121) (n := 1) hC (fun _ => rfl) (by decide) lw_in0 dL_law_2112 ?_
    refine ga_iload hC dL_law_2113 0 rfl ?_
    refine ga_i2l hC dL_law_2115 ?_
    refine ga_lcmp hC dL_law_2116 ?_
    refine ga_if_eq (tgt := 2122) hC dL_law_2117 (by decide) (fun _ => ?_) (fun hc2 => absurd (show lg_cmp (o1 0) _ = 0 by rw [h2]; exact lw_lc _) hc2)
    refine ga_goto (tgt := 2593) hC dL_law_2122 (by decide) ?_
    refine ga_locals [2, 3, 4, 5, 6, 7] rfl ?_
    exact ga_widen (Nat.add_le_add_left (by decide) _) (Nat.add_le_add_left (by decide) _) (kk _ _ _ _ h3)
/-- what is to be shown of a call of endOf -/
def OP_endOf (Nx : cg_S → cg_S → Prop) (v1 : Int32) (a b : cg_S) : Prop := M_X11_endOf v1 a (fun r a1 => M_X12_endOf v1 b (fun r2 b1 => M_X12_thrown b1 (fun t b2 => t = 0 ∧ r = r2 ∧ Nx a1 b2))) (fun E a1 => (E = "java/lang/IndexOutOfBoundsException" ∧ M_X12_endOf v1 b (fun r2 b1 => M_X12_thrown b1 (fun t b2 => t = 1 ∧ Nx a1 b2))) ∨ (E = "java/lang/IllegalStateException" ∧ M_X12_endOf v1 b (fun r2 b1 => M_X12_thrown b1 (fun t b2 => t = 2 ∧ Nx a1 b2))) ∨ (E = "java/util/NoSuchElementException" ∧ M_X12_endOf v1 b (fun r2 b1 => M_X12_thrown b1 (fun t b2 => t = 3 ∧ Nx a1 b2))))
set_option maxRecDepth 100000 in
set_option maxHeartbeats 4000000 in
theorem z_endOf {p : Program} {l : Launch} {e : Env} {s : State} {m : MethodId} {args : Array Value} {below : List Frame} {meth : Method} {c : Code} {D : va_G} {cy : Nat → ClassId} {ad : Nat → Nat} {kc ks : Nat} {ret : Option FieldType} {a b : cg_S} {o : Nat → Int64} {od : Nat → UInt64} {Z : State → Prop} {sb L n : Nat} {xs : Nat → Int32} {Nx : cg_S → cg_S → Prop} (hC : cg_X cg_WL RL cL_law 9 ret p s m args meth c D cy ad) (hK : cl_K l s ad) (hX : va_X sb L xs s s.heap) (hbl : sb < s.heap.size) (hbA : ¬ cg_F ad 123 s.heap.size sb) (hL : 5 * n + 5 ≤ L) (hL2 : L ≤ 2560) (hr : kc + 4 ≤ room_1.cells ∧ ks + 24 ≤ room_1.slots)
    (kk : ∀ (a1 b1 : cg_S) (o1 : Nat → Int64) (od1 : Nat → UInt64), Nx a1 b1 → cg_G cg_WL room_1 p l e s m args below meth c D cy ad Z (kc + 4) (ks + 24) 9 2593 [(5, .int (Int32.ofNat (5 * n))), (4, .ref (ad 122)), (3, .ref (ad 121)), (2, .ref (ad 88)), (1, .ref (ad 0)), (0, .ref sb)] [] (jn a1 b1 o1 od1))
    (h : OP_endOf Nx (xs (5 * n + 1)) a b) : cg_G cg_WL room_1 p l e s m args below meth c D cy ad Z kc ks 9 2125 [(5, .int (Int32.ofNat (5 * n))), (4, .ref (ad 122)), (3, .ref (ad 121)), (2, .ref (ad 88)), (1, .ref (ad 0)), (0, .ref sb)] [] (jn a b o od) := by
  have hw : M_L_endOf (xs (5 * n + 1)) a b o od (fun k a1 o1 od1 => M_X12_endOf (xs (5 * n + 1)) b (fun r2 b1 => M_X12_thrown b1 (fun t b2 => t = k ∧ (k = 0 → o1 0 = r2.toInt64) ∧ Nx a1 b2))) := by
    refine w_endOf (M_X11_endOf.mono h (fun r a1 q => M_X12_endOf.mono q (fun r2 b1 q2 => M_X12_thrown.mono q2 (fun t b2 q3 => ⟨q3.1, fun _ => by rw [← q3.2.1]; rfl, q3.2.2⟩))) (fun E a1 q => ?_))
    rcases q with ⟨e9, q⟩ | ⟨e9, q⟩ | ⟨e9, q⟩
    · exact Or.inl ⟨e9, M_X12_endOf.mono q (fun r2 b1 q2 => M_X12_thrown.mono q2 (fun t b2 q3 => ⟨q3.1, fun z => absurd z (by decide), q3.2⟩))⟩
    · exact Or.inr (Or.inl ⟨e9, M_X12_endOf.mono q (fun r2 b1 q2 => M_X12_thrown.mono q2 (fun t b2 q3 => ⟨q3.1, fun z => absurd z (by decide), q3.2⟩))⟩)
    · exact Or.inr (Or.inr (⟨e9, M_X12_endOf.mono q (fun r2 b1 q2 => M_X12_thrown.mono q2 (fun t b2 q3 => ⟨q3.1, fun z => absurd z (by decide), q3.2⟩))⟩))
  refine ga_aload_n hC dL_law_2125 4 rfl rfl ?_
  refine gl_arg (j := 1) 5 0 hC hX hbl hbA hL hL2 rfl rfl (by decide) rfl dL_law_2126 dL_law_2127 dL_law_2129 dL_law_2130 dL_law_2131 ?_
  refine ga_aload_n hC dL_law_2132 2 rfl rfl ?_
  refine gl_callS (As := [.ref (ad 0), .int (xs (5 * n + 1)), .ref (ad 121)]) (st := []) (n := 3) hC hK hw (cg_in5 224 (by decide +kernel) (by decide +kernel)) (cg_in5 225 (by decide +kernel) (by decide +kernel)) (cg_in1 0 (by decide +kernel) (by decide +kernel)) (cg_in5 226 (by decide +kernel) (by decide +kernel)) rfl rfl rfl (by decide +kernel) ⟨Nat.le_trans (Nat.add_le_add_left (by decide) _) hr.1, Nat.le_trans (Nat.add_le_add_left (by decide) _) hr.2⟩ ⟨Nat.le_of_ble_eq_true rfl, Nat.le_of_ble_eq_true rfl⟩ rfl rfl (Nat.le_of_ble_eq_true rfl) dL_law_2133 (fun v τ hq => ?_)
  obtain ⟨k, a1, o1, od1, rfl, rfl, h⟩ := hq
  refine ga_istore (lv' := [(6, .int k), (5, .int (Int32.ofNat (5 * n))), (4, .ref (ad 122)), (3, .ref (ad 121)), (2, .ref (ad 88)), (1, .ref (ad 0)), (0, .ref sb)]) hC dL_law_2136 (by decide) rfl ?_
  refine ga_aload_n hC dL_law_2138 4 rfl rfl ?_
  refine gl_arg (j := 1) 6 1 hC hX hbl hbA hL hL2 rfl rfl (by decide) rfl dL_law_2139 dL_law_2140 dL_law_2142 dL_law_2143 dL_law_2144 ?_
  refine gl_callM (As := [.int (xs (5 * n + 1))]) (st := []) (n := 1) hC h (cg_in8 29 (by decide +kernel) (by decide +kernel)) (cg_in8 30 (by decide +kernel) (by decide +kernel)) (cg_in8 31 (by decide +kernel) (by decide +kernel)) (cg_in1 13 (by decide +kernel) (by decide +kernel)) (cg_in8 32 (by decide +kernel) (by decide +kernel)) rfl rfl rfl (by decide +kernel) ⟨Nat.le_trans (Nat.add_le_add_left (by decide) _) hr.1, Nat.le_trans (Nat.add_le_add_left (by decide) _) hr.2⟩ ⟨Nat.le_of_ble_eq_true rfl, Nat.le_of_ble_eq_true rfl⟩ rfl rfl (Nat.le_of_ble_eq_true rfl) dL_law_2145 (fun v τ hq => ?_)
  obtain ⟨r2, rfl, h⟩ := hq
  refine ga_istore (lv' := [(7, .int r2), (6, .int k), (5, .int (Int32.ofNat (5 * n))), (4, .ref (ad 122)), (3, .ref (ad 121)), (2, .ref (ad 88)), (1, .ref (ad 0)), (0, .ref sb)]) hC dL_law_2148 (by decide) rfl ?_
  refine ga_aload_n hC dL_law_2150 5 rfl rfl ?_
  refine gl_callM (As := []) (st := []) (n := 0) hC h (cg_in6 218 (by decide +kernel) (by decide +kernel)) (cg_in6 219 (by decide +kernel) (by decide +kernel)) (cg_in6 220 (by decide +kernel) (by decide +kernel)) (cg_in1 13 (by decide +kernel) (by decide +kernel)) (cg_in6 221 (by decide +kernel) (by decide +kernel)) rfl rfl rfl (by decide +kernel) ⟨Nat.le_trans (Nat.add_le_add_left (by decide) _) hr.1, Nat.le_trans (Nat.add_le_add_left (by decide) _) hr.2⟩ ⟨Nat.le_of_ble_eq_true rfl, Nat.le_of_ble_eq_true rfl⟩ rfl rfl (Nat.le_of_ble_eq_true rfl) dL_law_2151 (fun v τ hq => ?_)
  obtain ⟨t, rfl, h1, h2, h3⟩ := hq
  refine ga_iload hC dL_law_2154 1 rfl ?_
  refine ga_icmp_eq (tgt := 2161) hC dL_law_2156 (by decide) (fun _ => ?_) (fun hc => absurd h1 hc)
  refine ga_iload hC dL_law_2161 1 rfl ?_
  refine ga_if_ne (tgt := 2178) hC dL_law_2163 (by decide) (fun hc => ?_) (fun hc => ?_)
  · skip
    refine ga_goto (tgt := 2593) hC dL_law_2178 (by decide) ?_
    refine ga_locals [2, 3, 4, 5, 6, 7] rfl ?_
    exact ga_widen (Nat.add_le_add_left (by decide) _) (Nat.add_le_add_left (by decide) _) (kk _ _ _ _ h3)
  · have h2 := h2 hc
    refine ga_aload_n hC dL_law_2166 4 rfl rfl ?_
    refine ga_iconst (v := 0) hC dL_law_2167 (by decide) ?_
    refine ga_lald (k := 121) (n := 1) hC (fun _ => rfl) (by decide) lw_in0 dL_law_2168 ?_
    refine ga_iload hC dL_law_2169 0 rfl ?_
    refine ga_i2l hC dL_law_2171 ?_
    refine ga_lcmp hC dL_law_2172 ?_
    refine ga_if_eq (tgt := 2178) hC dL_law_2173 (by decide) (fun _ => ?_) (fun hc2 => absurd (show lg_cmp (o1 0) _ = 0 by rw [h2]; exact lw_lc _) hc2)
    refine ga_goto (tgt := 2593) hC dL_law_2178 (by decide) ?_
    refine ga_locals [2, 3, 4, 5, 6, 7] rfl ?_
    exact ga_widen (Nat.add_le_add_left (by decide) _) (Nat.add_le_add_left (by decide) _) (kk _ _ _ _ h3)
/-- what is to be shown of a call of classOf -/
def OP_classOf (Nx : cg_S → cg_S → Prop) (v1 : Int32) (a b : cg_S) : Prop := M_X11_classOf v1 a (fun r a1 => M_X12_classOf v1 b (fun r2 b1 => M_X12_thrown b1 (fun t b2 => t = 0 ∧ r = r2 ∧ Nx a1 b2))) (fun E a1 => (E = "java/lang/IndexOutOfBoundsException" ∧ M_X12_classOf v1 b (fun r2 b1 => M_X12_thrown b1 (fun t b2 => t = 1 ∧ Nx a1 b2))) ∨ (E = "java/lang/IllegalStateException" ∧ M_X12_classOf v1 b (fun r2 b1 => M_X12_thrown b1 (fun t b2 => t = 2 ∧ Nx a1 b2))))
set_option maxRecDepth 100000 in
set_option maxHeartbeats 4000000 in
theorem z_classOf {p : Program} {l : Launch} {e : Env} {s : State} {m : MethodId} {args : Array Value} {below : List Frame} {meth : Method} {c : Code} {D : va_G} {cy : Nat → ClassId} {ad : Nat → Nat} {kc ks : Nat} {ret : Option FieldType} {a b : cg_S} {o : Nat → Int64} {od : Nat → UInt64} {Z : State → Prop} {sb L n : Nat} {xs : Nat → Int32} {Nx : cg_S → cg_S → Prop} (hC : cg_X cg_WL RL cL_law 9 ret p s m args meth c D cy ad) (hK : cl_K l s ad) (hX : va_X sb L xs s s.heap) (hbl : sb < s.heap.size) (hbA : ¬ cg_F ad 123 s.heap.size sb) (hL : 5 * n + 5 ≤ L) (hL2 : L ≤ 2560) (hr : kc + 4 ≤ room_1.cells ∧ ks + 24 ≤ room_1.slots)
    (kk : ∀ (a1 b1 : cg_S) (o1 : Nat → Int64) (od1 : Nat → UInt64), Nx a1 b1 → cg_G cg_WL room_1 p l e s m args below meth c D cy ad Z (kc + 4) (ks + 24) 9 2593 [(5, .int (Int32.ofNat (5 * n))), (4, .ref (ad 122)), (3, .ref (ad 121)), (2, .ref (ad 88)), (1, .ref (ad 0)), (0, .ref sb)] [] (jn a1 b1 o1 od1))
    (h : OP_classOf Nx (xs (5 * n + 1)) a b) : cg_G cg_WL room_1 p l e s m args below meth c D cy ad Z kc ks 9 2181 [(5, .int (Int32.ofNat (5 * n))), (4, .ref (ad 122)), (3, .ref (ad 121)), (2, .ref (ad 88)), (1, .ref (ad 0)), (0, .ref sb)] [] (jn a b o od) := by
  have hw : M_L_classOf (xs (5 * n + 1)) a b o od (fun k a1 o1 od1 => M_X12_classOf (xs (5 * n + 1)) b (fun r2 b1 => M_X12_thrown b1 (fun t b2 => t = k ∧ (k = 0 → o1 0 = r2.toInt64) ∧ Nx a1 b2))) := by
    refine w_classOf (M_X11_classOf.mono h (fun r a1 q => M_X12_classOf.mono q (fun r2 b1 q2 => M_X12_thrown.mono q2 (fun t b2 q3 => ⟨q3.1, fun _ => by rw [← q3.2.1]; rfl, q3.2.2⟩))) (fun E a1 q => ?_))
    rcases q with ⟨e9, q⟩ | ⟨e9, q⟩
    · exact Or.inl ⟨e9, M_X12_classOf.mono q (fun r2 b1 q2 => M_X12_thrown.mono q2 (fun t b2 q3 => ⟨q3.1, fun z => absurd z (by decide), q3.2⟩))⟩
    · exact Or.inr (⟨e9, M_X12_classOf.mono q (fun r2 b1 q2 => M_X12_thrown.mono q2 (fun t b2 q3 => ⟨q3.1, fun z => absurd z (by decide), q3.2⟩))⟩)
  refine ga_aload_n hC dL_law_2181 4 rfl rfl ?_
  refine gl_arg (j := 1) 5 0 hC hX hbl hbA hL hL2 rfl rfl (by decide) rfl dL_law_2182 dL_law_2183 dL_law_2185 dL_law_2186 dL_law_2187 ?_
  refine ga_aload_n hC dL_law_2188 2 rfl rfl ?_
  refine gl_callS (As := [.ref (ad 0), .int (xs (5 * n + 1)), .ref (ad 121)]) (st := []) (n := 3) hC hK hw (cg_in5 239 (by decide +kernel) (by decide +kernel)) (cg_in6 0 (by decide +kernel) (by decide +kernel)) (cg_in1 0 (by decide +kernel) (by decide +kernel)) (cg_in6 1 (by decide +kernel) (by decide +kernel)) rfl rfl rfl (by decide +kernel) ⟨Nat.le_trans (Nat.add_le_add_left (by decide) _) hr.1, Nat.le_trans (Nat.add_le_add_left (by decide) _) hr.2⟩ ⟨Nat.le_of_ble_eq_true rfl, Nat.le_of_ble_eq_true rfl⟩ rfl rfl (Nat.le_of_ble_eq_true rfl) dL_law_2189 (fun v τ hq => ?_)
  obtain ⟨k, a1, o1, od1, rfl, rfl, h⟩ := hq
  refine ga_istore (lv' := [(6, .int k), (5, .int (Int32.ofNat (5 * n))), (4, .ref (ad 122)), (3, .ref (ad 121)), (2, .ref (ad 88)), (1, .ref (ad 0)), (0, .ref sb)]) hC dL_law_2192 (by decide) rfl ?_
  refine ga_aload_n hC dL_law_2194 4 rfl rfl ?_
  refine gl_arg (j := 1) 6 1 hC hX hbl hbA hL hL2 rfl rfl (by decide) rfl dL_law_2195 dL_law_2196 dL_law_2198 dL_law_2199 dL_law_2200 ?_
  refine gl_callM (As := [.int (xs (5 * n + 1))]) (st := []) (n := 1) hC h (cg_in8 45 (by decide +kernel) (by decide +kernel)) (cg_in8 46 (by decide +kernel) (by decide +kernel)) (cg_in8 47 (by decide +kernel) (by decide +kernel)) (cg_in1 13 (by decide +kernel) (by decide +kernel)) (cg_in8 48 (by decide +kernel) (by decide +kernel)) rfl rfl rfl (by decide +kernel) ⟨Nat.le_trans (Nat.add_le_add_left (by decide) _) hr.1, Nat.le_trans (Nat.add_le_add_left (by decide) _) hr.2⟩ ⟨Nat.le_of_ble_eq_true rfl, Nat.le_of_ble_eq_true rfl⟩ rfl rfl (Nat.le_of_ble_eq_true rfl) dL_law_2201 (fun v τ hq => ?_)
  obtain ⟨r2, rfl, h⟩ := hq
  refine ga_istore (lv' := [(7, .int r2), (6, .int k), (5, .int (Int32.ofNat (5 * n))), (4, .ref (ad 122)), (3, .ref (ad 121)), (2, .ref (ad 88)), (1, .ref (ad 0)), (0, .ref sb)]) hC dL_law_2204 (by decide) rfl ?_
  refine ga_aload_n hC dL_law_2206 5 rfl rfl ?_
  refine gl_callM (As := []) (st := []) (n := 0) hC h (cg_in6 218 (by decide +kernel) (by decide +kernel)) (cg_in6 219 (by decide +kernel) (by decide +kernel)) (cg_in6 220 (by decide +kernel) (by decide +kernel)) (cg_in1 13 (by decide +kernel) (by decide +kernel)) (cg_in6 221 (by decide +kernel) (by decide +kernel)) rfl rfl rfl (by decide +kernel) ⟨Nat.le_trans (Nat.add_le_add_left (by decide) _) hr.1, Nat.le_trans (Nat.add_le_add_left (by decide) _) hr.2⟩ ⟨Nat.le_of_ble_eq_true rfl, Nat.le_of_ble_eq_true rfl⟩ rfl rfl (Nat.le_of_ble_eq_true rfl) dL_law_2207 (fun v τ hq => ?_)
  obtain ⟨t, rfl, h1, h2, h3⟩ := hq
  refine ga_iload hC dL_law_2210 1 rfl ?_
  refine ga_icmp_eq (tgt := 2217) hC dL_law_2212 (by decide) (fun _ => ?_) (fun hc => absurd h1 hc)
  refine ga_iload hC dL_law_2217 1 rfl ?_
  refine ga_if_ne (tgt := 2234) hC dL_law_2219 (by decide) (fun hc => ?_) (fun hc => ?_)
  · skip
    refine ga_goto (tgt := 2593) hC dL_law_2234 (by decide) ?_
    refine ga_locals [2, 3, 4, 5, 6, 7] rfl ?_
    exact ga_widen (Nat.add_le_add_left (by decide) _) (Nat.add_le_add_left (by decide) _) (kk _ _ _ _ h3)
  · have h2 := h2 hc
    refine ga_aload_n hC dL_law_2222 4 rfl rfl ?_
    refine ga_iconst (v := 0) hC dL_law_2223 (by decide) ?_
    refine ga_lald (k := 121) (n := 1) hC (fun _ => rfl) (by decide) lw_in0 dL_law_2224 ?_
    refine ga_iload hC dL_law_2225 0 rfl ?_
    refine ga_i2l hC dL_law_2227 ?_
    refine ga_lcmp hC dL_law_2228 ?_
    refine ga_if_eq (tgt := 2234) hC dL_law_2229 (by decide) (fun _ => ?_) (fun hc2 => absurd (show lg_cmp (o1 0) _ = 0 by rw [h2]; exact lw_lc _) hc2)
    refine ga_goto (tgt := 2593) hC dL_law_2234 (by decide) ?_
    refine ga_locals [2, 3, 4, 5, 6, 7] rfl ?_
    exact ga_widen (Nat.add_le_add_left (by decide) _) (Nat.add_le_add_left (by decide) _) (kk _ _ _ _ h3)
/-- what is to be shown of a call of classes -/
def OP_classes (Nx : cg_S → cg_S → Prop) (a b : cg_S) : Prop := M_X11_classes a (fun r a1 => M_X12_classes b (fun r2 b1 => M_X12_thrown b1 (fun t b2 => t = 0 ∧ r = r2 ∧ Nx a1 b2))) (fun E a1 => (E = "java/lang/IllegalStateException" ∧ M_X12_classes b (fun r2 b1 => M_X12_thrown b1 (fun t b2 => t = 1 ∧ Nx a1 b2))))
set_option maxRecDepth 100000 in
set_option maxHeartbeats 4000000 in
theorem z_classes {p : Program} {l : Launch} {e : Env} {s : State} {m : MethodId} {args : Array Value} {below : List Frame} {meth : Method} {c : Code} {D : va_G} {cy : Nat → ClassId} {ad : Nat → Nat} {kc ks : Nat} {ret : Option FieldType} {a b : cg_S} {o : Nat → Int64} {od : Nat → UInt64} {Z : State → Prop} {sb L n : Nat} {xs : Nat → Int32} {Nx : cg_S → cg_S → Prop} (hC : cg_X cg_WL RL cL_law 9 ret p s m args meth c D cy ad) (hK : cl_K l s ad) (hX : va_X sb L xs s s.heap) (hbl : sb < s.heap.size) (hbA : ¬ cg_F ad 123 s.heap.size sb) (hL : 5 * n + 5 ≤ L) (hL2 : L ≤ 2560) (hr : kc + 4 ≤ room_1.cells ∧ ks + 24 ≤ room_1.slots)
    (kk : ∀ (a1 b1 : cg_S) (o1 : Nat → Int64) (od1 : Nat → UInt64), Nx a1 b1 → cg_G cg_WL room_1 p l e s m args below meth c D cy ad Z (kc + 4) (ks + 24) 9 2593 [(5, .int (Int32.ofNat (5 * n))), (4, .ref (ad 122)), (3, .ref (ad 121)), (2, .ref (ad 88)), (1, .ref (ad 0)), (0, .ref sb)] [] (jn a1 b1 o1 od1))
    (h : OP_classes Nx  a b) : cg_G cg_WL room_1 p l e s m args below meth c D cy ad Z kc ks 9 2237 [(5, .int (Int32.ofNat (5 * n))), (4, .ref (ad 122)), (3, .ref (ad 121)), (2, .ref (ad 88)), (1, .ref (ad 0)), (0, .ref sb)] [] (jn a b o od) := by
  have hw : M_L_classes  a b o od (fun k a1 o1 od1 => M_X12_classes  b (fun r2 b1 => M_X12_thrown b1 (fun t b2 => t = k ∧ (k = 0 → o1 0 = r2.toInt64) ∧ Nx a1 b2))) := by
    refine w_classes (M_X11_classes.mono h (fun r a1 q => M_X12_classes.mono q (fun r2 b1 q2 => M_X12_thrown.mono q2 (fun t b2 q3 => ⟨q3.1, fun _ => by rw [← q3.2.1]; rfl, q3.2.2⟩))) (fun E a1 q => ?_))
    obtain ⟨e9, q⟩ := q
    exact ⟨e9, M_X12_classes.mono q (fun r2 b1 q2 => M_X12_thrown.mono q2 (fun t b2 q3 => ⟨q3.1, fun z => absurd z (by decide), q3.2⟩))⟩
  refine ga_aload_n hC dL_law_2237 4 rfl rfl ?_
  refine ga_aload_n hC dL_law_2238 2 rfl rfl ?_
  refine gl_callS (As := [.ref (ad 0), .ref (ad 121)]) (st := []) (n := 2) hC hK hw (cg_in6 6 (by decide +kernel) (by decide +kernel)) (cg_in6 7 (by decide +kernel) (by decide +kernel)) (cg_in1 0 (by decide +kernel) (by decide +kernel)) (cg_in6 8 (by decide +kernel) (by decide +kernel)) rfl rfl rfl (by decide +kernel) ⟨Nat.le_trans (Nat.add_le_add_left (by decide) _) hr.1, Nat.le_trans (Nat.add_le_add_left (by decide) _) hr.2⟩ ⟨Nat.le_of_ble_eq_true rfl, Nat.le_of_ble_eq_true rfl⟩ rfl rfl (Nat.le_of_ble_eq_true rfl) dL_law_2239 (fun v τ hq => ?_)
  obtain ⟨k, a1, o1, od1, rfl, rfl, h⟩ := hq
  refine ga_istore (lv' := [(6, .int k), (5, .int (Int32.ofNat (5 * n))), (4, .ref (ad 122)), (3, .ref (ad 121)), (2, .ref (ad 88)), (1, .ref (ad 0)), (0, .ref sb)]) hC dL_law_2242 (by decide) rfl ?_
  refine ga_aload_n hC dL_law_2244 4 rfl rfl ?_
  refine gl_callM (As := []) (st := []) (n := 0) hC h (cg_in8 65 (by decide +kernel) (by decide +kernel)) (cg_in8 66 (by decide +kernel) (by decide +kernel)) (cg_in8 67 (by decide +kernel) (by decide +kernel)) (cg_in1 13 (by decide +kernel) (by decide +kernel)) (cg_in8 68 (by decide +kernel) (by decide +kernel)) rfl rfl rfl (by decide +kernel) ⟨Nat.le_trans (Nat.add_le_add_left (by decide) _) hr.1, Nat.le_trans (Nat.add_le_add_left (by decide) _) hr.2⟩ ⟨Nat.le_of_ble_eq_true rfl, Nat.le_of_ble_eq_true rfl⟩ rfl rfl (Nat.le_of_ble_eq_true rfl) dL_law_2245 (fun v τ hq => ?_)
  obtain ⟨r2, rfl, h⟩ := hq
  refine ga_istore (lv' := [(7, .int r2), (6, .int k), (5, .int (Int32.ofNat (5 * n))), (4, .ref (ad 122)), (3, .ref (ad 121)), (2, .ref (ad 88)), (1, .ref (ad 0)), (0, .ref sb)]) hC dL_law_2248 (by decide) rfl ?_
  refine ga_aload_n hC dL_law_2250 5 rfl rfl ?_
  refine gl_callM (As := []) (st := []) (n := 0) hC h (cg_in6 218 (by decide +kernel) (by decide +kernel)) (cg_in6 219 (by decide +kernel) (by decide +kernel)) (cg_in6 220 (by decide +kernel) (by decide +kernel)) (cg_in1 13 (by decide +kernel) (by decide +kernel)) (cg_in6 221 (by decide +kernel) (by decide +kernel)) rfl rfl rfl (by decide +kernel) ⟨Nat.le_trans (Nat.add_le_add_left (by decide) _) hr.1, Nat.le_trans (Nat.add_le_add_left (by decide) _) hr.2⟩ ⟨Nat.le_of_ble_eq_true rfl, Nat.le_of_ble_eq_true rfl⟩ rfl rfl (Nat.le_of_ble_eq_true rfl) dL_law_2251 (fun v τ hq => ?_)
  obtain ⟨t, rfl, h1, h2, h3⟩ := hq
  refine ga_iload hC dL_law_2254 1 rfl ?_
  refine ga_icmp_eq (tgt := 2261) hC dL_law_2256 (by decide) (fun _ => ?_) (fun hc => absurd h1 hc)
  refine ga_iload hC dL_law_2261 1 rfl ?_
  refine ga_if_ne (tgt := 2278) hC dL_law_2263 (by decide) (fun hc => ?_) (fun hc => ?_)
  · skip
    refine ga_goto (tgt := 2593) hC dL_law_2278 (by decide) ?_
    refine ga_locals [2, 3, 4, 5, 6, 7] rfl ?_
    exact ga_widen (Nat.add_le_add_left (by decide) _) (Nat.add_le_add_left (by decide) _) (kk _ _ _ _ h3)
  · have h2 := h2 hc
    refine ga_aload_n hC dL_law_2266 4 rfl rfl ?_
    refine ga_iconst (v := 0) hC dL_law_2267 (by decide) ?_
    refine ga_lald (k := 121) (n := 1) hC (fun _ => rfl) (by decide) lw_in0 dL_law_2268 ?_
    refine ga_iload hC dL_law_2269 0 rfl ?_
    refine ga_i2l hC dL_law_2271 ?_
    refine ga_lcmp hC dL_law_2272 ?_
    refine ga_if_eq (tgt := 2278) hC dL_law_2273 (by decide) (fun _ => ?_) (fun hc2 => absurd (show lg_cmp (o1 0) _ = 0 by rw [h2]; exact lw_lc _) hc2)
    refine ga_goto (tgt := 2593) hC dL_law_2278 (by decide) ?_
    refine ga_locals [2, 3, 4, 5, 6, 7] rfl ?_
    exact ga_widen (Nat.add_le_add_left (by decide) _) (Nat.add_le_add_left (by decide) _) (kk _ _ _ _ h3)
/-- what is to be shown of a call of traceLength -/
def OP_traceLength (Nx : cg_S → cg_S → Prop) (v1 : Int32) (a b : cg_S) : Prop := M_X11_traceLength v1 a (fun r a1 => M_X12_traceLength v1 b (fun r2 b1 => M_X12_thrown b1 (fun t b2 => t = 0 ∧ r = r2 ∧ Nx a1 b2))) (fun E a1 => (E = "java/lang/IndexOutOfBoundsException" ∧ M_X12_traceLength v1 b (fun r2 b1 => M_X12_thrown b1 (fun t b2 => t = 1 ∧ Nx a1 b2))) ∨ (E = "java/lang/IllegalStateException" ∧ M_X12_traceLength v1 b (fun r2 b1 => M_X12_thrown b1 (fun t b2 => t = 2 ∧ Nx a1 b2))) ∨ (E = "java/util/NoSuchElementException" ∧ M_X12_traceLength v1 b (fun r2 b1 => M_X12_thrown b1 (fun t b2 => t = 3 ∧ Nx a1 b2))))
set_option maxRecDepth 100000 in
set_option maxHeartbeats 4000000 in
theorem z_traceLength {p : Program} {l : Launch} {e : Env} {s : State} {m : MethodId} {args : Array Value} {below : List Frame} {meth : Method} {c : Code} {D : va_G} {cy : Nat → ClassId} {ad : Nat → Nat} {kc ks : Nat} {ret : Option FieldType} {a b : cg_S} {o : Nat → Int64} {od : Nat → UInt64} {Z : State → Prop} {sb L n : Nat} {xs : Nat → Int32} {Nx : cg_S → cg_S → Prop} (hC : cg_X cg_WL RL cL_law 9 ret p s m args meth c D cy ad) (hK : cl_K l s ad) (hX : va_X sb L xs s s.heap) (hbl : sb < s.heap.size) (hbA : ¬ cg_F ad 123 s.heap.size sb) (hL : 5 * n + 5 ≤ L) (hL2 : L ≤ 2560) (hr : kc + 4 ≤ room_1.cells ∧ ks + 24 ≤ room_1.slots)
    (kk : ∀ (a1 b1 : cg_S) (o1 : Nat → Int64) (od1 : Nat → UInt64), Nx a1 b1 → cg_G cg_WL room_1 p l e s m args below meth c D cy ad Z (kc + 4) (ks + 24) 9 2593 [(5, .int (Int32.ofNat (5 * n))), (4, .ref (ad 122)), (3, .ref (ad 121)), (2, .ref (ad 88)), (1, .ref (ad 0)), (0, .ref sb)] [] (jn a1 b1 o1 od1))
    (h : OP_traceLength Nx (xs (5 * n + 1)) a b) : cg_G cg_WL room_1 p l e s m args below meth c D cy ad Z kc ks 9 2281 [(5, .int (Int32.ofNat (5 * n))), (4, .ref (ad 122)), (3, .ref (ad 121)), (2, .ref (ad 88)), (1, .ref (ad 0)), (0, .ref sb)] [] (jn a b o od) := by
  have hw : M_L_traceLength (xs (5 * n + 1)) a b o od (fun k a1 o1 od1 => M_X12_traceLength (xs (5 * n + 1)) b (fun r2 b1 => M_X12_thrown b1 (fun t b2 => t = k ∧ (k = 0 → o1 0 = r2.toInt64) ∧ Nx a1 b2))) := by
    refine w_traceLength (M_X11_traceLength.mono h (fun r a1 q => M_X12_traceLength.mono q (fun r2 b1 q2 => M_X12_thrown.mono q2 (fun t b2 q3 => ⟨q3.1, fun _ => by rw [← q3.2.1]; rfl, q3.2.2⟩))) (fun E a1 q => ?_))
    rcases q with ⟨e9, q⟩ | ⟨e9, q⟩ | ⟨e9, q⟩
    · exact Or.inl ⟨e9, M_X12_traceLength.mono q (fun r2 b1 q2 => M_X12_thrown.mono q2 (fun t b2 q3 => ⟨q3.1, fun z => absurd z (by decide), q3.2⟩))⟩
    · exact Or.inr (Or.inl ⟨e9, M_X12_traceLength.mono q (fun r2 b1 q2 => M_X12_thrown.mono q2 (fun t b2 q3 => ⟨q3.1, fun z => absurd z (by decide), q3.2⟩))⟩)
    · exact Or.inr (Or.inr (⟨e9, M_X12_traceLength.mono q (fun r2 b1 q2 => M_X12_thrown.mono q2 (fun t b2 q3 => ⟨q3.1, fun z => absurd z (by decide), q3.2⟩))⟩))
  refine ga_aload_n hC dL_law_2281 4 rfl rfl ?_
  refine gl_arg (j := 1) 5 0 hC hX hbl hbA hL hL2 rfl rfl (by decide) rfl dL_law_2282 dL_law_2283 dL_law_2285 dL_law_2286 dL_law_2287 ?_
  refine ga_aload_n hC dL_law_2288 2 rfl rfl ?_
  refine gl_callS (As := [.ref (ad 0), .int (xs (5 * n + 1)), .ref (ad 121)]) (st := []) (n := 3) hC hK hw (cg_in6 17 (by decide +kernel) (by decide +kernel)) (cg_in6 18 (by decide +kernel) (by decide +kernel)) (cg_in1 0 (by decide +kernel) (by decide +kernel)) (cg_in6 19 (by decide +kernel) (by decide +kernel)) rfl rfl rfl (by decide +kernel) ⟨Nat.le_trans (Nat.add_le_add_left (by decide) _) hr.1, Nat.le_trans (Nat.add_le_add_left (by decide) _) hr.2⟩ ⟨Nat.le_of_ble_eq_true rfl, Nat.le_of_ble_eq_true rfl⟩ rfl rfl (Nat.le_of_ble_eq_true rfl) dL_law_2289 (fun v τ hq => ?_)
  obtain ⟨k, a1, o1, od1, rfl, rfl, h⟩ := hq
  refine ga_istore (lv' := [(6, .int k), (5, .int (Int32.ofNat (5 * n))), (4, .ref (ad 122)), (3, .ref (ad 121)), (2, .ref (ad 88)), (1, .ref (ad 0)), (0, .ref sb)]) hC dL_law_2292 (by decide) rfl ?_
  refine ga_aload_n hC dL_law_2294 4 rfl rfl ?_
  refine gl_arg (j := 1) 6 1 hC hX hbl hbA hL hL2 rfl rfl (by decide) rfl dL_law_2295 dL_law_2296 dL_law_2298 dL_law_2299 dL_law_2300 ?_
  refine gl_callM (As := [.int (xs (5 * n + 1))]) (st := []) (n := 1) hC h (cg_in8 69 (by decide +kernel) (by decide +kernel)) (cg_in8 70 (by decide +kernel) (by decide +kernel)) (cg_in8 71 (by decide +kernel) (by decide +kernel)) (cg_in1 13 (by decide +kernel) (by decide +kernel)) (cg_in8 72 (by decide +kernel) (by decide +kernel)) rfl rfl rfl (by decide +kernel) ⟨Nat.le_trans (Nat.add_le_add_left (by decide) _) hr.1, Nat.le_trans (Nat.add_le_add_left (by decide) _) hr.2⟩ ⟨Nat.le_of_ble_eq_true rfl, Nat.le_of_ble_eq_true rfl⟩ rfl rfl (Nat.le_of_ble_eq_true rfl) dL_law_2301 (fun v τ hq => ?_)
  obtain ⟨r2, rfl, h⟩ := hq
  refine ga_istore (lv' := [(7, .int r2), (6, .int k), (5, .int (Int32.ofNat (5 * n))), (4, .ref (ad 122)), (3, .ref (ad 121)), (2, .ref (ad 88)), (1, .ref (ad 0)), (0, .ref sb)]) hC dL_law_2304 (by decide) rfl ?_
  refine ga_aload_n hC dL_law_2306 5 rfl rfl ?_
  refine gl_callM (As := []) (st := []) (n := 0) hC h (cg_in6 218 (by decide +kernel) (by decide +kernel)) (cg_in6 219 (by decide +kernel) (by decide +kernel)) (cg_in6 220 (by decide +kernel) (by decide +kernel)) (cg_in1 13 (by decide +kernel) (by decide +kernel)) (cg_in6 221 (by decide +kernel) (by decide +kernel)) rfl rfl rfl (by decide +kernel) ⟨Nat.le_trans (Nat.add_le_add_left (by decide) _) hr.1, Nat.le_trans (Nat.add_le_add_left (by decide) _) hr.2⟩ ⟨Nat.le_of_ble_eq_true rfl, Nat.le_of_ble_eq_true rfl⟩ rfl rfl (Nat.le_of_ble_eq_true rfl) dL_law_2307 (fun v τ hq => ?_)
  obtain ⟨t, rfl, h1, h2, h3⟩ := hq
  refine ga_iload hC dL_law_2310 1 rfl ?_
  refine ga_icmp_eq (tgt := 2317) hC dL_law_2312 (by decide) (fun _ => ?_) (fun hc => absurd h1 hc)
  refine ga_iload hC dL_law_2317 1 rfl ?_
  refine ga_if_ne (tgt := 2334) hC dL_law_2319 (by decide) (fun hc => ?_) (fun hc => ?_)
  · skip
    refine ga_goto (tgt := 2593) hC dL_law_2334 (by decide) ?_
    refine ga_locals [2, 3, 4, 5, 6, 7] rfl ?_
    exact ga_widen (Nat.add_le_add_left (by decide) _) (Nat.add_le_add_left (by decide) _) (kk _ _ _ _ h3)
  · have h2 := h2 hc
    refine ga_aload_n hC dL_law_2322 4 rfl rfl ?_
    refine ga_iconst (v := 0) hC dL_law_2323 (by decide) ?_
    refine ga_lald (k := 121) (n := 1) hC (fun _ => rfl) (by decide) lw_in0 dL_law_2324 ?_
    refine ga_iload hC dL_law_2325 0 rfl ?_
    refine ga_i2l hC dL_law_2327 ?_
    refine ga_lcmp hC dL_law_2328 ?_
    refine ga_if_eq (tgt := 2334) hC dL_law_2329 (by decide) (fun _ => ?_) (fun hc2 => absurd (show lg_cmp (o1 0) _ = 0 by rw [h2]; exact lw_lc _) hc2)
    refine ga_goto (tgt := 2593) hC dL_law_2334 (by decide) ?_
    refine ga_locals [2, 3, 4, 5, 6, 7] rfl ?_
    exact ga_widen (Nat.add_le_add_left (by decide) _) (Nat.add_le_add_left (by decide) _) (kk _ _ _ _ h3)
/-- what is to be shown of a call of traceAt -/
def OP_traceAt (Nx : cg_S → cg_S → Prop) (v1 v2 : Int32) (a b : cg_S) : Prop := M_X11_traceAt v1 v2 a (fun r a1 => M_X12_traceAt v1 v2 b (fun r2 b1 => M_X12_thrown b1 (fun t b2 => t = 0 ∧ r = r2 ∧ Nx a1 b2))) (fun E a1 => (E = "java/lang/IndexOutOfBoundsException" ∧ M_X12_traceAt v1 v2 b (fun r2 b1 => M_X12_thrown b1 (fun t b2 => t = 1 ∧ Nx a1 b2))) ∨ (E = "java/lang/IllegalStateException" ∧ M_X12_traceAt v1 v2 b (fun r2 b1 => M_X12_thrown b1 (fun t b2 => t = 2 ∧ Nx a1 b2))) ∨ (E = "java/util/NoSuchElementException" ∧ M_X12_traceAt v1 v2 b (fun r2 b1 => M_X12_thrown b1 (fun t b2 => t = 3 ∧ Nx a1 b2))))
set_option maxRecDepth 100000 in
set_option maxHeartbeats 4000000 in
theorem z_traceAt {p : Program} {l : Launch} {e : Env} {s : State} {m : MethodId} {args : Array Value} {below : List Frame} {meth : Method} {c : Code} {D : va_G} {cy : Nat → ClassId} {ad : Nat → Nat} {kc ks : Nat} {ret : Option FieldType} {a b : cg_S} {o : Nat → Int64} {od : Nat → UInt64} {Z : State → Prop} {sb L n : Nat} {xs : Nat → Int32} {Nx : cg_S → cg_S → Prop} (hC : cg_X cg_WL RL cL_law 9 ret p s m args meth c D cy ad) (hK : cl_K l s ad) (hX : va_X sb L xs s s.heap) (hbl : sb < s.heap.size) (hbA : ¬ cg_F ad 123 s.heap.size sb) (hL : 5 * n + 5 ≤ L) (hL2 : L ≤ 2560) (hr : kc + 4 ≤ room_1.cells ∧ ks + 24 ≤ room_1.slots)
    (kk : ∀ (a1 b1 : cg_S) (o1 : Nat → Int64) (od1 : Nat → UInt64), Nx a1 b1 → cg_G cg_WL room_1 p l e s m args below meth c D cy ad Z (kc + 4) (ks + 24) 9 2593 [(5, .int (Int32.ofNat (5 * n))), (4, .ref (ad 122)), (3, .ref (ad 121)), (2, .ref (ad 88)), (1, .ref (ad 0)), (0, .ref sb)] [] (jn a1 b1 o1 od1))
    (h : OP_traceAt Nx (xs (5 * n + 1)) (xs (5 * n + 2)) a b) : cg_G cg_WL room_1 p l e s m args below meth c D cy ad Z kc ks 9 2337 [(5, .int (Int32.ofNat (5 * n))), (4, .ref (ad 122)), (3, .ref (ad 121)), (2, .ref (ad 88)), (1, .ref (ad 0)), (0, .ref sb)] [] (jn a b o od) := by
  have hw : M_L_traceAt (xs (5 * n + 1)) (xs (5 * n + 2)) a b o od (fun k a1 o1 od1 => M_X12_traceAt (xs (5 * n + 1)) (xs (5 * n + 2)) b (fun r2 b1 => M_X12_thrown b1 (fun t b2 => t = k ∧ (k = 0 → o1 0 = r2.toInt64) ∧ Nx a1 b2))) := by
    refine w_traceAt (M_X11_traceAt.mono h (fun r a1 q => M_X12_traceAt.mono q (fun r2 b1 q2 => M_X12_thrown.mono q2 (fun t b2 q3 => ⟨q3.1, fun _ => by rw [← q3.2.1]; rfl, q3.2.2⟩))) (fun E a1 q => ?_))
    rcases q with ⟨e9, q⟩ | ⟨e9, q⟩ | ⟨e9, q⟩
    · exact Or.inl ⟨e9, M_X12_traceAt.mono q (fun r2 b1 q2 => M_X12_thrown.mono q2 (fun t b2 q3 => ⟨q3.1, fun z => absurd z (by decide), q3.2⟩))⟩
    · exact Or.inr (Or.inl ⟨e9, M_X12_traceAt.mono q (fun r2 b1 q2 => M_X12_thrown.mono q2 (fun t b2 q3 => ⟨q3.1, fun z => absurd z (by decide), q3.2⟩))⟩)
    · exact Or.inr (Or.inr (⟨e9, M_X12_traceAt.mono q (fun r2 b1 q2 => M_X12_thrown.mono q2 (fun t b2 q3 => ⟨q3.1, fun z => absurd z (by decide), q3.2⟩))⟩))
  refine ga_aload_n hC dL_law_2337 4 rfl rfl ?_
  refine gl_arg (j := 1) 5 0 hC hX hbl hbA hL hL2 rfl rfl (by decide) rfl dL_law_2338 dL_law_2339 dL_law_2341 dL_law_2342 dL_law_2343 ?_
  refine gl_arg (j := 2) 5 0 hC hX hbl hbA hL hL2 rfl rfl (by decide) rfl dL_law_2344 dL_law_2345 dL_law_2347 dL_law_2348 dL_law_2349 ?_
  refine ga_aload_n hC dL_law_2350 2 rfl rfl ?_
  refine gl_callS (As := [.ref (ad 0), .int (xs (5 * n + 1)), .int (xs (5 * n + 2)), .ref (ad 121)]) (st := []) (n := 4) hC hK hw (cg_in6 41 (by decide +kernel) (by decide +kernel)) (cg_in6 42 (by decide +kernel) (by decide +kernel)) (cg_in1 0 (by decide +kernel) (by decide +kernel)) (cg_in6 43 (by decide +kernel) (by decide +kernel)) rfl rfl rfl (by decide +kernel) ⟨Nat.le_trans (Nat.add_le_add_left (by decide) _) hr.1, Nat.le_trans (Nat.add_le_add_left (by decide) _) hr.2⟩ ⟨Nat.le_of_ble_eq_true rfl, Nat.le_of_ble_eq_true rfl⟩ rfl rfl (Nat.le_of_ble_eq_true rfl) dL_law_2351 (fun v τ hq => ?_)
  obtain ⟨k, a1, o1, od1, rfl, rfl, h⟩ := hq
  refine ga_istore (lv' := [(6, .int k), (5, .int (Int32.ofNat (5 * n))), (4, .ref (ad 122)), (3, .ref (ad 121)), (2, .ref (ad 88)), (1, .ref (ad 0)), (0, .ref sb)]) hC dL_law_2354 (by decide) rfl ?_
  refine ga_aload_n hC dL_law_2356 4 rfl rfl ?_
  refine gl_arg (j := 1) 6 1 hC hX hbl hbA hL hL2 rfl rfl (by decide) rfl dL_law_2357 dL_law_2358 dL_law_2360 dL_law_2361 dL_law_2362 ?_
  refine gl_arg (j := 2) 6 1 hC hX hbl hbA hL hL2 rfl rfl (by decide) rfl dL_law_2363 dL_law_2364 dL_law_2366 dL_law_2367 dL_law_2368 ?_
  refine gl_callM (As := [.int (xs (5 * n + 1)), .int (xs (5 * n + 2))]) (st := []) (n := 2) hC h (cg_in8 85 (by decide +kernel) (by decide +kernel)) (cg_in8 86 (by decide +kernel) (by decide +kernel)) (cg_in8 87 (by decide +kernel) (by decide +kernel)) (cg_in1 13 (by decide +kernel) (by decide +kernel)) (cg_in8 88 (by decide +kernel) (by decide +kernel)) rfl rfl rfl (by decide +kernel) ⟨Nat.le_trans (Nat.add_le_add_left (by decide) _) hr.1, Nat.le_trans (Nat.add_le_add_left (by decide) _) hr.2⟩ ⟨Nat.le_of_ble_eq_true rfl, Nat.le_of_ble_eq_true rfl⟩ rfl rfl (Nat.le_of_ble_eq_true rfl) dL_law_2369 (fun v τ hq => ?_)
  obtain ⟨r2, rfl, h⟩ := hq
  refine ga_istore (lv' := [(7, .int r2), (6, .int k), (5, .int (Int32.ofNat (5 * n))), (4, .ref (ad 122)), (3, .ref (ad 121)), (2, .ref (ad 88)), (1, .ref (ad 0)), (0, .ref sb)]) hC dL_law_2372 (by decide) rfl ?_
  refine ga_aload_n hC dL_law_2374 5 rfl rfl ?_
  refine gl_callM (As := []) (st := []) (n := 0) hC h (cg_in6 218 (by decide +kernel) (by decide +kernel)) (cg_in6 219 (by decide +kernel) (by decide +kernel)) (cg_in6 220 (by decide +kernel) (by decide +kernel)) (cg_in1 13 (by decide +kernel) (by decide +kernel)) (cg_in6 221 (by decide +kernel) (by decide +kernel)) rfl rfl rfl (by decide +kernel) ⟨Nat.le_trans (Nat.add_le_add_left (by decide) _) hr.1, Nat.le_trans (Nat.add_le_add_left (by decide) _) hr.2⟩ ⟨Nat.le_of_ble_eq_true rfl, Nat.le_of_ble_eq_true rfl⟩ rfl rfl (Nat.le_of_ble_eq_true rfl) dL_law_2375 (fun v τ hq => ?_)
  obtain ⟨t, rfl, h1, h2, h3⟩ := hq
  refine ga_iload hC dL_law_2378 1 rfl ?_
  refine ga_icmp_eq (tgt := 2385) hC dL_law_2380 (by decide) (fun _ => ?_) (fun hc => absurd h1 hc)
  refine ga_iload hC dL_law_2385 1 rfl ?_
  refine ga_if_ne (tgt := 2402) hC dL_law_2387 (by decide) (fun hc => ?_) (fun hc => ?_)
  · skip
    refine ga_goto (tgt := 2593) hC dL_law_2402 (by decide) ?_
    refine ga_locals [2, 3, 4, 5, 6, 7] rfl ?_
    exact ga_widen (Nat.add_le_add_left (by decide) _) (Nat.add_le_add_left (by decide) _) (kk _ _ _ _ h3)
  · have h2 := h2 hc
    refine ga_aload_n hC dL_law_2390 4 rfl rfl ?_
    refine ga_iconst (v := 0) hC dL_law_2391 (by decide) ?_
    refine ga_lald (k := 121) (n := 1) hC (fun _ => rfl) (by decide) lw_in0 dL_law_2392 ?_
    refine ga_iload hC dL_law_2393 0 rfl ?_
    refine ga_i2l hC dL_law_2395 ?_
    refine ga_lcmp hC dL_law_2396 ?_
    refine ga_if_eq (tgt := 2402) hC dL_law_2397 (by decide) (fun _ => ?_) (fun hc2 => absurd (show lg_cmp (o1 0) _ = 0 by rw [h2]; exact lw_lc _) hc2)
    refine ga_goto (tgt := 2593) hC dL_law_2402 (by decide) ?_
    refine ga_locals [2, 3, 4, 5, 6, 7] rfl ?_
    exact ga_widen (Nat.add_le_add_left (by decide) _) (Nat.add_le_add_left (by decide) _) (kk _ _ _ _ h3)
/-- what is to be shown of a call of traceAbove -/
def OP_traceAbove (Nx : cg_S → cg_S → Prop) (v1 : Int32) (a b : cg_S) : Prop := M_X11_traceAbove v1 a (fun r a1 => M_X12_traceAbove v1 b (fun r2 b1 => M_X12_thrown b1 (fun t b2 => t = 0 ∧ r = r2 ∧ Nx a1 b2))) (fun E a1 => (E = "java/lang/IndexOutOfBoundsException" ∧ M_X12_traceAbove v1 b (fun r2 b1 => M_X12_thrown b1 (fun t b2 => t = 1 ∧ Nx a1 b2))) ∨ (E = "java/lang/IllegalStateException" ∧ M_X12_traceAbove v1 b (fun r2 b1 => M_X12_thrown b1 (fun t b2 => t = 2 ∧ Nx a1 b2))) ∨ (E = "java/util/NoSuchElementException" ∧ M_X12_traceAbove v1 b (fun r2 b1 => M_X12_thrown b1 (fun t b2 => t = 3 ∧ Nx a1 b2))))
set_option maxRecDepth 100000 in
set_option maxHeartbeats 4000000 in
theorem z_traceAbove {p : Program} {l : Launch} {e : Env} {s : State} {m : MethodId} {args : Array Value} {below : List Frame} {meth : Method} {c : Code} {D : va_G} {cy : Nat → ClassId} {ad : Nat → Nat} {kc ks : Nat} {ret : Option FieldType} {a b : cg_S} {o : Nat → Int64} {od : Nat → UInt64} {Z : State → Prop} {sb L n : Nat} {xs : Nat → Int32} {Nx : cg_S → cg_S → Prop} (hC : cg_X cg_WL RL cL_law 9 ret p s m args meth c D cy ad) (hK : cl_K l s ad) (hX : va_X sb L xs s s.heap) (hbl : sb < s.heap.size) (hbA : ¬ cg_F ad 123 s.heap.size sb) (hL : 5 * n + 5 ≤ L) (hL2 : L ≤ 2560) (hr : kc + 4 ≤ room_1.cells ∧ ks + 24 ≤ room_1.slots)
    (kk : ∀ (a1 b1 : cg_S) (o1 : Nat → Int64) (od1 : Nat → UInt64), Nx a1 b1 → cg_G cg_WL room_1 p l e s m args below meth c D cy ad Z (kc + 4) (ks + 24) 9 2593 [(5, .int (Int32.ofNat (5 * n))), (4, .ref (ad 122)), (3, .ref (ad 121)), (2, .ref (ad 88)), (1, .ref (ad 0)), (0, .ref sb)] [] (jn a1 b1 o1 od1))
    (h : OP_traceAbove Nx (xs (5 * n + 1)) a b) : cg_G cg_WL room_1 p l e s m args below meth c D cy ad Z kc ks 9 2405 [(5, .int (Int32.ofNat (5 * n))), (4, .ref (ad 122)), (3, .ref (ad 121)), (2, .ref (ad 88)), (1, .ref (ad 0)), (0, .ref sb)] [] (jn a b o od) := by
  have hw : M_L_traceAbove (xs (5 * n + 1)) a b o od (fun k a1 o1 od1 => M_X12_traceAbove (xs (5 * n + 1)) b (fun r2 b1 => M_X12_thrown b1 (fun t b2 => t = k ∧ (k = 0 → o1 0 = r2) ∧ Nx a1 b2))) := by
    refine w_traceAbove (M_X11_traceAbove.mono h (fun r a1 q => M_X12_traceAbove.mono q (fun r2 b1 q2 => M_X12_thrown.mono q2 (fun t b2 q3 => ⟨q3.1, fun _ => by rw [← q3.2.1]; rfl, q3.2.2⟩))) (fun E a1 q => ?_))
    rcases q with ⟨e9, q⟩ | ⟨e9, q⟩ | ⟨e9, q⟩
    · exact Or.inl ⟨e9, M_X12_traceAbove.mono q (fun r2 b1 q2 => M_X12_thrown.mono q2 (fun t b2 q3 => ⟨q3.1, fun z => absurd z (by decide), q3.2⟩))⟩
    · exact Or.inr (Or.inl ⟨e9, M_X12_traceAbove.mono q (fun r2 b1 q2 => M_X12_thrown.mono q2 (fun t b2 q3 => ⟨q3.1, fun z => absurd z (by decide), q3.2⟩))⟩)
    · exact Or.inr (Or.inr (⟨e9, M_X12_traceAbove.mono q (fun r2 b1 q2 => M_X12_thrown.mono q2 (fun t b2 q3 => ⟨q3.1, fun z => absurd z (by decide), q3.2⟩))⟩))
  refine ga_aload_n hC dL_law_2405 4 rfl rfl ?_
  refine gl_arg (j := 1) 5 0 hC hX hbl hbA hL hL2 rfl rfl (by decide) rfl dL_law_2406 dL_law_2407 dL_law_2409 dL_law_2410 dL_law_2411 ?_
  refine ga_aload_n hC dL_law_2412 2 rfl rfl ?_
  refine gl_callS (As := [.ref (ad 0), .int (xs (5 * n + 1)), .ref (ad 121)]) (st := []) (n := 3) hC hK hw (cg_in6 57 (by decide +kernel) (by decide +kernel)) (cg_in6 58 (by decide +kernel) (by decide +kernel)) (cg_in1 0 (by decide +kernel) (by decide +kernel)) (cg_in6 59 (by decide +kernel) (by decide +kernel)) rfl rfl rfl (by decide +kernel) ⟨Nat.le_trans (Nat.add_le_add_left (by decide) _) hr.1, Nat.le_trans (Nat.add_le_add_left (by decide) _) hr.2⟩ ⟨Nat.le_of_ble_eq_true rfl, Nat.le_of_ble_eq_true rfl⟩ rfl rfl (Nat.le_of_ble_eq_true rfl) dL_law_2413 (fun v τ hq => ?_)
  obtain ⟨k, a1, o1, od1, rfl, rfl, h⟩ := hq
  refine ga_istore (lv' := [(6, .int k), (5, .int (Int32.ofNat (5 * n))), (4, .ref (ad 122)), (3, .ref (ad 121)), (2, .ref (ad 88)), (1, .ref (ad 0)), (0, .ref sb)]) hC dL_law_2416 (by decide) rfl ?_
  refine ga_aload_n hC dL_law_2418 4 rfl rfl ?_
  refine gl_arg (j := 1) 6 1 hC hX hbl hbA hL hL2 rfl rfl (by decide) rfl dL_law_2419 dL_law_2420 dL_law_2422 dL_law_2423 dL_law_2424 ?_
  refine gl_callM (As := [.int (xs (5 * n + 1))]) (st := []) (n := 1) hC h (cg_in8 89 (by decide +kernel) (by decide +kernel)) (cg_in8 90 (by decide +kernel) (by decide +kernel)) (cg_in8 91 (by decide +kernel) (by decide +kernel)) (cg_in1 13 (by decide +kernel) (by decide +kernel)) (cg_in8 92 (by decide +kernel) (by decide +kernel)) rfl rfl rfl (by decide +kernel) ⟨Nat.le_trans (Nat.add_le_add_left (by decide) _) hr.1, Nat.le_trans (Nat.add_le_add_left (by decide) _) hr.2⟩ ⟨Nat.le_of_ble_eq_true rfl, Nat.le_of_ble_eq_true rfl⟩ rfl rfl (Nat.le_of_ble_eq_true rfl) dL_law_2425 (fun v τ hq => ?_)
  obtain ⟨r2, rfl, h⟩ := hq
  refine ga_lstore (lv' := [(7, .long r2), (6, .int k), (5, .int (Int32.ofNat (5 * n))), (4, .ref (ad 122)), (3, .ref (ad 121)), (2, .ref (ad 88)), (1, .ref (ad 0)), (0, .ref sb)]) hC dL_law_2428 (by decide) rfl ?_
  refine ga_aload_n hC dL_law_2430 5 rfl rfl ?_
  refine gl_callM (As := []) (st := []) (n := 0) hC h (cg_in6 218 (by decide +kernel) (by decide +kernel)) (cg_in6 219 (by decide +kernel) (by decide +kernel)) (cg_in6 220 (by decide +kernel) (by decide +kernel)) (cg_in1 13 (by decide +kernel) (by decide +kernel)) (cg_in6 221 (by decide +kernel) (by decide +kernel)) rfl rfl rfl (by decide +kernel) ⟨Nat.le_trans (Nat.add_le_add_left (by decide) _) hr.1, Nat.le_trans (Nat.add_le_add_left (by decide) _) hr.2⟩ ⟨Nat.le_of_ble_eq_true rfl, Nat.le_of_ble_eq_true rfl⟩ rfl rfl (Nat.le_of_ble_eq_true rfl) dL_law_2431 (fun v τ hq => ?_)
  obtain ⟨t, rfl, h1, h2, h3⟩ := hq
  refine ga_iload hC dL_law_2434 1 rfl ?_
  refine ga_icmp_eq (tgt := 2441) hC dL_law_2436 (by decide) (fun _ => ?_) (fun hc => absurd h1 hc)
  refine ga_iload hC dL_law_2441 1 rfl ?_
  refine ga_if_ne (tgt := 2457) hC dL_law_2443 (by decide) (fun hc => ?_) (fun hc => ?_)
  · skip
    refine ga_goto (tgt := 2593) hC dL_law_2457 (by decide) ?_
    refine ga_locals [2, 3, 4, 5, 6, 7] rfl ?_
    exact ga_widen (Nat.add_le_add_left (by decide) _) (Nat.add_le_add_left (by decide) _) (kk _ _ _ _ h3)
  · have h2 := h2 hc
    refine ga_aload_n hC dL_law_2446 4 rfl rfl ?_
    refine ga_iconst (v := 0) hC dL_law_2447 (by decide) ?_
    refine ga_lald (k := 121) (n := 1) hC (fun _ => rfl) (by decide) lw_in0 dL_law_2448 ?_
    refine ga_lload hC dL_law_2449 0 rfl ?_
    refine ga_lcmp hC dL_law_2451 ?_
    refine ga_if_eq (tgt := 2457) hC dL_law_2452 (by decide) (fun _ => ?_) (fun hc2 => absurd (show lg_cmp (o1 0) _ = 0 by rw [h2]; exact lw_lc _) hc2)
    refine ga_goto (tgt := 2593) hC dL_law_2457 (by decide) ?_
    refine ga_locals [2, 3, 4, 5, 6, 7] rfl ?_
    exact ga_widen (Nat.add_le_add_left (by decide) _) (Nat.add_le_add_left (by decide) _) (kk _ _ _ _ h3)
/-- what is to be shown of a call of traceBelow -/
def OP_traceBelow (Nx : cg_S → cg_S → Prop) (v1 : Int32) (a b : cg_S) : Prop := M_X11_traceBelow v1 a (fun r a1 => M_X12_traceBelow v1 b (fun r2 b1 => M_X12_thrown b1 (fun t b2 => t = 0 ∧ r = r2 ∧ Nx a1 b2))) (fun E a1 => (E = "java/lang/IndexOutOfBoundsException" ∧ M_X12_traceBelow v1 b (fun r2 b1 => M_X12_thrown b1 (fun t b2 => t = 1 ∧ Nx a1 b2))) ∨ (E = "java/lang/IllegalStateException" ∧ M_X12_traceBelow v1 b (fun r2 b1 => M_X12_thrown b1 (fun t b2 => t = 2 ∧ Nx a1 b2))) ∨ (E = "java/util/NoSuchElementException" ∧ M_X12_traceBelow v1 b (fun r2 b1 => M_X12_thrown b1 (fun t b2 => t = 3 ∧ Nx a1 b2))))
set_option maxRecDepth 100000 in
set_option maxHeartbeats 4000000 in
theorem z_traceBelow {p : Program} {l : Launch} {e : Env} {s : State} {m : MethodId} {args : Array Value} {below : List Frame} {meth : Method} {c : Code} {D : va_G} {cy : Nat → ClassId} {ad : Nat → Nat} {kc ks : Nat} {ret : Option FieldType} {a b : cg_S} {o : Nat → Int64} {od : Nat → UInt64} {Z : State → Prop} {sb L n : Nat} {xs : Nat → Int32} {Nx : cg_S → cg_S → Prop} (hC : cg_X cg_WL RL cL_law 9 ret p s m args meth c D cy ad) (hK : cl_K l s ad) (hX : va_X sb L xs s s.heap) (hbl : sb < s.heap.size) (hbA : ¬ cg_F ad 123 s.heap.size sb) (hL : 5 * n + 5 ≤ L) (hL2 : L ≤ 2560) (hr : kc + 4 ≤ room_1.cells ∧ ks + 24 ≤ room_1.slots)
    (kk : ∀ (a1 b1 : cg_S) (o1 : Nat → Int64) (od1 : Nat → UInt64), Nx a1 b1 → cg_G cg_WL room_1 p l e s m args below meth c D cy ad Z (kc + 4) (ks + 24) 9 2593 [(5, .int (Int32.ofNat (5 * n))), (4, .ref (ad 122)), (3, .ref (ad 121)), (2, .ref (ad 88)), (1, .ref (ad 0)), (0, .ref sb)] [] (jn a1 b1 o1 od1))
    (h : OP_traceBelow Nx (xs (5 * n + 1)) a b) : cg_G cg_WL room_1 p l e s m args below meth c D cy ad Z kc ks 9 2460 [(5, .int (Int32.ofNat (5 * n))), (4, .ref (ad 122)), (3, .ref (ad 121)), (2, .ref (ad 88)), (1, .ref (ad 0)), (0, .ref sb)] [] (jn a b o od) := by
  have hw : M_L_traceBelow (xs (5 * n + 1)) a b o od (fun k a1 o1 od1 => M_X12_traceBelow (xs (5 * n + 1)) b (fun r2 b1 => M_X12_thrown b1 (fun t b2 => t = k ∧ (k = 0 → o1 0 = r2) ∧ Nx a1 b2))) := by
    refine w_traceBelow (M_X11_traceBelow.mono h (fun r a1 q => M_X12_traceBelow.mono q (fun r2 b1 q2 => M_X12_thrown.mono q2 (fun t b2 q3 => ⟨q3.1, fun _ => by rw [← q3.2.1]; rfl, q3.2.2⟩))) (fun E a1 q => ?_))
    rcases q with ⟨e9, q⟩ | ⟨e9, q⟩ | ⟨e9, q⟩
    · exact Or.inl ⟨e9, M_X12_traceBelow.mono q (fun r2 b1 q2 => M_X12_thrown.mono q2 (fun t b2 q3 => ⟨q3.1, fun z => absurd z (by decide), q3.2⟩))⟩
    · exact Or.inr (Or.inl ⟨e9, M_X12_traceBelow.mono q (fun r2 b1 q2 => M_X12_thrown.mono q2 (fun t b2 q3 => ⟨q3.1, fun z => absurd z (by decide), q3.2⟩))⟩)
    · exact Or.inr (Or.inr (⟨e9, M_X12_traceBelow.mono q (fun r2 b1 q2 => M_X12_thrown.mono q2 (fun t b2 q3 => ⟨q3.1, fun z => absurd z (by decide), q3.2⟩))⟩))
  refine ga_aload_n hC dL_law_2460 4 rfl rfl ?_
  refine gl_arg (j := 1) 5 0 hC hX hbl hbA hL hL2 rfl rfl (by decide) rfl dL_law_2461 dL_law_2462 dL_law_2464 dL_law_2465 dL_law_2466 ?_
  refine ga_aload_n hC dL_law_2467 2 rfl rfl ?_
  refine gl_callS (As := [.ref (ad 0), .int (xs (5 * n + 1)), .ref (ad 121)]) (st := []) (n := 3) hC hK hw (cg_in6 64 (by decide +kernel) (by decide +kernel)) (cg_in6 65 (by decide +kernel) (by decide +kernel)) (cg_in1 0 (by decide +kernel) (by decide +kernel)) (cg_in6 66 (by decide +kernel) (by decide +kernel)) rfl rfl rfl (by decide +kernel) ⟨Nat.le_trans (Nat.add_le_add_left (by decide) _) hr.1, Nat.le_trans (Nat.add_le_add_left (by decide) _) hr.2⟩ ⟨Nat.le_of_ble_eq_true rfl, Nat.le_of_ble_eq_true rfl⟩ rfl rfl (Nat.le_of_ble_eq_true rfl) dL_law_2468 (fun v τ hq => ?_)
  obtain ⟨k, a1, o1, od1, rfl, rfl, h⟩ := hq
  refine ga_istore (lv' := [(6, .int k), (5, .int (Int32.ofNat (5 * n))), (4, .ref (ad 122)), (3, .ref (ad 121)), (2, .ref (ad 88)), (1, .ref (ad 0)), (0, .ref sb)]) hC dL_law_2471 (by decide) rfl ?_
  refine ga_aload_n hC dL_law_2473 4 rfl rfl ?_
  refine gl_arg (j := 1) 6 1 hC hX hbl hbA hL hL2 rfl rfl (by decide) rfl dL_law_2474 dL_law_2475 dL_law_2477 dL_law_2478 dL_law_2479 ?_
  refine gl_callM (As := [.int (xs (5 * n + 1))]) (st := []) (n := 1) hC h (cg_in8 93 (by decide +kernel) (by decide +kernel)) (cg_in8 94 (by decide +kernel) (by decide +kernel)) (cg_in8 95 (by decide +kernel) (by decide +kernel)) (cg_in1 13 (by decide +kernel) (by decide +kernel)) (cg_in8 96 (by decide +kernel) (by decide +kernel)) rfl rfl rfl (by decide +kernel) ⟨Nat.le_trans (Nat.add_le_add_left (by decide) _) hr.1, Nat.le_trans (Nat.add_le_add_left (by decide) _) hr.2⟩ ⟨Nat.le_of_ble_eq_true rfl, Nat.le_of_ble_eq_true rfl⟩ rfl rfl (Nat.le_of_ble_eq_true rfl) dL_law_2480 (fun v τ hq => ?_)
  obtain ⟨r2, rfl, h⟩ := hq
  refine ga_lstore (lv' := [(7, .long r2), (6, .int k), (5, .int (Int32.ofNat (5 * n))), (4, .ref (ad 122)), (3, .ref (ad 121)), (2, .ref (ad 88)), (1, .ref (ad 0)), (0, .ref sb)]) hC dL_law_2483 (by decide) rfl ?_
  refine ga_aload_n hC dL_law_2485 5 rfl rfl ?_
  refine gl_callM (As := []) (st := []) (n := 0) hC h (cg_in6 218 (by decide +kernel) (by decide +kernel)) (cg_in6 219 (by decide +kernel) (by decide +kernel)) (cg_in6 220 (by decide +kernel) (by decide +kernel)) (cg_in1 13 (by decide +kernel) (by decide +kernel)) (cg_in6 221 (by decide +kernel) (by decide +kernel)) rfl rfl rfl (by decide +kernel) ⟨Nat.le_trans (Nat.add_le_add_left (by decide) _) hr.1, Nat.le_trans (Nat.add_le_add_left (by decide) _) hr.2⟩ ⟨Nat.le_of_ble_eq_true rfl, Nat.le_of_ble_eq_true rfl⟩ rfl rfl (Nat.le_of_ble_eq_true rfl) dL_law_2486 (fun v τ hq => ?_)
  obtain ⟨t, rfl, h1, h2, h3⟩ := hq
  refine ga_iload hC dL_law_2489 1 rfl ?_
  refine ga_icmp_eq (tgt := 2496) hC dL_law_2491 (by decide) (fun _ => ?_) (fun hc => absurd h1 hc)
  refine ga_iload hC dL_law_2496 1 rfl ?_
  refine ga_if_ne (tgt := 2512) hC dL_law_2498 (by decide) (fun hc => ?_) (fun hc => ?_)
  · skip
    refine ga_goto (tgt := 2593) hC dL_law_2512 (by decide) ?_
    refine ga_locals [2, 3, 4, 5, 6, 7] rfl ?_
    exact ga_widen (Nat.add_le_add_left (by decide) _) (Nat.add_le_add_left (by decide) _) (kk _ _ _ _ h3)
  · have h2 := h2 hc
    refine ga_aload_n hC dL_law_2501 4 rfl rfl ?_
    refine ga_iconst (v := 0) hC dL_law_2502 (by decide) ?_
    refine ga_lald (k := 121) (n := 1) hC (fun _ => rfl) (by decide) lw_in0 dL_law_2503 ?_
    refine ga_lload hC dL_law_2504 0 rfl ?_
    refine ga_lcmp hC dL_law_2506 ?_
    refine ga_if_eq (tgt := 2512) hC dL_law_2507 (by decide) (fun _ => ?_) (fun hc2 => absurd (show lg_cmp (o1 0) _ = 0 by rw [h2]; exact lw_lc _) hc2)
    refine ga_goto (tgt := 2593) hC dL_law_2512 (by decide) ?_
    refine ga_locals [2, 3, 4, 5, 6, 7] rfl ?_
    exact ga_widen (Nat.add_le_add_left (by decide) _) (Nat.add_le_add_left (by decide) _) (kk _ _ _ _ h3)
/-- what is to be shown of a call of meanChoices -/
def OP_meanChoices (Nx : cg_S → cg_S → Prop) (a b : cg_S) : Prop := M_X11_meanChoices a (fun r a1 => M_X12_meanChoices b (fun r2 b1 => M_X12_thrown b1 (fun t b2 => t = 0 ∧ r = r2 ∧ Nx a1 b2))) (fun E a1 => (E = "java/lang/ArithmeticException" ∧ M_X12_meanChoices b (fun r2 b1 => M_X12_thrown b1 (fun t b2 => t = 1 ∧ Nx a1 b2))))
set_option maxRecDepth 100000 in
set_option maxHeartbeats 4000000 in
theorem z_meanChoices {p : Program} {l : Launch} {e : Env} {s : State} {m : MethodId} {args : Array Value} {below : List Frame} {meth : Method} {c : Code} {D : va_G} {cy : Nat → ClassId} {ad : Nat → Nat} {kc ks : Nat} {ret : Option FieldType} {a b : cg_S} {o : Nat → Int64} {od : Nat → UInt64} {Z : State → Prop} {sb L n : Nat} {xs : Nat → Int32} {Nx : cg_S → cg_S → Prop} (hC : cg_X cg_WL RL cL_law 9 ret p s m args meth c D cy ad) (hK : cl_K l s ad) (hX : va_X sb L xs s s.heap) (hbl : sb < s.heap.size) (hbA : ¬ cg_F ad 123 s.heap.size sb) (hL : 5 * n + 5 ≤ L) (hL2 : L ≤ 2560) (hr : kc + 4 ≤ room_1.cells ∧ ks + 24 ≤ room_1.slots)
    (kk : ∀ (a1 b1 : cg_S) (o1 : Nat → Int64) (od1 : Nat → UInt64), Nx a1 b1 → cg_G cg_WL room_1 p l e s m args below meth c D cy ad Z (kc + 4) (ks + 24) 9 2593 [(5, .int (Int32.ofNat (5 * n))), (4, .ref (ad 122)), (3, .ref (ad 121)), (2, .ref (ad 88)), (1, .ref (ad 0)), (0, .ref sb)] [] (jn a1 b1 o1 od1))
    (h : OP_meanChoices Nx  a b) : cg_G cg_WL room_1 p l e s m args below meth c D cy ad Z kc ks 9 2515 [(5, .int (Int32.ofNat (5 * n))), (4, .ref (ad 122)), (3, .ref (ad 121)), (2, .ref (ad 88)), (1, .ref (ad 0)), (0, .ref sb)] [] (jn a b o od) := by
  have hw : M_L_meanChoices  a b o od (fun k a1 o1 od1 => M_X12_meanChoices  b (fun r2 b1 => M_X12_thrown b1 (fun t b2 => t = k ∧ (k = 0 → od1 0 = r2) ∧ Nx a1 b2))) := by
    refine w_meanChoices (M_X11_meanChoices.mono h (fun r a1 q => M_X12_meanChoices.mono q (fun r2 b1 q2 => M_X12_thrown.mono q2 (fun t b2 q3 => ⟨q3.1, fun _ => by rw [← q3.2.1]; rfl, q3.2.2⟩))) (fun E a1 q => ?_))
    obtain ⟨e9, q⟩ := q
    exact ⟨e9, M_X12_meanChoices.mono q (fun r2 b1 q2 => M_X12_thrown.mono q2 (fun t b2 q3 => ⟨q3.1, fun z => absurd z (by decide), q3.2⟩))⟩
  refine ga_aload_n hC dL_law_2515 4 rfl rfl ?_
  refine ga_aload hC dL_law_2516 1 rfl ?_
  refine gl_callS (As := [.ref (ad 0), .ref (ad 122)]) (st := []) (n := 2) hC hK hw (cg_in6 71 (by decide +kernel) (by decide +kernel)) (cg_in6 72 (by decide +kernel) (by decide +kernel)) (cg_in1 0 (by decide +kernel) (by decide +kernel)) (cg_in6 73 (by decide +kernel) (by decide +kernel)) rfl rfl rfl (by decide +kernel) ⟨Nat.le_trans (Nat.add_le_add_left (by decide) _) hr.1, Nat.le_trans (Nat.add_le_add_left (by decide) _) hr.2⟩ ⟨Nat.le_of_ble_eq_true rfl, Nat.le_of_ble_eq_true rfl⟩ rfl rfl (Nat.le_of_ble_eq_true rfl) dL_law_2518 (fun v τ hq => ?_)
  obtain ⟨k, a1, o1, od1, rfl, rfl, h⟩ := hq
  refine ga_istore (lv' := [(6, .int k), (5, .int (Int32.ofNat (5 * n))), (4, .ref (ad 122)), (3, .ref (ad 121)), (2, .ref (ad 88)), (1, .ref (ad 0)), (0, .ref sb)]) hC dL_law_2521 (by decide) rfl ?_
  refine ga_aload_n hC dL_law_2523 4 rfl rfl ?_
  refine gl_callM (As := []) (st := []) (n := 0) hC h (cg_in8 97 (by decide +kernel) (by decide +kernel)) (cg_in8 98 (by decide +kernel) (by decide +kernel)) (cg_in8 99 (by decide +kernel) (by decide +kernel)) (cg_in1 13 (by decide +kernel) (by decide +kernel)) (cg_in8 100 (by decide +kernel) (by decide +kernel)) rfl rfl rfl (by decide +kernel) ⟨Nat.le_trans (Nat.add_le_add_left (by decide) _) hr.1, Nat.le_trans (Nat.add_le_add_left (by decide) _) hr.2⟩ ⟨Nat.le_of_ble_eq_true rfl, Nat.le_of_ble_eq_true rfl⟩ rfl rfl (Nat.le_of_ble_eq_true rfl) dL_law_2524 (fun v τ hq => ?_)
  obtain ⟨r2, rfl, h⟩ := hq
  refine ga_dstore (lv' := [(7, .double r2), (6, .int k), (5, .int (Int32.ofNat (5 * n))), (4, .ref (ad 122)), (3, .ref (ad 121)), (2, .ref (ad 88)), (1, .ref (ad 0)), (0, .ref sb)]) hC dL_law_2527 (by decide) rfl ?_
  refine ga_aload_n hC dL_law_2529 5 rfl rfl ?_
  refine gl_callM (As := []) (st := []) (n := 0) hC h (cg_in6 218 (by decide +kernel) (by decide +kernel)) (cg_in6 219 (by decide +kernel) (by decide +kernel)) (cg_in6 220 (by decide +kernel) (by decide +kernel)) (cg_in1 13 (by decide +kernel) (by decide +kernel)) (cg_in6 221 (by decide +kernel) (by decide +kernel)) rfl rfl rfl (by decide +kernel) ⟨Nat.le_trans (Nat.add_le_add_left (by decide) _) hr.1, Nat.le_trans (Nat.add_le_add_left (by decide) _) hr.2⟩ ⟨Nat.le_of_ble_eq_true rfl, Nat.le_of_ble_eq_true rfl⟩ rfl rfl (Nat.le_of_ble_eq_true rfl) dL_law_2530 (fun v τ hq => ?_)
  obtain ⟨t, rfl, h1, h2, h3⟩ := hq
  refine ga_iload hC dL_law_2533 1 rfl ?_
  refine ga_icmp_eq (tgt := 2540) hC dL_law_2535 (by decide) (fun _ => ?_) (fun hc => absurd h1 hc)
  refine ga_iload hC dL_law_2540 1 rfl ?_
  refine ga_if_ne (tgt := 2577) hC dL_law_2542 (by decide) (fun hc => ?_) (fun hc => ?_)
  · skip
    refine ga_goto (tgt := 2593) hC dL_law_2577 (by decide) ?_
    refine ga_locals [2, 3, 4, 5, 6, 7] rfl ?_
    exact ga_widen (Nat.add_le_add_left (by decide) _) (Nat.add_le_add_left (by decide) _) (kk _ _ _ _ h3)
  · have h2 := h2 hc
    refine ga_aload hC dL_law_2545 3 rfl ?_
    refine ga_iconst (v := 0) hC dL_law_2547 (by decide) ?_
    refine ga_dald (k := 122) (n := 1) hC (fun _ => rfl) (by decide) lw_in0 dL_law_2548 ?_
    refine ga_dload hC dL_law_2549 0 rfl ?_
    refine ga_dcmp hC dL_law_2551 ?_
    refine ga_if_eq (tgt := 2577) hC dL_law_2552 (by decide) (fun _ => ?_) (fun hc2 => ?_)
    · skip
      refine ga_goto (tgt := 2593) hC dL_law_2577 (by decide) ?_
      refine ga_locals [2, 3, 4, 5, 6, 7] rfl ?_
      exact ga_widen (Nat.add_le_add_left (by decide) _) (Nat.add_le_add_left (by decide) _) (kk _ _ _ _ h3)
    · skip
      refine ga_aload hC dL_law_2555 3 rfl ?_
      refine ga_iconst (v := 0) hC dL_law_2557 (by decide) ?_
      refine ga_dald (k := 122) (n := 1) hC (fun _ => rfl) (by decide) lw_in0 dL_law_2558 ?_
      refine ga_aload hC dL_law_2559 3 rfl ?_
      refine ga_iconst (v := 0) hC dL_law_2561 (by decide) ?_
      refine ga_dald (k := 122) (n := 1) hC (fun _ => rfl) (by decide) lw_in0 dL_law_2562 ?_
      refine ga_dcmp hC dL_law_2563 ?_
      refine ga_if_eq (tgt := 2575) hC dL_law_2564 (by decide) (fun hc3 => absurd (show Op.cmpValue (FP.dcmp (od1 0) _) .l = 0 by rw [← h2]; exact hc3) hc2) (fun _ => ?_)
      refine ga_dload hC dL_law_2567 0 rfl ?_
      refine ga_dload hC dL_law_2569 0 rfl ?_
      refine ga_dcmp hC dL_law_2571 ?_
      refine ga_if_ne (tgt := 2577) hC dL_law_2572 (by decide) (fun _ => ?_) (fun hc3 => absurd (show Op.cmpValue (FP.dcmp (od1 0) _) .l = 0 by rw [h2]; exact hc3) hc2)
      refine ga_goto (tgt := 2593) hC dL_law_2577 (by decide) ?_
      refine ga_locals [2, 3, 4, 5, 6, 7] rfl ?_
      exact ga_widen (Nat.add_le_add_left (by decide) _) (Nat.add_le_add_left (by decide) _) (kk _ _ _ _ h3)
def OP_isConsistent (Nx : cg_S → cg_S → Prop) (a b : cg_S) : Prop := M_X11_isConsistent a (fun r a1 => M_X12_isConsistent b (fun r2 b1 => r = r2 ∧ Nx a1 b1))
set_option maxRecDepth 100000 in
set_option maxHeartbeats 4000000 in
theorem z_isConsistent {p : Program} {l : Launch} {e : Env} {s : State} {m : MethodId} {args : Array Value} {below : List Frame} {meth : Method} {c : Code} {D : va_G} {cy : Nat → ClassId} {ad : Nat → Nat} {kc ks : Nat} {ret : Option FieldType} {a b : cg_S} {o : Nat → Int64} {od : Nat → UInt64} {Z : State → Prop} {sb L n : Nat} {xs : Nat → Int32} {Nx : cg_S → cg_S → Prop} (hC : cg_X cg_WL RL cL_law 9 ret p s m args meth c D cy ad) (hK : cl_K l s ad) (hX : va_X sb L xs s s.heap) (hbl : sb < s.heap.size) (hbA : ¬ cg_F ad 123 s.heap.size sb) (hL : 5 * n + 5 ≤ L) (hL2 : L ≤ 2560) (hr : kc + 4 ≤ room_1.cells ∧ ks + 24 ≤ room_1.slots)
    (kk : ∀ (a1 b1 : cg_S) (o1 : Nat → Int64) (od1 : Nat → UInt64), Nx a1 b1 → cg_G cg_WL room_1 p l e s m args below meth c D cy ad Z (kc + 4) (ks + 24) 9 2593 [(5, .int (Int32.ofNat (5 * n))), (4, .ref (ad 122)), (3, .ref (ad 121)), (2, .ref (ad 88)), (1, .ref (ad 0)), (0, .ref sb)] [] (jn a1 b1 o1 od1))
    (h : OP_isConsistent Nx  a b) : cg_G cg_WL room_1 p l e s m args below meth c D cy ad Z kc ks 9 2580 [(5, .int (Int32.ofNat (5 * n))), (4, .ref (ad 122)), (3, .ref (ad 121)), (2, .ref (ad 88)), (1, .ref (ad 0)), (0, .ref sb)] [] (jn a b o od) := by
  refine ga_aload_n hC dL_law_2580 4 rfl rfl ?_
  refine gl_callC (As := []) (st := []) (n := 0) hC h (cg_in2 173 (by decide +kernel) (by decide +kernel)) (cg_in2 174 (by decide +kernel) (by decide +kernel)) (cg_in2 175 (by decide +kernel) (by decide +kernel)) (cg_in1 1 (by decide +kernel) (by decide +kernel)) (cg_in2 176 (by decide +kernel) (by decide +kernel)) rfl rfl rfl (by decide +kernel) ⟨Nat.le_trans (Nat.le_add_right _ _) hr.1, Nat.le_trans (Nat.le_add_right _ _) hr.2⟩ ⟨Nat.le_of_ble_eq_true rfl, Nat.le_of_ble_eq_true rfl⟩ rfl rfl (Nat.le_of_ble_eq_true rfl) dL_law_2581 (fun v τ hq => ?_)
  obtain ⟨r, rfl, h⟩ := hq
  refine ga_aload_n hC dL_law_2584 3 rfl rfl ?_
  refine gl_callM (As := []) (st := [.int r]) (n := 0) hC h (cg_in8 101 (by decide +kernel) (by decide +kernel)) (cg_in8 102 (by decide +kernel) (by decide +kernel)) (cg_in8 103 (by decide +kernel) (by decide +kernel)) (cg_in1 13 (by decide +kernel) (by decide +kernel)) (cg_in8 104 (by decide +kernel) (by decide +kernel)) rfl rfl rfl (by decide +kernel) ⟨Nat.le_trans (Nat.le_add_right _ _) hr.1, Nat.le_trans (Nat.le_add_right _ _) hr.2⟩ ⟨Nat.le_of_ble_eq_true rfl, Nat.le_of_ble_eq_true rfl⟩ rfl rfl (Nat.le_of_ble_eq_true rfl) dL_law_2585 (fun v τ hq => ?_)
  obtain ⟨r2, rfl, h1, h3⟩ := hq
  refine ga_icmp_eq (tgt := 2593) hC dL_law_2588 (by decide) (fun _ => ?_) (fun hc => absurd h1 hc)
  refine ga_locals [0, 1, 2, 3, 4, 5] rfl ?_
  exact ga_widen (Nat.le_add_right _ _) (Nat.le_add_right _ _) (kk _ _ _ _ h3)
