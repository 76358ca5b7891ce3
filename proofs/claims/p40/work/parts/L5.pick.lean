/-! THE SCRIPT: cell and pick -/
def ck_PX (D : va_G) (cy : Nat → ClassId) (sb L : Nat) (xs : Nat → Int32) (sz : Nat) : State → Prop := fun U => U.heap.size = sz ∧ va_K D vwCl (cg_tys cy) U ∧ cg_nest U ∧ va_X sb L xs U U.heap ∧ sb < sz
/-- a contract of a method that reads the script and changes nothing -/
def ck_M (y : MethodName) (cc : ByteArray) (nL : Nat) (ret : Option FieldType) (R : Room) (av : List Value) (sb L : Nat) (xs : Nat → Int32) (Q : Option Value → Prop) : Prop :=
  ∀ (l : Launch) (D : va_G) (cy : Nat → ClassId) (ad : Nat → Nat) (sz : Nat), Met l y (cg_ws y cc nL ret) R (va_Pc av (ck_PX D cy sb L xs sz)) (cg_Q cg_W0 D cy ad (fun _ v _ => Q v) (cg_F ad 0 sz)) 0 0 (cg_F ad 0 sz)
theorem ck_out {ad : Nat → Nat} {sb sz : Nat} (h : sb < sz) : ¬ cg_F ad 0 sz sb := fun z => by
  rcases z with ⟨k, hk, _⟩ | z
  · exact absurd hk (Nat.not_lt_zero _)
  · exact absurd h (Nat.not_lt.mpr z)
theorem ck_entry {y : MethodName} {cc : ByteArray} {nL : Nat} {ret : Option FieldType} {R : Room} {av : List Value} {lv : List (Nat × Value)} {sb L : Nat} {xs : Nat → Int32} {Q : Option Value → Prop} (hy : plainName y.cls = true) (hlv : lv_args 0 av = lv) (hn : (lg_sl av).length ≤ nL)
    (h : ∀ (p : Program) (l : Launch) (e : Env) (s : State) (m : MethodId) (args : Array Value) (below : List Frame) (meth : Method) (c : Code) (D : va_G) (cy : Nat → ClassId) (ad : Nat → Nat), cg_X cg_W0 y.cls cc nL ret p s m args meth c D cy ad → va_X sb L xs s s.heap → sb < s.heap.size → cg_G cg_W0 R p l e s m args below meth c D cy ad (cg_Z cg_W0 D cy ad (fun _ v _ => Q v) below args s) 0 0 nL 0 lv [] cg_s0) : ck_M y cc nL ret R av sb L xs Q := by
  intro l D cy ad sz
  refine Met.ofW (cc := cc) (maxL := nL) (ret := ret) hy rfl ?_
  intro p e s m args below meth c s₁ B hml hv
  obtain ⟨rfl, hsz, hK, hN, hX1, hX2⟩ := hv
  subst hsz
  have hts := atoms_spec (ws := cg_ws y cc nL ret) B.pre
  have hX : cg_X cg_W0 y.cls cc nL ret p s m av.toArray meth c D cy ad := ⟨B.exec, B.bytes, B.returns, hml, findClass_of_methodNamed B.named, fun w hw => hts w (List.mem_cons_of_mem _ hw), B.notSynchronized, hK, fun i j hi => absurd hi (Nat.not_lt_zero _), hN⟩
  have hl := lv_entry av (n := nL) hn
  rw [lg_entry_eq]
  rw [hlv] at hl
  exact h p l e s m _ below meth c D cy ad hX hX1 hX2 s.heap [] _ hl cg_P0 va_S.rf
section GK
variable {w' : cg_Wd} {cc : ByteArray} {nL : Nat} {ret : Option FieldType} {p : Program} {l : Launch} {e : Env} {R : Room} {s : State} {m : MethodId} {args : Array Value} {below : List Frame} {meth : Method} {c : Code} {D : va_G} {cy : Nat → ClassId} {ad : Nat → Nat} {kc ks pc : Nat} {lv : List (Nat × Value)} {st : List Value} {σ : cg_S} {Z : State → Prop} {own : String} {sb L : Nat} {xs : Nat → Int32}
theorem ck_callS {y : MethodName} {c1 : ByteArray} {n1 : Nat} {r1 : Option FieldType} {R1 : Room} {idx n : Nat} {stk As : List Value} {Q : Option Value → Prop} (hC : cg_X w' own cc nL ret p s m args meth c D cy ad) (hX1 : va_X sb L xs s s.heap) (hX2 : sb < s.heap.size) (hbA : ¬ cg_F ad w'.2 s.heap.size sb) (hM : ck_M y c1 n1 r1 R1 As sb L xs Q) (hw1 : Cond.methodLink own idx y ∈ cg_T) (hw2 : Cond.static y ∈ cg_T) (hw4 : Cond.initialized y.cls ∈ cg_T) (hw5 : Cond.code y c1 n1 r1 ∈ cg_T) (hstk : stk = As.reverse ++ st) (hn : As.length = n) (hd : y.cls ≠ "java/lang/invoke/MethodHandle" ∧ y.cls ≠ "java/lang/invoke/VarHandle" ∧ (parseMethodDescriptor y.desc).map (fun d => d.parameters.length) = some n) (hcs : kc ≤ R.cells ∧ ks ≤ R.slots) (hroom : R1.frames + 1 ≤ R.frames ∧ 8 + (n1 + 11) + R1.locals ≤ R.locals) (hc0 : R1.cells = 0) (hs0 : R1.slots = 0) (hcat : (st.map fun v => v.category).sum ≤ 8) (hdg : decode cc pc = .ok (.invokestatic idx, 3)) (kk : ∀ v, Q v → cg_G w' R p l e s m args below meth c D cy ad Z kc ks nL (pc + 3) lv (v.toList ++ st) σ) : cg_G w' R p l e s m args below meth c D cy ad Z kc ks nL pc lv stk σ := by
  intro H locs ls h1 h2 h3
  subst hstk
  have hB : CallB R s args own idx y c1 n1 r1 (cg_ws y c1 n1 r1) R1 0 0 n := callB_of n hC.2.2.2.2.2.1 (cg_goodT hw5) rfl hc0 hs0 (hC.2.2.2.2.2.1 _ hw4) (hC.2.2.2.2.2.1 _ hw1) hd hroom
  have hpc : FrameBlind (va_Pc As (ck_PX D cy sb L xs H.size)) ∧ ∀ U : State, U.heap = H → s.WarmedH U.vm → va_Pc As (ck_PX D cy sb L xs H.size) As.toArray U := by
    refine ⟨fun a U g mk q => ?_, fun U hU hW => ⟨rfl, by rw [hU], va_K.moved hW.alike hC.2.2.2.2.2.2.2.1, cg_nest.warm hW hC.2.2.2.2.2.2.2.2.2, by rw [hU]; exact (hX1.kept (h3.2.1 sb hX2 hbA)).moved hW.alike, Nat.lt_of_lt_of_le hX2 h3.1⟩⟩
    obtain ⟨q0, q1, qK, qN, qs, qb⟩ := q
    exact ⟨q0, q1, va_K.moved (u := U) (U := U.calling g mk a) (Vm.Alike.refl U.vm) qK, cg_nest.same (s := U) (U := U.calling g mk a) rfl qN, va_X.moved (u := U) (U := U.calling g mk a) (Vm.Alike.refl U.vm) qs, qb⟩
  exact gs_k hC.2.2.2.2.2.2.2.2.1 (va_runS (As := As) (rest := st) ⟨hC.1, hC.2.1, hC.2.2.2.1, hC.2.2.2.2.1, hC.2.2.2.2.2.1⟩ (hM l D cy ad H.size) ⟨hB, hC.2.2.2.2.2.1 _ hw2⟩ hpc rfl hn h1.1 rfl (lv_room hcat) hdg hcs) h2 h3 (fun v hq H1 locs1 g4 g5 => kk v hq H1 locs1 ls h1 g4 g5)
theorem ck_sld {i x : Int32} (hC : cg_X w' own cc nL ret p s m args meth c D cy ad) (hX : va_X sb L xs s s.heap) (hbl : sb < s.heap.size) (hbA : ¬ cg_F ad w'.2 s.heap.size sb) (hin : vp_in i L) (hx : xs i.toNatClampNeg = x) (hdg : decode cc pc = .ok (.iaload, 1)) (kk : cg_G w' R p l e s m args below meth c D cy ad Z kc ks nL (pc + 1) lv (.int x :: st) σ) : cg_G w' R p l e s m args below meth c D cy ad Z kc ks nL pc lv (.int i :: .ref sb :: st) σ := by
  subst hx
  exact fun H locs ls h1 h2 h3 => va_sld hC.1 hC.2.1 hX hbl hbA h3 hin hdg (kk H locs ls h1 h2 h3)
theorem ck_slen (hC : cg_X w' own cc nL ret p s m args meth c D cy ad) (hX : va_X sb L xs s s.heap) (hbl : sb < s.heap.size) (hbA : ¬ cg_F ad w'.2 s.heap.size sb) (hdg : decode cc pc = .ok (.arraylength, 1)) (kk : cg_G w' R p l e s m args below meth c D cy ad Z kc ks nL (pc + 1) lv (.int (Int32.ofNat L) :: st) σ) : cg_G w' R p l e s m args below meth c D cy ad Z kc ks nL pc lv (.ref sb :: st) σ :=
  fun H locs ls h1 h2 h3 => va_slen hC.1 hC.2.1 hX hbl hbA h3 hdg (kk H locs ls h1 h2 h3)
end GK
/-- what cell and pick answer -/
def cellv (L : Nat) (xs : Nat → Int32) (k : Int32) : Int32 := if Int32.ofNat L ≤ k then 40503 * k else xs k.toNatClampNeg
def pickw (L : Nat) (xs : Nat → Int32) (k n : Int32) : Int32 := ((cellv L xs k).toUInt32 >>> ((1 : Int32).toUInt32 &&& Int32.toUInt32 31)).toInt32 - ((cellv L xs k).toUInt32 >>> ((1 : Int32).toUInt32 &&& Int32.toUInt32 31)).toInt32 / n * n
theorem ck_inL {L : Nat} {k : Int32} (hL : L ≤ 260) (h0 : ¬ k < 0) (h : ¬ Int32.ofNat L ≤ k) : vp_in k L := by
  rw [Int32.lt_iff_toInt_lt] at h0
  rw [Int32.le_iff_toInt_le, Int32.toInt_ofNat_of_lt (show L < 2 ^ 31 by omega)] at h
  have e0 : (0 : Int32).toInt = 0 := rfl
  rintro (q | q)
  · rw [Int32.lt_iff_toInt_lt] at q; exact h0 q
  · have e : k.toNatClampNeg = k.toInt.toNat := rfl
    omega
set_option maxRecDepth 100000 in
set_option maxHeartbeats 4000000 in
theorem k_cell {k : Int32} {sb L : Nat} {xs : Nat → Int32} (hL : L ≤ 260) (h0 : ¬ k < 0) : ck_M yL_cell cL_cell 2 (some .int) (cg_R 0) [.ref sb, .int k] sb L xs (fun v => v = some (.int (cellv L xs k))) := by
  refine ck_entry (lv := [(0, .ref sb), (1, .int k)]) (by decide +kernel) rfl (Nat.le_of_ble_eq_true rfl) ?_
  intro p l e s m args below meth c D cy ad hC hX hbl
  have hbA := ck_out (ad := ad) hbl
  refine ga_iload_n hC dL_cell_0 1 rfl rfl ?_
  refine ga_aload_n hC dL_cell_1 0 rfl rfl ?_
  refine ck_slen hC hX hbl hbA dL_cell_2 ?_
  refine ga_icmp_ge (tgt := 12) hC dL_cell_3 (by decide) (fun hc => ?_) (fun hc => ?_)
  · refine ga_ldc (v := 40503) hC (cg_in3 118 (by decide +kernel) (by decide +kernel)) dL_cell_12 ?_
    refine ga_iload_n hC dL_cell_14 1 rfl rfl ?_
    refine ga_imul hC dL_cell_15 ?_
    exact ga_iret hC dL_cell_16 (by rw [cellv, if_pos hc])
  · refine ga_aload_n hC dL_cell_6 0 rfl rfl ?_
    refine ga_iload_n hC dL_cell_7 1 rfl rfl ?_
    refine ck_sld hC hX hbl hbA (ck_inL hL h0 hc) rfl dL_cell_8 ?_
    refine ga_goto (tgt := 16) hC dL_cell_9 (by decide) ?_
    exact ga_iret hC dL_cell_16 (by rw [cellv, if_neg hc])
set_option maxRecDepth 100000 in
set_option maxHeartbeats 4000000 in
theorem k_pick {k n : Int32} {sb L : Nat} {xs : Nat → Int32} (hL : L ≤ 260) (h0 : ¬ k < 0) (hn : ¬ n = 0) : ck_M yL_pick cL_pick 3 (some .int) (cg_R 1) [.ref sb, .int k, .int n] sb L xs (fun v => v = some (.int (pickw L xs k n))) := by
  refine ck_entry (lv := [(0, .ref sb), (1, .int k), (2, .int n)]) (by decide +kernel) rfl (Nat.le_of_ble_eq_true rfl) ?_
  intro p l e s m args below meth c D cy ad hC hX hbl
  have hbA := ck_out (ad := ad) hbl
  refine ga_aload_n hC dL_pick_0 0 rfl rfl ?_
  refine ga_iload_n hC dL_pick_1 1 rfl rfl ?_
  refine ck_callS (As := [.ref sb, .int k]) (st := []) (n := 2) hC hX hbl hbA (k_cell hL h0) (cg_in3 115 (by decide +kernel) (by decide +kernel)) (cg_in3 116 (by decide +kernel) (by decide +kernel)) (cg_in1 0 (by decide +kernel) (by decide +kernel)) (cg_in3 117 (by decide +kernel) (by decide +kernel)) rfl rfl (by decide +kernel) ⟨Nat.le_of_ble_eq_true rfl, Nat.le_of_ble_eq_true rfl⟩ ⟨Nat.le_of_ble_eq_true rfl, Nat.le_of_ble_eq_true rfl⟩ rfl rfl (Nat.le_of_ble_eq_true rfl) dL_pick_2 (fun v hq => ?_)
  subst hq
  refine ga_iconst (v := 1) hC dL_pick_5 (by decide) ?_
  refine ga_iushr hC dL_pick_6 ?_
  refine ga_iload_n hC dL_pick_7 2 rfl rfl ?_
  refine ga_irem hC dL_pick_8 hn ?_
  exact ga_iret hC dL_pick_9 rfl
