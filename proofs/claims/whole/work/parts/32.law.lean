/-! THE CLAIM OUT OF ONE WALK OF THE LAW'S BODY. Your part is whole_start (and what it stands on); all else here is the same for every law, but numbers. -/
def R_law : String := "ChanceledgerLaw"
def lw_P (b : Addr) (xs : List Int32) (args : Array Value) (s : State) : Prop := args = #[.ref b] ∧ s.IntsAt b xs ∧ xs.length ≤ 2560 ∧ (Jvm.Cond.and given_1 narrow_1).before args s = true
/-- what a walk over the start with the record d0 says of its end, said of the start itself -/
theorem lw_closed {s t : State} {o : Outcome} {d0 : Drawn} {L : List Loc} {k n : Nat} (hd0 : s.drawn.sameBut d0 lw_cs) (hv : ∃ v, o = .returned v) (hW : (s.setDrawn d0).WarmedH t.vm) (hs : (s.setDrawn d0).sameButNew ({ t with vm := s.vm } : State) L k n) : State.butDraws s t lw_cs (fun t1 => Framed s o t1 L k n) := by
  have h2 : t.drawn = d0 := congrArg State.drawn hs.1
  refine ⟨⟨hv, hW, State.sameButNew.setDrawn hs s.drawn⟩, ?_, by decide⟩
  rw [h2]
  exact hd0
def lw_Q (_ : Array Value) (s : State) (o : Outcome) (t : State) : Prop := o = .returned (some (.int 1)) ∧ State.butDraws s t lw_cs (fun t1 => Framed s o t1 [] 603072 7198826)
def lw_Z (below : List Frame) (a : Array Value) (s : State) : State → Prop := fun t => ∃ o, t.status = .running ∧ Ended t below o ∧ lw_Q a s o t
/-- the law's own end, with 1 on the stack, nothing written that was there before, its room as the claim has it; d0: the record of draws at this point (at the entry s.drawn: begin with 'refine W.base ?_' and 'have hd0 := Drawn.sameBut.refl s.drawn lw_cs') -/
theorem lw_ret {p : Program} {l : Launch} {e : Env} {s : State} {m : MethodId} {below : List Frame} {meth : Method} {c : Code} {b : Nat} {d0 : Drawn} (hd0 : s.drawn.sameBut d0 lw_cs) (hx : p.tables.exec = Jvm.exec) (hb : c.code = code) (hr : meth.sig.returnType = ret) (hlocks : meth.locks = false) {pc : Nat} {H : Heap} {ls : Array Slot} (hdg : decode code pc = .ok (.ireturn, 1)) : W p l e room_1 (s.setDrawn d0) m #[Value.ref b] below meth c H [] 603072 7198826 (lw_Z below #[Value.ref b] s) (F0 m pc ls [.int 1]) := by
  intro T hT X
  obtain ⟨fs, hret, hrun, hended, hW, hframe⟩ := X.leave (v := some (.int 1)) (hlocks := hlocks) (fun h => by rw [hr] at h; cases h)
  have hmeth' : T.vm.method? m = some meth := X.method'
  refine ⟨T.setFrames fs, ?_, .returned (some (.int 1)), hrun, hended, rfl, lw_closed hd0 ⟨_, rfl⟩ hW hframe⟩
  jvm_step X.here [X.here.top, hx, hb, hdg, hmeth', hr, ret, narrow_b1]
  (try refine ⟨rfl, ?_⟩); (try refine ⟨rfl, ?_⟩)
  first | (intro acts; rw [hret _ acts rfl rfl rfl]) | rw [hret _ _ rfl rfl rfl]
  exact Steps.refl _
/-- what holds at the law's entry: the machine, the code, the tables' words (any of lw_tbl by 'hts w (by decide +kernel)'), the script of L ints xs at the cell b, what the Statement gives of the start (any of its parts by flat_of_before) -/
def lw_At (p : Program) (s : State) (m : MethodId) (meth : Method) (c : Code) (b L : Nat) (xs : Nat → Int32) : Prop :=
  p.tables.exec = Jvm.exec ∧ c.code = code ∧ meth.sig.returnType = ret ∧ c.maxLocals = 9 ∧ s.vm.findClass R_law = some m.cls ∧ (∀ w ∈ lw_tbl, w.before #[Value.ref b] s = true) ∧ va_X b L xs s s.heap ∧ b < s.heap.size ∧ meth.locks = false ∧ (Jvm.Cond.and given_1 narrow_1).before #[Value.ref b] s = true
theorem lk1 {w : Cond} (i : Nat) (h : tables_1_1[i]? = some w) : w ∈ lw_tbl := List.mem_append_right _ (List.mem_append_left _ (List.mem_of_getElem? h))
theorem lk3 {w : Cond} (i : Nat) (h : tables_1_3[i]? = some w) : w ∈ lw_tbl := List.mem_append_right _ (List.mem_append_right _ (List.mem_append_right _ (List.mem_append_left _ (List.mem_of_getElem? h))))
theorem lk_tbl {w : Cond} (h : w ∈ tables_1) : w ∈ lw_tbl := List.mem_append_right _ h
theorem lk_arr {args : Array Value} {s : State} {ty : FieldType} (h : (Cond.arrayClass ty).before args s = true) (hob : ∀ C, ty ≠ .object C) : ∃ c, ArrOfT s c ty ∧ va_RA s c ty := by
  obtain ⟨c, k, comp, h1, h2, h3⟩ := Cond.arrayClass_spec h
  exact ⟨c, fun n z => ⟨fun k h => (by cases h), k, h2, comp, h3⟩, by cases ty <;> first | exact absurd rfl (hob _) | exact h1⟩
theorem lk_arrO {args : Array Value} {s : State} {C : String} (h : (Cond.arrayOver (.object C)).before args s = true) : ∃ c, ArrOfT s c (.object C) ∧ va_RA s c (.object C) := by
  obtain ⟨comp, c, k, h1, -, h3, h4, h5⟩ := Cond.arrayOver_spec h
  exact ⟨c, fun n z => ⟨fun k h => (by cases h), k, h3, comp, h4⟩, k, comp, h3, h4, h1, h5⟩
theorem lk_arrA {args : Array Value} {s : State} {t : FieldType} (h : (Cond.arrayOver (.array t)).before args s = true) : ∃ c, ArrOfT s c (.array t) ∧ va_RA s c (.array t) := by
  simp only [Cond.before, Cond.holds, Cond.value, beq_iff_eq] at h
  cases hc : s.vm.findClass (FieldType.array t).toString with
  | none => simp [hc] at h
  | some comp =>
    simp only [hc, Option.bind_some, Option.bind_eq_some_iff, Option.map_eq_some_iff] at h
    obtain ⟨c, hi, k, hk, hb⟩ := h
    cases hkind : k.kind with
    | array component ty =>
      rw [hkind] at hb
      simp at hb
      refine ⟨c, fun n z => ⟨fun k h => (by cases h), k, hk, component, ?_⟩, hb.2⟩
      rw [hkind, hb.1]
    | _ => rw [hkind] at hb; simp at hb
set_option maxRecDepth 100000 in
theorem lk_known {args : Array Value} {s : State} (hts : ∀ w ∈ lw_tbl, w.before args s = true) : ∀ (k : Nat) (q : vw_C), vwCl[k]? = some q → ∃ (cC : ClassId) (iS : Nat → Nat), u_Kn s q.1 q.2.1 q.2.2 cC iS := by
  intro k q hq
  match k, hq with
  | 0, hq => cases hq; exact u_known (n := 4) hts (by decide +kernel) (hts _ (List.mem_filter.mp (cg_in4 0 (by decide +kernel) (by decide +kernel))).1)
  | 1, hq => cases hq; exact u_known (n := 6) hts (by decide +kernel) (hts _ (List.mem_filter.mp (cg_in3 222 (by decide +kernel) (by decide +kernel))).1)
  | 2, hq => cases hq; exact u_known (n := 3) hts (fun w hw => (List.mem_filter.mp (uw_X0 w hw)).1) (hts _ (List.mem_filter.mp (cg_in1 158 (by decide +kernel) (by decide +kernel))).1)
  | 3, hq => cases hq; exact u_known (n := 5) hts (fun w hw => (List.mem_filter.mp (uw_X1 w hw)).1) (hts _ (List.mem_filter.mp (cg_in1 164 (by decide +kernel) (by decide +kernel))).1)
  | 4, hq => cases hq; exact u_known (n := 15) hts (fun w hw => (List.mem_filter.mp (uw_X2 w hw)).1) (hts _ (List.mem_filter.mp (cg_in1 36 (by decide +kernel) (by decide +kernel))).1)
  | 5, hq => cases hq; exact u_known (n := 4) hts (fun w hw => (List.mem_filter.mp (uw_X3 w hw)).1) (hts _ (List.mem_filter.mp (cg_in1 138 (by decide +kernel) (by decide +kernel))).1)
  | 6, hq => cases hq; exact u_known (n := 4) hts (fun w hw => (List.mem_filter.mp (uw_X4 w hw)).1) (hts _ (List.mem_filter.mp (cg_in1 214 (by decide +kernel) (by decide +kernel))).1)
  | 7, hq => cases hq; exact u_known (n := 3) hts (fun w hw => (List.mem_filter.mp (uw_X5 w hw)).1) (hts _ (List.mem_filter.mp (cg_in2 86 (by decide +kernel) (by decide +kernel))).1)
  | 8, hq => cases hq; exact u_known (n := 6) hts (fun w hw => (List.mem_filter.mp (uw_X6 w hw)).1) (hts _ (List.mem_filter.mp (cg_in1 233 (by decide +kernel) (by decide +kernel))).1)
  | 9, hq => cases hq; exact u_known (n := 6) hts (fun w hw => (List.mem_filter.mp (uw_X7 w hw)).1) (hts _ (List.mem_filter.mp (cg_in2 39 (by decide +kernel) (by decide +kernel))).1)
  | 10, hq => cases hq; exact u_known (n := 4) hts (fun w hw => (List.mem_filter.mp (uw_X8 w hw)).1) (hts _ (List.mem_filter.mp (cg_in2 67 (by decide +kernel) (by decide +kernel))).1)
  | 11, hq => cases hq; exact u_known (n := 3) hts (fun w hw => (List.mem_filter.mp (uw_X9 w hw)).1) (hts _ (List.mem_filter.mp (cg_in2 103 (by decide +kernel) (by decide +kernel))).1)
  | 12, hq => cases hq; exact u_known (n := 2) hts (fun w hw => (List.mem_filter.mp (uw_X10 w hw)).1) (hts _ (List.mem_filter.mp (cg_in1 239 (by decide +kernel) (by decide +kernel))).1)
  | 13, hq => cases hq; exact u_known (n := 11) hts (fun w hw => (List.mem_filter.mp (uw_X11 w hw)).1) (hts _ (List.mem_filter.mp (cg_in1 28 (by decide +kernel) (by decide +kernel))).1)
  | 14, hq => cases hq; exact u_known (n := 44) hts (fun w hw => (List.mem_filter.mp (uw_X12 w hw)).1) (hts _ (List.mem_filter.mp (cg_in6 80 (by decide +kernel) (by decide +kernel))).1)
  | k + 15, hq => simp [vwCl] at hq
theorem lk_K {args : Array Value} {s : State} (hts : ∀ w ∈ lw_tbl, w.before args s = true) : ∃ (D : va_G) (cy : Nat → ClassId), va_K D vwCl (cg_tys cy) s := by
  have h1 : ∀ k : Nat, ∃ (z : ClassId × (Nat → Nat)), ∀ q : vw_C, vwCl[k]? = some q → u_Kn s q.1 q.2.1 q.2.2 z.1 z.2 := by
    intro k
    cases hk : vwCl[k]? with
    | none => exact ⟨(0, fun _ => 0), fun q h => by cases h⟩
    | some q =>
      obtain ⟨c, i, h⟩ := lk_known hts k q hk
      exact ⟨(c, i), fun q2 h2 => by cases h2; exact h⟩
  obtain ⟨f, hf⟩ := Classical.axiomOfChoice h1
  obtain ⟨c0, a0, b0⟩ := lk_arr (ty := .boolean) (hts _ (List.mem_filter.mp (cg_in1 135 (by decide +kernel) (by decide +kernel))).1) (fun _ z => nomatch z)
  obtain ⟨c1, a1, b1⟩ := lk_arr (ty := .int) (hts _ (List.mem_filter.mp (cg_in1 136 (by decide +kernel) (by decide +kernel))).1) (fun _ z => nomatch z)
  obtain ⟨c2, a2, b2⟩ := lk_arr (ty := .long) (hts _ (List.mem_filter.mp (cg_in1 199 (by decide +kernel) (by decide +kernel))).1) (fun _ z => nomatch z)
  obtain ⟨c3, a3, b3⟩ := lk_arr (ty := .double) (hts _ (List.mem_filter.mp (cg_in1 156 (by decide +kernel) (by decide +kernel))).1) (fun _ z => nomatch z)
  obtain ⟨c4, a4, b4⟩ := lk_arrA (t := .int) (hts _ (lk_tbl (List.mem_append_left _ (List.mem_of_getElem? (i := 42) (by decide +kernel)))))
  obtain ⟨c5, a5, b5⟩ := lk_arrA (t := .long) (hts _ (lk_tbl (List.mem_append_left _ (List.mem_of_getElem? (i := 170) (by decide +kernel)))))
  obtain ⟨c6, a6, b6⟩ := lk_arrO (C := "Chanceledger$Values") (hts _ (lk_tbl (List.mem_append_right _ (List.mem_append_left _ (List.mem_of_getElem? (i := 46) (by decide +kernel))))))
  refine ⟨(fun k => (f k).1, fun k => (f k).2), fun k => if k = 0 then c0 else if k = 1 then c1 else if k = 2 then c2 else if k = 3 then c3 else if k = 4 then c4 else if k = 5 then c5 else c6, fun k q hq => hf k q hq, ?_⟩
  intro k q hq
  match k, hq with
  | 0, hq => cases hq; exact ⟨a0, b0⟩
  | 1, hq => cases hq; exact ⟨a1, b1⟩
  | 2, hq => cases hq; exact ⟨a2, b2⟩
  | 3, hq => cases hq; exact ⟨a3, b3⟩
  | 4, hq => cases hq; exact ⟨a4, b4⟩
  | 5, hq => cases hq; exact ⟨a5, b5⟩
  | 6, hq => cases hq; exact ⟨a6, b6⟩
  | k + 7, hq => simp [cg_tys] at hq
theorem lk_aux {args : Array Value} {s : State} (hts : ∀ w ∈ lw_tbl, w.before args s = true) : cn_aux s := by
  refine ⟨fun q hq => va_tabs (A := args) (u := s) rfl rfl (hts _ (lk_tbl (cg_N_tbl q hq))), ?_, ?_, ?_⟩
  · exact va_AOA.of (hts _ (lk_tbl (List.mem_append_left _ (List.mem_of_getElem? (i := 42) (by decide +kernel)))))
  · exact va_AOA.of (hts _ (lk_tbl (List.mem_append_left _ (List.mem_of_getElem? (i := 170) (by decide +kernel)))))
  · exact va_AO.of (hts _ (lk_tbl (List.mem_append_right _ (List.mem_append_left _ (List.mem_of_getElem? (i := 46) (by decide +kernel))))))
abbrev lk_l : List Cond := flatC (Cond.and given_1 narrow_1)
theorem lk_strs : ∀ q ∈ cg_strs, Cond.exactly (.string "Chanceledger" q.1) "java/lang/String" ∈ lk_l ∧ Cond.stringRef "Chanceledger" q.1 q.2 ∈ tables_1 := by decide +kernel
theorem lk_ex {args : Array Value} {s : State} {t : Term} {C : String} (h : (Cond.exactly t C).before args s = true) : ∃ a, t.eval args s none [] s = some (.ref a) := by
  obtain ⟨a, _, _, _, h2, _⟩ := Cond.exactly_spec h
  exact ⟨a, h2⟩
theorem lk_xf {args : Array Value} {s : State} (hts : ∀ w ∈ lw_tbl, w.before args s = true) (hs : ∀ w ∈ lk_l, w.before args s = true) : cg_xf s := by
  refine ⟨fun q hq => ?_, fun w hw => va_tabs (A := args) (u := s) (cg_isN_on (List.mem_filter.mp hw).2) rfl (hts _ (lk_tbl (List.mem_filter.mp hw).1))⟩
  obtain ⟨h1, h2⟩ := lk_strs q hq
  obtain ⟨a, h3⟩ := lk_ex (hs _ h1)
  exact ⟨a, vk_R.of (hts _ (lk_tbl h2)) h3⟩
theorem lk_ncw : ∀ E ∈ lw_xs, ∀ T ∈ lw_xs, E ≠ T → Cond.not (.castable E T) ∈ lk_l := by decide +kernel
theorem lk_nc {args : Array Value} {s : State} (hs : ∀ w ∈ lk_l, w.before args s = true) : lw_nc s := fun E hE T hT hne => va_Nc.of (hs _ (lk_ncw E hE T hT hne))
theorem lk_zw : Cond.isRef (.static Bundle.tN "UNASSIGNED_STACK" Bundle.steD) ∈ lk_l ∧ Cond.isRef (.static Bundle.tN "SUPPRESSED_SENTINEL" Bundle.listD) ∈ lk_l := by decide +kernel
theorem lk_zt : Cond.laysStatic Bundle.tN "UNASSIGNED_STACK" Bundle.steD ∈ tables_1 ∧ Cond.laysStatic Bundle.tN "SUPPRESSED_SENTINEL" Bundle.listD ∈ tables_1 ∧ Cond.initialized Bundle.tN ∈ tables_1 := by decide +kernel
theorem lk_zq {args : Array Value} {s : State} {A : Nat → Prop} (hts : ∀ w ∈ lw_tbl, w.before args s = true) (hs : ∀ w ∈ lk_l, w.before args s = true) (hA : ∀ a : Nat, a < s.heap.size → ¬ A a) : cg_zq A s s.heap :=
  ⟨vx_Zqof (hts _ (lk_tbl lk_zt.1)) (hts _ (lk_tbl lk_zt.2.2)) (hs _ lk_zw.1) hA, vx_Zqof (hts _ (lk_tbl lk_zt.2.1)) (hts _ (lk_tbl lk_zt.2.2)) (hs _ lk_zw.2) hA⟩

/-- what is to be shown of any call at these states -/
def OPS (Nx : cg_S → cg_S → Prop) (a b : cg_S) : Prop := Nx a b ∧ (∀ v1 v2 : Int32, OP_addState Nx v1 v2 a b) ∧ (∀ v1 v2 v3 : Int32, OP_addChoice Nx v1 v2 v3 a b) ∧ (∀ v1 v2 v3 v4 : Int32, OP_addWeight Nx v1 v2 v3 v4 a b) ∧ (∀ v1 v2 : Int32, (v2 = 0 ∨ v2 = 1) → OP_setTarget Nx v1 v2 a b) ∧ (∀ v1 v2 : Int32, OP_setDiscount Nx v1 v2 a b) ∧ (∀ v1 v2 : Int32, OP_setWeights Nx v1 v2 a b) ∧ OP_states Nx a b ∧ (∀ v1 : Int32, OP_choices Nx v1 a b) ∧ (∀ v1 v2 v3 : Int32, OP_chance Nx v1 v2 v3 a b) ∧ OP_isWhole Nx a b ∧ (∀ v1 v2 : Int32, OP_above Nx v1 v2 a b) ∧ (∀ v1 v2 : Int32, OP_below Nx v1 v2 a b) ∧ (∀ v1 v2 : Int32, OP_aboveByAll Nx v1 v2 a b) ∧ (∀ v1 v2 : Int32, OP_belowByAll Nx v1 v2 a b) ∧ (∀ v1 v2 : Int32, OP_valueFloat Nx v1 v2 a b) ∧ (∀ v1 v2 : Int32, OP_restFloat Nx v1 v2 a b) ∧ (∀ v1 v2 : Int32, OP_rounded Nx v1 v2 a b) ∧ (∀ v1 v2 : Int32, OP_bound Nx v1 v2 a b) ∧ (∀ v1 : Int32, OP_isZero Nx v1 a b) ∧ (∀ v1 : Int32, OP_isOne Nx v1 a b) ∧ (∀ v1 : Int32, OP_solve Nx v1 a b) ∧ (∀ v1 v2 : Int32, OP_tell Nx v1 v2 a b) ∧ (∀ v1 : Int32, OP_told Nx v1 a b) ∧ (∀ v1 v2 : Int32, OP_chainAbove Nx v1 v2 a b) ∧ (∀ v1 v2 : Int32, OP_chainBelow Nx v1 v2 a b) ∧ (∀ v1 v2 v3 : Int32, OP_responseAbove Nx v1 v2 v3 a b) ∧ (∀ v1 v2 v3 : Int32, OP_responseBelow Nx v1 v2 v3 a b) ∧ (∀ v1 : Int32, OP_closedOf Nx v1 a b) ∧ (∀ v1 : Int32, OP_endOf Nx v1 a b) ∧ (∀ v1 : Int32, OP_classOf Nx v1 a b) ∧ OP_classes Nx a b ∧ (∀ v1 : Int32, OP_traceLength Nx v1 a b) ∧ (∀ v1 v2 : Int32, OP_traceAt Nx v1 v2 a b) ∧ (∀ v1 : Int32, OP_traceAbove Nx v1 a b) ∧ (∀ v1 : Int32, OP_traceBelow Nx v1 a b) ∧ OP_meanChoices Nx a b ∧ OP_isConsistent Nx a b
theorem lw_gt {n L : Nat} (hL : L ≤ 2560) (hn : 5 * n ≤ 2560) (h : L < 5 * n + 5) : Int32.ofNat L - 5 < Int32.ofNat (5 * n) := by
  rw [Int32.lt_iff_toInt_lt, Int32.toInt_sub, Int32.toInt_ofNat_of_lt (by omega), Int32.toInt_ofNat_of_lt (by omega)]
  have : (5 : Int32).toInt = 5 := rfl
  rw [this, Int.bmod_def]
  omega
set_option maxRecDepth 100000 in
set_option maxHeartbeats 4000000 in
theorem law_step {p : Program} {l : Launch} {e : Env} {s : State} {m : MethodId} {args : Array Value} {below : List Frame} {meth : Method} {c : Code} {D : va_G} {cy : Nat → ClassId} {ad : Nat → Nat} {ret : Option FieldType} {Z : State → Prop} {sb L : Nat} {xs : Nat → Int32} (hC : cg_X cg_WL RL cL_law 9 ret p s m args meth c D cy ad) (hK : cl_K l s ad) (hX : va_X sb L xs s s.heap) (hbl : sb < s.heap.size) (hbA : ¬ cg_F ad 123 s.heap.size sb) (hL2 : L ≤ 2560) {n : Nat} {a b : cg_S} {o : Nat → Int64} {od : Nat → UInt64} {Nx : cg_S → cg_S → Prop} {kc ks : Nat} (hL : 5 * n + 5 ≤ L) (hr : kc + 4 ≤ room_1.cells ∧ ks + 24 ≤ room_1.slots) (h : OPS Nx a b)
    (kk : ∀ (a1 b1 : cg_S) (o1 : Nat → Int64) (od1 : Nat → UInt64), Nx a1 b1 → cg_G cg_WL room_1 p l e s m args below meth c D cy ad Z (kc + 4) (ks + 24) 9 2593 [(5, .int (Int32.ofNat (5 * n))), (4, .ref (ad 122)), (3, .ref (ad 121)), (2, .ref (ad 88)), (1, .ref (ad 0)), (0, .ref sb)] [] (jn a1 b1 o1 od1)) : cg_G cg_WL room_1 p l e s m args below meth c D cy ad Z kc ks 9 37 [(5, .int (Int32.ofNat (5 * n))), (4, .ref (ad 122)), (3, .ref (ad 121)), (2, .ref (ad 88)), (1, .ref (ad 0)), (0, .ref sb)] [] (jn a b o od) := by
  refine ga_aload_n hC dL_law_37 5 rfl rfl ?_
  refine ga_iload hC dL_law_38 0 rfl ?_
  obtain ⟨h1, h2⟩ := gl_ix (n := n) (k := 0) (j := 0) rfl (by decide) hL hL2
  rw [Int32.add_zero] at h1 h2
  refine gl_sld (x := xs (5 * n)) hC hX hbl hbA h1 (by rw [h2]; rfl) dL_law_40 ?_
  refine ga_bipush (v := 63) hC dL_law_41 (by decide) ?_
  refine ga_iand hC dL_law_43 ?_
  refine gl_switch (tg := [208, 278, 358, 450, 541, 609, 677, 690, 746, 826, 839, 908, 977, 1046, 1115, 1207, 1299, 1368, 1457, 1520, 1583, 1641, 1709, 1765, 1834, 1903, 1986, 2069, 2125, 2181, 2237, 2281, 2337, 2405, 2460, 2515, 2580]) (td := 2593) hC dL_law_44 (by decide) (by decide +kernel) rfl ?_ ?_
  · exact ga_widen (Nat.le_add_right _ _) (Nat.le_add_right _ _) (kk a b o od h.1)
  · intro k t ht hk
    match k, ht with
    | 0, ht => cases ht; exact z_addState hC hK hX hbl hbA hL hL2 hr kk (h.2.1 _ _)
    | 1, ht => cases ht; exact z_addChoice hC hK hX hbl hbA hL hL2 hr kk (h.2.2.1 _ _ _)
    | 2, ht => cases ht; exact z_addWeight hC hK hX hbl hbA hL hL2 hr kk (h.2.2.2.1 _ _ _ _)
    | 3, ht => cases ht; exact z_setTarget hC hK hX hbl hbA hL hL2 hr kk (h.2.2.2.2.1 _ _ (by by_cases z : xs (5 * n + 2) = 0; exact Or.inl (if_pos z); exact Or.inr (if_neg z)))
    | 4, ht => cases ht; exact z_setDiscount hC hK hX hbl hbA hL hL2 hr kk (h.2.2.2.2.2.1 _ _)
    | 5, ht => cases ht; exact z_setWeights hC hK hX hbl hbA hL hL2 hr kk (h.2.2.2.2.2.2.1 _ _)
    | 6, ht => cases ht; exact z_states hC hK hX hbl hbA hL hL2 hr kk h.2.2.2.2.2.2.2.1
    | 7, ht => cases ht; exact z_choices hC hK hX hbl hbA hL hL2 hr kk (h.2.2.2.2.2.2.2.2.1 _)
    | 8, ht => cases ht; exact z_chance hC hK hX hbl hbA hL hL2 hr kk (h.2.2.2.2.2.2.2.2.2.1 _ _ _)
    | 9, ht => cases ht; exact z_isWhole hC hK hX hbl hbA hL hL2 hr kk h.2.2.2.2.2.2.2.2.2.2.1
    | 10, ht => cases ht; exact z_above hC hK hX hbl hbA hL hL2 hr kk (h.2.2.2.2.2.2.2.2.2.2.2.1 _ _)
    | 11, ht => cases ht; exact z_below hC hK hX hbl hbA hL hL2 hr kk (h.2.2.2.2.2.2.2.2.2.2.2.2.1 _ _)
    | 12, ht => cases ht; exact z_aboveByAll hC hK hX hbl hbA hL hL2 hr kk (h.2.2.2.2.2.2.2.2.2.2.2.2.2.1 _ _)
    | 13, ht => cases ht; exact z_belowByAll hC hK hX hbl hbA hL hL2 hr kk (h.2.2.2.2.2.2.2.2.2.2.2.2.2.2.1 _ _)
    | 14, ht => cases ht; exact z_valueFloat hC hK hX hbl hbA hL hL2 hr kk (h.2.2.2.2.2.2.2.2.2.2.2.2.2.2.2.1 _ _)
    | 15, ht => cases ht; exact z_restFloat hC hK hX hbl hbA hL hL2 hr kk (h.2.2.2.2.2.2.2.2.2.2.2.2.2.2.2.2.1 _ _)
    | 16, ht => cases ht; exact z_rounded hC hK hX hbl hbA hL hL2 hr kk (h.2.2.2.2.2.2.2.2.2.2.2.2.2.2.2.2.2.1 _ _)
    | 17, ht => cases ht; exact z_bound hC hK hX hbl hbA hL hL2 hr kk (h.2.2.2.2.2.2.2.2.2.2.2.2.2.2.2.2.2.2.1 _ _)
    | 18, ht => cases ht; exact z_isZero hC hK hX hbl hbA hL hL2 hr kk (h.2.2.2.2.2.2.2.2.2.2.2.2.2.2.2.2.2.2.2.1 _)
    | 19, ht => cases ht; exact z_isOne hC hK hX hbl hbA hL hL2 hr kk (h.2.2.2.2.2.2.2.2.2.2.2.2.2.2.2.2.2.2.2.2.1 _)
    | 20, ht => cases ht; exact z_solve hC hK hX hbl hbA hL hL2 hr kk (h.2.2.2.2.2.2.2.2.2.2.2.2.2.2.2.2.2.2.2.2.2.1 _)
    | 21, ht => cases ht; exact z_tell hC hK hX hbl hbA hL hL2 hr kk (h.2.2.2.2.2.2.2.2.2.2.2.2.2.2.2.2.2.2.2.2.2.2.1 _ _)
    | 22, ht => cases ht; exact z_told hC hK hX hbl hbA hL hL2 hr kk (h.2.2.2.2.2.2.2.2.2.2.2.2.2.2.2.2.2.2.2.2.2.2.2.1 _)
    | 23, ht => cases ht; exact z_chainAbove hC hK hX hbl hbA hL hL2 hr kk (h.2.2.2.2.2.2.2.2.2.2.2.2.2.2.2.2.2.2.2.2.2.2.2.2.1 _ _)
    | 24, ht => cases ht; exact z_chainBelow hC hK hX hbl hbA hL hL2 hr kk (h.2.2.2.2.2.2.2.2.2.2.2.2.2.2.2.2.2.2.2.2.2.2.2.2.2.1 _ _)
    | 25, ht => cases ht; exact z_responseAbove hC hK hX hbl hbA hL hL2 hr kk (h.2.2.2.2.2.2.2.2.2.2.2.2.2.2.2.2.2.2.2.2.2.2.2.2.2.2.1 _ _ _)
    | 26, ht => cases ht; exact z_responseBelow hC hK hX hbl hbA hL hL2 hr kk (h.2.2.2.2.2.2.2.2.2.2.2.2.2.2.2.2.2.2.2.2.2.2.2.2.2.2.2.1 _ _ _)
    | 27, ht => cases ht; exact z_closedOf hC hK hX hbl hbA hL hL2 hr kk (h.2.2.2.2.2.2.2.2.2.2.2.2.2.2.2.2.2.2.2.2.2.2.2.2.2.2.2.2.1 _)
    | 28, ht => cases ht; exact z_endOf hC hK hX hbl hbA hL hL2 hr kk (h.2.2.2.2.2.2.2.2.2.2.2.2.2.2.2.2.2.2.2.2.2.2.2.2.2.2.2.2.2.1 _)
    | 29, ht => cases ht; exact z_classOf hC hK hX hbl hbA hL hL2 hr kk (h.2.2.2.2.2.2.2.2.2.2.2.2.2.2.2.2.2.2.2.2.2.2.2.2.2.2.2.2.2.2.1 _)
    | 30, ht => cases ht; exact z_classes hC hK hX hbl hbA hL hL2 hr kk h.2.2.2.2.2.2.2.2.2.2.2.2.2.2.2.2.2.2.2.2.2.2.2.2.2.2.2.2.2.2.2.1
    | 31, ht => cases ht; exact z_traceLength hC hK hX hbl hbA hL hL2 hr kk (h.2.2.2.2.2.2.2.2.2.2.2.2.2.2.2.2.2.2.2.2.2.2.2.2.2.2.2.2.2.2.2.2.1 _)
    | 32, ht => cases ht; exact z_traceAt hC hK hX hbl hbA hL hL2 hr kk (h.2.2.2.2.2.2.2.2.2.2.2.2.2.2.2.2.2.2.2.2.2.2.2.2.2.2.2.2.2.2.2.2.2.1 _ _)
    | 33, ht => cases ht; exact z_traceAbove hC hK hX hbl hbA hL hL2 hr kk (h.2.2.2.2.2.2.2.2.2.2.2.2.2.2.2.2.2.2.2.2.2.2.2.2.2.2.2.2.2.2.2.2.2.2.1 _)
    | 34, ht => cases ht; exact z_traceBelow hC hK hX hbl hbA hL hL2 hr kk (h.2.2.2.2.2.2.2.2.2.2.2.2.2.2.2.2.2.2.2.2.2.2.2.2.2.2.2.2.2.2.2.2.2.2.2.1 _)
    | 35, ht => cases ht; exact z_meanChoices hC hK hX hbl hbA hL hL2 hr kk h.2.2.2.2.2.2.2.2.2.2.2.2.2.2.2.2.2.2.2.2.2.2.2.2.2.2.2.2.2.2.2.2.2.2.2.2.1
    | 36, ht => cases ht; exact z_isConsistent hC hK hX hbl hbA hL hL2 hr kk h.2.2.2.2.2.2.2.2.2.2.2.2.2.2.2.2.2.2.2.2.2.2.2.2.2.2.2.2.2.2.2.2.2.2.2.2.2
    | i + 37, ht => simp at ht
set_option maxRecDepth 100000 in
set_option maxHeartbeats 4000000 in
theorem law_loop {p : Program} {l : Launch} {e : Env} {s : State} {m : MethodId} {args : Array Value} {below : List Frame} {meth : Method} {c : Code} {D : va_G} {cy : Nat → ClassId} {ad : Nat → Nat} {ret : Option FieldType} {Z : State → Prop} {sb L : Nat} {xs : Nat → Int32} (hC : cg_X cg_WL RL cL_law 9 ret p s m args meth c D cy ad) (hK : cl_K l s ad) (hX : va_X sb L xs s s.heap) (hbl : sb < s.heap.size) (hbA : ¬ cg_F ad 123 s.heap.size sb) (hL2 : L ≤ 2560) (Inv : Nat → cg_S → cg_S → Prop) (step : ∀ (n : Nat) (a b : cg_S), 5 * n + 5 ≤ L → Inv n a b → OPS (Inv (n + 1)) a b) (fin : ∀ (kc ks n : Nat) (σ : cg_S), kc ≤ 603072 ∧ ks ≤ 7198826 → cg_G cg_WL room_1 p l e s m args below meth c D cy ad Z kc ks 9 2599 [(5, .int (Int32.ofNat (5 * n))), (4, .ref (ad 122)), (3, .ref (ad 121)), (2, .ref (ad 88)), (1, .ref (ad 0)), (0, .ref sb)] [] σ) :
    ∀ (r n : Nat) (a b : cg_S) (o : Nat → Int64) (od : Nat → UInt64), L < 5 * (n + r) + 5 → 5 * n ≤ L → Inv n a b → cg_G cg_WL room_1 p l e s m args below meth c D cy ad Z (123 + 4 * n) (1216 + 24 * n) 9 28 [(5, .int (Int32.ofNat (5 * n))), (4, .ref (ad 122)), (3, .ref (ad 121)), (2, .ref (ad 88)), (1, .ref (ad 0)), (0, .ref sb)] [] (jn a b o od) := by
  intro r
  induction r with
  | zero =>
    intro n a b o od h1 h2 hI
    refine ga_iload hC dL_law_28 0 rfl ?_
    refine ga_aload_n hC dL_law_30 5 rfl rfl ?_
    refine gl_slen hC hX hbl hbA dL_law_31 ?_
    refine ga_iconst (v := 5) hC dL_law_32 (by decide) ?_
    refine ga_isub hC dL_law_33 ?_
    refine ga_icmp_gt (tgt := 2599) hC dL_law_34 (by decide) (fun _ => fin _ _ n _ ⟨by omega, by omega⟩) (fun hc => absurd (lw_gt (n := n) (by omega) (by omega) (by omega)) hc)
  | succ r ih =>
    intro n a b o od h1 h2 hI
    refine ga_iload hC dL_law_28 0 rfl ?_
    refine ga_aload_n hC dL_law_30 5 rfl rfl ?_
    refine gl_slen hC hX hbl hbA dL_law_31 ?_
    refine ga_iconst (v := 5) hC dL_law_32 (by decide) ?_
    refine ga_isub hC dL_law_33 ?_
    refine ga_icmp_gt (tgt := 2599) hC dL_law_34 (by decide) (fun _ => fin _ _ n _ ⟨by omega, by omega⟩) (fun hc => ?_)
    have hL : 5 * n + 5 ≤ L := Nat.le_of_not_lt (fun z => hc (lw_gt (n := n) (by omega) (by omega) z))
    refine law_step hC hK hX hbl hbA hL2 hL ⟨show 123 + 4 * n + 4 ≤ 603072 by omega, show 1216 + 24 * n + 24 ≤ 7198826 by omega⟩ (step n a b hL hI) (fun a1 b1 o1 od1 hN => ?_)
    refine ga_iinc (v := Int32.ofNat (5 * (n + 1))) (lv' := [(5, .int (Int32.ofNat (5 * (n + 1)))), (4, .ref (ad 122)), (3, .ref (ad 121)), (2, .ref (ad 88)), (1, .ref (ad 0)), (0, .ref sb)]) hC dL_law_2593 0 rfl (by rw [show 5 * (n + 1) = 5 * n + 5 by omega, Int32.ofNat_add]; rfl) (by decide) rfl ?_
    refine ga_goto (tgt := 28) hC dL_law_2596 (by decide) ?_
    have h9 := ih (n + 1) a1 b1 o1 od1 (by omega) (by omega) hN
    rw [show 123 + 4 * (n + 1) = 123 + 4 * n + 4 by omega, show 1216 + 24 * (n + 1) = 1216 + 24 * n + 24 by omega] at h9
    exact h9
theorem js_cC {cy : Nat → ClassId} {ad ad2 : Nat → Nat} {σ : cg_S} {k : Nat} (h : ∀ j, j < 88 → ad j = ad2 j) (hk : k < 88) : cg_c cg_WC cy ad σ k = cg_c cg_WC cy ad2 σ k := by
  have h85 : (fun j : Nat => if j < 21 then some (ad (36 + j)) else none) = (fun j => if j < 21 then some (ad2 (36 + j)) else none) := funext fun j => by
    by_cases z : j < 21
    · rw [if_pos z, if_pos z, h _ (by omega)]
    · rw [if_neg z, if_neg z]
  have h86 : (fun j : Nat => if j < 7 then some (ad (60 + j)) else none) = (fun j => if j < 7 then some (ad2 (60 + j)) else none) := funext fun j => by
    by_cases z : j < 7
    · rw [if_pos z, if_pos z, h _ (by omega)]
    · rw [if_neg z, if_neg z]
  have h87 : (fun j : Nat => if j < 4 then some (ad (14 + j)) else none) = (fun j => if j < 4 then some (ad2 (14 + j)) else none) := funext fun j => by
    by_cases z : j < 4
    · rw [if_pos z, if_pos z, h _ (by omega)]
    · rw [if_neg z, if_neg z]
  unfold cg_c
  show cg_wC cy ad _ _ _ k = cg_wC cy ad2 _ _ _ k
  unfold cg_wC
  by_cases c1 : k < 19
  · rw [if_pos c1, if_pos c1]
    have h9 := h (k + 56) ; have h8 := h (k + 64)
    unfold cg_oC
    split <;> first | (rw [h8 (by omega), h9 (by omega)]) | simp only [h 1 (by decide), h 19 (by decide), h 2 (by decide), h 3 (by decide), h 5 (by decide), h 6 (by decide), h 7 (by decide), h 8 (by decide), h 9 (by decide), h 10 (by decide), h 11 (by decide), h 57 (by decide), h 20 (by decide), h 21 (by decide), h 22 (by decide), h 23 (by decide), h 24 (by decide), h 25 (by decide), h 85 (by decide), h 26 (by decide), h 83 (by decide), h 84 (by decide), h 4 (by decide), h 27 (by decide), h 86 (by decide), h 58 (by decide), h 28 (by decide), h 59 (by decide), h 12 (by decide), h 29 (by decide), h 30 (by decide), h 13 (by decide), h 87 (by decide), h 31 (by decide), h 32 (by decide), h 33 (by decide), h 34 (by decide), h 18 (by decide), h 35 (by decide)]
  · rw [if_neg c1, if_neg c1, h85, h86, h87]
theorem js_cM {cy : Nat → ClassId} {ad ad2 : Nat → Nat} {σ : cg_S} {k : Nat} (h : ∀ j, j < 33 → ad j = ad2 j) (hk : k < 33) : cg_c cg_WM cy ad σ k = cg_c cg_WM cy ad2 σ k := by
  unfold cg_c
  show cg_wM cy ad _ _ _ k = cg_wM cy ad2 _ _ _ k
  unfold cg_wM
  by_cases c1 : k = 0
  · rw [if_pos c1, if_pos c1]
    unfold cg_oM
    simp only [h 1 (by decide), h 2 (by decide), h 3 (by decide), h 4 (by decide), h 5 (by decide), h 6 (by decide), h 7 (by decide), h 8 (by decide), h 9 (by decide), h 10 (by decide), h 11 (by decide), h 12 (by decide), h 13 (by decide), h 14 (by decide), h 15 (by decide), h 16 (by decide), h 17 (by decide), h 18 (by decide), h 19 (by decide), h 20 (by decide), h 21 (by decide), h 22 (by decide), h 23 (by decide), h 24 (by decide), h 25 (by decide), h 26 (by decide), h 27 (by decide), h 28 (by decide), h 29 (by decide), h 30 (by decide), h 31 (by decide), h 32 (by decide)]
  · rw [if_neg c1, if_neg c1]
/-- the joint world's addresses -/
def js_ad (q0 q1 q2 q3 : Nat) (u0 u1 : Nat → Nat) : Nat → Nat := fun k => if k < 88 then j_adC q0 u0 k else if k < 121 then j_adM q1 u1 (k - 88) else if k = 121 then q2 else q3
def js_pos : Nat → Nat := fun k => if k < 88 then (j_pC[k]?).getD 0 else if k < 121 then 88 + (j_pM[k - 88]?).getD 0 else k
theorem js_pos_ok : ∀ i, i < 123 → ∀ j, j < 123 → js_pos i = js_pos j → i = j := by decide +kernel
def js_ws (cy : Nat → ClassId) (q0 q1 q2 q3 : Nat) (u0 u1 : Nat → Nat) : va_W := (((cn_w11 cy q0 u0 ++ cn_w12 cy q1 u1) ++ [(q2, .inl (cy 2, (1, .inr (.inl (fun _ => 0)))))]) ++ [(q3, .inl (cy 3, (1, .inr (.inr (.inr (.inl (fun _ => 0)))))))])
theorem js_get {cy : Nat → ClassId} {q0 q1 q2 q3 : Nat} {u0 u1 : Nat → Nat} {k : Nat} (hk : k < 123) : (js_ws cy q0 q1 q2 q3 u0 u1)[js_pos k]? = some (js_ad q0 q1 q2 q3 u0 u1 k, cg_c cg_WL cy (js_ad q0 q1 q2 q3 u0 u1) (jn j_a0 j_b0 (fun _ => 0) (fun _ => 0)) k) := by
  have hlC : (cn_w11 cy q0 u0).length = 88 := by rw [j_listC]; rfl
  have hlM : (cn_w12 cy q1 u1).length = 33 := by rw [j_listM]; rfl
  have hadC : ∀ j, j < 88 → js_ad q0 q1 q2 q3 u0 u1 j = j_adC q0 u0 j := fun j hj => if_pos hj
  by_cases c1 : k < 88
  · have hp := (j_pC_ok k c1).1
    have e1 : js_pos k = (j_pC[k]?).getD 0 := if_pos c1
    rw [e1, js_ws, List.getElem?_append_left (by simp [hlC, hlM]; omega), List.getElem?_append_left (by simp [hlC, hlM]; omega), List.getElem?_append_left (by omega), j_getC c1, hadC k c1, jn_c c1]
    refine congrArg some (Prod.ext rfl ?_)
    exact js_cC (fun j hj => (hadC j hj).symm) c1
  · by_cases c2 : k < 121
    · obtain ⟨j, rfl⟩ : ∃ j, k = 88 + j := ⟨k - 88, by omega⟩
      have hj : j < 33 := by omega
      have hp := (j_pM_ok j hj).1
      have e1 : js_pos (88 + j) = 88 + (j_pM[j]?).getD 0 := by
        unfold js_pos
        rw [if_neg c1, if_pos c2, Nat.add_sub_cancel_left]
      have e2 : ∀ i, i < 33 → js_ad q0 q1 q2 q3 u0 u1 (88 + i) = j_adM q1 u1 i := by
        intro i hi
        unfold js_ad
        rw [if_neg (by omega), if_pos (by omega), Nat.add_sub_cancel_left]
      rw [e1, js_ws, List.getElem?_append_left (by simp [hlC, hlM]; omega), List.getElem?_append_left (by simp [hlC, hlM]; omega), List.getElem?_append_right (by omega), hlC, Nat.add_sub_cancel_left, j_getM hj, e2 j hj, jn_m hj]
      refine congrArg some (Prod.ext rfl ?_)
      exact js_cM (fun i hi => (e2 i hi).symm) hj
    · have : k = 121 ∨ k = 122 := by omega
      rcases this with rfl | rfl
      · rw [show js_pos 121 = 121 from rfl, js_ws, List.getElem?_append_left (by simp [hlC, hlM]), List.getElem?_append_right (by simp [hlC, hlM])]
        simp only [List.length_append, hlC, hlM]
        rfl
      · rw [show js_pos 122 = 122 from rfl, js_ws, List.getElem?_append_right (by simp [hlC, hlM])]
        simp only [List.length_append, hlC, hlM]
        rfl
set_option maxRecDepth 100000 in
set_option maxHeartbeats 4000000 in
theorem whole_all {p : Program} {e : Env} {s : State} {m : MethodId} {below : List Frame} {meth : Method} {c : Code} (l : Launch) (hflags : l.flags = flags0) {b L : Nat} {xs : Nat → Int32} (hL : L ≤ 2560) (C0 : lw_At p s m meth c b L xs) (Inv : Nat → cg_S → cg_S → Prop) (h0 : Inv 0 j_a0 j_b0) (step : ∀ (n : Nat) (a b : cg_S), 5 * n + 5 ≤ L → Inv n a b → OPS (Inv (n + 1)) a b) : W p l e room_1 s m #[Value.ref b] below meth c s.heap [] 0 0 (lw_Z below #[Value.ref b] s) (entryFrame m ([Value.ref b] : List Value).toArray 9) := by
  obtain ⟨hx, hb, hr, hml, hown, hts, hX, hbl, hlocks, hgv⟩ := id C0
  have hs : ∀ w ∈ lk_l, w.before #[Value.ref b] s = true := flat_of_before _ hgv
  obtain ⟨D, cy, hK⟩ := lk_K hts
  have hst : l.stackTraces = false := by unfold Launch.stackTraces; rw [hflags]; decide
  have haux := lk_aux hts
  have hxf := lk_xf hts hs
  have hnc := lk_nc hs
  have hT : ∀ w ∈ cg_T, w.before #[Value.ref b] s = true := fun w hw => hts w (List.mem_filter.mp hw).1
  have hC : cn_X RL cL_law 9 ret p s m #[Value.ref b] meth c D cy (fun q => s.heap.size ≤ q) := ⟨hx, hb, hr, hml, hown, hT, hlocks, hK, fun _ h => h, haux⟩
  have hl := lv_entry ([.ref b]) (n := 9) (Nat.le_of_ble_eq_true rfl)
  rw [lg_entry_eq]
  generalize (lg_sl ([.ref b]) ++ List.replicate (9 - (lg_sl ([.ref b])).length) Slot.unset).toArray = ls at hl ⊢
  have hl : lv_has ls 9 [(0, .ref b)] := hl
  have G : cn_G room_1 p l e s m #[Value.ref b] below meth c D (fun q => s.heap.size ≤ q) (lw_Z below #[Value.ref b] s) 0 0 9 0 [(0, .ref b)] [] [] := by
    refine cn_new (ci := 13) (fs := [.null, .null, .null, .null, .null, .null, .null, .null, .null, .null, .null]) hC uw_X11 tyX11 tyX11_ok (cg_in1 27 (by decide +kernel) (by decide +kernel)) (cg_in1 28 (by decide +kernel) (by decide +kernel)) (cg_in1 1 (by decide +kernel) (by decide +kernel)) rfl (by decide) ⟨Nat.le_of_ble_eq_true rfl, Nat.le_of_ble_eq_true rfl⟩ dL_law_0 (fun q0 => ?_)
    refine cn_dup hC dL_law_3 rfl ?_
    refine cn_init (n := 0) false hC (c_X11 q0) rfl rfl rfl rfl (by decide) (cg_in1 29 (by decide +kernel) (by decide +kernel)) (cg_in1 30 (by decide +kernel) (by decide +kernel)) (cg_in1 1 (by decide +kernel) (by decide +kernel)) (cg_in1 31 (by decide +kernel) (by decide +kernel)) rfl rfl ⟨Nat.le_of_ble_eq_true rfl, Nat.le_of_ble_eq_true rfl⟩ (Nat.le_of_ble_eq_true rfl) ⟨Nat.le_of_ble_eq_true rfl, Nat.le_of_ble_eq_true rfl⟩ (wr := []) rfl dL_law_4 (fun u0 => ?_)
    refine cn_astore_n (lv' := [(1, .ref q0), (0, .ref b)]) hC dL_law_7 rfl (by decide) rfl ?_
    refine cn_new (ci := 14) (fs := [.int 0, .int 0, .int 0, .int 0, .int 0, .int 0, .null, .null, .null, .null, .null, .null, .null, .null, .null, .null, .null, .null, .null, .null, .null, .null, .null, .null, .null, .null, .null, .null, .null, .null, .null, .null, .null, .null, .null, .null, .null, .null, .int 0, .long 0, .long 0, .long 0, .long 0, .long 0]) hC uw_X12 tyX12 tyX12_ok (cg_in6 79 (by decide +kernel) (by decide +kernel)) (cg_in6 80 (by decide +kernel) (by decide +kernel)) (cg_in1 13 (by decide +kernel) (by decide +kernel)) rfl (by decide) ⟨Nat.le_of_ble_eq_true rfl, Nat.le_of_ble_eq_true rfl⟩ dL_law_8 (fun q1 => ?_)
    refine cn_dup hC dL_law_11 rfl ?_
    refine cn_init (n := 0) false hC (c_X12 q1) rfl rfl rfl rfl (by decide) (cg_in6 81 (by decide +kernel) (by decide +kernel)) (cg_in6 82 (by decide +kernel) (by decide +kernel)) (cg_in1 13 (by decide +kernel) (by decide +kernel)) (cg_in6 83 (by decide +kernel) (by decide +kernel)) rfl rfl ⟨Nat.le_of_ble_eq_true rfl, Nat.le_of_ble_eq_true rfl⟩ (Nat.le_of_ble_eq_true rfl) ⟨Nat.le_of_ble_eq_true rfl, Nat.le_of_ble_eq_true rfl⟩ (wr := cn_w11 cy q0 u0) rfl dL_law_12 (fun u1 => ?_)
    refine cn_astore_n (lv' := [(2, .ref q1), (1, .ref q0), (0, .ref b)]) hC dL_law_15 rfl (by decide) rfl ?_
    refine cn_iconst (v := 1) hC dL_law_16 (by decide) ?_
    refine cn_newa (N := 1) (t0 := 2) (cA := cy 2) (ty := .long) (a0 := (1, .inr (.inl (fun _ => 0)))) hC (cg_in1 199 (by decide +kernel) (by decide +kernel)) rfl rfl (fun _ z => nomatch z) (fun _ => rfl) (by decide) (by decide) (by decide) ⟨Nat.le_of_ble_eq_true rfl, Nat.le_of_ble_eq_true rfl⟩ dL_law_17 (fun q2 => ?_)
    refine cn_astore_n (lv' := [(3, .ref q2), (2, .ref q1), (1, .ref q0), (0, .ref b)]) hC dL_law_19 rfl (by decide) rfl ?_
    refine cn_iconst (v := 1) hC dL_law_20 (by decide) ?_
    refine cn_newa (N := 1) (t0 := 3) (cA := cy 3) (ty := .double) (a0 := (1, .inr (.inr (.inr (.inl (fun _ => 0)))))) hC (cg_in1 156 (by decide +kernel) (by decide +kernel)) rfl rfl (fun _ z => nomatch z) (fun _ => rfl) (by decide) (by decide) (by decide) ⟨Nat.le_of_ble_eq_true rfl, Nat.le_of_ble_eq_true rfl⟩ dL_law_21 (fun q3 => ?_)
    refine cn_astore (lv' := [(4, .ref q3), (3, .ref q2), (2, .ref q1), (1, .ref q0), (0, .ref b)]) hC dL_law_23 (by decide) rfl ?_
    refine cn_iconst (v := 0) hC dL_law_25 (by decide) ?_
    refine cn_istore (lv' := [(5, .int 0), (4, .ref q3), (3, .ref q2), (2, .ref q1), (1, .ref q0), (0, .ref b)]) hC dL_law_26 (by decide) rfl ?_
    refine cn_widen (k := 123) (n := 1216) (Nat.le_of_ble_eq_true rfl) (Nat.le_of_ble_eq_true rfl) ?_
    intro H locs ls hl hP hD hS
    have hP : va_P D vwCl (js_ws cy q0 q1 q2 q3 u0 u1) H := hP
    have hD : va_D (fun q => s.heap.size ≤ q) (js_ws cy q0 q1 q2 q3 u0 u1) := hD
    generalize had : js_ad q0 q1 q2 q3 u0 u1 = ad at *
    have hget : ∀ k, k < 123 → (js_ws cy q0 q1 q2 q3 u0 u1)[js_pos k]? = some (ad k, cg_c cg_WL cy ad (jn j_a0 j_b0 (fun _ => 0) (fun _ => 0)) k) := fun k hk => by rw [← had]; exact js_get hk
    have hlo : ∀ k, k < 123 → s.heap.size ≤ ad k := fun k hk => hD.2 _ _ (hget k hk)
    have hinj : cg_inj ad 123 := fun i j hi hj he => js_pos_ok i hi j hj (hD.1 _ _ _ _ (hget i hi) (hget j hj) he)
    have hPW : va_P D vwCl (cg_W cg_WL cy ad (jn j_a0 j_b0 (fun _ => 0) (fun _ => 0))) H := by
      intro k q hq
      obtain ⟨h1, rfl⟩ := cg_W_some hq
      exact hP _ _ (hget k h1)
    have hFA : ∀ q, cg_F ad 123 s.heap.size q → s.heap.size ≤ q := fun q hq => by
      rcases hq with ⟨k, hk, rfl⟩ | hq
      · exact hlo k hk
      · exact hq
    have hSF : va_S (cg_F ad 123 s.heap.size) s.heap H locs := ⟨hS.1, fun q h1 h2 => hS.2.1 q h1 (fun z => h2 (Or.inr z)), fun q hq => Or.inr (hS.2.2 q hq)⟩
    have hCL : cg_X cg_WL RL cL_law 9 ret p s m #[Value.ref b] meth c D cy ad := ⟨hx, hb, hr, hml, hown, hT, hlocks, hK, hinj, haux.1⟩
    have hKL : cl_K l s ad := ⟨hst, hxf, lk_zq hts hs (fun a ha hF => absurd (hFA a hF) (Nat.not_le.mpr ha)), hnc⟩
    have hbA : ¬ cg_F ad 123 s.heap.size b := fun hF => absurd (hFA b hF) (Nat.not_le.mpr hbl)
    have e1 : ad 0 = q0 := by rw [← had]; rfl
    have e2 : ad 88 = q1 := by rw [← had]; rfl
    have e3 : ad 121 = q2 := by rw [← had]; rfl
    have e4 : ad 122 = q3 := by rw [← had]; rfl
    have hfin : ∀ (kc ks n : Nat) (σ : cg_S), kc ≤ 603072 ∧ ks ≤ 7198826 → cg_G cg_WL room_1 p l e s m #[Value.ref b] below meth c D cy ad (lw_Z below #[Value.ref b] s) kc ks 9 2599 [(5, .int (Int32.ofNat (5 * n))), (4, .ref (ad 122)), (3, .ref (ad 121)), (2, .ref (ad 88)), (1, .ref (ad 0)), (0, .ref b)] [] σ := by
      intro kc ks n σ hroom
      refine ga_iconst (v := 1) hCL dL_law_2599 (by decide) ?_
      intro H2 locs2 ls2 g1 g2 g3
      refine W.widen (k := 603072) (n := 7198826) hroom.1 hroom.2 ?_
      refine va_forget (fun q hq => hFA _ (g3.2.2 q hq)) ?_
      exact lw_ret (d0 := s.drawn) (Drawn.sameBut.refl s.drawn lw_cs) hx hb hr hlocks dL_law_2600
    have hloop := law_loop hCL hKL hX hbl hbA hL Inv step hfin (L + 1) 0 j_a0 j_b0 (fun _ => 0) (fun _ => 0) (by omega) (by omega) h0
    have hl2 : lv_has ls 9 [(5, .int (Int32.ofNat (5 * 0))), (4, .ref (ad 122)), (3, .ref (ad 121)), (2, .ref (ad 88)), (1, .ref (ad 0)), (0, .ref b)] := by rw [e1, e2, e3, e4]; exact hl
    exact hloop H locs ls hl2 hPW hSF
  exact G s.heap [] ls hl (fun k q h => by simp at h) ⟨fun i j p q h => by simp at h, fun k q h => by simp at h⟩ va_S.rf
