/-! THE CLAIM OUT OF ONE WALK OF THE LAW'S BODY. Your part is whole_start (and what it stands on); all else here is the same for every law, but numbers. -/
def R_law : String := "ChanceledgerLaw"
def lw_P (b : Addr) (xs : List Int32) (args : Array Value) (s : State) : Prop := args = #[.ref b] ∧ s.IntsAt b xs ∧ xs.length ≤ 260 ∧ (Jvm.Cond.and given_1 narrow_1).before args s = true
/-- what a walk over the start with the record d0 says of its end, said of the start itself -/
theorem lw_closed {s t : State} {o : Outcome} {d0 : Drawn} {L : List Loc} {k n : Nat} (hd0 : s.drawn.sameBut d0 lw_cs) (hv : ∃ v, o = .returned v) (hW : (s.setDrawn d0).WarmedH t.vm) (hs : (s.setDrawn d0).sameButNew ({ t with vm := s.vm } : State) L k n) : State.butDraws s t lw_cs (fun t1 => Framed s o t1 L k n) := by
  have h2 : t.drawn = d0 := congrArg State.drawn hs.1
  refine ⟨⟨hv, hW, State.sameButNew.setDrawn hs s.drawn⟩, ?_, by decide⟩
  rw [h2]
  exact hd0
def lw_Q (_ : Array Value) (s : State) (o : Outcome) (t : State) : Prop := o = .returned (some (.int 1)) ∧ State.butDraws s t lw_cs (fun t1 => Framed s o t1 [] 600312 7291745)
def lw_Z (below : List Frame) (a : Array Value) (s : State) : State → Prop := fun t => ∃ o, t.status = .running ∧ Ended t below o ∧ lw_Q a s o t
/-- the law's own end, with 1 on the stack, nothing written that was there before, its room as the claim has it; d0: the record of draws at this point (at the entry s.drawn: begin with 'refine W.base ?_' and 'have hd0 := Drawn.sameBut.refl s.drawn lw_cs') -/
theorem lw_ret {p : Program} {l : Launch} {e : Env} {s : State} {m : MethodId} {below : List Frame} {meth : Method} {c : Code} {b : Nat} {d0 : Drawn} (hd0 : s.drawn.sameBut d0 lw_cs) (hx : p.tables.exec = Jvm.exec) (hb : c.code = code) (hr : meth.sig.returnType = ret) (hlocks : meth.locks = false) {pc : Nat} {H : Heap} {ls : Array Slot} (hdg : decode code pc = .ok (.ireturn, 1)) : W p l e room_1 (s.setDrawn d0) m #[Value.ref b] below meth c H [] 600312 7291745 (lw_Z below #[Value.ref b] s) (F0 m pc ls [.int 1]) := by
  intro T hT X
  obtain ⟨fs, hret, hrun, hended, hW, hframe⟩ := X.leave (v := some (.int 1)) (hlocks := hlocks) (fun h => by rw [hr] at h; cases h)
  have hmeth' : T.vm.method? m = some meth := X.method'
  refine ⟨T.setFrames fs, ?_, .returned (some (.int 1)), hrun, hended, rfl, lw_closed hd0 ⟨_, rfl⟩ hW hframe⟩
  jvm_step X.here [X.here.top, hx, hb, hdg, hmeth', hr, ret, narrow_b1]
  (try refine ⟨rfl, ?_⟩); (try refine ⟨rfl, ?_⟩)
  first | (intro acts; rw [hret _ acts rfl rfl rfl]) | rw [hret _ _ rfl rfl rfl]
  exact Steps.refl _
/-- what holds at the law's entry: the machine, the code, the tables' words (any of lw_tbl by 'hts w (by decide +kernel)'), the script of L ints xs at the cell b, what the Statement gives of the start (any of its parts by flat_of_before) -/
def lw_At (p : Program) (s : State) (m : MethodId) (meth : Method) (c : Code) (b L : Nat) (xs : Nat → Int32) : Prop :=
  p.tables.exec = Jvm.exec ∧ c.code = code ∧ meth.sig.returnType = ret ∧ c.maxLocals = 12 ∧ s.vm.findClass R_law = some m.cls ∧ (∀ w ∈ lw_tbl, w.before #[Value.ref b] s = true) ∧ va_X b L xs s s.heap ∧ b < s.heap.size ∧ meth.locks = false ∧ (Jvm.Cond.and given_1 narrow_1).before #[Value.ref b] s = true

theorem lk_tbl {w : Cond} (h : w ∈ tables_1) : w ∈ lw_tbl := List.mem_append_right _ h
theorem lk_arr {args : Array Value} {s : State} {ty : FieldType} (h : (Cond.arrayClass ty).before args s = true) (hob : ∀ C, ty ≠ .object C) : ∃ c, ArrOfT s c ty ∧ va_RA s c ty := by
  obtain ⟨c, k, comp, h1, h2, h3⟩ := Cond.arrayClass_spec h
  exact ⟨c, fun n z => ⟨fun k h => (by cases h), k, h2, comp, h3⟩, by cases ty <;> first | exact absurd rfl (hob _) | exact h1⟩
theorem lk_arrO {args : Array Value} {s : State} {C : String} (h : (Cond.arrayOver (.object C)).before args s = true) : ∃ c, ArrOfT s c (.object C) ∧ va_RA s c (.object C) := by
  obtain ⟨comp, c, k, h1, -, h3, h4, h5⟩ := Cond.arrayOver_spec h
  exact ⟨c, fun n z => ⟨fun k h => (by cases h), k, h3, comp, h4⟩, k, comp, h3, h4, h1, h5⟩
theorem lk_arrA {args : Array Value} {s : State} {t : FieldType} (h : (Cond.arrayOver (.array t)).before args s = true) : ∃ c, ArrOfT s c (.array t) ∧ va_RA s c (.array t) := by
  simp only [Cond.before, Cond.holds, Cond.value, beq_iff_eq] at h
  cases hc : s.vm.findClass (FieldType.array t).toString with
  | none => simp [hc] at h
  | some comp =>
    simp only [hc, Option.bind_some, Option.bind_eq_some_iff, Option.map_eq_some_iff] at h
    obtain ⟨c, hi, k, hk, hb⟩ := h
    cases hkind : k.kind with
    | array component ty =>
      rw [hkind] at hb
      simp at hb
      refine ⟨c, fun n z => ⟨fun k h => (by cases h), k, hk, component, ?_⟩, hb.2⟩
      rw [hkind, hb.1]
    | _ => rw [hkind] at hb; simp at hb
set_option maxRecDepth 100000 in
theorem lk_known {args : Array Value} {s : State} (hts : ∀ w ∈ lw_tbl, w.before args s = true) : ∀ (k : Nat) (q : vw_C), vwCl[k]? = some q → ∃ (cC : ClassId) (iS : Nat → Nat), u_Kn s q.1 q.2.1 q.2.2 cC iS := by
  intro k q hq
  match k, hq with
  | 0, hq => cases hq; exact u_known (n := 4) hts (by decide +kernel) (hts _ (List.mem_filter.mp (cg_in4 5 (by decide +kernel) (by decide +kernel))).1)
  | 1, hq => cases hq; exact u_known (n := 6) hts (by decide +kernel) (hts _ (List.mem_filter.mp (cg_in3 227 (by decide +kernel) (by decide +kernel))).1)
  | 2, hq => cases hq; exact u_known (n := 3) hts (fun w hw => (List.mem_filter.mp (uw_X0 w hw)).1) (hts _ (List.mem_filter.mp (cg_in1 160 (by decide +kernel) (by decide +kernel))).1)
  | 3, hq => cases hq; exact u_known (n := 5) hts (fun w hw => (List.mem_filter.mp (uw_X1 w hw)).1) (hts _ (List.mem_filter.mp (cg_in1 166 (by decide +kernel) (by decide +kernel))).1)
  | 4, hq => cases hq; exact u_known (n := 15) hts (fun w hw => (List.mem_filter.mp (uw_X2 w hw)).1) (hts _ (List.mem_filter.mp (cg_in1 38 (by decide +kernel) (by decide +kernel))).1)
  | 5, hq => cases hq; exact u_known (n := 4) hts (fun w hw => (List.mem_filter.mp (uw_X3 w hw)).1) (hts _ (List.mem_filter.mp (cg_in1 140 (by decide +kernel) (by decide +kernel))).1)
  | 6, hq => cases hq; exact u_known (n := 4) hts (fun w hw => (List.mem_filter.mp (uw_X4 w hw)).1) (hts _ (List.mem_filter.mp (cg_in1 216 (by decide +kernel) (by decide +kernel))).1)
  | 7, hq => cases hq; exact u_known (n := 3) hts (fun w hw => (List.mem_filter.mp (uw_X5 w hw)).1) (hts _ (List.mem_filter.mp (cg_in2 88 (by decide +kernel) (by decide +kernel))).1)
  | 8, hq => cases hq; exact u_known (n := 6) hts (fun w hw => (List.mem_filter.mp (uw_X6 w hw)).1) (hts _ (List.mem_filter.mp (cg_in1 235 (by decide +kernel) (by decide +kernel))).1)
  | 9, hq => cases hq; exact u_known (n := 6) hts (fun w hw => (List.mem_filter.mp (uw_X7 w hw)).1) (hts _ (List.mem_filter.mp (cg_in2 41 (by decide +kernel) (by decide +kernel))).1)
  | 10, hq => cases hq; exact u_known (n := 4) hts (fun w hw => (List.mem_filter.mp (uw_X8 w hw)).1) (hts _ (List.mem_filter.mp (cg_in2 69 (by decide +kernel) (by decide +kernel))).1)
  | 11, hq => cases hq; exact u_known (n := 3) hts (fun w hw => (List.mem_filter.mp (uw_X9 w hw)).1) (hts _ (List.mem_filter.mp (cg_in2 105 (by decide +kernel) (by decide +kernel))).1)
  | 12, hq => cases hq; exact u_known (n := 2) hts (fun w hw => (List.mem_filter.mp (uw_X10 w hw)).1) (hts _ (List.mem_filter.mp (cg_in2 1 (by decide +kernel) (by decide +kernel))).1)
  | 13, hq => cases hq; exact u_known (n := 11) hts (fun w hw => (List.mem_filter.mp (uw_X11 w hw)).1) (hts _ (List.mem_filter.mp (cg_in1 30 (by decide +kernel) (by decide +kernel))).1)
  | k + 14, hq => simp [vwCl] at hq
theorem lk_K {args : Array Value} {s : State} (hts : ∀ w ∈ lw_tbl, w.before args s = true) : ∃ (D : va_G) (cy : Nat → ClassId), va_K D vwCl (cg_tys cy) s := by
  have h1 : ∀ k : Nat, ∃ (z : ClassId × (Nat → Nat)), ∀ q : vw_C, vwCl[k]? = some q → u_Kn s q.1 q.2.1 q.2.2 z.1 z.2 := by
    intro k
    cases hk : vwCl[k]? with
    | none => exact ⟨(0, fun _ => 0), fun q h => by cases h⟩
    | some q =>
      obtain ⟨c, i, h⟩ := lk_known hts k q hk
      exact ⟨(c, i), fun q2 h2 => by cases h2; exact h⟩
  obtain ⟨f, hf⟩ := Classical.axiomOfChoice h1
  obtain ⟨c0, a0, b0⟩ := lk_arr (ty := .boolean) (hts _ (List.mem_filter.mp (cg_in1 137 (by decide +kernel) (by decide +kernel))).1) (fun _ z => nomatch z)
  obtain ⟨c1, a1, b1⟩ := lk_arr (ty := .int) (hts _ (List.mem_filter.mp (cg_in1 138 (by decide +kernel) (by decide +kernel))).1) (fun _ z => nomatch z)
  obtain ⟨c2, a2, b2⟩ := lk_arr (ty := .long) (hts _ (List.mem_filter.mp (cg_in1 201 (by decide +kernel) (by decide +kernel))).1) (fun _ z => nomatch z)
  obtain ⟨c3, a3, b3⟩ := lk_arr (ty := .double) (hts _ (List.mem_filter.mp (cg_in1 158 (by decide +kernel) (by decide +kernel))).1) (fun _ z => nomatch z)
  obtain ⟨c4, a4, b4⟩ := lk_arrA (t := .int) (hts _ (lk_tbl (List.mem_append_left _ (List.mem_of_getElem? (i := 44) (by decide +kernel)))))
  obtain ⟨c5, a5, b5⟩ := lk_arrA (t := .long) (hts _ (lk_tbl (List.mem_append_left _ (List.mem_of_getElem? (i := 172) (by decide +kernel)))))
  obtain ⟨c6, a6, b6⟩ := lk_arrO (C := "Chanceledger$Values") (hts _ (lk_tbl (List.mem_append_right _ (List.mem_append_left _ (List.mem_of_getElem? (i := 48) (by decide +kernel))))))
  refine ⟨(fun k => (f k).1, fun k => (f k).2), fun k => if k = 0 then c0 else if k = 1 then c1 else if k = 2 then c2 else if k = 3 then c3 else if k = 4 then c4 else if k = 5 then c5 else c6, fun k q hq => hf k q hq, ?_⟩
  intro k q hq
  match k, hq with
  | 0, hq => cases hq; exact ⟨a0, b0⟩
  | 1, hq => cases hq; exact ⟨a1, b1⟩
  | 2, hq => cases hq; exact ⟨a2, b2⟩
  | 3, hq => cases hq; exact ⟨a3, b3⟩
  | 4, hq => cases hq; exact ⟨a4, b4⟩
  | 5, hq => cases hq; exact ⟨a5, b5⟩
  | 6, hq => cases hq; exact ⟨a6, b6⟩
  | k + 7, hq => simp [cg_tys] at hq
theorem lk_aux {args : Array Value} {s : State} (hts : ∀ w ∈ lw_tbl, w.before args s = true) : cn_aux s := by
  refine ⟨fun q hq => va_tabs (A := args) (u := s) rfl rfl (hts _ (lk_tbl (cg_N_tbl q hq))), ?_, ?_, ?_⟩
  · exact va_AOA.of (hts _ (lk_tbl (List.mem_append_left _ (List.mem_of_getElem? (i := 44) (by decide +kernel)))))
  · exact va_AOA.of (hts _ (lk_tbl (List.mem_append_left _ (List.mem_of_getElem? (i := 172) (by decide +kernel)))))
  · exact va_AO.of (hts _ (lk_tbl (List.mem_append_right _ (List.mem_append_left _ (List.mem_of_getElem? (i := 48) (by decide +kernel))))))
abbrev lk_l : List Cond := flatC (Cond.and given_1 narrow_1)
theorem lk_strs : ∀ q ∈ cg_strs, Cond.exactly (.string "Chanceledger" q.1) "java/lang/String" ∈ lk_l ∧ Cond.stringRef "Chanceledger" q.1 q.2 ∈ tables_1 := by decide +kernel
theorem lk_ex {args : Array Value} {s : State} {t : Term} {C : String} (h : (Cond.exactly t C).before args s = true) : ∃ a, t.eval args s none [] s = some (.ref a) := by
  obtain ⟨a, _, _, _, h2, _⟩ := Cond.exactly_spec h
  exact ⟨a, h2⟩
theorem lk_xf {args : Array Value} {s : State} (hts : ∀ w ∈ lw_tbl, w.before args s = true) (hs : ∀ w ∈ lk_l, w.before args s = true) : cg_xf s := by
  refine ⟨fun q hq => ?_, fun w hw => va_tabs (A := args) (u := s) (cg_isN_on (List.mem_filter.mp hw).2) rfl (hts _ (lk_tbl (List.mem_filter.mp hw).1))⟩
  obtain ⟨h1, h2⟩ := lk_strs q hq
  obtain ⟨a, h3⟩ := lk_ex (hs _ h1)
  exact ⟨a, vk_R.of (hts _ (lk_tbl h2)) h3⟩
theorem lk_ncw : ∀ E ∈ lw_xs, ∀ T ∈ lw_xs, E ≠ T → Cond.not (.castable E T) ∈ lk_l := by decide +kernel
theorem lk_nc {args : Array Value} {s : State} (hs : ∀ w ∈ lk_l, w.before args s = true) : lw_nc s := fun E hE T hT hne => va_Nc.of (hs _ (lk_ncw E hE T hT hne))
theorem lk_zw : Cond.isRef (.static Bundle.tN "UNASSIGNED_STACK" Bundle.steD) ∈ lk_l ∧ Cond.isRef (.static Bundle.tN "SUPPRESSED_SENTINEL" Bundle.listD) ∈ lk_l := by decide +kernel
theorem lk_zt : Cond.laysStatic Bundle.tN "UNASSIGNED_STACK" Bundle.steD ∈ tables_1 ∧ Cond.laysStatic Bundle.tN "SUPPRESSED_SENTINEL" Bundle.listD ∈ tables_1 ∧ Cond.initialized Bundle.tN ∈ tables_1 := by decide +kernel
theorem lk_zq {args : Array Value} {s : State} {A : Nat → Prop} (hts : ∀ w ∈ lw_tbl, w.before args s = true) (hs : ∀ w ∈ lk_l, w.before args s = true) (hA : ∀ a : Nat, a < s.heap.size → ¬ A a) : cg_zq A s s.heap :=
  ⟨vx_Zqof (hts _ (lk_tbl lk_zt.1)) (hts _ (lk_tbl lk_zt.2.2)) (hs _ lk_zw.1) hA, vx_Zqof (hts _ (lk_tbl lk_zt.2.1)) (hts _ (lk_tbl lk_zt.2.2)) (hs _ lk_zw.2) hA⟩
theorem lk_sw : Cond.eq (.static "java/lang/String" "COMPACT_STRINGS" "Z") (.int 1) ∈ lk_l ∧ Cond.isRef (.static "jdk/internal/util/Preconditions" "SIOOBE_FORMATTER" "Ljava/util/function/BiFunction;") ∈ lk_l ∧ Cond.exactly (.string "ChanceledgerLaw" 185) "java/lang/String" ∈ lk_l ∧ Cond.eq (.field (.string "ChanceledgerLaw" 185) "java/lang/String" "coder" "B") (.int 0) ∈ lk_l ∧ Cond.arrayOf (.field (.string "ChanceledgerLaw" 185) "java/lang/String" "value" "[B") .byte ∈ lk_l ∧ Cond.eq (.length (.field (.string "ChanceledgerLaw" 185) "java/lang/String" "value" "[B")) (.int 4) ∈ lk_l ∧ (Cond.eq (.elem (.field (.string "ChanceledgerLaw" 185) "java/lang/String" "value" "[B") (.int 0)) (.int 114) ∈ lk_l ∧ Cond.eq (.elem (.field (.string "ChanceledgerLaw" 185) "java/lang/String" "value" "[B") (.int 1)) (.int 102) ∈ lk_l ∧ Cond.eq (.elem (.field (.string "ChanceledgerLaw" 185) "java/lang/String" "value" "[B") (.int 2)) (.int 115) ∈ lk_l ∧ Cond.eq (.elem (.field (.string "ChanceledgerLaw" 185) "java/lang/String" "value" "[B") (.int 3)) (.int 119) ∈ lk_l) := by decide +kernel
theorem lk_st : Cond.laysStatic "java/lang/String" "COMPACT_STRINGS" "Z" ∈ tables_1 ∧ Cond.initialized "java/lang/String" ∈ tables_1 ∧ Cond.laysStatic "jdk/internal/util/Preconditions" "SIOOBE_FORMATTER" "Ljava/util/function/BiFunction;" ∈ tables_1 ∧ Cond.initialized "jdk/internal/util/Preconditions" ∈ tables_1 ∧ Cond.stringRef "ChanceledgerLaw" 185 "rfsw" ∈ tables_1 := by decide +kernel
theorem lk_sq {args : Array Value} {s : State} {A : Nat → Prop} (hts : ∀ w ∈ lw_tbl, w.before args s = true) (hs : ∀ w ∈ lk_l, w.before args s = true) (hA : ∀ a : Nat, a < s.heap.size → ¬ A a) : lw_sq A s s.heap := by
  obtain ⟨w1, w2, w3, w4, w5, w6, w7, w8, w9, w10⟩ := lk_sw
  obtain ⟨t1, t2, t3, t4, t5⟩ := lk_st
  have e1 : ∀ i : Nat, i < 1 → i = 0 := fun i hi => by omega
  obtain ⟨adK, adV, h1, h2⟩ := vk_Sof (N := 1) (tm := fun _ => .string "ChanceledgerLaw" 185) (len := [4]) (byt := [[114, 102, 115, 119]]) (A := A) (args := args) (s := s) (fun i hi => by rw [e1 i hi]; decide) (fun i hi => hs _ w3) (fun i hi => hs _ w4) (fun i hi => hs _ w5) (fun i hi => by rw [e1 i hi]; exact hs _ w6)
    (fun i hi j hj => by
      rw [e1 i hi] at hj ⊢
      have hj : j < 4 := hj
      match j, hj with
      | 0, _ => exact hs _ w7
      | 1, _ => exact hs _ w8
      | 2, _ => exact hs _ w9
      | 3, _ => exact hs _ w10
      | n + 4, hj => omega) (fun i j hi hj hne => absurd ((e1 i hi).trans (e1 j hj).symm) hne) hA
  refine ⟨adK 0, adV 0, va_Zof (hts _ (lk_tbl t1)) (hts _ (lk_tbl t2)) (va_eqi (hs _ w1)) hA, va_Zqof (hts _ (lk_tbl t3)) (hts _ (lk_tbl t4)) (hs _ w2) hA, vk_R.of (hts _ (lk_tbl t5)) (h2 0 (by decide)), ⟨fun i hi => ?_, fun i j hi hj _ => (e1 i hi).trans (e1 j hj).symm⟩⟩
  have h := h1.1 i hi
  rw [e1 i hi] at h ⊢
  exact h
def j_a0 : cg_S := (fun k => if k = 1 then (fun j => if j = 2 then 1 else if j = 3 then 2 else if j = 4 then 1 else if j = 5 then 1 else 0) else if k = 31 then upd (upd (upd (upd (fun _ => 0) 0 (-1)) 1 (-1)) 2 (-1)) 3 (-1) else fun _ => 0, fun k => if k = 4 then (fun j => if j = 4 then 1 else 0) else fun _ => 0, fun _ _ => 0)
def j_pC : List Nat := [0, 1, 31, 35, 36, 50, 47, 56, 75, 77, 80, 85, 53, 58, 63, 66, 69, 72, 81, 49, 3, 4, 5, 6, 7, 8, 32, 37, 51, 48, 57, 62, 76, 78, 79, 84, 10, 11, 12, 13, 14, 15, 16, 17, 18, 19, 20, 21, 22, 23, 24, 25, 26, 27, 28, 29, 30, 2, 46, 52, 39, 40, 41, 42, 43, 44, 45, 86, 54, 59, 64, 67, 70, 73, 82, 87, 55, 60, 65, 68, 71, 74, 83, 33, 34, 9, 38, 61]
def j_aC (h0 : Nat) (u : Nat → Nat) : List Nat := [h0, u 0, u 1, u 2, u 43, u 5, u 3, u 6, u 7, u 8, u 9, u 10, u 57, u 61, u 64, u 65, u 66, u 67, u 81, u 4, u 12, u 13, u 14, u 15, u 16, u 17, u 40, u 44, u 55, u 54, u 60, u 63, u 78, u 79, u 80, u 82, u 19, u 20, u 21, u 22, u 23, u 24, u 25, u 26, u 27, u 28, u 29, u 30, u 31, u 32, u 33, u 34, u 35, u 36, u 37, u 38, u 39, u 11, u 46, u 56, u 47, u 48, u 49, u 50, u 51, u 52, u 53, u 85, u 58, u 68, u 70, u 72, u 74, u 76, u 83, u 86, u 59, u 69, u 71, u 73, u 75, u 77, u 84, u 41, u 42, u 18, u 45, u 62]
def j_adC (h0 : Nat) (u : Nat → Nat) : Nat → Nat := fun k => ((j_aC h0 u)[k]?).getD 0
theorem j_85 {h0 : Nat} {u : Nat → Nat} : (fun j : Nat => if j < 21 then some (u (11 + (8 + j))) else none) = (fun j => if j < 21 then some (j_adC h0 u (36 + j)) else none) := by
  funext j
  by_cases h : j < 21
  · rw [if_pos h, if_pos h]
    have : ∀ i, i < 21 → u (11 + (8 + i)) = j_adC h0 u (36 + i) := by
      intro i hi
      match i, hi with
      | 0, _ => rfl
      | 1, _ => rfl
      | 2, _ => rfl
      | 3, _ => rfl
      | 4, _ => rfl
      | 5, _ => rfl
      | 6, _ => rfl
      | 7, _ => rfl
      | 8, _ => rfl
      | 9, _ => rfl
      | 10, _ => rfl
      | 11, _ => rfl
      | 12, _ => rfl
      | 13, _ => rfl
      | 14, _ => rfl
      | 15, _ => rfl
      | 16, _ => rfl
      | 17, _ => rfl
      | 18, _ => rfl
      | 19, _ => rfl
      | 20, _ => rfl
      | n + 21, hi => omega
    rw [this j h]
  · rw [if_neg h, if_neg h]
theorem j_86 {h0 : Nat} {u : Nat → Nat} : (fun j : Nat => if j < 7 then some (u (43 + (1 + (3 + j)))) else none) = (fun j => if j < 7 then some (j_adC h0 u (60 + j)) else none) := by
  funext j
  by_cases h : j < 7
  · rw [if_pos h, if_pos h]
    have : ∀ i, i < 7 → u (43 + (1 + (3 + i))) = j_adC h0 u (60 + i) := by
      intro i hi
      match i, hi with
      | 0, _ => rfl
      | 1, _ => rfl
      | 2, _ => rfl
      | 3, _ => rfl
      | 4, _ => rfl
      | 5, _ => rfl
      | 6, _ => rfl
      | n + 7, hi => omega
    rw [this j h]
  · rw [if_neg h, if_neg h]
theorem j_87 {h0 : Nat} {u : Nat → Nat} : (va_up (va_up (va_up (va_up (fun _ => none) 0 (some (j_adC h0 u 14))) 1 (some (j_adC h0 u 15))) 2 (some (j_adC h0 u 16))) 3 (some (j_adC h0 u 17)) : Nat → Option Nat) = (fun j => if j < 4 then some (j_adC h0 u (14 + j)) else none) := by
  funext j
  match j with
  | 0 => rfl
  | 1 => rfl
  | 2 => rfl
  | 3 => rfl
  | n + 4 => simp [va_up]
set_option maxRecDepth 100000 in
set_option maxHeartbeats 4000000 in
theorem j_listC {cy : Nat → ClassId} {h0 : Nat} {u : Nat → Nat} : cn_w11 cy h0 u = ((h0, .inr (13, [.ref (u 0), .ref (u 4), .ref (u 1), .ref (u 2), .ref (u 5), .ref (u 3), .ref (u 6), .ref (u 7), .ref (u 8), .ref (u 9), .ref (u 10)])) :: (u 0, .inr (4, [.int 0, .int 0, .int 1, .int 2, .int 1, .int 1, .int 0, .ref (u 11), .ref (u 12), .ref (u 13), .ref (u 14), .ref (u 15), .ref (u 16), .ref (u 17), .ref (u 18)])) :: (u 11, .inl (cy 0, 7, .inl (fun _ => 0))) :: (u 12, .inl (cy 1, 7, .inl (fun _ => 0))) :: (u 13, .inl (cy 1, 7, .inl (fun _ => 0))) :: (u 14, .inl (cy 1, 21, .inl (fun _ => 0))) :: (u 15, .inl (cy 1, 21, .inl (fun _ => 0))) :: (u 16, .inl (cy 1, 21, .inl (fun _ => 0))) :: (u 17, .inl (cy 1, 21, .inl (fun _ => 0))) :: (u 18, .inl (cy 4, 21, .inr (.inr (.inr (.inr (fun i => if i < 21 then some ((u (11 + (8 + i)))) else none)))))) :: (u 19, .inl (cy 1, (7, .inl (fun _ => 0)))) :: (u 20, .inl (cy 1, (7, .inl (fun _ => 0)))) :: (u 21, .inl (cy 1, (7, .inl (fun _ => 0)))) :: (u 22, .inl (cy 1, (7, .inl (fun _ => 0)))) :: (u 23, .inl (cy 1, (7, .inl (fun _ => 0)))) :: (u 24, .inl (cy 1, (7, .inl (fun _ => 0)))) :: (u 25, .inl (cy 1, (7, .inl (fun _ => 0)))) :: (u 26, .inl (cy 1, (7, .inl (fun _ => 0)))) :: (u 27, .inl (cy 1, (7, .inl (fun _ => 0)))) :: (u 28, .inl (cy 1, (7, .inl (fun _ => 0)))) :: (u 29, .inl (cy 1, (7, .inl (fun _ => 0)))) :: (u 30, .inl (cy 1, (7, .inl (fun _ => 0)))) :: (u 31, .inl (cy 1, (7, .inl (fun _ => 0)))) :: (u 32, .inl (cy 1, (7, .inl (fun _ => 0)))) :: (u 33, .inl (cy 1, (7, .inl (fun _ => 0)))) :: (u 34, .inl (cy 1, (7, .inl (fun _ => 0)))) :: (u 35, .inl (cy 1, (7, .inl (fun _ => 0)))) :: (u 36, .inl (cy 1, (7, .inl (fun _ => 0)))) :: (u 37, .inl (cy 1, (7, .inl (fun _ => 0)))) :: (u 38, .inl (cy 1, (7, .inl (fun _ => 0)))) :: (u 39, .inl (cy 1, (7, .inl (fun _ => 0)))) :: (u 1, .inr (5, [.ref (u 0), .ref (u 40), .ref (u 41), .ref (u 42)])) :: (u 40, .inl (cy 1, 7, .inl (fun _ => 0))) :: (u 41, .inl (cy 3, 7, .inr (.inr (.inr (.inl (fun _ => 0)))))) :: (u 42, .inl (cy 3, 7, .inr (.inr (.inr (.inl (fun _ => 0)))))) :: (u 2, .inr (2, [.ref (u 0), .ref (u 43), .int 0])) :: (u 43, .inr (3, [.int 0, .ref (u 44), .ref (u 45), .ref (u 46), .long 1])) :: (u 44, .inl (cy 1, 7, .inl (fun _ => 0))) :: (u 45, .inl (cy 5, 7, .inr (.inr (.inr (.inr (fun i => if i < 7 then some ((u (43 + (1 + (3 + i))))) else none)))))) :: (u 47, .inl (cy 2, (8, .inr (.inl (fun _ => 0))))) :: (u 48, .inl (cy 2, (8, .inr (.inl (fun _ => 0))))) :: (u 49, .inl (cy 2, (8, .inr (.inl (fun _ => 0))))) :: (u 50, .inl (cy 2, (8, .inr (.inl (fun _ => 0))))) :: (u 51, .inl (cy 2, (8, .inr (.inl (fun _ => 0))))) :: (u 52, .inl (cy 2, (8, .inr (.inl (fun _ => 0))))) :: (u 53, .inl (cy 2, (8, .inr (.inl (fun _ => 0))))) :: (u 46, .inl (cy 2, 7, .inr (.inl (fun _ => 0)))) :: (u 3, .inr (6, [.ref (u 0), .ref (u 1), .ref (u 2), .ref (u 54)])) :: (u 54, .inl (cy 1, 7, .inl (fun _ => 0))) :: (u 4, .inl (cy 1, 7, .inl (fun _ => 0))) :: (u 5, .inr (8, [.ref (u 0), .ref (u 1), .ref (u 2), .ref (u 55), .ref (u 56), .ref (u 57)])) :: (u 55, .inl (cy 1, 7, .inl (fun _ => 0))) :: (u 56, .inl (cy 2, 7, .inr (.inl (fun _ => 0)))) :: (u 57, .inr (12, [.ref (u 58), .ref (u 59)])) :: (u 58, .inl (cy 2, 7, .inr (.inl (fun _ => 0)))) :: (u 59, .inl (cy 2, 7, .inr (.inl (fun _ => 0)))) :: (u 6, .inr (9, [.ref (u 0), .ref (u 2), .ref (u 60), .ref (u 61), .ref (u 62), .ref (u 63)])) :: (u 60, .inl (cy 1, 7, .inl (fun _ => 0))) :: (u 61, .inr (12, [.ref (u 68), .ref (u 69)])) :: (u 68, .inl (cy 2, 7, .inr (.inl (fun _ => 0)))) :: (u 69, .inl (cy 2, 7, .inr (.inl (fun _ => 0)))) :: (u 62, .inl (cy 6, 4, .inr (.inr (.inr (.inr (va_up (va_up (va_up (va_up (fun _ => none) 0 (some (u 64))) 1 (some (u 65))) 2 (some (u 66))) 3 (some (u 67)))))))) :: (u 63, .inl (cy 1, 4, .inl (upd (upd (upd (upd (fun _ => 0) 0 (-1)) 1 (-1)) 2 (-1)) 3 (-1)))) :: (u 64, .inr (12, [.ref (u 70), .ref (u 71)])) :: (u 70, .inl (cy 2, 7, .inr (.inl (fun _ => 0)))) :: (u 71, .inl (cy 2, 7, .inr (.inl (fun _ => 0)))) :: (u 65, .inr (12, [.ref (u 72), .ref (u 73)])) :: (u 72, .inl (cy 2, 7, .inr (.inl (fun _ => 0)))) :: (u 73, .inl (cy 2, 7, .inr (.inl (fun _ => 0)))) :: (u 66, .inr (12, [.ref (u 74), .ref (u 75)])) :: (u 74, .inl (cy 2, 7, .inr (.inl (fun _ => 0)))) :: (u 75, .inl (cy 2, 7, .inr (.inl (fun _ => 0)))) :: (u 67, .inr (12, [.ref (u 76), .ref (u 77)])) :: (u 76, .inl (cy 2, 7, .inr (.inl (fun _ => 0)))) :: (u 77, .inl (cy 2, 7, .inr (.inl (fun _ => 0)))) :: (u 7, .inr (10, [.ref (u 0), .ref (u 2), .ref (u 3), .ref (u 78)])) :: (u 78, .inl (cy 1, 7, .inl (fun _ => 0))) :: (u 8, .inr (7, [.ref (u 0), .ref (u 79), .ref (u 80)])) :: (u 79, .inl (cy 1, 7, .inl (fun _ => 0))) :: (u 80, .inl (cy 1, 7, .inl (fun _ => 0))) :: (u 9, .inr (11, [.ref (u 0), .ref (u 81), .ref (u 82)])) :: (u 81, .inr (12, [.ref (u 83), .ref (u 84)])) :: (u 83, .inl (cy 2, 7, .inr (.inl (fun _ => 0)))) :: (u 84, .inl (cy 2, 7, .inr (.inl (fun _ => 0)))) :: (u 82, .inl (cy 1, 7, .inl (fun _ => 0))) :: (u 10, .inr (12, [.ref (u 85), .ref (u 86)])) :: (u 85, .inl (cy 2, 7, .inr (.inl (fun _ => 0)))) :: (u 86, .inl (cy 2, 7, .inr (.inl (fun _ => 0)))) :: [] : va_W) := rfl
theorem j_cC0 {cy : Nat → ClassId} {h0 : Nat} {u : Nat → Nat} : (.inr (13, [.ref (u 0), .ref (u 4), .ref (u 1), .ref (u 2), .ref (u 5), .ref (u 3), .ref (u 6), .ref (u 7), .ref (u 8), .ref (u 9), .ref (u 10)]) : va_E) = .inr (13, [.ref (j_adC h0 u 1), .ref (j_adC h0 u 19), .ref (j_adC h0 u 2), .ref (j_adC h0 u 3), .ref (j_adC h0 u 5), .ref (j_adC h0 u 6), .ref (j_adC h0 u 7), .ref (j_adC h0 u 8), .ref (j_adC h0 u 9), .ref (j_adC h0 u 10), .ref (j_adC h0 u 11)]) := rfl
theorem j_gC0 {cy : Nat → ClassId} {h0 : Nat} {u : Nat → Nat} : (cn_w11 cy h0 u)[0]? = some (j_adC h0 u 0, cg_c cg_WC cy (j_adC h0 u) j_a0 0) := by
  rw [j_listC]
  exact congrArg some (Prod.ext (show h0 = j_adC h0 u 0 from rfl) (j_cC0 (cy := cy) (h0 := h0) (u := u)))
theorem j_cC1 {cy : Nat → ClassId} {h0 : Nat} {u : Nat → Nat} : (.inr (4, [.int 0, .int 0, .int 1, .int 2, .int 1, .int 1, .int 0, .ref (u 11), .ref (u 12), .ref (u 13), .ref (u 14), .ref (u 15), .ref (u 16), .ref (u 17), .ref (u 18)]) : va_E) = .inr (4, [.int (j_a0.1 1 0), .int (j_a0.1 1 1), .int (j_a0.1 1 2), .int (j_a0.1 1 3), .int (j_a0.1 1 4), .int (j_a0.1 1 5), .int (j_a0.1 1 6), .ref (j_adC h0 u 57), .ref (j_adC h0 u 20), .ref (j_adC h0 u 21), .ref (j_adC h0 u 22), .ref (j_adC h0 u 23), .ref (j_adC h0 u 24), .ref (j_adC h0 u 25), .ref (j_adC h0 u 85)]) := rfl
theorem j_gC1 {cy : Nat → ClassId} {h0 : Nat} {u : Nat → Nat} : (cn_w11 cy h0 u)[1]? = some (j_adC h0 u 1, cg_c cg_WC cy (j_adC h0 u) j_a0 1) := by
  rw [j_listC]
  exact congrArg some (Prod.ext (show u 0 = j_adC h0 u 1 from rfl) (j_cC1 (cy := cy) (h0 := h0) (u := u)))
theorem j_cC2 {cy : Nat → ClassId} {h0 : Nat} {u : Nat → Nat} : (.inr (5, [.ref (u 0), .ref (u 40), .ref (u 41), .ref (u 42)]) : va_E) = .inr (5, [.ref (j_adC h0 u 1), .ref (j_adC h0 u 26), .ref (j_adC h0 u 83), .ref (j_adC h0 u 84)]) := rfl
theorem j_gC2 {cy : Nat → ClassId} {h0 : Nat} {u : Nat → Nat} : (cn_w11 cy h0 u)[31]? = some (j_adC h0 u 2, cg_c cg_WC cy (j_adC h0 u) j_a0 2) := by
  rw [j_listC]
  exact congrArg some (Prod.ext (show u 1 = j_adC h0 u 2 from rfl) (j_cC2 (cy := cy) (h0 := h0) (u := u)))
theorem j_cC3 {cy : Nat → ClassId} {h0 : Nat} {u : Nat → Nat} : (.inr (2, [.ref (u 0), .ref (u 43), .int 0]) : va_E) = .inr (2, [.ref (j_adC h0 u 1), .ref (j_adC h0 u 4), .int (j_a0.1 3 2)]) := rfl
theorem j_gC3 {cy : Nat → ClassId} {h0 : Nat} {u : Nat → Nat} : (cn_w11 cy h0 u)[35]? = some (j_adC h0 u 3, cg_c cg_WC cy (j_adC h0 u) j_a0 3) := by
  rw [j_listC]
  exact congrArg some (Prod.ext (show u 2 = j_adC h0 u 3 from rfl) (j_cC3 (cy := cy) (h0 := h0) (u := u)))
theorem j_cC4 {cy : Nat → ClassId} {h0 : Nat} {u : Nat → Nat} : (.inr (3, [.int 0, .ref (u 44), .ref (u 45), .ref (u 46), .long 1]) : va_E) = .inr (3, [.int (j_a0.1 4 0), .ref (j_adC h0 u 27), .ref (j_adC h0 u 86), .ref (j_adC h0 u 58), .long (j_a0.2.1 4 4)]) := rfl
theorem j_gC4 {cy : Nat → ClassId} {h0 : Nat} {u : Nat → Nat} : (cn_w11 cy h0 u)[36]? = some (j_adC h0 u 4, cg_c cg_WC cy (j_adC h0 u) j_a0 4) := by
  rw [j_listC]
  exact congrArg some (Prod.ext (show u 43 = j_adC h0 u 4 from rfl) (j_cC4 (cy := cy) (h0 := h0) (u := u)))
theorem j_cC5 {cy : Nat → ClassId} {h0 : Nat} {u : Nat → Nat} : (.inr (8, [.ref (u 0), .ref (u 1), .ref (u 2), .ref (u 55), .ref (u 56), .ref (u 57)]) : va_E) = .inr (8, [.ref (j_adC h0 u 1), .ref (j_adC h0 u 2), .ref (j_adC h0 u 3), .ref (j_adC h0 u 28), .ref (j_adC h0 u 59), .ref (j_adC h0 u 12)]) := rfl
theorem j_gC5 {cy : Nat → ClassId} {h0 : Nat} {u : Nat → Nat} : (cn_w11 cy h0 u)[50]? = some (j_adC h0 u 5, cg_c cg_WC cy (j_adC h0 u) j_a0 5) := by
  rw [j_listC]
  exact congrArg some (Prod.ext (show u 5 = j_adC h0 u 5 from rfl) (j_cC5 (cy := cy) (h0 := h0) (u := u)))
theorem j_cC6 {cy : Nat → ClassId} {h0 : Nat} {u : Nat → Nat} : (.inr (6, [.ref (u 0), .ref (u 1), .ref (u 2), .ref (u 54)]) : va_E) = .inr (6, [.ref (j_adC h0 u 1), .ref (j_adC h0 u 2), .ref (j_adC h0 u 3), .ref (j_adC h0 u 29)]) := rfl
theorem j_gC6 {cy : Nat → ClassId} {h0 : Nat} {u : Nat → Nat} : (cn_w11 cy h0 u)[47]? = some (j_adC h0 u 6, cg_c cg_WC cy (j_adC h0 u) j_a0 6) := by
  rw [j_listC]
  exact congrArg some (Prod.ext (show u 3 = j_adC h0 u 6 from rfl) (j_cC6 (cy := cy) (h0 := h0) (u := u)))
theorem j_cC7 {cy : Nat → ClassId} {h0 : Nat} {u : Nat → Nat} : (.inr (9, [.ref (u 0), .ref (u 2), .ref (u 60), .ref (u 61), .ref (u 62), .ref (u 63)]) : va_E) = .inr (9, [.ref (j_adC h0 u 1), .ref (j_adC h0 u 3), .ref (j_adC h0 u 30), .ref (j_adC h0 u 13), .ref (j_adC h0 u 87), .ref (j_adC h0 u 31)]) := rfl
theorem j_gC7 {cy : Nat → ClassId} {h0 : Nat} {u : Nat → Nat} : (cn_w11 cy h0 u)[56]? = some (j_adC h0 u 7, cg_c cg_WC cy (j_adC h0 u) j_a0 7) := by
  rw [j_listC]
  exact congrArg some (Prod.ext (show u 6 = j_adC h0 u 7 from rfl) (j_cC7 (cy := cy) (h0 := h0) (u := u)))
theorem j_cC8 {cy : Nat → ClassId} {h0 : Nat} {u : Nat → Nat} : (.inr (10, [.ref (u 0), .ref (u 2), .ref (u 3), .ref (u 78)]) : va_E) = .inr (10, [.ref (j_adC h0 u 1), .ref (j_adC h0 u 3), .ref (j_adC h0 u 6), .ref (j_adC h0 u 32)]) := rfl
theorem j_gC8 {cy : Nat → ClassId} {h0 : Nat} {u : Nat → Nat} : (cn_w11 cy h0 u)[75]? = some (j_adC h0 u 8, cg_c cg_WC cy (j_adC h0 u) j_a0 8) := by
  rw [j_listC]
  exact congrArg some (Prod.ext (show u 7 = j_adC h0 u 8 from rfl) (j_cC8 (cy := cy) (h0 := h0) (u := u)))
theorem j_cC9 {cy : Nat → ClassId} {h0 : Nat} {u : Nat → Nat} : (.inr (7, [.ref (u 0), .ref (u 79), .ref (u 80)]) : va_E) = .inr (7, [.ref (j_adC h0 u 1), .ref (j_adC h0 u 33), .ref (j_adC h0 u 34)]) := rfl
theorem j_gC9 {cy : Nat → ClassId} {h0 : Nat} {u : Nat → Nat} : (cn_w11 cy h0 u)[77]? = some (j_adC h0 u 9, cg_c cg_WC cy (j_adC h0 u) j_a0 9) := by
  rw [j_listC]
  exact congrArg some (Prod.ext (show u 8 = j_adC h0 u 9 from rfl) (j_cC9 (cy := cy) (h0 := h0) (u := u)))
theorem j_cC10 {cy : Nat → ClassId} {h0 : Nat} {u : Nat → Nat} : (.inr (11, [.ref (u 0), .ref (u 81), .ref (u 82)]) : va_E) = .inr (11, [.ref (j_adC h0 u 1), .ref (j_adC h0 u 18), .ref (j_adC h0 u 35)]) := rfl
theorem j_gC10 {cy : Nat → ClassId} {h0 : Nat} {u : Nat → Nat} : (cn_w11 cy h0 u)[80]? = some (j_adC h0 u 10, cg_c cg_WC cy (j_adC h0 u) j_a0 10) := by
  rw [j_listC]
  exact congrArg some (Prod.ext (show u 9 = j_adC h0 u 10 from rfl) (j_cC10 (cy := cy) (h0 := h0) (u := u)))
theorem j_cC11 {cy : Nat → ClassId} {h0 : Nat} {u : Nat → Nat} : (.inr (12, [.ref (u 85), .ref (u 86)]) : va_E) = .inr (12, [.ref (j_adC h0 u 67), .ref (j_adC h0 u 75)]) := rfl
theorem j_gC11 {cy : Nat → ClassId} {h0 : Nat} {u : Nat → Nat} : (cn_w11 cy h0 u)[85]? = some (j_adC h0 u 11, cg_c cg_WC cy (j_adC h0 u) j_a0 11) := by
  rw [j_listC]
  exact congrArg some (Prod.ext (show u 10 = j_adC h0 u 11 from rfl) (j_cC11 (cy := cy) (h0 := h0) (u := u)))
theorem j_cC12 {cy : Nat → ClassId} {h0 : Nat} {u : Nat → Nat} : (.inr (12, [.ref (u 58), .ref (u 59)]) : va_E) = .inr (12, [.ref (j_adC h0 u 68), .ref (j_adC h0 u 76)]) := rfl
theorem j_gC12 {cy : Nat → ClassId} {h0 : Nat} {u : Nat → Nat} : (cn_w11 cy h0 u)[53]? = some (j_adC h0 u 12, cg_c cg_WC cy (j_adC h0 u) j_a0 12) := by
  rw [j_listC]
  exact congrArg some (Prod.ext (show u 57 = j_adC h0 u 12 from rfl) (j_cC12 (cy := cy) (h0 := h0) (u := u)))
theorem j_cC13 {cy : Nat → ClassId} {h0 : Nat} {u : Nat → Nat} : (.inr (12, [.ref (u 68), .ref (u 69)]) : va_E) = .inr (12, [.ref (j_adC h0 u 69), .ref (j_adC h0 u 77)]) := rfl
theorem j_gC13 {cy : Nat → ClassId} {h0 : Nat} {u : Nat → Nat} : (cn_w11 cy h0 u)[58]? = some (j_adC h0 u 13, cg_c cg_WC cy (j_adC h0 u) j_a0 13) := by
  rw [j_listC]
  exact congrArg some (Prod.ext (show u 61 = j_adC h0 u 13 from rfl) (j_cC13 (cy := cy) (h0 := h0) (u := u)))
theorem j_cC14 {cy : Nat → ClassId} {h0 : Nat} {u : Nat → Nat} : (.inr (12, [.ref (u 70), .ref (u 71)]) : va_E) = .inr (12, [.ref (j_adC h0 u 70), .ref (j_adC h0 u 78)]) := rfl
theorem j_gC14 {cy : Nat → ClassId} {h0 : Nat} {u : Nat → Nat} : (cn_w11 cy h0 u)[63]? = some (j_adC h0 u 14, cg_c cg_WC cy (j_adC h0 u) j_a0 14) := by
  rw [j_listC]
  exact congrArg some (Prod.ext (show u 64 = j_adC h0 u 14 from rfl) (j_cC14 (cy := cy) (h0 := h0) (u := u)))
theorem j_cC15 {cy : Nat → ClassId} {h0 : Nat} {u : Nat → Nat} : (.inr (12, [.ref (u 72), .ref (u 73)]) : va_E) = .inr (12, [.ref (j_adC h0 u 71), .ref (j_adC h0 u 79)]) := rfl
theorem j_gC15 {cy : Nat → ClassId} {h0 : Nat} {u : Nat → Nat} : (cn_w11 cy h0 u)[66]? = some (j_adC h0 u 15, cg_c cg_WC cy (j_adC h0 u) j_a0 15) := by
  rw [j_listC]
  exact congrArg some (Prod.ext (show u 65 = j_adC h0 u 15 from rfl) (j_cC15 (cy := cy) (h0 := h0) (u := u)))
theorem j_cC16 {cy : Nat → ClassId} {h0 : Nat} {u : Nat → Nat} : (.inr (12, [.ref (u 74), .ref (u 75)]) : va_E) = .inr (12, [.ref (j_adC h0 u 72), .ref (j_adC h0 u 80)]) := rfl
theorem j_gC16 {cy : Nat → ClassId} {h0 : Nat} {u : Nat → Nat} : (cn_w11 cy h0 u)[69]? = some (j_adC h0 u 16, cg_c cg_WC cy (j_adC h0 u) j_a0 16) := by
  rw [j_listC]
  exact congrArg some (Prod.ext (show u 66 = j_adC h0 u 16 from rfl) (j_cC16 (cy := cy) (h0 := h0) (u := u)))
theorem j_cC17 {cy : Nat → ClassId} {h0 : Nat} {u : Nat → Nat} : (.inr (12, [.ref (u 76), .ref (u 77)]) : va_E) = .inr (12, [.ref (j_adC h0 u 73), .ref (j_adC h0 u 81)]) := rfl
theorem j_gC17 {cy : Nat → ClassId} {h0 : Nat} {u : Nat → Nat} : (cn_w11 cy h0 u)[72]? = some (j_adC h0 u 17, cg_c cg_WC cy (j_adC h0 u) j_a0 17) := by
  rw [j_listC]
  exact congrArg some (Prod.ext (show u 67 = j_adC h0 u 17 from rfl) (j_cC17 (cy := cy) (h0 := h0) (u := u)))
theorem j_cC18 {cy : Nat → ClassId} {h0 : Nat} {u : Nat → Nat} : (.inr (12, [.ref (u 83), .ref (u 84)]) : va_E) = .inr (12, [.ref (j_adC h0 u 74), .ref (j_adC h0 u 82)]) := rfl
theorem j_gC18 {cy : Nat → ClassId} {h0 : Nat} {u : Nat → Nat} : (cn_w11 cy h0 u)[81]? = some (j_adC h0 u 18, cg_c cg_WC cy (j_adC h0 u) j_a0 18) := by
  rw [j_listC]
  exact congrArg some (Prod.ext (show u 81 = j_adC h0 u 18 from rfl) (j_cC18 (cy := cy) (h0 := h0) (u := u)))
theorem j_cC19 {cy : Nat → ClassId} {h0 : Nat} {u : Nat → Nat} : (.inl (cy 1, 7, .inl (fun _ => 0)) : va_E) = .inl (cy 1, 7, .inl (j_a0.1 19)) := rfl
theorem j_gC19 {cy : Nat → ClassId} {h0 : Nat} {u : Nat → Nat} : (cn_w11 cy h0 u)[49]? = some (j_adC h0 u 19, cg_c cg_WC cy (j_adC h0 u) j_a0 19) := by
  rw [j_listC]
  exact congrArg some (Prod.ext (show u 4 = j_adC h0 u 19 from rfl) (j_cC19 (cy := cy) (h0 := h0) (u := u)))
theorem j_cC20 {cy : Nat → ClassId} {h0 : Nat} {u : Nat → Nat} : (.inl (cy 1, 7, .inl (fun _ => 0)) : va_E) = .inl (cy 1, 7, .inl (j_a0.1 20)) := rfl
theorem j_gC20 {cy : Nat → ClassId} {h0 : Nat} {u : Nat → Nat} : (cn_w11 cy h0 u)[3]? = some (j_adC h0 u 20, cg_c cg_WC cy (j_adC h0 u) j_a0 20) := by
  rw [j_listC]
  exact congrArg some (Prod.ext (show u 12 = j_adC h0 u 20 from rfl) (j_cC20 (cy := cy) (h0 := h0) (u := u)))
theorem j_cC21 {cy : Nat → ClassId} {h0 : Nat} {u : Nat → Nat} : (.inl (cy 1, 7, .inl (fun _ => 0)) : va_E) = .inl (cy 1, 7, .inl (j_a0.1 21)) := rfl
theorem j_gC21 {cy : Nat → ClassId} {h0 : Nat} {u : Nat → Nat} : (cn_w11 cy h0 u)[4]? = some (j_adC h0 u 21, cg_c cg_WC cy (j_adC h0 u) j_a0 21) := by
  rw [j_listC]
  exact congrArg some (Prod.ext (show u 13 = j_adC h0 u 21 from rfl) (j_cC21 (cy := cy) (h0 := h0) (u := u)))
theorem j_cC22 {cy : Nat → ClassId} {h0 : Nat} {u : Nat → Nat} : (.inl (cy 1, 21, .inl (fun _ => 0)) : va_E) = .inl (cy 1, 21, .inl (j_a0.1 22)) := rfl
theorem j_gC22 {cy : Nat → ClassId} {h0 : Nat} {u : Nat → Nat} : (cn_w11 cy h0 u)[5]? = some (j_adC h0 u 22, cg_c cg_WC cy (j_adC h0 u) j_a0 22) := by
  rw [j_listC]
  exact congrArg some (Prod.ext (show u 14 = j_adC h0 u 22 from rfl) (j_cC22 (cy := cy) (h0 := h0) (u := u)))
theorem j_cC23 {cy : Nat → ClassId} {h0 : Nat} {u : Nat → Nat} : (.inl (cy 1, 21, .inl (fun _ => 0)) : va_E) = .inl (cy 1, 21, .inl (j_a0.1 23)) := rfl
theorem j_gC23 {cy : Nat → ClassId} {h0 : Nat} {u : Nat → Nat} : (cn_w11 cy h0 u)[6]? = some (j_adC h0 u 23, cg_c cg_WC cy (j_adC h0 u) j_a0 23) := by
  rw [j_listC]
  exact congrArg some (Prod.ext (show u 15 = j_adC h0 u 23 from rfl) (j_cC23 (cy := cy) (h0 := h0) (u := u)))
theorem j_cC24 {cy : Nat → ClassId} {h0 : Nat} {u : Nat → Nat} : (.inl (cy 1, 21, .inl (fun _ => 0)) : va_E) = .inl (cy 1, 21, .inl (j_a0.1 24)) := rfl
theorem j_gC24 {cy : Nat → ClassId} {h0 : Nat} {u : Nat → Nat} : (cn_w11 cy h0 u)[7]? = some (j_adC h0 u 24, cg_c cg_WC cy (j_adC h0 u) j_a0 24) := by
  rw [j_listC]
  exact congrArg some (Prod.ext (show u 16 = j_adC h0 u 24 from rfl) (j_cC24 (cy := cy) (h0 := h0) (u := u)))
theorem j_cC25 {cy : Nat → ClassId} {h0 : Nat} {u : Nat → Nat} : (.inl (cy 1, 21, .inl (fun _ => 0)) : va_E) = .inl (cy 1, 21, .inl (j_a0.1 25)) := rfl
theorem j_gC25 {cy : Nat → ClassId} {h0 : Nat} {u : Nat → Nat} : (cn_w11 cy h0 u)[8]? = some (j_adC h0 u 25, cg_c cg_WC cy (j_adC h0 u) j_a0 25) := by
  rw [j_listC]
  exact congrArg some (Prod.ext (show u 17 = j_adC h0 u 25 from rfl) (j_cC25 (cy := cy) (h0 := h0) (u := u)))
theorem j_cC26 {cy : Nat → ClassId} {h0 : Nat} {u : Nat → Nat} : (.inl (cy 1, 7, .inl (fun _ => 0)) : va_E) = .inl (cy 1, 7, .inl (j_a0.1 26)) := rfl
theorem j_gC26 {cy : Nat → ClassId} {h0 : Nat} {u : Nat → Nat} : (cn_w11 cy h0 u)[32]? = some (j_adC h0 u 26, cg_c cg_WC cy (j_adC h0 u) j_a0 26) := by
  rw [j_listC]
  exact congrArg some (Prod.ext (show u 40 = j_adC h0 u 26 from rfl) (j_cC26 (cy := cy) (h0 := h0) (u := u)))
theorem j_cC27 {cy : Nat → ClassId} {h0 : Nat} {u : Nat → Nat} : (.inl (cy 1, 7, .inl (fun _ => 0)) : va_E) = .inl (cy 1, 7, .inl (j_a0.1 27)) := rfl
theorem j_gC27 {cy : Nat → ClassId} {h0 : Nat} {u : Nat → Nat} : (cn_w11 cy h0 u)[37]? = some (j_adC h0 u 27, cg_c cg_WC cy (j_adC h0 u) j_a0 27) := by
  rw [j_listC]
  exact congrArg some (Prod.ext (show u 44 = j_adC h0 u 27 from rfl) (j_cC27 (cy := cy) (h0 := h0) (u := u)))
theorem j_cC28 {cy : Nat → ClassId} {h0 : Nat} {u : Nat → Nat} : (.inl (cy 1, 7, .inl (fun _ => 0)) : va_E) = .inl (cy 1, 7, .inl (j_a0.1 28)) := rfl
theorem j_gC28 {cy : Nat → ClassId} {h0 : Nat} {u : Nat → Nat} : (cn_w11 cy h0 u)[51]? = some (j_adC h0 u 28, cg_c cg_WC cy (j_adC h0 u) j_a0 28) := by
  rw [j_listC]
  exact congrArg some (Prod.ext (show u 55 = j_adC h0 u 28 from rfl) (j_cC28 (cy := cy) (h0 := h0) (u := u)))
theorem j_cC29 {cy : Nat → ClassId} {h0 : Nat} {u : Nat → Nat} : (.inl (cy 1, 7, .inl (fun _ => 0)) : va_E) = .inl (cy 1, 7, .inl (j_a0.1 29)) := rfl
theorem j_gC29 {cy : Nat → ClassId} {h0 : Nat} {u : Nat → Nat} : (cn_w11 cy h0 u)[48]? = some (j_adC h0 u 29, cg_c cg_WC cy (j_adC h0 u) j_a0 29) := by
  rw [j_listC]
  exact congrArg some (Prod.ext (show u 54 = j_adC h0 u 29 from rfl) (j_cC29 (cy := cy) (h0 := h0) (u := u)))
theorem j_cC30 {cy : Nat → ClassId} {h0 : Nat} {u : Nat → Nat} : (.inl (cy 1, 7, .inl (fun _ => 0)) : va_E) = .inl (cy 1, 7, .inl (j_a0.1 30)) := rfl
theorem j_gC30 {cy : Nat → ClassId} {h0 : Nat} {u : Nat → Nat} : (cn_w11 cy h0 u)[57]? = some (j_adC h0 u 30, cg_c cg_WC cy (j_adC h0 u) j_a0 30) := by
  rw [j_listC]
  exact congrArg some (Prod.ext (show u 60 = j_adC h0 u 30 from rfl) (j_cC30 (cy := cy) (h0 := h0) (u := u)))
theorem j_cC31 {cy : Nat → ClassId} {h0 : Nat} {u : Nat → Nat} : (.inl (cy 1, 4, .inl (upd (upd (upd (upd (fun _ => 0) 0 (-1)) 1 (-1)) 2 (-1)) 3 (-1))) : va_E) = .inl (cy 1, 4, .inl (j_a0.1 31)) := rfl
theorem j_gC31 {cy : Nat → ClassId} {h0 : Nat} {u : Nat → Nat} : (cn_w11 cy h0 u)[62]? = some (j_adC h0 u 31, cg_c cg_WC cy (j_adC h0 u) j_a0 31) := by
  rw [j_listC]
  exact congrArg some (Prod.ext (show u 63 = j_adC h0 u 31 from rfl) (j_cC31 (cy := cy) (h0 := h0) (u := u)))
theorem j_cC32 {cy : Nat → ClassId} {h0 : Nat} {u : Nat → Nat} : (.inl (cy 1, 7, .inl (fun _ => 0)) : va_E) = .inl (cy 1, 7, .inl (j_a0.1 32)) := rfl
theorem j_gC32 {cy : Nat → ClassId} {h0 : Nat} {u : Nat → Nat} : (cn_w11 cy h0 u)[76]? = some (j_adC h0 u 32, cg_c cg_WC cy (j_adC h0 u) j_a0 32) := by
  rw [j_listC]
  exact congrArg some (Prod.ext (show u 78 = j_adC h0 u 32 from rfl) (j_cC32 (cy := cy) (h0 := h0) (u := u)))
theorem j_cC33 {cy : Nat → ClassId} {h0 : Nat} {u : Nat → Nat} : (.inl (cy 1, 7, .inl (fun _ => 0)) : va_E) = .inl (cy 1, 7, .inl (j_a0.1 33)) := rfl
theorem j_gC33 {cy : Nat → ClassId} {h0 : Nat} {u : Nat → Nat} : (cn_w11 cy h0 u)[78]? = some (j_adC h0 u 33, cg_c cg_WC cy (j_adC h0 u) j_a0 33) := by
  rw [j_listC]
  exact congrArg some (Prod.ext (show u 79 = j_adC h0 u 33 from rfl) (j_cC33 (cy := cy) (h0 := h0) (u := u)))
theorem j_cC34 {cy : Nat → ClassId} {h0 : Nat} {u : Nat → Nat} : (.inl (cy 1, 7, .inl (fun _ => 0)) : va_E) = .inl (cy 1, 7, .inl (j_a0.1 34)) := rfl
theorem j_gC34 {cy : Nat → ClassId} {h0 : Nat} {u : Nat → Nat} : (cn_w11 cy h0 u)[79]? = some (j_adC h0 u 34, cg_c cg_WC cy (j_adC h0 u) j_a0 34) := by
  rw [j_listC]
  exact congrArg some (Prod.ext (show u 80 = j_adC h0 u 34 from rfl) (j_cC34 (cy := cy) (h0 := h0) (u := u)))
theorem j_cC35 {cy : Nat → ClassId} {h0 : Nat} {u : Nat → Nat} : (.inl (cy 1, 7, .inl (fun _ => 0)) : va_E) = .inl (cy 1, 7, .inl (j_a0.1 35)) := rfl
theorem j_gC35 {cy : Nat → ClassId} {h0 : Nat} {u : Nat → Nat} : (cn_w11 cy h0 u)[84]? = some (j_adC h0 u 35, cg_c cg_WC cy (j_adC h0 u) j_a0 35) := by
  rw [j_listC]
  exact congrArg some (Prod.ext (show u 82 = j_adC h0 u 35 from rfl) (j_cC35 (cy := cy) (h0 := h0) (u := u)))
theorem j_cC36 {cy : Nat → ClassId} {h0 : Nat} {u : Nat → Nat} : (.inl (cy 1, (7, .inl (fun _ => 0))) : va_E) = .inl (cy 1, 7, .inl (j_a0.1 36)) := rfl
theorem j_gC36 {cy : Nat → ClassId} {h0 : Nat} {u : Nat → Nat} : (cn_w11 cy h0 u)[10]? = some (j_adC h0 u 36, cg_c cg_WC cy (j_adC h0 u) j_a0 36) := by
  rw [j_listC]
  exact congrArg some (Prod.ext (show u 19 = j_adC h0 u 36 from rfl) (j_cC36 (cy := cy) (h0 := h0) (u := u)))
theorem j_cC37 {cy : Nat → ClassId} {h0 : Nat} {u : Nat → Nat} : (.inl (cy 1, (7, .inl (fun _ => 0))) : va_E) = .inl (cy 1, 7, .inl (j_a0.1 37)) := rfl
theorem j_gC37 {cy : Nat → ClassId} {h0 : Nat} {u : Nat → Nat} : (cn_w11 cy h0 u)[11]? = some (j_adC h0 u 37, cg_c cg_WC cy (j_adC h0 u) j_a0 37) := by
  rw [j_listC]
  exact congrArg some (Prod.ext (show u 20 = j_adC h0 u 37 from rfl) (j_cC37 (cy := cy) (h0 := h0) (u := u)))
theorem j_cC38 {cy : Nat → ClassId} {h0 : Nat} {u : Nat → Nat} : (.inl (cy 1, (7, .inl (fun _ => 0))) : va_E) = .inl (cy 1, 7, .inl (j_a0.1 38)) := rfl
theorem j_gC38 {cy : Nat → ClassId} {h0 : Nat} {u : Nat → Nat} : (cn_w11 cy h0 u)[12]? = some (j_adC h0 u 38, cg_c cg_WC cy (j_adC h0 u) j_a0 38) := by
  rw [j_listC]
  exact congrArg some (Prod.ext (show u 21 = j_adC h0 u 38 from rfl) (j_cC38 (cy := cy) (h0 := h0) (u := u)))
theorem j_cC39 {cy : Nat → ClassId} {h0 : Nat} {u : Nat → Nat} : (.inl (cy 1, (7, .inl (fun _ => 0))) : va_E) = .inl (cy 1, 7, .inl (j_a0.1 39)) := rfl
theorem j_gC39 {cy : Nat → ClassId} {h0 : Nat} {u : Nat → Nat} : (cn_w11 cy h0 u)[13]? = some (j_adC h0 u 39, cg_c cg_WC cy (j_adC h0 u) j_a0 39) := by
  rw [j_listC]
  exact congrArg some (Prod.ext (show u 22 = j_adC h0 u 39 from rfl) (j_cC39 (cy := cy) (h0 := h0) (u := u)))
theorem j_cC40 {cy : Nat → ClassId} {h0 : Nat} {u : Nat → Nat} : (.inl (cy 1, (7, .inl (fun _ => 0))) : va_E) = .inl (cy 1, 7, .inl (j_a0.1 40)) := rfl
theorem j_gC40 {cy : Nat → ClassId} {h0 : Nat} {u : Nat → Nat} : (cn_w11 cy h0 u)[14]? = some (j_adC h0 u 40, cg_c cg_WC cy (j_adC h0 u) j_a0 40) := by
  rw [j_listC]
  exact congrArg some (Prod.ext (show u 23 = j_adC h0 u 40 from rfl) (j_cC40 (cy := cy) (h0 := h0) (u := u)))
theorem j_cC41 {cy : Nat → ClassId} {h0 : Nat} {u : Nat → Nat} : (.inl (cy 1, (7, .inl (fun _ => 0))) : va_E) = .inl (cy 1, 7, .inl (j_a0.1 41)) := rfl
theorem j_gC41 {cy : Nat → ClassId} {h0 : Nat} {u : Nat → Nat} : (cn_w11 cy h0 u)[15]? = some (j_adC h0 u 41, cg_c cg_WC cy (j_adC h0 u) j_a0 41) := by
  rw [j_listC]
  exact congrArg some (Prod.ext (show u 24 = j_adC h0 u 41 from rfl) (j_cC41 (cy := cy) (h0 := h0) (u := u)))
theorem j_cC42 {cy : Nat → ClassId} {h0 : Nat} {u : Nat → Nat} : (.inl (cy 1, (7, .inl (fun _ => 0))) : va_E) = .inl (cy 1, 7, .inl (j_a0.1 42)) := rfl
theorem j_gC42 {cy : Nat → ClassId} {h0 : Nat} {u : Nat → Nat} : (cn_w11 cy h0 u)[16]? = some (j_adC h0 u 42, cg_c cg_WC cy (j_adC h0 u) j_a0 42) := by
  rw [j_listC]
  exact congrArg some (Prod.ext (show u 25 = j_adC h0 u 42 from rfl) (j_cC42 (cy := cy) (h0 := h0) (u := u)))
theorem j_cC43 {cy : Nat → ClassId} {h0 : Nat} {u : Nat → Nat} : (.inl (cy 1, (7, .inl (fun _ => 0))) : va_E) = .inl (cy 1, 7, .inl (j_a0.1 43)) := rfl
theorem j_gC43 {cy : Nat → ClassId} {h0 : Nat} {u : Nat → Nat} : (cn_w11 cy h0 u)[17]? = some (j_adC h0 u 43, cg_c cg_WC cy (j_adC h0 u) j_a0 43) := by
  rw [j_listC]
  exact congrArg some (Prod.ext (show u 26 = j_adC h0 u 43 from rfl) (j_cC43 (cy := cy) (h0 := h0) (u := u)))
theorem j_cC44 {cy : Nat → ClassId} {h0 : Nat} {u : Nat → Nat} : (.inl (cy 1, (7, .inl (fun _ => 0))) : va_E) = .inl (cy 1, 7, .inl (j_a0.1 44)) := rfl
theorem j_gC44 {cy : Nat → ClassId} {h0 : Nat} {u : Nat → Nat} : (cn_w11 cy h0 u)[18]? = some (j_adC h0 u 44, cg_c cg_WC cy (j_adC h0 u) j_a0 44) := by
  rw [j_listC]
  exact congrArg some (Prod.ext (show u 27 = j_adC h0 u 44 from rfl) (j_cC44 (cy := cy) (h0 := h0) (u := u)))
theorem j_cC45 {cy : Nat → ClassId} {h0 : Nat} {u : Nat → Nat} : (.inl (cy 1, (7, .inl (fun _ => 0))) : va_E) = .inl (cy 1, 7, .inl (j_a0.1 45)) := rfl
theorem j_gC45 {cy : Nat → ClassId} {h0 : Nat} {u : Nat → Nat} : (cn_w11 cy h0 u)[19]? = some (j_adC h0 u 45, cg_c cg_WC cy (j_adC h0 u) j_a0 45) := by
  rw [j_listC]
  exact congrArg some (Prod.ext (show u 28 = j_adC h0 u 45 from rfl) (j_cC45 (cy := cy) (h0 := h0) (u := u)))
theorem j_cC46 {cy : Nat → ClassId} {h0 : Nat} {u : Nat → Nat} : (.inl (cy 1, (7, .inl (fun _ => 0))) : va_E) = .inl (cy 1, 7, .inl (j_a0.1 46)) := rfl
theorem j_gC46 {cy : Nat → ClassId} {h0 : Nat} {u : Nat → Nat} : (cn_w11 cy h0 u)[20]? = some (j_adC h0 u 46, cg_c cg_WC cy (j_adC h0 u) j_a0 46) := by
  rw [j_listC]
  exact congrArg some (Prod.ext (show u 29 = j_adC h0 u 46 from rfl) (j_cC46 (cy := cy) (h0 := h0) (u := u)))
theorem j_cC47 {cy : Nat → ClassId} {h0 : Nat} {u : Nat → Nat} : (.inl (cy 1, (7, .inl (fun _ => 0))) : va_E) = .inl (cy 1, 7, .inl (j_a0.1 47)) := rfl
theorem j_gC47 {cy : Nat → ClassId} {h0 : Nat} {u : Nat → Nat} : (cn_w11 cy h0 u)[21]? = some (j_adC h0 u 47, cg_c cg_WC cy (j_adC h0 u) j_a0 47) := by
  rw [j_listC]
  exact congrArg some (Prod.ext (show u 30 = j_adC h0 u 47 from rfl) (j_cC47 (cy := cy) (h0 := h0) (u := u)))
theorem j_cC48 {cy : Nat → ClassId} {h0 : Nat} {u : Nat → Nat} : (.inl (cy 1, (7, .inl (fun _ => 0))) : va_E) = .inl (cy 1, 7, .inl (j_a0.1 48)) := rfl
theorem j_gC48 {cy : Nat → ClassId} {h0 : Nat} {u : Nat → Nat} : (cn_w11 cy h0 u)[22]? = some (j_adC h0 u 48, cg_c cg_WC cy (j_adC h0 u) j_a0 48) := by
  rw [j_listC]
  exact congrArg some (Prod.ext (show u 31 = j_adC h0 u 48 from rfl) (j_cC48 (cy := cy) (h0 := h0) (u := u)))
theorem j_cC49 {cy : Nat → ClassId} {h0 : Nat} {u : Nat → Nat} : (.inl (cy 1, (7, .inl (fun _ => 0))) : va_E) = .inl (cy 1, 7, .inl (j_a0.1 49)) := rfl
theorem j_gC49 {cy : Nat → ClassId} {h0 : Nat} {u : Nat → Nat} : (cn_w11 cy h0 u)[23]? = some (j_adC h0 u 49, cg_c cg_WC cy (j_adC h0 u) j_a0 49) := by
  rw [j_listC]
  exact congrArg some (Prod.ext (show u 32 = j_adC h0 u 49 from rfl) (j_cC49 (cy := cy) (h0 := h0) (u := u)))
theorem j_cC50 {cy : Nat → ClassId} {h0 : Nat} {u : Nat → Nat} : (.inl (cy 1, (7, .inl (fun _ => 0))) : va_E) = .inl (cy 1, 7, .inl (j_a0.1 50)) := rfl
theorem j_gC50 {cy : Nat → ClassId} {h0 : Nat} {u : Nat → Nat} : (cn_w11 cy h0 u)[24]? = some (j_adC h0 u 50, cg_c cg_WC cy (j_adC h0 u) j_a0 50) := by
  rw [j_listC]
  exact congrArg some (Prod.ext (show u 33 = j_adC h0 u 50 from rfl) (j_cC50 (cy := cy) (h0 := h0) (u := u)))
theorem j_cC51 {cy : Nat → ClassId} {h0 : Nat} {u : Nat → Nat} : (.inl (cy 1, (7, .inl (fun _ => 0))) : va_E) = .inl (cy 1, 7, .inl (j_a0.1 51)) := rfl
theorem j_gC51 {cy : Nat → ClassId} {h0 : Nat} {u : Nat → Nat} : (cn_w11 cy h0 u)[25]? = some (j_adC h0 u 51, cg_c cg_WC cy (j_adC h0 u) j_a0 51) := by
  rw [j_listC]
  exact congrArg some (Prod.ext (show u 34 = j_adC h0 u 51 from rfl) (j_cC51 (cy := cy) (h0 := h0) (u := u)))
theorem j_cC52 {cy : Nat → ClassId} {h0 : Nat} {u : Nat → Nat} : (.inl (cy 1, (7, .inl (fun _ => 0))) : va_E) = .inl (cy 1, 7, .inl (j_a0.1 52)) := rfl
theorem j_gC52 {cy : Nat → ClassId} {h0 : Nat} {u : Nat → Nat} : (cn_w11 cy h0 u)[26]? = some (j_adC h0 u 52, cg_c cg_WC cy (j_adC h0 u) j_a0 52) := by
  rw [j_listC]
  exact congrArg some (Prod.ext (show u 35 = j_adC h0 u 52 from rfl) (j_cC52 (cy := cy) (h0 := h0) (u := u)))
theorem j_cC53 {cy : Nat → ClassId} {h0 : Nat} {u : Nat → Nat} : (.inl (cy 1, (7, .inl (fun _ => 0))) : va_E) = .inl (cy 1, 7, .inl (j_a0.1 53)) := rfl
theorem j_gC53 {cy : Nat → ClassId} {h0 : Nat} {u : Nat → Nat} : (cn_w11 cy h0 u)[27]? = some (j_adC h0 u 53, cg_c cg_WC cy (j_adC h0 u) j_a0 53) := by
  rw [j_listC]
  exact congrArg some (Prod.ext (show u 36 = j_adC h0 u 53 from rfl) (j_cC53 (cy := cy) (h0 := h0) (u := u)))
theorem j_cC54 {cy : Nat → ClassId} {h0 : Nat} {u : Nat → Nat} : (.inl (cy 1, (7, .inl (fun _ => 0))) : va_E) = .inl (cy 1, 7, .inl (j_a0.1 54)) := rfl
theorem j_gC54 {cy : Nat → ClassId} {h0 : Nat} {u : Nat → Nat} : (cn_w11 cy h0 u)[28]? = some (j_adC h0 u 54, cg_c cg_WC cy (j_adC h0 u) j_a0 54) := by
  rw [j_listC]
  exact congrArg some (Prod.ext (show u 37 = j_adC h0 u 54 from rfl) (j_cC54 (cy := cy) (h0 := h0) (u := u)))
theorem j_cC55 {cy : Nat → ClassId} {h0 : Nat} {u : Nat → Nat} : (.inl (cy 1, (7, .inl (fun _ => 0))) : va_E) = .inl (cy 1, 7, .inl (j_a0.1 55)) := rfl
theorem j_gC55 {cy : Nat → ClassId} {h0 : Nat} {u : Nat → Nat} : (cn_w11 cy h0 u)[29]? = some (j_adC h0 u 55, cg_c cg_WC cy (j_adC h0 u) j_a0 55) := by
  rw [j_listC]
  exact congrArg some (Prod.ext (show u 38 = j_adC h0 u 55 from rfl) (j_cC55 (cy := cy) (h0 := h0) (u := u)))
theorem j_cC56 {cy : Nat → ClassId} {h0 : Nat} {u : Nat → Nat} : (.inl (cy 1, (7, .inl (fun _ => 0))) : va_E) = .inl (cy 1, 7, .inl (j_a0.1 56)) := rfl
theorem j_gC56 {cy : Nat → ClassId} {h0 : Nat} {u : Nat → Nat} : (cn_w11 cy h0 u)[30]? = some (j_adC h0 u 56, cg_c cg_WC cy (j_adC h0 u) j_a0 56) := by
  rw [j_listC]
  exact congrArg some (Prod.ext (show u 39 = j_adC h0 u 56 from rfl) (j_cC56 (cy := cy) (h0 := h0) (u := u)))
theorem j_cC57 {cy : Nat → ClassId} {h0 : Nat} {u : Nat → Nat} : (.inl (cy 0, 7, .inl (fun _ => 0)) : va_E) = .inl (cy 0, 7, .inl (j_a0.1 57)) := rfl
theorem j_gC57 {cy : Nat → ClassId} {h0 : Nat} {u : Nat → Nat} : (cn_w11 cy h0 u)[2]? = some (j_adC h0 u 57, cg_c cg_WC cy (j_adC h0 u) j_a0 57) := by
  rw [j_listC]
  exact congrArg some (Prod.ext (show u 11 = j_adC h0 u 57 from rfl) (j_cC57 (cy := cy) (h0 := h0) (u := u)))
theorem j_cC58 {cy : Nat → ClassId} {h0 : Nat} {u : Nat → Nat} : (.inl (cy 2, 7, .inr (.inl (fun _ => 0))) : va_E) = .inl (cy 2, 7, .inr (.inl (j_a0.2.1 58))) := rfl
theorem j_gC58 {cy : Nat → ClassId} {h0 : Nat} {u : Nat → Nat} : (cn_w11 cy h0 u)[46]? = some (j_adC h0 u 58, cg_c cg_WC cy (j_adC h0 u) j_a0 58) := by
  rw [j_listC]
  exact congrArg some (Prod.ext (show u 46 = j_adC h0 u 58 from rfl) (j_cC58 (cy := cy) (h0 := h0) (u := u)))
theorem j_cC59 {cy : Nat → ClassId} {h0 : Nat} {u : Nat → Nat} : (.inl (cy 2, 7, .inr (.inl (fun _ => 0))) : va_E) = .inl (cy 2, 7, .inr (.inl (j_a0.2.1 59))) := rfl
theorem j_gC59 {cy : Nat → ClassId} {h0 : Nat} {u : Nat → Nat} : (cn_w11 cy h0 u)[52]? = some (j_adC h0 u 59, cg_c cg_WC cy (j_adC h0 u) j_a0 59) := by
  rw [j_listC]
  exact congrArg some (Prod.ext (show u 56 = j_adC h0 u 59 from rfl) (j_cC59 (cy := cy) (h0 := h0) (u := u)))
theorem j_cC60 {cy : Nat → ClassId} {h0 : Nat} {u : Nat → Nat} : (.inl (cy 2, (8, .inr (.inl (fun _ => 0)))) : va_E) = .inl (cy 2, 8, .inr (.inl (j_a0.2.1 60))) := rfl
theorem j_gC60 {cy : Nat → ClassId} {h0 : Nat} {u : Nat → Nat} : (cn_w11 cy h0 u)[39]? = some (j_adC h0 u 60, cg_c cg_WC cy (j_adC h0 u) j_a0 60) := by
  rw [j_listC]
  exact congrArg some (Prod.ext (show u 47 = j_adC h0 u 60 from rfl) (j_cC60 (cy := cy) (h0 := h0) (u := u)))
theorem j_cC61 {cy : Nat → ClassId} {h0 : Nat} {u : Nat → Nat} : (.inl (cy 2, (8, .inr (.inl (fun _ => 0)))) : va_E) = .inl (cy 2, 8, .inr (.inl (j_a0.2.1 61))) := rfl
theorem j_gC61 {cy : Nat → ClassId} {h0 : Nat} {u : Nat → Nat} : (cn_w11 cy h0 u)[40]? = some (j_adC h0 u 61, cg_c cg_WC cy (j_adC h0 u) j_a0 61) := by
  rw [j_listC]
  exact congrArg some (Prod.ext (show u 48 = j_adC h0 u 61 from rfl) (j_cC61 (cy := cy) (h0 := h0) (u := u)))
theorem j_cC62 {cy : Nat → ClassId} {h0 : Nat} {u : Nat → Nat} : (.inl (cy 2, (8, .inr (.inl (fun _ => 0)))) : va_E) = .inl (cy 2, 8, .inr (.inl (j_a0.2.1 62))) := rfl
theorem j_gC62 {cy : Nat → ClassId} {h0 : Nat} {u : Nat → Nat} : (cn_w11 cy h0 u)[41]? = some (j_adC h0 u 62, cg_c cg_WC cy (j_adC h0 u) j_a0 62) := by
  rw [j_listC]
  exact congrArg some (Prod.ext (show u 49 = j_adC h0 u 62 from rfl) (j_cC62 (cy := cy) (h0 := h0) (u := u)))
theorem j_cC63 {cy : Nat → ClassId} {h0 : Nat} {u : Nat → Nat} : (.inl (cy 2, (8, .inr (.inl (fun _ => 0)))) : va_E) = .inl (cy 2, 8, .inr (.inl (j_a0.2.1 63))) := rfl
theorem j_gC63 {cy : Nat → ClassId} {h0 : Nat} {u : Nat → Nat} : (cn_w11 cy h0 u)[42]? = some (j_adC h0 u 63, cg_c cg_WC cy (j_adC h0 u) j_a0 63) := by
  rw [j_listC]
  exact congrArg some (Prod.ext (show u 50 = j_adC h0 u 63 from rfl) (j_cC63 (cy := cy) (h0 := h0) (u := u)))
theorem j_cC64 {cy : Nat → ClassId} {h0 : Nat} {u : Nat → Nat} : (.inl (cy 2, (8, .inr (.inl (fun _ => 0)))) : va_E) = .inl (cy 2, 8, .inr (.inl (j_a0.2.1 64))) := rfl
theorem j_gC64 {cy : Nat → ClassId} {h0 : Nat} {u : Nat → Nat} : (cn_w11 cy h0 u)[43]? = some (j_adC h0 u 64, cg_c cg_WC cy (j_adC h0 u) j_a0 64) := by
  rw [j_listC]
  exact congrArg some (Prod.ext (show u 51 = j_adC h0 u 64 from rfl) (j_cC64 (cy := cy) (h0 := h0) (u := u)))
theorem j_cC65 {cy : Nat → ClassId} {h0 : Nat} {u : Nat → Nat} : (.inl (cy 2, (8, .inr (.inl (fun _ => 0)))) : va_E) = .inl (cy 2, 8, .inr (.inl (j_a0.2.1 65))) := rfl
theorem j_gC65 {cy : Nat → ClassId} {h0 : Nat} {u : Nat → Nat} : (cn_w11 cy h0 u)[44]? = some (j_adC h0 u 65, cg_c cg_WC cy (j_adC h0 u) j_a0 65) := by
  rw [j_listC]
  exact congrArg some (Prod.ext (show u 52 = j_adC h0 u 65 from rfl) (j_cC65 (cy := cy) (h0 := h0) (u := u)))
theorem j_cC66 {cy : Nat → ClassId} {h0 : Nat} {u : Nat → Nat} : (.inl (cy 2, (8, .inr (.inl (fun _ => 0)))) : va_E) = .inl (cy 2, 8, .inr (.inl (j_a0.2.1 66))) := rfl
theorem j_gC66 {cy : Nat → ClassId} {h0 : Nat} {u : Nat → Nat} : (cn_w11 cy h0 u)[45]? = some (j_adC h0 u 66, cg_c cg_WC cy (j_adC h0 u) j_a0 66) := by
  rw [j_listC]
  exact congrArg some (Prod.ext (show u 53 = j_adC h0 u 66 from rfl) (j_cC66 (cy := cy) (h0 := h0) (u := u)))
theorem j_cC67 {cy : Nat → ClassId} {h0 : Nat} {u : Nat → Nat} : (.inl (cy 2, 7, .inr (.inl (fun _ => 0))) : va_E) = .inl (cy 2, 7, .inr (.inl (j_a0.2.1 67))) := rfl
theorem j_gC67 {cy : Nat → ClassId} {h0 : Nat} {u : Nat → Nat} : (cn_w11 cy h0 u)[86]? = some (j_adC h0 u 67, cg_c cg_WC cy (j_adC h0 u) j_a0 67) := by
  rw [j_listC]
  exact congrArg some (Prod.ext (show u 85 = j_adC h0 u 67 from rfl) (j_cC67 (cy := cy) (h0 := h0) (u := u)))
theorem j_cC68 {cy : Nat → ClassId} {h0 : Nat} {u : Nat → Nat} : (.inl (cy 2, 7, .inr (.inl (fun _ => 0))) : va_E) = .inl (cy 2, 7, .inr (.inl (j_a0.2.1 68))) := rfl
theorem j_gC68 {cy : Nat → ClassId} {h0 : Nat} {u : Nat → Nat} : (cn_w11 cy h0 u)[54]? = some (j_adC h0 u 68, cg_c cg_WC cy (j_adC h0 u) j_a0 68) := by
  rw [j_listC]
  exact congrArg some (Prod.ext (show u 58 = j_adC h0 u 68 from rfl) (j_cC68 (cy := cy) (h0 := h0) (u := u)))
theorem j_cC69 {cy : Nat → ClassId} {h0 : Nat} {u : Nat → Nat} : (.inl (cy 2, 7, .inr (.inl (fun _ => 0))) : va_E) = .inl (cy 2, 7, .inr (.inl (j_a0.2.1 69))) := rfl
theorem j_gC69 {cy : Nat → ClassId} {h0 : Nat} {u : Nat → Nat} : (cn_w11 cy h0 u)[59]? = some (j_adC h0 u 69, cg_c cg_WC cy (j_adC h0 u) j_a0 69) := by
  rw [j_listC]
  exact congrArg some (Prod.ext (show u 68 = j_adC h0 u 69 from rfl) (j_cC69 (cy := cy) (h0 := h0) (u := u)))
theorem j_cC70 {cy : Nat → ClassId} {h0 : Nat} {u : Nat → Nat} : (.inl (cy 2, 7, .inr (.inl (fun _ => 0))) : va_E) = .inl (cy 2, 7, .inr (.inl (j_a0.2.1 70))) := rfl
theorem j_gC70 {cy : Nat → ClassId} {h0 : Nat} {u : Nat → Nat} : (cn_w11 cy h0 u)[64]? = some (j_adC h0 u 70, cg_c cg_WC cy (j_adC h0 u) j_a0 70) := by
  rw [j_listC]
  exact congrArg some (Prod.ext (show u 70 = j_adC h0 u 70 from rfl) (j_cC70 (cy := cy) (h0 := h0) (u := u)))
theorem j_cC71 {cy : Nat → ClassId} {h0 : Nat} {u : Nat → Nat} : (.inl (cy 2, 7, .inr (.inl (fun _ => 0))) : va_E) = .inl (cy 2, 7, .inr (.inl (j_a0.2.1 71))) := rfl
theorem j_gC71 {cy : Nat → ClassId} {h0 : Nat} {u : Nat → Nat} : (cn_w11 cy h0 u)[67]? = some (j_adC h0 u 71, cg_c cg_WC cy (j_adC h0 u) j_a0 71) := by
  rw [j_listC]
  exact congrArg some (Prod.ext (show u 72 = j_adC h0 u 71 from rfl) (j_cC71 (cy := cy) (h0 := h0) (u := u)))
theorem j_cC72 {cy : Nat → ClassId} {h0 : Nat} {u : Nat → Nat} : (.inl (cy 2, 7, .inr (.inl (fun _ => 0))) : va_E) = .inl (cy 2, 7, .inr (.inl (j_a0.2.1 72))) := rfl
theorem j_gC72 {cy : Nat → ClassId} {h0 : Nat} {u : Nat → Nat} : (cn_w11 cy h0 u)[70]? = some (j_adC h0 u 72, cg_c cg_WC cy (j_adC h0 u) j_a0 72) := by
  rw [j_listC]
  exact congrArg some (Prod.ext (show u 74 = j_adC h0 u 72 from rfl) (j_cC72 (cy := cy) (h0 := h0) (u := u)))
theorem j_cC73 {cy : Nat → ClassId} {h0 : Nat} {u : Nat → Nat} : (.inl (cy 2, 7, .inr (.inl (fun _ => 0))) : va_E) = .inl (cy 2, 7, .inr (.inl (j_a0.2.1 73))) := rfl
theorem j_gC73 {cy : Nat → ClassId} {h0 : Nat} {u : Nat → Nat} : (cn_w11 cy h0 u)[73]? = some (j_adC h0 u 73, cg_c cg_WC cy (j_adC h0 u) j_a0 73) := by
  rw [j_listC]
  exact congrArg some (Prod.ext (show u 76 = j_adC h0 u 73 from rfl) (j_cC73 (cy := cy) (h0 := h0) (u := u)))
theorem j_cC74 {cy : Nat → ClassId} {h0 : Nat} {u : Nat → Nat} : (.inl (cy 2, 7, .inr (.inl (fun _ => 0))) : va_E) = .inl (cy 2, 7, .inr (.inl (j_a0.2.1 74))) := rfl
theorem j_gC74 {cy : Nat → ClassId} {h0 : Nat} {u : Nat → Nat} : (cn_w11 cy h0 u)[82]? = some (j_adC h0 u 74, cg_c cg_WC cy (j_adC h0 u) j_a0 74) := by
  rw [j_listC]
  exact congrArg some (Prod.ext (show u 83 = j_adC h0 u 74 from rfl) (j_cC74 (cy := cy) (h0 := h0) (u := u)))
theorem j_cC75 {cy : Nat → ClassId} {h0 : Nat} {u : Nat → Nat} : (.inl (cy 2, 7, .inr (.inl (fun _ => 0))) : va_E) = .inl (cy 2, 7, .inr (.inl (j_a0.2.1 75))) := rfl
theorem j_gC75 {cy : Nat → ClassId} {h0 : Nat} {u : Nat → Nat} : (cn_w11 cy h0 u)[87]? = some (j_adC h0 u 75, cg_c cg_WC cy (j_adC h0 u) j_a0 75) := by
  rw [j_listC]
  exact congrArg some (Prod.ext (show u 86 = j_adC h0 u 75 from rfl) (j_cC75 (cy := cy) (h0 := h0) (u := u)))
theorem j_cC76 {cy : Nat → ClassId} {h0 : Nat} {u : Nat → Nat} : (.inl (cy 2, 7, .inr (.inl (fun _ => 0))) : va_E) = .inl (cy 2, 7, .inr (.inl (j_a0.2.1 76))) := rfl
theorem j_gC76 {cy : Nat → ClassId} {h0 : Nat} {u : Nat → Nat} : (cn_w11 cy h0 u)[55]? = some (j_adC h0 u 76, cg_c cg_WC cy (j_adC h0 u) j_a0 76) := by
  rw [j_listC]
  exact congrArg some (Prod.ext (show u 59 = j_adC h0 u 76 from rfl) (j_cC76 (cy := cy) (h0 := h0) (u := u)))
theorem j_cC77 {cy : Nat → ClassId} {h0 : Nat} {u : Nat → Nat} : (.inl (cy 2, 7, .inr (.inl (fun _ => 0))) : va_E) = .inl (cy 2, 7, .inr (.inl (j_a0.2.1 77))) := rfl
theorem j_gC77 {cy : Nat → ClassId} {h0 : Nat} {u : Nat → Nat} : (cn_w11 cy h0 u)[60]? = some (j_adC h0 u 77, cg_c cg_WC cy (j_adC h0 u) j_a0 77) := by
  rw [j_listC]
  exact congrArg some (Prod.ext (show u 69 = j_adC h0 u 77 from rfl) (j_cC77 (cy := cy) (h0 := h0) (u := u)))
theorem j_cC78 {cy : Nat → ClassId} {h0 : Nat} {u : Nat → Nat} : (.inl (cy 2, 7, .inr (.inl (fun _ => 0))) : va_E) = .inl (cy 2, 7, .inr (.inl (j_a0.2.1 78))) := rfl
theorem j_gC78 {cy : Nat → ClassId} {h0 : Nat} {u : Nat → Nat} : (cn_w11 cy h0 u)[65]? = some (j_adC h0 u 78, cg_c cg_WC cy (j_adC h0 u) j_a0 78) := by
  rw [j_listC]
  exact congrArg some (Prod.ext (show u 71 = j_adC h0 u 78 from rfl) (j_cC78 (cy := cy) (h0 := h0) (u := u)))
theorem j_cC79 {cy : Nat → ClassId} {h0 : Nat} {u : Nat → Nat} : (.inl (cy 2, 7, .inr (.inl (fun _ => 0))) : va_E) = .inl (cy 2, 7, .inr (.inl (j_a0.2.1 79))) := rfl
theorem j_gC79 {cy : Nat → ClassId} {h0 : Nat} {u : Nat → Nat} : (cn_w11 cy h0 u)[68]? = some (j_adC h0 u 79, cg_c cg_WC cy (j_adC h0 u) j_a0 79) := by
  rw [j_listC]
  exact congrArg some (Prod.ext (show u 73 = j_adC h0 u 79 from rfl) (j_cC79 (cy := cy) (h0 := h0) (u := u)))
theorem j_cC80 {cy : Nat → ClassId} {h0 : Nat} {u : Nat → Nat} : (.inl (cy 2, 7, .inr (.inl (fun _ => 0))) : va_E) = .inl (cy 2, 7, .inr (.inl (j_a0.2.1 80))) := rfl
theorem j_gC80 {cy : Nat → ClassId} {h0 : Nat} {u : Nat → Nat} : (cn_w11 cy h0 u)[71]? = some (j_adC h0 u 80, cg_c cg_WC cy (j_adC h0 u) j_a0 80) := by
  rw [j_listC]
  exact congrArg some (Prod.ext (show u 75 = j_adC h0 u 80 from rfl) (j_cC80 (cy := cy) (h0 := h0) (u := u)))
theorem j_cC81 {cy : Nat → ClassId} {h0 : Nat} {u : Nat → Nat} : (.inl (cy 2, 7, .inr (.inl (fun _ => 0))) : va_E) = .inl (cy 2, 7, .inr (.inl (j_a0.2.1 81))) := rfl
theorem j_gC81 {cy : Nat → ClassId} {h0 : Nat} {u : Nat → Nat} : (cn_w11 cy h0 u)[74]? = some (j_adC h0 u 81, cg_c cg_WC cy (j_adC h0 u) j_a0 81) := by
  rw [j_listC]
  exact congrArg some (Prod.ext (show u 77 = j_adC h0 u 81 from rfl) (j_cC81 (cy := cy) (h0 := h0) (u := u)))
theorem j_cC82 {cy : Nat → ClassId} {h0 : Nat} {u : Nat → Nat} : (.inl (cy 2, 7, .inr (.inl (fun _ => 0))) : va_E) = .inl (cy 2, 7, .inr (.inl (j_a0.2.1 82))) := rfl
theorem j_gC82 {cy : Nat → ClassId} {h0 : Nat} {u : Nat → Nat} : (cn_w11 cy h0 u)[83]? = some (j_adC h0 u 82, cg_c cg_WC cy (j_adC h0 u) j_a0 82) := by
  rw [j_listC]
  exact congrArg some (Prod.ext (show u 84 = j_adC h0 u 82 from rfl) (j_cC82 (cy := cy) (h0 := h0) (u := u)))
theorem j_cC83 {cy : Nat → ClassId} {h0 : Nat} {u : Nat → Nat} : (.inl (cy 3, 7, .inr (.inr (.inr (.inl (fun _ => 0))))) : va_E) = .inl (cy 3, 7, .inr (.inr (.inr (.inl (j_a0.2.2 83))))) := rfl
theorem j_gC83 {cy : Nat → ClassId} {h0 : Nat} {u : Nat → Nat} : (cn_w11 cy h0 u)[33]? = some (j_adC h0 u 83, cg_c cg_WC cy (j_adC h0 u) j_a0 83) := by
  rw [j_listC]
  exact congrArg some (Prod.ext (show u 41 = j_adC h0 u 83 from rfl) (j_cC83 (cy := cy) (h0 := h0) (u := u)))
theorem j_cC84 {cy : Nat → ClassId} {h0 : Nat} {u : Nat → Nat} : (.inl (cy 3, 7, .inr (.inr (.inr (.inl (fun _ => 0))))) : va_E) = .inl (cy 3, 7, .inr (.inr (.inr (.inl (j_a0.2.2 84))))) := rfl
theorem j_gC84 {cy : Nat → ClassId} {h0 : Nat} {u : Nat → Nat} : (cn_w11 cy h0 u)[34]? = some (j_adC h0 u 84, cg_c cg_WC cy (j_adC h0 u) j_a0 84) := by
  rw [j_listC]
  exact congrArg some (Prod.ext (show u 42 = j_adC h0 u 84 from rfl) (j_cC84 (cy := cy) (h0 := h0) (u := u)))
theorem j_cC85 {cy : Nat → ClassId} {h0 : Nat} {u : Nat → Nat} : (.inl (cy 4, 21, .inr (.inr (.inr (.inr (fun i => if i < 21 then some ((u (11 + (8 + i)))) else none))))) : va_E) = .inl (cy 4, 21, .inr (.inr (.inr (.inr (fun j => if j < 21 then some (j_adC h0 u (36 + j)) else none))))) := congrArg (fun z => (.inl (cy 4, 21, .inr (.inr (.inr (.inr z)))) : va_E)) j_85
theorem j_gC85 {cy : Nat → ClassId} {h0 : Nat} {u : Nat → Nat} : (cn_w11 cy h0 u)[9]? = some (j_adC h0 u 85, cg_c cg_WC cy (j_adC h0 u) j_a0 85) := by
  rw [j_listC]
  exact congrArg some (Prod.ext (show u 18 = j_adC h0 u 85 from rfl) (j_cC85 (cy := cy) (h0 := h0) (u := u)))
theorem j_cC86 {cy : Nat → ClassId} {h0 : Nat} {u : Nat → Nat} : (.inl (cy 5, 7, .inr (.inr (.inr (.inr (fun i => if i < 7 then some ((u (43 + (1 + (3 + i))))) else none))))) : va_E) = .inl (cy 5, 7, .inr (.inr (.inr (.inr (fun j => if j < 7 then some (j_adC h0 u (60 + j)) else none))))) := congrArg (fun z => (.inl (cy 5, 7, .inr (.inr (.inr (.inr z)))) : va_E)) j_86
theorem j_gC86 {cy : Nat → ClassId} {h0 : Nat} {u : Nat → Nat} : (cn_w11 cy h0 u)[38]? = some (j_adC h0 u 86, cg_c cg_WC cy (j_adC h0 u) j_a0 86) := by
  rw [j_listC]
  exact congrArg some (Prod.ext (show u 45 = j_adC h0 u 86 from rfl) (j_cC86 (cy := cy) (h0 := h0) (u := u)))
theorem j_cC87 {cy : Nat → ClassId} {h0 : Nat} {u : Nat → Nat} : (.inl (cy 6, 4, .inr (.inr (.inr (.inr (va_up (va_up (va_up (va_up (fun _ => none) 0 (some (u 64))) 1 (some (u 65))) 2 (some (u 66))) 3 (some (u 67))))))) : va_E) = .inl (cy 6, 4, .inr (.inr (.inr (.inr (fun j => if j < 4 then some (j_adC h0 u (14 + j)) else none))))) := congrArg (fun z => (.inl (cy 6, 4, .inr (.inr (.inr (.inr z)))) : va_E)) j_87
theorem j_gC87 {cy : Nat → ClassId} {h0 : Nat} {u : Nat → Nat} : (cn_w11 cy h0 u)[61]? = some (j_adC h0 u 87, cg_c cg_WC cy (j_adC h0 u) j_a0 87) := by
  rw [j_listC]
  exact congrArg some (Prod.ext (show u 62 = j_adC h0 u 87 from rfl) (j_cC87 (cy := cy) (h0 := h0) (u := u)))
theorem j_getC {cy : Nat → ClassId} {h0 : Nat} {u : Nat → Nat} {k : Nat} (hk : k < 88) : (cn_w11 cy h0 u)[(j_pC[k]?).getD 0]? = some (j_adC h0 u k, cg_c cg_WC cy (j_adC h0 u) j_a0 k) := by
  match k, hk with
  | 0, _ => exact j_gC0
  | 1, _ => exact j_gC1
  | 2, _ => exact j_gC2
  | 3, _ => exact j_gC3
  | 4, _ => exact j_gC4
  | 5, _ => exact j_gC5
  | 6, _ => exact j_gC6
  | 7, _ => exact j_gC7
  | 8, _ => exact j_gC8
  | 9, _ => exact j_gC9
  | 10, _ => exact j_gC10
  | 11, _ => exact j_gC11
  | 12, _ => exact j_gC12
  | 13, _ => exact j_gC13
  | 14, _ => exact j_gC14
  | 15, _ => exact j_gC15
  | 16, _ => exact j_gC16
  | 17, _ => exact j_gC17
  | 18, _ => exact j_gC18
  | 19, _ => exact j_gC19
  | 20, _ => exact j_gC20
  | 21, _ => exact j_gC21
  | 22, _ => exact j_gC22
  | 23, _ => exact j_gC23
  | 24, _ => exact j_gC24
  | 25, _ => exact j_gC25
  | 26, _ => exact j_gC26
  | 27, _ => exact j_gC27
  | 28, _ => exact j_gC28
  | 29, _ => exact j_gC29
  | 30, _ => exact j_gC30
  | 31, _ => exact j_gC31
  | 32, _ => exact j_gC32
  | 33, _ => exact j_gC33
  | 34, _ => exact j_gC34
  | 35, _ => exact j_gC35
  | 36, _ => exact j_gC36
  | 37, _ => exact j_gC37
  | 38, _ => exact j_gC38
  | 39, _ => exact j_gC39
  | 40, _ => exact j_gC40
  | 41, _ => exact j_gC41
  | 42, _ => exact j_gC42
  | 43, _ => exact j_gC43
  | 44, _ => exact j_gC44
  | 45, _ => exact j_gC45
  | 46, _ => exact j_gC46
  | 47, _ => exact j_gC47
  | 48, _ => exact j_gC48
  | 49, _ => exact j_gC49
  | 50, _ => exact j_gC50
  | 51, _ => exact j_gC51
  | 52, _ => exact j_gC52
  | 53, _ => exact j_gC53
  | 54, _ => exact j_gC54
  | 55, _ => exact j_gC55
  | 56, _ => exact j_gC56
  | 57, _ => exact j_gC57
  | 58, _ => exact j_gC58
  | 59, _ => exact j_gC59
  | 60, _ => exact j_gC60
  | 61, _ => exact j_gC61
  | 62, _ => exact j_gC62
  | 63, _ => exact j_gC63
  | 64, _ => exact j_gC64
  | 65, _ => exact j_gC65
  | 66, _ => exact j_gC66
  | 67, _ => exact j_gC67
  | 68, _ => exact j_gC68
  | 69, _ => exact j_gC69
  | 70, _ => exact j_gC70
  | 71, _ => exact j_gC71
  | 72, _ => exact j_gC72
  | 73, _ => exact j_gC73
  | 74, _ => exact j_gC74
  | 75, _ => exact j_gC75
  | 76, _ => exact j_gC76
  | 77, _ => exact j_gC77
  | 78, _ => exact j_gC78
  | 79, _ => exact j_gC79
  | 80, _ => exact j_gC80
  | 81, _ => exact j_gC81
  | 82, _ => exact j_gC82
  | 83, _ => exact j_gC83
  | 84, _ => exact j_gC84
  | 85, _ => exact j_gC85
  | 86, _ => exact j_gC86
  | 87, _ => exact j_gC87
  | n + 88, hk => omega
theorem j_pC_ok : ∀ i, i < 88 → (j_pC[i]?).getD 0 < 88 ∧ ∀ j, j < 88 → (j_pC[i]?).getD 0 = (j_pC[j]?).getD 0 → i = j := by decide +kernel
