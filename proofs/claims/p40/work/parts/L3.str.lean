/-! THE LAW'S TEXT: "rfsw".charAt, through the JDK's own methods -/
abbrev cg_W0 : cg_Wd := (fun _ _ _ _ _ _ => .inr (0, []), 0)
def cg_s0 : cg_S := (fun _ _ => 0, fun _ _ => 0, fun _ _ => 0)
theorem cg_P0 {D : va_G} {cy : Nat → ClassId} {ad : Nat → Nat} {σ : cg_S} {H : Heap} : va_P D vwCl (cg_W cg_W0 cy ad σ) H := fun k q hq => by
  obtain ⟨h1, _⟩ := cg_W_some hq
  exact absurd h1 (Nat.not_lt_zero _)
def cs_PX (D : va_G) (cy : Nat → ClassId) (ad : Nat → Nat) (sa sb sz : Nat) : State → Prop := fun U => U.heap.size = sz ∧ va_K D vwCl (cg_tys cy) U ∧ cg_nest U ∧ lw_sp sa sb (cg_F ad 0 sz) U U.heap
/-- a contract of a method that reads the law's text and changes nothing -/
def cs_M (y : MethodName) (cc : ByteArray) (nL : Nat) (ret : Option FieldType) (R : Room) (av : List Value) (sa sb : Nat) (Q : Option Value → Prop) : Prop :=
  ∀ (l : Launch) (D : va_G) (cy : Nat → ClassId) (ad : Nat → Nat) (sz : Nat), Met l y (cg_ws y cc nL ret) R (va_Pc av (cs_PX D cy ad sa sb sz)) (cg_Q cg_W0 D cy ad (fun _ v _ => Q v) (cg_F ad 0 sz)) 0 0 (cg_F ad 0 sz)
theorem cs_entry {y : MethodName} {cc : ByteArray} {nL : Nat} {ret : Option FieldType} {R : Room} {av : List Value} {lv : List (Nat × Value)} {sa sb : Nat} {Q : Option Value → Prop} (hy : plainName y.cls = true) (hlv : lv_args 0 av = lv) (hn : (lg_sl av).length ≤ nL)
    (h : ∀ (p : Program) (l : Launch) (e : Env) (s : State) (m : MethodId) (args : Array Value) (below : List Frame) (meth : Method) (c : Code) (D : va_G) (cy : Nat → ClassId) (ad : Nat → Nat), cg_X cg_W0 y.cls cc nL ret p s m args meth c D cy ad → lw_sp sa sb (cg_F ad 0 s.heap.size) s s.heap → cg_G cg_W0 R p l e s m args below meth c D cy ad (cg_Z cg_W0 D cy ad (fun _ v _ => Q v) below args s) 0 0 nL 0 lv [] cg_s0) : cs_M y cc nL ret R av sa sb Q := by
  intro l D cy ad sz
  refine Met.ofW (cc := cc) (maxL := nL) (ret := ret) hy rfl ?_
  intro p e s m args below meth c s₁ B hml hv
  obtain ⟨rfl, hsz, hK, hN, hsp⟩ := hv
  subst hsz
  have hts := atoms_spec (ws := cg_ws y cc nL ret) B.pre
  have hX : cg_X cg_W0 y.cls cc nL ret p s m av.toArray meth c D cy ad := ⟨B.exec, B.bytes, B.returns, hml, findClass_of_methodNamed B.named, fun w hw => hts w (List.mem_cons_of_mem _ hw), B.notSynchronized, hK, fun i j hi => absurd hi (Nat.not_lt_zero _), hN⟩
  have hl := lv_entry av (n := nL) hn
  rw [lg_entry_eq]
  rw [hlv] at hl
  exact h p l e s m _ below meth c D cy ad hX hsp s.heap [] _ hl cg_P0 va_S.rf
section GS
variable {w' : cg_Wd} {cc : ByteArray} {nL : Nat} {ret : Option FieldType} {p : Program} {l : Launch} {e : Env} {R : Room} {s : State} {m : MethodId} {args : Array Value} {below : List Frame} {meth : Method} {c : Code} {D : va_G} {cy : Nat → ClassId} {ad : Nat → Nat} {kc ks pc : Nat} {lv : List (Nat × Value)} {st : List Value} {σ : cg_S} {Z : State → Prop} {own : String} {sa sb : Nat}
theorem gs_k {H : Heap} {locs : List Loc} {ls : Array Slot} {st0 rest : List Value} {aa : Array Value} {Q : Option Value → Prop} (hinj : cg_inj ad w'.2) (hr : va_Run p l e R s m args below meth c H locs kc ks 0 0 (F0 m pc ls st0) rest (cg_Q cg_W0 D cy ad (fun _ v _ => Q v) (cg_F ad 0 H.size) aa) (cg_F ad 0 H.size)) (h2 : va_P D vwCl (cg_W w' cy ad σ) H) (h3 : va_S (cg_F ad w'.2 s.heap.size) s.heap H locs)
    (kk : ∀ v, Q v → ∀ (H1 : Heap) (locs1 : List Loc), va_P D vwCl (cg_W w' cy ad σ) H1 → va_S (cg_F ad w'.2 s.heap.size) s.heap H1 locs1 → W p l e R s m args below meth c H1 locs1 kc ks Z (F0 m (pc + 3) ls (v.toList ++ rest))) : W p l e R s m args below meth c H locs kc ks Z (F0 m pc ls st0) := by
  have hle : cg_W0.2 ≤ w'.2 := Nat.zero_le _
  have hA : ∀ q, q < H.size → cg_F ad cg_W0.2 H.size q → cg_F ad w'.2 s.heap.size q := fun q _ => cg_F_le hle h3.1 q
  intro T hT X0
  obtain ⟨v, st₀, t, T', L, g0, X', hL, e1, e2, ⟨⟨v', τ, hv, hp, hb⟩, hF⟩, st⟩ := hr T hT X0
  cases hv
  obtain ⟨k1, k2, k3⟩ := vx_keep g0 e1 h3 hA (fun q => cg_F_le hle h3.1 q) hL hF
  obtain ⟨t2, a1, b1⟩ := kk v hp T'.heap (locs ++ L) (gp_put (w := cg_W0) (w' := w') (τ := σ) hle hinj (fun _ _ k hk => absurd hk (Nat.not_lt_zero _)) (fun _ _ _ _ _ => rfl) h2 k2 cg_P0) k3 T' rfl X'
  exact ⟨t2, st t2 a1, b1⟩
theorem gs_pc {av : List Value} {H : Heap} {locs : List Loc} (hC : cg_X w' own cc nL ret p s m args meth c D cy ad) (hs : lw_sp sa sb (cg_F ad w'.2 s.heap.size) s s.heap) (h3 : va_S (cg_F ad w'.2 s.heap.size) s.heap H locs) : FrameBlind (va_Pc av (cs_PX D cy ad sa sb H.size)) ∧ ∀ U : State, U.heap = H → s.WarmedH U.vm → va_Pc av (cs_PX D cy ad sa sb H.size) av.toArray U := by
  refine ⟨fun a U g mk q => ?_, fun U hU hW => ⟨rfl, by rw [hU], va_K.moved hW.alike hC.2.2.2.2.2.2.2.1, cg_nest.warm hW hC.2.2.2.2.2.2.2.2.2, by rw [hU]; exact hs.at hW h3.2.1 (cg_F_le (Nat.zero_le _) h3.1)⟩⟩
  obtain ⟨q0, q1, qK, qN, qs⟩ := q
  exact ⟨q0, q1, va_K.moved (u := U) (U := U.calling g mk a) (Vm.Alike.refl U.vm) qK, cg_nest.same (s := U) (U := U.calling g mk a) rfl qN, lw_sp.same (s := U) (U := U.calling g mk a) rfl qs⟩
theorem gs_callS {y : MethodName} {c1 : ByteArray} {n1 : Nat} {r1 : Option FieldType} {R1 : Room} {idx n : Nat} {stk As : List Value} {Q : Option Value → Prop} (hC : cg_X w' own cc nL ret p s m args meth c D cy ad) (hs : lw_sp sa sb (cg_F ad w'.2 s.heap.size) s s.heap) (hM : cs_M y c1 n1 r1 R1 As sa sb Q) (hw1 : Cond.methodLink own idx y ∈ cg_T) (hw2 : Cond.static y ∈ cg_T) (hw4 : Cond.initialized y.cls ∈ cg_T) (hw5 : Cond.code y c1 n1 r1 ∈ cg_T) (hstk : stk = As.reverse ++ st) (hn : As.length = n) (hd : y.cls ≠ "java/lang/invoke/MethodHandle" ∧ y.cls ≠ "java/lang/invoke/VarHandle" ∧ (parseMethodDescriptor y.desc).map (fun d => d.parameters.length) = some n) (hcs : kc ≤ R.cells ∧ ks ≤ R.slots) (hroom : R1.frames + 1 ≤ R.frames ∧ 8 + (n1 + 11) + R1.locals ≤ R.locals) (hc0 : R1.cells = 0) (hs0 : R1.slots = 0) (hcat : (st.map fun v => v.category).sum ≤ 8) (hdg : decode cc pc = .ok (.invokestatic idx, 3)) (kk : ∀ v, Q v → cg_G w' R p l e s m args below meth c D cy ad Z kc ks nL (pc + 3) lv (v.toList ++ st) σ) : cg_G w' R p l e s m args below meth c D cy ad Z kc ks nL pc lv stk σ := by
  intro H locs ls h1 h2 h3
  subst hstk
  have hB : CallB R s args own idx y c1 n1 r1 (cg_ws y c1 n1 r1) R1 0 0 n := callB_of n hC.2.2.2.2.2.1 (cg_goodT hw5) rfl hc0 hs0 (hC.2.2.2.2.2.1 _ hw4) (hC.2.2.2.2.2.1 _ hw1) hd hroom
  exact gs_k hC.2.2.2.2.2.2.2.2.1 (va_runS (As := As) (rest := st) ⟨hC.1, hC.2.1, hC.2.2.2.1, hC.2.2.2.2.1, hC.2.2.2.2.2.1⟩ (hM l D cy ad H.size) ⟨hB, hC.2.2.2.2.2.1 _ hw2⟩ (gs_pc hC hs h3) rfl hn h1.1 rfl (lv_room hcat) hdg hcs) h2 h3 (fun v hq H1 locs1 g4 g5 => kk v hq H1 locs1 ls h1 g4 g5)
theorem gs_callV {y : MethodName} {c1 : ByteArray} {n1 : Nat} {r1 : Option FieldType} {R1 : Room} {idx n : Nat} {stk As : List Value} {Q : Option Value → Prop} (hC : cg_X w' own cc nL ret p s m args meth c D cy ad) (hs : lw_sp sa sb (cg_F ad w'.2 s.heap.size) s s.heap) (hM : cs_M y c1 n1 r1 R1 (.ref sa :: As) sa sb Q) (hw1 : Cond.methodLink own idx y ∈ cg_T) (hw2 : Cond.instanceMethod y ∈ cg_T) (hw3 : Cond.selects "java/lang/String" y y ∈ cg_T) (hw4 : Cond.initialized y.cls ∈ cg_T) (hw5 : Cond.code y c1 n1 r1 ∈ cg_T) (hstk : stk = As.reverse ++ .ref sa :: st) (hn : As.length = n) (hd : y.cls ≠ "java/lang/invoke/MethodHandle" ∧ y.cls ≠ "java/lang/invoke/VarHandle" ∧ (parseMethodDescriptor y.desc).map (fun d => d.parameters.length) = some n) (hcs : kc ≤ R.cells ∧ ks ≤ R.slots) (hroom : R1.frames + 1 ≤ R.frames ∧ 8 + (n1 + 11) + R1.locals ≤ R.locals) (hc0 : R1.cells = 0) (hs0 : R1.slots = 0) (hcat : (st.map fun v => v.category).sum ≤ 8) (hdg : decode cc pc = .ok (.invokevirtual idx, 3)) (kk : ∀ v, Q v → cg_G w' R p l e s m args below meth c D cy ad Z kc ks nL (pc + 3) lv (v.toList ++ st) σ) : cg_G w' R p l e s m args below meth c D cy ad Z kc ks nL pc lv stk σ := by
  intro H locs ls h1 h2 h3
  subst hstk
  have hB : CallB R s args own idx y c1 n1 r1 (cg_ws y c1 n1 r1) R1 0 0 n := callB_of n hC.2.2.2.2.2.1 (cg_goodT hw5) rfl hc0 hs0 (hC.2.2.2.2.2.1 _ hw4) (hC.2.2.2.2.2.1 _ hw1) hd hroom
  have hpc := gs_pc (av := .ref sa :: As) hC hs h3
  exact gs_k hC.2.2.2.2.2.2.2.2.1 (va_runV (C := "java/lang/String") (As := As) (rest := st) (b := sa) ⟨hC.1, hC.2.1, hC.2.2.2.1, hC.2.2.2.2.1, hC.2.2.2.2.2.1⟩ (hM l D cy ad H.size) ⟨hB, hC.2.2.2.2.2.1 _ hw2, hC.2.2.2.2.2.1 _ hw3⟩ ⟨hpc.1, vk_recv (i := 0) hs.2.2.2 (by decide) h3, hpc.2⟩ rfl hn h1.1 rfl (lv_room hcat) hdg hcs) h2 h3 (fun v hq H1 locs1 g4 g5 => kk v hq H1 locs1 ls h1 g4 g5)
theorem gs_ldc (hC : cg_X w' RL cc nL ret p s m args meth c D cy ad) (hs : lw_sp sa sb (cg_F ad w'.2 s.heap.size) s s.heap) (hdg : decode cc pc = .ok (.ldc 185, 2)) (kk : cg_G w' R p l e s m args below meth c D cy ad Z kc ks nL (pc + 2) lv (.ref sa :: st) σ) : cg_G w' R p l e s m args below meth c D cy ad Z kc ks nL pc lv st σ := fun H locs ls h1 h2 h3 => va_ldcS hC.1 hC.2.1 hC.2.2.2.2.1 hs.2.2.1 hdg (kk H locs ls h1 h2 h3)
theorem gs_gets {C n d : String} {v : Value} {idx : Nat} (hC : cg_X w' own cc nL ret p s m args meth c D cy ad) (hZ : va_Z C n d v (cg_F ad w'.2 s.heap.size) s s.heap) (hw : Cond.fieldLink own idx C n d ∈ cg_T) (hdg : decode cc pc = .ok (.getstatic idx, 3)) (kk : cg_G w' R p l e s m args below meth c D cy ad Z kc ks nL (pc + 3) lv (v :: st) σ) : cg_G w' R p l e s m args below meth c D cy ad Z kc ks nL pc lv st σ := fun H locs ls h1 h2 h3 => va_gets hC.1 hC.2.1 hZ h3 hC.2.2.2.2.1 (hC.2.2.2.2.2.1 _ hw) (fun _ h => h) hdg (kk H locs ls h1 h2 h3)
theorem gs_getf {n d : String} {v : Value} {idx : Nat} (hC : cg_X w' own cc nL ret p s m args meth c D cy ad) (hE : va_OF "java/lang/String" n d v sa (cg_F ad w'.2 s.heap.size) s s.heap) (hw : Cond.fieldLink own idx "java/lang/String" n d ∈ cg_T) (hdg : decode cc pc = .ok (.getfield idx, 3)) (kk : cg_G w' R p l e s m args below meth c D cy ad Z kc ks nL (pc + 3) lv (v :: st) σ) : cg_G w' R p l e s m args below meth c D cy ad Z kc ks nL pc lv (.ref sa :: st) σ := fun H locs ls h1 h2 h3 => vk_getf hC.1 hC.2.1 hE h3 hC.2.2.2.2.1 (hC.2.2.2.2.2.1 _ hw) (fun _ h => h) hdg (kk H locs ls h1 h2 h3)
theorem gs_tlen {ty : FieldType} {t N : Nat} {f : Nat → Value} (hC : cg_X w' own cc nL ret p s m args meth c D cy ad) (hT : va_T ty t N f (cg_F ad w'.2 s.heap.size) s s.heap) (v : Int32) (hv : Int32.ofNat N = v) (hdg : decode cc pc = .ok (.arraylength, 1)) (kk : cg_G w' R p l e s m args below meth c D cy ad Z kc ks nL (pc + 1) lv (.int v :: st) σ) : cg_G w' R p l e s m args below meth c D cy ad Z kc ks nL pc lv (.ref t :: st) σ := fun H locs ls h1 h2 h3 => va_tlen hC.1 hC.2.1 hT h3 hv hdg (kk H locs ls h1 h2 h3)
theorem gs_tb {t N : Nat} {f : Nat → Value} {i : Int32} (hC : cg_X w' own cc nL ret p s m args meth c D cy ad) (hT : va_T .byte t N f (cg_F ad w'.2 s.heap.size) s s.heap) (hin : vp_in i N) (v : Value) (hv : f i.toNatClampNeg = v) (hdg : decode cc pc = .ok (.baload, 1)) (kk : cg_G w' R p l e s m args below meth c D cy ad Z kc ks nL (pc + 1) lv (v :: st) σ) : cg_G w' R p l e s m args below meth c D cy ad Z kc ks nL pc lv (.int i :: .ref t :: st) σ := fun H locs ls h1 h2 h3 => va_tb hC.1 hC.2.1 hT h3 hin hv hdg (kk H locs ls h1 h2 h3)
theorem ga_pop {v : Value} (hC : cg_X w' own cc nL ret p s m args meth c D cy ad) (hv : v.category = 1) (hdg : decode cc pc = .ok (.pop, 1)) (kk : cg_G w' R p l e s m args below meth c D cy ad Z kc ks nL (pc + 1) lv st σ) : cg_G w' R p l e s m args below meth c D cy ad Z kc ks nL pc lv (v :: st) σ := fun H locs ls h1 h2 h3 => lv_pop hC.1 hC.2.1 hdg hv (kk H locs ls h1 h2 h3)
theorem ga_nret {ty : FieldType} {x : Int32} {Q : (Nat → Nat) → Option Value → cg_S → Prop} (hC : cg_X w' own cc nL (some ty) p s m args meth c D cy ad) (hdg : decode cc pc = .ok (.ireturn, 1)) (hx : narrow ty (.int x) = .int x) (hq : Q ad (some (.int x)) σ) : cg_G w' R p l e s m args below meth c D cy ad (cg_Z w' D cy ad Q below args s) 0 0 nL pc lv [.int x] σ := fun H locs ls h1 h2 h3 => W.zret (v := x) hC.1 hC.2.1 hC.2.2.1 hx (fun t ht hW => ⟨⟨_, σ, rfl, hq, by rw [ht]; exact h2⟩, h3.F ht⟩) h3.2.2 hdg hC.2.2.2.2.2.2.1
end GS
def aimc (i : Int32) : Int32 := ([114, 102, 115, 119] : List Int32).getD i.toNatClampNeg 0
theorem aimc_n {i : Int32} (h : vp_in i 4) : (((aimc i &&& 255).toUInt32 % 65536).toInt32) = aimc i ∧ narrow .char (.int (aimc i)) = .int (aimc i) := by
  have h1 : i.toNatClampNeg < 4 := cg_lt h
  unfold aimc
  obtain h2 | h2 | h2 | h2 : i.toNatClampNeg = 0 ∨ i.toNatClampNeg = 1 ∨ i.toNatClampNeg = 2 ∨ i.toNatClampNeg = 3 := by omega
  all_goals rw [h2]; exact ⟨by decide, by decide⟩
theorem aimc_b {i : Int32} (h : vp_in i 4) : ¬ i < 0 ∧ i < 4 := by
  have h1 : i.toNatClampNeg < 4 := cg_lt h
  refine ⟨fun q => h (Or.inl q), ?_⟩
  have h2 : ¬ i < 0 := fun q => h (Or.inl q)
  rw [Int32.lt_iff_toInt_lt] at h2 ⊢
  have e0 : (0 : Int32).toInt = 0 := rfl
  have e4 : (4 : Int32).toInt = 4 := rfl
  have e : i.toNatClampNeg = i.toInt.toNat := rfl
  omega
set_option maxRecDepth 100000 in
set_option maxHeartbeats 4000000 in
theorem j_preCheck {i n : Int32} {f : Value} {sa sb : Nat} (hf : f = .null ∨ ∃ t, f = .ref t) (h1 : ¬ i < 0) (h2 : i < n) : cs_M yJ3_checkIndex_8e157 cJ3_checkIndex_8e157 3 (some .int) (cg_R 0) [.int i, .int n, f] sa sb (fun v => v = some (.int i)) := by
  have hcat : (lg_sl [.int i, .int n, f]).length ≤ 3 := by
    rcases hf with rfl | ⟨t, rfl⟩ <;> exact Nat.le_of_ble_eq_true rfl
  refine cs_entry (lv := [(0, .int i), (1, .int n), (2, f)]) (by decide +kernel) rfl hcat ?_
  intro p l e s m args below meth c D cy ad hC hs
  refine ga_iload_n hC dJ3_checkIndex_8e157_0 0 rfl rfl ?_
  refine ga_if_lt (tgt := 9) hC dJ3_checkIndex_8e157_1 (by decide) (fun hc => absurd hc h1) (fun hc => ?_)
  refine ga_iload_n hC dJ3_checkIndex_8e157_4 0 rfl rfl ?_
  refine ga_iload_n hC dJ3_checkIndex_8e157_5 1 rfl rfl ?_
  refine ga_icmp_lt (tgt := 16) hC dJ3_checkIndex_8e157_6 (by decide) (fun hc => ?_) (fun hc => absurd h2 hc)
  refine ga_iload_n hC dJ3_checkIndex_8e157_16 0 rfl rfl ?_
  exact ga_iret hC dJ3_checkIndex_8e157_17 rfl
set_option maxRecDepth 100000 in
set_option maxHeartbeats 4000000 in
theorem j_checkIndex {i n : Int32} {sa sb : Nat} (h1 : ¬ i < 0) (h2 : i < n) : cs_M yJ0_checkIndex_df160 cJ0_checkIndex_df160 2 none (cg_R 1) [.int i, .int n] sa sb (fun v => v = none) := by
  refine cs_entry (lv := [(0, .int i), (1, .int n)]) (by decide +kernel) rfl (Nat.le_of_ble_eq_true rfl) ?_
  intro p l e s m args below meth c D cy ad hC hs
  refine ga_iload_n hC dJ0_checkIndex_df160_0 0 rfl rfl ?_
  refine ga_iload_n hC dJ0_checkIndex_df160_1 1 rfl rfl ?_
  have hz := hs.2.1
  have key : ∀ f : Value, (f = .null ∨ ∃ t, f = .ref t) → va_Z "jdk/internal/util/Preconditions" "SIOOBE_FORMATTER" "Ljava/util/function/BiFunction;" f (cg_F ad 0 s.heap.size) s s.heap → cg_G cg_W0 (cg_R 1) p l e s m args below meth c D cy ad (cg_Z cg_W0 D cy ad (fun _ v _ => v = none) below args s) 0 0 2 2 [(0, .int i), (1, .int n)] [.int n, .int i] cg_s0 := fun f hf hz => by
    refine gs_gets hC hz (cg_in5 164 (by decide +kernel) (by decide +kernel)) dJ0_checkIndex_df160_2 ?_
    refine gs_callS (As := [.int i, .int n, f]) (st := []) (n := 3) hC hs (j_preCheck hf h1 h2) (cg_in5 166 (by decide +kernel) (by decide +kernel)) (cg_in5 167 (by decide +kernel) (by decide +kernel)) (cg_in1 25 (by decide +kernel) (by decide +kernel)) (cg_in5 168 (by decide +kernel) (by decide +kernel)) rfl rfl (by decide +kernel) ⟨Nat.le_of_ble_eq_true rfl, Nat.le_of_ble_eq_true rfl⟩ ⟨Nat.le_of_ble_eq_true rfl, Nat.le_of_ble_eq_true rfl⟩ rfl rfl (Nat.le_of_ble_eq_true rfl) dJ0_checkIndex_df160_5 (fun v hq => ?_)
    subst hq
    refine ga_pop hC rfl dJ0_checkIndex_df160_8 ?_
    exact ga_vret hC dJ0_checkIndex_df160_9 rfl
  rcases hz with hz | ⟨t, hz⟩
  · exact key _ (Or.inl rfl) hz
  · exact key _ (Or.inr ⟨t, rfl⟩) hz
set_option maxRecDepth 100000 in
set_option maxHeartbeats 4000000 in
theorem j_charAt1 {i : Int32} {sa sb : Nat} (h : vp_in i 4) : cs_M yJ1_charAt_3b067 cJ1_charAt_3b067 2 (some .char) (cg_R 2) [.ref sb, .int i] sa sb (fun v => v = some (.int (aimc i))) := by
  refine cs_entry (lv := [(0, .ref sb), (1, .int i)]) (by decide +kernel) rfl (Nat.le_of_ble_eq_true rfl) ?_
  intro p l e s m args below meth c D cy ad hC hs
  have hT := (hs.2.2.2.1 0 (by decide)).2.2.2
  refine ga_iload_n hC dJ1_charAt_3b067_0 1 rfl rfl ?_
  refine ga_aload_n hC dJ1_charAt_3b067_1 0 rfl rfl ?_
  refine gs_tlen hC hT 4 rfl dJ1_charAt_3b067_2 ?_
  refine gs_callS (As := [.int i, .int 4]) (st := []) (n := 2) hC hs (j_checkIndex (aimc_b h).1 (aimc_b h).2) (cg_in5 161 (by decide +kernel) (by decide +kernel)) (cg_in5 162 (by decide +kernel) (by decide +kernel)) (cg_in1 20 (by decide +kernel) (by decide +kernel)) (cg_in5 163 (by decide +kernel) (by decide +kernel)) rfl rfl (by decide +kernel) ⟨Nat.le_of_ble_eq_true rfl, Nat.le_of_ble_eq_true rfl⟩ ⟨Nat.le_of_ble_eq_true rfl, Nat.le_of_ble_eq_true rfl⟩ rfl rfl (Nat.le_of_ble_eq_true rfl) dJ1_charAt_3b067_3 (fun v hq => ?_)
  subst hq
  refine ga_aload_n hC dJ1_charAt_3b067_6 0 rfl rfl ?_
  refine ga_iload_n hC dJ1_charAt_3b067_7 1 rfl rfl ?_
  refine gs_tb hC hT h (.int (aimc i)) rfl dJ1_charAt_3b067_8 ?_
  refine ga_sipush (v := 255) hC dJ1_charAt_3b067_9 (by decide) ?_
  refine ga_iand hC dJ1_charAt_3b067_12 ?_
  refine ga_i2c hC dJ1_charAt_3b067_13 ?_
  rw [(aimc_n h).1]
  exact ga_nret hC dJ1_charAt_3b067_14 (aimc_n h).2 rfl
set_option maxRecDepth 100000 in
set_option maxHeartbeats 4000000 in
theorem j_isLatin1 {sa sb : Nat} : cs_M yJ0_isLatin1_aae02 cJ0_isLatin1_aae02 1 (some .boolean) (cg_R 0) [.ref sa] sa sb (fun v => v = some (.int 1)) := by
  refine cs_entry (lv := [(0, .ref sa)]) (by decide +kernel) rfl (Nat.le_of_ble_eq_true rfl) ?_
  intro p l e s m args below meth c D cy ad hC hs
  refine gs_gets hC hs.1 (cg_in5 156 (by decide +kernel) (by decide +kernel)) dJ0_isLatin1_aae02_0 ?_
  refine ga_if_eq (tgt := 17) hC dJ0_isLatin1_aae02_3 (by decide) (fun hc => absurd hc (by decide)) (fun hc => ?_)
  refine ga_aload_n hC dJ0_isLatin1_aae02_6 0 rfl rfl ?_
  refine gs_getf hC (hs.2.2.2.1 0 (by decide)).2.1 (cg_in6 158 (by decide +kernel) (by decide +kernel)) dJ0_isLatin1_aae02_7 ?_
  refine ga_if_ne (tgt := 17) hC dJ0_isLatin1_aae02_10 (by decide) (fun hc => absurd rfl hc) (fun hc => ?_)
  refine ga_iconst (v := 1) hC dJ0_isLatin1_aae02_13 (by decide) ?_
  refine ga_goto (tgt := 18) hC dJ0_isLatin1_aae02_14 (by decide) ?_
  exact ga_zret hC dJ0_isLatin1_aae02_18 (Or.inr rfl) rfl
set_option maxRecDepth 100000 in
set_option maxHeartbeats 4000000 in
theorem j_charAt {i : Int32} {sa sb : Nat} (h : vp_in i 4) : cs_M yJ0_charAt_5068e cJ0_charAt_5068e 2 (some .char) (cg_R 3) [.ref sa, .int i] sa sb (fun v => v = some (.int (aimc i))) := by
  refine cs_entry (lv := [(0, .ref sa), (1, .int i)]) (by decide +kernel) rfl (Nat.le_of_ble_eq_true rfl) ?_
  intro p l e s m args below meth c D cy ad hC hs
  refine ga_aload_n hC dJ0_charAt_5068e_0 0 rfl rfl ?_
  refine gs_callV (As := []) (st := []) (n := 0) hC hs j_isLatin1 (cg_in5 152 (by decide +kernel) (by decide +kernel)) (cg_in5 153 (by decide +kernel) (by decide +kernel)) (cg_in5 154 (by decide +kernel) (by decide +kernel)) (cg_in1 20 (by decide +kernel) (by decide +kernel)) (cg_in5 155 (by decide +kernel) (by decide +kernel)) rfl rfl (by decide +kernel) ⟨Nat.le_of_ble_eq_true rfl, Nat.le_of_ble_eq_true rfl⟩ ⟨Nat.le_of_ble_eq_true rfl, Nat.le_of_ble_eq_true rfl⟩ rfl rfl (Nat.le_of_ble_eq_true rfl) dJ0_charAt_5068e_1 (fun v hq => ?_)
  subst hq
  refine ga_if_eq (tgt := 16) hC dJ0_charAt_5068e_4 (by decide) (fun hc => absurd hc (by decide)) (fun hc => ?_)
  refine ga_aload_n hC dJ0_charAt_5068e_7 0 rfl rfl ?_
  refine gs_getf hC (hs.2.2.2.1 0 (by decide)).2.2.1 (cg_in6 159 (by decide +kernel) (by decide +kernel)) dJ0_charAt_5068e_8 ?_
  refine ga_iload_n hC dJ0_charAt_5068e_11 1 rfl rfl ?_
  refine gs_callS (As := [.ref sb, .int i]) (st := []) (n := 2) hC hs (j_charAt1 h) (cg_in5 158 (by decide +kernel) (by decide +kernel)) (cg_in5 159 (by decide +kernel) (by decide +kernel)) (cg_in1 24 (by decide +kernel) (by decide +kernel)) (cg_in5 160 (by decide +kernel) (by decide +kernel)) rfl rfl (by decide +kernel) ⟨Nat.le_of_ble_eq_true rfl, Nat.le_of_ble_eq_true rfl⟩ ⟨Nat.le_of_ble_eq_true rfl, Nat.le_of_ble_eq_true rfl⟩ rfl rfl (Nat.le_of_ble_eq_true rfl) dJ0_charAt_5068e_12 (fun v hq => ?_)
  subst hq
  exact ga_nret hC dJ0_charAt_5068e_15 (aimc_n h).2 rfl
