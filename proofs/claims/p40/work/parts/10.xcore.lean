/-! METHODS THAT THROW: as the layer before, with a second end -/
def cg_strs : List (Nat × String) := [(97, "no such colour"), (108, "no room for a state"), (119, "a cost is out of range"), (124, "no room for a choice"), (134, "the weight is out of range"), (143, "the sum of the weights would be too great"), (152, "no such discount"), (157, "a weight is out of range"), (164, "the choice has no weights"), (220, "the number of rounds is out of range"), (288, "the trace has no such state"), (330, "there is no trace"), (332, "the game is not whole"), (340, "no such state"), (346, "no such state or choice"), (348, "no such player"), (350, "no such aim"), (352, "the state belongs to no such set")]
def cg_isN : Cond → Bool
  | .castable .. => true
  | .declares .. => true
  | _ => false
def cg_xf (U : State) : Prop := (∀ q ∈ cg_strs, ∃ sa, vk_R "Chanceledger" q.1 q.2 sa U) ∧ ∀ w ∈ tables_1.filter cg_isN, va_Nw w U
theorem cg_isN_on {w : Cond} (h : cg_isN w = true) : w.onTables = true := by
  cases w <;> first | rfl | exact absurd h (by simp [cg_isN])
theorem cg_xf.warm {s U : State} (hW : s.WarmedH U.vm) (h : cg_xf s) : cg_xf U := by
  refine ⟨fun q hq => ?_, fun w hw => ?_⟩
  · obtain ⟨sa, h1⟩ := h.1 q hq
    exact ⟨sa, vk_R.warm hW h1⟩
  · have h0 := (List.mem_filter.mp hw).2
    have h1 := h.2 w hw
    cases w <;> first | exact va_Nw.warmC hW h1 | exact va_Nw.warmD hW h1 | (simp [cg_isN] at h0; done)
theorem cg_xf.same {s U : State} (hv : U.vm = s.vm) (h : cg_xf s) : cg_xf U := by
  refine ⟨fun q hq => ?_, fun w hw => ?_⟩
  · obtain ⟨sa, h1⟩ := h.1 q hq
    exact ⟨sa, vk_R.same hv h1⟩
  · exact va_Nw.same (cg_isN_on (List.mem_filter.mp hw).2) hv.symm (h.2 w hw)
def cg_zq (A : Nat → Prop) (U : State) (H : Heap) : Prop := vx_Zq Bundle.tN "UNASSIGNED_STACK" Bundle.steD A U H ∧ vx_Zq Bundle.tN "SUPPRESSED_SENTINEL" Bundle.listD A U H
def cg_Y (wd : cg_Wd) (own : String) (cc : ByteArray) (nL : Nat) (ret : Option FieldType) (p : Program) (l : Launch) (s : State) (m : MethodId) (args : Array Value) (meth : Method) (c : Code) (D : va_G) (cy : Nat → ClassId) (ad : Nat → Nat) : Prop :=
  cg_X wd own cc nL ret p s m args meth c D cy ad ∧ l.stackTraces = false ∧ (∀ x ∈ c.exceptionTable.toList, False) ∧ cg_xf s ∧ cg_zq (cg_F ad wd.2 s.heap.size) s s.heap
def cg_XC (wd : cg_Wd) (D : va_G) (cy : Nat → ClassId) (ad : Nat → Nat) (X : String → cg_S → Prop) (A : Nat → Prop) : String → State → State → Prop := fun E st t => (∃ τ, X E τ ∧ va_P D vwCl (cg_W wd cy ad τ) t.heap) ∧ va_F A st t
abbrev cg_ZX (wd : cg_Wd) (D : va_G) (cy : Nat → ClassId) (ad : Nat → Nat) (Q : (Nat → Nat) → Option Value → cg_S → Prop) (X : String → cg_S → Prop) (below : List Frame) (args : Array Value) (s : State) (mc ms : Nat) : State → Prop := vx_MQ below (cg_Q wd D cy ad Q (cg_F ad wd.2 s.heap.size)) (cg_XC wd D cy ad X (cg_F ad wd.2 s.heap.size)) args s mc ms (cg_F ad wd.2 s.heap.size)
def cg_LX (wd : cg_Wd) (own : String) (cc : ByteArray) (nL : Nat) (ret : Option FieldType) (R : Room) (mc ms pc : Nat) (lv : (Nat → Nat) → List (Nat × Value)) (st : (Nat → Nat) → List Value) (kc ks : Nat) (σ : cg_S) (Q : (Nat → Nat) → Option Value → cg_S → Prop) (X : String → cg_S → Prop) : Prop :=
  ∀ (p : Program) (l : Launch) (e : Env) (s : State) (m : MethodId) (args : Array Value) (below : List Frame) (meth : Method) (c : Code) (D : va_G) (cy : Nat → ClassId) (ad : Nat → Nat), cg_Y wd own cc nL ret p l s m args meth c D cy ad → cg_G wd R p l e s m args below meth c D cy ad (cg_ZX wd D cy ad Q X below args s mc ms) kc ks nL pc (lv ad) (st ad) σ
abbrev cg_PX (wd : cg_Wd) (D : va_G) (cy : Nat → ClassId) (ad : Nat → Nat) (σ : cg_S) (sz : Nat) : State → Prop := fun U => U.heap.size = sz ∧ va_P D vwCl (cg_W wd cy ad σ) U.heap ∧ va_K D vwCl (cg_tys cy) U ∧ cg_nest U ∧ cg_xf U ∧ cg_zq (cg_F ad wd.2 sz) U U.heap
def cg_MX (wd : cg_Wd) (y : MethodName) (cc : ByteArray) (nL : Nat) (ret : Option FieldType) (R : Room) (mc ms : Nat) (av : (Nat → Nat) → List Value) (σ : cg_S) (Q : (Nat → Nat) → Option Value → cg_S → Prop) (X : String → cg_S → Prop) : Prop :=
  ∀ (l : Launch) (D : va_G) (cy : Nat → ClassId) (ad : Nat → Nat) (sz : Nat), l.stackTraces = false → cg_inj ad wd.2 → vx_Met l y (cg_ws y cc nL ret) R (va_Pc (av ad) (cg_PX wd D cy ad σ sz)) (cg_Q wd D cy ad Q (cg_F ad wd.2 sz)) (cg_XC wd D cy ad X (cg_F ad wd.2 sz)) mc ms (cg_F ad wd.2 sz)
abbrev cg_RX (d mc : Nat) : Room := { frames := d + 6, cells := mc, slots := 6 * mc, locals := 64 * d + 120 }
theorem cg_xentry {wd : cg_Wd} {y : MethodName} {cc : ByteArray} {nL : Nat} {ret : Option FieldType} {R : Room} {mc ms : Nat} {av : (Nat → Nat) → List Value} {lv : (Nat → Nat) → List (Nat × Value)} {σ : cg_S} {Q : (Nat → Nat) → Option Value → cg_S → Prop} {X : String → cg_S → Prop} (hy : plainName y.cls = true) (hlv : ∀ ad, lv_args 0 (av ad) = lv ad) (hn : ∀ ad, (lg_sl (av ad)).length ≤ nL) (h : cg_LX wd y.cls cc nL ret R mc ms 0 lv (fun _ => []) 0 0 σ Q X) : cg_MX wd y cc nL ret R mc ms av σ Q X := by
  intro l D cy ad sz hst hinj
  refine vx_ofW (cc := cc) (maxL := nL) (ret := ret) hy rfl ?_
  intro p e s m args below meth c s₁ B hml hex hv
  obtain ⟨rfl, hsz, hP, hK, hN, hxf, hzq⟩ := hv
  subst hsz
  have hts := atoms_spec (ws := cg_ws y cc nL ret) B.pre
  have hX : cg_X wd y.cls cc nL ret p s m (av ad).toArray meth c D cy ad := ⟨B.exec, B.bytes, B.returns, hml, findClass_of_methodNamed B.named, fun w hw => hts w (List.mem_cons_of_mem _ hw), B.notSynchronized, hK, hinj, hN⟩
  have hl := lv_entry (av ad) (n := nL) (hn ad)
  rw [lg_entry_eq]
  rw [hlv] at hl
  exact h p l e s m _ below meth c D cy ad ⟨hX, hst, hex, hxf, hzq⟩ s.heap [] _ hl hP va_S.rf
theorem cg_MX.mono {wd : cg_Wd} {y : MethodName} {cc : ByteArray} {nL : Nat} {ret : Option FieldType} {R : Room} {mc ms : Nat} {av : (Nat → Nat) → List Value} {σ : cg_S} {Q Q' : (Nat → Nat) → Option Value → cg_S → Prop} {X X' : String → cg_S → Prop} (h : cg_MX wd y cc nL ret R mc ms av σ Q X) (hq : ∀ ad v τ, Q ad v τ → Q' ad v τ) (hx : ∀ E τ, X E τ → X' E τ) : cg_MX wd y cc nL ret R mc ms av σ Q' X' := by
  intro l D cy ad sz hst hinj
  intro p e h1 h2 h3 s m args below h4 h5 h6 h7
  obtain ⟨n, o, g1, g2, g3, g4⟩ := h l D cy ad sz hst hinj p e h1 h2 h3 s m args below h4 h5 h6 h7
  refine ⟨n, o, g1, g2, g3, ?_⟩
  rcases g4 with ⟨⟨⟨v, τ, q1, q2, q3⟩, q4⟩, q5⟩ | ⟨q, ho, E, ce, L, ⟨⟨τ, x1, x2⟩, x3⟩, x4⟩
  · exact Or.inl ⟨⟨⟨v, τ, q1, hq _ _ _ q2, q3⟩, q4⟩, q5⟩
  · exact Or.inr ⟨q, ho, E, ce, L, ⟨⟨τ, hx _ _ x1, x2⟩, x3⟩, x4⟩
theorem ns_w1 : ∀ w ∈ (ns_at "Chanceledger" 290).filter goodWord, w ∈ cg_T := by decide +kernel
theorem ns_w2 : ∀ w ∈ (ns_at "Chanceledger" 290).filter (fun w => !goodWord w), w ∈ tables_1.filter cg_isN := by decide +kernel
theorem ns_w3 : ∀ w ∈ Cond.classLink "Chanceledger" 286 ns_X :: Cond.initialized ns_X :: ns_at "Chanceledger" 290, vx_ot w = true := by decide +kernel
theorem ns_w4 : Cond.classLink "Chanceledger" 286 ns_X ∈ cg_T := by decide +kernel
theorem ns_w5 : Cond.initialized ns_X ∈ cg_T := by decide +kernel
section GX
variable {wd : cg_Wd} {own : String} {cc : ByteArray} {nL : Nat} {ret : Option FieldType} {p : Program} {l : Launch} {e : Env} {R : Room} {s : State} {m : MethodId} {args : Array Value} {below : List Frame} {meth : Method} {c : Code} {D : va_G} {cy : Nat → ClassId} {ad : Nat → Nat} {kc ks pc mc ms : Nat} {lv : List (Nat × Value)} {st : List Value} {σ : cg_S} {Q : (Nat → Nat) → Option Value → cg_S → Prop} {X : String → cg_S → Prop}
theorem gx_iret {x : Int32} (hC : cg_X wd own cc nL (some .int) p s m args meth c D cy ad) (hdg : decode cc pc = .ok (.ireturn, 1)) (hw : kc ≤ mc ∧ ks ≤ ms) (hq : Q ad (some (.int x)) σ) : cg_G wd R p l e s m args below meth c D cy ad (cg_ZX wd D cy ad Q X below args s mc ms) kc ks nL (pc) lv ([.int x]) σ := fun H locs ls h1 h2 h3 => vx_ret (W.widen (k := mc) (n := ms) hw.1 hw.2 (W.iret (v := x) hC.1 hC.2.1 hC.2.2.1 (fun t ht hW => ⟨⟨_, σ, rfl, hq, by rw [ht]; exact h2⟩, h3.F ht⟩) h3.2.2 hdg hC.2.2.2.2.2.2.1))
theorem gx_lret {x : Int64} (hC : cg_X wd own cc nL (some .long) p s m args meth c D cy ad) (hdg : decode cc pc = .ok (.lreturn, 1)) (hw : kc ≤ mc ∧ ks ≤ ms) (hq : Q ad (some (.long x)) σ) : cg_G wd R p l e s m args below meth c D cy ad (cg_ZX wd D cy ad Q X below args s mc ms) kc ks nL (pc) lv ([.long x]) σ := fun H locs ls h1 h2 h3 => vx_ret (W.widen (k := mc) (n := ms) hw.1 hw.2 (W.lret (v := x) hC.1 hC.2.1 hC.2.2.1 (fun t ht hW => ⟨⟨_, σ, rfl, hq, by rw [ht]; exact h2⟩, h3.F ht⟩) h3.2.2 hdg hC.2.2.2.2.2.2.1))
theorem gx_fret {x : UInt32} (hC : cg_X wd own cc nL (some .float) p s m args meth c D cy ad) (hdg : decode cc pc = .ok (.freturn, 1)) (hw : kc ≤ mc ∧ ks ≤ ms) (hq : Q ad (some (.float x)) σ) : cg_G wd R p l e s m args below meth c D cy ad (cg_ZX wd D cy ad Q X below args s mc ms) kc ks nL (pc) lv ([.float x]) σ := fun H locs ls h1 h2 h3 => vx_ret (W.widen (k := mc) (n := ms) hw.1 hw.2 (W.fret (v := x) hC.1 hC.2.1 hC.2.2.1 (fun t ht hW => ⟨⟨_, σ, rfl, hq, by rw [ht]; exact h2⟩, h3.F ht⟩) h3.2.2 hdg hC.2.2.2.2.2.2.1))
theorem gx_dret {x : UInt64} (hC : cg_X wd own cc nL (some .double) p s m args meth c D cy ad) (hdg : decode cc pc = .ok (.dreturn, 1)) (hw : kc ≤ mc ∧ ks ≤ ms) (hq : Q ad (some (.double x)) σ) : cg_G wd R p l e s m args below meth c D cy ad (cg_ZX wd D cy ad Q X below args s mc ms) kc ks nL (pc) lv ([.double x]) σ := fun H locs ls h1 h2 h3 => vx_ret (W.widen (k := mc) (n := ms) hw.1 hw.2 (W.dret (v := x) hC.1 hC.2.1 hC.2.2.1 (fun t ht hW => ⟨⟨_, σ, rfl, hq, by rw [ht]; exact h2⟩, h3.F ht⟩) h3.2.2 hdg hC.2.2.2.2.2.2.1))
theorem gx_zret {x : Int32} (hC : cg_X wd own cc nL (some .boolean) p s m args meth c D cy ad) (hdg : decode cc pc = .ok (.ireturn, 1)) (hw : kc ≤ mc ∧ ks ≤ ms) (hx : x = 0 ∨ x = 1) (hq : Q ad (some (.int x)) σ) : cg_G wd R p l e s m args below meth c D cy ad (cg_ZX wd D cy ad Q X below args s mc ms) kc ks nL (pc) lv ([.int x]) σ := fun H locs ls h1 h2 h3 => vx_ret (W.widen (k := mc) (n := ms) hw.1 hw.2 (W.zret (v := x) hC.1 hC.2.1 hC.2.2.1 (by rcases hx with rfl | rfl <;> decide) (fun t ht hW => ⟨⟨_, σ, rfl, hq, by rw [ht]; exact h2⟩, h3.F ht⟩) h3.2.2 hdg hC.2.2.2.2.2.2.1))
theorem gx_vret (hC : cg_X wd own cc nL none p s m args meth c D cy ad) (hdg : decode cc pc = .ok (.return_, 1)) (hw : kc ≤ mc ∧ ks ≤ ms) (hq : Q ad none σ) : cg_G wd R p l e s m args below meth c D cy ad (cg_ZX wd D cy ad Q X below args s mc ms) kc ks nL (pc) lv ([]) σ := fun H locs ls h1 h2 h3 => vx_ret (W.widen (k := mc) (n := ms) hw.1 hw.2 (W.vret hC.1 hC.2.1 hC.2.2.1 (fun t ht hW => ⟨⟨_, σ, rfl, hq, by rw [ht]; exact h2⟩, h3.F ht⟩) h3.2.2 hdg hC.2.2.2.2.2.2.1))
theorem cg_zq_at {H : Heap} {locs : List Loc} {U : State} (h : cg_zq (cg_F ad wd.2 s.heap.size) s s.heap) (h3 : va_S (cg_F ad wd.2 s.heap.size) s.heap H locs) (hvm : s.vm.Alike U.vm) : cg_zq (cg_F ad wd.2 H.size) U H := ⟨((h.1.kept h3.2.1).moved hvm).narrow (cg_F_mono h3.1), ((h.2.kept h3.2.1).moved hvm).narrow (cg_F_mono h3.1)⟩
theorem cg_xpc {av : (Nat → Nat) → List Value} {H : Heap} {locs : List Loc} (hY : cg_Y wd own cc nL ret p l s m args meth c D cy ad) (h2 : va_P D vwCl (cg_W wd cy ad σ) H) (h3 : va_S (cg_F ad wd.2 s.heap.size) s.heap H locs) : FrameBlind (va_Pc (av ad) (cg_PX wd D cy ad σ H.size)) ∧ ∀ U : State, U.heap = H → s.WarmedH U.vm → va_Pc (av ad) (cg_PX wd D cy ad σ H.size) (av ad).toArray U := by
  refine ⟨fun a U g mk q => ?_, fun U hU hW => ⟨rfl, by rw [hU], by rw [hU]; exact h2, va_K.moved hW.alike hY.1.2.2.2.2.2.2.2.1, cg_nest.warm hW hY.1.2.2.2.2.2.2.2.2.2, cg_xf.warm hW hY.2.2.2.1, by rw [hU]; exact cg_zq_at hY.2.2.2.2 h3 hW.alike⟩⟩
  obtain ⟨q0, q1, qP, qK, qN, qx, qz⟩ := q
  exact ⟨q0, q1, qP, va_K.moved (u := U) (U := U.calling g mk a) (Vm.Alike.refl U.vm) qK, cg_nest.same (s := U) (U := U.calling g mk a) rfl qN, cg_xf.same (s := U) (U := U.calling g mk a) rfl qx, ⟨vx_Zq.moved (u := U) (U := U.calling g mk a) (Vm.Alike.refl U.vm) qz.1, vx_Zq.moved (u := U) (U := U.calling g mk a) (Vm.Alike.refl U.vm) qz.2⟩⟩
theorem gx_callk {H : Heap} {locs : List Loc} {ls : Array Slot} {st0 rest : List Value} {a : Array Value} {mc1 ms1 : Nat} {Q1 : (Nat → Nat) → Option Value → cg_S → Prop} (hY : cg_Y wd own cc nL ret p l s m args meth c D cy ad) (hr : vx_Run p l e R s m args below meth c H locs kc ks mc1 ms1 (F0 m pc ls st0) rest (cg_Q wd D cy ad Q1 (cg_F ad wd.2 H.size) a) (cg_XC wd D cy ad X (cg_F ad wd.2 H.size)) (cg_F ad wd.2 H.size)) (hS : va_S (cg_F ad wd.2 s.heap.size) s.heap H locs) (hmc : kc + mc1 ≤ mc ∧ ks + ms1 ≤ ms)
    (kk : ∀ (v : Option Value) (τ : cg_S) (H1 : Heap) (locs1 : List Loc), Q1 ad v τ → va_P D vwCl (cg_W wd cy ad τ) H1 → va_S (cg_F ad wd.2 s.heap.size) s.heap H1 locs1 → W p l e R s m args below meth c H1 locs1 (kc + mc1) (ks + ms1) (cg_ZX wd D cy ad Q X below args s mc ms) (F0 m (pc + 3) ls (v.toList ++ rest))) : W p l e R s m args below meth c H locs kc ks (cg_ZX wd D cy ad Q X below args s mc ms) (F0 m pc ls st0) := by
  have hA : ∀ q, q < H.size → cg_F ad wd.2 H.size q → cg_F ad wd.2 s.heap.size q := fun q _ => cg_F_mono hS.1 q
  intro T hT X0
  rcases hr T hT X0 with ⟨v, st₀, t, T', L, h0, X', hL, e1, e2, ⟨⟨v', τ, hv, hp, hb⟩, hF⟩, st⟩ | ⟨q, st₀, t, T', L, E, ce, h0, X', hL, e1, e2, ⟨⟨τ, hp, hb⟩, hF⟩, hce, hcv, hcl, st⟩
  · cases hv
    obtain ⟨k1, k2, k3⟩ := vx_keep h0 e1 hS hA (fun q => cg_F_mono hS.1 q) hL hF
    obtain ⟨t2, a1, b1⟩ := kk v τ T'.heap (locs ++ L) hp (by rw [e1]; exact hb) k3 T' rfl X'
    exact ⟨t2, st t2 a1, b1⟩
  · obtain ⟨k1, k2, k3⟩ := vx_keep h0 e1 hS hA (fun q => cg_F_mono hS.1 q) hL hF
    obtain ⟨t2, a1, b1⟩ := vx_out (pc := pc) (ls := ls) (rest := rest) (E := E) (ce := ce) (q := q) (H := T'.heap) (mc := mc) (ms := ms) (Qc := cg_Q wd D cy ad Q (cg_F ad wd.2 s.heap.size)) (XC := cg_XC wd D cy ad X (cg_F ad wd.2 s.heap.size)) (fun x hx => (hY.2.2.1 x hx).elim) hY.1.2.2.2.2.2.2.1 (by rw [e1]; exact hce) hcv hcl (fun t2 ht2 _ => ⟨⟨τ, hp, by rw [ht2, e1]; exact hb⟩, k3.F ht2⟩) k3.2.2 hmc.1 hmc.2 T' rfl X'
    exact ⟨t2, st.trans a1, b1⟩
theorem gx_callV {y : MethodName} {c1 : ByteArray} {n1 : Nat} {r1 : Option FieldType} {R1 : Room} {idx n mc1 ms1 : Nat} {Q1 : (Nat → Nat) → Option Value → cg_S → Prop} {stk st As : List Value} {av : (Nat → Nat) → List Value} {C : String} {ci k : Nat} {T : u_T} {N : Nat} {fs : List Value} (hY : cg_Y wd own cc nL ret p l s m args meth c D cy ad) (hM : cg_MX wd y c1 n1 r1 R1 mc1 ms1 av σ Q1 X) (hw1 : Cond.methodLink own idx y ∈ cg_T) (hw2 : Cond.instanceMethod y ∈ cg_T) (hw3 : Cond.selects C y y ∈ cg_T) (hw4 : Cond.initialized y.cls ∈ cg_T) (hw5 : Cond.code y c1 n1 r1 ∈ cg_T) (hav : av ad = .ref (ad k) :: As) (hstk : stk = As.reverse ++ .ref (ad k) :: st) (hn : As.length = n) (hd : y.cls ≠ "java/lang/invoke/MethodHandle" ∧ y.cls ≠ "java/lang/invoke/VarHandle" ∧ (parseMethodDescriptor y.desc).map (fun d => d.parameters.length) = some n) (hcs : kc + mc1 ≤ R.cells ∧ ks + ms1 ≤ R.slots) (hmc : kc + mc1 ≤ mc ∧ ks + ms1 ≤ ms) (hroom : R1.frames + 1 ≤ R.frames ∧ 8 + (n1 + 11) + R1.locals ≤ R.locals) (hc0 : R1.cells = mc1) (hs0 : R1.slots = ms1) (hcell : cg_c wd cy ad σ k = .inr (ci, fs)) (hk : k < wd.2) (hcl : vwCl[ci]? = some (C, T, N)) (hcat : (st.map fun v => v.category).sum ≤ 8) (hdg : decode cc pc = .ok (.invokevirtual idx, 3)) (kk : ∀ (v : Option Value) (τ : cg_S), Q1 ad v τ → cg_G wd R p l e s m args below meth c D cy ad (cg_ZX wd D cy ad Q X below args s mc ms) (kc + mc1) (ks + ms1) nL (pc + 3) lv (v.toList ++ st) τ) : cg_G wd R p l e s m args below meth c D cy ad (cg_ZX wd D cy ad Q X below args s mc ms) kc ks nL (pc) lv (stk) σ := by
  intro H locs ls h1 h2 h3
  subst hstk
  have hM1 := hM l D cy ad H.size hY.2.1 hY.1.2.2.2.2.2.2.2.2.1
  have hB : CallB R s args own idx y c1 n1 r1 (cg_ws y c1 n1 r1) R1 mc1 ms1 n := callB_of n hY.1.2.2.2.2.2.1 (cg_goodT hw5) rfl hc0 hs0 (hY.1.2.2.2.2.2.1 _ hw4) (hY.1.2.2.2.2.2.1 _ hw1) hd hroom
  have hpc := cg_xpc (av := av) hY h2 h3
  rw [hav] at hM1 hpc
  exact gx_callk hY (vx_runV (C := C) (As := As) (rest := st) (b := ad k) ⟨hY.1.1, hY.1.2.1, hY.1.2.2.2.1, hY.1.2.2.2.2.1, hY.1.2.2.2.2.2.1⟩ hM1 ⟨hB, hY.1.2.2.2.2.2.1 _ hw2, hY.1.2.2.2.2.2.1 _ hw3⟩ ⟨hpc.1, va_recv hY.1.2.2.2.2.2.2.2.1 h2 hcl (q0 := k) ((cg_W_get hk).trans (by rw [hcell])), hpc.2⟩ rfl hn h1.1 rfl (lv_room hcat) hdg hcs) h3 hmc (fun v τ H1 locs1 hq g2 g3 => kk v τ hq H1 locs1 ls h1 g2 g3)
theorem gx_callS {y : MethodName} {c1 : ByteArray} {n1 : Nat} {r1 : Option FieldType} {R1 : Room} {idx n mc1 ms1 : Nat} {Q1 : (Nat → Nat) → Option Value → cg_S → Prop} {stk st As : List Value} {av : (Nat → Nat) → List Value} (hY : cg_Y wd own cc nL ret p l s m args meth c D cy ad) (hM : cg_MX wd y c1 n1 r1 R1 mc1 ms1 av σ Q1 X) (hw1 : Cond.methodLink own idx y ∈ cg_T) (hw2 : Cond.static y ∈ cg_T) (hw4 : Cond.initialized y.cls ∈ cg_T) (hw5 : Cond.code y c1 n1 r1 ∈ cg_T) (hav : av ad = As) (hstk : stk = As.reverse ++ st) (hn : As.length = n) (hd : y.cls ≠ "java/lang/invoke/MethodHandle" ∧ y.cls ≠ "java/lang/invoke/VarHandle" ∧ (parseMethodDescriptor y.desc).map (fun d => d.parameters.length) = some n) (hcs : kc + mc1 ≤ R.cells ∧ ks + ms1 ≤ R.slots) (hmc : kc + mc1 ≤ mc ∧ ks + ms1 ≤ ms) (hroom : R1.frames + 1 ≤ R.frames ∧ 8 + (n1 + 11) + R1.locals ≤ R.locals) (hc0 : R1.cells = mc1) (hs0 : R1.slots = ms1) (hcat : (st.map fun v => v.category).sum ≤ 8) (hdg : decode cc pc = .ok (.invokestatic idx, 3)) (kk : ∀ (v : Option Value) (τ : cg_S), Q1 ad v τ → cg_G wd R p l e s m args below meth c D cy ad (cg_ZX wd D cy ad Q X below args s mc ms) (kc + mc1) (ks + ms1) nL (pc + 3) lv (v.toList ++ st) τ) : cg_G wd R p l e s m args below meth c D cy ad (cg_ZX wd D cy ad Q X below args s mc ms) kc ks nL (pc) lv (stk) σ := by
  intro H locs ls h1 h2 h3
  subst hstk
  have hM1 := hM l D cy ad H.size hY.2.1 hY.1.2.2.2.2.2.2.2.2.1
  have hB : CallB R s args own idx y c1 n1 r1 (cg_ws y c1 n1 r1) R1 mc1 ms1 n := callB_of n hY.1.2.2.2.2.2.1 (cg_goodT hw5) rfl hc0 hs0 (hY.1.2.2.2.2.2.1 _ hw4) (hY.1.2.2.2.2.2.1 _ hw1) hd hroom
  have hpc := cg_xpc (av := av) hY h2 h3
  rw [hav] at hM1 hpc
  exact gx_callk hY (vx_runS (As := As) (rest := st) ⟨hY.1.1, hY.1.2.1, hY.1.2.2.2.1, hY.1.2.2.2.2.1, hY.1.2.2.2.2.2.1⟩ hM1 ⟨hB, hY.1.2.2.2.2.2.1 _ hw2⟩ hpc rfl hn h1.1 rfl (lv_room hcat) hdg hcs) h3 hmc (fun v τ H1 locs1 hq g2 g3 => kk v τ hq H1 locs1 ls h1 g2 g3)
theorem gx_throw {cls text : String} {names : List String} {ik is ic : Nat} (hY : cg_Y wd "Chanceledger" cc nL ret p l s m args meth c D cy ad) (hcls : Bundle.fit cls = true) (hnames : ∀ n ∈ names, Bundle.fit n = true) (hk : Cond.classLink "Chanceledger" ik cls ∈ cg_T) (hini : Cond.initialized cls ∈ cg_T) (hstr : (is, text) ∈ cg_strs) (hat1 : ∀ w ∈ (vx_atS "Chanceledger" ic cls names).filter goodWord, w ∈ cg_T) (hat2 : ∀ w ∈ (vx_atS "Chanceledger" ic cls names).filter (fun w => !goodWord w), w ∈ tables_1.filter cg_isN)
    (hgood : ∀ w ∈ Cond.classLink "Chanceledger" ik cls :: Cond.initialized cls :: vx_atS "Chanceledger" ic cls names, vx_ot w = true)
    (d0 : decode cc pc = .ok (.new ik, 3)) (d3 : decode cc (pc + 3) = .ok (.dup, 1)) (d4 : decode cc (pc + 4) = .ok (.ldc is, 2)) (d6 : decode cc (pc + 6) = .ok (.invokespecial ic, 3)) (d9 : decode cc (pc + 9) = .ok (.athrow, 1))
    (hRframes : names.length + 3 < R.frames) (hRlocals : (st.map fun v => v.category).sum + (13 * (names.length + 1) + 43) ≤ R.locals) (hR : kc + 1 ≤ R.cells ∧ ks + 6 ≤ R.slots) (hw : kc + 1 ≤ mc ∧ ks + 6 ≤ ms) (hx : X cls σ) : cg_G wd R p l e s m args below meth c D cy ad (cg_ZX wd D cy ad Q X below args s mc ms) kc ks nL (pc) lv (st) σ := by
  intro H locs ls h1 h2 h3
  obtain ⟨sa, hsa⟩ := hY.2.2.2.1.1 _ hstr
  refine vx_throwS (A := cg_F ad wd.2 s.heap.size) hY.1.1 hY.1.2.1 hY.2.1 hY.1.2.2.2.2.1 hcls hnames (hY.1.2.2.2.2.2.1 _ hk) (hY.1.2.2.2.2.2.1 _ hini) hsa (vx_hat (fun w hw => hY.1.2.2.2.2.2.1 _ (hat1 w hw)) hat2 (fun w hw => va_Nw.use (cg_isN_on (List.mem_filter.mp hw).2) (hY.2.2.2.1.2 w hw))) hgood hY.2.2.2.2.1 hY.2.2.2.2.2 h3 (h1.1.trans hY.1.2.2.2.1.symm) d0 d3 d4 d6 d9 (fun x hx => (hY.2.2.1 x hx).elim) hRframes hRlocals hR.1 hR.2 hY.1.2.2.2.2.2.2.1 (fun t hvm hz hk9 => ?_) h3.2.2 hw.1 hw.2
  refine ⟨⟨σ, hx, fun k q hq => (h2 k q hq).kept (hk9 q.1 (h2 k q hq).lt)⟩, Nat.le_trans h3.1 hz, fun q hq hA => ?_⟩
  rw [hk9 q (Nat.lt_of_lt_of_le hq h3.1)]
  exact h3.2.1 q hq hA
theorem gx_throwW {cls text : String} {names : List String} {ik is ic : Nat} (hY : cg_Y wd "Chanceledger" cc nL ret p l s m args meth c D cy ad) (hcls : Bundle.fit cls = true) (hnames : ∀ n ∈ names, Bundle.fit n = true) (hk : Cond.classLink "Chanceledger" ik cls ∈ cg_T) (hini : Cond.initialized cls ∈ cg_T) (hstr : (is, text) ∈ cg_strs) (hat1 : ∀ w ∈ (vx_atS "Chanceledger" ic cls names).filter goodWord, w ∈ cg_T) (hat2 : ∀ w ∈ (vx_atS "Chanceledger" ic cls names).filter (fun w => !goodWord w), w ∈ tables_1.filter cg_isN)
    (hgood : ∀ w ∈ Cond.classLink "Chanceledger" ik cls :: Cond.initialized cls :: vx_atS "Chanceledger" ic cls names, vx_ot w = true)
    (d0 : decode cc pc = .ok (.new ik, 3)) (d3 : decode cc (pc + 3) = .ok (.dup, 1)) (d4 : decode cc (pc + 4) = .ok (.ldc_w is, 3)) (d6 : decode cc (pc + 7) = .ok (.invokespecial ic, 3)) (d9 : decode cc (pc + 10) = .ok (.athrow, 1))
    (hRframes : names.length + 3 < R.frames) (hRlocals : (st.map fun v => v.category).sum + (13 * (names.length + 1) + 43) ≤ R.locals) (hR : kc + 1 ≤ R.cells ∧ ks + 6 ≤ R.slots) (hw : kc + 1 ≤ mc ∧ ks + 6 ≤ ms) (hx : X cls σ) : cg_G wd R p l e s m args below meth c D cy ad (cg_ZX wd D cy ad Q X below args s mc ms) kc ks nL (pc) lv (st) σ := by
  intro H locs ls h1 h2 h3
  obtain ⟨sa, hsa⟩ := hY.2.2.2.1.1 _ hstr
  refine vx_throwSW (A := cg_F ad wd.2 s.heap.size) hY.1.1 hY.1.2.1 hY.2.1 hY.1.2.2.2.2.1 hcls hnames (hY.1.2.2.2.2.2.1 _ hk) (hY.1.2.2.2.2.2.1 _ hini) hsa (vx_hat (fun w hw => hY.1.2.2.2.2.2.1 _ (hat1 w hw)) hat2 (fun w hw => va_Nw.use (cg_isN_on (List.mem_filter.mp hw).2) (hY.2.2.2.1.2 w hw))) hgood hY.2.2.2.2.1 hY.2.2.2.2.2 h3 (h1.1.trans hY.1.2.2.2.1.symm) d0 d3 d4 d6 d9 (fun x hx => (hY.2.2.1 x hx).elim) hRframes hRlocals hR.1 hR.2 hY.1.2.2.2.2.2.2.1 (fun t hvm hz hk9 => ?_) h3.2.2 hw.1 hw.2
  refine ⟨⟨σ, hx, fun k q hq => (h2 k q hq).kept (hk9 q.1 (h2 k q hq).lt)⟩, Nat.le_trans h3.1 hz, fun q hq hA => ?_⟩
  rw [hk9 q (Nat.lt_of_lt_of_le hq h3.1)]
  exact h3.2.1 q hq hA
theorem gx_throwN {is : Nat} {text : String} (hY : cg_Y wd "Chanceledger" cc nL ret p l s m args meth c D cy ad) (hstr : (is, text) ∈ cg_strs) (d0 : decode cc pc = .ok (.new 286, 3)) (d3 : decode cc (pc + 3) = .ok (.dup, 1)) (d4 : decode cc (pc + 4) = .ok (.ldc is, 2)) (d6 : decode cc (pc + 6) = .ok (.invokespecial 290, 3)) (d9 : decode cc (pc + 9) = .ok (.athrow, 1))
    (hRframes : 5 < R.frames) (hRlocals : (st.map fun v => v.category).sum + 82 ≤ R.locals) (hR : kc + 1 ≤ R.cells ∧ ks + 6 ≤ R.slots) (hw : kc + 1 ≤ mc ∧ ks + 6 ≤ ms) (hx : X "java/util/NoSuchElementException" σ) : cg_G wd R p l e s m args below meth c D cy ad (cg_ZX wd D cy ad Q X below args s mc ms) kc ks nL (pc) lv (st) σ := by
  intro H locs ls h1 h2 h3
  obtain ⟨sa, hsa⟩ := hY.2.2.2.1.1 _ hstr
  refine ns_throwS (A := cg_F ad wd.2 s.heap.size) hY.1.1 hY.1.2.1 hY.2.1 hY.1.2.2.2.2.1 (hY.1.2.2.2.2.2.1 _ ns_w4) (hY.1.2.2.2.2.2.1 _ ns_w5) hsa (vx_hat (fun w hw => hY.1.2.2.2.2.2.1 _ (ns_w1 w hw)) ns_w2 (fun w hw => va_Nw.use (cg_isN_on (List.mem_filter.mp hw).2) (hY.2.2.2.1.2 w hw))) ns_w3 hY.2.2.2.2.1 hY.2.2.2.2.2 h3 (h1.1.trans hY.1.2.2.2.1.symm) d0 d3 d4 d6 d9 (fun x hx => (hY.2.2.1 x hx).elim) (Nat.lt_of_le_of_lt (by decide) hRframes) (Nat.le_trans (by omega) hRlocals) hR.1 hR.2 hY.1.2.2.2.2.2.2.1 (fun t hvm hz hk9 => ?_) h3.2.2 hw.1 hw.2
  refine ⟨⟨σ, hx, fun k q hq => (h2 k q hq).kept (hk9 q.1 (h2 k q hq).lt)⟩, Nat.le_trans h3.1 hz, fun q hq hA => ?_⟩
  rw [hk9 q (Nat.lt_of_lt_of_le hq h3.1)]
  exact h3.2.1 q hq hA
theorem gx_throwNW {is : Nat} {text : String} (hY : cg_Y wd "Chanceledger" cc nL ret p l s m args meth c D cy ad) (hstr : (is, text) ∈ cg_strs) (d0 : decode cc pc = .ok (.new 286, 3)) (d3 : decode cc (pc + 3) = .ok (.dup, 1)) (d4 : decode cc (pc + 4) = .ok (.ldc_w is, 3)) (d6 : decode cc (pc + 7) = .ok (.invokespecial 290, 3)) (d9 : decode cc (pc + 10) = .ok (.athrow, 1))
    (hRframes : 5 < R.frames) (hRlocals : (st.map fun v => v.category).sum + 82 ≤ R.locals) (hR : kc + 1 ≤ R.cells ∧ ks + 6 ≤ R.slots) (hw : kc + 1 ≤ mc ∧ ks + 6 ≤ ms) (hx : X "java/util/NoSuchElementException" σ) : cg_G wd R p l e s m args below meth c D cy ad (cg_ZX wd D cy ad Q X below args s mc ms) kc ks nL (pc) lv (st) σ := by
  intro H locs ls h1 h2 h3
  obtain ⟨sa, hsa⟩ := hY.2.2.2.1.1 _ hstr
  refine ns_throwSW (A := cg_F ad wd.2 s.heap.size) hY.1.1 hY.1.2.1 hY.2.1 hY.1.2.2.2.2.1 (hY.1.2.2.2.2.2.1 _ ns_w4) (hY.1.2.2.2.2.2.1 _ ns_w5) hsa (vx_hat (fun w hw => hY.1.2.2.2.2.2.1 _ (ns_w1 w hw)) ns_w2 (fun w hw => va_Nw.use (cg_isN_on (List.mem_filter.mp hw).2) (hY.2.2.2.1.2 w hw))) ns_w3 hY.2.2.2.2.1 hY.2.2.2.2.2 h3 (h1.1.trans hY.1.2.2.2.1.symm) d0 d3 d4 d6 d9 (fun x hx => (hY.2.2.1 x hx).elim) (Nat.lt_of_le_of_lt (by decide) hRframes) (Nat.le_trans (by omega) hRlocals) hR.1 hR.2 hY.1.2.2.2.2.2.2.1 (fun t hvm hz hk9 => ?_) h3.2.2 hw.1 hw.2
  refine ⟨⟨σ, hx, fun k q hq => (h2 k q hq).kept (hk9 q.1 (h2 k q hq).lt)⟩, Nat.le_trans h3.1 hz, fun q hq hA => ?_⟩
  rw [hk9 q (Nat.lt_of_lt_of_le hq h3.1)]
  exact h3.2.1 q hq hA
theorem ga_widen {Z : State → Prop} {k n : Nat} (h1 : kc ≤ k) (h2 : ks ≤ n) (kk : cg_G wd R p l e s m args below meth c D cy ad Z k n nL pc lv st σ) : cg_G wd R p l e s m args below meth c D cy ad Z kc ks nL pc lv st σ := fun H locs ls a b d => W.widen h1 h2 (kk H locs ls a b d)
end GX
