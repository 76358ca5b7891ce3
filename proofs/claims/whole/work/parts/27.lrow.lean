/-! ROWS OF THE LAW'S BODY: calls into the two worlds, the script, the switch -/
section GL2
variable {cc : ByteArray} {nL : Nat} {ret : Option FieldType} {p : Program} {l : Launch} {e : Env} {R : Room} {s : State} {m : MethodId} {args : Array Value} {below : List Frame} {meth : Method} {c : Code} {D : va_G} {cy : Nat → ClassId} {ad : Nat → Nat} {kc ks pc : Nat} {lv : List (Nat × Value)} {st : List Value} {hh : List (Nat × Nat × Nat × Nat)} {a b : cg_S} {o : Nat → Int64} {od : Nat → UInt64} {Z : State → Prop} {own : String} {σ : cg_S}
theorem cg_XM (hC : cg_X cg_WL own cc nL ret p s m args meth c D cy ad) : cg_X cg_WM own cc nL ret p s m args meth c D cy (fun j => ad (88 + j)) := ⟨hC.1, hC.2.1, hC.2.2.1, hC.2.2.2.1, hC.2.2.2.2.1, hC.2.2.2.2.2.1, hC.2.2.2.2.2.2.1, hC.2.2.2.2.2.2.2.1, cg_injM hC.2.2.2.2.2.2.2.2.1, hC.2.2.2.2.2.2.2.2.2⟩
theorem cg_XL (hC : cg_X cg_WL own cc nL ret p s m args meth c D cy ad) : cg_X cg_WC own cc nL ret p s m args meth c D cy ad := ⟨hC.1, hC.2.1, hC.2.2.1, hC.2.2.2.1, hC.2.2.2.2.1, hC.2.2.2.2.2.1, hC.2.2.2.2.2.2.1, hC.2.2.2.2.2.2.2.1, cg_injC hC.2.2.2.2.2.2.2.2.1, hC.2.2.2.2.2.2.2.2.2⟩
theorem gl_kM {H : Heap} {locs : List Loc} {ls : Array Slot} {st0 rest : List Value} {aa : Array Value} {Q : (Nat → Nat) → Option Value → cg_S → Prop} (hinj : cg_inj ad 123) (hr : va_Run p l e R s m args below meth c H locs kc ks 0 0 (F0 m pc ls st0) rest (cg_Q cg_WM D cy (fun j => ad (88 + j)) Q (cg_F (fun j => ad (88 + j)) 33 H.size) aa) (cg_F (fun j => ad (88 + j)) 33 H.size)) (h2 : va_P D vwCl (cg_W cg_WL cy ad (jn a b o od)) H) (hS : va_S (cg_F ad 123 s.heap.size) s.heap H locs)
    (kk : ∀ (v : Option Value) (τ : cg_S) (H1 : Heap) (locs1 : List Loc), Q (fun j => ad (88 + j)) v τ → va_P D vwCl (cg_W cg_WL cy ad (jn a τ o od)) H1 → va_S (cg_F ad 123 s.heap.size) s.heap H1 locs1 → W p l e R s m args below meth c H1 locs1 kc ks Z (F0 m (pc + 3) ls (v.toList ++ rest))) : W p l e R s m args below meth c H locs kc ks Z (F0 m pc ls st0) := by
  have hA : ∀ q, q < H.size → cg_F (fun j => ad (88 + j)) 33 H.size q → cg_F ad 123 s.heap.size q := fun q _ => cg_FM hS.1 q
  intro T hT X0
  obtain ⟨v, st₀, t, T', L, h0, X', hL, e1, e2, ⟨⟨v', τ, hv, hp, hb⟩, hF⟩, st⟩ := hr T hT X0
  cases hv
  obtain ⟨k1, k2, k3⟩ := vx_keep h0 e1 hS hA (fun q => cg_FM hS.1 q) hL hF
  obtain ⟨t2, a1, b1⟩ := kk v τ T'.heap (locs ++ L) hp (jn_putM hinj h2 k2 (by rw [e1]; exact hb)) k3 T' rfl X'
  exact ⟨t2, st t2 a1, b1⟩
theorem gl_kC0 {H : Heap} {locs : List Loc} {ls : Array Slot} {st0 rest : List Value} {aa : Array Value} {Q : (Nat → Nat) → Option Value → cg_S → Prop} (hinj : cg_inj ad 123) (hr : va_Run p l e R s m args below meth c H locs kc ks 0 0 (F0 m pc ls st0) rest (cg_Q cg_WC D cy ad Q (cg_F ad 88 H.size) aa) (cg_F ad 88 H.size)) (h2 : va_P D vwCl (cg_W cg_WL cy ad (jn a b o od)) H) (hS : va_S (cg_F ad 123 s.heap.size) s.heap H locs)
    (kk : ∀ (v : Option Value) (τ : cg_S) (H1 : Heap) (locs1 : List Loc), Q ad v τ → va_P D vwCl (cg_W cg_WL cy ad (jn τ b o od)) H1 → va_S (cg_F ad 123 s.heap.size) s.heap H1 locs1 → W p l e R s m args below meth c H1 locs1 kc ks Z (F0 m (pc + 3) ls (v.toList ++ rest))) : W p l e R s m args below meth c H locs kc ks Z (F0 m pc ls st0) := by
  have hA : ∀ q, q < H.size → cg_F ad 88 H.size q → cg_F ad 123 s.heap.size q := fun q _ => cg_FC hS.1 q
  intro T hT X0
  obtain ⟨v, st₀, t, T', L, h0, X', hL, e1, e2, ⟨⟨v', τ, hv, hp, hb⟩, hF⟩, st⟩ := hr T hT X0
  cases hv
  obtain ⟨k1, k2, k3⟩ := vx_keep h0 e1 hS hA (fun q => cg_FC hS.1 q) hL hF
  obtain ⟨t2, a1, b1⟩ := kk v τ T'.heap (locs ++ L) hp (jn_putC hinj h2 k2 (by rw [e1]; exact hb)) k3 T' rfl X'
  exact ⟨t2, st t2 a1, b1⟩
/-- a call of a method of the reference -/
theorem gl_callM {y : MethodName} {c1 : ByteArray} {n1 : Nat} {r1 : Option FieldType} {R1 : Room} {idx n : Nat} {stk As : List Value} {av : (Nat → Nat) → List Value} {Q : (Nat → Nat) → Option Value → cg_S → Prop} (hC : cg_X cg_WL own cc nL ret p s m args meth c D cy ad) (hM : cg_M cg_WM y c1 n1 r1 R1 av b Q) (hw1 : Cond.methodLink own idx y ∈ cg_T) (hw2 : Cond.instanceMethod y ∈ cg_T) (hw3 : Cond.selects "ChanceledgerModel" y y ∈ cg_T) (hw4 : Cond.initialized y.cls ∈ cg_T) (hw5 : Cond.code y c1 n1 r1 ∈ cg_T) (hav : av (fun j => ad (88 + j)) = .ref (ad 88) :: As) (hstk : stk = As.reverse ++ .ref (ad 88) :: st) (hn : As.length = n) (hd : y.cls ≠ "java/lang/invoke/MethodHandle" ∧ y.cls ≠ "java/lang/invoke/VarHandle" ∧ (parseMethodDescriptor y.desc).map (fun d => d.parameters.length) = some n) (hcs : kc ≤ R.cells ∧ ks ≤ R.slots) (hroom : R1.frames + 1 ≤ R.frames ∧ 8 + (n1 + 11) + R1.locals ≤ R.locals) (hc0 : R1.cells = 0) (hs0 : R1.slots = 0) (hcat : (st.map fun v => v.category).sum ≤ 8) (hdg : decode cc pc = .ok (.invokevirtual idx, 3)) (kk : ∀ (v : Option Value) (τ : cg_S), Q (fun j => ad (88 + j)) v τ → cg_G cg_WL R p l e s m args below meth c D cy ad Z kc ks nL (pc + 3) lv (v.toList ++ st) (jn a τ o od)) : cg_G cg_WL R p l e s m args below meth c D cy ad Z kc ks nL (pc) lv (stk) (jn a b o od) := by
  intro H locs ls h1 h2 h3
  subst hstk
  have hCM := cg_XM hC
  have hM1 := hM l D cy (fun j => ad (88 + j)) H.size hCM.2.2.2.2.2.2.2.2.1
  have hB : CallB R s args own idx y c1 n1 r1 (cg_ws y c1 n1 r1) R1 0 0 n := callB_of n hC.2.2.2.2.2.1 (cg_goodT hw5) rfl hc0 hs0 (hC.2.2.2.2.2.1 _ hw4) (hC.2.2.2.2.2.1 _ hw1) hd hroom
  have hpc := cg_pc (y := y) (c1 := c1) (n1 := n1) (r1 := r1) (av := av) hCM (jn_M h2)
  rw [hav] at hM1 hpc
  exact gl_kM hC.2.2.2.2.2.2.2.2.1 (va_runV (C := "ChanceledgerModel") (As := As) (rest := st) (b := ad 88) ⟨hC.1, hC.2.1, hC.2.2.2.1, hC.2.2.2.2.1, hC.2.2.2.2.2.1⟩ hM1 ⟨hB, hC.2.2.2.2.2.1 _ hw2, hC.2.2.2.2.2.1 _ hw3⟩ ⟨hpc.1, va_recv hC.2.2.2.2.2.2.2.1 (jn_M h2) (rfl : vwCl[14]? = some (RX12, TX12, 44)) (q0 := 0) ((cg_W_get (wd := cg_WM) (k := 0) (by decide)).trans rfl), hpc.2⟩ rfl hn h1.1 rfl (lv_room hcat) hdg hcs) h2 h3 (fun v τ H1 locs1 hq g2 g3 => kk v τ hq H1 locs1 ls h1 g2 g3)
/-- a call of a method of the class that doesn't throw -/
theorem gl_callC {y : MethodName} {c1 : ByteArray} {n1 : Nat} {r1 : Option FieldType} {R1 : Room} {idx n : Nat} {stk As : List Value} {av : (Nat → Nat) → List Value} {Q : (Nat → Nat) → Option Value → cg_S → Prop} (hC : cg_X cg_WL own cc nL ret p s m args meth c D cy ad) (hM : cg_M cg_WC y c1 n1 r1 R1 av a Q) (hw1 : Cond.methodLink own idx y ∈ cg_T) (hw2 : Cond.instanceMethod y ∈ cg_T) (hw3 : Cond.selects "Chanceledger" y y ∈ cg_T) (hw4 : Cond.initialized y.cls ∈ cg_T) (hw5 : Cond.code y c1 n1 r1 ∈ cg_T) (hav : av ad = .ref (ad 0) :: As) (hstk : stk = As.reverse ++ .ref (ad 0) :: st) (hn : As.length = n) (hd : y.cls ≠ "java/lang/invoke/MethodHandle" ∧ y.cls ≠ "java/lang/invoke/VarHandle" ∧ (parseMethodDescriptor y.desc).map (fun d => d.parameters.length) = some n) (hcs : kc ≤ R.cells ∧ ks ≤ R.slots) (hroom : R1.frames + 1 ≤ R.frames ∧ 8 + (n1 + 11) + R1.locals ≤ R.locals) (hc0 : R1.cells = 0) (hs0 : R1.slots = 0) (hcat : (st.map fun v => v.category).sum ≤ 8) (hdg : decode cc pc = .ok (.invokevirtual idx, 3)) (kk : ∀ (v : Option Value) (τ : cg_S), Q ad v τ → cg_G cg_WL R p l e s m args below meth c D cy ad Z kc ks nL (pc + 3) lv (v.toList ++ st) (jn τ b o od)) : cg_G cg_WL R p l e s m args below meth c D cy ad Z kc ks nL (pc) lv (stk) (jn a b o od) := by
  intro H locs ls h1 h2 h3
  subst hstk
  have hCM := cg_XL hC
  have hM1 := hM l D cy ad H.size hCM.2.2.2.2.2.2.2.2.1
  have hB : CallB R s args own idx y c1 n1 r1 (cg_ws y c1 n1 r1) R1 0 0 n := callB_of n hC.2.2.2.2.2.1 (cg_goodT hw5) rfl hc0 hs0 (hC.2.2.2.2.2.1 _ hw4) (hC.2.2.2.2.2.1 _ hw1) hd hroom
  have hpc := cg_pc (y := y) (c1 := c1) (n1 := n1) (r1 := r1) (av := av) hCM (jn_C h2)
  rw [hav] at hM1 hpc
  exact gl_kC0 hC.2.2.2.2.2.2.2.2.1 (va_runV (C := "Chanceledger") (As := As) (rest := st) (b := ad 0) ⟨hC.1, hC.2.1, hC.2.2.2.1, hC.2.2.2.2.1, hC.2.2.2.2.2.1⟩ hM1 ⟨hB, hC.2.2.2.2.2.1 _ hw2, hC.2.2.2.2.2.1 _ hw3⟩ ⟨hpc.1, va_recv hC.2.2.2.2.2.2.2.1 (jn_C h2) (rfl : vwCl[13]? = some (RX11, TX11, 11)) (q0 := 0) ((cg_W_get (wd := cg_WC) (k := 0) (by decide)).trans rfl), hpc.2⟩ rfl hn h1.1 rfl (lv_room hcat) hdg hcs) h2 h3 (fun v τ H1 locs1 hq g2 g3 => kk v τ hq H1 locs1 ls h1 g2 g3)
/-- what is known throughout the law's body -/
def cl_K (l : Launch) (s : State) (ad : Nat → Nat) : Prop := l.stackTraces = false ∧ cg_xf s ∧ cg_zq (cg_F ad 123 s.heap.size) s s.heap ∧ lw_nc s
theorem gl_pL {av : (Nat → Nat) → List Value} {H : Heap} {locs : List Loc} (hC : cg_X cg_WL own cc nL ret p s m args meth c D cy ad) (hK : cl_K l s ad) (h2 : va_P D vwCl (cg_W cg_WL cy ad σ) H) (h3 : va_S (cg_F ad 123 s.heap.size) s.heap H locs) : FrameBlind (va_Pc (av ad) (cl_PX D cy ad σ H.size)) ∧ ∀ U : State, U.heap = H → s.WarmedH U.vm → va_Pc (av ad) (cl_PX D cy ad σ H.size) (av ad).toArray U := by
  refine ⟨fun a U g mk q => ?_, fun U hU hW => ⟨rfl, ⟨by rw [hU], by rw [hU]; exact h2, va_K.moved hW.alike hC.2.2.2.2.2.2.2.1, cg_nest.warm hW hC.2.2.2.2.2.2.2.2.2, cg_xf.warm hW hK.2.1, by rw [hU]; exact cg_zq_at (wd := cg_WL) hK.2.2.1 h3 hW.alike⟩, lw_nc.warm hW hK.2.2.2⟩⟩
  obtain ⟨q0, ⟨q1, qP, qK, qN, qx, qz⟩, qn⟩ := q
  exact ⟨q0, ⟨q1, qP, va_K.moved (u := U) (U := U.calling g mk a) (Vm.Alike.refl U.vm) qK, cg_nest.same (s := U) (U := U.calling g mk a) rfl qN, cg_xf.same (s := U) (U := U.calling g mk a) rfl qx, ⟨vx_Zq.moved (u := U) (U := U.calling g mk a) (Vm.Alike.refl U.vm) qz.1, vx_Zq.moved (u := U) (U := U.calling g mk a) (Vm.Alike.refl U.vm) qz.2⟩⟩, lw_nc.same (s := U) (U := U.calling g mk a) rfl qn⟩
theorem cl_goodT {y : MethodName} {cc : ByteArray} {nL : Nat} {hh : List (Nat × Nat × Nat × Nat)} (hy : Cond.codeWith y cc nL (some .int) hh ∈ cg_T) : GoodIn cg_T (cl_ws y cc nL hh) := by
  intro w hw
  rcases List.mem_cons.mp hw with rfl | hw
  · exact ⟨hy, good_of_word (List.mem_filter.mp hy).2⟩
  · exact ⟨hw, good_of_word (List.mem_filter.mp hw).2⟩
/-- a call of a wrapper -/
theorem gl_callS {y : MethodName} {c1 : ByteArray} {n1 : Nat} {h1h : List (Nat × Nat × Nat × Nat)} {R1 : Room} {idx n mc1 ms1 : Nat} {Q1 : (Nat → Nat) → Option Value → cg_S → Prop} {stk As : List Value} {av : (Nat → Nat) → List Value} (hC : cg_X cg_WL RL cc nL ret p s m args meth c D cy ad) (hK : cl_K l s ad) (hM : cl_M y c1 n1 h1h R1 mc1 ms1 av σ Q1) (hw1 : Cond.methodLink RL idx y ∈ cg_T) (hw2 : Cond.static y ∈ cg_T) (hw4 : Cond.initialized y.cls ∈ cg_T) (hw5 : Cond.codeWith y c1 n1 (some .int) h1h ∈ cg_T) (hav : av ad = As) (hstk : stk = As.reverse ++ st) (hn : As.length = n) (hd : y.cls ≠ "java/lang/invoke/MethodHandle" ∧ y.cls ≠ "java/lang/invoke/VarHandle" ∧ (parseMethodDescriptor y.desc).map (fun d => d.parameters.length) = some n) (hcr : kc + mc1 ≤ R.cells ∧ ks + ms1 ≤ R.slots) (hroom : R1.frames + 1 ≤ R.frames ∧ 8 + (n1 + 11) + R1.locals ≤ R.locals) (hc0 : R1.cells = mc1) (hs0 : R1.slots = ms1) (hcat : (st.map fun v => v.category).sum ≤ 8) (hdg : decode cc pc = .ok (.invokestatic idx, 3))
    (kk : ∀ (v : Option Value) (τ : cg_S), Q1 ad v τ → cg_G cg_WL R p l e s m args below meth c D cy ad Z (kc + mc1) (ks + ms1) nL (pc + 3) lv (v.toList ++ st) τ) : cg_G cg_WL R p l e s m args below meth c D cy ad Z kc ks nL (pc) lv (stk) σ := by
  intro H locs ls h1 h2 h3
  subst hstk
  have hM1 := hM l D cy ad H.size hK.1 hC.2.2.2.2.2.2.2.2.1
  have hG := cl_goodT hw5
  have hB : vx_CSW R s args RL idx y c1 n1 (some .int) h1h (cl_ws y c1 n1 h1h) R1 mc1 ms1 n := by
    refine ⟨⟨hc0, hs0, hroom.1, hroom.2, pay_in hC.2.2.2.2.2.1 hG, List.mem_cons_self⟩, hC.2.2.2.2.2.1 _ hw5, hC.2.2.2.2.2.1 _ hw4, ⟨hd.1, hd.2.1⟩, fun sig h => ?_, hC.2.2.2.2.2.1 _ hw1, hC.2.2.2.2.2.1 _ hw2⟩
    have h2 := hd.2.2
    rw [h] at h2
    exact (Option.some.inj h2).symm
  have hpc := gl_pL (av := av) hC hK h2 h3
  rw [hav] at hM1 hpc
  have hr := vx_runSX (As := As) (rest := st) ⟨hC.1, hC.2.1, hC.2.2.2.1, hC.2.2.2.2.1, hC.2.2.2.2.2.1⟩ hM1 hB ⟨hpc.1, hpc.2⟩ (g := F0 m pc ls (As.reverse ++ st)) (p := p) (e := e) (below := below) (meth := meth) (locs := locs) (cells := kc) (slots := ks) rfl hn h1.1 rfl (lv_room hcat) hdg hcr
  have hA : ∀ q, q < H.size → cg_F ad 123 H.size q → cg_F ad 123 s.heap.size q := fun q _ => cg_F_mono h3.1 q
  intro T hT X0
  rcases hr T hT X0 with ⟨v, st₀, t, T', L, h0, X', hL, e1, e2, ⟨⟨v', τ, hv, hp, hb⟩, hF⟩, st⟩ | ⟨q, st₀, t, T', L, E, ce, h0, X', hL, e1, e2, ⟨⟨τ, hp, hb⟩, hF⟩, hce, hcv, hcl, st⟩
  · cases hv
    obtain ⟨k1, k2, k3⟩ := vx_keep h0 e1 h3 hA (fun q => cg_F_mono h3.1 q) hL hF
    obtain ⟨t2, a1, b1⟩ := kk v τ hp T'.heap (locs ++ L) ls h1 (by rw [e1]; exact hb) k3 T' rfl X'
    exact ⟨t2, st t2 a1, b1⟩
  · exact hp.elim
/-- the script: its k-th int of the call at hand -/
theorem gl_ix {n L : Nat} {k : Int32} {j : Nat} (hk : k = Int32.ofNat j) (hj : j ≤ 4) (hL : 5 * n + 5 ≤ L) (hL2 : L ≤ 2560) : vp_in (Int32.ofNat (5 * n) + k) L ∧ (Int32.ofNat (5 * n) + k).toNatClampNeg = 5 * n + j := by
  subst hk
  rw [← Int32.ofNat_add]
  have h1 : (Int32.ofNat (5 * n + j)).toInt = ((5 * n + j : Nat) : Int) := Int32.toInt_ofNat_of_lt (by omega)
  have h2 : (Int32.ofNat (5 * n + j)).toNatClampNeg = 5 * n + j := by
    show (Int32.ofNat (5 * n + j)).toInt.toNat = _
    rw [h1]; rfl
  refine ⟨?_, h2⟩
  rintro (h | h)
  · rw [Int32.lt_iff_toInt_lt, h1] at h
    have : (0 : Int32).toInt = 0 := rfl
    omega
  · rw [h2] at h
    omega
theorem gl_sld {sb L : Nat} {xs : Nat → Int32} {i x : Int32} (hC : cg_X cg_WL own cc nL ret p s m args meth c D cy ad) (hX : va_X sb L xs s s.heap) (hbl : sb < s.heap.size) (hbA : ¬ cg_F ad 123 s.heap.size sb) (hin : vp_in i L) (hx : xs i.toNatClampNeg = x) (hdg : decode cc pc = .ok (.iaload, 1)) (kk : cg_G cg_WL R p l e s m args below meth c D cy ad Z kc ks nL (pc + 1) lv (.int x :: st) σ) : cg_G cg_WL R p l e s m args below meth c D cy ad Z kc ks nL pc lv (.int i :: .ref sb :: st) σ := by
  subst hx
  exact fun H locs ls h1 h2 h3 => va_sld hC.1 hC.2.1 hX hbl hbA h3 hin hdg (kk H locs ls h1 h2 h3)
theorem gl_slen {sb L : Nat} {xs : Nat → Int32} (hC : cg_X cg_WL own cc nL ret p s m args meth c D cy ad) (hX : va_X sb L xs s s.heap) (hbl : sb < s.heap.size) (hbA : ¬ cg_F ad 123 s.heap.size sb) (hdg : decode cc pc = .ok (.arraylength, 1)) (kk : cg_G cg_WL R p l e s m args below meth c D cy ad Z kc ks nL (pc + 1) lv (.int (Int32.ofNat L) :: st) σ) : cg_G cg_WL R p l e s m args below meth c D cy ad Z kc ks nL pc lv (.ref sb :: st) σ :=
  fun H locs ls h1 h2 h3 => va_slen hC.1 hC.2.1 hX hbl hbA h3 hdg (kk H locs ls h1 h2 h3)
/-- an argument out of the script, five instructions at once -/
theorem gl_arg {sb L n j : Nat} {xs : Nat → Int32} {k : Int} (q q5 : Nat) (hC : cg_X cg_WL own cc nL ret p s m args meth c D cy ad) (hX : va_X sb L xs s s.heap) (hbl : sb < s.heap.size) (hbA : ¬ cg_F ad 123 s.heap.size sb) (hL : 5 * n + 5 ≤ L) (hL2 : L ≤ 2560) (hq : lv[q]? = some (0, .ref sb)) (hq5 : lv[q5]? = some (5, .int (Int32.ofNat (5 * n)))) (hj : j ≤ 4) (hkj : Int32.ofInt k = Int32.ofNat j)
    (d1 : decode cc pc = .ok (.aload_n 0, 1)) (d2 : decode cc (pc + 1) = .ok (.iload 5, 2)) (d3 : decode cc (pc + 3) = .ok (.iconst k, 1)) (d4 : decode cc (pc + 4) = .ok (.iadd, 1)) (d5 : decode cc (pc + 5) = .ok (.iaload, 1))
    (kk : cg_G cg_WL R p l e s m args below meth c D cy ad Z kc ks nL (pc + 6) lv (.int (xs (5 * n + j)) :: st) σ) : cg_G cg_WL R p l e s m args below meth c D cy ad Z kc ks nL pc lv st σ := by
  refine ga_aload_n hC d1 q rfl hq ?_
  refine ga_iload hC d2 q5 hq5 ?_
  refine ga_iconst hC d3 rfl ?_
  refine ga_iadd hC d4 ?_
  obtain ⟨h1, h2⟩ := gl_ix (k := Int32.ofInt k) hkj hj hL hL2
  exact gl_sld hC hX hbl hbA h1 (by rw [h2]) d5 kk
theorem gl_switch {dflt : Int} {offs : Array Int} {len : Nat} {x : Int32} {tg : List Nat} {td : Nat} (hC : cg_X cg_WL own cc nL ret p s m args meth c D cy ad) (hdg : decode cc pc = .ok (.tableswitch dflt 0 36 offs, len)) (hd : (pc : Int) + dflt = (td : Int)) (ht : offs.toList.map (fun z => (pc : Int) + z) = tg.map (fun z : Nat => (z : Int))) (hlen : tg.length = 37)
    (kd : cg_G cg_WL R p l e s m args below meth c D cy ad Z kc ks nL td lv st σ) (kk : ∀ k t : Nat, tg[k]? = some t → x.toInt = k → cg_G cg_WL R p l e s m args below meth c D cy ad Z kc ks nL t lv st σ) : cg_G cg_WL R p l e s m args below meth c D cy ad Z kc ks nL pc lv (.int x :: st) σ := by
  intro H locs ls h1 h2 h3
  by_cases c1 : x.toInt < 0 ∨ 36 < x.toInt
  · exact lv_tableOut hC.1 hC.2.1 hdg c1 hd (kd H locs ls h1 h2 h3)
  · have c2 : ¬ x.toInt < 0 := fun z => c1 (Or.inl z)
    have c3 : ¬ 36 < x.toInt := fun z => c1 (Or.inr z)
    obtain ⟨k, hk⟩ : ∃ k : Nat, x.toInt = k := ⟨x.toInt.toNat, by omega⟩
    have hk37 : k < 37 := by omega
    obtain ⟨t, hgt⟩ : ∃ t, tg[k]? = some t := ⟨_, List.getElem?_eq_getElem (by omega)⟩
    have hl : offs.toList.length = 37 := by
      have := congrArg List.length ht
      simpa [hlen] using this
    obtain ⟨f, hf⟩ : ∃ f, offs.toList[k]? = some f := ⟨_, List.getElem?_eq_getElem (by omega)⟩
    have he : (pc : Int) + f = (t : Int) := by
      have h9 := congrArg (fun z => z[k]?) ht
      simp only [List.getElem?_map, hf, hgt, Option.map_some, Option.some.injEq] at h9
      exact h9
    refine lv_tableIn hC.1 hC.2.1 hdg c2 c3 (off := f) ?_ he (kk k t hgt hk H locs ls h1 h2 h3)
    rw [hk, ← Array.getElem?_toList]
    simpa using hf
end GL2
