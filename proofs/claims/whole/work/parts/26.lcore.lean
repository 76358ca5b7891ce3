/-! THE LAW'S WORLD: the class's cells, the reference's, and the two answer arrays -/
def cg_wL (cy : Nat → ClassId) (ad : Nat → Nat) (i : Nat → Int32) (l : Nat → Int64) (d : Nat → UInt64) (k : Nat) : va_E := if k < 88 then cg_wC cy ad i l d k else if k < 121 then cg_wM cy (fun j => ad (88 + j)) i l d (k - 88) else if k = 121 then .inl (cy 2, 1, .inr (.inl l)) else .inl (cy 3, 1, .inr (.inr (.inr (.inl d))))
abbrev cg_WL : cg_Wd := (cg_wL, 123)
/-- the whole of the numbers out of its parts -/
def jn (a b : cg_S) (o : Nat → Int64) (od : Nat → UInt64) : cg_S := (fun k => if k < 88 then a.1 k else b.1 (k - 88), fun k => if k < 88 then a.2.1 k else if k = 121 then o else b.2.1 (k - 88), fun k => if k < 88 then a.2.2 k else if k = 122 then od else b.2.2 (k - 88))
section JN
variable {cy : Nat → ClassId} {ad : Nat → Nat} {a b : cg_S} {o : Nat → Int64} {od : Nat → UInt64} {k : Nat}
theorem jn_c (h : k < 88) : cg_c cg_WL cy ad (jn a b o od) k = cg_c cg_WC cy ad a k := by
  simp only [cg_c, cg_wL, jn, if_pos h]
theorem jn_m (h : k < 33) : cg_c cg_WL cy ad (jn a b o od) (88 + k) = cg_c cg_WM cy (fun j => ad (88 + j)) b k := by
  have h1 : ¬ 88 + k < 88 := by omega
  have h2 : 88 + k < 121 := by omega
  have h3 : 88 + k - 88 = k := by omega
  have h4 : ¬ 88 + k = 121 := by omega
  have h5 : ¬ 88 + k = 122 := by omega
  simp only [cg_c, cg_wL, jn, if_neg h1, if_pos h2, h3, if_neg h4, if_neg h5]
theorem jn_o : cg_c cg_WL cy ad (jn a b o od) 121 = .inl (cy 2, 1, .inr (.inl o)) := rfl
theorem jn_d : cg_c cg_WL cy ad (jn a b o od) 122 = .inl (cy 3, 1, .inr (.inr (.inr (.inl od)))) := rfl
theorem jn_case {q : Nat × va_E} (h : (cg_W cg_WL cy ad (jn a b o od))[k]? = some q) : (k < 88 ∧ q = (ad k, cg_c cg_WC cy ad a k)) ∨ (∃ j, j < 33 ∧ k = 88 + j ∧ q = (ad (88 + j), cg_c cg_WM cy (fun j => ad (88 + j)) b j)) ∨ (k = 121 ∧ q = (ad 121, .inl (cy 2, 1, .inr (.inl o)))) ∨ (k = 122 ∧ q = (ad 122, .inl (cy 3, 1, .inr (.inr (.inr (.inl od)))))) := by
  obtain ⟨h1, rfl⟩ := cg_W_some h
  have h1 : k < 123 := h1
  by_cases c1 : k < 88
  · exact Or.inl ⟨c1, by rw [jn_c c1]⟩
  · by_cases c2 : k < 121
    · obtain ⟨j, rfl⟩ : ∃ j, k = 88 + j := ⟨k - 88, by omega⟩
      exact Or.inr (Or.inl ⟨j, by omega, rfl, by rw [jn_m (by omega)]⟩)
    · have : k = 121 ∨ k = 122 := by omega
      rcases this with rfl | rfl
      · exact Or.inr (Or.inr (Or.inl ⟨rfl, rfl⟩))
      · exact Or.inr (Or.inr (Or.inr ⟨rfl, rfl⟩))
variable {D : va_G} {H H1 : Heap}
theorem jn_C (h : va_P D vwCl (cg_W cg_WL cy ad (jn a b o od)) H) : va_P D vwCl (cg_W cg_WC cy ad a) H := by
  intro k q hq
  obtain ⟨h1, rfl⟩ := cg_W_some hq
  have h2 := h k _ (cg_W_get (wd := cg_WL) (Nat.lt_of_lt_of_le h1 (by decide)))
  rw [jn_c h1] at h2
  exact h2
theorem jn_M (h : va_P D vwCl (cg_W cg_WL cy ad (jn a b o od)) H) : va_P D vwCl (cg_W cg_WM cy (fun j => ad (88 + j)) b) H := by
  intro k q hq
  obtain ⟨h1, rfl⟩ := cg_W_some hq
  have h1 : k < 33 := h1
  have h2 := h (88 + k) _ (cg_W_get (wd := cg_WL) (show 88 + k < 123 by omega))
  rw [jn_m h1] at h2
  exact h2
theorem jn_putC {a1 : cg_S} (hi : cg_inj ad 123) (h : va_P D vwCl (cg_W cg_WL cy ad (jn a b o od)) H) (hk : ∀ q, q < H.size → ¬ cg_F ad 88 H.size q → H1[q]? = H[q]?) (h1 : va_P D vwCl (cg_W cg_WC cy ad a1) H1) : va_P D vwCl (cg_W cg_WL cy ad (jn a1 b o od)) H1 := by
  have old : ∀ k, ¬ k < 88 → k < 123 → ∀ q : Nat × va_E, (cg_W cg_WL cy ad (jn a b o od))[k]? = some q → va_at D vwCl q H1 := by
    intro k hk1 hk2 q hq
    have h2 := h k q hq
    refine h2.kept (hk q.1 h2.lt ?_)
    obtain ⟨-, rfl⟩ := cg_W_some hq
    intro hF
    rcases hF with ⟨j, hj, e⟩ | hF
    · exact hk1 (by rw [hi k j hk2 (by omega) e]; exact hj)
    · exact absurd h2.lt (Nat.not_lt.mpr hF)
  intro k q hq
  rcases jn_case hq with ⟨c, rfl⟩ | ⟨j, hj, rfl, rfl⟩ | ⟨rfl, rfl⟩ | ⟨rfl, rfl⟩
  · exact h1 k _ (cg_W_get (wd := cg_WC) c)
  · exact old (88 + j) (by omega) (by omega) _ ((cg_W_get (wd := cg_WL) (show 88 + j < 123 by omega)).trans (by rw [jn_m hj]))
  · exact old 121 (by decide) (by decide) _ (cg_W_get (wd := cg_WL) (by decide))
  · exact old 122 (by decide) (by decide) _ (cg_W_get (wd := cg_WL) (by decide))
theorem jn_putM {b1 : cg_S} (hi : cg_inj ad 123) (h : va_P D vwCl (cg_W cg_WL cy ad (jn a b o od)) H) (hk : ∀ q, q < H.size → ¬ cg_F (fun j => ad (88 + j)) 33 H.size q → H1[q]? = H[q]?) (h1 : va_P D vwCl (cg_W cg_WM cy (fun j => ad (88 + j)) b1) H1) : va_P D vwCl (cg_W cg_WL cy ad (jn a b1 o od)) H1 := by
  have old : ∀ k, (k < 88 ∨ 121 ≤ k) → k < 123 → ∀ q : Nat × va_E, (cg_W cg_WL cy ad (jn a b o od))[k]? = some q → va_at D vwCl q H1 := by
    intro k hk1 hk2 q hq
    have h2 := h k q hq
    refine h2.kept (hk q.1 h2.lt ?_)
    obtain ⟨-, rfl⟩ := cg_W_some hq
    intro hF
    rcases hF with ⟨j, hj, e⟩ | hF
    · have := hi k (88 + j) hk2 (by omega) e
      omega
    · exact absurd h2.lt (Nat.not_lt.mpr hF)
  intro k q hq
  rcases jn_case hq with ⟨c, rfl⟩ | ⟨j, hj, rfl, rfl⟩ | ⟨rfl, rfl⟩ | ⟨rfl, rfl⟩
  · exact old k (Or.inl c) (by omega) _ ((cg_W_get (wd := cg_WL) (show k < 123 by omega)).trans (by rw [jn_c c]))
  · exact h1 j _ (cg_W_get (wd := cg_WM) hj)
  · exact old 121 (by decide) (by decide) _ (cg_W_get (wd := cg_WL) (by decide))
  · exact old 122 (by decide) (by decide) _ (cg_W_get (wd := cg_WL) (by decide))
theorem jn_l (j : Nat) (x : Int64) : cg_l (jn a b o od) 121 j x = jn a b (vp_updL o j x) od := by
  unfold cg_l jn
  refine Prod.ext rfl (Prod.ext (funext fun k => ?_) rfl)
  by_cases h : k = 121
  · subst h; rfl
  · show (if k = 121 then _ else _) = _
    rw [if_neg h]
    simp [h]
theorem jn_d' (j : Nat) (x : UInt64) : cg_d (jn a b o od) 122 j x = jn a b o (vf_upd od j x) := by
  unfold cg_d jn
  refine Prod.ext rfl (Prod.ext rfl (funext fun k => ?_))
  by_cases h : k = 122
  · subst h; rfl
  · show (if k = 122 then _ else _) = _
    rw [if_neg h]
    simp [h]
end JN
theorem cg_injC {ad : Nat → Nat} (h : cg_inj ad 123) : cg_inj ad 88 := fun i j hi hj => h i j (by omega) (by omega)
theorem cg_injM {ad : Nat → Nat} (h : cg_inj ad 123) : cg_inj (fun j => ad (88 + j)) 33 := fun i j hi hj e => by
  have := h (88 + i) (88 + j) (by omega) (by omega) e
  omega
theorem cg_FC {ad : Nat → Nat} {x y : Nat} (h : y ≤ x) : ∀ q, cg_F ad 88 x q → cg_F ad 123 y q := fun q hq => by
  rcases hq with ⟨k, hk, e⟩ | hq
  · exact Or.inl ⟨k, by omega, e⟩
  · exact Or.inr (Nat.le_trans h hq)
theorem cg_FM {ad : Nat → Nat} {x y : Nat} (h : y ≤ x) : ∀ q, cg_F (fun j => ad (88 + j)) 33 x q → cg_F ad 123 y q := fun q hq => by
  rcases hq with ⟨k, hk, e⟩ | hq
  · exact Or.inl ⟨88 + k, by omega, e⟩
  · exact Or.inr (Nat.le_trans h hq)
/-- the exceptions that the law catches, and that none of them is another -/
def lw_xs : List String := ["java/lang/IllegalArgumentException", "java/lang/IllegalStateException", "java/lang/IndexOutOfBoundsException", "java/lang/ArithmeticException", "java/util/NoSuchElementException"]
def lw_nc (U : State) : Prop := ∀ E ∈ lw_xs, ∀ T ∈ lw_xs, E ≠ T → va_Nc E T U
theorem lw_nc.warm {s U : State} (hW : s.WarmedH U.vm) (h : lw_nc s) : lw_nc U := fun E hE T hT hne => (h E hE T hT hne).moved hW.alike
theorem lw_nc.same {s U : State} (hv : s.vm = U.vm) (h : lw_nc s) : lw_nc U := fun E hE T hT hne => (h E hE T hT hne).moved (by rw [hv]; exact Vm.Alike.refl U.vm)
abbrev cl_PX (D : va_G) (cy : Nat → ClassId) (ad : Nat → Nat) (σ : cg_S) (sz : Nat) : State → Prop := fun U => cg_PX cg_WL D cy ad σ sz U ∧ lw_nc U
def cl_ws (y : MethodName) (cc : ByteArray) (nL : Nat) (hh : List (Nat × Nat × Nat × Nat)) : List Cond := Cond.codeWith y cc nL (some .int) hh :: cg_T
/-- a wrapper's contract: it returns -/
def cl_M (y : MethodName) (cc : ByteArray) (nL : Nat) (hh : List (Nat × Nat × Nat × Nat)) (R : Room) (mc ms : Nat) (av : (Nat → Nat) → List Value) (σ : cg_S) (Q : (Nat → Nat) → Option Value → cg_S → Prop) : Prop :=
  ∀ (l : Launch) (D : va_G) (cy : Nat → ClassId) (ad : Nat → Nat) (sz : Nat), l.stackTraces = false → cg_inj ad 123 → vx_Met l y (cl_ws y cc nL hh) R (va_Pc (av ad) (cl_PX D cy ad σ sz)) (cg_Q cg_WL D cy ad Q (cg_F ad 123 sz)) (cg_XC cg_WL D cy ad (fun _ _ => False) (cg_F ad 123 sz)) mc ms (cg_F ad 123 sz)
def cl_Y (cc : ByteArray) (nL : Nat) (hh : List (Nat × Nat × Nat × Nat)) (p : Program) (l : Launch) (s : State) (m : MethodId) (args : Array Value) (meth : Method) (c : Code) (D : va_G) (cy : Nat → ClassId) (ad : Nat → Nat) : Prop :=
  cg_X cg_WL RL cc nL (some .int) p s m args meth c D cy ad ∧ l.stackTraces = false ∧ c.exceptionTable.toList = tableOf hh ∧ cg_xf s ∧ cg_zq (cg_F ad 123 s.heap.size) s s.heap ∧ lw_nc s
abbrev cl_Z (D : va_G) (cy : Nat → ClassId) (ad : Nat → Nat) (Q : (Nat → Nat) → Option Value → cg_S → Prop) (below : List Frame) (args : Array Value) (s : State) (mc ms : Nat) : State → Prop := cg_ZX cg_WL D cy ad Q (fun _ _ => False) below args s mc ms
theorem cl_entry {y : MethodName} {cc : ByteArray} {nL : Nat} {hh : List (Nat × Nat × Nat × Nat)} {R : Room} {mc ms : Nat} {av : (Nat → Nat) → List Value} {lv : (Nat → Nat) → List (Nat × Value)} {σ : cg_S} {Q : (Nat → Nat) → Option Value → cg_S → Prop} (hy : plainName y.cls = true) (hcls : y.cls = RL) (hlv : ∀ ad, lv_args 0 (av ad) = lv ad) (hn : ∀ ad, (lg_sl (av ad)).length ≤ nL)
    (h : ∀ (p : Program) (l : Launch) (e : Env) (s : State) (m : MethodId) (args : Array Value) (below : List Frame) (meth : Method) (c : Code) (D : va_G) (cy : Nat → ClassId) (ad : Nat → Nat), cl_Y cc nL hh p l s m args meth c D cy ad → cg_G cg_WL R p l e s m args below meth c D cy ad (cl_Z D cy ad Q below args s mc ms) 0 0 nL 0 (lv ad) [] σ) : cl_M y cc nL hh R mc ms av σ Q := by
  intro l D cy ad sz hst hinj
  refine vx_ofWH (cc := cc) (maxL := nL) (ret := some .int) (hh := hh) (ws' := cg_T) hy rfl ?_
  intro p e s m args below meth c s₁ B hml hv
  obtain ⟨rfl, ⟨hsz, hP, hK, hN, hxf, hzq⟩, hnc⟩ := hv
  subst hsz
  have hts := atoms_spec (ws := cl_ws y cc nL hh) B.pre
  have htab := vx_table (x := y) B (hts _ List.mem_cons_self)
  have hX : cg_X cg_WL RL cc nL (some .int) p s m (av ad).toArray meth c D cy ad := ⟨B.exec, B.bytes, B.returns, hml, hcls ▸ findClass_of_methodNamed B.named, fun w hw => hts w (List.mem_cons_of_mem _ hw), B.notSynchronized, hK, hinj, hN⟩
  have hl := lv_entry (av ad) (n := nL) (hn ad)
  rw [lg_entry_eq]
  rw [hlv] at hl
  exact h p l e s m _ below meth c D cy ad ⟨hX, hst, htab, hxf, hzq, hnc⟩ s.heap [] _ hl hP va_S.rf
theorem cl_M.mono {y : MethodName} {cc : ByteArray} {nL : Nat} {hh : List (Nat × Nat × Nat × Nat)} {R : Room} {mc ms : Nat} {av : (Nat → Nat) → List Value} {σ : cg_S} {Q Q' : (Nat → Nat) → Option Value → cg_S → Prop} (h : cl_M y cc nL hh R mc ms av σ Q) (hq : ∀ ad v τ, Q ad v τ → Q' ad v τ) : cl_M y cc nL hh R mc ms av σ Q' := by
  intro l D cy ad sz hst hinj
  intro p e h1 h2 h3 s m args below h4 h5 h6 h7
  obtain ⟨n, o, g1, g2, g3, g4⟩ := h l D cy ad sz hst hinj p e h1 h2 h3 s m args below h4 h5 h6 h7
  refine ⟨n, o, g1, g2, g3, ?_⟩
  rcases g4 with ⟨⟨⟨v, τ, q1, q2, q3⟩, q4⟩, q5⟩ | g5
  · exact Or.inl ⟨⟨⟨v, τ, q1, hq _ _ _ q2, q3⟩, q4⟩, q5⟩
  · exact Or.inr g5
section GL
variable {cc : ByteArray} {nL : Nat} {ret : Option FieldType} {p : Program} {l : Launch} {e : Env} {R : Room} {s : State} {m : MethodId} {args : Array Value} {below : List Frame} {meth : Method} {c : Code} {D : va_G} {cy : Nat → ClassId} {ad : Nat → Nat} {kc ks pc : Nat} {lv : List (Nat × Value)} {st : List Value} {hh : List (Nat × Nat × Nat × Nat)} {a b : cg_S} {o : Nat → Int64} {od : Nat → UInt64} {Z : State → Prop} {own : String}
theorem gl_catch {mc : Nat} {H : Heap} {locs : List Loc} {ls : Array Slot} {rest : List Value} (hX : cg_X cg_WL RL cc nL (some .int) p s m args meth c D cy ad) (hxf : cg_xf s) (hnc : lw_nc s) (htab : c.exceptionTable.toList = tableOf hh) {hs : List (String × Nat × Nat)} {sp ep : Nat} (hhh : hh = hs.map (fun z => (sp, ep, z.2.1, z.2.2))) (hin : sp ≤ pc ∧ pc < ep) (hty : ∀ z ∈ hs, z.2.2 ≠ 0 ∧ z.1 ∈ lw_xs ∧ Cond.classLink RL z.2.2 z.1 ∈ cg_T) (hcs : Cond.castable "java/lang/IllegalArgumentException" "java/lang/IllegalArgumentException" ∈ tables_1.filter cg_isN ∧ Cond.castable "java/lang/IllegalStateException" "java/lang/IllegalStateException" ∈ tables_1.filter cg_isN ∧ Cond.castable "java/lang/IndexOutOfBoundsException" "java/lang/IndexOutOfBoundsException" ∈ tables_1.filter cg_isN ∧ Cond.castable "java/lang/ArithmeticException" "java/lang/ArithmeticException" ∈ tables_1.filter cg_isN ∧ Cond.castable "java/util/NoSuchElementException" "java/util/NoSuchElementException" ∈ tables_1.filter cg_isN) {E : String} {h t : Nat} {pre suf : List (String × Nat × Nat)} (hsp : hs = pre ++ (E, h, t) :: suf) (hnp : ∀ z ∈ pre, E ≠ z.1) {q : Nat} {ce : Cell} (hcell : H[q]? = some ce) (hv : ce.vm = .none) (hcl : s.vm.findClass E = some ce.cls) (kk : W p l e R s m args below meth c H locs kc ks Z (F0 m h ls [.ref q])) : vx_W p l e R s m args below meth c H locs kc ks Z (F0 m pc ls rest) q := by
  have hE : (E, h, t) ∈ hs := by rw [hsp]; simp
  have hcov : ∀ z : String × Nat × Nat, covers (⟨sp, ep, z.2.1, z.2.2⟩ : ExceptionTableEntry) pc = true := fun z => by
    simp [covers, hin.1, hin.2]
  have hEx := (hty _ hE).2.1
  have hcast : (Cond.castable E E).before args s = true := by
    have : Cond.castable E E ∈ tables_1.filter cg_isN := by
      simp only [lw_xs, List.mem_cons, List.not_mem_nil, or_false] at hEx
      rcases hEx with rfl | rfl | rfl | rfl | rfl
      · exact hcs.1
      · exact hcs.2.1
      · exact hcs.2.2.1
      · exact hcs.2.2.2.1
      · exact hcs.2.2.2.2
    exact va_tabs (A := #[]) (u := s) rfl rfl (hxf.2 _ this)
  refine vx_catch (own := RL) (name := E) hX.2.2.2.2.1 (pre.map (fun z => ⟨sp, ep, z.2.1, z.2.2⟩)) ⟨sp, ep, h, t⟩ (suf.map (fun z => ⟨sp, ep, z.2.1, z.2.2⟩)) (by rw [htab, hhh, hsp]; simp [tableOf]; rfl) ?_ (hcov (E, h, t)) (hty _ hE).1 (hX.2.2.2.2.2.1 _ (hty _ hE).2.2) hcast hcell hv hcl kk
  intro z hz
  obtain ⟨z0, hz0, rfl⟩ := List.mem_map.mp hz
  have hm : z0 ∈ hs := by rw [hsp]; exact List.mem_append_left _ hz0
  exact Or.inr ⟨(hty _ hm).1, z0.1, hX.2.2.2.2.2.1 _ (hty _ hm).2.2, hnc E hEx z0.1 (hty _ hm).2.1 (hnp _ hz0)⟩
theorem gl_pC {av : (Nat → Nat) → List Value} {H : Heap} {locs : List Loc} (hY : cl_Y cc nL hh p l s m args meth c D cy ad) (h2 : va_P D vwCl (cg_W cg_WL cy ad (jn a b o od)) H) (h3 : va_S (cg_F ad 123 s.heap.size) s.heap H locs) : FrameBlind (va_Pc (av ad) (cg_PX cg_WC D cy ad a H.size)) ∧ ∀ U : State, U.heap = H → s.WarmedH U.vm → va_Pc (av ad) (cg_PX cg_WC D cy ad a H.size) (av ad).toArray U := by
  refine ⟨fun a U g mk q => ?_, fun U hU hW => ⟨rfl, by rw [hU], by rw [hU]; exact jn_C h2, va_K.moved hW.alike hY.1.2.2.2.2.2.2.2.1, cg_nest.warm hW hY.1.2.2.2.2.2.2.2.2.2, cg_xf.warm hW hY.2.2.2.1, by rw [hU]; exact (fun z : cg_zq (cg_F ad 123 H.size) U H => (⟨z.1.narrow (cg_FC (Nat.le_refl _)), z.2.narrow (cg_FC (Nat.le_refl _))⟩ : cg_zq (cg_F ad 88 H.size) U H)) (cg_zq_at (wd := cg_WL) hY.2.2.2.2.1 h3 hW.alike)⟩⟩
  obtain ⟨q0, q1, qP, qK, qN, qx, qz⟩ := q
  exact ⟨q0, q1, qP, va_K.moved (u := U) (U := U.calling g mk a) (Vm.Alike.refl U.vm) qK, cg_nest.same (s := U) (U := U.calling g mk a) rfl qN, cg_xf.same (s := U) (U := U.calling g mk a) rfl qx, ⟨vx_Zq.moved (u := U) (U := U.calling g mk a) (Vm.Alike.refl U.vm) qz.1, vx_Zq.moved (u := U) (U := U.calling g mk a) (Vm.Alike.refl U.vm) qz.2⟩⟩
/-- behind a call of a method of the class that may throw -/
theorem gl_kC {H : Heap} {locs : List Loc} {ls : Array Slot} {st0 rest : List Value} {aa : Array Value} {mc1 ms1 : Nat} {Q1 : (Nat → Nat) → Option Value → cg_S → Prop} {X1 : String → cg_S → Prop} (hinj : cg_inj ad 123) (hr : vx_Run p l e R s m args below meth c H locs kc ks mc1 ms1 (F0 m pc ls st0) rest (cg_Q cg_WC D cy ad Q1 (cg_F ad 88 H.size) aa) (cg_XC cg_WC D cy ad X1 (cg_F ad 88 H.size)) (cg_F ad 88 H.size)) (h2 : va_P D vwCl (cg_W cg_WL cy ad (jn a b o od)) H) (hS : va_S (cg_F ad 123 s.heap.size) s.heap H locs)
    (kx : ∀ (E : String) (ce : Cell) (q9 : Addr) (a1 : cg_S) (H1 : Heap) (locs1 : List Loc), X1 E a1 → va_P D vwCl (cg_W cg_WL cy ad (jn a1 b o od)) H1 → va_S (cg_F ad 123 s.heap.size) s.heap H1 locs1 → H1[q9]? = some ce → ce.vm = .none → s.vm.findClass E = some ce.cls → vx_W p l e R s m args below meth c H1 locs1 (kc + mc1) (ks + ms1) Z (F0 m pc ls rest) q9)
    (kk : ∀ (v : Option Value) (a1 : cg_S) (H1 : Heap) (locs1 : List Loc), Q1 ad v a1 → va_P D vwCl (cg_W cg_WL cy ad (jn a1 b o od)) H1 → va_S (cg_F ad 123 s.heap.size) s.heap H1 locs1 → W p l e R s m args below meth c H1 locs1 (kc + mc1) (ks + ms1) Z (F0 m (pc + 3) ls (v.toList ++ rest))) : W p l e R s m args below meth c H locs kc ks Z (F0 m pc ls st0) := by
  have hA : ∀ q, q < H.size → cg_F ad 88 H.size q → cg_F ad 123 s.heap.size q := fun q _ => cg_FC hS.1 q
  intro T hT X0
  rcases hr T hT X0 with ⟨v, st₀, t, T', L, h0, X', hL, e1, e2, ⟨⟨v', τ, hv, hp, hb⟩, hF⟩, st⟩ | ⟨q, st₀, t, T', L, E, ce, h0, X', hL, e1, e2, ⟨⟨τ, hp, hb⟩, hF⟩, hce, hcv, hcl, st⟩
  · cases hv
    obtain ⟨k1, k2, k3⟩ := vx_keep h0 e1 hS hA (fun q => cg_FC hS.1 q) hL hF
    obtain ⟨t2, a1, b1⟩ := kk v τ T'.heap (locs ++ L) hp (jn_putC hinj h2 k2 (by rw [e1]; exact hb)) k3 T' rfl X'
    exact ⟨t2, st t2 a1, b1⟩
  · obtain ⟨k1, k2, k3⟩ := vx_keep h0 e1 hS hA (fun q => cg_FC hS.1 q) hL hF
    obtain ⟨t2, a1, b1⟩ := kx E ce q τ T'.heap (locs ++ L) hp (jn_putC hinj h2 k2 (by rw [e1]; exact hb)) k3 (by rw [e1]; exact hce) hcv hcl T' rfl X'
    exact ⟨t2, st.trans a1, b1⟩
/-- a call, caught, of a method of the class that may throw -/
theorem gl_callX {y : MethodName} {c1 : ByteArray} {n1 : Nat} {r1 : Option FieldType} {R1 : Room} {idx n mc1 ms1 : Nat} {Q1 : (Nat → Nat) → Option Value → cg_S → Prop} {X1 : String → cg_S → Prop} {stk As : List Value} {av : (Nat → Nat) → List Value} {hs : List (String × Nat × Nat)} {sp ep : Nat} (hY : cl_Y cc nL hh p l s m args meth c D cy ad) (hM : cg_MX cg_WC y c1 n1 r1 R1 mc1 ms1 av a Q1 X1) (hcs : Cond.castable "java/lang/IllegalArgumentException" "java/lang/IllegalArgumentException" ∈ tables_1.filter cg_isN ∧ Cond.castable "java/lang/IllegalStateException" "java/lang/IllegalStateException" ∈ tables_1.filter cg_isN ∧ Cond.castable "java/lang/IndexOutOfBoundsException" "java/lang/IndexOutOfBoundsException" ∈ tables_1.filter cg_isN ∧ Cond.castable "java/lang/ArithmeticException" "java/lang/ArithmeticException" ∈ tables_1.filter cg_isN ∧ Cond.castable "java/util/NoSuchElementException" "java/util/NoSuchElementException" ∈ tables_1.filter cg_isN) (hw1 : Cond.methodLink RL idx y ∈ cg_T) (hw2 : Cond.instanceMethod y ∈ cg_T) (hw3 : Cond.selects "Chanceledger" y y ∈ cg_T) (hw4 : Cond.initialized y.cls ∈ cg_T) (hw5 : Cond.code y c1 n1 r1 ∈ cg_T) (hav : av ad = .ref (ad 0) :: As) (hstk : stk = As.reverse ++ .ref (ad 0) :: st) (hn : As.length = n) (hd : y.cls ≠ "java/lang/invoke/MethodHandle" ∧ y.cls ≠ "java/lang/invoke/VarHandle" ∧ (parseMethodDescriptor y.desc).map (fun d => d.parameters.length) = some n) (hcr : kc + mc1 ≤ R.cells ∧ ks + ms1 ≤ R.slots) (hroom : R1.frames + 1 ≤ R.frames ∧ 8 + (n1 + 11) + R1.locals ≤ R.locals) (hc0 : R1.cells = mc1) (hs0 : R1.slots = ms1) (hcat : (st.map fun v => v.category).sum ≤ 8) (hdg : decode cc pc = .ok (.invokevirtual idx, 3))
    (hhh : hh = hs.map (fun z => (sp, ep, z.2.1, z.2.2))) (hin : sp ≤ pc ∧ pc < ep) (hty : ∀ z ∈ hs, z.2.2 ≠ 0 ∧ z.1 ∈ lw_xs ∧ Cond.classLink RL z.2.2 z.1 ∈ cg_T)
    (kx : ∀ (E : String) (a1 : cg_S), X1 E a1 → ∃ (pre suf : List (String × Nat × Nat)) (h t : Nat), hs = pre ++ (E, h, t) :: suf ∧ (∀ z ∈ pre, E ≠ z.1) ∧ ∀ q : Nat, cg_G cg_WL R p l e s m args below meth c D cy ad Z (kc + mc1) (ks + ms1) nL h lv [.ref q] (jn a1 b o od))
    (kk : ∀ (v : Option Value) (a1 : cg_S), Q1 ad v a1 → cg_G cg_WL R p l e s m args below meth c D cy ad Z (kc + mc1) (ks + ms1) nL (pc + 3) lv (v.toList ++ st) (jn a1 b o od)) : cg_G cg_WL R p l e s m args below meth c D cy ad Z kc ks nL (pc) lv (stk) (jn a b o od) := by
  intro H locs ls h1 h2 h3
  subst hstk
  have hM1 := hM l D cy ad H.size hY.2.1 (cg_injC hY.1.2.2.2.2.2.2.2.2.1)
  have hB : CallB R s args RL idx y c1 n1 r1 (cg_ws y c1 n1 r1) R1 mc1 ms1 n := callB_of n hY.1.2.2.2.2.2.1 (cg_goodT hw5) rfl hc0 hs0 (hY.1.2.2.2.2.2.1 _ hw4) (hY.1.2.2.2.2.2.1 _ hw1) hd hroom
  have hpc := gl_pC (av := av) hY h2 h3
  rw [hav] at hM1 hpc
  refine gl_kC hY.1.2.2.2.2.2.2.2.2.1 (vx_runV (C := "Chanceledger") (As := As) (rest := st) (b := ad 0) ⟨hY.1.1, hY.1.2.1, hY.1.2.2.2.1, hY.1.2.2.2.2.1, hY.1.2.2.2.2.2.1⟩ hM1 ⟨hB, hY.1.2.2.2.2.2.1 _ hw2, hY.1.2.2.2.2.2.1 _ hw3⟩ ⟨hpc.1, va_recv hY.1.2.2.2.2.2.2.2.1 (jn_C h2) (rfl : vwCl[13]? = some (RX11, TX11, 11)) (q0 := 0) ((cg_W_get (wd := cg_WC) (k := 0) (by decide)).trans rfl), hpc.2⟩ rfl hn h1.1 rfl (lv_room hcat) hdg hcr) h2 h3 (fun E ce q9 a1 H1 locs1 hx g2 g3 e1 e2 e3 => ?_) (fun v a1 H1 locs1 hq g2 g3 => kk v a1 hq H1 locs1 ls h1 g2 g3)
  obtain ⟨pre, suf, h, t, r1, r2, r3⟩ := kx E a1 hx
  exact gl_catch (mc := mc1) hY.1 hY.2.2.2.1 hY.2.2.2.2.2 hY.2.2.1 hhh hin hty hcs r1 r2 e1 e2 e3 (r3 q9 H1 locs1 ls h1 g2 g3)
end GL
