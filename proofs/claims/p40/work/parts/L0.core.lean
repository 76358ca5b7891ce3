/-! THE LAW'S WORLDS: the class's cells, the row of targets, the row of choices before -/
def cg_wP (n : Nat) (cy : Nat → ClassId) (ad : Nat → Nat) (i : Nat → Int32) (l : Nat → Int64) (d : Nat → UInt64) (k : Nat) : va_E := if k < 88 then cg_wC cy ad i l d k else if k = 88 then .inl (cy 0, n, .inl i) else .inl (cy 1, n, .inl i)
abbrev cg_W2 (n : Nat) : cg_Wd := (cg_wP n, 89)
abbrev cg_W3 (n : Nat) : cg_Wd := (cg_wP n, 90)
/-- the numbers of such a world: the class's, the targets', the choices' before -/
def jp (a : cg_S) (t f : Nat → Int32) : cg_S := (fun k => if k < 88 then a.1 k else if k = 88 then t else if k = 89 then f else fun _ => 0, fun k => if k < 88 then a.2.1 k else fun _ => 0, fun k => if k < 88 then a.2.2 k else fun _ => 0)
/-- the world w' at the numbers σ shows in w's cells what w shows at τ -/
def cg_in (w w' : cg_Wd) (τ σ : cg_S) : Prop := ∀ (cy : Nat → ClassId) (ad : Nat → Nat) (k : Nat), k < w.2 → cg_c w' cy ad σ k = cg_c w cy ad τ k
/-- behind w's cells the numbers σ' show what σ shows -/
def cg_ke (w w' : cg_Wd) (σ σ' : cg_S) : Prop := ∀ (cy : Nat → ClassId) (ad : Nat → Nat) (k : Nat), ¬ k < w.2 → k < w'.2 → cg_c w' cy ad σ' k = cg_c w' cy ad σ k
theorem cg_in.rf {w : cg_Wd} {σ : cg_S} : cg_in w w σ σ := fun _ _ _ _ => rfl
theorem cg_ke.rf {w : cg_Wd} {σ σ' : cg_S} : cg_ke w w σ σ' := fun _ _ _ h h' => absurd h' h
theorem jp_in2 {n : Nat} {a : cg_S} {t f : Nat → Int32} : cg_in cg_WC (cg_W2 n) a (jp a t f) := fun cy ad k h => by
  have h : k < 88 := h
  simp only [cg_c, cg_wP, jp, if_pos h]
theorem jp_in3 {n : Nat} {a : cg_S} {t f : Nat → Int32} : cg_in cg_WC (cg_W3 n) a (jp a t f) := fun cy ad k h => by
  have h : k < 88 := h
  simp only [cg_c, cg_wP, jp, if_pos h]
theorem jp_in23 {n : Nat} {σ : cg_S} : cg_in (cg_W2 n) (cg_W3 n) σ σ := fun cy ad k h => rfl
theorem jp_ke2 {n : Nat} {a b : cg_S} {t f : Nat → Int32} : cg_ke cg_WC (cg_W2 n) (jp a t f) (jp b t f) := fun cy ad k h _ => by
  have h : ¬ k < 88 := h
  simp only [cg_c, cg_wP, jp, if_neg h]
theorem jp_ke3 {n : Nat} {a b : cg_S} {t f : Nat → Int32} : cg_ke cg_WC (cg_W3 n) (jp a t f) (jp b t f) := fun cy ad k h _ => by
  have h : ¬ k < 88 := h
  simp only [cg_c, cg_wP, jp, if_neg h]
theorem jp_ke23 {n : Nat} {a b : cg_S} {t f : Nat → Int32} : cg_ke (cg_W2 n) (cg_W3 n) (jp a t f) (jp b t f) := fun cy ad k h _ => by
  have h : ¬ k < 88 := fun z => h (Nat.lt_succ_of_lt z)
  simp only [cg_c, cg_wP, jp, if_neg h]
theorem aP_88 {n : Nat} {cy : Nat → ClassId} {ad : Nat → Nat} {l : Nat → Int64} {d : Nat → UInt64} : ∀ f, (cg_W2 n).1 cy ad f l d 88 = .inl (cy 0, n, .inl f) := fun _ => rfl
theorem aQ_88 {n : Nat} {cy : Nat → ClassId} {ad : Nat → Nat} {l : Nat → Int64} {d : Nat → UInt64} : ∀ f, (cg_W3 n).1 cy ad f l d 88 = .inl (cy 0, n, .inl f) := fun _ => rfl
theorem aQ_89 {n : Nat} {cy : Nat → ClassId} {ad : Nat → Nat} {l : Nat → Int64} {d : Nat → UInt64} : ∀ f, (cg_W3 n).1 cy ad f l d 89 = .inl (cy 1, n, .inl f) := fun _ => rfl
theorem jp_i {a : cg_S} {t f : Nat → Int32} {j : Nat} {x : Int32} : cg_i (jp a t f) 88 j x = jp a (upd t j x) f := by
  unfold cg_i jp
  refine Prod.ext (funext fun k => ?_) rfl
  by_cases h : k = 88
  · subst h; rfl
  · show (if k = 88 then _ else _) = _
    rw [if_neg h]
    simp [h]
theorem jp_j {a : cg_S} {t f : Nat → Int32} {j : Nat} {x : Int32} : cg_i (jp a t f) 89 j x = jp a t (upd f j x) := by
  unfold cg_i jp
  refine Prod.ext (funext fun k => ?_) rfl
  by_cases h : k = 89
  · subst h; rfl
  · show (if k = 89 then _ else _) = _
    rw [if_neg h]
    simp [h]
section PW
variable {w w' : cg_Wd} {cy : Nat → ClassId} {ad : Nat → Nat} {τ σ σ' : cg_S} {D : va_G} {H H1 : Heap}
theorem gp_sub (hle : w.2 ≤ w'.2) (h : cg_in w w' τ σ) (hP : va_P D vwCl (cg_W w' cy ad σ) H) : va_P D vwCl (cg_W w cy ad τ) H := by
  intro k q hq
  obtain ⟨h1, rfl⟩ := cg_W_some hq
  have h2 := hP k _ (cg_W_get (wd := w') (Nat.lt_of_lt_of_le h1 hle))
  rw [h cy ad k h1] at h2
  exact h2
theorem gp_put (hle : w.2 ≤ w'.2) (hi : cg_inj ad w'.2) (h1 : cg_in w w' τ σ') (h2 : cg_ke w w' σ σ') (hP : va_P D vwCl (cg_W w' cy ad σ) H) (hk : ∀ q, q < H.size → ¬ cg_F ad w.2 H.size q → H1[q]? = H[q]?) (hp : va_P D vwCl (cg_W w cy ad τ) H1) : va_P D vwCl (cg_W w' cy ad σ') H1 := by
  intro k q hq
  obtain ⟨hk', rfl⟩ := cg_W_some hq
  by_cases c : k < w.2
  · have h3 := hp k _ (cg_W_get (wd := w) c)
    rw [h1 cy ad k c]
    exact h3
  · have h3 := hP k _ (cg_W_get (wd := w') hk')
    rw [h2 cy ad k c hk']
    refine h3.kept (hk _ h3.lt ?_)
    intro hF
    rcases hF with ⟨j, hj, e⟩ | hF
    · have : k = j := hi k j hk' (Nat.lt_of_lt_of_le hj hle) e
      exact c (this ▸ hj)
    · exact absurd h3.lt (Nat.not_lt.mpr hF)
end PW
theorem cg_inj.le {ad : Nat → Nat} {n m : Nat} (hle : n ≤ m) (h : cg_inj ad m) : cg_inj ad n := fun i j hi hj => h i j (Nat.lt_of_lt_of_le hi hle) (Nat.lt_of_lt_of_le hj hle)
theorem cg_F_le {ad : Nat → Nat} {n m x y : Nat} (hle : n ≤ m) (h : y ≤ x) : ∀ q, cg_F ad n x q → cg_F ad m y q := fun q hq => by
  rcases hq with ⟨k, hk, e⟩ | hq
  · exact Or.inl ⟨k, Nat.lt_of_lt_of_le hk hle, e⟩
  · exact Or.inr (Nat.le_trans h hq)
/-- the exceptions that the law catches, and that none of them is another -/
def lw_xs : List String := ["java/lang/IllegalArgumentException", "java/lang/IllegalStateException", "java/lang/IndexOutOfBoundsException", "java/lang/ArithmeticException", "java/util/NoSuchElementException"]
def lw_nc (U : State) : Prop := ∀ E ∈ lw_xs, ∀ T ∈ lw_xs, E ≠ T → va_Nc E T U
theorem lw_nc.warm {s U : State} (hW : s.WarmedH U.vm) (h : lw_nc s) : lw_nc U := fun E hE T hT hne => (h E hE T hT hne).moved hW.alike
theorem lw_nc.same {s U : State} (hv : s.vm = U.vm) (h : lw_nc s) : lw_nc U := fun E hE T hT hne => (h E hE T hT hne).moved (by rw [hv]; exact Vm.Alike.refl U.vm)
/-- the law's own text, and what the JDK's charAt reads of statics -/
def lw_sp (sa sb : Nat) (A : Nat → Prop) (U : State) (H : Heap) : Prop := va_Z "java/lang/String" "COMPACT_STRINGS" "Z" (.int 1) A U H ∧ va_Zq "jdk/internal/util/Preconditions" "SIOOBE_FORMATTER" "Ljava/util/function/BiFunction;" A U H ∧ vk_R RL 185 "rfsw" sa U ∧ vk_S 1 [4] [[114, 102, 115, 119]] (fun _ => sa) (fun _ => sb) A U H
def lw_sq (A : Nat → Prop) (U : State) (H : Heap) : Prop := ∃ sa sb : Nat, lw_sp sa sb A U H
theorem lw_sp.at {sa sb : Nat} {s U : State} {H H1 : Heap} {A B : Nat → Prop} (h : lw_sp sa sb A s H) (hW : s.WarmedH U.vm) (hq : ∀ a : Nat, a < H.size → ¬ A a → H1[a]? = H[a]?) (hAB : ∀ q, B q → A q) : lw_sp sa sb B U H1 := by
  obtain ⟨h1, h2, h3, h4⟩ := h
  exact ⟨((h1.kept hq).moved hW.alike).narrow hAB, ((h2.kept hq).moved hW.alike).narrow hAB, vk_R.warm hW h3, ((h4.kept hq).moved hW.alike).narrow hAB⟩
theorem lw_sp.same {sa sb : Nat} {s U : State} {H : Heap} {A : Nat → Prop} (hv : U.vm = s.vm) (h : lw_sp sa sb A s H) : lw_sp sa sb A U H := by
  have ha : s.vm.Alike U.vm := by rw [hv]; exact Vm.Alike.refl s.vm
  obtain ⟨h1, h2, h3, h4⟩ := h
  exact ⟨h1.moved ha, h2.moved ha, vk_R.same hv h3, h4.moved ha⟩
theorem lw_sq.at {s U : State} {H H1 : Heap} {A B : Nat → Prop} (h : lw_sq A s H) (hW : s.WarmedH U.vm) (hq : ∀ a : Nat, a < H.size → ¬ A a → H1[a]? = H[a]?) (hAB : ∀ q, B q → A q) : lw_sq B U H1 := by
  obtain ⟨sa, sb, h⟩ := h
  exact ⟨sa, sb, h.at hW hq hAB⟩
theorem lw_sq.same {s U : State} {H : Heap} {A : Nat → Prop} (hv : U.vm = s.vm) (h : lw_sq A s H) : lw_sq A U H := by
  obtain ⟨sa, sb, h⟩ := h
  exact ⟨sa, sb, h.same hv⟩
abbrev cp_PX (wd : cg_Wd) (D : va_G) (cy : Nat → ClassId) (ad : Nat → Nat) (σ : cg_S) (sz : Nat) : State → Prop := fun U => cg_PX wd D cy ad σ sz U ∧ lw_nc U ∧ lw_sq (cg_F ad wd.2 sz) U U.heap
/-- a contract of the law's own methods: it returns; cw: the word of its code -/
def cp_M (wd : cg_Wd) (y : MethodName) (cw : Cond) (R : Room) (mc ms : Nat) (av : (Nat → Nat) → List Value) (σ : cg_S) (Q : (Nat → Nat) → Option Value → cg_S → Prop) : Prop :=
  ∀ (l : Launch) (D : va_G) (cy : Nat → ClassId) (ad : Nat → Nat) (sz : Nat), l.stackTraces = false → cg_inj ad wd.2 → vx_Met l y (cw :: cg_T) R (va_Pc (av ad) (cp_PX wd D cy ad σ sz)) (cg_Q wd D cy ad Q (cg_F ad wd.2 sz)) (cg_XC wd D cy ad (fun _ _ => False) (cg_F ad wd.2 sz)) mc ms (cg_F ad wd.2 sz)
def cp_Y (wd : cg_Wd) (own : String) (cc : ByteArray) (nL : Nat) (ret : Option FieldType) (tab : List ExceptionTableEntry) (p : Program) (l : Launch) (s : State) (m : MethodId) (args : Array Value) (meth : Method) (c : Code) (D : va_G) (cy : Nat → ClassId) (ad : Nat → Nat) : Prop :=
  cg_X wd own cc nL ret p s m args meth c D cy ad ∧ l.stackTraces = false ∧ c.exceptionTable.toList = tab ∧ cg_xf s ∧ cg_zq (cg_F ad wd.2 s.heap.size) s s.heap ∧ lw_nc s ∧ lw_sq (cg_F ad wd.2 s.heap.size) s s.heap
abbrev cp_Z (wd : cg_Wd) (D : va_G) (cy : Nat → ClassId) (ad : Nat → Nat) (Q : (Nat → Nat) → Option Value → cg_S → Prop) (below : List Frame) (args : Array Value) (s : State) (mc ms : Nat) : State → Prop := cg_ZX wd D cy ad Q (fun _ _ => False) below args s mc ms
/-- a place in a body of the law's own -/
def cp_L (wd : cg_Wd) (own : String) (cc : ByteArray) (nL : Nat) (ret : Option FieldType) (tab : List ExceptionTableEntry) (R : Room) (mc ms pc : Nat) (lv : (Nat → Nat) → List (Nat × Value)) (st : (Nat → Nat) → List Value) (kc ks : Nat) (σ : cg_S) (Q : (Nat → Nat) → Option Value → cg_S → Prop) : Prop :=
  ∀ (p : Program) (l : Launch) (e : Env) (s : State) (m : MethodId) (args : Array Value) (below : List Frame) (meth : Method) (c : Code) (D : va_G) (cy : Nat → ClassId) (ad : Nat → Nat), cp_Y wd own cc nL ret tab p l s m args meth c D cy ad → cg_G wd R p l e s m args below meth c D cy ad (cp_Z wd D cy ad Q below args s mc ms) kc ks nL pc (lv ad) (st ad) σ
/-- a method with a table of its own -/
theorem cp_entryW {wd : cg_Wd} {y : MethodName} {cc : ByteArray} {nL : Nat} {ret : Option FieldType} {hh : List (Nat × Nat × Nat × Nat)} {R : Room} {mc ms : Nat} {av : (Nat → Nat) → List Value} {lv : (Nat → Nat) → List (Nat × Value)} {σ : cg_S} {Q : (Nat → Nat) → Option Value → cg_S → Prop} (hy : plainName y.cls = true) (hlv : ∀ ad, lv_args 0 (av ad) = lv ad) (hn : ∀ ad, (lg_sl (av ad)).length ≤ nL)
    (h : cp_L wd y.cls cc nL ret (tableOf hh) R mc ms 0 lv (fun _ => []) 0 0 σ Q) : cp_M wd y (Cond.codeWith y cc nL ret hh) R mc ms av σ Q := by
  intro l D cy ad sz hst hinj
  refine vx_ofWH (cc := cc) (maxL := nL) (ret := ret) (hh := hh) (ws' := cg_T) hy rfl ?_
  intro p e s m args below meth c s₁ B hml hv
  obtain ⟨rfl, ⟨hsz, hP, hK, hN, hxf, hzq⟩, hnc, hsq⟩ := hv
  subst hsz
  have hts := atoms_spec (ws := Cond.codeWith y cc nL ret hh :: cg_T) B.pre
  have htab := vx_table (x := y) B (hts _ List.mem_cons_self)
  have hX : cg_X wd y.cls cc nL ret p s m (av ad).toArray meth c D cy ad := ⟨B.exec, B.bytes, B.returns, hml, findClass_of_methodNamed B.named, fun w hw => hts w (List.mem_cons_of_mem _ hw), B.notSynchronized, hK, hinj, hN⟩
  have hl := lv_entry (av ad) (n := nL) (hn ad)
  rw [lg_entry_eq]
  rw [hlv] at hl
  exact h p l e s m _ below meth c D cy ad ⟨hX, hst, htab, hxf, hzq, hnc, hsq⟩ s.heap [] _ hl hP va_S.rf
/-- a method without handlers -/
theorem cp_entryH {wd : cg_Wd} {y : MethodName} {cc : ByteArray} {nL : Nat} {ret : Option FieldType} {R : Room} {mc ms : Nat} {av : (Nat → Nat) → List Value} {lv : (Nat → Nat) → List (Nat × Value)} {σ : cg_S} {Q : (Nat → Nat) → Option Value → cg_S → Prop} (hy : plainName y.cls = true) (hlv : ∀ ad, lv_args 0 (av ad) = lv ad) (hn : ∀ ad, (lg_sl (av ad)).length ≤ nL)
    (h : cp_L wd y.cls cc nL ret [] R mc ms 0 lv (fun _ => []) 0 0 σ Q) : cp_M wd y (Cond.code y cc nL ret) R mc ms av σ Q := by
  intro l D cy ad sz hst hinj
  refine vx_ofW (cc := cc) (maxL := nL) (ret := ret) hy rfl ?_
  intro p e s m args below meth c s₁ B hml hex hv
  obtain ⟨rfl, ⟨hsz, hP, hK, hN, hxf, hzq⟩, hnc, hsq⟩ := hv
  subst hsz
  have hts := atoms_spec (ws := Cond.code y cc nL ret :: cg_T) B.pre
  have htab : c.exceptionTable.toList = [] := List.eq_nil_iff_forall_not_mem.mpr (fun x hx => hex x hx)
  have hX : cg_X wd y.cls cc nL ret p s m (av ad).toArray meth c D cy ad := ⟨B.exec, B.bytes, B.returns, hml, findClass_of_methodNamed B.named, fun w hw => hts w (List.mem_cons_of_mem _ hw), B.notSynchronized, hK, hinj, hN⟩
  have hl := lv_entry (av ad) (n := nL) (hn ad)
  rw [lg_entry_eq]
  rw [hlv] at hl
  exact h p l e s m _ below meth c D cy ad ⟨hX, hst, htab, hxf, hzq, hnc, hsq⟩ s.heap [] _ hl hP va_S.rf
theorem cp_M.mono {wd : cg_Wd} {y : MethodName} {cw : Cond} {R : Room} {mc ms : Nat} {av : (Nat → Nat) → List Value} {σ : cg_S} {Q Q' : (Nat → Nat) → Option Value → cg_S → Prop} (h : cp_M wd y cw R mc ms av σ Q) (hq : ∀ ad v τ, Q ad v τ → Q' ad v τ) : cp_M wd y cw R mc ms av σ Q' := by
  intro l D cy ad sz hst hinj
  intro p e h1 h2 h3 s m args below h4 h5 h6 h7
  obtain ⟨n, o, g1, g2, g3, g4⟩ := h l D cy ad sz hst hinj p e h1 h2 h3 s m args below h4 h5 h6 h7
  refine ⟨n, o, g1, g2, g3, ?_⟩
  rcases g4 with ⟨⟨⟨v, τ, q1, q2, q3⟩, q4⟩, q5⟩ | g5
  · exact Or.inl ⟨⟨⟨v, τ, q1, hq _ _ _ q2, q3⟩, q4⟩, q5⟩
  · exact Or.inr g5
def lw_cs5 : Prop := Cond.castable "java/lang/IllegalArgumentException" "java/lang/IllegalArgumentException" ∈ tables_1.filter cg_isN ∧ Cond.castable "java/lang/IllegalStateException" "java/lang/IllegalStateException" ∈ tables_1.filter cg_isN ∧ Cond.castable "java/lang/IndexOutOfBoundsException" "java/lang/IndexOutOfBoundsException" ∈ tables_1.filter cg_isN ∧ Cond.castable "java/lang/ArithmeticException" "java/lang/ArithmeticException" ∈ tables_1.filter cg_isN ∧ Cond.castable "java/util/NoSuchElementException" "java/util/NoSuchElementException" ∈ tables_1.filter cg_isN
theorem lw_cst : lw_cs5 := by unfold lw_cs5; decide +kernel
section GP
variable {wd w w' : cg_Wd} {cc : ByteArray} {nL : Nat} {ret : Option FieldType} {tab : List ExceptionTableEntry} {p : Program} {l : Launch} {e : Env} {R : Room} {s : State} {m : MethodId} {args : Array Value} {below : List Frame} {meth : Method} {c : Code} {D : va_G} {cy : Nat → ClassId} {ad : Nat → Nat} {kc ks pc : Nat} {lv : List (Nat × Value)} {st : List Value} {hh : List (Nat × Nat × Nat × Nat)} {σ τ0 : cg_S} {Z : State → Prop} {own : String}
theorem gp_catch {mc : Nat} {H : Heap} {locs : List Loc} {ls : Array Slot} {rest : List Value} (hX : cg_X wd RL cc nL ret p s m args meth c D cy ad) (hxf : cg_xf s) (hnc : lw_nc s) (htab : c.exceptionTable.toList = tableOf hh) {hs : List (String × Nat × Nat)} {sp ep : Nat} (hhh : hh = hs.map (fun z => (sp, ep, z.2.1, z.2.2))) (hin : sp ≤ pc ∧ pc < ep) (hty : ∀ z ∈ hs, z.2.2 ≠ 0 ∧ z.1 ∈ lw_xs ∧ Cond.classLink RL z.2.2 z.1 ∈ cg_T) {E : String} {h t : Nat} {pre suf : List (String × Nat × Nat)} (hsp : hs = pre ++ (E, h, t) :: suf) (hnp : ∀ z ∈ pre, E ≠ z.1) {q : Nat} {ce : Cell} (hcell : H[q]? = some ce) (hv : ce.vm = .none) (hcl : s.vm.findClass E = some ce.cls) (kk : W p l e R s m args below meth c H locs kc ks Z (F0 m h ls [.ref q])) : vx_W p l e R s m args below meth c H locs kc ks Z (F0 m pc ls rest) q := by
  have hcs := lw_cst
  have hE : (E, h, t) ∈ hs := by rw [hsp]; simp
  have hcov : ∀ z : String × Nat × Nat, covers (⟨sp, ep, z.2.1, z.2.2⟩ : ExceptionTableEntry) pc = true := fun z => by
    simp [covers, hin.1, hin.2]
  have hEx := (hty _ hE).2.1
  have hcast : (Cond.castable E E).before args s = true := by
    have : Cond.castable E E ∈ tables_1.filter cg_isN := by
      simp only [lw_xs, List.mem_cons, List.not_mem_nil, or_false] at hEx
      rcases hEx with rfl | rfl | rfl | rfl | rfl
      · exact hcs.1
      · exact hcs.2.1
      · exact hcs.2.2.1
      · exact hcs.2.2.2.1
      · exact hcs.2.2.2.2
    exact va_tabs (A := #[]) (u := s) rfl rfl (hxf.2 _ this)
  refine vx_catch (own := RL) (name := E) hX.2.2.2.2.1 (pre.map (fun z => ⟨sp, ep, z.2.1, z.2.2⟩)) ⟨sp, ep, h, t⟩ (suf.map (fun z => ⟨sp, ep, z.2.1, z.2.2⟩)) (by rw [htab, hhh, hsp]; simp [tableOf]; rfl) ?_ (hcov (E, h, t)) (hty _ hE).1 (hX.2.2.2.2.2.1 _ (hty _ hE).2.2) hcast hcell hv hcl kk
  intro z hz
  obtain ⟨z0, hz0, rfl⟩ := List.mem_map.mp hz
  have hm : z0 ∈ hs := by rw [hsp]; exact List.mem_append_left _ hz0
  exact Or.inr ⟨(hty _ hm).1, z0.1, hX.2.2.2.2.2.1 _ (hty _ hm).2.2, hnc E hEx z0.1 (hty _ hm).2.1 (hnp _ hz0)⟩
/-- what a call of the class finds, in w's cells -/
theorem gp_pX {av : (Nat → Nat) → List Value} {H : Heap} {locs : List Loc} (hle : w.2 ≤ w'.2) (hY : cp_Y w' own cc nL ret tab p l s m args meth c D cy ad) (h2 : va_P D vwCl (cg_W w cy ad τ0) H) (h3 : va_S (cg_F ad w'.2 s.heap.size) s.heap H locs) : FrameBlind (va_Pc (av ad) (cg_PX w D cy ad τ0 H.size)) ∧ ∀ U : State, U.heap = H → s.WarmedH U.vm → va_Pc (av ad) (cg_PX w D cy ad τ0 H.size) (av ad).toArray U := by
  refine ⟨fun a U g mk q => ?_, fun U hU hW => ⟨rfl, by rw [hU], by rw [hU]; exact h2, va_K.moved hW.alike hY.1.2.2.2.2.2.2.2.1, cg_nest.warm hW hY.1.2.2.2.2.2.2.2.2.2, cg_xf.warm hW hY.2.2.2.1, by rw [hU]; exact (fun z : cg_zq (cg_F ad w'.2 H.size) U H => (⟨z.1.narrow (cg_F_le hle (Nat.le_refl _)), z.2.narrow (cg_F_le hle (Nat.le_refl _))⟩ : cg_zq (cg_F ad w.2 H.size) U H)) (cg_zq_at (wd := w') hY.2.2.2.2.1 h3 hW.alike)⟩⟩
  obtain ⟨q0, q1, qP, qK, qN, qx, qz⟩ := q
  exact ⟨q0, q1, qP, va_K.moved (u := U) (U := U.calling g mk a) (Vm.Alike.refl U.vm) qK, cg_nest.same (s := U) (U := U.calling g mk a) rfl qN, cg_xf.same (s := U) (U := U.calling g mk a) rfl qx, ⟨vx_Zq.moved (u := U) (U := U.calling g mk a) (Vm.Alike.refl U.vm) qz.1, vx_Zq.moved (u := U) (U := U.calling g mk a) (Vm.Alike.refl U.vm) qz.2⟩⟩
/-- what a call of the law's own finds -/
theorem gp_pL {av : (Nat → Nat) → List Value} {H : Heap} {locs : List Loc} (hle : w.2 ≤ w'.2) (hY : cp_Y w' own cc nL ret tab p l s m args meth c D cy ad) (h2 : va_P D vwCl (cg_W w cy ad τ0) H) (h3 : va_S (cg_F ad w'.2 s.heap.size) s.heap H locs) : FrameBlind (va_Pc (av ad) (cp_PX w D cy ad τ0 H.size)) ∧ ∀ U : State, U.heap = H → s.WarmedH U.vm → va_Pc (av ad) (cp_PX w D cy ad τ0 H.size) (av ad).toArray U := by
  have h := gp_pX (av := av) hle hY h2 h3
  refine ⟨fun a U g mk q => ?_, fun U hU hW => ⟨(h.2 U hU hW).1, (h.2 U hU hW).2, lw_nc.warm hW hY.2.2.2.2.2.1, by rw [hU]; exact hY.2.2.2.2.2.2.at hW h3.2.1 (cg_F_le hle h3.1)⟩⟩
  obtain ⟨q0, q1, qn, qs⟩ := q
  have h9 := h.1 a U g mk ⟨q0, q1⟩
  exact ⟨h9.1, h9.2, lw_nc.same (s := U) (U := U.calling g mk a) rfl qn, lw_sq.same (s := U) (U := U.calling g mk a) rfl qs⟩
/-- behind a call over w, seen from w' -/
theorem gp_k {H : Heap} {locs : List Loc} {ls : Array Slot} {st0 rest : List Value} {aa : Array Value} {mc1 ms1 : Nat} {Q1 : (Nat → Nat) → Option Value → cg_S → Prop} {X1 : String → cg_S → Prop} (hle : w.2 ≤ w'.2) (hinj : cg_inj ad w'.2) (hr : vx_Run p l e R s m args below meth c H locs kc ks mc1 ms1 (F0 m pc ls st0) rest (cg_Q w D cy ad Q1 (cg_F ad w.2 H.size) aa) (cg_XC w D cy ad X1 (cg_F ad w.2 H.size)) (cg_F ad w.2 H.size)) (h2 : va_P D vwCl (cg_W w' cy ad σ) H) (hS : va_S (cg_F ad w'.2 s.heap.size) s.heap H locs)
    (kx : ∀ (E : String) (ce : Cell) (q9 : Addr) (τ : cg_S), X1 E τ → ∃ σ', cg_in w w' τ σ' ∧ cg_ke w w' σ σ' ∧ ∀ (H1 : Heap) (locs1 : List Loc), va_P D vwCl (cg_W w' cy ad σ') H1 → va_S (cg_F ad w'.2 s.heap.size) s.heap H1 locs1 → H1[q9]? = some ce → ce.vm = .none → s.vm.findClass E = some ce.cls → vx_W p l e R s m args below meth c H1 locs1 (kc + mc1) (ks + ms1) Z (F0 m pc ls rest) q9)
    (kk : ∀ (v : Option Value) (τ : cg_S), Q1 ad v τ → ∃ σ', cg_in w w' τ σ' ∧ cg_ke w w' σ σ' ∧ ∀ (H1 : Heap) (locs1 : List Loc), va_P D vwCl (cg_W w' cy ad σ') H1 → va_S (cg_F ad w'.2 s.heap.size) s.heap H1 locs1 → W p l e R s m args below meth c H1 locs1 (kc + mc1) (ks + ms1) Z (F0 m (pc + 3) ls (v.toList ++ rest))) : W p l e R s m args below meth c H locs kc ks Z (F0 m pc ls st0) := by
  have hA : ∀ q, q < H.size → cg_F ad w.2 H.size q → cg_F ad w'.2 s.heap.size q := fun q _ => cg_F_le hle hS.1 q
  intro T hT X0
  rcases hr T hT X0 with ⟨v, st₀, t, T', L, h0, X', hL, e1, e2, ⟨⟨v', τ, hv, hp, hb⟩, hF⟩, st⟩ | ⟨q, st₀, t, T', L, E, ce, h0, X', hL, e1, e2, ⟨⟨τ, hp, hb⟩, hF⟩, hce, hcv, hcl, st⟩
  · cases hv
    obtain ⟨k1, k2, k3⟩ := vx_keep h0 e1 hS hA (fun q => cg_F_le hle hS.1 q) hL hF
    obtain ⟨σ', g1, g2, g3⟩ := kk v τ hp
    obtain ⟨t2, a1, b1⟩ := g3 T'.heap (locs ++ L) (gp_put hle hinj g1 g2 h2 k2 (by rw [e1]; exact hb)) k3 T' rfl X'
    exact ⟨t2, st t2 a1, b1⟩
  · obtain ⟨k1, k2, k3⟩ := vx_keep h0 e1 hS hA (fun q => cg_F_le hle hS.1 q) hL hF
    obtain ⟨σ', g1, g2, g3⟩ := kx E ce q τ hp
    obtain ⟨t2, a1, b1⟩ := g3 T'.heap (locs ++ L) (gp_put hle hinj g1 g2 h2 k2 (by rw [e1]; exact hb)) k3 (by rw [e1]; exact hce) hcv hcl T' rfl X'
    exact ⟨t2, st.trans a1, b1⟩
/-- a call, caught, of a method of the class that may throw -/
theorem gp_callX {y : MethodName} {c1 : ByteArray} {n1 : Nat} {r1 : Option FieldType} {R1 : Room} {idx n mc1 ms1 : Nat} {Q1 : (Nat → Nat) → Option Value → cg_S → Prop} {X1 : String → cg_S → Prop} {stk As : List Value} {av : (Nat → Nat) → List Value} {hs : List (String × Nat × Nat)} {sp ep : Nat} (hY : cp_Y cg_WC RL cc nL ret (tableOf hh) p l s m args meth c D cy ad) (hM : cg_MX cg_WC y c1 n1 r1 R1 mc1 ms1 av σ Q1 X1) (hw1 : Cond.methodLink RL idx y ∈ cg_T) (hw2 : Cond.instanceMethod y ∈ cg_T) (hw3 : Cond.selects "Chanceledger" y y ∈ cg_T) (hw4 : Cond.initialized y.cls ∈ cg_T) (hw5 : Cond.code y c1 n1 r1 ∈ cg_T) (hav : av ad = .ref (ad 0) :: As) (hstk : stk = As.reverse ++ .ref (ad 0) :: st) (hn : As.length = n) (hd : y.cls ≠ "java/lang/invoke/MethodHandle" ∧ y.cls ≠ "java/lang/invoke/VarHandle" ∧ (parseMethodDescriptor y.desc).map (fun d => d.parameters.length) = some n) (hcr : kc + mc1 ≤ R.cells ∧ ks + ms1 ≤ R.slots) (hroom : R1.frames + 1 ≤ R.frames ∧ 8 + (n1 + 11) + R1.locals ≤ R.locals) (hc0 : R1.cells = mc1) (hs0 : R1.slots = ms1) (hcat : (st.map fun v => v.category).sum ≤ 8) (hdg : decode cc pc = .ok (.invokevirtual idx, 3))
    (hhh : hh = hs.map (fun z => (sp, ep, z.2.1, z.2.2))) (hin : sp ≤ pc ∧ pc < ep) (hty : ∀ z ∈ hs, z.2.2 ≠ 0 ∧ z.1 ∈ lw_xs ∧ Cond.classLink RL z.2.2 z.1 ∈ cg_T)
    (kx : ∀ (E : String) (τ : cg_S), X1 E τ → ∃ (pre suf : List (String × Nat × Nat)) (h t : Nat), hs = pre ++ (E, h, t) :: suf ∧ (∀ z ∈ pre, E ≠ z.1) ∧ ∀ q : Nat, cg_G cg_WC R p l e s m args below meth c D cy ad Z (kc + mc1) (ks + ms1) nL h lv [.ref q] τ)
    (kk : ∀ (v : Option Value) (τ : cg_S), Q1 ad v τ → cg_G cg_WC R p l e s m args below meth c D cy ad Z (kc + mc1) (ks + ms1) nL (pc + 3) lv (v.toList ++ st) τ) : cg_G cg_WC R p l e s m args below meth c D cy ad Z kc ks nL (pc) lv (stk) σ := by
  intro H locs ls h1 h2 h3
  subst hstk
  have hM1 := hM l D cy ad H.size hY.2.1 hY.1.2.2.2.2.2.2.2.2.1
  have hB : CallB R s args RL idx y c1 n1 r1 (cg_ws y c1 n1 r1) R1 mc1 ms1 n := callB_of n hY.1.2.2.2.2.2.1 (cg_goodT hw5) rfl hc0 hs0 (hY.1.2.2.2.2.2.1 _ hw4) (hY.1.2.2.2.2.2.1 _ hw1) hd hroom
  have hpc := gp_pX (av := av) (Nat.le_refl _) hY h2 h3
  rw [hav] at hM1 hpc
  refine gp_k (w := cg_WC) (w' := cg_WC) (Nat.le_refl _) hY.1.2.2.2.2.2.2.2.2.1 (vx_runV (C := "Chanceledger") (As := As) (rest := st) (b := ad 0) ⟨hY.1.1, hY.1.2.1, hY.1.2.2.2.1, hY.1.2.2.2.2.1, hY.1.2.2.2.2.2.1⟩ hM1 ⟨hB, hY.1.2.2.2.2.2.1 _ hw2, hY.1.2.2.2.2.2.1 _ hw3⟩ ⟨hpc.1, va_recv hY.1.2.2.2.2.2.2.2.1 h2 (rfl : vwCl[13]? = some (RX11, TX11, 11)) (q0 := 0) ((cg_W_get (wd := cg_WC) (k := 0) (by decide)).trans rfl), hpc.2⟩ rfl hn h1.1 rfl (lv_room hcat) hdg hcr) h2 h3 (fun E ce q9 τ hx => ⟨τ, cg_in.rf, cg_ke.rf, fun H1 locs1 g2 g3 e1 e2 e3 => ?_⟩) (fun v τ hq => ⟨τ, cg_in.rf, cg_ke.rf, fun H1 locs1 g2 g3 => kk v τ hq H1 locs1 ls h1 g2 g3⟩)
  obtain ⟨pre, suf, h, t, r1, r2, r3⟩ := kx E τ hx
  exact gp_catch (mc := mc1) hY.1 hY.2.2.2.1 hY.2.2.2.2.2.1 hY.2.2.1 hhh hin hty r1 r2 e1 e2 e3 (r3 q9 H1 locs1 ls h1 g2 g3)
theorem cp_goodW {y : MethodName} {c1 : ByteArray} {n1 : Nat} {r1 : Option FieldType} {hh : List (Nat × Nat × Nat × Nat)} (hy : Cond.codeWith y c1 n1 r1 hh ∈ cg_T) : GoodIn cg_T (Cond.codeWith y c1 n1 r1 hh :: cg_T) := by
  intro w hw
  rcases List.mem_cons.mp hw with rfl | hw
  · exact ⟨hy, good_of_word (List.mem_filter.mp hy).2⟩
  · exact ⟨hw, good_of_word (List.mem_filter.mp hw).2⟩
/-- a call of a wrapper -/
theorem gp_callW {y : MethodName} {c1 : ByteArray} {n1 : Nat} {r1 : Option FieldType} {h1h : List (Nat × Nat × Nat × Nat)} {R1 : Room} {idx n mc1 ms1 : Nat} {Q1 : (Nat → Nat) → Option Value → cg_S → Prop} {stk As : List Value} {av : (Nat → Nat) → List Value} (hle : w.2 ≤ w'.2) (h0 : cg_in w w' τ0 σ) (hY : cp_Y w' own cc nL ret tab p l s m args meth c D cy ad) (hM : cp_M w y (Cond.codeWith y c1 n1 r1 h1h) R1 mc1 ms1 av τ0 Q1) (hw1 : Cond.methodLink own idx y ∈ cg_T) (hw2 : Cond.static y ∈ cg_T) (hw4 : Cond.initialized y.cls ∈ cg_T) (hw5 : Cond.codeWith y c1 n1 r1 h1h ∈ cg_T) (hav : av ad = As) (hstk : stk = As.reverse ++ st) (hn : As.length = n) (hd : y.cls ≠ "java/lang/invoke/MethodHandle" ∧ y.cls ≠ "java/lang/invoke/VarHandle" ∧ (parseMethodDescriptor y.desc).map (fun d => d.parameters.length) = some n) (hcr : kc + mc1 ≤ R.cells ∧ ks + ms1 ≤ R.slots) (hroom : R1.frames + 1 ≤ R.frames ∧ 8 + (n1 + 11) + R1.locals ≤ R.locals) (hc0 : R1.cells = mc1) (hs0 : R1.slots = ms1) (hcat : (st.map fun v => v.category).sum ≤ 8) (hdg : decode cc pc = .ok (.invokestatic idx, 3))
    (kk : ∀ (v : Option Value) (τ : cg_S), Q1 ad v τ → ∃ σ', cg_in w w' τ σ' ∧ cg_ke w w' σ σ' ∧ cg_G w' R p l e s m args below meth c D cy ad Z (kc + mc1) (ks + ms1) nL (pc + 3) lv (v.toList ++ st) σ') : cg_G w' R p l e s m args below meth c D cy ad Z kc ks nL (pc) lv (stk) σ := by
  intro H locs ls h1 h2 h3
  subst hstk
  have hM1 := hM l D cy ad H.size hY.2.1 (cg_inj.le hle hY.1.2.2.2.2.2.2.2.2.1)
  have hG := cp_goodW hw5
  have hB : vx_CSW R s args own idx y c1 n1 r1 h1h (Cond.codeWith y c1 n1 r1 h1h :: cg_T) R1 mc1 ms1 n := by
    refine ⟨⟨hc0, hs0, hroom.1, hroom.2, pay_in hY.1.2.2.2.2.2.1 hG, List.mem_cons_self⟩, hY.1.2.2.2.2.2.1 _ hw5, hY.1.2.2.2.2.2.1 _ hw4, ⟨hd.1, hd.2.1⟩, fun sig h => ?_, hY.1.2.2.2.2.2.1 _ hw1, hY.1.2.2.2.2.2.1 _ hw2⟩
    have h2 := hd.2.2
    rw [h] at h2
    exact (Option.some.inj h2).symm
  have hpc := gp_pL (av := av) hle hY (gp_sub hle h0 h2) h3
  rw [hav] at hM1 hpc
  exact gp_k hle hY.1.2.2.2.2.2.2.2.2.1 (vx_runSX (As := As) (rest := st) ⟨hY.1.1, hY.1.2.1, hY.1.2.2.2.1, hY.1.2.2.2.2.1, hY.1.2.2.2.2.2.1⟩ hM1 hB ⟨hpc.1, hpc.2⟩ (g := F0 m pc ls (As.reverse ++ st)) (p := p) (e := e) (below := below) (meth := meth) (locs := locs) (cells := kc) (slots := ks) rfl hn h1.1 rfl (lv_room hcat) hdg hcr) h2 h3 (fun E ce q9 τ hx => hx.elim) (fun v τ hq => by
    obtain ⟨σ', g1, g2, g3⟩ := kk v τ hq
    exact ⟨σ', g1, g2, fun H1 locs1 g4 g5 => g3 H1 locs1 ls h1 g4 g5⟩)
theorem cp_goodH {y : MethodName} {c1 : ByteArray} {n1 : Nat} {r1 : Option FieldType} (hy : Cond.code y c1 n1 r1 ∈ cg_T) : GoodIn cg_T (Cond.code y c1 n1 r1 :: cg_T) := cg_goodT hy
/-- a call of a method of the law's own that has no handlers -/
theorem gp_callH {y : MethodName} {c1 : ByteArray} {n1 : Nat} {r1 : Option FieldType} {R1 : Room} {idx n mc1 ms1 : Nat} {Q1 : (Nat → Nat) → Option Value → cg_S → Prop} {stk As : List Value} {av : (Nat → Nat) → List Value} (hle : w.2 ≤ w'.2) (h0 : cg_in w w' τ0 σ) (hY : cp_Y w' own cc nL ret tab p l s m args meth c D cy ad) (hM : cp_M w y (Cond.code y c1 n1 r1) R1 mc1 ms1 av τ0 Q1) (hw1 : Cond.methodLink own idx y ∈ cg_T) (hw2 : Cond.static y ∈ cg_T) (hw4 : Cond.initialized y.cls ∈ cg_T) (hw5 : Cond.code y c1 n1 r1 ∈ cg_T) (hav : av ad = As) (hstk : stk = As.reverse ++ st) (hn : As.length = n) (hd : y.cls ≠ "java/lang/invoke/MethodHandle" ∧ y.cls ≠ "java/lang/invoke/VarHandle" ∧ (parseMethodDescriptor y.desc).map (fun d => d.parameters.length) = some n) (hcr : kc + mc1 ≤ R.cells ∧ ks + ms1 ≤ R.slots) (hroom : R1.frames + 1 ≤ R.frames ∧ 8 + (n1 + 11) + R1.locals ≤ R.locals) (hc0 : R1.cells = mc1) (hs0 : R1.slots = ms1) (hcat : (st.map fun v => v.category).sum ≤ 8) (hdg : decode cc pc = .ok (.invokestatic idx, 3))
    (kk : ∀ (v : Option Value) (τ : cg_S), Q1 ad v τ → ∃ σ', cg_in w w' τ σ' ∧ cg_ke w w' σ σ' ∧ cg_G w' R p l e s m args below meth c D cy ad Z (kc + mc1) (ks + ms1) nL (pc + 3) lv (v.toList ++ st) σ') : cg_G w' R p l e s m args below meth c D cy ad Z kc ks nL (pc) lv (stk) σ := by
  intro H locs ls h1 h2 h3
  subst hstk
  have hM1 := hM l D cy ad H.size hY.2.1 (cg_inj.le hle hY.1.2.2.2.2.2.2.2.2.1)
  have hB : CallB R s args own idx y c1 n1 r1 (Cond.code y c1 n1 r1 :: cg_T) R1 mc1 ms1 n := callB_of n hY.1.2.2.2.2.2.1 (cp_goodH hw5) rfl hc0 hs0 (hY.1.2.2.2.2.2.1 _ hw4) (hY.1.2.2.2.2.2.1 _ hw1) hd hroom
  have hpc := gp_pL (av := av) hle hY (gp_sub hle h0 h2) h3
  rw [hav] at hM1 hpc
  exact gp_k hle hY.1.2.2.2.2.2.2.2.2.1 (vx_runS (As := As) (rest := st) ⟨hY.1.1, hY.1.2.1, hY.1.2.2.2.1, hY.1.2.2.2.2.1, hY.1.2.2.2.2.2.1⟩ hM1 ⟨hB, hY.1.2.2.2.2.2.1 _ hw2⟩ hpc rfl hn h1.1 rfl (lv_room hcat) hdg hcr) h2 h3 (fun E ce q9 τ hx => hx.elim) (fun v τ hq => by
    obtain ⟨σ', g1, g2, g3⟩ := kk v τ hq
    exact ⟨σ', g1, g2, fun H1 locs1 g4 g5 => g3 H1 locs1 ls h1 g4 g5⟩)
/-- a call of a method of the class that doesn't throw -/
theorem gp_callC {y : MethodName} {c1 : ByteArray} {n1 : Nat} {r1 : Option FieldType} {R1 : Room} {idx n : Nat} {stk As : List Value} {av : (Nat → Nat) → List Value} {Q : (Nat → Nat) → Option Value → cg_S → Prop} (hle : cg_WC.2 ≤ w'.2) (h0 : cg_in cg_WC w' τ0 σ) (hC : cg_X w' own cc nL ret p s m args meth c D cy ad) (hM : cg_M cg_WC y c1 n1 r1 R1 av τ0 Q) (hw1 : Cond.methodLink own idx y ∈ cg_T) (hw2 : Cond.instanceMethod y ∈ cg_T) (hw3 : Cond.selects "Chanceledger" y y ∈ cg_T) (hw4 : Cond.initialized y.cls ∈ cg_T) (hw5 : Cond.code y c1 n1 r1 ∈ cg_T) (hav : av ad = .ref (ad 0) :: As) (hstk : stk = As.reverse ++ .ref (ad 0) :: st) (hn : As.length = n) (hd : y.cls ≠ "java/lang/invoke/MethodHandle" ∧ y.cls ≠ "java/lang/invoke/VarHandle" ∧ (parseMethodDescriptor y.desc).map (fun d => d.parameters.length) = some n) (hcs : kc ≤ R.cells ∧ ks ≤ R.slots) (hroom : R1.frames + 1 ≤ R.frames ∧ 8 + (n1 + 11) + R1.locals ≤ R.locals) (hc0 : R1.cells = 0) (hs0 : R1.slots = 0) (hcat : (st.map fun v => v.category).sum ≤ 8) (hdg : decode cc pc = .ok (.invokevirtual idx, 3)) (kk : ∀ (v : Option Value) (τ : cg_S), Q ad v τ → ∃ σ', cg_in cg_WC w' τ σ' ∧ cg_ke cg_WC w' σ σ' ∧ cg_G w' R p l e s m args below meth c D cy ad Z kc ks nL (pc + 3) lv (v.toList ++ st) σ') : cg_G w' R p l e s m args below meth c D cy ad Z kc ks nL (pc) lv (stk) σ := by
  intro H locs ls h1 h2 h3
  subst hstk
  have hCM : cg_X cg_WC own cc nL ret p s m args meth c D cy ad := ⟨hC.1, hC.2.1, hC.2.2.1, hC.2.2.2.1, hC.2.2.2.2.1, hC.2.2.2.2.2.1, hC.2.2.2.2.2.2.1, hC.2.2.2.2.2.2.2.1, cg_inj.le hle hC.2.2.2.2.2.2.2.2.1, hC.2.2.2.2.2.2.2.2.2⟩
  have h2' := gp_sub hle h0 h2
  have hM1 := hM l D cy ad H.size hCM.2.2.2.2.2.2.2.2.1
  have hB : CallB R s args own idx y c1 n1 r1 (cg_ws y c1 n1 r1) R1 0 0 n := callB_of n hC.2.2.2.2.2.1 (cg_goodT hw5) rfl hc0 hs0 (hC.2.2.2.2.2.1 _ hw4) (hC.2.2.2.2.2.1 _ hw1) hd hroom
  have hpc := cg_pc (y := y) (c1 := c1) (n1 := n1) (r1 := r1) (av := av) hCM h2'
  rw [hav] at hM1 hpc
  have hr := va_runV (C := "Chanceledger") (As := As) (rest := st) (b := ad 0) ⟨hC.1, hC.2.1, hC.2.2.2.1, hC.2.2.2.2.1, hC.2.2.2.2.2.1⟩ hM1 ⟨hB, hC.2.2.2.2.2.1 _ hw2, hC.2.2.2.2.2.1 _ hw3⟩ ⟨hpc.1, va_recv hC.2.2.2.2.2.2.2.1 h2' (rfl : vwCl[13]? = some (RX11, TX11, 11)) (q0 := 0) ((cg_W_get (wd := cg_WC) (k := 0) (by decide)).trans rfl), hpc.2⟩ (p := p) (e := e) (below := below) (meth := meth) (locs := locs) (cells := kc) (slots := ks) (g := F0 m pc ls (As.reverse ++ .ref (ad 0) :: st)) rfl hn h1.1 rfl (lv_room hcat) hdg hcs
  have hA : ∀ q, q < H.size → cg_F ad cg_WC.2 H.size q → cg_F ad w'.2 s.heap.size q := fun q _ => cg_F_le hle h3.1 q
  intro T hT X0
  obtain ⟨v, st₀, t, T', L, g0, X', hL, e1, e2, ⟨⟨v', τ, hv, hp, hb⟩, hF⟩, st⟩ := hr T hT X0
  cases hv
  obtain ⟨k1, k2, k3⟩ := vx_keep g0 e1 h3 hA (fun q => cg_F_le hle h3.1 q) hL hF
  obtain ⟨σ', g1, g2, g3⟩ := kk v τ hp
  obtain ⟨t2, a1, b1⟩ := g3 T'.heap (locs ++ L) ls h1 (gp_put hle hC.2.2.2.2.2.2.2.2.1 g1 g2 h2 k2 (by rw [e1]; exact hb)) k3 T' rfl X'
  exact ⟨t2, st t2 a1, b1⟩
end GP
section GP2
variable {wd : cg_Wd} {cc : ByteArray} {nL : Nat} {ret : Option FieldType} {p : Program} {l : Launch} {e : Env} {R : Room} {s : State} {m : MethodId} {args : Array Value} {below : List Frame} {meth : Method} {c : Code} {D : va_G} {cy : Nat → ClassId} {ad : Nat → Nat} {kc ks pc : Nat} {lv : List (Nat × Value)} {st : List Value} {σ : cg_S} {Z : State → Prop} {own : String}
theorem gp_kc {k : Nat} (h1 : kc = k) (h2 : ks = 6 * k) (kk : cg_G wd R p l e s m args below meth c D cy ad Z k (6 * k) nL pc lv st σ) : cg_G wd R p l e s m args below meth c D cy ad Z kc ks nL pc lv st σ := by
  subst h1 h2; exact kk
theorem gp_kw {k : Nat} (h1 : kc ≤ k) (h2 : ks ≤ 6 * k) (kk : cg_G wd R p l e s m args below meth c D cy ad Z k (6 * k) nL pc lv st σ) : cg_G wd R p l e s m args below meth c D cy ad Z kc ks nL pc lv st σ := ga_widen h1 h2 kk
theorem ga_eqi {x : Int32} (y : Int32) (hxy : x = y) (kk : cg_G wd R p l e s m args below meth c D cy ad Z kc ks nL pc lv (.int y :: st) σ) : cg_G wd R p l e s m args below meth c D cy ad Z kc ks nL pc lv (.int x :: st) σ := by
  subst hxy; exact kk
theorem ga_eqs {τ : cg_S} (h : σ = τ) (kk : cg_G wd R p l e s m args below meth c D cy ad Z kc ks nL pc lv st τ) : cg_G wd R p l e s m args below meth c D cy ad Z kc ks nL pc lv st σ := by
  subst h; exact kk
theorem ga_idiv {x y : Int32} (hC : cg_X wd own cc nL ret p s m args meth c D cy ad) (hdg : decode cc pc = .ok (.idiv, 1)) (hne : ¬ y = 0) (kk : cg_G wd R p l e s m args below meth c D cy ad Z kc ks nL (pc + 1) lv (.int (x / y) :: st) σ) : cg_G wd R p l e s m args below meth c D cy ad Z kc ks nL (pc) lv (.int y :: .int x :: st) σ := fun H locs ls h1 h2 h3 => lv_idiv hC.1 hC.2.1 hdg hne (kk H locs ls h1 h2 h3)
end GP2
