/-! THE LAYER: worlds of fixed cells, what a method does to them, one row an instruction -/
/-- the words of the tables that hold at every call -/
def cg_T : List Cond := lw_tbl.filter goodWord
def cg_ws (y : MethodName) (cc : ByteArray) (nL : Nat) (ret : Option FieldType) : List Cond := Cond.code y cc nL ret :: cg_T
theorem cg_inT {ws : List Cond} (h : ∀ w ∈ ws, w ∈ lw_tbl) (hg : ws.all goodWord = true) : ∀ w ∈ ws, w ∈ cg_T := fun w hw => List.mem_filter.mpr ⟨h w hw, List.all_eq_true.mp hg w hw⟩
theorem cg_goodT {y : MethodName} {cc : ByteArray} {nL : Nat} {ret : Option FieldType} (hy : Cond.code y cc nL ret ∈ cg_T) : GoodIn cg_T (cg_ws y cc nL ret) := by
  intro w hw
  rcases List.mem_cons.mp hw with rfl | hw
  · exact ⟨hy, good_of_word (List.mem_filter.mp hy).2⟩
  · exact ⟨hw, good_of_word (List.mem_filter.mp hw).2⟩
/-- numbers of a world, by cell and place: ints (booleans, chars), longs, doubles -/
abbrev cg_S : Type := (Nat → Nat → Int32) × (Nat → Nat → Int64) × (Nat → Nat → UInt64)
/-- a world: what a cell is by its numbers, and how many cells -/
abbrev cg_Wd : Type := ((Nat → ClassId) → (Nat → Nat) → (Nat → Int32) → (Nat → Int64) → (Nat → UInt64) → Nat → va_E) × Nat
def cg_c (wd : cg_Wd) (cy : Nat → ClassId) (ad : Nat → Nat) (σ : cg_S) (k : Nat) : va_E := wd.1 cy ad (σ.1 k) (σ.2.1 k) (σ.2.2 k) k
def cg_W (wd : cg_Wd) (cy : Nat → ClassId) (ad : Nat → Nat) (σ : cg_S) : va_W := (List.range wd.2).map (fun k => (ad k, cg_c wd cy ad σ k))
theorem cg_W_get {wd : cg_Wd} {cy : Nat → ClassId} {ad : Nat → Nat} {σ : cg_S} {k : Nat} (h : k < wd.2) : (cg_W wd cy ad σ)[k]? = some (ad k, cg_c wd cy ad σ k) := by
  simp [cg_W, h]
theorem cg_W_some {wd : cg_Wd} {cy : Nat → ClassId} {ad : Nat → Nat} {σ : cg_S} {k : Nat} {q : Nat × va_E} (h : (cg_W wd cy ad σ)[k]? = some q) : k < wd.2 ∧ q = (ad k, cg_c wd cy ad σ k) := by
  by_cases hk : k < wd.2
  · rw [cg_W_get hk] at h
    exact ⟨hk, (Option.some.inj h).symm⟩
  · have h0 : (cg_W wd cy ad σ)[k]? = none := List.getElem?_eq_none (by simp [cg_W]; omega)
    rw [h0] at h
    cases h
theorem cg_W_set {wd : cg_Wd} {cy : Nat → ClassId} {ad : Nat → Nat} {σ τ : cg_S} {k : Nat} {e : va_E} (h : k < wd.2) (he : cg_c wd cy ad τ k = e) (ho : ∀ j, j ≠ k → cg_c wd cy ad τ j = cg_c wd cy ad σ j) : (cg_W wd cy ad σ).set k (ad k, e) = cg_W wd cy ad τ := by
  apply List.ext_getElem?
  intro j
  rw [List.getElem?_set]
  by_cases hj : k = j
  · subst hj
    rw [if_pos rfl, cg_W_get h, he]
    simp [cg_W, h]
  · rw [if_neg hj]
    simp only [cg_W, List.getElem?_map]
    by_cases h2 : j < wd.2
    · simp [h2, ho j (Ne.symm hj)]
    · simp [h2]
def cg_inj (ad : Nat → Nat) (n : Nat) : Prop := ∀ i j, i < n → j < n → ad i = ad j → i = j
/-- which cells a method over this world may change -/
def cg_F (ad : Nat → Nat) (n sz : Nat) : Nat → Prop := fun q => (∃ k, k < n ∧ q = ad k) ∨ sz ≤ q
theorem cg_F_mono {ad : Nat → Nat} {n a b : Nat} (h : a ≤ b) : ∀ q, cg_F ad n b q → cg_F ad n a q := fun _ hq => hq.elim Or.inl (fun h2 => Or.inr (Nat.le_trans h h2))
theorem cg_D {wd : cg_Wd} {cy : Nat → ClassId} {ad : Nat → Nat} {σ : cg_S} {sz : Nat} (h : cg_inj ad wd.2) : va_D (cg_F ad wd.2 sz) (cg_W wd cy ad σ) := by
  refine ⟨fun i j p q hp hq he => ?_, fun k q hk => ?_⟩
  · obtain ⟨h1, rfl⟩ := cg_W_some hp
    obtain ⟨h2, rfl⟩ := cg_W_some hq
    exact h i j h1 h2 he
  · obtain ⟨h1, rfl⟩ := cg_W_some hk
    exact Or.inl ⟨k, h1, rfl⟩
/-- the arrays' classes: boolean, int, long, double, int[], long[], Values -/
abbrev cg_tys (cy : Nat → ClassId) : List (ClassId × FieldType) := [(cy 0, .boolean), (cy 1, .int), (cy 2, .long), (cy 3, .double), (cy 4, .array .int), (cy 5, .array .long), (cy 6, .object "Chanceledger$Values")]
/-- calls of a private method of a nest mate -/
def cg_N : List (String × Nat × MethodName × String) := [
  ("Chanceledger$Equations", 32, ⟨"Chanceledger", "quotient", "(JJ)J"⟩, "Chanceledger"),
  ("Chanceledger$Sweep", 94, ⟨"Chanceledger", "compareFractions", "(JJJJ)I"⟩, "Chanceledger"),
  ("Chanceledger$Chain", 127, ⟨"Chanceledger", "lowestAbove", "(JJ)J"⟩, "Chanceledger"),
  ("Chanceledger$Chain", 131, ⟨"Chanceledger", "lowestBelow", "(JJ)J"⟩, "Chanceledger"),
  ("Chanceledger$LongRun", 147, ⟨"Chanceledger", "lowestAbove", "(JJ)J"⟩, "Chanceledger"),
  ("Chanceledger$LongRun", 151, ⟨"Chanceledger", "lowestBelow", "(JJ)J"⟩, "Chanceledger"),
  ("Chanceledger$LongRun", 164, ⟨"Chanceledger", "quotient", "(JJ)J"⟩, "Chanceledger"),
  ("Chanceledger$Traces", 62, ⟨"Chanceledger", "compareFractions", "(JJJJ)I"⟩, "Chanceledger"),
  ("Chanceledger", 9, ⟨"Chanceledger$Game", "<init>", "()V"⟩, "Chanceledger"),
  ("Chanceledger$Chain", 11, ⟨"Chanceledger$Equations", "<init>", "()V"⟩, "Chanceledger"),
  ("Chanceledger$LongRun", 21, ⟨"Chanceledger$Values", "<init>", "()V"⟩, "Chanceledger"),
  ("Chanceledger$Sweep", 17, ⟨"Chanceledger$Values", "<init>", "()V"⟩, "Chanceledger"),
  ("Chanceledger$Traces", 11, ⟨"Chanceledger$Values", "<init>", "()V"⟩, "Chanceledger"),
  ("Chanceledger", 86, ⟨"Chanceledger$Values", "<init>", "()V"⟩, "Chanceledger")]
theorem cg_N_tbl : ∀ q ∈ cg_N, Cond.methodLinkNest q.1 q.2.1 q.2.2.1 q.2.2.2 ∈ tables_1 := by decide +kernel
def cg_nest (U : State) : Prop := ∀ q ∈ cg_N, va_Nw (.methodLinkNest q.1 q.2.1 q.2.2.1 q.2.2.2) U
theorem cg_nest.warm {s U : State} (hW : s.WarmedH U.vm) (h : cg_nest s) : cg_nest U := fun q hq => va_Nw.warmM hW (h q hq)
theorem cg_nest.same {s U : State} (hv : s.vm = U.vm) (h : cg_nest s) : cg_nest U := fun q hq => va_Nw.same rfl hv (h q hq)
/-- a method's end: an answer and a new world -/
def cg_Q (wd : cg_Wd) (D : va_G) (cy : Nat → ClassId) (ad : Nat → Nat) (Q : (Nat → Nat) → Option Value → cg_S → Prop) (A : Nat → Prop) : Array Value → State → Outcome → State → Prop := fun _ st oc t => (∃ (v : Option Value) (σ : cg_S), oc = .returned v ∧ Q ad v σ ∧ va_P D vwCl (cg_W wd cy ad σ) t.heap) ∧ va_F A st t
/-- what is known throughout a method's body -/
def cg_X (wd : cg_Wd) (own : String) (cc : ByteArray) (nL : Nat) (ret : Option FieldType) (p : Program) (s : State) (m : MethodId) (args : Array Value) (meth : Method) (c : Code) (D : va_G) (cy : Nat → ClassId) (ad : Nat → Nat) : Prop :=
  p.tables.exec = Jvm.exec ∧ c.code = cc ∧ meth.sig.returnType = ret ∧ c.maxLocals = nL ∧ s.vm.findClass own = some m.cls ∧ (∀ w ∈ cg_T, w.before args s = true) ∧ meth.locks = false ∧ va_K D vwCl (cg_tys cy) s ∧ cg_inj ad wd.2 ∧ cg_nest s
/-- from here on, at these locals and this stack, over this world, the machine comes to Z -/
def cg_G (wd : cg_Wd) (R : Room) (p : Program) (l : Launch) (e : Env) (s : State) (m : MethodId) (args : Array Value) (below : List Frame) (meth : Method) (c : Code) (D : va_G) (cy : Nat → ClassId) (ad : Nat → Nat) (Z : State → Prop) (kc ks nL pc : Nat) (lv : List (Nat × Value)) (st : List Value) (σ : cg_S) : Prop :=
  ∀ (H : Heap) (locs : List Loc) (ls : Array Slot), lv_has ls nL lv → va_P D vwCl (cg_W wd cy ad σ) H → va_S (cg_F ad wd.2 s.heap.size) s.heap H locs → W p l e R s m args below meth c H locs kc ks Z (F0 m pc ls st)
abbrev cg_Z (wd : cg_Wd) (D : va_G) (cy : Nat → ClassId) (ad : Nat → Nat) (Q : (Nat → Nat) → Option Value → cg_S → Prop) (below : List Frame) (args : Array Value) (s : State) : State → Prop := MQ below (cg_Q wd D cy ad Q (cg_F ad wd.2 s.heap.size)) args s 0 0 (cg_F ad wd.2 s.heap.size)
/-- a place in a body: whoever comes there ends with Q -/
def cg_L (wd : cg_Wd) (own : String) (cc : ByteArray) (nL : Nat) (ret : Option FieldType) (R : Room) (pc : Nat) (lv : (Nat → Nat) → List (Nat × Value)) (st : (Nat → Nat) → List Value) (σ : cg_S) (Q : (Nat → Nat) → Option Value → cg_S → Prop) : Prop :=
  ∀ (p : Program) (l : Launch) (e : Env) (s : State) (m : MethodId) (args : Array Value) (below : List Frame) (meth : Method) (c : Code) (D : va_G) (cy : Nat → ClassId) (ad : Nat → Nat), cg_X wd own cc nL ret p s m args meth c D cy ad → cg_G wd R p l e s m args below meth c D cy ad (cg_Z wd D cy ad Q below args s) 0 0 nL pc (lv ad) (st ad) σ
/-- a method's contract -/
def cg_M (wd : cg_Wd) (y : MethodName) (cc : ByteArray) (nL : Nat) (ret : Option FieldType) (R : Room) (av : (Nat → Nat) → List Value) (σ : cg_S) (Q : (Nat → Nat) → Option Value → cg_S → Prop) : Prop :=
  ∀ (l : Launch) (D : va_G) (cy : Nat → ClassId) (ad : Nat → Nat) (sz : Nat), cg_inj ad wd.2 → Met l y (cg_ws y cc nL ret) R (va_Pc (av ad) (fun U => U.heap.size = sz ∧ va_P D vwCl (cg_W wd cy ad σ) U.heap ∧ va_K D vwCl (cg_tys cy) U ∧ cg_nest U)) (cg_Q wd D cy ad Q (cg_F ad wd.2 sz)) 0 0 (cg_F ad wd.2 sz)
abbrev cg_R (d : Nat) : Room := { frames := d, cells := 0, slots := 0, locals := 64 * d }
theorem cg_entry {wd : cg_Wd} {y : MethodName} {cc : ByteArray} {nL : Nat} {ret : Option FieldType} {R : Room} {av : (Nat → Nat) → List Value} {lv : (Nat → Nat) → List (Nat × Value)} {σ : cg_S} {Q : (Nat → Nat) → Option Value → cg_S → Prop} (hy : plainName y.cls = true) (hlv : ∀ ad, lv_args 0 (av ad) = lv ad) (hn : ∀ ad, (lg_sl (av ad)).length ≤ nL) (h : cg_L wd y.cls cc nL ret R 0 lv (fun _ => []) σ Q) : cg_M wd y cc nL ret R av σ Q := by
  intro l D cy ad sz hinj
  refine Met.ofW (cc := cc) (maxL := nL) (ret := ret) hy rfl ?_
  intro p e s m args below meth c s₁ B hml hv
  obtain ⟨rfl, hsz, hP, hK, hN⟩ := hv
  subst hsz
  have hts := atoms_spec (ws := cg_ws y cc nL ret) B.pre
  have hX : cg_X wd y.cls cc nL ret p s m (av ad).toArray meth c D cy ad := ⟨B.exec, B.bytes, B.returns, hml, findClass_of_methodNamed B.named, fun w hw => hts w (List.mem_cons_of_mem _ hw), B.notSynchronized, hK, hinj, hN⟩
  have hl := lv_entry (av ad) (n := nL) (hn ad)
  rw [lg_entry_eq]
  rw [hlv] at hl
  exact h p l e s m _ below meth c D cy ad hX s.heap [] _ hl hP va_S.rf
theorem cg_M.mono {wd : cg_Wd} {y : MethodName} {cc : ByteArray} {nL : Nat} {ret : Option FieldType} {R : Room} {av : (Nat → Nat) → List Value} {σ : cg_S} {Q Q' : (Nat → Nat) → Option Value → cg_S → Prop} (h : cg_M wd y cc nL ret R av σ Q) (hq : ∀ ad v τ, Q ad v τ → Q' ad v τ) : cg_M wd y cc nL ret R av σ Q' := by
  intro l D cy ad sz hinj
  intro p e h1 h2 h3 s m args below h4 h5 h6 h7
  obtain ⟨n, o, g1, g2, g3, ⟨⟨v, τ, q1, q2, q3⟩, q4⟩, q5⟩ := h l D cy ad sz hinj p e h1 h2 h3 s m args below h4 h5 h6 h7
  exact ⟨n, o, g1, g2, g3, ⟨⟨v, τ, q1, hq _ _ _ q2, q3⟩, q4⟩, q5⟩
