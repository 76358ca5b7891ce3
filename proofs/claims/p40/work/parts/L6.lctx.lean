/-! THE LAW'S BODY: what is known throughout, a row made anew, a row left behind -/
theorem lw_sq.nar {A B : Nat → Prop} {U : State} {H : Heap} (h : lw_sq A U H) (hAB : ∀ q, B q → A q) : lw_sq B U H := by
  obtain ⟨sa, sb, h1, h2, h3, h4⟩ := h
  exact ⟨sa, sb, h1.narrow hAB, h2.narrow hAB, h3, h4.narrow hAB⟩
def cq_Y (W : cg_Wd) (L : Nat) (xs : Nat → Int32) (sb : Nat) (tab : List ExceptionTableEntry) (p : Program) (l : Launch) (s : State) (m : MethodId) (args : Array Value) (meth : Method) (c : Code) (D : va_G) (cy : Nat → ClassId) (ad : Nat → Nat) : Prop :=
  cp_Y W RL cL_law 12 ret tab p l s m args meth c D cy ad ∧ (∀ k, k < W.2 → s.heap.size ≤ ad k) ∧ va_X sb L xs s s.heap ∧ sb < s.heap.size
/-- whoever comes to the law's end with 1 is done -/
def cq_E (n L : Nat) (xs : Nat → Int32) (sb : Nat) (tab : List ExceptionTableEntry) (p : Program) (l : Launch) (e : Env) (s : State) (m : MethodId) (args : Array Value) (below : List Frame) (meth : Method) (c : Code) (D : va_G) (cy : Nat → ClassId) (Z : State → Prop) : Prop :=
  ∀ (ad : Nat → Nat) (kc : Nat) (σ : cg_S) (x : Int32), x = 1 → kc ≤ 8000 → cq_Y (cg_W2 n) L xs sb tab p l s m args meth c D cy ad → cg_G (cg_W2 n) room_1 p l e s m args below meth c D cy ad Z kc (6 * kc) 12 514 [(3, .int x)] [] σ
/-- a place in the law's body -/
def cq_L (W : cg_Wd) (n L : Nat) (xs : Nat → Int32) (pc : Nat) (lv : (Nat → Nat) → Nat → List (Nat × Value)) (st : (Nat → Nat) → Nat → List Value) (kc : Nat) (σ : cg_S) : Prop :=
  ∀ (p : Program) (l : Launch) (e : Env) (s : State) (m : MethodId) (args : Array Value) (below : List Frame) (meth : Method) (c : Code) (D : va_G) (cy : Nat → ClassId) (ad : Nat → Nat) (Z : State → Prop) (sb : Nat) (tab : List ExceptionTableEntry), cq_Y W L xs sb tab p l s m args meth c D cy ad → cq_E n L xs sb tab p l e s m args below meth c D cy Z → cg_G W room_1 p l e s m args below meth c D cy ad Z kc (6 * kc) 12 pc (lv ad sb) (st ad sb) σ
section GQ
variable {W w w' : cg_Wd} {p : Program} {l : Launch} {e : Env} {R : Room} {s : State} {m : MethodId} {args : Array Value} {below : List Frame} {meth : Method} {c : Code} {D : va_G} {cy : Nat → ClassId} {ad : Nat → Nat} {kc ks pc nL : Nat} {lv : List (Nat × Value)} {st : List Value} {σ σ' : cg_S} {Z : State → Prop} {sb L : Nat} {xs : Nat → Int32} {tab : List ExceptionTableEntry}
theorem cq_out (h : cq_Y W L xs sb tab p l s m args meth c D cy ad) : ¬ cg_F ad W.2 s.heap.size sb := fun z => by
  rcases z with ⟨k, hk, e⟩ | z
  · have h1 := h.2.1 k hk
    have h2 := h.2.2.2
    omega
  · exact absurd h.2.2.2 (Nat.not_lt.mpr z)
theorem cq_newa {atype : ArrayType} {t0 N : Nat} {cA : ClassId} {ty : FieldType} {n : Int32} {a0 : vp_A} {lvf : (Nat → Nat) → List (Nat × Value)} {stf : (Nat → Nat) → List Value} (hQ : cq_Y w L xs sb tab p l s m args meth c D cy ad) (hw' : w'.2 = w.2 + 1)
    (hcell : ∀ (ad' : Nat → Nat) (k : Nat), (∀ j, j < w.2 → ad' j = ad j) → k < w.2 → cg_c w' cy ad' σ' k = cg_c w cy ad σ k) (hnew : ∀ ad' : Nat → Nat, cg_c w' cy ad' σ' w.2 = .inl (cA, a0))
    (hw : Cond.arrayClass (newarray.typeOf atype) ∈ cg_T) (ht : (cg_tys cy)[t0]? = some (cA, ty)) (hty : newarray.typeOf atype = ty) (hob : ∀ C, ty ≠ .object C) (ha : ∀ cB : ClassId, vp_cell cB a0 = arrV cB N (fun _ => defaultValue ty)) (hn : ¬ n < 0) (hN : n.toNatClampNeg = N) (hb : N * componentBytes ty ≤ 536870912) (hr : kc + 1 ≤ R.cells ∧ ks + N ≤ R.slots) (hdg : decode cL_law pc = .ok (.newarray atype, 2))
    (hlv : ∀ ad' : Nat → Nat, (∀ j, j < w.2 → ad' j = ad j) → lvf ad' = lvf ad) (hst : ∀ ad' : Nat → Nat, (∀ j, j < w.2 → ad' j = ad j) → stf ad' = stf ad)
    (kk : ∀ ad' : Nat → Nat, (∀ j, j < w.2 → ad' j = ad j) → cq_Y w' L xs sb tab p l s m args meth c D cy ad' → cg_G w' R p l e s m args below meth c D cy ad' Z (kc + 1) (ks + N) nL (pc + 2) (lvf ad') (.ref (ad' w.2) :: stf ad') σ') : cg_G w R p l e s m args below meth c D cy ad Z kc ks nL pc (lvf ad) (.int n :: stf ad) σ := by
  intro H locs ls h1 h2 h3
  have hC := hQ.1.1
  have hinj := hC.2.2.2.2.2.2.2.2.1
  refine va_newa (A := cg_F ad w.2 s.heap.size) hC.1 hC.2.1 (hC.2.2.2.2.2.1 _ hw) hty hC.2.2.2.2.2.2.2.1 h2 (cg_D hinj) h3 (fun q hq => Or.inr hq) ha hn hN hb hr.1 hr.2 hdg (fun q cB H1 k1 g1 g2 g3 => ?_)
  have e : cB = cA := by
    have r1 := (k1.2 7 (cB, ty) rfl).2
    have r2 := (hC.2.2.2.2.2.2.2.1.2 t0 _ ht).2
    cases ty <;> first | exact absurd rfl (hob _) | exact Option.some.inj (r1.symm.trans r2)
  subst e
  have hlen : (cg_W w cy ad σ).length = w.2 := by simp [cg_W]
  have hgl : ∀ k, k < w.2 → (cg_W w cy ad σ ++ [(q, (.inl (cB, a0) : va_E))])[k]? = some (ad k, cg_c w cy ad σ k) := fun k hk => by
    rw [List.getElem?_append_left (by rw [hlen]; exact hk)]
    exact cg_W_get hk
  have hgr : (cg_W w cy ad σ ++ [(q, (.inl (cB, a0) : va_E))])[w.2]? = some (q, .inl (cB, a0)) := by
    rw [List.getElem?_append_right (by rw [hlen]; exact Nat.le_refl _), hlen, Nat.sub_self]
    rfl
  have hq : s.heap.size ≤ q := by
    rcases g2.2 _ _ hgr with ⟨k, hk, e⟩ | z
    · have e : q = ad k := e
      rw [e]; exact hQ.2.1 k hk
    · exact z
  obtain ⟨ad', hd⟩ : ∃ ad' : Nat → Nat, ad' = fun k => if k = w.2 then q else ad k := ⟨_, rfl⟩
  have hag : ∀ j, j < w.2 → ad' j = ad j := fun j hj => by rw [hd]; exact if_neg (Nat.ne_of_lt hj)
  have hnw : ad' w.2 = q := by rw [hd]; exact if_pos rfl
  have hg : ∀ k, k < w.2 + 1 → (cg_W w cy ad σ ++ [(q, (.inl (cB, a0) : va_E))])[k]? = some (ad' k, cg_c w' cy ad' σ' k) := fun k hk => by
    by_cases c : k < w.2
    · rw [hgl k c, hag k c, hcell ad' k hag c]
    · have : k = w.2 := by omega
      subst this
      rw [hgr, hnw, hnew ad']
  have hinj' : cg_inj ad' w'.2 := fun i j hi hj he => g2.1 i j _ _ (hg i (by omega)) (hg j (by omega)) he
  have hP' : va_P D vwCl (cg_W w' cy ad' σ') H1 := fun k x hx => by
    obtain ⟨hk, rfl⟩ := cg_W_some hx
    exact g1 k _ (hg k (by omega))
  have hBA : ∀ x, cg_F ad' w'.2 s.heap.size x → cg_F ad w.2 s.heap.size x := fun x hx => by
    rcases hx with ⟨k, hk, e⟩ | z
    · by_cases c : k < w.2
      · exact Or.inl ⟨k, c, by rw [e, hag k c]⟩
      · have : k = w.2 := by omega
        subst this
        exact Or.inr (by rw [e, hnw]; exact hq)
    · exact Or.inr z
  have hAB : ∀ x, cg_F ad w.2 s.heap.size x → cg_F ad' w'.2 s.heap.size x := fun x hx => by
    rcases hx with ⟨k, hk, e⟩ | z
    · exact Or.inl ⟨k, by omega, by rw [e, hag k hk]⟩
    · exact Or.inr z
  have hQ' : cq_Y w' L xs sb tab p l s m args meth c D cy ad' := by
    refine ⟨⟨⟨hC.1, hC.2.1, hC.2.2.1, hC.2.2.2.1, hC.2.2.2.2.1, hC.2.2.2.2.2.1, hC.2.2.2.2.2.2.1, hC.2.2.2.2.2.2.2.1, hinj', hC.2.2.2.2.2.2.2.2.2⟩, hQ.1.2.1, hQ.1.2.2.1, hQ.1.2.2.2.1, ⟨hQ.1.2.2.2.2.1.1.narrow hBA, hQ.1.2.2.2.2.1.2.narrow hBA⟩, hQ.1.2.2.2.2.2.1, hQ.1.2.2.2.2.2.2.nar hBA⟩, fun k hk => ?_, hQ.2.2.1, hQ.2.2.2⟩
    by_cases c : k < w.2
    · rw [hag k c]; exact hQ.2.1 k c
    · have : k = w.2 := by omega
      subst this
      rw [hnw]; exact hq
  have K := kk ad' hag hQ' H1 locs ls (by rw [hlv ad' hag]; exact h1) hP' ⟨g3.1, fun x y z => g3.2.1 x y (fun z2 => z (hAB _ z2)), fun x hx => hAB _ (g3.2.2 x hx)⟩
  rw [hnw, hst ad' hag] at K
  exact K
theorem cq_drop {n : Nat} (hQ : cq_Y (cg_W3 n) L xs sb tab p l s m args meth c D cy ad) : cq_Y (cg_W2 n) L xs sb tab p l s m args meth c D cy ad := by
  have hC := hQ.1.1
  have hle : (cg_W2 n).2 ≤ (cg_W3 n).2 := Nat.le_of_ble_eq_true rfl
  have hBA : ∀ x, cg_F ad (cg_W2 n).2 s.heap.size x → cg_F ad (cg_W3 n).2 s.heap.size x := cg_F_le hle (Nat.le_refl _)
  exact ⟨⟨⟨hC.1, hC.2.1, hC.2.2.1, hC.2.2.2.1, hC.2.2.2.2.1, hC.2.2.2.2.2.1, hC.2.2.2.2.2.2.1, hC.2.2.2.2.2.2.2.1, cg_inj.le hle hC.2.2.2.2.2.2.2.2.1, hC.2.2.2.2.2.2.2.2.2⟩, hQ.1.2.1, hQ.1.2.2.1, hQ.1.2.2.2.1, ⟨hQ.1.2.2.2.2.1.1.narrow hBA, hQ.1.2.2.2.2.1.2.narrow hBA⟩, hQ.1.2.2.2.2.2.1, hQ.1.2.2.2.2.2.2.nar hBA⟩, fun k hk => hQ.2.1 k (Nat.lt_of_lt_of_le hk hle), hQ.2.2.1, hQ.2.2.2⟩
theorem gp_drop {n : Nat} {a : cg_S} {t f g : Nat → Int32} (hQ : cq_Y (cg_W3 n) L xs sb tab p l s m args meth c D cy ad) (kk : cg_G (cg_W2 n) R p l e s m args below meth c D cy ad Z kc ks nL pc lv st (jp a t g)) : cg_G (cg_W3 n) R p l e s m args below meth c D cy ad Z kc ks nL pc lv st (jp a t f) := by
  intro H locs ls h1 h2 h3
  have h89 := hQ.2.1 89 (Nat.le_of_ble_eq_true rfl)
  have hAB : ∀ x, cg_F ad (cg_W3 n).2 s.heap.size x → cg_F ad (cg_W2 n).2 s.heap.size x := fun x hx => by
    rcases hx with ⟨k, hk, e⟩ | z
    · have hk : k < 90 := hk
      by_cases c : k < 89
      · exact Or.inl ⟨k, c, e⟩
      · have : k = 89 := by omega
        subst this
        exact Or.inr (by rw [e]; exact h89)
    · exact Or.inr z
  refine kk H locs ls h1 (fun k q hq => ?_) ⟨h3.1, fun x y z => h3.2.1 x y (fun z2 => z (hAB _ z2)), fun x hx => hAB _ (h3.2.2 x hx)⟩
  obtain ⟨hk, rfl⟩ := cg_W_some hq
  have hk : k < 89 := hk
  have h4 := h2 k _ (cg_W_get (wd := cg_W3 n) (show k < 90 by omega))
  have e : cg_c (cg_W3 n) cy ad (jp a t f) k = cg_c (cg_W2 n) cy ad (jp a t g) k := by
    simp only [cg_c, cg_wP, jp]
    by_cases c : k < 88
    · simp only [if_pos c]
    · have : k = 88 := by omega
      subst this
      rfl
  rw [e] at h4
  exact h4
end GQ
theorem js_cC {cy : Nat → ClassId} {ad ad2 : Nat → Nat} {σ : cg_S} {k : Nat} (h : ∀ j, j < 88 → ad j = ad2 j) (hk : k < 88) : cg_c cg_WC cy ad σ k = cg_c cg_WC cy ad2 σ k := by
  have h85 : (fun j : Nat => if j < 21 then some (ad (36 + j)) else none) = (fun j => if j < 21 then some (ad2 (36 + j)) else none) := funext fun j => by
    by_cases z : j < 21
    · rw [if_pos z, if_pos z, h _ (by omega)]
    · rw [if_neg z, if_neg z]
  have h86 : (fun j : Nat => if j < 7 then some (ad (60 + j)) else none) = (fun j => if j < 7 then some (ad2 (60 + j)) else none) := funext fun j => by
    by_cases z : j < 7
    · rw [if_pos z, if_pos z, h _ (by omega)]
    · rw [if_neg z, if_neg z]
  have h87 : (fun j : Nat => if j < 4 then some (ad (14 + j)) else none) = (fun j => if j < 4 then some (ad2 (14 + j)) else none) := funext fun j => by
    by_cases z : j < 4
    · rw [if_pos z, if_pos z, h _ (by omega)]
    · rw [if_neg z, if_neg z]
  unfold cg_c
  show cg_wC cy ad _ _ _ k = cg_wC cy ad2 _ _ _ k
  unfold cg_wC
  by_cases c1 : k < 19
  · rw [if_pos c1, if_pos c1]
    have h9 := h (k + 56) ; have h8 := h (k + 64)
    unfold cg_oC
    split <;> first | (rw [h8 (by omega), h9 (by omega)]) | simp only [h 1 (by decide), h 19 (by decide), h 2 (by decide), h 3 (by decide), h 5 (by decide), h 6 (by decide), h 7 (by decide), h 8 (by decide), h 9 (by decide), h 10 (by decide), h 11 (by decide), h 57 (by decide), h 20 (by decide), h 21 (by decide), h 22 (by decide), h 23 (by decide), h 24 (by decide), h 25 (by decide), h 85 (by decide), h 26 (by decide), h 83 (by decide), h 84 (by decide), h 4 (by decide), h 27 (by decide), h 86 (by decide), h 58 (by decide), h 28 (by decide), h 59 (by decide), h 12 (by decide), h 29 (by decide), h 30 (by decide), h 13 (by decide), h 87 (by decide), h 31 (by decide), h 32 (by decide), h 33 (by decide), h 34 (by decide), h 18 (by decide), h 35 (by decide)]
  · rw [if_neg c1, if_neg c1, h85, h86, h87]
theorem jp_c2 {n : Nat} {cy : Nat → ClassId} {ad : Nat → Nat} {a : cg_S} {t f : Nat → Int32} (ad' : Nat → Nat) (k : Nat) (h : ∀ j, j < 88 → ad' j = ad j) (hk : k < 88) : cg_c (cg_W2 n) cy ad' (jp a t f) k = cg_c cg_WC cy ad a k := by
  rw [← js_cC (σ := a) h hk]
  exact jp_in2 cy ad' k hk
theorem jp_c23 {n : Nat} {cy : Nat → ClassId} {ad : Nat → Nat} {a : cg_S} {t f g : Nat → Int32} (ad' : Nat → Nat) (k : Nat) (h : ∀ j, j < 89 → ad' j = ad j) (hk : k < 89) : cg_c (cg_W3 n) cy ad' (jp a t g) k = cg_c (cg_W2 n) cy ad (jp a t f) k := by
  by_cases c : k < 88
  · have e1 : cg_c (cg_W3 n) cy ad' (jp a t g) k = cg_c cg_WC cy ad' a k := jp_in3 cy ad' k c
    have e2 : cg_c (cg_W2 n) cy ad (jp a t f) k = cg_c cg_WC cy ad a k := jp_in2 cy ad k c
    rw [e1, e2]
    exact js_cC (fun j hj => h j (by omega)) c
  · have : k = 88 := by omega
    subst this
    rfl
