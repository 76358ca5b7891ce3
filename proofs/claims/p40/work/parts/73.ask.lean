/-! THE CALLS: values, from what the class finds -/
theorem why3_uniq {v1 v2 : Int32} {G : Gm} {e e' : Nat} (h : why3 v1 v2 G e) (h' : why3 v1 v2 G e') : e = e' := by
  rcases h with ⟨rfl, h⟩ | ⟨rfl, ⟨aim, ha, e1⟩, h⟩ | ⟨rfl, ⟨aim, ha, e1⟩, ⟨s, hs, e2⟩, h⟩ <;> rcases h' with ⟨rfl, h'⟩ | ⟨rfl, ⟨aim', ha', e1'⟩, h'⟩ | ⟨rfl, ⟨aim', ha', e1'⟩, ⟨s', hs', e2'⟩, h'⟩
  · rfl
  · exact absurd e1' (h aim' ha')
  · exact absurd e1' (h aim' ha')
  · exact absurd e1 (h' aim ha)
  · rfl
  · exact absurd e2' (h s' hs')
  · exact absurd e1 (h' aim ha)
  · exact absurd e2 (h' s hs)
  · rfl
theorem why3_3 {v1 v2 : Int32} {G : Gm} {e : Nat} (h : why3 v1 v2 G e) : e = 1 ∨ e = 2 ∨ e = 3 := by
  rcases h with ⟨rfl, -⟩ | ⟨rfl, -⟩ | ⟨rfl, -⟩
  · exact Or.inl rfl
  · exact Or.inr (Or.inl rfl)
  · exact Or.inr (Or.inr rfl)
theorem why3_no {v1 v2 : Int32} {G : Gm} {e aim s : Nat} (h : why3 v1 v2 G e) (ha : okA aim) (e1 : v1 = i32 aim) (hs : s < G 0 0) (e2 : v2 = i32 s) (hw : whole G) : False := by
  rcases h with ⟨rfl, h⟩ | ⟨rfl, -, h⟩ | ⟨rfl, -, -, h⟩
  · exact h aim ha e1
  · exact h s hs e2
  · exact h hw
theorem okA_lt {aim : Nat} (h : okA aim) : aim < 2147483648 := by unfold okA at h; omega
theorem mmb_uniq {G : Gm} {aim : Nat} {v w : Nat → Rat} (hv : mmb G aim v) (hw : mmb G aim w) : ∀ s, s < G 0 0 → v s = w s := fun s hs => by
  obtain ⟨p, y, hp, hb, e⟩ := hv.2 s hs
  obtain ⟨p', y', hp', hb', e'⟩ := hw.2 s hs
  have h1 := hw.1 p y hp hb s hs
  have h2 := hv.1 p' y' hp' hb' s hs
  rw [e] at h1
  rw [e'] at h2
  exact Rat.le_antisymm h1 h2
theorem mmb_nonneg {G : Gm} {aim : Nat} {w : Nat → Rat} (hW : GW G) (hw : whole G) (h : mmb G aim w) : ∀ s, s < G 0 0 → 0 ≤ w s := fun s hs => by
  obtain ⟨p, y, hp, hb, e⟩ := h.2 s hs
  rw [← e]
  exact bst_nonneg hW hw hb s hs
/-- the class's exception of a question -/
def exn (e : Nat) : String := if e = 1 then "java/lang/IllegalArgumentException" else if e = 2 then "java/lang/IndexOutOfBoundsException" else "java/lang/IllegalStateException"
/-- the answers at hand -/
def AN (τ : cg_S) (n : Nat) (x : Nat → Rat) : Prop := ∃ d : Nat, d ≠ 0 ∧ (d : Int) < 9223372036854775808 ∧ τ.2.1 4 4 = i64 d ∧ ∀ s, s < n → ∃ u : Nat, (u : Int) < 9223372036854775808 ∧ τ.2.1 58 s = i64 u ∧ x s = ((u : Nat) : Rat) / ((d : Nat) : Rat)
theorem c_told {τ : cg_S} {n s : Nat} {x : Nat → Rat} {Q : Int64 → cg_S → Prop} (hn : n ≤ 7) (h : AN τ n x) (hs : s < n) : (Q (i64 (x s).num) τ → M_X0_toldAbove (i32 s) τ Q) ∧ (Q (i64 ((x s).den : Nat)) τ → M_X0_toldBelow (i32 s) τ Q) := by
  obtain ⟨d, h1, h2, h3, h4⟩ := h
  obtain ⟨u, u1, u2, u3⟩ := h4 s hs
  rw [u3]
  refine ⟨fun q => v_X0_toldAbove ⟨vpi (by omega) (by omega), ?_⟩, fun q => v_X0_toldBelow ⟨vpi (by omega) (by omega), ?_⟩⟩
  · rw [i32_N (by omega), u2, h3]
    exact (c_lowest u1 h2 h1).1 q
  · rw [i32_N (by omega), u2, h3]
    exact (c_lowest u1 h2 h1).2 q
theorem c_needSolvable {v1 v2 : Int32} {a : cg_S} {G : Gm} {ch : Nat} {Q : cg_S → Prop} {X : String → cg_S → Prop} (hC : CG a G ch) (hW : GW G) (hy : ∀ aim s, okA aim → v1 = i32 aim → s < G 0 0 → v2 = i32 s → whole G → Q a) (hx : ∀ e, why3 v1 v2 G e → X (exn e) a) : M_X11_needSolvable v1 v2 a Q X := by
  have hn := hW.1
  refine v_X11_needSolvable (c_needAim (fun aim ha e1 => ?_) (fun z => hx 1 (Or.inl ⟨rfl, z⟩)))
  refine v_X11_needWholeFor (c_needState hC hn (fun s hs e2 => ?_) (fun z => hx 2 (Or.inr (Or.inl ⟨rfl, ⟨aim, ha, e1⟩, z⟩))))
  exact c_needWhole hC hW (fun hw => hy aim s ha e1 hs e2 hw) (fun z => hx 3 (Or.inr (Or.inr ⟨rfl, ⟨aim, ha, e1⟩, ⟨s, hs, e2⟩, z⟩)))
/-- what the improver is to find -/
def IMP : Prop := ∀ (a : cg_S) (G : Gm) (ch aim : Nat) (Q : cg_S → Prop), CG a G ch → CK a G ch → GW G → whole G → okA aim → (∀ τ w, CG τ G ch → CK τ G ch → mmb G aim w → AN τ (G 0 0) w → Q τ) → M_X4_improve (i32 aim) 19 1 1 a Q
theorem c_findValues {v1 v2 : Int32} {a : cg_S} {G : Gm} {ch : Nat} {Q : cg_S → Prop} {X : String → cg_S → Prop} (himp : IMP) (hC : CG a G ch) (hK : CK a G ch) (hW : GW G) (hy : ∀ aim s τ w, okA aim → v1 = i32 aim → s < G 0 0 → v2 = i32 s → whole G → CG τ G ch → CK τ G ch → mmb G aim w → AN τ (G 0 0) w → Q τ) (hx : ∀ e, why3 v1 v2 G e → X (exn e) a) : M_X11_findValues v1 v2 a Q X := by
  refine v_X11_findValues (c_needSolvable hC hW (fun aim s ha e1 hs e2 hw => ?_) hx)
  have k := hy aim s
  rw [e1] at k ⊢
  exact himp a G ch aim _ hC hK hW hw ha (fun τ w h1 h2 h3 h4 => k τ w ha rfl hs e2 hw h1 h2 h3 h4)
/-- the three ways to fail -/
theorem fail3 {n e : Nat} {v1 v2 : Int32} {a b : cg_S} {G : Gm} {R : Int32 → cg_S → cg_S → Prop} {M : (Int32 → cg_S → Prop) → Prop} (he : why3 v1 v2 G e) (h : ∀ P : Int32 → cg_S → Prop, P (i32 e) (cg_i b 0 0 (i32 e)) → M P) (hI : Inv (n + 1) a (cg_i b 0 0 (i32 e))) : (exn e = "java/lang/IllegalArgumentException" ∧ M (fun t b2 => t = 1 ∧ Inv (n + 1) a b2)) ∨ (exn e = "java/lang/IndexOutOfBoundsException" ∧ M (fun t b2 => t = 2 ∧ Inv (n + 1) a b2)) ∨ (exn e = "java/lang/IllegalStateException" ∧ M (fun t b2 => t = 3 ∧ Inv (n + 1) a b2)) := by
  rcases why3_3 he with rfl | rfl | rfl
  · exact Or.inl ⟨rfl, h _ ⟨rfl, hI⟩⟩
  · exact Or.inr (Or.inl ⟨rfl, h _ ⟨rfl, hI⟩⟩)
  · exact Or.inr (Or.inr ⟨rfl, h _ ⟨rfl, hI⟩⟩)
