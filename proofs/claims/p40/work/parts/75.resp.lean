/-! THE CALLS: responses -/
theorem why4_uniq {v1 v2 v3 : Int32} {G : Gm} {e e' : Nat} (h : why4 v1 v2 v3 G e) (h' : why4 v1 v2 v3 G e') : e = e' := by
  have no1 : ((v1 ≠ i32 97 ∧ v1 ≠ i32 98) ∨ ∀ aim, okA aim → v2 ≠ i32 aim) → (v1 = i32 97 ∨ v1 = i32 98) → (∃ aim, okA aim ∧ v2 = i32 aim) → False := fun x y ⟨aim, ha, ea⟩ => x.elim (fun w => y.elim w.1 w.2) (fun w => w aim ha ea)
  rcases h with ⟨rfl, h⟩ | ⟨rfl, h1, h2, h⟩ | ⟨rfl, h1, h2, ⟨s, hs, e2⟩, h⟩ <;> rcases h' with ⟨rfl, h'⟩ | ⟨rfl, h1', h2', h'⟩ | ⟨rfl, h1', h2', ⟨s', hs', e2'⟩, h'⟩
  · rfl
  · exact (no1 h h1' h2').elim
  · exact (no1 h h1' h2').elim
  · exact (no1 h' h1 h2).elim
  · rfl
  · exact absurd e2' (h s' hs')
  · exact (no1 h' h1 h2).elim
  · exact absurd e2 (h' s hs)
  · rfl
theorem why4_3 {v1 v2 v3 : Int32} {G : Gm} {e : Nat} (h : why4 v1 v2 v3 G e) : e = 1 ∨ e = 2 ∨ e = 3 := by
  rcases h with ⟨rfl, -⟩ | ⟨rfl, -⟩ | ⟨rfl, -⟩
  · exact Or.inl rfl
  · exact Or.inr (Or.inl rfl)
  · exact Or.inr (Or.inr rfl)
theorem why4_no {v1 v2 v3 : Int32} {G : Gm} {e aim s : Nat} (h : why4 v1 v2 v3 G e) (hv : v1 = i32 97 ∨ v1 = i32 98) (ha : okA aim) (e1 : v2 = i32 aim) (hs : s < G 0 0) (e2 : v3 = i32 s) (hw : whole G) : False := by
  rcases h with ⟨rfl, h⟩ | ⟨rfl, -, -, h⟩ | ⟨rfl, -, -, -, h⟩
  · exact h.elim (fun w => hv.elim w.1 w.2) (fun w => w aim ha e1)
  · exact h s hs e2
  · exact h hw
theorem bst_tp {G : Gm} {o aim : Nat} {p y : Nat → _} (h : bst G o aim (tp G p) y) : bst G o aim (G 10) y := by
  have hs : ∀ q, sd G o (G 10) q ↔ sd G o (tp G p) q := fun q => by
    constructor
    · exact fun z => ⟨z.1, fun s hs hD => by rw [z.2 s hs hD]; unfold tp; rw [if_pos hs]⟩
    · exact fun z => ⟨z.1, fun s hs hD => by rw [z.2 s hs hD]; unfold tp; rw [if_pos hs]⟩
  unfold bst
  simp only [hs]
  exact h
/-- what the improver is to find for a response -/
def RSP : Prop := ∀ (a : cg_S) (G : Gm) (ch aim o : Nat) (Q : cg_S → Prop), CG a G ch → CK a G ch → GW G → whole G → okA aim → (o = 97 ∨ o = 98) → (∀ τ y, CG τ G ch → CK τ G ch → bst G o aim (G 10) y → AN τ (G 0 0) y → Q τ) → M_X4_improve (i32 aim) 19 (if o = 97 then 1 else 0) (if o = 98 then 1 else 0) a Q
theorem c_findResponse {v1 v2 v3 : Int32} {a : cg_S} {G : Gm} {ch : Nat} {Q : cg_S → Prop} {X : String → cg_S → Prop} (hrs : RSP) (hC : CG a G ch) (hK : CK a G ch) (hW : GW G) (hy : ∀ o aim s τ y, (v1 = i32 97 ∧ o = 98 ∨ v1 = i32 98 ∧ o = 97) → okA aim → v2 = i32 aim → s < G 0 0 → v3 = i32 s → whole G → CG τ G ch → CK τ G ch → bst G o aim (G 10) y → AN τ (G 0 0) y → Q τ) (hx : ∀ e, why4 v1 v2 v3 G e → X (exn e) a) : M_X11_findResponse v1 v2 v3 a Q X := by
  refine v_X11_findResponse (c_needPlayer (fun hv => ?_) (fun z => hx 1 (Or.inl ⟨rfl, Or.inl ⟨fun y => z (Or.inl y), fun y => z (Or.inr y)⟩⟩)))
  refine c_needSolvable hC hW (fun aim s ha e1 hs e2 hw => ?_) (fun e he => hx e ?_)
  · rw [e1]
    have k := fun o τ y (ho : v1 = i32 97 ∧ o = 98 ∨ v1 = i32 98 ∧ o = 97) => hy o aim s τ y ho ha e1 hs e2 hw
    refine ⟨fun z => ?_, fun z => ?_⟩
    · have hv97 : v1 = i32 97 := hv.resolve_right z
      refine v_X11_findResponse_30 ⟨fun z2 => absurd hv97 z2, fun _ => ?_⟩
      exact hrs a G ch aim 98 _ hC hK hW hw ha (Or.inr rfl) (fun τ y h1 h2 h3 h4 => k 98 τ y (Or.inl ⟨hv97, rfl⟩) h1 h2 h3 h4)
    · have hv98 : v1 = i32 98 := z
      refine v_X11_findResponse_30 ⟨fun _ => ?_, fun z2 => ?_⟩
      · exact hrs a G ch aim 97 _ hC hK hW hw ha (Or.inl rfl) (fun τ y h1 h2 h3 h4 => k 97 τ y (Or.inr ⟨hv98, rfl⟩) h1 h2 h3 h4)
      · rw [hv98] at z2; exact absurd z2 (by decide)
  · rcases he with ⟨rfl, h⟩ | ⟨rfl, h1, h⟩ | ⟨rfl, h1, h2, h⟩
    · exact Or.inl ⟨rfl, Or.inr h⟩
    · exact Or.inr (Or.inl ⟨rfl, hv, h1, h⟩)
    · exact Or.inr (Or.inr ⟨rfl, hv, h1, h2, h⟩)
theorem fail4 {n e : Nat} {v1 v2 v3 : Int32} {a b : cg_S} {G : Gm} {M : (Int32 → cg_S → Prop) → Prop} (he : why4 v1 v2 v3 G e) (h : ∀ P : Int32 → cg_S → Prop, P (i32 e) (cg_i b 0 0 (i32 e)) → M P) (hI : Inv (n + 1) a (cg_i b 0 0 (i32 e))) : (exn e = "java/lang/IllegalArgumentException" ∧ M (fun t b2 => t = 1 ∧ Inv (n + 1) a b2)) ∨ (exn e = "java/lang/IndexOutOfBoundsException" ∧ M (fun t b2 => t = 2 ∧ Inv (n + 1) a b2)) ∨ (exn e = "java/lang/IllegalStateException" ∧ M (fun t b2 => t = 3 ∧ Inv (n + 1) a b2)) := by
  rcases why4_3 he with rfl | rfl | rfl
  · exact Or.inl ⟨rfl, h _ ⟨rfl, hI⟩⟩
  · exact Or.inr (Or.inl ⟨rfl, h _ ⟨rfl, hI⟩⟩)
  · exact Or.inr (Or.inr ⟨rfl, h _ ⟨rfl, hI⟩⟩)
theorem side_uniq {v1 : Int32} {o o' : Nat} (h : v1 = i32 97 ∧ o = 98 ∨ v1 = i32 98 ∧ o = 97) (h' : v1 = i32 97 ∧ o' = 98 ∨ v1 = i32 98 ∧ o' = 97) : o = o' := by
  rcases h with ⟨e, z⟩ | ⟨e, z⟩ <;> rcases h' with ⟨e', z'⟩ | ⟨e', z'⟩
  · omega
  · rw [e] at e'; exact absurd e' (by decide)
  · rw [e] at e'; exact absurd e' (by decide)
  · omega
