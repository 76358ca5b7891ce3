/-! THE CALLS: isZero, isOne -/
theorem why2_uniq {v : Int32} {G : Gm} {e e' : Nat} (h : why2 v G e) (h' : why2 v G e') : e = e' := by
  rcases h with ⟨rfl, h⟩ | ⟨rfl, ⟨s, hs, e1⟩, h⟩ <;> rcases h' with ⟨rfl, h'⟩ | ⟨rfl, ⟨s', hs', e1'⟩, h'⟩
  · rfl
  · exact absurd e1' (h s' hs')
  · exact absurd e1 (h' s hs)
  · rfl
theorem why2_no {v : Int32} {G : Gm} {e s : Nat} (h : why2 v G e) (hs : s < G 0 0) (e1 : v = i32 s) (hw : whole G) : False := by
  rcases h with ⟨rfl, h⟩ | ⟨rfl, -, h⟩
  · exact h s hs e1
  · exact h hw
/-- the class's exception of a state's question -/
def exn2 (e : Nat) : String := if e = 1 then "java/lang/IndexOutOfBoundsException" else "java/lang/IllegalStateException"
theorem c_needWholeFor {v : Int32} {a : cg_S} {G : Gm} {ch : Nat} {Q : cg_S → Prop} {X : String → cg_S → Prop} (hC : CG a G ch) (hW : GW G) (hy : ∀ s, s < G 0 0 → v = i32 s → whole G → Q a) (hx : ∀ e, why2 v G e → X (exn2 e) a) : M_X11_needWholeFor v a Q X :=
  v_X11_needWholeFor (c_needState hC hW.1 (fun s hs e => c_needWhole hC hW (fun hw => hy s hs e hw) (fun z => hx 2 (Or.inr ⟨rfl, ⟨s, hs, e⟩, z⟩))) (fun z => hx 1 (Or.inl ⟨rfl, z⟩)))
/-- what the graph is to find -/
def POS : Prop := ∀ (a : cg_S) (G : Gm) (ch : Nat) (Q : Int32 → cg_S → Prop), CG a G ch → CK a G ch → GW G → whole G → (∀ τ r, CG τ G ch → CK τ G ch → (∀ w, mmb G 114 w → mk r (fun s => s < G 0 0 ∧ w s ≠ 0)) → Q r τ) → M_X3_positive a Q
