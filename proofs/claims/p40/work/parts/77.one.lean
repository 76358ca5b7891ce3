/-! THE CALLS: isOne -/
theorem rat_one_iff {x : Rat} : x.num = (x.den : Int) ↔ x = 1 := by
  constructor
  · intro h
    have d1 : (1 : Rat).den = 1 := rfl
    have d2 : (1 : Rat).num = 1 := rfl
    refine Rat.le_antisymm (Rat.not_lt.mp (fun z => ?_)) (Rat.not_lt.mp (fun z => ?_))
    · rw [Rat.lt_iff, d1, d2] at z; omega
    · rw [Rat.lt_iff, d1, d2] at z; omega
  · intro h
    rw [h]; rfl
/-- what the graph is to find -/
def SUR : Prop := ∀ (a : cg_S) (G : Gm) (ch : Nat) (Q : Int32 → cg_S → Prop), CG a G ch → CK a G ch → GW G → whole G → (∀ τ r, CG τ G ch → CK τ G ch → (∀ w, mmb G 114 w → mk r (fun s => s < G 0 0 ∧ w s = 1)) → Q r τ) → M_X3_sure a Q
