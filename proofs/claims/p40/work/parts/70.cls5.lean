/-! THE CALLS: what changes the game -/
theorem c_isTarget {a : cg_S} {G : Gm} {ch s : Nat} {Q : Int32 → cg_S → Prop} (hC : CG a G ch) (hs : s < 7) (h1 : G 8 s ≠ 0 → Q 1 a) (h0 : G 8 s = 0 → Q 0 a) : M_X2_isTarget (i32 s) a Q := by
  refine v_X2_isTarget (v_X2_holds ?_)
  rcases mk_get hC.1.2.1 hs with ⟨z, e⟩ | ⟨z, e⟩
  · rw [e]
    exact ⟨fun y => absurd rfl y, fun _ => ⟨Or.inr rfl, h1 z⟩⟩
  · rw [e]
    exact ⟨fun _ => ⟨Or.inl rfl, h0 (by omega)⟩, fun y => absurd y (by decide)⟩
