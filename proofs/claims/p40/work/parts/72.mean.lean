/-! THE CALLS: meanChoices -/
theorem mean_n : ∀ i : Fin 22, ∀ n : Fin 8, n.val ≠ 0 → vf_n64 (FP.ddiv (FP.i2d (i32 i.val)) (FP.i2d (i32 n.val))) := by
  have h : ∀ i : Fin 22, ∀ n : Fin 8, n.val ≠ 0 → (FP.ddiv (FP.i2d (i32 i.val)) (FP.i2d (i32 n.val))) &&& 0x7fffffffffffffff ≤ (0x7ff0000000000000 : UInt64) := by decide
  exact h
