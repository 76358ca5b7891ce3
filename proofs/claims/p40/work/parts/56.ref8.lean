/-! THE REFERENCE: tells all values, compares, gets -/
/-- the values told -/
def VX (τ : cg_S) (n : Nat) (x : Nat → Rat) : Prop := ∀ s, s < n → zfit (x s).num ∧ zfit ((x s).den : Nat) ∧ τ.2.1 22 s = i64 (x s).num ∧ τ.2.1 23 s = i64 ((x s).den : Nat)
theorem VX.fr {σ τ : cg_S} {n : Nat} {x : Nat → Rat} {I L D : List Nat} (h : VX σ n x) (hf : Fr I L D σ τ) (h0 : 22 ∉ L ∧ 23 ∉ L) : VX τ n x := by
  unfold VX
  rw [hf.2.1 22 h0.1, hf.2.1 23 h0.2]
  exact h
theorem i64_divN {x y : Nat} (hx : (x : Int) < 9223372036854775808) (hy : (y : Int) < 9223372036854775808) (h0 : y ≠ 0) : i64 x / i64 y = i64 ((x / y : Nat) : Int) := by
  rw [i64_tdiv (by omega) ⟨by omega, hx⟩ ⟨by omega, hy⟩, ← Int.ofNat_tdiv]
