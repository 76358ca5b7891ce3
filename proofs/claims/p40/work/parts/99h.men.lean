/-! endOf: the reference, and the call -/
section MEN
variable {σ : cg_S} {G : Gm}
noncomputable def b01 (P : Prop) : Nat := @ite Nat P (Classical.propDecidable P) 1 0
theorem b01_ne {P : Prop} : b01 P ≠ 0 ↔ P := by
  unfold b01
  by_cases c : P
  · rw [if_pos c]; exact ⟨fun _ => c, fun _ => by decide⟩
  · rw [if_neg c]; exact ⟨fun z => absurd rfl z, fun z => absurd z c⟩
theorem b01_le (P : Prop) : b01 P ≤ 1 := by
  unfold b01
  by_cases c : P
  · rw [if_pos c]; omega
  · rw [if_neg c]; omega
theorem b01_1 {P : Prop} (h : P) : b01 P = 1 := by have := b01_ne.mpr h; have := b01_le P; omega
theorem b01_0 {P : Prop} (h : ¬ P) : b01 P = 0 := Classical.byContradiction fun z => h (b01_ne.mp z)
theorem b01_c {P R : Prop} (h : P ↔ R) : b01 P = b01 R := by rw [propext h]
/-- the set, in the reference's cells -/
def SX (τ : cg_S) (n : Nat) (S : Nat → Prop) : Prop := ∀ t, t < n → τ.1 16 t = i32 (b01 (S t))
theorem SX.fr {σ τ : cg_S} {n : Nat} {S : Nat → Prop} {I L D : List Nat} (h : SX σ n S) (hf : Fr I L D σ τ) (h0 : 16 ∉ I) : SX τ n S := fun t ht => by rw [hf.1 16 h0]; exact h t ht
/-- the edges of the moves that were seen -/
def eJ (G : Gm) (S : Nat → Prop) (s k a b : Nat) : Prop := S a ∧ ∃ c, c < G 3 a ∧ (a < s ∨ (a = s ∧ c < k)) ∧ stI G S (3 * a + c) ∧ b < G 0 0 ∧ G 7 (7 * (3 * a + c) + b) ≠ 0
end MEN
