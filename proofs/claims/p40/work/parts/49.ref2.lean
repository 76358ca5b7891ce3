/-! THE REFERENCE: solves -/
theorem isI_num {x : Rat} (h : isI x) : ((x.num : Int) : Rat) = x := by
  obtain ⟨z, rfl⟩ := h
  rw [Rat.num_intCast]
section SV
variable {A : Nat → Nat → Rat}
theorem z_B (hI : ∀ i j, isI (A i j)) (hN : ND 7 A) {k : Nat} (hk : k ≤ 7) (s t : Nat) : (((gB k A s t).num : Int) : Rat) = gB k A s t := isI_num (gj_int hI (hN.le hk) s t)
theorem z_D (hI : ∀ i j, isI (A i j)) (hN : ND 7 A) {k : Nat} (hk : k ≤ 7) : (((gD k A).num : Int) : Rat) = gD k A := by
  cases k with
  | zero => exact isI_num ⟨1, by rw [gD_zero]; rfl⟩
  | succ k => rw [gD_succ]; exact z_B hI hN (by omega) k k
theorem z_step (hI : ∀ i j, isI (A i j)) (hN : ND 7 A) {k : Nat} (hk : k < 7) {s : Nat} (hs : s ≠ k) (t : Nat) : (gB k A k k).num * (gB k A s t).num - (gB k A s k).num * (gB k A k t).num = (gD k A).num * (gB (k + 1) A s t).num := by
  rw [← Rat.intCast_inj, Rat.intCast_sub, Rat.intCast_mul, Rat.intCast_mul, Rat.intCast_mul, z_B hI hN (by omega), z_B hI hN (by omega), z_B hI hN (by omega), z_B hI hN (by omega), z_D hI hN (by omega), z_B hI hN (by omega), gB_else hs]
  have := hN k (by omega)
  grind
/-- what the long holds -/
def zfit (z : Int) : Prop := -9223372036854775808 < z ∧ z < 9223372036854775808
def A_fits (A : Nat → Nat → Rat) : Prop := (∀ k, k ≤ 7 → zfit (gD k A).num) ∧ ∀ k s t, k < 7 → s < 7 → s ≠ k → t < 8 → zfit ((gD k A).num * (gB (k + 1) A s t).num)
/-- the matrix at a stage, rows below s and of row s the columns below t a stage further -/
def MX (τ : cg_S) (f : Nat → Nat → Rat) : Prop := ∀ s t, s < 7 → t < 8 → τ.2.1 21 (8 * s + t) = i64 (f s t).num
end SV
