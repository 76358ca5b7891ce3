/-! THE REFERENCE: what is reached -/
theorem vn0 : vp_nar .boolean (i32 0) = i32 0 := rfl
theorem vn1 : vp_nar .boolean (i32 1) = i32 1 := rfl
theorem vnb {k : Nat} (h : k ≤ 1) : vp_nar .boolean (i32 k) = i32 k := by
  have : k = 0 ∨ k = 1 := by omega
  rcases this with rfl | rfl <;> rfl
def wtR (G : Gm) : Nat → Nat → Rat := fun m t => ((G 7 (7 * m + t) : Nat) : Rat)
theorem wtR_ne {G : Gm} {m t : Nat} : wtR G m t ≠ 0 ↔ G 7 (7 * m + t) ≠ 0 := by
  unfold wtR
  rw [Ne, Ne, Rat.natCast_eq_zero_iff]
/-- t is reached from s by one or more steps -/
def c_rch (n : Nat) (wt : Nat → Nat → Rat) (p : Nat → Nat) (s t : Nat) : Prop := ∀ C : Nat → Prop, c_cl n wt p C → (∀ u, u < n → wt (p s) u ≠ 0 → C u) → C t
/-- the cells hold the relation r -/
def RX (τ : cg_S) (n : Nat) (r : Nat → Nat → Nat) : Prop := ∀ s t, s < n → t < n → τ.1 20 (7 * s + t) = i32 (r s t) ∧ r s t ≤ 1
def e01 (w : Nat) : Nat := if w = 0 then 0 else 1
theorem e01_le (w : Nat) : e01 w ≤ 1 := by unfold e01; split <;> omega
/-- one round of Warshall's -/
def wr1 (k : Nat) (r : Nat → Nat → Nat) (s t : Nat) : Nat := if r s t ≠ 0 ∨ (r s k ≠ 0 ∧ r k t ≠ 0) then 1 else 0
theorem wr1_le (k : Nat) (r : Nat → Nat → Nat) (s t : Nat) : wr1 k r s t ≤ 1 := by unfold wr1; split <;> omega
theorem wr1_k {k : Nat} {r : Nat → Nat → Nat} {s : Nat} (h : r s k ≤ 1) : wr1 k r s k = r s k := by
  unfold wr1
  by_cases c : r s k = 0
  · rw [if_neg (by omega)]; omega
  · rw [if_pos (by omega)]; omega
theorem wr1_k2 {k : Nat} {r : Nat → Nat → Nat} {t : Nat} (h : r k t ≤ 1) : wr1 k r k t = r k t := by
  unfold wr1
  by_cases c : r k t = 0
  · rw [if_neg (by omega)]; omega
  · rw [if_pos (by omega)]; omega
