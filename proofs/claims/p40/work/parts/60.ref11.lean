/-! THE REFERENCE: values -/
theorem pb97_or (x y : Rat) : pb 97 x y = x ∨ pb 97 x y = y := pb_or 97 x y
/-- one of the values kept -/
def VK1 (τ : cg_S) (i : Nat) (y : Rat) : Prop := zfit y.num ∧ zfit (y.den : Nat) ∧ τ.2.1 28 i = i64 y.num ∧ τ.2.1 29 i = i64 (y.den : Nat)
theorem VK1.fr {σ τ : cg_S} {s : Nat} {y : Rat} {I L D : List Nat} (h : VK1 σ s y) (hf : Fr I L D σ τ) (h0 : 28 ∉ L ∧ 29 ∉ L) : VK1 τ s y := by
  unfold VK1
  rw [hf.2.1 28 h0.1, hf.2.1 29 h0.2]
  exact h
/-- the most that a forces: over its picks the least over b's -/
def mmb (G : Gm) (aim : Nat) (w : Nat → Rat) : Prop := (∀ p y, pkOk G p → bst G 98 aim p y → ∀ s, s < G 0 0 → y s ≤ w s) ∧ ∀ s, s < G 0 0 → ∃ p y, pkOk G p ∧ bst G 98 aim p y ∧ y s = w s
theorem of_97 {G : Gm} {s : Nat} : ofG G 97 s = true ↔ ofG G 98 s = false := by
  unfold ofG ownG
  split <;> simp
theorem bst_congr {G : Gm} {aim : Nat} {p q y : Nat → _} (h : ∀ s, s < G 0 0 → ofG G 97 s = true → p s = q s) (hb : bst G 98 aim p y) : bst G 98 aim q y := by
  have hs : ∀ r, sd G 98 q r ↔ sd G 98 p r := fun r => by
    constructor
    · exact fun z => ⟨z.1, fun s hs hD => by rw [z.2 s hs hD, h s hs (of_97.mpr hD)]⟩
    · exact fun z => ⟨z.1, fun s hs hD => by rw [z.2 s hs hD, ← h s hs (of_97.mpr hD)]⟩
  unfold bst
  simp only [hs]
  exact hb
theorem bst_nonneg {G : Gm} {o aim : Nat} {p : Nat → Nat} {y : Nat → Rat} (hW : GW G) (hw : whole G) (hb : bst G o aim p y) : ∀ s, s < G 0 0 → 0 ≤ y s := fun s hs => by
  obtain ⟨q, x, hq, hX, e⟩ := hb.2 s hs
  rw [← e]
  exact gX_nonneg hW hw (mv_pk hq.1) (XS_gX.mp hX) s hs
theorem bst_uniq {G : Gm} {o aim : Nat} {p : Nat → Nat} {y z : Nat → Rat} (hy : bst G o aim p y) (hz : bst G o aim p z) : ∀ s, s < G 0 0 → y s = z s := fun s hs => by
  obtain ⟨q, x, hq, hX, e⟩ := hy.2 s hs
  obtain ⟨q', x', hq', hX', e'⟩ := hz.2 s hs
  have h1 := hz.1 q x hq hX s hs
  have h2 := hy.1 q' x' hq' hX' s hs
  rw [e] at h1
  rw [e'] at h2
  unfold bt at h1 h2
  split at h1
  · rw [if_pos (by assumption)] at h2
    exact Rat.le_antisymm (Rat.not_lt.mp h2) (Rat.not_lt.mp h1)
  · rw [if_neg (by assumption)] at h2
    exact Rat.le_antisymm (Rat.not_lt.mp h1) (Rat.not_lt.mp h2)
/-- the number of an aim -/
def aimN (aim : Nat) : Nat := if aim = 114 then 0 else if aim = 102 then 1 else if aim = 115 then 2 else 3
theorem aimN_lt (aim : Nat) : aimN aim < 4 := by unfold aimN; repeat' split
                                                 all_goals omega
/-- what is kept is right -/
def KN (τ : cg_S) (G : Gm) : Prop := ∀ aim, (aim = 114 ∨ aim = 102 ∨ aim = 115 ∨ aim = 119) → τ.1 19 (aimN aim) = i32 0 ∨ (τ.1 19 (aimN aim) = i32 1 ∧ ∃ w, mmb G aim w ∧ ∀ s, s < G 0 0 → VK1 τ (7 * aimN aim + s) (w s))
theorem KN.fr {σ τ : cg_S} {G : Gm} {I L D : List Nat} (h : KN σ G) (hf : Fr I L D σ τ) (h0 : 19 ∉ I ∧ 28 ∉ L ∧ 29 ∉ L) : KN τ G := fun aim ha => by
  rw [hf.1 19 h0.1]
  rcases h aim ha with z | ⟨z, w, z2, z3⟩
  · exact Or.inl z
  · exact Or.inr ⟨z, w, z2, fun s hs => (z3 s hs).fr hf h0.2⟩
theorem aimN_inj {a b : Nat} (ha : a = 114 ∨ a = 102 ∨ a = 115 ∨ a = 119) (hb : b = 114 ∨ b = 102 ∨ b = 115 ∨ b = 119) (h : aimN a = aimN b) : a = b := by
  rcases ha with rfl | rfl | rfl | rfl <;> rcases hb with rfl | rfl | rfl | rfl <;> first | rfl | exact absurd h (by decide)
