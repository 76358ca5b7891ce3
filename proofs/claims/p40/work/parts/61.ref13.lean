/-! THE REFERENCE: what is asked -/
theorem MG.c0 {b : cg_S} {G : Gm} {j : Nat} {x : Int32} (h : MG b G) (hj : j = 0 ∨ 5 < j) : MG (cg_i b 0 j x) G := by
  have e : ∀ k, k ≠ 0 → (cg_i b 0 j x).1 k = b.1 k := fun k hk => if_neg hk
  have e0 : ∀ i, i ≠ j → (cg_i b 0 j x).1 0 i = b.1 0 i := fun i hi => by rw [ri, if_pos rfl, if_neg hi]
  unfold MG
  rw [e 1 (by decide), e 2 (by decide), e 3 (by decide), e 4 (by decide), e 7 (by decide), e 8 (by decide), e 9 (by decide), e 10 (by decide), e 15 (by decide), e0 1 (by omega), e0 2 (by omega), e0 3 (by omega), e0 4 (by omega), e0 5 (by omega)]
  exact h
theorem i32_pred {n : Nat} (hn : n ≤ 7) : (i32 n - 1).toInt = (n : Int) - 1 := by
  have : ∀ m : Fin 8, (i32 m.val - 1).toInt = (m.val : Int) - 1 := by decide
  exact this ⟨n, by omega⟩
theorem i32_nat {v : Int32} (h : 0 ≤ v.toInt) : v = i32 v.toInt.toNat := by
  have h2 := v.toInt_lt
  rw [← Int32.toInt_inj, i32_toInt (by omega)]
  omega
/-- the four aims -/
def okA (aim : Nat) : Prop := aim = 114 ∨ aim = 102 ∨ aim = 115 ∨ aim = 119
theorem aimN_ne (aim : Nat) : ¬ i32 (aimN aim) = -1 := by
  have : ∀ m : Fin 4, ¬ i32 m.val = -1 := by decide
  exact this ⟨aimN aim, aimN_lt aim⟩
/-- the reference stands for the game -/
def RB (b : cg_S) (G : Gm) : Prop := GW G ∧ MG b G ∧ (∃ p, MP b p) ∧ KN b G
theorem RB.c0 {b : cg_S} {G : Gm} {x : Int32} (h : RB b G) : RB (cg_i b 0 0 x) G := by
  obtain ⟨h1, h2, ⟨p, h3⟩, h4⟩ := h
  have f : Fr [0] [] [] b (cg_i b 0 0 x) := Fr.i (by decide)
  exact ⟨h1, h2.c0 (Or.inl rfl), ⟨p, h3.fr f (by decide)⟩, h4.fr f (by decide)⟩
/-- why a question has no answer -/
def why3 (v1 v2 : Int32) (G : Gm) (e : Nat) : Prop := (e = 1 ∧ ∀ aim, okA aim → v1 ≠ i32 aim) ∨ (e = 2 ∧ (∃ aim, okA aim ∧ v1 = i32 aim) ∧ ∀ s, s < G 0 0 → v2 ≠ i32 s) ∨ (e = 3 ∧ (∃ aim, okA aim ∧ v1 = i32 aim) ∧ (∃ s, s < G 0 0 ∧ v2 = i32 s) ∧ ¬ whole G)
