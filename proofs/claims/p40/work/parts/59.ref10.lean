/-! THE REFERENCE: answers -/
def bt (o : Nat) (x y : Rat) : Prop := if o = 98 then x < y else y < x
def pb (o : Nat) (x y : Rat) : Rat := if o = 98 then (if x < y then x else y) else (if y < x then x else y)
theorem pb_or (o : Nat) (x y : Rat) : pb o x y = x ∨ pb o x y = y := by
  unfold pb
  repeat' split
  all_goals first | exact Or.inl rfl | exact Or.inr rfl
theorem pb_bt {o : Nat} {x y : Rat} (h : bt o x y) : pb o x y = x := by
  unfold bt at h; unfold pb
  split at h
  · rw [if_pos (by assumption), if_pos h]
  · rw [if_neg (by assumption), if_pos h]
theorem pb_nbt {o : Nat} {x y : Rat} (h : ¬ bt o x y) : pb o x y = y := by
  unfold bt at h; unfold pb
  split at h
  · rw [if_pos (by assumption), if_neg h]
  · rw [if_neg (by assumption), if_neg h]
theorem pb_1 (o : Nat) (x y : Rat) : ¬ bt o x (pb o x y) := by
  unfold bt pb
  repeat' split
  all_goals grind
theorem pb_2 {o : Nat} {x y z : Rat} (h : ¬ bt o z y) : ¬ bt o z (pb o x y) := by
  unfold bt at h
  unfold bt pb
  repeat' split
  all_goals grind
theorem sg_bt {o : Nat} {x y : Rat} {sg : Int32} (h : sg = if o = 98 then -1 else 1) : (0 < sg * (if x = y then 0 else if y < x then 1 else -1)) ↔ bt o x y := by
  rw [h]
  unfold bt
  split
  · split
    · constructor
      · intro z; exact absurd z (by decide)
      · intro z; grind
    · split
      · constructor
        · intro z; exact absurd z (by decide)
        · intro z; grind
      · constructor
        · intro z; grind
        · intro z; decide
  · split
    · constructor
      · intro z; exact absurd z (by decide)
      · intro z; grind
    · split
      · constructor
        · intro z; assumption
        · intro z; decide
      · constructor
        · intro z; exact absurd z (by decide)
        · intro z; grind
/-- one of the best at hand -/
def VB1 (τ : cg_S) (s : Nat) (y : Rat) : Prop := zfit y.num ∧ zfit (y.den : Nat) ∧ τ.2.1 24 s = i64 y.num ∧ τ.2.1 25 s = i64 (y.den : Nat)
theorem VB1.fr {σ τ : cg_S} {s : Nat} {y : Rat} {I L D : List Nat} (h : VB1 σ s y) (hf : Fr I L D σ τ) (h0 : 24 ∉ L ∧ 25 ∉ L) : VB1 τ s y := by
  unfold VB1
  rw [hf.2.1 24 h0.1, hf.2.1 25 h0.2]
  exact h
/-- the picks of a side, the other side's kept -/
def sd (G : Gm) (o : Nat) (p q : Nat → Nat) : Prop := pkOk G q ∧ ∀ s, s < G 0 0 → ofG G o s = false → q s = p s
/-- the best that a side gets -/
def bst (G : Gm) (o aim : Nat) (p : Nat → Nat) (y : Nat → Rat) : Prop := (∀ q x, sd G o p q → XS G aim q x → ∀ s, s < G 0 0 → ¬ bt o (x s) (y s)) ∧ ∀ s, s < G 0 0 → ∃ q x, sd G o p q ∧ XS G aim q x ∧ x s = y s
