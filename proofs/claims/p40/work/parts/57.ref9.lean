/-! THE REFERENCE: all picks of one side, one after another -/
/-- how many picks of the states below k -/
def rx (D : Nat → Bool) (c : Nat → Nat) : Nat → Nat
  | 0 => 1
  | k + 1 => if D k then c k * rx D c k else rx D c k
/-- the number of a pick -/
def cd (D : Nat → Bool) (c : Nat → Nat) (p : Nat → Nat) : Nat → Nat
  | 0 => 0
  | k + 1 => if D k then p k * rx D c k + cd D c p k else cd D c p k
section CD
variable {D : Nat → Bool} {c : Nat → Nat} {p q : Nat → Nat}
theorem cd_lt : ∀ k, (∀ s, s < k → D s → p s < c s) → cd D c p k < rx D c k := by
  intro k
  induction k with
  | zero => intro _; exact Nat.lt_of_lt_of_le (show 0 < 1 by decide) (Nat.le_refl 1)
  | succ k ih =>
    intro h
    have h1 := ih (fun s hs => h s (by omega))
    rw [cd, rx]
    by_cases e : D k
    · rw [if_pos e, if_pos e]
      have h2 := Nat.mul_le_mul_right (rx D c k) (show p k + 1 ≤ c k from h k (by omega) e)
      rw [Nat.add_mul, Nat.one_mul] at h2
      omega
    · rw [if_neg e, if_neg e]; exact h1
theorem cd_congr : ∀ k, (∀ s, s < k → D s → p s = q s) → cd D c p k = cd D c q k := by
  intro k
  induction k with
  | zero => intro _; rfl
  | succ k ih =>
    intro h
    rw [cd, cd, ih (fun s hs => h s (by omega))]
    by_cases e : D k
    · rw [if_pos e, if_pos e, h k (by omega) e]
    · rw [if_neg e, if_neg e]
theorem cd_zero : ∀ k, (∀ s, s < k → D s → p s = 0) → cd D c p k = 0 := by
  intro k
  induction k with
  | zero => intro _; rfl
  | succ k ih =>
    intro h
    rw [cd, ih (fun s hs => h s (by omega))]
    by_cases e : D k
    · rw [if_pos e, h k (by omega) e, Nat.zero_mul]
    · rw [if_neg e]
theorem cd_inj : ∀ k, (∀ s, s < k → D s → p s < c s) → (∀ s, s < k → D s → q s < c s) → cd D c p k = cd D c q k → ∀ s, s < k → D s → p s = q s := by
  intro k
  induction k with
  | zero => intro _ _ _ s hs; omega
  | succ k ih =>
    intro h1 h2 he s hs hD
    have a1 := cd_lt k (fun s hs => h1 s (by omega))
    have a2 := cd_lt k (fun s hs => h2 s (by omega))
    rw [cd, cd] at he
    by_cases e : D k
    · rw [if_pos e, if_pos e] at he
      have hpq : p k = q k := by
        rcases Nat.lt_trichotomy (p k) (q k) with z | z | z
        · have := Nat.mul_le_mul_right (rx D c k) (show p k + 1 ≤ q k from z)
          rw [Nat.add_mul, Nat.one_mul] at this
          omega
        · exact z
        · have := Nat.mul_le_mul_right (rx D c k) (show q k + 1 ≤ p k from z)
          rw [Nat.add_mul, Nat.one_mul] at this
          omega
      rw [hpq] at he
      by_cases es : s = k
      · subst es; exact hpq
      · exact ih (fun s hs => h1 s (by omega)) (fun s hs => h2 s (by omega)) (by omega) s (by omega) hD
    · rw [if_neg e, if_neg e] at he
      by_cases es : s = k
      · subst es; exact absurd hD e
      · exact ih (fun s hs => h1 s (by omega)) (fun s hs => h2 s (by omega)) he s (by omega) hD
theorem cd_step {k : Nat} (hk : D k) (h0 : cd D c p k + 1 = rx D c k) (hq : ∀ s, D s → q s = if s = k then p k + 1 else if s < k then 0 else p s) : ∀ m, k < m → cd D c q m = cd D c p m + 1 := by
  intro m
  induction m with
  | zero => intro h; omega
  | succ m ih =>
    intro h
    by_cases e : m = k
    · subst e
      rw [cd, cd, if_pos hk, if_pos hk, hq m hk, if_pos rfl, cd_zero m (fun s hs hD => by rw [hq s hD, if_neg (by omega), if_pos hs]), Nat.add_mul, Nat.one_mul]
      omega
    · have h1 := ih (by omega)
      rw [cd, cd]
      by_cases e2 : D m
      · rw [if_pos e2, if_pos e2, hq m e2, if_neg e, if_neg (by omega)]; omega
      · rw [if_neg e2, if_neg e2]; exact h1
end CD
/-- whose a state is -/
def ownG (G : Gm) (s : Nat) : Nat := if G 1 s = 1 then 97 else 98
def ofG (G : Gm) (o s : Nat) : Bool := decide (ownG G s = o)
theorem ownG_lt (G : Gm) (s : Nat) : ownG G s < 2147483648 := by unfold ownG; split <;> omega
/-- the pick with the side's first k digits nought -/
def pz (D : Nat → Bool) (k : Nat) (p : Nat → Nat) (s : Nat) : Nat := if s < k ∧ D s = true then 0 else p s
section PZ
variable {D : Nat → Bool} {p : Nat → Nat} {k s : Nat}
theorem pz_yes (h : s < k) (hD : D s = true) : pz D k p s = 0 := if_pos ⟨h, hD⟩
theorem pz_no (h : ¬ (s < k ∧ D s = true)) : pz D k p s = p s := if_neg h
theorem pz_ne (h : s ≠ k) : pz D (k + 1) p s = pz D k p s := by
  unfold pz
  by_cases c : s < k ∧ D s = true
  · rw [if_pos c, if_pos ⟨by omega, c.2⟩]
  · rw [if_neg c, if_neg (fun z => c ⟨by omega, z.2⟩)]
theorem pz_f (h : D k = false) : pz D (k + 1) p = pz D k p := by
  funext s
  by_cases c : s = k
  · subst c
    rw [pz_no (fun z => by rw [h] at z; exact absurd z.2 (by decide)), pz_no (fun z => by omega)]
  · exact pz_ne c
theorem pz_0 : pz D 0 p = p := by
  funext s
  exact pz_no (fun z => by omega)
end PZ
/-- the pick after this one, if its first change is at k -/
def pn (D : Nat → Bool) (k : Nat) (p : Nat → Nat) (s : Nat) : Nat := if s = k then p k + 1 else pz D k p s
