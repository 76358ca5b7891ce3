/-! SYSTEMS OF CHAINS: pivots, bounds -/
theorem sys_piv {n : Nat} {A : Nat → Nat → Rat} (hZ : Zm n A) (hno : ∀ S : Nat → Prop, (∃ m, m < n ∧ S m) → (∀ s, S s → s < n) → (∀ s, S s → sr n (A s) = 0) → (∀ s t, S s → t < n → ¬ S t → A s t = 0) → False) : ∀ k, k < n → 0 < gB k A k k := by
  intro k
  induction k using Nat.strongRecOn with
  | _ k ih =>
    intro hk
    have hp : ∀ j, j < k → 0 < gB j A j j := fun j hj => ih j hj (by omega)
    have h1 := ((gj_Zm hZ (Nat.le_of_lt hk) hp k (Nat.le_refl k)).diag k hk).1
    by_cases c : gB k A k k = 0
    · exfalso
      obtain ⟨S, s1, s2, s3, s4, -⟩ := gj_zero hZ hk hp c
      exact hno S ⟨k, hk, s1⟩ (fun s hs => by have := s2 s hs; omega) s3 s4
    · grind
theorem sys_ND {n : Nat} {A : Nat → Nat → Rat} (hp : ∀ k, k < n → 0 < gB k A k k) : ND n A := by
  intro i hi
  cases i with
  | zero => rw [gD_zero]; decide
  | succ i => rw [gD_succ]; have := hp i (by omega); grind
theorem rat_pow_le {a : Rat} (ha : 1 ≤ a) {i j : Nat} (h : i ≤ j) : a ^ i ≤ a ^ j := by
  obtain ⟨d, rfl⟩ : ∃ d, j = i + d := ⟨j - i, by omega⟩
  induction d with
  | zero => exact Rat.le_refl
  | succ d ih =>
    have h1 := ih (by omega)
    rw [← Nat.add_assoc, Rat.pow_succ]
    have h2 := rat_pow_one ha (i + d)
    have := Rat.mul_nonneg (a := a ^ (i + d)) (b := a - 1) (by grind) (by grind)
    grind
theorem rat_pow_add (a : Rat) (i j : Nat) : a ^ (i + j) = a ^ i * a ^ j := by
  induction j with
  | zero => rw [Rat.pow_zero, Nat.add_zero]; grind
  | succ j ih => rw [← Nat.add_assoc, Rat.pow_succ, ih, Rat.pow_succ]; grind
theorem zfit_of {z : Int} {x : Rat} (h : (z : Rat) = x) (h1 : -(9000000000000000000 : Rat) ≤ x) (h2 : x ≤ 9000000000000000000) : zfit z := by
  rw [← h] at h1 h2
  have e1 : (((-9000000000000000000 : Int)) : Rat) ≤ (z : Rat) := h1
  have e2 : (z : Rat) ≤ ((9000000000000000000 : Int) : Rat) := h2
  rw [Rat.intCast_le_intCast] at e1 e2
  exact ⟨by omega, by omega⟩
theorem p18_14 : (18 : Rat) ^ 14 ≤ 9000000000000000000 := by decide +kernel
theorem p18_13 : (18 : Rat) ^ 13 * 162 ≤ 9000000000000000000 := by decide +kernel
/-- entries and divisors of such a system fit into longs -/
theorem sys_fits {A : Nat → Nat → Rat} {x : Nat → Rat} (hI : ∀ i j, isI (A i j)) (hZ : Zm 7 A) (hp : ∀ k, k < 7 → 0 < gB k A k k) (ha : ∀ s, s < 7 → A s s ≤ 18) (hb : ∀ s, s < 7 → 0 ≤ A s 7) (hx : ∀ s, s < 7 → rowOk 7 7 A x s) (hx0 : ∀ s, s < 7 → 0 ≤ x s) (hxV : ∀ s, s < 7 → x s ≤ 162) : A_fits A := by
  have hN := sys_ND hp
  obtain ⟨hD, -⟩ := gj_Z hZ (Nat.le_refl 7) hp
  have h18 : (1 : Rat) ≤ 18 := by decide
  have hDl := gj_D hZ (Nat.le_refl 7) hp h18 ha
  have hE := gj_ent hZ (Nat.le_refl 7) hp h18 ha
  have hR0 := gj_R0 (R := 7) hZ (Nat.le_refl 7) hp hb
  have hRV := gj_RV (R := 7) hZ (Nat.le_refl 7) hp hx hx0 hxV
  refine ⟨fun k hk => ?_, fun k s t hk hs hne ht => ?_⟩
  · refine zfit_of (z_D hI hN hk) ?_ ?_
    · have := hD k hk; grind
    · exact Rat.le_trans (hDl k hk) (Rat.le_trans (rat_pow_le h18 (show k ≤ 14 by omega)) p18_14)
  · refine zfit_of (x := gD k A * gB (k + 1) A s t) (by rw [Rat.intCast_mul, z_D hI hN (by omega), z_B hI hN (by omega)]) ?_ ?_
    all_goals have d1 := hD k (by omega)
    all_goals have d2 := hDl k (by omega)
    all_goals by_cases c : t < 7
    · have e1 := (hE (k + 1) (by omega) s t hs c).1.1
      have e2 := rat_mul_le (a := gD k A) (b := 18 ^ k) (c := -gB (k + 1) A s t + 2 * 18 ^ (k + 2)) (d := 18 ^ (k + 2) + 2 * 18 ^ (k + 2)) (Rat.le_of_lt d1) (by have := (hE (k + 1) (by omega) s t hs c).1.2; have := rat_pow_one h18 (k + 2); grind) d2 (by grind)
      have e3 : (18 : Rat) ^ k * 18 ^ (k + 2) ≤ 18 ^ 14 := by rw [← rat_pow_add]; exact rat_pow_le h18 (by omega)
      have e4 := p18_14
      have e5 := (hE (k + 1) (by omega) s t hs c).1.2
      have e6 := rat_mul_le (a := gD k A) (b := 18 ^ k) (c := 18 ^ (k + 2)) (d := 18 ^ (k + 2)) (Rat.le_of_lt d1) (by have := rat_pow_one h18 (k + 2); grind) d2 Rat.le_refl
      have e7 := Rat.mul_nonneg (a := gD k A) (b := gB (k + 1) A s t + 18 ^ (k + 2)) (Rat.le_of_lt d1) (by grind)
      grind
    · have h7 : t = 7 := by omega
      subst h7
      have e1 := hR0 (k + 1) (by omega) s hs
      have e2 := Rat.mul_nonneg (Rat.le_of_lt d1) e1
      grind
    · have e5 := (hE (k + 1) (by omega) s t hs c).1.2
      have e3 : (18 : Rat) ^ k * 18 ^ (k + 2) ≤ 18 ^ 14 := by rw [← rat_pow_add]; exact rat_pow_le h18 (by omega)
      have e4 := p18_14
      have e6 := rat_mul_le (a := gD k A) (b := 18 ^ k) (c := 18 ^ (k + 2)) (d := 18 ^ (k + 2)) (Rat.le_of_lt d1) (by have := rat_pow_one h18 (k + 2); grind) d2 Rat.le_refl
      have e7 := Rat.mul_nonneg (a := gD k A) (b := 18 ^ (k + 2) - gB (k + 1) A s t) (Rat.le_of_lt d1) (by grind)
      grind
    · have h7 : t = 7 := by omega
      subst h7
      have e1 := hRV (k + 1) (by omega) s hs
      have e0 : gD k A * gB (k + 1) A s s ≤ 18 ^ 13 := by
        by_cases c2 : s < k + 1
        · rw [gB_shape (hN.le (by omega)) s s c2, if_pos rfl]
          have e2 := rat_mul_le (Rat.le_of_lt d1) (Rat.le_of_lt (hD (k + 1) (by omega))) d2 (hDl (k + 1) (by omega))
          have e3 : (18 : Rat) ^ k * 18 ^ (k + 1) ≤ 18 ^ 13 := by rw [← rat_pow_add]; exact rat_pow_le h18 (by omega)
          grind
        · have e2 := (hE (k + 1) (by omega) s s hs hs).2
          have e3 : (18 : Rat) ^ k * 18 ^ (k + 2) ≤ 18 ^ 13 := by rw [← rat_pow_add]; exact rat_pow_le h18 (by omega)
          have e4 := rat_mul_le (a := gD k A) (b := 18 ^ k) (c := 18 ^ (k + 2)) (d := 18 ^ (k + 2)) (Rat.le_of_lt d1) (by have := rat_pow_one h18 (k + 2); grind) d2 Rat.le_refl
          have e7 := Rat.mul_nonneg (a := gD k A) (b := 18 ^ (k + 2) - gB (k + 1) A s s) (Rat.le_of_lt d1) (by grind)
          grind
      have e8 := Rat.mul_nonneg (a := gD k A) (b := gB (k + 1) A s s * 162 - gB (k + 1) A s 7) (Rat.le_of_lt d1) (by grind)
      have e9 := p18_13
      grind
