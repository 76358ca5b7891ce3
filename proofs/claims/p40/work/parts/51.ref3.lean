/-! THE REFERENCE: lowest terms -/
theorem i64_emod {x y : Nat} (hx : (x : Int) < 9223372036854775808) (hy : (y : Int) < 9223372036854775808) (h0 : y ≠ 0) : i64 x - i64 x / i64 y * i64 y = i64 ((x % y : Nat) : Int) := by
  rw [i64_tdiv (by omega) ⟨by omega, hx⟩ ⟨by omega, hy⟩, i64_mul, i64_sub]
  congr 1
  rw [← Int.ofNat_tdiv]
  have := Nat.div_add_mod x y
  have h2 : ((x / y : Nat) : Int) * (y : Int) = ((y * (x / y) : Nat) : Int) := by rw [Int.natCast_mul, Int.mul_comm]
  rw [h2]
  omega
theorem rat_num {a b : Int} (hb : b ≠ 0) : ((a : Rat) / (b : Rat)).num * ((Int.gcd a b : Nat) * b.sign) = a ∧ ((((a : Rat) / (b : Rat)).den : Nat) : Int) * ((Int.gcd a b : Nat) * b.sign) = b := by
  rw [← Rat.divInt_eq_div, Rat.num_divInt, Rat.den_divInt, if_neg hb, Int.gcd_comm b a]
  have hg : (Int.gcd a b : Int) ∣ a := Int.gcd_dvd_left a b
  have hg2 : (Int.gcd a b : Int) ∣ b := Int.gcd_dvd_right a b
  have hg0 : 0 < Int.gcd a b := Int.gcd_pos_of_ne_zero_right a hb
  obtain ⟨u, hu⟩ := hg
  obtain ⟨w, hw⟩ := hg2
  have hs : b.sign * b.sign = 1 := by
    rcases Int.lt_trichotomy b 0 with h | h | h
    · rw [Int.sign_eq_neg_one_of_neg h]; rfl
    · exact absurd h hb
    · rw [Int.sign_eq_one_of_pos h]; rfl
  generalize hge : Int.gcd a b = g at *
  constructor
  · rw [hu, show b.sign * ((g : Int) * u) = (g : Int) * (b.sign * u) by rw [← Int.mul_assoc, Int.mul_comm b.sign, Int.mul_assoc], Int.mul_ediv_cancel_left _ (by omega)]
    rw [show b.sign * u * ((g : Int) * b.sign) = (b.sign * b.sign) * ((g : Int) * u) by ac_rfl, hs, Int.one_mul]
  · have e1 : b.natAbs / g = w.natAbs := by rw [hw, Int.natAbs_mul, Int.natAbs_natCast, Nat.mul_div_cancel_left _ hg0]
    rw [e1]
    have e2 : ((w.natAbs : Nat) : Int) = w * b.sign := by
      have e3 : b.sign = w.sign := by
        rw [hw, Int.sign_mul, Int.sign_eq_one_of_pos (by omega), Int.one_mul]
      rw [e3, Int.mul_sign_self]
    rw [e2, show w * b.sign * ((g : Int) * b.sign) = (b.sign * b.sign) * ((g : Int) * w) by ac_rfl, hs, Int.one_mul, ← hw]
theorem rat_num_le {a b : Int} (hb : b ≠ 0) : ((a : Rat) / (b : Rat)).num.natAbs ≤ a.natAbs ∧ ((a : Rat) / (b : Rat)).den ≤ b.natAbs := by
  obtain ⟨h1, h2⟩ := rat_num (a := a) hb
  have hg0 : 0 < Int.gcd a b := Int.gcd_pos_of_ne_zero_right a hb
  have hs : ((Int.gcd a b : Nat) * b.sign).natAbs = Int.gcd a b := by
    rw [Int.natAbs_mul, Int.natAbs_natCast, Int.natAbs_sign_of_ne_zero hb, Nat.mul_one]
  constructor
  · have := congrArg Int.natAbs h1
    rw [Int.natAbs_mul, hs] at this
    rw [← this]
    exact Nat.le_mul_of_pos_right _ hg0
  · have := congrArg Int.natAbs h2
    rw [Int.natAbs_mul, hs, Int.natAbs_natCast] at this
    rw [← this]
    exact Nat.le_mul_of_pos_right _ hg0
