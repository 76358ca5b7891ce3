/-! THE REFERENCE: lowest terms -/
theorem i64_emod {x y : Nat} (hx : (x : Int) < 9223372036854775808) (hy : (y : Int) < 9223372036854775808) (h0 : y ≠ 0) : i64 x - i64 x / i64 y * i64 y = i64 ((x % y : Nat) : Int) := by
  rw [i64_tdiv (by omega) ⟨by omega, hx⟩ ⟨by omega, hy⟩, i64_mul, i64_sub]
  congr 1
  rw [← Int.ofNat_tdiv]
  have := Nat.div_add_mod x y
  have h2 : ((x / y : Nat) : Int) * (y : Int) = ((y * (x / y) : Nat) : Int) := by rw [Int.natCast_mul, Int.mul_comm]
  rw [h2]
  omega
theorem m_divisor28 {σ : cg_S} {Q : Int64 → cg_S → Prop} : ∀ (y x : Nat), (x : Int) < 9223372036854775808 → (y : Int) < 9223372036854775808 → Q (i64 (Nat.gcd x y : Nat)) σ → L_X12_divisor_28 (i64 x) (i64 y) σ Q := by
  intro y
  induction y using Nat.strongRecOn with
  | _ y ih =>
    intro x hx hy hQ
    refine v_X12_divisor_28 ⟨fun z => ?_, fun z => ⟨z, ?_⟩⟩
    · rw [l0, i64_eq (by omega) (by omega)] at z
      have : y = 0 := by omega
      subst this
      rw [Nat.gcd_zero_right] at hQ
      exact hQ
    · rw [l0, i64_eq (by omega) (by omega)] at z
      have hy0 : y ≠ 0 := by omega
      rintro _ rfl
      rw [i64_emod hx hy hy0]
      have hlt : x % y < y := Nat.mod_lt _ (by omega)
      refine ih (x % y) hlt y hy (by omega) ?_
      rw [Nat.gcd_comm x y, Nat.gcd_rec y x, Nat.gcd_comm] at hQ
      exact hQ
theorem m_divisor {a b : Int} {σ : cg_S} {Q : Int64 → cg_S → Prop} (ha : zfit a) (hb : zfit b) (h : Q (i64 (Int.gcd a b : Nat)) σ) : M_X12_divisor (i64 a) (i64 b) σ Q := by
  have hc : Int.gcd a b = Nat.gcd a.natAbs b.natAbs := rfl
  rw [hc] at h
  unfold zfit at ha hb
  refine v_X12_divisor ⟨fun z => ?_, fun z => ?_⟩
  all_goals rw [l0, i64_le (by decide) (by omega)] at z
  · rw [show a = (a.natAbs : Int) by omega]
    refine v_X12_divisor_12 ⟨fun z2 => ?_, fun z2 => ?_⟩
    all_goals rw [l0, i64_le (by decide) (by omega)] at z2
    · rw [show b = (b.natAbs : Int) by omega]
      exact m_divisor28 _ _ (by omega) (by omega) (by simpa using h)
    · rintro _ rfl
      rw [i64_neg, show -b = (b.natAbs : Int) by omega]
      exact m_divisor28 _ _ (by omega) (by omega) (by simpa using h)
  · rw [i64_neg, show -a = (a.natAbs : Int) by omega]
    refine v_X12_divisor_12 ⟨fun z2 => ?_, fun z2 => ?_⟩
    all_goals rw [l0, i64_le (by decide) (by omega)] at z2
    · rw [show b = (b.natAbs : Int) by omega]
      exact m_divisor28 _ _ (by omega) (by omega) (by simpa using h)
    · rintro _ rfl
      rw [i64_neg, show -b = (b.natAbs : Int) by omega]
      exact m_divisor28 _ _ (by omega) (by omega) (by simpa using h)
theorem rat_num {a b : Int} (hb : b ≠ 0) : ((a : Rat) / (b : Rat)).num * ((Int.gcd a b : Nat) * b.sign) = a ∧ ((((a : Rat) / (b : Rat)).den : Nat) : Int) * ((Int.gcd a b : Nat) * b.sign) = b := by
  rw [← Rat.divInt_eq_div, Rat.num_divInt, Rat.den_divInt, if_neg hb, Int.gcd_comm b a]
  have hg : (Int.gcd a b : Int) ∣ a := Int.gcd_dvd_left a b
  have hg2 : (Int.gcd a b : Int) ∣ b := Int.gcd_dvd_right a b
  have hg0 : 0 < Int.gcd a b := Int.gcd_pos_of_ne_zero_right a hb
  obtain ⟨u, hu⟩ := hg
  obtain ⟨w, hw⟩ := hg2
  have hs : b.sign * b.sign = 1 := by
    rcases Int.lt_trichotomy b 0 with h | h | h
    · rw [Int.sign_eq_neg_one_of_neg h]; rfl
    · exact absurd h hb
    · rw [Int.sign_eq_one_of_pos h]; rfl
  generalize hge : Int.gcd a b = g at *
  constructor
  · rw [hu, show b.sign * ((g : Int) * u) = (g : Int) * (b.sign * u) by rw [← Int.mul_assoc, Int.mul_comm b.sign, Int.mul_assoc], Int.mul_ediv_cancel_left _ (by omega)]
    rw [show b.sign * u * ((g : Int) * b.sign) = (b.sign * b.sign) * ((g : Int) * u) by ac_rfl, hs, Int.one_mul]
  · have e1 : b.natAbs / g = w.natAbs := by rw [hw, Int.natAbs_mul, Int.natAbs_natCast, Nat.mul_div_cancel_left _ hg0]
    rw [e1]
    have e2 : ((w.natAbs : Nat) : Int) = w * b.sign := by
      have e3 : b.sign = w.sign := by
        rw [hw, Int.sign_mul, Int.sign_eq_one_of_pos (by omega), Int.one_mul]
      rw [e3, Int.mul_sign_self]
    rw [e2, show w * b.sign * ((g : Int) * b.sign) = (b.sign * b.sign) * ((g : Int) * w) by ac_rfl, hs, Int.one_mul, ← hw]
theorem rat_num_le {a b : Int} (hb : b ≠ 0) : ((a : Rat) / (b : Rat)).num.natAbs ≤ a.natAbs ∧ ((a : Rat) / (b : Rat)).den ≤ b.natAbs := by
  obtain ⟨h1, h2⟩ := rat_num (a := a) hb
  have hg0 : 0 < Int.gcd a b := Int.gcd_pos_of_ne_zero_right a hb
  have hs : ((Int.gcd a b : Nat) * b.sign).natAbs = Int.gcd a b := by
    rw [Int.natAbs_mul, Int.natAbs_natCast, Int.natAbs_sign_of_ne_zero hb, Nat.mul_one]
  constructor
  · have := congrArg Int.natAbs h1
    rw [Int.natAbs_mul, hs] at this
    rw [← this]
    exact Nat.le_mul_of_pos_right _ hg0
  · have := congrArg Int.natAbs h2
    rw [Int.natAbs_mul, hs, Int.natAbs_natCast] at this
    rw [← this]
    exact Nat.le_mul_of_pos_right _ hg0
theorem m_lowers {a b : Int} {σ : cg_S} {Q : cg_S → Prop} (ha : zfit a) (hb : zfit b) (hb0 : b ≠ 0) (h : ∀ τ, Fr [] [0] [] σ τ → (∀ j, j ≠ 40 → j ≠ 41 → τ.2.1 0 j = σ.2.1 0 j) → τ.2.1 0 40 = i64 ((a : Rat) / (b : Rat)).num → τ.2.1 0 41 = i64 (((a : Rat) / (b : Rat)).den : Nat) → Q τ) : M_X12_lowers (i64 a) (i64 b) σ Q := by
  have hg0 : 0 < Int.gcd a b := Int.gcd_pos_of_ne_zero_right a hb0
  have hgb : Int.gcd a b ≤ b.natAbs := Nat.le_of_dvd (by omega) (Int.natAbs_dvd_natAbs.mpr (Int.gcd_dvd_right a b) |> fun z => by simpa using z)
  obtain ⟨e1, e2⟩ := rat_num (a := a) hb0
  have hb' := hb
  have ha' := ha
  unfold zfit at ha' hb'
  refine v_X12_lowers (m_divisor ha hb ?_)
  have fin : ∀ sg : Int, b.sign = sg → (sg = 1 ∨ sg = -1) → L_X12_lowers_18 (i64 a) (i64 b) (i64 (Int.gcd a b : Nat)) (i64 sg) σ Q := by
    intro sg hsg hsg2
    refine v_X12_lowers_18 ?_
    rintro _ rfl
    rw [i64_mul]
    rw [hsg] at e1 e2
    have hd0 : (Int.gcd a b : Int) * sg ≠ 0 := by rcases hsg2 with z | z <;> rw [z] <;> omega
    have hd : -9223372036854775808 ≤ (Int.gcd a b : Int) * sg ∧ (Int.gcd a b : Int) * sg < 9223372036854775808 := by rcases hsg2 with z | z <;> rw [z] <;> omega
    have hne : ¬ i64 ((Int.gcd a b : Int) * sg) = 0 := by rw [l0, i64_eq hd (by decide)]; exact hd0
    refine ⟨hne, ?_⟩
    rintro _ rfl
    refine ⟨hne, ?_⟩
    rintro _ rfl
    rw [i64_div (q := ((a : Rat) / (b : Rat)).num) (by rw [Int.mul_comm]; exact e1.symm) hd0 ha hd, i64_div (q := (((a : Rat) / (b : Rat)).den : Nat)) (by rw [Int.mul_comm]; exact e2.symm) hd0 hb hd]
    refine h _ ((Fr.l (by decide)).tr (Fr.l (by decide))) (fun j h1 h2 => ?_) ?_ ?_
    · rw [rl, if_pos rfl, if_neg h2, rl, if_pos rfl, if_neg h1]
    · rw [rl, if_pos rfl, if_neg (by decide), rl, if_pos rfl, if_pos rfl]
    · rw [rl, if_pos rfl, if_pos rfl]
  refine ⟨fun z => ?_, fun z => ?_⟩
  all_goals rw [l0, i64_le (by decide) (by omega)] at z
  · exact fin 1 (Int.sign_eq_one_of_pos (by omega)) (Or.inl rfl)
  · exact fin (-1) (Int.sign_eq_neg_one_of_neg (by omega)) (Or.inr rfl)
