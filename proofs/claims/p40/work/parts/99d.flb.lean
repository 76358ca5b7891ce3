section FLB
/-- a number of sign + that is at most 2^j -/
def okB (j : Int) (x : UInt64) : Prop := ∃ V, isV (D64 x) V ∧ V ≤ p2 j
theorem okB.nn {j : Int} {x : UInt64} (h : okB j x) : D64 x ≠ .nan := by
  obtain ⟨V, h, -⟩ := h
  exact h.nn
theorem okB.mo {i j : Int} {x : UInt64} (h : okB i x) (hij : i ≤ j) : okB j x := by
  obtain ⟨V, h, h2⟩ := h
  exact ⟨V, h, Rat.le_trans h2 (p2_le hij)⟩
theorem okB_0 : okB 0 FP.dconst0 := ⟨0, ⟨0, -1074, by decide, q_n0⟩, Rat.le_of_lt (p2_pos 0)⟩
theorem okB_1 : okB 0 FP.dconst1 := ⟨p2 0, ⟨4503599627370496, -52, by decide, by
  have e : ((4503599627370496 : Nat) : Rat) = p2 52 := (p2_nat 52).symm
  rw [e, ← p2_add]; rfl⟩, Rat.le_refl⟩
theorem round_le {c : Nat} {q j : Int} (h : (c : Rat) * p2 q ≤ p2 j) (h1 : -1074 ≤ j) (h2 : j ≤ 971) : ∃ V, isV (FP.Core.round FP.Core.b64 (.fin false c q)) V ∧ V ≤ p2 j := by
  by_cases hc : 0 < c
  · have e1 : ((1 : Nat) : Rat) = 1 := rfl
    obtain ⟨C, r, b1, b2, b3, b4, b5, b6, b7⟩ := rr_fin (f := FP.Core.b64) (num := c) (den := 1) (e := q) (j := j) ok64 hc (by decide) (by
      have : FP.Core.b64.qmin = -1074 := by decide
      omega) (by
      have : FP.Core.b64.qmax = 971 := by decide
      omega) (by rw [e1, Rat.mul_one]; exact h)
    exact ⟨_, b1, b5⟩
  · have e : c = 0 := by omega
    rw [e]
    exact ⟨0, ⟨0, FP.Core.b64.qmin, rfl, q_n0⟩, Rat.le_of_lt (p2_pos j)⟩
theorem i2d_v {n : Nat} (h : n ≤ 6) : isV (D64 (FP.i2d (Int32.ofNat n))) (n : Rat) := by
  have e : (Int32.ofNat n).toInt = (n : Int) := Int32.toInt_ofNat_of_lt (by omega)
  rw [D_i2d, e]
  have e : FP.Core.ofInt (n : Int) = .fin false n 0 := by
    unfold FP.Core.ofInt
    rw [decide_eq_false (by omega)]
    rfl
  have h2 := round_exact (f := FP.Core.b64) (c := n) (q := 0) ok64 (Nat.lt_of_le_of_lt h (by decide)) (by decide) (by decide)
  rw [p2_0, Rat.mul_one] at h2
  rw [e]
  exact h2
theorem n6_le {n : Nat} (h : n ≤ 6) : (n : Rat) ≤ p2 3 := by
  have e : p2 3 = ((2 ^ 3 : Nat) : Rat) := p2_nat 3
  rw [e]
  exact Rat.natCast_le_natCast.mpr (by omega)
theorem okB_mul {n : Nat} {x : UInt64} {j : Int} (h : n ≤ 6) (hx : okB j x) (h1 : -1074 ≤ j) (h2 : j ≤ 960) : okB (j + 3) (FP.dmul (FP.i2d (Int32.ofNat n)) x) := by
  obtain ⟨c, q, a1, a2⟩ := i2d_v h
  obtain ⟨V, ⟨d, r, b1, b2⟩, b3⟩ := hx
  unfold okB
  rw [D_dmul, a1, b1]
  refine round_le (c := c * d) (q := q + r) ?_ (by omega) (by omega)
  rw [Rat.natCast_mul, p2_add, Int.add_comm j 3, p2_add]
  have e : (c : Rat) * (d : Rat) * (p2 q * p2 r) = ((c : Rat) * p2 q) * ((d : Rat) * p2 r) := by grind
  rw [e, a2, b2]
  have v0 : 0 ≤ V := by rw [← b2]; exact Rat.mul_nonneg Rat.natCast_nonneg (Rat.le_of_lt (p2_pos r))
  exact Rat.le_trans (Rat.mul_le_mul_of_nonneg_right (n6_le h) v0) (Rat.mul_le_mul_of_nonneg_left b3 (Rat.le_of_lt (p2_pos 3)))
theorem add_v {a b : Nat} {q r : Int} : ∃ n m, FP.Core.exactSum (.fin false a q) (.fin false b r) = .fin false n m ∧ (n : Rat) * p2 m = (a : Rat) * p2 q + (b : Rat) * p2 r := by
  unfold FP.Core.exactSum
  dsimp only
  have e1 : ∀ (x : Nat) (z : Int), min q r ≤ z → ((FP.Core.inUnits x z (min q r) : Nat) : Rat) * p2 (min q r) = (x : Rat) * p2 z := fun x z hz => by
    unfold FP.Core.inUnits
    rw [Rat.natCast_mul, ← p2_nat, Rat.mul_assoc, ← p2_add]
    congr 2
    omega
  have hv : FP.Core.sumUnits false a q false b r (min q r) = ((FP.Core.inUnits a q (min q r) + FP.Core.inUnits b r (min q r) : Nat) : Int) := by
    unfold FP.Core.sumUnits FP.Core.signed
    simp
  rw [hv]
  have ha := e1 a q (by omega)
  have hb := e1 b r (by omega)
  refine ⟨FP.Core.inUnits a q (min q r) + FP.Core.inUnits b r (min q r), min q r, ?_, ?_⟩
  · congr 1
    unfold FP.Core.sumSign
    split
    · rfl
    · exact decide_eq_false (by omega)
  · rw [Rat.natCast_add, Rat.add_mul, ha, hb]
theorem okB_add {x y : UInt64} {i j : Int} (hx : okB i x) (hy : okB j y) (hj : j ≤ i) (h1 : -1074 ≤ i) (h2 : i ≤ 970) : okB (i + 1) (FP.dadd x y) := by
  obtain ⟨V, ⟨c, q, a1, a2⟩, a3⟩ := hx
  obtain ⟨W, ⟨d, r, b1, b2⟩, b3⟩ := hy
  unfold okB
  rw [D_dadd, a1, b1]
  obtain ⟨n, m, e1, e2⟩ := add_v (a := c) (b := d) (q := q) (r := r)
  rw [e1]
  refine round_le ?_ (by omega) (by omega)
  rw [e2, a2, b2, p2_s]
  have := p2_le hj
  grind
theorem okB_div {n : Nat} {x : UInt64} {j : Int} (h : n ≤ 6) (h0 : 0 < n) (hx : okB j x) (h1 : -1074 ≤ j) (h2 : j ≤ 971) : okB j (FP.ddiv x (FP.i2d (Int32.ofNat n))) := by
  obtain ⟨c, q, a1, a2⟩ := i2d_v h
  obtain ⟨V, ⟨d, r, b1, b2⟩, b3⟩ := hx
  have hc : 0 < c := Nat.pos_of_ne_zero fun z => by
    rw [z, q_n0] at a2
    have := nat_pos_q h0
    grind
  unfold okB
  rw [D_ddiv, a1, b1]
  have quo : FP.Core.quotient FP.Core.b64 (.fin false d r) (.fin false c q) = FP.Core.roundRatio FP.Core.b64 false d c (r - q) := by
    unfold FP.Core.quotient
    dsimp only
    rw [if_neg (by omega)]
    rfl
  rw [quo]
  by_cases hd : 0 < d
  · obtain ⟨C, z, e1, e2, e3, e4, e5, e6, e7⟩ := rr_fin (f := FP.Core.b64) (num := d) (den := c) (e := r - q) (j := j) ok64 hd hc (by
      have : FP.Core.b64.qmin = -1074 := by decide
      omega) (by
      have : FP.Core.b64.qmax = 971 := by decide
      omega) (by
      rw [Int.sub_eq_add_neg, p2_add]
      refine q_alg1 (R := p2 q) ?_ (by rw [← p2_add, show q + -q = 0 by omega, p2_0]) (p2_pos (-q))
      rw [b2, a2]
      have n1 : (1 : Rat) ≤ (n : Rat) := Rat.natCast_le_natCast.mpr (show 1 ≤ n from h0)
      have := Rat.mul_le_mul_of_nonneg_left n1 (Rat.le_of_lt (p2_pos j))
      rw [Rat.mul_one] at this
      exact Rat.le_trans b3 this)
    exact ⟨_, e1, e5⟩
  · have e : d = 0 := by omega
    rw [e]
    exact ⟨0, ⟨0, FP.Core.b64.qmin, rfl, q_n0⟩, Rat.le_of_lt (p2_pos j)⟩
end FLB
