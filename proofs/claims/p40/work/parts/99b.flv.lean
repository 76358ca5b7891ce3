section FLV
theorem K64 : D64 4604930618986332160 = .fin false 6755399441055744 (-53) := by decide
theorem K32 : D32 1061158912 = .fin false 12582912 (-24) := by decide
theorem q_n0 {q : Int} : ((0 : Nat) : Rat) * p2 q = 0 := by
  have e : ((0 : Nat) : Rat) = 0 := rfl
  rw [e, Rat.zero_mul]
theorem i64_ofInt_toInt {t : Nat} (h : t < 2 ^ 62) : (Int64.ofInt (t : Int)).toInt = (t : Int) := by
  have : (2 : Nat) ^ 62 = 4611686018427387904 := by decide
  rw [Int64.toInt_ofInt_of_le]
  · have : Int64.minValue.toInt = -9223372036854775808 := by decide
    omega
  · have : (2 : Int) ^ 63 = 9223372036854775808 := by decide
    omega
/-- the greatest whole multiple of three quarters is found in doubles -/
theorem times_v {c : Nat} {q : Int} {w : UInt64} (hc : c < 2 ^ 24) (h1 : -149 ≤ q) (h2 : q ≤ -3) (hv : (c : Rat) * p2 q ≤ p2 9) (hw : isV (D64 w) ((c : Rat) * p2 q)) : (∃ V, isV (D64 (FP.ddiv w 4604930618986332160)) V) ∧ FP.d2l (FP.ddiv w 4604930618986332160) = Int64.ofInt ((c / (3 * 2 ^ (-q - 2).toNat) : Nat) : Int) ∧ c / (3 * 2 ^ (-q - 2).toNat) < 2 ^ 22 := by
  have hT : 0 < 3 * 2 ^ (-q - 2).toNat := Nat.mul_pos (by decide) (Nat.two_pow_pos _)
  have hTq := nat_pos_q hT
  have eT : ((3 * 2 ^ (-q - 2).toNat : Nat) : Rat) * p2 q = 3 * p2 (-2) := by
    rw [Rat.natCast_mul, ← p2_nat, Rat.mul_assoc, ← p2_add, show (((-q - 2).toNat : Nat) : Int) + q = -2 by omega]
    rfl
  obtain ⟨C, Q, w1, w2⟩ := hw
  have hq : D64 (FP.ddiv w 4604930618986332160) = FP.Core.roundRatio FP.Core.b64 false C 6755399441055744 (Q - -53) := by
    rw [D_ddiv, w1, K64]
    rfl
  have hl : FP.d2l (FP.ddiv w 4604930618986332160) = FP.Core.toL (D64 (FP.ddiv w 4604930618986332160)) := rfl
  rw [hl, hq]
  generalize hTT : 3 * 2 ^ (-q - 2).toNat = T at *
  have m1 := Nat.div_mul_le_self c T
  have m2 := Nat.lt_div_mul_add (a := c) hT
  generalize htt : c / T = t at *
  have tle : t ≤ c := by
    have := Nat.le_mul_of_pos_right t hT
    omega
  by_cases hc0 : c = 0
  · have C0 : C = 0 := by
      rw [hc0, q_n0] at w2
      exact zero_val w2
    have ht0 : t = 0 := by omega
    rw [C0, ht0]
    have hV : isV (FP.Core.roundRatio FP.Core.b64 false 0 6755399441055744 (Q - -53)) 0 := ⟨0, FP.Core.b64.qmin, rfl, q_n0⟩
    exact ⟨⟨_, hV⟩, toL_v hV (Rat.le_refl) (by have e : ((0 : Nat) : Rat) = 0 := rfl; rw [e]; grind) (by decide), by decide⟩
  · have C0 : 0 < C := Nat.pos_of_ne_zero fun z => by
      rw [z, q_n0] at w2
      exact hc0 (zero_val w2.symm)
    -- in thirds
    have eD : ((6755399441055744 : Nat) : Rat) = 3 * p2 51 := by
      have : p2 51 = ((2 ^ 51 : Nat) : Rat) := p2_nat 51
      rw [this, show (6755399441055744 : Nat) = 3 * 2 ^ 51 by decide, Rat.natCast_mul]; rfl
    have hX : (C : Rat) * p2 (Q - -53) * (T : Rat) = (c : Rat) * ((6755399441055744 : Nat) : Rat) := by
      rw [eD, show Q - -53 = Q + 53 by omega, p2_add, show (53 : Int) = 51 + 2 by decide, p2_add]
      have e2 : p2 2 * p2 (-2) = 1 := by rw [← p2_add]; exact p2_0
      have hq' := p2_pos q
      have h3 : (T : Rat) * p2 q * p2 2 = 3 := by rw [eT, Rat.mul_assoc, Rat.mul_comm (p2 (-2)), e2, Rat.mul_one]
      have h4 : (C : Rat) * (p2 Q * (p2 51 * p2 2)) * (T : Rat) = ((C : Rat) * p2 Q) * p2 51 * (p2 2 * (T : Rat)) := by grind
      rw [h4, w2]
      have h5 : (c : Rat) * p2 q * p2 51 * (p2 2 * (T : Rat)) = (c : Rat) * p2 51 * ((T : Rat) * p2 q * p2 2) := by grind
      rw [h5, h3]
      grind
    have hDq : (0 : Rat) < ((6755399441055744 : Nat) : Rat) := nat_pos_q (by decide)
    have hb : (C : Rat) * p2 (Q - -53) ≤ p2 10 * ((6755399441055744 : Nat) : Rat) := by
      rw [eD, show Q - -53 = Q + 53 by omega, p2_add, show (53 : Int) = 51 + 2 by decide, p2_add]
      have h1 : p2 10 = 2 * p2 9 := p2_s 9
      have h2 : p2 2 = 4 := by
        have : p2 2 = ((2 ^ 2 : Nat) : Rat) := p2_nat 2
        rw [this]; rfl
      rw [h1, h2]
      have h3 := Rat.mul_le_mul_of_nonneg_right (w2 ▸ hv) (Rat.le_of_lt (p2_pos 51))
      have h4 := Rat.mul_pos (p2_pos 9) (p2_pos 51)
      grind
    obtain ⟨N, r, b1, b2, b3, b4, b5, b6, b7⟩ := rr_fin (f := FP.Core.b64) (num := C) (den := 6755399441055744) (e := Q - -53) (j := 10) ok64 C0 (by decide) (by decide) (by decide) hb
    have hp64 : ((FP.Core.b64.p : Nat) : Int) - 1 = 52 := by decide
    rw [hp64] at b7
    have hqmin : FP.Core.b64.qmin = -1074 := by decide
    rw [hqmin] at b7
    have hr : r ≤ 0 := by
      rcases b7 with y | y
      · omega
      · have := p2_lez (q_cancel hDq (Rat.le_trans y hb))
        omega
    have hrT : p2 r * (T : Rat) < 2 := by
      rcases b7 with y | y
      · have h1 := p2_le (a := r) (b := q) (by omega)
        have h2 := Rat.mul_le_mul_of_nonneg_right h1 (Rat.le_of_lt hTq)
        have h3 : p2 0 = 4 * p2 (-2) := by
          have a1 := p2_s (-2)
          have a2 := p2_s (-1)
          rw [show ((-2 : Int) + 1) = -1 by decide] at a1
          rw [show ((-1 : Int) + 1) = 0 by decide] at a2
          grind
        rw [p2_0] at h3
        grind
      · have h1 := Rat.mul_le_mul_of_nonneg_right y (Rat.le_of_lt hTq)
        rw [hX] at h1
        have h2 : p2 (r + 52) * (T : Rat) ≤ (c : Rat) := q_cancel hDq (by grind)
        have h3 : (c : Rat) < p2 24 := by
          have e : p2 24 = ((2 ^ 24 : Nat) : Rat) := p2_nat 24
          rw [e]
          exact Rat.natCast_lt_natCast.mpr hc
        have h4 : p2 24 ≤ p2 52 := p2_le (by decide)
        rw [p2_add] at h2
        have h5 := p2_pos 52
        refine Rat.not_le.mp fun z => ?_
        have := Rat.mul_le_mul_of_nonneg_right z (Rat.le_of_lt h5)
        grind
    have hu := nat_pos_q (un_pos (den := 6755399441055744) (e := Q - -53) (q := r) (by decide))
    have hun := un_eq C 6755399441055744 (Q - -53) r
    have hpp : p2 (Q - -53 - r) * p2 r = p2 (Q - -53) := by rw [← p2_add]; congr 1; omega
    have hlo : (t : Rat) ≤ (N : Rat) * p2 r := by
      have h0 : t * 2 ^ (-r).toNat ≤ N := by
        rw [b3]
        apply near_ge (un_pos (by decide))
        rw [← Rat.natCast_le_natCast, Rat.natCast_mul, Rat.natCast_mul, ← p2_nat]
        refine q_cancel hDq ?_
        rw [hun, show (((-r).toNat : Nat) : Int) = -r by omega]
        have h1 : (t : Rat) * ((6755399441055744 : Nat) : Rat) ≤ (C : Rat) * p2 (Q - -53) := by
          refine q_cancel hTq ?_
          rw [hX]
          have h2 := Rat.natCast_le_natCast.mpr m1
          rw [Rat.natCast_mul] at h2
          have := Rat.mul_le_mul_of_nonneg_right h2 (Rat.le_of_lt hDq)
          grind
        have h2 : p2 (Q - -53 - r) = p2 (Q - -53) * p2 (-r) := by rw [← p2_add]; congr 1
        rw [h2]
        have h3 := Rat.mul_le_mul_of_nonneg_right h1 (Rat.le_of_lt (Rat.mul_pos (p2_pos (-r)) hu))
        grind
      have h1 := Rat.natCast_le_natCast.mpr h0
      rw [Rat.natCast_mul, ← p2_nat, show (((-r).toNat : Nat) : Int) = -r by omega] at h1
      have h2 := Rat.mul_le_mul_of_nonneg_right h1 (Rat.le_of_lt (p2_pos r))
      rw [Rat.mul_assoc, ← p2_add, show -r + r = 0 by omega, p2_0, Rat.mul_one] at h2
      exact h2
    have hhi : (N : Rat) * p2 r < (t : Rat) + 1 := by
      have h1 := (near_err (a := FP.Core.unitsNum C (Q - -53) r) (un_pos (den := 6755399441055744) (e := Q - -53) (q := r) (by decide))).1
      rw [← b3, ← Rat.natCast_le_natCast, Rat.natCast_add, Rat.natCast_mul, Rat.natCast_mul, Rat.natCast_mul] at h1
      have e2 : ((2 : Nat) : Rat) = 2 := rfl
      rw [e2] at h1
      have h2 : 2 * (N : Rat) * ((6755399441055744 : Nat) : Rat) ≤ 2 * ((C : Rat) * p2 (Q - -53 - r)) + ((6755399441055744 : Nat) : Rat) := by
        refine q_cancel hu ?_
        have h3 := Rat.mul_le_mul_of_nonneg_right h1 (Rat.le_of_lt hDq)
        grind
      have h4 := Rat.mul_le_mul_of_nonneg_right h2 (Rat.le_of_lt (Rat.mul_pos (p2_pos r) hTq))
      have h5 : 2 * ((N : Rat) * p2 r * (T : Rat)) ≤ 2 * (c : Rat) + p2 r * (T : Rat) := by
        refine q_cancel hDq ?_
        have h6 : (C : Rat) * p2 (Q - -53 - r) * (p2 r * (T : Rat)) = (c : Rat) * ((6755399441055744 : Nat) : Rat) := by
          rw [← hX, ← hpp]; grind
        grind
      have h7 : (c : Rat) + 1 ≤ ((t : Rat) + 1) * (T : Rat) := by
        have h8 := Rat.natCast_le_natCast.mpr (show c + 1 ≤ t * T + T from m2)
        rw [Rat.natCast_add, Rat.natCast_add, Rat.natCast_mul] at h8
        have e1 : ((1 : Nat) : Rat) = 1 := rfl
        grind
      refine Rat.not_le.mp fun z => ?_
      have := Rat.mul_le_mul_of_nonneg_right z (Rat.le_of_lt hTq)
      grind
    have ht : t < 2 ^ 22 := by
      have hT6 : 6 ≤ T := by
        rw [← hTT]
        have : 2 ^ 1 ≤ 2 ^ (-q - 2).toNat := Nat.pow_le_pow_right (by decide) (by omega)
        omega
      have := Nat.mul_le_mul_left t hT6
      omega
    exact ⟨⟨_, b1⟩, toL_v b1 hlo hhi (by omega), ht⟩
theorem rest_v {v : UInt32} {c : Nat} {q : Int} (hD : D32 v = .fin false c q) (hf : FP.Core.fits FP.Core.b32 (.fin false c q)) (hv : (c : Rat) * p2 q ≤ p2 9) : D64 (FP.f2d v) ≠ .nan ∧ D64 (FP.ddiv (FP.f2d v) 4604930618986332160) ≠ .nan ∧ D64 (FP.dmul (FP.l2d (FP.d2l (FP.ddiv (FP.f2d v) 4604930618986332160))) 4604930618986332160) ≠ .nan ∧ D64 (FP.dsub (FP.f2d v) (FP.dmul (FP.l2d (FP.d2l (FP.ddiv (FP.f2d v) 4604930618986332160))) 4604930618986332160)) ≠ .nan ∧ FP.d2f (FP.dsub (FP.f2d v) (FP.dmul (FP.l2d (FP.d2l (FP.ddiv (FP.f2d v) 4604930618986332160))) 4604930618986332160)) = FP.frem v 1061158912 ∧ ∃ V, isV (D32 (FP.frem v 1061158912)) V := by
  obtain ⟨hc, h1, h2, h3⟩ := hf
  have hc' : c < 2 ^ 24 := hc
  have h1' : -149 ≤ q := h1
  have hq3 : q ≤ -3 := by
    have h3' : q = -149 ∨ 8388608 ≤ c := h3
    rcases h3' with y | y
    · omega
    · have e : p2 23 = ((2 ^ 23 : Nat) : Rat) := p2_nat 23
      have a1 : p2 23 ≤ (c : Rat) := by rw [e]; exact Rat.natCast_le_natCast.mpr y
      have a2 := Rat.mul_le_mul_of_nonneg_right a1 (Rat.le_of_lt (p2_pos q))
      rw [← p2_add] at a2
      have := p2_lez (Rat.le_trans a2 hv)
      omega
  have n32 : D32 v ≠ .nan := by rw [hD]; exact fun z => by cases z
  have hw : isV (D64 (FP.f2d v)) ((c : Rat) * p2 q) := by
    rw [D_f2d n32, hD]
    refine round_exact ok64 ?_ ?_ ?_
    · have : (2 : Nat) ^ 24 < 2 ^ FP.Core.b64.p := by decide
      omega
    · have : FP.Core.b64.qmin = -1074 := by decide
      omega
    · have : FP.Core.b64.qmax = 971 := by decide
      omega
  obtain ⟨⟨Vx, hx⟩, hl, ht⟩ := times_v hc' h1' hq3 hv hw
  have hT : 0 < 3 * 2 ^ (-q - 2).toNat := Nat.mul_pos (by decide) (Nat.two_pow_pos _)
  have eT : ((3 * 2 ^ (-q - 2).toNat : Nat) : Rat) * p2 q = 3 * p2 (-2) := by
    rw [Rat.natCast_mul, ← p2_nat, Rat.mul_assoc, ← p2_add, show (((-q - 2).toNat : Nat) : Int) + q = -2 by omega]
    rfl
  have hm := Nat.div_add_mod c (3 * 2 ^ (-q - 2).toNat)
  have hRc : c % (3 * 2 ^ (-q - 2).toNat) < 2 ^ 24 := Nat.lt_of_le_of_lt (Nat.mod_le _ _) hc'
  generalize hR : c % (3 * 2 ^ (-q - 2).toNat) = R at hm hRc
  rw [hl]
  generalize htt : c / (3 * 2 ^ (-q - 2).toNat) = t at hm ht
  -- times three quarters
  have hlt : isV (D64 (FP.l2d (Int64.ofInt (t : Int)))) ((t : Rat) * p2 0) := by
    rw [D_l2d, i64_ofInt_toInt (Nat.lt_trans ht (by decide))]
    have e : FP.Core.ofInt (t : Int) = .fin false t 0 := by
      unfold FP.Core.ofInt
      rw [decide_eq_false (by omega)]
      rfl
    rw [e]
    exact round_exact ok64 (Nat.lt_trans ht (by decide)) (by decide) (by decide)
  have hmul : isV (D64 (FP.dmul (FP.l2d (Int64.ofInt (t : Int))) 4604930618986332160)) (((3 * t : Nat) : Rat) * p2 (-2)) := by
    obtain ⟨Ct, Qt, e1, e2⟩ := hlt
    rw [D_dmul, e1, K64]
    have e3 : FP.Core.round FP.Core.b64 (FP.Core.exactProduct (.fin false Ct Qt) (.fin false 6755399441055744 (-53))) = FP.Core.round FP.Core.b64 (.fin false (3 * t) (-2)) := by
      refine round_val (c := Ct * 6755399441055744) (q := Qt + -53) ?_
      rw [Rat.natCast_mul, Rat.natCast_mul, p2_add, show (6755399441055744 : Nat) = 3 * 2 ^ 51 by decide, Rat.natCast_mul, ← p2_nat]
      have e4 : p2 ((51 : Nat) : Int) * p2 (-53) = p2 (-2) := by rw [← p2_add]; rfl
      rw [p2_0, Rat.mul_one] at e2
      have e5 : ((3 : Nat) : Rat) = 3 := rfl
      rw [e5, ← e4, ← e2]
      grind
    rw [e3]
    exact round_exact ok64 (by
      have : (3 : Nat) * 2 ^ 22 < 2 ^ FP.Core.b64.p := by decide
      omega) (by decide) (by decide)
  have hval : (c : Rat) * p2 q - ((3 * t : Nat) : Rat) * p2 (-2) = (R : Rat) * p2 q := by
    have h4 : ((3 * 2 ^ (-q - 2).toNat * t + R : Nat) : Rat) = (c : Rat) := by rw [hm]
    rw [Rat.natCast_add, Rat.natCast_mul] at h4
    rw [← h4, Rat.natCast_mul 3 t]
    have e5 : ((3 : Nat) : Rat) = 3 := rfl
    rw [e5]
    generalize ((3 * 2 ^ (-q - 2).toNat : Nat) : Rat) = T at *
    grind
  have hsub : ∃ n m, FP.Core.exactSum (D64 (FP.f2d v)) (FP.Core.negate (D64 (FP.dmul (FP.l2d (Int64.ofInt (t : Int))) 4604930618986332160))) = .fin false n m ∧ (n : Rat) * p2 m = (R : Rat) * p2 q := by
    obtain ⟨a, r, e1, e2⟩ := hw
    obtain ⟨b, z, e3, e4⟩ := hmul
    rw [e1, e3]
    refine sub_v (by rw [e2, e4]; exact hval) ?_
    exact Rat.mul_nonneg Rat.natCast_nonneg (Rat.le_of_lt (p2_pos q))
  obtain ⟨n, m, s1, s2⟩ := hsub
  have hds : isV (D64 (FP.dsub (FP.f2d v) (FP.dmul (FP.l2d (Int64.ofInt (t : Int))) 4604930618986332160))) ((R : Rat) * p2 q) := by
    rw [D_dsub, s1, round_val s2]
    refine round_exact ok64 ?_ ?_ ?_
    · have : (2 : Nat) ^ 24 < 2 ^ FP.Core.b64.p := by decide
      omega
    · have : FP.Core.b64.qmin = -1074 := by decide
      omega
    · have : FP.Core.b64.qmax = 971 := by decide
      omega
  have hrem : FP.Core.round FP.Core.b32 (FP.Core.exactRemainder (D32 v) (D32 1061158912)) = FP.Core.round FP.Core.b32 (.fin false R q) := by
    rw [hD, K32]
    unfold FP.Core.exactRemainder
    dsimp only
    rw [if_neg (by decide)]
    refine round_val ?_
    unfold FP.Core.inUnits
    have e1 : 12582912 * 2 ^ (-24 - min q (-24)).toNat = 3 * 2 ^ (-q - 2).toNat * 2 ^ (q - min q (-24)).toNat := by
      rw [show (12582912 : Nat) = 3 * 2 ^ 22 by decide, Nat.mul_assoc, Nat.mul_assoc, ← Nat.pow_add, ← Nat.pow_add]
      congr 2
      omega
    rw [e1, Nat.mul_mod_mul_right, hR, Rat.natCast_mul, ← p2_nat, Rat.mul_assoc, ← p2_add]
    congr 2
    omega
  have hfr : isV (FP.Core.round FP.Core.b32 (.fin false R q)) ((R : Rat) * p2 q) := round_exact ok32 hRc h1 h2
  refine ⟨hw.nn, hx.nn, hmul.nn, hds.nn, ?_, ?_⟩
  · rw [d2f_enc hds.nn, frem_enc, hrem]
    obtain ⟨a, r, e1, e2⟩ := hds
    rw [e1, round_val e2]
  · rw [D_frem, hrem]
    exact ⟨_, hfr⟩
/-- the value as a float -/
theorem float_v {n d : Nat} (hd : 0 < d) (hd2 : d < 2 ^ 30) (hn : n ≤ 162 * d) : ∃ c q, D32 (FP.fdiv (FP.l2f (Int64.ofInt n)) (FP.l2f (Int64.ofInt d))) = .fin false c q ∧ FP.Core.fits FP.Core.b32 (.fin false c q) ∧ (c : Rat) * p2 q ≤ p2 9 := by
  have e : D32 (FP.fdiv (FP.l2f (Int64.ofInt n)) (FP.l2f (Int64.ofInt d))) = FP.Core.quotient FP.Core.b32 (FP.Core.round FP.Core.b32 (FP.Core.ofInt (n : Int))) (FP.Core.round FP.Core.b32 (FP.Core.ofInt (d : Int))) := by
    rw [D_fdiv, D_l2f, D_l2f, i64_ofInt_toInt (by omega), i64_ofInt_toInt (by omega)]
  obtain ⟨V, ⟨c, q, h1, h2⟩, h3, -⟩ := quot_v (n := n) ok32 (by decide) hd hd2 hn
  have hf := fits_quot ok32 (FP.Core.round FP.Core.b32 (FP.Core.ofInt (n : Int))) (FP.Core.round FP.Core.b32 (FP.Core.ofInt (d : Int)))
  rw [h1] at hf e
  exact ⟨c, q, e, hf, by rw [h2]; exact h3⟩
/-- the value as a double, its whole part and what is over -/
theorem double_v {n d : Nat} (hd : 0 < d) (hd2 : d < 2 ^ 30) (hn : n ≤ 162 * d) : D64 (FP.ddiv (FP.l2d (Int64.ofInt n)) (FP.l2d (Int64.ofInt d))) ≠ .nan ∧ (∃ t : Nat, t < 513 ∧ (n = 0 → t = 0) ∧ FP.d2l (FP.ddiv (FP.l2d (Int64.ofInt n)) (FP.l2d (Int64.ofInt d))) = Int64.ofInt t) ∧ ∀ x : Int64, D64 (FP.dsub (FP.ddiv (FP.l2d (Int64.ofInt n)) (FP.l2d (Int64.ofInt d))) (FP.l2d x)) ≠ .nan := by
  have e : D64 (FP.ddiv (FP.l2d (Int64.ofInt n)) (FP.l2d (Int64.ofInt d))) = FP.Core.quotient FP.Core.b64 (FP.Core.round FP.Core.b64 (FP.Core.ofInt (n : Int))) (FP.Core.round FP.Core.b64 (FP.Core.ofInt (d : Int))) := by
    rw [D_ddiv, D_l2d, D_l2d, i64_ofInt_toInt (by omega), i64_ofInt_toInt (by omega)]
  obtain ⟨V, h1, h3, h4⟩ := quot_v (n := n) ok64 (by decide) hd hd2 hn
  rw [← e] at h1
  obtain ⟨t, t1, t2⟩ := floor_v h1
  have e9 : p2 9 = ((2 ^ 9 : Nat) : Rat) := p2_nat 9
  have ht : t ≤ 2 ^ 9 := by
    rw [← Rat.natCast_le_natCast, ← e9]
    exact Rat.le_trans t1 h3
  refine ⟨h1.nn, ⟨t, by omega, fun z => ?_, toL_v h1 t1 t2 (by omega)⟩, fun x => ?_⟩
  · rw [h4 z] at t1
    have : ((t : Nat) : Rat) ≤ ((0 : Nat) : Rat) := t1
    have := Rat.natCast_le_natCast.mp this
    omega
  · rw [D_dsub, D_l2d]
    refine sum_nn h1 ?_
    unfold FP.Core.ofInt
    exact round_nn
set_option maxRecDepth 20000 in
theorem odd_v : ∀ t : Fin 513, ((Int64.ofInt (t.val : Int)) &&& 1 = 1) ↔ ((Int64.ofInt (t.val : Int)) - (Int64.ofInt (t.val : Int)) / 2 * 2 = 1) := by decide
end FLV
