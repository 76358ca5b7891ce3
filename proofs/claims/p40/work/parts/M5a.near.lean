/-! DOUBLES NEAR NUMBERS -/
section NR
theorem p2_half (z : Int) : 2 * p2 (z - 1) = p2 z := by
  have := p2_s (z - 1)
  rw [show z - 1 + 1 = z by omega] at this
  exact this.symm
theorem near_alg1 {C U P N v h : Rat} (k1 : 2 * (C * U) * P ≤ (2 * N + U) * P) (hN : N * P = U * v) (hh : 2 * h = P) : C * P * U ≤ (v + h) * U := by
  have e1 : U * P = 2 * (U * h) := by rw [← hh]; grind
  have e2 : 2 * (C * U) * P = 2 * (C * P * U) := by grind
  have e3 : (2 * N + U) * P = 2 * (N * P) + U * P := by grind
  have e4 : (v + h) * U = U * v + U * h := by grind
  rw [e2, e3, hN, e1] at k1
  rw [e4]
  generalize C * P * U = x at *
  generalize U * v = y at *
  generalize U * h = z at *
  grind
theorem near_alg2 {C U P N v h : Rat} (k1 : 2 * N * P ≤ (2 * (C * U) + U) * P) (hN : N * P = U * v) (hh : 2 * h = P) : v * U ≤ (C * P + h) * U := by
  have e1 : U * P = 2 * (U * h) := by rw [← hh]; grind
  have e2 : 2 * N * P = 2 * (N * P) := by grind
  have e3 : (2 * (C * U) + U) * P = 2 * (C * P * U) + U * P := by grind
  have e4 : (C * P + h) * U = C * P * U + U * h := by grind
  rw [e2, e3, hN, e1] at k1
  rw [e4, Rat.mul_comm v U]
  generalize C * P * U = x at *
  generalize U * v = y at *
  generalize U * h = z at *
  grind
/-- rounding: at most 2^j, and at most 2^(j-53) away -/
theorem rnd_near {num den : Nat} {e j : Int} {v : Rat} (hd : 0 < den) (hv : v * (den : Rat) = (num : Rat) * p2 e) (hj : v ≤ p2 j) (h1 : -1000 ≤ j) (h2 : j ≤ 900) : ∃ V, isV (FP.Core.roundRatio FP.Core.b64 false num den e) V ∧ V ≤ p2 j ∧ V ≤ v + p2 (j - 53) ∧ v ≤ V + p2 (j - 53) := by
  have hdq := nat_pos_q hd
  have hmin : FP.Core.b64.qmin = -1074 := by decide
  have hmax : FP.Core.b64.qmax = 971 := by decide
  by_cases hn : 0 < num
  · obtain ⟨C, q, b1, b2, b3, b4, b5, b6, b7⟩ := rr_fin (f := FP.Core.b64) (num := num) (den := den) (e := e) (j := j) ok64 hn hd (by omega) (by omega) (by
      rw [← hv]
      exact Rat.mul_le_mul_of_nonneg_right hj (Rat.le_of_lt hdq))
    have hq : q - 1 ≤ j - 53 := by
      rcases b7 with y | y
      · omega
      · rw [← hv] at y
        have := p2_lez (Rat.le_trans (q_cancel hdq y) hj)
        have e5 : ((FP.Core.b64.p : Nat) : Int) - 1 = 52 := by decide
        omega
    have hqq := p2_le hq
    have hh := p2_half q
    have hp := p2_pos q
    have hu := nat_pos_q (un_pos (den := den) (e := e) (q := q) hd)
    obtain ⟨g1, g2⟩ := near_err (a := FP.Core.unitsNum num e q) (un_pos (den := den) (e := e) (q := q) hd)
    rw [← b3] at g1 g2
    have hun := un_eq num den e q
    have e2 : ((2 : Nat) : Rat) = 2 := rfl
    rw [← Rat.natCast_le_natCast, Rat.natCast_add, Rat.natCast_mul, Rat.natCast_mul, Rat.natCast_mul, e2] at g1 g2
    generalize (FP.Core.unitsDen den e q : Rat) = U at *
    generalize (FP.Core.unitsNum num e q : Rat) = N at *
    -- N = U v 2^-q
    have hN : N * p2 q = U * v := by
      have h3 : p2 (e - q) * p2 q = p2 e := by rw [← p2_add]; congr 1; omega
      have h4 : N * p2 q * (den : Rat) = U * v * (den : Rat) := by
        have h5 : N * (den : Rat) * p2 q = U * ((num : Rat) * (p2 (e - q) * p2 q)) := by rw [hun]; grind
        rw [h3, ← hv] at h5
        grind
      have h6 : (N * p2 q - U * v) * (den : Rat) = 0 := by grind
      rcases Rat.mul_eq_zero.mp h6 with z | z
      · grind
      · rw [z] at hdq; exact absurd hdq (by decide)
    have k1 := Rat.mul_le_mul_of_nonneg_right g1 (Rat.le_of_lt hp)
    have k2 := Rat.mul_le_mul_of_nonneg_right g2 (Rat.le_of_lt hp)
    refine ⟨_, b1, b5, ?_, ?_⟩
    · have : (C : Rat) * p2 q ≤ v + p2 (q - 1) := q_cancel hu (near_alg1 k1 hN hh)
      grind
    · have : v ≤ (C : Rat) * p2 q + p2 (q - 1) := q_cancel hu (near_alg2 k2 hN hh)
      grind
  · have e0 : num = 0 := by omega
    have v0 : v = 0 := by
      rw [e0, q_n0] at hv
      rcases Rat.mul_eq_zero.mp hv with z | z
      · exact z
      · rw [z] at hdq; exact absurd hdq (by decide)
    have := p2_pos (j - 53)
    have := p2_pos j
    rw [e0, v0]
    exact ⟨0, ⟨0, FP.Core.b64.qmin, rfl, q_n0⟩, by grind, by grind, by grind⟩
theorem round_near {c : Nat} {q j : Int} {v : Rat} (h : (c : Rat) * p2 q = v) (hj : v ≤ p2 j) (h1 : -1000 ≤ j) (h2 : j ≤ 900) : ∃ V, isV (FP.Core.round FP.Core.b64 (.fin false c q)) V ∧ V ≤ p2 j ∧ V ≤ v + p2 (j - 53) ∧ v ≤ V + p2 (j - 53) :=
  rnd_near (num := c) (den := 1) (e := q) (by decide) (by
    have e1 : ((1 : Nat) : Rat) = 1 := rfl
    rw [e1, Rat.mul_one, h]) hj h1 h2
theorem isV.nn0 {d : FP.Core.Datum} {V : Rat} (h : isV d V) : 0 ≤ V := by
  obtain ⟨c, q, -, rfl⟩ := h
  exact Rat.mul_nonneg Rat.natCast_nonneg (Rat.le_of_lt (p2_pos q))
theorem mul_near {x y : UInt64} {V W : Rat} {j : Int} (hx : isV (D64 x) V) (hy : isV (D64 y) W) (hj : V * W ≤ p2 j) (h1 : -1000 ≤ j) (h2 : j ≤ 900) : ∃ Z, isV (D64 (FP.dmul x y)) Z ∧ Z ≤ p2 j ∧ Z ≤ V * W + p2 (j - 53) ∧ V * W ≤ Z + p2 (j - 53) := by
  obtain ⟨c, q, a1, a2⟩ := hx
  obtain ⟨d, r, b1, b2⟩ := hy
  rw [D_dmul, a1, b1]
  refine round_near (c := c * d) (q := q + r) ?_ hj h1 h2
  rw [Rat.natCast_mul, p2_add, ← a2, ← b2]
  grind
theorem add_near {x y : UInt64} {V W : Rat} {j : Int} (hx : isV (D64 x) V) (hy : isV (D64 y) W) (hj : V + W ≤ p2 j) (h1 : -1000 ≤ j) (h2 : j ≤ 900) : ∃ Z, isV (D64 (FP.dadd x y)) Z ∧ Z ≤ p2 j ∧ Z ≤ V + W + p2 (j - 53) ∧ V + W ≤ Z + p2 (j - 53) := by
  obtain ⟨c, q, a1, a2⟩ := hx
  obtain ⟨d, r, b1, b2⟩ := hy
  rw [D_dadd, a1, b1]
  obtain ⟨n, m, e1, e2⟩ := add_v (a := c) (b := d) (q := q) (r := r)
  rw [e1]
  exact round_near (by rw [e2, a2, b2]) hj h1 h2
theorem div_near {x y : UInt64} {V W v : Rat} {j : Int} (hx : isV (D64 x) V) (hy : isV (D64 y) W) (h0 : 0 < W) (hv : v * W = V) (hj : v ≤ p2 j) (h1 : -1000 ≤ j) (h2 : j ≤ 900) : ∃ Z, isV (D64 (FP.ddiv x y)) Z ∧ Z ≤ p2 j ∧ Z ≤ v + p2 (j - 53) ∧ v ≤ Z + p2 (j - 53) := by
  obtain ⟨c, q, a1, a2⟩ := hx
  obtain ⟨d, r, b1, b2⟩ := hy
  have hd : 0 < d := Nat.pos_of_ne_zero fun z => by
    rw [z, q_n0] at b2
    rw [← b2] at h0
    exact absurd h0 (by decide)
  rw [D_ddiv, a1, b1]
  have quo : FP.Core.quotient FP.Core.b64 (.fin false c q) (.fin false d r) = FP.Core.roundRatio FP.Core.b64 false c d (q - r) := by
    unfold FP.Core.quotient
    dsimp only
    rw [if_neg (by omega)]
    rfl
  rw [quo]
  refine rnd_near hd ?_ hj h1 h2
  have h3 : p2 (q - r) * p2 r = p2 q := by rw [← p2_add]; congr 1; omega
  have hr := p2_pos r
  have h4 : (v * (d : Rat) - (c : Rat) * p2 (q - r)) * p2 r = 0 := by
    have h5 : v * ((d : Rat) * p2 r) = (c : Rat) * (p2 (q - r) * p2 r) := by rw [b2, hv, h3, a2]
    grind
  rcases Rat.mul_eq_zero.mp h4 with z | z
  · grind
  · rw [z] at hr; exact absurd hr (by decide)
/-! the order -/
theorem ord_v {d e : FP.Core.Datum} {V W : Rat} (hd : isV d V) (he : isV e W) : (V < W → FP.Core.order d e = some .lt) ∧ (V = W → FP.Core.order d e = some .eq) ∧ (W < V → FP.Core.order d e = some .gt) := by
  obtain ⟨c, q, rfl, a2⟩ := hd
  obtain ⟨n, r, rfl, b2⟩ := he
  have e1 : ∀ (x : Nat) (z : Int), min q r ≤ z → ((FP.Core.inUnits x z (min q r) : Nat) : Rat) * p2 (min q r) = (x : Rat) * p2 z := fun x z hz => by
    unfold FP.Core.inUnits
    rw [Rat.natCast_mul, ← p2_nat, Rat.mul_assoc, ← p2_add]
    congr 2
    omega
  have ha := e1 c q (by omega)
  have hb := e1 n r (by omega)
  rw [a2] at ha
  rw [b2] at hb
  have ho : FP.Core.order (.fin false c q) (.fin false n r) = some (compare ((FP.Core.inUnits c q (min q r) : Nat) : Int) ((FP.Core.inUnits n r (min q r) : Nat) : Int)) := rfl
  rw [ho]
  generalize FP.Core.inUnits c q (min q r) = A at *
  generalize FP.Core.inUnits n r (min q r) = B at *
  have hp := p2_pos (min q r)
  refine ⟨fun h => ?_, fun h => ?_, fun h => ?_⟩
  · have : A < B := Nat.not_le.mp fun z => by
      have := Rat.mul_le_mul_of_nonneg_right (Rat.natCast_le_natCast.mpr z) (Rat.le_of_lt hp)
      rw [ha, hb] at this
      exact absurd h (Rat.not_lt.mpr this)
    rw [Int.compare_eq_lt.mpr (by omega)]
  · have h1 : A ≤ B := Rat.natCast_le_natCast.mp (q_cancel hp (by rw [ha, hb, h]; exact Rat.le_refl))
    have h2 : B ≤ A := Rat.natCast_le_natCast.mp (q_cancel hp (by rw [ha, hb, h]; exact Rat.le_refl))
    rw [Int.compare_eq_eq.mpr (by omega)]
  · have : B < A := Nat.not_le.mp fun z => by
      have := Rat.mul_le_mul_of_nonneg_right (Rat.natCast_le_natCast.mpr z) (Rat.le_of_lt hp)
      rw [ha, hb] at this
      exact absurd h (Rat.not_lt.mpr this)
    rw [Int.compare_eq_gt.mpr (by omega)]
theorem cmp_ge {x y : UInt64} {V W : Rat} {o} (hx : isV (D64 x) V) (hy : isV (D64 y) W) : (Op.cmpValue (FP.dcmp x y) o < 0 ↔ V < W) ∧ (0 < Op.cmpValue (FP.dcmp x y) o ↔ W < V) ∧ (Op.cmpValue (FP.dcmp x y) o = 0 ↔ V = W) := by
  obtain ⟨h1, h2, h3⟩ := ord_v hx hy
  have e : FP.dcmp x y = FP.Core.order (D64 x) (D64 y) := rfl
  rw [e]
  rcases (show V < W ∨ V = W ∨ W < V by grind) with h | h | h
  · rw [h1 h, show Op.cmpValue (some .lt) o = -1 from rfl]
    refine ⟨⟨fun _ => h, fun _ => by decide⟩, ⟨fun z => absurd z (by decide), fun z => by grind⟩, ⟨fun z => absurd z (by decide), fun z => by grind⟩⟩
  · rw [h2 h, show Op.cmpValue (some .eq) o = 0 from rfl]
    refine ⟨⟨fun z => absurd z (by decide), fun z => by grind⟩, ⟨fun z => absurd z (by decide), fun z => by grind⟩, ⟨fun _ => h, fun _ => by decide⟩⟩
  · rw [h3 h, show Op.cmpValue (some .gt) o = 1 from rfl]
    refine ⟨⟨fun z => absurd z (by decide), fun z => by grind⟩, ⟨fun _ => h, fun _ => by decide⟩, ⟨fun z => absurd z (by decide), fun z => by grind⟩⟩
end NR
