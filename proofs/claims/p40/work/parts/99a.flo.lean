/-! FLOATS: data, encodings, rounding -/
section FLO
theorem q_lt_le {a b c : Rat} (h : a < b) (k : b ≤ c) : a < c := by grind
theorem q_cancel {a b c : Rat} (h : 0 < c) (k : a * c ≤ b * c) : a ≤ b := Rat.not_lt.mp fun z => by
  have := Rat.mul_lt_mul_of_pos_right z h
  grind
def p2 (z : Int) : Rat := (2 : Rat) ^ z
theorem p2_pos (z : Int) : 0 < p2 z := Rat.zpow_pos (by decide)
theorem p2_add (a b : Int) : p2 (a + b) = p2 a * p2 b := Rat.zpow_add (by decide) a b
theorem p2_nat (n : Nat) : p2 (n : Int) = ((2 ^ n : Nat) : Rat) := by
  unfold p2
  rw [Rat.zpow_natCast]
  induction n with
  | zero => rfl
  | succ n ih => rw [Rat.pow_succ, ih, Nat.pow_succ, Rat.natCast_mul]; rfl
theorem p2_0 : p2 0 = 1 := Rat.zpow_zero 2
theorem p2_1 : p2 1 = 2 := Rat.zpow_one 2
theorem p2_s (z : Int) : p2 (z + 1) = 2 * p2 z := by rw [p2_add, p2_1]; grind
theorem p2_le {a b : Int} (h : a ≤ b) : p2 a ≤ p2 b := by
  have e : b = a + ((b - a).toNat : Int) := by omega
  have h0 := p2_pos a
  have h1 : (1 : Rat) ≤ ((2 ^ (b - a).toNat : Nat) : Rat) := by
    have := Nat.one_le_two_pow (n := (b - a).toNat)
    have h2 := (Rat.natCast_le_natCast (a := 1) (b := 2 ^ (b - a).toNat)).mpr this
    exact h2
  rw [e, p2_add, p2_nat]
  have := Rat.mul_le_mul_of_nonneg_left h1 (Rat.le_of_lt h0)
  rw [Rat.mul_one] at this
  exact this
theorem p2_ltz {a b : Int} (h : p2 a < p2 b) : a < b := Classical.byContradiction fun z => by
  have := p2_le (a := b) (b := a) (by omega)
  exact absurd h (Rat.not_lt.mpr this)
theorem p2_lez {a b : Int} (h : p2 a ≤ p2 b) : a ≤ b := Classical.byContradiction fun z => by
  have h2 := p2_le (a := b + 1) (b := a) (by omega)
  rw [p2_s] at h2
  have := p2_pos b
  grind
/-- a power with a whole exponent as a fraction of naturals -/
theorem p2_fr (z : Int) : p2 z * ((2 ^ (-z).toNat : Nat) : Rat) = ((2 ^ z.toNat : Nat) : Rat) := by
  rw [← p2_nat, ← p2_nat, ← p2_add]
  congr 1
  omega
theorem nat_pos_q {n : Nat} (h : 0 < n) : (0 : Rat) < (n : Rat) := Rat.natCast_pos.mpr h
theorem lead_if {num den : Nat} (k : Int) : den * 2 ^ k.toNat ≤ num * 2 ^ (-k).toNat ↔ p2 k * (den : Rat) ≤ (num : Rat) := by
  have hp : (0 : Rat) < ((2 ^ (-k).toNat : Nat) : Rat) := nat_pos_q (Nat.two_pow_pos _)
  have e := p2_fr k
  rw [← Rat.natCast_le_natCast, Rat.natCast_mul, Rat.natCast_mul, ← e]
  constructor
  · intro h
    refine q_cancel hp ?_
    grind
  · intro h
    have := Rat.mul_le_mul_of_nonneg_right h (Rat.le_of_lt hp)
    grind
theorem lead_spec {num den : Nat} (hn : 0 < num) (hd : 0 < den) : p2 (FP.Core.leading num den) * (den : Rat) ≤ (num : Rat) ∧ (num : Rat) < p2 (FP.Core.leading num den + 1) * (den : Rat) := by
  have a1 : ((2 ^ num.log2 : Nat) : Rat) ≤ (num : Rat) := Rat.natCast_le_natCast.mpr (Nat.log2_self_le (by omega))
  have a2 : (num : Rat) < ((2 ^ (num.log2 + 1) : Nat) : Rat) := Rat.natCast_lt_natCast.mpr Nat.lt_log2_self
  have b1 : ((2 ^ den.log2 : Nat) : Rat) ≤ (den : Rat) := Rat.natCast_le_natCast.mpr (Nat.log2_self_le (by omega))
  have b2 : (den : Rat) < ((2 ^ (den.log2 + 1) : Nat) : Rat) := Rat.natCast_lt_natCast.mpr Nat.lt_log2_self
  rw [← p2_nat] at a1 a2 b1 b2
  have hk : ∀ k : Int, k = (num.log2 : Int) - (den.log2 : Int) → (num : Rat) < p2 (k + 1) * (den : Rat) ∧ p2 (k - 1) * (den : Rat) < (num : Rat) := by
    intro k e
    constructor
    · refine q_lt_le a2 ?_
      rw [show ((num.log2 + 1 : Nat) : Int) = (k + 1) + (den.log2 : Int) by omega, p2_add]
      exact Rat.mul_le_mul_of_nonneg_left b1 (Rat.le_of_lt (p2_pos _))
    · refine q_lt_le ?_ a1
      rw [show ((num.log2 : Nat) : Int) = (k - 1) + ((den.log2 + 1 : Nat) : Int) by omega, p2_add]
      exact Rat.mul_lt_mul_of_pos_left b2 (p2_pos _)
  unfold FP.Core.leading
  obtain ⟨h1, h2⟩ := hk _ rfl
  dsimp only
  split
  · rename_i c
    exact ⟨(lead_if _).mp c, h1⟩
  · rename_i c
    refine ⟨Rat.le_of_lt h2, ?_⟩
    have := fun y => c ((lead_if _).mpr y)
    rw [show ((num.log2 : Int) - (den.log2 : Int) - 1 + 1) = (num.log2 : Int) - (den.log2 : Int) by omega]
    exact Rat.not_le.mp this
theorem near_le {a b N : Nat} (hb : 0 < b) (h : a ≤ N * b) : FP.Core.nearest a b ≤ N := by
  unfold FP.Core.nearest
  have h1 := Nat.div_add_mod a b
  have h2 := Nat.mod_lt a hb
  have h3 : a / b ≤ N := Nat.div_le_of_le_mul (by rw [Nat.mul_comm]; exact h)
  by_cases c : a % b = 0
  · rw [c]
    rw [if_pos (by omega)]
    exact h3
  · have h4 : a / b < N := by
      apply Nat.lt_of_le_of_ne h3
      intro e
      rw [e, Nat.mul_comm] at h1
      omega
    split
    · exact h3
    · split
      · omega
      · have := Nat.mod_lt (a / b) (y := 2) (by omega)
        omega
theorem near_ge {a b N : Nat} (hb : 0 < b) (h : N * b ≤ a) : N ≤ FP.Core.nearest a b := by
  have h3 : N ≤ a / b := (Nat.le_div_iff_mul_le hb).mpr h
  unfold FP.Core.nearest
  split
  · exact h3
  · split <;> omega
theorem near_err {a b : Nat} (hb : 0 < b) : 2 * (FP.Core.nearest a b * b) ≤ 2 * a + b ∧ 2 * a ≤ 2 * (FP.Core.nearest a b * b) + b := by
  have h1 := Nat.div_add_mod a b
  have h2 := Nat.mod_lt a hb
  unfold FP.Core.nearest
  rw [Nat.mul_comm] at h1
  split
  · omega
  · split
    · rw [Nat.add_mul]; omega
    · have h3 : a / b % 2 = 0 ∨ a / b % 2 = 1 := by omega
      rcases h3 with e | e <;> rw [e] <;> rw [Nat.add_mul] <;> omega
theorem near_k {a b k : Nat} (hk : 0 < k) : FP.Core.nearest (a * k) (b * k) = FP.Core.nearest a b := by
  unfold FP.Core.nearest
  rw [Nat.mul_mod_mul_right, Nat.mul_div_mul_right _ _ hk]
  have e1 : (2 * (a % b * k) < b * k) ↔ (2 * (a % b) < b) := by rw [← Nat.mul_assoc]; exact Nat.mul_lt_mul_right hk
  have e2 : (b * k < 2 * (a % b * k)) ↔ (b < 2 * (a % b)) := by rw [← Nat.mul_assoc]; exact Nat.mul_lt_mul_right hk
  simp only [e1, e2]
theorem near_ratio {a b c d : Nat} (hb : 0 < b) (hd : 0 < d) (h : a * d = c * b) : FP.Core.nearest a b = FP.Core.nearest c d := by
  rw [← near_k (a := a) (b := b) hd, ← near_k (a := c) (b := d) hb, h, Nat.mul_comm b d]
/-- a format as it must be -/
def OkF (f : FP.Core.Fmt) : Prop := f.qmin ≤ f.qmax ∧ f.qmax - f.qmin + 3 = (f.exps : Int) ∧ 2 * f.tails = 2 ^ f.p ∧ 0 < 2 ^ (f.p - 2) ∧ 2 ^ (f.p - 2) < f.tails ∧ 1 ≤ f.p ∧ f.tails = 2 ^ (f.p - 1)
theorem ok32 : OkF FP.Core.b32 := by unfold OkF; decide
theorem ok64 : OkF FP.Core.b64 := by unfold OkF; decide
theorem asm_T {f : FP.Core.Fmt} {s : Bool} {e t : Nat} (ht : t < f.tails) : FP.Core.fieldT f (FP.Core.assemble f s e t) = t := by
  unfold FP.Core.fieldT FP.Core.assemble
  rw [Nat.add_comm, Nat.add_mul_mod_self_right, Nat.mod_eq_of_lt ht]
theorem asm_d {f : FP.Core.Fmt} {s : Bool} {e t : Nat} (ht : t < f.tails) : FP.Core.assemble f s e t / f.tails = s.toNat * f.exps + e := by
  unfold FP.Core.assemble
  rw [Nat.add_comm, Nat.add_mul_div_right _ _ (by omega), Nat.div_eq_of_lt ht, Nat.zero_add]
theorem asm_E {f : FP.Core.Fmt} {s : Bool} {e t : Nat} (ht : t < f.tails) (he : e < f.exps) : FP.Core.fieldE f (FP.Core.assemble f s e t) = e := by
  unfold FP.Core.fieldE
  rw [asm_d ht, Nat.add_comm, Nat.add_mul_mod_self_right, Nat.mod_eq_of_lt he]
theorem asm_S {f : FP.Core.Fmt} {s : Bool} {e t : Nat} (ht : t < f.tails) (he : e < f.exps) : FP.Core.fieldS f (FP.Core.assemble f s e t) = s := by
  unfold FP.Core.fieldS
  rw [asm_d ht, Nat.add_comm, Nat.add_mul_div_right _ _ (by omega), Nat.div_eq_of_lt he, Nat.zero_add]
  cases s <;> rfl
theorem dec_enc {f : FP.Core.Fmt} {d : FP.Core.Datum} (hf : OkF f) (h : FP.Core.fits f d) : FP.Core.decode f (FP.Core.encode f d) = d := by
  obtain ⟨f1, f2, f3, f4, f5, f6, f7⟩ := hf
  cases d with
  | nan =>
    unfold FP.Core.decode FP.Core.encode
    dsimp only
    rw [asm_T f5, asm_E f5 (by omega)]
    rw [if_pos rfl, if_neg (by omega)]
  | inf s =>
    unfold FP.Core.decode FP.Core.encode
    dsimp only
    rw [asm_T (by omega), asm_E (by omega) (by omega), asm_S (by omega) (by omega), if_pos rfl, if_pos rfl]
  | fin s c q =>
    obtain ⟨h1, h2, h3, h4⟩ := h
    by_cases hc : c < f.tails
    · rw [show FP.Core.encode f (.fin s c q) = FP.Core.assemble f s 0 c by unfold FP.Core.encode; dsimp only; rw [if_pos hc]]
      unfold FP.Core.decode
      rw [asm_T hc, asm_E hc (by omega), asm_S hc (by omega), if_neg (by omega), if_pos rfl]
      have : q = f.qmin := by omega
      rw [this]
    · rw [show FP.Core.encode f (.fin s c q) = FP.Core.assemble f s ((q - f.qmin).toNat + 1) (c - f.tails) by unfold FP.Core.encode; dsimp only; rw [if_neg hc]]
      unfold FP.Core.decode
      have ht : c - f.tails < f.tails := by omega
      have he : (q - f.qmin).toNat + 1 < f.exps := by omega
      rw [asm_T ht, asm_E ht he, asm_S ht he, if_neg (by omega), if_neg (by omega)]
      rw [show f.tails + (c - f.tails) = c by omega, show f.qmin + (((q - f.qmin).toNat + 1 : Nat) - 1 : Int) = q by omega]
theorem enc_lt {f : FP.Core.Fmt} {d : FP.Core.Datum} (hf : OkF f) (h : FP.Core.fits f d) : FP.Core.encode f d < 2 * f.exps * f.tails := by
  obtain ⟨f1, f2, f3, f4, f5, f6, f7⟩ := hf
  have key : ∀ (s : Bool) (e t : Nat), e < f.exps → t < f.tails → FP.Core.assemble f s e t < 2 * f.exps * f.tails := by
    intro s e t he ht
    unfold FP.Core.assemble
    have h1 : s.toNat * f.exps + e + 1 ≤ 2 * f.exps := by cases s <;> simp <;> omega
    have h2 := Nat.mul_le_mul_right f.tails h1
    rw [Nat.add_mul (s.toNat * f.exps + e) 1] at h2
    omega
  cases d with
  | nan => exact key _ _ _ (by omega) f5
  | inf s => exact key _ _ _ (by omega) (by omega)
  | fin s c q =>
    obtain ⟨h1, h2, h3, h4⟩ := h
    unfold FP.Core.encode
    dsimp only
    split
    · exact key _ _ _ (by omega) (by omega)
    · exact key _ _ _ (by omega) (by omega)
theorem fits_settle {f : FP.Core.Fmt} {s : Bool} {c : Nat} {q : Int} (hf : OkF f) (hq : f.qmin ≤ q) (h : q = f.qmin ∨ f.tails ≤ c) : FP.Core.fits f (FP.Core.settle f s c q) := by
  obtain ⟨f1, f2, f3, f4, f5, f6, f7⟩ := hf
  unfold FP.Core.settle FP.Core.bound
  split
  · split
    · exact ⟨by assumption, hq, by assumption, h⟩
    · exact trivial
  · split
    · exact ⟨by omega, by omega, by assumption, Or.inr (Nat.le_refl _)⟩
    · exact trivial
theorem un_pos {den : Nat} {e q : Int} (h : 0 < den) : 0 < FP.Core.unitsDen den e q := Nat.mul_pos h (Nat.two_pow_pos _)
/-- what is measured, in units -/
theorem un_eq (num den : Nat) (e q : Int) : (FP.Core.unitsNum num e q : Rat) * (den : Rat) = (FP.Core.unitsDen den e q : Rat) * ((num : Rat) * p2 (e - q)) := by
  unfold FP.Core.unitsNum FP.Core.unitsDen
  have h := p2_fr (e - q)
  rw [show (-(e - q)).toNat = (q - e).toNat by omega] at h
  rw [Rat.natCast_mul, Rat.natCast_mul, ← h]
  grind
theorem rr_form {f : FP.Core.Fmt} {s : Bool} {num den : Nat} {e : Int} (hf : OkF f) (hn : 0 < num) (hd : 0 < den) : ∃ (C : Nat) (q : Int), FP.Core.roundRatio f s num den e = FP.Core.settle f s C q ∧ q = FP.Core.quantum f num den e ∧ C = FP.Core.nearest (FP.Core.unitsNum num e q) (FP.Core.unitsDen den e q) ∧ C ≤ 2 ^ f.p ∧ (q = f.qmin ∨ f.tails ≤ C) ∧ f.qmin ≤ q := by
  obtain ⟨f1, f2, f3, f4, f5, f6, f7⟩ := hf
  obtain ⟨l1, l2⟩ := lead_spec hn hd
  have hdq := nat_pos_q hd
  refine ⟨_, FP.Core.quantum f num den e, by rw [FP.Core.roundRatio, if_neg (by omega)]; rfl, rfl, rfl, ?_, ?_, ?_⟩
  · apply near_le (un_pos hd)
    rw [← Rat.natCast_le_natCast, Rat.natCast_mul]
    refine q_cancel hdq ?_
    rw [un_eq]
    have hu := nat_pos_q (un_pos (e := e) (q := FP.Core.quantum f num den e) hd)
    have : (num : Rat) * p2 (e - FP.Core.quantum f num den e) ≤ ((2 ^ f.p : Nat) : Rat) * (den : Rat) := by
      rw [← p2_nat]
      have h1 : p2 (FP.Core.leading num den + 1) * p2 (e - FP.Core.quantum f num den e) ≤ p2 (f.p : Int) := by
        rw [← p2_add]
        refine p2_le ?_
        unfold FP.Core.quantum
        omega
      have h2 := Rat.mul_le_mul_of_nonneg_right (Rat.le_of_lt l2) (Rat.le_of_lt (p2_pos (e - FP.Core.quantum f num den e)))
      have h3 := Rat.mul_le_mul_of_nonneg_right h1 (Rat.le_of_lt hdq)
      grind
    have := Rat.mul_le_mul_of_nonneg_left this (Rat.le_of_lt hu)
    grind
  · by_cases hq : FP.Core.quantum f num den e = f.qmin
    · exact Or.inl hq
    · right
      apply near_ge (un_pos hd)
      rw [← Rat.natCast_le_natCast, Rat.natCast_mul]
      refine q_cancel hdq ?_
      rw [un_eq]
      have hu := nat_pos_q (un_pos (e := e) (q := FP.Core.quantum f num den e) hd)
      have : ((f.tails : Nat) : Rat) * (den : Rat) ≤ (num : Rat) * p2 (e - FP.Core.quantum f num den e) := by
        rw [f7, ← p2_nat]
        have h1 : p2 ((f.p - 1 : Nat) : Int) = p2 (FP.Core.leading num den) * p2 (e - FP.Core.quantum f num den e) := by
          rw [← p2_add]
          congr 1
          unfold FP.Core.quantum at hq ⊢
          omega
        rw [h1]
        have h2 := Rat.mul_le_mul_of_nonneg_right l1 (Rat.le_of_lt (p2_pos (e - FP.Core.quantum f num den e)))
        grind
      have := Rat.mul_le_mul_of_nonneg_left this (Rat.le_of_lt hu)
      grind
  · unfold FP.Core.quantum; omega
theorem fits_rr {f : FP.Core.Fmt} {s : Bool} {num den : Nat} {e : Int} (hf : OkF f) (hd : 0 < den) : FP.Core.fits f (FP.Core.roundRatio f s num den e) := by
  by_cases hn : 0 < num
  · obtain ⟨C, q, h1, -, -, -, h5, h6⟩ := rr_form (s := s) (e := e) hf hn hd
    rw [h1]
    exact fits_settle hf h6 h5
  · rw [FP.Core.roundRatio, if_pos (by omega)]
    obtain ⟨f1, f2, f3, f4, f5, f6, f7⟩ := hf
    exact ⟨Nat.two_pow_pos _, Int.le_refl _, f1, Or.inl rfl⟩
theorem fits_round {f : FP.Core.Fmt} (hf : OkF f) (d : FP.Core.Datum) : FP.Core.fits f (FP.Core.round f d) := by
  cases d with
  | nan => exact trivial
  | inf s => exact trivial
  | fin s c q => exact fits_rr hf (by decide)
theorem fits_quot {f : FP.Core.Fmt} (hf : OkF f) (d e : FP.Core.Datum) : FP.Core.fits f (FP.Core.quotient f d e) := by
  have f1 := hf.1
  cases d <;> cases e <;> unfold FP.Core.quotient <;> first | exact trivial | skip
  · exact ⟨Nat.two_pow_pos _, Int.le_refl _, f1, Or.inl rfl⟩
  · dsimp only
    split
    · split <;> exact trivial
    · exact fits_rr hf (by omega)
/-! what the operations are, as data -/
abbrev D32 (x : UInt32) : FP.Core.Datum := FP.Core.decode FP.Core.b32 x.toNat
abbrev D64 (x : UInt64) : FP.Core.Datum := FP.Core.decode FP.Core.b64 x.toNat
theorem t32 {d : FP.Core.Datum} (h : FP.Core.fits FP.Core.b32 d) : (UInt32.ofNat (FP.Core.encode FP.Core.b32 d)).toNat = FP.Core.encode FP.Core.b32 d := by
  have := enc_lt ok32 h
  rw [UInt32.toNat_ofNat']
  exact Nat.mod_eq_of_lt this
theorem t64 {d : FP.Core.Datum} (h : FP.Core.fits FP.Core.b64 d) : (UInt64.ofNat (FP.Core.encode FP.Core.b64 d)).toNat = FP.Core.encode FP.Core.b64 d := by
  have := enc_lt ok64 h
  rw [UInt64.toNat_ofNat']
  exact Nat.mod_eq_of_lt this
theorem d32 {d : FP.Core.Datum} (h : FP.Core.fits FP.Core.b32 d) : D32 (UInt32.ofNat (FP.Core.encode FP.Core.b32 d)) = d := by
  unfold D32; rw [t32 h, dec_enc ok32 h]
theorem d64 {d : FP.Core.Datum} (h : FP.Core.fits FP.Core.b64 d) : D64 (UInt64.ofNat (FP.Core.encode FP.Core.b64 d)) = d := by
  unfold D64; rw [t64 h, dec_enc ok64 h]
theorem D_fdiv (a b : UInt32) : D32 (FP.fdiv a b) = FP.Core.quotient FP.Core.b32 (D32 a) (D32 b) := d32 (fits_quot ok32 _ _)
theorem D_ddiv (a b : UInt64) : D64 (FP.ddiv a b) = FP.Core.quotient FP.Core.b64 (D64 a) (D64 b) := d64 (fits_quot ok64 _ _)
theorem D_dmul (a b : UInt64) : D64 (FP.dmul a b) = FP.Core.round FP.Core.b64 (FP.Core.exactProduct (D64 a) (D64 b)) := d64 (fits_round ok64 _)
theorem D_dadd (a b : UInt64) : D64 (FP.dadd a b) = FP.Core.round FP.Core.b64 (FP.Core.exactSum (D64 a) (D64 b)) := d64 (fits_round ok64 _)
theorem D_dsub (a b : UInt64) : D64 (FP.dsub a b) = FP.Core.round FP.Core.b64 (FP.Core.exactSum (D64 a) (FP.Core.negate (D64 b))) := d64 (fits_round ok64 _)
theorem D_l2f (i : Int64) : D32 (FP.l2f i) = FP.Core.round FP.Core.b32 (FP.Core.ofInt i.toInt) := d32 (fits_round ok32 _)
theorem D_l2d (i : Int64) : D64 (FP.l2d i) = FP.Core.round FP.Core.b64 (FP.Core.ofInt i.toInt) := d64 (fits_round ok64 _)
theorem D_i2d (i : Int32) : D64 (FP.i2d i) = FP.Core.round FP.Core.b64 (FP.Core.ofInt i.toInt) := d64 (fits_round ok64 _)
theorem D_frem (a b : UInt32) : D32 (FP.frem a b) = FP.Core.round FP.Core.b32 (FP.Core.exactRemainder (D32 a) (D32 b)) := d32 (fits_round ok32 _)
theorem nn32 {a : UInt32} (h : D32 a ≠ .nan) : FP.Core.fIsNaN a = false := by
  unfold FP.Core.fIsNaN FP.Core.isNaN
  exact decide_eq_false h
theorem nn64 {a : UInt64} (h : D64 a ≠ .nan) : FP.Core.dIsNaN a = false := by
  unfold FP.Core.dIsNaN FP.Core.isNaN
  exact decide_eq_false h
theorem D_f2d {a : UInt32} (h : D32 a ≠ .nan) : D64 (FP.f2d a) = FP.Core.round FP.Core.b64 (D32 a) := by
  have : FP.f2d a = UInt64.ofNat (FP.Core.encode FP.Core.b64 (FP.Core.round FP.Core.b64 (FP.Core.decode FP.Core.b32 a.toNat))) := by
    unfold FP.f2d
    rw [nn32 h]
    rfl
  rw [this]
  exact d64 (fits_round ok64 _)
theorem D_d2f {a : UInt64} (h : D64 a ≠ .nan) : D32 (FP.d2f a) = FP.Core.round FP.Core.b32 (D64 a) := by
  have : FP.d2f a = UInt32.ofNat (FP.Core.encode FP.Core.b32 (FP.Core.round FP.Core.b32 (FP.Core.decode FP.Core.b64 a.toNat))) := by
    unfold FP.d2f
    rw [nn64 h]
    rfl
  rw [this]
  exact d32 (fits_round ok32 _)
theorem frem_enc (a b : UInt32) : FP.frem a b = UInt32.ofNat (FP.Core.encode FP.Core.b32 (FP.Core.round FP.Core.b32 (FP.Core.exactRemainder (D32 a) (D32 b)))) := rfl
theorem d2f_enc {a : UInt64} (h : D64 a ≠ .nan) : FP.d2f a = UInt32.ofNat (FP.Core.encode FP.Core.b32 (FP.Core.round FP.Core.b32 (D64 a))) := by
  unfold FP.d2f
  rw [nn64 h]
  rfl
theorem vf32 {r : UInt32} (h : D32 r ≠ .nan) : r &&& 0x7fffffff ≤ 0x7f800000 := by
  rw [UInt32.le_iff_toNat_le, UInt32.toNat_and]
  have e : (0x7fffffff : UInt32).toNat = 2 ^ 31 - 1 := rfl
  rw [e, Nat.and_two_pow_sub_one_eq_mod]
  have e2 : (0x7f800000 : UInt32).toNat = 2139095040 := rfl
  rw [e2]
  unfold D32 FP.Core.decode at h
  split at h
  · rename_i c
    split at h
    · rename_i c2
      have c' : r.toNat / 8388608 % 256 = 255 := c
      have c2' : r.toNat % 8388608 = 0 := c2
      omega
    · exact absurd rfl h
  · rename_i c
    have c' : ¬ r.toNat / 8388608 % 256 = 255 := c
    omega
theorem vf64 {r : UInt64} (h : D64 r ≠ .nan) : r &&& 0x7fffffffffffffff ≤ 0x7ff0000000000000 := by
  rw [UInt64.le_iff_toNat_le, UInt64.toNat_and]
  have e : (0x7fffffffffffffff : UInt64).toNat = 2 ^ 63 - 1 := rfl
  rw [e, Nat.and_two_pow_sub_one_eq_mod]
  have e2 : (0x7ff0000000000000 : UInt64).toNat = 9218868437227405312 := rfl
  rw [e2]
  unfold D64 FP.Core.decode at h
  split at h
  · rename_i c
    split at h
    · rename_i c2
      have c' : r.toNat / 4503599627370496 % 2048 = 2047 := c
      have c2' : r.toNat % 4503599627370496 = 0 := c2
      omega
    · exact absurd rfl h
  · rename_i c
    have c' : ¬ r.toNat / 4503599627370496 % 2048 = 2047 := c
    omega
/-! rounding, by value -/
/-- a finite datum of sign + with this value -/
def isV (d : FP.Core.Datum) (v : Rat) : Prop := ∃ (c : Nat) (q : Int), d = .fin false c q ∧ (c : Rat) * p2 q = v
theorem isV.nn {d : FP.Core.Datum} {v : Rat} (h : isV d v) : d ≠ .nan := by
  obtain ⟨c, q, e, -⟩ := h
  rw [e]; exact fun z => by cases z
theorem lead_uniq {num den : Nat} {k : Int} (hn : 0 < num) (hd : 0 < den) (h1 : p2 k * (den : Rat) ≤ (num : Rat)) (h2 : (num : Rat) < p2 (k + 1) * (den : Rat)) : FP.Core.leading num den = k := by
  obtain ⟨l1, l2⟩ := lead_spec hn hd
  have hdq := nat_pos_q hd
  have a : k < FP.Core.leading num den + 1 := p2_ltz (Rat.not_le.mp fun z => by
    have := Rat.mul_le_mul_of_nonneg_right z (Rat.le_of_lt hdq)
    grind)
  have b : FP.Core.leading num den < k + 1 := p2_ltz (Rat.not_le.mp fun z => by
    have := Rat.mul_le_mul_of_nonneg_right z (Rat.le_of_lt hdq)
    grind)
  omega
theorem zero_val {c : Nat} {q : Int} (h : (c : Rat) * p2 q = 0) : c = 0 := Classical.byContradiction fun z => by
  have := Rat.mul_pos (nat_pos_q (n := c) (by omega)) (p2_pos q)
  rw [h] at this
  exact absurd this Rat.lt_irrefl
theorem lead_val {c d : Nat} {q r : Int} (hc : 0 < c) (h : (c : Rat) * p2 q = (d : Rat) * p2 r) : FP.Core.leading c 1 + q = FP.Core.leading d 1 + r := by
  have hd : 0 < d := Nat.pos_of_ne_zero fun z => by
    rw [z] at h
    have e : ((0 : Nat) : Rat) = 0 := rfl
    rw [e, Rat.zero_mul] at h
    have := zero_val h
    omega
  obtain ⟨l1, l2⟩ := lead_spec (den := 1) hc (by decide)
  have k : FP.Core.leading d 1 = FP.Core.leading c 1 + q - r := by
    have hp := p2_pos (-r)
    have e1 : p2 (FP.Core.leading c 1 + q - r) = p2 (FP.Core.leading c 1) * p2 q * p2 (-r) := by rw [← p2_add, ← p2_add]; congr 1
    have e2 : p2 (FP.Core.leading c 1 + q - r + 1) = p2 (FP.Core.leading c 1 + 1) * p2 q * p2 (-r) := by rw [← p2_add, ← p2_add]; congr 1; omega
    have e3 : (d : Rat) = (c : Rat) * p2 q * p2 (-r) := by
      rw [h, Rat.mul_assoc, ← p2_add, show r + -r = 0 by omega, p2_0, Rat.mul_one]
    have hq := p2_pos q
    have hqr := Rat.mul_pos hq hp
    apply lead_uniq hd (by decide)
    · rw [e1, e3]
      have := Rat.mul_le_mul_of_nonneg_right l1 (Rat.le_of_lt hqr)
      grind
    · rw [e2, e3]
      have := Rat.mul_lt_mul_of_pos_right l2 hqr
      grind
  omega
theorem round_val {f : FP.Core.Fmt} {s : Bool} {c d : Nat} {q r : Int} (h : (c : Rat) * p2 q = (d : Rat) * p2 r) : FP.Core.round f (.fin s c q) = FP.Core.round f (.fin s d r) := by
  by_cases hc : 0 < c
  · have hd : 0 < d := Nat.pos_of_ne_zero fun z => by
      rw [z] at h
      have e : ((0 : Nat) : Rat) = 0 := rfl
      rw [e, Rat.zero_mul] at h
      have := zero_val h
      omega
    unfold FP.Core.round FP.Core.roundRatio
    dsimp only
    rw [if_neg (by omega), if_neg (by omega)]
    have e : FP.Core.quantum f c 1 q = FP.Core.quantum f d 1 r := by
      unfold FP.Core.quantum
      rw [lead_val hc h]
    rw [e]
    unfold FP.Core.roundAt
    congr 1
    apply near_ratio (un_pos (by decide)) (un_pos (by decide))
    rw [← Rat.natCast_inj, Rat.natCast_mul, Rat.natCast_mul]
    have u1 := un_eq c 1 q (FP.Core.quantum f d 1 r)
    have u2 := un_eq d 1 r (FP.Core.quantum f d 1 r)
    have e1 : ((1 : Nat) : Rat) = 1 := rfl
    rw [e1, Rat.mul_one] at u1 u2
    rw [u1, u2]
    have e2 : (c : Rat) * p2 (q - FP.Core.quantum f d 1 r) = (d : Rat) * p2 (r - FP.Core.quantum f d 1 r) := by
      rw [Int.sub_eq_add_neg, Int.sub_eq_add_neg, p2_add, p2_add]
      grind
    rw [e2]
    grind
  · have c0 : c = 0 := by omega
    have d0 : d = 0 := by
      rw [c0] at h
      have e : ((0 : Nat) : Rat) = 0 := rfl
      rw [e, Rat.zero_mul] at h
      exact zero_val h.symm
    rw [c0, d0]
    rfl
/-- what needs no rounding -/
theorem round_exact {f : FP.Core.Fmt} {c : Nat} {q : Int} (hf : OkF f) (hc : c < 2 ^ f.p) (h1 : f.qmin ≤ q) (h2 : q ≤ f.qmax) : isV (FP.Core.round f (.fin false c q)) ((c : Rat) * p2 q) := by
  have hf' := hf
  obtain ⟨f1, f2, f3, f4, f5, f6, f7⟩ := hf
  by_cases c0 : 0 < c
  · obtain ⟨l1, l2⟩ := lead_spec (den := 1) c0 (by decide)
    have hl : FP.Core.leading c 1 < f.p := p2_ltz (by
      have e1 : ((1 : Nat) : Rat) = 1 := rfl
      rw [e1, Rat.mul_one] at l1
      rw [p2_nat]
      have := Rat.natCast_lt_natCast.mpr hc
      grind)
    have hq : FP.Core.quantum f c 1 q ≤ q := by unfold FP.Core.quantum; omega
    have hq2 : f.qmin ≤ FP.Core.quantum f c 1 q := by unfold FP.Core.quantum; omega
    have hN : FP.Core.nearest (FP.Core.unitsNum c q (FP.Core.quantum f c 1 q)) (FP.Core.unitsDen 1 q (FP.Core.quantum f c 1 q)) = c * 2 ^ (q - FP.Core.quantum f c 1 q).toNat := by
      unfold FP.Core.unitsNum FP.Core.unitsDen
      rw [show (FP.Core.quantum f c 1 q - q).toNat = 0 by omega]
      exact Nat.le_antisymm (near_le (by decide) (by omega)) (near_ge (by decide) (by omega))
    have hv : ((c * 2 ^ (q - FP.Core.quantum f c 1 q).toNat : Nat) : Rat) * p2 (FP.Core.quantum f c 1 q) = (c : Rat) * p2 q := by
      rw [Rat.natCast_mul, ← p2_nat, Rat.mul_assoc, ← p2_add]
      congr 2
      omega
    obtain ⟨C, Q, g1, g2, g3, g4, g5, g6⟩ := rr_form (s := false) (num := c) (den := 1) (e := q) hf' c0 (by decide)
    subst g2
    rw [hN] at g3
    have hlt : C < 2 ^ f.p := by
      rw [g3, ← Rat.natCast_lt_natCast, Rat.natCast_mul, ← p2_nat, ← p2_nat]
      have e1 : ((1 : Nat) : Rat) = 1 := rfl
      rw [e1, Rat.mul_one] at l2
      have h3 := p2_pos (((q - FP.Core.quantum f c 1 q).toNat : Nat) : Int)
      have h4 : p2 (FP.Core.leading c 1 + 1) * p2 (((q - FP.Core.quantum f c 1 q).toNat : Nat) : Int) ≤ p2 (f.p : Int) := by
        rw [← p2_add]
        apply p2_le
        unfold FP.Core.quantum at hq hq2 ⊢
        omega
      have := Rat.mul_lt_mul_of_pos_right l2 h3
      grind
    refine ⟨C, FP.Core.quantum f c 1 q, ?_, by rw [g3]; exact hv⟩
    show FP.Core.roundRatio f false c 1 q = _
    rw [g1]
    unfold FP.Core.settle FP.Core.bound
    rw [if_pos hlt, if_pos (by omega)]
  · have e : c = 0 := by omega
    rw [e]
    refine ⟨0, f.qmin, rfl, ?_⟩
    have e : ((0 : Nat) : Rat) = 0 := rfl
    rw [e, Rat.zero_mul, Rat.zero_mul]
/-- the result of rounding in units, when it is not too great -/
theorem rr_fin {f : FP.Core.Fmt} {num den : Nat} {e j : Int} (hf : OkF f) (hn : 0 < num) (hd : 0 < den) (hj1 : f.qmin ≤ j) (hj2 : j ≤ f.qmax) (h : (num : Rat) * p2 e ≤ p2 j * (den : Rat)) : ∃ (C : Nat) (q : Int), isV (FP.Core.roundRatio f false num den e) ((C : Rat) * p2 q) ∧ q = FP.Core.quantum f num den e ∧ C = FP.Core.nearest (FP.Core.unitsNum num e q) (FP.Core.unitsDen den e q) ∧ q ≤ j ∧ (C : Rat) * p2 q ≤ p2 j ∧ (q = f.qmin ∨ f.tails ≤ C) ∧ (q = f.qmin ∨ p2 (q + ((f.p : Int) - 1)) * (den : Rat) ≤ (num : Rat) * p2 e) := by
  obtain ⟨C, q, g1, g2, g3, g4, g5, g6⟩ := rr_form (s := false) (e := e) hf hn hd
  obtain ⟨f1, f2, f3, f4, f5, f6, f7⟩ := hf
  obtain ⟨l1, l2⟩ := lead_spec hn hd
  have hdq := nat_pos_q hd
  have hkj : FP.Core.leading num den + e ≤ j := p2_lez (by
    rw [p2_add]
    refine q_cancel hdq ?_
    have := Rat.mul_le_mul_of_nonneg_right l1 (Rat.le_of_lt (p2_pos e))
    grind)
  have hqj : q ≤ j := by rw [g2]; unfold FP.Core.quantum; omega
  have hC : C ≤ 2 ^ (j - q).toNat := by
    rw [g3]
    apply near_le (un_pos hd)
    rw [← Rat.natCast_le_natCast, Rat.natCast_mul, ← p2_nat]
    refine q_cancel hdq ?_
    rw [un_eq]
    have hu := nat_pos_q (un_pos (e := e) (q := q) hd)
    have h1 : (num : Rat) * p2 (e - q) ≤ p2 (((j - q).toNat : Nat) : Int) * (den : Rat) := by
      rw [show (((j - q).toNat : Nat) : Int) = j + -q by omega, Int.sub_eq_add_neg, p2_add, p2_add]
      have := Rat.mul_le_mul_of_nonneg_right h (Rat.le_of_lt (p2_pos (-q)))
      grind
    have := Rat.mul_le_mul_of_nonneg_left h1 (Rat.le_of_lt hu)
    grind
  have hv : (C : Rat) * p2 q ≤ p2 j := by
    have h1 := Rat.natCast_le_natCast.mpr hC
    rw [← p2_nat] at h1
    have h2 := Rat.mul_le_mul_of_nonneg_right h1 (Rat.le_of_lt (p2_pos q))
    rw [← p2_add, show (((j - q).toNat : Nat) : Int) + q = j by omega] at h2
    exact h2
  have hlow : q = f.qmin ∨ p2 (q + ((f.p : Int) - 1)) * (den : Rat) ≤ (num : Rat) * p2 e := by
    by_cases c : q = f.qmin
    · exact Or.inl c
    · right
      have e1 : q + ((f.p : Int) - 1) = FP.Core.leading num den + e := by
        rw [g2] at c ⊢
        unfold FP.Core.quantum at c ⊢
        omega
      rw [e1, p2_add]
      have := Rat.mul_le_mul_of_nonneg_right l1 (Rat.le_of_lt (p2_pos e))
      grind
  refine ⟨C, q, ?_, g2, g3, hqj, hv, g5, hlow⟩
  rw [g1]
  unfold FP.Core.settle FP.Core.bound
  by_cases c : C < 2 ^ f.p
  · rw [if_pos c, if_pos (by omega)]
    exact ⟨C, q, rfl, rfl⟩
  · rw [if_neg c]
    have ec : C = 2 ^ f.p := by omega
    have hq1 : q + 1 ≤ j := by
      have h1 : p2 ((f.p : Int) + q) ≤ p2 j := by
        rw [p2_add, p2_nat, ← ec]; exact hv
      have := p2_lez h1
      omega
    rw [if_pos (by omega)]
    refine ⟨f.tails, q + 1, rfl, ?_⟩
    rw [ec, ← f3, p2_s, Rat.natCast_mul]
    have : ((2 : Nat) : Rat) = 2 := rfl
    rw [this]
    grind
/-- and it stays above a power of two -/
theorem rr_ge {f : FP.Core.Fmt} {num den C : Nat} {e j q : Int} (hf : OkF f) (hd : 0 < den) (hj : f.qmin ≤ j) (hC : C = FP.Core.nearest (FP.Core.unitsNum num e q) (FP.Core.unitsDen den e q)) (hq : q = f.qmin ∨ f.tails ≤ C) (h : p2 j * (den : Rat) ≤ (num : Rat) * p2 e) : p2 j ≤ (C : Rat) * p2 q := by
  obtain ⟨f1, f2, f3, f4, f5, f6, f7⟩ := hf
  have hdq := nat_pos_q hd
  by_cases c : q ≤ j
  · have h0 : 2 ^ (j - q).toNat ≤ C := by
      rw [hC]
      apply near_ge (un_pos hd)
      rw [← Rat.natCast_le_natCast, Rat.natCast_mul, ← p2_nat]
      refine q_cancel hdq ?_
      rw [un_eq]
      have hu := nat_pos_q (un_pos (e := e) (q := q) hd)
      have h1 : p2 (((j - q).toNat : Nat) : Int) * (den : Rat) ≤ (num : Rat) * p2 (e - q) := by
        rw [show (((j - q).toNat : Nat) : Int) = j + -q by omega, Int.sub_eq_add_neg, p2_add, p2_add]
        have := Rat.mul_le_mul_of_nonneg_right h (Rat.le_of_lt (p2_pos (-q)))
        grind
      have := Rat.mul_le_mul_of_nonneg_left h1 (Rat.le_of_lt hu)
      grind
    have h1 := Rat.natCast_le_natCast.mpr h0
    rw [← p2_nat] at h1
    have h2 := Rat.mul_le_mul_of_nonneg_right h1 (Rat.le_of_lt (p2_pos q))
    rw [← p2_add, show (((j - q).toNat : Nat) : Int) + q = j by omega] at h2
    exact h2
  · have ht : f.tails ≤ C := by omega
    have h1 : (1 : Rat) ≤ (C : Rat) := by
      have := Rat.natCast_le_natCast.mpr (show 1 ≤ C by omega)
      exact this
    have h2 := Rat.mul_le_mul_of_nonneg_right h1 (Rat.le_of_lt (p2_pos q))
    have h3 := p2_le (a := j) (b := q) (by omega)
    grind
theorem q_alg1 {C P N c R I : Rat} (h : C * P ≤ N * (c * R)) (h3 : R * I = 1) (hI : 0 < I) : C * (P * I) ≤ N * c := by
  have h2 := Rat.mul_le_mul_of_nonneg_right h (Rat.le_of_lt hI)
  have e : N * (c * R) * I = N * c := by
    rw [Rat.mul_assoc, Rat.mul_assoc c, h3, Rat.mul_one]
  rw [e, Rat.mul_assoc] at h2
  exact h2
theorem q_alg2 {t B c A p V : Rat} (h : t * B ≤ c * A) (h1 : p * B = A) (e : c * p = V) : t * B ≤ V * B := by
  rw [← e, Rat.mul_assoc, h1]; exact h
theorem q_alg3 {t B c A p V : Rat} (h : c * A < t * B + B) (h1 : p * B = A) (e : c * p = V) (z : t + 1 ≤ V) (hb : 0 < B) : False := by
  have := Rat.mul_le_mul_of_nonneg_right z (Rat.le_of_lt hb)
  rw [← e, Rat.mul_assoc, h1] at this
  grind
theorem round_nn {f : FP.Core.Fmt} {s : Bool} {c : Nat} {q : Int} : FP.Core.round f (.fin s c q) ≠ .nan := by
  show FP.Core.roundRatio f s c 1 q ≠ _
  unfold FP.Core.roundRatio FP.Core.roundAt FP.Core.settle FP.Core.bound
  split
  · exact fun z => by cases z
  · split <;> split <;> exact fun z => by cases z
theorem sum_nn {f : FP.Core.Fmt} {d e : FP.Core.Datum} {V : Rat} (h1 : isV d V) (h2 : e ≠ .nan) : FP.Core.round f (FP.Core.exactSum d (FP.Core.negate e)) ≠ .nan := by
  obtain ⟨c, q, rfl, -⟩ := h1
  cases e with
  | nan => exact absurd rfl h2
  | inf s => exact fun z => by cases z
  | fin t d r => exact round_nn
/-- a whole number, rounded -/
theorem of_nat {f : FP.Core.Fmt} {n : Nat} {i j : Int} (hf : OkF f) (hi : f.qmin ≤ i) (hj : f.qmin ≤ j) (hj2 : j ≤ f.qmax) (h : (n : Rat) ≤ p2 j) (h2 : p2 i ≤ (n : Rat)) : ∃ V, isV (FP.Core.round f (FP.Core.ofInt (n : Int))) V ∧ V ≤ p2 j ∧ p2 i ≤ V := by
  have hn : 0 < n := Nat.pos_of_ne_zero fun z => by
    rw [z] at h2
    have := p2_pos i
    have e : ((0 : Nat) : Rat) = 0 := rfl
    grind
  have e1 : ((1 : Nat) : Rat) = 1 := rfl
  have e : FP.Core.round f (FP.Core.ofInt (n : Int)) = FP.Core.roundRatio f false n 1 0 := by
    show FP.Core.roundRatio f (decide ((n : Int) < 0)) (n : Int).natAbs 1 0 = _
    rw [decide_eq_false (by omega)]
    rfl
  obtain ⟨C, q, a1, a2, a3, a4, a5, a6, a7⟩ := rr_fin (num := n) (den := 1) (e := 0) (j := j) hf hn (by decide) hj hj2 (by rw [p2_0, e1, Rat.mul_one, Rat.mul_one]; exact h)
  refine ⟨_, by rw [e]; exact a1, a5, rr_ge (den := 1) hf (by decide) hi a3 a6 (by rw [p2_0, e1, Rat.mul_one, Rat.mul_one]; exact h2)⟩
theorem of_zero {f : FP.Core.Fmt} : isV (FP.Core.round f (FP.Core.ofInt ((0 : Nat) : Int))) 0 := ⟨0, f.qmin, rfl, by
  have e : ((0 : Nat) : Rat) = 0 := rfl
  rw [e, Rat.zero_mul]⟩
/-- the quotient of two whole numbers, rounded -/
theorem quot_v {f : FP.Core.Fmt} {n d : Nat} (hf : OkF f) (hr : f.qmin ≤ 0 ∧ 40 ≤ f.qmax) (hd : 0 < d) (hd2 : d < 2 ^ 30) (hn : n ≤ 162 * d) : ∃ V, isV (FP.Core.quotient f (FP.Core.round f (FP.Core.ofInt (n : Int))) (FP.Core.round f (FP.Core.ofInt (d : Int)))) V ∧ V ≤ p2 9 ∧ (n = 0 → V = 0) := by
  have d1 : ((2 ^ d.log2 : Nat) : Rat) ≤ (d : Rat) := Rat.natCast_le_natCast.mpr (Nat.log2_self_le (by omega))
  have d2 : (d : Rat) < ((2 ^ (d.log2 + 1) : Nat) : Rat) := Rat.natCast_lt_natCast.mpr Nat.lt_log2_self
  rw [← p2_nat] at d1 d2
  have hl : d.log2 < 30 := by
    have h1 := Nat.log2_self_le (n := d) (by omega)
    exact (Nat.pow_lt_pow_iff_right (a := 2) (by decide)).mp (by omega)
  obtain ⟨D, hD, D1, D2⟩ := of_nat (n := d) (i := (d.log2 : Int)) (j := ((d.log2 + 1 : Nat) : Int)) hf (by omega) (by omega) (by omega) (Rat.le_of_lt d2) d1
  obtain ⟨c, r, e1, e2⟩ := hD
  have hc : 0 < c := Nat.pos_of_ne_zero fun z => by
    rw [z] at e2
    have := p2_pos (d.log2 : Int)
    have e : ((0 : Nat) : Rat) = 0 := rfl
    rw [e, Rat.zero_mul] at e2
    grind
  rw [e1]
  have quo : ∀ C q, FP.Core.quotient f (.fin false C q) (.fin false c r) = FP.Core.roundRatio f false C c (q - r) := fun C q => by
    unfold FP.Core.quotient
    dsimp only
    rw [if_neg (by omega)]
    rfl
  have zero : ∀ q, isV (FP.Core.quotient f (.fin false 0 q) (.fin false c r)) 0 := fun q => by
    rw [quo]
    refine ⟨0, f.qmin, rfl, ?_⟩
    have e : ((0 : Nat) : Rat) = 0 := rfl
    rw [e, Rat.zero_mul]
  by_cases n0 : n = 0
  · rw [n0]
    exact ⟨0, zero f.qmin, Rat.le_of_lt (p2_pos 9), fun _ => rfl⟩
  · obtain ⟨N, ⟨C, q, a1, a2⟩, N1, N2⟩ := of_nat (n := n) (i := 0) (j := ((d.log2 + 9 : Nat) : Int)) hf hr.1 (by omega) (by omega) (by
      have h1 : (n : Rat) ≤ ((162 * d : Nat) : Rat) := Rat.natCast_le_natCast.mpr hn
      have h2 : ((162 * d : Nat) : Rat) ≤ ((2 ^ 8 * 2 ^ (d.log2 + 1) : Nat) : Rat) := Rat.natCast_le_natCast.mpr (by have := Nat.lt_log2_self (n := d); omega)
      rw [p2_nat, show d.log2 + 9 = 8 + (d.log2 + 1) by omega, Nat.pow_add]
      grind) (by rw [p2_0]; exact Rat.natCast_le_natCast.mpr (show 1 ≤ n by omega))
    rw [a1]
    by_cases C0 : C = 0
    · rw [C0]
      exact ⟨0, zero q, Rat.le_of_lt (p2_pos 9), fun _ => rfl⟩
    · rw [quo]
      obtain ⟨C2, q2, b1, b2, b3, b4, b5, b6, b7⟩ := rr_fin (num := C) (den := c) (e := q - r) (j := 9) hf (by omega) hc (by omega) (by omega) (by
        have h1 : (C : Rat) * p2 q ≤ p2 9 * ((c : Rat) * p2 r) := by
          rw [a2, e2]
          refine Rat.le_trans N1 ?_
          rw [show ((d.log2 + 9 : Nat) : Int) = 9 + (d.log2 : Int) by omega, p2_add]
          exact Rat.mul_le_mul_of_nonneg_left D2 (Rat.le_of_lt (p2_pos 9))
        rw [Int.sub_eq_add_neg, p2_add]
        exact q_alg1 h1 (by rw [← p2_add, show r + -r = 0 by omega, p2_0]) (p2_pos (-r)))
      exact ⟨_, b1, b5, fun z => absurd z n0⟩
/-- the whole part -/
theorem toL_v {d : FP.Core.Datum} {V : Rat} {t : Nat} (h : isV d V) (h1 : (t : Rat) ≤ V) (h2 : V < (t : Rat) + 1) (ht : t < 2 ^ 62) : FP.Core.toL d = Int64.ofInt t := by
  obtain ⟨c, q, rfl, e⟩ := h
  unfold FP.Core.toL FP.Core.toInt FP.Core.truncate FP.Core.signed
  dsimp only
  have hb : (0 : Rat) < ((2 ^ (-q).toNat : Nat) : Rat) := nat_pos_q (Nat.two_pow_pos _)
  have hq := p2_fr q
  have e2 : c * 2 ^ q.toNat / 2 ^ (-q).toNat = t := by
    apply Nat.div_eq_of_lt_le
    · rw [← Rat.natCast_le_natCast, Rat.natCast_mul, Rat.natCast_mul, ← hq]
      have := Rat.mul_le_mul_of_nonneg_right h1 (Rat.le_of_lt hb)
      grind
    · rw [← Rat.natCast_lt_natCast, Rat.natCast_mul, Rat.natCast_mul, ← hq, Rat.natCast_add]
      have := Rat.mul_lt_mul_of_pos_right h2 hb
      have e1 : ((1 : Nat) : Rat) = 1 := rfl
      grind
  rw [e2]
  congr 1
  have : ((2 : Int) ^ 62) = 4611686018427387904 := by decide
  simp only [Bool.false_eq_true, if_false]
  omega
theorem floor_v {d : FP.Core.Datum} {V : Rat} (h : isV d V) : ∃ t : Nat, (t : Rat) ≤ V ∧ V < (t : Rat) + 1 := by
  obtain ⟨c, q, rfl, e⟩ := h
  have hb : (0 : Rat) < ((2 ^ (-q).toNat : Nat) : Rat) := nat_pos_q (Nat.two_pow_pos _)
  have hq := p2_fr q
  have h1 := Nat.div_mul_le_self (c * 2 ^ q.toNat) (2 ^ (-q).toNat)
  have h2 := Nat.lt_div_mul_add (a := c * 2 ^ q.toNat) (Nat.two_pow_pos (-q).toNat)
  refine ⟨c * 2 ^ q.toNat / 2 ^ (-q).toNat, ?_, ?_⟩
  · rw [← Rat.natCast_le_natCast, Rat.natCast_mul, Rat.natCast_mul] at h1
    exact q_cancel hb (q_alg2 h1 hq e)
  · rw [← Rat.natCast_lt_natCast, Rat.natCast_add, Rat.natCast_mul, Rat.natCast_mul] at h2
    exact Rat.not_le.mp fun z => q_alg3 h2 hq e z hb
/-- a difference that is not negative -/
theorem sub_v {a b : Nat} {q r : Int} {V : Rat} (h : (a : Rat) * p2 q - (b : Rat) * p2 r = V) (h0 : 0 ≤ V) : ∃ n m, FP.Core.exactSum (.fin false a q) (FP.Core.negate (.fin false b r)) = .fin false n m ∧ (n : Rat) * p2 m = V := by
  unfold FP.Core.negate FP.Core.exactSum
  dsimp only
  have e1 : ∀ (x : Nat) (z : Int), min q r ≤ z → ((FP.Core.inUnits x z (min q r) : Nat) : Rat) * p2 (min q r) = (x : Rat) * p2 z := fun x z hz => by
    unfold FP.Core.inUnits
    rw [Rat.natCast_mul, ← p2_nat, Rat.mul_assoc, ← p2_add]
    congr 2
    omega
  have hv : FP.Core.sumUnits false a q (!false) b r (min q r) = (FP.Core.inUnits a q (min q r) : Int) - (FP.Core.inUnits b r (min q r) : Int) := by
    unfold FP.Core.sumUnits FP.Core.signed
    simp
    omega
  rw [hv]
  have ha := e1 a q (by omega)
  have hb := e1 b r (by omega)
  generalize FP.Core.inUnits a q (min q r) = A at *
  generalize FP.Core.inUnits b r (min q r) = B at *
  have hm := p2_pos (min q r)
  have hBA : B ≤ A := by
    rw [← Rat.natCast_le_natCast]
    refine q_cancel hm ?_
    rw [ha, hb]
    grind
  refine ⟨A - B, min q r, ?_, ?_⟩
  · congr 1
    · unfold FP.Core.sumSign
      split
      · rfl
      · exact decide_eq_false (by omega)
    · omega
  · have : ((A - B : Nat) : Rat) = (A : Rat) - (B : Rat) := by
      have h1 : ((A - B + B : Nat) : Rat) = (A : Rat) := by rw [show A - B + B = A by omega]
      rw [Rat.natCast_add] at h1
      grind
    rw [this]
    have : ((A : Rat) - (B : Rat)) * p2 (min q r) = (A : Rat) * p2 (min q r) - (B : Rat) * p2 (min q r) := by grind
    rw [this, ha, hb]
    exact h
end FLO
