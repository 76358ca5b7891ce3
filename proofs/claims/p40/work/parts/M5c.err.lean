/-! BOUNDS: how far rounding takes them -/
section ERR
variable {G : Gm} {s : Nat} {B : Nat → UInt64} {b : Nat → Rat} {e : Rat}
def nr (x : UInt64) (v e : Rat) : Prop := ∃ V, isV (D64 x) V ∧ V ≤ v + e ∧ v ≤ V + e
theorem p2_7 : p2 7 = 128 := by
  have : p2 7 = ((2 ^ 7 : Nat) : Rat) := p2_nat 7
  rw [this]; rfl
theorem err_alg1 {w V b e Z h : Rat} (w0 : 0 ≤ w) (h1 : V ≤ b + e) (h2 : Z ≤ w * V + h) : Z ≤ w * b + w * e + h := by
  have := Rat.mul_le_mul_of_nonneg_left h1 w0
  grind
theorem err_alg2 {w V b e Z h : Rat} (w0 : 0 ≤ w) (h1 : b ≤ V + e) (h2 : w * V ≤ Z + h) : w * b ≤ Z + w * e + h := by
  have := Rat.mul_le_mul_of_nonneg_left h1 w0
  grind
theorem sr_w6 (hW : GW G) {m : Nat} (hm : m < 21) : ∀ k, k ≤ 7 → sr k (wtR G m) ≤ 6 * (k : Rat) := by
  intro k
  induction k with
  | zero =>
    intro _
    show (0 : Rat) ≤ 6 * ((0 : Nat) : Rat)
    have e1 : ((0 : Nat) : Rat) = 0 := rfl
    rw [e1, Rat.mul_zero]; exact Rat.le_refl
  | succ k ih =>
    intro hk
    have h1 := ih (by omega)
    have h2 : wtR G m k ≤ 6 := Rat.natCast_le_natCast.mpr (hW.w6 hm (by omega))
    show sr k (wtR G m) + wtR G m k ≤ 6 * ((k + 1 : Nat) : Rat)
    rw [Rat.natCast_add]
    have e1 : ((1 : Nat) : Rat) = 1 := rfl
    rw [e1]
    grind
theorem lowD_near {m : Nat} (hW : GW G) (hm : m < 21) (he : 0 ≤ e) (he1 : e ≤ 1) (hB : ∀ t, t < G 0 0 → nr (B t) (b t) e) (hb : ∀ t, t < G 0 0 → 0 ≤ b t ∧ b t ≤ 1) : ∀ k, k ≤ G 0 0 → ∃ V, isV (D64 (lowD G B m k)) V ∧ V ≤ sr k (fun t => wtR G m t * b t) + sr k (wtR G m) * e + (k : Rat) * p2 (-45) ∧ sr k (fun t => wtR G m t * b t) ≤ V + sr k (wtR G m) * e + (k : Rat) * p2 (-45) := by
  have hn := hW.1
  have hh := p2_half (-45)
  have hp1 := p2_le (a := -45) (b := 0) (by decide)
  rw [p2_0] at hp1
  have hp := p2_pos (-45)
  intro k
  induction k with
  | zero =>
    intro _
    refine ⟨0, ⟨0, -1074, (by decide : D64 FP.dconst0 = FP.Core.Datum.fin false 0 (-1074)), q_n0⟩, ?_, ?_⟩
    · show (0 : Rat) ≤ 0 + 0 * e + ((0 : Nat) : Rat) * p2 (-45)
      have e1 : ((0 : Nat) : Rat) = 0 := rfl
      rw [e1]; grind
    · show (0 : Rat) ≤ 0 + 0 * e + ((0 : Nat) : Rat) * p2 (-45)
      have e1 : ((0 : Nat) : Rat) = 0 := rfl
      rw [e1]; grind
  | succ k ih =>
    intro hk
    obtain ⟨V, v1, v2, v3⟩ := ih (by omega)
    obtain ⟨Vb, b1, b2, b3⟩ := hB k (by omega)
    obtain ⟨bk0, bk1⟩ := hb k (by omega)
    have hw6n := hW.w6 (m := m) (t := k) hm (by omega)
    have hi := i2d_v hw6n
    have w0 : (0 : Rat) ≤ wtR G m k := wtR_nn
    have w6 : wtR G m k ≤ 6 := Rat.natCast_le_natCast.mpr hw6n
    have vb0 := b1.nn0
    have v0 := v1.nn0
    have hmul : wtR G m k * Vb ≤ 12 := by
      have := rat_mul_le (b := 6) (d := 2) w0 vb0 w6 (show Vb ≤ 2 by grind)
      grind
    obtain ⟨Z, z1, z2, z3, z4⟩ := mul_near (j := 7) hi b1 (by rw [p2_7]; exact Rat.le_trans hmul (by decide)) (by decide) (by decide)
    have z3' : Z ≤ wtR G m k * Vb + p2 (-45 - 1) := z3
    have z4' : wtR G m k * Vb ≤ Z + p2 (-45 - 1) := z4
    -- what has been added
    have hS1 : sr k (fun t => wtR G m t * b t) ≤ sr k (wtR G m) := sr_le (fun t ht => by
      have := Rat.mul_le_mul_of_nonneg_left (hb t (by omega)).2 (wtR_nn (G := G) (m := m) (t := t))
      rw [Rat.mul_one] at this
      exact this)
    have hW6 := sr_w6 hW hm k (by omega)
    have hk7 : (k : Rat) ≤ 7 := Rat.natCast_le_natCast.mpr (show k ≤ 7 by omega)
    have hW0 : 0 ≤ sr k (wtR G m) := sr_nonneg (fun t _ => wtR_nn)
    have hWe : sr k (wtR G m) * e ≤ 42 := by
      have := rat_mul_le (b := 42) (d := 1) hW0 he (by grind) he1
      grind
    have hkp : (k : Rat) * p2 (-45) ≤ 7 := by
      have := rat_mul_le (b := 7) (d := 1) (Rat.natCast_nonneg (a := k)) (Rat.le_of_lt hp) hk7 hp1
      grind
    have hVZ : V + Z ≤ 128 := by
      have : p2 (-45 - 1) ≤ 1 := by grind
      grind
    obtain ⟨Y, y1, y2, y3, y4⟩ := add_near (j := 7) v1 z1 (by rw [p2_7]; exact hVZ) (by decide) (by decide)
    have y3' : Y ≤ V + Z + p2 (-45 - 1) := y3
    have y4' : V + Z ≤ Y + p2 (-45 - 1) := y4
    have u1 := err_alg1 w0 b2 z3'
    have u2 := err_alg2 w0 b3 z4'
    refine ⟨Y, y1, ?_, ?_⟩
    · show Y ≤ (sr k (fun t => wtR G m t * b t) + wtR G m k * b k) + (sr k (wtR G m) + wtR G m k) * e + ((k + 1 : Nat) : Rat) * p2 (-45)
      rw [Rat.natCast_add]
      have e1 : ((1 : Nat) : Rat) = 1 := rfl
      rw [e1]
      grind
    · show (sr k (fun t => wtR G m t * b t) + wtR G m k * b k) ≤ Y + (sr k (wtR G m) + wtR G m k) * e + ((k + 1 : Nat) : Rat) * p2 (-45)
      rw [Rat.natCast_add]
      have e1 : ((1 : Nat) : Rat) = 1 := rfl
      rw [e1]
      grind
theorem err_alg3 {V S W e k p v l : Rat} (hW : 1 ≤ W) (hk : k ≤ 7) (hp : 0 ≤ p) (h : V ≤ S + W * e + k * p) (hv : v * W = V) (hl : l * W = S) : v ≤ l + e + 7 * p := by
  refine q_cancel (show (0 : Rat) < W by grind) ?_
  have h1 := Rat.mul_le_mul_of_nonneg_right hk hp
  have h2 := Rat.mul_le_mul_of_nonneg_left hW (show (0 : Rat) ≤ 7 * p by grind)
  rw [hv]
  have e1 : (l + e + 7 * p) * W = S + W * e + 7 * p * W := by rw [← hl]; grind
  rw [e1]
  grind
theorem err_alg4 {V S W e k p v l : Rat} (hW : 1 ≤ W) (hk : k ≤ 7) (hp : 0 ≤ p) (h : S ≤ V + W * e + k * p) (hv : v * W = V) (hl : l * W = S) : l ≤ v + e + 7 * p := by
  refine q_cancel (show (0 : Rat) < W by grind) ?_
  have h1 := Rat.mul_le_mul_of_nonneg_right hk hp
  have h2 := Rat.mul_le_mul_of_nonneg_left hW (show (0 : Rat) ≤ 7 * p by grind)
  rw [hl]
  have e1 : (v + e + 7 * p) * W = V + W * e + 7 * p * W := by rw [← hv]; grind
  rw [e1]
  grind
theorem lowM_near {m : Nat} (hW : GW G) (hm : m < 21) (h6 : 0 < G 6 m) (he : 0 ≤ e) (he1 : e ≤ 1) (hB : ∀ t, t < G 0 0 → nr (B t) (b t) e) (hb : ∀ t, t < G 0 0 → 0 ≤ b t ∧ b t ≤ 1) : nr (lowM G B m) (lwE G b m) (e + p2 (-42)) := by
  have hn := hW.1
  obtain ⟨V, v1, v2, v3⟩ := lowD_near hW hm he he1 hB hb (G 0 0) (Nat.le_refl _)
  have h66 := (hW.2.2.1 m hm).2.2.1
  have hi := i2d_v h66
  have hsm := sm_eq hW hm
  unfold c_sm at hsm
  rw [hsm] at v2 v3
  have hq := nat_pos_q h6
  have hW1 : (1 : Rat) ≤ ((G 6 m : Nat) : Rat) := Rat.natCast_le_natCast.mpr (show 1 ≤ G 6 m from h6)
  have hn7 : ((G 0 0 : Nat) : Rat) ≤ 7 := Rat.natCast_le_natCast.mpr hn
  have hp := Rat.le_of_lt (p2_pos (-45))
  have hv := rat_divm (a := V) hq
  have hl : lwE G b m * ((G 6 m : Nat) : Rat) = sr (G 0 0) (fun t => wtR G m t * b t) := rat_divm hq
  have g1 := err_alg3 hW1 hn7 hp v2 hv hl
  have g2 := err_alg4 hW1 hn7 hp v3 hv hl
  have hp1 := p2_le (a := -45) (b := 0) (by decide)
  rw [p2_0] at hp1
  have hl1 : lwE G b m ≤ 1 := by
    refine q_cancel hq ?_
    rw [hl, Rat.one_mul, ← hsm]
    exact sr_le (fun t ht => by
      have := Rat.mul_le_mul_of_nonneg_left (hb t ht).2 (wtR_nn (G := G) (m := m) (t := t))
      rw [Rat.mul_one] at this
      exact this)
  obtain ⟨Z, z1, z2, z3, z4⟩ := div_near (j := 7) v1 hi hq hv (by rw [p2_7]; grind) (by decide) (by decide)
  have z3' : Z ≤ V / ((G 6 m : Nat) : Rat) + p2 (-45 - 1) := z3
  have z4' : V / ((G 6 m : Nat) : Rat) ≤ Z + p2 (-45 - 1) := z4
  have hh := p2_half (-45)
  have hh2 := p2_half (-44)
  have hh3 := p2_half (-43)
  have hh4 := p2_half (-42)
  have e44 : p2 (-44 - 1) = p2 (-45) := rfl
  have e43 : p2 (-43 - 1) = p2 (-44) := rfl
  have e42 : p2 (-42 - 1) = p2 (-43) := rfl
  rw [e44] at hh2
  rw [e43] at hh3
  rw [e42] at hh4
  generalize V / ((G 6 m : Nat) : Rat) = v at *
  exact ⟨Z, z1, by grind, by grind⟩
theorem btr_near {r x : UInt64} {rv xv : Rat} (h1 : nr r rv e) (h2 : nr x xv e) : nr (btr G s r x) (btE G s rv xv) e := by
  obtain ⟨V, a1, a2, a3⟩ := h1
  obtain ⟨W, b1, b2, b3⟩ := h2
  have hlt := (cmp_ge (o := .l) a1 b1).2.1
  have hgt := (cmp_ge (o := .g) a1 b1).1
  unfold btr btE
  by_cases hA : G 1 s = 1
  · rw [if_pos hA, if_pos hA]
    by_cases c : Op.cmpValue (FP.dcmp r x) .l ≤ i32 0
    · rw [if_pos c]
      have hVW : V ≤ W := Rat.not_lt.mp fun z => by
        have := hlt.mpr z
        exact absurd c (Int32.not_le.mpr this)
      refine ⟨W, b1, ?_, ?_⟩ <;> split <;> grind
    · rw [if_neg c]
      have hVW : W < V := hlt.mp (Int32.not_le.mp c)
      refine ⟨V, a1, ?_, ?_⟩ <;> split <;> grind
  · rw [if_neg hA, if_neg hA]
    by_cases c : i32 0 ≤ Op.cmpValue (FP.dcmp r x) .g
    · rw [if_pos c]
      have hVW : W ≤ V := Rat.not_lt.mp fun z => by
        have := hgt.mpr z
        exact absurd c (Int32.not_le.mpr this)
      refine ⟨W, b1, ?_, ?_⟩ <;> split <;> grind
    · rw [if_neg c]
      have hVW : V < W := hgt.mp (Int32.not_le.mp c)
      refine ⟨V, a1, ?_, ?_⟩ <;> split <;> grind
theorem bestD_near (hW : GW G) (hw : whole G) (hs : s < G 0 0) (he : 0 ≤ e) (he1 : e ≤ 1) (hB : ∀ t, t < G 0 0 → nr (B t) (b t) e) (hb : ∀ t, t < G 0 0 → 0 ≤ b t ∧ b t ≤ 1) : ∀ c, c < G 3 s → nr (bestD G B s c) (bsF G s (fun c => lwE G b (3 * s + c)) c) (e + p2 (-42)) := by
  have hn := hW.1
  have g3 := (hW.2.1 s (by omega)).2.2.1
  intro c
  induction c with
  | zero => intro h; exact lowM_near hW (by omega) ((hw.2 s hs).2 0 h) he he1 hB hb
  | succ c ih => intro h; exact btr_near (lowM_near hW (by omega) ((hw.2 s hs).2 (c + 1) h) he he1 hB hb) (ih (by omega))
theorem nr_mo {x : UInt64} {v e e' : Rat} (h : nr x v e) (h2 : e ≤ e') : nr x v e' := by
  obtain ⟨V, a1, a2, a3⟩ := h
  exact ⟨V, a1, by grind, by grind⟩
theorem bndD_near (hW : GW G) (hw : whole G) : ∀ r, r ≤ 60 → ∀ s, s < G 0 0 → nr (bndD G r s) (bE G r s) ((r : Rat) * p2 (-42)) := by
  have hp := p2_pos (-42)
  have n1 : nr FP.dconst1 1 0 := by
    refine ⟨p2 0, ⟨4503599627370496, -52, by decide, by
      have e : ((4503599627370496 : Nat) : Rat) = p2 52 := (p2_nat 52).symm
      rw [e, ← p2_add]; rfl⟩, ?_, ?_⟩ <;> rw [p2_0, Rat.add_zero] <;> exact Rat.le_refl
  have n0 : nr FP.dconst0 0 0 := ⟨0, ⟨0, -1074, by decide, q_n0⟩, by rw [Rat.add_zero]; exact Rat.le_refl, by rw [Rat.add_zero]; exact Rat.le_refl⟩
  intro r
  induction r with
  | zero =>
    intro _ s _
    have e0 : ((0 : Nat) : Rat) = 0 := rfl
    rw [e0, Rat.zero_mul]
    show nr (if G 8 s ≠ 0 then FP.dconst1 else FP.dconst0) (if G 8 s ≠ 0 then 1 else 0) 0
    by_cases hT : G 8 s ≠ 0
    · rw [if_pos hT, if_pos hT]; exact n1
    · rw [if_neg hT, if_neg hT]; exact n0
  | succ r ih =>
    intro hr s hs
    have r0 : (0 : Rat) ≤ (r : Rat) := Rat.natCast_nonneg
    have r60 : (r : Rat) ≤ 60 := Rat.natCast_le_natCast.mpr (show r ≤ 60 by omega)
    have e1 : ((r + 1 : Nat) : Rat) * p2 (-42) = (r : Rat) * p2 (-42) + p2 (-42) := by
      rw [Rat.natCast_add]
      have e1 : ((1 : Nat) : Rat) = 1 := rfl
      rw [e1]; grind
    have he0 := Rat.mul_nonneg r0 (Rat.le_of_lt hp)
    have he1 : (r : Rat) * p2 (-42) ≤ 1 := by
      have h10 := p2_le (a := -42) (b := -10) (by decide)
      have h11 : p2 10 * p2 (-10) = 1 := by rw [← p2_add]; rfl
      have h12 : p2 10 = ((2 ^ 10 : Nat) : Rat) := p2_nat 10
      have h13 : ((2 ^ 10 : Nat) : Rat) = 1024 := rfl
      rw [h12, h13] at h11
      have h14 := rat_mul_le r0 (Rat.le_of_lt hp) r60 h10
      grind
    rw [e1]
    show nr (if G 8 s ≠ 0 then FP.dconst1 else bestD G (bndD G r) s (G 3 s - 1)) (if G 8 s ≠ 0 then 1 else bsF G s (fun c => lwE G (bE G r) (3 * s + c)) (G 3 s - 1)) _
    by_cases hT : G 8 s ≠ 0
    · rw [if_pos hT, if_pos hT]; exact nr_mo n1 (by grind)
    · rw [if_neg hT, if_neg hT]
      have := (hw.2 s hs).1
      exact bestD_near hW hw hs he0 he1 (ih (by omega)) (fun t ht => ⟨bE_nn hW hw r t ht, bE_1 hW hw r ht⟩) (G 3 s - 1) (by omega)
end ERR
