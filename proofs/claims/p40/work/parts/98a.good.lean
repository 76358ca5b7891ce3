/-! WHAT IS GOOD: both sides -/
section GD
variable {G : Gm} {aim ch : Nat} {x : Nat → Rat} {σ : cg_S}
/-- a choice is good -/
def gdG (G : Gm) (aim : Nat) (x : Nat → Rat) (s m : Nat) : Prop := stop G aim s ∨ ahR G aim x m = tgR G aim x s m
/-- the values have one number below -/
theorem cden {p : Nat → Nat} (hW : GW G) (hw : whole G) (hpk : pkOk G p) (hp : ∀ s, s < 7 → p s ≤ 2) (hx : gX G aim (mv p) x) : ∃ (d : Nat) (u : Nat → Nat), 0 < d ∧ d ≤ 612220032 ∧ ∀ s, s < G 0 0 → u s ≤ 162 * d ∧ x s = ((u s : Nat) : Rat) / ((d : Nat) : Rat) := by
  have hP : PM (G 0 0) (fun s => s) (fun s => s) := ⟨fun i hi => ⟨hi, rfl⟩, fun i hi => ⟨hi, rfl⟩⟩
  obtain ⟨h1, h2, h3⟩ := clP_sol (aim := aim) hW hw hpk hp hP
  have hZ := clP_Zm (aim := aim) hW hp hP
  have hI : ∀ i j, isI (clP (fun s => s) G p aim i j) := clP_int
  obtain ⟨d1, d2, d3⟩ := hat_D hI hZ (Nat.le_refl (G 0 0))
  have x0 := gX_nonneg hW hw (mv_pk hpk) h1
  have x1 := gX_le hW hw hpk hp h1
  have hu := gX_uniq hW hw (mv_pk hpk) hx h1
  generalize hA : clP (fun s => s) G p aim = A at *
  have hdn : ((((gD (G 0 0) (hat A)).num.toNat : Nat) : Int)) = (gD (G 0 0) (hat A)).num := Int.toNat_of_nonneg (by omega)
  have hdr : ((((gD (G 0 0) (hat A)).num.toNat : Nat)) : Rat) = gD (G 0 0) (hat A) := by rw [← Rat.intCast_natCast, hdn, d2]
  refine ⟨(gD (G 0 0) (hat A)).num.toNat, fun s => (gB (G 0 0) (hat A) s 7).num.toNat, by omega, ?_, fun s hs => ?_⟩
  · have : ((((gD (G 0 0) (hat A)).num.toNat : Nat)) : Rat) ≤ ((612220032 : Nat) : Rat) := by rw [hdr]; exact h3
    exact Rat.natCast_le_natCast.mp this
  · have y0 := x0 s hs
    have y1 := x1 s hs
    have iB := fit_iB (isI_hat hI) (hat_Zm hZ) (Nat.le_refl _) (hat_piv hZ) (Nat.le_refl _) s 7
    have q1 : gB (G 0 0) (hat A) s 7 = gD (G 0 0) (hat A) * pmX (G 0 0) A (fun s => s) s := by unfold pmX; grind
    have hz : 0 ≤ (gB (G 0 0) (hat A) s 7).num := Rat.num_nonneg.mpr (by rw [q1]; exact Rat.mul_nonneg (Rat.le_of_lt d1) y0)
    have hun : ((((gB (G 0 0) (hat A) s 7).num.toNat : Nat) : Int)) = (gB (G 0 0) (hat A) s 7).num := Int.toNat_of_nonneg hz
    have hur : ((((gB (G 0 0) (hat A) s 7).num.toNat : Nat)) : Rat) = gB (G 0 0) (hat A) s 7 := by rw [← Rat.intCast_natCast, hun, iB]
    refine ⟨?_, ?_⟩
    · have : ((((gB (G 0 0) (hat A) s 7).num.toNat : Nat)) : Rat) ≤ ((162 * (gD (G 0 0) (hat A)).num.toNat : Nat) : Rat) := by
        rw [hur, Rat.natCast_mul, hdr, q1]
        have e : ((162 : Nat) : Rat) = 162 := rfl
        rw [e]
        have := Rat.mul_nonneg (Rat.le_of_lt d1) (b := 162 - pmX (G 0 0) A (fun s => s) s) (by grind)
        grind
      exact Rat.natCast_le_natCast.mp this
    · rw [hu s hs, hur, hdr]; rfl
theorem cden_mmb (hW : GW G) (hw : whole G) (hx : mmb G aim x) : ∃ (d : Nat) (u : Nat → Nat), 0 < d ∧ d ≤ 612220032 ∧ ∀ s, s < G 0 0 → u s ≤ 162 * d ∧ x s = ((u s : Nat) : Rat) / ((d : Nat) : Rat) := by
  obtain ⟨p, y, hp, hv, hA, hxy⟩ := mmb_sad hW hw hx
  have hgp := mv_pk hp
  obtain ⟨d, u, h1, h2, h3⟩ := cden (aim := aim) (x := y) (p := dg G (mv p)) hW hw (dg_ok hgp) (dg_2 hW hgp) (gX_congr (fun s hs => (dg_mv hgp s hs).symm) hv.1)
  exact ⟨d, u, h1, h2, fun s hs => ⟨(h3 s hs).1, by rw [hxy s hs]; exact (h3 s hs).2⟩⟩
theorem den_dvd {k D : Nat} (hD : 0 < D) : (((k : Nat) : Rat) / ((D : Nat) : Rat)).den ∣ D := by
  have h := (rat_num (a := (k : Int)) (b := (D : Int)) (by omega)).2
  have hs : ((D : Nat) : Int).sign = 1 := Int.sign_eq_one_of_pos (by omega)
  rw [hs, Int.mul_one] at h
  refine ⟨Int.gcd (k : Int) (D : Int), ?_⟩
  have h2 : ((((((k : Nat) : Rat) / ((D : Nat) : Rat)).den * Int.gcd (k : Int) (D : Int) : Nat)) : Int) = ((D : Nat) : Int) := by rw [Int.natCast_mul]; exact h
  omega
theorem rat_nd (f : Rat) : f = (f.num : Rat) / ((f.den : Nat) : Rat) := by
  have h := Rat.num_divInt_den f
  rw [Rat.divInt_eq_div, Rat.intCast_natCast] at h
  exact h.symm
theorem div_sum {f D k a b : Nat} (hb : 0 < b) (hD : 0 < D) (hbD : b ∣ D) : ∃ j : Nat, ((k : Nat) : Rat) / ((D : Nat) : Rat) + ((a : Nat) : Rat) / ((b : Nat) : Rat) = ((j : Nat) : Rat) / ((D : Nat) : Rat) := by
  obtain ⟨c, rfl⟩ := hbD
  refine ⟨k + a * c, ?_⟩
  have z1 : (0 : Rat) < ((b : Nat) : Rat) := Rat.natCast_pos.mpr hb
  have z2 : (0 : Rat) < ((b * c : Nat) : Rat) := Rat.natCast_pos.mpr hD
  rw [Rat.natCast_mul] at z2 ⊢
  rw [Rat.natCast_add, Rat.natCast_mul]
  have z3 : ((c : Nat) : Rat) ≠ 0 := fun z => by rw [z] at z2; grind
  grind
theorem rat_addn {N M C : Rat} (h : 0 < M) : N / M + C = (N + C * M) / M := by grind
theorem c_ex_part (k : Nat) (wt : Nat → Nat → Rat) (x : Nat → Rat) (m : Nat) : c_ex (k + 1) wt x m = c_ex k wt x m + wt m k * x k := rfl
/-- the class's own -/
theorem c_isGood {s c d : Nat} {u : Nat → Nat} {Q : Int32 → cg_S → Prop} (hC : CG σ G ch) (hW : GW G) (ha : okA aim) (hU : AU σ (G 0 0) x d u) (hs : s < G 0 0) (hc : c < G 3 s) (hy : gdG G aim x s (3 * s + c) → Q 1 σ) (hno : ¬ gdG G aim x s (3 * s + c) → Q 0 σ) : M_X0_isGood (i32 aim) (i32 s) (i32 (3 * s + c)) σ Q := by
  have hn := hW.1
  have ha2 := okA_lt ha
  have g3 := (hW.2.1 s (by omega)).2.2.1
  have hm21 : 3 * s + c < 21 := by omega
  have g6 := (hW.2.2.1 (3 * s + c) hm21).2.2.1
  obtain ⟨u1, u2, u3, u4⟩ := id hU
  obtain ⟨w1, w2, w3⟩ := u4 s hs
  have hd9 := hW.2.2.2.1
  have hdr : (0 : Rat) < ((d : Nat) : Rat) := Rat.natCast_pos.mpr u1
  have hxu : ((d : Nat) : Rat) * x s = ((u s : Nat) : Rat) := by rw [w3]; grind
  -- the comparison
  have fin : ∀ k : Nat, k ≤ 162 * d * 18 → (k : Rat) = ((d : Nat) : Rat) * tgR G aim x s (3 * s + c) → ¬ stop G aim s → L_X0_isGood_63 (i32 aim) (i32 (3 * s + c)) (i64 k) σ Q := fun k hk hke hns => by
    refine v_X0_isGood_63 (c_ahead hC hW ha hm21 hU (fun z e1 e2 => ?_))
    rw [i64_eq (by omega) (by omega)]
    have hiff : (k : Int) = (z : Int) ↔ gdG G aim x s (3 * s + c) := by
      have h1 : (k : Int) = (z : Int) ↔ ((k : Nat) : Rat) = ((z : Nat) : Rat) := by
        rw [Rat.natCast_inj]; omega
      rw [h1, hke, e1]
      unfold gdG
      constructor
      · intro h
        right
        have h2 : ((d : Nat) : Rat) * (ahR G aim x (3 * s + c) - tgR G aim x s (3 * s + c)) = 0 := by grind
        rcases Rat.mul_eq_zero.mp h2 with y | y
        · grind
        · grind
      · intro h
        rw [h.resolve_left hns]
    exact ⟨fun y => hno (fun gd => y (hiff.mpr gd)), fun y => hy (hiff.mp y)⟩
  have m1 : u s * G 6 (3 * s + c) ≤ 162 * d * 6 := Nat.mul_le_mul w1 g6
  have mid : ¬ stop G aim s → L_X0_isGood_19 (i32 aim) (i32 s) (i32 (3 * s + c)) σ Q := fun hns => by
    refine v_X0_isGood_19 ?_
    simp (disch := omega) only [n0, n1, n2, n3, n4, n5, n6, n7, n8, n9, n49, n97, n98, n114, n102, n115, n119, n109, n112, i32_add, i32_mul, i32_N, i32_le, i32_lt, i32_eq, vpi_iff]
    rw [w2, (hC.2.2 _ hm21).2.2.1, hC.1.2.2.2.1, i32_64 (by omega), i32_64 (by omega), i64_mul, ← Int.natCast_mul]
    refine ⟨by omega, by omega, ?_⟩
    rintro _ rfl
    refine ⟨fun z => ?_, fun z => ?_⟩
    · rw [i64_mul, ← Int.natCast_mul]
      have m2 : u s * G 6 (3 * s + c) * G 9 1 ≤ 162 * d * 6 * 3 := Nat.mul_le_mul m1 hd9.2.2
      refine fin _ (by omega) ?_ hns
      unfold tgR
      rw [if_neg z, Rat.natCast_mul, Rat.natCast_mul, sm_eq hW hm21, ← hxu]
      grind
    · refine fin _ (by omega) ?_ hns
      unfold tgR
      rw [if_pos z, Rat.natCast_mul, sm_eq hW hm21, ← hxu]
      grind
  refine v_X0_isGood ?_
  simp (disch := omega) only [n0, n1, n2, n3, n4, n5, n6, n7, n8, n9, n49, n97, n98, n114, n102, n115, n119, n109, n112, i32_add, i32_mul, i32_N, i32_le, i32_lt, i32_eq, vpi_iff]
  refine ⟨fun z => mid (fun y => z y.1), fun z => c_isT hC (by omega) (fun hT => ⟨fun y => absurd y (by decide), fun _ => hy (Or.inl ⟨z, hT⟩)⟩) (fun hT => ⟨fun _ => mid (fun y => hT y.2), fun y => absurd rfl y⟩)⟩
end GD
