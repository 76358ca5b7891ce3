/-! WHAT IS GOOD: both sides -/
section GD
variable {G : Gm} {aim ch : Nat} {x : Nat → Rat} {σ : cg_S}
/-- a choice is good -/
def gdG (G : Gm) (aim : Nat) (x : Nat → Rat) (s m : Nat) : Prop := stop G aim s ∨ ahR G aim x m = tgR G aim x s m
/-- the values have one number below -/
theorem cden {p : Nat → Nat} (hW : GW G) (hw : whole G) (hpk : pkOk G p) (hp : ∀ s, s < 7 → p s ≤ 2) (hx : gX G aim (mv p) x) : ∃ (d : Nat) (u : Nat → Nat), 0 < d ∧ d ≤ 612220032 ∧ ∀ s, s < G 0 0 → u s ≤ 162 * d ∧ x s = ((u s : Nat) : Rat) / ((d : Nat) : Rat) := by
  have hP : PM (G 0 0) (fun s => s) (fun s => s) := ⟨fun i hi => ⟨hi, rfl⟩, fun i hi => ⟨hi, rfl⟩⟩
  obtain ⟨h1, h2, h3⟩ := clP_sol (aim := aim) hW hw hpk hp hP
  have hZ := clP_Zm (aim := aim) hW hp hP
  have hI : ∀ i j, isI (clP (fun s => s) G p aim i j) := clP_int
  obtain ⟨d1, d2, d3⟩ := hat_D hI hZ (Nat.le_refl (G 0 0))
  have x0 := gX_nonneg hW hw (mv_pk hpk) h1
  have x1 := gX_le hW hw hpk hp h1
  have hu := gX_uniq hW hw (mv_pk hpk) hx h1
  generalize hA : clP (fun s => s) G p aim = A at *
  have hdn : ((((gD (G 0 0) (hat A)).num.toNat : Nat) : Int)) = (gD (G 0 0) (hat A)).num := Int.toNat_of_nonneg (by omega)
  have hdr : ((((gD (G 0 0) (hat A)).num.toNat : Nat)) : Rat) = gD (G 0 0) (hat A) := by rw [← Rat.intCast_natCast, hdn, d2]
  refine ⟨(gD (G 0 0) (hat A)).num.toNat, fun s => (gB (G 0 0) (hat A) s 7).num.toNat, by omega, ?_, fun s hs => ?_⟩
  · have : ((((gD (G 0 0) (hat A)).num.toNat : Nat)) : Rat) ≤ ((612220032 : Nat) : Rat) := by rw [hdr]; exact h3
    exact Rat.natCast_le_natCast.mp this
  · have y0 := x0 s hs
    have y1 := x1 s hs
    have iB := fit_iB (isI_hat hI) (hat_Zm hZ) (Nat.le_refl _) (hat_piv hZ) (Nat.le_refl _) s 7
    have q1 : gB (G 0 0) (hat A) s 7 = gD (G 0 0) (hat A) * pmX (G 0 0) A (fun s => s) s := by unfold pmX; grind
    have hz : 0 ≤ (gB (G 0 0) (hat A) s 7).num := Rat.num_nonneg.mpr (by rw [q1]; exact Rat.mul_nonneg (Rat.le_of_lt d1) y0)
    have hun : ((((gB (G 0 0) (hat A) s 7).num.toNat : Nat) : Int)) = (gB (G 0 0) (hat A) s 7).num := Int.toNat_of_nonneg hz
    have hur : ((((gB (G 0 0) (hat A) s 7).num.toNat : Nat)) : Rat) = gB (G 0 0) (hat A) s 7 := by rw [← Rat.intCast_natCast, hun, iB]
    refine ⟨?_, ?_⟩
    · have : ((((gB (G 0 0) (hat A) s 7).num.toNat : Nat)) : Rat) ≤ ((162 * (gD (G 0 0) (hat A)).num.toNat : Nat) : Rat) := by
        rw [hur, Rat.natCast_mul, hdr, q1]
        have e : ((162 : Nat) : Rat) = 162 := rfl
        rw [e]
        have := Rat.mul_nonneg (Rat.le_of_lt d1) (b := 162 - pmX (G 0 0) A (fun s => s) s) (by grind)
        grind
      exact Rat.natCast_le_natCast.mp this
    · rw [hu s hs, hur, hdr]; rfl
theorem cden_mmb (hW : GW G) (hw : whole G) (hx : mmb G aim x) : ∃ (d : Nat) (u : Nat → Nat), 0 < d ∧ d ≤ 612220032 ∧ ∀ s, s < G 0 0 → u s ≤ 162 * d ∧ x s = ((u s : Nat) : Rat) / ((d : Nat) : Rat) := by
  obtain ⟨p, y, hp, hv, hA, hxy⟩ := mmb_sad hW hw hx
  have hgp := mv_pk hp
  obtain ⟨d, u, h1, h2, h3⟩ := cden (aim := aim) (x := y) (p := dg G (mv p)) hW hw (dg_ok hgp) (dg_2 hW hgp) (gX_congr (fun s hs => (dg_mv hgp s hs).symm) hv.1)
  exact ⟨d, u, h1, h2, fun s hs => ⟨(h3 s hs).1, by rw [hxy s hs]; exact (h3 s hs).2⟩⟩
theorem den_dvd {k D : Nat} (hD : 0 < D) : (((k : Nat) : Rat) / ((D : Nat) : Rat)).den ∣ D := by
  have h := (rat_num (a := (k : Int)) (b := (D : Int)) (by omega)).2
  have hs : ((D : Nat) : Int).sign = 1 := Int.sign_eq_one_of_pos (by omega)
  rw [hs, Int.mul_one] at h
  refine ⟨Int.gcd (k : Int) (D : Int), ?_⟩
  have h2 : ((((((k : Nat) : Rat) / ((D : Nat) : Rat)).den * Int.gcd (k : Int) (D : Int) : Nat)) : Int) = ((D : Nat) : Int) := by rw [Int.natCast_mul]; exact h
  omega
theorem rat_nd (f : Rat) : f = (f.num : Rat) / ((f.den : Nat) : Rat) := by
  have h := Rat.num_divInt_den f
  rw [Rat.divInt_eq_div, Rat.intCast_natCast] at h
  exact h.symm
/-- the sum of two fractions with a number below in common -/
theorem m_adds {f : Rat} {a b D : Nat} {Q : cg_S → Prop} (hf0 : 0 ≤ f) (hb : 0 < b) (hD : 0 < D) (hDb : D ≤ 20000000000) (h1 : f.den ∣ D) (h2 : b ∣ D) (hV : f + ((a : Nat) : Rat) / ((b : Nat) : Rat) ≤ 100000) (h40 : σ.2.1 0 40 = i64 f.num) (h41 : σ.2.1 0 41 = i64 (f.den : Nat)) (h : ∀ τ, Fr [] [0] [] σ τ → (∀ j, j ≠ 40 → j ≠ 41 → τ.2.1 0 j = σ.2.1 0 j) → τ.2.1 0 40 = i64 (f + ((a : Nat) : Rat) / ((b : Nat) : Rat)).num → τ.2.1 0 41 = i64 ((f + ((a : Nat) : Rat) / ((b : Nat) : Rat)).den : Nat) → Q τ) : M_X12_adds (i64 a) (i64 b) σ Q := by
  have hden := f.den_pos
  have hfd : f.den ≤ D := Nat.le_of_dvd hD h1
  have hbd : b ≤ D := Nat.le_of_dvd hD h2
  have hg0 : 0 < Nat.gcd f.den b := Nat.gcd_pos_of_pos_left _ hden
  obtain ⟨p, hp⟩ := Nat.gcd_dvd_left f.den b
  obtain ⟨q, hq⟩ := Nat.gcd_dvd_right f.den b
  generalize hg : Nat.gcd f.den b = g at *
  have hgle : g ≤ f.den := Nat.le_of_dvd hden ⟨p, hp⟩
  have hM : p * b ∣ D := by
    have e1 : Nat.lcm f.den b = p * b := by
      unfold Nat.lcm
      rw [hg, hp, Nat.mul_assoc, Nat.mul_div_cancel_left _ hg0]
    rw [← e1]
    exact Nat.lcm_dvd h1 h2
  have hMle : p * b ≤ D := Nat.le_of_dvd hD hM
  have hp0 : 0 < p := by
    rcases Nat.eq_zero_or_pos p with z | z
    · rw [z, Nat.mul_zero] at hp; omega
    · exact z
  have hMpos : 0 < p * b := Nat.mul_pos hp0 hb
  have hsum : ((f.num * (q : Int) + (a : Int) * (p : Int) : Int) : Rat) / (((p * b : Nat) : Int) : Rat) = f + ((a : Nat) : Rat) / ((b : Nat) : Rat) := by
    have e1 := rat_nd f
    have e2 : ((f.den : Nat) : Rat) = ((g : Nat) : Rat) * ((p : Nat) : Rat) := by rw [← Rat.natCast_mul, ← hp]
    have e3 : ((b : Nat) : Rat) = ((g : Nat) : Rat) * ((q : Nat) : Rat) := by rw [← Rat.natCast_mul, ← hq]
    have z1 : (0 : Rat) < ((g : Nat) : Rat) := Rat.natCast_pos.mpr hg0
    have z2 : (0 : Rat) < ((p : Nat) : Rat) := Rat.natCast_pos.mpr hp0
    have z3 : (0 : Rat) < ((b : Nat) : Rat) := Rat.natCast_pos.mpr hb
    rw [Rat.intCast_add, Rat.intCast_mul, Rat.intCast_mul, Rat.intCast_natCast, Rat.intCast_natCast, Rat.intCast_natCast, Rat.intCast_natCast, Rat.natCast_mul]
    have e4 : f = (f.num : Rat) / (((g : Nat) : Rat) * ((p : Nat) : Rat)) := by rw [← e2]; exact e1
    generalize (f.num : Rat) = N at *
    rw [e4, e3]
    rw [e3] at z3
    have zq : ((q : Nat) : Rat) ≠ 0 := fun z => by rw [z] at z3; grind
    grind
  have hN0 : 0 ≤ f.num := Rat.num_nonneg.mpr hf0
  have hNz : zfit (f.num * (q : Int) + (a : Int) * (p : Int)) := by
    refine zfit_of (x := (f + ((a : Nat) : Rat) / ((b : Nat) : Rat)) * ((p * b : Nat) : Rat)) ?_ ?_ ?_
    · rw [← hsum, Rat.intCast_natCast]
      have : (0 : Rat) < ((p * b : Nat) : Rat) := Rat.natCast_pos.mpr hMpos
      grind
    · have z3 : (0 : Rat) < ((b : Nat) : Rat) := Rat.natCast_pos.mpr hb
      have := rat_div_nonneg (x := ((a : Nat) : Rat)) Rat.natCast_nonneg z3
      have := Rat.mul_nonneg (a := f + ((a : Nat) : Rat) / ((b : Nat) : Rat)) (b := ((p * b : Nat) : Rat)) (by grind) Rat.natCast_nonneg
      grind
    · have z3 : (0 : Rat) < ((b : Nat) : Rat) := Rat.natCast_pos.mpr hb
      have h5 := rat_div_nonneg (x := ((a : Nat) : Rat)) Rat.natCast_nonneg z3
      have h6 : ((p * b : Nat) : Rat) ≤ ((20000000000 : Nat) : Rat) := Rat.natCast_le_natCast.mpr (by omega)
      have h7 := rat_mul_le (a := f + ((a : Nat) : Rat) / ((b : Nat) : Rat)) (c := ((p * b : Nat) : Rat)) (by grind) Rat.natCast_nonneg hV h6
      have h8 : ((20000000000 : Nat) : Rat) = 20000000000 := rfl
      rw [h8] at h7
      grind
  have nz : ¬ i64 (g : Int) = 0 := by rw [l0, i64_eq (by omega) (by omega)]; omega
  refine v_X12_adds ?_
  rw [h41]
  refine m_divisor (by unfold zfit; omega) (by unfold zfit; omega) ?_
  have hgg : Int.gcd ((f.den : Nat) : Int) (b : Int) = g := by rw [Int.gcd_natCast_natCast, hg]
  rw [hgg]
  refine ⟨nz, nz, nz, ?_⟩
  rw [h40, h41, i64_div (q := (q : Int)) (by rw [← Int.natCast_mul, ← hq]) (by omega) (by omega) (by omega), i64_div (q := (p : Int)) (by rw [← Int.natCast_mul, ← hp]) (by omega) (by omega) (by omega), i64_mul, i64_mul, i64_mul, i64_add]
  have hpb : (p : Int) * (b : Int) = ((p * b : Nat) : Int) := by rw [Int.natCast_mul]
  rw [hpb]
  refine m_lowers hNz (by unfold zfit; omega) (by omega) (fun τ f1 f2 e1 e2 => ?_)
  rw [hsum] at e1 e2
  exact h τ f1 f2 e1 e2
theorem div_sum {f D k a b : Nat} (hb : 0 < b) (hD : 0 < D) (hbD : b ∣ D) : ∃ j : Nat, ((k : Nat) : Rat) / ((D : Nat) : Rat) + ((a : Nat) : Rat) / ((b : Nat) : Rat) = ((j : Nat) : Rat) / ((D : Nat) : Rat) := by
  obtain ⟨c, rfl⟩ := hbD
  refine ⟨k + a * c, ?_⟩
  have z1 : (0 : Rat) < ((b : Nat) : Rat) := Rat.natCast_pos.mpr hb
  have z2 : (0 : Rat) < ((b * c : Nat) : Rat) := Rat.natCast_pos.mpr hD
  rw [Rat.natCast_mul] at z2 ⊢
  rw [Rat.natCast_add, Rat.natCast_mul]
  have z3 : ((c : Nat) : Rat) ≠ 0 := fun z => by rw [z] at z2; grind
  grind
theorem rat_addn {N M C : Rat} (h : 0 < M) : N / M + C = (N + C * M) / M := by grind
theorem c_ex_part (k : Nat) (wt : Nat → Nat → Rat) (x : Nat → Rat) (m : Nat) : c_ex (k + 1) wt x m = c_ex k wt x m + wt m k * x k := rfl
/-- a value that the reference keeps -/
theorem m_isGood {s c : Nat} {w : Nat → Rat} {Q : Int32 → cg_S → Prop} (hW : GW G) (hw : whole G) (ha : okA aim) (hG : MG σ G) (hm : mmb G aim w) (hV : ∀ s, s < G 0 0 → VK1 σ (7 * aimN aim + s) (w s)) (hs : s < G 0 0) (hc : c < G 3 s) (hy : ∀ τ, Fr [] [0] [] σ τ → gdG G aim w s (3 * s + c) → Q 1 τ) (hno : ∀ τ, Fr [] [0] [] σ τ → ¬ gdG G aim w s (3 * s + c) → Q 0 τ) : M_X12_isGood (i32 aim) (i32 s) (i32 c) σ Q := by
  have hn := hW.1
  have ha2 := okA_lt ha
  have h4 := aimN_lt aim
  have g3 := (hW.2.1 s (by omega)).2.2.1
  have hm21 : 3 * s + c < 21 := by omega
  have hw0 := mmb_nonneg hW hw hm
  obtain ⟨D, u, hD0, hD1, hu⟩ := cden_mmb hW hw hm
  have hp6 := (hw.2 s hs).2 c hc
  have g6 := (hW.2.2.1 (3 * s + c) hm21).2.2.1
  have hDr : (0 : Rat) < ((D : Nat) : Rat) := Rat.natCast_pos.mpr hD0
  have hw162 : ∀ t, t < G 0 0 → w t ≤ 162 := fun t ht => by
    obtain ⟨h1, h2⟩ := hu t ht
    rw [h2]
    have h3 : ((u t : Nat) : Rat) ≤ ((162 * D : Nat) : Rat) := Rat.natCast_le_natCast.mpr h1
    rw [Rat.natCast_mul] at h3
    have e : ((162 : Nat) : Rat) = 162 := rfl
    rw [e] at h3
    refine rat_le_of_mul hDr ?_
    have : ((D : Nat) : Rat) * (((u t : Nat) : Rat) / ((D : Nat) : Rat)) = ((u t : Nat) : Rat) := by grind
    rw [this]; grind
  -- the sum, and what follows
  have core : ∀ (ov un ct : Nat), 1 ≤ ov → ov ≤ 3 → 1 ≤ un → un ≤ 3 → ct ≤ 54 → (c_ex (G 0 0) (wtR G) w (3 * s + c) * ((ov : Nat) : Rat) / (((G 6 (3 * s + c) : Nat) : Rat) * ((un : Nat) : Rat)) + ((ct : Nat) : Rat) = w s ↔ gdG G aim w s (3 * s + c)) → L_X12_isGood_81 (i32 s) (i32 (aimN aim)) (i32 (3 * s + c)) (i32 ov) (i32 un) (i64 (ct : Int)) σ Q := by
    intro ov un ct o1 o2 n1' n2' hct hiff
    have hone : ((1 : Int) : Rat) = 1 := rfl
    refine v_X12_isGood_81 ?_
    rw [show (1 : Int64) = i64 1 from rfl]
    refine m_lowers (b := 1) (by unfold zfit; omega) (by unfold zfit; omega) (by omega) (fun τ1 f1 f2 e40 e41 => ?_)
    have ec : ((ct : Int) : Rat) / ((1 : Int) : Rat) = ((ct : Nat) : Rat) := by rw [hone, Rat.intCast_natCast]; grind
    rw [ec, Rat.num_natCast] at e40
    rw [ec, Rat.den_natCast] at e41
    rw [e40, e41]
    rintro _ rfl _ rfl
    rw [show (0 : Int64) = i64 0 from rfl]
    refine m_lowers (a := 0) (b := 1) (by unfold zfit; omega) (by unfold zfit; omega) (by omega) (fun τ2 k1 k2 a40 a41 => ?_)
    have e0 : ((0 : Int) : Rat) / ((1 : Int) : Rat) = 0 := by rw [hone]; show (0 : Rat) / 1 = 0; grind
    rw [e0] at a40 a41
    have hf2 : Fr [] [0] [] σ τ2 := f1.tr k1
    refine up (n := G 0 0) (fun k τ => Fr [] [0] [] σ τ ∧ τ.2.1 0 40 = i64 (c_ex k (wtR G) w (3 * s + c)).num ∧ τ.2.1 0 41 = i64 ((c_ex k (wtR G) w (3 * s + c)).den : Nat) ∧ (∃ j : Nat, c_ex k (wtR G) w (3 * s + c) = ((j : Nat) : Rat) / ((D : Nat) : Rat)) ∧ 0 ≤ c_ex k (wtR G) w (3 * s + c) ∧ c_ex k (wtR G) w (3 * s + c) ≤ 972 * ((k : Nat) : Rat)) (fun v τ => L_X12_isGood_106 (i32 s) (i32 (aimN aim)) (i32 (3 * s + c)) (i32 ov) (i32 un) (i64 (ct : Int)) (i64 ((1 : Nat) : Int)) v τ Q) ?_ ?_ 0 τ2 (by omega) ⟨hf2, a40, a41, ⟨0, ?_⟩, Rat.le_refl, ?_⟩
    · rintro k τ hk ⟨hf, b40, b41, ⟨j, hj⟩, b0, b1⟩ kk
      have hG2 := hG.fr hf (by decide)
      have hw7 := hW.w6 hm21 (show k < 7 by omega)
      obtain ⟨v1, v2, v3, v4⟩ := hV k hk
      have v3' : τ.2.1 28 (7 * aimN aim + k) = i64 (w k).num := by rw [hf.2.1 28 (by decide)]; exact v3
      have v4' : τ.2.1 29 (7 * aimN aim + k) = i64 ((w k).den : Nat) := by rw [hf.2.1 29 (by decide)]; exact v4
      have hn0 : 0 ≤ (w k).num := Rat.num_nonneg.mpr (hw0 k hk)
      obtain ⟨hu1, hu2⟩ := hu k hk
      have hdd : (w k).den ∣ D := by rw [hu2]; exact den_dvd hD0
      have hfd : (c_ex k (wtR G) w (3 * s + c)).den ∣ D := by rw [hj]; exact den_dvd hD0
      have ha1 : ((G 7 (7 * (3 * s + c) + k) : Nat) : Int) * (w k).num = ((G 7 (7 * (3 * s + c) + k) * (w k).num.toNat : Nat) : Int) := by rw [Int.natCast_mul, Int.toNat_of_nonneg hn0]
      have hab : ((G 7 (7 * (3 * s + c) + k) * (w k).num.toNat : Nat) : Rat) / (((w k).den : Nat) : Rat) = wtR G (3 * s + c) k * w k := by
        have h9 := rat_nd (w k)
        have hnn : (((w k).num.toNat : Nat) : Rat) = ((w k).num : Rat) := by rw [← Rat.intCast_natCast, Int.toNat_of_nonneg hn0]
        rw [Rat.natCast_mul, hnn]
        show ((G 7 (7 * (3 * s + c) + k) : Nat) : Rat) * ((w k).num : Rat) / (((w k).den : Nat) : Rat) = ((G 7 (7 * (3 * s + c) + k) : Nat) : Rat) * w k
        generalize ((w k).num : Rat) = N at *
        generalize (((w k).den : Nat) : Rat) = M at *
        rw [h9]; grind
      have hwt6 : wtR G (3 * s + c) k ≤ 6 := by
        have : ((G 7 (7 * (3 * s + c) + k) : Nat) : Rat) ≤ ((6 : Nat) : Rat) := Rat.natCast_le_natCast.mpr hw7
        exact this
      have hwx := rat_mul_le (a := wtR G (3 * s + c) k) (c := w k) wtR_nn (hw0 k hk) hwt6 (hw162 k hk)
      have hk1 : (((k + 1 : Nat)) : Rat) = ((k : Nat) : Rat) + 1 := by rw [Rat.natCast_add]; rfl
      have hk7 : ((k : Nat) : Rat) ≤ 7 := by
        have : ((k : Nat) : Rat) ≤ ((7 : Nat) : Rat) := Rat.natCast_le_natCast.mpr (by omega)
        exact this
      refine v_X12_isGood_106 ?_
      rw [hG2.1.1]
      simp (disch := omega) only [n0, n1, n2, n3, n4, n5, n6, n7, n8, n9, n49, n97, n98, n114, n102, n115, n119, n109, n112, i32_add, i32_mul, i32_N, i32_le, i32_lt, i32_eq, vpi_iff]
      refine ⟨fun z => by omega, fun _ => ⟨by omega, by omega, by omega, ?_⟩⟩
      rw [hG2.2.2.2.2 (7 * (3 * s + c) + k) (by omega), v3', v4', i32_64 (by omega), i64_mul, ha1]
      refine m_adds (D := D) b0 (w k).den_pos hD0 (by omega) hfd hdd (by rw [hab]; grind) b40 b41 (fun υ g1 g2 g40 g41 => ?_)
      rw [hab, ← c_ex_part] at g40 g41
      refine kk υ ⟨hf.tr g1, g40, g41, ?_, ?_, ?_⟩
      · obtain ⟨j', hj'⟩ := div_sum (f := 0) (k := j) (a := G 7 (7 * (3 * s + c) + k) * (w k).num.toNat) (w k).den_pos hD0 hdd
        rw [← hj, hab, ← c_ex_part] at hj'
        exact ⟨j', hj'⟩
      · rw [c_ex_part]
        have := Rat.mul_nonneg (a := wtR G (3 * s + c) k) (b := w k) wtR_nn (hw0 k hk)
        exact Rat.add_nonneg b0 this
      · rw [c_ex_part, hk1]; grind
    · rintro τ ⟨hf, b40, b41, ⟨j, hj⟩, b0, b1⟩
      have hG2 := hG.fr hf (by decide)
      obtain ⟨v1, v2, v3, v4⟩ := hV s hs
      have hn7 : ((G 0 0 : Nat) : Rat) ≤ 7 := by
        have : ((G 0 0 : Nat) : Rat) ≤ ((7 : Nat) : Rat) := Rat.natCast_le_natCast.mpr hn
        exact this
      generalize hE : c_ex (G 0 0) (wtR G) w (3 * s + c) = E at *
      have hEd : E.den ≤ D := Nat.le_of_dvd hD0 (by rw [hj]; exact den_dvd hD0)
      have hEd0 := E.den_pos
      have hsu : G 6 (3 * s + c) * un ≤ 6 * 3 := Nat.mul_le_mul g6 n2'
      have hsu0 : 0 < G 6 (3 * s + c) * un := Nat.mul_pos hp6 (by omega)
      have hB : E.den * (G 6 (3 * s + c) * un) ≤ 612220032 * 18 := Nat.mul_le_mul (by omega) hsu
      have hB0 : 0 < E.den * (G 6 (3 * s + c) * un) := Nat.mul_pos hEd0 hsu0
      have hEn0 : 0 ≤ E.num := Rat.num_nonneg.mpr b0
      have hEnd : ((E.num : Int) : Rat) = E * ((E.den : Nat) : Rat) := by
        have h9 := rat_nd E
        have : (0 : Rat) < ((E.den : Nat) : Rat) := Rat.natCast_pos.mpr hEd0
        generalize ((E.num : Int) : Rat) = N at *
        generalize ((E.den : Nat) : Rat) = M at *
        rw [h9]; grind
      have hAz : zfit (E.num * (ov : Int)) := by
        have e1 : ((E.den : Nat) : Rat) ≤ 612220032 := by
          have : ((E.den : Nat) : Rat) ≤ ((612220032 : Nat) : Rat) := Rat.natCast_le_natCast.mpr (by omega)
          exact this
        have e2 : ((ov : Nat) : Rat) ≤ 3 := by
          have : ((ov : Nat) : Rat) ≤ ((3 : Nat) : Rat) := Rat.natCast_le_natCast.mpr o2
          exact this
        have e3 := rat_mul_le (a := E) (c := ((E.den : Nat) : Rat)) (b := 6804) b0 Rat.natCast_nonneg (by grind) e1
        have e4 := Rat.mul_nonneg (a := E) (b := ((E.den : Nat) : Rat)) b0 Rat.natCast_nonneg
        have e5 := rat_mul_le e4 Rat.natCast_nonneg e3 e2
        have e6 := Rat.mul_nonneg e4 (b := ((ov : Nat) : Rat)) Rat.natCast_nonneg
        refine zfit_of (x := E * ((E.den : Nat) : Rat) * ((ov : Nat) : Rat)) (by rw [Rat.intCast_mul, hEnd, Rat.intCast_natCast]) (by grind) (by grind)
      have hq : ((E.num * (ov : Int) : Int) : Rat) / (((E.den * (G 6 (3 * s + c) * un) : Nat) : Int) : Rat) = E * ((ov : Nat) : Rat) / (((G 6 (3 * s + c) : Nat) : Rat) * ((un : Nat) : Rat)) := by
        rw [Rat.intCast_mul, Rat.intCast_natCast, Rat.intCast_natCast, Rat.natCast_mul, Rat.natCast_mul, hEnd]
        have z1 : (0 : Rat) < ((E.den : Nat) : Rat) := Rat.natCast_pos.mpr hEd0
        have z2 : (0 : Rat) < ((G 6 (3 * s + c) : Nat) : Rat) := Rat.natCast_pos.mpr hp6
        have z3 : (0 : Rat) < ((un : Nat) : Rat) := Rat.natCast_pos.mpr n1'
        generalize ((E.den : Nat) : Rat) = d at *
        generalize ((G 6 (3 * s + c) : Nat) : Rat) = g at *
        generalize ((un : Nat) : Rat) = n at *
        have z4 : g * n ≠ 0 := by
          have := Rat.mul_pos z2 z3
          grind
        grind
      refine v_X12_isGood_106 ?_
      rw [hG2.1.1]
      refine ⟨fun _ => ?_, fun z => absurd ((i32_le (by omega) (by omega)).mpr (Nat.le_refl _)) z⟩
      simp (disch := omega) only [n0, n1, n2, n3, n4, n5, n6, n7, n8, n9, n49, n97, n98, n114, n102, n115, n119, n109, n112, i32_add, i32_mul, i32_N, i32_le, i32_lt, i32_eq, vpi_iff]
      rw [b40, b41, (hG2.2.2.2.1 _ hm21).2.2, i32_mul, i32_64 (by omega), i32_64 (by omega), i64_mul, i64_mul, ← Int.natCast_mul]
      refine ⟨by omega, m_lowers hAz (by unfold zfit; omega) (by omega) (fun υ g1 g2 g40 g41 => ?_)⟩
      rw [hq] at g40 g41
      have hden : (E * ((ov : Nat) : Rat) / (((G 6 (3 * s + c) : Nat) : Rat) * ((un : Nat) : Rat))).den ≤ 612220032 * 18 := by
        rw [← hq]
        have := (rat_num_le (a := E.num * (ov : Int)) (b := ((E.den * (G 6 (3 * s + c) * un) : Nat) : Int)) (by omega)).2
        omega
      have hF0 : 0 ≤ E * ((ov : Nat) : Rat) / (((G 6 (3 * s + c) : Nat) : Rat) * ((un : Nat) : Rat)) := rat_div_nonneg (Rat.mul_nonneg b0 Rat.natCast_nonneg) (Rat.mul_pos (Rat.natCast_pos.mpr hp6) (Rat.natCast_pos.mpr n1'))
      have hF1 : E * ((ov : Nat) : Rat) / (((G 6 (3 * s + c) : Nat) : Rat) * ((un : Nat) : Rat)) ≤ 20412 := by
        have z2 : (1 : Rat) ≤ ((G 6 (3 * s + c) : Nat) : Rat) := by
          have : ((1 : Nat) : Rat) ≤ ((G 6 (3 * s + c) : Nat) : Rat) := Rat.natCast_le_natCast.mpr hp6
          exact this
        have z3 : (1 : Rat) ≤ ((un : Nat) : Rat) := by
          have : ((1 : Nat) : Rat) ≤ ((un : Nat) : Rat) := Rat.natCast_le_natCast.mpr n1'
          exact this
        have e2 : ((ov : Nat) : Rat) ≤ 3 := by
          have : ((ov : Nat) : Rat) ≤ ((3 : Nat) : Rat) := Rat.natCast_le_natCast.mpr o2
          exact this
        have z4 := rat_mul_le (a := 1) (c := 1) (by decide) (by decide) z2 z3
        have z5 := rat_mul_le (a := E) (c := ((ov : Nat) : Rat)) (b := 6804) b0 Rat.natCast_nonneg (by grind) e2
        have z6 := Rat.mul_nonneg b0 (b := ((ov : Nat) : Rat)) Rat.natCast_nonneg
        generalize E * ((ov : Nat) : Rat) = N at *
        generalize ((G 6 (3 * s + c) : Nat) : Rat) * ((un : Nat) : Rat) = M at *
        refine rat_le_of_mul (d := M) (by grind) ?_
        have : M * (N / M) = N := by grind
        rw [this]
        have := Rat.mul_nonneg (a := M - 1) (b := 20412) (by grind) (by decide)
        grind
      generalize hF : E * ((ov : Nat) : Rat) / (((G 6 (3 * s + c) : Nat) : Rat) * ((un : Nat) : Rat)) = F at *
      have hct1 : ((ct : Nat) : Rat) / ((1 : Nat) : Rat) = ((ct : Nat) : Rat) := by
        have : ((1 : Nat) : Rat) = 1 := rfl
        rw [this]; grind
      have hct54 : ((ct : Nat) : Rat) ≤ 54 := by
        have : ((ct : Nat) : Rat) ≤ ((54 : Nat) : Rat) := Rat.natCast_le_natCast.mpr hct
        exact this
      have hFd := F.den_pos
      refine m_adds (D := F.den) hF0 (by omega) hFd (by omega) (Nat.dvd_refl _) (Nat.one_dvd _) (by rw [hct1]; grind) g40 g41 (fun ω l1 l2 l40 l41 => ?_)
      rw [hct1] at l40 l41
      have hfin : Fr [] [0] [] σ ω := (hf.tr g1).tr l1
      have v3' : ω.2.1 28 (7 * aimN aim + s) = i64 (w s).num := by rw [hfin.2.1 28 (by decide)]; exact v3
      have v4' : ω.2.1 29 (7 * aimN aim + s) = i64 ((w s).den : Nat) := by rw [hfin.2.1 29 (by decide)]; exact v4
      rw [l40, l41, v3', v4']
      -- bounds of what stands at hand
      have hS0 : 0 ≤ F + ((ct : Nat) : Rat) := Rat.add_nonneg hF0 Rat.natCast_nonneg
      have hSn0 : 0 ≤ (F + ((ct : Nat) : Rat)).num := Rat.num_nonneg.mpr hS0
      have hSd : (F + ((ct : Nat) : Rat)).den ≤ F.den := by
        have e1 : F + ((ct : Nat) : Rat) = ((F.num + (ct : Int) * (F.den : Int) : Int) : Rat) / (((F.den : Nat) : Int) : Rat) := by
          rw [Rat.intCast_add, Rat.intCast_mul, Rat.intCast_natCast, Rat.intCast_natCast]
          have h9 := rat_nd F
          have : (0 : Rat) < ((F.den : Nat) : Rat) := Rat.natCast_pos.mpr hFd
          rw [← rat_addn this, ← h9]
        rw [e1]
        have := (rat_num_le (a := F.num + (ct : Int) * (F.den : Int)) (b := ((F.den : Nat) : Int)) (by omega)).2
        omega
      have hSn : zfit (F + ((ct : Nat) : Rat)).num := by
        have h9 : (((F + ((ct : Nat) : Rat)).num : Int) : Rat) = (F + ((ct : Nat) : Rat)) * (((F + ((ct : Nat) : Rat)).den : Nat) : Rat) := by
          have h9 := rat_nd (F + ((ct : Nat) : Rat))
          have : (0 : Rat) < (((F + ((ct : Nat) : Rat)).den : Nat) : Rat) := Rat.natCast_pos.mpr (Rat.den_pos _)
          generalize (((F + ((ct : Nat) : Rat)).num : Int) : Rat) = N at *
          generalize (((F + ((ct : Nat) : Rat)).den : Nat) : Rat) = M at *
          rw [h9]; grind
        have e1 : (((F + ((ct : Nat) : Rat)).den : Nat) : Rat) ≤ 11019960576 := by
          have : (((F + ((ct : Nat) : Rat)).den : Nat) : Rat) ≤ ((11019960576 : Nat) : Rat) := Rat.natCast_le_natCast.mpr (by omega)
          exact this
        have e3 := rat_mul_le hS0 (Rat.natCast_nonneg (a := (F + ((ct : Nat) : Rat)).den)) (show F + ((ct : Nat) : Rat) ≤ 20500 by grind) e1
        have e4 := Rat.mul_nonneg hS0 (Rat.natCast_nonneg (a := (F + ((ct : Nat) : Rat)).den))
        exact zfit_of h9 (by grind) (by grind)
      have hSdp := Rat.den_pos (F + ((ct : Nat) : Rat))
      have hwdp := Rat.den_pos (w s)
      unfold zfit at v1 v2 hSn
      rw [i64_eq (by omega) (by omega), i64_eq (by omega) (by omega)]
      refine ⟨by omega, fun z => hno ω hfin (fun gd => z (by rw [hiff.mpr gd])), fun z => ⟨by omega, fun z2 => hno ω hfin (fun gd => z2 (by rw [hiff.mpr gd])), fun z2 => hy ω hfin (hiff.mp ?_)⟩⟩
      rw [rat_nd (F + ((ct : Nat) : Rat)), rat_nd (w s), z, show (F + ((ct : Nat) : Rat)).den = (w s).den by omega]
    · show (0 : Rat) = ((0 : Nat) : Rat) / ((D : Nat) : Rat)
      have : ((0 : Nat) : Rat) = 0 := rfl
      rw [this]; grind
    · show (0 : Rat) ≤ 972 * ((0 : Nat) : Rat)
      have : ((0 : Nat) : Rat) = 0 := rfl
      rw [this]; grind
  -- what is asked first
  have hsm : (0 : Rat) < c_sm (G 0 0) (wtR G) (3 * s + c) := (game_ok hW hw s _ hs ⟨c, hc, rfl⟩).2
  have mid : ¬ stop G aim s → L_X12_isGood_17 (i32 aim) (i32 s) (i32 c) σ Q := fun hns => by
    refine v_X12_isGood_17 (m_numberOf ha ?_)
    simp (disch := omega) only [n0, n1, n2, n3, n4, n5, n6, n7, n8, n9, n49, n97, n98, n114, n102, n115, n119, n109, n112, i32_add, i32_mul, i32_N, i32_le, i32_lt, i32_eq, vpi_iff]
    rintro _ rfl
    have hd9 := hW.2.2.2.1
    refine ⟨fun z => ?_, fun z => ?_⟩
    · refine v_X12_isGood_44 ?_
      simp (disch := omega) only [n0, n1, n2, n3, n4, n5, n6, n7, n8, n9, n49, n97, n98, n114, n102, n115, n119, n109, n112, i32_add, i32_mul, i32_N, i32_le, i32_lt, i32_eq, vpi_iff]
      refine ⟨fun _ => v_X12_isGood_60 ?_, fun y => absurd y z⟩
      simp (disch := omega) only [n0, n1, n2, n3, n4, n5, n6, n7, n8, n9, n49, n97, n98, n114, n102, n115, n119, n109, n112, i32_add, i32_mul, i32_N, i32_le, i32_lt, i32_eq, vpi_iff]
      refine ⟨fun _ => m_cost hW hG hm21 (by unfold okA at ha; omega) ?_, fun y => absurd y z⟩
      have hcl := costG_le hW aim hm21
      rw [hG.1.2.1, hG.1.2.2.1, i32_64 (by omega)]
      refine core _ _ _ hd9.2.1 (by omega) (by omega) hd9.2.2 hcl ?_
      rw [← sm_eq hW hm21]
      have hdd : (0 : Rat) < ((G 9 1 : Nat) : Rat) := Rat.natCast_pos.mpr (by omega)
      have hk : gdG G aim w s (3 * s + c) ↔ ((G 9 0 : Nat) : Rat) * c_ex (G 0 0) (wtR G) w (3 * s + c) + ((G 9 1 : Nat) : Rat) * c_sm (G 0 0) (wtR G) (3 * s + c) * ((costG G aim (3 * s + c) : Nat) : Rat) = ((G 9 1 : Nat) : Rat) * (c_sm (G 0 0) (wtR G) (3 * s + c) * w s) := by
        unfold gdG ahR tgR KG
        rw [if_neg z, if_neg z]
        exact ⟨fun y => y.resolve_left hns, Or.inr⟩
      rw [hk]
      have hprod := Rat.mul_pos hsm hdd
      generalize c_sm (G 0 0) (wtR G) (3 * s + c) = S at *
      generalize c_ex (G 0 0) (wtR G) w (3 * s + c) = E at *
      generalize ((costG G aim (3 * s + c) : Nat) : Rat) = C at *
      generalize ((G 9 1 : Nat) : Rat) = U at *
      generalize ((G 9 0 : Nat) : Rat) = O at *
      generalize w s = W at *
      have e1 : E * O / (S * U) * (S * U) = E * O := by grind
      generalize hX : E * O / (S * U) = X at *
      constructor
      · intro h; subst h; grind
      · intro h
        have : (X + C) * (S * U) = W * (S * U) := by grind
        have h2 : (X + C - W) * (S * U) = 0 := by grind
        rcases Rat.mul_eq_zero.mp h2 with y | y
        · grind
        · grind
    · refine v_X12_isGood_44 ?_
      simp (disch := omega) only [n0, n1, n2, n3, n4, n5, n6, n7, n8, n9, n49, n97, n98, n114, n102, n115, n119, n109, n112, i32_add, i32_mul, i32_N, i32_le, i32_lt, i32_eq, vpi_iff]
      refine ⟨fun y => absurd z y, fun _ => v_X12_isGood_60 ?_⟩
      simp (disch := omega) only [n0, n1, n2, n3, n4, n5, n6, n7, n8, n9, n49, n97, n98, n114, n102, n115, n119, n109, n112, i32_add, i32_mul, i32_N, i32_le, i32_lt, i32_eq, vpi_iff]
      refine ⟨fun y => absurd z y, fun _ => ?_⟩
      rw [show (0 : Int64) = i64 ((0 : Nat) : Int) from rfl]
      refine core 1 1 0 (by omega) (by omega) (by omega) (by omega) (by omega) ?_
      rw [← sm_eq hW hm21]
      have hk : gdG G aim w s (3 * s + c) ↔ c_ex (G 0 0) (wtR G) w (3 * s + c) = c_sm (G 0 0) (wtR G) (3 * s + c) * w s := by
        unfold gdG ahR tgR
        rw [if_pos z, if_pos z]
        exact ⟨fun y => y.resolve_left hns, Or.inr⟩
      rw [hk]
      have o1 : ((1 : Nat) : Rat) = 1 := rfl
      have o0 : ((0 : Nat) : Rat) = 0 := rfl
      rw [o1, o0]
      generalize c_sm (G 0 0) (wtR G) (3 * s + c) = S at *
      generalize c_ex (G 0 0) (wtR G) w (3 * s + c) = E at *
      generalize w s = W at *
      have e1 : E * 1 / (S * 1) * S = E := by grind
      generalize hX : E * 1 / (S * 1) = X at *
      constructor
      · intro h; grind
      · intro h
        have h2 : (X - W) * S = 0 := by grind
        rcases Rat.mul_eq_zero.mp h2 with y | y
        · grind
        · grind
  refine v_X12_isGood ?_
  simp (disch := omega) only [n0, n1, n2, n3, n4, n5, n6, n7, n8, n9, n49, n97, n98, n114, n102, n115, n119, n109, n112, i32_add, i32_mul, i32_N, i32_le, i32_lt, i32_eq, vpi_iff]
  refine ⟨fun z => mid (fun y => z y.1), fun z => ⟨by omega, ?_⟩⟩
  have h8 := (hW.2.1 s (by omega)).2.2.2.1
  rw [(hG.2.2.1 s (by omega)).2.2.1]
  simp (disch := omega) only [n0, n1, n2, n3, n4, n5, n6, n7, n8, n9, n49, n97, n98, n114, n102, n115, n119, n109, n112, i32_add, i32_mul, i32_N, i32_le, i32_lt, i32_eq, vpi_iff]
  exact ⟨fun y => mid (fun y2 => y2.2 y), fun y => hy σ (Fr.rf σ) (Or.inl ⟨z, y⟩)⟩
/-- the class's own -/
theorem c_isGood {s c d : Nat} {u : Nat → Nat} {Q : Int32 → cg_S → Prop} (hC : CG σ G ch) (hW : GW G) (ha : okA aim) (hU : AU σ (G 0 0) x d u) (hs : s < G 0 0) (hc : c < G 3 s) (hy : gdG G aim x s (3 * s + c) → Q 1 σ) (hno : ¬ gdG G aim x s (3 * s + c) → Q 0 σ) : M_X0_isGood (i32 aim) (i32 s) (i32 (3 * s + c)) σ Q := by
  have hn := hW.1
  have ha2 := okA_lt ha
  have g3 := (hW.2.1 s (by omega)).2.2.1
  have hm21 : 3 * s + c < 21 := by omega
  have g6 := (hW.2.2.1 (3 * s + c) hm21).2.2.1
  obtain ⟨u1, u2, u3, u4⟩ := id hU
  obtain ⟨w1, w2, w3⟩ := u4 s hs
  have hd9 := hW.2.2.2.1
  have hdr : (0 : Rat) < ((d : Nat) : Rat) := Rat.natCast_pos.mpr u1
  have hxu : ((d : Nat) : Rat) * x s = ((u s : Nat) : Rat) := by rw [w3]; grind
  -- the comparison
  have fin : ∀ k : Nat, k ≤ 162 * d * 18 → (k : Rat) = ((d : Nat) : Rat) * tgR G aim x s (3 * s + c) → ¬ stop G aim s → L_X0_isGood_63 (i32 aim) (i32 (3 * s + c)) (i64 k) σ Q := fun k hk hke hns => by
    refine v_X0_isGood_63 (c_ahead hC hW ha hm21 hU (fun z e1 e2 => ?_))
    rw [i64_eq (by omega) (by omega)]
    have hiff : (k : Int) = (z : Int) ↔ gdG G aim x s (3 * s + c) := by
      have h1 : (k : Int) = (z : Int) ↔ ((k : Nat) : Rat) = ((z : Nat) : Rat) := by
        rw [Rat.natCast_inj]; omega
      rw [h1, hke, e1]
      unfold gdG
      constructor
      · intro h
        right
        have h2 : ((d : Nat) : Rat) * (ahR G aim x (3 * s + c) - tgR G aim x s (3 * s + c)) = 0 := by grind
        rcases Rat.mul_eq_zero.mp h2 with y | y
        · grind
        · grind
      · intro h
        rw [h.resolve_left hns]
    exact ⟨fun y => hno (fun gd => y (hiff.mpr gd)), fun y => hy (hiff.mp y)⟩
  have m1 : u s * G 6 (3 * s + c) ≤ 162 * d * 6 := Nat.mul_le_mul w1 g6
  have mid : ¬ stop G aim s → L_X0_isGood_19 (i32 aim) (i32 s) (i32 (3 * s + c)) σ Q := fun hns => by
    refine v_X0_isGood_19 ?_
    simp (disch := omega) only [n0, n1, n2, n3, n4, n5, n6, n7, n8, n9, n49, n97, n98, n114, n102, n115, n119, n109, n112, i32_add, i32_mul, i32_N, i32_le, i32_lt, i32_eq, vpi_iff]
    rw [w2, (hC.2.2 _ hm21).2.2.1, hC.1.2.2.2.1, i32_64 (by omega), i32_64 (by omega), i64_mul, ← Int.natCast_mul]
    refine ⟨by omega, by omega, ?_⟩
    rintro _ rfl
    refine ⟨fun z => ?_, fun z => ?_⟩
    · rw [i64_mul, ← Int.natCast_mul]
      have m2 : u s * G 6 (3 * s + c) * G 9 1 ≤ 162 * d * 6 * 3 := Nat.mul_le_mul m1 hd9.2.2
      refine fin _ (by omega) ?_ hns
      unfold tgR
      rw [if_neg z, Rat.natCast_mul, Rat.natCast_mul, sm_eq hW hm21, ← hxu]
      grind
    · refine fin _ (by omega) ?_ hns
      unfold tgR
      rw [if_pos z, Rat.natCast_mul, sm_eq hW hm21, ← hxu]
      grind
  refine v_X0_isGood ?_
  simp (disch := omega) only [n0, n1, n2, n3, n4, n5, n6, n7, n8, n9, n49, n97, n98, n114, n102, n115, n119, n109, n112, i32_add, i32_mul, i32_N, i32_le, i32_lt, i32_eq, vpi_iff]
  refine ⟨fun z => mid (fun y => z y.1), fun z => c_isT hC (by omega) (fun hT => ⟨fun y => absurd y (by decide), fun _ => hy (Or.inl ⟨z, hT⟩)⟩) (fun hT => ⟨fun _ => mid (fun y => hT y.2), fun y => absurd rfl y⟩)⟩
end GD
