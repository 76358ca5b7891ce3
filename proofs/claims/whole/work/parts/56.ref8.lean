/-! THE REFERENCE: tells all values, compares, gets -/
/-- the values told -/
def VX (τ : cg_S) (n : Nat) (x : Nat → Rat) : Prop := ∀ s, s < n → zfit (x s).num ∧ zfit ((x s).den : Nat) ∧ τ.2.1 22 s = i64 (x s).num ∧ τ.2.1 23 s = i64 ((x s).den : Nat)
theorem VX.fr {σ τ : cg_S} {n : Nat} {x : Nat → Rat} {I L D : List Nat} (h : VX σ n x) (hf : Fr I L D σ τ) (h0 : 22 ∉ L ∧ 23 ∉ L) : VX τ n x := by
  unfold VX
  rw [hf.2.1 22 h0.1, hf.2.1 23 h0.2]
  exact h
theorem m_tellsAll {n : Nat} {x : Nat → Rat} {σ : cg_S} {Q : cg_S → Prop} (hn : n ≤ 7) (h1 : σ.1 0 1 = i32 n) (hS : Sv σ n x) (h : ∀ τ, Fr [] [0, 22, 23] [] σ τ → (∀ j, j ≠ 40 → j ≠ 41 → τ.2.1 0 j = σ.2.1 0 j) → VX τ n x → Q τ) : M_X12_tellsAll σ Q := by
  obtain ⟨d, X, hd0, hd, h39, hX⟩ := hS
  refine v_X12_tellsAll ?_
  refine up (n := n) (fun k τ => Fr [] [0, 22, 23] [] σ τ ∧ (∀ j, j ≠ 40 → j ≠ 41 → τ.2.1 0 j = σ.2.1 0 j) ∧ VX τ k x) (fun w τ => L_X12_tellsAll_2 w τ Q) ?_ ?_ 0 σ (by omega) ⟨Fr.rf σ, fun _ _ _ => rfl, fun s hs => by omega⟩
  · intro k τ hk hP kk
    obtain ⟨hP1, hP2, hP3⟩ := hP
    obtain ⟨z1, z2, z3⟩ := hX k hk
    refine v_X12_tellsAll_2 ?_
    rw [hP1.1 0 (by decide), h1]
    simp (disch := omega) only [n0, n1, n2, n3, n4, n5, n6, n7, n8, n9, n49, n97, n98, n114, n102, n115, n119, n109, n112, i32_add, i32_mul, i32_N, i32_le, i32_lt, i32_eq, vpi_iff]
    refine ⟨fun z => by omega, fun _ => v_X12_solved ?_⟩
    rw [i32_87]
    simp (disch := omega) only [n0, n1, n2, n3, n4, n5, n6, n7, n8, n9, n49, n97, n98, n114, n102, n115, n119, n109, n112, i32_add, i32_mul, i32_N, i32_le, i32_lt, i32_eq, vpi_iff]
    refine ⟨by omega, ?_⟩
    rw [hP2 39 (by decide) (by decide), h39, hP1.2.1 21 (by decide), z2]
    have hq : ((X k : Int) : Rat) / (d : Rat) = x k := by
      rw [z3]
      have : (d : Rat) ≠ 0 := by
        intro z
        have : d = 0 := Rat.intCast_eq_zero_iff.mp z
        omega
      exact Rat.mul_div_cancel this
    refine m_lowers z1 hd (by omega) (fun τ1 f1 f2 e40 e41 => ?_)
    rw [hq] at e40 e41
    refine ⟨by omega, ?_⟩
    rintro _ rfl
    refine ⟨by omega, ?_⟩
    rintro _ rfl
    have b := rat_num_le (a := X k) (b := d) (by omega)
    rw [hq] at b
    unfold zfit at z1 hd
    refine kk _ ⟨hP1.tr ((f1.mo (by simp) (by simp) (by simp)).tr ((Fr.l (by decide)).tr (Fr.l (by decide)))), fun j h1 h2 => ?_, fun s hs => ?_⟩
    · rw [rl, if_neg (by decide), rl, if_neg (by decide), f2 j h1 h2, hP2 j h1 h2]
    · by_cases c : s = k
      · subst c
        refine ⟨by unfold zfit; omega, by unfold zfit; omega, ?_, ?_⟩
        · rw [rl, if_neg (by decide), rl, if_pos rfl, if_pos rfl, e40]
        · rw [rl, if_pos rfl, if_pos rfl, rl, if_neg (by decide), e41]
      · obtain ⟨y1, y2, y3, y4⟩ := hP3 s (by omega)
        refine ⟨y1, y2, ?_, ?_⟩
        · rw [rl, if_neg (by decide), rl, if_pos rfl, if_neg c, f1.2.1 22 (by decide), y3]
        · rw [rl, if_pos rfl, if_neg c, rl, if_neg (by decide), f1.2.1 23 (by decide), y4]
  · intro τ hP
    refine v_X12_tellsAll_2 ?_
    rw [hP.1.1 0 (by decide), h1]
    refine ⟨fun _ => h τ hP.1 hP.2.1 hP.2.2, fun z => absurd ((i32_le (by omega) (by omega)).mpr (Nat.le_refl _)) z⟩
theorem i64_divN {x y : Nat} (hx : (x : Int) < 9223372036854775808) (hy : (y : Int) < 9223372036854775808) (h0 : y ≠ 0) : i64 x / i64 y = i64 ((x / y : Nat) : Int) := by
  rw [i64_tdiv (by omega) ⟨by omega, hx⟩ ⟨by omega, hy⟩, ← Int.ofNat_tdiv]
theorem m_compare17 {σ : cg_S} {Q : Int32 → cg_S → Prop} : ∀ (b a c d : Nat) (sg : Int32), b ≠ 0 → d ≠ 0 → (a : Int) < 9223372036854775808 → (b : Int) < 9223372036854775808 → (c : Int) < 9223372036854775808 → (d : Int) < 9223372036854775808 → Q (if a * d = c * b then 0 else if c * b < a * d then sg else -sg) σ → L_X12_compare_17 (i64 a) (i64 b) (i64 c) (i64 d) sg σ Q := by
  intro b
  induction b using Nat.strongRecOn with
  | _ b ih =>
    intro a c d sg hb hd ha1 hb1 hc1 hd1 hQ
    have q1 := Nat.div_add_mod a b
    have q2 := Nat.div_add_mod c d
    have r1 : a % b < b := Nat.mod_lt _ (by omega)
    have r2 : c % d < d := Nat.mod_lt _ (by omega)
    have d1 : a / b ≤ a := Nat.div_le_self _ _
    have d2 : c / d ≤ c := Nat.div_le_self _ _
    have m1 : a % b ≤ a := Nat.mod_le _ _
    have m2 : c % d ≤ c := Nat.mod_le _ _
    have nb : ¬ i64 (b : Int) = 0 := by rw [l0, i64_eq (by omega) (by omega)]; omega
    have nd : ¬ i64 (d : Int) = 0 := by rw [l0, i64_eq (by omega) (by omega)]; omega
    have k1 : (0 : Int) ≤ ((a / b : Nat) : Int) := Int.natCast_nonneg _
    have k2 : (0 : Int) ≤ ((c / d : Nat) : Int) := Int.natCast_nonneg _
    have e1 : a * d = (b * d) * (a / b) + (a % b) * d := by
      have : a * d = (b * (a / b) + a % b) * d := by rw [q1]
      rw [this]; grind
    have e2 : c * b = (b * d) * (c / d) + (c % d) * b := by
      have : c * b = (d * (c / d) + c % d) * b := by rw [q2]
      rw [this]; grind
    have l1 : (a % b) * d < b * d := (Nat.mul_lt_mul_right (by omega)).mpr r1
    have l2 : (c % d) * b < b * d := by rw [Nat.mul_comm b d]; exact (Nat.mul_lt_mul_right (by omega)).mpr r2
    refine v_X12_compare_17 ⟨nb, ?_⟩
    rintro _ rfl
    refine ⟨nd, ?_⟩
    rintro _ rfl
    rw [i64_divN ha1 hb1 hb, i64_divN hc1 hd1 hd, i64_eq (by omega) (by omega), i64_le (by omega) (by omega)]
    refine ⟨fun z => ⟨nb, ?_⟩, fun z => ⟨fun z2 => ?_, fun z2 => ?_⟩⟩
    · rw [← i64_divN ha1 hb1 hb, i64_emod ha1 hb1 hb]
      rintro _ rfl
      refine ⟨nd, ?_⟩
      rw [← i64_divN hc1 hd1 hd, i64_emod hc1 hd1 hd]
      rintro _ rfl
      have z' : a / b = c / d := by omega
      rw [z'] at e1
      generalize (b * d) * (c / d) = w at e1 e2
      have x6 : i64 ((a % b : Nat) : Int) = 0 ↔ a % b = 0 := by rw [l0, i64_eq (by omega) (by omega)]; omega
      have x8 : i64 ((c % d : Nat) : Int) = 0 ↔ c % d = 0 := by rw [l0, i64_eq (by omega) (by omega)]; omega
      have x68 : i64 ((a % b : Nat) : Int) = i64 ((c % d : Nat) : Int) ↔ a % b = c % d := by rw [i64_eq (by omega) (by omega)]; omega
      have last : (a % b = 0 ∨ c % d = 0) → L_X12_compare_84 (i64 ((a % b : Nat) : Int)) (i64 ((c % d : Nat) : Int)) sg σ Q := by
        intro hz
        refine v_X12_compare_84 ?_
        rw [x68, x6]
        refine ⟨fun y => ⟨fun y2 => ?_, fun y2 => ?_⟩, fun y => ?_⟩
        · have y3 : c % d = 0 := by omega
          rw [y3] at e2
          have : 0 < a % b * d := Nat.mul_pos (by omega) (by omega)
          rw [if_neg (by omega), if_pos (by omega)] at hQ
          exact hQ
        · rw [y2] at e1
          have : 0 < c % d * b := Nat.mul_pos (by omega) (by omega)
          rw [if_neg (by omega), if_neg (by omega)] at hQ
          exact hQ
        · have y1 : a % b = 0 := by omega
          have y3 : c % d = 0 := by omega
          rw [y1] at e1
          rw [y3] at e2
          rw [if_pos (by omega)] at hQ
          exact hQ
      rw [x6, x8]
      refine ⟨fun y => last (Or.inl y), fun y => ⟨fun y2 => ?_, fun y2 => last (Or.inr y2)⟩⟩
      rintro _ rfl
      refine ih (a % b) r1 b d (c % d) (-sg) y y2 hb1 (by omega) hd1 (by omega) ?_
      have f1 : b * (c % d) = c % d * b := Nat.mul_comm _ _
      have f2 : d * (a % b) = a % b * d := Nat.mul_comm _ _
      rw [f1, f2, Int32.neg_neg]
      by_cases c1 : a * d = c * b
      · rw [if_pos c1] at hQ
        rw [if_pos (by omega)]; exact hQ
      · rw [if_neg c1] at hQ
        rw [if_neg (by omega)]
        by_cases c2 : c * b < a * d
        · rw [if_pos c2] at hQ
          rw [if_neg (by omega)]; exact hQ
        · rw [if_neg c2] at hQ
          rw [if_pos (by omega)]; exact hQ
    · have z3 : c / d + 1 ≤ a / b := by omega
      have := Nat.mul_le_mul_left (b * d) z3
      rw [Nat.mul_add, Nat.mul_one] at this
      rw [if_neg (by omega), if_pos (by omega)] at hQ
      exact hQ
    · have z3 : a / b + 1 ≤ c / d := by omega
      have := Nat.mul_le_mul_left (b * d) z3
      rw [Nat.mul_add, Nat.mul_one] at this
      rw [if_neg (by omega), if_neg (by omega)] at hQ
      exact hQ
theorem m_compare {x y : Rat} {σ : cg_S} {Q : Int32 → cg_S → Prop} (hx : 0 ≤ x) (hy : 0 ≤ y) (h1 : zfit x.num) (h2 : zfit (x.den : Nat)) (h3 : zfit y.num) (h4 : zfit (y.den : Nat)) (h : Q (if x = y then 0 else if y < x then 1 else -1) σ) : M_X12_compare (i64 x.num) (i64 (x.den : Nat)) (i64 y.num) (i64 (y.den : Nat)) σ Q := by
  refine v_X12_compare ?_
  have px : 0 ≤ x.num := Rat.num_nonneg.mpr hx
  have py : 0 ≤ y.num := Rat.num_nonneg.mpr hy
  have dx := x.den_pos
  have dy := y.den_pos
  unfold zfit at h1 h2 h3 h4
  have hk := m_compare17 (σ := σ) (Q := Q) x.den x.num.toNat y.num.toNat y.den 1 (by omega) (by omega) (by omega) (by omega) (by omega) (by omega)
  rw [Int.toNat_of_nonneg px, Int.toNat_of_nonneg py] at hk
  refine hk ?_
  have c1 : ((x.num.toNat * y.den : Nat) : Int) = x.num * (y.den : Int) := by rw [Int.natCast_mul, Int.toNat_of_nonneg px]
  have c2 : ((y.num.toNat * x.den : Nat) : Int) = y.num * (x.den : Int) := by rw [Int.natCast_mul, Int.toNat_of_nonneg py]
  have l1 : y < x ↔ y.num.toNat * x.den < x.num.toNat * y.den := by rw [Rat.lt_iff]; omega
  have l2 : x < y ↔ x.num.toNat * y.den < y.num.toNat * x.den := by rw [Rat.lt_iff]; omega
  have l3 : x = y ↔ x.num.toNat * y.den = y.num.toNat * x.den := by
    constructor
    · intro e; rw [e] at l1; have := Rat.lt_irrefl (a := y); rw [e]
    · intro e
      refine Rat.le_antisymm (Rat.not_lt.mp (fun z => ?_)) (Rat.not_lt.mp (fun z => ?_))
      · have := l1.mp z; omega
      · have := l2.mp z; omega
  simp only [← l1, ← l3]
  exact h
theorem m_gets {p : Nat → Nat} {G : Gm} {aim : Nat} {σ : cg_S} {Q : cg_S → Prop} (hW : GW G) (hw : whole G) (hpk : pkOk G p) (ha : aim = 114 ∨ aim = 102 ∨ aim = 115 ∨ aim = 119) (hp : MP σ p) (hG : MG σ G) (h : ∀ τ x, Fr [16, 20] [0, 21, 22, 23] [] σ τ → (∀ j, j ≠ 39 → j ≠ 40 → j ≠ 41 → τ.2.1 0 j = σ.2.1 0 j) → XS G aim p x → VX τ (G 0 0) x → Q τ) : M_X12_gets (i32 aim) σ Q := by
  have hn := hW.1
  have hp2 : ∀ s, s < 7 → p s ≤ 2 := fun s hs => (hp s hs).2
  refine v_X12_gets ?_
  simp (disch := omega) only [n0, n1, n2, n3, n4, n5, n6, n7, n8, n9, n49, n97, n98, n114, n102, n115, n119, n109, n112, i32_add, i32_mul, i32_N, i32_le, i32_lt, i32_eq, vpi_iff]
  refine ⟨fun _ => ⟨fun _ => ?_, fun z => by omega⟩, fun z => by omega⟩
  refine up (n := G 0 0) (fun s τ => Fr [16] [] [] σ τ ∧ ∀ t, t < s → τ.1 16 t = i32 (G 8 t)) (fun w τ => L_X12_gets_24 (i32 aim) w τ Q) ?_ ?_ 0 σ (by omega) ⟨Fr.rf σ, fun t ht => by omega⟩
  · intro s τ hs hP kk
    have hG2 := hG.fr hP.1 (by decide)
    refine v_X12_gets_24 ?_
    rw [hG2.1.1]
    simp (disch := omega) only [n0, n1, n2, n3, n4, n5, n6, n7, n8, n9, n49, n97, n98, n114, n102, n115, n119, n109, n112, i32_add, i32_mul, i32_N, i32_le, i32_lt, i32_eq, vpi_iff]
    refine ⟨fun z => by omega, fun _ => ⟨by omega, by omega, ?_⟩⟩
    rintro _ rfl
    have h8 := (hW.2.1 s (by omega)).2.2.2.1
    rw [(hG2.2.2.1 s (by omega)).2.2.1, vnb h8]
    refine kk _ ⟨hP.1.tr (Fr.i (by decide)), fun t ht => ?_⟩
    rw [ri, if_pos rfl]
    by_cases c : t = s
    · subst c; rw [if_pos rfl]
    · rw [if_neg c, hP.2 t (by omega)]
  · intro τ hP
    have hG2 := hG.fr hP.1 (by decide)
    have hp3 := hp.fr hP.1 (by decide)
    refine v_X12_gets_24 ?_
    rw [hG2.1.1]
    simp (disch := omega) only [n0, n1, n2, n3, n4, n5, n6, n7, n8, n9, n49, n97, n98, n114, n102, n115, n119, n109, n112, i32_add, i32_mul, i32_N, i32_le, i32_lt, i32_eq, vpi_iff]
    refine ⟨fun _ => ⟨fun z => ?_, fun z => ?_⟩, fun z => by omega⟩
    · refine up (n := G 0 0) (fun s υ => Fr [] [21] [] τ υ ∧ ∀ a t, a < s → t < 8 → υ.2.1 21 (8 * a + t) = i64 (rowS G p a (costG G aim (mv p a) : Nat) (G 9 0) (G 9 1) t)) (fun w υ => L_X12_gets_62 (i32 aim) w υ Q) ?_ ?_ 0 τ (by omega) ⟨Fr.rf τ, fun a t ha => by omega⟩
      · intro s υ hs hU kk
        have hG3 := hG2.fr hU.1 (by decide)
        have hp4 := hp3.fr hU.1 (by decide)
        refine v_X12_gets_62 ?_
        rw [hG3.1.1]
        simp (disch := omega) only [n0, n1, n2, n3, n4, n5, n6, n7, n8, n9, n49, n97, n98, n114, n102, n115, n119, n109, n112, i32_add, i32_mul, i32_N, i32_le, i32_lt, i32_eq, vpi_iff]
        refine ⟨fun y => by omega, fun _ => ⟨fun y => absurd y z, fun _ => ?_⟩⟩
        refine m_at (by omega) hp4 ?_
        have hcl := costG_le hW aim (mv_lt (show s < 7 by omega) (hp2 s (by omega)))
        refine m_cost hW hG3 (mv_lt (by omega) (hp2 s (by omega))) (by omega) ?_
        rw [i32_64 (by omega), hG3.1.2.1, hG3.1.2.2.1]
        refine m_laysStep (by omega) (by have := hW.2.2.2.1; omega) hW.2.2.2.1.2.2 hW hp4 hG3 (fun τ' g1 g2 g3 => kk τ' ⟨hU.1.tr g1, fun a t ha ht => ?_⟩)
        by_cases c : a = s
        · subst c; exact g2 t ht
        · rw [g3 _ (by omega)]; exact hU.2 a t (by omega) ht
      · intro υ hU
        have hG3 := hG2.fr hU.1 (by decide)
        refine v_X12_gets_62 ?_
        rw [hG3.1.1]
        refine ⟨fun _ => ?_, fun y => absurd ((i32_le (by omega) (by omega)).mpr (Nat.le_refl _)) y⟩
        refine v_X12_gets_106 ?_
        simp (disch := omega) only [n0, n1, n2, n3, n4, n5, n6, n7, n8, n9, n49, n97, n98, n114, n102, n115, n119, n109, n112, i32_add, i32_mul, i32_N, i32_le, i32_lt, i32_eq, vpi_iff]
        refine ⟨fun y => absurd y z, fun _ => ?_⟩
        obtain ⟨hfit, hX⟩ := cost_fits (aim := aim) hW hw hpk hp2
        refine m_sys (N := fun _ => false) (f := fun _ => 0) (ov := G 9 0) (un := G 9 1) (c := fun s => ((costG G aim (mv p s) : Nat) : Int)) hW hG3 hp2 (cost_piv hW hw hpk hp2) hfit hX (fun s t hs ht => ?_) (fun τ' g1 g2 g3 => ?_)
        · exact hU.2 s t hs ht
        · refine v_X12_gets_116 (m_tellsAll hn (hG3.fr g1 (by decide)).1.1 g3 (fun τ2 k1 k2 k3 => ?_))
          refine h τ2 _ ((hP.1.mo (by simp) (by simp) (by simp)).tr ((hU.1.mo (by simp) (by simp) (by simp)).tr ((g1.mo (by simp) (by simp) (by simp)).tr (k1.mo (by simp) (by simp) (by simp))))) (fun j a b c => ?_) ?_ k3
          · rw [k2 j b c, g2 j a, hU.1.2.1 0 (by decide), hP.1.2.1 0 (by decide)]
          · unfold XS
            rw [if_neg z]
            exact (cost_sol (aim := aim) hW hw hpk hp2).2.1
    · refine m_chances (tt := G 8) hW hw hpk hp3 hG2 (fun s hs => ⟨hP.2 s hs, (hW.2.1 s (by omega)).2.2.2.1⟩) (fun υ x g1 g2 g3 g4 => ?_)
      have hG3 := hG2.fr g1 (by decide)
      have hn3 := hG3.1.1
      refine v_X12_gets_62 ?_
      rw [hn3]
      simp (disch := omega) only [n0, n1, n2, n3, n4, n5, n6, n7, n8, n9, n49, n97, n98, n114, n102, n115, n119, n109, n112, i32_add, i32_mul, i32_N, i32_le, i32_lt, i32_eq, vpi_iff]
      have fin : L_X12_gets_106 (i32 aim) υ Q := by
        refine v_X12_gets_106 ?_
        simp (disch := omega) only [n0, n1, n2, n3, n4, n5, n6, n7, n8, n9, n49, n97, n98, n114, n102, n115, n119, n109, n112, i32_add, i32_mul, i32_N, i32_le, i32_lt, i32_eq, vpi_iff]
        refine ⟨fun _ => ?_, fun y => absurd z y⟩
        refine v_X12_gets_116 (m_tellsAll hn hn3 g4 (fun τ2 k1 k2 k3 => ?_))
        refine h τ2 x ((hP.1.mo (by simp) (by simp) (by simp)).tr ((g1.mo (by simp) (by simp) (by simp)).tr (k1.mo (by simp) (by simp) (by simp)))) (fun j a b c => ?_) ?_ k3
        · rw [k2 j b c, g2 j a, hP.1.2.1 0 (by decide)]
        · unfold XS
          rw [if_pos z]
          exact g3
      refine ⟨fun _ => fin, fun _ => ⟨fun _ => fin, fun y => absurd z y⟩⟩
