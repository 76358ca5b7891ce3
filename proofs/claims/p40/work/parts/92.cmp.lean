/-! THE CLASS: fractions are compared -/
theorem div_cmp {a b c d : Nat} (hb : 0 < b) (hd : 0 < d) : (a * d < c * b ↔ (a / b < c / d ∨ (a / b = c / d ∧ (a % b) * d < (c % d) * b))) := by
  have q1 := Nat.div_add_mod a b
  have q2 := Nat.div_add_mod c d
  have r1 : a % b < b := Nat.mod_lt _ (by omega)
  have r2 : c % d < d := Nat.mod_lt _ (by omega)
  have e1 : a * d = (b * d) * (a / b) + (a % b) * d := by
    have : a * d = (b * (a / b) + a % b) * d := by rw [q1]
    rw [this]; grind
  have e2 : c * b = (b * d) * (c / d) + (c % d) * b := by
    have : c * b = (d * (c / d) + c % d) * b := by rw [q2]
    rw [this]; grind
  have l1 : (a % b) * d < b * d := (Nat.mul_lt_mul_right (by omega)).mpr r1
  have l2 : (c % d) * b < b * d := by rw [Nat.mul_comm b d]; exact (Nat.mul_lt_mul_right (by omega)).mpr r2
  rcases Nat.lt_trichotomy (a / b) (c / d) with h | h | h
  · have := Nat.mul_le_mul_left (b * d) (show a / b + 1 ≤ c / d from h)
    rw [Nat.mul_add, Nat.mul_one] at this
    exact ⟨fun _ => Or.inl h, fun _ => by omega⟩
  · rw [h] at e1
    constructor
    · intro z; exact Or.inr ⟨h, by omega⟩
    · rintro (z | z)
      · omega
      · omega
  · have := Nat.mul_le_mul_left (b * d) (show c / d + 1 ≤ a / b from h)
    rw [Nat.mul_add, Nat.mul_one] at this
    constructor
    · intro z; omega
    · rintro (z | z)
      · omega
      · omega
theorem natq_lt {a b c d : Nat} (hb : 0 < b) (hd : 0 < d) : ((a : Nat) : Rat) / ((b : Nat) : Rat) < ((c : Nat) : Rat) / ((d : Nat) : Rat) ↔ a * d < c * b := by
  rw [rat_div_lt (Rat.natCast_pos.mpr hb) (Rat.natCast_pos.mpr hd), ← Rat.natCast_mul, ← Rat.natCast_mul, Rat.natCast_lt_natCast]
theorem c_cmp {a b c d : Nat} {σ : cg_S} {Q : Int32 → cg_S → Prop} (hb : 0 < b) (hd : 0 < d) (ha1 : (a : Int) < 9223372036854775808) (hc1 : (c : Int) < 9223372036854775808) (hb1 : b ≤ 612220032) (hd1 : d ≤ 612220032) (hlt : ((a : Nat) : Rat) / ((b : Nat) : Rat) < ((c : Nat) : Rat) / ((d : Nat) : Rat) → Q (-1) σ) (hgt : ((c : Nat) : Rat) / ((d : Nat) : Rat) < ((a : Nat) : Rat) / ((b : Nat) : Rat) → Q 1 σ) (heq : ((a : Nat) : Rat) / ((b : Nat) : Rat) = ((c : Nat) : Rat) / ((d : Nat) : Rat) → Q 0 σ) : M_X11_compareFractions (i64 a) (i64 b) (i64 c) (i64 d) σ Q := by
  have nb : ¬ i64 (b : Int) = 0 := by rw [l0, i64_eq (by omega) (by omega)]; omega
  have nd : ¬ i64 (d : Int) = 0 := by rw [l0, i64_eq (by omega) (by omega)]; omega
  have r1 : a % b < b := Nat.mod_lt _ (by omega)
  have r2 : c % d < d := Nat.mod_lt _ (by omega)
  have k1 : a / b ≤ a := Nat.div_le_self _ _
  have k2 : c / d ≤ c := Nat.div_le_self _ _
  have p1 : (0 : Int) ≤ ((a / b : Nat) : Int) := Int.natCast_nonneg _
  have p2 : (0 : Int) ≤ ((c / d : Nat) : Int) := Int.natCast_nonneg _
  rw [natq_lt hb hd, div_cmp hb hd] at hlt
  rw [natq_lt hd hb, div_cmp hd hb] at hgt
  have heq2 : a / b = c / d → (a % b) * d = (c % d) * b → Q 0 σ := fun h1 h2 => heq (by
    refine Rat.le_antisymm (Rat.not_lt.mp (fun z => ?_)) (Rat.not_lt.mp (fun z => ?_))
    · rw [natq_lt hd hb, div_cmp hd hb] at z; omega
    · rw [natq_lt hb hd, div_cmp hb hd] at z; omega)
  refine v_X11_compareFractions (v_X11_quotient ⟨fun _ => ⟨nb, ?_⟩, fun z => absurd z nb⟩)
  refine v_X11_quotient ⟨fun _ => ⟨nd, ?_⟩, fun z => absurd z nd⟩
  have m1 : (a % b) * d ≤ 612220032 * 612220032 := Nat.mul_le_mul (by omega) hd1
  have m2 : (c % d) * b ≤ 612220032 * 612220032 := Nat.mul_le_mul (by omega) hb1
  have c1 : (((a % b : Nat) : Int) * ((d : Nat) : Int)) = (((a % b) * d : Nat) : Int) := by rw [Int.natCast_mul]
  have c2 : (((c % d : Nat) : Int) * ((b : Nat) : Int)) = (((c % d) * b : Nat) : Int) := by rw [Int.natCast_mul]
  refine ⟨fun z => ?_, fun z => ?_⟩
  · rw [i64_emod ha1 (by omega) (by omega), i64_emod hc1 (by omega) (by omega), i64_mul, i64_mul, c1, c2]
    rw [i64_divN ha1 (by omega) (by omega), i64_divN hc1 (by omega) (by omega), i64_eq (by omega) (by omega)] at z
    refine v_J13_compare_74951 ?_
    rw [i64_le (by omega) (by omega), i64_eq (by omega) (by omega)]
    exact ⟨fun y => ⟨fun y2 => hgt (Or.inr ⟨by omega, by omega⟩), fun y2 => heq2 (by omega) (by omega)⟩, fun y => hlt (Or.inr ⟨by omega, by omega⟩)⟩
  · rw [i64_divN ha1 (by omega) (by omega), i64_divN hc1 (by omega) (by omega)] at z ⊢
    rw [i64_eq (by omega) (by omega)] at z
    refine v_J13_compare_74951 ?_
    rw [i64_le (by omega) (by omega), i64_eq (by omega) (by omega)]
    exact ⟨fun y => ⟨fun y2 => hgt (Or.inl (by omega)), fun y2 => absurd y2 z⟩, fun y => hlt (Or.inl (by omega))⟩
/-- a fraction of Values v, with names for the numbers -/
theorem FV.nat {a : cg_S} {v s : Nat} {q : Rat} (h : FV a v s q) : ∃ u d : Nat, (u : Int) < 9223372036854775808 ∧ 0 < d ∧ d ≤ 612220032 ∧ a.2.1 (v + 56) s = i64 u ∧ a.2.1 (v + 64) s = i64 d ∧ q = ((u : Nat) : Rat) / ((d : Nat) : Rat) := by
  obtain ⟨u, d, h1, h2, h3, h4, h5, h6, h7⟩ := h
  unfold zfit at h2
  obtain ⟨x, rfl⟩ := Int.eq_ofNat_of_zero_le h1
  obtain ⟨y, rfl⟩ := Int.eq_ofNat_of_zero_le (Int.le_of_lt h3)
  exact ⟨x, y, h2.2, by omega, by omega, h5, h6, h7⟩
theorem FV.of {a : cg_S} {v s u d : Nat} (h1 : (u : Int) < 9223372036854775808) (h2 : 0 < d) (h3 : d ≤ 612220032) (h4 : a.2.1 (v + 56) s = i64 u) (h5 : a.2.1 (v + 64) s = i64 d) : FV a v s (((u : Nat) : Rat) / ((d : Nat) : Rat)) := ⟨(u : Int), (d : Int), by omega, by unfold zfit; omega, by omega, by omega, h4, h5, rfl⟩
/-- a place of Values is put -/
theorem c_put {v s u d : Nat} {τ : cg_S} {Q : cg_S → Prop} (hv : 11 ≤ v ∧ v ≤ 18) (hs : s < 7) (h1 : (u : Int) < 9223372036854775808) (h2 : 0 < d) (h3 : d ≤ 612220032) (h : ∀ υ, Fr [] [v + 56, v + 64] [] τ υ → FV υ v s (((u : Nat) : Rat) / ((d : Nat) : Rat)) → (∀ t q, t ≠ s → FV τ v t q → FV υ v t q) → Q υ) : M_X10_put v (i32 s) (i64 u) (i64 d) τ Q := by
  refine v_X10_put hv ?_
  simp (disch := omega) only [n0, n1, n2, n3, n4, n5, n6, n7, n8, n9, n49, n97, n98, n114, n102, n115, n119, n109, n112, i32_add, i32_mul, i32_N, i32_le, i32_lt, i32_eq, vpi_iff]
  refine ⟨by omega, ?_⟩
  rintro _ rfl
  refine ⟨by omega, ?_⟩
  rintro _ rfl
  refine h _ ((Fr.l (by simp)).tr (Fr.l (by simp))) (FV.of h1 h2 h3 ?_ ?_) (fun t q ht hF => ?_)
  · rw [rl, if_neg (by omega), rl, if_pos rfl, if_pos rfl]
  · rw [rl, if_pos rfl, if_pos rfl]
  · unfold FV
    rw [rl, if_neg (by omega), rl, if_pos rfl, if_neg ht, rl, if_pos rfl, if_neg ht, rl, if_neg (by omega)]
    exact hF
theorem i64_rl {a b : Nat} : i64 (a : Int) = i64 (a : Int) := rfl
/-- the least so far -/
theorem c_takeLeast {G : Gm} {ch f : Nat} {x y : Nat → Rat} {σ : cg_S} {Q : cg_S → Prop} (hC : CG σ G ch) (hW : GW G) (hf : f ≤ 1) (hx : AW σ (G 0 0) x) (hy : f = 0 → ∀ s, s < G 0 0 → FV σ 13 s (y s)) (h : ∀ τ, Fr [] [69, 77] [] σ τ → (∀ s, s < G 0 0 → FV τ 13 s (if f = 0 then pb 98 (x s) (y s) else x s)) → Q τ) : M_X7_takeLeast (i32 f) σ Q := by
  have hn := hW.1
  obtain ⟨d, u, h1, h2, h3, h4⟩ := hx
  refine v_X7_takeLeast ?_
  rw [h3]
  rintro _ rfl
  refine up (n := G 0 0) (fun k τ => Fr [] [69, 77] [] σ τ ∧ (∀ s, s < k → FV τ 13 s (if f = 0 then pb 98 (x s) (y s) else x s)) ∧ (f = 0 → ∀ s, k ≤ s → s < G 0 0 → FV τ 13 s (y s))) (fun w τ => L_X7_takeLeast_14 (i32 f) (i64 d) w τ Q) ?_ ?_ 0 σ (by omega) ⟨Fr.rf σ, fun s hs => by omega, fun z s _ hs => hy z s hs⟩
  · rintro k τ hk ⟨hfr, hP, hL⟩ kk
    have hC2 := hC.fr hfr (by decide)
    obtain ⟨u1, u2, u3⟩ := h4 k hk
    have u2' : τ.2.1 58 k = i64 (u k : Nat) := by rw [hfr.2.1 58 (by decide)]; exact u2
    -- it is put
    have st : (if f = 0 then pb 98 (x k) (y k) else x k) = x k → L_X7_takeLeast_74 (i32 f) (i64 d) (i32 k) (i64 (u k : Nat)) τ Q := fun he => by
      refine v_X7_takeLeast_74 (c_put (v := 13) (by omega) (by omega) (by omega) h1 h2 (fun υ g1 g2 g3 => ?_))
      rw [i32_s]
      refine kk υ ⟨hfr.tr g1, fun s hs => ?_, fun z s h5 h6 => g3 s _ (by omega) (hL z s (by omega) h6)⟩
      by_cases e : s = k
      · rw [e, he, u3]; exact g2
      · exact g3 s _ e (hP s (by omega))
    refine v_X7_takeLeast_14 ?_
    rw [hC2.1.1]
    simp (disch := omega) only [n0, n1, n2, n3, n4, n5, n6, n7, n8, n9, n49, n97, n98, n114, n102, n115, n119, n109, n112, i32_add, i32_mul, i32_N, i32_le, i32_lt, i32_eq, vpi_iff]
    refine ⟨fun z => by omega, fun _ => ⟨by omega, ?_⟩⟩
    rw [u2']
    rintro _ rfl
    refine ⟨fun z => st (if_neg z), fun z => ⟨by omega, by omega, ?_⟩⟩
    obtain ⟨a, b, b1, b2, b3, b4, b5, b6⟩ := (hL z k (Nat.le_refl k) hk).nat
    rw [b4, b5]
    have keep : ¬ x k < y k → L_X7_takeLeast_14 (i32 f) (i64 d) (i32 (k + 1)) τ Q := fun hlt => kk τ ⟨hfr, fun s hs => by
      by_cases e : s = k
      · rw [e, if_pos z, pb_nbt (by unfold bt; rw [if_pos rfl]; exact hlt)]
        exact hL z k (Nat.le_refl k) hk
      · exact hP s (by omega), fun _ s h5 h6 => hL z s (by omega) h6⟩
    refine c_cmp h1 b2 (by omega) b1 h2 b3 (fun hc => ⟨fun y1 => absurd y1 (by decide), fun _ => st ?_⟩) (fun hc => ⟨fun _ => keep ?_, fun y1 => absurd (by decide) y1⟩) (fun hc => ⟨fun _ => keep ?_, fun y1 => absurd (by decide) y1⟩)
    · rw [if_pos z, pb_bt (by unfold bt; rw [if_pos rfl, u3, b6]; exact hc)]
    · rw [u3, b6]; exact Rat.not_lt.mpr (Rat.le_of_lt hc)
    · rw [u3, b6, hc]; exact Rat.lt_irrefl
  · rintro τ ⟨hfr, hP, hL⟩
    have hC2 := hC.fr hfr (by decide)
    refine v_X7_takeLeast_14 ?_
    rw [hC2.1.1]
    exact ⟨fun _ => h τ hfr hP, fun z => absurd ((i32_le (by omega) (by omega)).mpr (Nat.le_refl _)) z⟩
/-- the greatest so far -/
theorem c_takeGreatest {G : Gm} {ch f v : Nat} {x y : Nat → Rat} {σ : cg_S} {Q : cg_S → Prop} (hv : 14 ≤ v ∧ v < 18) (hC : CG σ G ch) (hW : GW G) (hf : f ≤ 1) (hx : ∀ s, s < G 0 0 → FV σ 13 s (x s)) (hy : f = 0 → ∀ s, s < G 0 0 → FV σ v s (y s)) (h : ∀ τ, Fr [] [v + 56, v + 64] [] σ τ → (∀ s, s < G 0 0 → FV τ v s (if f = 0 then pb 97 (x s) (y s) else x s)) → Q τ) : M_X7_takeGreatest v (i32 f) σ Q := by
  have hn := hW.1
  refine v_X7_takeGreatest (by omega) ?_
  refine up (n := G 0 0) (fun k τ => Fr [] [v + 56, v + 64] [] σ τ ∧ (∀ s, s < k → FV τ v s (if f = 0 then pb 97 (x s) (y s) else x s)) ∧ (f = 0 → ∀ s, k ≤ s → s < G 0 0 → FV τ v s (y s))) (fun w τ => L_X7_takeGreatest_2 v (i32 f) w τ Q) ?_ ?_ 0 σ (by omega) ⟨Fr.rf σ, fun s hs => by omega, fun z s _ hs => hy z s hs⟩
  · rintro k τ hk ⟨hfr, hP, hL⟩ kk
    have hC2 := hC.fr hfr (by decide)
    have hX := (hx k hk).fr hfr (by simp; omega)
    obtain ⟨u, d, u1, u2, u3, u4, u5, u6⟩ := hX.nat
    have st : (if f = 0 then pb 97 (x k) (y k) else x k) = x k → L_X7_takeGreatest_53 v (i32 f) (i32 k) τ Q := fun he => by
      refine v_X7_takeGreatest_53 (by omega) ?_
      simp (disch := omega) only [n0, n1, n2, n3, n4, n5, n6, n7, n8, n9, n49, n97, n98, n114, n102, n115, n119, n109, n112, i32_add, i32_mul, i32_N, i32_le, i32_lt, i32_eq, vpi_iff]
      rw [u4, u5]
      refine ⟨by omega, by omega, c_put (by omega) (by omega) u1 u2 u3 (fun υ g1 g2 g3 => ?_)⟩
      refine kk υ ⟨hfr.tr g1, fun s hs => ?_, fun z s h5 h6 => g3 s _ (by omega) (hL z s (by omega) h6)⟩
      by_cases e : s = k
      · rw [e, he, u6]; exact g2
      · exact g3 s _ e (hP s (by omega))
    refine v_X7_takeGreatest_2 (by omega) ?_
    rw [hC2.1.1]
    simp (disch := omega) only [n0, n1, n2, n3, n4, n5, n6, n7, n8, n9, n49, n97, n98, n114, n102, n115, n119, n109, n112, i32_add, i32_mul, i32_N, i32_le, i32_lt, i32_eq, vpi_iff]
    refine ⟨fun z => by omega, fun _ => ⟨fun z => st (if_neg z), fun z => ⟨by omega, by omega, by omega, by omega, ?_⟩⟩⟩
    obtain ⟨a, b, b1, b2, b3, b4, b5, b6⟩ := (hL z k (Nat.le_refl k) hk).nat
    rw [b4, b5, u4, u5]
    have keep : ¬ y k < x k → L_X7_takeGreatest_2 v (i32 f) (i32 (k + 1)) τ Q := fun hlt => kk τ ⟨hfr, fun s hs => by
      by_cases e : s = k
      · rw [e, if_pos z, pb_nbt (by unfold bt; rw [if_neg (by decide)]; exact hlt)]
        exact hL z k (Nat.le_refl k) hk
      · exact hP s (by omega), fun _ s h5 h6 => hL z s (by omega) h6⟩
    refine c_cmp u2 b2 u1 b1 u3 b3 (fun hc => ⟨fun _ => keep ?_, fun y1 => absurd (by decide) y1⟩) (fun hc => ⟨fun y1 => absurd y1 (by decide), fun _ => st ?_⟩) (fun hc => ⟨fun _ => keep ?_, fun y1 => absurd (by decide) y1⟩)
    · rw [u6, b6]; exact Rat.not_lt.mpr (Rat.le_of_lt hc)
    · rw [if_pos z, pb_bt (by unfold bt; rw [if_neg (by decide), u6, b6]; exact hc)]
    · rw [u6, b6, hc]; exact Rat.lt_irrefl
  · rintro τ ⟨hfr, hP, hL⟩
    have hC2 := hC.fr hfr (by decide)
    refine v_X7_takeGreatest_2 (by omega) ?_
    rw [hC2.1.1]
    exact ⟨fun _ => h τ hfr hP, fun z => absurd ((i32_le (by omega) (by omega)).mpr (Nat.le_refl _)) z⟩
