/-! MEANS in the reference: cycle, adds -/
theorem rowS_pt {G : Gm} {p q : Nat → Nat} {s ov un : Nat} {c : Int} (h : mv p s = mv q s) : rowS G p s c ov un = rowS G q s c ov un := by
  funext t
  unfold rowS
  rw [h]
section MCY
variable {σ : cg_S} {G : Gm} {p : Nat → Nat}
theorem rtn_tg {r : Nat → Nat → Nat} {h s : Nat} (hr' : ∀ s t, s < G 0 0 → t < G 0 0 → (r s t ≠ 0 ↔ RC G s t)) (hr : rtn G h) (hs : s < G 0 0) : (s = h ∨ (r s h ≠ 0 ∧ r h s ≠ 0)) ↔ RC G h s := by
  have hh := hr.2.1
  rw [hr' s h hs hh, hr' h s hh hs]
  constructor
  · rintro (z | z)
    · rw [z]; exact hr.2.2.1
    · exact z.2
  · intro z
    exact Or.inr ⟨hr.1 s z, z⟩
theorem m_cycle {h b D : Nat} {X : Nat → Nat} {r : Nat → Nat → Nat} {Q : Int64 → cg_S → Prop} (hW : GW G) (hw : whole G) (hpt : ∀ s, s < G 0 0 → mv p s = mv (G 10) s) (hp : MP σ p) (hG : MG σ G) (hX : RX σ (G 0 0) r) (hr' : ∀ s t, s < G 0 0 → t < G 0 0 → (r s t ≠ 0 ↔ RC G s t)) (hr : rtn G h) (hb : b ≤ 1) (hD : (gD 7 (cyA G h b)).num = ((D : Nat) : Int)) (hXn : ∀ s, s < 7 → (gB 7 (cyA G h b) s 7).num = ((X s : Nat) : Int)) (hQ : ∀ τ, Fr [] [0, 21] [] σ τ → Q (i64 ((cyS G h b D X : Nat) : Int)) τ) : M_X12_cycle (i32 h) (i32 b) σ Q := by
  have hn := hW.1
  have hh := hr.2.1
  refine v_X12_cycle ?_
  refine up (n := G 0 0) (fun s τ => Fr [] [21] [] σ τ ∧ ∀ a t, a < s → t < 8 → τ.2.1 21 (8 * a + t) = i64 (if NNh G h a then rowN 0 a t else rowS G (G 10) a ((KKr G b a : Nat) : Int) 1 1 t)) (fun w τ => L_X12_cycle_2 (i32 h) (i32 b) w τ Q) ?_ ?_ 0 σ (by omega) ⟨Fr.rf σ, fun a t ha => by omega⟩
  · rintro s τ hs ⟨hf, hP⟩ kk
    have hG2 := hG.fr hf (by decide)
    have hp2 := hp.fr hf (by decide)
    have hX2 := hX.fr hf (by decide)
    have hm : mv p s < 21 := mv_lt (by omega) (hp s (by omega)).2
    have nxt : ∀ τ', Fr [] [21] [] τ τ' → (∀ t, t < 8 → τ'.2.1 21 (8 * s + t) = i64 (if NNh G h s then rowN 0 s t else rowS G (G 10) s ((KKr G b s : Nat) : Int) 1 1 t)) → (∀ i, (i < 8 * s ∨ 8 * s + 8 ≤ i) → τ'.2.1 21 i = τ.2.1 21 i) → L_X12_cycle_2 (i32 h) (i32 b) (i32 (s + 1)) τ' Q := by
      intro τ' g1 g2 g3
      refine kk τ' ⟨hf.tr g1, fun a t ha ht => ?_⟩
      by_cases c : a = s
      · subst c; exact g2 t ht
      · rw [g3 _ (by omega)]; exact hP a t (by omega) ht
    have fx : NNh G h s = true → L_X12_cycle_24 (i32 h) (i32 b) (i32 s) τ Q := fun hN => by
      refine v_X12_cycle_24 (m_laysN (v := 0) (by omega) (fun τ' g1 g2 g3 => ?_))
      rw [n1, i32_add]
      refine nxt τ' g1 (fun t ht => ?_) g3
      rw [g2 t ht, hN]
      rfl
    have st : NNh G h s = false → ∀ q : Nat, q = KKr G b s → L_X12_cycle_55 (i32 h) (i32 b) (i32 s) (i32 s) (i64 ((q : Nat) : Int)) τ Q := fun hN q hq => by
      refine v_X12_cycle_55 (m_laysStep (c := ((q : Nat) : Int)) (ov := 1) (un := 1) (by omega) (by decide) (by decide) hW hp2 hG2 (fun τ' g1 g2 g3 => ?_))
      rw [n1, i32_add]
      refine nxt τ' g1 (fun t ht => ?_) g3
      rw [g2 t ht, hN, hq, rowS_pt (hpt s hs)]
      rfl
    refine v_X12_cycle_2 ?_
    rw [hG2.1.1]
    simp (disch := omega) only [n0, n1, n2, n3, n4, n5, n6, n7, n8, n9, n49, n97, n98, n114, n102, n115, n119, n109, n112, i32_add, i32_mul, i32_N, i32_le, i32_lt, i32_eq, vpi_iff]
    refine ⟨fun z => by omega, fun _ => ⟨fun z => fx (NNh_t.mpr (Or.inl z)), fun z => m_together hn hX2 hs hh (fun y => ⟨fun _ => ?_, fun y2 => absurd y2 (by decide)⟩) (fun y => ⟨fun y2 => absurd rfl y2, fun _ => fx (NNh_t.mpr (Or.inr (fun y3 => y ((rtn_tg hr' hr hs).mpr y3))))⟩)⟩⟩
    have hN : NNh G h s = false := NNh_f.mpr ⟨z, (rtn_tg hr' hr hs).mp y⟩
    refine ⟨fun hb0 => st hN 1 (by unfold KKr; rw [if_pos hb0]), fun hb0 => m_at (by omega) hp2 (m_cost (aim := 109) hW hG2 hm (Or.inr (Or.inl rfl)) ?_)⟩
    have ec : costG G 109 (mv p s) = G 4 (mv p s) := by unfold costG; rw [if_pos (Or.inr rfl)]
    have h4 := (hW.2.2.1 _ hm).1
    rw [ec, i32_64 (by omega)]
    exact st hN _ (by unfold KKr; rw [if_neg hb0, if_pos hs, hpt s hs])
  · rintro τ ⟨hf, hP⟩
    have hG2 := hG.fr hf (by decide)
    refine v_X12_cycle_2 ?_
    rw [hG2.1.1]
    refine ⟨fun _ => ?_, fun z => absurd ((i32_le (by omega) (by omega)).mpr (Nat.le_refl _)) z⟩
    refine m_solves (A := cyA G h b) sysA_int (sys_ND (cy_piv hW hw hr)) (cy_fits hW hw hr).1 hn hG2.1.1 (fun s t hs ht => ?_) (fun s t h1 h2 h3 => by unfold cyA sysA; rw [if_neg (by omega)]) (fun τ1 f1 f2 f3 f4 => ?_)
    · rw [hP s t hs ht]
      unfold cyA sysA
      rw [if_pos hs]
      split <;> rw [Rat.num_intCast]
    · have hG3 := hG2.fr f1 (by decide)
      have hp3 : MP τ1 p := (hp.fr hf (by decide)).fr f1 (by decide)
      have hm : mv p h < 21 := mv_lt (by omega) (hp h (by omega)).2
      have h4 := (hW.2.2.1 _ hm).1
      have h6 := (hW.2.2.1 _ hm).2.2.1
      have e9 := (hG3.2.2.2.1 _ hm).2.2
      have f5 : Fr [] [0, 21] [] σ τ1 := (hf.mo (fun _ z => z) (by simp) (fun _ z => z)).tr f1
      have sum : ∀ z : Nat, z = bT G h * KKr G b h * D → L_X12_cycle_111 (i32 h) (i64 ((z : Nat) : Int)) (i32 0) τ1 Q := fun z hz => by
        refine up2 (n := G 0 0) (fun k (v : Int64) υ => υ = τ1 ∧ v = i64 ((z + sN k (fun t => wT G h t * X t) : Nat) : Int)) (fun v w υ => L_X12_cycle_111 (i32 h) v w υ Q) ?_ ?_ 0 _ τ1 (by omega) ⟨rfl, rfl⟩
        · rintro k v υ hk ⟨rfl, rfl⟩ kk
          refine v_X12_cycle_111 ?_
          rw [hG3.1.1]
          simp (disch := omega) only [n0, n1, n2, n3, n4, n5, n6, n7, n8, n9, n49, n97, n98, n114, n102, n115, n119, n109, n112, i32_add, i32_mul, i32_N, i32_le, i32_lt, i32_eq, vpi_iff]
          refine ⟨fun z => by omega, fun _ => m_weightTo (by omega) (by omega) hp3 hG3 (v_X12_solved ?_)⟩
          rw [i32_87]
          simp (disch := omega) only [n0, n1, n2, n3, n4, n5, n6, n7, n8, n9, n49, n97, n98, n114, n102, n115, n119, n109, n112, i32_add, i32_mul, i32_N, i32_le, i32_lt, i32_eq, vpi_iff]
          have hw6 := hW.w6 hm (show k < 7 by omega)
          refine ⟨by omega, ?_⟩
          rw [f4 k (by omega), hXn k (by omega), i32_64 (by omega), i64_mul, i64_add]
          rintro _ rfl
          refine kk _ υ ⟨rfl, ?_⟩
          congr 1
          rw [sN, ← Int.natCast_mul, ← Int.natCast_add, ← Nat.add_assoc, hpt h hh]
          rfl
        · rintro v υ ⟨rfl, rfl⟩
          refine v_X12_cycle_111 ?_
          rw [hG3.1.1]
          refine ⟨fun _ => ?_, fun z => absurd ((i32_le (by omega) (by omega)).mpr (Nat.le_refl _)) z⟩
          rw [hz]
          exact hQ υ f5
      refine m_at (by omega) hp3 ⟨vpi hm (by omega), fun hb0 => ?_, fun hb0 => m_at (by omega) hp3 (m_cost (aim := 109) hW hG3 hm (Or.inr (Or.inl rfl)) ?_)⟩
      · rw [i32_N (by omega), e9, i32_64 (by omega), f3, hD, l1, i64_mul, i64_mul]
        rintro _ rfl
        have hb1 : b = 0 := by
          rw [n0, i32_eq (by omega) (by omega)] at hb0
          exact hb0
        have := sum (bT G h * KKr G b h * D) rfl
        unfold KKr at this
        rw [if_pos hb1] at this
        unfold bT at this
        rw [hpt h hh]
        have e : ((G 6 (mv (G 10) h) : Nat) : Int) * 1 * ((D : Nat) : Int) = ((G 6 (mv (G 10) h) * 1 * D : Nat) : Int) := by
          rw [Int.natCast_mul, Int.natCast_mul]
          rfl
        rw [e]
        exact this
      · have hb1 : b ≠ 0 := fun e => hb0 (by rw [e]; rfl)
        have ec : costG G 109 (mv p h) = G 4 (mv p h) := by unfold costG; rw [if_pos (Or.inr rfl)]
        rw [ec, i32_64 (by omega), i32_N (by omega), e9, i32_64 (by omega), f3, hD, i64_mul, i64_mul]
        rintro _ rfl
        have := sum (bT G h * KKr G b h * D) rfl
        unfold KKr at this
        rw [if_neg hb1, if_pos hh] at this
        unfold bT at this
        rw [hpt h hh]
        have e : ((G 6 (mv (G 10) h) : Nat) : Int) * ((G 4 (mv (G 10) h) : Nat) : Int) * ((D : Nat) : Int) = ((G 6 (mv (G 10) h) * G 4 (mv (G 10) h) * D : Nat) : Int) := by
          rw [Int.natCast_mul, Int.natCast_mul]
        rw [e]
        exact this
end MCY
theorem den_dv2 {n : Nat} {x : Rat} (hn : 0 < n) (h : isI (((n : Nat) : Rat) * x)) : x.den ∣ n := by
  obtain ⟨z, hz⟩ := h
  have hne : ((n : Nat) : Rat) ≠ 0 := fun e => by
    have := Rat.natCast_eq_zero_iff.mp e
    omega
  have e : x = (z : Rat) / (((n : Nat) : Int) : Rat) := by
    rw [← hz, Rat.intCast_natCast, Rat.mul_comm, Rat.div_def, Rat.mul_assoc, Rat.mul_inv_cancel _ hne, Rat.mul_one]
  have h2 := (rat_num (a := z) (b := ((n : Nat) : Int)) (by omega)).2
  rw [← e, Int.sign_eq_one_of_pos (by omega), Int.mul_one, ← Int.natCast_mul] at h2
  exact ⟨_, (Int.ofNat.inj h2).symm⟩
/-- the sum of fractions, in lowest terms -/
theorem m_addM {x : Rat} {a : Int} {b : Nat} {σ : cg_S} {Q : cg_S → Prop} (h40 : σ.2.1 0 40 = i64 x.num) (h41 : σ.2.1 0 41 = i64 ((x.den : Nat) : Int)) (hb : 0 < b) (hL : Nat.lcm x.den b ≤ 230539333248) (hx0 : 0 ≤ x + (a : Rat) / ((b : Nat) : Rat)) (hx1 : x + (a : Rat) / ((b : Nat) : Rat) ≤ 63) (h : ∀ τ, Fr [] [0] [] σ τ → (∀ j, j ≠ 40 → j ≠ 41 → τ.2.1 0 j = σ.2.1 0 j) → τ.2.1 0 40 = i64 (x + (a : Rat) / ((b : Nat) : Rat)).num → τ.2.1 0 41 = i64 (((x + (a : Rat) / ((b : Nat) : Rat)).den : Nat) : Int) → Q τ) : M_X12_adds (i64 a) (i64 ((b : Nat) : Int)) σ Q := by
  have hd := Rat.den_pos x
  have l1 : x.den ∣ Nat.lcm x.den b := Nat.dvd_lcm_left _ _
  have l2 : b ∣ Nat.lcm x.den b := Nat.dvd_lcm_right _ _
  have lp : 0 < Nat.lcm x.den b := Nat.lcm_pos hd hb
  have q1 := Nat.le_of_dvd lp l1
  have q2 := Nat.le_of_dvd lp l2
  have hg : 0 < Nat.gcd x.den b := Nat.gcd_pos_of_pos_left _ hd
  obtain ⟨d', hd'⟩ := Nat.gcd_dvd_left x.den b
  obtain ⟨b', hb'⟩ := Nat.gcd_dvd_right x.den b
  have eg : Int.gcd ((x.den : Nat) : Int) ((b : Nat) : Int) = Nat.gcd x.den b := rfl
  have eL : d' * b = Nat.lcm x.den b := by
    have : Nat.gcd x.den b * Nat.lcm x.den b = x.den * b := Nat.gcd_mul_lcm _ _
    have h2 : Nat.gcd x.den b * (d' * b) = x.den * b := by
      rw [← Nat.mul_assoc, ← hd']
    exact Nat.eq_of_mul_eq_mul_left hg (h2.trans this.symm)
  have gle : Nat.gcd x.den b ≤ x.den := Nat.le_of_dvd hd ⟨d', hd'⟩
  have hxn : (x.num : Rat) = x * ((x.den : Nat) : Rat) := (rat_mx x).symm
  have ed : ((x.den : Nat) : Rat) = ((Nat.gcd x.den b : Nat) : Rat) * ((d' : Nat) : Rat) := by
    rw [← Rat.natCast_mul, ← hd']
  have eb : ((b : Nat) : Rat) = ((Nat.gcd x.den b : Nat) : Rat) * ((b' : Nat) : Rat) := by
    rw [← Rat.natCast_mul, ← hb']
  have gne : ((Nat.gcd x.den b : Nat) : Rat) ≠ 0 := fun e => by
    have := Rat.natCast_eq_zero_iff.mp e
    omega
  have bne : ((b : Nat) : Rat) ≠ 0 := fun e => by
    have := Rat.natCast_eq_zero_iff.mp e
    omega
  have ez : (((x.num * ((b' : Nat) : Int) + a * ((d' : Nat) : Int) : Int)) : Rat) = ((Nat.lcm x.den b : Nat) : Rat) * (x + (a : Rat) / ((b : Nat) : Rat)) := by
    rw [Rat.intCast_add, Rat.intCast_mul, Rat.intCast_mul, Rat.intCast_natCast, Rat.intCast_natCast, hxn, ← eL, Rat.natCast_mul, Rat.mul_add]
    have e1 : ((d' : Nat) : Rat) * ((b : Nat) : Rat) * ((a : Rat) / ((b : Nat) : Rat)) = (a : Rat) * ((d' : Nat) : Rat) := by
      rw [Rat.div_def, show ((d' : Nat) : Rat) * ((b : Nat) : Rat) * ((a : Rat) * ((b : Nat) : Rat)⁻¹) = (a : Rat) * ((d' : Nat) : Rat) * (((b : Nat) : Rat) * ((b : Nat) : Rat)⁻¹) by grind, Rat.mul_inv_cancel _ bne, Rat.mul_one]
    rw [e1, ed]
    congr 1
    rw [show ((d' : Nat) : Rat) * ((b : Nat) : Rat) * x = ((d' : Nat) : Rat) * (((Nat.gcd x.den b : Nat) : Rat) * ((b' : Nat) : Rat)) * x by rw [← eb]]
    grind
  have LR : ((Nat.lcm x.den b : Nat) : Rat) ≤ ((230539333248 : Nat) : Rat) := Rat.natCast_le_natCast.mpr hL
  have L0 : (0 : Rat) ≤ ((Nat.lcm x.den b : Nat) : Rat) := Rat.natCast_nonneg
  have zf : zfit (x.num * ((b' : Nat) : Int) + a * ((d' : Nat) : Int)) := by
    refine zfit_of ez ?_ ?_
    · have := Rat.mul_nonneg L0 hx0
      grind
    · have := rat_mul_le L0 hx0 LR hx1
      have e : ((230539333248 : Nat) : Rat) * 63 ≤ 9000000000000000000 := by decide +kernel
      grind
  have exx : (((x.num * ((b' : Nat) : Int) + a * ((d' : Nat) : Int) : Int)) : Rat) / ((((d' * b : Nat) : Nat) : Int) : Rat) = x + (a : Rat) / ((b : Nat) : Rat) := by
    rw [ez, eL, Rat.intCast_natCast]
    have lne : ((Nat.lcm x.den b : Nat) : Rat) ≠ 0 := fun e => by
      have := Rat.natCast_eq_zero_iff.mp e
      omega
    rw [Rat.mul_comm, Rat.div_def, Rat.mul_assoc, Rat.mul_inv_cancel _ lne, Rat.mul_one]
  have gi : i64 ((Nat.gcd x.den b : Nat) : Int) ≠ 0 := by
    rw [l0]
    intro e
    rw [i64_eq (by omega) (by omega)] at e
    omega
  refine v_X12_adds ?_
  rw [h41]
  refine m_divisor (by unfold zfit; omega) (by unfold zfit; omega) ?_
  rw [eg]
  refine ⟨gi, gi, gi, ?_⟩
  have dv1 : i64 ((x.den : Nat) : Int) / i64 ((Nat.gcd x.den b : Nat) : Int) = i64 ((d' : Nat) : Int) := i64_div (by rw [← Int.natCast_mul, ← hd']) (by omega) (by omega) (by omega)
  have dv2 : i64 ((b : Nat) : Int) / i64 ((Nat.gcd x.den b : Nat) : Int) = i64 ((b' : Nat) : Int) := i64_div (by rw [← Int.natCast_mul, ← hb']) (by omega) (by omega) (by omega)
  rw [h40, h41, dv1, dv2, i64_mul, i64_mul, i64_add, i64_mul, ← Int.natCast_mul]
  refine m_lowers zf (by unfold zfit; rw [eL]; omega) (by rw [eL]; omega) (fun τ f1 f2 f3 f4 => ?_)
  rw [exx] at f3 f4
  exact h τ f1 f2 f3 f4
