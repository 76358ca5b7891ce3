/-! THE HELPERS ANSWER 1: areTraces -/
section TRM
variable {a : cg_S} {G : Gm} {ch s i : Nat} {V : Nat → Rat} {L g : Nat → Nat} {x : Nat → Rat}
theorem sr_term {n i : Nat} {f : Nat → Rat} (h : ∀ j, j < n → 0 ≤ f j) (hi : i < n) : f i ≤ sr n f := by
  have h1 := sr_one (f := fun j => if j = i then f i else 0) hi (fun j _ hj => if_neg hj)
  have h2 : sr n (fun j => if j = i then f i else 0) ≤ sr n f := sr_le (fun j hj => by
    by_cases e : j = i
    · subst e; rw [if_pos rfl]; exact Rat.le_refl
    · rw [if_neg e]; exact h j hj)
  rw [h1] at h2
  have e : (if i = i then f i else 0) = f i := if_pos rfl
  rw [e] at h2
  exact h2
theorem gX_tw (hW : GW G) (hw : whole G) (hx : gX G 114 (mv (G 10)) x) : ∀ k f, wk G (k + 1) f → tw G f k ≤ x (f 0) := by
  have hpk := told_ok hW hw
  have hx0 := gX_nonneg hW hw (mv_pk hpk) hx
  intro k
  induction k with
  | zero =>
    intro f h
    have := gX_stop hx (h.2.1 0 (by omega)) ⟨rfl, h.2.2.2⟩
    rw [this]; exact Rat.le_refl
  | succ k ih =>
    intro f h
    have h1 := ih (tlf f) (wk_tl h (by omega))
    have f0 := h.2.1 0 (by omega)
    have f1 := h.2.1 1 (by omega)
    obtain ⟨hwt, hnT⟩ := h.2.2.1 0 (by omega)
    have hah := gX_ah hx f0 (fun z => hnT z.2)
    unfold ahR tgR at hah
    rw [if_pos rfl, if_pos rfl] at hah
    have hn := hW.1
    have g3 := (hW.2.1 (f 0) (by omega)).2.2.1
    have g10 := hpk (f 0) f0
    have hm : mv (G 10) (f 0) < 21 := by unfold mv; omega
    rw [sm_eq hW hm] at hah
    have hb := nat_pos_q (bT_pos hW hw f0)
    have ht : wtR G (mv (G 10) (f 0)) (f 1) * x (f 1) ≤ c_ex (G 0 0) (wtR G) x (mv (G 10) (f 0)) := sr_term (f := fun t => wtR G (mv (G 10) (f 0)) t * x t) (fun t htt => Rat.mul_nonneg wtR_nn (hx0 t htt)) f1
    rw [hah] at ht
    have e2 : hT G (f 0) (f 1) * x (f 1) ≤ x (f 0) := by
      refine q_cancel hb ?_
      have e3 : hT G (f 0) (f 1) * x (f 1) * ((bT G (f 0) : Nat) : Rat) = wtR G (mv (G 10) (f 0)) (f 1) * x (f 1) := by
        have : hT G (f 0) (f 1) * ((bT G (f 0) : Nat) : Rat) = wtR G (mv (G 10) (f 0)) (f 1) := rat_divm hb
        rw [← this]; grind
      rw [e3, Rat.mul_comm (x (f 0))]
      exact ht
    rw [tw_tl]
    exact Rat.le_trans (Rat.mul_le_mul_of_nonneg_left h1 (Rat.le_of_lt (hT_pos hW hw f0 hwt))) e2
theorem gX_0 (hW : GW G) (hw : whole G) (hx : gX G 114 (mv (G 10)) x) (hO : OPT G V L) (hs : s < G 0 0) (hL : L s = 0) : x s = 0 := by
  unfold gX at hx
  rw [if_pos rfl] at hx
  refine hx.2.2 s hs (fun hc => ?_)
  obtain ⟨t, ht, h1, h2⟩ := hc (fun t => t < G 0 0 → L t = 0) (fun _ => hL) (fun u hu hCu t ht hwt _ => Classical.byContradiction fun hne => by
    have hnT : ¬ TG G u := fun hT => by
      have := (hO.1 u hu hT).2
      rw [hCu hu] at this
      exact absurd this (by decide)
    exact (hO.2.1 u hu hnT t ht (wtR_ne.mp hwt) hne).1 (hCu hu))
  have := (hO.1 t ht h2).2
  rw [h1 ht] at this
  exact absurd this (by decide)
/-- the best value of a trace -/
theorem opt_val (hW : GW G) (hw : whole G) (hO : OPT G V L) (hs : s < G 0 0) (hL : L s ≠ 0) : 0 < V s ∧ V s ≤ 1 ∧ (V s).den ≤ 46656 ∧ L s ≤ G 0 0 := by
  obtain ⟨f, f1, f2, f3⟩ := hO.2.2 s hs hL
  have hlen := trc_len f1
  have hn := hW.1
  obtain ⟨t1, t2⟩ := tw_1 hW hw f1.1 (L s - 1) (by omega)
  obtain ⟨u1, u2, u3, u4, u5⟩ := pUD hW hw f1.1 (L s - 1) (by omega)
  rw [f3] at t1 t2 u5
  refine ⟨t1, t2, ?_, hlen⟩
  rw [u5]
  have h1 := Nat.le_of_dvd u3 (den_dvd (k := pU G f (L s - 1)) u3)
  have h2 : 6 ^ (L s - 1) ≤ 6 ^ 6 := Nat.pow_le_pow_right (by decide) (by omega)
  have h3 : (6 : Nat) ^ 6 = 46656 := by decide
  omega
theorem lxb_same {V' : Nat → Rat} {L' g' : Nat → Nat} (hW : GW G) (hw : whole G) (hO : OPT G V L) (hO' : OPT G V' L') (hs : s < G 0 0) (hL : L s ≠ 0) (h : LXB G V L (L s) g) (g0 : g 0 = s) (h' : LXB G V' L' (L' s) g') (g0' : g' 0 = s) : ∀ i, i < L s → g' i = g i := by
  obtain ⟨e1, e2⟩ := opt_uniq hW hw hO hO' hs
  have e3 := e2 hL
  have b1 : BST G V L (L s) g' := by
    obtain ⟨h1, h2, h3⟩ := h'.1
    rw [← e1] at h1 h2
    rw [g0'] at h2
    exact ⟨h1, by rw [g0', e3]; exact h2, by rw [g0']⟩
  have b2 : BST G V' L' (L' s) g := by
    obtain ⟨h1, h2, h3⟩ := h.1
    rw [g0] at h2
    rw [← e1]
    exact ⟨h1, by rw [g0, ← e3]; exact h2, by rw [g0, e1]⟩
  have l1 := h.2 g' b1 (g0'.trans g0.symm)
  have l2 := h'.2 g b2 (g0.trans g0'.symm)
  rw [← e1] at l2
  intro i
  induction i using Nat.strongRecOn with
  | _ i ih =>
    intro hi
    exact Nat.le_antisymm (l2 i hi (fun j hj => ih j hj (by omega))) (l1 i hi (fun j hj => (ih j hj (by omega)).symm))
theorem l_traceAt2 {Q : Int32 → cg_S → Prop} (h : SI a G ch) (hw : whole G) (hs : s < G 0 0) (hO : OPT G V L) (hg : LXB G V L (L s) g) (g0 : g 0 = s) (hi : i < L s) (k1 : ∀ τ, SI τ G ch → Q (i32 (g i)) τ) : M_L_traceAt (i32 s) (i32 i) a Q := by
  have hW := h.2.2
  have hn := hW.1
  have hv := opt_val hW hw hO hs (by omega)
  refine l_traceAt h hw hs (by omega) (fun τ V' L' g' h1 hO' hg' g0' hi' => ?_) (fun hno => ?_) (fun V1 L1 V2 L2 h1 h2 => (opt_uniq hW hw h1 h2 hs).1)
  · rw [lxb_same hW hw hO hO' hs (by omega) hg g0 hg' g0' i hi]
    exact k1 τ h1
  · have := hno V L hO; omega
/-! the factors -/
theorem chv_n : ∀ a b : Fin 7, b.val ≠ 0 → i32 (10 * a.val + b.val) / 10 = i32 a.val ∧ i32 (10 * a.val + b.val) - i32 (10 * a.val + b.val) / 10 * 10 = i32 b.val ∧ (a.val ≠ 0 → ¬ i32 (10 * a.val + b.val) ≤ 1) := by decide
theorem hT_num (hW : GW G) (hw : whole G) {s t : Nat} (hs : s < G 0 0) (ht : t < G 0 0) (h : wT G s t ≠ 0) : ∃ m d : Nat, 0 < m ∧ m ≤ d ∧ d ≤ 6 ∧ chv (hT G s t) = i32 (10 * m + d) ∧ hT G s t * (d : Rat) = (m : Rat) := by
  have hn := hW.1
  have hb := bT_pos hW hw hs
  have g3 := (hW.2.1 s (by omega)).2.2.1
  have g10 := told_ok hW hw s hs
  have h6 : bT G s ≤ 6 := (hW.2.2.1 (mv (G 10) s) (by unfold mv; omega)).2.2.1
  have h0 := hT_pos hW hw hs h
  have h1 := hT_le hW hw hs ht
  have hd : (hT G s t).den ≤ 6 := Nat.le_trans (Nat.le_of_dvd hb (den_dvd (k := wT G s t) hb)) h6
  obtain ⟨m, hm⟩ : ∃ m : Nat, (hT G s t).num = (m : Int) := ⟨(hT G s t).num.toNat, by have := Rat.num_nonneg.mpr (Rat.le_of_lt h0); omega⟩
  have hmd := num_le_den h1 hm rfl
  have hm0 : m ≠ 0 := fun z => by
    have e : (hT G s t).num = 0 := by rw [hm, z]; rfl
    rw [Rat.num_eq_zero.mp e] at h0
    exact absurd h0 (by decide)
  refine ⟨m, (hT G s t).den, by omega, hmd, hd, ?_, ?_⟩
  · unfold chv
    rw [hm]
    rfl
  · have hq := nat_pos_q (hT G s t).den_pos
    have h9 := rat_nd (hT G s t)
    have h10 : hT G s t * (((hT G s t).den : Nat) : Rat) = ((hT G s t).num : Rat) := by
      conv => lhs; lhs; rw [h9]
      exact rat_divm hq
    rw [h10, hm]
    exact Rat.intCast_natCast m
theorem fac_alg1 {P t d q e h Z : Rat} (d0 : 0 ≤ d) (d1 : d ≤ 1) (t0 : 0 ≤ t) (t1 : t ≤ 1) (h0 : 0 ≤ h) (e0 : 0 ≤ e) (h1 : P ≤ t + e) (h2 : d ≤ q + h) (h3 : Z ≤ P * d + h) : Z ≤ t * q + e + 2 * h := by
  have a1 := Rat.mul_le_mul_of_nonneg_right h1 d0
  have a2 := Rat.mul_le_mul_of_nonneg_left h2 t0
  have a3 := Rat.mul_le_mul_of_nonneg_left d1 e0
  have a4 := Rat.mul_le_mul_of_nonneg_right t1 h0
  grind
theorem fac_alg2 {P t d q e h Z : Rat} (d0 : 0 ≤ d) (d1 : d ≤ 1) (t0 : 0 ≤ t) (t1 : t ≤ 1) (h0 : 0 ≤ h) (e0 : 0 ≤ e) (h1 : t ≤ P + e) (h2 : q ≤ d + h) (h3 : P * d ≤ Z + h) : t * q ≤ Z + e + 2 * h := by
  have a1 := Rat.mul_le_mul_of_nonneg_right h1 d0
  have a2 := Rat.mul_le_mul_of_nonneg_left h2 t0
  have a3 := Rat.mul_le_mul_of_nonneg_left d1 e0
  have a4 := Rat.mul_le_mul_of_nonneg_right t1 h0
  grind
/-- one factor more -/
theorem fac_near {y : UInt64} {P t q e : Rat} {m d : Nat} (hm : m ≤ d) (hd : d ≤ 6) (d0 : 0 < d) (hq : q * (d : Rat) = (m : Rat)) (hy : isV (D64 y) P) (hP : P ≤ 1) (t0 : 0 ≤ t) (t1 : t ≤ 1) (e0 : 0 ≤ e) (h1 : P ≤ t + e) (h2 : t ≤ P + e) : vf_n64 (FP.ddiv (FP.i2d (i32 m)) (FP.i2d (i32 d))) ∧ vf_n64 (FP.dmul y (FP.ddiv (FP.i2d (i32 m)) (FP.i2d (i32 d)))) ∧ ∃ Z, isV (D64 (FP.dmul y (FP.ddiv (FP.i2d (i32 m)) (FP.i2d (i32 d))))) Z ∧ Z ≤ 1 ∧ Z ≤ t * q + (e + p2 (-52)) ∧ t * q ≤ Z + (e + p2 (-52)) := by
  have hdq := nat_pos_q d0
  have hq1 : q ≤ 1 := by
    refine q_cancel hdq ?_
    rw [hq, Rat.one_mul]
    exact Rat.natCast_le_natCast.mpr hm
  obtain ⟨D, a1, a2, a3, a4⟩ := div_near (j := 0) (i2d_v (show m ≤ 6 by omega)) (i2d_v hd) hdq hq (by rw [p2_0]; exact hq1) (by decide) (by decide)
  rw [p2_0] at a2
  have d0 := a1.nn0
  have P0 := hy.nn0
  have hPD : P * D ≤ 1 := by
    have := rat_mul_le P0 d0 hP a2
    grind
  obtain ⟨Z, z1, z2, z3, z4⟩ := mul_near (j := 0) hy a1 (by rw [p2_0]; exact hPD) (by decide) (by decide)
  rw [p2_0] at z2
  have hh : 2 * p2 (0 - 53) = p2 (-52) := p2_hf (by decide)
  have hp := Rat.le_of_lt (p2_pos (0 - 53))
  have u1 := fac_alg1 d0 a2 t0 t1 hp e0 h1 a3 z3
  have u2 := fac_alg2 d0 a2 t0 t1 hp e0 h2 a4 z4
  refine ⟨vf64 a1.nn, vf64 z1.nn, Z, z1, z2, ?_, ?_⟩
  · rw [← hh]; grind
  · rw [← hh]; grind
end TRM
