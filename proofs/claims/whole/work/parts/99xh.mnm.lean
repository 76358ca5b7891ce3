/-! MEANS in the reference: means -/
section MNMs
variable {σ : cg_S} {G : Gm} {p : Nat → Nat}
theorem zfit_nd {x : Rat} (h0 : 0 ≤ x) (h1 : x ≤ 63) (hd : x.den ≤ 230539333248) : zfit x.num ∧ zfit ((x.den : Nat) : Int) := by
  have hdp := Rat.den_pos x
  refine ⟨zfit_of (rat_mx x).symm ?_ ?_, by unfold zfit; omega⟩
  · have := Rat.mul_nonneg h0 (b := ((x.den : Nat) : Rat)) Rat.natCast_nonneg
    grind
  · have d0 : ((x.den : Nat) : Rat) ≤ ((230539333248 : Nat) : Rat) := Rat.natCast_le_natCast.mpr hd
    have := rat_mul_le h0 (c := ((x.den : Nat) : Rat)) Rat.natCast_nonneg h1 d0
    have e : (63 : Rat) * ((230539333248 : Nat) : Rat) ≤ 9000000000000000000 := by decide +kernel
    exact Rat.le_trans this e
theorem SolR_cg {n : Nat} {wt : Nat → Nat → Rat} {p q : Nat → Nat} {T T' : Nat → Prop} {x : Nat → Rat} (h : ∀ s, s < n → p s = q s) (hT : ∀ s, T s ↔ T' s) (hx : SolR n wt p T x) : SolR n wt q T' x := by
  have e : T = T' := funext fun s => propext (hT s)
  subst e
  refine ⟨hx.1, fun s hs z => ?_, fun s hs z => hx.2.2 s hs (fun y => z (can_congr h y))⟩
  rw [← h s hs]; exact hx.2.1 s hs z
theorem Sv_cg {τ : cg_S} {n : Nat} {x y : Nat → Rat} (h : ∀ s, s < n → x s = y s) (hx : Sv τ n x) : Sv τ n y := by
  obtain ⟨d, X, a1, a2, a3, a4⟩ := hx
  exact ⟨d, X, a1, a2, a3, fun s hs => ⟨(a4 s hs).1, (a4 s hs).2.1, by rw [← h s hs]; exact (a4 s hs).2.2⟩⟩
/-- the numbers of a round of the reference -/
theorem cy_mh {c k : Nat → Rat} {h : Nat} (hW : GW G) (hw : whole G) (hM : MK G c k) (hr : rtn G h) : ∃ (D0 D1 : Nat) (X0 X1 : Nat → Nat), (gD 7 (cyA G h 0)).num = ((D0 : Nat) : Int) ∧ (∀ s, s < 7 → (gB 7 (cyA G h 0) s 7).num = ((X0 s : Nat) : Int)) ∧ (gD 7 (cyA G h 1)).num = ((D1 : Nat) : Int) ∧ (∀ s, s < 7 → (gB 7 (cyA G h 1) s 7).num = ((X1 s : Nat) : Int)) ∧ cyS G h 0 D0 X0 ≠ 0 ∧ cyS G h 0 D0 X0 ≤ 230539333248 ∧ cyS G h 1 D1 X1 ≤ 9 * 230539333248 ∧ mh G c k h = (((cyS G h 1 D1 X1 : Nat) : Int) : Rat) / (((cyS G h 0 D0 X0 : Nat) : Int) : Rat) := by
  obtain ⟨D0, X0, z1, z2, z3, z4, z5, z6⟩ := cy_S (b := 0) (κ := 1) (c := k) hW hw hr (fun s => by unfold KKr; rw [if_pos rfl]; exact Nat.le_refl 1) (RND_K (fun s hs => (KKr_0 s).symm) hM.2.1)
  obtain ⟨D1, X1, y1, y2, y3, y4, y5, y6⟩ := cy_S (b := 1) (κ := 9) (c := c) hW hw hr (KKr_9 hW 1) (RND_K (fun s hs => (KKr_1 hs).symm) hM.1)
  have hcol : gD 7 (cyA G h 1) = gD 7 (cyA G h 0) := (gB_col (fun i j _ hj => sysA_col i j hj) 7 (Nat.le_refl 7)).1
  have hh := hr.2.1
  have w0 : whl G (fun s => ((KKr G 0 s : Nat) : Rat)) k h = whl G (fun _ => 1) k h := whl_K (KKr_0 h)
  have w1 : whl G (fun s => ((KKr G 1 s : Nat) : Rat)) c h = whl G (cst1 G) c h := whl_K (KKr_1 hh)
  have hp := (mh_b hW hw hM hh).1
  have hD : 0 < gD 7 (cyA G h 0) := by
    rw [← z4]
    exact Rat.natCast_pos.mpr z1
  rw [w0] at z5
  rw [w1, hcol] at y5
  have hS : 0 < ((cyS G h 0 D0 X0 : Nat) : Rat) := by rw [z5]; exact Rat.mul_pos hD hp
  have hP : prR 7 (w42 G h) ≤ ((230539333248 : Nat) : Rat) := by
    have e : (42 : Rat) ^ 7 = ((230539333248 : Nat) : Rat) := by decide +kernel
    rw [← e, ← prR_const]
    refine prR_mono (fun i => Rat.le_trans (show (0 : Rat) ≤ 1 by decide) (w42_1 i)) (fun i => ?_) 7
    by_cases c : RC G h i
    · rw [w42_t c]; exact Rat.le_refl
    · rw [w42_f c]; decide
  refine ⟨D0, D1, X0, X1, z2, z3, y2, y3, fun e => by rw [e] at hS; exact absurd hS (by decide), ?_, ?_, ?_⟩
  · refine Rat.natCast_le_natCast.mp (Rat.le_trans z6 ?_)
    have e1 : ((1 : Nat) : Rat) = 1 := rfl
    rw [e1, Rat.one_mul]
    exact hP
  · refine Rat.natCast_le_natCast.mp (Rat.le_trans y6 ?_)
    rw [Rat.natCast_mul]
    exact Rat.mul_le_mul_of_nonneg_left hP Rat.natCast_nonneg
  · rw [Rat.intCast_natCast, Rat.intCast_natCast, y5, z5]
    unfold mh
    have a1 := Rat.ne_of_gt hD
    have a2 := Rat.ne_of_gt hp
    have a3 : gD 7 (cyA G h 0) * whl G (fun _ => 1) k h ≠ 0 := fun e => by rcases Rat.mul_eq_zero.mp e with e | e; exact a1 e; exact a2 e
    generalize gD 7 (cyA G h 0) = d at *
    generalize whl G (fun _ => 1) k h = u at *
    generalize whl G (cst1 G) c h = v at *
    grind
section YB
variable {c k : Nat → Rat} {q : Nat → Nat → Rat} {D : Nat}
theorem yB_int (hD : 0 < D) (hq : ∀ b, rtn G b → ∀ s, s < G 0 0 → isI (((D : Nat) : Rat) * q b s)) {s : Nat} (hs : s < G 0 0) : ∀ B, isI (((D * PbN G c k B : Nat) : Rat) * yB G c k q B s) := by
  intro B
  induction B with
  | zero =>
    refine ⟨0, ?_⟩
    show ((D * PbN G c k 0 : Nat) : Rat) * 0 = _
    rw [Rat.mul_zero]; rfl
  | succ B ih =>
    by_cases hr : rtn G B
    · rw [yB_t hr, PbN_t hr]
      have e1 := rat_mx (mh G c k B)
      have i1 : isI ((((mh G c k B).den : Nat) : Rat)) := ⟨(((mh G c k B).den : Nat) : Int), (Rat.intCast_natCast _).symm⟩
      have i2 : isI (mh G c k B * (((mh G c k B).den : Nat) : Rat)) := ⟨_, e1⟩
      have i3 : isI (((PbN G c k B : Nat) : Rat)) := ⟨((PbN G c k B : Nat) : Int), (Rat.intCast_natCast _).symm⟩
      have i4 := hq B hr s hs
      have := isI_add (isI_mul i1 ih) (isI_mul i3 (isI_mul i2 i4))
      have e : ((D * (PbN G c k B * (mh G c k B).den) : Nat) : Rat) * (yB G c k q B s + mh G c k B * q B s) = ((((mh G c k B).den : Nat) : Rat)) * (((D * PbN G c k B : Nat) : Rat) * yB G c k q B s) + ((PbN G c k B : Nat) : Rat) * (mh G c k B * (((mh G c k B).den : Nat) : Rat) * (((D : Nat) : Rat) * q B s)) := by
        rw [Rat.natCast_mul, Rat.natCast_mul, Rat.natCast_mul]
        grind
      rw [e]
      exact this
    · rw [yB_f hr, PbN_f hr]; exact ih
theorem DP_le (hW : GW G) (hw : whole G) (hM : MK G c k) (hDl : ((D : Nat) : Rat) ≤ prR (G 0 0) (w6 G)) {B : Nat} (hB : B ≤ 7) : D * PbN G c k B ≤ 230539333248 := by
  have e : (42 : Rat) ^ 7 = ((230539333248 : Nat) : Rat) := by decide +kernel
  refine Rat.natCast_le_natCast.mp ?_
  rw [Rat.natCast_mul, ← e]
  exact Rat.le_trans (rat_mul_le Rat.natCast_nonneg Rat.natCast_nonneg hDl (PbN_le hW hw hM B hB)) (w67 hW).1
theorem yB_dv (hD : 0 < D) (hq : ∀ b, rtn G b → ∀ s, s < G 0 0 → isI (((D : Nat) : Rat) * q b s)) {s : Nat} (hs : s < G 0 0) (B : Nat) : (yB G c k q B s).den ∣ D * PbN G c k B := den_dv2 (Nat.mul_pos hD (PbN_pos B)) (yB_int hD hq hs B)
/-- cells for the sum -/
def YX (τ : cg_S) (n : Nat) (y : Nat → Rat) : Prop := ∀ s, s < n → τ.2.1 22 s = i64 (y s).num ∧ τ.2.1 23 s = i64 (((y s).den : Nat) : Int)
theorem m_mean141 {b : Nat} {Q : cg_S → Prop} (hW : GW G) (hw : whole G) (hM : MK G c k) (hD : 0 < D) (hDl : ((D : Nat) : Rat) ≤ prR (G 0 0) (w6 G)) (hq : ∀ b, rtn G b → SolR (G 0 0) (wtR G) (mv (G 10)) (RC G b) (q b) ∧ ∀ s, s < G 0 0 → isI (((D : Nat) : Rat) * q b s)) (hr : rtn G b) (h1 : σ.1 0 1 = i32 (G 0 0)) (hS : Sv σ (G 0 0) (q b)) (hY : YX σ (G 0 0) (yB G c k q b)) (hk : ∀ τ, Fr [] [0, 22, 23] [] σ τ → YX τ (G 0 0) (yB G c k q (b + 1)) → L_X12_means_36 (i32 (b + 1)) τ Q) : L_X12_means_141 (i32 b) (i64 (mh G c k b).num) (i64 (((mh G c k b).den : Nat) : Int)) (i32 0) σ Q := by
  have hn := hW.1
  have hbn := hr.2.1
  obtain ⟨d, X, hd0, hd, h39, hX⟩ := hS
  have hmb := mh_b hW hw hM hbn
  have mdv := PbN_dv (c := c) (k := k) (b + 1) (Nat.lt_succ_self b) hr
  have mle := Pb_nat hW hw hM (show b + 1 ≤ 7 by omega) mdv
  have mdp := Rat.den_pos (mh G c k b)
  obtain ⟨mf1, mf2⟩ := zfit_nd hmb.2.2.1 (Rat.le_trans hmb.2.2.2 (by decide)) mle
  have hok := pk_c hW hw (told_ok hW hw)
  have hqS : ∀ b, rtn G b → SolR (G 0 0) (wtR G) (mv (G 10)) (RC G b) (q b) := fun b hb => (hq b hb).1
  have hqI : ∀ b, rtn G b → ∀ s, s < G 0 0 → isI (((D : Nat) : Rat) * q b s) := fun b hb => (hq b hb).2
  refine up (n := G 0 0) (fun s τ => Fr [] [0, 22, 23] [] σ τ ∧ τ.2.1 0 39 = i64 d ∧ YX τ (G 0 0) (fun t => if t < s then yB G c k q (b + 1) t else yB G c k q b t)) (fun w τ => L_X12_means_141 (i32 b) (i64 (mh G c k b).num) (i64 (((mh G c k b).den : Nat) : Int)) w τ Q) ?_ ?_ 0 σ (by omega) ⟨Fr.rf σ, h39, fun t ht => by dsimp only; rw [if_neg (by omega)]; exact hY t ht⟩
  · rintro s τ hs ⟨hf, hd39, hP⟩ kk
    obtain ⟨z1, z2, z3⟩ := hX s hs
    have hPs := hP s hs
    dsimp only at hPs
    rw [if_neg (Nat.lt_irrefl s)] at hPs
    refine v_X12_means_141 ?_
    rw [hf.1 0 (by decide), h1]
    simp (disch := omega) only [n0, n1, n2, n3, n4, n5, n6, n7, n8, n9, n49, n97, n98, n114, n102, n115, n119, n109, n112, i32_add, i32_mul, i32_N, i32_le, i32_lt, i32_eq, vpi_iff]
    refine ⟨fun z => by omega, fun _ => v_X12_solved ?_⟩
    rw [i32_87]
    simp (disch := omega) only [n0, n1, n2, n3, n4, n5, n6, n7, n8, n9, n49, n97, n98, n114, n102, n115, n119, n109, n112, i32_add, i32_mul, i32_N, i32_le, i32_lt, i32_eq, vpi_iff]
    refine ⟨by omega, ?_⟩
    rw [hd39, hf.2.1 21 (by decide), z2]
    have dne : (d : Rat) ≠ 0 := by
      intro z
      have : d = 0 := Rat.intCast_eq_zero_iff.mp z
      omega
    have hqe : ((X s : Int) : Rat) / (d : Rat) = q b s := by
      rw [z3]
      exact Rat.mul_div_cancel dne
    have hle := rat_num_le (a := X s) (b := d) (by omega)
    rw [hqe] at hle
    refine m_lowers z1 hd (by omega) (fun τ1 f1 g1 e40 e41 => ?_)
    rw [hqe] at e40 e41
    have qdp := Rat.den_pos (q b s)
    unfold zfit at z1 hd
    have pf : zfit (q b s).num := by unfold zfit; omega
    have qf : zfit (((q b s).den : Nat) : Int) := by unfold zfit; omega
    have q0 := solR_nonneg hok (hqS b hr) s hs
    have qdv : (q b s).den ∣ D := den_dv2 hD (hqI b hr s hs)
    have em := rat_mx (mh G c k b)
    have eq := rat_mx (q b s)
    have yb0 := yB_b hW hw hM hqS hs b
    have yb1 := yB_b hW hw hM hqS hs (b + 1)
    have y63 : ∀ B, B ≤ 7 → (9 : Rat) * ((B : Nat) : Rat) ≤ 63 := fun B hB => by
      have : ((B : Nat) : Rat) ≤ ((7 : Nat) : Rat) := Rat.natCast_le_natCast.mpr hB
      have e : ((7 : Nat) : Rat) = 7 := rfl
      rw [e] at this
      grind
    have yd0 := yB_dv (c := c) (k := k) hD hqI hs b
    have yle := Nat.le_of_dvd (Nat.mul_pos hD (PbN_pos b)) yd0
    have dpl := DP_le (c := c) (k := k) hW hw hM hDl (show b ≤ 7 by omega)
    have dpl1 := DP_le (c := c) (k := k) hW hw hM hDl (show b + 1 ≤ 7 by omega)
    obtain ⟨yf1, yf2⟩ := zfit_nd yb0.1 (Rat.le_trans yb0.2 (y63 b (by omega))) (Nat.le_trans yle dpl)
    have ydp := Rat.den_pos (yB G c k q b s)
    rw [e40]
    refine m_divisor pf mf2 ?_
    rw [e41]
    refine m_divisor mf1 qf ?_
    have g1p : 0 < Int.gcd (q b s).num (((mh G c k b).den : Nat) : Int) := Int.gcd_pos_of_ne_zero_right _ (by omega)
    have g2p : 0 < Int.gcd (mh G c k b).num (((q b s).den : Nat) : Int) := Int.gcd_pos_of_ne_zero_right _ (by omega)
    obtain ⟨p', hp'⟩ := Int.gcd_dvd_left (q b s).num (((mh G c k b).den : Nat) : Int)
    obtain ⟨c', hc'⟩ : Int.gcd (q b s).num (((mh G c k b).den : Nat) : Int) ∣ (mh G c k b).den := Int.natCast_dvd_natCast.mp (Int.gcd_dvd_right _ _)
    obtain ⟨a', ha'⟩ := Int.gcd_dvd_left (mh G c k b).num (((q b s).den : Nat) : Int)
    obtain ⟨q', hq'⟩ : Int.gcd (mh G c k b).num (((q b s).den : Nat) : Int) ∣ (q b s).den := Int.natCast_dvd_natCast.mp (Int.gcd_dvd_right _ _)
    have g1l : Int.gcd (q b s).num (((mh G c k b).den : Nat) : Int) ≤ (mh G c k b).den := Nat.le_of_dvd mdp ⟨c', hc'⟩
    have g2l : Int.gcd (mh G c k b).num (((q b s).den : Nat) : Int) ≤ (q b s).den := Nat.le_of_dvd qdp ⟨q', hq'⟩
    generalize Int.gcd (q b s).num (((mh G c k b).den : Nat) : Int) = u1 at *
    generalize Int.gcd (mh G c k b).num (((q b s).den : Nat) : Int) = u2 at *
    unfold zfit at pf qf mf1 mf2
    have n1' : i64 ((u1 : Nat) : Int) ≠ 0 := by
      rw [l0]
      intro e
      rw [i64_eq (by omega) (by omega)] at e
      omega
    have n2' : i64 ((u2 : Nat) : Int) ≠ 0 := by
      rw [l0]
      intro e
      rw [i64_eq (by omega) (by omega)] at e
      omega
    have dv1 : i64 (q b s).num / i64 ((u1 : Nat) : Int) = i64 p' := i64_div hp' (by omega) pf (by omega)
    have dv2 : i64 (((mh G c k b).den : Nat) : Int) / i64 ((u1 : Nat) : Int) = i64 ((c' : Nat) : Int) := i64_div (by rw [← Int.natCast_mul, ← hc']) (by omega) mf2 (by omega)
    have dv3 : i64 (mh G c k b).num / i64 ((u2 : Nat) : Int) = i64 a' := i64_div ha' (by omega) mf1 (by omega)
    have dv4 : i64 (((q b s).den : Nat) : Int) / i64 ((u2 : Nat) : Int) = i64 ((q' : Nat) : Int) := i64_div (by rw [← Int.natCast_mul, ← hq']) (by omega) qf (by omega)
    refine ⟨n1', n2', ?_⟩
    rw [e40, dv1, dv3, i64_mul]
    rintro _ rfl
    refine ⟨n2', n1', ?_⟩
    rw [e41, dv4, dv2, i64_mul, ← Int.natCast_mul]
    rintro _ rfl
    refine ⟨by omega, by omega, ?_⟩
    have c'p : 0 < c' := Nat.pos_of_ne_zero (fun e => by rw [e, Nat.mul_zero] at hc'; omega)
    have q'p : 0 < q' := Nat.pos_of_ne_zero (fun e => by rw [e, Nat.mul_zero] at hq'; omega)
    rw [f1.2.1 22 (by decide), f1.2.1 23 (by decide), hPs.1, hPs.2]
    refine m_lowers yf1 yf2 (by omega) (fun τ2 f2 g2 k40 k41 => ?_)
    have ey : (((yB G c k q b s).num : Int) : Rat) / ((((yB G c k q b s).den : Nat) : Int) : Rat) = yB G c k q b s := by
      rw [Rat.intCast_natCast]
      exact (rat_nd _).symm
    rw [ey] at k40 k41
    have exx : (((p' * a' : Int)) : Rat) / ((q' * c' : Nat) : Rat) = mh G c k b * q b s := by
      rw [Rat.intCast_mul, Rat.natCast_mul]
      have r1 : (q b s * (((q b s).den : Nat) : Rat)) = ((u1 : Nat) : Rat) * (p' : Rat) := by
        rw [eq, hp', Rat.intCast_mul, Rat.intCast_natCast]
      have r2 : (mh G c k b * (((mh G c k b).den : Nat) : Rat)) = ((u2 : Nat) : Rat) * (a' : Rat) := by
        rw [em, ha', Rat.intCast_mul, Rat.intCast_natCast]
      rw [hq', Rat.natCast_mul] at r1
      rw [hc', Rat.natCast_mul] at r2
      have w1 : ((u1 : Nat) : Rat) ≠ 0 := fun e => by
        have := Rat.natCast_eq_zero_iff.mp e
        omega
      have w2 : ((u2 : Nat) : Rat) ≠ 0 := fun e => by
        have := Rat.natCast_eq_zero_iff.mp e
        omega
      have w3 : ((c' : Nat) : Rat) ≠ 0 := fun e => by
        have := Rat.natCast_eq_zero_iff.mp e
        omega
      have w4 : ((q' : Nat) : Rat) ≠ 0 := fun e => by
        have := Rat.natCast_eq_zero_iff.mp e
        omega
      have w5 : ((q' : Nat) : Rat) * ((c' : Nat) : Rat) ≠ 0 := fun e => by rcases Rat.mul_eq_zero.mp e with e | e; exact w4 e; exact w3 e
      have w6' : ((u1 : Nat) : Rat) * ((u2 : Nat) : Rat) ≠ 0 := fun e => by rcases Rat.mul_eq_zero.mp e with e | e; exact w1 e; exact w2 e
      generalize ((u1 : Nat) : Rat) = x1 at *
      generalize ((u2 : Nat) : Rat) = x2 at *
      generalize ((c' : Nat) : Rat) = x3 at *
      generalize ((q' : Nat) : Rat) = x4 at *
      generalize (p' : Rat) = x5 at *
      generalize (a' : Rat) = x6 at *
      generalize mh G c k b = x7 at *
      generalize q b s = x8 at *
      have t1 : x1 * x2 * (x5 * x6) = x1 * x2 * (x7 * x8 * (x4 * x3)) := by grind
      have t2 : x5 * x6 = x7 * x8 * (x4 * x3) := by
        have : x1 * x2 * (x5 * x6 - x7 * x8 * (x4 * x3)) = 0 := by grind
        rcases Rat.mul_eq_zero.mp this with e | e
        · exact absurd e w6'
        · grind
      rw [t2, Rat.div_def, Rat.mul_assoc, Rat.mul_inv_cancel _ w5, Rat.mul_one]
    have ev : yB G c k q b s + (((p' * a' : Int)) : Rat) / ((q' * c' : Nat) : Rat) = yB G c k q (b + 1) s := by rw [exx, yB_t hr]
    have lcmd : Nat.lcm (yB G c k q b s).den (q' * c') ∣ D * PbN G c k (b + 1) := by
      rw [PbN_t hr, ← Nat.mul_assoc]
      refine Nat.lcm_dvd (Nat.dvd_trans yd0 (Nat.dvd_mul_right _ _)) ?_
      refine Nat.mul_dvd_mul (Nat.dvd_trans ?_ (Nat.dvd_mul_right D _)) ?_
      · exact Nat.dvd_trans ⟨u2, by rw [Nat.mul_comm]; exact hq'⟩ qdv
      · exact ⟨u1, by rw [Nat.mul_comm]; exact hc'⟩
    have lcml := Nat.le_of_dvd (Nat.mul_pos hD (PbN_pos (b + 1))) lcmd
    refine m_addM (x := yB G c k q b s) k40 k41 (Nat.mul_pos q'p c'p) (Nat.le_trans lcml dpl1) (by rw [ev]; exact yb1.1) (by rw [ev]; exact Rat.le_trans yb1.2 (y63 _ (by omega))) (fun τ3 f3 g3 j40 j41 => ?_)
    rw [ev] at j40 j41
    refine ⟨by omega, ?_⟩
    rintro _ rfl
    refine ⟨by omega, ?_⟩
    rintro _ rfl
    refine kk _ ⟨(((hf.tr (f1.mo (fun _ z => z) (by simp) (fun _ z => z))).tr (f2.mo (fun _ z => z) (by simp) (fun _ z => z))).tr (f3.mo (fun _ z => z) (by simp) (fun _ z => z))).tr ((Fr.l (by decide)).tr (Fr.l (by decide))), ?_, fun t ht => ?_⟩
    · rw [rl, if_neg (by decide), rl, if_neg (by decide), g3 39 (by decide) (by decide), g2 39 (by decide) (by decide), g1 39 (by decide) (by decide)]
      exact hd39
    · dsimp only
      by_cases e : t = s
      · subst e
        rw [if_pos (Nat.lt_succ_self t)]
        refine ⟨?_, ?_⟩
        · rw [rl, if_neg (by decide), rl, if_pos rfl, if_pos rfl, j40]
        · rw [rl, if_pos rfl, if_pos rfl, rl, if_neg (by decide), j41]
      · have := hP t ht
        dsimp only at this
        refine ⟨?_, ?_⟩
        · rw [rl, if_neg (by decide), rl, if_pos rfl, if_neg e, f3.2.1 22 (by decide), f2.2.1 22 (by decide), f1.2.1 22 (by decide), this.1]
          by_cases c2 : t < s
          · rw [if_pos c2, if_pos (by omega)]
          · rw [if_neg c2, if_neg (by omega)]
        · rw [rl, if_pos rfl, if_neg e, rl, if_neg (by decide), f3.2.1 23 (by decide), f2.2.1 23 (by decide), f1.2.1 23 (by decide), this.2]
          by_cases c2 : t < s
          · rw [if_pos c2, if_pos (by omega)]
          · rw [if_neg c2, if_neg (by omega)]
  · rintro τ ⟨hf, hd39, hP⟩
    refine v_X12_means_141 ?_
    rw [hf.1 0 (by decide), h1]
    refine ⟨fun _ => ?_, fun z => absurd ((i32_le (by omega) (by omega)).mpr (Nat.le_refl _)) z⟩
    rw [n1, i32_add]
    refine hk τ hf (fun s hs => ?_)
    have := hP s hs
    dsimp only at this
    rw [if_pos hs] at this
    exact this
end YB
theorem m_meansX {Q : cg_S → Prop} (hW : GW G) (hw : whole G) (hpk : pkOk G p) (hpt : ∀ s, s < G 0 0 → mv p s = mv (G 10) s) (hp : MP σ p) (hG : MG σ G) (h : ∀ τ x, Fr [16, 17, 20] [0, 21, 22, 23, 30] [] σ τ → MNX G x → VX τ (G 0 0) x → Q τ) : M_X12_means σ Q := by
  have hn := hW.1
  obtain ⟨c, k, hM⟩ := MK_ex hW hw
  obtain ⟨D, q, hD, hDl, hq⟩ := chance_ex hW hw
  have hqS : ∀ b, rtn G b → SolR (G 0 0) (wtR G) (mv (G 10)) (RC G b) (q b) := fun b hb => (hq b hb).1
  have hqI : ∀ b, rtn G b → ∀ s, s < G 0 0 → isI (((D : Nat) : Rat) * q b s) := fun b hb => (hq b hb).2
  refine v_X12_means (m_reaches hW hp hG (fun τ0 r0 f0 _ _ => ?_))
  refine up (n := G 0 0) (fun s τ => Fr [16, 20] [0, 21, 22, 23] [] σ τ ∧ ∀ t, t < s → τ.2.1 22 t = i64 0 ∧ τ.2.1 23 t = i64 1) (fun w τ => L_X12_means_6 w τ Q) ?_ ?_ 0 τ0 (by omega) ⟨f0.mo (by simp) (by simp) (fun _ z => z), fun t ht => by omega⟩
  · rintro s τ hs ⟨hf, hP⟩ kk
    refine v_X12_means_6 ?_
    rw [(hG.fr hf (by decide)).1.1]
    simp (disch := omega) only [n0, n1, n2, n3, n4, n5, n6, n7, n8, n9, n49, n97, n98, n114, n102, n115, n119, n109, n112, i32_add, i32_mul, i32_N, i32_le, i32_lt, i32_eq, vpi_iff]
    refine ⟨fun z => by omega, fun _ => ⟨by omega, ?_⟩⟩
    rintro _ rfl
    refine ⟨by omega, ?_⟩
    rintro _ rfl
    refine kk _ ⟨hf.tr ((Fr.l (by decide)).tr (Fr.l (by decide))), fun t ht => ?_⟩
    by_cases e : t = s
    · subst e
      refine ⟨?_, ?_⟩
      · rw [rl, if_neg (by decide), rl, if_pos rfl, if_pos rfl]; rfl
      · rw [rl, if_pos rfl, if_pos rfl]; rfl
    · have := hP t (by omega)
      refine ⟨?_, ?_⟩
      · rw [rl, if_neg (by decide), rl, if_pos rfl, if_neg e]; exact this.1
      · rw [rl, if_pos rfl, if_neg e, rl, if_neg (by decide)]; exact this.2
  · rintro τ ⟨hf, hP⟩
    refine v_X12_means_6 ?_
    rw [(hG.fr hf (by decide)).1.1]
    refine ⟨fun _ => ?_, fun z => absurd ((i32_le (by omega) (by omega)).mpr (Nat.le_refl _)) z⟩
    refine up (n := G 0 0) (fun b τ => Fr [16, 20] [0, 21, 22, 23] [] σ τ ∧ YX τ (G 0 0) (yB G c k q b)) (fun w τ => L_X12_means_36 w τ Q) ?_ ?_ 0 τ (by omega) ⟨hf, fun s hs => hP s hs⟩
    · rintro b τ hb ⟨hf, hY⟩ kk
      have hG1 := hG.fr hf (by decide)
      have hp1 := hp.fr hf (by decide)
      refine v_X12_means_36 ?_
      rw [hG1.1.1]
      simp (disch := omega) only [n0, n1, n2, n3, n4, n5, n6, n7, n8, n9, n49, n97, n98, n114, n102, n115, n119, n109, n112, i32_add, i32_mul, i32_N, i32_le, i32_lt, i32_eq, vpi_iff]
      refine ⟨fun z => by omega, fun _ => m_reaches hW hp1 hG1 (fun τ1 r f1 hX hr0 => ?_)⟩
      have hG2 := hG1.fr f1 (by decide)
      have hp2 := hp1.fr f1 (by decide)
      have hf1 : Fr [16, 20] [0, 21, 22, 23] [] σ τ1 := hf.tr (f1.mo (by simp) (by simp) (fun _ z => z))
      have hY1 : YX τ1 (G 0 0) (yB G c k q b) := fun s hs => by rw [f1.2.1 22 (by decide), f1.2.1 23 (by decide)]; exact hY s hs
      have hr' : ∀ s t, s < G 0 0 → t < G 0 0 → (r s t ≠ 0 ↔ RC G s t) := fun s t hs ht => (hr0 s t hs ht).trans (rch_congr hpt hs)
      have skip : ¬ rtn G b → L_X12_means_36 (i32 (b + 1)) τ1 Q := fun hr => kk τ1 ⟨hf1, fun s hs => by rw [yB_f hr]; exact hY1 s hs⟩
      refine m_isClosed hn hG2.1.1 hX hb (fun c1 c2 => ⟨fun z => absurd z (by decide), fun _ => ?_⟩) (fun hc => ⟨fun _ => skip (fun hr => hc ⟨fun t ht h1 => (hr' t b ht hb).mpr (hr.1 t ((hr' b t hb ht).mp h1)), (hr' b b hb hb).mpr hr.2.2.1⟩), fun z => absurd rfl z⟩)
      have hcl : isClo G b := fun t ht => (hr' t b (rch_lt ht) hb).mp (c1 t (rch_lt ht) ((hr' b t hb (rch_lt ht)).mpr ht))
      have hbb : RC G b b := (hr' b b hb hb).mp c2
      refine m_lowestOf hn hX hb (fun t ht h1 h2 => ?_)
      rw [i32_eq (by omega) (by omega)]
      refine ⟨fun e => ?_, fun e => skip (fun hr => ?_)⟩
      · subst e
        have hr : rtn G t := ⟨hcl, hb, hbb, fun u hu hru => h2 u hu ⟨(hr' u t (by omega) hb).mpr (hcl u hru), (hr' t u hb (by omega)).mpr hru⟩⟩
        obtain ⟨D0, D1, X0, X1, z2, z3, y2, y3, s0, s1, s2, emh⟩ := cy_mh hW hw hM hr
        refine m_cycle (b := 1) hW hw hpt hp2 hG2 hX hr' hr (Nat.le_refl 1) y2 y3 (fun τ2 f2 => ?_)
        have hG3 := hG2.fr f2 (by decide)
        have hp3 := hp2.fr f2 (by decide)
        have hX3 := hX.fr f2 (by decide)
        refine m_cycle (b := 0) hW hw hpt hp3 hG3 hX3 hr' hr (by omega) z2 z3 (fun τ3 f3 => ?_)
        refine m_lowers (by unfold zfit; omega) (by unfold zfit; omega) (by omega) (fun τ4 f4 g4 e40 e41 => ?_)
        rw [← emh] at e40 e41
        rw [e40, e41]
        rintro _ rfl
        rintro _ rfl
        have F4 : Fr [] [0, 21] [] τ1 τ4 := (f2.tr f3).tr (f4.mo (fun _ z => z) (by simp) (fun _ z => z))
        have hX4 := hX.fr F4 (by decide)
        have hf4 : Fr [16, 20] [0, 21, 22, 23] [] σ τ4 := hf1.tr (F4.mo (by simp) (by simp) (fun _ z => z))
        refine up (n := G 0 0) (fun s υ => Fr [16] [] [] τ4 υ ∧ ∀ u, u < s → υ.1 16 u = i32 (b01 (RC G t u))) (fun w υ => L_X12_means_105 (i32 t) (i64 (mh G c k t).num) (i64 (((mh G c k t).den : Nat) : Int)) w υ Q) ?_ ?_ 0 τ4 (by omega) ⟨Fr.rf τ4, fun u hu => by omega⟩
        · rintro s υ hs ⟨hf5, hI⟩ kk2
          have hG5 := (hG.fr hf4 (by decide)).fr hf5 (by decide)
          have nxt : ∀ x : Nat, x = b01 (RC G t s) → L_X12_means_105 (i32 t) (i64 (mh G c k t).num) (i64 (((mh G c k t).den : Nat) : Int)) (i32 (s + 1)) (cg_i υ 16 s (i32 x)) Q := fun x hx => kk2 _ ⟨hf5.tr (Fr.i (by decide)), fun u hu => by
            rw [ri, if_pos rfl]
            by_cases e : u = s
            · rw [if_pos e, e, hx]
            · rw [if_neg e]; exact hI u (by omega)⟩
          refine v_X12_means_105 ?_
          rw [hG5.1.1]
          simp (disch := omega) only [n0, n1, n2, n3, n4, n5, n6, n7, n8, n9, n49, n97, n98, n114, n102, n115, n119, n109, n112, i32_add, i32_mul, i32_N, i32_le, i32_lt, i32_eq, vpi_iff]
          have tg := rtn_tg hr' hr hs
          refine ⟨fun z => by omega, fun _ => m_together hn (hX4.fr hf5 (by decide)) hs hb (fun y => ⟨by omega, ?_⟩) (fun y => ⟨by omega, ?_⟩)⟩
          · rintro _ rfl
            exact nxt 1 (b01_1 (tg.mp y)).symm
          · rintro _ rfl
            exact nxt 0 (b01_0 (fun z => y (tg.mpr z))).symm
        · rintro υ ⟨hf5, hI⟩
          have hf6 : Fr [16, 20] [0, 21, 22, 23] [] σ υ := hf4.tr (hf5.mo (by simp) (by simp) (fun _ z => z))
          have hG5 := hG.fr hf6 (by decide)
          have hp5 := hp.fr hf6 (by decide)
          refine v_X12_means_105 ?_
          rw [hG5.1.1]
          refine ⟨fun _ => ?_, fun z => absurd ((i32_le (by omega) (by omega)).mpr (Nat.le_refl _)) z⟩
          refine m_chances (tt := fun u => b01 (RC G t u)) hW hw hpk hp5 hG5 (fun s hs => ⟨hI s hs, b01_le _⟩) (fun τ5 x f7 g7 hSol hSv => ?_)
          have hSol2 : SolR (G 0 0) (wtR G) (mv (G 10)) (RC G t) x := SolR_cg hpt (fun s => b01_ne) hSol
          have hxq := solR_uniq (pk_c hW hw (told_ok hW hw)) hSol2 (hqS t hr)
          have hf7 : Fr [16, 20] [0, 21, 22, 23] [] σ τ5 := hf6.tr (f7.mo (by simp) (by simp) (fun _ z => z))
          refine m_mean141 hW hw hM hD hDl hq hr (hG.fr hf7 (by decide)).1.1 (Sv_cg hxq hSv) (fun s hs => ?_) (fun τ6 f8 hY6 => kk τ6 ⟨hf7.tr (f8.mo (by simp) (by simp) (fun _ z => z)), hY6⟩)
          rw [f7.2.1 22 (by decide), f7.2.1 23 (by decide), hf5.2.1 22 (by decide), hf5.2.1 23 (by decide), F4.2.1 22 (by decide), F4.2.1 23 (by decide)]
          exact hY1 s hs
      · rcases h1 with z | z
        · exact e z
        · exact hr.2.2.2 t (by omega) ((hr' b t hb (by omega)).mp z.2)
    · rintro τ ⟨hf, hY⟩
      refine v_X12_means_36 ?_
      rw [(hG.fr hf (by decide)).1.1]
      refine ⟨fun _ => ?_, fun z => absurd ((i32_le (by omega) (by omega)).mpr (Nat.le_refl _)) z⟩
      refine h τ _ (hf.mo (by simp) (by simp) (fun _ z => z)) (yB_MNX hW hw hM hqS) (fun s hs => ?_)
      have yb0 := yB_b hW hw hM hqS hs (G 0 0)
      have yd0 := yB_dv (c := c) (k := k) hD hqI hs (G 0 0)
      have yle := Nat.le_of_dvd (Nat.mul_pos hD (PbN_pos _)) yd0
      have dpl := DP_le (c := c) (k := k) hW hw hM hDl hn
      obtain ⟨yf1, yf2⟩ := zfit_nd yb0.1 (Rat.le_trans yb0.2 (by
        have : ((G 0 0 : Nat) : Rat) ≤ ((7 : Nat) : Rat) := Rat.natCast_le_natCast.mpr hn
        have e : ((7 : Nat) : Rat) = 7 := rfl
        rw [e] at this
        grind)) (Nat.le_trans yle dpl)
      exact ⟨yf1, yf2, hY s hs⟩
theorem mnm_all : MNM := fun _ _ _ _ hW hw hpk hpt hp hG h => m_meansX hW hw hpk hpt hp hG h
end MNMs
