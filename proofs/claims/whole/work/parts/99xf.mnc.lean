/-! MEANS in the class: findMeans -/
section MNCs
variable {σ : cg_S} {G : Gm} {ch : Nat}
theorem rnd_sys {o oi : Nat → Nat} {b : Nat} (hW : GW G) (hw : whole G) (hP : PM (G 0 0) o oi) : RND G (fun s => ((KKr G b s : Nat) : Rat)) (pmX (G 0 0) (pmS o G (G 10) (NNr G) (fun _ => 0) 1 1 (fun s => ((KKr G b s : Nat) : Int))) oi) ∧ (∀ s, s < G 0 0 → 0 ≤ pmX (G 0 0) (pmS o G (G 10) (NNr G) (fun _ => 0) 1 1 (fun s => ((KKr G b s : Nat) : Int))) oi s ∧ pmX (G 0 0) (pmS o G (G 10) (NNr G) (fun _ => 0) 1 1 (fun s => ((KKr G b s : Nat) : Int))) oi s ≤ 54 * 12 ^ 7) ∧ FT (pmS o G (G 10) (NNr G) (fun _ => 0) 1 1 (fun s => ((KKr G b s : Nat) : Int))) (G 0 0) ∧ gD (G 0 0) (hat (pmS o G (G 10) (NNr G) (fun _ => 0) 1 1 (fun s => ((KKr G b s : Nat) : Int)))) ≤ 6 ^ 6 := by
  obtain ⟨h1, h2, h3⟩ := pm_rnd (K := KKr G b) hW hw (told_ok hW hw) (told_2 hW) hP (rnd_can hW hw) (rnd_N hW hw) (KKr_9 hW b)
  exact ⟨RND_of (fun s hs => ⟨(h1 s hs).1, (h1 s hs).2.1⟩), fun s hs => (h1 s hs).2.2, h2, h3⟩
/-- answers of the class as whole numbers -/
theorem nat_sys {o oi : Nat → Nat} {N : Nat → Bool} {f c : Nat → Int} (hW : GW G) (hP : PM (G 0 0) o oi) (h0 : ∀ s, s < G 0 0 → 0 ≤ pmX (G 0 0) (pmS o G (G 10) N f 1 1 c) oi s) : ∃ (D : Nat) (U : Nat → Nat), 0 < D ∧ (gD (G 0 0) (hat (pmS o G (G 10) N f 1 1 c))).num = ((D : Nat) : Int) ∧ ((D : Nat) : Rat) = gD (G 0 0) (hat (pmS o G (G 10) N f 1 1 c)) ∧ ∀ s, s < G 0 0 → (gB (G 0 0) (hat (pmS o G (G 10) N f 1 1 c)) (oi s) 7).num = ((U s : Nat) : Int) ∧ ((U s : Nat) : Rat) = ((D : Nat) : Rat) * pmX (G 0 0) (pmS o G (G 10) N f 1 1 c) oi s := by
  have hZ := pm_Zm (p := G 10) (N := N) (f := f) (c := c) (ov := 1) (un := 1) hW (told_2 hW) hP (Nat.le_refl 1)
  have hI : ∀ i j, isI (pmS o G (G 10) N f 1 1 c i j) := pmA_int sysA_int
  have hiB := fun s => fit_iB (isI_hat hI) (hat_Zm hZ) (Nat.le_refl (G 0 0)) (hat_piv hZ) (Nat.le_refl (G 0 0)) s 7
  obtain ⟨d1, d2, d3⟩ := hat_D hI hZ (Nat.le_refl (G 0 0))
  unfold pmX at h0 ⊢
  generalize hat (pmS o G (G 10) N f 1 1 c) = H at *
  have dn : ((((gD (G 0 0) H).num.toNat : Nat) : Int)) = (gD (G 0 0) H).num := Int.toNat_of_nonneg (by omega)
  have dr : ((((gD (G 0 0) H).num.toNat : Nat)) : Rat) = gD (G 0 0) H := by rw [← Rat.intCast_natCast, dn, d2]
  refine ⟨(gD (G 0 0) H).num.toNat, fun s => (gB (G 0 0) H (oi s) 7).num.toNat, by omega, dn.symm, dr, fun s hs => ?_⟩
  have hne := Rat.ne_of_gt d1
  have ez : gD (G 0 0) H * (gB (G 0 0) H (oi s) 7 / gD (G 0 0) H) = gB (G 0 0) H (oi s) 7 := by
    rw [Rat.mul_comm, Rat.div_def, Rat.mul_assoc, Rat.inv_mul_cancel _ hne, Rat.mul_one]
  have hb0 : 0 ≤ gB (G 0 0) H (oi s) 7 := by
    rw [← ez]
    exact Rat.mul_nonneg (Rat.le_of_lt d1) (h0 s hs)
  have un : ((((gB (G 0 0) H (oi s) 7).num.toNat : Nat) : Int)) = (gB (G 0 0) H (oi s) 7).num := Int.toNat_of_nonneg (Rat.num_nonneg.mpr hb0)
  refine ⟨un.symm, ?_⟩
  rw [dr, ez, ← Rat.intCast_natCast, un, hiB]
theorem W_whl {U : Nat → Nat} {D h : Nat} {b : Nat} {x : Nat → Rat} (hW : GW G) (hh : h < G 0 0) (hU : ∀ s, s < G 0 0 → ((U s : Nat) : Rat) = ((D : Nat) : Rat) * x s) : ((bT G h * KKr G b h * D + sN (G 0 0) (fun t => wT G h t * U t) : Nat) : Rat) = ((D : Nat) : Rat) * whl G (fun s => ((KKr G b s : Nat) : Rat)) x h := by
  have hn := hW.1
  rw [Rat.natCast_add, Rat.natCast_mul, Rat.natCast_mul, sN_sr]
  unfold whl
  rw [sm_eq hW (mv_lt (by omega) (told_2 hW h (by omega)))]
  have e : sr (G 0 0) (fun t => ((wT G h t * U t : Nat) : Rat)) = ((D : Nat) : Rat) * c_ex (G 0 0) (wtR G) x (mv (G 10) h) := by
    rw [← ex_mul]
    refine sr_congr (fun t ht => ?_)
    dsimp only
    rw [Rat.natCast_mul, hU t ht]
    rfl
  rw [e]
  show ((bT G h : Nat) : Rat) * _ * _ + _ = _
  unfold bT
  grind
theorem c_findMeans {Q : cg_S → Prop} (hC : CG σ G ch) (hK : CK σ G ch) (hW : GW G) (hw : whole G) (h : ∀ τ x, CG τ G ch → CK τ G ch → MNX G x → AN τ (G 0 0) x → Q τ) : M_X6_findMeans 19 σ Q := by
  have hn := hW.1
  obtain ⟨c, k, hM⟩ := MK_ex hW hw
  refine v_X6_findMeans (Or.inl rfl) (c_findClosed hC hW (fun τ1 f1 hCL => ?_))
  have hC1 := hC.fr f1 (by decide)
  refine c_arrange hC1 hW (fun τ2 o oi nA f2 hO => ?_)
  have hC2 := hC1.fr f2 (by decide)
  have hCL2 : CLS τ2 G := fun s hs => by rw [f2.1 28 (by decide)]; exact hCL s hs
  have hP := hO.pm
  obtain ⟨r1, x1, ft1, d61⟩ := rnd_sys (b := 1) hW hw hP
  obtain ⟨r0, x0, ft0, d60⟩ := rnd_sys (b := 0) hW hw hP
  obtain ⟨D1, U, u1, u2, u3, u4⟩ := nat_sys hW hP (fun s hs => (x1 s hs).1)
  obtain ⟨D0, W, w1, w2, w3, w4⟩ := nat_sys hW hP (fun s hs => (x0 s hs).1)
  have hcol : gD (G 0 0) (hat (pmS o G (G 10) (NNr G) (fun _ => 0) 1 1 (fun s => ((KKr G 1 s : Nat) : Int)))) = gD (G 0 0) (hat (pmS o G (G 10) (NNr G) (fun _ => 0) 1 1 (fun s => ((KKr G 0 s : Nat) : Int)))) := gD_pm hn hP
  have eD : D1 = D0 := Rat.natCast_inj.mp (by rw [u3, w3, hcol])
  subst eD
  have hcs := RND_uq hW hw (RND_K (fun s hs => KKr_1 hs) r1) hM.1
  have hks := RND_uq hW hw (RND_K (fun s hs => KKr_0 s) r0) hM.2.1
  have hUr : ∀ s, s < G 0 0 → ((U s : Nat) : Rat) = ((D1 : Nat) : Rat) * c s := fun s hs => by rw [(u4 s hs).2, hcs s hs]
  have hWr : ∀ s, s < G 0 0 → ((W s : Nat) : Rat) = ((D1 : Nat) : Rat) * k s := fun s hs => by rw [(w4 s hs).2, hks s hs]
  have cB : ∀ s, s < G 0 0 → c s ≤ 54 * 12 ^ 7 := fun s hs => by rw [← hcs s hs]; exact (x1 s hs).2
  have kB : ∀ s, s < G 0 0 → k s ≤ 54 * 12 ^ 7 := fun s hs => by rw [← hks s hs]; exact (x0 s hs).2
  have dR : ((D1 : Nat) : Rat) ≤ 6 ^ 6 := by rw [u3]; exact d61
  refine c_solveReturns (b := 1) (Nat.le_refl 1) hC2 hW hw hCL2 hO ft1 (fun τ3 f3 hX1 => ?_)
  have hC3 := hC2.fr f3 (by decide)
  refine up (n := G 0 0) (fun t υ => Fr [] [59] [] τ3 υ ∧ ∀ s, s < t → υ.2.1 59 s = i64 ((U s : Nat) : Int)) (fun w υ => L_X6_findMeans_20 19 w υ Q) ?_ ?_ 0 τ3 (by omega) ⟨Fr.rf τ3, fun s hs => by omega⟩
  · rintro t υ ht ⟨hf, hU⟩ kk
    have hC4 := hC3.fr hf (by decide)
    refine v_X6_findMeans_20 (Or.inl rfl) ?_
    rw [hC4.1.1]
    simp (disch := omega) only [n0, n1, n2, n3, n4, n5, n6, n7, n8, n9, n49, n97, n98, n114, n102, n115, n119, n109, n112, i32_add, i32_mul, i32_N, i32_le, i32_lt, i32_eq, vpi_iff]
    refine ⟨fun z => by omega, fun _ => ⟨by omega, by omega, ?_⟩⟩
    rintro _ rfl
    refine kk _ ⟨hf.tr (Fr.l (by decide)), fun s hs => ?_⟩
    rw [rl, if_pos rfl]
    by_cases e : s = t
    · rw [if_pos e, hf.2.1 58 (by decide), hX1.2 t ht, e, (u4 t ht).1]
    · rw [if_neg e]; exact hU s (by omega)
  · rintro τ4 ⟨hf, hU⟩
    have hC4 := hC3.fr hf (by decide)
    have hCL4 : CLS τ4 G := fun s hs => by rw [hf.1 28 (by decide), f3.1 28 (by decide)]; exact hCL2 s hs
    have hO4 : ORD τ4 (G 0 0) nA (gA G) o oi := (hO.fr f3 (by decide)).fr hf (by decide)
    refine v_X6_findMeans_20 (Or.inl rfl) ?_
    rw [hC4.1.1]
    refine ⟨fun _ => ?_, fun z => absurd ((i32_le (by omega) (by omega)).mpr (Nat.le_refl _)) z⟩
    refine c_solveReturns (b := 0) (by omega) hC4 hW hw hCL4 hO4 ft0 (fun τ5 f5 hX0 => ?_)
    have hC5 := hC4.fr f5 (by decide)
    have hCL5 : CLS τ5 G := fun s hs => by rw [f5.1 28 (by decide)]; exact hCL4 s hs
    have hO5 : ORD τ5 (G 0 0) nA (gA G) o oi := hO4.fr f5 (by decide)
    have h59 : ∀ t, t < G 0 0 → τ5.2.1 59 t = i64 ((U t : Nat) : Int) := fun t ht => by rw [f5.2.1 59 (by decide)]; exact hU t ht
    have h58 : ∀ t, t < G 0 0 → τ5.2.1 58 t = i64 ((W t : Nat) : Int) := fun t ht => by rw [hX0.2 t ht, (w4 t ht).1]
    have h44 : τ5.2.1 4 4 = i64 ((D1 : Nat) : Int) := by rw [hX0.1, w2]
    refine up (n := G 0 0) (fun s υ => Fr [] [68, 76] [] τ5 υ ∧ ∀ b, b < s → rtn G b → υ.2.1 68 b = i64 (mh G c k b).num ∧ υ.2.1 76 b = i64 ((mh G c k b).den : Nat)) (fun w υ => L_X6_findMeans_63 19 w υ Q) ?_ ?_ 0 τ5 (by omega) ⟨Fr.rf τ5, fun s hs => by omega⟩
    · rintro s υ hs ⟨hf6, hV⟩ kk
      have hC6 := hC5.fr hf6 (by decide)
      have hCL6 : CLS υ G := fun s hs => by rw [hf6.1 28 (by decide)]; exact hCL5 s hs
      refine v_X6_findMeans_63 (Or.inl rfl) ?_
      rw [hC6.1.1]
      simp (disch := omega) only [n0, n1, n2, n3, n4, n5, n6, n7, n8, n9, n49, n97, n98, n114, n102, n115, n119, n109, n112, i32_add, i32_mul, i32_N, i32_le, i32_lt, i32_eq, vpi_iff]
      refine ⟨fun z => by omega, fun _ => c_isReturn hW hw hs hCL6 (fun hr => ⟨fun z => absurd z (by decide), fun _ => ⟨by omega, ?_⟩⟩) (fun hr => ⟨fun _ => kk υ ⟨hf6, fun b hb hrb => ?_⟩, fun z => absurd rfl z⟩)⟩
      · rw [(hC6.2.1 s (by omega)).2.2.2]
        refine c_moveOf ?_
        have hb := mh_b hW hw hM hs
        have eC := W_whl (b := 1) hW hs hUr
        have eS := W_whl (b := 0) hW hs hWr
        have e1 : bT G s * KKr G 1 s * D1 + sN (G 0 0) (fun t => wT G s t * U t) = cstW G U D1 s := by
          unfold cstW KKr
          rw [if_neg (by decide), if_pos hs]
        have e0 : bT G s * KKr G 0 s * D1 + sN (G 0 0) (fun t => wT G s t * W t) = stpW G W D1 s := by
          unfold stpW KKr
          rw [if_pos rfl, Nat.mul_one]
        rw [e1] at eC
        rw [e0] at eS
        have q1 : whl G (fun s => ((KKr G 1 s : Nat) : Rat)) c s = whl G (cst1 G) c s := whl_K (KKr_1 hs)
        have q0 : whl G (fun s => ((KKr G 0 s : Nat) : Rat)) k s = whl G (fun _ => 1) k s := whl_K (KKr_0 s)
        rw [q1] at eC
        rw [q0] at eS
        have hDp : (0 : Rat) < ((D1 : Nat) : Rat) := Rat.natCast_pos.mpr u1
        have hSp : (0 : Rat) < ((stpW G W D1 s : Nat) : Rat) := by rw [eS]; exact Rat.mul_pos hDp hb.1
        have emh : ((cstW G U D1 s : Nat) : Rat) / ((stpW G W D1 s : Nat) : Rat) = mh G c k s := by
          rw [eC, eS]
          unfold mh
          have a1 := Rat.ne_of_gt hDp
          have a2 := Rat.ne_of_gt hb.1
          have a3 : ((D1 : Nat) : Rat) * whl G (fun _ => 1) k s ≠ 0 := fun e => by rcases Rat.mul_eq_zero.mp e with e | e; exact a1 e; exact a2 e
          generalize ((D1 : Nat) : Rat) = d at *
          generalize whl G (fun _ => 1) k s = u at *
          generalize whl G (cst1 G) c s = v at *
          grind
        have hok := pk_c hW hw (told_ok hW hw) s hs
        have hm : mv (G 10) s < 21 := mv_lt (by omega) (told_2 hW s (by omega))
        have s6 : c_sm (G 0 0) (wtR G) (mv (G 10) s) ≤ 6 := by
          rw [sm_eq hW hm]
          exact Rat.natCast_le_natCast.mpr (hW.2.2.1 _ hm).2.2.1
        have wl : whl G (fun _ => 1) k s ≤ 1000 * (54 * 12 ^ 7) := by
          unfold whl
          have g1 : c_ex (G 0 0) (wtR G) k (mv (G 10) s) ≤ (54 * 12 ^ 7) * c_sm (G 0 0) (wtR G) (mv (G 10) s) := by
            rw [← c_ex_const]
            exact c_ex_le hok.1 kB
          have g2 : (1 : Rat) ≤ 54 * 12 ^ 7 := by decide +kernel
          have g3 := Rat.mul_nonneg (a := 54 * 12 ^ 7) (b := 6 - c_sm (G 0 0) (wtR G) (mv (G 10) s)) (by grind) (by grind)
          generalize (54 : Rat) * 12 ^ 7 = V at *
          grind
        have wc : whl G (cst1 G) c s ≤ 1000 * (54 * 12 ^ 7) := by
          have g0 : whl G (cst1 G) c s ≤ 9 * 6 + 6 * (54 * 12 ^ 7) := by
            unfold whl
            have g1 : c_ex (G 0 0) (wtR G) c (mv (G 10) s) ≤ (54 * 12 ^ 7) * c_sm (G 0 0) (wtR G) (mv (G 10) s) := by
              rw [← c_ex_const]
              exact c_ex_le hok.1 cB
            have g2 : (1 : Rat) ≤ 54 * 12 ^ 7 := by decide +kernel
            have g3 := Rat.mul_nonneg (a := 54 * 12 ^ 7) (b := 6 - c_sm (G 0 0) (wtR G) (mv (G 10) s)) (by grind) (by grind)
            have g4 : cst1 G s ≤ 9 := by
              unfold cst1
              have : ((G 4 (mv (G 10) s) : Nat) : Rat) ≤ ((9 : Nat) : Rat) := Rat.natCast_le_natCast.mpr (hW.2.2.1 _ hm).1
              exact this
            have g5 : 0 ≤ cst1 G s := Rat.natCast_nonneg
            have g6 := rat_mul_le (Rat.le_of_lt hok.2) g5 s6 g4
            generalize (54 : Rat) * 12 ^ 7 = V at *
            grind
          have g2 : (1 : Rat) ≤ 54 * 12 ^ 7 := by decide +kernel
          generalize (54 : Rat) * 12 ^ 7 = V at *
          grind
        have big : (6 : Rat) ^ 6 * (1000 * (54 * 12 ^ 7)) ≤ ((9000000000000000000 : Nat) : Rat) := by decide +kernel
        have fc : cstW G U D1 s ≤ 9000000000000000000 := by
          refine Rat.natCast_le_natCast.mp (Rat.le_trans ?_ big)
          rw [eC]
          exact rat_mul_le (Rat.le_of_lt hDp) hb.2.1 dR wc
        have fs : stpW G W D1 s ≤ 9000000000000000000 := by
          refine Rat.natCast_le_natCast.mp (Rat.le_trans ?_ big)
          rw [eS]
          exact rat_mul_le (Rat.le_of_lt hDp) (Rat.le_of_lt hb.1) dR wl
        have fp : stpW G W D1 s ≠ 0 := fun e => by rw [e] at hSp; exact absurd hSp (by decide)
        refine c_findMean (D := D1) (U := U) (W := W) hC6 hW hs (fun t ht => by rw [hf6.2.1 59 (by decide)]; exact h59 t ht) (fun t ht => by rw [hf6.2.1 58 (by decide)]; exact h58 t ht) (by rw [hf6.2.1 4 (by decide)]; exact h44) (by omega) (by omega) fp (fun ω f7 g1 g2 g3 => ?_)
        rw [emh] at g1 g2
        refine kk ω ⟨hf6.tr f7, fun b hb hrb => ?_⟩
        by_cases e : b = s
        · subst e; exact ⟨g1, g2⟩
        · rw [(g3 b e).1, (g3 b e).2]; exact hV b (by omega) hrb
      · by_cases e : b = s
        · rw [e] at hrb; exact absurd hrb hr
        · exact hV b (by omega) hrb
    · rintro υ ⟨hf6, hV⟩
      have hC6 := hC5.fr hf6 (by decide)
      have hCL6 : CLS υ G := fun s hs => by rw [hf6.1 28 (by decide)]; exact hCL5 s hs
      refine v_X6_findMeans_63 (Or.inl rfl) ?_
      rw [hC6.1.1]
      refine ⟨fun _ => ?_, fun z => absurd ((i32_le (by omega) (by omega)).mpr (Nat.le_refl _)) z⟩
      refine c_spread hC6 hW hw hCL6 (hO5.fr hf6 (by decide)) hM (fun b hrb => hV b hrb.2.1 hrb) (fun τ x f8 hx hAN => ?_)
      have hK6 : CK υ G ch := ((((((hK.fr f1 (by decide)).fr f2 (by decide)).fr f3 (by decide)).fr hf (by decide)).fr f5 (by decide)).fr hf6 (by decide))
      exact h τ x (hC6.fr f8 (by decide)) (hK6.fr f8 (by decide)) hx hAN
theorem mnc_all : MNC := fun _ _ _ _ hC hK hW hw h => c_findMeans hC hK hW hw h
end MNCs
