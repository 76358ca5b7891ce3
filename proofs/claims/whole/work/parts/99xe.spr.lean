/-! MEANS in the class: spreadMeans -/
theorem rat_mx (x : Rat) : x * ((x.den : Nat) : Rat) = ((x.num : Int) : Rat) := by
  have h := rat_nd x
  have hne : ((x.den : Nat) : Rat) ≠ 0 := fun e => by
    have := Rat.natCast_eq_zero_iff.mp e
    have := Rat.den_pos x
    omega
  generalize ((x.den : Nat) : Rat) = d at *
  generalize ((x.num : Int) : Rat) = m at *
  rw [h, Rat.div_def, Rat.mul_assoc, Rat.inv_mul_cancel _ hne, Rat.mul_one]
theorem den_lcm {m d : Nat} (hd : 0 < d) : d ∣ m * (((m : Nat) : Rat) / ((d : Nat) : Rat)).den ∧ ∀ P, m ∣ P → m * (((m : Nat) : Rat) / ((d : Nat) : Rat)).den ∣ P * d := by
  have h := (rat_num (a := (m : Int)) (b := (d : Int)) (by omega)).2
  rw [Int.sign_eq_one_of_pos (by omega), Int.mul_one, Rat.intCast_natCast, Rat.intCast_natCast] at h
  have e : (((m : Nat) : Rat) / ((d : Nat) : Rat)).den * Nat.gcd m d = d := by
    have : Int.gcd (m : Int) (d : Int) = Nat.gcd m d := rfl
    rw [this, ← Int.natCast_mul] at h
    exact Int.ofNat.inj h
  generalize (((m : Nat) : Rat) / ((d : Nat) : Rat)).den = q at *
  refine ⟨?_, fun P hP => ?_⟩
  · obtain ⟨m', hm⟩ := Nat.gcd_dvd_left m d
    refine ⟨m', ?_⟩
    calc m * q = (Nat.gcd m d * m') * q := by rw [← hm]
      _ = (q * Nat.gcd m d) * m' := by ac_rfl
      _ = d * m' := by rw [e]
  · exact Nat.mul_dvd_mul hP ⟨Nat.gcd m d, e.symm⟩
section SPR
variable {σ : cg_S} {G : Gm} {ch : Nat}
theorem Pb_nat {c k : Nat → Rat} (hW : GW G) (hw : whole G) (hM : MK G c k) {B m : Nat} (hB : B ≤ 7) (hm : m ∣ PbN G c k B) : m ≤ 230539333248 := by
  have h1 := PbN_le hW hw hM B hB
  have h2 := (w67 hW).1
  have h3 := prR_one (w6_1 (G := G)) (G 0 0)
  have h4 := prR_nn (a := w7 G) (fun i => Rat.le_trans (show (0 : Rat) ≤ 1 by decide) (w7_1 i)) 7
  have h5 := Rat.mul_nonneg (a := prR (G 0 0) (w6 G) - 1) (by grind) h4
  have h6 : ((PbN G c k B : Nat) : Rat) ≤ ((230539333248 : Nat) : Rat) := by
    have e : (42 : Rat) ^ 7 = ((230539333248 : Nat) : Rat) := by decide +kernel
    rw [← e]
    grind
  have h7 := Rat.natCast_le_natCast.mp h6
  have h8 := Nat.le_of_dvd (PbN_pos B) hm
  omega
/-- the system of the last solve -/
theorem spr_sys {nA : Nat} {A : Nat → Prop} {o oi : Nat → Nat} {c k : Nat → Rat} {m : Nat} {f : Nat → Int} {y : Nat → Rat} (hW : GW G) (hw : whole G) (hP : PM (G 0 0) o oi) (hM : MK G c k) (hm0 : 0 < m) (hm : m ∣ PbN G c k (G 0 0)) (hf : ∀ s, s < G 0 0 → isClo G s → ((f s : Int) : Rat) = ((m : Nat) : Rat) * y s) (hy : MNX G y) (hy0 : ∀ s, s < G 0 0 → 0 ≤ y s ∧ y s ≤ 63) : FT (chP G o f) (G 0 0) ∧ ∀ s, s < G 0 0 → pmX (G 0 0) (chP G o f) oi s = ((m : Nat) : Rat) * y s := by
  have hn := hW.1
  have hsol := ch_sol (f := f) hW hw hP
  have mR0 : (0 : Rat) ≤ ((m : Nat) : Rat) := Rat.natCast_nonneg
  have mR1 : (1 : Rat) ≤ ((m : Nat) : Rat) := Rat.natCast_le_natCast.mpr (show 1 ≤ m from hm0)
  obtain ⟨c', k', -, -, -, y4⟩ := id hy
  have key := harm (p := mv (G 10)) (T := isClo G) (d := fun s => pmX (G 0 0) (chP G o f) oi s - ((m : Nat) : Rat) * y s) (pk_c hW hw (told_ok hW hw)) (fun s hs ht => by rw [(hsol s hs).1 ht, hf s hs ht]; grind) (fun s hs ht => by
    have a := (hsol s hs).2 ht
    have b := y4 s hs ht
    rw [ex_sub, ex_mul]
    grind) (fun s hs => by
    obtain ⟨t, ht, z1, z2⟩ := clo_ex hW hw hs
    exact can_rt z1 hs ht z2)
  have heq : ∀ s, s < G 0 0 → pmX (G 0 0) (chP G o f) oi s = ((m : Nat) : Rat) * y s := fun s hs => by
    have := key s hs
    grind
  refine ⟨?_, heq⟩
  have hZ := pm_Zm (p := G 10) (N := CB G) (f := f) (c := fun _ => 0) (ov := 1) (un := 1) hW (told_2 hW) hP (Nat.le_refl 1)
  obtain ⟨-, h2, h3⟩ := pm_sol (N := CB G) (f := f) (ov := 1) (un := 1) (c := fun _ => 0) hW hw (told_ok hW hw) (told_2 hW) hP (Nat.le_refl 1) (Or.inr (ch_none hW hw hP))
  have hPm : ((m : Nat) : Rat) ≤ prR 7 (w7 G) := Rat.le_trans (Rat.natCast_le_natCast.mpr (Nat.le_of_dvd (PbN_pos _) hm)) (PbN_le hW hw hM _ hn)
  have hperm : prR (G 0 0) (fun i => w6 G (o i)) = prR (G 0 0) (w6 G) := prR_perm hP.1 hP.2
  have p1 := prR_one (w6_1 (G := G)) (G 0 0)
  have big : (63 : Rat) * 42 ^ 7 ≤ 9000000000000000000 := by decide +kernel
  have hw67 := w67 hW
  have b1 := rat_mul_le (a := prR (G 0 0) (w6 G)) (c := ((m : Nat) : Rat)) (by grind) mR0 Rat.le_refl hPm
  have b2 := rat_mul_le (a := prR (G 0 0) (w6 G) * prR (G 0 0) (w6 G)) (c := ((m : Nat) : Rat)) (Rat.mul_nonneg (by grind) (by grind)) mR0 Rat.le_refl hPm
  refine (ft_of (a := fun i => w6 G (o i)) (V := 63 * ((m : Nat) : Rat)) hn (pmA_int sysA_int) hZ (fun s => w6_1 _) (ch_diag hW hw hP) (fun s hs => ?_) h2 h3 (fun s hs => ?_) (fun s hs => ?_) (by grind) ⟨fun i hi => ?_, ?_⟩).1
  · have ho := (hP.1 s hs).1
    show 0 ≤ pmS o G (G 10) (CB G) f 1 1 (fun _ => 0) s 7
    rw [pm_rhs hW (told_2 hW) ho]
    split
    · have e0 : (((0 : Int)) : Rat) = 0 := rfl
      rw [e0, Rat.mul_zero]; exact Rat.le_refl
    · rename_i hc
      have hc2 : isClo G (o s) := by
        cases hh : CB G (o s) with
        | false => exact absurd hh hc
        | true => exact CB_t.mp hh
      rw [hf _ ho hc2]
      exact Rat.mul_nonneg mR0 (hy0 _ ho).1
  · rw [pmX_o hP s hs, heq _ (hP.1 s hs).1]
    exact Rat.mul_nonneg mR0 (hy0 _ (hP.1 s hs).1).1
  · rw [pmX_o hP s hs, heq _ (hP.1 s hs).1]
    have := Rat.mul_nonneg mR0 (b := 63 - y (o s)) (by have := (hy0 _ (hP.1 s hs).1).2; grind)
    grind
  · rw [hperm]
    have q1 : prR (i + 1) (fun i => w6 G (o i)) ≤ prR (G 0 0) (w6 G) := by
      rw [← hperm]
      exact prR_le (fun s => w6_1 _) (by omega)
    have q2 := prR_one (a := fun i => w6 G (o i)) (fun s => w6_1 _) (i + 1)
    have q3 := rat_mul_le (by grind) (show 0 ≤ prR (G 0 0) (w6 G) by grind) q1 Rat.le_refl
    have q4 := rat_mul_le (Rat.mul_nonneg (by grind) (by grind)) (show (0 : Rat) ≤ 63 * ((m : Nat) : Rat) by grind) q3 Rat.le_refl
    generalize prR (i + 1) (fun i => w6 G (o i)) = P1 at *
    generalize prR (G 0 0) (w6 G) = P2 at *
    generalize prR 7 (w7 G) = P3 at *
    grind
  · rw [hperm]
    generalize prR (G 0 0) (w6 G) = P2 at *
    generalize prR 7 (w7 G) = P3 at *
    grind
theorem c_spread {nA : Nat} {A : Nat → Prop} {o oi : Nat → Nat} {c k : Nat → Rat} {Q : cg_S → Prop} (hC : CG σ G ch) (hW : GW G) (hw : whole G) (hCL : CLS σ G) (hO : ORD σ (G 0 0) nA A o oi) (hM : MK G c k) (hV : ∀ h, rtn G h → σ.2.1 68 h = i64 (mh G c k h).num ∧ σ.2.1 76 h = i64 ((mh G c k h).den : Nat)) (h : ∀ τ x, Fr [] cL [] σ τ → MNX G x → AN τ (G 0 0) x → Q τ) : M_X6_spreadMeans 19 σ Q := by
  have hn := hW.1
  have hP := hO.pm
  refine v_X6_spreadMeans (Or.inl rfl) ?_
  have fin : ∀ m : Nat, 0 < m → m ∣ PbN G c k (G 0 0) → (∀ b, b < G 0 0 → rtn G b → (mh G c k b).den ∣ m) → L_X6_spreadMeans_52 19 (i64 ((m : Nat) : Int)) (i32 0) σ Q := fun m hm0 hm hall => by
    obtain ⟨D, q, -, -, hq⟩ := chance_ex hW hw
    have hy := yB_MNX hW hw hM (fun b hb => (hq b hb).1)
    have hyb : ∀ s, s < G 0 0 → 0 ≤ yB G c k q (G 0 0) s ∧ yB G c k q (G 0 0) s ≤ 63 := fun s hs => by
      obtain ⟨a1, a2⟩ := yB_b hW hw hM (fun b hb => (hq b hb).1) hs (G 0 0)
      refine ⟨a1, Rat.le_trans a2 ?_⟩
      have : ((G 0 0 : Nat) : Rat) ≤ ((7 : Nat) : Rat) := Rat.natCast_le_natCast.mpr hn
      have e : ((7 : Nat) : Rat) = 7 := rfl
      rw [e] at this
      grind
    generalize yB G c k q (G 0 0) = y at hy hyb
    have hlow : ∀ s, ∃ h, s < G 0 0 → cloL G s h := fun s => by
      by_cases hs : s < G 0 0
      · obtain ⟨h, hl⟩ := low_ex hW hw hs
        exact ⟨h, fun _ => hl⟩
      · exact ⟨0, fun z => absurd z hs⟩
    obtain ⟨hm', hm'l⟩ : ∃ g : Nat → Nat, ∀ s, s < G 0 0 → cloL G s (g s) := ⟨fun s => Classical.choose (hlow s), fun s => Classical.choose_spec (hlow s)⟩
    have hf : ∀ s, s < G 0 0 → isClo G s → (((mh G c k (hm' s)).num * ((m / (mh G c k (hm' s)).den : Nat) : Int) : Int) : Rat) = ((m : Nat) : Rat) * y s := fun s hs hc => by
      have hl := hm'l s hs
      have hr := low_rtn hs hc hl
      obtain ⟨c', k', x1, x2, x3, x4⟩ := id hy
      have hc1 := RND_uq hW hw x1 hM.1
      have hk1 := RND_uq hW hw x2 hM.2.1
      have e1 := (x3 s _ hs hc hl).2
      rw [whl_cg hc1, whl_cg hk1] at e1
      have e2 : y s = mh G c k (hm' s) := e1
      rw [e2]
      obtain ⟨w, hw'⟩ := hall _ hl.1 hr
      have hdp := Rat.den_pos (mh G c k (hm' s))
      rw [hw', Nat.mul_div_cancel_left _ hdp, Rat.intCast_mul, Rat.intCast_natCast, Rat.natCast_mul]
      have e5 := rat_mx (mh G c k (hm' s))
      rw [← e5]
      grind
    obtain ⟨hFT, heq⟩ := spr_sys (nA := nA) (A := A) (f := fun s => (mh G c k (hm' s)).num * ((m / (mh G c k (hm' s)).den : Nat) : Int)) hW hw hP hM hm0 hm hf hy hyb
    have mle := Pb_nat hW hw hM hn hm
    refine up (n := G 0 0) (fun s υ => Fr [] cL [] σ υ ∧ ∀ i, i < G 0 0 → o i < s → RAW υ (G 0 0) o (chP G o (fun s => (mh G c k (hm' s)).num * ((m / (mh G c k (hm' s)).den : Nat) : Int))) i) (fun w υ => L_X6_spreadMeans_52 19 (i64 ((m : Nat) : Int)) w υ Q) ?_ ?_ 0 σ (by omega) ⟨Fr.rf σ, fun i _ hi => by omega⟩
    · rintro s υ hs ⟨hf1, hr⟩ kk
      have hC2 := hC.fr hf1 (by decide)
      have hCL2 : CLS υ G := fun s hs => by rw [hf1.1 28 (by simp)]; exact hCL s hs
      have hm21 : mv (G 10) s < 21 := mv_lt (show s < 7 by omega) (told_2 hW _ (by omega))
      have row : ∀ ω, Fr [] [60 + s] [] υ ω → (∀ t, t < G 0 0 → ω.2.1 (60 + s) t = i64 (if CB G s then rowN ((fun s => (mh G c k (hm' s)).num * ((m / (mh G c k (hm' s)).den : Nat) : Int)) s) s t else rowS G (G 10) s 0 1 1 t)) → ω.2.1 (60 + s) 7 = i64 (if CB G s then rowN ((fun s => (mh G c k (hm' s)).num * ((m / (mh G c k (hm' s)).den : Nat) : Int)) s) s 7 else rowS G (G 10) s 0 1 1 7) → L_X6_spreadMeans_52 19 (i64 ((m : Nat) : Int)) (i32 (s + 1)) ω Q := fun ω f1 f2 f3 => kk ω ⟨hf1.tr (Fr.cl (by omega) f1), fun i hi hik => by
        by_cases e : o i = s
        · subst e
          exact raw_of hn hP hi f2 f3
        · exact (hr i hi (by omega)).fr f1 (by simp; omega)⟩
      have hmk := hCL2 s hs
      have hz := mk_zero hmk
      have e19 : υ.1 19 s = i32 (G 10 s) := (hC2.2.1 s (by omega)).2.2.2
      refine v_X6_spreadMeans_52 (Or.inl rfl) ?_
      rw [hC2.1.1]
      simp (disch := omega) only [n0, n1, n2, n3, n4, n5, n6, n7, n8, n9, n49, n97, n98, n114, n102, n115, n119, n109, n112, i32_add, i32_mul, i32_N, i32_le, i32_lt, i32_eq, vpi_iff]
      have z0 : i32 0 = 0 := rfl
      refine ⟨fun z => by omega, fun _ => ⟨by omega, fun z => ⟨by omega, ?_⟩, fun z => ⟨by omega, ?_⟩⟩⟩
      · have hc : isClo G s := Classical.byContradiction fun y => z (hz.mpr (fun t _ y2 => y y2.1))
        refine c_ntz hmk z (fun t ht hPt hlo => ?_)
        have hl : cloL G s t := ⟨rch_lt hPt.2, hPt.2, fun u hu hr => hlo u hu ⟨hPt.1, hr⟩⟩
        have hr' := low_rtn hs hc hl
        have et : hm' s = t := cloL_uniq (hm'l s hs) hl
        obtain ⟨v1, v2⟩ := hV t hr'
        have e68 : υ.2.1 68 t = i64 (mh G c k t).num := by rw [hf1.2.1 68 (by simp)]; exact v1
        have e76 : υ.2.1 76 t = i64 ((mh G c k t).den : Nat) := by rw [hf1.2.1 76 (by simp)]; exact v2
        obtain ⟨w, hw'⟩ := hall _ hl.1 hr'
        have hdp := Rat.den_pos (mh G c k t)
        have hdle : (mh G c k t).den ≤ m := Nat.le_of_dvd hm0 ⟨w, hw'⟩
        have hwq : m / (mh G c k t).den = w := by rw [hw', Nat.mul_div_cancel_left _ hdp]
        rw [show (12 + 64 : Nat) = 76 from rfl, show (12 + 56 : Nat) = 68 from rfl]
        simp (disch := omega) only [n0, n1, n2, n3, n4, n5, n6, n7, n8, n9, n49, n97, n98, n114, n102, n115, n119, n109, n112, i32_add, i32_mul, i32_N, i32_le, i32_lt, i32_eq, vpi_iff]
        rw [e68, e76]
        refine ⟨by omega, by omega, c_quot (q := ((w : Nat) : Int)) (by rw [← Int.natCast_mul, ← hw']) (by omega) (by unfold zfit; omega) (by unfold zfit; omega) ?_⟩
        rw [i64_mul]
        refine c_fix (by omega) (fun ω f1 f2 f3 => row ω f1 (fun u hu => ?_) ?_)
        · rw [CB_t.mpr hc, f2 u (by omega)]
          simp only [if_true, et, hwq]
        · rw [CB_t.mpr hc, f3]
          simp only [if_true, et, hwq]
          unfold rowN
          rw [if_pos rfl]
      · have hc : ¬ isClo G s := fun y => by
          obtain ⟨t, ht, hst⟩ := rch_some hW hw hs
          exact (hz.mp z) t (by omega) ⟨y, hst⟩
        rw [e19]
        refine c_moveOf ?_
        refine c_step (ov := 1) (un := 1) (c := 0) (p := G 10) hC2 hW hs (show 3 * s + G 10 s < 21 from hm21) rfl (by omega) (by omega) (fun ω f1 f2 f3 => row ω f1 (fun u hu => ?_) ?_)
        · rw [CB_f.mpr hc]
          exact f2 u hu
        · rw [CB_f.mpr hc, f3]
          simp only [Bool.false_eq_true, if_false]
          congr 1
    · rintro υ ⟨hf1, hr⟩
      have hC2 := hC.fr hf1 (by decide)
      refine v_X6_spreadMeans_52 (Or.inl rfl) ?_
      rw [hC2.1.1]
      refine ⟨fun _ => ?_, fun z => absurd ((i32_le (by omega) (by omega)).mpr (Nat.le_refl _)) z⟩
      have hZ := pm_Zm (p := G 10) (N := CB G) (f := fun s => (mh G c k (hm' s)).num * ((m / (mh G c k (hm' s)).den : Nat) : Int)) (c := fun _ => 0) (ov := 1) (un := 1) hW (told_2 hW) hP (Nat.le_refl 1)
      have hI : ∀ i j, isI (chP G o (fun s => (mh G c k (hm' s)).num * ((m / (mh G c k (hm' s)).den : Nat) : Int)) i j) := pmA_int sysA_int
      refine c_solveAll hw.1 hn hI hZ hFT (hO.fr hf1 (by decide)) (fun i hi => hr i hi (hP.1 i hi).1) (fun τ f1 hX => ?_)
      have hD := ch_D (f := fun s => (mh G c k (hm' s)).num * ((m / (mh G c k (hm' s)).den : Nat) : Int)) hW hw hP
      have hiB := fun s => fit_iB (isI_hat hI) (hat_Zm hZ) (Nat.le_refl (G 0 0)) (hat_piv hZ) (Nat.le_refl (G 0 0)) s 7
      obtain ⟨d1, d2, d3⟩ := hat_D hI hZ (Nat.le_refl (G 0 0))
      unfold CX at hX
      unfold pmX at heq
      generalize hat (chP G o (fun s => (mh G c k (hm' s)).num * ((m / (mh G c k (hm' s)).den : Nat) : Int))) = H at *
      have dn : ((((gD (G 0 0) H).num.toNat : Nat) : Int)) = (gD (G 0 0) H).num := Int.toNat_of_nonneg (by omega)
      have dr : ((((gD (G 0 0) H).num.toNat : Nat)) : Rat) = gD (G 0 0) H := by rw [← Rat.intCast_natCast, dn, d2]
      have hPm : ((m : Nat) : Rat) ≤ prR 7 (w7 G) := Rat.le_trans (Rat.natCast_le_natCast.mpr (Nat.le_of_dvd (PbN_pos _) hm)) (PbN_le hW hw hM _ hn)
      have mR0 : (0 : Rat) ≤ ((m : Nat) : Rat) := Rat.natCast_nonneg
      have b1 : gD (G 0 0) H * ((m : Nat) : Rat) ≤ 42 ^ 7 := Rat.le_trans (rat_mul_le (Rat.le_of_lt d1) mR0 hD hPm) (w67 hW).1
      have e42 : (42 : Rat) ^ 7 = ((230539333248 : Nat) : Rat) := by decide +kernel
      have dm : (gD (G 0 0) H).num.toNat * m ≤ 230539333248 := by
        refine Rat.natCast_le_natCast.mp ?_
        rw [Rat.natCast_mul, dr, ← e42]
        exact b1
      have dp : 0 < (gD (G 0 0) H).num.toNat := by omega
      rintro _ rfl
      refine h _ y ((hf1.tr f1).tr (Fr.l (by simp))) hy ⟨(gD (G 0 0) H).num.toNat * m, ?_, by omega, ?_, fun s hs => ?_⟩
      · have := Nat.mul_pos dp hm0
        omega
      · rw [Int.natCast_mul, dn, rl, if_pos rfl, if_pos rfl, hX.1, i64_mul]
      · have z := heq s hs
        have hne := Rat.ne_of_gt d1
        have ez : gB (G 0 0) H (oi s) 7 = gD (G 0 0) H * (((m : Nat) : Rat) * y s) := by
          rw [← z, Rat.mul_comm, Rat.div_def, Rat.mul_assoc, Rat.inv_mul_cancel _ hne, Rat.mul_one]
        have hb0 : 0 ≤ gB (G 0 0) H (oi s) 7 := by
          rw [ez]
          exact Rat.mul_nonneg (Rat.le_of_lt d1) (Rat.mul_nonneg mR0 (hyb s hs).1)
        have un : ((((gB (G 0 0) H (oi s) 7).num.toNat : Nat) : Int)) = (gB (G 0 0) H (oi s) 7).num := Int.toNat_of_nonneg (Rat.num_nonneg.mpr hb0)
        have ur : ((((gB (G 0 0) H (oi s) 7).num.toNat : Nat)) : Rat) = gB (G 0 0) H (oi s) 7 := by rw [← Rat.intCast_natCast, un, hiB]
        refine ⟨(gB (G 0 0) H (oi s) 7).num.toNat, ?_, ?_, ?_⟩
        · have : (gB (G 0 0) H (oi s) 7).num.toNat ≤ 63 * 230539333248 := by
            refine Rat.natCast_le_natCast.mp ?_
            rw [ur, ez, Rat.natCast_mul, ← e42]
            have g0 := Rat.mul_nonneg (Rat.le_of_lt d1) mR0
            have g1 := rat_mul_le g0 (hyb s hs).1 b1 (hyb s hs).2
            have e63 : ((63 : Nat) : Rat) = 63 := rfl
            rw [e63]
            grind
          omega
        · rw [rl, if_neg (by decide), hX.2 s hs, un]
        · rw [ur, Rat.natCast_mul, dr, ez]
          have hm1 : ((m : Nat) : Rat) ≠ 0 := fun e => by
            have := Rat.natCast_eq_zero_iff.mp e
            omega
          have hne2 : gD (G 0 0) H * ((m : Nat) : Rat) ≠ 0 := fun e => by rcases Rat.mul_eq_zero.mp e with e | e; exact hne e; exact hm1 e
          generalize gD (G 0 0) H = d at *
          generalize ((m : Nat) : Rat) = mm at *
          rw [show d * (mm * y s) = y s * (d * mm) by grind, Rat.div_def, Rat.mul_assoc, Rat.mul_inv_cancel _ hne2, Rat.mul_one]
  refine up2 (n := G 0 0) (fun s (v : Int64) τ => τ = σ ∧ ∃ m : Nat, v = i64 ((m : Nat) : Int) ∧ 0 < m ∧ m ∣ PbN G c k s ∧ ∀ b, b < s → rtn G b → (mh G c k b).den ∣ m) (fun v w τ => L_X6_spreadMeans_5 19 v w τ Q) ?_ ?_ 0 1 σ (by omega) ⟨rfl, 1, rfl, Nat.one_pos, Nat.dvd_refl 1, fun b hb => by omega⟩
  · rintro s v τ hs ⟨rfl, m, rfl, hm0, hm, hall⟩ kk
    refine v_X6_spreadMeans_5 (Or.inl rfl) ?_
    rw [hC.1.1]
    simp (disch := omega) only [n0, n1, n2, n3, n4, n5, n6, n7, n8, n9, n49, n97, n98, n114, n102, n115, n119, n109, n112, i32_add, i32_mul, i32_N, i32_le, i32_lt, i32_eq, vpi_iff]
    refine ⟨fun z => by omega, fun _ => c_isReturn hW hw hs hCL (fun hr => ⟨fun z => absurd z (by decide), fun _ => ⟨by omega, ?_⟩⟩) (fun hr => ⟨fun _ => kk _ τ ⟨rfl, m, rfl, hm0, by rw [PbN_f hr]; exact hm, fun b hb hrb => ?_⟩, fun z => absurd rfl z⟩)⟩
    · obtain ⟨v1, v2⟩ := hV s hr
      have mle := Pb_nat hW hw hM (show s ≤ 7 by omega) hm
      have hdp := Rat.den_pos (mh G c k s)
      have dle := Pb_nat hW hw hM (show s + 1 ≤ 7 by omega) (PbN_dv (c := c) (k := k) (s + 1) (Nat.lt_succ_self s) hr)
      rw [show (12 + 64 : Nat) = 76 from rfl, v2]
      refine (c_lowest (by omega) (by omega) (by omega)).2 ?_
      rintro _ rfl
      obtain ⟨l1, l2⟩ := den_lcm (m := m) hdp
      rw [i64_mul, ← Int.natCast_mul]
      refine kk _ τ ⟨rfl, _, rfl, Nat.mul_pos hm0 (Rat.den_pos _), by rw [PbN_t hr]; exact l2 _ hm, fun b hb hrb => ?_⟩
      by_cases e : b = s
      · rw [e]; exact l1
      · exact Nat.dvd_trans (hall b (by omega) hrb) (Nat.dvd_mul_right _ _)
    · by_cases e : b = s
      · rw [e] at hrb; exact absurd hrb hr
      · exact hall b (by omega) hrb
  · rintro v τ ⟨rfl, m, rfl, hm0, hm, hall⟩
    refine v_X6_spreadMeans_5 (Or.inl rfl) ?_
    rw [hC.1.1]
    exact ⟨fun _ => fin m hm0 hm hall, fun z => absurd ((i32_le (by omega) (by omega)).mpr (Nat.le_refl _)) z⟩
end SPR
