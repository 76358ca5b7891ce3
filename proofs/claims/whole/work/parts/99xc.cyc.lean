/-! MEANS: one closed set's rounds, by the equations over all states -/
theorem sys_fitsG {A : Nat → Nat → Rat} (hI : ∀ i j, isI (A i j)) (hZ : Zm 7 A) (hp : ∀ k, k < 7 → 0 < gB k A k k) (ha : ∀ s, s < 7 → A s s ≤ 6) (hb : ∀ s, s < 7 → 0 ≤ A s 7) (hr : ∀ s, s < 7 → A s 7 ≤ 54) : A_fits A ∧ ∀ s, s < 7 → zfit (gB 7 A s 7).num := by
  have hN := sys_ND hp
  obtain ⟨hD, -⟩ := gj_Z hZ (Nat.le_refl 7) hp
  have h6 : (1 : Rat) ≤ 6 := by decide
  have hDl := gj_D hZ (Nat.le_refl 7) hp h6 ha
  have hE := gj_ent hZ (Nat.le_refl 7) hp h6 ha
  have hR0 := gj_R0 (R := 7) hZ (Nat.le_refl 7) hp hb
  have hRG := gj_RG (R := 7) hZ (Nat.le_refl 7) hp h6 ha hb hr
  have hR : ∀ k, k ≤ 7 → ∀ s, s < 7 → gB k A s 7 ≤ 54 * 12 ^ 7 := fun k hk s hs => by
    have h1 := hRG k hk s hs
    have e : (2 : Rat) * 6 = 12 := by grind
    rw [e] at h1
    have := rat_pow_le (a := 12) (by decide) hk
    grind
  have p1 : (6 : Rat) ^ 14 ≤ 9000000000000000000 := by decide +kernel
  have p2 : (6 : Rat) ^ 7 * (54 * 12 ^ 7) ≤ 9000000000000000000 := by decide +kernel
  have p3 : (54 : Rat) * 12 ^ 7 ≤ 9000000000000000000 := by decide +kernel
  refine ⟨⟨fun k hk => ?_, fun k s t hk hs hne ht => ?_⟩, fun s hs => ?_⟩
  · refine zfit_of (z_D hI hN hk) ?_ ?_
    · have := hD k hk; grind
    · exact Rat.le_trans (hDl k hk) (Rat.le_trans (rat_pow_le h6 (show k ≤ 14 by omega)) p1)
  · have d1 := hD k (by omega)
    have d2 := hDl k (by omega)
    have d3 : gD k A ≤ 6 ^ 7 := Rat.le_trans d2 (rat_pow_le h6 (by omega))
    by_cases c : t < 7
    · obtain ⟨e1, e2⟩ := (hE (k + 1) (by omega) s t hs c).1
      have e3 : (6 : Rat) ^ k * 6 ^ (k + 2) ≤ 6 ^ 14 := by rw [← rat_pow_add]; exact rat_pow_le h6 (by omega)
      have e6 := rat_mul_le (a := gD k A) (b := 6 ^ k) (c := 6 ^ (k + 2)) (d := 6 ^ (k + 2)) (Rat.le_of_lt d1) (by have := rat_pow_one h6 (k + 2); grind) d2 Rat.le_refl
      have e7 := Rat.mul_nonneg (a := gD k A) (b := gB (k + 1) A s t + 6 ^ (k + 2)) (Rat.le_of_lt d1) (by grind)
      have e8 := Rat.mul_nonneg (a := gD k A) (b := 6 ^ (k + 2) - gB (k + 1) A s t) (Rat.le_of_lt d1) (by grind)
      refine zfit_of (x := gD k A * gB (k + 1) A s t) (by rw [Rat.intCast_mul, z_D hI hN (by omega), z_B hI hN (by omega)]) ?_ ?_
      · grind
      · grind
    · have h7 : t = 7 := by omega
      subst h7
      have e1 := hR0 (k + 1) (by omega) s hs
      have e2 := Rat.mul_nonneg (Rat.le_of_lt d1) e1
      have e3 := rat_mul_le (Rat.le_of_lt d1) e1 d3 (hR (k + 1) (by omega) s hs)
      refine zfit_of (x := gD k A * gB (k + 1) A s 7) (by rw [Rat.intCast_mul, z_D hI hN (by omega), z_B hI hN (by omega)]) ?_ ?_
      · grind
      · grind
  · have e1 := hR0 7 (by omega) s hs
    refine zfit_of (z_B hI hN (by omega) s 7) ?_ ?_
    · grind
    · exact Rat.le_trans (hR 7 (by omega) s hs) p3
theorem sysA_col {G : Gm} {p : Nat → Nat} {N : Nat → Bool} {f f' c c' : Nat → Int} {ov un : Nat} (i j : Nat) (hj : j ≠ 7) : sysA G p N f ov un c i j = sysA G p N f' ov un c' i j := by
  unfold sysA rowN rowS
  rw [if_neg hj, if_neg hj, if_neg hj, if_neg hj]
section CYC
variable {G : Gm} {h b : Nat}
noncomputable def NNh (G : Gm) (h s : Nat) : Bool := @decide (s = h ∨ ¬ RC G h s) (Classical.propDecidable _)
theorem NNh_t {s : Nat} : NNh G h s = true ↔ (s = h ∨ ¬ RC G h s) := by
  unfold NNh
  exact @decide_eq_true_iff _ (Classical.propDecidable _)
theorem NNh_f {s : Nat} : NNh G h s = false ↔ (s ≠ h ∧ RC G h s) := by
  unfold NNh
  rw [decide_eq_false_iff_not]
  constructor
  · intro z
    exact ⟨fun e => z (Or.inl e), Classical.byContradiction fun e => z (Or.inr e)⟩
  · rintro ⟨h1, h2⟩ (z | z)
    · exact h1 z
    · exact z h2
noncomputable abbrev cyA (G : Gm) (h b : Nat) : Nat → Nat → Rat := sysA G (G 10) (NNh G h) (fun _ => 0) 1 1 (fun s => ((KKr G b s : Nat) : Int))
theorem cy_piv (hW : GW G) (hw : whole G) (hr : rtn G h) : ∀ k, k < 7 → 0 < gB k (cyA G h b) k k := fun k hk => by
  have h1 := rch_piv (T := fun s => s = h) (N := NNh G h) (f := fun _ => 0) hW hw (told_ok hW hw) (told_2 hW) (fun s hs hN => by
    obtain ⟨z1, z2⟩ := NNh_f.mp hN
    exact ⟨z1, can_rt (hr.1 s z2) hs hr.2.1 rfl⟩) k hk
  rw [(gB_col (fun i j _ hj => sysA_col i j hj) k (by omega)).2 k k hk (by omega)] at h1
  exact h1
theorem cy_row (hW : GW G) (hw : whole G) (hr : rtn G h) : ∀ s, s < G 0 0 → (NNh G h s = true → gB 7 (cyA G h b) s 7 / gD 7 (cyA G h b) = 0) ∧ (NNh G h s = false → c_sm (G 0 0) (wtR G) (mv (G 10) s) * (gB 7 (cyA G h b) s 7 / gD 7 (cyA G h b)) = c_sm (G 0 0) (wtR G) (mv (G 10) s) * ((KKr G b s : Nat) : Rat) + c_ex (G 0 0) (wtR G) (fun t => gB 7 (cyA G h b) t 7 / gD 7 (cyA G h b)) (mv (G 10) s)) := fun s hs => by
  have hn := hW.1
  have h0 := gj_sol (R := 7) (sys_ND (cy_piv (b := b) hW hw hr)) s (by omega)
  generalize hx : (fun t => gB 7 (cyA G h b) t 7 / gD 7 (cyA G h b)) = x at h0 ⊢
  have hx2 : gB 7 (cyA G h b) s 7 / gD 7 (cyA G h b) = x s := by rw [← hx]
  rw [hx2]
  unfold rowOk at h0
  rw [sysA_dot hW (told_2 hW) (by omega)] at h0
  refine ⟨fun hN => ?_, fun hN => ?_⟩
  · rw [if_neg (by simp [hN])] at h0
    rw [h0]
    unfold cyA sysA
    rw [if_pos hs, hN]
    simp [rowN]
  · rw [if_pos ⟨hs, hN⟩] at h0
    have h2 : cyA G h b s 7 = c_sm (G 0 0) (wtR G) (mv (G 10) s) * ((KKr G b s : Nat) : Rat) := by
      unfold cyA sysA
      rw [if_pos hs, hN]
      simp only [Bool.false_eq_true, if_false]
      rw [rowS_rhs hW (mv_lt (by omega) (told_2 hW s (by omega))), Rat.intCast_natCast]
      have h5 : ((1 : Nat) : Rat) = 1 := rfl
      rw [h5, Rat.one_mul]
    rw [h2] at h0
    have h5 : ((1 : Nat) : Rat) = 1 := rfl
    rw [h5] at h0
    grind
theorem RC_st {s t : Nat} (hs : s < G 0 0) (ht : t < G 0 0) (hw : wtR G (mv (G 10) s) t ≠ 0) : RC G s t := fun C _ hC => hC t ht hw
theorem cy_x {c : Nat → Rat} (hW : GW G) (hw : whole G) (hr : rtn G h) (hc : RND G (fun s => ((KKr G b s : Nat) : Rat)) c) : ∀ s, s < G 0 0 → RC G h s → gB 7 (cyA G h b) s 7 / gD 7 (cyA G h b) = c s := by
  have hrow := cy_row (b := b) hW hw hr
  have hh := hr.2.1
  generalize hx : (fun t => gB 7 (cyA G h b) t 7 / gD 7 (cyA G h b)) = x at hrow ⊢
  have hx2 : ∀ s, gB 7 (cyA G h b) s 7 / gD 7 (cyA G h b) = x s := fun s => by rw [← hx]
  simp only [hx2] at hrow ⊢
  have ch : c h = 0 := hc.1 h hh (Or.inr hr)
  have xh : x h = 0 := (hrow h hh).1 (NNh_t.mpr (Or.inl rfl))
  have nx : ∀ s t, s < G 0 0 → RC G h s → t < G 0 0 → wtR G (mv (G 10) s) t ≠ 0 → RC G h t := fun s t hs hst ht hwt => rch_tr hs hst (RC_st hs ht hwt)
  have key := harm (p := mv (G 10)) (T := fun s => s = h ∨ ¬ RC G h s) (d := fun s => if NNh G h s then 0 else x s - c s) (pk_c hW hw (told_ok hW hw)) (fun s hs ht => by rw [if_pos (NNh_t.mpr ht)]) (fun s hs ht => ?_) (fun s hs => ?_)
  · intro s hs hst
    by_cases e : s = h
    · rw [e, ch, xh]
    · have := key s hs
      rw [NNh_f.mpr ⟨e, hst⟩] at this
      simp only [Bool.false_eq_true, if_false] at this
      grind
  · have hN : NNh G h s = false := NNh_f.mpr ⟨fun e => ht (Or.inl e), Classical.byContradiction fun e => ht (Or.inr e)⟩
    obtain ⟨z1, z2⟩ := NNh_f.mp hN
    have a := (hrow s hs).2 hN
    have hcl : isClo G s := fun t hst => rch_tr hh (hr.1 t (rch_tr hs z2 hst)) z2
    have hnr : ¬ rtn G s := fun y => by
      have h1 := hr.2.2.2 s
      have h2 := y.2.2.2 h
      rcases Nat.lt_trichotomy s h with e | e | e
      · exact h1 e z2
      · exact z1 e
      · exact h2 e (hr.1 s z2)
    have a2 := hc.2 s hs hcl hnr
    have ex : c_ex (G 0 0) (wtR G) (fun s => if NNh G h s then 0 else x s - c s) (mv (G 10) s) = c_ex (G 0 0) (wtR G) (fun t => x t - c t) (mv (G 10) s) := sr_congr (fun t ht => by
      by_cases cw : wtR G (mv (G 10) s) t = 0
      · rw [cw, Rat.zero_mul, Rat.zero_mul]
      · have hrt := nx s t hs z2 ht cw
        show wtR G (mv (G 10) s) t * (if NNh G h t = true then 0 else x t - c t) = wtR G (mv (G 10) s) t * (x t - c t)
        by_cases e : t = h
        · rw [if_pos (NNh_t.mpr (Or.inl e)), e, ch, xh]; grind
        · rw [NNh_f.mpr ⟨e, hrt⟩]; simp only [Bool.false_eq_true, if_false])
    rw [ex, ex_sub, hN]
    simp only [Bool.false_eq_true, if_false]
    grind
  · by_cases e : RC G h s
    · exact can_rt (hr.1 s e) hs hh (Or.inl rfl)
    · exact can_me hs (Or.inr e)
theorem cy_rhs (hW : GW G) {κ : Nat} (hκ : ∀ s, KKr G b s ≤ κ) : (∀ s, s < 7 → 0 ≤ cyA G h b s 7) ∧ ∀ s, s < 7 → cyA G h b s 7 ≤ 6 * ((κ : Nat) : Rat) := by
  have hk0 : (0 : Rat) ≤ ((κ : Nat) : Rat) := Rat.natCast_nonneg
  refine ⟨fun s hs => sysA_rhs hW (told_2 hW) (fun _ _ => Int.le_refl 0) (fun _ _ => Int.natCast_nonneg _) hs, fun s hs => ?_⟩
  have hm : mv (G 10) s < 21 := mv_lt hs (told_2 hW s hs)
  have h6 := (hW.2.2.1 _ hm).2.2.1
  unfold cyA sysA
  split
  · split
    · have e : ((rowN ((fun _ => (0 : Int)) s) s 7 : Int) : Rat) = 0 := by unfold rowN; rw [if_pos rfl]; rfl
      rw [e]; grind
    · rw [rowS_rhs hW hm, sm_eq hW hm, Rat.intCast_natCast]
      have e1 : ((1 : Nat) : Rat) = 1 := rfl
      have e6 : ((G 6 (mv (G 10) s) : Nat) : Rat) ≤ ((6 : Nat) : Rat) := Rat.natCast_le_natCast.mpr h6
      have ek : ((KKr G b s : Nat) : Rat) ≤ ((κ : Nat) : Rat) := Rat.natCast_le_natCast.mpr (hκ s)
      have := rat_mul_le (a := ((G 6 (mv (G 10) s) : Nat) : Rat)) (b := ((6 : Nat) : Rat)) (c := ((KKr G b s : Nat) : Rat)) (d := ((κ : Nat) : Rat)) Rat.natCast_nonneg Rat.natCast_nonneg e6 ek
      rw [e1, Rat.one_mul]
      exact this
  · rw [if_neg (by omega)]; grind
theorem cy_fits (hW : GW G) (hw : whole G) (hr : rtn G h) : A_fits (cyA G h b) ∧ ∀ s, s < 7 → zfit (gB 7 (cyA G h b) s 7).num := by
  obtain ⟨h1, h2⟩ := cy_rhs (h := h) (b := b) (κ := 9) hW (KKr_9 hW b)
  refine sys_fitsG sysA_int (sysA_Z hW (told_2 hW) (Nat.le_refl 1)) (cy_piv hW hw hr) (fun s hs => sysA_diag hW (told_2 hW) (by omega) (by omega) hs) h1 (fun s hs => Rat.le_trans (h2 s hs) (by decide +kernel))
theorem prR_ind {h n : Nat} {v : Rat} (hh : h < n) : prR n (fun t => if t = h then v else 1) = v := by
  rw [show n = (n - 1) + 1 by omega, ← prR_sk (x := h) (by omega)]
  rw [if_pos rfl, prR_1 (fun l _ => if_neg (by unfold sk; split <;> omega)), Rat.one_mul]
/-- the weights of a round's closed set -/
noncomputable def w42 (G : Gm) (h t : Nat) : Rat := @ite Rat (RC G h t) (Classical.propDecidable _) 42 1
theorem w42_t {t : Nat} (hr : RC G h t) : w42 G h t = 42 := by unfold w42; rw [if_pos hr]
theorem w42_f {t : Nat} (hr : ¬ RC G h t) : w42 G h t = 1 := by unfold w42; rw [if_neg hr]
theorem w42_1 (t : Nat) : 1 ≤ w42 G h t := by
  by_cases c : RC G h t
  · rw [w42_t c]; decide
  · rw [w42_f c]; exact Rat.le_refl
theorem cy_42 (hW : GW G) (hr : rtn G h) : 42 * prR 7 (fun i => if NNh G h i then 1 else 2 * 6) ≤ prR 7 (w42 G h) := by
  have hn := hW.1
  have hh := hr.2.1
  rw [← prR_ind (h := h) (n := 7) (v := 42) (by omega), ← prR_mul]
  refine prR_mono (fun t => ?_) (fun t => ?_) 7
  · have e2 : (0 : Rat) ≤ 2 * 6 := by decide +kernel
    refine Rat.mul_nonneg ?_ ?_
    · split <;> decide
    · split
      · decide
      · exact e2
  · by_cases e : t = h
    · rw [if_pos e, if_pos (NNh_t.mpr (Or.inl e)), e, w42_t hr.2.2.1]; decide +kernel
    · rw [if_neg e]
      by_cases c : RC G h t
      · rw [NNh_f.mpr ⟨e, c⟩, w42_t c]; decide +kernel
      · rw [if_pos (NNh_t.mpr (Or.inr c)), w42_f c]; decide +kernel
def cyS (G : Gm) (h b D : Nat) (X : Nat → Nat) : Nat := bT G h * KKr G b h * D + sN (G 0 0) (fun t => wT G h t * X t)
/-- the whole numbers that a round gives, and how great they are -/
theorem cy_S {κ : Nat} {c : Nat → Rat} (hW : GW G) (hw : whole G) (hr : rtn G h) (hκ : ∀ s, KKr G b s ≤ κ) (hc : RND G (fun s => ((KKr G b s : Nat) : Rat)) c) : ∃ (D : Nat) (X : Nat → Nat), 0 < D ∧ (gD 7 (cyA G h b)).num = ((D : Nat) : Int) ∧ (∀ s, s < 7 → (gB 7 (cyA G h b) s 7).num = ((X s : Nat) : Int)) ∧ ((D : Nat) : Rat) = gD 7 (cyA G h b) ∧ ((cyS G h b D X : Nat) : Rat) = gD 7 (cyA G h b) * whl G (fun s => ((KKr G b s : Nat) : Rat)) c h ∧ ((cyS G h b D X : Nat) : Rat) ≤ ((κ : Nat) : Rat) * prR 7 (w42 G h) := by
  have hn := hW.1
  have hh := hr.2.1
  have hp := cy_piv (b := b) hW hw hr
  have hI : ∀ i j, isI (cyA G h b i j) := sysA_int
  have hN := sys_ND hp
  have hZ : Zm 7 (cyA G h b) := sysA_Z hW (told_2 hW) (Nat.le_refl 1)
  obtain ⟨r1, r2⟩ := cy_rhs (h := h) (b := b) hW hκ
  have hD := (gj_Z hZ (Nat.le_refl 7) hp).1 7 (Nat.le_refl 7)
  have hR0 := gj_R0 (R := 7) hZ (Nat.le_refl 7) hp r1 7 (Nat.le_refl 7)
  have hd6 : ∀ s, s < 7 → cyA G h b s s ≤ 6 := fun s hs => sysA_diag hW (told_2 hW) (by omega) (by omega) hs
  have hNr : ∀ s, s < 7 → NNh G h s = true → ∀ t, (t < 7 ∨ t = 7) → cyA G h b s t = if t = s then 1 else 0 := fun s hs hNs t ht => by
    unfold cyA sysA
    by_cases hsn : s < G 0 0
    · rw [if_pos hsn, if_pos hNs]
      unfold rowN
      by_cases e : t = 7
      · rw [if_pos e, if_neg (by omega)]; rfl
      · rw [if_neg e]
        by_cases e2 : t = s
        · rw [if_pos e2, if_pos e2]; rfl
        · rw [if_neg e2, if_neg e2]; rfl
    · rw [if_neg hsn]
  have hRN := gj_RN (R := 7) (a := 6) hZ (Nat.le_refl 7) (Nat.le_refl 7) hp hNr (by decide) hd6 r1 r2 7 (Nat.le_refl 7)
  have hDN : gD 7 (cyA G h b) ≤ prR 7 (fun i => if NNh G h i then 1 else 2 * 6) := by
    refine fit_D hZ (Nat.le_refl 7) hp (fun s => ?_) (fun s hs => ?_) 7 (Nat.le_refl 7)
    · split
      · exact Rat.le_refl
      · decide +kernel
    · by_cases cN : NNh G h s = true
      · rw [if_pos cN, hNr s hs cN s (Or.inl hs), if_pos rfl]; exact Rat.le_refl
      · rw [if_neg cN]; exact Rat.le_trans (hd6 s hs) (by decide +kernel)
  have hPn : 0 ≤ prR 7 (fun i => if NNh G h i then (1 : Rat) else 2 * 6) := Rat.le_trans (Rat.le_of_lt hD) hDN
  have zD := z_D hI hN (Nat.le_refl 7)
  have zB := fun s => z_B hI hN (Nat.le_refl 7) s 7
  have d0 : 0 < (gD 7 (cyA G h b)).num := by
    have z := hD
    rw [← zD] at z
    exact Rat.intCast_pos.mp z
  have x0 : ∀ s, s < 7 → 0 ≤ (gB 7 (cyA G h b) s 7).num := fun s hs => Rat.num_nonneg.mpr (hR0 s hs)
  have dn : (((gD 7 (cyA G h b)).num.toNat : Nat) : Int) = (gD 7 (cyA G h b)).num := Int.toNat_of_nonneg (by omega)
  have dr : (((gD 7 (cyA G h b)).num.toNat : Nat) : Rat) = gD 7 (cyA G h b) := by rw [← Rat.intCast_natCast, dn, zD]
  have xn : ∀ s, s < 7 → (((gB 7 (cyA G h b) s 7).num.toNat : Nat) : Int) = (gB 7 (cyA G h b) s 7).num := fun s hs => Int.toNat_of_nonneg (x0 s hs)
  have xr : ∀ s, s < 7 → (((gB 7 (cyA G h b) s 7).num.toNat : Nat) : Rat) = gB 7 (cyA G h b) s 7 := fun s hs => by rw [← Rat.intCast_natCast, xn s hs, zB]
  have eS : ((cyS G h b (gD 7 (cyA G h b)).num.toNat (fun s => (gB 7 (cyA G h b) s 7).num.toNat) : Nat) : Rat) = c_sm (G 0 0) (wtR G) (mv (G 10) h) * ((KKr G b h : Nat) : Rat) * gD 7 (cyA G h b) + c_ex (G 0 0) (wtR G) (fun t => gB 7 (cyA G h b) t 7) (mv (G 10) h) := by
    unfold cyS
    rw [Rat.natCast_add, Rat.natCast_mul, Rat.natCast_mul, dr, sN_sr, sm_eq hW (mv_lt (by omega) (told_2 hW h (by omega)))]
    congr 1
    refine sr_congr (fun t ht => ?_)
    dsimp only
    rw [Rat.natCast_mul, xr t (by omega)]
    rfl
  refine ⟨(gD 7 (cyA G h b)).num.toNat, fun s => (gB 7 (cyA G h b) s 7).num.toNat, by omega, dn.symm, fun s hs => (xn s hs).symm, dr, ?_, ?_⟩
  · rw [eS]
    unfold whl
    have e : c_ex (G 0 0) (wtR G) (fun t => gB 7 (cyA G h b) t 7) (mv (G 10) h) = gD 7 (cyA G h b) * c_ex (G 0 0) (wtR G) c (mv (G 10) h) := by
      rw [← ex_mul]
      refine sr_congr (fun t ht => ?_)
      by_cases cw : wtR G (mv (G 10) h) t = 0
      · rw [cw, Rat.zero_mul, Rat.zero_mul]
      · have := cy_x hW hw hr hc t ht (RC_st hh ht cw)
        show wtR G (mv (G 10) h) t * gB 7 (cyA G h b) t 7 = wtR G (mv (G 10) h) t * (gD 7 (cyA G h b) * c t)
        rw [← this]
        have hne := Rat.ne_of_gt hD
        rw [show gD 7 (cyA G h b) * (gB 7 (cyA G h b) t 7 / gD 7 (cyA G h b)) = gB 7 (cyA G h b) t 7 by rw [Rat.mul_comm, Rat.div_def, Rat.mul_assoc, Rat.inv_mul_cancel _ hne, Rat.mul_one]]
    rw [e]
    grind
  · rw [eS]
    have hm : mv (G 10) h < 21 := mv_lt (by omega) (told_2 hW h (by omega))
    have h6 := (hW.2.2.1 _ hm).2.2.1
    have e6 : c_sm (G 0 0) (wtR G) (mv (G 10) h) ≤ 6 := by
      rw [sm_eq hW hm]
      exact Rat.natCast_le_natCast.mpr h6
    have s0 := (pk_c hW hw (told_ok hW hw) h hh).2
    have k0 : (0 : Rat) ≤ ((KKr G b h : Nat) : Rat) := Rat.natCast_nonneg
    have ek : ((KKr G b h : Nat) : Rat) ≤ ((κ : Nat) : Rat) := Rat.natCast_le_natCast.mpr (hκ h)
    have hκ0 : (0 : Rat) ≤ ((κ : Nat) : Rat) := Rat.natCast_nonneg
    have a1 := rat_mul_le (Rat.le_of_lt s0) k0 e6 ek
    have a2 := rat_mul_le (Rat.mul_nonneg (Rat.le_of_lt s0) k0) (Rat.le_of_lt hD) a1 hDN
    have a3 : c_ex (G 0 0) (wtR G) (fun t => gB 7 (cyA G h b) t 7) (mv (G 10) h) ≤ (6 * ((κ : Nat) : Rat) * prR 7 (fun i => if NNh G h i then 1 else 2 * 6)) * c_sm (G 0 0) (wtR G) (mv (G 10) h) := by
      rw [← c_ex_const]
      exact c_ex_le (pk_c hW hw (told_ok hW hw) h hh).1 (fun t ht => hRN t (by omega))
    have a4 := Rat.mul_nonneg (a := 6 * ((κ : Nat) : Rat) * prR 7 (fun i => if NNh G h i then 1 else 2 * 6)) (b := 6 - c_sm (G 0 0) (wtR G) (mv (G 10) h)) (Rat.mul_nonneg (by grind) hPn) (by grind)
    have a5 := Rat.mul_nonneg (a := ((κ : Nat) : Rat)) (b := prR 7 (w42 G h) - 42 * prR 7 (fun i => if NNh G h i then 1 else 2 * 6)) hκ0 (by have := cy_42 hW hr; grind)
    generalize prR 7 (fun i => if NNh G h i = true then (1 : Rat) else 2 * 6) = P at *
    grind
end CYC
