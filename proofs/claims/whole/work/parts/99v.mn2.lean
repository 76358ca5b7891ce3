/-! MEANS in the class: what is gathered in a round -/
theorem prR_gap {a : Nat → Rat} (h1 : ∀ s, 1 ≤ a s) (h6 : ∀ s, a s ≤ 6) : ∀ n q, q < n → a q = 1 → prR n a ≤ 6 ^ (n - 1) := by
  have all : ∀ n, prR n a ≤ 6 ^ n := by
    intro n
    induction n with
    | zero => exact Rat.le_refl
    | succ n ih =>
      show prR n a * a n ≤ 6 ^ (n + 1)
      rw [Rat.pow_succ]
      exact rat_mul_le (by have := prR_one h1 n; grind) (by have := h1 n; grind) ih (h6 n)
  intro n
  induction n with
  | zero => intro q hq; omega
  | succ n ih =>
    intro q hq e
    show prR n a * a n ≤ 6 ^ (n + 1 - 1)
    rw [Nat.add_sub_cancel]
    by_cases c : q = n
    · rw [← c, e, Rat.mul_one, c]; exact all n
    · have := ih q (by omega) e
      obtain ⟨m, rfl⟩ : ∃ m, n = m + 1 := ⟨n - 1, by omega⟩
      rw [Nat.add_sub_cancel] at this
      rw [Rat.pow_succ]
      exact rat_mul_le (by have := prR_one h1 (m + 1); grind) (by have := h1 (m + 1); grind) this (h6 (m + 1))
section MN3
variable {G : Gm} {p : Nat → Nat} {o oi : Nat → Nat}
theorem pm_rnd {N : Nat → Bool} {K : Nat → Nat} (hW : GW G) (hw : whole G) (hpk : pkOk G p) (hp : ∀ s, s < 7 → p s ≤ 2) (hP : PM (G 0 0) o oi) (hcan : ∀ s, s < G 0 0 → c_can (G 0 0) (wtR G) (mv p) (fun s => N s = true) s) (hN : ∃ s, s < G 0 0 ∧ N s = true) (hK : ∀ s, K s ≤ 9) : (∀ s, s < G 0 0 → (N s = true → pmX (G 0 0) (pmS o G p N (fun _ => 0) 1 1 (fun s => ((K s : Nat) : Int))) oi s = 0) ∧ (N s = false → c_sm (G 0 0) (wtR G) (mv p s) * pmX (G 0 0) (pmS o G p N (fun _ => 0) 1 1 (fun s => ((K s : Nat) : Int))) oi s = c_sm (G 0 0) (wtR G) (mv p s) * ((K s : Nat) : Rat) + c_ex (G 0 0) (wtR G) (pmX (G 0 0) (pmS o G p N (fun _ => 0) 1 1 (fun s => ((K s : Nat) : Int))) oi) (mv p s)) ∧ 0 ≤ pmX (G 0 0) (pmS o G p N (fun _ => 0) 1 1 (fun s => ((K s : Nat) : Int))) oi s ∧ pmX (G 0 0) (pmS o G p N (fun _ => 0) 1 1 (fun s => ((K s : Nat) : Int))) oi s ≤ 54 * 12 ^ 7) ∧ FT (pmS o G p N (fun _ => 0) 1 1 (fun s => ((K s : Nat) : Int))) (G 0 0) ∧ gD (G 0 0) (hat (pmS o G p N (fun _ => 0) 1 1 (fun s => ((K s : Nat) : Int)))) ≤ 6 ^ 6 := by
  have hn := hW.1
  have hok := pk_c hW hw hpk
  have e1 : ((1 : Nat) : Rat) = 1 := rfl
  have hZ := pm_Zm (p := p) (N := N) (f := fun _ => 0) (c := fun s => ((K s : Nat) : Int)) (ov := 1) (un := 1) hW hp hP (Nat.le_refl 1)
  have hno := pm_none (f := fun _ => 0) (c := fun s => ((K s : Nat) : Int)) hW hp hP hcan
  obtain ⟨h1, h2, h3⟩ := pm_sol (N := N) (f := fun _ => 0) (ov := 1) (un := 1) (c := fun s => ((K s : Nat) : Int)) hW hw hpk hp hP (Nat.le_refl 1) (Or.inr hno)
  have hI : ∀ i j, isI (pmS o G p N (fun _ => 0) 1 1 (fun s => ((K s : Nat) : Int)) i j) := pmA_int sysA_int
  have hdg : ∀ s, s < G 0 0 → hat (pmS o G p N (fun _ => 0) 1 1 (fun s => ((K s : Nat) : Int))) s s ≤ 6 := fun s hs => by
    have := pm_hdiag (N := N) (f := fun _ => 0) (ov := 1) (un := 1) (c := fun s => ((K s : Nat) : Int)) hW hp hP (by omega) (by omega) hs
    rw [hno s hs] at this
    grind
  have hr7 : ∀ s, s < G 0 0 → 0 ≤ pmS o G p N (fun _ => 0) 1 1 (fun s => ((K s : Nat) : Int)) s 7 ∧ pmS o G p N (fun _ => 0) 1 1 (fun s => ((K s : Nat) : Int)) s 7 ≤ 54 := fun s hs => by
    have ho := (hP.1 s hs).1
    rw [pm_rhs hW hp ho]
    split
    · have hm : mv p (o s) < 21 := mv_lt (by omega) (hp _ (by omega))
      have h6 := (hW.2.2.1 _ hm).2.2.1
      rw [sm_eq hW hm, e1, Rat.one_mul, Rat.intCast_natCast, ← Rat.natCast_mul]
      refine ⟨Rat.natCast_nonneg, ?_⟩
      have := Nat.mul_le_mul h6 (hK (o s))
      exact Rat.natCast_le_natCast.mpr this
    · exact ⟨by decide, by decide⟩
  have hh7 : ∀ s, s < G 0 0 → hat (pmS o G p N (fun _ => 0) 1 1 (fun s => ((K s : Nat) : Int))) s 7 = pmS o G p N (fun _ => 0) 1 1 (fun s => ((K s : Nat) : Int)) s 7 := fun s hs => by
    unfold hat
    rw [if_neg (by omega), Rat.add_zero]
  have hZh := hat_Zm hZ
  have hpv := hat_piv hZ
  obtain ⟨d1, d2, d3⟩ := hat_D hI hZ (Nat.le_refl (G 0 0))
  have dge : (1 : Rat) ≤ gD (G 0 0) (hat (pmS o G p N (fun _ => 0) 1 1 (fun s => ((K s : Nat) : Int)))) := by
    rw [← d2]
    exact Rat.intCast_le_intCast.mpr (show (1 : Int) ≤ _ by omega)
  have g0 := gj_R0 (R := 7) hZh (Nat.le_refl _) hpv (fun s hs => by rw [hh7 s hs]; exact (hr7 s hs).1) (G 0 0) (Nat.le_refl _)
  have gV := gj_RG (R := 7) (a := 6) (r := 54) hZh (Nat.le_refl _) hpv (by decide) hdg (fun s hs => by rw [hh7 s hs]; exact (hr7 s hs).1) (fun s hs => by rw [hh7 s hs]; exact (hr7 s hs).2) (G 0 0) (Nat.le_refl _)
  have x0 : ∀ s, s < G 0 0 → 0 ≤ gB (G 0 0) (hat (pmS o G p N (fun _ => 0) 1 1 (fun s => ((K s : Nat) : Int)))) s 7 / gD (G 0 0) (hat (pmS o G p N (fun _ => 0) 1 1 (fun s => ((K s : Nat) : Int)))) := fun s hs => rat_div_nonneg (g0 s hs) d1
  have x1 : ∀ s, s < G 0 0 → gB (G 0 0) (hat (pmS o G p N (fun _ => 0) 1 1 (fun s => ((K s : Nat) : Int)))) s 7 / gD (G 0 0) (hat (pmS o G p N (fun _ => 0) 1 1 (fun s => ((K s : Nat) : Int)))) ≤ 54 * 12 ^ 7 := fun s hs => by
    have h12 : (54 : Rat) * (2 * 6) ^ (G 0 0) ≤ 54 * 12 ^ 7 := by
      have e2 : (2 : Rat) * 6 = 12 := by grind
      rw [e2]
      have := rat_pow_le (a := 12) (by decide) hn
      grind
    have h4 := Rat.le_trans (gV s hs) h12
    refine q_cancel d1 ?_
    rw [Rat.div_def, Rat.mul_assoc, Rat.inv_mul_cancel _ (Rat.ne_of_gt d1), Rat.mul_one]
    have h5 : (0 : Rat) ≤ 54 * 12 ^ 7 := by decide +kernel
    have := Rat.mul_le_mul_of_nonneg_left dge h5
    rw [Rat.mul_one] at this
    exact Rat.le_trans h4 this
  refine ⟨fun s hs => ⟨fun hz => (h1 s hs).1 hz, fun hz => ?_, ?_, ?_⟩, ?_⟩
  · have := (h1 s hs).2.1 hz
    rw [e1, Rat.intCast_natCast] at this
    grind
  · exact x0 (oi s) (hP.2 s hs).1
  · exact x1 (oi s) (hP.2 s hs).1
  · obtain ⟨q, hq, hNq⟩ := hN
    have ha1 : ∀ i, (1 : Rat) ≤ (fun i => if N (o i) = true then (1 : Rat) else 6) i := fun i => by
      show (1 : Rat) ≤ if N (o i) = true then (1 : Rat) else 6
      split <;> decide
    have ha6 : ∀ i, (fun i => if N (o i) = true then (1 : Rat) else 6) i ≤ 6 := fun i => by
      show (if N (o i) = true then (1 : Rat) else 6) ≤ 6
      split <;> decide
    have hgap := prR_gap ha1 ha6 (G 0 0) (oi q) (hP.2 q hq).1 (by show (if N (o (oi q)) = true then (1 : Rat) else 6) = 1; rw [(hP.2 q hq).2, if_pos hNq])
    have h66 : prR (G 0 0) (fun i => if N (o i) = true then (1 : Rat) else 6) ≤ 6 ^ 6 := Rat.le_trans hgap (rat_pow_le (by decide) (by omega))
    have p1 := prR_one ha1 (G 0 0)
    have big : (6 : Rat) ^ 6 * 6 ^ 6 * (54 * 12 ^ 7) ≤ 9000000000000000000 := by decide +kernel
    have pV : (1 : Rat) ≤ 54 * 12 ^ 7 := by decide +kernel
    have p6 : (1 : Rat) ≤ 6 ^ 6 := by decide +kernel
    refine (fun (z : FT (pmS o G p N (fun _ => 0) 1 1 (fun s => ((K s : Nat) : Int))) (G 0 0) ∧ _) => ⟨z.1, Rat.le_trans z.2 h66⟩) (ft_of (a := fun i => if N (o i) = true then (1 : Rat) else 6) (V := 54 * 12 ^ 7) hn hI hZ ha1 (fun s hs => ?_) (fun s hs => (hr7 s hs).1) h2 h3 x0 x1 pV ⟨fun i hi => ?_, ?_⟩)
    · show _ ≤ if N (o s) = true then (1 : Rat) else 6
      split
      · rename_i hNs
        have ho := (hP.1 s hs).1
        unfold hat
        rw [if_pos rfl, hno s hs, Rat.add_zero]
        show pmA o (sysA G p N (fun _ => 0) 1 1 (fun s => ((K s : Nat) : Int))) s s ≤ 1
        rw [pmA_lt (by omega)]
        unfold sysA
        rw [if_pos ho, if_pos hNs]
        unfold rowN
        rw [if_neg (by omega), if_pos rfl]
        decide
      · exact hdg s hs
    · have hi6 : prR (i + 1) (fun i => if N (o i) = true then (1 : Rat) else 6) ≤ 6 ^ 6 := Rat.le_trans (prR_le ha1 (show i + 1 ≤ G 0 0 by omega)) h66
      have q1 := prR_one ha1 (i + 1)
      have m1 := rat_mul_le (by grind) (by grind) hi6 h66
      have m2 := Rat.mul_le_mul_of_nonneg_right m1 (show (0 : Rat) ≤ 54 * 12 ^ 7 by decide +kernel)
      exact Rat.le_trans m2 big
    · have m2 := Rat.mul_le_mul_of_nonneg_right h66 (show (0 : Rat) ≤ 54 * 12 ^ 7 by decide +kernel)
      have : (6 : Rat) ^ 6 * (54 * 12 ^ 7) ≤ 9000000000000000000 := by decide +kernel
      exact Rat.le_trans m2 this
end MN3
