/-! BOUNDS: what they are without rounding -/
theorem rat_divm {a W : Rat} (h : 0 < W) : a / W * W = a := Rat.div_mul_cancel (fun z => by rw [z] at h; exact absurd h (by decide))
section EXA
variable {G : Gm} {s : Nat} {x : Nat → Rat}
def btE (G : Gm) (s : Nat) (r x : Rat) : Rat := if G 1 s = 1 then (if r ≤ x then x else r) else (if x ≤ r then x else r)
def bsF (G : Gm) (s : Nat) (f : Nat → Rat) : Nat → Rat
  | 0 => f 0
  | c + 1 => btE G s (f (c + 1)) (bsF G s f c)
def lwE (G : Gm) (b : Nat → Rat) (m : Nat) : Rat := c_ex (G 0 0) (wtR G) b m / ((G 6 m : Nat) : Rat)
def bE (G : Gm) : Nat → Nat → Rat
  | 0 => fun s => if G 8 s ≠ 0 then 1 else 0
  | r + 1 => fun s => if G 8 s ≠ 0 then 1 else bsF G s (fun c => lwE G (bE G r) (3 * s + c)) (G 3 s - 1)
theorem bsF_mem {f : Nat → Rat} : ∀ c, ∃ d, d ≤ c ∧ bsF G s f c = f d := by
  intro c
  induction c with
  | zero => exact ⟨0, Nat.le_refl _, rfl⟩
  | succ c ih =>
    obtain ⟨d, h1, h2⟩ := ih
    show ∃ d, d ≤ c + 1 ∧ btE G s (f (c + 1)) (bsF G s f c) = f d
    unfold btE
    split <;> split
    · exact ⟨d, by omega, h2⟩
    · exact ⟨c + 1, Nat.le_refl _, rfl⟩
    · exact ⟨d, by omega, h2⟩
    · exact ⟨c + 1, Nat.le_refl _, rfl⟩
theorem bsF_A {f : Nat → Rat} (h : G 1 s = 1) : ∀ c d, d ≤ c → f d ≤ bsF G s f c := by
  intro c
  induction c with
  | zero => intro d hd; have : d = 0 := by omega
            rw [this]; exact Rat.le_refl
  | succ c ih =>
    intro d hd
    show f d ≤ btE G s (f (c + 1)) (bsF G s f c)
    unfold btE
    rw [if_pos h]
    by_cases e : d = c + 1
    · subst e; split <;> grind
    · have := ih d (by omega)
      split <;> grind
theorem bsF_B {f : Nat → Rat} (h : ¬ G 1 s = 1) : ∀ c d, d ≤ c → bsF G s f c ≤ f d := by
  intro c
  induction c with
  | zero => intro d hd; have : d = 0 := by omega
            rw [this]; exact Rat.le_refl
  | succ c ih =>
    intro d hd
    show btE G s (f (c + 1)) (bsF G s f c) ≤ f d
    unfold btE
    rw [if_neg h]
    by_cases e : d = c + 1
    · subst e; split <;> grind
    · have := ih d (by omega)
      split <;> grind
theorem bsF_le {f g : Nat → Rat} {c : Nat} (h : ∀ d, d ≤ c → f d ≤ g d) : bsF G s f c ≤ bsF G s g c := by
  by_cases e : G 1 s = 1
  · obtain ⟨d, h1, h2⟩ := bsF_mem (G := G) (s := s) (f := f) c
    rw [h2]
    exact Rat.le_trans (h d h1) (bsF_A e c d h1)
  · obtain ⟨d, h1, h2⟩ := bsF_mem (G := G) (s := s) (f := g) c
    rw [h2]
    exact Rat.le_trans (bsF_B e c d h1) (h d h1)
theorem lwE_le {b b' : Nat → Rat} {m : Nat} (h6 : 0 < G 6 m) (h : ∀ t, t < G 0 0 → b t ≤ b' t) : lwE G b m ≤ lwE G b' m := by
  have hq := nat_pos_q h6
  have := c_ex_le (n := G 0 0) (wt := wtR G) (m := m) (fun t _ => wtR_nn) h
  unfold lwE
  refine q_cancel hq ?_
  rw [rat_divm hq, rat_divm hq]
  exact this
theorem lwE_nn {b : Nat → Rat} {m : Nat} (h6 : 0 < G 6 m) (h : ∀ t, t < G 0 0 → 0 ≤ b t) : 0 ≤ lwE G b m := rat_div_nonneg (sr_nonneg (fun t ht => Rat.mul_nonneg wtR_nn (h t ht))) (nat_pos_q h6)
theorem bE_T (hT : G 8 s ≠ 0) : ∀ r, bE G r s = 1 := fun r => by
  cases r with
  | zero => exact if_pos hT
  | succ r => exact if_pos hT
theorem bE_S (hT : ¬ G 8 s ≠ 0) (r : Nat) : bE G (r + 1) s = bsF G s (fun c => lwE G (bE G r) (3 * s + c)) (G 3 s - 1) := if_neg hT
theorem bE_nn (hW : GW G) (hw : whole G) : ∀ r s, s < G 0 0 → 0 ≤ bE G r s := by
  intro r
  induction r with
  | zero =>
    intro s _
    show 0 ≤ (if G 8 s ≠ 0 then (1 : Rat) else 0)
    split <;> decide
  | succ r ih =>
    intro s hs
    by_cases hT : G 8 s ≠ 0
    · rw [bE_T hT]; decide
    · rw [bE_S hT]
      obtain ⟨d, h1, h2⟩ := bsF_mem (G := G) (s := s) (f := fun c => lwE G (bE G r) (3 * s + c)) (G 3 s - 1)
      rw [h2]
      have := (hw.2 s hs).1
      exact lwE_nn ((hw.2 s hs).2 d (by omega)) ih
theorem bE_up (hW : GW G) (hw : whole G) : ∀ r s, s < G 0 0 → bE G r s ≤ bE G (r + 1) s := by
  intro r
  induction r with
  | zero =>
    intro s hs
    by_cases hT : G 8 s ≠ 0
    · rw [bE_T hT, bE_T hT]; exact Rat.le_refl
    · have : bE G 0 s = 0 := if_neg hT
      rw [this]; exact bE_nn hW hw 1 s hs
  | succ r ih =>
    intro s hs
    by_cases hT : G 8 s ≠ 0
    · rw [bE_T hT, bE_T hT]; exact Rat.le_refl
    · have := (hw.2 s hs).1
      rw [bE_S hT, bE_S hT]
      exact bsF_le (fun d hd => lwE_le ((hw.2 s hs).2 d (by omega)) ih)
theorem bE_mono (hW : GW G) (hw : whole G) (hs : s < G 0 0) (r : Nat) : ∀ k, bE G r s ≤ bE G (r + k) s := by
  intro k
  induction k with
  | zero => exact Rat.le_refl
  | succ k ih => exact Rat.le_trans ih (bE_up hW hw (r + k) s hs)
theorem bE_x (hW : GW G) (hw : whole G) (hm : mmb G 114 x) : ∀ r s, s < G 0 0 → bE G r s ≤ x s := by
  obtain ⟨p, hp, hcv, hA⟩ := mmb_val hW hw hm
  have hx0 := gX_nonneg hW hw (mv_pk hp) hcv.1
  have hTx : ∀ s, s < G 0 0 → G 8 s ≠ 0 → x s = 1 := fun s hs hT => gX_stop hcv.1 hs ⟨rfl, hT⟩
  intro r
  induction r with
  | zero =>
    intro s hs
    by_cases hT : G 8 s ≠ 0
    · rw [bE_T hT, hTx s hs hT]; exact Rat.le_refl
    · have : bE G 0 s = 0 := if_neg hT
      rw [this]; exact hx0 s hs
  | succ r ih =>
    intro s hs
    by_cases hT : G 8 s ≠ 0
    · rw [bE_T hT, hTx s hs hT]; exact Rat.le_refl
    have hns : ¬ stop G 114 s := fun z => hT z.2
    have g3 := (hW.2.1 s (by have := hW.1; omega)).2.2.1
    have g30 := (hw.2 s hs).1
    have hn := hW.1
    have low : ∀ d, d < G 3 s → c_ex (G 0 0) (wtR G) x (3 * s + d) ≤ c_sm (G 0 0) (wtR G) (3 * s + d) * x s → lwE G (bE G r) (3 * s + d) ≤ x s := fun d hd hle => by
      have h6 := (hw.2 s hs).2 d hd
      refine Rat.le_trans (lwE_le h6 ih) ?_
      rw [sm_eq hW (by omega)] at hle
      have hq := nat_pos_q h6
      unfold lwE
      refine q_cancel hq ?_
      rw [rat_divm hq, Rat.mul_comm (x s)]
      exact hle
    rw [bE_S hT]
    by_cases hAs : G 1 s = 1
    · obtain ⟨d, h1, h2⟩ := bsF_mem (G := G) (s := s) (f := fun c => lwE G (bE G r) (3 * s + c)) (G 3 s - 1)
      rw [h2]
      refine low d (by omega) ?_
      have := hA s (3 * s + d) hs hAs hns ⟨d, by omega, rfl⟩
      unfold ahR tgR at this
      rw [if_pos rfl, if_pos rfl] at this
      exact this
    · have hps := hp s hs
      refine Rat.le_trans (bsF_B hAs _ (p s) (by omega)) (low (p s) hps ?_)
      have := gX_ah hcv.1 hs hns
      unfold ahR tgR mv at this
      rw [if_pos rfl, if_pos rfl] at this
      rw [this]; exact Rat.le_refl
theorem bE_1 (hW : GW G) (hw : whole G) (r : Nat) (hs : s < G 0 0) : bE G r s ≤ 1 := by
  obtain ⟨w, hw'⟩ := mmb_get hW hw 114
  exact Rat.le_trans (bE_x hW hw hw' r s hs) (val_le_one hW hw hw' hs)
end EXA
