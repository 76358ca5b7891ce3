/-! THE REFERENCE: chances, and what a chain gets -/
theorem can_rch {n : Nat} {wt : Nat → Nat → Rat} {p : Nat → Nat} {T : Nat → Prop} {s : Nat} (hs : s < n) : c_can n wt p T s ↔ T s ∨ ∃ t, t < n ∧ T t ∧ c_rch n wt p s t := by
  constructor
  · intro h
    obtain ⟨t, ht, hC, hT⟩ := h (fun u => u = s ∨ c_rch n wt p s u) (Or.inl rfl) (fun u hu hCu v hv hw => by
      right
      intro C hcl hC
      rcases hCu with rfl | hCu
      · exact hC v hv hw
      · exact hcl u hu (hCu C hcl hC) v hv hw)
    rcases hC with rfl | hC
    · exact Or.inl hT
    · exact Or.inr ⟨t, ht, hT, hC⟩
  · rintro (h | ⟨t, ht, hT, h⟩)
    · exact c_can_T hs h
    · intro C hC hcl
      exact ⟨t, ht, h C hcl (fun u hu hw => hcl s hs hC u hu hw), hT⟩
/-- whether one before k is in the set and reached -/
def cnr (tt : Nat → Nat) (r : Nat → Nat → Nat) (s : Nat) : Nat → Nat
  | 0 => 0
  | k + 1 => if cnr tt r s k ≠ 0 then 1 else if tt k ≠ 0 ∧ r s k ≠ 0 then 1 else 0
theorem cnr_iff (tt : Nat → Nat) (r : Nat → Nat → Nat) (s : Nat) : ∀ k, cnr tt r s k ≤ 1 ∧ (cnr tt r s k ≠ 0 ↔ ∃ t, t < k ∧ tt t ≠ 0 ∧ r s t ≠ 0) := by
  intro k
  induction k with
  | zero => exact ⟨Nat.le_of_ble_eq_true rfl, fun h => absurd rfl h, fun ⟨t, ht, _⟩ => by omega⟩
  | succ k ih =>
    rw [cnr]
    by_cases c : cnr tt r s k ≠ 0
    · rw [if_pos c]
      obtain ⟨t, h1, h2, h3⟩ := ih.2.mp c
      exact ⟨by decide, fun _ => ⟨t, by omega, h2, h3⟩, fun _ => by decide⟩
    · rw [if_neg c]
      by_cases c2 : tt k ≠ 0 ∧ r s k ≠ 0
      · rw [if_pos c2]
        exact ⟨by decide, fun _ => ⟨k, by omega, c2.1, c2.2⟩, fun _ => by decide⟩
      · rw [if_neg c2]
        refine ⟨by decide, fun h => absurd rfl h, fun ⟨t, h1, h2, h3⟩ => ?_⟩
        exfalso
        by_cases c3 : t = k
        · subst c3; exact c2 ⟨h2, h3⟩
        · exact c (ih.2.mpr ⟨t, by omega, h2, h3⟩)
section RE
variable {G : Gm} {p : Nat → Nat} {N : Nat → Bool} {T : Nat → Prop}
abbrev rchA (G : Gm) (p : Nat → Nat) (N : Nat → Bool) (f : Nat → Int) : Nat → Nat → Rat := sysA G p N f 1 1 (fun _ => 0)
theorem rch_piv {f : Nat → Int} (hW : GW G) (hw : whole G) (hpk : pkOk G p) (hp : ∀ s, s < 7 → p s ≤ 2) (hN0 : ∀ s, s < G 0 0 → N s = false → ¬ T s ∧ c_can (G 0 0) (wtR G) (mv p) T s) : ∀ k, k < 7 → 0 < gB k (rchA G p N f) k k := by
  have hn := hW.1
  refine sys_piv (sysA_Z hW hp (Nat.le_refl 1)) (fun S hS hS7 hsum hcl => ?_)
  obtain ⟨m, hm, hSm⟩ := hS
  have hmem : ∀ s, S s → s < G 0 0 ∧ N s = false := fun s hs => by
    have h1 := hsum s hs
    rw [sysA_sum hW hp (hS7 s hs)] at h1
    by_cases c : s < G 0 0 ∧ N s = false
    · exact c
    · rw [if_neg c] at h1; exact absurd h1 (by decide)
  have h2 := hmem m hSm
  obtain ⟨t, ht, hSt, hTt⟩ := (hN0 m h2.1 h2.2).2 S hSm (fun s hs hSs t ht hwt => by
    refine Classical.byContradiction fun hSt => ?_
    have h3 := hcl s t hSs (by omega) hSt
    have h4 := hmem s hSs
    unfold rchA sysA at h3
    rw [if_pos h4.1, h4.2] at h3
    simp only [Bool.false_eq_true, if_false] at h3
    rw [rowS_rat hW (mv_lt (by omega) (hp s (by omega))) (by omega), if_neg (c := t = s) (fun z => hSt (by rw [z]; exact hSs))] at h3
    have h5 : ((1 : Nat) : Rat) = 1 := rfl
    rw [h5] at h3
    exact hwt (by grind))
  exact (hN0 t ht (hmem t hSt).2).1 hTt
theorem rch_sol {f : Nat → Int} (hW : GW G) (hw : whole G) (hpk : pkOk G p) (hp : ∀ s, s < 7 → p s ≤ 2) (hN0 : ∀ s, s < G 0 0 → N s = false → ¬ T s ∧ c_can (G 0 0) (wtR G) (mv p) T s) (hN1 : ∀ s, s < G 0 0 → N s = true → (T s ∧ f s = 1) ∨ (¬ T s ∧ ¬ c_can (G 0 0) (wtR G) (mv p) T s ∧ f s = 0)) : (∀ s, s < 7 → rowOk 7 7 (rchA G p N f) (fun t => gB 7 (rchA G p N f) t 7 / gD 7 (rchA G p N f)) s) ∧ SolR (G 0 0) (wtR G) (mv p) T (fun t => gB 7 (rchA G p N f) t 7 / gD 7 (rchA G p N f)) ∧ ∀ s, s < 7 → 0 ≤ gB 7 (rchA G p N f) s 7 / gD 7 (rchA G p N f) ∧ gB 7 (rchA G p N f) s 7 / gD 7 (rchA G p N f) ≤ 1 := by
  have hn := hW.1
  have h0 := gj_sol (R := 7) (sys_ND (rch_piv (f := f) hW hw hpk hp hN0))
  generalize hx : (fun t => gB 7 (rchA G p N f) t 7 / gD 7 (rchA G p N f)) = x at h0 ⊢
  have hx2 : ∀ s, gB 7 (rchA G p N f) s 7 / gD 7 (rchA G p N f) = x s := fun s => by rw [← hx]
  simp only [hx2]
  have hrow : ∀ s, s < G 0 0 → (N s = true → x s = ((f s : Int) : Rat)) ∧ (N s = false → c_sm (G 0 0) (wtR G) (mv p s) * x s = c_ex (G 0 0) (wtR G) x (mv p s)) := fun s hs => by
    have h1 := h0 s (by omega)
    unfold rowOk at h1
    rw [sysA_dot hW hp (by omega)] at h1
    refine ⟨fun hN => ?_, fun hN => ?_⟩
    · rw [if_neg (by simp [hN])] at h1
      rw [h1]
      unfold rchA sysA
      rw [if_pos hs, hN]
      simp [rowN]
    · rw [if_pos ⟨hs, hN⟩] at h1
      have h2 : rchA G p N f s 7 = 0 := by
        unfold rchA sysA
        rw [if_pos hs, hN]
        simp only [Bool.false_eq_true, if_false]
        rw [rowS_rhs hW (mv_lt (by omega) (hp s (by omega)))]
        simp
      rw [h2] at h1
      have h5 : ((1 : Nat) : Rat) = 1 := rfl
      rw [h5] at h1
      grind
  have hz : ∀ s, s < G 0 0 → ¬ c_can (G 0 0) (wtR G) (mv p) T s → x s = 0 := fun s hs hc => by
    cases hN : N s
    · exact absurd (hN0 s hs hN).2 hc
    · rcases hN1 s hs hN with ⟨h1, -⟩ | ⟨-, -, h1⟩
      · exact absurd (c_can_T hs h1) hc
      · rw [(hrow s hs).1 hN, h1]; rfl
  have hS : SolR (G 0 0) (wtR G) (mv p) T x := by
    refine ⟨fun s hs hT => ?_, fun s hs hT => ?_, hz⟩
    · cases hN : N s
      · exact absurd hT (hN0 s hs hN).1
      · rcases hN1 s hs hN with ⟨-, h1⟩ | ⟨h1, -⟩
        · rw [(hrow s hs).1 hN, h1]; rfl
        · exact absurd hT h1
    · cases hN : N s
      · exact (hrow s hs).2 hN
      · rcases hN1 s hs hN with ⟨h1, -⟩ | ⟨-, h1, -⟩
        · exact absurd h1 hT
        · rw [hz s hs h1]
          have : c_ex (G 0 0) (wtR G) x (mv p s) = 0 := sr_zero (fun t ht => by
            by_cases c : wtR G (mv p s) t = 0
            · rw [c]; grind
            · rw [hz t ht (fun hz => h1 (c_can_of_step hs ht c hz))]; grind)
          rw [this]; grind
  have hok := pk_c hW hw hpk
  refine ⟨h0, hS, fun s hs => ?_⟩
  by_cases c : s < G 0 0
  · exact ⟨solR_nonneg hok hS s c, solR_le_one hok hS s c⟩
  · have h1 := h0 s hs
    unfold rowOk at h1
    rw [sysA_dot hW hp hs, if_neg (by simp [c])] at h1
    have h2 : rchA G p N f s 7 = 0 := by
      unfold rchA sysA
      rw [if_neg c, if_neg (by omega)]
    rw [h1, h2]
    exact ⟨Rat.le_refl, by decide⟩
theorem rch_fits {f : Nat → Int} (hW : GW G) (hw : whole G) (hpk : pkOk G p) (hp : ∀ s, s < 7 → p s ≤ 2) (hN0 : ∀ s, s < G 0 0 → N s = false → ¬ T s ∧ c_can (G 0 0) (wtR G) (mv p) T s) (hN1 : ∀ s, s < G 0 0 → N s = true → (T s ∧ f s = 1) ∨ (¬ T s ∧ ¬ c_can (G 0 0) (wtR G) (mv p) T s ∧ f s = 0)) (hf0 : ∀ s, s < G 0 0 → 0 ≤ f s) : A_fits (rchA G p N f) ∧ ∀ s, s < 7 → zfit (gB 7 (rchA G p N f) s 7).num := by
  obtain ⟨h0, -, h1⟩ := rch_sol (f := f) hW hw hpk hp hN0 hN1
  have hZ := sysA_Z (G := G) (p := p) (N := N) (f := f) (c := fun _ => 0) hW hp (Nat.le_refl 1)
  have hp1 := rch_piv (f := f) hW hw hpk hp hN0
  have ha : ∀ s, s < 7 → rchA G p N f s s ≤ 18 := fun s hs => Rat.le_trans (sysA_diag hW hp (by decide) (by decide) hs) (by decide)
  have hb : ∀ s, s < 7 → 0 ≤ rchA G p N f s 7 := fun s hs => sysA_rhs hW hp hf0 (fun _ _ => by omega) hs
  have h162 : ∀ s, s < 7 → gB 7 (rchA G p N f) s 7 / gD 7 (rchA G p N f) ≤ 162 := fun s hs => Rat.le_trans (h1 s hs).2 (by decide)
  exact ⟨sys_fits sysA_int hZ hp1 ha hb h0 (fun s hs => (h1 s hs).1) h162, sys_fitX sysA_int hZ hp1 ha hb h0 (fun s hs => (h1 s hs).1) h162⟩
end RE
/-- the set at hand -/
def TX (τ : cg_S) (n : Nat) (tt : Nat → Nat) : Prop := ∀ s, s < n → τ.1 16 s = i32 (tt s) ∧ tt s ≤ 1
theorem TX.fr {σ τ : cg_S} {n : Nat} {tt : Nat → Nat} {I L D : List Nat} (h : TX σ n tt) (hf : Fr I L D σ τ) (h0 : 16 ∉ I) : TX τ n tt := fun s hs => by rw [hf.1 16 h0]; exact h s hs
theorem RX.fr {σ τ : cg_S} {n : Nat} {r : Nat → Nat → Nat} {I L D : List Nat} (h : RX σ n r) (hf : Fr I L D σ τ) (h0 : 20 ∉ I) : RX τ n r := fun s t hs ht => by rw [hf.1 20 h0]; exact h s t hs ht
