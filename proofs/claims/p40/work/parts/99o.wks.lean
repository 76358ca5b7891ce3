/-! TRACES: the reference's search -/
section WKS
variable {σ : cg_S} {G : Gm} {p : Nat → Nat}
theorem ext_leaf {k j : Nat} {P f : Nat → Nat} (hT : TG G (P (k - 1))) (hk : 1 ≤ k) (h : EXT G k P j f) : j = k ∧ tw G f (j - 1) = tw G P (k - 1) ∧ ∀ i, i < k → f i = P i := by
  obtain ⟨h1, h2, h3⟩ := h
  have : j = k := Classical.byContradiction fun z => by
    have := (h2.1.2.2.1 (k - 1) (by omega)).2
    rw [h3 (k - 1) (by omega)] at this
    exact this hT
  subst this
  exact ⟨rfl, (tw_cg (j - 1) (fun i hi => h3 i (by omega))).1, h3⟩
theorem lxl_eq {k : Nat} {f g : Nat → Nat} (h : ∀ i, i < k → f i = g i) : lxl k g f := fun i hi _ => Nat.le_of_eq (h i hi).symm
theorem PV_trc {k : Nat} {P : Nat → Nat} (hP : PV G k P) (hT : TG G (P (k - 1))) : trc G k P := ⟨⟨hP.1, hP.2.1, hP.2.2.2, hT⟩, hP.2.2.1⟩
theorem ext_kid {k j t : Nat} {P f : Nat → Nat} (hT : ¬ TG G (P (k - 1))) (hk : 1 ≤ k) : (EXT G k P j f ∧ f k = t) ↔ EXT G (k + 1) (upd1 P k t) j f := by
  constructor
  · rintro ⟨⟨h1, h2, h3⟩, h4⟩
    have hj : j ≠ k := fun e => by
      subst e
      have := h2.1.2.2.2
      rw [h3 (j - 1) (by omega)] at this
      exact hT this
    refine ⟨by omega, h2, fun i hi => ?_⟩
    unfold upd1
    by_cases e : i = k
    · rw [if_pos e, e]; exact h4
    · rw [if_neg e]; exact h3 i (by omega)
  · rintro ⟨h1, h2, h3⟩
    refine ⟨⟨by omega, h2, fun i hi => ?_⟩, ?_⟩
    · have := h3 i (by omega)
      unfold upd1 at this
      rw [if_neg (by omega)] at this
      exact this
    · have := h3 k (by omega)
      unfold upd1 at this
      rw [if_pos rfl] at this
      exact this
theorem upd1_b {P : Nat → Nat} {k t i : Nat} (h : i < k) : upd1 P k t i = P i := by unfold upd1; rw [if_neg (by omega)]
theorem upd1_e {P : Nat → Nat} {k t : Nat} : upd1 P k t k = t := by unfold upd1; rw [if_pos rfl]
end WKS
