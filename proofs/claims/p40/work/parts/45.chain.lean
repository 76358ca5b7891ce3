/-! CHAINS: what a pick of moves gets; comparison -/
/-- the sum of the weights of a move, and what is got behind it -/
def c_sm (n : Nat) (wt : Nat → Nat → Rat) (m : Nat) : Rat := sr n (wt m)
def c_ex (n : Nat) (wt : Nat → Nat → Rat) (x : Nat → Rat) (m : Nat) : Rat := sr n (fun t => wt m t * x t)
def c_ok (n : Nat) (wt : Nat → Nat → Rat) (p : Nat → Nat) : Prop := ∀ s, s < n → (∀ t, t < n → 0 ≤ wt (p s) t) ∧ 0 < c_sm n wt (p s)
/-- a set that the chain never leaves -/
def c_cl (n : Nat) (wt : Nat → Nat → Rat) (p : Nat → Nat) (C : Nat → Prop) : Prop := ∀ s, s < n → C s → ∀ t, t < n → wt (p s) t ≠ 0 → C t
/-- from s the chain can come to T -/
def c_can (n : Nat) (wt : Nat → Nat → Rat) (p : Nat → Nat) (T : Nat → Prop) (s : Nat) : Prop := ∀ C : Nat → Prop, C s → c_cl n wt p C → ∃ t, t < n ∧ C t ∧ T t
/-- the chances to reach T -/
def SolR (n : Nat) (wt : Nat → Nat → Rat) (p : Nat → Nat) (T : Nat → Prop) (x : Nat → Rat) : Prop := (∀ s, s < n → T s → x s = 1) ∧ (∀ s, s < n → ¬ T s → c_sm n wt (p s) * x s = c_ex n wt x (p s)) ∧ ∀ s, s < n → ¬ c_can n wt p T s → x s = 0
/-- expected discounted costs: K is below times the sum of the weights times the cost -/
def SolC (n : Nat) (wt : Nat → Nat → Rat) (p : Nat → Nat) (dn dd : Rat) (K : Nat → Rat) (x : Nat → Rat) : Prop := ∀ s, s < n → dd * (c_sm n wt (p s) * x s) = dn * c_ex n wt x (p s) + K (p s)
theorem c_max {n : Nat} (hn : 0 < n) (D : Nat → Rat) : ∃ s, s < n ∧ ∀ t, t < n → D t ≤ D s := by
  induction n with
  | zero => omega
  | succ n ih =>
    by_cases c : n = 0
    · subst c
      exact ⟨0, by omega, fun t ht => by rw [show t = 0 by omega]; exact Rat.le_refl⟩
    · obtain ⟨s, hs, h⟩ := ih (by omega)
      by_cases c2 : D n ≤ D s
      · refine ⟨s, by omega, fun t ht => ?_⟩
        by_cases c3 : t = n
        · rw [c3]; exact c2
        · exact h t (by omega)
      · refine ⟨n, by omega, fun t ht => ?_⟩
        by_cases c3 : t = n
        · rw [c3]; exact Rat.le_refl
        · have := h t (by omega); grind
section CH
variable {n : Nat} {wt : Nat → Nat → Rat} {p : Nat → Nat}
theorem c_ex_le {x y : Nat → Rat} {m : Nat} (hw : ∀ t, t < n → 0 ≤ wt m t) (h : ∀ t, t < n → x t ≤ y t) : c_ex n wt x m ≤ c_ex n wt y m := sr_le (fun t ht => by
  have := Rat.mul_nonneg (hw t ht) (b := y t - x t) (by have := h t ht; grind)
  grind)
theorem c_ex_sub {x y : Nat → Rat} {m : Nat} : c_ex n wt (fun t => x t - y t) m = c_ex n wt x m - c_ex n wt y m := by
  unfold c_ex
  rw [← sr_sub]
  exact sr_congr (fun t _ => by grind)
theorem c_ex_const {c : Rat} {m : Nat} : c_ex n wt (fun _ => c) m = c * c_sm n wt m := by
  unfold c_ex c_sm
  rw [← sr_mul]
  exact sr_congr (fun t _ => by grind)
theorem c_ex_congr {x y : Nat → Rat} {m : Nat} (h : ∀ t, t < n → x t = y t) : c_ex n wt x m = c_ex n wt y m := sr_congr (fun t ht => by rw [h t ht])
/-- where the greatest number stands and is no more than what comes next, it stands next -/
theorem c_maxp {y : Nat → Rat} {M : Rat} {s : Nat} {m : Nat} (hw : ∀ t, t < n → 0 ≤ wt m t) (hM : ∀ t, t < n → y t ≤ M) (hs : y s = M) (h : c_sm n wt m * y s ≤ c_ex n wt y m) : ∀ t, t < n → wt m t ≠ 0 → y t = M := by
  have h1 : ∀ t, t < n → 0 ≤ wt m t * (M - y t) := fun t ht => Rat.mul_nonneg (hw t ht) (by have := hM t ht; grind)
  have h2 : sr n (fun t => wt m t * (M - y t)) = M * c_sm n wt m - c_ex n wt y m := by
    unfold c_sm c_ex
    rw [← sr_mul, ← sr_sub]
    exact sr_congr (fun t _ => by grind)
  have h3 := sr_nonneg h1
  have h4 : sr n (fun t => wt m t * (M - y t)) = 0 := by rw [hs] at h; grind
  intro t ht hne
  rcases Rat.mul_eq_zero.mp (sr_zero_all h1 h4 t ht) with h5 | h5
  · exact absurd h5 hne
  · grind
theorem cmpR_le {T : Nat → Prop} {x y : Nat → Rat} (hok : c_ok n wt p) (hx : SolR n wt p T x) (h1 : ∀ s, s < n → T s → y s ≤ 1) (h2 : ∀ s, s < n → ¬ T s → c_sm n wt (p s) * y s ≤ c_ex n wt y (p s)) (h3 : ∀ s, s < n → ¬ c_can n wt p T s → y s ≤ 0) : ∀ s, s < n → y s ≤ x s := by
  intro s0 hs0
  obtain ⟨s, hs, hmax⟩ := c_max (show 0 < n by omega) (fun t => y t - x t)
  by_cases c : y s - x s ≤ 0
  · have := hmax s0 hs0; grind
  · exfalso
    have hcan : c_can n wt p T s := Classical.byContradiction fun hc => by
      have e1 := h3 s hs hc
      have e2 := hx.2.2 s hs hc
      grind
    have hT : ∀ u, u < n → y u - x u = y s - x s → ¬ T u := fun u hu he hT => by
      have e1 := h1 u hu hT
      have e2 := hx.1 u hu hT
      grind
    obtain ⟨t, ht, hC, hTt⟩ := hcan (fun u => u < n ∧ y u - x u = y s - x s) ⟨hs, rfl⟩ (fun u hu hC t ht hne => by
      have e1 := h2 u hu (hT u hu hC.2)
      have e2 := hx.2.1 u hu (hT u hu hC.2)
      refine ⟨ht, c_maxp (y := fun t => y t - x t) (s := u) (hok u hu).1 hmax hC.2 ?_ t ht hne⟩
      rw [c_ex_sub]
      grind)
    exact hT t ht hC.2 hTt
theorem cmpR_ge {T : Nat → Prop} {x y : Nat → Rat} (hok : c_ok n wt p) (hx : SolR n wt p T x) (h1 : ∀ s, s < n → T s → 1 ≤ y s) (h2 : ∀ s, s < n → ¬ T s → c_ex n wt y (p s) ≤ c_sm n wt (p s) * y s) (h3 : ∀ s, s < n → 0 ≤ y s) : ∀ s, s < n → x s ≤ y s := by
  intro s0 hs0
  obtain ⟨s, hs, hmax⟩ := c_max (show 0 < n by omega) (fun t => x t - y t)
  by_cases c : x s - y s ≤ 0
  · have := hmax s0 hs0; grind
  · exfalso
    have hcan : c_can n wt p T s := Classical.byContradiction fun hc => by
      have e1 := h3 s hs
      have e2 := hx.2.2 s hs hc
      grind
    have hT : ∀ u, u < n → x u - y u = x s - y s → ¬ T u := fun u hu he hT => by
      have e1 := h1 u hu hT
      have e2 := hx.1 u hu hT
      grind
    obtain ⟨t, ht, hC, hTt⟩ := hcan (fun u => u < n ∧ x u - y u = x s - y s) ⟨hs, rfl⟩ (fun u hu hC t ht hne => by
      have e1 := h2 u hu (hT u hu hC.2)
      have e2 := hx.2.1 u hu (hT u hu hC.2)
      refine ⟨ht, c_maxp (y := fun t => x t - y t) (s := u) (hok u hu).1 hmax hC.2 ?_ t ht hne⟩
      rw [c_ex_sub]
      grind)
    exact hT t ht hC.2 hTt
theorem solR_uniq {T : Nat → Prop} {x y : Nat → Rat} (hok : c_ok n wt p) (hx : SolR n wt p T x) (hy : SolR n wt p T y) : ∀ s, s < n → x s = y s := by
  intro s hs
  have h1 := cmpR_le hok hx (y := y) (fun s hs hT => by rw [hy.1 s hs hT]; exact Rat.le_refl) (fun s hs hT => by rw [hy.2.1 s hs hT]; exact Rat.le_refl) (fun s hs hc => by rw [hy.2.2 s hs hc]; exact Rat.le_refl) s hs
  have h2 := cmpR_le hok hy (y := x) (fun s hs hT => by rw [hx.1 s hs hT]; exact Rat.le_refl) (fun s hs hT => by rw [hx.2.1 s hs hT]; exact Rat.le_refl) (fun s hs hc => by rw [hx.2.2 s hs hc]; exact Rat.le_refl) s hs
  exact Rat.le_antisymm h2 h1
theorem solR_nonneg {T : Nat → Prop} {x : Nat → Rat} (hok : c_ok n wt p) (hx : SolR n wt p T x) : ∀ s, s < n → 0 ≤ x s := cmpR_le hok hx (y := fun _ => 0) (fun _ _ _ => by decide) (fun s hs _ => by rw [c_ex_const]; grind) (fun _ _ _ => Rat.le_refl)
theorem solR_le_one {T : Nat → Prop} {x : Nat → Rat} (hok : c_ok n wt p) (hx : SolR n wt p T x) : ∀ s, s < n → x s ≤ 1 := cmpR_ge hok hx (y := fun _ => 1) (fun _ _ _ => Rat.le_refl) (fun s hs _ => by rw [c_ex_const]; grind) (fun _ _ => by decide)
theorem cmpC_le {dn dd : Rat} {K : Nat → Rat} {x y : Nat → Rat} (hok : c_ok n wt p) (hd : dn < dd) (hx : SolC n wt p dn dd K x) (h : ∀ s, s < n → dd * (c_sm n wt (p s) * y s) ≤ dn * c_ex n wt y (p s) + K (p s)) (hd0 : 0 ≤ dn) : ∀ s, s < n → y s ≤ x s := by
  intro s0 hs0
  obtain ⟨s, hs, hmax⟩ := c_max (show 0 < n by omega) (fun t => y t - x t)
  by_cases c : y s - x s ≤ 0
  · have := hmax s0 hs0; grind
  · exfalso
    have e1 := h s hs
    have e2 := hx s hs
    have e3 : c_ex n wt (fun t => y t - x t) (p s) ≤ c_ex n wt (fun _ => y s - x s) (p s) := c_ex_le (hok s hs).1 hmax
    rw [c_ex_sub, c_ex_const] at e3
    have e4 := (hok s hs).2
    have e5 := Rat.mul_nonneg hd0 (b := (y s - x s) * c_sm n wt (p s) - (c_ex n wt y (p s) - c_ex n wt x (p s))) (by grind)
    have e6 := Rat.mul_pos (a := c_sm n wt (p s)) (b := y s - x s) e4 (by grind)
    have e7 := Rat.mul_pos (a := dd - dn) (b := c_sm n wt (p s) * (y s - x s)) (by grind) e6
    grind
theorem cmpC_ge {dn dd : Rat} {K : Nat → Rat} {x y : Nat → Rat} (hok : c_ok n wt p) (hd : dn < dd) (hx : SolC n wt p dn dd K x) (h : ∀ s, s < n → dn * c_ex n wt y (p s) + K (p s) ≤ dd * (c_sm n wt (p s) * y s)) (hd0 : 0 ≤ dn) : ∀ s, s < n → x s ≤ y s := by
  intro s0 hs0
  obtain ⟨s, hs, hmax⟩ := c_max (show 0 < n by omega) (fun t => x t - y t)
  by_cases c : x s - y s ≤ 0
  · have := hmax s0 hs0; grind
  · exfalso
    have e1 := h s hs
    have e2 := hx s hs
    have e3 : c_ex n wt (fun t => x t - y t) (p s) ≤ c_ex n wt (fun _ => x s - y s) (p s) := c_ex_le (hok s hs).1 hmax
    rw [c_ex_sub, c_ex_const] at e3
    have e4 := (hok s hs).2
    have e5 := Rat.mul_nonneg hd0 (b := (x s - y s) * c_sm n wt (p s) - (c_ex n wt x (p s) - c_ex n wt y (p s))) (by grind)
    have e6 := Rat.mul_pos (a := c_sm n wt (p s)) (b := x s - y s) e4 (by grind)
    have e7 := Rat.mul_pos (a := dd - dn) (b := c_sm n wt (p s) * (x s - y s)) (by grind) e6
    grind
theorem solC_uniq {dn dd : Rat} {K : Nat → Rat} {x y : Nat → Rat} (hok : c_ok n wt p) (hd : dn < dd) (hd0 : 0 ≤ dn) (hx : SolC n wt p dn dd K x) (hy : SolC n wt p dn dd K y) : ∀ s, s < n → x s = y s := fun s hs =>
  Rat.le_antisymm (cmpC_le hok hd hy (fun s hs => by rw [hx s hs]; exact Rat.le_refl) hd0 s hs) (cmpC_le hok hd hx (fun s hs => by rw [hy s hs]; exact Rat.le_refl) hd0 s hs)
theorem solC_nonneg {dn dd : Rat} {K : Nat → Rat} {x : Nat → Rat} (hok : c_ok n wt p) (hd : dn < dd) (hd0 : 0 ≤ dn) (hK : ∀ s, s < n → 0 ≤ K (p s)) (hx : SolC n wt p dn dd K x) : ∀ s, s < n → 0 ≤ x s := cmpC_le hok hd hx (y := fun _ => 0) (fun s hs => by rw [c_ex_const]; have := hK s hs; grind) hd0
/-- what can come to T, comes there step by step: the rest is never left -/
theorem c_can_step {T : Nat → Prop} {s : Nat} (hs : s < n) (h : c_can n wt p T s) : T s ∨ ∃ t, t < n ∧ wt (p s) t ≠ 0 ∧ c_can n wt p T t := by
  refine Classical.byContradiction fun hc => ?_
  have h1 : ¬ T s := fun z => hc (Or.inl z)
  have h2 : ∀ t, t < n → wt (p s) t ≠ 0 → ¬ c_can n wt p T t := fun t ht hw hz => hc (Or.inr ⟨t, ht, hw, hz⟩)
  obtain ⟨t, ht, hC, hT⟩ := h (fun u => u = s ∨ (u < n ∧ ¬ c_can n wt p T u)) (Or.inl rfl) (fun u hu hCu t ht hw => by
    rcases hCu with rfl | ⟨_, hu2⟩
    · exact Or.inr ⟨ht, h2 t ht hw⟩
    · refine Or.inr ⟨ht, fun hz => hu2 (fun C hC hcl => hz C (hcl u hu hC t ht hw) hcl)⟩)
  rcases hC with rfl | ⟨h3, h4⟩
  · exact h1 hT
  · exact h4 (fun C hC _ => ⟨t, ht, hC, hT⟩)
theorem c_can_of_step {T : Nat → Prop} {s t : Nat} (hs : s < n) (ht : t < n) (hw : wt (p s) t ≠ 0) (h : c_can n wt p T t) : c_can n wt p T s := fun C hC hcl => h C (hcl s hs hC t ht hw) hcl
theorem c_can_T {T : Nat → Prop} {s : Nat} (hs : s < n) (h : T s) : c_can n wt p T s := fun _ hC _ => ⟨s, hs, hC, h⟩
end CH
