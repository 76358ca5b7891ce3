/-! SOLUTIONS OF THE STAGES; ROWS THAT SUM TO NO LESS THAN 0 -/
/-- x solves row s of B: columns below n, the right side in column R -/
def rowOk (n R : Nat) (B : Nat → Nat → Rat) (x : Nat → Rat) (s : Nat) : Prop := sr n (fun t => B s t * x t) = B s R
theorem gB_row {n R k s : Nat} {A : Nat → Nat → Rat} {x : Nat → Rat} (hs : s ≠ k) (hd : gD k A ≠ 0) : gD k A * (sr n (fun t => gB (k + 1) A s t * x t) - gB (k + 1) A s R) = gB k A k k * (sr n (fun t => gB k A s t * x t) - gB k A s R) - gB k A s k * (sr n (fun t => gB k A k t * x t) - gB k A k R) := by
  have e1 : gD k A * sr n (fun t => gB (k + 1) A s t * x t) = gB k A k k * sr n (fun t => gB k A s t * x t) - gB k A s k * sr n (fun t => gB k A k t * x t) := by
    rw [← sr_mul, ← sr_mul, ← sr_mul, ← sr_sub]
    refine sr_congr (fun t _ => ?_)
    rw [gB_else hs]; grind
  have e2 : gD k A * gB (k + 1) A s R = gB k A k k * gB k A s R - gB k A s k * gB k A k R := by
    rw [gB_else hs]; grind
  grind
/-- back from the last stage: rows k and on, where each pivot's row holds -/
theorem gj_back {n R : Nat} {A : Nat → Nat → Rat} {x : Nat → Rat} (h : ND n A) (hx : ∀ k, k < n → rowOk n R (gB k A) x k) : ∀ s, s < n → rowOk n R A x s := by
  have key : ∀ r k, k + r = n → ∀ s, k ≤ s → s < n → rowOk n R (gB k A) x s := by
    intro r
    induction r with
    | zero => intro k hk s h1 h2; omega
    | succ r ih =>
      intro k hk s h1 h2
      by_cases c : s = k
      · subst c; exact hx s h2
      · have h3 := ih (k + 1) (by omega) s (by omega) h2
        have h4 := hx k (by omega)
        have h5 := gB_row (n := n) (R := R) (x := x) c (h k (by omega))
        have hp := h (k + 1) (by omega)
        rw [gD_succ] at hp
        unfold rowOk at *
        rw [h3, h4] at h5
        have h6 : gB k A k k * (sr n (fun t => gB k A s t * x t) - gB k A s R) = 0 := by grind
        rcases Rat.mul_eq_zero.mp h6 with h7 | h7
        · exact absurd h7 hp
        · grind
  intro s hs
  exact key n 0 (by omega) s (by omega) hs
/-- the solution that the last stage tells -/
theorem gj_sol {n R : Nat} {A : Nat → Nat → Rat} (h : ND n A) : ∀ s, s < n → rowOk n R A (fun t => gB n A t R / gD n A) s := by
  have key : ∀ r k, k + r = n → ∀ s, s < n → rowOk n R (gB k A) (fun t => gB n A t R / gD n A) s := by
    intro r
    induction r with
    | zero =>
      intro k hk s hs
      have hk : k = n := by omega
      subst hk
      unfold rowOk
      rw [sr_one (i := s) hs (fun j hj hne => by rw [gB_shape h s j hj, if_neg (by omega)]; grind), gB_shape h s s hs, if_pos rfl]
      have := h k (by omega)
      grind
    | succ r ih =>
      intro k hk s hs
      have hp := h (k + 1) (by omega)
      rw [gD_succ] at hp
      have hkk : rowOk n R (gB k A) (fun t => gB n A t R / gD n A) k := by
        have h3 := ih (k + 1) (by omega) k (by omega)
        unfold rowOk at *
        simp only [gB_same] at h3
        exact h3
      by_cases c : s = k
      · subst c; exact hkk
      · have h3 := ih (k + 1) (by omega) s hs
        have h5 := gB_row (n := n) (R := R) (x := fun t => gB n A t R / gD n A) c (h k (by omega))
        unfold rowOk at *
        rw [h3, hkk] at h5
        have h6 : gB k A k k * (sr n (fun t => gB k A s t * (gB n A t R / gD n A)) - gB k A s R) = 0 := by grind
        rcases Rat.mul_eq_zero.mp h6 with h7 | h7
        · exact absurd h7 hp
        · grind
  intro s hs
  exact key n 0 (by omega) s hs
/-- rows: nothing above 0 beside the diagonal, sums not below 0 -/
def Zm (n : Nat) (A : Nat → Nat → Rat) : Prop := (∀ s t, s < n → t < n → s ≠ t → A s t ≤ 0) ∧ ∀ s, s < n → 0 ≤ sr n (A s)
theorem rat_div_nonpos {x d : Rat} (hx : x ≤ 0) (hd : 0 < d) : x / d ≤ 0 := by
  have h1 : 0 ≤ -(x / d) := by
    have : -(x / d) = (-x) * d⁻¹ := by grind
    rw [this]
    refine Rat.mul_nonneg (by grind) ?_
    have := Rat.inv_pos.mpr hd
    grind
  grind
theorem rat_div_nonneg {x d : Rat} (hx : 0 ≤ x) (hd : 0 < d) : 0 ≤ x / d := by
  rw [Rat.div_def]
  exact Rat.mul_nonneg hx (Rat.le_of_lt (Rat.inv_pos.mpr hd))
theorem rat_nn {x y : Rat} (hx : x ≤ 0) (hy : y ≤ 0) : 0 ≤ x * y := by
  have := Rat.mul_nonneg (a := -x) (b := -y) (by grind) (by grind)
  grind
theorem rat_pn {x y : Rat} (hx : 0 ≤ x) (hy : y ≤ 0) : x * y ≤ 0 := by
  have := Rat.mul_nonneg (a := x) (b := -y) hx (by grind)
  grind
/-- a stage of such a matrix: rows from k on -/
def Zk (n k : Nat) (B : Nat → Nat → Rat) : Prop := (∀ s t, k ≤ s → s < n → t < n → s ≠ t → B s t ≤ 0) ∧ ∀ s, k ≤ s → s < n → 0 ≤ sr n (B s)
theorem Zk.diag {n k : Nat} {B : Nat → Nat → Rat} (h : Zk n k B) : ∀ s, k ≤ s → s < n → 0 ≤ B s s ∧ ∀ t, t < n → -B s t ≤ B s s := by
  intro s hk hs
  have h1 : ∀ t, t < n → t ≠ s → 0 ≤ B s s + B s t := by
    intro t ht hne
    have h2 := h.2 s hk hs
    have h3 : sr n (B s) = sr n (fun j => if j = s then B s s else 0) + sr n (fun j => if j = s then 0 else B s j) := by
      rw [← sr_add]
      refine sr_congr (fun j _ => ?_)
      by_cases c : j = s
      · rw [if_pos c, if_pos c, c]; grind
      · rw [if_neg c, if_neg c]; grind
    have h4 : sr n (fun j => if j = s then B s s else 0) = B s s := by
      rw [sr_one hs (fun j _ hj => if_neg hj), if_pos rfl]
    have h5 : sr n (fun j => if j = s then 0 else B s j) ≤ B s t := by
      have h6 : sr n (fun j => if j = s then 0 else B s j) ≤ sr n (fun j => if j = t then B s t else 0) := by
        refine sr_le (fun j hj => ?_)
        by_cases c : j = s
        · rw [if_pos c]
          split
          · omega
          · exact Rat.le_refl
        · rw [if_neg c]
          split
          · rename_i c2; rw [c2]; exact Rat.le_refl
          · exact h.1 s j hk hs hj (by omega)
      rw [sr_one (i := t) ht (fun j _ hj => if_neg hj), if_pos rfl] at h6
      exact h6
    grind
  have h0 : 0 ≤ B s s := by
    have h2 := h.2 s hk hs
    have h6 : sr n (B s) ≤ sr n (fun j => if j = s then B s s else 0) := by
      refine sr_le (fun j hj => ?_)
      by_cases c : j = s
      · rw [if_pos c, c]; exact Rat.le_refl
      · rw [if_neg c]; exact h.1 s j hk hs hj (by omega)
    rw [sr_one (i := s) hs (fun j _ hj => if_neg hj), if_pos rfl] at h6
    grind
  refine ⟨h0, fun t ht => ?_⟩
  by_cases c : t = s
  · rw [c]; grind
  · have := h1 t ht c; grind
theorem Zk.step {n k : Nat} {A : Nat → Nat → Rat} (hk : k < n) (h : Zk n k (gB k A)) (hd : 0 < gD k A) (hp : 0 < gB k A k k) (hN : ND k A) : Zk n (k + 1) (gB (k + 1) A) := by
  refine ⟨fun s t h1 h2 h3 h4 => ?_, fun s h1 h2 => ?_⟩
  · rw [gB_else (by omega)]
    refine rat_div_nonpos ?_ hd
    by_cases c : t < k
    · rw [gB_shape hN s t c, gB_shape hN k t c, if_neg (by omega), if_neg (by omega)]; grind
    · by_cases c2 : t = k
      · subst c2; grind
      · have e1 := h.1 s t (by omega) h2 h3 h4
        have e2 := h.1 s k (by omega) h2 hk (by omega)
        have e3 := h.1 k t (by omega) hk h3 (by omega)
        have e4 := rat_nn e2 e3
        have e5 := rat_pn (Rat.le_of_lt hp) e1
        grind
  · have e1 : gD k A * sr n (gB (k + 1) A s) = gB k A k k * sr n (gB k A s) - gB k A s k * sr n (gB k A k) := by
      rw [← sr_mul, ← sr_mul, ← sr_mul, ← sr_sub]
      refine sr_congr (fun t _ => ?_)
      rw [gB_else (by omega)]; grind
    have e2 := h.1 s k (by omega) h2 hk (by omega)
    have e3 := h.2 s (by omega) h2
    have e4 := h.2 k (by omega) hk
    have e5 := Rat.mul_nonneg (Rat.le_of_lt hp) e3
    have e6 := rat_pn e4 e2
    have e7 : 0 ≤ gD k A * sr n (gB (k + 1) A s) := by grind
    by_cases c : 0 ≤ sr n (gB (k + 1) A s)
    · exact c
    · have e8 := rat_pn (Rat.le_of_lt hd) (y := sr n (gB (k + 1) A s)) (by grind)
      have e9 : gD k A * sr n (gB (k + 1) A s) = 0 := by grind
      rcases Rat.mul_eq_zero.mp e9 with e10 | e10
      · grind
      · grind
/-- all stages below m, while the pivots are above 0 -/
theorem gj_Z {n m : Nat} {A : Nat → Nat → Rat} (hZ : Zm n A) (hm : m ≤ n) (hp : ∀ k, k < m → 0 < gB k A k k) : (∀ k, k ≤ m → 0 < gD k A) ∧ ∀ k, k ≤ m → Zk n k (gB k A) := by
  have hD : ∀ k, k ≤ m → 0 < gD k A := by
    intro k hk
    cases k with
    | zero => rw [gD_zero]; grind
    | succ k => rw [gD_succ]; exact hp k (by omega)
  refine ⟨hD, fun k => ?_⟩
  induction k with
  | zero => intro _; exact ⟨fun s t _ h1 h2 h3 => hZ.1 s t h1 h2 h3, fun s _ h1 => hZ.2 s h1⟩
  | succ k ih => intro hk; exact Zk.step (by omega) (ih (by omega)) (hD k (by omega)) (hp k (by omega)) (fun i hi h0 => by have := hD i (by omega); rw [h0] at this; exact Rat.lt_irrefl this)
/-- mixtures with nothing below 0 -/
theorem gj_pos {n m : Nat} {A : Nat → Nat → Rat} (hZ : Zm n A) (hm : m ≤ n) (hp : ∀ k, k < m → 0 < gB k A k k) : ∀ k, k ≤ m → ∀ s, k ≤ s → s < n → ∃ c : Nat → Rat, (∀ i, 0 ≤ c i) ∧ ∀ t, gB k A s t = sr k (fun i => c i * A i t) + gD k A * A s t := by
  obtain ⟨hD, hZk⟩ := gj_Z hZ hm hp
  intro k
  induction k with
  | zero => intro _ s _ _; exact ⟨fun _ => 0, fun _ => Rat.le_refl, fun t => by rw [gB_zero, gD_zero, sr]; grind⟩
  | succ k ih =>
    intro hk s h1 h2
    obtain ⟨cs, p1, p2⟩ := ih (by omega) s (by omega) h2
    obtain ⟨ck, q1, q2⟩ := ih (by omega) k (by omega) (by omega)
    have hd := hD k (by omega)
    have hb := (hZk k (by omega)).1 s k (by omega) h2 (by omega) (by omega)
    have hpk := hp k (by omega)
    refine ⟨fun i => if i = k then -(gB k A s k / gD k A) * gD k A else (gB k A k k / gD k A) * cs i - (gB k A s k / gD k A) * ck i, fun i => ?_, fun t => ?_⟩
    · have e1 := rat_div_nonpos hb hd
      have e2 := rat_div_nonneg (Rat.le_of_lt hpk) hd
      dsimp only
      split
      · have := Rat.mul_nonneg (a := -(gB k A s k / gD k A)) (b := gD k A) (by grind) (Rat.le_of_lt hd)
        exact this
      · have e3 := Rat.mul_nonneg e2 (p1 i)
        have e4 := rat_pn (q1 i) e1
        grind
    · dsimp only
      rw [gB_else (by omega), sr_if, sr_lin, p2 t, q2 t, gD_succ]
      generalize gB k A k k = p at *
      generalize gB k A s k = b at *
      grind
/-- a pivot that is 0 tells a set of rows, each with the sum 0, that has nothing outside -/
theorem gj_zero {n m : Nat} {A : Nat → Nat → Rat} (hZ : Zm n A) (hm : m < n) (hp : ∀ k, k < m → 0 < gB k A k k) (h0 : gB m A m m = 0) : ∃ S : Nat → Prop, S m ∧ (∀ s, S s → s ≤ m) ∧ (∀ s, S s → sr n (A s) = 0) ∧ (∀ s t, S s → t < n → ¬ S t → A s t = 0) ∧ ∃ c : Nat → Rat, (∀ i, i < m → ¬ S i → c i = 0) ∧ (∀ t, t < n → sr m (fun i => c i * A i t) + gD m A * A m t = 0) ∧ ∀ t, gB m A m t = sr m (fun i => c i * A i t) + gD m A * A m t := by
  obtain ⟨hD, hZk⟩ := gj_Z hZ (Nat.le_of_lt hm) hp
  obtain ⟨c, hc, he⟩ := gj_pos hZ (Nat.le_of_lt hm) hp m (Nat.le_refl m) m (Nat.le_refl m) hm
  have hd := hD m (Nat.le_refl m)
  have hrow : ∀ t, t < n → gB m A m t = 0 := by
    intro t ht
    by_cases c1 : t = m
    · rw [c1]; exact h0
    · have h1 := (hZk m (Nat.le_refl m)).1 m t (Nat.le_refl m) hm ht (by omega)
      have h2 := ((hZk m (Nat.le_refl m)).diag m (Nat.le_refl m) hm).2 t ht
      rw [h0] at h2
      grind
  have hz : ∀ t, t < n → sr m (fun i => c i * A i t) + gD m A * A m t = 0 := fun t ht => by rw [← he t]; exact hrow t ht
  -- sums of the rows
  have hsum : sr m (fun i => c i * sr n (A i)) + gD m A * sr n (A m) = 0 := by
    have e1 : sr n (fun t => sr m (fun i => c i * A i t) + gD m A * A m t) = 0 := sr_zero hz
    rw [sr_add, sr_mul, ← sr_swap] at e1
    rw [sr_congr (g := fun i => sr n (fun j => c i * A i j)) (fun i _ => by rw [sr_mul])]
    exact e1
  have hn1 : ∀ i, i < m → 0 ≤ c i * sr n (A i) := fun i hi => Rat.mul_nonneg (hc i) (hZ.2 i (by omega))
  have hn2 : 0 ≤ gD m A * sr n (A m) := Rat.mul_nonneg (Rat.le_of_lt hd) (hZ.2 m hm)
  have hn3 := sr_nonneg hn1
  have hs0 : sr m (fun i => c i * sr n (A i)) = 0 := by grind
  have hs1 : gD m A * sr n (A m) = 0 := by grind
  have hrm : sr n (A m) = 0 := by
    rcases Rat.mul_eq_zero.mp hs1 with h | h
    · grind
    · exact h
  have hri := sr_zero_all hn1 hs0
  refine ⟨fun s => s = m ∨ (s < m ∧ c s ≠ 0), Or.inl rfl, fun s hs => by rcases hs with h | h <;> omega, fun s hs => ?_, fun s t hs ht hnt => ?_, c, fun i hi hni => ?_, hz, he⟩
  · rcases hs with rfl | ⟨h1, h2⟩
    · exact hrm
    · rcases Rat.mul_eq_zero.mp (hri s h1) with h | h
      · exact absurd h h2
      · exact h
  · have ht1 : t ≠ m := fun h => hnt (Or.inl h)
    have hneg : ∀ i, i < m → c i * A i t ≤ 0 := by
      intro i hi
      by_cases c0 : c i = 0
      · rw [c0]; grind
      · by_cases c1 : i = t
        · subst c1; exact absurd (Or.inr ⟨hi, c0⟩) hnt
        · exact rat_pn (hc i) (hZ.1 i t (by omega) ht c1)
    have hnegm : gD m A * A m t ≤ 0 := rat_pn (Rat.le_of_lt hd) (hZ.1 m t hm ht (by omega))
    have e1 := hz t ht
    have e2 : sr m (fun i => -(c i * A i t)) = -sr m (fun i => c i * A i t) := sr_neg
    have e3 := sr_nonneg (n := m) (f := fun i => -(c i * A i t)) (fun i hi => by have := hneg i hi; grind)
    have e4 : sr m (fun i => -(c i * A i t)) = 0 := by grind
    rcases hs with rfl | ⟨h1, h2⟩
    · have e5 : gD s A * A s t = 0 := by grind
      rcases Rat.mul_eq_zero.mp e5 with h | h
      · grind
      · exact h
    · have e6 := sr_zero_all (n := m) (f := fun i => -(c i * A i t)) (fun i hi => by have := hneg i hi; grind) e4 s h1
      have e7 : c s * A s t = 0 := by grind
      rcases Rat.mul_eq_zero.mp e7 with h | h
      · exact absurd h h2
      · exact h
  · by_cases c0 : c i = 0
    · exact c0
    · exact absurd (Or.inr ⟨hi, c0⟩) hni
