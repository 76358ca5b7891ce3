/-! BOUNDS OF THE STAGES -/
theorem Zm.diag {n : Nat} {B : Nat → Nat → Rat} (h : Zm n B) : ∀ s, s < n → 0 ≤ B s s ∧ ∀ t, t < n → -B s t ≤ B s s := fun s hs => Zk.diag (k := 0) ⟨fun s t _ => h.1 s t, fun s _ => h.2 s⟩ s (Nat.zero_le s) hs
theorem Zm.step {n k : Nat} {A : Nat → Nat → Rat} (hk : k < n) (h : Zm n (gB k A)) (hd : 0 < gD k A) (hp : 0 < gB k A k k) : Zm n (gB (k + 1) A) := by
  refine ⟨fun s t h2 h3 h4 => ?_, fun s h2 => ?_⟩
  · by_cases c0 : s = k
    · subst c0; rw [gB_same]; exact h.1 s t h2 h3 h4
    · rw [gB_else c0]
      refine rat_div_nonpos ?_ hd
      by_cases c2 : t = k
      · subst c2; grind
      · have e1 := h.1 s t h2 h3 h4
        have e2 := h.1 s k h2 hk c0
        have e3 := h.1 k t hk h3 (by omega)
        have e4 := rat_nn e2 e3
        have e5 := rat_pn (Rat.le_of_lt hp) e1
        grind
  · by_cases c0 : s = k
    · subst c0
      rw [sr_congr (g := gB s A s) (fun i _ => gB_same s A i)]
      exact h.2 s h2
    · have e1 : gD k A * sr n (gB (k + 1) A s) = gB k A k k * sr n (gB k A s) - gB k A s k * sr n (gB k A k) := by
        rw [← sr_mul, ← sr_mul, ← sr_mul, ← sr_sub]
        refine sr_congr (fun t _ => ?_)
        rw [gB_else c0]; grind
      have e2 := h.1 s k h2 hk c0
      have e3 := h.2 s h2
      have e4 := h.2 k hk
      have e5 := Rat.mul_nonneg (Rat.le_of_lt hp) e3
      have e6 := rat_pn e4 e2
      have e7 : 0 ≤ gD k A * sr n (gB (k + 1) A s) := by grind
      by_cases c : 0 ≤ sr n (gB (k + 1) A s)
      · exact c
      · have e8 := rat_pn (Rat.le_of_lt hd) (y := sr n (gB (k + 1) A s)) (by grind)
        have e9 : gD k A * sr n (gB (k + 1) A s) = 0 := by grind
        rcases Rat.mul_eq_zero.mp e9 with e10 | e10
        · grind
        · grind
theorem gj_Zm {n m : Nat} {A : Nat → Nat → Rat} (hZ : Zm n A) (hm : m ≤ n) (hp : ∀ k, k < m → 0 < gB k A k k) : ∀ k, k ≤ m → Zm n (gB k A) := by
  have hD := (gj_Z hZ hm hp).1
  intro k
  induction k with
  | zero => intro _; exact hZ
  | succ k ih => intro hk; exact Zm.step (by omega) (ih (by omega)) (hD k (by omega)) (hp k (by omega))
theorem rat_le_of_mul {d x y : Rat} (hd : 0 < d) (h : d * x ≤ d * y) : x ≤ y := by
  by_cases c : x ≤ y
  · exact c
  · have := Rat.mul_nonneg (a := d) (b := x - y) (Rat.le_of_lt hd) (by grind)
    have h0 : d * (x - y) = 0 := by grind
    rcases Rat.mul_eq_zero.mp h0 with h1 | h1
    · grind
    · grind
theorem rat_mul_le {a b c d : Rat} (ha : 0 ≤ a) (hc : 0 ≤ c) (h1 : a ≤ b) (h2 : c ≤ d) : a * c ≤ b * d := by
  have e1 := Rat.mul_nonneg (a := b - a) (b := c) (by grind) hc
  have e2 := Rat.mul_nonneg (a := b) (b := d - c) (by grind) (by grind)
  grind
/-- the diagonal below a: the divisors and all entries are below its powers -/
theorem gj_diag {n m : Nat} {A : Nat → Nat → Rat} (hZ : Zm n A) (hm : m ≤ n) (hp : ∀ k, k < m → 0 < gB k A k k) {a : Rat} (ha : ∀ s, s < n → A s s ≤ a) : ∀ k, k ≤ m → ∀ s, k ≤ s → s < n → gB k A s s ≤ gD k A * a := by
  have hD := (gj_Z hZ hm hp).1
  have hZk := gj_Zm hZ hm hp
  intro k
  induction k with
  | zero => intro _ s _ h; rw [gB_zero, gD_zero]; have := ha s h; grind
  | succ k ih =>
    intro hk s h1 h2
    have e1 := ih (by omega) s (by omega) h2
    have e2 := (hZk k (by omega)).1 s k h2 (by omega) (by omega)
    have e3 := (hZk k (by omega)).1 k s (by omega) h2 (by omega)
    have e4 := rat_nn e2 e3
    have hd := hD k (by omega)
    have hpk := hp k (by omega)
    refine rat_le_of_mul hd ?_
    have e5 : gD k A * gB (k + 1) A s s = gB k A k k * gB k A s s - gB k A s k * gB k A k s := by rw [gB_else (by omega)]; grind
    have e6 : gB k A k k * gB k A s s ≤ gB k A k k * (gD k A * a) := by
      have := Rat.mul_nonneg (a := gB k A k k) (b := gD k A * a - gB k A s s) (Rat.le_of_lt hpk) (by grind)
      grind
    rw [gD_succ]
    grind
theorem rat_pow_one {a : Rat} (ha : 1 ≤ a) (k : Nat) : 1 ≤ a ^ k := by
  induction k with
  | zero => rw [Rat.pow_zero]; exact Rat.le_refl
  | succ k ih =>
    rw [Rat.pow_succ]
    have := rat_mul_le (a := 1) (c := 1) (by grind) (by grind) ih ha
    grind
theorem gj_D {n m : Nat} {A : Nat → Nat → Rat} (hZ : Zm n A) (hm : m ≤ n) (hp : ∀ k, k < m → 0 < gB k A k k) {a : Rat} (ha1 : 1 ≤ a) (ha : ∀ s, s < n → A s s ≤ a) : ∀ k, k ≤ m → gD k A ≤ a ^ k := by
  intro k
  induction k with
  | zero => intro _; rw [gD_zero, Rat.pow_zero]; exact Rat.le_refl
  | succ k ih =>
    intro hk
    have e1 := gj_diag hZ hm hp ha k (by omega) k (Nat.le_refl k) (by omega)
    have e2 := ih (by omega)
    have e3 := (gj_Z hZ hm hp).1 k (by omega)
    have e4 := rat_mul_le (Rat.le_of_lt e3) (by grind) e2 (Rat.le_refl (a := a))
    rw [gD_succ, Rat.pow_succ]
    grind
theorem gj_ent {n m : Nat} {A : Nat → Nat → Rat} (hZ : Zm n A) (hm : m ≤ n) (hp : ∀ k, k < m → 0 < gB k A k k) {a : Rat} (ha1 : 1 ≤ a) (ha : ∀ s, s < n → A s s ≤ a) : ∀ k, k ≤ m → ∀ s t, s < n → t < n → (-(a ^ (k + 1)) ≤ gB k A s t ∧ gB k A s t ≤ a ^ (k + 1)) ∧ gB k A s s ≤ a ^ (k + 1) := by
  intro k hk s t hs ht
  have hD := (gj_Z hZ hm hp).1
  have hZk := gj_Zm hZ hm hp k hk
  have e1 := gj_D hZ hm hp ha1 ha k hk
  have e2 : gB k A s s ≤ a ^ (k + 1) := by
    rw [Rat.pow_succ]
    have e4 := rat_mul_le (Rat.le_of_lt (hD k hk)) (by grind) e1 (Rat.le_refl (a := a))
    by_cases c : s < k
    · rw [gB_shape (fun i hi h0 => by have := hD i (by omega); rw [h0] at this; exact Rat.lt_irrefl this) s s c, if_pos rfl]
      have := rat_mul_le (a := gD k A) (c := 1) (Rat.le_of_lt (hD k hk)) (by grind) e1 ha1
      grind
    · have e3 := gj_diag hZ hm hp ha k hk s (by omega) hs
      grind
  have e3 := hZk.diag s hs
  have e4 := e3.2 t ht
  refine ⟨⟨by grind, ?_⟩, e2⟩
  by_cases c : s = t
  · rw [← c]; exact e2
  · have := hZk.1 s t hs ht c
    grind
/-- the right side, where a solution between 0 and V is known -/
theorem gj_fwd {n R m : Nat} {A : Nat → Nat → Rat} {x : Nat → Rat} (hx : ∀ s, s < n → rowOk n R A x s) (hm : m ≤ n) (hd : ∀ k, k ≤ m → gD k A ≠ 0) : ∀ k, k ≤ m → ∀ s, s < n → rowOk n R (gB k A) x s := by
  intro k
  induction k with
  | zero => intro _; exact hx
  | succ k ih =>
    intro hk s hs
    have h1 := ih (by omega) s hs
    by_cases c : s = k
    · subst c
      unfold rowOk at *
      simp only [gB_same]
      exact h1
    · have h2 := ih (by omega) k (by omega)
      have h3 := gB_row (n := n) (R := R) (x := x) c (hd k (by omega))
      unfold rowOk at *
      rw [h1, h2] at h3
      have h4 : gD k A * (sr n (fun t => gB (k + 1) A s t * x t) - gB (k + 1) A s R) = 0 := by grind
      rcases Rat.mul_eq_zero.mp h4 with h5 | h5
      · exact absurd h5 (hd k (by omega))
      · grind
theorem gj_R0 {n R m : Nat} {A : Nat → Nat → Rat} (hZ : Zm n A) (hm : m ≤ n) (hp : ∀ k, k < m → 0 < gB k A k k) (hb : ∀ s, s < n → 0 ≤ A s R) : ∀ k, k ≤ m → ∀ s, s < n → 0 ≤ gB k A s R := by
  have hD := (gj_Z hZ hm hp).1
  have hZk := gj_Zm hZ hm hp
  intro k
  induction k with
  | zero => intro _; exact hb
  | succ k ih =>
    intro hk s hs
    by_cases c : s = k
    · subst c; rw [gB_same]; exact ih (by omega) s hs
    · rw [gB_else c]
      refine rat_div_nonneg ?_ (hD k (by omega))
      have e1 := Rat.mul_nonneg (Rat.le_of_lt (hp k (by omega))) (ih (by omega) s hs)
      have e2 := rat_pn (ih (by omega) k (by omega)) ((hZk k (by omega)).1 s k hs (by omega) c)
      grind
theorem gj_RV {n R m : Nat} {A : Nat → Nat → Rat} {x : Nat → Rat} {V : Rat} (hZ : Zm n A) (hm : m ≤ n) (hp : ∀ k, k < m → 0 < gB k A k k) (hx : ∀ s, s < n → rowOk n R A x s) (hx0 : ∀ s, s < n → 0 ≤ x s) (hxV : ∀ s, s < n → x s ≤ V) : ∀ k, k ≤ m → ∀ s, s < n → gB k A s R ≤ gB k A s s * V := by
  have hD := (gj_Z hZ hm hp).1
  intro k hk s hs
  have h1 := gj_fwd hx hm (fun k hk h0 => by have := hD k hk; rw [h0] at this; exact Rat.lt_irrefl this) k hk s hs
  have hZk := gj_Zm hZ hm hp k hk
  unfold rowOk at h1
  rw [← h1]
  have h2 : sr n (fun t => gB k A s t * x t) ≤ sr n (fun t => if t = s then gB k A s s * x s else 0) := by
    refine sr_le (fun t ht => ?_)
    by_cases c : t = s
    · rw [if_pos c, c]; exact Rat.le_refl
    · rw [if_neg c]
      have := rat_pn (hx0 t ht) (hZk.1 s t hs ht (by omega))
      grind
  rw [sr_one (i := s) hs (fun j _ hj => if_neg hj), if_pos rfl] at h2
  have h3 := Rat.mul_nonneg (hZk.diag s hs).1 (b := V - x s) (by have := hxV s hs; grind)
  grind
/-- the right side, by growth alone -/
theorem gj_RG {n R m : Nat} {A : Nat → Nat → Rat} {a r : Rat} (hZ : Zm n A) (hm : m ≤ n) (hp : ∀ k, k < m → 0 < gB k A k k) (ha1 : 1 ≤ a) (ha : ∀ s, s < n → A s s ≤ a) (hb : ∀ s, s < n → 0 ≤ A s R) (hr : ∀ s, s < n → A s R ≤ r) : ∀ k, k ≤ m → ∀ s, s < n → gB k A s R ≤ r * (2 * a) ^ k := by
  have hD := (gj_Z hZ hm hp).1
  have hZk := gj_Zm hZ hm hp
  have hR0 := gj_R0 hZ hm hp hb
  intro k
  induction k with
  | zero => intro _ s hs; rw [Rat.pow_zero]; have := hr s hs; rw [gB_zero]; grind
  | succ k ih =>
    intro hk s hs
    have hg1 : 1 ≤ 2 * a := by grind
    have e0 := ih (by omega) s hs
    have e1 := hR0 k (by omega) s hs
    have hd := hD k (by omega)
    rw [Rat.pow_succ]
    have hQ : 0 ≤ r * (2 * a) ^ k := Rat.le_trans e1 e0
    by_cases c : s = k
    · subst c
      rw [gB_same]
      have := Rat.mul_nonneg (a := r * (2 * a) ^ s) (b := 2 * a - 1) hQ (by grind)
      grind
    · have e2 := ih (by omega) k (by omega)
      have e3 := hR0 k (by omega) k (by omega)
      have e4 := gj_diag hZ hm hp ha k (by omega) k (Nat.le_refl k) (by omega)
      have e5 : -gB k A s k ≤ gD k A * a := by
        have h1 := ((hZk k (by omega)).diag s hs).2 k (by omega)
        by_cases c2 : s < k
        · rw [gB_shape (fun i hi h0 => by have := hD i (by omega); rw [h0] at this; exact Rat.lt_irrefl this) s s c2, if_pos rfl] at h1
          have := Rat.mul_nonneg (a := gD k A) (b := a - 1) (Rat.le_of_lt hd) (by grind)
          grind
        · have := gj_diag hZ hm hp ha k (by omega) s (by omega) hs
          grind
      have e6 := (hZk k (by omega)).1 s k hs (by omega) c
      refine rat_le_of_mul hd ?_
      rw [show gD k A * gB (k + 1) A s R = gB k A k k * gB k A s R - gB k A s k * gB k A k R by rw [gB_else c]; grind]
      have e7 := rat_mul_le (Rat.le_of_lt (hp k (by omega))) e1 e4 e0
      have e8 := rat_mul_le (a := -gB k A s k) (by grind) e3 e5 e2
      grind
