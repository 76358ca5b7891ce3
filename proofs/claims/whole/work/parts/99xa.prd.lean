/-! MEANS: products, and growth where some rows are numbers
-/
theorem prR_mul {a b : Nat → Rat} : ∀ n, prR n (fun i => a i * b i) = prR n a * prR n b := by
  intro n
  induction n with
  | zero => rw [prR, prR, prR, Rat.mul_one]
  | succ n ih => rw [prR, prR, prR, ih]; grind
theorem prR_cg {a b : Nat → Rat} {n : Nat} (h : ∀ i, i < n → a i = b i) : prR n a = prR n b := by
  induction n with
  | zero => rfl
  | succ n ih => rw [prR, prR, ih (fun i hi => h i (by omega)), h n (by omega)]
theorem prR_nn {a : Nat → Rat} (h : ∀ i, 0 ≤ a i) (n : Nat) : 0 ≤ prR n a := by
  induction n with
  | zero => exact (show (0 : Rat) ≤ 1 by decide)
  | succ n ih => exact Rat.mul_nonneg ih (h n)
theorem prR_mono {a b : Nat → Rat} (h0 : ∀ i, 0 ≤ a i) (h : ∀ i, a i ≤ b i) (n : Nat) : prR n a ≤ prR n b := by
  induction n with
  | zero => exact Rat.le_refl
  | succ n ih => exact rat_mul_le (prR_nn h0 n) (h0 n) ih (h n)
theorem prR_1 {a : Nat → Rat} {n : Nat} (h : ∀ i, i < n → a i = 1) : prR n a = 1 := by
  induction n with
  | zero => rfl
  | succ n ih => rw [prR, ih (fun i hi => h i (by omega)), h n (by omega), Rat.mul_one]
theorem prR_cut {a : Nat → Rat} {n N : Nat} (hn : n ≤ N) (h : ∀ i, n ≤ i → i < N → a i = 1) : prR N a = prR n a := by
  obtain ⟨d, rfl⟩ : ∃ d, N = n + d := ⟨N - n, by omega⟩
  induction d with
  | zero => rfl
  | succ d ih => rw [← Nat.add_assoc, prR, ih (by omega) (fun i h1 h2 => h i h1 (by omega)), h (n + d) (by omega) (by omega), Rat.mul_one]
theorem prR_swap {f : Nat → Nat → Rat} {m : Nat} : ∀ n, prR n (fun i => prR m (fun j => f i j)) = prR m (fun j => prR n (fun i => f i j)) := by
  intro n
  induction n with
  | zero => rw [prR]; exact (prR_1 (fun _ _ => rfl)).symm
  | succ n ih =>
    rw [prR, ih, ← prR_mul]
    rfl
/-- no more than one factor that isn't 1 -/
theorem prR_one' {a : Nat → Rat} {v : Rat} (hv : 1 ≤ v) (h : ∀ i, a i = 1 ∨ a i = v) (hu : ∀ i j, a i ≠ 1 → a j ≠ 1 → i = j) : ∀ n, prR n a ≤ v := by
  intro n
  induction n with
  | zero => exact hv
  | succ n ih =>
    rw [prR]
    by_cases c : a n = 1
    · rw [c, Rat.mul_one]; exact ih
    · rw [prR_1 (fun i hi => Classical.byContradiction fun z => by have := hu i n z c; omega), Rat.one_mul]
      rcases h n with e | e
      · exact absurd e c
      · rw [e]; exact Rat.le_refl
theorem prR_sk {n x : Nat} {f : Nat → Rat} (hx : x ≤ n) : prR n (fun l => f (sk x l)) * f x = prR (n + 1) f := by
  induction n with
  | zero =>
    have : x = 0 := by omega
    subst this
    rfl
  | succ n ih =>
    by_cases c : x = n + 1
    · subst c
      rw [prR_cg (b := f) (fun i hi => by rw [sk, if_pos (by omega)])]
      rfl
    · rw [prR, show sk x n = n + 1 by rw [sk, if_neg (by omega)]]
      have := ih (by omega)
      rw [show prR (n + 1 + 1) f = prR (n + 1) f * f (n + 1) from rfl, ← this]
      grind
theorem prR_perm {f : Nat → Rat} : ∀ {n : Nat} {o oi : Nat → Nat}, (∀ i, i < n → o i < n ∧ oi (o i) = i) → (∀ s, s < n → oi s < n ∧ o (oi s) = s) → prR n (fun i => f (o i)) = prR n f := by
  intro n
  induction n with
  | zero => intro _ _ _ _; rfl
  | succ n ih =>
    intro o oi h1 h2
    obtain ⟨hj, ej⟩ := h2 n (by omega)
    rw [← prR_sk (n := n) (x := oi n) (f := fun i => f (o i)) (by omega), ej]
    show prR n (fun l => f (o (sk (oi n) l))) * f n = prR n f * f n
    have hne : ∀ l, l < n → o (sk (oi n) l) < n ∧ sk (oi n) l < n + 1 ∧ sk (oi n) l ≠ oi n := fun l hl => by
      have a1 : sk (oi n) l < n + 1 ∧ sk (oi n) l ≠ oi n := by
        unfold sk
        split
        · omega
        · omega
      have a2 := h1 _ a1.1
      refine ⟨?_, a1⟩
      have : o (sk (oi n) l) ≠ n := fun e => a1.2 (by rw [← a2.2, e])
      omega
    rw [ih (o := fun l => o (sk (oi n) l)) (oi := fun s => if oi s < oi n then oi s else oi s - 1) (fun l hl => ?_) (fun s hs => ?_)]
    · obtain ⟨b1, b2, b3⟩ := hne l hl
      refine ⟨b1, ?_⟩
      have b4 := (h1 _ b2).2
      rw [b4]
      unfold sk at b3 ⊢
      by_cases c : l < oi n
      · rw [if_pos c, if_pos c]
      · rw [if_neg c, if_neg (by omega)]; omega
    · obtain ⟨b1, b2⟩ := h2 s (by omega)
      have b3 : oi s ≠ oi n := fun e => by rw [e, ej] at b2; omega
      by_cases c : oi s < oi n
      · rw [if_pos c]
        refine ⟨by omega, ?_⟩
        rw [show sk (oi n) (oi s) = oi s by rw [sk, if_pos c]]; exact b2
      · rw [if_neg c]
        refine ⟨by omega, ?_⟩
        rw [show sk (oi n) (oi s - 1) = oi s by rw [sk, if_neg (by omega)]; omega]; exact b2
/-! a row that says that a state is a number stays one -/
section NRW
variable {n R m : Nat} {A : Nat → Nat → Rat} {N : Nat → Bool}
theorem gj_N (hm : m ≤ n) (hnR : n ≤ R) (hd : ∀ k, k ≤ m → gD k A ≠ 0) (hN : ∀ s, s < n → N s = true → ∀ t, (t < n ∨ t = R) → A s t = if t = s then 1 else 0) : ∀ k, k ≤ m → ∀ s, s < n → N s = true → ∀ t, (t < n ∨ t = R) → gB k A s t = if t = s then gD k A else 0 := by
  intro k
  induction k with
  | zero => intro _ s hs hNs t ht; rw [gB_zero, gD_zero]; exact hN s hs hNs t ht
  | succ k ih =>
    intro hk s hs hNs t ht
    have e1 := ih (by omega) s hs hNs t ht
    have e2 := ih (by omega) s hs hNs k (Or.inl (by omega))
    have e0 := hd k (by omega)
    by_cases c : s = k
    · subst c
      rw [gB_same, gD_succ, e2, if_pos rfl, e1]
    · rw [gB_else c, e2, if_neg (by omega), e1, gD_succ]
      by_cases c2 : t = s
      · rw [if_pos c2, if_pos c2]; grind
      · rw [if_neg c2, if_neg c2]; grind
theorem gj_RN {a r : Rat} (hZ : Zm n A) (hm : m ≤ n) (hnR : n ≤ R) (hp : ∀ k, k < m → 0 < gB k A k k) (hN : ∀ s, s < n → N s = true → ∀ t, (t < n ∨ t = R) → A s t = if t = s then 1 else 0) (ha1 : 1 ≤ a) (ha : ∀ s, s < n → A s s ≤ a) (hb : ∀ s, s < n → 0 ≤ A s R) (hr : ∀ s, s < n → A s R ≤ r) : ∀ k, k ≤ m → ∀ s, s < n → gB k A s R ≤ r * prR k (fun i => if N i then 1 else 2 * a) := by
  have hD := (gj_Z hZ hm hp).1
  have hZk := gj_Zm hZ hm hp
  have hR0 := gj_R0 hZ hm hp hb
  have hNk := gj_N hm hnR (fun k hk => by have := hD k hk; grind) hN
  intro k
  induction k with
  | zero => intro _ s hs; rw [prR, gB_zero]; have := hr s hs; grind
  | succ k ih =>
    intro hk s hs
    have hg1 : 1 ≤ 2 * a := by grind
    have e0 := ih (by omega) s hs
    have e1 := hR0 k (by omega) s hs
    have hd := hD k (by omega)
    have hQ : 0 ≤ r * prR k (fun i => if N i then 1 else 2 * a) := Rat.le_trans e1 e0
    rw [prR]
    by_cases cN : N k = true
    · rw [if_pos cN]
      by_cases c : s = k
      · subst c
        rw [gB_same]; grind
      · have f1 := hNk k (by omega) k (by omega) cN k (Or.inl (by omega))
        have f2 := hNk k (by omega) k (by omega) cN R (Or.inr rfl)
        rw [if_pos rfl] at f1
        rw [if_neg (by omega)] at f2
        rw [gB_else c, f1, f2]
        have : (gD k A * gB k A s R - gB k A s k * 0) / gD k A = gB k A s R := by grind
        rw [this]
        grind
    · rw [if_neg cN]
      by_cases c : s = k
      · subst c
        rw [gB_same]
        have := Rat.mul_nonneg (a := r * prR s (fun i => if N i then 1 else 2 * a)) (b := 2 * a - 1) hQ (by grind)
        grind
      · have e2 := ih (by omega) k (by omega)
        have e3 := hR0 k (by omega) k (by omega)
        have e4 := gj_diag hZ hm hp ha k (by omega) k (Nat.le_refl k) (by omega)
        have e5 : -gB k A s k ≤ gD k A * a := by
          have h1 := ((hZk k (by omega)).diag s hs).2 k (by omega)
          by_cases c2 : s < k
          · rw [gB_shape (fun i hi h0 => by have := hD i (by omega); rw [h0] at this; exact Rat.lt_irrefl this) s s c2, if_pos rfl] at h1
            have := Rat.mul_nonneg (a := gD k A) (b := a - 1) (Rat.le_of_lt hd) (by grind)
            grind
          · have := gj_diag hZ hm hp ha k (by omega) s (by omega) hs
            grind
        have e6 := (hZk k (by omega)).1 s k hs (by omega) c
        refine rat_le_of_mul hd ?_
        rw [show gD k A * gB (k + 1) A s R = gB k A k k * gB k A s R - gB k A s k * gB k A k R by rw [gB_else c]; grind]
        have e7 := rat_mul_le (Rat.le_of_lt (hp k (by omega))) e1 e4 e0
        have e8 := rat_mul_le (a := -gB k A s k) (by grind) e3 e5 e2
        generalize prR k (fun i => if N i = true then 1 else 2 * a) = P at *
        grind
end NRW
