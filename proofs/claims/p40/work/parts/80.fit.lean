/-! THE CLASS'S ELIMINATION: bounds by the diagonal's product -/
def prR : Nat → (Nat → Rat) → Rat
  | 0, _ => 1
  | k + 1, a => prR k a * a k
section PR
variable {a : Nat → Rat}
theorem prR_one (h : ∀ s, 1 ≤ a s) (k : Nat) : 1 ≤ prR k a := by
  induction k with
  | zero => exact Rat.le_refl
  | succ k ih =>
    have := rat_mul_le (a := 1) (c := 1) (by decide) (by decide) ih (h k)
    rw [prR]; grind
theorem prR_le (h : ∀ s, 1 ≤ a s) {i j : Nat} (hij : i ≤ j) : prR i a ≤ prR j a := by
  obtain ⟨d, rfl⟩ : ∃ d, j = i + d := ⟨j - i, by omega⟩
  induction d with
  | zero => exact Rat.le_refl
  | succ d ih =>
    have h1 := ih (by omega)
    have h2 := prR_one h (i + d)
    have h3 := rat_mul_le (a := prR (i + d) a) (c := 1) (by grind) (by decide) (Rat.le_refl) (h (i + d))
    rw [← Nat.add_assoc, prR]; grind
theorem prR_with (h : ∀ s, 1 ≤ a s) {j p n : Nat} (hj : j ≤ p) (hp : p < n) : prR j a * a p ≤ prR n a := by
  have h1 := prR_le h hj
  have h2 := prR_one h j
  have h3 := h p
  have h4 := rat_mul_le (a := prR j a) (c := a p) (by grind) (by grind) h1 Rat.le_refl
  have h5 := prR_le h (show p + 1 ≤ n by omega)
  rw [prR] at h5
  exact Rat.le_trans h4 h5
theorem prR_const {c : Rat} (k : Nat) : prR k (fun _ => c) = c ^ k := by
  induction k with
  | zero => rw [prR, Rat.pow_zero]
  | succ k ih => rw [prR, ih, Rat.pow_succ]
end PR
section FI
variable {n m : Nat} {B : Nat → Nat → Rat} {a : Nat → Rat} {V : Rat} {x : Nat → Rat}
theorem fit_diag (hZ : Zm n B) (hm : m ≤ n) (hp : ∀ k, k < m → 0 < gB k B k k) (ha : ∀ s, s < n → B s s ≤ a s) : ∀ k, k ≤ m → ∀ s, k ≤ s → s < n → gB k B s s ≤ gD k B * a s := by
  have hD := (gj_Z hZ hm hp).1
  have hZk := gj_Zm hZ hm hp
  intro k
  induction k with
  | zero => intro _ s _ h; rw [gB_zero, gD_zero]; have := ha s h; grind
  | succ k ih =>
    intro hk s h1 h2
    have e1 := ih (by omega) s (by omega) h2
    have e2 := (hZk k (by omega)).1 s k h2 (by omega) (by omega)
    have e3 := (hZk k (by omega)).1 k s (by omega) h2 (by omega)
    have e4 := rat_nn e2 e3
    have hd := hD k (by omega)
    have hpk := hp k (by omega)
    refine rat_le_of_mul hd ?_
    have e5 : gD k B * gB (k + 1) B s s = gB k B k k * gB k B s s - gB k B s k * gB k B k s := by rw [gB_else (by omega)]; grind
    have e6 : gB k B k k * gB k B s s ≤ gB k B k k * (gD k B * a s) := by
      have := Rat.mul_nonneg (a := gB k B k k) (b := gD k B * a s - gB k B s s) (Rat.le_of_lt hpk) (by grind)
      grind
    rw [gD_succ]
    grind
theorem fit_D (hZ : Zm n B) (hm : m ≤ n) (hp : ∀ k, k < m → 0 < gB k B k k) (ha1 : ∀ s, 1 ≤ a s) (ha : ∀ s, s < n → B s s ≤ a s) : ∀ k, k ≤ m → gD k B ≤ prR k a := by
  intro k
  induction k with
  | zero => intro _; rw [gD_zero]; exact Rat.le_refl
  | succ k ih =>
    intro hk
    have e1 := fit_diag hZ hm hp ha k (by omega) k (Nat.le_refl k) (by omega)
    have e2 := ih (by omega)
    have e3 := (gj_Z hZ hm hp).1 k (by omega)
    have e4 := rat_mul_le (Rat.le_of_lt e3) (by have := ha1 k; grind) e2 (Rat.le_refl (a := a k))
    rw [gD_succ, prR]
    grind
theorem fit_ND (hZ : Zm n B) (hm : m ≤ n) (hp : ∀ k, k < m → 0 < gB k B k k) : ND m B := fun i hi h0 => by
  have := (gj_Z hZ hm hp).1 i hi
  rw [h0] at this
  exact Rat.lt_irrefl this
theorem fit_iB (hI : ∀ i j, isI (B i j)) (hZ : Zm n B) (hm : m ≤ n) (hp : ∀ k, k < m → 0 < gB k B k k) {k : Nat} (hk : k ≤ m) (s t : Nat) : (((gB k B s t).num : Int) : Rat) = gB k B s t := isI_num (gj_int hI ((fit_ND hZ hm hp).le hk) s t)
theorem fit_iD (hI : ∀ i j, isI (B i j)) (hZ : Zm n B) (hm : m ≤ n) (hp : ∀ k, k < m → 0 < gB k B k k) {k : Nat} (hk : k ≤ m) : (((gD k B).num : Int) : Rat) = gD k B := by
  cases k with
  | zero => exact isI_num ⟨1, by rw [gD_zero]; rfl⟩
  | succ k => rw [gD_succ]; exact fit_iB hI hZ hm hp (by omega) k k
/-- an entry, and the right side, at a stage not beyond the row -/
theorem fit_ent (hZ : Zm n B) (hm : m ≤ n) (hp : ∀ k, k < m → 0 < gB k B k k) (ha1 : ∀ s, 1 ≤ a s) (ha : ∀ s, s < n → B s s ≤ a s) (hb : ∀ s, s < n → 0 ≤ B s 7) (hx : ∀ s, s < n → rowOk n 7 B x s) (hx0 : ∀ s, s < n → 0 ≤ x s) (hxV : ∀ s, s < n → x s ≤ V) (hV : 1 ≤ V) {k s t : Nat} (hk : k ≤ m) (hs : k ≤ s) (hsn : s < n) (ht : t < n ∨ t = 7) : -(prR k a * a s * V) ≤ gB k B s t ∧ gB k B s t ≤ prR k a * a s * V := by
  have e1 := fit_diag hZ hm hp ha k hk s hs hsn
  have e2 := fit_D hZ hm hp ha1 ha k hk
  have e3 := (gj_Z hZ hm hp).1 k hk
  have e4 := rat_mul_le (Rat.le_of_lt e3) (by have := ha1 s; grind) e2 (Rat.le_refl (a := a s))
  have hZk := gj_Zm hZ hm hp k hk
  obtain ⟨d1, d2⟩ := hZk.diag s hsn
  have e5 : gB k B s s ≤ prR k a * a s := Rat.le_trans e1 e4
  have e6 : prR k a * a s ≤ prR k a * a s * V := by
    have := Rat.mul_nonneg (a := prR k a * a s) (b := V - 1) (Rat.le_trans d1 e5) (by grind)
    grind
  rcases ht with ht | rfl
  · have h1 := d2 t ht
    refine ⟨by grind, ?_⟩
    by_cases c : t = s
    · rw [c]; grind
    · have := hZk.1 s t hsn ht (by omega)
      grind
  · have h1 := gj_R0 (R := 7) hZ hm hp hb k hk s hsn
    have h2 := gj_RV (R := 7) hZ hm hp hx hx0 hxV k hk s hsn
    have h3 := rat_mul_le (a := gB k B s s) (c := V) d1 (by grind) e5 Rat.le_refl
    exact ⟨by grind, by grind⟩
/-- the numbers that a long must hold -/
def BD (n : Nat) (a : Nat → Rat) (V : Rat) : Prop := (∀ i, i + 1 < n → prR (i + 1) a * prR n a * V ≤ 9000000000000000000) ∧ prR n a * V ≤ 9000000000000000000
theorem fit_step (hI : ∀ i j, isI (B i j)) (hZ : Zm n B) (hm : m ≤ n) (hp : ∀ k, k < m → 0 < gB k B k k) (ha1 : ∀ s, 1 ≤ a s) (ha : ∀ s, s < n → B s s ≤ a s) (hb : ∀ s, s < n → 0 ≤ B s 7) (hx : ∀ s, s < n → rowOk n 7 B x s) (hx0 : ∀ s, s < n → 0 ≤ x s) (hxV : ∀ s, s < n → x s ≤ V) (hV : 1 ≤ V) (hBD : BD n a V) {k s t : Nat} (hk : k < m) (hs : k < s) (hsn : s < n) (ht : t < n ∨ t = 7) : zfit ((gD k B).num * (gB (k + 1) B s t).num) := by
  have e1 := fit_ent hZ hm hp ha1 ha hb hx hx0 hxV hV (k := k + 1) (by omega) (by omega) hsn ht
  have e2 := fit_D hZ hm hp ha1 ha k (by omega)
  have e3 := (gj_Z hZ hm hp).1 k (by omega)
  have e4 := prR_with ha1 (show k + 1 ≤ s by omega) hsn
  have e5 := prR_le ha1 (show k ≤ k + 1 by omega)
  have e6 := hBD.1 k (by omega)
  have o1 := prR_one ha1 (k + 1)
  have o2 := prR_one ha1 n
  have o3 := ha1 s
  have f1 : prR (k + 1) a * a s * V ≤ prR n a * V := by
    have := Rat.mul_nonneg (a := prR n a - prR (k + 1) a * a s) (b := V) (by grind) (by grind)
    grind
  have f2 : gD k B * (prR n a * V) ≤ prR (k + 1) a * (prR n a * V) := by
    have := Rat.mul_nonneg (a := prR (k + 1) a - gD k B) (b := prR n a * V) (by grind) (Rat.mul_nonneg (by grind) (by grind))
    grind
  refine zfit_of (x := gD k B * gB (k + 1) B s t) (by rw [Rat.intCast_mul, fit_iD hI hZ hm hp (by omega), fit_iB hI hZ hm hp (by omega)]) ?_ ?_
  · have := Rat.mul_nonneg (a := gD k B) (b := prR n a * V + gB (k + 1) B s t) (Rat.le_of_lt e3) (by grind)
    grind
  · have := Rat.mul_nonneg (a := gD k B) (b := prR n a * V - gB (k + 1) B s t) (Rat.le_of_lt e3) (by grind)
    grind
theorem fit_zD (hI : ∀ i j, isI (B i j)) (hZ : Zm n B) (hm : m ≤ n) (hp : ∀ k, k < m → 0 < gB k B k k) (ha1 : ∀ s, 1 ≤ a s) (ha : ∀ s, s < n → B s s ≤ a s) (hV : 1 ≤ V) (hBD : BD n a V) {k : Nat} (hk : k ≤ m) : zfit (gD k B).num := by
  have e2 := fit_D hZ hm hp ha1 ha k hk
  have e3 := (gj_Z hZ hm hp).1 k hk
  have e5 := prR_le ha1 (show k ≤ n by omega)
  have e6 := hBD.2
  have o2 := prR_one ha1 n
  have f1 := Rat.mul_nonneg (a := prR n a) (b := V - 1) (by grind) (by grind)
  exact zfit_of (fit_iD hI hZ hm hp hk) (by grind) (by grind)
end FI
