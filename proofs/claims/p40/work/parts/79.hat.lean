/-! THE CLASS'S ELIMINATION: a row whose pivot vanishes gets one more on the diagonal -/
theorem gB_rows {A B : Nat → Nat → Rat} : ∀ k, (∀ i, i < k → ∀ t, A i t = B i t) → gD k A = gD k B ∧ ∀ s, (∀ t, A s t = B s t) → ∀ t, gB k A s t = gB k B s t := by
  intro k
  induction k with
  | zero => intro _; exact ⟨rfl, fun s hs t => hs t⟩
  | succ k ih =>
    intro h
    obtain ⟨h1, h2⟩ := ih (fun i hi => h i (by omega))
    have h3 := h2 k (h k (by omega))
    refine ⟨by rw [gD_succ, gD_succ, h3], fun s hs t => ?_⟩
    have h4 := h2 s hs
    rw [gB_succ, gB_succ, h1, h4, h4, h3, h3]
theorem gB_addrow {A B : Nat → Nat → Rat} {s : Nat} {e : Nat → Rat} : ∀ k, (∀ i, i < k → ∀ t, A i t = B i t) → (∀ i, i < k → gD i A ≠ 0) → k ≤ s → (∀ t, B s t = A s t + e t) → (∀ t, t < k → e t = 0) → ∀ t, gB k B s t = gB k A s t + gD k A * e t := by
  intro k
  induction k with
  | zero => intro _ _ _ h _ t; rw [gB_zero, gB_zero, gD_zero, h t]; grind
  | succ k ih =>
    intro h hd hk hB he t
    have h1 := ih (fun i hi => h i (by omega)) (fun i hi => hd i (by omega)) (by omega) hB (fun t ht => he t (by omega))
    obtain ⟨h2, h3⟩ := gB_rows (A := A) (B := B) k (fun i hi => h i (by omega))
    have h4 := h3 k (h k (by omega))
    have hdk := hd k (by omega)
    rw [gB_else (show s ≠ k by omega), gB_else (show s ≠ k by omega), h1 t, h1 k, he k (by omega), ← h4, ← h4, ← h2, gD_succ]
    grind
/-- rows below p are final -/
def hatS (A : Nat → Nat → Rat) : Nat → Nat → Nat → Rat
  | 0 => A
  | p + 1 => fun i j => hatS A p i j + if i = p ∧ j = p ∧ gB p (hatS A p) p p = 0 then 1 else 0
def hdl (A : Nat → Nat → Rat) (i : Nat) : Rat := if gB i (hatS A i) i i = 0 then 1 else 0
def hat (A : Nat → Nat → Rat) (i j : Nat) : Rat := A i j + if j = i then hdl A i else 0
section HT
variable {A : Nat → Nat → Rat}
theorem hdl_01 (i : Nat) : hdl A i = 0 ∨ hdl A i = 1 := by
  unfold hdl
  split
  · exact Or.inr rfl
  · exact Or.inl rfl
theorem hdl_nn (i : Nat) : 0 ≤ hdl A i := by rcases hdl_01 (A := A) i with h | h <;> rw [h] <;> decide
theorem hatS_eq : ∀ p i j, hatS A p i j = if i < p then hat A i j else A i j := by
  intro p
  induction p with
  | zero => intro i j; rw [if_neg (by omega)]; rfl
  | succ p ih =>
    intro i j
    show hatS A p i j + (if i = p ∧ j = p ∧ gB p (hatS A p) p p = 0 then 1 else 0) = _
    rw [ih]
    by_cases c : i = p
    · subst c
      rw [if_neg (Nat.lt_irrefl i), if_pos (Nat.lt_succ_self i)]
      unfold hat hdl
      by_cases c2 : j = i
      · subst c2
        by_cases c3 : gB j (hatS A j) j j = 0
        · rw [if_pos (c := j = j ∧ j = j ∧ gB j (hatS A j) j j = 0) ⟨rfl, rfl, c3⟩, if_pos (c := j = j) rfl, if_pos c3]
        · rw [if_neg (c := j = j ∧ j = j ∧ gB j (hatS A j) j j = 0) (fun z => c3 z.2.2), if_pos (c := j = j) rfl, if_neg c3]
      · rw [if_neg (c := i = i ∧ j = i ∧ gB i (hatS A i) i i = 0) (fun z => c2 z.2.1), if_neg c2]
    · rw [if_neg (c := i = p ∧ j = p ∧ gB p (hatS A p) p p = 0) (fun z => c z.1)]
      by_cases c2 : i < p
      · rw [if_pos c2, if_pos (show i < p + 1 by omega)]; grind
      · rw [if_neg c2, if_neg (show ¬ i < p + 1 by omega)]; grind
theorem hatS_lt {p i : Nat} (h : i < p) (j : Nat) : hatS A p i j = hat A i j := by rw [hatS_eq, if_pos h]
theorem hatS_ge {p i : Nat} (h : p ≤ i) (j : Nat) : hatS A p i j = A i j := by rw [hatS_eq, if_neg (by omega)]
theorem hat_off {i j : Nat} (h : j ≠ i) : hat A i j = A i j := by unfold hat; rw [if_neg h]; grind
theorem hatS_off {p i j : Nat} (h : j ≠ i) : hatS A p i j = A i j := by
  rw [hatS_eq]
  split
  · exact hat_off h
  · rfl
theorem hatS_rows {p k : Nat} (hk : k ≤ p) : gD k (hatS A p) = gD k (hat A) ∧ ∀ s, s < p → ∀ t, gB k (hatS A p) s t = gB k (hat A) s t := by
  obtain ⟨h1, h2⟩ := gB_rows (A := hatS A p) (B := hat A) k (fun i hi t => hatS_lt (by omega) t)
  exact ⟨h1, fun s hs => h2 s (fun t => hatS_lt hs t)⟩
theorem Zm_diag {n : Nat} {d : Nat → Rat} (hZ : Zm n A) (hd : ∀ i, 0 ≤ d i) : Zm n (fun i j => A i j + if j = i then d i else 0) := by
  refine ⟨fun s t hs ht hne => ?_, fun s hs => ?_⟩
  · have := hZ.1 s t hs ht hne
    show A s t + (if t = s then d s else 0) ≤ 0
    rw [if_neg (by omega)]; grind
  · have h1 := hZ.2 s hs
    rw [sr_add, sr_one (i := s) (f := fun j => if j = s then d s else 0) hs (fun j _ hj => if_neg hj), if_pos rfl]
    have := hd s
    exact Rat.add_nonneg h1 this
theorem hatS_Zm {n : Nat} (hZ : Zm n A) (p : Nat) : Zm n (hatS A p) := by
  have h := Zm_diag (d := fun i => if i < p then hdl A i else 0) hZ (fun i => by
    split
    · exact hdl_nn i
    · exact Rat.le_refl)
  have e : hatS A p = fun i j => A i j + if j = i then (if i < p then hdl A i else 0) else 0 := by
    funext i j
    rw [hatS_eq]
    unfold hat
    by_cases c : i < p
    · rw [if_pos c, if_pos c]
    · rw [if_neg c, if_neg c]
      split <;> grind
  rw [e]; exact h
theorem hat_Zm {n : Nat} (hZ : Zm n A) : Zm n (hat A) := Zm_diag hZ (fun i => hdl_nn i)
theorem hat_pk {p : Nat} (hd : ∀ i, i < p → gD i (hat A) ≠ 0) (t : Nat) : gB p (hat A) p t = gB p (hatS A p) p t + gD p (hat A) * (if t = p then hdl A p else 0) := by
  have h0 := (hatS_rows (A := A) (p := p) (k := p) (Nat.le_refl p)).1
  have h := gB_addrow (A := hatS A p) (B := hat A) (s := p) (e := fun t => if t = p then hdl A p else 0) p (fun i hi t => hatS_lt hi t) (fun i hi => by rw [(hatS_rows (A := A) (p := p) (k := i) (by omega)).1]; exact hd i hi) (Nat.le_refl p) (fun t => by rw [hatS_ge (Nat.le_refl p)]; rfl) (fun t ht => if_neg (by omega)) t
  rw [h, h0]
theorem hat_piv {n : Nat} (hZ : Zm n A) : ∀ k, k < n → 0 < gB k (hat A) k k := by
  intro k
  induction k using Nat.strongRecOn with
  | _ k ih =>
    intro hk
    have hp : ∀ j, j < k → 0 < gB j (hatS A k) j j := fun j hj => by
      rw [(hatS_rows (A := A) (p := k) (k := j) (by omega)).2 j hj]
      exact ih j hj (by omega)
    obtain ⟨z1, z2⟩ := gj_Z (hatS_Zm hZ k) (Nat.le_of_lt hk) hp
    have hdk := z1 k (Nat.le_refl k)
    have h0 := ((gj_Zm (hatS_Zm hZ k) (Nat.le_of_lt hk) hp k (Nat.le_refl k)).diag k hk).1
    have e := hat_pk (A := A) (p := k) (fun i hi => by
      have := z1 i (by omega)
      rw [(hatS_rows (A := A) (p := k) (k := i) (by omega)).1] at this
      grind) k
    rw [if_pos rfl] at e
    rw [(hatS_rows (A := A) (p := k) (k := k) (Nat.le_refl k)).1] at hdk
    rw [e]
    unfold hdl
    by_cases c : gB k (hatS A k) k k = 0
    · rw [if_pos c, c]; grind
    · rw [if_neg c]; grind
/-- where the diagonal has one more, the solution is 0 -/
theorem hat_x0 {n R : Nat} {x : Nat → Rat} (hZ : Zm n A) (hR : n ≤ R) (h0 : ∀ s, s < n → sr n (A s) = 0 → A s R = 0) (hx : ∀ s, s < n → rowOk n R (hat A) x s) : ∀ p, p < n → hdl A p ≠ 0 → x p = 0 := by
  intro p hp hne
  have hz : gB p (hatS A p) p p = 0 := Classical.byContradiction fun c => hne (by unfold hdl; rw [if_neg c])
  have hpv : ∀ j, j < p → 0 < gB j (hatS A p) j j := fun j hj => by
    rw [(hatS_rows (A := A) (p := p) (k := j) (by omega)).2 j hj]
    exact hat_piv hZ j (by omega)
  obtain ⟨S, s1, s2, s3, s4, c, c1, c2, c3⟩ := gj_zero (hatS_Zm hZ p) hp hpv hz
  have hd := (gj_Z (hatS_Zm hZ p) (Nat.le_of_lt hp) hpv).1 p (Nat.le_refl p)
  have hb : ∀ s, S s → A s R = 0 := fun s hs => by
    have hsn : s < n := by have := s2 s hs; omega
    refine h0 s hsn ?_
    have h1 := s3 s hs
    have h2 := hZ.2 s hsn
    rw [sr_congr (g := fun j => A s j + if j = s then (if s < p then hdl A s else 0) else 0) (fun j _ => by
      rw [hatS_eq]
      unfold hat
      by_cases cc : s < p
      · rw [if_pos cc, if_pos cc]
      · rw [if_neg cc, if_neg cc]; split <;> grind), sr_add, sr_one (i := s) (f := fun j => if j = s then (if s < p then hdl A s else 0) else 0) hsn (fun j _ hj => if_neg hj), if_pos rfl] at h1
    have h3 : 0 ≤ (if s < p then hdl A s else 0) := by
      split
      · exact hdl_nn s
      · exact Rat.le_refl
    grind
  have e1 : sr p (fun i => c i * sr n (fun t => hat A i t * x t)) + gD p (hatS A p) * sr n (fun t => hat A p t * x t) = 0 := by
    have hp1 := hx p hp
    unfold rowOk at hp1
    rw [hp1, hat_off (by omega), hb p s1, sr_zero (fun i hi => by
      by_cases cs : S i
      · have hi1 := hx i (by omega)
        unfold rowOk at hi1
        rw [hi1, hat_off (by omega), hb i cs]; grind
      · rw [c1 i hi cs]; grind)]
    grind
  have e2 : sr p (fun i => c i * sr n (fun t => hat A i t * x t)) = sr n (fun t => sr p (fun i => c i * hat A i t) * x t) := by
    rw [sr_congr (g := fun i => sr n (fun t => c i * (hat A i t * x t))) (fun i _ => by rw [sr_mul]), sr_swap]
    refine sr_congr (fun t _ => ?_)
    rw [show sr p (fun i => c i * hat A i t) * x t = x t * sr p (fun i => c i * hat A i t) by grind, ← sr_mul]
    exact sr_congr (fun i _ => by grind)
  have h01 : hdl A p = 1 := by
    rcases hdl_01 (A := A) p with z | z
    · exact absurd z hne
    · exact z
  have e3 : sr n (fun t => sr p (fun i => c i * hat A i t) * x t) + gD p (hatS A p) * sr n (fun t => hat A p t * x t) = sr n (fun t => if t = p then gD p (hatS A p) * x t else 0) := by
    rw [← sr_mul, ← sr_add]
    refine sr_congr (fun t ht => ?_)
    have h5 := c2 t ht
    rw [sr_congr (g := fun i => c i * hat A i t) (fun i hi => by rw [hatS_lt hi]), hatS_ge (Nat.le_refl p)] at h5
    have h6 : hat A p t = A p t + if t = p then hdl A p else 0 := rfl
    rw [h6]
    by_cases ct : t = p
    · rw [if_pos ct, if_pos ct, h01]; grind
    · rw [if_neg ct, if_neg ct]; grind
  rw [e2, e3, sr_one (i := p) hp (fun j _ hj => if_neg hj), if_pos rfl] at e1
  rcases Rat.mul_eq_zero.mp e1 with z | z
  · grind
  · exact z
theorem hat_xA {n R : Nat} {x : Nat → Rat} (hR : n ≤ R) (hz : ∀ p, p < n → hdl A p ≠ 0 → x p = 0) (hx : ∀ s, s < n → rowOk n R (hat A) x s) : (∀ s, s < n → rowOk n R A x s) ∧ ∀ p s, s < n → rowOk n R (hatS A p) x s := by
  have key : ∀ s, s < n → hdl A s * x s = 0 := fun s hs => by
    by_cases c : hdl A s = 0
    · rw [c]; grind
    · rw [hz s hs c]; grind
  have h1 : ∀ s, s < n → rowOk n R A x s := fun s hs => by
    have h2 := hx s hs
    unfold rowOk at h2 ⊢
    rw [hat_off (by omega), sr_congr (g := fun t => A s t * x t + if t = s then hdl A s * x s else 0) (fun t _ => by
      unfold hat
      by_cases c : t = s
      · rw [if_pos c, if_pos c, c]; grind
      · rw [if_neg c, if_neg c]; grind), sr_add, sr_one (i := s) (f := fun t => if t = s then hdl A s * x s else 0) hs (fun j _ hj => if_neg hj), if_pos rfl, key s hs] at h2
    grind
  refine ⟨h1, fun p s hs => ?_⟩
  by_cases c : s < p
  · have h2 := hx s hs
    unfold rowOk at h2 ⊢
    rw [hatS_lt c, sr_congr (g := fun t => hat A s t * x t) (fun t _ => by rw [hatS_lt c])]
    exact h2
  · have h2 := h1 s hs
    unfold rowOk at h2 ⊢
    rw [hatS_ge (by omega), sr_congr (g := fun t => A s t * x t) (fun t _ => by rw [hatS_ge (by omega)])]
    exact h2
theorem c_maxS {n : Nat} {S : Nat → Prop} (D : Nat → Rat) (hS : ∃ s, s < n ∧ S s) : ∃ s, s < n ∧ S s ∧ ∀ t, t < n → S t → D t ≤ D s := by
  induction n with
  | zero => obtain ⟨s, hs, _⟩ := hS; omega
  | succ n ih =>
    by_cases c : ∃ s, s < n ∧ S s
    · obtain ⟨s, h1, h2, h3⟩ := ih c
      by_cases c2 : S n ∧ D s < D n
      · refine ⟨n, by omega, c2.1, fun t ht hSt => ?_⟩
        by_cases e : t = n
        · rw [e]; exact Rat.le_refl
        · have := h3 t (by omega) hSt
          have := c2.2
          grind
      · refine ⟨s, by omega, h2, fun t ht hSt => ?_⟩
        by_cases e : t = n
        · subst e
          exact Rat.not_lt.mp (fun z => c2 ⟨hSt, z⟩)
        · exact h3 t (by omega) hSt
    · obtain ⟨s, h1, h2⟩ := hS
      have e : s = n := Classical.byContradiction fun z => c ⟨s, by omega, h2⟩
      refine ⟨n, by omega, by rw [← e]; exact h2, fun t ht hSt => ?_⟩
      have e2 : t = n := Classical.byContradiction fun z => c ⟨t, by omega, hSt⟩
      rw [e2]; exact Rat.le_refl
/-- a set that is never left and gets nothing has a row with one more -/
theorem hat_noS {n R : Nat} {S : Nat → Prop} (hZ : Zm n A) (hR : n ≤ R) (hR1 : ∀ s, s < n → A s R = 1) (hS : ∃ s, s < n ∧ S s) (hsum : ∀ s, s < n → S s → sr n (A s) = 0) (hcl : ∀ s t, s < n → S s → t < n → ¬ S t → A s t = 0) (hdl0 : ∀ s, s < n → S s → hdl A s = 0) : False := by
  have hy := gj_sol (R := R) (sys_ND (hat_piv hZ))
  generalize (fun t => gB n (hat A) t R / gD n (hat A)) = y at hy
  obtain ⟨s, h1, h2, h3⟩ := c_maxS (fun t => -y t) hS
  have h4 := hy s h1
  unfold rowOk at h4
  rw [hat_off (by omega), hR1 s h1, sr_congr (g := fun t => A s t * y t) (fun t _ => by
    unfold hat
    rw [hdl0 s h1 h2]
    split <;> grind)] at h4
  have h5 : sr n (fun t => A s t * y t) - y s * sr n (A s) ≤ 0 := by
    rw [← sr_mul, ← sr_sub]
    have h6 : sr n (fun i => A s i * y i - y s * A s i) ≤ sr n (fun _ => 0) := sr_le (fun t ht => by
      by_cases c : t = s
      · rw [c]; grind
      · by_cases c2 : S t
        · have e1 := h3 t ht c2
          have e2 := rat_pn (x := y t - y s) (y := A s t) (by grind) (hZ.1 s t h1 ht (by omega))
          grind
        · rw [hcl s t h1 h2 ht c2]; grind)
    rw [sr_zero (f := fun _ => 0) (fun _ _ => rfl)] at h6
    exact h6
  rw [h4, hsum s h1 h2] at h5
  grind
end HT
