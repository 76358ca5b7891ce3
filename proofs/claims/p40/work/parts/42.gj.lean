/-! ELIMINATION WITHOUT FRACTIONS: stage k of a matrix, and what it divides by -/
def gs : Nat → (Nat → Nat → Rat) → (Nat → Nat → Rat) × Rat
  | 0, A => (A, 1)
  | k + 1, A => (fun s t => if s = k then (gs k A).1 s t else ((gs k A).1 k k * (gs k A).1 s t - (gs k A).1 s k * (gs k A).1 k t) / (gs k A).2, (gs k A).1 k k)
def gB (k : Nat) (A : Nat → Nat → Rat) : Nat → Nat → Rat := (gs k A).1
def gD (k : Nat) (A : Nat → Nat → Rat) : Rat := (gs k A).2
theorem gB_zero (A : Nat → Nat → Rat) : gB 0 A = A := rfl
theorem gD_zero (A : Nat → Nat → Rat) : gD 0 A = 1 := rfl
theorem gB_succ (k : Nat) (A : Nat → Nat → Rat) (s t : Nat) : gB (k + 1) A s t = if s = k then gB k A s t else (gB k A k k * gB k A s t - gB k A s k * gB k A k t) / gD k A := rfl
theorem gB_same (k : Nat) (A : Nat → Nat → Rat) (t : Nat) : gB (k + 1) A k t = gB k A k t := by rw [gB_succ, if_pos rfl]
theorem gB_else {k : Nat} {A : Nat → Nat → Rat} {s : Nat} (h : s ≠ k) (t : Nat) : gB (k + 1) A s t = (gB k A k k * gB k A s t - gB k A s k * gB k A k t) / gD k A := by rw [gB_succ, if_neg h]
theorem gD_succ (k : Nat) (A : Nat → Nat → Rat) : gD (k + 1) A = gB k A k k := rfl
def ND (k : Nat) (A : Nat → Nat → Rat) : Prop := ∀ i, i ≤ k → gD i A ≠ 0
theorem ND.le {k j : Nat} {A : Nat → Nat → Rat} (h : ND k A) (hj : j ≤ k) : ND j A := fun i hi => h i (by omega)
theorem gB_shape {k : Nat} {A : Nat → Nat → Rat} (h : ND k A) : ∀ s t, t < k → gB k A s t = if s = t then gD k A else 0 := by
  induction k with
  | zero => intro s t ht; omega
  | succ k ih =>
    have ih := ih (h.le (by omega))
    have hd := h k (by omega)
    intro s t ht
    by_cases c : s = k
    · subst c
      rw [gB_same]
      by_cases c2 : t = s
      · subst c2; rw [if_pos rfl, gD_succ]
      · rw [ih s t (by omega), if_neg (by omega), if_neg (by omega)]
    · rw [gB_else c, gD_succ]
      by_cases c2 : t = k
      · subst c2
        rw [if_neg c]; grind
      · rw [ih s t (by omega), ih k t (by omega), if_neg (show ¬ k = t by omega)]
        by_cases c3 : s = t
        · rw [if_pos c3, if_pos c3]; grind
        · rw [if_neg c3, if_neg c3]; grind
theorem sr_if {k : Nat} {x : Rat} {c f : Nat → Rat} : sr (k + 1) (fun i => (if i = k then x else c i) * f i) = sr k (fun i => c i * f i) + x * f k := by
  rw [sr_succ, if_pos rfl, sr_congr (f := fun i => (if i = k then x else c i) * f i) (g := fun i => c i * f i) (fun i hi => by rw [if_neg (by omega)])]
theorem sr_lin {k : Nat} {x y : Rat} {c d f : Nat → Rat} : sr k (fun i => (x * c i - y * d i) * f i) = x * sr k (fun i => c i * f i) - y * sr k (fun i => d i * f i) := by
  rw [← sr_mul, ← sr_mul, ← sr_sub]
  exact sr_congr (fun i _ => by grind)
theorem gB_comb {k : Nat} {A : Nat → Nat → Rat} (h : ND k A) : ∀ s, ∃ c : Nat → Rat, ∀ t, gB k A s t = sr k (fun i => c i * A i t) + (if s < k then 0 else gD k A) * A s t := by
  induction k with
  | zero => intro s; exact ⟨fun _ => 0, fun t => by rw [gB_zero, if_neg (by omega), gD_zero, sr]; grind⟩
  | succ k ih =>
    have ih := ih (h.le (by omega))
    have hd := h k (by omega)
    intro s
    obtain ⟨ck, hk⟩ := ih k
    rw [if_neg (by omega)] at hk
    by_cases c : s = k
    · subst c
      refine ⟨fun i => if i = s then gD s A else ck i, fun t => ?_⟩
      dsimp only
      rw [gB_same, hk t, sr_if, if_pos (by omega)]
      grind
    · obtain ⟨cs, hs⟩ := ih s
      refine ⟨fun i => if i = k then -(gB k A s k / gD k A) * gD k A else (gB k A k k / gD k A) * cs i - (gB k A s k / gD k A) * ck i, fun t => ?_⟩
      dsimp only
      rw [gB_else c, sr_if, sr_lin]
      have h1 := hs t
      have h2 := hk t
      by_cases c2 : s < k
      · rw [if_pos c2] at h1
        rw [if_pos (by omega)]
        rw [h1, h2]; grind
      · rw [if_neg c2] at h1
        rw [if_neg (by omega), gD_succ]
        generalize gB k A k k = p at *
        generalize gB k A s k = b at *
        rw [h1, h2]
        grind
/-- no row of the first k is a mixture of the others there -/
def LK (k : Nat) (A : Nat → Nat → Rat) : Prop := ∀ c : Nat → Rat, (∀ t, t < k → sr k (fun i => c i * A i t) = 0) → ∀ i, i < k → c i = 0
theorem gj_LK {k : Nat} {A : Nat → Nat → Rat} (h : ND k A) : LK k A := by
  induction k with
  | zero => intro c _ i hi; omega
  | succ k ih =>
    have hk := h.le (show k ≤ k + 1 by omega)
    have ih := ih hk
    have hd := h k (by omega)
    have hp := h (k + 1) (by omega)
    rw [gD_succ] at hp
    obtain ⟨g, hg⟩ := gB_comb hk k
    rw [if_neg (by omega)] at hg
    have hs := gB_shape hk k
    intro c hc
    have e1 : ∀ t, sr k (fun i => (1 * c i - (c k / gD k A) * g i) * A i t) = sr (k + 1) (fun i => c i * A i t) - (c k / gD k A) * gB k A k t := by
      intro t
      rw [sr_lin, sr_succ, hg t]
      grind
    have h1 : ∀ i, i < k → 1 * c i - (c k / gD k A) * g i = 0 := by
      refine ih (fun i => 1 * c i - (c k / gD k A) * g i) (fun t ht => ?_)
      rw [e1 t, hc t (by omega), hs t ht, if_neg (by omega)]
      grind
    have h2 : c k = 0 := by
      have h3 := e1 k
      rw [hc k (by omega), sr_zero (fun i hi => by rw [h1 i hi]; grind)] at h3
      have h4 : c k / gD k A * gB k A k k = 0 := by grind
      rcases Rat.mul_eq_zero.mp h4 with h5 | h5
      · have : c k = c k / gD k A * gD k A := by grind
        rw [this, h5]; grind
      · exact absurd h5 hp
    intro i hi
    by_cases c1 : i = k
    · rw [c1]; exact h2
    · have := h1 i (by omega)
      rw [h2] at this
      grind
/-- two mixtures that are alike in the first k columns are alike everywhere -/
theorem gj_uniq {k : Nat} {A : Nat → Nat → Rat} (h : LK k A) {u v w : Nat → Rat} {c d : Nat → Rat} (hu : ∀ t, u t = sr k (fun i => c i * A i t) + w t) (hv : ∀ t, v t = sr k (fun i => d i * A i t) + w t) (he : ∀ t, t < k → u t = v t) : ∀ t, u t = v t := by
  have e1 : ∀ t, sr k (fun i => (1 * c i - 1 * d i) * A i t) = u t - v t := fun t => by rw [sr_lin, hu t, hv t]; grind
  have h1 := h (fun i => 1 * c i - 1 * d i) (fun t ht => by rw [e1 t, he t ht]; grind)
  intro t
  have h2 := e1 t
  rw [sr_zero (fun i hi => by rw [h1 i hi]; grind)] at h2
  grind
/-- the row s at stage k is told by determinants -/
def gM (k s t : Nat) (A : Nat → Nat → Rat) : Nat → Nat → Rat := fun i j => A (if i = k then s else i) (if j = k then t else j)
theorem sk_self {k l : Nat} (h : l < k) : sk k l = l := by rw [sk, if_pos h]
theorem dt_congr2 {k : Nat} : ∀ {M N : Nat → Nat → Rat}, (∀ i j, i < k → j < k → M i j = N i j) → dt k M = dt k N := by
  induction k with
  | zero => intro M N _; rfl
  | succ k ih =>
    intro M N h
    rw [dt, dt]
    refine sr_congr (fun i hi => ?_)
    rw [h i k hi (by omega), ih (fun l j hl hj => h _ _ (by unfold sk; split <;> omega) (by omega))]
theorem dt_last (k s t : Nat) (A : Nat → Nat → Rat) : dt (k + 1) (gM k s t A) = sr k (fun i => (sg (i + k) * dt k (fun l j => gM k s 0 A (sk i l) j)) * A i t) + dt k A * A s t := by
  rw [dt, sr_succ]
  have e1 : sg (k + k) = 1 := by rw [sg, if_pos (by omega)]
  have hc : ∀ i : Nat, dt k (fun l j => gM k s t A (sk i l) j) = dt k (fun l j => gM k s 0 A (sk i l) j) := fun i => dt_congr (fun l j hj => by
    simp only [gM]
    rw [if_neg (show ¬ j = k by omega), if_neg (show ¬ j = k by omega)])
  have hl : dt k (fun l j => gM k s 0 A (sk k l) j) = dt k A := by
    refine dt_congr2 (fun l j hl hj => ?_)
    unfold gM
    rw [sk_self hl, if_neg (by omega), if_neg (by omega)]
  rw [sr_congr (g := fun i => (sg (i + k) * dt k (fun l j => gM k s 0 A (sk i l) j)) * A i t) (fun i hi => by
    rw [hc i, show gM k s t A i k = A i t by unfold gM; rw [if_neg (show ¬ i = k by omega), if_pos rfl]]
    grind), hc k, hl, e1, show gM k s t A k k = A s t by simp [gM]]
  grind
theorem gM_same (k : Nat) (A : Nat → Nat → Rat) : gM k k k A = A := by
  funext i j
  unfold gM
  by_cases c1 : i = k
  · rw [if_pos c1, c1]
    by_cases c2 : j = k
    · rw [if_pos c2, c2]
    · rw [if_neg c2]
  · rw [if_neg c1]
    by_cases c2 : j = k
    · rw [if_pos c2, c2]
    · rw [if_neg c2]
theorem gj_dt {k : Nat} {A : Nat → Nat → Rat} (h : ND k A) : gD k A = dt k A ∧ ∀ s t, k ≤ s → gB k A s t = dt (k + 1) (gM k s t A) := by
  induction k with
  | zero =>
    refine ⟨rfl, fun s t _ => ?_⟩
    rw [dt_last, sr]
    simp only [dt, gB_zero]; grind
  | succ k ih =>
    have hk := h.le (show k ≤ k + 1 by omega)
    obtain ⟨h1, h2⟩ := ih hk
    have hD : gD (k + 1) A = dt (k + 1) A := by rw [gD_succ, h2 k k (Nat.le_refl k), gM_same]
    refine ⟨hD, fun s t hs => ?_⟩
    obtain ⟨c, hc⟩ := gB_comb h s
    rw [if_neg (by omega)] at hc
    refine gj_uniq (gj_LK h) (u := fun t => gB (k + 1) A s t) (v := fun t => dt (k + 2) (gM (k + 1) s t A)) (w := fun t => gD (k + 1) A * A s t) hc (fun t => by rw [dt_last, hD]) (fun t ht => ?_) t
    rw [gB_shape h s t ht, if_neg (by omega)]
    refine (dt_same (j := t) ht (fun i => ?_)).symm
    unfold gM
    rw [if_pos (show k + 1 = k + 1 from rfl), if_neg (show ¬ t = k + 1 by omega)]
/-- columns of which one goes last -/
def cy (s k j : Nat) : Nat := if j < s then j else if j + 1 < k then j + 1 else s
theorem dt_cy {k : Nat} : ∀ (r s : Nat) (M : Nat → Nat → Rat), s + r + 1 = k → dt k (fun i j => M i (cy s k j)) = sg r * dt k M := by
  intro r
  induction r with
  | zero =>
    intro s M h
    rw [dt_congr (N := M) (fun i j hj => by
      unfold cy
      by_cases c : j < s
      · rw [if_pos c]
      · rw [if_neg c, if_neg (by omega), show j = s by omega])]
    rw [show sg 0 = 1 by rw [sg, if_pos rfl]]; grind
  | succ r ih =>
    intro s M h
    have h1 := ih (s + 1) (fun a b => M a (sw s b)) (by omega)
    rw [dt_swap (by omega)] at h1
    rw [sg_succ, ← dt_congr (M := fun i j => M i (sw s (cy (s + 1) k j))) (N := fun i j => M i (cy s k j)) (fun i j hj => by
      congr 1
      unfold sw cy
      repeat' split
      all_goals omega), h1]
    grind
theorem gj_int {k : Nat} {A : Nat → Nat → Rat} (hA : ∀ i j, isI (A i j)) (h : ND k A) : ∀ s t, isI (gB k A s t) := by
  intro s t
  by_cases c : k ≤ s
  · rw [(gj_dt h).2 s t c]
    exact isI_dt (fun i j => hA _ _)
  · obtain ⟨m, rfl⟩ : ∃ m, k = m + 1 := ⟨k - 1, by omega⟩
    obtain ⟨cs, hcs⟩ := gB_comb h s
    rw [if_pos (by omega)] at hcs
    obtain ⟨q, hq⟩ : ∃ q, s + q + 1 = m + 1 := ⟨m - s, by omega⟩
    -- the vector of cofactors
    have hv : ∀ t, dt (m + 1) (fun i j => A i (if j = m then t else sk s j)) = sr (m + 1) (fun i => (sg (i + m) * dt m (fun l j => A (sk i l) (sk s j))) * A i t) := by
      intro t
      rw [dt]
      refine sr_congr (fun i hi => ?_)
      rw [if_pos rfl, dt_congr (N := fun l j => A (sk i l) (sk s j)) (fun l j hj => by rw [if_neg (by omega)])]
      grind
    have hd : dt (m + 1) (fun i j => A i (if j = m then s else sk s j)) = sg q * gD (m + 1) A := by
      rw [(gj_dt h).1, ← dt_cy q s A hq]
      refine dt_congr (fun i j hj => ?_)
      unfold sk cy
      congr 1
      repeat' split
      all_goals omega
    have hsq := sg_sq q
    have key := gj_uniq (gj_LK h) (u := fun t => gB (m + 1) A s t) (v := fun t => sg q * dt (m + 1) (fun i j => A i (if j = m then t else sk s j))) (w := fun _ => 0) (c := cs) (d := fun i => sg q * (sg (i + m) * dt m (fun l j => A (sk i l) (sk s j)))) (fun t => by rw [hcs t]; grind) (fun t => by
      rw [hv t, ← sr_mul]
      rw [sr_congr (g := fun i => sg q * (sg (i + m) * dt m (fun l j => A (sk i l) (sk s j))) * A i t) (fun i _ => by grind)]
      grind) (fun t ht => by
      rw [gB_shape h s t ht]
      by_cases c2 : s = t
      · subst c2
        rw [if_pos rfl, hd]; grind
      · rw [if_neg c2, dt_same (j := if t < s then t else t - 1) (by split <;> omega) (fun i => by
          rw [if_neg (by split <;> omega), if_pos rfl]
          congr 1
          unfold sk
          repeat' split
          all_goals omega)]
        grind)
    rw [key t]
    exact isI_mul (isI_sg _) (isI_dt (fun i j => hA _ _))
