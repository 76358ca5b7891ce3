/-! FINITE SUMS OF RATIONALS, DETERMINANTS BY THE LAST COLUMN -/
def sr : Nat → (Nat → Rat) → Rat
  | 0, _ => 0
  | n + 1, f => sr n f + f n
theorem sr_succ (n : Nat) (f : Nat → Rat) : sr (n + 1) f = sr n f + f n := rfl
theorem sr_congr {n : Nat} {f g : Nat → Rat} (h : ∀ i, i < n → f i = g i) : sr n f = sr n g := by
  induction n with
  | zero => rfl
  | succ n ih => rw [sr, sr, ih (fun i hi => h i (by omega)), h n (by omega)]
theorem sr_add {n : Nat} {f g : Nat → Rat} : sr n (fun i => f i + g i) = sr n f + sr n g := by
  induction n with
  | zero => simp only [sr]; grind
  | succ n ih => rw [sr, sr, sr, ih]; grind
theorem sr_mul {n : Nat} {f : Nat → Rat} (c : Rat) : sr n (fun i => c * f i) = c * sr n f := by
  induction n with
  | zero => simp [sr]
  | succ n ih => rw [sr, sr, ih]; grind
theorem sr_neg {n : Nat} {f : Nat → Rat} : sr n (fun i => -f i) = -sr n f := by
  induction n with
  | zero => simp [sr]
  | succ n ih => rw [sr, sr, ih]; grind
theorem sr_sub {n : Nat} {f g : Nat → Rat} : sr n (fun i => f i - g i) = sr n f - sr n g := by
  induction n with
  | zero => simp only [sr]; grind
  | succ n ih => rw [sr, sr, sr, ih]; grind
theorem sr_zero {n : Nat} {f : Nat → Rat} (h : ∀ i, i < n → f i = 0) : sr n f = 0 := by
  induction n with
  | zero => rfl
  | succ n ih => rw [sr, ih (fun i hi => h i (by omega)), h n (by omega)]; grind
theorem sr_swap {n m : Nat} {f : Nat → Nat → Rat} : sr n (fun i => sr m (fun j => f i j)) = sr m (fun j => sr n (fun i => f i j)) := by
  induction n with
  | zero => rw [sr, sr_zero]; intro i _; rfl
  | succ n ih =>
    rw [sr, ih, ← sr_add]
    rfl
theorem sr_one {n i : Nat} {f : Nat → Rat} (hi : i < n) (h : ∀ j, j < n → j ≠ i → f j = 0) : sr n f = f i := by
  induction n with
  | zero => omega
  | succ n ih =>
    rw [sr]
    by_cases c : i = n
    · subst c
      rw [sr_zero (fun j hj => h j (by omega) (by omega))]; grind
    · rw [ih (by omega) (fun j hj hne => h j (by omega) hne), h n (by omega) (by omega)]; grind
theorem sr_le {n : Nat} {f g : Nat → Rat} (h : ∀ i, i < n → f i ≤ g i) : sr n f ≤ sr n g := by
  induction n with
  | zero => exact Rat.le_refl
  | succ n ih =>
    have h1 := ih (fun i hi => h i (by omega))
    have h2 := h n (by omega)
    rw [sr, sr]; grind
theorem sr_nonneg {n : Nat} {f : Nat → Rat} (h : ∀ i, i < n → 0 ≤ f i) : 0 ≤ sr n f := by
  have := sr_le (n := n) (f := fun _ => 0) (g := f) h
  rwa [sr_zero (fun _ _ => rfl)] at this
theorem sr_zero_all {n : Nat} {f : Nat → Rat} (h : ∀ i, i < n → 0 ≤ f i) (hs : sr n f = 0) : ∀ i, i < n → f i = 0 := by
  induction n with
  | zero => intro i hi; omega
  | succ n ih =>
    rw [sr] at hs
    have h1 := sr_nonneg (n := n) (f := f) (fun i hi => h i (by omega))
    have h2 := h n (by omega)
    intro i hi
    by_cases c : i = n
    · subst c; grind
    · exact ih (fun i hi => h i (by omega)) (by grind) i (by omega)
def sk (x l : Nat) : Nat := if l < x then l else l + 1
theorem sr_sk {n x : Nat} {f : Nat → Rat} (hx : x ≤ n) : sr n (fun l => f (sk x l)) = sr (n + 1) f - f x := by
  induction n with
  | zero =>
    have : x = 0 := by omega
    subst this
    simp [sr]; grind
  | succ n ih =>
    rw [sr]
    by_cases c : x = n + 1
    · subst c
      rw [sr_congr (g := f) (fun i hi => by rw [sk, if_pos (by omega)]), show sk (n + 1) n = n by rw [sk, if_pos (by omega)], sr_succ (n + 1) f, sr_succ n f]
      grind
    · rw [ih (by omega), show sk x n = n + 1 by rw [sk, if_neg (by omega)], sr_succ (n + 1) f]
      grind
def sg (n : Nat) : Rat := if n % 2 = 0 then 1 else -1
theorem sg_succ (n : Nat) : sg (n + 1) = -sg n := by
  unfold sg
  by_cases c : n % 2 = 0
  · rw [if_neg (by omega), if_pos c]
  · rw [if_pos (by omega), if_neg c]; grind
theorem sg_sq (n : Nat) : sg n * sg n = 1 := by
  unfold sg
  by_cases c : n % 2 = 0
  · rw [if_pos c]; grind
  · rw [if_neg c]; grind
/-- the determinant of the first k rows and columns, by its last column -/
def dt : Nat → (Nat → Nat → Rat) → Rat
  | 0, _ => 1
  | k + 1, M => sr (k + 1) (fun i => sg (i + k) * M i k * dt k (fun l j => M (sk i l) j))
theorem dt_congr {k : Nat} : ∀ {M N : Nat → Nat → Rat}, (∀ i j, j < k → M i j = N i j) → dt k M = dt k N := by
  induction k with
  | zero => intro M N _; rfl
  | succ k ih =>
    intro M N h
    rw [dt, dt]
    refine sr_congr (fun i hi => ?_)
    rw [h i k (by omega), ih (fun l j hj => h _ _ (by omega))]
def sk2 (x y a : Nat) : Nat := sk (max x y) (sk (min x y) a)
theorem sk2_comm (x y a : Nat) : sk2 x y a = sk2 y x a := by unfold sk2; rw [Nat.max_comm, Nat.min_comm]
theorem sk_lt {x y a : Nat} (h : y < x) : sk x (sk y a) = sk2 x y a := by
  unfold sk2; rw [Nat.max_eq_left (by omega), Nat.min_eq_right (by omega)]
theorem sk_gt {x y a : Nat} (h : x ≤ y) : sk x (sk y a) = sk2 x (y + 1) a := by
  unfold sk2; rw [Nat.max_eq_right (by omega), Nat.min_eq_left (by omega)]
  unfold sk
  repeat' split
  all_goals omega
def e2 (k x y : Nat) : Rat := if y = x then 0 else if y < x then sg (x + k + 1) * sg (y + k) else -(sg (x + k + 1) * sg (y + k))
theorem e2_comm (k x y : Nat) : e2 k x y = -e2 k y x := by
  unfold e2
  rcases Nat.lt_trichotomy x y with h | h | h
  · rw [if_neg (by omega), if_neg (by omega), if_neg (by omega), if_pos h, sg_succ, sg_succ]; grind
  · subst h; simp
  · rw [if_neg (by omega), if_pos h, if_neg (by omega), if_neg (by omega), sg_succ, sg_succ]; grind
theorem dt_two (k : Nat) (M : Nat → Nat → Rat) : dt (k + 2) M = sr (k + 2) (fun x => sr (k + 2) (fun y => e2 k x y * (M x (k + 1) * M y k * dt k (fun a j => M (sk2 x y a) j)))) := by
  rw [dt]
  refine sr_congr (fun x hx => ?_)
  have h1 := sr_sk (n := k + 1) (x := x) (f := fun y => e2 k x y * (M x (k + 1) * M y k * dt k (fun a j => M (sk2 x y a) j))) (by omega)
  have h2 : e2 k x x = 0 := by rw [e2, if_pos rfl]
  simp only [h2] at h1
  rw [show sr (k + 2) (fun y => e2 k x y * (M x (k + 1) * M y k * dt k (fun a j => M (sk2 x y a) j))) = sr (k + 1) (fun l => e2 k x (sk x l) * (M x (k + 1) * M (sk x l) k * dt k (fun a j => M (sk2 x (sk x l) a) j))) by rw [h1]; grind]
  rw [dt, ← sr_mul]
  refine sr_congr (fun l hl => ?_)
  by_cases c : l < x
  · have e1 : sk x l = l := by rw [sk, if_pos c]
    rw [e1, dt_congr (M := fun a j => M (sk x (sk l a)) j) (N := fun a j => M (sk2 x l a) j) (fun a j _ => by rw [sk_lt c]), e2, if_neg (by omega), if_pos c]
    grind
  · have e1 : sk x l = l + 1 := by rw [sk, if_neg c]
    rw [e1, dt_congr (M := fun a j => M (sk x (sk l a)) j) (N := fun a j => M (sk2 x (l + 1) a) j) (fun a j _ => by rw [sk_gt (by omega)]), e2, if_neg (by omega), if_neg (by omega), show l + 1 + k = l + k + 1 by omega, sg_succ (l + k)]
    grind
def sw (k j : Nat) : Nat := if j = k then k + 1 else if j = k + 1 then k else j
theorem dt_swap_last (k : Nat) (M : Nat → Nat → Rat) : dt (k + 2) (fun i j => M i (sw k j)) = -dt (k + 2) M := by
  rw [dt_two, dt_two, ← sr_neg]
  rw [show (fun i => -sr (k + 2) (fun y => e2 k i y * (M i (k + 1) * M y k * dt k (fun a j => M (sk2 i y a) j)))) = (fun i => sr (k + 2) (fun y => -(e2 k i y * (M i (k + 1) * M y k * dt k (fun a j => M (sk2 i y a) j))))) from funext fun i => sr_neg.symm]
  rw [sr_swap (f := fun i y => -(e2 k i y * (M i (k + 1) * M y k * dt k (fun a j => M (sk2 i y a) j))))]
  refine sr_congr (fun x _ => sr_congr (fun y _ => ?_))
  have e1 : sw k (k + 1) = k := by simp [sw]
  have e3 : sw k k = k + 1 := by simp [sw]
  rw [e1, e3, e2_comm k x y, dt_congr (M := fun a j => M (sk2 x y a) (sw k j)) (N := fun a j => M (sk2 y x a) j) (fun a j hj => by rw [sk2_comm, show sw k j = j by unfold sw; rw [if_neg (by omega), if_neg (by omega)]])]
  grind
theorem dt_swap {k j : Nat} : ∀ {M : Nat → Nat → Rat}, j + 1 < k → dt k (fun a b => M a (sw j b)) = -dt k M := by
  induction k with
  | zero => intro M h; omega
  | succ k ih =>
    intro M h
    by_cases c : k = j + 1
    · subst c; exact dt_swap_last j M
    · rw [dt, dt, ← sr_neg]
      refine sr_congr (fun i hi => ?_)
      have e1 : sw j k = k := by unfold sw; rw [if_neg (by omega), if_neg (by omega)]
      rw [e1, ih (M := fun l b => M (sk i l) b) (by omega)]
      grind
theorem dt_same {k : Nat} : ∀ {j : Nat} {M : Nat → Nat → Rat}, j < k → (∀ i, M i j = M i k) → dt (k + 1) M = 0 := by
  induction k with
  | zero => intro j M h; omega
  | succ k ih =>
    intro j M h he
    have h1 := dt_swap_last k M
    by_cases c : j = k
    · subst c
      rw [dt_congr (M := fun i b => M i (sw j b)) (N := M) (fun i b _ => by
        unfold sw
        by_cases c1 : b = j
        · rw [if_pos c1, c1, he]
        · rw [if_neg c1]
          by_cases c2 : b = j + 1
          · rw [if_pos c2, c2, he]
          · rw [if_neg c2])] at h1
      grind
    · have h2 : dt (k + 2) (fun i b => M i (sw k b)) = 0 := by
        rw [dt]
        refine sr_zero (fun i hi => ?_)
        have h3 := ih (j := j) (M := fun l b => M (sk i l) (sw k b)) (by omega) (fun l => by
          show M _ (sw k j) = M _ (sw k k)
          rw [show sw k j = j by unfold sw; rw [if_neg (by omega), if_neg (by omega)], show sw k k = k + 1 by simp [sw]]
          exact he _)
        rw [h3]; grind
      rw [h2] at h1
      grind
def isI (x : Rat) : Prop := ∃ z : Int, x = (z : Rat)
theorem isI_add {x y : Rat} (hx : isI x) (hy : isI y) : isI (x + y) := by
  obtain ⟨a, rfl⟩ := hx; obtain ⟨b, rfl⟩ := hy
  exact ⟨a + b, by simp⟩
theorem isI_mul {x y : Rat} (hx : isI x) (hy : isI y) : isI (x * y) := by
  obtain ⟨a, rfl⟩ := hx; obtain ⟨b, rfl⟩ := hy
  exact ⟨a * b, by simp⟩
theorem isI_neg {x : Rat} (hx : isI x) : isI (-x) := by
  obtain ⟨a, rfl⟩ := hx
  exact ⟨-a, by simp⟩
theorem isI_sr {n : Nat} {f : Nat → Rat} (h : ∀ i, i < n → isI (f i)) : isI (sr n f) := by
  induction n with
  | zero => exact ⟨0, by simp [sr]⟩
  | succ n ih => exact isI_add (ih (fun i hi => h i (by omega))) (h n (by omega))
theorem isI_sg (n : Nat) : isI (sg n) := by
  unfold sg
  split
  · exact ⟨1, by simp⟩
  · exact ⟨-1, by simp⟩
theorem isI_dt {k : Nat} : ∀ {M : Nat → Nat → Rat}, (∀ i j, isI (M i j)) → isI (dt k M) := by
  induction k with
  | zero => intro M _; exact ⟨1, by simp [dt]⟩
  | succ k ih =>
    intro M h
    rw [dt]
    exact isI_sr (fun i _ => isI_mul (isI_mul (isI_sg _) (h _ _)) (ih (fun l j => h _ _)))
