/-! THE CALLS: solve -/
section SV2
variable {σ : cg_S} {G : Gm} {aim ch d : Nat} {x y : Nat → Rat} {u rk : Nat → Nat}
theorem rkv_m {a : Nat} (h : a < 12) : rkv a = -i32 1 ↔ a = 0 := (rkv_1 h).2.2
theorem q_num_pos {q : Rat} : 0 < q.num ↔ 0 < q := by
  have h1 := Rat.num_nonneg (q := q)
  have h2 := Rat.num_eq_zero (q := q)
  constructor
  · intro h
    exact Rat.lt_of_le_of_ne (h1.mp (by omega)) (fun e => by have := h2.mpr e.symm; omega)
  · intro h
    have a := h1.mpr (Rat.le_of_lt h)
    have b : q.num ≠ 0 := fun e => Rat.ne_of_gt h (h2.mp e)
    omega
/-- a state of 'a' that must come nearer to a target -/
def ledG (G : Gm) (aim : Nat) (x : Nat → Rat) (s : Nat) : Prop := aim = 114 ∧ gA G s ∧ ¬ TG G s ∧ 0 < x s
def okT (G : Gm) (aim : Nat) (x : Nat → Rat) (rk : Nat → Nat) (s c : Nat) : Prop := gdG G aim x s (3 * s + c) ∧ (ledG G aim x s → ∃ t, t < G 0 0 ∧ G 7 (7 * (3 * s + c) + t) ≠ 0 ∧ rk t ≠ 0 ∧ rk t < rk s)
/-- the choice that is told -/
def tbS (G : Gm) (aim : Nat) (x : Nat → Rat) (rk : Nat → Nat) (s c : Nat) : Prop := (c < G 3 s ∧ okT G aim x rk s c ∧ ∀ e, e < c → ¬ okT G aim x rk s e) ∨ (c = 0 ∧ ∀ e, e < G 3 s → ¬ okT G aim x rk s e)
theorem okT_congr {f : Nat → Nat} {s c : Nat} (hs : s < G 0 0) (hxy : ∀ t, t < G 0 0 → x t = y t) (hr : aim = 114 → ∀ t, t < G 0 0 → rk t = f t) : okT G aim x rk s c ↔ okT G aim y f s c := by
  have h1 : ∀ m, gdG G aim x s m ↔ gdG G aim y s m := fun m => by
    unfold gdG ahR tgR
    rw [c_ex_congr (x := x) (y := y) hxy, hxy s hs]
  have h2 : ledG G aim x s ↔ ledG G aim y s := by unfold ledG; rw [hxy s hs]
  unfold okT
  rw [h1, h2]
  refine and_congr Iff.rfl ⟨fun h hl => ?_, fun h hl => ?_⟩
  · obtain ⟨t, a, b, c, e⟩ := h hl
    have hr' := hr hl.1
    exact ⟨t, a, b, by rw [← hr' t a]; exact c, by rw [← hr' t a, ← hr' s hs]; exact e⟩
  · obtain ⟨t, a, b, c, e⟩ := h hl
    have hr' := hr hl.1
    exact ⟨t, a, b, by rw [hr' t a]; exact c, by rw [hr' t a, hr' s hs]; exact e⟩
theorem tbS_uniq {f : Nat → Nat} {s c e : Nat} (hs : s < G 0 0) (hxy : ∀ t, t < G 0 0 → x t = y t) (hr : aim = 114 → ∀ t, t < G 0 0 → rk t = f t) (h1 : tbS G aim x rk s c) (h2 : tbS G aim y f s e) : c = e := by
  have hk := fun c => okT_congr (aim := aim) (c := c) hs hxy hr
  rcases h1 with ⟨a1, a2, a3⟩ | ⟨a1, a2⟩ <;> rcases h2 with ⟨b1, b2, b3⟩ | ⟨b1, b2⟩
  · rcases Nat.lt_trichotomy c e with z | z | z
    · exact absurd ((hk c).mp a2) (b3 c z)
    · exact z
    · exact absurd ((hk e).mpr b2) (a3 e z)
  · exact absurd ((hk c).mp a2) (b2 c a1)
  · exact absurd ((hk e).mpr b2) (a2 e b1)
  · omega
theorem tbS_lt {s c : Nat} (hw : whole G) (hs : s < G 0 0) (h : tbS G aim x rk s c) : c < G 3 s := by
  rcases h with ⟨a1, -⟩ | ⟨a1, -⟩
  · exact a1
  · rw [a1]; exact (hw.2 s hs).1
/-- the game with what is told to the states below k -/
def gT (G : Gm) (tb : Nat → Nat) (k : Nat) : Gm := fun i j => if i = 10 then (if j < k then tb j else G 10 j) else G i j
theorem gT_0 {tb : Nat → Nat} : gT G tb 0 = G := by
  funext i j
  unfold gT
  split
  · rename_i h; rw [if_neg (by omega), h]
  · rfl
/-- how many are other ones -/
def ncG (G : Gm) (tb : Nat → Nat) : Nat → Nat
  | 0 => 0
  | k + 1 => ncG G tb k + if tb k = G 10 k then 0 else 1
theorem ncG_le (tb : Nat → Nat) (k : Nat) : ncG G tb k ≤ k := by
  induction k with
  | zero => exact Nat.le_refl 0
  | succ k ih => rw [ncG]; split <;> omega
/-! the reference -/
end SV2
