/-! THE REFERENCE: systems of its rows -/
theorem sr_cut {n N : Nat} {f : Nat → Rat} (h : n ≤ N) (h0 : ∀ t, n ≤ t → t < N → f t = 0) : sr N f = sr n f := by
  obtain ⟨d, rfl⟩ : ∃ d, N = n + d := ⟨N - n, by omega⟩
  induction d with
  | zero => rfl
  | succ d ih =>
    rw [← Nat.add_assoc, sr_succ, ih (by omega) (fun t h1 h2 => h0 t h1 (by omega)), h0 (n + d) (by omega) (by omega)]
    grind
theorem sN_sr {n : Nat} {f : Nat → Nat} : ((sN n f : Nat) : Rat) = sr n (fun t => ((f t : Nat) : Rat)) := by
  induction n with
  | zero => rfl
  | succ n ih => rw [sN, sr_succ, Rat.natCast_add, ih]
theorem sm_eq {G : Gm} (hW : GW G) {m : Nat} (hm : m < 21) : c_sm (G 0 0) (wtR G) m = ((G 6 m : Nat) : Rat) := by
  rw [(hW.2.2.1 m hm).2.2.2.1, sN_sr]; rfl
theorem wtR_0 {G : Gm} (hW : GW G) {m t : Nat} (hm : m < 21) (ht : t < 7) (h : G 0 0 ≤ t) : wtR G m t = 0 := by
  unfold wtR
  rw [(hW.2.2.1 m hm).2.2.2.2 t ht h]; rfl
theorem wtR_nn {G : Gm} {m t : Nat} : 0 ≤ wtR G m t := Rat.natCast_nonneg
/-- the game is whole: every choice leads somewhere -/
def whole (G : Gm) : Prop := 0 < G 0 0 ∧ ∀ s, s < G 0 0 → 0 < G 3 s ∧ ∀ c, c < G 3 s → 0 < G 6 (3 * s + c)
/-- picks that are choices -/
def pkOk (G : Gm) (p : Nat → Nat) : Prop := ∀ s, s < G 0 0 → p s < G 3 s
theorem pk_c {G : Gm} (hW : GW G) (hw : whole G) {p : Nat → Nat} (hp : pkOk G p) : c_ok (G 0 0) (wtR G) (mv p) := fun s hs => by
  have h3 := hp s hs
  have h4 := (hw.2 s hs).2 (p s) h3
  have h5 := (hW.2.1 s (by have := hW.1; omega)).2.2.1
  refine ⟨fun t _ => wtR_nn, ?_⟩
  have hm : mv p s < 21 := by unfold mv; have := hW.1; omega
  rw [sm_eq hW hm]
  exact Rat.natCast_pos.mpr h4
def rowN (v : Int) (s t : Nat) : Int := if t = 7 then v else if t = s then 1 else 0
/-- a step's row, as rationals -/
theorem rowS_rat {G : Gm} (hW : GW G) {p : Nat → Nat} {s t ov un : Nat} {c : Int} (hm : mv p s < 21) (ht : t < 7) : ((rowS G p s c ov un t : Int) : Rat) = -((ov : Nat) : Rat) * wtR G (mv p s) t + if t = s then ((un : Nat) : Rat) * c_sm (G 0 0) (wtR G) (mv p s) else 0 := by
  unfold rowS
  rw [if_neg (by omega), Rat.intCast_add, sm_eq hW hm]
  have e1 : (((if t < G 0 0 then -((ov * G 7 (7 * mv p s + t) : Nat) : Int) else 0 : Int)) : Rat) = -((ov : Nat) : Rat) * wtR G (mv p s) t := by
    split
    · rw [Rat.intCast_neg, Rat.intCast_natCast, Rat.natCast_mul]
      unfold wtR
      grind
    · rename_i c
      rw [wtR_0 hW hm ht (by omega)]
      simp
  rw [e1]
  split
  · rw [Rat.intCast_natCast, Rat.natCast_mul]
  · rfl
theorem rowS_rhs {G : Gm} (hW : GW G) {p : Nat → Nat} {s ov un : Nat} {c : Int} (hm : mv p s < 21) : ((rowS G p s c ov un 7 : Int) : Rat) = ((un : Nat) : Rat) * c_sm (G 0 0) (wtR G) (mv p s) * (c : Rat) := by
  unfold rowS
  rw [if_pos rfl, Rat.intCast_mul, Rat.intCast_natCast, Rat.natCast_mul, sm_eq hW hm]
theorem rowS_dot {G : Gm} (hW : GW G) {p : Nat → Nat} {s ov un : Nat} {c : Int} {x : Nat → Rat} (hs : s < G 0 0) (hm : mv p s < 21) : sr 7 (fun t => ((rowS G p s c ov un t : Int) : Rat) * x t) = ((un : Nat) : Rat) * (c_sm (G 0 0) (wtR G) (mv p s) * x s) - ((ov : Nat) : Rat) * c_ex (G 0 0) (wtR G) x (mv p s) := by
  have hn := hW.1
  rw [sr_congr (g := fun t => (-((ov : Nat) : Rat)) * (wtR G (mv p s) t * x t) + (if t = s then ((un : Nat) : Rat) * c_sm (G 0 0) (wtR G) (mv p s) * x s else 0)) (fun t ht => by
    rw [rowS_rat hW hm ht]
    split
    · rename_i c; rw [c]; grind
    · grind)]
  rw [sr_add, sr_mul, sr_cut hn (fun t h1 h2 => by rw [wtR_0 hW hm h2 h1]; grind), sr_one (i := s) (by omega) (fun j _ hj => if_neg hj), if_pos rfl]
  unfold c_ex
  grind
theorem rowN_dot {s : Nat} {v : Int} {x : Nat → Rat} (hs : s < 7) : sr 7 (fun t => ((rowN v s t : Int) : Rat) * x t) = x s := by
  rw [sr_one (i := s) hs (fun j hj hne => by unfold rowN; rw [if_neg (by omega), if_neg hne]; simp)]
  unfold rowN
  rw [if_neg (by omega), if_pos rfl]
  simp
/-- the answers of solves: numbers x, above X and below d -/
def Sv (τ : cg_S) (n : Nat) (x : Nat → Rat) : Prop := ∃ (d : Int) (X : Nat → Int), 0 < d ∧ zfit d ∧ τ.2.1 0 39 = i64 d ∧ ∀ s, s < n → zfit (X s) ∧ τ.2.1 21 (8 * s + 7) = i64 (X s) ∧ ((X s : Int) : Rat) = x s * (d : Rat)
/-- a system: number rows where N, step rows else -/
def sysA (G : Gm) (p : Nat → Nat) (N : Nat → Bool) (f : Nat → Int) (ov un : Nat) (c : Nat → Int) (s t : Nat) : Rat := if s < G 0 0 then (if N s then ((rowN (f s) s t : Int) : Rat) else ((rowS G p s (c s) ov un t : Int) : Rat)) else if t = s then 1 else 0
section SY
variable {G : Gm} {p : Nat → Nat} {N : Nat → Bool} {f c : Nat → Int} {ov un : Nat}
theorem sysA_int (s t : Nat) : isI (sysA G p N f ov un c s t) := by
  unfold sysA
  split
  · split
    · exact ⟨_, rfl⟩
    · exact ⟨_, rfl⟩
  · split
    · exact ⟨1, rfl⟩
    · exact ⟨0, rfl⟩
theorem sysA_dot (hW : GW G) (hp : ∀ s, s < 7 → p s ≤ 2) {x : Nat → Rat} {s : Nat} (hs : s < 7) : sr 7 (fun t => sysA G p N f ov un c s t * x t) = if s < G 0 0 ∧ N s = false then ((un : Nat) : Rat) * (c_sm (G 0 0) (wtR G) (mv p s) * x s) - ((ov : Nat) : Rat) * c_ex (G 0 0) (wtR G) x (mv p s) else x s := by
  unfold sysA
  by_cases h1 : s < G 0 0
  · simp only [if_pos h1]
    cases hN : N s
    · rw [if_pos ⟨h1, rfl⟩]
      simp only [Bool.false_eq_true, if_false]
      exact rowS_dot hW h1 (mv_lt hs (hp s hs))
    · rw [if_neg (by simp)]
      simp only [if_true]
      exact rowN_dot hs
  · simp only [if_neg h1]
    rw [if_neg (by simp [h1]), sr_one (i := s) hs (fun j _ hj => by rw [if_neg hj]; grind), if_pos rfl]
    grind
theorem sysA_sum (hW : GW G) (hp : ∀ s, s < 7 → p s ≤ 2) {s : Nat} (hs : s < 7) : sr 7 (sysA G p N f ov un c s) = if s < G 0 0 ∧ N s = false then (((un : Nat) : Rat) - ((ov : Nat) : Rat)) * c_sm (G 0 0) (wtR G) (mv p s) else 1 := by
  have h := sysA_dot (G := G) (p := p) (N := N) (f := f) (ov := ov) (un := un) (c := c) hW hp (x := fun _ => 1) hs
  rw [sr_congr (g := fun t => sysA G p N f ov un c s t * 1) (fun t _ => by grind), h]
  split
  · rw [show (fun _ : Nat => (1 : Rat)) = (fun _ => 1) from rfl, c_ex_const]; grind
  · rfl
theorem sysA_Z (hW : GW G) (hp : ∀ s, s < 7 → p s ≤ 2) (hou : ov ≤ un) : Zm 7 (sysA G p N f ov un c) := by
  refine ⟨fun s t hs ht hne => ?_, fun s hs => ?_⟩
  · unfold sysA
    split
    · split
      · unfold rowN
        rw [if_neg (by omega), if_neg (by omega)]
        exact Rat.le_refl
      · rw [rowS_rat hW (mv_lt hs (hp s hs)) ht, if_neg (by omega)]
        have := Rat.mul_nonneg (a := ((ov : Nat) : Rat)) (b := wtR G (mv p s) t) Rat.natCast_nonneg wtR_nn
        grind
    · rw [if_neg (by omega)]; exact Rat.le_refl
  · rw [sysA_sum hW hp hs]
    split
    · have h1 : ((ov : Nat) : Rat) ≤ ((un : Nat) : Rat) := Rat.natCast_le_natCast.mpr hou
      rw [sm_eq hW (mv_lt hs (hp s hs))]
      exact Rat.mul_nonneg (by grind) Rat.natCast_nonneg
    · decide
theorem sysA_diag (hW : GW G) (hp : ∀ s, s < 7 → p s ≤ 2) (hun : un ≤ 3) (hun1 : 1 ≤ un) {s : Nat} (hs : s < 7) : sysA G p N f ov un c s s ≤ ((6 * un : Nat) : Rat) := by
  have h1 : (1 : Rat) ≤ ((6 * un : Nat) : Rat) := by
    have : ((1 : Nat) : Rat) ≤ ((6 * un : Nat) : Rat) := Rat.natCast_le_natCast.mpr (by omega)
    exact this
  unfold sysA
  split
  · split
    · unfold rowN
      rw [if_neg (by omega), if_pos rfl]
      exact h1
    · have hm := mv_lt hs (hp s hs)
      rw [rowS_rat hW hm hs, if_pos rfl, sm_eq hW hm]
      have h2 := Rat.mul_nonneg (a := ((ov : Nat) : Rat)) (b := wtR G (mv p s) s) Rat.natCast_nonneg wtR_nn
      have h3 : ((un * G 6 (mv p s) : Nat) : Rat) ≤ ((6 * un : Nat) : Rat) := Rat.natCast_le_natCast.mpr (by
        have := (hW.2.2.1 _ hm).2.2.1
        rw [Nat.mul_comm]
        exact Nat.mul_le_mul this (Nat.le_refl un))
      rw [Rat.natCast_mul] at h3
      grind
  · rw [if_pos rfl]; exact h1
theorem sysA_rhs (hW : GW G) (hp : ∀ s, s < 7 → p s ≤ 2) (hf : ∀ s, s < G 0 0 → 0 ≤ f s) (hc : ∀ s, s < G 0 0 → 0 ≤ c s) {s : Nat} (hs : s < 7) : 0 ≤ sysA G p N f ov un c s 7 := by
  unfold sysA
  split
  · rename_i h1
    split
    · unfold rowN
      rw [if_pos rfl]
      exact Rat.intCast_nonneg.mpr (hf s h1)
    · have hm := mv_lt hs (hp s hs)
      rw [rowS_rhs hW hm, sm_eq hW hm]
      exact Rat.mul_nonneg (Rat.mul_nonneg Rat.natCast_nonneg Rat.natCast_nonneg) (Rat.intCast_nonneg.mpr (hc s h1))
  · rw [if_neg (by omega)]; exact Rat.le_refl
end SY
