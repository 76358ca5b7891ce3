/-! THE CALLS: closedOf -/
theorem tp_eq {G : Gm} {p : Nat → Nat} {s : Nat} (hs : s < G 0 0) : mv (tp G p) s = mv (G 10) s := by unfold mv tp; rw [if_pos hs]
theorem rch_congr {n : Nat} {wt : Nat → Nat → Rat} {p q : Nat → Nat} (h : ∀ s, s < n → p s = q s) {s t : Nat} (hs : s < n) : c_rch n wt p s t ↔ c_rch n wt q s t := by
  constructor
  · intro hc C hcl hC
    exact hc C (fun u hu hCu v hv hw => hcl u hu hCu v hv (by rw [← h u hu]; exact hw)) (fun u hu hw => hC u hu (by rw [← h s hs]; exact hw))
  · intro hc C hcl hC
    exact hc C (fun u hu hCu v hv hw => hcl u hu hCu v hv (by rw [h u hu]; exact hw)) (fun u hu hw => hC u hu (by rw [h s hs]; exact hw))
/-- the lowest state of the closed set of a state -/
def cloL (G : Gm) (s t : Nat) : Prop := t < G 0 0 ∧ c_rch (G 0 0) (wtR G) (mv (G 10)) s t ∧ ∀ u, u < t → ¬ c_rch (G 0 0) (wtR G) (mv (G 10)) s u
def isClo (G : Gm) (s : Nat) : Prop := ∀ t, c_rch (G 0 0) (wtR G) (mv (G 10)) s t → c_rch (G 0 0) (wtR G) (mv (G 10)) t s
theorem cloL_uniq {G : Gm} {s t u : Nat} (h1 : cloL G s t) (h2 : cloL G s u) : t = u := by
  rcases Nat.lt_trichotomy t u with h | h | h
  · exact absurd h1.2.1 (h2.2.2 t h)
  · exact h
  · exact absurd h2.2.1 (h1.2.2 u h)
/-- something is always reached -/
theorem rch_some {G : Gm} {s : Nat} (hW : GW G) (hw : whole G) (hs : s < G 0 0) : ∃ t, t < G 0 0 ∧ c_rch (G 0 0) (wtR G) (mv (G 10)) s t := by
  have hn := hW.1
  have h3 := hW.2.1 s (by omega)
  have hw2 := hw.2 s hs
  have hc : G 10 s < G 3 s := by rcases h3.2.2.2.2.2 with z | z <;> omega
  have h6 := hw2.2 _ hc
  have hm : 3 * s + G 10 s < 21 := by omega
  refine Classical.byContradiction fun hno => ?_
  have h0 : sN (G 0 0) (fun t => G 7 (7 * (3 * s + G 10 s) + t)) = 0 := by
    have key : ∀ k, k ≤ G 0 0 → sN k (fun t => G 7 (7 * (3 * s + G 10 s) + t)) = 0 := by
      intro k
      induction k with
      | zero => intro _; rfl
      | succ k ih =>
        intro hk
        rw [sN, ih (by omega)]
        have : G 7 (7 * (3 * s + G 10 s) + k) = 0 := Classical.byContradiction fun hne => hno ⟨k, hk, fun C _ hC => hC k hk (wtR_ne.mpr hne)⟩
        omega
    exact key _ (Nat.le_refl _)
  have := (hW.2.2.1 _ hm).2.2.2.1
  omega
theorem rch_tr {n : Nat} {wt : Nat → Nat → Rat} {p : Nat → Nat} {s t u : Nat} (ht : t < n) (h1 : c_rch n wt p s t) (h2 : c_rch n wt p t u) : c_rch n wt p s u := fun C hcl hC => h2 C hcl (fun v hv hw => hcl t ht (h1 C hcl hC) v hv hw)
theorem PK_told {a : cg_S} {G : Gm} {ch : Nat} (hC : CG a G ch) (hW : GW G) : PK a 19 (G 0 0) (G 10) := fun s hs => (hC.2.1 s (by have := hW.1; omega)).2.2.2
theorem told_2 {G : Gm} (hW : GW G) : ∀ s, s < 7 → G 10 s ≤ 2 := fun s hs => (hW.2.1 s hs).2.2.2.2.1
theorem told_ok {G : Gm} (hW : GW G) (hw : whole G) : pkOk G (G 10) := fun s hs => by
  have := (hw.2 s hs).1
  rcases (hW.2.1 s (by have := hW.1; omega)).2.2.2.2.2 with z | z <;> omega
