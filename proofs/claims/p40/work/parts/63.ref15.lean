/-! THE REFERENCE: what changes the game -/
/-- the game with one number changed -/
def gU (G : Gm) (k j v : Nat) : Gm := fun k' j' => if k' = k then (if j' = j then v else G k' j') else G k' j'
theorem KN_0 {τ : cg_S} {G : Gm} (h : ∀ k, k < 4 → τ.1 19 k = i32 0) : KN τ G := fun aim _ => Or.inl (h _ (aimN_lt aim))
theorem sN_congr {f g : Nat → Nat} : ∀ n, (∀ i, i < n → f i = g i) → sN n f = sN n g := by
  intro n
  induction n with
  | zero => intro _; rfl
  | succ n ih => intro h; rw [sN, sN, ih (fun i hi => h i (by omega)), h n (by omega)]
theorem sN_add {f g : Nat → Nat} {j d : Nat} : ∀ n, j < n → g j = f j + d → (∀ i, i ≠ j → g i = f i) → sN n g = sN n f + d := by
  intro n
  induction n with
  | zero => intro h; omega
  | succ n ih =>
    intro h h1 h2
    rw [sN, sN]
    by_cases c : j = n
    · subst c
      rw [sN_congr j (fun i hi => h2 i (by omega)), h1]; omega
    · rw [ih (by omega) h1 h2, h2 n (by omega)]; omega
/-- a state more -/
def gAddS (G : Gm) (ia c : Nat) : Gm := gU (gU (gU G 1 (G 0 0) ia) 2 (G 0 0) c) 0 0 (G 0 0 + 1)
theorem GW_addS {G : Gm} {ia c : Nat} (hW : GW G) (hn : G 0 0 ≠ 7) (hi : ia ≤ 1) (hc : c ≤ 3) : GW (gAddS G ia c) := by
  obtain ⟨h1, h2, h3, h4⟩ := hW
  unfold GW
  refine ⟨?_, fun s hs => ?_, fun m hm => ?_, h4⟩
  · show G 0 0 + 1 ≤ 7; omega
  · obtain ⟨a1, a2, a3, a4, a5, a6⟩ := h2 s hs
    refine ⟨?_, ?_, a3, a4, a5, a6⟩
    · show (if s = G 0 0 then ia else G 1 s) ≤ 1
      split <;> omega
    · show (if s = G 0 0 then c else G 2 s) ≤ 3
      split <;> omega
  · obtain ⟨a1, a2, a3, a4, a5⟩ := h3 m hm
    refine ⟨a1, a2, a3, ?_, fun t ht h => a5 t ht ?_⟩
    · show G 6 m = sN (G 0 0 + 1) (fun t => G 7 (7 * m + t))
      rw [sN, a5 (G 0 0) (by omega) (Nat.le_refl _), ← a4]; rfl
    · have : G 0 0 + 1 ≤ t := h
      omega
