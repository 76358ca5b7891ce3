/-! LIKENESS: the reference; classOf, classes -/
section LM
variable {σ : cg_S} {G : Gm} {g : Nat → Nat}
theorem dn1 : ∀ k : Fin 8, i32 (k.val + 1) - 1 = i32 k.val ∧ i32 (k.val + 1) + (-1) = i32 k.val := by decide
/-- downward, the last that is like is the lowest -/
def lwS (E : Nat → Nat → Prop) (s k t : Nat) : Prop := t ≤ s ∧ (t = s ∨ (k ≤ t ∧ E t s)) ∧ ∀ u, k ≤ u → u < t → ¬ E u s
theorem lwS_step {E : Nat → Nat → Prop} {s k t : Nat} (hk : k < s) (h : lwS E s (k + 1) t) (hE : E k s) : lwS E s k k := ⟨by omega, Or.inr ⟨Nat.le_refl k, hE⟩, fun u h1 h2 => by omega⟩
theorem lwS_skip {E : Nat → Nat → Prop} {s k t : Nat} (h : lwS E s (k + 1) t) (hE : ¬ E k s) : lwS E s k t := ⟨h.1, h.2.1.imp id (fun z => ⟨by omega, z.2⟩), fun u h1 h2 => by
  by_cases c : u = k
  · rw [c]; exact hE
  · exact h.2.2 u (by omega) h2⟩
theorem RB.fr {b τ : cg_S} {I L D : List Nat} (h : RB b G) (hf : Fr I L D b τ) (h0 : (0 ∉ I ∧ 1 ∉ I ∧ 2 ∉ I ∧ 3 ∉ I ∧ 4 ∉ I ∧ 7 ∉ I ∧ 8 ∉ I ∧ 9 ∉ I ∧ 10 ∉ I ∧ 15 ∉ I) ∧ 5 ∉ I ∧ 19 ∉ I ∧ 28 ∉ L ∧ 29 ∉ L) : RB τ G := by
  obtain ⟨hW, hG, ⟨p, hp⟩, hK⟩ := h
  exact ⟨hW, hG.fr hf h0.1, ⟨p, hp.fr hf h0.2.1⟩, hK.fr hf h0.2.2⟩
theorem GS_7 (hW : GW G) (hw : whole G) {g f : Nat → Nat} (hg : GS G (G 0 0) g) (hf : GS G 7 f) : ∀ s, s < G 0 0 → g s = f s := by
  have hn := hW.1
  have e : G 0 0 + (7 - G 0 0) = 7 := by omega
  exact GS_more hw (7 - G 0 0) hg (by rw [e]; exact hf)
end LM
