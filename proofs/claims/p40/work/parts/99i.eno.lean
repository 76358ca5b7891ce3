/-! THE CALLS: endOf -/
section ENO
variable {σ : cg_S} {G : Gm}
/-- the states of a mask -/
def BS (n T t : Nat) : Prop := t < n ∧ T.testBit t = true
/-- a mask that is an end component of v -/
def EM (G : Gm) (v T : Nat) : Prop := T.testBit v = true ∧ isEC G (BS (G 0 0) T)
theorem sh_n : ∀ n : Fin 8, ((1 : Int32) <<< (i32 n.val &&& 31)) = i32 (2 ^ n.val) := by decide
/-- what was found below k: 0 is nothing, l + 1 is l -/
def FD (G : Gm) (v k a : Nat) : Prop := (a = 0 → ∀ T, T < k → ¬ EM G v T) ∧ (a ≠ 0 → a - 1 < G 0 0 ∧ (∃ T, T < k ∧ EM G v T ∧ BS (G 0 0) T (a - 1)) ∧ ∀ T, T < k → EM G v T → ∀ t, BS (G 0 0) T t → a - 1 ≤ t)
theorem FD_no {v k a : Nat} (h : FD G v k a) (hno : ¬ EM G v k) : FD G v (k + 1) a := by
  have key : ∀ T, T < k + 1 → EM G v T → T < k := fun T hT hE => by
    have : T ≠ k := fun e => hno (e ▸ hE)
    omega
  exact ⟨fun e T hT hE => h.1 e T (key T hT hE) hE, fun e => ⟨(h.2 e).1, by
    obtain ⟨T, h1, h2⟩ := (h.2 e).2.1
    exact ⟨T, by omega, h2⟩, fun T hT hE => (h.2 e).2.2 T (key T hT hE) hE⟩⟩
theorem FD_yes {v k a l : Nat} (h : FD G v k a) (hE : EM G v k) (hl : BS (G 0 0) k l) (hlow : ∀ t, BS (G 0 0) k t → l ≤ t) : FD G v (k + 1) (if a = 0 then l + 1 else if a - 1 ≤ l then a else l + 1) := by
  by_cases c : a = 0
  · rw [if_pos c]
    refine ⟨fun z => by omega, fun _ => ⟨hl.1, ⟨k, by omega, hE, hl⟩, fun T hT hE2 t ht => ?_⟩⟩
    have e : T = k := Classical.byContradiction fun y => h.1 c T (by omega) hE2
    rw [e] at ht
    exact hlow t ht
  · rw [if_neg c]
    obtain ⟨h1, ⟨T0, t1, t2, t3⟩, h2⟩ := h.2 c
    by_cases c2 : a - 1 ≤ l
    · rw [if_pos c2]
      refine ⟨fun z => absurd z c, fun _ => ⟨h1, ⟨T0, by omega, t2, t3⟩, fun T hT hE2 t ht => ?_⟩⟩
      by_cases e : T = k
      · rw [e] at ht; have := hlow t ht; omega
      · exact h2 T (by omega) hE2 t ht
    · rw [if_neg c2]
      refine ⟨fun z => by omega, fun _ => ⟨hl.1, ⟨k, by omega, hE, hl⟩, fun T hT hE2 t ht => ?_⟩⟩
      by_cases e : T = k
      · rw [e] at ht; exact hlow t ht
      · have := h2 T (by omega) hE2 t ht; omega
end ENO
theorem mk_BS {G : Gm} {v : Nat} {w : Int32} (hW : GW G) (h : mk w (endS G v)) : ∃ T, T < 2 ^ G 0 0 ∧ BS (G 0 0) T = endS G v := by
  have hn := hW.1
  obtain ⟨T, h1, -, h3⟩ := h
  have hbit : ∀ t, T.testBit t = true → t < 7 := fun t ht => Classical.byContradiction fun z => by
    have h7 : 2 ^ 7 ≤ 2 ^ t := Nat.pow_le_pow_right (by decide) (by omega)
    have : T.testBit t = false := Nat.testBit_lt_two_pow (by omega)
    rw [this] at ht
    exact absurd ht (by decide)
  refine ⟨T, Nat.lt_pow_two_of_testBit T (fun i hi => ?_), funext fun t => propext ⟨fun z => (h3 t (hbit t z.2)).mp z.2, fun z => ⟨endS_n z, (h3 t (by have := endS_n z; omega)).mpr z⟩⟩⟩
  cases hc : T.testBit i with
  | false => rfl
  | true =>
    have := endS_n ((h3 i (hbit i hc)).mp hc)
    omega
theorem EM_sub {G : Gm} {v T t : Nat} (hv : v < G 0 0) (hE : EM G v T) (ht : BS (G 0 0) T t) : endS G v t := endS_max hv hE.2 ⟨hv, hE.1⟩ (fun _ z => z.1) _ t ht
