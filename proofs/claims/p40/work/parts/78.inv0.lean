/-! THE CALLS: the fresh numbers -/
def G0 : Gm := fun k j => if k = 9 then (if j = 0 then 1 else if j = 1 then 2 else if j = 2 then 1 else if j = 3 then 1 else 0) else 0
theorem sN_0 : ∀ n, sN n (fun _ => 0) = 0 := by
  intro n
  induction n with
  | zero => rfl
  | succ n ih => rw [sN, ih]
theorem GW_0 : GW G0 := ⟨Nat.zero_le _, fun s _ => ⟨Nat.zero_le _, Nat.zero_le _, Nat.zero_le _, Nat.zero_le _, Nat.zero_le _, Or.inl rfl⟩, fun m _ => ⟨Nat.zero_le _, Nat.zero_le _, Nat.zero_le _, (sN_0 (G0 0 0)).symm, fun _ _ _ => rfl⟩, ⟨by decide, by decide, by decide⟩, by decide, by decide⟩
theorem mk_0 {P : Nat → Prop} (h : ∀ t, t < 7 → ¬ P t) : mk 0 P := ⟨0, by decide, rfl, fun t ht => by
  rw [Nat.zero_testBit]
  exact ⟨fun z => absurd z (by decide), fun z => absurd z (h t ht)⟩⟩
