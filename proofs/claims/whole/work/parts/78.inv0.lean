/-! THE CALLS: the fresh numbers -/
def G0 : Gm := fun k j => if k = 9 then (if j = 0 then 1 else if j = 1 then 2 else if j = 2 then 1 else if j = 3 then 1 else 0) else 0
theorem sN_0 : ∀ n, sN n (fun _ => 0) = 0 := by
  intro n
  induction n with
  | zero => rfl
  | succ n ih => rw [sN, ih]
theorem GW_0 : GW G0 := ⟨Nat.zero_le _, fun s _ => ⟨Nat.zero_le _, Nat.zero_le _, Nat.zero_le _, Nat.zero_le _, Nat.zero_le _, Or.inl rfl⟩, fun m _ => ⟨Nat.zero_le _, Nat.zero_le _, Nat.zero_le _, (sN_0 (G0 0 0)).symm, fun _ _ _ => rfl⟩, ⟨by decide, by decide, by decide⟩, by decide, by decide⟩
theorem RB_0 : RB j_b0 G0 := by
  refine ⟨GW_0, ⟨⟨rfl, rfl, rfl, rfl, rfl⟩, fun s hs => absurd hs (Nat.not_lt_zero s), fun s _ => ⟨rfl, rfl, rfl, rfl⟩, fun m _ => ⟨rfl, rfl, rfl⟩, fun j _ => rfl⟩, ⟨fun _ => 0, fun s _ => ⟨rfl, Nat.zero_le _⟩⟩, fun aim _ => Or.inl rfl⟩
theorem mk_0 {P : Nat → Prop} (h : ∀ t, t < 7 → ¬ P t) : mk 0 P := ⟨0, by decide, rfl, fun t ht => by
  rw [Nat.zero_testBit]
  exact ⟨fun z => absurd z (by decide), fun z => absurd z (h t ht)⟩⟩
theorem CG_0 : CG j_a0 G0 0 := by
  refine ⟨⟨rfl, mk_0 (fun t _ z => z rfl), rfl, rfl, rfl, rfl, rfl⟩, fun s _ => ⟨rfl, rfl, rfl, rfl⟩, fun m hm => ⟨rfl, rfl, rfl, mk_0 (fun t _ z => z rfl), fun t _ => ?_⟩⟩
  show (if 36 + m = 1 then _ else if 36 + m = 31 then _ else fun _ => (0 : Int32)) t = _
  rw [if_neg (by omega), if_neg (by omega)]
  rfl
theorem CK_0 : CK j_a0 G0 0 := fun aim ha => by
  have e : j_a0.1 31 (aimN aim) = -1 := by
    rcases ha with rfl | rfl | rfl | rfl <;> rfl
  refine ⟨Or.inl e, fun z => ?_⟩
  rw [e] at z
  exact absurd z (by decide)
theorem Inv_0 : Inv 0 j_a0 j_b0 := ⟨G0, 0, Nat.le_refl _, CG_0, CK_0, RB_0⟩
