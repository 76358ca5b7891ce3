/-! THE CALLS: meanChoices -/
theorem mean_n : ∀ i : Fin 22, ∀ n : Fin 8, n.val ≠ 0 → vf_n64 (FP.ddiv (FP.i2d (i32 i.val)) (FP.i2d (i32 n.val))) := by
  have h : ∀ i : Fin 22, ∀ n : Fin 8, n.val ≠ 0 → (FP.ddiv (FP.i2d (i32 i.val)) (FP.i2d (i32 n.val))) &&& 0x7fffffffffffffff ≤ (0x7ff0000000000000 : UInt64) := by decide
  exact h
theorem op_meanChoices {n : Nat} {a b : cg_S} (h : Inv n a b) : OP_meanChoices (Inv (n + 1)) a b := by
  obtain ⟨G, ch, hch, hC, hK, hR⟩ := h
  have hW := hR.1
  have hn7 := hW.1
  have iup := fun x => Inv.up (n := n) (x := x) hch hC hK hR
  have hG := hR.2.1
  refine v_X11_meanChoices ?_
  rw [hC.1.1]
  refine ⟨fun z => ?_, fun z => ⟨rfl, ?_⟩⟩
  · rw [n0, i32_eq (by omega) (by omega)] at z
    have s3 : ∀ k, k ≤ 7 → sN k (G 3) ≤ 3 * k := by
      intro k
      induction k with
      | zero => intro _; exact Nat.le_refl _
      | succ k ih =>
        intro h
        have h1 := ih (by omega)
        have h2 := (hW.2.1 k (by omega)).2.2.1
        rw [sN]; omega
    have hs := s3 (G 0 0) hn7
    refine up (n := G 0 0) (fun k τ => τ = a) (fun w τ => L_X11_meanChoices_25 (i32 (sN w.toNatClampNeg (G 3))) w τ (fun r a1 => M_X12_meanChoices b (fun r2 b1 => M_X12_thrown b1 (fun t b2 => t = 0 ∧ r = r2 ∧ Inv (n + 1) a1 b2))) (fun E a1 => (E = "java/lang/ArithmeticException" ∧ M_X12_meanChoices b (fun r2 b1 => M_X12_thrown b1 (fun t b2 => t = 1 ∧ Inv (n + 1) a1 b2))))) ?_ ?_ 0 a (by omega) rfl
    · rintro k τ hk rfl kk
      have hkk := kk _ rfl
      rw [i32_N (by omega)] at hkk ⊢
      refine v_X11_meanChoices_25 ?_
      rw [hC.1.1, i32_le (by omega) (by omega)]
      refine ⟨fun y => by omega, fun _ => ⟨vpi (by omega) (by omega), ?_⟩⟩
      rw [i32_N (by omega), (hC.2.1 k (by omega)).2.2.1, i32_add]
      rintro _ rfl
      rw [i32_s]
      exact hkk
    · rintro τ rfl
      rw [i32_N (by omega)]
      refine v_X11_meanChoices_25 ?_
      rw [hC.1.1, i32_le (by omega) (by omega)]
      refine ⟨fun _ => ⟨mean_n ⟨sN (G 0 0) (G 3), by omega⟩ ⟨G 0 0, by omega⟩ z, ?_⟩, fun y => absurd (Nat.le_refl _) y⟩
      -- the reference
      refine v_X12_meanChoices ?_
      rw [hG.1.1]
      refine ⟨fun _ => ?_, fun y => ?_⟩
      · rintro _ rfl
        have hG1 := hG.c0 (x := (0 : Int32)) (Or.inl rfl)
        refine up (n := G 0 0) (fun k υ => υ = cg_i b 0 0 0) (fun w υ => L_X12_meanChoices_20 (i32 (sN w.toNatClampNeg (G 3))) w υ (fun r2 b1 => M_X12_thrown b1 (fun t b2 => t = 0 ∧ FP.ddiv (FP.i2d (i32 (sN (G 0 0) (G 3)))) (FP.i2d (i32 (G 0 0))) = r2 ∧ Inv (n + 1) τ b2))) ?_ ?_ 0 _ (by omega) rfl
        · rintro k υ hk rfl kk
          have hkk := kk _ rfl
          rw [i32_N (by omega)] at hkk ⊢
          refine v_X12_meanChoices_20 ?_
          rw [hG1.1.1, i32_le (by omega) (by omega)]
          refine ⟨fun y => by omega, fun _ => ⟨vpi (by omega) (by omega), ?_⟩⟩
          rw [i32_N (by omega), (hG1.2.2.1 k (by omega)).2.1, i32_add]
          rintro _ rfl
          rw [i32_s]
          exact hkk
        · rintro υ rfl
          rw [i32_N (by omega)]
          refine v_X12_meanChoices_20 ?_
          rw [hG1.1.1, i32_le (by omega) (by omega), n0, i32_eq (by omega) (by omega)]
          refine ⟨fun _ => ⟨fun _ => ⟨mean_n ⟨sN (G 0 0) (G 3), by omega⟩ ⟨G 0 0, by omega⟩ z, m_thrown0 ⟨rfl, rfl, iup _⟩⟩, fun y => absurd y z⟩, fun y => absurd (Nat.le_refl _) y⟩
      · rw [n0, i32_eq (by omega) (by omega)] at y
        exact absurd y z
  · rw [n0, i32_eq (by omega) (by omega)] at z
    refine v_X12_meanChoices ?_
    rw [hG.1.1, z]
    refine ⟨fun y => absurd rfl y, fun _ => ?_⟩
    rintro _ rfl
    have hG1 := hG.c0 (x := (1 : Int32)) (Or.inl rfl)
    refine v_X12_meanChoices_20 ?_
    rw [hG1.1.1, z]
    exact ⟨fun _ => ⟨fun y => absurd rfl y, fun _ => m_thrown0 (e := 1) ⟨rfl, iup _⟩⟩, fun y => absurd (by decide) y⟩
