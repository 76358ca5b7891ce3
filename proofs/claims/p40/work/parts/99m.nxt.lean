/-! TRACES: the class walks along the best one -/
section NXT
variable {σ : cg_S} {G : Gm} {ch : Nat} {U D L : Nat → Nat}
theorem i32_pr : ∀ m : Fin 8, m.val ≠ 0 → i32 m.val - i32 1 = i32 (m.val - 1) := by decide
theorem lxb_at {V : Nat → Rat} (hW : GW G) (hw : whole G) (hO : OPT G V L) : ∀ j k g, LXB G V L k g → j + 1 < k → cnd G V L (g j) (g (j + 1)) ∧ ∀ t, t < G 0 0 → cnd G V L (g j) t → g (j + 1) ≤ t := by
  intro j
  induction j with
  | zero =>
    intro k g h hk
    obtain ⟨k', rfl⟩ : ∃ k', k = k' + 1 := ⟨k - 1, by omega⟩
    exact (lxb_tl hW hw hO h (by omega)).2
  | succ j ih =>
    intro k g h hk
    obtain ⟨k', rfl⟩ : ∃ k', k = k' + 1 := ⟨k - 1, by omega⟩
    exact ih k' (tlf g) (lxb_tl hW hw hO h (by omega)).1 (by omega)
theorem c_nextOf {s r : Nat} {Q : Int32 → cg_S → Prop} (hC : CG σ G ch) (hW : GW G) (hw : whole G) (hs : s < G 0 0) (hTS : TS σ (G 0 0) U D L) (hI : TI G U D L) (hr : r < G 0 0) (h1 : cnd G (VV U D) L s r) (h2 : ∀ t, t < G 0 0 → cnd G (VV U D) L s t → r ≤ t) (h : Q (i32 r) σ) : M_X9_nextOf (i32 s) (i32 (mv (G 10) s)) σ Q := by
  have hn := hW.1
  have hm : mv (G 10) s < 21 := mv_lt (by omega) (told_2 hW s (by omega))
  have hbs := bT_pos hW hw hs
  have hb6 : bT G s ≤ 6 := (hW.2.2.1 _ hm).2.2.1
  refine v_X9_nextOf ?_
  refine up (n := G 0 0) (fun k τ => τ = σ ∧ k ≤ r) (fun v τ => L_X9_nextOf_2 (i32 s) (i32 (mv (G 10) s)) v τ Q) ?_ ?_ 0 σ (by omega) ⟨rfl, by omega⟩
  · rintro t τ ht ⟨rfl, htr⟩ kk
    have hw6 : wT G s t ≤ 6 := hW.w6 hm (show t < 7 by omega)
    obtain ⟨ub, db, db2, lb, vb⟩ := TI_b hW hw hI ht
    obtain ⟨us, ds, ds2, ls, vs⟩ := TI_b hW hw hI hs
    have skip : ¬ cnd G (VV U D) L s t → L_X9_nextOf_2 (i32 s) (i32 (mv (G 10) s)) (i32 (t + 1)) τ Q := fun z => kk τ ⟨rfl, by
      have : t ≠ r := fun e => z (e ▸ h1)
      omega⟩
    have hLs : L s ≠ 0 := by have := h1.2.2.1; omega
    refine v_X9_nextOf_2 ?_
    rw [hC.1.1]
    simp (disch := omega) only [n0, n1, n2, n3, n4, n5, n6, n7, n8, n9, n49, n97, n98, n114, n102, n115, n119, n109, n112, i32_add, i32_mul, i32_N, i32_le, i32_lt, i32_eq, vpi_iff]
    rw [show (18 + 56 : Nat) = 74 from rfl, show (18 + 64 : Nat) = 82 from rfl]
    obtain ⟨k1, k2, k3⟩ := hTS t ht
    obtain ⟨l1, l2, l3⟩ := hTS s hs
    have ew : τ.1 (36 + mv (G 10) s) t = i32 (wT G s t) := (hC.2.2 _ hm).2.2.2.2 t (by omega)
    have eb : τ.1 24 (mv (G 10) s) = i32 (bT G s) := (hC.2.2 _ hm).2.2.1
    rw [ew, eb, k1, k2, k3, l1, l2, l3, i32_pr ⟨L s, by omega⟩ hLs]
    simp (disch := omega) only [n0, n1, n2, n3, n4, n5, n6, n7, n8, n9, n49, n97, n98, n114, n102, n115, n119, n109, n112, i32_add, i32_mul, i32_N, i32_le, i32_lt, i32_eq, vpi_iff]
    refine ⟨fun z => by omega, fun _ => ⟨by omega, by omega, fun z => skip (fun y => absurd (show wT G s t = 0 by omega) y.1), fun z => ⟨by omega, fun z2 => skip (fun y => absurd (show L t = 0 by omega) y.2.1), fun z2 => ⟨by omega, by omega, fun z3 => skip (fun y => by have := y.2.2.1; omega), fun z3 => ⟨by omega, by omega, by omega, ?_⟩⟩⟩⟩⟩
    rw [i32_64 (by omega), i32_64 (by omega), i64_mul, i64_mul]
    rintro _ rfl
    refine ⟨by omega, by omega, ?_⟩
    rintro _ rfl
    refine ⟨by omega, by omega, ?_⟩
    have n1 : wT G s t * U t ≤ 6 * 46656 := Nat.mul_le_mul hw6 ub
    have n2 : bT G s * D t ≤ 6 * 46656 := Nat.mul_le_mul hb6 db2
    have n3 : 0 < bT G s * D t := Nat.mul_pos hbs db
    have hq := VV_upd (U := U) (D := D) (s := s) (t := t) hbs db
    rw [← Int.natCast_mul, ← Int.natCast_mul]
    refine c_cmp n3 ds (by omega) (by omega) (by omega) (by omega) (fun y => ?_) (fun y => ?_) (fun y => ?_)
    · rw [hq] at y
      exact ⟨fun _ => skip (fun y2 => by rw [y2.2.2.2] at y; exact absurd y Rat.lt_irrefl), fun z4 => absurd z4 (by decide)⟩
    · rw [hq] at y
      exact ⟨fun _ => skip (fun y2 => by rw [y2.2.2.2] at y; exact absurd y Rat.lt_irrefl), fun z4 => absurd z4 (by decide)⟩
    · rw [hq] at y
      refine ⟨fun z4 => absurd rfl z4, fun _ => ?_⟩
      have := h2 t ht ⟨by omega, by omega, by omega, y⟩
      rw [show t = r by omega]
      exact h
  · rintro τ ⟨rfl, hr2⟩
    exact absurd hr (by omega)
theorem c_stateAt {k i s : Nat} {g : Nat → Nat} {Q : Int32 → cg_S → Prop} (hC : CG σ G ch) (hW : GW G) (hw : whole G) (hTS : TS σ (G 0 0) U D L) (hI : TI G U D L) (hO : OPT G (VV U D) L) (hg : LXB G (VV U D) L k g) (h0 : g 0 = s) (hi : i < k) (h : Q (i32 (g i)) σ) : M_X9_stateAt (i32 s) (i32 i) 19 σ Q := by
  have hn := hW.1
  have hk7 := trc_len (bst_trc hW hw hO hg.1)
  refine v_X9_stateAt (Or.inl rfl) ?_
  refine up2 (n := i) (fun j (x : Int32) τ => τ = σ ∧ x = i32 (g j)) (fun x v τ => L_X9_stateAt_6 (i32 i) 19 x v τ Q) ?_ ?_ 0 (i32 s) σ (by omega) ⟨rfl, by rw [h0]⟩
  · rintro j x τ hj ⟨rfl, rfl⟩ kk
    have hgj : g j < G 0 0 := hg.1.1.2.1 j (by omega)
    have hgj1 : g (j + 1) < G 0 0 := hg.1.1.2.1 (j + 1) (by omega)
    have e19 : τ.1 19 (g j) = i32 (G 10 (g j)) := (hC.2.1 (g j) (by omega)).2.2.2
    have g10 := told_2 hW (g j) (by omega)
    obtain ⟨c1, c2⟩ := lxb_at hW hw hO j k g hg (by omega)
    refine v_X9_stateAt_6 (Or.inl rfl) ?_
    simp (disch := omega) only [n0, n1, n2, n3, n4, n5, n6, n7, n8, n9, n49, n97, n98, n114, n102, n115, n119, n109, n112, i32_add, i32_mul, i32_N, i32_le, i32_lt, i32_eq, vpi_iff]
    rw [e19]
    refine ⟨fun z => by omega, fun _ => ⟨fun z => by omega, fun _ => ⟨by omega, c_moveOf ?_⟩⟩⟩
    exact c_nextOf hC hW hw hgj hTS hI hgj1 c1 c2 (kk _ τ ⟨rfl, rfl⟩)
  · rintro x τ ⟨rfl, rfl⟩
    refine v_X9_stateAt_6 (Or.inl rfl) ?_
    exact ⟨fun _ => h, fun z => absurd ((i32_le (by omega) (by omega)).mpr (Nat.le_refl _)) z⟩
end NXT
