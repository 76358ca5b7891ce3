/-! THE REFERENCE: what changes the game, end -/
theorem m_setTarget {v1 v2 : Int32} {G : Gm} {σ : cg_S} {Q : Int32 → cg_S → Prop} (hR : RB σ G) (hv2 : v2 = 0 ∨ v2 = 1) (h1 : (∀ s, s < G 0 0 → v1 ≠ i32 s) → Q 0 (cg_i σ 0 0 (i32 1))) (h0 : ∀ s k τ, s < G 0 0 → v1 = i32 s → k ≤ 1 → v2 = i32 k → RB τ (gU G 8 s k) → τ.1 0 0 = i32 0 → Q (i32 (G 8 s)) τ) : M_X12_setTarget v1 v2 σ Q := by
  obtain ⟨hW, hG, ⟨p, hp⟩, hK⟩ := id hR
  have hn := hW.1
  refine v_X12_setTarget (m_isState hn hG.1.1 (fun s hs hv1 => ⟨fun _ => ?_, fun z => absurd z (by decide)⟩) (fun z => ⟨fun y => absurd rfl y, fun _ => ?_⟩))
  · obtain ⟨k, hk, hvk⟩ : ∃ k, k ≤ 1 ∧ v2 = i32 k := by
      rcases hv2 with z | z
      · exact ⟨0, by omega, z⟩
      · exact ⟨1, by omega, z⟩
    have h0' := fun τ => h0 s k τ hs hv1 hk hvk
    refine m_changes (fun τ f1 k1 => ?_)
    have hG1 := (hG.c0 (x := i32 0) (Or.inl rfl)).fr f1 (by decide)
    have g8 := (hW.2.1 s (by omega)).2.2.2.1
    rw [hv1, hvk, vnb hk]
    simp (disch := omega) only [n0, n1, n2, n3, n4, n5, n6, n7, n8, n9, n49, n97, n98, n114, n102, n115, n119, n109, n112, i32_add, i32_mul, i32_N, i32_le, i32_lt, i32_eq, vpi_iff]
    refine ⟨by omega, ?_⟩
    rw [(hG1.2.2.1 s (by omega)).2.2.1]
    rintro _ rfl
    refine ⟨by omega, ?_⟩
    rintro _ rfl
    have f2 : Fr [15] [] [] τ (cg_i τ 15 s (i32 k)) := Fr.i (by decide)
    have f3 : Fr [0, 15, 19] [] [] σ (cg_i τ 15 s (i32 k)) := ((Fr.i (k := 0) (j := 0) (x := i32 0) (by decide)).tr (f1.mo (by simp) (by simp) (by simp))).tr (f2.mo (by simp) (by simp) (by simp))
    refine ⟨?_, h0' _ ⟨?_, ?_, ⟨p, hp.fr f3 (by decide)⟩, KN_0 (fun j hj => by rw [f2.1 19 (by decide)]; exact k1 j hj)⟩ ?_⟩
    · simp (disch := omega) only [n0, n1, n2, n3, n4, n5, n6, n7, n8, n9, n49, n97, n98, n114, n102, n115, n119, n109, n112, i32_add, i32_mul, i32_N, i32_le, i32_lt, i32_eq, vpi_iff]
      omega
    · obtain ⟨h1, h2, h3, h4⟩ := hW
      refine ⟨h1, fun t ht => ?_, h3, h4⟩
      obtain ⟨a1, a2, a3, a4, a5, a6⟩ := h2 t ht
      refine ⟨a1, a2, a3, ?_, a5, a6⟩
      show (if t = s then k else G 8 t) ≤ 1
      split <;> omega
    · obtain ⟨b1, b6, b7, b8, b9⟩ := hG1
      refine ⟨?_, fun t ht => ?_, fun t ht => ?_, fun m hm => ?_, fun j hj => ?_⟩
      · rw [f2.1 0 (by decide)]; exact b1
      · rw [f2.1 1 (by decide)]; exact b6 t ht
      · obtain ⟨d1, d2, d3, d4⟩ := b7 t ht
        refine ⟨by rw [f2.1 2 (by decide)]; exact d1, by rw [f2.1 3 (by decide)]; exact d2, ?_, by rw [f2.1 4 (by decide)]; exact d4⟩
        rw [ri, if_pos rfl]
        show _ = i32 (if t = s then k else G 8 t)
        by_cases e : t = s
        · rw [if_pos e, if_pos e]
        · rw [if_neg e, if_neg e]; exact d3
      · rw [f2.1 7 (by decide), f2.1 8 (by decide), f2.1 9 (by decide)]; exact b8 m hm
      · rw [f2.1 10 (by decide)]; exact b9 j hj
    · rw [f2.1 0 (by decide), f1.1 0 (by decide), ri, if_pos rfl, if_pos rfl]
  · rintro _ rfl
    exact h1 z
theorem m_setDiscount {v1 v2 : Int32} {G : Gm} {σ : cg_S} {Q : Int32 → cg_S → Prop} (hR : RB σ G) (h1 : (∀ a b, 1 ≤ a → a < b → b ≤ 3 → v1 = i32 a → v2 ≠ i32 b) → Q 0 (cg_i σ 0 0 (i32 1))) (h0 : ∀ a b τ, 1 ≤ a → a < b → b ≤ 3 → v1 = i32 a → v2 = i32 b → RB τ (gU (gU G 9 0 a) 9 1 b) → τ.1 0 0 = i32 0 → Q (i32 (10 * G 9 0 + G 9 1)) τ) : M_X12_setDiscount v1 v2 σ Q := by
  obtain ⟨hW, hG, ⟨p, hp⟩, hK⟩ := id hR
  refine v_X12_setDiscount (m_inG (a := 1) (b := 2) (by omega) (by omega) (fun a ha1 ha2 hv1 => ⟨fun z => absurd z (by decide), fun _ => ?_⟩) (fun z => ⟨fun _ => v_X12_setDiscount_23 (m_fails (h1 (fun a b x1 x2 x3 x4 _ => z a x1 (by omega) x4))), fun y => absurd rfl y⟩))
  refine m_inG (a := 2) (b := 3) (by omega) (by omega) (fun b hb1 hb2 hv2 => ⟨fun z => absurd z (by decide), fun _ => ?_⟩) (fun z => ⟨fun _ => v_X12_setDiscount_23 (m_fails (h1 (fun a b x1 x2 x3 _ x4 => z b (by omega) x3 x4))), fun y => absurd rfl y⟩)
  have h1' := h1
  have h0' := fun τ => h0 a b τ ha1
  rw [hv1, hv2] at h1' h0'
  rw [hv1, hv2]
  simp (disch := omega) only [n0, n1, n2, n3, n4, n5, n6, n7, n8, n9, n49, n97, n98, n114, n102, n115, n119, n109, n112, i32_add, i32_mul, i32_N, i32_le, i32_lt, i32_eq, vpi_iff]
  refine ⟨fun z => ?_, fun z => v_X12_setDiscount_23 (m_fails (h1' (fun a' b' x1 x2 x3 x4 x5 => ?_)))⟩
  · refine m_changes (fun τ f1 k1 => ?_)
    have hG1 := (hG.c0 (x := i32 0) (Or.inl rfl)).fr f1 (by decide)
    obtain ⟨⟨b1, b2, b3, b4, b5⟩, b6⟩ := id hG1
    rw [b2, b3, show (10 : Int32) = i32 10 from rfl]
    simp (disch := omega) only [n0, n1, n2, n3, n4, n5, n6, n7, n8, n9, n49, n97, n98, n114, n102, n115, n119, n109, n112, i32_add, i32_mul, i32_N, i32_le, i32_lt, i32_eq, vpi_iff]
    rintro _ rfl _ rfl _ rfl
    have f2 : Fr [0] [] [] τ (cg_i (cg_i τ 0 2 (i32 a)) 0 3 (i32 b)) := (Fr.i (by decide)).tr (Fr.i (by decide))
    have f3 : Fr [0, 19] [] [] σ (cg_i (cg_i τ 0 2 (i32 a)) 0 3 (i32 b)) := ((Fr.i (k := 0) (j := 0) (x := i32 0) (by decide)).tr (f1.mo (by simp) (by simp) (by simp))).tr (f2.mo (by simp) (by simp) (by simp))
    have r0 : ∀ i, i ≠ 2 → i ≠ 3 → (cg_i (cg_i τ 0 2 (i32 a)) 0 3 (i32 b)).1 0 i = τ.1 0 i := fun i x y => by rw [ri, if_pos rfl, if_neg y, ri, if_pos rfl, if_neg x]
    refine h0' _ z hb2 rfl rfl ⟨?_, ?_, ⟨p, hp.fr f3 (by decide)⟩, KN_0 (fun j hj => by rw [f2.1 19 (by decide)]; exact k1 j hj)⟩ ?_
    · exact ⟨hW.1, hW.2.1, hW.2.2.1, ⟨z, ha1, hb2⟩, hW.2.2.2.2⟩
    · refine ⟨⟨?_, ?_, ?_, ?_, ?_⟩, ?_⟩
      · rw [r0 1 (by decide) (by decide)]; exact b1
      · rw [ri, if_pos rfl, if_neg (by decide), ri, if_pos rfl, if_pos rfl]; rfl
      · rw [ri, if_pos rfl, if_pos rfl]; rfl
      · rw [r0 4 (by decide) (by decide)]; exact b4
      · rw [r0 5 (by decide) (by decide)]; exact b5
      · rw [f2.1 1 (by decide), f2.1 2 (by decide), f2.1 3 (by decide), f2.1 15 (by decide), f2.1 4 (by decide), f2.1 7 (by decide), f2.1 8 (by decide), f2.1 9 (by decide), f2.1 10 (by decide)]
        exact b6
    · rw [r0 0 (by decide) (by decide), f1.1 0 (by decide), ri, if_pos rfl, if_pos rfl]
  · rw [i32_eq (by omega) (by omega)] at x4 x5
    omega
theorem m_setWeights {v1 v2 : Int32} {G : Gm} {σ : cg_S} {Q : Int32 → cg_S → Prop} (hR : RB σ G) (h1 : (∀ a b, a ≤ 3 → b ≤ 3 → v1 = i32 a → v2 ≠ i32 b) → Q 0 (cg_i σ 0 0 (i32 1))) (h0 : ∀ a b τ, a ≤ 3 → b ≤ 3 → v1 = i32 a → v2 = i32 b → RB τ (gU (gU G 9 2 a) 9 3 b) → τ.1 0 0 = i32 0 → Q (i32 (10 * G 9 2 + G 9 3)) τ) : M_X12_setWeights v1 v2 σ Q := by
  obtain ⟨hW, hG, ⟨p, hp⟩, hK⟩ := id hR
  refine v_X12_setWeights (m_inG (a := 0) (b := 3) (by omega) (by omega) (fun a _ ha2 hv1 => ⟨fun z => absurd z (by decide), fun _ => ?_⟩) (fun z => ⟨fun _ => v_X12_setWeights_18 (m_fails (h1 (fun a b x1 x2 x4 _ => z a (by omega) (by omega) x4))), fun y => absurd rfl y⟩))
  refine m_inG (a := 0) (b := 3) (by omega) (by omega) (fun b _ hb2 hv2 => ⟨fun _ => ?_, fun z => absurd z (by decide)⟩) (fun z => ⟨fun y => absurd rfl y, fun _ => v_X12_setWeights_18 (m_fails (h1 (fun a b x1 x2 _ x4 => z b (by omega) x2 x4)))⟩)
  refine m_changes (fun τ f1 k1 => ?_)
  have hG1 := (hG.c0 (x := i32 0) (Or.inl rfl)).fr f1 (by decide)
  obtain ⟨⟨b1, b2, b3, b4, b5⟩, b6⟩ := id hG1
  rw [b4, b5, show (10 : Int32) = i32 10 from rfl]
  simp (disch := omega) only [n0, n1, n2, n3, n4, n5, n6, n7, n8, n9, n49, n97, n98, n114, n102, n115, n119, n109, n112, i32_add, i32_mul, i32_N, i32_le, i32_lt, i32_eq, vpi_iff]
  rintro _ rfl _ rfl _ rfl
  have f2 : Fr [0] [] [] τ (cg_i (cg_i τ 0 4 v1) 0 5 v2) := (Fr.i (by decide)).tr (Fr.i (by decide))
  have f3 : Fr [0, 19] [] [] σ (cg_i (cg_i τ 0 4 v1) 0 5 v2) := ((Fr.i (k := 0) (j := 0) (x := i32 0) (by decide)).tr (f1.mo (by simp) (by simp) (by simp))).tr (f2.mo (by simp) (by simp) (by simp))
  have r0 : ∀ i, i ≠ 4 → i ≠ 5 → (cg_i (cg_i τ 0 4 v1) 0 5 v2).1 0 i = τ.1 0 i := fun i x y => by rw [ri, if_pos rfl, if_neg y, ri, if_pos rfl, if_neg x]
  refine h0 a b _ ha2 hb2 hv1 hv2 ⟨?_, ?_, ⟨p, hp.fr f3 (by decide)⟩, KN_0 (fun j hj => by rw [f2.1 19 (by decide)]; exact k1 j hj)⟩ ?_
  · exact ⟨hW.1, hW.2.1, hW.2.2.1, hW.2.2.2.1, ha2, hb2⟩
  · refine ⟨⟨?_, ?_, ?_, ?_, ?_⟩, ?_⟩
    · rw [r0 1 (by decide) (by decide)]; exact b1
    · rw [r0 2 (by decide) (by decide)]; exact b2
    · rw [r0 3 (by decide) (by decide)]; exact b3
    · rw [ri, if_pos rfl, if_neg (by decide), ri, if_pos rfl, if_pos rfl]; exact hv1
    · rw [ri, if_pos rfl, if_pos rfl]; exact hv2
    · rw [f2.1 1 (by decide), f2.1 2 (by decide), f2.1 3 (by decide), f2.1 15 (by decide), f2.1 4 (by decide), f2.1 7 (by decide), f2.1 8 (by decide), f2.1 9 (by decide), f2.1 10 (by decide)]
      exact b6
  · rw [r0 0 (by decide) (by decide), f1.1 0 (by decide), ri, if_pos rfl, if_pos rfl]
theorem m_tell {v1 v2 : Int32} {G : Gm} {σ : cg_S} {Q : Int32 → cg_S → Prop} (hR : RB σ G) (h1 : (∀ s c, s < G 0 0 → v1 = i32 s → c < G 3 s → v2 ≠ i32 c) → Q 0 (cg_i σ 0 0 (i32 1))) (h0 : ∀ s c τ, s < G 0 0 → v1 = i32 s → c < G 3 s → v2 = i32 c → RB τ (gU G 10 s c) → τ.1 0 0 = i32 0 → Q (i32 (G 10 s)) τ) : M_X12_tell v1 v2 σ Q := by
  obtain ⟨hW, hG, ⟨p, hp⟩, hK⟩ := id hR
  have hn := hW.1
  refine v_X12_tell (m_isChoice hR (fun s c hs hv1 hc hv2 => ⟨fun _ => ?_, fun z => absurd z (by decide)⟩) (fun z => ⟨fun y => absurd rfl y, fun _ => m_fails (h1 z)⟩))
  have h0' := fun τ => h0 s c τ hs hv1 hc hv2
  have g3 := (hW.2.1 s (by omega)).2.2.1
  rw [hv1, hv2]
  simp (disch := omega) only [n0, n1, n2, n3, n4, n5, n6, n7, n8, n9, n49, n97, n98, n114, n102, n115, n119, n109, n112, i32_add, i32_mul, i32_N, i32_le, i32_lt, i32_eq, vpi_iff]
  rintro _ rfl
  have hG1 := hG.c0 (x := i32 0) (Or.inl rfl)
  refine ⟨by omega, ?_⟩
  rw [(hG1.2.2.1 s (by omega)).2.2.2]
  rintro _ rfl
  refine ⟨by omega, ?_⟩
  rintro _ rfl
  have f1 : Fr [0] [] [] σ (cg_i σ 0 0 (i32 0)) := Fr.i (by decide)
  have f2 : Fr [4] [] [] (cg_i σ 0 0 (i32 0)) (cg_i (cg_i σ 0 0 (i32 0)) 4 s (i32 c)) := Fr.i (by decide)
  refine h0' _ ⟨?_, ?_, ⟨p, (hp.fr f1 (by decide)).fr f2 (by decide)⟩, fun aim ha => ?_⟩ ?_
  · obtain ⟨h1, h2, h3, h4⟩ := hW
    refine ⟨h1, fun t ht => ?_, h3, h4⟩
    obtain ⟨a1, a2, a3, a4, a5, a6⟩ := h2 t ht
    refine ⟨a1, a2, a3, a4, ?_, ?_⟩
    · show (if t = s then c else G 10 t) ≤ 2
      split <;> omega
    · show (if t = s then c else G 10 t) = 0 ∨ (if t = s then c else G 10 t) < G 3 t
      split
      · rename_i e
        subst e
        exact Or.inr hc
      · exact a6
  · obtain ⟨b1, b6, b7, b8, b9⟩ := hG1
    refine ⟨?_, fun t ht => ?_, fun t ht => ?_, fun m hm => ?_, fun j hj => ?_⟩
    · rw [f2.1 0 (by decide)]; exact b1
    · rw [f2.1 1 (by decide)]; exact b6 t ht
    · obtain ⟨d1, d2, d3, d4⟩ := b7 t ht
      refine ⟨by rw [f2.1 2 (by decide)]; exact d1, by rw [f2.1 3 (by decide)]; exact d2, by rw [f2.1 15 (by decide)]; exact d3, ?_⟩
      rw [ri, if_pos rfl]
      show _ = i32 (if t = s then c else G 10 t)
      by_cases e : t = s
      · rw [if_pos e, if_pos e]
      · rw [if_neg e, if_neg e]; exact d4
    · rw [f2.1 7 (by decide), f2.1 8 (by decide), f2.1 9 (by decide)]; exact b8 m hm
    · rw [f2.1 10 (by decide)]; exact b9 j hj
  · exact ((hK.fr f1 (by decide)).fr f2 (by decide)) aim ha
  · rw [f2.1 0 (by decide), ri, if_pos rfl, if_pos rfl]
theorem m_chance {v1 v2 v3 : Int32} {G : Gm} {σ : cg_S} {Q : Int32 → cg_S → Prop} (hR : RB σ G) (h1 : (∀ s c t, s < G 0 0 → v1 = i32 s → c < G 3 s → v2 = i32 c → t < G 0 0 → v3 ≠ i32 t) → Q 0 (cg_i σ 0 0 (i32 1))) (h2 : ∀ s c t, s < G 0 0 → v1 = i32 s → c < G 3 s → v2 = i32 c → t < G 0 0 → v3 = i32 t → G 6 (3 * s + c) = 0 → Q 0 (cg_i σ 0 0 (i32 2))) (h0 : ∀ s c t τ, s < G 0 0 → v1 = i32 s → c < G 3 s → v2 = i32 c → t < G 0 0 → v3 = i32 t → G 6 (3 * s + c) ≠ 0 → RB τ G → τ.1 0 0 = i32 0 → Q (i32 (10 * (((G 7 (7 * (3 * s + c) + t) : Nat) : Rat) / ((G 6 (3 * s + c) : Nat) : Rat)).num.toNat + (((G 7 (7 * (3 * s + c) + t) : Nat) : Rat) / ((G 6 (3 * s + c) : Nat) : Rat)).den)) τ) : M_X12_chance v1 v2 v3 σ Q := by
  obtain ⟨hW, hG, ⟨p, hp⟩, hK⟩ := id hR
  have hn := hW.1
  refine v_X12_chance (m_isChoice hR (fun s c hs hv1 hc hv2 => ⟨fun z => absurd z (by decide), fun _ => ?_⟩) (fun z => ⟨fun _ => v_X12_chance_17 (m_fails (h1 (fun s c t hs e1 hc e2 _ => absurd e2 (z s c hs e1 hc)))), fun y => absurd rfl y⟩))
  have g3 := (hW.2.1 s (by omega)).2.2.1
  refine m_isState hn hG.1.1 (fun t ht hv3 => ⟨fun _ => ?_, fun z => absurd z (by decide)⟩) (fun z => ⟨fun y => absurd rfl y, fun _ => v_X12_chance_17 (m_fails (h1 (fun s c t _ _ _ _ ht => z t ht)))⟩)
  have h0' := fun τ => h0 s c t τ hs hv1 hc hv2 ht hv3
  have h2' := h2 s c t hs hv1 hc hv2 ht hv3
  have g6 := (hW.2.2.1 (3 * s + c) (by omega)).2.2.1
  have g7 := hW.w6 (m := 3 * s + c) (t := t) (by omega) (by omega)
  rw [hv1, hv2, hv3]
  simp (disch := omega) only [n0, n1, n2, n3, n4, n5, n6, n7, n8, n9, n49, n97, n98, n114, n102, n115, n119, n109, n112, i32_add, i32_mul, i32_N, i32_le, i32_lt, i32_eq, vpi_iff]
  rintro _ rfl
  rw [i32_N (by omega), (hG.2.2.2.1 (3 * s + c) (by omega)).2.2]
  simp (disch := omega) only [n0, n1, n2, n3, n4, n5, n6, n7, n8, n9, n49, n97, n98, n114, n102, n115, n119, n109, n112, i32_add, i32_mul, i32_N, i32_le, i32_lt, i32_eq, vpi_iff]
  refine ⟨by omega, fun z => ?_, fun z => m_fails (h2' z)⟩
  rintro _ rfl
  have hG1 := hG.c0 (x := i32 0) (Or.inl rfl)
  refine ⟨by omega, by omega, ?_⟩
  rw [hG1.2.2.2.2 _ (by omega), (hG1.2.2.2.1 (3 * s + c) (by omega)).2.2, i32_64 (by omega), i32_64 (by omega)]
  refine m_lowers (by unfold zfit; omega) (by unfold zfit; omega) (by omega) (fun τ f1 f2 e1 e2 => ?_)
  have hb := rat_num_le (a := ((G 7 (7 * (3 * s + c) + t) : Nat) : Int)) (b := ((G 6 (3 * s + c) : Nat) : Int)) (by omega)
  have hnn : 0 ≤ (((G 7 (7 * (3 * s + c) + t) : Nat) : Rat) / ((G 6 (3 * s + c) : Nat) : Rat)).num := Rat.num_nonneg.mpr (rat_div_nonneg Rat.natCast_nonneg (Rat.natCast_pos.mpr (by omega)))
  have ec : ∀ k : Nat, (((k : Nat) : Int) : Rat) = ((k : Nat) : Rat) := fun k => rfl
  rw [ec, ec] at e1 e2 hb
  rw [e1, e2]
  have f0 : Fr [0] [] [] σ (cg_i σ 0 0 (i32 0)) := Fr.i (by decide)
  have h9 := h0' τ z ⟨hW, hG1.fr f1 (by decide), ⟨p, (hp.fr f0 (by decide)).fr f1 (by decide)⟩, (hK.fr f0 (by decide)).fr f1 (by decide)⟩ (by rw [f1.1 0 (by decide), ri, if_pos rfl, if_pos rfl])
  generalize ((G 7 (7 * (3 * s + c) + t) : Nat) : Rat) / ((G 6 (3 * s + c) : Nat) : Rat) = q at *
  have e5 : (10 * i64 q.num + i64 (q.den : Nat)).toInt32 = i32 (10 * q.num.toNat + q.den) := by
    rw [show (10 : Int64) = i64 10 from rfl, i64_mul, i64_add]
    show (Int64.ofInt _).toInt32 = Int32.ofNat _
    rw [Int64.toInt32_ofInt, ← Int32.ofInt_eq_ofNat]
    congr 1
    omega
  rw [e5]
  exact h9
