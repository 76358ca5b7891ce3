/-! THE CLASS: a state more -/
theorem op_addState {n : Nat} {v1 v2 : Int32} {a b : cg_S} (hn : n < 900) (h : Inv n a b) : OP_addState (Inv (n + 1)) v1 v2 a b := by
  obtain ⟨G, ch, hch, hC, hK, hR⟩ := h
  have hW := hR.1
  have hn7 := hW.1
  -- the reference fails
  have f1 : ¬ ((v1 = i32 97 ∨ v1 = i32 98) ∧ ∃ c, c ≤ 3 ∧ v2 = i32 c) → M_X12_addState v1 v2 b (fun r2 b1 => M_X12_thrown b1 (fun t b2 => t = 1 ∧ Inv (n + 1) a b2)) := fun z => by
    exact m_addState hR (fun _ => m_thrown0 ⟨rfl, Inv.up hch hC hK hR⟩) (fun y => absurd y z) (fun ia c τ y hc e _ _ => absurd ⟨y.imp And.left And.left, c, hc, e⟩ z)
  have ok : ∀ ia, (v1 = i32 97 ∧ ia = 1 ∨ v1 = i32 98 ∧ ia = 0) → ∀ c, c ≤ 3 → v2 = i32 c → G 0 0 ≠ 7 → L_X11_addState_60 v2 (i32 ia) a (fun r a1 => M_X12_addState v1 v2 b (fun r2 b1 => M_X12_thrown b1 (fun t b2 => t = 0 ∧ r = r2 ∧ Inv (n + 1) a1 b2))) (fun E a1 => (E = "java/lang/IllegalArgumentException" ∧ M_X12_addState v1 v2 b (fun r2 b1 => M_X12_thrown b1 (fun t b2 => t = 1 ∧ Inv (n + 1) a1 b2))) ∨ (E = "java/lang/IllegalStateException" ∧ M_X12_addState v1 v2 b (fun r2 b1 => M_X12_thrown b1 (fun t b2 => t = 2 ∧ Inv (n + 1) a1 b2)))) := fun ia hia c hc hv2 h7 => by
    have hia1 : ia ≤ 1 := by omega
    obtain ⟨⟨c1, c2, c3, c4, c5, c6, c7⟩, c8, c9⟩ := id hC
    refine v_X11_addState_60 (v_X2_placeState ?_)
    rw [c1, vnb hia1]
    rintro _ rfl
    refine ⟨vpi (by omega) (by omega), ?_⟩
    rw [i32_N (by omega)]
    rintro _ rfl
    refine ⟨vpi (by omega) (by omega), ?_⟩
    rintro _ rfl
    have e1 : (cg_i (cg_i a 57 (G 0 0) (i32 ia)) 20 (G 0 0) v2).1 1 0 = i32 (G 0 0) := by
      rw [ri, if_neg (by decide), ri, if_neg (by decide)]; exact c1
    rw [e1]
    rintro _ rfl
    have e2 : (cg_i (cg_i (cg_i a 57 (G 0 0) (i32 ia)) 20 (G 0 0) v2) 1 0 (i32 (G 0 0) + 1)).1 1 6 = i32 ch := by
      rw [ri, if_pos rfl, if_neg (by decide), ri, if_neg (by decide), ri, if_neg (by decide)]; exact c7
    rw [e2]
    rintro _ rfl
    rw [i32_s, i32_s]
    have fr : Fr [1, 20, 57] [] [] a (cg_i (cg_i (cg_i (cg_i a 57 (G 0 0) (i32 ia)) 20 (G 0 0) v2) 1 0 (i32 (G 0 0 + 1))) 1 6 (i32 (ch + 1))) := (Fr.i (by decide)).tr ((Fr.i (by decide)).tr ((Fr.i (by decide)).tr (Fr.i (by decide))))
    have g1 : ∀ i, i ≠ 0 → i ≠ 6 → (cg_i (cg_i (cg_i (cg_i a 57 (G 0 0) (i32 ia)) 20 (G 0 0) v2) 1 0 (i32 (G 0 0 + 1))) 1 6 (i32 (ch + 1))).1 1 i = a.1 1 i := fun i h0 h6 => by
      rw [ri, if_pos rfl, if_neg h6, ri, if_pos rfl, if_neg h0, ri, if_neg (by decide), ri, if_neg (by decide)]
    have hv1 : v1 = i32 97 ∨ v1 = i32 98 := hia.imp And.left And.left
    refine m_addState hR (fun z => absurd ⟨hv1, c, hc, hv2⟩ z) (fun _ z => absurd z h7) (fun ia' c' τ hia' hc' hv2' _ hR' h0 => m_thrown1 h0 ⟨rfl, rfl, ?_⟩)
    · have ei : ia' = ia := by
        rcases hia with ⟨y, z⟩ | ⟨y, z⟩ <;> rcases hia' with ⟨y', z'⟩ | ⟨y', z'⟩
        · omega
        · rw [y] at y'; exact absurd y' (by decide)
        · rw [y] at y'; exact absurd y' (by decide)
        · omega
      have ec : c' = c := by
        rw [hv2, i32_eq (by omega) (by omega)] at hv2'; exact hv2'.symm
      subst ei; subst ec
      refine ⟨gAddS G ia' c', ch + 1, by omega, ⟨⟨?_, ?_, ?_, ?_, ?_, ?_, ?_⟩, fun s hs => ⟨?_, ?_, ?_, ?_⟩, fun m hm => ?_⟩, CK_next (by omega) hK (fr.1 31 (by decide)), hR'⟩
      · rw [ri, if_pos rfl, if_neg (by decide), ri, if_pos rfl, if_pos rfl]; rfl
      · rw [g1 1 (by decide) (by decide)]; exact c2
      · rw [g1 2 (by decide) (by decide)]; exact c3
      · rw [g1 3 (by decide) (by decide)]; exact c4
      · rw [g1 4 (by decide) (by decide)]; exact c5
      · rw [g1 5 (by decide) (by decide)]; exact c6
      · rw [ri, if_pos rfl, if_pos rfl]
      · rw [ri, if_neg (by decide), ri, if_neg (by decide), ri, if_neg (by decide), ri, if_pos rfl]
        show _ = i32 (if s = G 0 0 then ia' else G 1 s)
        by_cases e : s = G 0 0
        · rw [if_pos e, if_pos e]
        · rw [if_neg e, if_neg e]; exact (c8 s hs).1
      · rw [ri, if_neg (by decide), ri, if_neg (by decide), ri, if_pos rfl]
        show _ = i32 (if s = G 0 0 then c' else G 2 s)
        by_cases e : s = G 0 0
        · rw [if_pos e, if_pos e]; exact hv2
        · rw [if_neg e, if_neg e, ri, if_neg (by decide)]; exact (c8 s hs).2.1
      · rw [fr.1 21 (by decide)]; exact (c8 s hs).2.2.1
      · rw [fr.1 19 (by decide)]; exact (c8 s hs).2.2.2
      · obtain ⟨d1, d2, d3, d4, d5⟩ := c9 m hm
        rw [fr.1 22 (by decide), fr.1 23 (by decide), fr.1 24 (by decide), fr.1 25 (by decide), fr.1 (36 + m) (by simp; omega)]
        exact ⟨d1, d2, d3, d4, d5⟩
  refine v_X11_addState (c_needPlayer (fun hv1 => ?_) (fun hv1 => Or.inl ⟨rfl, f1 (fun y => hv1 y.1)⟩))
  refine ⟨fun z => Or.inl ⟨rfl, f1 (fun ⟨_, c, hc, e⟩ => rg_lo (a := 0) (by omega) z c (Nat.zero_le _) (by omega) e)⟩, fun z => ⟨fun z2 => ?_, fun z2 => Or.inl ⟨rfl, f1 (fun ⟨_, c, hc, e⟩ => rg_hi (b := 3) (by omega) z2 c hc e)⟩⟩⟩
  obtain ⟨c, -, hc, hv2⟩ := rg (a := 0) (b := 3) (by omega) (by omega) z z2
  rw [hC.1.1, n7, i32_lt (by omega) (by omega)]
  refine ⟨fun z3 => ⟨fun z4 => ?_, fun z4 => ?_⟩, fun z3 => Or.inr ⟨rfl, ?_⟩⟩
  · exact ok 0 (Or.inr ⟨hv1.resolve_left z4, rfl⟩) c hc hv2 (by omega)
  · exact ok 1 (Or.inl ⟨z4, rfl⟩) c hc hv2 (by omega)
  · exact m_addState hR (fun y => absurd ⟨hv1, c, hc, hv2⟩ y) (fun _ _ => m_thrown0 ⟨rfl, Inv.up hch hC hK hR⟩) (fun _ _ _ _ _ _ y _ _ => absurd (by omega) y)
