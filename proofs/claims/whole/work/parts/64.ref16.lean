/-! THE REFERENCE: what changes the game, on -/
/-- a choice more -/
def gAddC (G : Gm) (s a b : Nat) : Gm := gU (gU (gU G 4 (3 * s + G 3 s) a) 5 (3 * s + G 3 s) b) 3 s (G 3 s + 1)
theorem GW_addC {G : Gm} {s a b : Nat} (hW : GW G) (hs : s < 7) (hc : G 3 s ≠ 3) (ha : a ≤ 9) (hb : b ≤ 9) : GW (gAddC G s a b) := by
  obtain ⟨h1, h2, h3, h4⟩ := hW
  refine ⟨h1, fun t ht => ?_, fun m hm => ?_, h4⟩
  · obtain ⟨a1, a2, a3, a4, a5, a6⟩ := h2 t ht
    refine ⟨a1, a2, ?_, a4, a5, ?_⟩
    · show (if t = s then G 3 s + 1 else G 3 t) ≤ 3
      split
      · have := (h2 s hs).2.2.1; omega
      · exact a3
    · show G 10 t = 0 ∨ G 10 t < (if t = s then G 3 s + 1 else G 3 t)
      split
      · rename_i e
        subst e
        omega
      · exact a6
  · obtain ⟨a1, a2, a3, a4, a5⟩ := h3 m hm
    refine ⟨?_, ?_, a3, a4, a5⟩
    · show (if m = 3 * s + G 3 s then a else G 4 m) ≤ 9
      split <;> omega
    · show (if m = 3 * s + G 3 s then b else G 5 m) ≤ 9
      split <;> omega
theorem m_addChoice {v1 v2 v3 : Int32} {G : Gm} {σ : cg_S} {Q : Int32 → cg_S → Prop} (hR : RB σ G) (h1 : (∀ s, s < G 0 0 → v1 ≠ i32 s) → Q 0 (cg_i σ 0 0 (i32 1))) (h2 : ∀ s, s < G 0 0 → v1 = i32 s → ((∀ a, a ≤ 9 → v2 ≠ i32 a) ∨ ∀ a, a ≤ 9 → v3 ≠ i32 a) → Q 0 (cg_i σ 0 0 (i32 2))) (h3 : ∀ s a b, s < G 0 0 → v1 = i32 s → a ≤ 9 → v2 = i32 a → b ≤ 9 → v3 = i32 b → G 3 s = 3 → Q 0 (cg_i σ 0 0 (i32 3))) (h0 : ∀ s a b τ, s < G 0 0 → v1 = i32 s → a ≤ 9 → v2 = i32 a → b ≤ 9 → v3 = i32 b → G 3 s ≠ 3 → RB τ (gAddC G s a b) → τ.1 0 0 = i32 0 → Q (i32 (G 3 s)) τ) : M_X12_addChoice v1 v2 v3 σ Q := by
  obtain ⟨hW, hG, ⟨p, hp⟩, hK⟩ := id hR
  have hn := hW.1
  refine v_X12_addChoice (m_isState hn hG.1.1 (fun s hs hv1 => ⟨fun _ => ?_, fun z => absurd z (by decide)⟩) (fun z => ⟨fun y => absurd rfl y, fun _ => m_fails (h1 z)⟩))
  have g3 := (hW.2.1 s (by omega)).2.2.1
  refine m_inG (a := 0) (b := 9) (by omega) (by omega) (fun a _ ha hv2 => ⟨fun z => absurd z (by decide), fun _ => ?_⟩) (fun z => ⟨fun _ => v_X12_addChoice_34 (m_fails (h2 s hs hv1 (Or.inl (fun a ha => z a (Nat.zero_le _) ha)))), fun y => absurd rfl y⟩)
  refine m_inG (a := 0) (b := 9) (by omega) (by omega) (fun b _ hb hv3 => ⟨fun _ => ?_, fun z => absurd z (by decide)⟩) (fun z => ⟨fun y => absurd rfl y, fun _ => v_X12_addChoice_34 (m_fails (h2 s hs hv1 (Or.inr (fun a ha => z a (Nat.zero_le _) ha))))⟩)
  have h0' := fun τ => h0 s a b τ hs hv1 ha hv2 hb hv3
  have h3' := h3 s a b hs hv1 ha hv2 hb hv3
  rw [hv1]
  simp (disch := omega) only [n0, n1, n2, n3, n4, n5, n6, n7, n8, n9, n49, n97, n98, n114, n102, n115, n119, n109, n112, i32_add, i32_mul, i32_N, i32_le, i32_lt, i32_eq, vpi_iff]
  rw [(hG.2.2.1 s (by omega)).2.1]
  simp (disch := omega) only [n0, n1, n2, n3, n4, n5, n6, n7, n8, n9, n49, n97, n98, n114, n102, n115, n119, n109, n112, i32_add, i32_mul, i32_N, i32_le, i32_lt, i32_eq, vpi_iff]
  refine ⟨by omega, fun z => ?_, fun z => m_fails (h3' z)⟩
  refine m_changes (fun τ f1 k1 => ?_)
  have hG1 := (hG.c0 (x := i32 0) (Or.inl rfl)).fr f1 (by decide)
  refine ⟨by omega, ?_⟩
  rw [(hG1.2.2.1 s (by omega)).2.1]
  simp (disch := omega) only [n0, n1, n2, n3, n4, n5, n6, n7, n8, n9, n49, n97, n98, n114, n102, n115, n119, n109, n112, i32_add, i32_mul, i32_N, i32_le, i32_lt, i32_eq, vpi_iff]
  rintro _ rfl
  refine ⟨vpi (by omega) (by omega), ?_⟩
  rintro _ rfl
  refine ⟨vpi (by omega) (by omega), ?_⟩
  rintro _ rfl
  refine ⟨by omega, by omega, ?_⟩
  rw [i32_N (by omega)]
  have e1 : (cg_i (cg_i τ 7 (3 * s + G 3 s) v2) 8 (3 * s + G 3 s) v3).1 3 s = i32 (G 3 s) := by
    rw [ri, if_neg (by decide), ri, if_neg (by decide)]; exact (hG1.2.2.1 s (by omega)).2.1
  rw [e1]
  rintro _ rfl
  refine ⟨by omega, ?_⟩
  have e3 : (cg_i (cg_i (cg_i τ 7 (3 * s + G 3 s) v2) 8 (3 * s + G 3 s) v3) 3 s (i32 (G 3 s) + i32 1)).1 3 s = i32 (G 3 s + 1) := by rw [ri, if_pos rfl, if_pos rfl, i32_add]
  rw [e3, i32_sub (by omega), Nat.add_sub_cancel]
  have f2 : Fr [3, 7, 8] [] [] τ (cg_i (cg_i (cg_i τ 7 (3 * s + G 3 s) v2) 8 (3 * s + G 3 s) v3) 3 s (i32 (G 3 s) + i32 1)) := (Fr.i (by decide)).tr ((Fr.i (by decide)).tr (Fr.i (by decide)))
  have f3 : Fr [0, 3, 7, 8, 19] [] [] σ (cg_i (cg_i (cg_i τ 7 (3 * s + G 3 s) v2) 8 (3 * s + G 3 s) v3) 3 s (i32 (G 3 s) + i32 1)) := ((Fr.i (k := 0) (j := 0) (x := i32 0) (by decide)).tr (f1.mo (by simp) (by simp) (by simp))).tr (f2.mo (by simp) (by simp) (by simp))
  refine h0' _ z ⟨GW_addC hW (by omega) z ha hb, ?_, ⟨p, hp.fr f3 (by decide)⟩, KN_0 (fun k hk => by rw [f2.1 19 (by decide)]; exact k1 k hk)⟩ ?_
  · obtain ⟨b1, b6, b7, b8, b9⟩ := hG1
    refine ⟨?_, fun t ht => ?_, fun t ht => ?_, fun m hm => ?_, fun j hj => ?_⟩
    · rw [f2.1 0 (by decide)]; exact b1
    · rw [f2.1 1 (by decide)]; exact b6 t ht
    · obtain ⟨d1, d2, d3, d4⟩ := b7 t ht
      refine ⟨?_, ?_, ?_, ?_⟩
      · rw [f2.1 2 (by decide)]; exact d1
      · rw [ri, if_pos rfl, i32_add]
        show _ = i32 (if t = s then G 3 s + 1 else G 3 t)
        by_cases e : t = s
        · rw [if_pos e, if_pos e]
        · rw [if_neg e, if_neg e, ri, if_neg (by decide), ri, if_neg (by decide)]; exact d2
      · rw [f2.1 15 (by decide)]; exact d3
      · rw [f2.1 4 (by decide)]; exact d4
    · obtain ⟨d1, d2, d3⟩ := b8 m hm
      refine ⟨?_, ?_, ?_⟩
      · rw [ri, if_neg (by decide), ri, if_neg (by decide), ri, if_pos rfl]
        show _ = i32 (if m = 3 * s + G 3 s then a else G 4 m)
        by_cases e : m = 3 * s + G 3 s
        · rw [if_pos e, if_pos e]; exact hv2
        · rw [if_neg e, if_neg e]; exact d1
      · rw [ri, if_neg (by decide), ri, if_pos rfl]
        show _ = i32 (if m = 3 * s + G 3 s then b else G 5 m)
        by_cases e : m = 3 * s + G 3 s
        · rw [if_pos e, if_pos e]; exact hv3
        · rw [if_neg e, if_neg e, ri, if_neg (by decide)]; exact d2
      · rw [f2.1 9 (by decide)]; exact d3
    · rw [f2.1 10 (by decide)]; exact b9 j hj
  · rw [f2.1 0 (by decide), f1.1 0 (by decide), ri, if_pos rfl, if_pos rfl]
/-- weight more -/
def gAddW (G : Gm) (m t w : Nat) : Gm := gU (gU G 7 (7 * m + t) (G 7 (7 * m + t) + w)) 6 m (G 6 m + w)
theorem GW_addW {G : Gm} {m t w : Nat} (hW : GW G) (hm : m < 21) (ht : t < G 0 0) (hw : G 6 m + w ≤ 6) : GW (gAddW G m t w) := by
  obtain ⟨h1, h2, h3, h4⟩ := hW
  refine ⟨h1, h2, fun m' hm' => ?_, h4⟩
  obtain ⟨a1, a2, a3, a4, a5⟩ := h3 m' hm'
  refine ⟨a1, a2, ?_, ?_, fun u hu h => ?_⟩
  · show (if m' = m then G 6 m + w else G 6 m') ≤ 6
    split <;> omega
  · show (if m' = m then G 6 m + w else G 6 m') = sN (G 0 0) (fun u => if 7 * m' + u = 7 * m + t then G 7 (7 * m + t) + w else G 7 (7 * m' + u))
    by_cases e : m' = m
    · subst e
      rw [if_pos rfl, a4]
      refine (sN_add (j := t) (G 0 0) ht ?_ (fun i hi => ?_)).symm
      · rw [if_pos rfl]
      · rw [if_neg (by omega)]
    · rw [if_neg e, a4]
      exact sN_congr _ (fun i hi => by rw [if_neg (by omega)])
  · have h' : G 0 0 ≤ u := h
    show (if 7 * m' + u = 7 * m + t then G 7 (7 * m + t) + w else G 7 (7 * m' + u)) = 0
    rw [if_neg (by omega)]
    exact a5 u hu h
theorem m_addWeight {v1 v2 v3 v4 : Int32} {G : Gm} {σ : cg_S} {Q : Int32 → cg_S → Prop} (hR : RB σ G) (h1 : (∀ s c t, s < G 0 0 → v1 = i32 s → c < G 3 s → v2 = i32 c → t < G 0 0 → v3 ≠ i32 t) → Q 0 (cg_i σ 0 0 (i32 1))) (h2 : ∀ s c t, s < G 0 0 → v1 = i32 s → c < G 3 s → v2 = i32 c → t < G 0 0 → v3 = i32 t → (∀ w, 1 ≤ w → w ≤ 6 → v4 ≠ i32 w) → Q 0 (cg_i σ 0 0 (i32 2))) (h3 : ∀ s c t w, s < G 0 0 → v1 = i32 s → c < G 3 s → v2 = i32 c → t < G 0 0 → v3 = i32 t → 1 ≤ w → w ≤ 6 → v4 = i32 w → ¬ G 6 (3 * s + c) + w ≤ 6 → Q 0 (cg_i σ 0 0 (i32 3))) (h0 : ∀ s c t w τ, s < G 0 0 → v1 = i32 s → c < G 3 s → v2 = i32 c → t < G 0 0 → v3 = i32 t → 1 ≤ w → w ≤ 6 → v4 = i32 w → G 6 (3 * s + c) + w ≤ 6 → RB τ (gAddW G (3 * s + c) t w) → τ.1 0 0 = i32 0 → Q (i32 (G 6 (3 * s + c) + w)) τ) : M_X12_addWeight v1 v2 v3 v4 σ Q := by
  obtain ⟨hW, hG, ⟨p, hp⟩, hK⟩ := id hR
  have hn := hW.1
  refine v_X12_addWeight (m_isChoice hR (fun s c hs hv1 hc hv2 => ⟨fun z => absurd z (by decide), fun _ => ?_⟩) (fun z => ⟨fun _ => v_X12_addWeight_17 (m_fails (h1 (fun s c t hs e1 hc e2 _ => absurd e2 (z s c hs e1 hc)))), fun y => absurd rfl y⟩))
  have g3 := (hW.2.1 s (by omega)).2.2.1
  refine m_isState hn hG.1.1 (fun t ht hv3 => ⟨fun _ => ?_, fun z => absurd z (by decide)⟩) (fun z => ⟨fun y => absurd rfl y, fun _ => v_X12_addWeight_17 (m_fails (h1 (fun s c t _ _ _ _ ht => z t ht)))⟩)
  refine m_inG (a := 1) (b := 6) (by omega) (by omega) (fun w hw1 hw6 hv4 => ⟨fun _ => ?_, fun z => absurd z (by decide)⟩) (fun z => ⟨fun y => absurd rfl y, fun _ => m_fails (h2 s c t hs hv1 hc hv2 ht hv3 z)⟩)
  have h0' := fun τ => h0 s c t w τ hs hv1 hc hv2 ht hv3 hw1 hw6 hv4
  have h3' := h3 s c t w hs hv1 hc hv2 ht hv3 hw1 hw6 hv4
  have g6 := (hW.2.2.1 (3 * s + c) (by omega)).2.2.1
  rw [hv1, hv2, hv3, hv4]
  simp (disch := omega) only [n0, n1, n2, n3, n4, n5, n6, n7, n8, n9, n49, n97, n98, n114, n102, n115, n119, n109, n112, i32_add, i32_mul, i32_N, i32_le, i32_lt, i32_eq, vpi_iff]
  rintro _ rfl
  rw [i32_N (by omega), (hG.2.2.2.1 (3 * s + c) (by omega)).2.2]
  simp (disch := omega) only [n0, n1, n2, n3, n4, n5, n6, n7, n8, n9, n49, n97, n98, n114, n102, n115, n119, n109, n112, i32_add, i32_mul, i32_N, i32_le, i32_lt, i32_eq, vpi_iff]
  refine ⟨by omega, fun z => ?_, fun z => m_fails (h3' z)⟩
  refine m_changes (fun τ f1 k1 => ?_)
  have hG1 := (hG.c0 (x := i32 0) (Or.inl rfl)).fr f1 (by decide)
  refine ⟨by omega, by omega, ?_⟩
  rw [hG1.2.2.2.2 _ (by omega)]
  rintro _ rfl
  refine ⟨by omega, by omega, ?_⟩
  have e1 : (cg_i τ 10 (7 * (3 * s + c) + t) (i32 (G 7 (7 * (3 * s + c) + t)) + i32 w)).1 9 (3 * s + c) = i32 (G 6 (3 * s + c)) := by
    rw [ri, if_neg (by decide)]; exact (hG1.2.2.2.1 (3 * s + c) (by omega)).2.2
  rw [e1]
  rintro _ rfl
  refine ⟨by omega, ?_⟩
  have e3 : (cg_i (cg_i τ 10 (7 * (3 * s + c) + t) (i32 (G 7 (7 * (3 * s + c) + t)) + i32 w)) 9 (3 * s + c) (i32 (G 6 (3 * s + c)) + i32 w)).1 9 (3 * s + c) = i32 (G 6 (3 * s + c) + w) := by rw [ri, if_pos rfl, if_pos rfl, i32_add]
  rw [e3]
  have f2 : Fr [9, 10] [] [] τ (cg_i (cg_i τ 10 (7 * (3 * s + c) + t) (i32 (G 7 (7 * (3 * s + c) + t)) + i32 w)) 9 (3 * s + c) (i32 (G 6 (3 * s + c)) + i32 w)) := (Fr.i (by decide)).tr (Fr.i (by decide))
  have f3 : Fr [0, 9, 10, 19] [] [] σ (cg_i (cg_i τ 10 (7 * (3 * s + c) + t) (i32 (G 7 (7 * (3 * s + c) + t)) + i32 w)) 9 (3 * s + c) (i32 (G 6 (3 * s + c)) + i32 w)) := ((Fr.i (k := 0) (j := 0) (x := i32 0) (by decide)).tr (f1.mo (by simp) (by simp) (by simp))).tr (f2.mo (by simp) (by simp) (by simp))
  refine h0' _ z ⟨GW_addW hW (by omega) ht z, ?_, ⟨p, hp.fr f3 (by decide)⟩, KN_0 (fun k hk => by rw [f2.1 19 (by decide)]; exact k1 k hk)⟩ ?_
  · obtain ⟨b1, b6, b7, b8, b9⟩ := hG1
    refine ⟨?_, fun t ht => ?_, fun t ht => ?_, fun m hm => ?_, fun j hj => ?_⟩
    · rw [f2.1 0 (by decide)]; exact b1
    · rw [f2.1 1 (by decide)]; exact b6 t ht
    · rw [f2.1 2 (by decide), f2.1 3 (by decide), f2.1 15 (by decide), f2.1 4 (by decide)]
      exact b7 t ht
    · obtain ⟨d1, d2, d3⟩ := b8 m hm
      rw [f2.1 7 (by decide), f2.1 8 (by decide)]
      refine ⟨d1, d2, ?_⟩
      rw [ri, if_pos rfl, i32_add]
      show _ = i32 (if m = 3 * s + c then G 6 (3 * s + c) + w else G 6 m)
      by_cases e : m = 3 * s + c
      · rw [if_pos e, if_pos e]
      · rw [if_neg e, if_neg e, ri, if_neg (by decide)]; exact d3
    · rw [ri, if_neg (by decide), ri, if_pos rfl, i32_add]
      show _ = i32 (if j = 7 * (3 * s + c) + t then G 7 (7 * (3 * s + c) + t) + w else G 7 j)
      by_cases e : j = 7 * (3 * s + c) + t
      · rw [if_pos e, if_pos e]
      · rw [if_neg e, if_neg e]; exact b9 j hj
  · rw [f2.1 0 (by decide), f1.1 0 (by decide), ri, if_pos rfl, if_pos rfl]
