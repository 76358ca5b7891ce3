/-! THE CALLS THAT CHANGE THE GAME OR WHAT IS TOLD -/
section SC
variable {a : cg_S} {G : Gm} {ch s aim : Nat}
theorem l_addState {v1 : Int32} {ia c : Nat} {Q : Int32 → cg_S → Prop} (h : SI a G ch) (hch : ch < 900) (h7 : G 0 0 < 7) (hia : v1 = i32 97 ∧ ia = 1 ∨ v1 = i32 98 ∧ ia = 0) (hc : c ≤ 3) (k : ∀ τ, SI τ (gAddS G ia c) (ch + 1) → Q (i32 (G 0 0)) τ) : M_L_addState v1 (i32 c) a Q := by
  obtain ⟨hC, hK, hW⟩ := h
  have hn7 := hW.1
  have hia1 : ia ≤ 1 := by omega
  obtain ⟨⟨c1, c2, c3, c4, c5, c6, c7⟩, c8, c9⟩ := id hC
  have ok : ∀ X : String → cg_S → Prop, L_X11_addState_60 (i32 c) (i32 ia) a Q X := fun X => by
    refine v_X11_addState_60 (v_X2_placeState ?_)
    rw [c1, vnb hia1]
    rintro _ rfl
    refine ⟨vpi (by omega) (by omega), ?_⟩
    rw [i32_N (by omega)]
    rintro _ rfl
    refine ⟨vpi (by omega) (by omega), ?_⟩
    rintro _ rfl
    have e1 : (cg_i (cg_i a 57 (G 0 0) (i32 ia)) 20 (G 0 0) (i32 c)).1 1 0 = i32 (G 0 0) := by
      rw [ri, if_neg (by decide), ri, if_neg (by decide)]; exact c1
    rw [e1]
    rintro _ rfl
    have e2 : (cg_i (cg_i (cg_i a 57 (G 0 0) (i32 ia)) 20 (G 0 0) (i32 c)) 1 0 (i32 (G 0 0) + 1)).1 1 6 = i32 ch := by
      rw [ri, if_pos rfl, if_neg (by decide), ri, if_neg (by decide), ri, if_neg (by decide)]; exact c7
    rw [e2]
    rintro _ rfl
    rw [i32_s, i32_s]
    have fr : Fr [1, 20, 57] [] [] a (cg_i (cg_i (cg_i (cg_i a 57 (G 0 0) (i32 ia)) 20 (G 0 0) (i32 c)) 1 0 (i32 (G 0 0 + 1))) 1 6 (i32 (ch + 1))) := (Fr.i (by decide)).tr ((Fr.i (by decide)).tr ((Fr.i (by decide)).tr (Fr.i (by decide))))
    have g1 : ∀ i, i ≠ 0 → i ≠ 6 → (cg_i (cg_i (cg_i (cg_i a 57 (G 0 0) (i32 ia)) 20 (G 0 0) (i32 c)) 1 0 (i32 (G 0 0 + 1))) 1 6 (i32 (ch + 1))).1 1 i = a.1 1 i := fun i h0 h6 => by
      rw [ri, if_pos rfl, if_neg h6, ri, if_pos rfl, if_neg h0, ri, if_neg (by decide), ri, if_neg (by decide)]
    refine k _ ⟨⟨⟨?_, ?_, ?_, ?_, ?_, ?_, ?_⟩, fun s hs => ⟨?_, ?_, ?_, ?_⟩, fun m hm => ?_⟩, CK_next (by omega) hK (fr.1 31 (by decide)), GW_addS hW (by omega) hia1 hc⟩
    · rw [ri, if_pos rfl, if_neg (by decide), ri, if_pos rfl, if_pos rfl]; rfl
    · rw [g1 1 (by decide) (by decide)]; exact c2
    · rw [g1 2 (by decide) (by decide)]; exact c3
    · rw [g1 3 (by decide) (by decide)]; exact c4
    · rw [g1 4 (by decide) (by decide)]; exact c5
    · rw [g1 5 (by decide) (by decide)]; exact c6
    · rw [ri, if_pos rfl, if_pos rfl]
    · rw [ri, if_neg (by decide), ri, if_neg (by decide), ri, if_neg (by decide), ri, if_pos rfl]
      show _ = i32 (if s = G 0 0 then ia else G 1 s)
      by_cases e : s = G 0 0
      · rw [if_pos e, if_pos e]
      · rw [if_neg e, if_neg e]; exact (c8 s hs).1
    · rw [ri, if_neg (by decide), ri, if_neg (by decide), ri, if_pos rfl]
      show _ = i32 (if s = G 0 0 then c else G 2 s)
      by_cases e : s = G 0 0
      · rw [if_pos e, if_pos e]
      · rw [if_neg e, if_neg e, ri, if_neg (by decide)]; exact (c8 s hs).2.1
    · rw [fr.1 21 (by decide)]; exact (c8 s hs).2.2.1
    · rw [fr.1 19 (by decide)]; exact (c8 s hs).2.2.2
    · obtain ⟨d1, d2, d3, d4, d5⟩ := c9 m hm
      rw [fr.1 22 (by decide), fr.1 23 (by decide), fr.1 24 (by decide), fr.1 25 (by decide), fr.1 (36 + m) (by simp; omega)]
      exact ⟨d1, d2, d3, d4, d5⟩
  refine w_addState (v_X11_addState (c_needPlayer (fun hv1 => ?_) (fun hv1 => absurd (hia.imp And.left And.left) hv1)))
  refine ⟨fun z => ?_, fun z => ⟨fun z2 => ?_, fun z2 => ?_⟩⟩
  · exact (rg_lo (a := 0) (by omega) z c (Nat.zero_le _) (by omega) rfl).elim
  · rw [hC.1.1, n7, i32_lt (by omega) (by omega)]
    refine ⟨fun z3 => ⟨fun z4 => ?_, fun z4 => ?_⟩, fun z3 => absurd h7 z3⟩
    · rcases hia with ⟨e, _⟩ | ⟨_, e⟩
      · exact absurd e z4
      · subst e; exact ok _
    · rcases hia with ⟨_, e⟩ | ⟨e, _⟩
      · subst e; exact ok _
      · rw [e] at z4; exact absurd z4 (by decide)
  · exact (rg_hi (b := 3) (by omega) z2 c hc rfl).elim
theorem GW_tgt {k : Nat} (hW : GW G) (hk : k ≤ 1) : GW (gU G 8 s k) := by
  obtain ⟨h1, h2, h3, h4⟩ := hW
  refine ⟨h1, fun t ht => ?_, h3, h4⟩
  obtain ⟨a1, a2, a3, a4, a5, a6⟩ := h2 t ht
  refine ⟨a1, a2, a3, ?_, a5, a6⟩
  show (if t = s then k else G 8 t) ≤ 1
  split <;> omega
theorem l_setTarget {v2 : Int32} {k : Nat} {Q : Int32 → cg_S → Prop} (h : SI a G ch) (hch : ch < 900) (hs : s < G 0 0) (hv : v2 = i32 k) (hk : k ≤ 1) (h8 : G 8 s = 0) (kk : ∀ τ, SI τ (gU G 8 s k) (ch + 1) → Q 0 τ) : M_L_setTarget (i32 s) v2 a Q := by
  obtain ⟨hC, hK, hW⟩ := h
  have hn7 := hW.1
  refine w_setTarget (v_X11_setTarget (c_needState hC hn7 (fun s' hs' e => v_X2_mark ?_) (fun z => (z s hs rfl).elim)))
  obtain ⟨⟨c1, c2, c3, c4, c5, c6, c7⟩, c8, c9⟩ := id hC
  have fin : ∀ (w : Int32), mk w (fun t => gU G 8 s k 8 t ≠ 0) → L_X2_mark_39 0 (cg_i a 1 1 w) (fun r τ => (r = 0 ∨ r = 1) ∧ (r = 0 → Q 0 τ) ∧ (¬ r = 0 → Q 1 τ)) := fun w hw => by
    refine v_X2_mark_39 ?_
    have e6 : (cg_i a 1 1 w).1 1 6 = i32 ch := by rw [ri, if_pos rfl, if_neg (by decide)]; exact c7
    rw [e6]
    rintro _ rfl
    rw [i32_s]
    refine ⟨Or.inl rfl, Or.inl rfl, fun _ => ?_, fun z => absurd rfl z⟩
    have fr : Fr [1] [] [] a (cg_i (cg_i a 1 1 w) 1 6 (i32 (ch + 1))) := (Fr.i (by decide)).tr (Fr.i (by decide))
    have g1 : ∀ i, i ≠ 1 → i ≠ 6 → (cg_i (cg_i a 1 1 w) 1 6 (i32 (ch + 1))).1 1 i = a.1 1 i := fun i h2 h6 => by
      rw [ri, if_pos rfl, if_neg h6, ri, if_pos rfl, if_neg h2]
    refine kk _ ⟨⟨⟨?_, ?_, ?_, ?_, ?_, ?_, ?_⟩, fun s hs => ?_, fun m hm => ?_⟩, CK_next (by omega) hK (fr.1 31 (by decide)), GW_tgt hW hk⟩
    · rw [g1 0 (by decide) (by decide)]; exact c1
    · rw [ri, if_pos rfl, if_neg (by decide), ri, if_pos rfl, if_pos rfl]; exact hw
    · rw [g1 2 (by decide) (by decide)]; exact c3
    · rw [g1 3 (by decide) (by decide)]; exact c4
    · rw [g1 4 (by decide) (by decide)]; exact c5
    · rw [g1 5 (by decide) (by decide)]; exact c6
    · rw [ri, if_pos rfl, if_pos rfl]
    · rw [fr.1 57 (by decide), fr.1 20 (by decide), fr.1 21 (by decide), fr.1 19 (by decide)]
      exact c8 s hs
    · rw [fr.1 22 (by decide), fr.1 23 (by decide), fr.1 24 (by decide), fr.1 25 (by decide), fr.1 (36 + m) (by simp; omega)]
      exact c9 m hm
  refine c_isTarget hC (by omega) (fun z => absurd h8 z) (fun z => ⟨fun z2 => ?_, fun z2 => ?_⟩)
  · rintro _ rfl
    refine fin _ (mk_congr (mk_off c2 (show s < 7 by omega)) (fun t ht => ?_))
    have e0 : k = 0 := by
      rcases (show k = 0 ∨ k = 1 by omega) with e | e
      · exact e
      · rw [hv, e] at z2; exact absurd z2 (by decide)
    show (G 8 t ≠ 0 ∧ t ≠ s) ↔ (if t = s then k else G 8 t) ≠ 0
    by_cases c : t = s
    · rw [if_pos c]; exact ⟨fun z => absurd c z.2, fun z => absurd e0 z⟩
    · rw [if_neg c]; exact ⟨And.left, fun z => ⟨z, c⟩⟩
  · rintro _ rfl
    refine fin _ (mk_congr (mk_or c2 (show s < 7 by omega)) (fun t ht => ?_))
    have e0 : k ≠ 0 := fun e => z2 (by rw [hv, e]; rfl)
    show (G 8 t ≠ 0 ∨ t = s) ↔ (if t = s then k else G 8 t) ≠ 0
    by_cases c : t = s
    · rw [if_pos c]; exact ⟨fun _ => e0, fun _ => Or.inr c⟩
    · rw [if_neg c]; exact ⟨fun z => z.resolve_right c, Or.inl⟩
theorem l_addChoice {x y : Nat} {Q : Int32 → cg_S → Prop} (h : SI a G ch) (hch : ch < 900) (hs : s < G 0 0) (hx : x ≤ 9) (hy : y ≤ 9) (h3 : G 3 s < 3) (k : ∀ τ, SI τ (gAddC G s x y) (ch + 1) → Q (i32 (G 3 s)) τ) : M_L_addChoice (i32 s) (i32 x) (i32 y) a Q := by
  obtain ⟨hC, hK, hW⟩ := h
  have hn7 := hW.1
  refine w_addChoice (v_X11_addChoice (c_needState hC hn7 (fun s' hs' e => ?_) (fun z => (z s hs rfl).elim)))
  have g3 := (hW.2.1 s (by omega)).2.2.1
  obtain ⟨⟨c1, c2, c3, c4, c5, c6, c7⟩, c8, c9⟩ := id hC
  refine ⟨fun z => (rg_lo (a := 0) (by omega) z x (by omega) (by omega) rfl).elim, fun z1 => ⟨fun z => (rg_hi2 (b := 9) (by omega) z x hx rfl).elim, fun z2 => ⟨fun z => (rg_lo (a := 0) (by omega) z y (by omega) (by omega) rfl).elim, fun z3 => ⟨fun z4 => ?_, fun z => (rg_hi (b := 9) (by omega) z y hy rfl).elim⟩⟩⟩⟩
  have hN : (i32 s).toNatClampNeg = s := i32_N (by omega)
  have hv : vp_in (i32 s) 7 := vpi (by omega) (by omega)
  rw [hN, (c8 s (by omega)).2.2.1, n3, i32_lt (by omega) (by omega)]
  refine ⟨hv, fun z => v_X2_placeChoice ⟨hv, ?_⟩, fun z => absurd h3 z⟩
  rw [hN, (c8 s (by omega)).2.2.1]
  rintro _ rfl
  refine c_moveOf ⟨vpi (by omega) (by omega), ?_⟩
  rw [i32_N (by omega)]
  rintro _ rfl
  refine ⟨vpi (by omega) (by omega), ?_⟩
  rintro _ rfl
  refine ⟨hv, hv, ?_⟩
  have e3 : (cg_i (cg_i a 22 (3 * s + G 3 s) (i32 x)) 23 (3 * s + G 3 s) (i32 y)).1 21 s = i32 (G 3 s) := by
    rw [ri, if_neg (by decide), ri, if_neg (by decide)]; exact (c8 s (by omega)).2.2.1
  rw [e3]
  rintro _ rfl
  have e6 : (cg_i (cg_i (cg_i a 22 (3 * s + G 3 s) (i32 x)) 23 (3 * s + G 3 s) (i32 y)) 21 s (i32 (G 3 s) + 1)).1 1 6 = i32 ch := by
    rw [ri, if_neg (by decide), ri, if_neg (by decide), ri, if_neg (by decide)]; exact c7
  rw [e6]
  rintro _ rfl
  rw [i32_s, i32_s]
  have fr : Fr [1, 21, 22, 23] [] [] a (cg_i (cg_i (cg_i (cg_i a 22 (3 * s + G 3 s) (i32 x)) 23 (3 * s + G 3 s) (i32 y)) 21 s (i32 (G 3 s + 1))) 1 6 (i32 (ch + 1))) := (Fr.i (by decide)).tr ((Fr.i (by decide)).tr ((Fr.i (by decide)).tr (Fr.i (by decide))))
  have g1 : ∀ i, i ≠ 6 → (cg_i (cg_i (cg_i (cg_i a 22 (3 * s + G 3 s) (i32 x)) 23 (3 * s + G 3 s) (i32 y)) 21 s (i32 (G 3 s + 1))) 1 6 (i32 (ch + 1))).1 1 i = a.1 1 i := fun i h6 => by
    rw [ri, if_pos rfl, if_neg h6, ri, if_neg (by decide), ri, if_neg (by decide), ri, if_neg (by decide)]
  refine k _ ⟨⟨⟨?_, ?_, ?_, ?_, ?_, ?_, ?_⟩, fun t ht => ?_, fun m hm => ?_⟩, CK_next (by omega) hK (fr.1 31 (by decide)), GW_addC hW (by omega) (by omega) hx hy⟩
  · rw [g1 0 (by decide)]; exact c1
  · rw [g1 1 (by decide)]; exact c2
  · rw [g1 2 (by decide)]; exact c3
  · rw [g1 3 (by decide)]; exact c4
  · rw [g1 4 (by decide)]; exact c5
  · rw [g1 5 (by decide)]; exact c6
  · rw [ri, if_pos rfl, if_pos rfl]
  · obtain ⟨d1, d2, d3, d4⟩ := c8 t ht
    rw [fr.1 57 (by decide), fr.1 20 (by decide), fr.1 19 (by decide)]
    refine ⟨d1, d2, ?_, d4⟩
    rw [ri, if_neg (by decide), ri, if_pos rfl]
    show _ = i32 (if t = s then G 3 s + 1 else G 3 t)
    by_cases c : t = s
    · rw [if_pos c, if_pos c]
    · rw [if_neg c, if_neg c, ri, if_neg (by decide), ri, if_neg (by decide)]; exact d3
  · obtain ⟨d1, d2, d3, d4, d5⟩ := c9 m hm
    rw [fr.1 24 (by decide), fr.1 25 (by decide), fr.1 (36 + m) (by simp; omega)]
    refine ⟨?_, ?_, d3, d4, d5⟩
    · rw [ri, if_neg (by decide), ri, if_neg (by decide), ri, if_neg (by decide), ri, if_pos rfl]
      show _ = i32 (if m = 3 * s + G 3 s then x else G 4 m)
      by_cases c : m = 3 * s + G 3 s
      · rw [if_pos c, if_pos c]
      · rw [if_neg c, if_neg c]; exact d1
    · rw [ri, if_neg (by decide), ri, if_neg (by decide), ri, if_pos rfl]
      show _ = i32 (if m = 3 * s + G 3 s then y else G 5 m)
      by_cases c : m = 3 * s + G 3 s
      · rw [if_pos c, if_pos c]
      · rw [if_neg c, if_neg c, ri, if_neg (by decide)]; exact d2
theorem l_addWeight {c t w : Nat} {Q : Int32 → cg_S → Prop} (h : SI a G ch) (hch : ch < 900) (hs : s < G 0 0) (hc : c < G 3 s) (ht : t < G 0 0) (hw1 : 1 ≤ w) (hw6 : w ≤ 6) (z : G 6 (3 * s + c) + w ≤ 6) (k : ∀ τ, SI τ (gAddW G (3 * s + c) t w) (ch + 1) → Q (i32 (G 6 (3 * s + c) + w)) τ) : M_L_addWeight (i32 s) (i32 c) (i32 t) (i32 w) a Q := by
  obtain ⟨hC, hK, hW⟩ := h
  have hn7 := hW.1
  refine w_addWeight (v_X11_addWeight (c_needChoice hC hW (fun s' c' hs' e1 hc' e2 => c_needState hC hn7 (fun t' ht' e3 => ?_) (fun z => (z t ht rfl).elim)) (fun z => (z s c hs rfl hc rfl).elim)))
  have g3 := (hW.2.1 s (by omega)).2.2.1
  have g6 := (hW.2.2.1 (3 * s + c) (by omega)).2.2.1
  have g7 := hW.w6 (m := 3 * s + c) (t := t) (by omega) (by omega)
  obtain ⟨⟨c1, c2, c3, c4, c5, c6, c7⟩, c8, c9⟩ := id hC
  obtain ⟨d1, d2, d3, d4, d5⟩ := c9 (3 * s + c) (by omega)
  refine ⟨fun z => (rg_lo (a := 1) (by omega) z w hw1 (by omega) rfl).elim, fun z1 => ⟨fun z2 => ?_, fun z => (rg_hi (b := 6) (by omega) z w hw6 rfl).elim⟩⟩
  refine c_moveOf ⟨vpi (by omega) (by omega), ?_⟩
  rw [i32_N (by omega), d3]
  have hle : i32 (G 6 (3 * s + c)) + i32 w ≤ 6 ↔ G 6 (3 * s + c) + w ≤ 6 := by
    rw [i32_add, n6, i32_le (by omega) (by omega)]
  rw [hle]
  have hN : (i32 t).toNatClampNeg = t := i32_N (by omega)
  have hv : vp_in (i32 t) 7 := vpi (by omega) (by omega)
  refine ⟨fun _ => v_X2_placeWeight ⟨vpi (by omega) (by omega), hv, hv, ?_⟩, fun z9 => absurd z z9⟩
  rw [i32_N (by omega), hN, d5 t (by omega)]
  rintro _ rfl
  refine ⟨vpi (by omega) (by omega), vpi (by omega) (by omega), ?_⟩
  have f1 : (cg_i a (36 + (3 * s + c)) t (i32 (G 7 (7 * (3 * s + c) + t)) + i32 w)).1 24 (3 * s + c) = i32 (G 6 (3 * s + c)) := by
    rw [ri, if_neg (by omega)]; exact d3
  rw [f1]
  rintro _ rfl
  refine ⟨vpi (by omega) (by omega), vpi (by omega) (by omega), ?_⟩
  have f2 : (cg_i (cg_i a (36 + (3 * s + c)) t (i32 (G 7 (7 * (3 * s + c) + t)) + i32 w)) 24 (3 * s + c) (i32 (G 6 (3 * s + c)) + i32 w)).1 25 (3 * s + c) = a.1 25 (3 * s + c) := by
    rw [ri, if_neg (by decide), ri, if_neg (by omega)]
  rw [f2]
  rintro _ rfl
  generalize hLe : a.1 25 (3 * s + c) ||| ((1 : Int32) <<< (i32 t &&& 31)) = le
  have f3 : (cg_i (cg_i (cg_i a (36 + (3 * s + c)) t (i32 (G 7 (7 * (3 * s + c) + t)) + i32 w)) 24 (3 * s + c) (i32 (G 6 (3 * s + c)) + i32 w)) 25 (3 * s + c) le).1 1 6 = i32 ch := by
    rw [ri, if_neg (by decide), ri, if_neg (by decide), ri, if_neg (by omega)]; exact c7
  rw [f3]
  rintro _ rfl
  rw [i32_s, i32_add, i32_add]
  have fr : Fr [1, 24, 25, 36 + (3 * s + c)] [] [] a (cg_i (cg_i (cg_i (cg_i a (36 + (3 * s + c)) t (i32 (G 7 (7 * (3 * s + c) + t) + w))) 24 (3 * s + c) (i32 (G 6 (3 * s + c) + w))) 25 (3 * s + c) le) 1 6 (i32 (ch + 1))) := (Fr.i (by simp)).tr ((Fr.i (by simp)).tr ((Fr.i (by simp)).tr (Fr.i (by simp))))
  have f4 : (cg_i (cg_i (cg_i (cg_i a (36 + (3 * s + c)) t (i32 (G 7 (7 * (3 * s + c) + t) + w))) 24 (3 * s + c) (i32 (G 6 (3 * s + c) + w))) 25 (3 * s + c) le) 1 6 (i32 (ch + 1))).1 24 (3 * s + c) = i32 (G 6 (3 * s + c) + w) := by
    rw [ri, if_neg (by decide), ri, if_neg (by decide), ri, if_pos rfl, if_pos rfl]
  rw [f4]
  refine ⟨vpi (by omega) (by omega), ?_⟩
  have g1 : ∀ i, i ≠ 6 → (cg_i (cg_i (cg_i (cg_i a (36 + (3 * s + c)) t (i32 (G 7 (7 * (3 * s + c) + t) + w))) 24 (3 * s + c) (i32 (G 6 (3 * s + c) + w))) 25 (3 * s + c) le) 1 6 (i32 (ch + 1))).1 1 i = a.1 1 i := fun i h6 => by
    rw [ri, if_pos rfl, if_neg h6, ri, if_neg (by decide), ri, if_neg (by decide), ri, if_neg (by omega)]
  refine k _ ⟨⟨⟨?_, ?_, ?_, ?_, ?_, ?_, ?_⟩, fun u hu => ?_, fun m hm => ?_⟩, CK_next (by omega) hK (fr.1 31 (by simp; omega)), GW_addW hW (by omega) ht z⟩
  · rw [g1 0 (by decide)]; exact c1
  · rw [g1 1 (by decide)]; exact c2
  · rw [g1 2 (by decide)]; exact c3
  · rw [g1 3 (by decide)]; exact c4
  · rw [g1 4 (by decide)]; exact c5
  · rw [g1 5 (by decide)]; exact c6
  · rw [ri, if_pos rfl, if_pos rfl]
  · rw [fr.1 57 (by simp; omega), fr.1 20 (by simp; omega), fr.1 21 (by simp; omega), fr.1 19 (by simp; omega)]
    exact c8 u hu
  · obtain ⟨q1, q2, q3, q4, q5⟩ := c9 m hm
    rw [fr.1 22 (by simp; omega), fr.1 23 (by simp; omega)]
    refine ⟨q1, q2, ?_, ?_, fun u hu => ?_⟩
    · rw [ri, if_neg (by decide), ri, if_neg (by decide), ri, if_pos rfl]
      show _ = i32 (if m = 3 * s + c then G 6 (3 * s + c) + w else G 6 m)
      by_cases k : m = 3 * s + c
      · rw [if_pos k, if_pos k]
      · rw [if_neg k, if_neg k, ri, if_neg (by omega)]; exact q3
    · rw [ri, if_neg (by decide), ri, if_pos rfl]
      by_cases k : m = 3 * s + c
      · rw [if_pos k, ← hLe]
        refine mk_congr (mk_or d4 (show t < 7 by omega)) (fun u hu => ?_)
        show (G 7 (7 * (3 * s + c) + u) ≠ 0 ∨ u = t) ↔ (if 7 * m + u = 7 * (3 * s + c) + t then G 7 (7 * (3 * s + c) + t) + w else G 7 (7 * m + u)) ≠ 0
        rw [k]
        by_cases l : u = t
        · subst l
          rw [if_pos rfl]
          exact ⟨fun _ => by omega, fun _ => Or.inr rfl⟩
        · rw [if_neg (by omega)]
          exact ⟨fun z => z.resolve_right l, Or.inl⟩
      · rw [if_neg k, ri, if_neg (by decide), ri, if_neg (by omega)]
        refine mk_congr q4 (fun u hu => ?_)
        show G 7 (7 * m + u) ≠ 0 ↔ (if 7 * m + u = 7 * (3 * s + c) + t then G 7 (7 * (3 * s + c) + t) + w else G 7 (7 * m + u)) ≠ 0
        rw [if_neg (by omega)]
    · rw [ri, if_neg (by omega), ri, if_neg (by omega), ri, if_neg (by omega), ri]
      show _ = i32 (if 7 * m + u = 7 * (3 * s + c) + t then G 7 (7 * (3 * s + c) + t) + w else G 7 (7 * m + u))
      by_cases k : m = 3 * s + c
      · rw [if_pos (by omega)]
        subst k
        by_cases l : u = t
        · subst l
          rw [if_pos rfl, if_pos rfl]
        · rw [if_neg l, if_neg (by omega)]; exact q5 u hu
      · rw [if_neg (by omega), if_neg (by omega)]; exact q5 u hu
theorem l_solve {Q : Int32 → cg_S → Prop} (h : SI a G ch) (hw : whole G) (ha : okA aim) (k : ∀ τ x rk tb, SI τ (gT G tb (G 0 0)) ch → mmb G aim x → (aim = 114 → RKS G x (G 0 0) rk) → (∀ s, s < G 0 0 → tbS G aim x rk s (tb s)) → Q (i32 (ncG G tb (G 0 0))) τ) : M_L_solve (i32 aim) a Q := by
  obtain ⟨hC, hK, hW⟩ := h
  have hn := hW.1
  refine w_solve (v_X11_solve (c_needAim (fun aim' ha' e1 => c_needWhole hC hW (fun _ => ?_) (fun z => absurd hw z)) (fun z => (z aim ha rfl).elim)))
  have core : ∀ (τ1 : cg_S) (x : Nat → Rat) (d : Nat) (u rk : Nat → Nat), CG τ1 G ch → CK τ1 G ch → mmb G aim x → AU τ1 (G 0 0) x d u → (aim = 114 → RKc τ1 32 (G 0 0) rk ∧ RKS G x (G 0 0) rk) → L_X8_tellBest_26 (i32 aim) 19 0 0 τ1 (fun r τ => Q r τ) := fun τ1 x d u rk hC1 hK1 hm hU hrk => by
    refine c_tells hC1 hW hw ha hU (fun e => ⟨(hrk e).1, fun t ht => by have := RKS_le _ (hrk e).2 t ht; omega⟩) (fun τ tb f1 hT hCT => ?_)
    refine k τ x rk tb ⟨hCT, ?_, GW_T hW (fun t ht _ => tbS_lt hw ht (hT t ht))⟩ hm (fun e => (hrk e).2) hT
    intro aim2 ha2
    exact (hK1.fr f1 (by decide)) aim2 ha2
  refine v_X8_tellBest (Or.inl rfl) (impW_all a G ch aim _ hC hK hW hw ha (fun τ x f0 hC1 hK1 hm hA => ?_))
  obtain ⟨d, u, hU⟩ := hA
  refine ⟨fun z => core τ x d u (fun _ => 0) hC1 hK1 hm hU (fun e => absurd (by rw [e]; rfl) z), fun z => ?_⟩
  exact c_rankStates hC1 hW hU (fun τ2 rk f2 r1 r2 => core τ2 x d u rk (hC1.fr f2 (by decide)) (hK1.fr f2 (by decide)) hm (AU.fr hU f2 (by decide)) (fun _ => ⟨r1, r2⟩))
/-- the value as a float -/
def vlF (q : Rat) : UInt32 := FP.fdiv (FP.l2f (i64 q.num)) (FP.l2f (i64 ((q.den : Nat) : Int)))
theorem l_valueFloat {Q : UInt32 → cg_S → Prop} (h : SI a G ch) (hw : whole G) (ha : okA aim) (hs : s < G 0 0) (k : ∀ τ w, SI τ G ch → mmb G aim w → vf_n32 (vlF (w s)) → D32 (vlF (w s)) ≠ .nan → Q (vlF (w s)) τ) : M_L_valueFloat (i32 aim) (i32 s) a Q := by
  obtain ⟨hC, hK, hW⟩ := h
  have hn := hW.1
  refine w_valueFloat (v_X11_valueFloat (c_asked hC hK hW (fun aim' s' τ w m k' ha' e1 hs' e2 _ h1 h2 h3 hk hk2 hm hn1 hd => v_X11_floatOf ⟨fun _ => ?_, fun z => absurd z (i64_n0 hk2 hk)⟩) (fun e he => (why3_no he ha rfl hs rfl hw).elim)))
  rw [i32_eq (okA_lt ha) (okA_lt ha')] at e1
  rw [i32_eq (by omega) (by omega)] at e2
  subst e1; subst e2
  obtain ⟨c, q, f1, f2, f3⟩ := float_v hk hk2 hm
  have nn : D32 (FP.fdiv (FP.l2f (Int64.ofInt m)) (FP.l2f (Int64.ofInt k'))) ≠ .nan := by rw [f1]; exact fun z => by cases z
  have v32 : vf_n32 (FP.fdiv (FP.l2f (i64 m)) (FP.l2f (i64 k'))) := vf32 nn
  have e : vlF (w s) = FP.fdiv (FP.l2f (i64 m)) (FP.l2f (i64 k')) := by unfold vlF; rw [hn1, hd]
  have := k τ w ⟨h1, h2, hW⟩ h3 (by rw [e]; exact v32) (by rw [e]; exact nn)
  rw [e] at this
  exact ⟨v32, this⟩
end SC
