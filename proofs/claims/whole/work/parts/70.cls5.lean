/-! THE CALLS: what changes the game -/
theorem op_setDiscount {n : Nat} {v1 v2 : Int32} {a b : cg_S} (hn : n < 900) (h : Inv n a b) : OP_setDiscount (Inv (n + 1)) v1 v2 a b := by
  obtain ⟨G, ch, hch, hC, hK, hR⟩ := h
  have hW := hR.1
  have up := fun x => Inv.up (n := n) (x := x) hch hC hK hR
  have bad : (∀ x y, 1 ≤ x → x < y → y ≤ 3 → v1 = i32 x → v2 ≠ i32 y) → M_X12_setDiscount v1 v2 b (fun r2 b1 => M_X12_thrown b1 (fun t b2 => t = 1 ∧ Inv (n + 1) a b2)) := fun z => m_setDiscount hR (fun _ => m_thrown0 ⟨rfl, up _⟩) (fun x y _ h1 h2 h3 e1 e2 _ _ => absurd e2 (z x y h1 h2 h3 e1))
  refine v_X11_setDiscount ?_
  refine ⟨fun z => ⟨rfl, bad (fun x y h1 h2 h3 e1 _ => rg_lo (a := 1) (by omega) z x h1 (by omega) e1)⟩, fun z1 => ⟨fun z => ⟨rfl, bad (fun x y h1 h2 h3 e1 _ => rg_hi2 (b := 2) (by omega) z x (by omega) e1)⟩, fun z2 => ⟨fun z => ⟨rfl, bad (fun x y h1 h2 h3 _ e2 => rg_lo (a := 2) (by omega) z y (by omega) (by omega) e2)⟩, fun z3 => ⟨fun z => ⟨rfl, bad (fun x y h1 h2 h3 _ e2 => rg_hi2 (b := 3) (by omega) z y h3 e2)⟩, fun z4 => ?_⟩⟩⟩⟩
  obtain ⟨x, hx1, hx2, e1⟩ := rg (a := 1) (b := 2) (by omega) (by omega) z1 (rg_le z2)
  obtain ⟨y, hy1, hy2, e2⟩ := rg (a := 2) (b := 3) (by omega) (by omega) z3 (rg_le z4)
  refine ⟨fun z => v_X2_changeDiscount ?_, fun z => ⟨rfl, bad (fun x' y' h1 h2 h3 e1' e2' => ?_)⟩⟩
  · rw [e1, e2, i32_lt (by omega) (by omega)] at z
    obtain ⟨⟨c1, c2, c3, c4, c5, c6, c7⟩, c8, c9⟩ := id hC
    rw [c3, c4]
    rintro _ rfl _ rfl _ rfl
    have e6 : (cg_i (cg_i a 1 2 v1) 1 3 v2).1 1 6 = i32 ch := by
      rw [ri, if_pos rfl, if_neg (by decide), ri, if_pos rfl, if_neg (by decide)]; exact c7
    rw [e6]
    rintro _ rfl
    rw [i32_s]
    have fr : Fr [1] [] [] a (cg_i (cg_i (cg_i a 1 2 v1) 1 3 v2) 1 6 (i32 (ch + 1))) := (Fr.i (by decide)).tr ((Fr.i (by decide)).tr (Fr.i (by decide)))
    have g1 : ∀ i, i ≠ 2 → i ≠ 3 → i ≠ 6 → (cg_i (cg_i (cg_i a 1 2 v1) 1 3 v2) 1 6 (i32 (ch + 1))).1 1 i = a.1 1 i := fun i h2 h3 h6 => by
      rw [ri, if_pos rfl, if_neg h6, ri, if_pos rfl, if_neg h3, ri, if_pos rfl, if_neg h2]
    refine m_setDiscount hR (fun w => absurd e2 (w x y hx1 z hy2 e1)) (fun x' y' τ h1 h2 h3 e1' e2' hR' h0 => m_thrown1 h0 ⟨rfl, ?_, ?_⟩)
    · rw [show (10 : Int32) = i32 10 from rfl, i32_mul, i32_add]
    · rw [e1, i32_eq (by omega) (by omega)] at e1'
      rw [e2, i32_eq (by omega) (by omega)] at e2'
      subst e1'; subst e2'
      refine ⟨_, ch + 1, by omega, ⟨⟨?_, ?_, ?_, ?_, ?_, ?_, ?_⟩, fun s hs => ?_, fun m hm => ?_⟩, CK_next (by omega) hK (fr.1 31 (by decide)), hR'⟩
      · rw [g1 0 (by decide) (by decide) (by decide)]; exact c1
      · rw [g1 1 (by decide) (by decide) (by decide)]; exact c2
      · rw [ri, if_pos rfl, if_neg (by decide), ri, if_pos rfl, if_neg (by decide), ri, if_pos rfl, if_pos rfl]; exact e1
      · rw [ri, if_pos rfl, if_neg (by decide), ri, if_pos rfl, if_pos rfl]; exact e2
      · rw [g1 4 (by decide) (by decide) (by decide)]; exact c5
      · rw [g1 5 (by decide) (by decide) (by decide)]; exact c6
      · rw [ri, if_pos rfl, if_pos rfl]
      · rw [fr.1 57 (by decide), fr.1 20 (by decide), fr.1 21 (by decide), fr.1 19 (by decide)]
        exact c8 s hs
      · rw [fr.1 22 (by decide), fr.1 23 (by decide), fr.1 24 (by decide), fr.1 25 (by decide), fr.1 (36 + m) (by simp; omega)]
        exact c9 m hm
  · rw [e1, i32_eq (by omega) (by omega)] at e1'
    rw [e2, i32_eq (by omega) (by omega)] at e2'
    rw [e1, e2, i32_lt (by omega) (by omega)] at z
    omega
theorem op_setWeights {n : Nat} {v1 v2 : Int32} {a b : cg_S} (hn : n < 900) (h : Inv n a b) : OP_setWeights (Inv (n + 1)) v1 v2 a b := by
  obtain ⟨G, ch, hch, hC, hK, hR⟩ := h
  have hW := hR.1
  have up := fun x => Inv.up (n := n) (x := x) hch hC hK hR
  have bad : (∀ x y, x ≤ 3 → y ≤ 3 → v1 = i32 x → v2 ≠ i32 y) → M_X12_setWeights v1 v2 b (fun r2 b1 => M_X12_thrown b1 (fun t b2 => t = 1 ∧ Inv (n + 1) a b2)) := fun z => m_setWeights hR (fun _ => m_thrown0 ⟨rfl, up _⟩) (fun x y _ h1 h2 e1 e2 _ _ => absurd e2 (z x y h1 h2 e1))
  refine v_X11_setWeights ?_
  refine ⟨fun z => ⟨rfl, bad (fun x y h1 h2 e1 _ => rg_lo (a := 0) (by omega) z x (by omega) (by omega) e1)⟩, fun z1 => ⟨fun z => ⟨rfl, bad (fun x y h1 h2 e1 _ => rg_hi2 (b := 3) (by omega) z x h1 e1)⟩, fun z2 => ⟨fun z => ⟨rfl, bad (fun x y h1 h2 _ e2 => rg_lo (a := 0) (by omega) z y (by omega) (by omega) e2)⟩, fun z3 => ⟨fun z4 => ?_, fun z => ⟨rfl, bad (fun x y h1 h2 _ e2 => rg_hi (b := 3) (by omega) z y h2 e2)⟩⟩⟩⟩⟩
  obtain ⟨x, -, hx2, e1⟩ := rg (a := 0) (b := 3) (by omega) (by omega) z1 (rg_le z2)
  obtain ⟨y, -, hy2, e2⟩ := rg (a := 0) (b := 3) (by omega) (by omega) z3 z4
  refine v_X2_changeWeights ?_
  obtain ⟨⟨c1, c2, c3, c4, c5, c6, c7⟩, c8, c9⟩ := id hC
  rw [c5, c6]
  rintro _ rfl _ rfl _ rfl
  have e6 : (cg_i (cg_i a 1 4 v1) 1 5 v2).1 1 6 = i32 ch := by
    rw [ri, if_pos rfl, if_neg (by decide), ri, if_pos rfl, if_neg (by decide)]; exact c7
  rw [e6]
  rintro _ rfl
  rw [i32_s]
  have fr : Fr [1] [] [] a (cg_i (cg_i (cg_i a 1 4 v1) 1 5 v2) 1 6 (i32 (ch + 1))) := (Fr.i (by decide)).tr ((Fr.i (by decide)).tr (Fr.i (by decide)))
  have g1 : ∀ i, i ≠ 4 → i ≠ 5 → i ≠ 6 → (cg_i (cg_i (cg_i a 1 4 v1) 1 5 v2) 1 6 (i32 (ch + 1))).1 1 i = a.1 1 i := fun i h2 h3 h6 => by
    rw [ri, if_pos rfl, if_neg h6, ri, if_pos rfl, if_neg h3, ri, if_pos rfl, if_neg h2]
  refine m_setWeights hR (fun w => absurd e2 (w x y hx2 hy2 e1)) (fun x' y' τ h1 h2 e1' e2' hR' h0 => m_thrown1 h0 ⟨rfl, ?_, ?_⟩)
  · rw [show (10 : Int32) = i32 10 from rfl, i32_mul, i32_add]
  · rw [e1, i32_eq (by omega) (by omega)] at e1'
    rw [e2, i32_eq (by omega) (by omega)] at e2'
    subst e1'; subst e2'
    refine ⟨_, ch + 1, by omega, ⟨⟨?_, ?_, ?_, ?_, ?_, ?_, ?_⟩, fun s hs => ?_, fun m hm => ?_⟩, CK_next (by omega) hK (fr.1 31 (by decide)), hR'⟩
    · rw [g1 0 (by decide) (by decide) (by decide)]; exact c1
    · rw [g1 1 (by decide) (by decide) (by decide)]; exact c2
    · rw [g1 2 (by decide) (by decide) (by decide)]; exact c3
    · rw [g1 3 (by decide) (by decide) (by decide)]; exact c4
    · rw [ri, if_pos rfl, if_neg (by decide), ri, if_pos rfl, if_neg (by decide), ri, if_pos rfl, if_pos rfl]; exact e1
    · rw [ri, if_pos rfl, if_neg (by decide), ri, if_pos rfl, if_pos rfl]; exact e2
    · rw [ri, if_pos rfl, if_pos rfl]
    · rw [fr.1 57 (by decide), fr.1 20 (by decide), fr.1 21 (by decide), fr.1 19 (by decide)]
      exact c8 s hs
    · rw [fr.1 22 (by decide), fr.1 23 (by decide), fr.1 24 (by decide), fr.1 25 (by decide), fr.1 (36 + m) (by simp; omega)]
      exact c9 m hm
theorem c_isTarget {a : cg_S} {G : Gm} {ch s : Nat} {Q : Int32 → cg_S → Prop} (hC : CG a G ch) (hs : s < 7) (h1 : G 8 s ≠ 0 → Q 1 a) (h0 : G 8 s = 0 → Q 0 a) : M_X2_isTarget (i32 s) a Q := by
  refine v_X2_isTarget (v_X2_holds ?_)
  rcases mk_get hC.1.2.1 hs with ⟨z, e⟩ | ⟨z, e⟩
  · rw [e]
    exact ⟨fun y => absurd rfl y, fun _ => ⟨Or.inr rfl, h1 z⟩⟩
  · rw [e]
    exact ⟨fun _ => ⟨Or.inl rfl, h0 (by omega)⟩, fun y => absurd y (by decide)⟩
theorem op_setTarget {n : Nat} {v1 v2 : Int32} {a b : cg_S} (hn : n < 900) (hv : v2 = 0 ∨ v2 = 1) (h : Inv n a b) : OP_setTarget (Inv (n + 1)) v1 v2 a b := by
  obtain ⟨G, ch, hch, hC, hK, hR⟩ := h
  have hW := hR.1
  have hn7 := hW.1
  have up := fun x => Inv.up (n := n) (x := x) hch hC hK hR
  refine v_X11_setTarget (c_needState hC hn7 (fun s hs e => v_X2_mark ?_) (fun z => ⟨rfl, m_setTarget hR hv (fun _ => m_thrown0 ⟨rfl, up _⟩) (fun s _ _ hs e _ _ _ _ => absurd e (z s hs))⟩))
  have g8 := (hW.2.1 s (by omega)).2.2.2.1
  obtain ⟨⟨c1, c2, c3, c4, c5, c6, c7⟩, c8, c9⟩ := id hC
  have fin : ∀ (k : Nat) (r : Int32) (w : Int32), v2 = i32 k → k ≤ 1 → (r = i32 (G 8 s)) → mk w (fun t => gU G 8 s k 8 t ≠ 0) → L_X2_mark_39 r (cg_i a 1 1 w) (fun r1 s2 => (r1 = 0 ∨ r1 = 1) ∧ M_X12_setTarget v1 v2 b (fun r2 b1 => M_X12_thrown b1 (fun t b2 => t = 0 ∧ (r1 = 0 ↔ r2 = 0) ∧ Inv (n + 1) s2 b2))) := fun k r w hk hk1 hr hw => by
    refine v_X2_mark_39 ?_
    have e6 : (cg_i a 1 1 w).1 1 6 = i32 ch := by rw [ri, if_pos rfl, if_neg (by decide)]; exact c7
    rw [e6]
    rintro _ rfl
    rw [i32_s]
    have h01 : r = 0 ∨ r = 1 := by
      rw [hr]
      rcases (show G 8 s = 0 ∨ G 8 s = 1 by omega) with z | z
      · rw [z]; exact Or.inl rfl
      · rw [z]; exact Or.inr rfl
    refine ⟨h01, h01, ?_⟩
    have fr : Fr [1] [] [] a (cg_i (cg_i a 1 1 w) 1 6 (i32 (ch + 1))) := (Fr.i (by decide)).tr (Fr.i (by decide))
    have g1 : ∀ i, i ≠ 1 → i ≠ 6 → (cg_i (cg_i a 1 1 w) 1 6 (i32 (ch + 1))).1 1 i = a.1 1 i := fun i h2 h6 => by
      rw [ri, if_pos rfl, if_neg h6, ri, if_pos rfl, if_neg h2]
    refine m_setTarget hR hv (fun z => absurd e (z s hs)) (fun s' k' τ hs' e' hk' e2' hR' h0 => m_thrown1 h0 ⟨rfl, ?_, ?_⟩)
    · rw [e, i32_eq (by omega) (by omega)] at e'
      subst e'
      rw [hr]
    · rw [e, i32_eq (by omega) (by omega)] at e'
      rw [hk, i32_eq (by omega) (by omega)] at e2'
      subst e'; subst e2'
      refine ⟨_, ch + 1, by omega, ⟨⟨?_, ?_, ?_, ?_, ?_, ?_, ?_⟩, fun s hs => ?_, fun m hm => ?_⟩, CK_next (by omega) hK (fr.1 31 (by decide)), hR'⟩
      · rw [g1 0 (by decide) (by decide)]; exact c1
      · rw [ri, if_pos rfl, if_neg (by decide), ri, if_pos rfl, if_pos rfl]; exact hw
      · rw [g1 2 (by decide) (by decide)]; exact c3
      · rw [g1 3 (by decide) (by decide)]; exact c4
      · rw [g1 4 (by decide) (by decide)]; exact c5
      · rw [g1 5 (by decide) (by decide)]; exact c6
      · rw [ri, if_pos rfl, if_pos rfl]
      · rw [fr.1 57 (by decide), fr.1 20 (by decide), fr.1 21 (by decide), fr.1 19 (by decide)]
        exact c8 s hs
      · rw [fr.1 22 (by decide), fr.1 23 (by decide), fr.1 24 (by decide), fr.1 25 (by decide), fr.1 (36 + m) (by simp; omega)]
        exact c9 m hm
  have on : mk (a.1 1 1 ||| (1 <<< (i32 s &&& 31))) (fun t => gU G 8 s 1 8 t ≠ 0) := mk_congr (mk_or c2 (show s < 7 by omega)) (fun t ht => by
    show (G 8 t ≠ 0 ∨ t = s) ↔ (if t = s then 1 else G 8 t) ≠ 0
    by_cases c : t = s
    · rw [if_pos c]; exact ⟨fun _ => by omega, fun _ => Or.inr c⟩
    · rw [if_neg c]; exact ⟨fun z => z.resolve_right c, Or.inl⟩)
  have off : mk (a.1 1 1 &&& ((1 <<< (i32 s &&& 31)) ^^^ (-1))) (fun t => gU G 8 s 0 8 t ≠ 0) := mk_congr (mk_off c2 (show s < 7 by omega)) (fun t ht => by
    show (G 8 t ≠ 0 ∧ t ≠ s) ↔ (if t = s then 0 else G 8 t) ≠ 0
    by_cases c : t = s
    · rw [if_pos c]; exact ⟨fun z => absurd c z.2, fun z => absurd rfl z⟩
    · rw [if_neg c]; exact ⟨And.left, fun z => ⟨z, c⟩⟩)
  have key : M_X2_isTarget v1 a = M_X2_isTarget (i32 s) a := by rw [e]
  rw [key]
  have both : ∀ r : Int32, r = i32 (G 8 s) → (v2 = 0 → ∀ s4 : cg_S, s4 = cg_i a 1 1 ((a.1 1 1) &&& ((1 <<< (v1 &&& 31)) ^^^ (-1))) → L_X2_mark_39 r s4 (fun r1 s2 => (r1 = 0 ∨ r1 = 1) ∧ M_X12_setTarget v1 v2 b (fun r2 b1 => M_X12_thrown b1 (fun t b2 => t = 0 ∧ (r1 = 0 ↔ r2 = 0) ∧ Inv (n + 1) s2 b2)))) ∧ (¬ v2 = 0 → ∀ s5 : cg_S, s5 = cg_i a 1 1 ((a.1 1 1) ||| (1 <<< (v1 &&& 31))) → L_X2_mark_39 r s5 (fun r1 s2 => (r1 = 0 ∨ r1 = 1) ∧ M_X12_setTarget v1 v2 b (fun r2 b1 => M_X12_thrown b1 (fun t b2 => t = 0 ∧ (r1 = 0 ↔ r2 = 0) ∧ Inv (n + 1) s2 b2)))) := fun r hr => by
    refine ⟨fun z => ?_, fun z => ?_⟩
    · rintro _ rfl
      rw [show a.1 1 1 &&& (((1 : Int32) <<< (v1 &&& 31)) ^^^ (-1 : Int32)) = a.1 1 1 &&& (((1 : Int32) <<< (i32 s &&& 31)) ^^^ (-1 : Int32)) by rw [e]]
      exact fin 0 r _ z (by omega) hr off
    · rintro _ rfl
      rw [show a.1 1 1 ||| ((1 : Int32) <<< (v1 &&& 31)) = a.1 1 1 ||| ((1 : Int32) <<< (i32 s &&& 31)) by rw [e]]
      exact fin 1 r _ (hv.resolve_left z) (by omega) hr on
  refine c_isTarget hC (by omega) (fun z => both 1 ?_) (fun z => both 0 ?_)
  · rw [show G 8 s = 1 by omega]; rfl
  · rw [z]; rfl
