/-! THE CALLS: a choice more, weight more -/
theorem op_addChoice {n : Nat} {v1 v2 v3 : Int32} {a b : cg_S} (hn : n < 900) (h : Inv n a b) : OP_addChoice (Inv (n + 1)) v1 v2 v3 a b := by
  obtain ⟨G, ch, hch, hC, hK, hR⟩ := h
  have hW := hR.1
  have hn7 := hW.1
  have up := fun x => Inv.up (n := n) (x := x) hch hC hK hR
  refine v_X11_addChoice (c_needState hC hn7 (fun s hs e => ?_) (fun z => Or.inl ⟨rfl, m_addChoice hR (fun _ => m_thrown0 ⟨rfl, up _⟩) (fun s hs e _ => absurd e (z s hs)) (fun s _ _ hs e _ _ _ _ _ => absurd e (z s hs)) (fun s _ _ _ hs e _ _ _ _ _ _ _ => absurd e (z s hs))⟩))
  have g3 := (hW.2.1 s (by omega)).2.2.1
  obtain ⟨⟨c1, c2, c3, c4, c5, c6, c7⟩, c8, c9⟩ := id hC
  have bad : ((∀ x, x ≤ 9 → v2 ≠ i32 x) ∨ ∀ x, x ≤ 9 → v3 ≠ i32 x) → ("java/lang/IllegalArgumentException" = "java/lang/IndexOutOfBoundsException" ∧ M_X12_addChoice v1 v2 v3 b (fun r2 b1 => M_X12_thrown b1 (fun t b2 => t = 1 ∧ Inv (n + 1) a b2))) ∨ ("java/lang/IllegalArgumentException" = "java/lang/IllegalArgumentException" ∧ M_X12_addChoice v1 v2 v3 b (fun r2 b1 => M_X12_thrown b1 (fun t b2 => t = 2 ∧ Inv (n + 1) a b2))) ∨ ("java/lang/IllegalArgumentException" = "java/lang/IllegalStateException" ∧ M_X12_addChoice v1 v2 v3 b (fun r2 b1 => M_X12_thrown b1 (fun t b2 => t = 3 ∧ Inv (n + 1) a b2))) := fun z => Or.inr (Or.inl ⟨rfl, m_addChoice hR (fun y => absurd e (y s hs)) (fun _ _ _ _ => m_thrown0 ⟨rfl, up _⟩) (fun _ x y _ _ hx ex hy ey _ => z.elim (fun w => absurd ex (w x hx)) (fun w => absurd ey (w y hy))) (fun _ x y _ _ _ hx ex hy ey _ _ _ => z.elim (fun w => absurd ex (w x hx)) (fun w => absurd ey (w y hy)))⟩)
  refine ⟨fun z => bad (Or.inl (fun x hx ex => rg_lo (a := 0) (by omega) z x (by omega) (by omega) ex)), fun z1 => ⟨fun z => bad (Or.inl (fun x hx ex => rg_hi2 (b := 9) (by omega) z x hx ex)), fun z2 => ⟨fun z => bad (Or.inr (fun x hx ex => rg_lo (a := 0) (by omega) z x (by omega) (by omega) ex)), fun z3 => ⟨fun z4 => ?_, fun z => bad (Or.inr (fun x hx ex => rg_hi (b := 9) (by omega) z x hx ex))⟩⟩⟩⟩
  obtain ⟨x, -, hx, ex⟩ := rg (a := 0) (b := 9) (by omega) (by omega) z1 (rg_le z2)
  obtain ⟨y, -, hy, ey⟩ := rg (a := 0) (b := 9) (by omega) (by omega) z3 z4
  have hN : v1.toNatClampNeg = s := by rw [e]; exact i32_N (by omega)
  have hv : vp_in v1 7 := by rw [e]; exact vpi (by omega) (by omega)
  rw [hN, (c8 s (by omega)).2.2.1, n3, i32_lt (by omega) (by omega)]
  refine ⟨hv, fun z => v_X2_placeChoice ⟨hv, ?_⟩, fun z => Or.inr (Or.inr ⟨rfl, m_addChoice hR (fun y => absurd e (y s hs)) (fun _ _ _ w => w.elim (fun w => absurd ex (w x hx)) (fun w => absurd ey (w y hy))) (fun _ _ _ _ _ _ _ _ _ _ => m_thrown0 ⟨rfl, up _⟩) (fun s' _ _ _ hs' e' _ _ _ _ w _ _ => ?_)⟩)⟩
  · rw [hN, (c8 s (by omega)).2.2.1]
    rintro _ rfl
    have key : M_X2_moveOf v1 (i32 (G 3 s)) a = M_X2_moveOf (i32 s) (i32 (G 3 s)) a := by rw [e]
    rw [key]
    refine c_moveOf ⟨vpi (by omega) (by omega), ?_⟩
    rw [i32_N (by omega)]
    rintro _ rfl
    refine ⟨vpi (by omega) (by omega), ?_⟩
    rintro _ rfl
    refine ⟨hv, hv, ?_⟩
    have e3 : (cg_i (cg_i a 22 (3 * s + G 3 s) v2) 23 (3 * s + G 3 s) v3).1 21 s = i32 (G 3 s) := by
      rw [ri, if_neg (by decide), ri, if_neg (by decide)]; exact (c8 s (by omega)).2.2.1
    rw [e3]
    rintro _ rfl
    have e6 : (cg_i (cg_i (cg_i a 22 (3 * s + G 3 s) v2) 23 (3 * s + G 3 s) v3) 21 s (i32 (G 3 s) + 1)).1 1 6 = i32 ch := by
      rw [ri, if_neg (by decide), ri, if_neg (by decide), ri, if_neg (by decide)]; exact c7
    rw [e6]
    rintro _ rfl
    rw [i32_s, i32_s]
    have fr : Fr [1, 21, 22, 23] [] [] a (cg_i (cg_i (cg_i (cg_i a 22 (3 * s + G 3 s) v2) 23 (3 * s + G 3 s) v3) 21 s (i32 (G 3 s + 1))) 1 6 (i32 (ch + 1))) := (Fr.i (by decide)).tr ((Fr.i (by decide)).tr ((Fr.i (by decide)).tr (Fr.i (by decide))))
    have g1 : ∀ i, i ≠ 6 → (cg_i (cg_i (cg_i (cg_i a 22 (3 * s + G 3 s) v2) 23 (3 * s + G 3 s) v3) 21 s (i32 (G 3 s + 1))) 1 6 (i32 (ch + 1))).1 1 i = a.1 1 i := fun i h6 => by
      rw [ri, if_pos rfl, if_neg h6, ri, if_neg (by decide), ri, if_neg (by decide), ri, if_neg (by decide)]
    refine m_addChoice hR (fun y => absurd e (y s hs)) (fun _ _ _ w => w.elim (fun w => absurd ex (w x hx)) (fun w => absurd ey (w y hy))) (fun s' _ _ hs' e' _ _ _ _ w => ?_) (fun s' x' y' τ hs' e' hx' ex' hy' ey' _ hR' h0 => m_thrown1 h0 ⟨rfl, ?_, ?_⟩)
    · rw [e, i32_eq (by omega) (by omega)] at e'
      subst e'
      omega
    · rw [e, i32_eq (by omega) (by omega)] at e'
      subst e'
      rfl
    · rw [e, i32_eq (by omega) (by omega)] at e'
      rw [ex, i32_eq (by omega) (by omega)] at ex'
      rw [ey, i32_eq (by omega) (by omega)] at ey'
      subst e'; subst ex'; subst ey'
      refine ⟨_, ch + 1, by omega, ⟨⟨?_, ?_, ?_, ?_, ?_, ?_, ?_⟩, fun t ht => ?_, fun m hm => ?_⟩, CK_next (by omega) hK (fr.1 31 (by decide)), hR'⟩
      · rw [g1 0 (by decide)]; exact c1
      · rw [g1 1 (by decide)]; exact c2
      · rw [g1 2 (by decide)]; exact c3
      · rw [g1 3 (by decide)]; exact c4
      · rw [g1 4 (by decide)]; exact c5
      · rw [g1 5 (by decide)]; exact c6
      · rw [ri, if_pos rfl, if_pos rfl]
      · obtain ⟨d1, d2, d3, d4⟩ := c8 t ht
        rw [fr.1 57 (by decide), fr.1 20 (by decide), fr.1 19 (by decide)]
        refine ⟨d1, d2, ?_, d4⟩
        rw [ri, if_neg (by decide), ri, if_pos rfl]
        show _ = i32 (if t = s then G 3 s + 1 else G 3 t)
        by_cases c : t = s
        · rw [if_pos c, if_pos c]
        · rw [if_neg c, if_neg c, ri, if_neg (by decide), ri, if_neg (by decide)]; exact d3
      · obtain ⟨d1, d2, d3, d4, d5⟩ := c9 m hm
        rw [fr.1 24 (by decide), fr.1 25 (by decide), fr.1 (36 + m) (by simp; omega)]
        refine ⟨?_, ?_, d3, d4, d5⟩
        · rw [ri, if_neg (by decide), ri, if_neg (by decide), ri, if_neg (by decide), ri, if_pos rfl]
          show _ = i32 (if m = 3 * s + G 3 s then x else G 4 m)
          by_cases c : m = 3 * s + G 3 s
          · rw [if_pos c, if_pos c]; exact ex
          · rw [if_neg c, if_neg c]; exact d1
        · rw [ri, if_neg (by decide), ri, if_neg (by decide), ri, if_pos rfl]
          show _ = i32 (if m = 3 * s + G 3 s then y else G 5 m)
          by_cases c : m = 3 * s + G 3 s
          · rw [if_pos c, if_pos c]; exact ey
          · rw [if_neg c, if_neg c, ri, if_neg (by decide)]; exact d2
  · rw [e, i32_eq (by omega) (by omega)] at e'
    subst e'
    omega
theorem op_addWeight {n : Nat} {v1 v2 v3 v4 : Int32} {a b : cg_S} (hn : n < 900) (h : Inv n a b) : OP_addWeight (Inv (n + 1)) v1 v2 v3 v4 a b := by
  obtain ⟨G, ch, hch, hC, hK, hR⟩ := h
  have hW := hR.1
  have hn7 := hW.1
  have up := fun x => Inv.up (n := n) (x := x) hch hC hK hR
  refine v_X11_addWeight (c_needChoice hC hW (fun s c hs e1 hc e2 => c_needState hC hn7 (fun t ht e3 => ?_) (fun z => Or.inl ⟨rfl, m_addWeight hR (fun _ => m_thrown0 ⟨rfl, up _⟩) (fun _ _ t _ _ _ _ ht e _ => absurd e (z t ht)) (fun _ _ t _ _ _ _ _ ht e _ _ _ _ => absurd e (z t ht)) (fun _ _ t _ _ _ _ _ _ ht e _ _ _ _ _ _ => absurd e (z t ht))⟩)) (fun z => Or.inl ⟨rfl, m_addWeight hR (fun _ => m_thrown0 ⟨rfl, up _⟩) (fun s c _ hs e hc e' _ _ _ => absurd e' (z s c hs e hc)) (fun s c _ _ hs e hc e' _ _ _ _ _ _ => absurd e' (z s c hs e hc)) (fun s c _ _ _ hs e hc e' _ _ _ _ _ _ _ _ => absurd e' (z s c hs e hc))⟩))
  have g3 := (hW.2.1 s (by omega)).2.2.1
  have hu : ∀ s' c' t', s' < G 0 0 → v1 = i32 s' → c' < G 3 s' → v2 = i32 c' → t' < G 0 0 → v3 = i32 t' → s' = s ∧ c' = c ∧ t' = t := fun s' c' t' h1 h2 h3 h4 h5 h6 => by
    have g3' := (hW.2.1 s' (by omega)).2.2.1
    rw [e1, i32_eq (by omega) (by omega)] at h2
    rw [e2, i32_eq (by omega) (by omega)] at h4
    rw [e3, i32_eq (by omega) (by omega)] at h6
    exact ⟨h2.symm, h4.symm, h6.symm⟩
  have g6 := (hW.2.2.1 (3 * s + c) (by omega)).2.2.1
  have g7 := hW.w6 (m := 3 * s + c) (t := t) (by omega) (by omega)
  obtain ⟨⟨c1, c2, c3, c4, c5, c6, c7⟩, c8, c9⟩ := id hC
  obtain ⟨d1, d2, d3, d4, d5⟩ := c9 (3 * s + c) (by omega)
  have bad : (∀ w, 1 ≤ w → w ≤ 6 → v4 ≠ i32 w) → ("java/lang/IllegalArgumentException" = "java/lang/IndexOutOfBoundsException" ∧ M_X12_addWeight v1 v2 v3 v4 b (fun r2 b1 => M_X12_thrown b1 (fun t b2 => t = 1 ∧ Inv (n + 1) a b2))) ∨ ("java/lang/IllegalArgumentException" = "java/lang/IllegalArgumentException" ∧ M_X12_addWeight v1 v2 v3 v4 b (fun r2 b1 => M_X12_thrown b1 (fun t b2 => t = 2 ∧ Inv (n + 1) a b2))) ∨ ("java/lang/IllegalArgumentException" = "java/lang/IllegalStateException" ∧ M_X12_addWeight v1 v2 v3 v4 b (fun r2 b1 => M_X12_thrown b1 (fun t b2 => t = 3 ∧ Inv (n + 1) a b2))) := fun z => Or.inr (Or.inl ⟨rfl, m_addWeight hR (fun y => absurd e3 (y s c t hs e1 hc e2 ht)) (fun _ _ _ _ _ _ _ _ _ _ => m_thrown0 ⟨rfl, up _⟩) (fun _ _ _ w _ _ _ _ _ _ h1 h6 ew _ => absurd ew (z w h1 h6)) (fun _ _ _ w _ _ _ _ _ _ _ h1 h6 ew _ _ _ => absurd ew (z w h1 h6))⟩)
  refine ⟨fun z => bad (fun w h1 h6 ew => rg_lo (a := 1) (by omega) z w h1 (by omega) ew), fun z1 => ⟨fun z2 => ?_, fun z => bad (fun w h1 h6 ew => rg_hi (b := 6) (by omega) z w h6 ew)⟩⟩
  obtain ⟨w, hw1, hw6, e4⟩ := rg (a := 1) (b := 6) (by omega) (by omega) z1 z2
  have key : M_X2_moveOf v1 v2 a = M_X2_moveOf (i32 s) (i32 c) a := by rw [e1, e2]
  rw [key]
  refine c_moveOf ⟨vpi (by omega) (by omega), ?_⟩
  rw [i32_N (by omega), d3]
  have hle : i32 (G 6 (3 * s + c)) + v4 ≤ 6 ↔ G 6 (3 * s + c) + w ≤ 6 := by
    rw [e4, i32_add, n6, i32_le (by omega) (by omega)]
  rw [hle]
  have hN : v3.toNatClampNeg = t := by rw [e3]; exact i32_N (by omega)
  have hv : vp_in v3 7 := by rw [e3]; exact vpi (by omega) (by omega)
  refine ⟨fun z => v_X2_placeWeight ⟨vpi (by omega) (by omega), hv, hv, ?_⟩, fun z => Or.inr (Or.inr ⟨rfl, m_addWeight hR (fun y => absurd e3 (y s c t hs e1 hc e2 ht)) (fun _ _ _ _ _ _ _ _ _ y => absurd e4 (y w hw1 hw6)) (fun _ _ _ _ _ _ _ _ _ _ _ _ _ _ => m_thrown0 ⟨rfl, up _⟩) (fun s' c' t' w' τ x1 x2 x3 x4 x5 x6 x7 x8 x9 x10 _ _ => ?_)⟩)⟩
  · rw [i32_N (by omega), hN, d5 t (by omega)]
    rintro _ rfl
    refine ⟨vpi (by omega) (by omega), vpi (by omega) (by omega), ?_⟩
    have f1 : (cg_i a (36 + (3 * s + c)) t (i32 (G 7 (7 * (3 * s + c) + t)) + v4)).1 24 (3 * s + c) = i32 (G 6 (3 * s + c)) := by
      rw [ri, if_neg (by omega)]; exact d3
    rw [f1]
    rintro _ rfl
    refine ⟨vpi (by omega) (by omega), vpi (by omega) (by omega), ?_⟩
    have f2 : (cg_i (cg_i a (36 + (3 * s + c)) t (i32 (G 7 (7 * (3 * s + c) + t)) + v4)) 24 (3 * s + c) (i32 (G 6 (3 * s + c)) + v4)).1 25 (3 * s + c) = a.1 25 (3 * s + c) := by
      rw [ri, if_neg (by decide), ri, if_neg (by omega)]
    rw [f2]
    have f5 : a.1 25 (3 * s + c) ||| ((1 : Int32) <<< (v3 &&& 31)) = a.1 25 (3 * s + c) ||| ((1 : Int32) <<< (i32 t &&& 31)) := by rw [e3]
    rw [f5]
    rintro _ rfl
    generalize hLe : a.1 25 (3 * s + c) ||| ((1 : Int32) <<< (i32 t &&& 31)) = le
    have f3 : (cg_i (cg_i (cg_i a (36 + (3 * s + c)) t (i32 (G 7 (7 * (3 * s + c) + t)) + v4)) 24 (3 * s + c) (i32 (G 6 (3 * s + c)) + v4)) 25 (3 * s + c) le).1 1 6 = i32 ch := by
      rw [ri, if_neg (by decide), ri, if_neg (by decide), ri, if_neg (by omega)]; exact c7
    rw [f3]
    rintro _ rfl
    rw [i32_s, e4, i32_add, i32_add]
    have fr : Fr [1, 24, 25, 36 + (3 * s + c)] [] [] a (cg_i (cg_i (cg_i (cg_i a (36 + (3 * s + c)) t (i32 (G 7 (7 * (3 * s + c) + t) + w))) 24 (3 * s + c) (i32 (G 6 (3 * s + c) + w))) 25 (3 * s + c) le) 1 6 (i32 (ch + 1))) := (Fr.i (by simp)).tr ((Fr.i (by simp)).tr ((Fr.i (by simp)).tr (Fr.i (by simp))))
    have f4 : (cg_i (cg_i (cg_i (cg_i a (36 + (3 * s + c)) t (i32 (G 7 (7 * (3 * s + c) + t) + w))) 24 (3 * s + c) (i32 (G 6 (3 * s + c) + w))) 25 (3 * s + c) le) 1 6 (i32 (ch + 1))).1 24 (3 * s + c) = i32 (G 6 (3 * s + c) + w) := by
      rw [ri, if_neg (by decide), ri, if_neg (by decide), ri, if_pos rfl, if_pos rfl]
    rw [f4]
    refine ⟨vpi (by omega) (by omega), ?_⟩
    have g1 : ∀ i, i ≠ 6 → (cg_i (cg_i (cg_i (cg_i a (36 + (3 * s + c)) t (i32 (G 7 (7 * (3 * s + c) + t) + w))) 24 (3 * s + c) (i32 (G 6 (3 * s + c) + w))) 25 (3 * s + c) le) 1 6 (i32 (ch + 1))).1 1 i = a.1 1 i := fun i h6 => by
      rw [ri, if_pos rfl, if_neg h6, ri, if_neg (by decide), ri, if_neg (by decide), ri, if_neg (by omega)]
    rw [← e4]
    refine m_addWeight hR (fun y => absurd e3 (y s c t hs e1 hc e2 ht)) (fun _ _ _ _ _ _ _ _ _ y => absurd e4 (y w hw1 hw6)) (fun s' c' t' w' x1 x2 x3 x4 x5 x6 x7 x8 x9 x10 => ?_) (fun s' c' t' w' τ x1 x2 x3 x4 x5 x6 x7 x8 x9 x10 hR' h0 => m_thrown1 h0 ⟨rfl, ?_, ?_⟩)
    · obtain ⟨rfl, rfl, rfl⟩ := hu s' c' t' x1 x2 x3 x4 x5 x6
      rw [e4, i32_eq (by omega) (by omega)] at x9
      subst x9
      exact absurd z x10
    · obtain ⟨rfl, rfl, rfl⟩ := hu s' c' t' x1 x2 x3 x4 x5 x6
      rw [e4, i32_eq (by omega) (by omega)] at x9
      subst x9
      rfl
    · obtain ⟨rfl, rfl, rfl⟩ := hu s' c' t' x1 x2 x3 x4 x5 x6
      rw [e4, i32_eq (by omega) (by omega)] at x9
      subst x9
      refine ⟨_, ch + 1, by omega, ⟨⟨?_, ?_, ?_, ?_, ?_, ?_, ?_⟩, fun u hu => ?_, fun m hm => ?_⟩, CK_next (by omega) hK (fr.1 31 (by simp; omega)), hR'⟩
      · rw [g1 0 (by decide)]; exact c1
      · rw [g1 1 (by decide)]; exact c2
      · rw [g1 2 (by decide)]; exact c3
      · rw [g1 3 (by decide)]; exact c4
      · rw [g1 4 (by decide)]; exact c5
      · rw [g1 5 (by decide)]; exact c6
      · rw [ri, if_pos rfl, if_pos rfl]
      · rw [fr.1 57 (by simp; omega), fr.1 20 (by simp; omega), fr.1 21 (by simp; omega), fr.1 19 (by simp; omega)]
        exact c8 u hu
      · obtain ⟨q1, q2, q3, q4, q5⟩ := c9 m hm
        rw [fr.1 22 (by simp; omega), fr.1 23 (by simp; omega)]
        refine ⟨q1, q2, ?_, ?_, fun u hu => ?_⟩
        · rw [ri, if_neg (by decide), ri, if_neg (by decide), ri, if_pos rfl]
          show _ = i32 (if m = 3 * s' + c' then G 6 (3 * s' + c') + w else G 6 m)
          by_cases k : m = 3 * s' + c'
          · rw [if_pos k, if_pos k]
          · rw [if_neg k, if_neg k, ri, if_neg (by omega)]; exact q3
        · rw [ri, if_neg (by decide), ri, if_pos rfl]
          by_cases k : m = 3 * s' + c'
          · rw [if_pos k, ← hLe]
            refine mk_congr (mk_or d4 (show t' < 7 by omega)) (fun u hu => ?_)
            show (G 7 (7 * (3 * s' + c') + u) ≠ 0 ∨ u = t') ↔ (if 7 * m + u = 7 * (3 * s' + c') + t' then G 7 (7 * (3 * s' + c') + t') + w else G 7 (7 * m + u)) ≠ 0
            rw [k]
            by_cases l : u = t'
            · subst l
              rw [if_pos rfl]
              exact ⟨fun _ => by omega, fun _ => Or.inr rfl⟩
            · rw [if_neg (by omega)]
              exact ⟨fun z => z.resolve_right l, Or.inl⟩
          · rw [if_neg k, ri, if_neg (by decide), ri, if_neg (by omega)]
            refine mk_congr q4 (fun u hu => ?_)
            show G 7 (7 * m + u) ≠ 0 ↔ (if 7 * m + u = 7 * (3 * s' + c') + t' then G 7 (7 * (3 * s' + c') + t') + w else G 7 (7 * m + u)) ≠ 0
            rw [if_neg (by omega)]
        · rw [ri, if_neg (by omega), ri, if_neg (by omega), ri, if_neg (by omega), ri]
          show _ = i32 (if 7 * m + u = 7 * (3 * s' + c') + t' then G 7 (7 * (3 * s' + c') + t') + w else G 7 (7 * m + u))
          by_cases k : m = 3 * s' + c'
          · rw [if_pos (by omega)]
            subst k
            by_cases l : u = t'
            · subst l
              rw [if_pos rfl, if_pos rfl]
            · rw [if_neg l, if_neg (by omega)]; exact q5 u hu
          · rw [if_neg (by omega), if_neg (by omega)]; exact q5 u hu
  · obtain ⟨rfl, rfl, rfl⟩ := hu s' c' t' x1 x2 x3 x4 x5 x6
    rw [e4, i32_eq (by omega) (by omega)] at x9
    subst x9
    exact absurd x10 z
