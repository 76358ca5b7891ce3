/-! THE CALLS: what is built, and what is told -/
theorem op_states {n : Nat} {a b : cg_S} (h : Inv n a b) : OP_states (Inv (n + 1)) a b := by
  obtain ⟨G, ch, hch, hC, hK, hR⟩ := h
  refine v_X11_states (m_states hR ⟨?_, Inv.up hch hC hK hR⟩)
  exact hC.1.1
theorem op_isWhole {n : Nat} {a b : cg_S} (h : Inv n a b) : OP_isWhole (Inv (n + 1)) a b := by
  obtain ⟨G, ch, hch, hC, hK, hR⟩ := h
  have up := fun x => Inv.up (n := n) (x := x) hch hC hK hR
  refine v_X11_isWhole (c_isReady hC hR.1 (fun z => ⟨Or.inr rfl, ?_⟩) (fun z => ⟨Or.inl rfl, ?_⟩))
  · exact m_isWhole hR (fun _ => ⟨by simp, up _⟩) (fun y => absurd z y)
  · exact m_isWhole hR (fun y => absurd y z) (fun _ => ⟨by simp, up _⟩)
theorem op_choices {n : Nat} {v1 : Int32} {a b : cg_S} (h : Inv n a b) : OP_choices (Inv (n + 1)) v1 a b := by
  obtain ⟨G, ch, hch, hC, hK, hR⟩ := h
  have hW := hR.1
  have hn := hW.1
  have up := fun x => Inv.up (n := n) (x := x) hch hC hK hR
  refine v_X11_choices (c_needState hC hn (fun s hs e => ?_) (fun z => ⟨rfl, m_choices hR (fun s hs e => absurd e (z s hs)) (fun _ => m_thrown0 ⟨rfl, up _⟩)⟩))
  refine ⟨by rw [e]; exact vpi (by omega) (by omega), m_choices hR (fun s' hs' e' => m_thrown0 ⟨rfl, ?_, up _⟩) (fun z => absurd e (z s hs))⟩
  rw [e, i32_eq (by omega) (by omega)] at e'
  subst e'
  rw [e, i32_N (by omega)]
  exact (hC.2.1 s (by omega)).2.2.1
theorem op_told {n : Nat} {v1 : Int32} {a b : cg_S} (h : Inv n a b) : OP_told (Inv (n + 1)) v1 a b := by
  obtain ⟨G, ch, hch, hC, hK, hR⟩ := h
  have hW := hR.1
  have hn := hW.1
  have up := fun x => Inv.up (n := n) (x := x) hch hC hK hR
  refine v_X11_told (c_needState hC hn (fun s hs e => ?_) (fun z => ⟨rfl, m_told hR (fun s hs e => absurd e (z s hs)) (fun _ => m_thrown0 ⟨rfl, up _⟩)⟩))
  refine ⟨by rw [e]; exact vpi (by omega) (by omega), m_told hR (fun s' hs' e' => m_thrown0 ⟨rfl, ?_, up _⟩) (fun z => absurd e (z s hs))⟩
  rw [e, i32_eq (by omega) (by omega)] at e'
  subst e'
  rw [e, i32_N (by omega)]
  exact (hC.2.1 s (by omega)).2.2.2
theorem op_tell {n : Nat} {v1 v2 : Int32} {a b : cg_S} (h : Inv n a b) : OP_tell (Inv (n + 1)) v1 v2 a b := by
  obtain ⟨G, ch, hch, hC, hK, hR⟩ := h
  have hW := hR.1
  have hn := hW.1
  have up := fun x => Inv.up (n := n) (x := x) hch hC hK hR
  refine v_X11_tell (c_needChoice hC hW (fun s c hs e1 hc e2 => ?_) (fun z => ⟨rfl, m_tell hR (fun _ => m_thrown0 ⟨rfl, up _⟩) (fun s c _ hs e1 hc e2 _ _ => absurd e2 (z s c hs e1 hc))⟩))
  have hv : vp_in v1 7 := by rw [e1]; exact vpi (by omega) (by omega)
  refine ⟨hv, ?_⟩
  rintro _ rfl
  refine ⟨hv, ?_⟩
  rintro _ rfl
  have g3 := (hW.2.1 s (by omega)).2.2.1
  refine m_tell hR (fun z => absurd e2 (z s c hs e1 hc)) (fun s' c' τ hs' e1' hc' e2' hR' h0 => m_thrown1 h0 ⟨rfl, ?_, ?_⟩)
  · rw [e1, i32_eq (by omega) (by omega)] at e1'
    subst e1'
    rw [e1, i32_N (by omega)]
    exact (hC.2.1 s (by omega)).2.2.2
  · rw [e1, i32_eq (by omega) (by omega)] at e1'
    subst e1'
    rw [e2, i32_eq (by omega) (by omega)] at e2'
    subst e2'
    rw [e1, i32_N (by omega), e2]
    have fr : Fr [19] [] [] a (cg_i a 19 s (i32 c)) := Fr.i (by decide)
    obtain ⟨c1, c8, c9⟩ := hC
    refine ⟨gU G 10 s c, ch, by omega, ⟨?_, fun t ht => ?_, fun m hm => ?_⟩, fun aim ha => ?_, hR'⟩
    · rw [fr.1 1 (by decide)]; exact c1
    · rw [fr.1 57 (by decide), fr.1 20 (by decide), fr.1 21 (by decide)]
      obtain ⟨d1, d2, d3, d4⟩ := c8 t ht
      refine ⟨d1, d2, d3, ?_⟩
      rw [ri, if_pos rfl]
      show _ = i32 (if t = s then c else G 10 t)
      by_cases e : t = s
      · rw [if_pos e, if_pos e]
      · rw [if_neg e, if_neg e]; exact d4
    · rw [fr.1 22 (by decide), fr.1 23 (by decide), fr.1 24 (by decide), fr.1 25 (by decide), fr.1 (36 + m) (by simp; omega)]
      exact c9 m hm
    · have := hK aim ha
      rw [fr.1 31 (by decide)]
      exact this
theorem op_chance {n : Nat} {v1 v2 v3 : Int32} {a b : cg_S} (h : Inv n a b) : OP_chance (Inv (n + 1)) v1 v2 v3 a b := by
  obtain ⟨G, ch, hch, hC, hK, hR⟩ := h
  have hW := hR.1
  have hn := hW.1
  have up := fun x => Inv.up (n := n) (x := x) hch hC hK hR
  refine v_X11_chance (c_needChoice hC hW (fun s c hs e1 hc e2 => c_needState hC hn (fun t ht e3 => ?_) (fun z => Or.inl ⟨rfl, m_chance hR (fun _ => m_thrown0 ⟨rfl, up _⟩) (fun _ _ t _ _ _ _ ht e _ => absurd e (z t ht)) (fun _ _ t _ _ _ _ _ ht e _ _ _ => absurd e (z t ht))⟩)) (fun z => Or.inl ⟨rfl, m_chance hR (fun _ => m_thrown0 ⟨rfl, up _⟩) (fun s c _ hs e hc e' _ _ _ => absurd e' (z s c hs e hc)) (fun s c _ _ hs e hc e' _ _ _ _ _ => absurd e' (z s c hs e hc))⟩))
  have g3 := (hW.2.1 s (by omega)).2.2.1
  have hu : ∀ s' c' t', s' < G 0 0 → v1 = i32 s' → c' < G 3 s' → v2 = i32 c' → t' < G 0 0 → v3 = i32 t' → s' = s ∧ c' = c ∧ t' = t := fun s' c' t' h1 h2 h3 h4 h5 h6 => by
    have g3' := (hW.2.1 s' (by omega)).2.2.1
    rw [e1, i32_eq (by omega) (by omega)] at h2
    rw [e2, i32_eq (by omega) (by omega)] at h4
    rw [e3, i32_eq (by omega) (by omega)] at h6
    exact ⟨h2.symm, h4.symm, h6.symm⟩
  have g6 := (hW.2.2.1 (3 * s + c) (by omega)).2.2.1
  have g7 := hW.w6 (m := 3 * s + c) (t := t) (by omega) (by omega)
  obtain ⟨d1, d2, d3, d4, d5⟩ := hC.2.2 (3 * s + c) (by omega)
  have key : M_X2_moveOf v1 v2 a = M_X2_moveOf (i32 s) (i32 c) a := by rw [e1, e2]
  rw [key]
  refine c_moveOf ⟨vpi (by omega) (by omega), ?_⟩
  rw [i32_N (by omega), d3]
  rintro _ rfl
  refine ⟨fun z => ⟨vpi (by omega) (by omega), ?_, ?_⟩, fun z => ?_⟩
  · rw [e3]; exact vpi (by omega) (by omega)
  · have key2 : v3.toNatClampNeg = t := by rw [e3]; exact i32_N (by omega)
    rw [key2, d5 t (by omega)]
    rintro _ rfl
    rw [n0, i32_eq (by omega) (by omega)] at z
    rw [i32_64 (by omega), i32_64 (by omega)]
    refine (c_lowest (by omega) (by omega) z).1 ((c_lowest (by omega) (by omega) z).2 ?_)
    refine m_chance hR (fun y => absurd e3 (y s c t hs e1 hc e2 ht)) (fun s' c' t' x1 x2 x3 x4 x5 x6 x7 => ?_) (fun s' c' t' τ x1 x2 x3 x4 x5 x6 x7 hR' h0 => m_thrown1 h0 ⟨rfl, ?_, ⟨G, ch, by omega, hC, hK, hR'⟩⟩)
    · obtain ⟨rfl, rfl, rfl⟩ := hu s' c' t' x1 x2 x3 x4 x5 x6
      exact absurd x7 z
    · obtain ⟨rfl, rfl, rfl⟩ := hu s' c' t' x1 x2 x3 x4 x5 x6
      have hnn : 0 ≤ (((G 7 (7 * (3 * s' + c') + t') : Nat) : Rat) / ((G 6 (3 * s' + c') : Nat) : Rat)).num := Rat.num_nonneg.mpr (rat_div_nonneg Rat.natCast_nonneg (Rat.natCast_pos.mpr (by omega)))
      generalize ((G 7 (7 * (3 * s' + c') + t') : Nat) : Rat) / ((G 6 (3 * s' + c') : Nat) : Rat) = q at *
      rw [show (10 : Int64) = i64 10 from rfl, i64_mul, i64_add]
      show (Int64.ofInt _).toInt32 = Int32.ofNat _
      rw [Int64.toInt32_ofInt, ← Int32.ofInt_eq_ofNat]
      congr 1
      omega
  · rw [n0, i32_eq (by omega) (by omega)] at z
    refine Or.inr ⟨rfl, m_chance hR (fun y => absurd e3 (y s c t hs e1 hc e2 ht)) (fun s' c' t' x1 x2 x3 x4 x5 x6 x7 => m_thrown0 ⟨rfl, up _⟩) (fun s' c' t' τ x1 x2 x3 x4 x5 x6 x7 hR' h0 => ?_)⟩
    obtain ⟨rfl, rfl, rfl⟩ := hu s' c' t' x1 x2 x3 x4 x5 x6
    exact absurd z x7
