/-! THE CALLS: closedOf -/
theorem tp_eq {G : Gm} {p : Nat → Nat} {s : Nat} (hs : s < G 0 0) : mv (tp G p) s = mv (G 10) s := by unfold mv tp; rw [if_pos hs]
theorem rch_congr {n : Nat} {wt : Nat → Nat → Rat} {p q : Nat → Nat} (h : ∀ s, s < n → p s = q s) {s t : Nat} (hs : s < n) : c_rch n wt p s t ↔ c_rch n wt q s t := by
  constructor
  · intro hc C hcl hC
    exact hc C (fun u hu hCu v hv hw => hcl u hu hCu v hv (by rw [← h u hu]; exact hw)) (fun u hu hw => hC u hu (by rw [← h s hs]; exact hw))
  · intro hc C hcl hC
    exact hc C (fun u hu hCu v hv hw => hcl u hu hCu v hv (by rw [h u hu]; exact hw)) (fun u hu hw => hC u hu (by rw [h s hs]; exact hw))
/-- the told picks, and what can be reached by them -/
theorem m_toldReach {G : Gm} {b : cg_S} {Q : cg_S → Prop} (hR : RB b G) (hw : whole G) (h0 : b.1 0 0 = i32 0) (h : ∀ τ r, RB τ G → τ.1 0 0 = i32 0 → MG τ G → RX τ (G 0 0) r → (∀ s t, s < G 0 0 → t < G 0 0 → (r s t ≠ 0 ↔ c_rch (G 0 0) (wtR G) (mv (G 10)) s t)) → Q τ) : M_X12_picksTold b (fun s5 => M_X12_reaches s5 Q) := by
  obtain ⟨hW, hG, ⟨p, hp⟩, hK⟩ := hR
  refine m_picksTold hW hp hG (fun τ f1 hp1 => ?_)
  refine m_reaches hW hp1 (hG.fr f1 (by decide)) (fun τ2 r f2 hX hr => ?_)
  have f3 : Fr [5, 20] [] [] b τ2 := (f1.mo (by simp) (by simp) (by simp)).tr (f2.mo (by simp) (by simp) (by simp))
  exact h τ2 r ⟨hW, hG.fr f3 (by decide), ⟨_, hp1.fr f2 (by decide)⟩, hK.fr f3 (by decide)⟩ (by rw [f3.1 0 (by decide)]; exact h0) (hG.fr f3 (by decide)) hX (fun s t hs ht => (hr s t hs ht).trans (rch_congr (fun s hs => tp_eq hs) hs))
/-- the lowest state of the closed set of a state -/
def cloL (G : Gm) (s t : Nat) : Prop := t < G 0 0 ∧ c_rch (G 0 0) (wtR G) (mv (G 10)) s t ∧ ∀ u, u < t → ¬ c_rch (G 0 0) (wtR G) (mv (G 10)) s u
def isClo (G : Gm) (s : Nat) : Prop := ∀ t, c_rch (G 0 0) (wtR G) (mv (G 10)) s t → c_rch (G 0 0) (wtR G) (mv (G 10)) t s
theorem cloL_uniq {G : Gm} {s t u : Nat} (h1 : cloL G s t) (h2 : cloL G s u) : t = u := by
  rcases Nat.lt_trichotomy t u with h | h | h
  · exact absurd h1.2.1 (h2.2.2 t h)
  · exact h
  · exact absurd h2.2.1 (h1.2.2 u h)
/-- something is always reached -/
theorem rch_some {G : Gm} {s : Nat} (hW : GW G) (hw : whole G) (hs : s < G 0 0) : ∃ t, t < G 0 0 ∧ c_rch (G 0 0) (wtR G) (mv (G 10)) s t := by
  have hn := hW.1
  have h3 := hW.2.1 s (by omega)
  have hw2 := hw.2 s hs
  have hc : G 10 s < G 3 s := by rcases h3.2.2.2.2.2 with z | z <;> omega
  have h6 := hw2.2 _ hc
  have hm : 3 * s + G 10 s < 21 := by omega
  refine Classical.byContradiction fun hno => ?_
  have h0 : sN (G 0 0) (fun t => G 7 (7 * (3 * s + G 10 s) + t)) = 0 := by
    have key : ∀ k, k ≤ G 0 0 → sN k (fun t => G 7 (7 * (3 * s + G 10 s) + t)) = 0 := by
      intro k
      induction k with
      | zero => intro _; rfl
      | succ k ih =>
        intro hk
        rw [sN, ih (by omega)]
        have : G 7 (7 * (3 * s + G 10 s) + k) = 0 := Classical.byContradiction fun hne => hno ⟨k, hk, fun C _ hC => hC k hk (wtR_ne.mpr hne)⟩
        omega
    exact key _ (Nat.le_refl _)
  have := (hW.2.2.1 _ hm).2.2.2.1
  omega
theorem rch_tr {n : Nat} {wt : Nat → Nat → Rat} {p : Nat → Nat} {s t u : Nat} (ht : t < n) (h1 : c_rch n wt p s t) (h2 : c_rch n wt p t u) : c_rch n wt p s u := fun C hcl hC => h2 C hcl (fun v hv hw => hcl t ht (h1 C hcl hC) v hv hw)
theorem m_closedOf {v : Int32} {G : Gm} {b : cg_S} {Q : Int32 → cg_S → Prop} (hR : RB b G) (hbad : ∀ e, why2 v G e → Q 0 (cg_i b 0 0 (i32 e))) (hy : ∀ s t τ, s < G 0 0 → v = i32 s → whole G → RB τ G → τ.1 0 0 = i32 0 → isClo G s → cloL G s t → Q (i32 t) τ) (hno : ∀ s τ, s < G 0 0 → v = i32 s → whole G → RB τ G → ¬ isClo G s → Q 0 (cg_i τ 0 0 (i32 3))) : M_X12_closedOf v b Q := by
  have hW := hR.1
  have hn := hW.1
  refine v_X12_closedOf (m_isGame hR (fun e he => ⟨fun z => absurd rfl z, fun _ => hbad e he⟩) (fun s hs e hw => ⟨fun _ => ?_, fun z => absurd z (by decide)⟩))
  refine m_toldReach hR.c0 hw (by rw [ri, if_pos rfl, if_pos rfl]) (fun τ r h1 h2 h3 hX hr => ?_)
  have no : ¬ isClo G s → M_X12_fails 3 τ (fun r13 s14 => Q r13 s14) := fun hc => v_X12_fails (by
    rintro _ rfl
    exact hno s τ hs e hw h1 hc)
  have hrl : ∀ t, c_rch (G 0 0) (wtR G) (mv (G 10)) s t → t < G 0 0 := fun t ht => rch_lt ht
  rw [e]
  refine m_isClosed hn h3.1.1 hX hs (fun hc hss => ⟨fun z => absurd z (by decide), fun _ => ?_⟩) (fun hc => ⟨fun _ => no (fun hcl => hc ⟨fun t ht hst => (hr t s ht hs).mpr (hcl t ((hr s t hs ht).mp hst)), ?_⟩), fun z => absurd rfl z⟩)
  · refine m_lowestOf hn hX hs (fun t ht htt hlow => hy s t τ hs e hw h1 h2 (fun u hu => (hr u s (hrl u hu) hs).mp (hc u (hrl u hu) ((hr s u hs (hrl u hu)).mpr hu))) ⟨by omega, ?_, fun u hu hsu => ?_⟩)
    · rcases htt with z | z
      · rw [z]; exact (hr s s hs hs).mp hss
      · exact (hr s t hs (by omega)).mp z.2
    · exact hlow u hu ⟨hc u (by omega) ((hr s u hs (by omega)).mpr hsu), (hr s u hs (by omega)).mpr hsu⟩
  · obtain ⟨t, ht, hst⟩ := rch_some hW hw hs
    exact (hr s s hs hs).mpr (rch_tr ht hst (hcl t hst))
theorem PK_told {a : cg_S} {G : Gm} {ch : Nat} (hC : CG a G ch) (hW : GW G) : PK a 19 (G 0 0) (G 10) := fun s hs => (hC.2.1 s (by have := hW.1; omega)).2.2.2
theorem told_2 {G : Gm} (hW : GW G) : ∀ s, s < 7 → G 10 s ≤ 2 := fun s hs => (hW.2.1 s hs).2.2.2.2.1
theorem told_ok {G : Gm} (hW : GW G) (hw : whole G) : pkOk G (G 10) := fun s hs => by
  have := (hw.2 s hs).1
  rcases (hW.2.1 s (by have := hW.1; omega)).2.2.2.2.2 with z | z <;> omega
theorem op_closedOf {n : Nat} {v1 : Int32} {a b : cg_S} (h : Inv n a b) : OP_closedOf (Inv (n + 1)) v1 a b := by
  obtain ⟨G, ch, hch, hC, hK, hR⟩ := h
  have hW := hR.1
  have hn7 := hW.1
  refine v_X11_closedOf (c_needWholeFor hC hW (fun s hs e hw => ?_) (fun e he => ?_))
  · refine c_follow hC hW (told_2 hW) (Or.inl rfl) (PK_told hC hW) (fun τ f1 hX => ?_)
    have hC1 := hC.fr f1 (by decide)
    have hK1 := hK.fr f1 (by decide)
    rw [show M_X3_closedSet v1 τ = M_X3_closedSet (i32 s) τ by rw [e]]
    have hinv : ∀ b', RB b' G → Inv (n + 1) τ b' := fun b' hb => ⟨G, ch, by omega, hC1, hK1, hb⟩
    have fail : ¬ isClo G s → M_X12_closedOf v1 b (fun r2 b1 => M_X12_thrown b1 (fun t b2 => t = 3 ∧ Inv (n + 1) τ b2)) := fun hcl => by
      refine m_closedOf hR (fun e' he' => (why2_no he' hs e hw).elim) (fun s' t' b' hs' e' _ _ _ hcl' _ => ?_) (fun s' b' hs' e' _ hb _ => m_thrown0 ⟨rfl, hinv _ hb.c0⟩)
      rw [e, i32_eq (by omega) (by omega)] at e'
      subst e'
      exact absurd hcl' hcl
    refine c_closedSet hC1 hW hX (fun s t _ ht => rch_lt ht) hs (fun hcl w hm => ?_) (fun hcl => ?_)
    · refine c_lowestOf hm (fun t ht hst hlow => ?_) (fun hno => ?_)
      · refine m_closedOf hR (fun e' he' => (why2_no he' hs e hw).elim) (fun s' t' b' hs' e' _ hb h0 hcl' hct => m_thrown1 h0 ⟨rfl, ?_, hinv _ hb⟩) (fun s' b' hs' e' _ _ hcl' => ?_)
        · rw [e, i32_eq (by omega) (by omega)] at e'
          subst e'
          rw [cloL_uniq hct ⟨rch_lt hst, hst, hlow⟩]
        · rw [e, i32_eq (by omega) (by omega)] at e'
          subst e'
          exact absurd hcl hcl'
      · obtain ⟨t, ht, hst⟩ := rch_some hW hw hs
        exact absurd hst (hno t (by omega))
    · refine c_lowestOf mk_none (fun t ht hst _ => hst.elim) (fun _ => Or.inr (Or.inr ⟨rfl, fail hcl⟩))
  · have fin : ∀ P : Int32 → cg_S → Prop, P (i32 e) (cg_i b 0 0 (i32 e)) → M_X12_closedOf v1 b (fun r2 b1 => M_X12_thrown b1 P) := fun P hP => m_closedOf hR (fun e' he' => by rw [why2_uniq he' he]; exact m_thrown0 hP) (fun s t τ hs e1 hw _ _ _ _ => (why2_no he hs e1 hw).elim) (fun s τ hs e1 hw _ _ => (why2_no he hs e1 hw).elim)
    have hI : Inv (n + 1) a (cg_i b 0 0 (i32 e)) := Inv.up hch hC hK hR
    rcases (show e = 1 ∨ e = 2 by rcases he with ⟨z, -⟩ | ⟨z, -⟩ <;> omega) with rfl | rfl
    · exact Or.inl ⟨rfl, fin _ ⟨rfl, hI⟩⟩
    · exact Or.inr (Or.inl ⟨rfl, fin _ ⟨rfl, hI⟩⟩)
