/-! THE CALLS: isZero, isOne -/
theorem why2_uniq {v : Int32} {G : Gm} {e e' : Nat} (h : why2 v G e) (h' : why2 v G e') : e = e' := by
  rcases h with ⟨rfl, h⟩ | ⟨rfl, ⟨s, hs, e1⟩, h⟩ <;> rcases h' with ⟨rfl, h'⟩ | ⟨rfl, ⟨s', hs', e1'⟩, h'⟩
  · rfl
  · exact absurd e1' (h s' hs')
  · exact absurd e1 (h' s hs)
  · rfl
theorem why2_no {v : Int32} {G : Gm} {e s : Nat} (h : why2 v G e) (hs : s < G 0 0) (e1 : v = i32 s) (hw : whole G) : False := by
  rcases h with ⟨rfl, h⟩ | ⟨rfl, -, h⟩
  · exact h s hs e1
  · exact h hw
/-- the class's exception of a state's question -/
def exn2 (e : Nat) : String := if e = 1 then "java/lang/IndexOutOfBoundsException" else "java/lang/IllegalStateException"
theorem c_needWholeFor {v : Int32} {a : cg_S} {G : Gm} {ch : Nat} {Q : cg_S → Prop} {X : String → cg_S → Prop} (hC : CG a G ch) (hW : GW G) (hy : ∀ s, s < G 0 0 → v = i32 s → whole G → Q a) (hx : ∀ e, why2 v G e → X (exn2 e) a) : M_X11_needWholeFor v a Q X :=
  v_X11_needWholeFor (c_needState hC hW.1 (fun s hs e => c_needWhole hC hW (fun hw => hy s hs e hw) (fun z => hx 2 (Or.inr ⟨rfl, ⟨s, hs, e⟩, z⟩))) (fun z => hx 1 (Or.inl ⟨rfl, z⟩)))
theorem m_val114 {s : Nat} {G : Gm} {b : cg_S} {Q : cg_S → Prop} (hR : RB b G) (hw : whole G) (h0 : b.1 0 0 = i32 0) (hs : s < G 0 0) (h : ∀ τ w, RB τ G → τ.1 0 0 = i32 0 → mmb G 114 w → τ.2.1 28 s = i64 (w s).num → τ.2.1 29 s = i64 ((w s).den : Nat) → zfit (w s).num → zfit ((w s).den : Nat) → Q τ) : M_X12_values 114 b Q := by
  obtain ⟨hW, hG, ⟨p, hp⟩, hK⟩ := id hR
  refine m_values (aim := 114) hW hw (Or.inl rfl) hp hG hK (fun τ w p' g1 g2 g3 g4 g5 g6 g7 => ?_)
  obtain ⟨k1, k2, k3, k4⟩ := g7 s hs
  have e : 7 * aimN 114 + s = s := by unfold aimN; rw [if_pos rfl]; omega
  rw [e] at k3 k4
  exact h τ w ⟨hW, hG.fr g1 (by decide), ⟨p', g3⟩, g4⟩ (by rw [g1.1 0 (by decide)]; exact h0) g6 k3 k4 k1 k2
theorem m_isZero {v : Int32} {G : Gm} {b : cg_S} {Q : Int32 → cg_S → Prop} (hR : RB b G) (hbad : ∀ e, why2 v G e → Q 0 (cg_i b 0 0 (i32 e))) (hok : ∀ s τ w, s < G 0 0 → v = i32 s → whole G → RB τ G → τ.1 0 0 = i32 0 → mmb G 114 w → (w s = 0 → Q 1 τ) ∧ (w s ≠ 0 → Q 0 τ)) : M_X12_isZero v b Q := by
  have hn7 := hR.1.1
  refine v_X12_isZero (m_isGame hR (fun e he => ⟨fun z => absurd rfl z, fun _ => hbad e he⟩) (fun s hs e hw => ⟨fun _ => ?_, fun z => absurd z (by decide)⟩))
  refine m_val114 hR.c0 hw (by rw [ri, if_pos rfl, if_pos rfl]) hs (fun τ w h1 h2 h3 h4 h5 h6 h7 => ⟨by rw [e]; exact vpi (by omega) (by omega), ?_⟩)
  have hN : v.toNatClampNeg = s := by rw [e]; exact i32_N (by omega)
  unfold zfit at h6
  rw [hN, h4, l0, i64_eq (by omega) (by omega), Rat.num_eq_zero]
  exact ⟨(hok s τ w hs e hw h1 h2 h3).2, (hok s τ w hs e hw h1 h2 h3).1⟩
/-- what the graph is to find -/
def POS : Prop := ∀ (a : cg_S) (G : Gm) (ch : Nat) (Q : Int32 → cg_S → Prop), CG a G ch → CK a G ch → GW G → whole G → (∀ τ r, CG τ G ch → CK τ G ch → (∀ w, mmb G 114 w → mk r (fun s => s < G 0 0 ∧ w s ≠ 0)) → Q r τ) → M_X3_positive a Q
theorem op_isZero {n : Nat} {v1 : Int32} {a b : cg_S} (hpo : POS) (h : Inv n a b) : OP_isZero (Inv (n + 1)) v1 a b := by
  obtain ⟨G, ch, hch, hC, hK, hR⟩ := h
  have hW := hR.1
  have hn7 := hW.1
  refine v_X11_isZero (c_needWholeFor hC hW (fun s hs e hw => ?_) (fun e he => ?_))
  · refine hpo a G ch _ hC hK hW hw (fun τ r h1 h2 h3 => ?_)
    have both : ∀ x : Int32, (∀ w, mmb G 114 w → (x = 0 ↔ w s ≠ 0)) → M_X12_isZero v1 b (fun r2 b1 => M_X12_thrown b1 (fun t b2 => t = 0 ∧ (x = 0 ↔ r2 = 0) ∧ Inv (n + 1) τ b2)) := fun x hx => m_isZero hR (fun e' he' => (why2_no he' hs e hw).elim) (fun s' b' w hs' e' _ hR' h0 hw' => by
      rw [e, i32_eq (by omega) (by omega)] at e'
      subst e'
      refine ⟨fun z => m_thrown1 h0 ⟨rfl, ?_, ⟨G, ch, by omega, h1, h2, hR'⟩⟩, fun z => m_thrown1 h0 ⟨rfl, ?_, ⟨G, ch, by omega, h1, h2, hR'⟩⟩⟩
      · rw [hx w hw']; exact ⟨fun y => absurd z y, fun y => absurd y (by decide)⟩
      · rw [hx w hw']; exact ⟨fun _ => rfl, fun _ => z⟩)
    rw [show M_X2_holds r v1 τ = M_X2_holds r (i32 s) τ by rw [e]]
    refine v_X2_holds ⟨fun z => ⟨fun y => absurd rfl y, fun _ => both 1 (fun w hw' => ⟨fun y => absurd y (by decide), fun y => ?_⟩)⟩, fun z => ⟨fun _ => both 0 (fun w hw' => ⟨fun _ => ?_, fun _ => rfl⟩), fun y => absurd y (by decide)⟩⟩
    · rcases mk_get (h3 w hw') (show s < 7 by omega) with ⟨k, e'⟩ | ⟨k, e'⟩
      · exact absurd e' z
      · exact absurd ⟨hs, y⟩ k
    · rcases mk_get (h3 w hw') (show s < 7 by omega) with ⟨k, e'⟩ | ⟨k, e'⟩
      · exact k.2
      · rw [e'] at z; exact absurd z (by decide)
  · have fin : ∀ P : Int32 → cg_S → Prop, P (i32 e) (cg_i b 0 0 (i32 e)) → M_X12_isZero v1 b (fun r2 b1 => M_X12_thrown b1 P) := fun P hP => m_isZero hR (fun e' he' => by rw [why2_uniq he' he]; exact m_thrown0 hP) (fun s τ w hs e1 hw _ _ _ => (why2_no he hs e1 hw).elim)
    have hI : Inv (n + 1) a (cg_i b 0 0 (i32 e)) := Inv.up hch hC hK hR
    rcases (show e = 1 ∨ e = 2 by rcases he with ⟨z, -⟩ | ⟨z, -⟩ <;> omega) with rfl | rfl
    · exact Or.inl ⟨rfl, fin _ ⟨rfl, hI⟩⟩
    · exact Or.inr ⟨rfl, fin _ ⟨rfl, hI⟩⟩
