/-! THE CALLS: isOne -/
theorem rat_one_iff {x : Rat} : x.num = (x.den : Int) ↔ x = 1 := by
  constructor
  · intro h
    have d1 : (1 : Rat).den = 1 := rfl
    have d2 : (1 : Rat).num = 1 := rfl
    refine Rat.le_antisymm (Rat.not_lt.mp (fun z => ?_)) (Rat.not_lt.mp (fun z => ?_))
    · rw [Rat.lt_iff, d1, d2] at z; omega
    · rw [Rat.lt_iff, d1, d2] at z; omega
  · intro h
    rw [h]; rfl
theorem m_isOne {v : Int32} {G : Gm} {b : cg_S} {Q : Int32 → cg_S → Prop} (hR : RB b G) (hbad : ∀ e, why2 v G e → Q 0 (cg_i b 0 0 (i32 e))) (hok : ∀ s τ w, s < G 0 0 → v = i32 s → whole G → RB τ G → τ.1 0 0 = i32 0 → mmb G 114 w → (w s = 1 → Q 1 τ) ∧ (w s ≠ 1 → Q 0 τ)) : M_X12_isOne v b Q := by
  have hn7 := hR.1.1
  refine v_X12_isOne (m_isGame hR (fun e he => ⟨fun z => absurd rfl z, fun _ => hbad e he⟩) (fun s hs e hw => ⟨fun _ => ?_, fun z => absurd z (by decide)⟩))
  have hv : vp_in v 28 := by rw [e]; exact vpi (by omega) (by omega)
  refine m_val114 hR.c0 hw (by rw [ri, if_pos rfl, if_pos rfl]) hs (fun τ w h1 h2 h3 h4 h5 h6 h7 => ⟨hv, hv, ?_⟩)
  have hN : v.toNatClampNeg = s := by rw [e]; exact i32_N (by omega)
  unfold zfit at h6 h7
  rw [hN, h4, h5, i64_eq (by omega) (by omega), rat_one_iff]
  exact ⟨(hok s τ w hs e hw h1 h2 h3).2, (hok s τ w hs e hw h1 h2 h3).1⟩
/-- what the graph is to find -/
def SUR : Prop := ∀ (a : cg_S) (G : Gm) (ch : Nat) (Q : Int32 → cg_S → Prop), CG a G ch → CK a G ch → GW G → whole G → (∀ τ r, CG τ G ch → CK τ G ch → (∀ w, mmb G 114 w → mk r (fun s => s < G 0 0 ∧ w s = 1)) → Q r τ) → M_X3_sure a Q
theorem op_isOne {n : Nat} {v1 : Int32} {a b : cg_S} (hsu : SUR) (h : Inv n a b) : OP_isOne (Inv (n + 1)) v1 a b := by
  obtain ⟨G, ch, hch, hC, hK, hR⟩ := h
  have hW := hR.1
  have hn7 := hW.1
  refine v_X11_isOne (c_needWholeFor hC hW (fun s hs e hw => ?_) (fun e he => ?_))
  · refine hsu a G ch _ hC hK hW hw (fun τ r h1 h2 h3 => ?_)
    have both : ∀ x : Int32, (∀ w, mmb G 114 w → (x = 0 ↔ w s ≠ 1)) → M_X12_isOne v1 b (fun r2 b1 => M_X12_thrown b1 (fun t b2 => t = 0 ∧ (x = 0 ↔ r2 = 0) ∧ Inv (n + 1) τ b2)) := fun x hx => m_isOne hR (fun e' he' => (why2_no he' hs e hw).elim) (fun s' b' w hs' e' _ hR' h0 hw' => by
      rw [e, i32_eq (by omega) (by omega)] at e'
      subst e'
      refine ⟨fun z => m_thrown1 h0 ⟨rfl, ?_, ⟨G, ch, by omega, h1, h2, hR'⟩⟩, fun z => m_thrown1 h0 ⟨rfl, ?_, ⟨G, ch, by omega, h1, h2, hR'⟩⟩⟩
      · rw [hx w hw']; exact ⟨fun y => absurd z y, fun y => absurd y (by decide)⟩
      · rw [hx w hw']; exact ⟨fun _ => rfl, fun _ => z⟩)
    rw [show M_X2_holds r v1 τ = M_X2_holds r (i32 s) τ by rw [e]]
    refine v_X2_holds ⟨fun z => ⟨Or.inl rfl, both 0 (fun w hw' => ⟨fun _ y => ?_, fun _ => rfl⟩)⟩, fun z => ⟨Or.inr rfl, both 1 (fun w hw' => ⟨fun y => absurd y (by decide), fun y => ?_⟩)⟩⟩
    · rcases mk_get (h3 w hw') (show s < 7 by omega) with ⟨k, e'⟩ | ⟨k, e'⟩
      · exact absurd e' z
      · exact absurd ⟨hs, y⟩ k
    · rcases mk_get (h3 w hw') (show s < 7 by omega) with ⟨k, e'⟩ | ⟨k, e'⟩
      · exact absurd k.2 y
      · rw [e'] at z; exact absurd z (by decide)
  · have fin : ∀ P : Int32 → cg_S → Prop, P (i32 e) (cg_i b 0 0 (i32 e)) → M_X12_isOne v1 b (fun r2 b1 => M_X12_thrown b1 P) := fun P hP => m_isOne hR (fun e' he' => by rw [why2_uniq he' he]; exact m_thrown0 hP) (fun s τ w hs e1 hw _ _ _ => (why2_no he hs e1 hw).elim)
    have hI : Inv (n + 1) a (cg_i b 0 0 (i32 e)) := Inv.up hch hC hK hR
    rcases (show e = 1 ∨ e = 2 by rcases he with ⟨z, -⟩ | ⟨z, -⟩ <;> omega) with rfl | rfl
    · exact Or.inl ⟨rfl, fin _ ⟨rfl, hI⟩⟩
    · exact Or.inr ⟨rfl, fin _ ⟨rfl, hI⟩⟩
