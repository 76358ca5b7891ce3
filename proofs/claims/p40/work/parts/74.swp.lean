/-! THE CALLS: values by all -/
/-- what the sweep is to find -/
def SWA : Prop := ∀ (a : cg_S) (G : Gm) (ch aim : Nat) (Q : cg_S → Prop), CG a G ch → GW G → whole G → okA aim → (∀ τ w, CG τ G ch → τ.1 31 = a.1 31 → (∀ k, 14 ≤ k → k < 18 → k ≠ 14 + aimN aim → τ.2.1 (k + 56) = a.2.1 (k + 56) ∧ τ.2.1 (k + 64) = a.2.1 (k + 64)) → mmb G aim w → (∀ s, s < G 0 0 → FV τ (14 + aimN aim) s (w s)) → Q τ) → M_X7_sweepAll (i32 aim) (14 + aimN aim) a Q
theorem c_valuesFor {a : cg_S} {G : Gm} {ch aim : Nat} {Q : Nat → cg_S → Prop} (hsw : SWA) (hch : ch < 1000) (hC : CG a G ch) (hK : CK a G ch) (hW : GW G) (hw : whole G) (ha : okA aim) (h : ∀ τ w, CG τ G ch → CK τ G ch → mmb G aim w → (∀ s, s < G 0 0 → FV τ (14 + aimN aim) s (w s)) → Q (14 + aimN aim) τ) : M_X7_valuesFor (i32 aim) a Q := by
  have h4 := aimN_lt aim
  have key : L_X7_valuesFor_31 (i32 aim) (i32 (aimN aim)) a Q := by
    refine v_X7_valuesFor_31 ⟨vpi h4 (by omega), ?_⟩
    rw [i32_N (by omega)]
    rintro _ rfl
    refine ⟨vpi h4 (by omega), fun z => ?_, fun z => ?_⟩
    · rw [hC.1.2.2.2.2.2.2] at z
      obtain ⟨w, h1, h2⟩ := (hK aim ha).2 z
      exact h a w hC hK h1 h2
    · refine hsw a G ch aim _ hC hW hw ha (fun τ w h1 h2 h3 h5 h6 => ⟨vpi h4 (by omega), ?_⟩)
      rw [h1.1.2.2.2.2.2.2]
      rintro _ rfl
      have fr : Fr [31] [] [] τ (cg_i τ 31 (aimN aim) (i32 ch)) := Fr.i (by decide)
      have e31 : ∀ i, (cg_i τ 31 (aimN aim) (i32 ch)).1 31 i = if i = aimN aim then i32 ch else a.1 31 i := fun i => by
        rw [ri, if_pos rfl, h2]
      have fv : ∀ k s q, FV τ k s q → FV (cg_i τ 31 (aimN aim) (i32 ch)) k s q := fun k s q x => x
      refine h _ w ?_ (fun aim' ha' => ?_) h5 (fun s hs => fv _ _ _ (h6 s hs))
      · obtain ⟨c1, c2, c3⟩ := h1
        refine ⟨by rw [fr.1 1 (by decide)]; exact c1, fun s hs => ?_, fun m hm => ?_⟩
        · rw [fr.1 57 (by decide), fr.1 20 (by decide), fr.1 21 (by decide), fr.1 19 (by decide)]
          exact c2 s hs
        · rw [fr.1 22 (by decide), fr.1 23 (by decide), fr.1 24 (by decide), fr.1 25 (by decide), fr.1 (36 + m) (by simp; omega)]
          exact c3 m hm
      · rw [e31]
        by_cases c : aimN aim' = aimN aim
        · have := aimN_inj ha' ha c
          subst this
          rw [if_pos rfl]
          exact ⟨Or.inr ⟨ch, Nat.le_refl _, rfl⟩, fun _ => ⟨w, h5, fun s hs => fv _ _ _ (h6 s hs)⟩⟩
        · rw [if_neg c]
          have k1 := hK aim' ha'
          refine ⟨k1.1, fun z2 => ?_⟩
          obtain ⟨w', y1, y2⟩ := k1.2 z2
          refine ⟨w', y1, fun s hs => ?_⟩
          obtain ⟨u, d, b1, b2, b3, b4, b5, b6, b7⟩ := y2 s hs
          have h4' := aimN_lt aim'
          obtain ⟨k2, k3⟩ := h3 (14 + aimN aim') (by omega) (by omega) (by omega)
          refine ⟨u, d, b1, b2, b3, b4, ?_, ?_, b7⟩
          · show τ.2.1 (14 + aimN aim' + 56) s = _
            rw [k2]; exact b5
          · show τ.2.1 (14 + aimN aim' + 64) s = _
            rw [k3]; exact b6
  refine v_X7_valuesFor ?_
  rcases ha with rfl | rfl | rfl | rfl
  · exact ⟨fun z => absurd rfl z, fun _ => key⟩
  · exact ⟨fun _ => ⟨fun z => absurd rfl z, fun _ => key⟩, fun z => absurd z (by decide)⟩
  · exact ⟨fun _ => ⟨fun _ => ⟨fun z => absurd rfl z, fun _ => key⟩, fun z => absurd z (by decide)⟩, fun z => absurd z (by decide)⟩
  · exact ⟨fun _ => ⟨fun _ => ⟨fun _ => key, fun z => absurd z (by decide)⟩, fun z => absurd z (by decide)⟩, fun z => absurd z (by decide)⟩
theorem c_lowFV {τ σ : cg_S} {v s : Nat} {q : Rat} {Q : Int64 → cg_S → Prop} (h : FV τ v s q) : (Q (i64 q.num) σ → M_X11_lowestAbove (τ.2.1 (v + 56) s) (τ.2.1 (v + 64) s) σ Q) ∧ (Q (i64 (q.den : Nat)) σ → M_X11_lowestBelow (τ.2.1 (v + 56) s) (τ.2.1 (v + 64) s) σ Q) := by
  obtain ⟨u, d, h1, h2, h3, h4, h5, h6, h7⟩ := h
  unfold zfit at h2
  rw [h5, h6, h7]
  obtain ⟨x, rfl⟩ := Int.eq_ofNat_of_zero_le h1
  obtain ⟨y, rfl⟩ := Int.eq_ofNat_of_zero_le (Int.le_of_lt h3)
  exact c_lowest (by omega) (by omega) (by omega)
