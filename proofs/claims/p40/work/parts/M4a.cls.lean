/-! THE HELPERS ANSWER 1: areClasses -/
section AC
variable {a : cg_S} {G : Gm} {ch : Nat}
theorem aim_ok {i : Nat} (h : i < 4) : ∃ aim, okA aim ∧ aimc (i32 i) = i32 aim := by
  rcases (show i = 0 ∨ i = 1 ∨ i = 2 ∨ i = 3 by omega) with rfl | rfl | rfl | rfl
  · exact ⟨114, Or.inl rfl, by decide⟩
  · exact ⟨102, Or.inr (Or.inl rfl), by decide⟩
  · exact ⟨115, Or.inr (Or.inr (Or.inl rfl)), by decide⟩
  · exact ⟨119, Or.inr (Or.inr (Or.inr rfl)), by decide⟩
theorem and11 : (1 : Int32) &&& 1 = 1 := by decide
theorem l_areClasses {Q : Int32 → cg_S → Prop} (h : SI a G ch) (hw : whole G) (hn5 : G 0 0 ≤ 5) (k : ∀ τ, SI τ G ch → Q 1 τ) : M_L_areClasses (i32 (G 0 0)) a Q := by
  have hW := h.2.2
  have hn := hW.1
  refine v_L_areClasses ?_
  refine up2 (α := Nat × Nat) (n := G 0 0) (fun k b τ => SI τ G ch ∧ b.1 ≤ 60 * k ∧ ∀ g, GS G (G 0 0) g → b.2 = hmG g k) (fun b v τ => L_L_areClasses_7 b.1 (i32 (G 0 0)) (i32 b.2) 1 v τ Q) ?_ ?_ 0 (0, 0) a (by omega) ⟨h, Nat.le_refl _, fun g _ => rfl⟩
  · rintro s ⟨kc, c⟩ τ hs ⟨hτ, hkc, hc⟩ kk
    dsimp only at hkc hc kk ⊢
    refine v_L_areClasses_7 (by omega) ⟨fun z => ?_, fun _ => l_classOf hτ hw hs (fun τ1 g h1 hg => ?_)⟩
    · rw [i32_le (by omega) (by omega)] at z; omega
    obtain ⟨g1, g2⟩ := GS_good hw _ hg
    obtain ⟨gl, gi⟩ := g1 s hs
    have hc1 := hc g hg
    have c5 := hmG_le g s
    have nxt : ∀ t1 : Nat, t1 ≤ 1 → c + t1 = hmG g (s + 1) → L_L_areClasses_34 (kc + 2) (i32 (G 0 0)) 1 (i32 s) (i32 (g s)) (i32 c) (i32 t1) τ1 Q := fun t1 ht hc2 => by
      refine v_L_areClasses_34 (by omega) ?_
      rw [i32_add]
      rintro _ rfl
      refine ⟨fun z => ?_, fun _ => l_classOf h1 hw (by omega) (fun τ2 g' h2 hg' => ?_)⟩
      · rw [i32_lt (by omega) (by omega)] at z; omega
      rw [GS_uniq _ hg' hg (g s) (by omega), gi]
      refine ⟨fun z => absurd rfl z, fun _ => l_choices h2 hs ⟨fun z => ?_, fun _ => ?_⟩⟩
      · have g3 := (hW.2.1 s (by omega)).2.2.1
        have := (hw.2 s hs).1
        rw [n1, i32_lt (by omega) (by omega)] at z; omega
      rintro _ rfl
      rw [and11]
      refine up2 (α := Nat) (n := 4) (fun i q τ => SI τ G ch ∧ q ≤ kc + 5 + 12 * i) (fun q v τ => L_L_areClasses_75 q (i32 (G 0 0)) (i32 (c + t1)) 1 (i32 s) (i32 (g s)) v τ Q) ?_ ?_ 0 (kc + 2 + 3) τ2 (by omega) ⟨h2, by omega⟩
      · rintro i q τ3 hi ⟨h3, hq⟩ kk2
        obtain ⟨aim, ha, ea⟩ := aim_ok hi
        refine v_L_areClasses_75 (by omega) ⟨fun z => ?_, fun _ => ⟨vpi hi (by omega), ?_⟩⟩
        · rw [n4, i32_le (by omega) (by omega)] at z; omega
        rw [ea]
        rintro _ rfl
        have same : ∀ w w', mmb G aim w → mmb G aim w' → w (g s) = w' s := fun w w' hm hm' => by
          obtain ⟨p, hp, hcv, hA⟩ := mmb_val hW hw hm
          rw [← mmb_uniq hm hm' s hs]
          exact (like_vals hW hw hp hcv hA (GS_n hw (Nat.le_refl _) hg) g1 g2 s hs).symm
        refine l_above h3 hw ha (by omega) (fun τ4 w4 h4 m4 => l_above h4 hw ha hs (fun τ5 w5 h5 m5 => ?_))
        rw [same w4 w5 m4 m5]
        refine ⟨fun z => absurd rfl z, fun _ => l_below h5 hw ha (by omega) (fun τ6 w6 h6 m6 => l_below h6 hw ha hs (fun τ7 w7 h7 m7 => ?_))⟩
        rw [same w6 w7 m6 m7]
        refine ⟨fun z => absurd rfl z, fun _ => ?_⟩
        rintro _ rfl
        rw [and11, i32_s]
        exact kk2 _ τ7 ⟨h7, by omega⟩
      · rintro q τ3 ⟨h3, hq⟩
        refine v_L_areClasses_75 (by omega) ⟨fun _ => ?_, fun z => absurd (by decide) z⟩
        rw [i32_s]
        refine kk (q, c + t1) τ3 ⟨h3, by show q ≤ 60 * (s + 1); omega, fun g' hg' => ?_⟩
        show c + t1 = _
        have e1 := hc g' hg'
        have e2 := GS_uniq _ hg' hg s hs
        have e3 : hmG g (s + 1) = hmG g s + if g s = s then 1 else 0 := rfl
        have e4 : hmG g' (s + 1) = hmG g' s + if g' s = s then 1 else 0 := rfl
        rw [e4, e2, ← e1, hc2, e3, hc1]
    have e3 : hmG g (s + 1) = hmG g s + if g s = s then 1 else 0 := rfl
    refine ⟨fun z => nxt 0 (by omega) ?_, fun z => nxt 1 (by omega) ?_⟩
    · rw [e3, if_neg (fun y => z (by rw [y])), hc1]
    · rw [i32_eq (by omega) (by omega)] at z
      rw [e3, if_pos z, hc1]
  · rintro ⟨kc, c⟩ τ ⟨hτ, hkc, hc⟩
    dsimp only at hkc hc ⊢
    refine v_L_areClasses_7 (by omega) ⟨fun _ => ⟨fun z => absurd z (by decide), fun _ => l_classes hτ hw (fun τ1 g h1 hg => ?_)⟩, fun z => absurd ((i32_le (by omega) (by omega)).mpr (Nat.le_refl _)) z⟩
    rw [← hc g hg]
    exact ⟨fun z => absurd rfl z, fun _ => k τ1 h1⟩
end AC
