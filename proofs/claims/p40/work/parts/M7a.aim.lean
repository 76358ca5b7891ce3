/-! THE LAW: one aim -/
section AIM
variable {G : Gm} {ch L i kc aim : Nat} {xs tt ff : Nat → Int32} {σ : cg_S} {x : Nat → Rat} {rk tb : Nat → Nat}
theorem bst_pk {o : Nat} {p q : Nat → Nat} {y : Nat → Rat} (hpq : ∀ s, s < G 0 0 → p s = q s) (h : bst G o aim p y) : bst G o aim q y := by
  have hs : ∀ r, sd G o q r ↔ sd G o p r := fun r => by
    constructor
    · exact fun z => ⟨z.1, fun s hs hD => by rw [z.2 s hs hD, hpq s hs]⟩
    · exact fun z => ⟨z.1, fun s hs hD => by rw [z.2 s hs hD, ← hpq s hs]⟩
  unfold bst
  simp only [hs]
  exact h
theorem gT_10 {s : Nat} (hs : s < G 0 0) : gT G tb (G 0 0) 10 s = tb s := by
  show (if s < G 0 0 then tb s else G 10 s) = tb s
  exact if_pos hs
theorem tv_T (hW : GW G) (hw : whole G) (ha : okA aim) (hm : mmb G aim x) (hr : aim = 114 → RKS G x (G 0 0) rk) (ht : ∀ s, s < G 0 0 → tbS G aim x rk s (tb s)) : TV (gT G tb (G 0 0)) aim x := by
  obtain ⟨h1, h2⟩ := told_get hW hw ha hm hr ht
  refine ⟨fun y hy => ?_, fun o y ho hy => ?_⟩
  · have hy2 : gX G aim (mv (gT G tb (G 0 0) 10)) y := hy
    exact h1 y (gX_congr (fun s hs => by unfold mv; rw [gT_10 hs]) hy2)
  · have hy2 : bst G o aim (gT G tb (G 0 0) 10) y := hy
    exact h2 o y ho (bst_pk (fun s hs => gT_10 hs) hy2)
theorem RKS_gT {m : Nat} : ∀ k {rk : Nat → Nat}, RKS (gT G tb m) x k rk → RKS G x k rk := by
  intro k
  induction k with
  | zero => intro rk h; exact h
  | succ k ih =>
    intro rk h
    obtain ⟨f, h1, h2⟩ := h
    exact ⟨f, ih h1, h2⟩
theorem whole_T (hw : whole G) : whole (gT G tb (G 0 0)) := hw
theorem law_aim (hL : L ≤ 260) (hi : i < 4) (h : SI σ G ch) (hch : ch < 800) (hw : whole G) (hn5 : G 0 0 ≤ 5) (htt : ∀ s, s < G 0 0 → tt s = i32 (G 8 s)) (hkc : kc + 1130 ≤ 8000) (kk : ∀ J q τ ff', SI τ J ch → whole J → J 0 0 = G 0 0 → J 8 = G 8 → q ≤ kc + 1130 → L_law_332 (G 0 0) L xs tt ff' q (i32 (G 0 0)) 1 (i32 (i + 1)) τ) : L_law_332 (G 0 0) L xs tt ff kc (i32 (G 0 0)) 1 (i32 i) σ := by
  have hW := h.2.2
  have hn := hW.1
  obtain ⟨aim, ha, ea⟩ := aim_ok hi
  refine v_law_332 hL (by omega) ⟨fun z => ?_, fun _ => ⟨fun z => absurd z (by decide), fun _ => ⟨vpi hi (by omega), ?_⟩⟩⟩
  · rfl
  rw [ea]
  rintro _ rfl
  refine ⟨⟨by rw [n0, i32_lt (by omega) (by omega)]; omega, i32_N (by omega), by omega⟩, v_law_356 hL (by omega) ?_⟩
  -- what was told before
  refine up2 (α := Nat × (Nat → Int32)) (n := G 0 0) (fun s b τ => SI τ G ch ∧ b.1 = kc + 1 + s ∧ ∀ t, t < s → b.2 t = i32 (G 10 t)) (fun b v τ => L_law_362 (G 0 0) L xs tt b.2 b.1 (i32 (G 0 0)) 1 (i32 i) (i32 aim) 0 v τ) ?_ ?_ 0 (kc + 1, fun _ => 0) σ (by omega) ⟨h, rfl, fun t ht => by omega⟩
  · rintro s ⟨q, f⟩ τ hs ⟨hτ, hq, hf⟩ kk2
    dsimp only at hq hf ⊢
    refine v_law_362 hL (by omega) ⟨fun z => ?_, fun _ => l_told hτ hs ⟨vpi hs (by omega), ?_⟩⟩
    · rw [i32_le (by omega) (by omega)] at z; omega
    rintro _ rfl
    rw [i32_s]
    refine kk2 (q + 1, upd f (i32 s).toNatClampNeg (i32 (G 10 s))) τ ⟨hτ, by show q + 1 = kc + 1 + (s + 1); omega, fun t ht => ?_⟩
    show upd f (i32 s).toNatClampNeg (i32 (G 10 s)) t = _
    rw [i32_N (by omega)]
    unfold upd
    by_cases e : t = s
    · rw [if_pos e, e]
    · rw [if_neg e]; exact hf t (by omega)
  · rintro ⟨q, f⟩ τ ⟨hτ, hq, hf⟩
    dsimp only at hq hf ⊢
    refine v_law_362 hL (by omega) ⟨fun _ => l_solve hτ hw ha (fun τ1 x rk tb h1 hm hr ht => ?_), fun z => absurd ((i32_le (by omega) (by omega)).mpr (Nat.le_refl _)) z⟩
    have hlt : ∀ s, s < G 0 0 → tb s < G 3 s := fun s hs => tbS_lt hw hs (ht s hs)
    have hTV := tv_T hW hw ha hm hr ht
    have hwH : whole (gT G tb (G 0 0)) := whole_T hw
    have hWH := h1.2.2
    -- each state
    refine up2 (α := Nat) (n := G 0 0) (fun s b τ => SI τ (gT G tb (G 0 0)) ch ∧ b = q + 2 + 63 * s) (fun b v τ => ∀ s, v = i32 s → s ≤ G 0 0 → L_law_396 (G 0 0) L xs tt f b (i32 (G 0 0)) 1 (i32 i) (i32 aim) (i32 (ncG G tb s)) (i32 (ncG G tb (G 0 0))) v τ) ?_ ?_ 0 (q + 2) τ1 (by omega) ⟨h1, rfl⟩ 0 rfl (by omega)
    · rintro s b τ2 hs ⟨h2, hb⟩ kk3 s' es hs'
      rw [i32_eq (by omega) (by omega)] at es
      subst es
      have nc := ncG_le (G := G) tb s
      refine v_law_396 hL (by omega) ⟨fun z => ?_, fun _ => ⟨vpi hs (by omega), l_told h2 hs ?_⟩⟩
      · rw [i32_le (by omega) (by omega)] at z; omega
      have p423 : ∀ t1 : Nat, t1 ≤ 1 → ncG G tb s + t1 = ncG G tb (s + 1) → L_law_423 (G 0 0) L xs tt f (b + 1) (i32 (G 0 0)) 1 (i32 i) (i32 aim) (i32 (ncG G tb (G 0 0))) (i32 s) (i32 (ncG G tb s)) (i32 t1) τ2 := fun t1 ht1 hc => by
        refine v_law_423 hL (by omega) ?_
        rw [i32_add, hc]
        rintro _ rfl
        refine l_told h2 hs (l_choices h2 hs ⟨fun z => ?_, fun _ => l_isBest h2 (by omega) hwH ha hs (x := x) hm hTV (fun τ3 h3 => ⟨fun z => absurd z (by decide), fun _ => ?_⟩)⟩)
        · have e1 := gT_10 (G := G) (tb := tb) hs
          have e2 := hlt s hs
          have g3 := (hW.2.1 s (by omega)).2.2.1
          have e3 : gT G tb (G 0 0) 3 s = G 3 s := rfl
          rw [e1, e3, i32_le (by omega) (by omega)] at z; omega
        rintro _ rfl
        rw [and11, i32_s]
        exact kk3 _ τ3 ⟨h3, by omega⟩ (s + 1) rfl (by omega)
      have e1 : gT G tb (G 0 0) 10 s = tb s := gT_10 hs
      have e2 : ncG G tb (s + 1) = ncG G tb s + if tb s = G 10 s then 0 else 1 := rfl
      have g10 := (hW.2.1 s (by omega)).2.2.2.2.1
      have g3 := (hW.2.1 s (by omega)).2.2.1
      have hlts := hlt s hs
      rw [i32_N (by omega), hf s hs, e1]
      refine ⟨fun z => p423 1 (by omega) ?_, fun z => p423 0 (by omega) ?_⟩
      · rw [e2, if_neg (fun y => z (by rw [y]))]
      · rw [i32_eq (by omega) (by omega)] at z
        rw [e2, if_pos z.symm]
    · rintro b τ2 ⟨h2, hb⟩ s' es hs'
      rw [i32_eq (by omega) (by omega)] at es
      subst es
      refine v_law_396 hL (by omega) ⟨fun _ => ⟨fun z => absurd rfl z, fun _ => l_solve h2 hwH ha (fun τ3 x' rk' tb' h3 hm' hr' ht' => ?_)⟩, fun z => absurd ((i32_le (by omega) (by omega)).mpr (Nat.le_refl _)) z⟩
      have hxx : ∀ t, t < G 0 0 → x t = x' t := fun t ht => mmb_uniq hm hm' t ht
      have same : ∀ t, t < G 0 0 → tb' t = gT G tb (G 0 0) 10 t := fun t htn => by
        rw [gT_10 htn]
        exact (tbS_uniq (G := G) htn hxx (fun e t ht2 => RKS_uniq hxx _ (hr e) (RKS_gT _ (hr' e)) t ht2) (ht t htn) (ht' t htn)).symm
      have z0 : ∀ k, k ≤ G 0 0 → ncG (gT G tb (G 0 0)) tb' k = 0 := by
        intro k
        induction k with
        | zero => intro _; rfl
        | succ k ih =>
          intro hk
          rw [ncG, ih (by omega), if_pos (same k (by omega))]
      have e0 : ncG (gT G tb (G 0 0)) tb' (gT G tb (G 0 0) 0 0) = 0 := z0 (G 0 0) (Nat.le_refl _)
      rw [e0]
      refine ⟨fun z => absurd rfl z, fun _ => ?_⟩
      refine l_areTraces (G := gT (gT G tb (G 0 0)) tb' (G 0 0)) h3 hw hn5 htt (fun τ4 h4 => ⟨fun z => absurd z (by decide), fun _ => ?_⟩)
      refine l_areClosed (G := gT (gT G tb (G 0 0)) tb' (G 0 0)) h4 hw hn5 (fun τ5 h5 => ⟨fun z => absurd z (by decide), fun _ => ?_⟩)
      rintro _ rfl
      rw [and11, i32_s]
      exact kk _ _ τ5 f h5 hw rfl rfl (by omega)
end AIM
