/-! THE HELPERS ANSWER 1: areClosed -/
section AD
variable {a : cg_S} {G : Gm} {ch s t : Nat}
abbrev rcG (G : Gm) (s t : Nat) : Prop := c_rch (G 0 0) (wtR G) (mv (G 10)) s t
theorem clo_self (hW : GW G) (hw : whole G) (hs : s < G 0 0) (h : isClo G s) : rcG G s s := by
  obtain ⟨t, ht, hst⟩ := rch_some hW hw hs
  exact rch_tr ht hst (h t hst)
theorem clo_mem (hW : GW G) (hs : s < G 0 0) (h : isClo G s) (hst : rcG G s t) : isClo G t ∧ ∀ u, rcG G s u ↔ rcG G t u := by
  have ht := rch_lt hst
  have hts := h t hst
  refine ⟨fun u hu => ?_, fun u => ⟨fun hu => rch_tr hs hts hu, fun hu => rch_tr ht hst hu⟩⟩
  exact rch_tr hs (h u (rch_tr ht hst hu)) hst
theorem clo_low {l : Nat} (hW : GW G) (hs : s < G 0 0) (h : isClo G s) (hl : cloL G s l) (hst : rcG G s t) : cloL G t l := by
  obtain ⟨-, h2⟩ := clo_mem hW hs h hst
  exact ⟨hl.1, (h2 l).mp hl.2.1, fun u hu z => hl.2.2 u hu ((h2 u).mpr z)⟩
theorem clo_ex (hW : GW G) (hw : whole G) : ∃ s, s < G 0 0 ∧ isClo G s := by
  obtain ⟨r, ⟨s, hs, hr⟩, hmin⟩ := least_ex (P := fun r => ∃ s, s < G 0 0 ∧ cntS (rcG G s) (G 0 0) = r) (cntS (rcG G 0) (G 0 0)) ⟨0, hw.1, rfl⟩
  have same : ∀ t, rcG G s t → ∀ u, rcG G s u → rcG G t u := fun t ht u hu => Classical.byContradiction fun hno => by
    have h1 := cntS_lt (E := rcG G t) (F := rcG G s) (n := G 0 0) (s := u) (fun v _ hv => rch_tr (rch_lt ht) ht hv) (rch_lt hu) hno hu
    exact hmin _ (by omega) ⟨t, rch_lt ht, rfl⟩
  obtain ⟨t, ht, hst⟩ := rch_some hW hw hs
  exact ⟨t, ht, fun u hu => same u (rch_tr ht hst hu) t hst⟩
theorem clo_EC (hW : GW G) (hw : whole G) (hs : s < G 0 0) (h : isClo G s) : isEC G (rcG G s) := fun u v hu hsu hv hsv => by
  have huv : rcG G u v := rch_tr hs (h u hsu) hsv
  have step : ∀ w, w < G 0 0 → rcG G s w → ∀ x, x < G 0 0 → wtR G (mv (G 10) w) x ≠ 0 → eI G (rcG G s) w x ∧ rcG G s x := fun w hw' hsw x hx hwx => by
    have one : ∀ y, y < G 0 0 → wtR G (mv (G 10) w) y ≠ 0 → rcG G s y := fun y hy hwy => rch_tr hw' hsw (fun C hcl hC => hC y hy hwy)
    exact ⟨⟨hsw, G 10 w, told_ok hW hw w hw', fun y hy hwy => one y hy (wtR_ne.mpr hwy), hx, wtR_ne.mp hwx⟩, one x hx hwx⟩
  intro C h1 h2
  exact (huv (fun x => C x ∧ rcG G s x) (fun w hw' hCw x hx hwx => by
    obtain ⟨a1, a2⟩ := step w hw' hCw.2 x hx hwx
    exact ⟨h2 w hw' hCw.1 x a1, a2⟩) (fun x hx hwx => by
    obtain ⟨a1, a2⟩ := step u hu hsu x hx hwx
    exact ⟨h1 x a1, a2⟩)).1
theorem i32_n75 (h : t < 1000) : ¬ i32 t = -75 := fun z => by
  have e := congrArg Int32.toInt z
  rw [i32_toInt (by omega), show (-75 : Int32).toInt = -75 from rfl] at e
  omega
theorem i32_nn (h : t < 1000) : ¬ i32 t < 0 := by
  rw [n0, i32_lt (by omega) (by omega)]; omega
theorem chv_0 {m : Nat} (h : G 7 (7 * m + t) = 0) : chv (chq G m t) = 1 := by
  have e : chq G m t = 0 := by
    unfold chq
    have : ((0 : Nat) : Rat) = 0 := rfl
    rw [h, this, Rat.div_def, Rat.zero_mul]
  rw [e]; rfl
theorem i32_orr {c b : Nat} (hc : c ≤ 1) (hb : b ≤ 1) : i32 c ||| i32 b = i32 (max c b) := by
  rcases (show c = 0 ∨ c = 1 by omega) with rfl | rfl <;> rcases (show b = 0 ∨ b = 1 by omega) with rfl | rfl <;> rfl
theorem l_areClosed {Q : Int32 → cg_S → Prop} (h : SI a G ch) (hw : whole G) (hn5 : G 0 0 ≤ 5) (k : ∀ τ, SI τ G ch → Q 1 τ) : M_L_areClosed (i32 (G 0 0)) a Q := by
  have hW := h.2.2
  have hn := hW.1
  refine v_L_areClosed ?_
  refine up2 (α := Nat × Nat) (n := G 0 0) (fun k b τ => SI τ G ch ∧ b.1 ≤ 44 * k ∧ b.2 ≤ 1 ∧ ((∃ u, u < k ∧ isClo G u) → b.2 = 1)) (fun b v τ => L_L_areClosed_7 b.1 (i32 (G 0 0)) 1 (i32 b.2) v τ Q) ?_ ?_ 0 (0, 0) a (by omega) ⟨h, Nat.le_refl _, by decide, fun ⟨u, hu, _⟩ => by omega⟩
  · rintro s ⟨kc, c⟩ τ hs ⟨hτ, hkc, hc1, hc⟩ kk
    dsimp only at hkc hc1 hc kk ⊢
    have g10 := told_ok hW hw s hs
    have g3 := (hW.2.1 s (by omega)).2.2.1
    have g6 := (hw.2 s hs).2 _ g10
    refine v_L_areClosed_7 (by omega) ⟨fun z => ?_, fun _ => ?_⟩
    · rw [i32_le (by omega) (by omega)] at z; omega
    have nxt : ∀ q b τ', SI τ' G ch → q ≤ 44 * (s + 1) → b ≤ 1 → (isClo G s → b = 1) → L_L_areClosed_7 q (i32 (G 0 0)) 1 (i32 (max c b)) (i32 s + 1) τ' Q := fun q b τ' h1 h2 h3 h4 => by
      rw [i32_s]
      refine kk (q, max c b) τ' ⟨h1, h2, by show max c b ≤ 1; omega, fun ⟨u, hu, hcl⟩ => ?_⟩
      show max c b = 1
      by_cases e : u = s
      · have := h4 (e ▸ hcl); omega
      · have := hc ⟨u, by omega, hcl⟩; omega
    refine l_closedOf hτ hw hs (fun τ1 l h1 hcl hl => ?_) (fun τ1 h1 hcl => ?_)
    · have hself := clo_self hW hw hs hcl
      have hls : l ≤ s := Nat.not_lt.mp fun z => hl.2.2 s z hself
      have hEC := endS_max (v := s) hs (clo_EC hW hw hs hcl) hself (fun t ht => rch_lt ht) (G 0 0 + 1)
      have goE : ∀ τ2 e, SI τ2 G ch → e ≤ l → L_L_areClosed_40 (kc + 6) (i32 (G 0 0)) 1 (i32 s) (i32 l) (i32 e) (i32 c) 1 τ2 Q := fun τ2 e h2 he => by
        refine v_L_areClosed_40 (by omega) ?_
        rw [show (1 : Int32) = i32 1 from rfl, i32_orr hc1 (by decide)]
        rintro _ rfl
        refine ⟨fun z => absurd z (i32_n75 (by omega)), fun _ => ⟨fun z => ?_, fun _ => l_closedOf h2 hw (by omega) (fun τ3 l' h3 _ hl' => ?_) (fun τ3 h3 hno => absurd (clo_mem hW hs hcl hl.2.1).1 hno)⟩⟩
        · rw [i32_lt (by omega) (by omega)] at z; omega
        rw [cloL_uniq hl' (clo_low hW hs hcl hl hl.2.1)]
        refine ⟨fun z => absurd rfl z, fun _ => ⟨fun z => absurd z (i32_nn (by omega)), fun _ => ⟨fun z => ?_, fun _ => ?_⟩⟩⟩
        · rw [i32_lt (by omega) (by omega)] at z; omega
        rw [← n1, and11]
        rintro _ rfl
        refine up2 (α := Nat) (n := G 0 0) (fun i q τ => SI τ G ch ∧ q ≤ kc + 9 + 7 * i) (fun q v τ => L_L_areClosed_90 q (i32 (G 0 0)) 1 (i32 (max c 1)) (i32 s) (i32 l) v τ Q) ?_ ?_ 0 (kc + 6 + 3) τ3 (by omega) ⟨h3, by omega⟩
        · rintro i q τ4 hi ⟨h4, hq⟩ kk2
          refine v_L_areClosed_90 (by omega) ⟨fun z => ?_, fun _ => ⟨fun z => absurd z (i32_nn (by omega)), fun _ => l_told h4 hs (l_chance h4 hs g10 hi g6 ⟨fun _ => ?_, fun zc => ?_⟩)⟩⟩
          · rw [i32_le (by omega) (by omega)] at z; omega
          · rintro _ rfl
            rw [and11, i32_s]
            exact kk2 _ τ4 ⟨h4, by omega⟩
          · have hsi : rcG G s i := fun C hcl' hC => hC i hi (wtR_ne.mpr (fun z => zc (chv_0 z)))
            refine l_closedOf h4 hw hi (fun τ5 l2 h5 _ hl2 => ?_) (fun τ5 h5 hno => absurd (clo_mem hW hs hcl hsi).1 hno)
            rw [cloL_uniq hl2 (clo_low hW hs hcl hl hsi)]
            refine ⟨fun z => absurd rfl z, fun _ => ?_⟩
            rintro _ rfl
            rw [and11, i32_s]
            exact kk2 _ τ5 ⟨h5, by omega⟩
        · rintro q τ4 ⟨h4, hq⟩
          refine v_L_areClosed_90 (by omega) ⟨fun _ => nxt q 1 τ4 h4 (by omega) (by decide) (fun _ => rfl), fun z => absurd ((i32_le (by omega) (by omega)).mpr (Nat.le_refl _)) z⟩
      refine l_endOf h1 hw hs (fun τ2 e h2 he hlow => ?_) (fun τ2 h2 hno => absurd (hEC l hl.2.1) (hno l))
      refine ⟨fun z => absurd z (i32_nn (by omega)), fun _ => goE τ2 e h2 (Nat.not_lt.mp fun z => hlow l z (hEC l hl.2.1))⟩
    · have go : ∀ (x : Int32) τ2, SI τ2 G ch → L_L_areClosed_40 (kc + 6) (i32 (G 0 0)) 1 (i32 s) (-75) x (i32 c) 0 τ2 Q := fun x τ2 h2 => by
        refine v_L_areClosed_40 (by omega) ?_
        rw [show (0 : Int32) = i32 0 from rfl, i32_orr hc1 (by decide)]
        rintro _ rfl
        refine ⟨fun _ => ?_, fun z => absurd rfl z⟩
        rw [and11]
        rintro _ rfl
        refine v_L_areClosed_90 (by omega) ⟨fun z => ?_, fun _ => ⟨fun _ => nxt _ 0 τ2 h2 (by omega) (by decide) (fun z => absurd z hcl), fun z => absurd (by decide) z⟩⟩
        rw [i32_le (by omega) (by omega)] at z; omega
      refine l_endOf h1 hw hs (fun τ2 e h2 he hlow => ⟨fun _ => ?_, fun z => absurd (by decide) z⟩) (fun τ2 h2 hno => ⟨fun _ => ?_, fun z => absurd (by decide) z⟩)
      · exact go _ τ2 h2
      · exact go _ τ2 h2
  · rintro ⟨kc, c⟩ τ ⟨hτ, hkc, hc1, hc⟩
    dsimp only at hkc hc1 hc ⊢
    rw [hc (clo_ex hW hw)]
    refine v_L_areClosed_7 (by omega) ⟨fun _ => ⟨fun z => absurd z (by decide), fun _ => ⟨fun z => absurd z (by decide), fun _ => k τ hτ⟩⟩, fun z => absurd ((i32_le (by omega) (by omega)).mpr (Nat.le_refl _)) z⟩
end AD
