section ATR
variable {a : cg_S} {G : Gm} {ch s : Nat} {tt ff : Nat → Int32}
theorem l_areTraces {Q : Int32 → cg_S → Prop} (h : SI a G ch) (hw : whole G) (hn5 : G 0 0 ≤ 5) (htt : ∀ s, s < G 0 0 → tt s = i32 (G 8 s)) (k : ∀ τ, SI τ G ch → Q 1 τ) : M_L_areTraces (G 0 0) tt ff (i32 (G 0 0)) a Q := by
  have hW := h.2.2
  have hn := hW.1
  have hpk := told_ok hW hw
  obtain ⟨x, hx⟩ := gX_ex (aim := 114) hW hw (mv_pk hpk)
  have hx0 := gX_nonneg hW hw (mv_pk hpk) hx
  have hx1 : ∀ s, s < G 0 0 → x s ≤ 1 := by
    have h1 := hx
    unfold gX at h1
    rw [if_pos rfl] at h1
    exact solR_le_one ((mv_pk hpk).ok (game_ok hW hw)) h1
  have hxd : ∀ s, s < G 0 0 → (x s).den < 2 ^ 40 := fun s hs => by
    obtain ⟨d, u, h1, h2, h3⟩ := cden (aim := 114) (x := x) (p := G 10) hW hw hpk (told_2 hW) hx
    rw [(h3 s hs).2]
    have := Nat.le_of_dvd h1 (den_dvd (k := u s) h1)
    exact Nat.lt_of_le_of_lt (Nat.le_trans this h2) (by decide)
  have hp1 : p2 (-53) ≤ p2 (-40) := p2_le (by decide)
  have hp2 : 2 * p2 (-31) = p2 (-30) := p2_hf (by decide)
  have hp3 : p2 (-40) ≤ p2 (-31) := p2_le (by decide)
  have hp4 : p2 (-30) ≤ 1 := by
    have := p2_le (a := -30) (b := 0) (by decide)
    rw [p2_0] at this; exact this
  have hp5 := p2_pos (-40)
  have n75 : ∀ l, l < 1000 → ¬ i32 l = -75 := fun l hl => i32_n75 hl
  refine v_L_areTraces ?_
  refine up2 (α := Nat) (n := G 0 0) (fun k q τ => SI τ G ch ∧ q ≤ 90 * k) (fun q v τ => L_L_areTraces_5 (G 0 0) tt ff q (i32 (G 0 0)) 1 v τ Q) ?_ ?_ 0 0 a (by omega) ⟨h, Nat.le_refl _⟩
  · rintro s kc τ hs ⟨hτ, hkc⟩ kk
    have nxt : ∀ q τ', SI τ' G ch → q ≤ 90 * (s + 1) → L_L_areTraces_5 (G 0 0) tt ff q (i32 (G 0 0)) (1 &&& 1) (i32 s + 1) τ' Q := fun q τ' h1 h2 => by
      rw [i32_s, and11]
      exact kk q τ' ⟨h1, h2⟩
    -- the comparisons
    have p214 : ∀ q y t0 v5 P T τ', SI τ' G ch → q + 6 ≤ 90 * (s + 1) → isV (D64 t0) T → isV (D64 y) P → T ≤ x s + p2 (-40) → P ≤ 1 → T ≤ 1 → (v5 = -75 ∨ (P ≤ T + p2 (-30) ∧ T ≤ P + p2 (-30))) → L_L_areTraces_214 (G 0 0) tt ff q (i32 (G 0 0)) 1 (i32 s) v5 y t0 τ' Q := fun q y t0 v5 P T τ' h1 hq ht hy hT hP1 hT1 hv => by
      refine v_L_areTraces_214 (by omega) (l_chainAbove h1 hw (Or.inl rfl) hs (fun τ1 y1 h2 g1 => l_chainBelow h2 hw (Or.inl rfl) hs (fun τ2 y2 h3 g2 => ?_)))
      rw [gX_uniq hW hw (mv_pk hpk) g1 hx s hs, gX_uniq hW hw (mv_pk hpk) g2 hx s hs]
      obtain ⟨Z, z1, z2, z3, z4⟩ := rat_dbl (hx0 s hs) (hx1 s hs) (hxd s hs)
      obtain ⟨s1, s2⟩ := add_eps z1 (Rat.le_trans z2 (by decide))
      obtain ⟨r1, r2⟩ := add_eps hy (Rat.le_trans hP1 (by decide))
      obtain ⟨u1, u2⟩ := add_eps ht (Rat.le_trans hT1 (by decide))
      refine ⟨vf64 z1.nn, ?_⟩
      rintro _ rfl
      refine ⟨s1, fun z => absurd z (s2 t0 T ht (by grind)), fun _ => ⟨fun _ => ?_, fun hne => ⟨r1, fun z => ?_, fun _ => ⟨u1, fun z => ?_, fun _ => ?_⟩⟩⟩⟩
      · rintro _ rfl
        exact nxt _ τ2 h3 (by omega)
      · have hv' := hv.resolve_left hne
        exact absurd z (r2 t0 T ht hv'.2)
      · have hv' := hv.resolve_left hne
        exact absurd z (u2 y P hy hv'.1)
      · rintro _ rfl
        exact nxt _ τ2 h3 (by omega)
    refine v_L_areTraces_5 (by omega) ⟨fun z => ?_, fun _ => l_traceLength hτ hw hs (fun τ1 V L h1 hO hL => ?_) (fun τ1 V L h1 hO hL => ?_)⟩
    · rw [i32_le (by omega) (by omega)] at z; omega
    · -- a trace
      obtain ⟨v0, v1, v2, v3⟩ := opt_val hW hw hO hs hL
      obtain ⟨g, hg, g0⟩ := lxb_ex hW hw hO (L s - 1) s hs (by omega)
      rw [show L s - 1 + 1 = L s by omega] at hg
      have hwk := hg.1.1
      have htw : tw G g (L s - 1) = V s := by rw [hg.1.2.1, g0]
      generalize hlen : L s = len at *
      have hle5 : len ≤ 5 := by omega
      have at2 : ∀ {Q' : Int32 → cg_S → Prop} {τ'} {i : Nat}, SI τ' G ch → i < len → (∀ τ, SI τ G ch → Q' (i32 (g i)) τ) → M_L_traceAt (i32 s) (i32 i) τ' Q' := fun {Q' τ' i} hh hi kq => l_traceAt2 hh hw hs hO (by rw [hlen]; exact hg) g0 (by omega) kq
      -- the product
      have loop : ∀ r i, i + 1 + r = len → ∀ q y P τ', SI τ' G ch → q + 12 * r + 12 ≤ 90 * (s + 1) → isV (D64 y) P → P ≤ 1 → P ≤ tw G g i + (i : Rat) * p2 (-52) → tw G g i ≤ P + (i : Rat) * p2 (-52) → L_L_areTraces_100 (G 0 0) tt ff q (i32 (G 0 0)) 1 (i32 s) (i32 len) y (i32 i) τ' Q := by
        intro r
        induction r with
        | zero =>
          intro i hi q y P τ' hh hq hy hP h1 h2
          refine v_L_areTraces_100 (by omega) ⟨fun _ => ⟨fun _ => ?_, fun z => absurd z (n75 len (by omega))⟩, fun z => ?_⟩
          · refine l_traceAbove hh hw hs (fun V' L' hO' => by rw [← (opt_uniq hW hw hO hO' hs).1, hlen]; exact hL) (fun τ2 V' L' h3 hO' => ?_)
            rw [← (opt_uniq hW hw hO hO' hs).2 (by rw [hlen]; exact hL)]
            refine l_traceBelow h3 hw hs (fun V' L' hO' => by rw [← (opt_uniq hW hw hO hO' hs).1, hlen]; exact hL) (fun τ3 V2 L2 h4 hO2 => ?_)
            rw [← (opt_uniq hW hw hO hO2 hs).2 (by rw [hlen]; exact hL)]
            obtain ⟨Z, z1, z2, z3, z4⟩ := rat_dbl (Rat.le_of_lt v0) v1 (Nat.lt_of_le_of_lt v2 (by decide))
            have hVx : V s ≤ x s := by
              have := gX_tw hW hw hx (len - 1) g (by rw [show len - 1 + 1 = len by omega]; exact hwk)
              rw [htw, g0] at this
              exact this
            have ei : i = len - 1 := by omega
            subst ei
            rw [htw] at h1 h2
            have e52 : ((len - 1 : Nat) : Rat) * p2 (-52) ≤ p2 (-40) := by
              have e : p2 (-40) = p2 12 * p2 (-52) := by rw [← p2_add]; rfl
              have e2 : p2 12 = ((2 ^ 12 : Nat) : Rat) := p2_nat 12
              rw [e, e2]
              exact Rat.mul_le_mul_of_nonneg_right (Rat.natCast_le_natCast.mpr (by omega)) (Rat.le_of_lt (p2_pos _))
            exact ⟨vf64 z1.nn, p214 _ y _ _ P Z τ3 h4 (by omega) z1 hy (by grind) hP z2 (Or.inr ⟨by grind, by grind⟩)⟩
          · refine absurd ?_ z
            rw [i32_s, i32_le (by omega) (by omega)]; omega
        | succ r ih =>
          intro i hi q y P τ' hh hq hy hP h1 h2
          refine v_L_areTraces_100 (by omega) ⟨fun z => ?_, fun _ => at2 hh (by omega) (fun τ2 h3 => ?_)⟩
          · rw [i32_s, i32_le (by omega) (by omega)] at z; omega
          have gi := hwk.2.1 i (by omega)
          have gi1 := hwk.2.1 (i + 1) (by omega)
          obtain ⟨hwt, hnT⟩ := hwk.2.2.1 i (by omega)
          have g10 := hpk (g i) gi
          refine l_told h3 gi ?_
          rw [i32_s]
          refine at2 h3 (by omega) (fun τ3 h4 => ?_)
          refine l_chance h4 gi g10 gi1 ((hw.2 (g i) gi).2 _ g10) ?_
          obtain ⟨m, d, m0, hmd, hd, hc, hq2⟩ := hT_num hW hw gi gi1 hwt
          have hc' : chv (chq G (3 * g i + G 10 (g i)) (g (i + 1))) = i32 (10 * m + d) := hc
          rw [hc']
          obtain ⟨c1, c2, c3⟩ := chv_n ⟨m, by omega⟩ ⟨d, by omega⟩ (by show d ≠ 0; omega)
          dsimp only at c1 c2 c3
          have h8 : G 8 (g i) = 0 := Classical.byContradiction fun z => hnT z
          refine ⟨vpi gi (by omega), fun z => ?_, fun _ => ⟨fun z => absurd z (c3 (by omega)), fun _ => ?_⟩⟩
          · rw [i32_N (by omega), htt (g i) gi, h8] at z
            exact absurd rfl z
          · refine v_L_areTraces_162 (by omega) ?_
            rw [and11, c2, c1]
            rintro _ rfl
            obtain ⟨t0, t1⟩ := tw_1 hW hw hwk i (by omega)
            have i0 : (0 : Rat) ≤ (i : Rat) * p2 (-52) := Rat.mul_nonneg Rat.natCast_nonneg (Rat.le_of_lt (p2_pos _))
            obtain ⟨f1, f2, Z, z1, z2, z3, z4⟩ := fac_near hmd hd (by omega) hq2 hy hP (Rat.le_of_lt t0) t1 i0 h1 h2
            refine ⟨f1, f2, ?_⟩
            rintro _ rfl
            have e1 : ((i + 1 : Nat) : Rat) * p2 (-52) = (i : Rat) * p2 (-52) + p2 (-52) := by
              rw [Rat.natCast_add]
              have e1 : ((1 : Nat) : Rat) = 1 := rfl
              rw [e1]; grind
            rw [i32_s]
            exact ih (i + 1) (by omega) _ _ Z τ3 h4 (by omega) z1 z2 (by rw [e1]; exact z3) (by rw [e1]; exact z4)
      have go : ∀ τ', SI τ' G ch → L_L_areTraces_100 (G 0 0) tt ff (kc + 11) (i32 (G 0 0)) 1 (i32 s) (i32 len) FP.dconst1 0 τ' Q := fun τ' hh => by
        obtain ⟨V1, o1, -⟩ := okB_1
        have n1 : isV (D64 FP.dconst1) 1 := ⟨4503599627370496, -52, by decide, by
          have e : ((4503599627370496 : Nat) : Rat) = p2 52 := (p2_nat 52).symm
          rw [e, ← p2_add]; exact p2_0⟩
        have e0 : ((0 : Nat) : Rat) = 0 := rfl
        exact loop (len - 1) 0 (by omega) _ _ 1 τ' hh (by omega) n1 Rat.le_refl (by rw [e0, Rat.zero_mul, Rat.add_zero]; exact Rat.le_refl) (by rw [e0, Rat.zero_mul, Rat.add_zero]; exact Rat.le_refl)
      refine ⟨fun _ => ⟨fun z => ?_, fun _ => ⟨fun z => ?_, fun _ => at2 (i := 0) h1 (by omega) (fun τ2 h2 => ?_)⟩⟩, fun z => absurd z (n75 len (by omega))⟩
      · rw [n1, i32_lt (by omega) (by omega)] at z; omega
      · rw [i32_lt (by omega) (by omega)] at z; omega
      rw [g0]
      refine ⟨fun z => absurd rfl z, fun _ => ?_⟩
      have epr := i32_pr ⟨len, by omega⟩ (by show len ≠ 0; omega)
      dsimp only at epr
      rw [show (1 : Int32) = i32 1 from rfl, epr]
      refine at2 h2 (by omega) (fun τ3 h3 => ?_)
      have gl := hwk.2.1 (len - 1) (by omega)
      refine ⟨vpi gl (by omega), fun z => ?_, fun _ => ?_⟩
      · rw [i32_N (by omega), htt _ gl] at z
        have h8 : G 8 (g (len - 1)) ≠ 0 := hwk.2.2.2
        have hle := (hW.2.1 (g (len - 1)) (by omega)).2.2.2.1
        rw [n0, i32_eq (by omega) (by omega)] at z
        exact absurd z h8
      · rintro _ rfl
        rw [show i32 1 &&& i32 1 = 1 from rfl]
        exact go τ3 h3
    · -- no trace
      refine ⟨fun z => absurd rfl z, fun _ => l_chainAbove h1 hw (Or.inl rfl) hs (fun τ2 y1 h2 g1 => ?_)⟩
      have e0 : y1 s = 0 := gX_0 hW hw g1 hO hs hL
      have e1 : i64 (y1 s).num = 0 := by rw [e0]; rfl
      rw [e1]
      refine ⟨fun z => absurd rfl z, fun _ => ?_⟩
      rintro _ rfl
      rw [and11]
      have n1 : isV (D64 FP.dconst1) 1 := ⟨4503599627370496, -52, by decide, by
        have e : ((4503599627370496 : Nat) : Rat) = p2 52 := (p2_nat 52).symm
        rw [e, ← p2_add]; exact p2_0⟩
      have n0 : isV (D64 FP.dconst0) 0 := ⟨0, -1074, by decide, q_n0⟩
      refine v_L_areTraces_100 (by omega) ⟨fun _ => ⟨fun z => absurd rfl z, fun _ => ?_⟩, fun z => absurd (by decide) z⟩
      have := hx0 s hs
      exact p214 _ _ _ _ 1 0 τ2 h2 (by omega) n0 n1 (by grind) Rat.le_refl (by decide) (Or.inl rfl)
  · rintro kc τ ⟨hτ, hkc⟩
    refine v_L_areTraces_5 (by omega) ⟨fun _ => ⟨Or.inr rfl, k τ hτ⟩, fun z => absurd ((i32_le (by omega) (by omega)).mpr (Nat.le_refl _)) z⟩
end ATR
