/-! THE CLASS'S GRAPH: 'b' stays away where it can -/
section ST
variable {σ : cg_S} {G : Gm} {ch : Nat} {p q : Nat → Nat}
theorem c_choiceWithout {s : Nat} {w : Int32} {E : Nat → Prop} {Q : Int32 → cg_S → Prop} (hC : CG σ G ch) (hW : GW G) (hs : s < G 0 0) (hE : mk w E) (hex : ∃ c, c < G 3 s ∧ ∀ t, t < G 0 0 → G 7 (7 * (3 * s + c) + t) ≠ 0 → ¬ E t) (h : ∀ c, c < G 3 s → (∀ t, t < G 0 0 → G 7 (7 * (3 * s + c) + t) ≠ 0 → ¬ E t) → Q (i32 c) σ) : M_X3_choiceWithout (i32 s) w σ Q := by
  have hn := hW.1
  have g3 := (hW.2.1 s (by omega)).2.2.1
  have bits : ∀ c, c < G 3 s → ((σ.1 25 (3 * s + c) &&& w) = 0 ↔ ∀ t, t < G 0 0 → G 7 (7 * (3 * s + c) + t) ≠ 0 → ¬ E t) := fun c hc => by
    have hm : 3 * s + c < 21 := by omega
    rw [mk_zero (mk_and (hC.2.2 _ hm).2.2.2.1 hE)]
    exact ⟨fun z t ht hw hEt => z t (by omega) ⟨hw, hEt⟩, fun z t ht y => z t (lead_n hW hm ht y.1) y.1 y.2⟩
  refine v_X3_choiceWithout ?_
  refine up (n := G 3 s) (fun c τ => τ = σ ∧ ∀ e, e < c → ¬ ∀ t, t < G 0 0 → G 7 (7 * (3 * s + e) + t) ≠ 0 → ¬ E t) (fun u τ => L_X3_choiceWithout_2 (i32 s) w u τ Q) ?_ ?_ 0 σ (by omega) ⟨rfl, fun e he => by omega⟩
  · rintro c τ hc ⟨rfl, hP⟩ kk
    have hm : 3 * s + c < 21 := by omega
    refine v_X3_choiceWithout_2 ?_
    simp (disch := omega) only [n0, n1, n2, n3, n4, n5, n6, n7, n8, n9, n49, n97, n98, n114, n102, n115, n119, n109, n112, i32_add, i32_mul, i32_N, i32_le, i32_lt, i32_eq, vpi_iff]
    rw [(hC.2.1 s (by omega)).2.2.1]
    simp (disch := omega) only [n0, n1, n2, n3, n4, n5, n6, n7, n8, n9, n49, n97, n98, n114, n102, n115, n119, n109, n112, i32_add, i32_mul, i32_N, i32_le, i32_lt, i32_eq, vpi_iff]
    refine ⟨by omega, fun z => by omega, fun _ => c_moveOf ⟨vpi hm (by omega), ?_⟩⟩
    rw [i32_N (by omega), show i32 0 = 0 from rfl, bits c hc]
    refine ⟨fun z => kk τ ⟨rfl, fun e he => ?_⟩, fun z => h c hc z⟩
    by_cases e2 : e = c
    · rw [e2]; exact z
    · exact hP e (by omega)
  · rintro τ ⟨rfl, hP⟩
    exfalso
    obtain ⟨c, hc, z⟩ := hex
    exact hP c hc z
theorem c_stay {Q : cg_S → Prop} (hC : CG σ G ch) (hW : GW G) (hw : whole G) (hpk : pkOk G p) (hp : ∀ s, s < 7 → p s ≤ 2) (hpc : PK σ 29 (G 0 0) p) (h : ∀ τ q, Fr [29] [] [] σ τ → PK τ 29 (G 0 0) q → pkOk G q → (∀ s, s < 7 → q s ≤ 2) → (∀ s, s < G 0 0 → gA G s → q s = p s) → (∀ s, s < G 0 0 → avd G p s → ¬ c_can (G 0 0) (wtR G) (mv q) (TG G) s) → Q τ) : M_X3_stayAway 29 σ Q := by
  have hn := hW.1
  refine v_X3_stayAway (Or.inr (Or.inl rfl)) ?_
  rintro _ rfl
  refine fixloop (n := G 0 0) (Lo := fun w k => L_X3_stayAway_10 29 w k σ Q) (Li := fun w k s => L_X3_stayAway_24 29 w k s σ Q) (fun E s => (gA G s ∧ ∃ t, t < G 0 0 ∧ G 7 (7 * mv p s + t) ≠ 0 ∧ E t) ∨ (¬ gA G s ∧ drw G E (fun t => t < G 0 0) s)) (fun E => (∀ t, TG G t → E t) ∧ ∀ t, E t → ¬ avd G p t) hn ?_ ?_ ?_ ?_ ?_ _ (fun t => G 8 t ≠ 0) hC.1.2.1 ⟨fun t ht => ht, ?_⟩
  · rintro E s ⟨e1, e2⟩ hs hc
    refine ⟨fun t ht => Or.inl (e1 t ht), fun t ht hav => ?_⟩
    rcases ht with ht | rfl
    · exact e2 t ht hav
    · obtain ⟨C, c1, c2, c3, c4⟩ := hav
      rcases hc with ⟨hA, u, hu, hwu, hEu⟩ | ⟨hA, hd⟩
      · exact e2 u hEu ⟨C, c3 t c1 hA u hu (wtR_ne.mpr hwu), c2, c3, c4⟩
      · obtain ⟨m, ⟨c, hc, rfl⟩, hm⟩ := c4 t c1 hA
        rcases hd with ⟨hA', -⟩ | ⟨-, hall⟩
        · exact hA hA'
        · obtain ⟨⟨u, hu, hwu, hEu⟩, -⟩ := hall c hc
          exact e2 u hEu ⟨C, hm u hu (wtR_ne.mpr hwu), c2, c3, c4⟩
  · intro w k hk hL
    refine v_X3_stayAway_10 (Or.inr (Or.inl rfl)) ?_
    rw [hC.1.1]
    simp (disch := omega) only [n0, n1, n2, n3, n4, n5, n6, n7, n8, n9, n49, n97, n98, n114, n102, n115, n119, n109, n112, i32_add, i32_mul, i32_N, i32_le, i32_lt, i32_eq, vpi_iff]
    exact ⟨fun z => by omega, fun _ => hL⟩
  · intro w E hm ⟨e1, e2⟩ hc
    refine v_X3_stayAway_10 (Or.inr (Or.inl rfl)) ?_
    rw [hC.1.1]
    refine ⟨fun _ => ?_, fun z => absurd ((i32_le (by omega) (by omega)).mpr (Nat.le_refl _)) z⟩
    refine up2 (n := G 0 0) (fun k q τ => Fr [29] [] [] σ τ ∧ PK τ 29 (G 0 0) q ∧ pkOk G q ∧ (∀ s, s < 7 → q s ≤ 2) ∧ (∀ s, s < G 0 0 → gA G s → q s = p s) ∧ ∀ s, s < k → ¬ gA G s → ¬ E s → ∀ t, t < G 0 0 → G 7 (7 * mv q s + t) ≠ 0 → ¬ E t) (fun _ u τ => L_X3_stayAway_121 29 w u τ Q) ?_ ?_ 0 p σ (by omega) ⟨Fr.rf σ, hpc, hpk, hp, fun _ _ _ => rfl, fun s hs => by omega⟩
    · rintro k q τ hk ⟨hf, r1, r2, r3, r4, r5⟩ kk
      have hC2 := hC.fr hf (by decide)
      have g1 := (hW.2.1 k (by omega)).1
      have skip : (gA G k ∨ E k) → L_X3_stayAway_121 29 w (i32 (k + 1)) τ Q := fun hsk => kk q τ ⟨hf, r1, r2, r3, r4, fun s hs hA hEs => by
        by_cases e : s = k
        · subst e
          exact (hsk.elim (fun y => absurd y hA) (fun y => absurd y hEs))
        · exact r5 s (by omega) hA hEs⟩
      refine v_X3_stayAway_121 (Or.inr (Or.inl rfl)) ?_
      rw [hC2.1.1]
      simp (disch := omega) only [n0, n1, n2, n3, n4, n5, n6, n7, n8, n9, n49, n97, n98, n114, n102, n115, n119, n109, n112, i32_add, i32_mul, i32_N, i32_le, i32_lt, i32_eq, vpi_iff]
      rw [(hC2.2.1 k (by omega)).1]
      simp (disch := omega) only [n0, n1, n2, n3, n4, n5, n6, n7, n8, n9, n49, n97, n98, n114, n102, n115, n119, n109, n112, i32_add, i32_mul, i32_N, i32_le, i32_lt, i32_eq, vpi_iff]
      refine ⟨fun z => by omega, fun _ => ⟨by omega, fun z => skip (Or.inl (show G 1 k = 1 by omega)), fun z => ?_⟩⟩
      have hA : ¬ gA G k := fun y => by
        have : G 1 k = 1 := y
        omega
      refine c_holds hm (by omega) (fun hEk => ⟨fun _ => skip (Or.inr hEk), fun y => absurd y (by decide)⟩) (fun hEk => ⟨fun y => absurd rfl y, fun _ => ?_⟩)
      refine c_choiceWithout hC2 hW hk hm ?_ (fun c hc hc2 => ⟨by omega, ?_⟩)
      · refine Classical.byContradiction fun hno => hEk (hc k hk (Or.inr ⟨hA, Or.inr ⟨hA, fun c hc => ⟨Classical.byContradiction fun y => hno ⟨c, hc, fun t ht hwt hEt => y ⟨t, ht, hwt, hEt⟩⟩, fun t ht _ => ht⟩⟩⟩))
      · rintro _ rfl
        refine kk (upd1 q k c) _ ⟨hf.tr (Fr.i (by decide)), fun s hs => ?_, upd1_ok r2 hc, fun s hs => ?_, fun s hs hAs => ?_, fun s hs hAs hEs => ?_⟩
        · show _ = i32 (upd1 q k c s)
          unfold upd1
          rw [ri, if_pos rfl]
          by_cases e : s = k
          · rw [if_pos e, if_pos e]
          · rw [if_neg e, if_neg e]; exact r1 s hs
        · unfold upd1
          split
          · have := (hW.2.1 k (by omega)).2.2.1; omega
          · exact r3 s hs
        · unfold upd1
          rw [if_neg (fun e => hA (by rw [← e]; exact hAs))]
          exact r4 s hs hAs
        · by_cases e : s = k
          · subst e
            have : mv (upd1 q s c) s = 3 * s + c := by unfold mv upd1; rw [if_pos rfl]
            rw [this]
            exact hc2
          · have : mv (upd1 q k c) s = mv q s := by unfold mv upd1; rw [if_neg e]
            rw [this]
            exact r5 s (by omega) hAs hEs
    · rintro q τ ⟨hf, r1, r2, r3, r4, r5⟩
      have hC2 := hC.fr hf (by decide)
      refine v_X3_stayAway_121 (Or.inr (Or.inl rfl)) ?_
      rw [hC2.1.1]
      refine ⟨fun _ => h τ q hf r1 r2 r3 r4 (fun s hs hav hcan => ?_), fun z => absurd ((i32_le (by omega) (by omega)).mpr (Nat.le_refl _)) z⟩
      have hcl : c_cl (G 0 0) (wtR G) (mv q) (fun u => u < G 0 0 ∧ ¬ E u) := fun u hu hCu t ht hwt => by
        refine ⟨ht, fun hEt => ?_⟩
        by_cases hA : gA G u
        · have e3 : mv q u = mv p u := by unfold mv; rw [r4 u hu hA]
          rw [e3] at hwt
          exact hCu.2 (hc u hu (Or.inl ⟨hA, t, ht, wtR_ne.mp hwt, hEt⟩))
        · exact r5 u hu hA hCu.2 t ht (wtR_ne.mp hwt) hEt
      obtain ⟨t, ht, hCt, hTt⟩ := hcan _ ⟨hs, fun y => e2 s y hav⟩ hcl
      exact hCt.2 (e1 t hTt)
  · intro w E k s hk hs hm hj h1 h2
    have g1 := (hW.2.1 s (by omega)).1
    have hms : mv p s < 21 := mv_lt (by omega) (hp s (by omega))
    -- the answer
    have fin : ∀ b : Nat, b ≤ 1 → (b = 1 ↔ ((gA G s ∧ ∃ t, t < G 0 0 ∧ G 7 (7 * mv p s + t) ≠ 0 ∧ E t) ∨ (¬ gA G s ∧ drw G E (fun t => t < G 0 0) s))) → L_X3_stayAway_93 29 w (i32 k) (i32 s) (i32 b) σ Q := fun b hb hbc => by
      refine v_X3_stayAway_93 (Or.inr (Or.inl rfl)) ?_
      simp only [i32_s]
      rw [show (0 : Int32) = i32 0 from rfl, i32_eq (by omega) (by omega)]
      refine ⟨fun z => h2 (fun y => by have := hbc.mpr y; omega), fun z => ?_⟩
      rintro _ rfl
      exact h1 (hbc.mp (by omega))
    refine v_X3_stayAway_24 (Or.inr (Or.inl rfl)) ?_
    rw [hC.1.1]
    simp (disch := omega) only [n0, n1, n2, n3, n4, n5, n6, n7, n8, n9, n49, n97, n98, n114, n102, n115, n119, n109, n112, i32_add, i32_mul, i32_N, i32_le, i32_lt, i32_eq, vpi_iff]
    rw [(hC.2.1 s (by omega)).1, hpc s hs]
    simp (disch := omega) only [n0, n1, n2, n3, n4, n5, n6, n7, n8, n9, n49, n97, n98, n114, n102, n115, n119, n109, n112, i32_add, i32_mul, i32_N, i32_le, i32_lt, i32_eq, vpi_iff]
    refine ⟨fun z => by omega, fun _ => ⟨by omega, fun z => ?_, fun z => ⟨by omega, c_moveOf ⟨vpi (show 3 * s + p s < 21 from hms) (show 3 * s + p s < 2147483648 by have : 3 * s + p s < 21 := hms; omega), ?_⟩⟩⟩⟩
    · have hA : ¬ gA G s := fun y => by
        have : G 1 s = 1 := y
        omega
      exact c_everyState hC (fun wv hwv _ => c_isDrawn hC hW hs hm hwv (fun hd => fin 1 (by omega) ⟨fun _ => Or.inr ⟨hA, hd⟩, fun _ => rfl⟩) (fun hd => fin 0 (by omega) ⟨fun y => by omega, fun y => y.elim (fun y => absurd y.1 hA) (fun y => absurd y.2 hd)⟩)) hn
    · have hA : gA G s := show G 1 s = 1 by omega
      have hN : (i32 (3 * s + p s)).toNatClampNeg = mv p s := i32_N (by unfold mv at hms; omega)
      rw [hN, show i32 0 = 0 from rfl, mk_zero (mk_and (hC.2.2 _ hms).2.2.2.1 hm)]
      refine ⟨fun y => fin 0 (by omega) ⟨fun z2 => by omega, fun z2 => ?_⟩, fun y => fin 1 (by omega) ⟨fun _ => Or.inl ⟨hA, Classical.byContradiction fun hno => y (fun t ht z2 => hno ⟨t, lead_n hW hms ht z2.1, z2.1, z2.2⟩)⟩, fun _ => rfl⟩⟩
      rcases z2 with ⟨-, t, ht, hwt, hEt⟩ | ⟨z3, -⟩
      · exact absurd ⟨hwt, hEt⟩ (y t (by omega))
      · exact absurd hA z3
  · intro w k hk hL
    refine v_X3_stayAway_24 (Or.inr (Or.inl rfl)) ?_
    rw [hC.1.1]
    simp only [i32_s]
    exact ⟨fun _ => hL, fun z => absurd ((i32_le (by omega) (by omega)).mpr (Nat.le_refl _)) z⟩
  · rintro t hT ⟨C, c1, c2, -⟩
    exact (c2 t c1).2 hT
end ST
