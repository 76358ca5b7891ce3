/-! TRACES: the reference's search -/
section WKS
variable {σ : cg_S} {G : Gm} {p : Nat → Nat}
theorem ext_leaf {k j : Nat} {P f : Nat → Nat} (hT : TG G (P (k - 1))) (hk : 1 ≤ k) (h : EXT G k P j f) : j = k ∧ tw G f (j - 1) = tw G P (k - 1) ∧ ∀ i, i < k → f i = P i := by
  obtain ⟨h1, h2, h3⟩ := h
  have : j = k := Classical.byContradiction fun z => by
    have := (h2.1.2.2.1 (k - 1) (by omega)).2
    rw [h3 (k - 1) (by omega)] at this
    exact this hT
  subst this
  exact ⟨rfl, (tw_cg (j - 1) (fun i hi => h3 i (by omega))).1, h3⟩
theorem lxl_eq {k : Nat} {f g : Nat → Nat} (h : ∀ i, i < k → f i = g i) : lxl k g f := fun i hi _ => Nat.le_of_eq (h i hi).symm
theorem PV_trc {k : Nat} {P : Nat → Nat} (hP : PV G k P) (hT : TG G (P (k - 1))) : trc G k P := ⟨⟨hP.1, hP.2.1, hP.2.2.2, hT⟩, hP.2.2.1⟩
/-- a row that ends in a target -/
theorem m_leaf {k dd : Nat} {P : Nat → Nat} {S : Nat → (Nat → Nat) → Prop} {Q : cg_S → Prop} (hW : GW G) (hw : whole G) (hP : PV G k P) (hT : TG G (P (k - 1))) (hway : ∀ i, i < k → σ.1 13 i = i32 (P i)) (hS : BW G σ S) (h : ∀ τ, KP σ τ → τ.1 13 = σ.1 13 → τ.1 18 = σ.1 18 → BW G τ (fun j f => S j f ∨ EXT G k P j f) → Q τ) : M_X12_isBetter (i32 k) (i64 ((pU G P (k - 1) : Nat) : Int)) (i64 ((pD G P (k - 1) : Nat) : Int)) σ (fun r6 s7 => (¬ r6 = 0 → ∀ s9 : cg_S, s9 = cg_i s7 0 38 (i32 k) → ∀ s10 : cg_S, s10 = cg_l s9 0 42 (i64 ((pU G P (k - 1) : Nat) : Int)) → ∀ s11 : cg_S, s11 = cg_l s10 0 43 (i64 ((pD G P (k - 1) : Nat) : Int)) → L_X12_walks_51 dd (i32 k) 0 s11 Q) ∧ (r6 = 0 → Q s7)) := by
  have hn := hW.1
  have hk7 := PV_len hP
  have hk1 := hP.1
  obtain ⟨K, g, b1, b2, b3, b4⟩ := hS
  have htr := PV_trc hP hT
  -- it is the best now
  have set : (∀ j f, S j f → btt (tw G P (k - 1)) k (tw G f (j - 1)) j ∧ (tw G f (j - 1) = tw G P (k - 1) → j = k → lxl k P f)) → ∀ s9 : cg_S, s9 = cg_i σ 0 38 (i32 k) → ∀ s10 : cg_S, s10 = cg_l s9 0 42 (i64 ((pU G P (k - 1) : Nat) : Int)) → ∀ s11 : cg_S, s11 = cg_l s10 0 43 (i64 ((pD G P (k - 1) : Nat) : Int)) → L_X12_walks_51 dd (i32 k) 0 s11 Q := by
    rintro hall _ rfl _ rfl _ rfl
    have f0 : Fr [0, 14] [0] [] σ (cg_l (cg_l (cg_i σ 0 38 (i32 k)) 0 42 (i64 ((pU G P (k - 1) : Nat) : Int))) 0 43 (i64 ((pD G P (k - 1) : Nat) : Int))) := ((Fr.i (by decide)).tr (Fr.l (by decide))).tr (Fr.l (by decide))
    have e0 : ∀ j, (cg_l (cg_l (cg_i σ 0 38 (i32 k)) 0 42 (i64 ((pU G P (k - 1) : Nat) : Int))) 0 43 (i64 ((pD G P (k - 1) : Nat) : Int))).1 0 j = if j = 38 then i32 k else σ.1 0 j := fun j => by rw [rl1, rl1, ri, if_pos rfl]
    have e42 : (cg_l (cg_l (cg_i σ 0 38 (i32 k)) 0 42 (i64 ((pU G P (k - 1) : Nat) : Int))) 0 43 (i64 ((pD G P (k - 1) : Nat) : Int))).2.1 0 42 = i64 ((pU G P (k - 1) : Nat) : Int) := by rw [rl, if_pos rfl, if_neg (by decide), rl, if_pos rfl, if_pos rfl]
    have e43 : (cg_l (cg_l (cg_i σ 0 38 (i32 k)) 0 42 (i64 ((pU G P (k - 1) : Nat) : Int))) 0 43 (i64 ((pD G P (k - 1) : Nat) : Int))).2.1 0 43 = i64 ((pD G P (k - 1) : Nat) : Int) := by rw [rl, if_pos rfl, if_pos rfl]
    generalize cg_l (cg_l (cg_i σ 0 38 (i32 k)) 0 42 (i64 ((pU G P (k - 1) : Nat) : Int))) 0 43 (i64 ((pD G P (k - 1) : Nat) : Int)) = β at *
    refine up (n := k) (fun i τ => Fr [0, 14] [0] [] σ τ ∧ τ.1 0 = β.1 0 ∧ τ.2.1 0 = β.2.1 0 ∧ ∀ j, j < i → τ.1 14 j = i32 (P j)) (fun v τ => L_X12_walks_51 dd (i32 k) v τ Q) ?_ ?_ 0 β (by omega) ⟨f0, rfl, rfl, fun j hj => by omega⟩
    · rintro i τ hi ⟨hf, a0, a1, a2⟩ kk
      refine v_X12_walks_51 ?_
      simp (disch := omega) only [n0, n1, n2, n3, n4, n5, n6, n7, n8, n9, n49, n97, n98, n114, n102, n115, n119, n109, n112, i32_add, i32_mul, i32_N, i32_le, i32_lt, i32_eq, vpi_iff]
      refine ⟨fun z => by omega, fun _ => ⟨by omega, by omega, ?_⟩⟩
      rw [hf.1 13 (by decide), hway i hi]
      rintro _ rfl
      have fi : Fr [14] [] [] τ (cg_i τ 14 i (i32 (P i))) := Fr.i (by decide)
      refine kk _ ⟨hf.tr (Fr.i (by decide)), by rw [fi.1 0 (by decide)]; exact a0, by rw [fi.2.1 0 (by simp)]; exact a1, fun j hj => ?_⟩
      rw [ri, if_pos rfl]
      by_cases e : j = i
      · rw [if_pos e, e]
      · rw [if_neg e]; exact a2 j (by omega)
    · rintro τ ⟨hf, a0, a1, a2⟩
      refine v_X12_walks_51 ⟨fun _ => h τ ⟨hf.mo (by simp) (fun _ z => z) (fun _ z => z), fun j hj => by rw [a0, e0, if_neg hj]⟩ (hf.1 13 (by decide)) (hf.1 18 (by decide)) ?_, fun z => absurd ((i32_le (by omega) (by omega)).mpr (Nat.le_refl _)) z⟩
      refine ⟨k, P, by rw [a0, e0, if_pos rfl], by omega, fun z => by omega, fun _ => ⟨htr, Or.inr ⟨Nat.le_refl k, htr, fun _ _ => rfl⟩, a2, by rw [a1]; exact e42, by rw [a1]; exact e43, fun j f hf2 => ?_⟩⟩
      rcases hf2 with y | y
      · exact hall j f y
      · obtain ⟨q1, q2, q3⟩ := ext_leaf hT hk1 y
        rw [q2, q1]
        exact ⟨btt_rf _ _, fun _ _ => lxl_eq q3⟩
  refine m_isBetter (S := S) (K := K) (g := g) hW hw hP hway b1 b2 (fun z => ⟨(b4 z).1, (b4 z).2.2.1, (b4 z).2.2.2.1, (b4 z).2.2.2.2.1⟩) (fun z => ⟨fun _ => set (fun j f y => absurd y (b3 z j f)), fun y => absurd y (by decide)⟩) (fun z h1 h2 => ⟨fun _ => set (fun j f y => ?_), fun y => absurd y (by decide)⟩) (fun z h1 h2 => ⟨fun y => absurd rfl y, fun _ => ?_⟩)
  · obtain ⟨-, -, -, -, -, b9⟩ := b4 z
    obtain ⟨c1, c2⟩ := b9 j f y
    have c3 := btt_tr h1 c1
    refine ⟨c3, fun e1 e2 => ?_⟩
    subst e2
    have c4 : btt (tw G g (K - 1)) K (tw G P (j - 1)) j := by rw [← e1]; exact c1
    obtain ⟨c5, c6⟩ := btt_as h1 c4
    subst c6
    exact lxl_tr (h2 c5.symm rfl) (c2 (by rw [e1, c5]) rfl)
  · refine h σ (KP.rf σ) rfl rfl ⟨K, g, b1, b2, fun y => absurd y z, fun _ => ?_⟩
    obtain ⟨c1, c2, c3, c4, c5, c6⟩ := b4 z
    refine ⟨c1, Or.inl c2, c3, c4, c5, fun j f hf2 => ?_⟩
    rcases hf2 with y | y
    · exact c6 j f y
    · obtain ⟨q1, q2, q3⟩ := ext_leaf hT hk1 y
      rw [q2, q1]
      refine ⟨h1, fun e1 e2 => ?_⟩
      have := h2 e1 e2
      intro i hi hpre
      rw [q3 i (by omega)]
      exact this i hi (fun l hl => by rw [← q3 l (by omega)]; exact hpre l hl)
theorem ext_kid {k j t : Nat} {P f : Nat → Nat} (hT : ¬ TG G (P (k - 1))) (hk : 1 ≤ k) : (EXT G k P j f ∧ f k = t) ↔ EXT G (k + 1) (upd1 P k t) j f := by
  constructor
  · rintro ⟨⟨h1, h2, h3⟩, h4⟩
    have hj : j ≠ k := fun e => by
      subst e
      have := h2.1.2.2.2
      rw [h3 (j - 1) (by omega)] at this
      exact hT this
    refine ⟨by omega, h2, fun i hi => ?_⟩
    unfold upd1
    by_cases e : i = k
    · rw [if_pos e, e]; exact h4
    · rw [if_neg e]; exact h3 i (by omega)
  · rintro ⟨h1, h2, h3⟩
    refine ⟨⟨by omega, h2, fun i hi => ?_⟩, ?_⟩
    · have := h3 i (by omega)
      unfold upd1 at this
      rw [if_neg (by omega)] at this
      exact this
    · have := h3 k (by omega)
      unfold upd1 at this
      rw [if_pos rfl] at this
      exact this
theorem upd1_b {P : Nat → Nat} {k t i : Nat} (h : i < k) : upd1 P k t i = P i := by unfold upd1; rw [if_neg (by omega)]
theorem upd1_e {P : Nat → Nat} {k t : Nat} : upd1 P k t k = t := by unfold upd1; rw [if_pos rfl]
/-- all traces that begin so are looked at -/
theorem m_walks (hW : GW G) (hw : whole G) (hpt : ∀ s, s < G 0 0 → mv p s = mv (G 10) s) : ∀ dd k P (S : Nat → (Nat → Nat) → Prop) (σ : cg_S) (Q : cg_S → Prop), k + dd = 9 → MG σ G → MP σ p → PV G k P → (∀ i, i < k → σ.1 13 i = i32 (P i)) → (∀ t, t < G 0 0 → σ.1 18 t = i32 (b01 (∃ i, i + 1 < k ∧ P i = t))) → BW G σ S → (∀ τ, KP σ τ → (∀ i, i < k → τ.1 13 i = i32 (P i)) → (∀ t, t < G 0 0 → τ.1 18 t = i32 (b01 (∃ i, i + 1 < k ∧ P i = t))) → BW G τ (fun j f => S j f ∨ EXT G k P j f) → Q τ) → M_X12_walks dd (i32 k) (i64 ((pU G P (k - 1) : Nat) : Int)) (i64 ((pD G P (k - 1) : Nat) : Int)) σ Q := by
  have hn := hW.1
  intro dd
  induction dd with
  | zero => intro k P S σ Q hk _ _ hP; have := PV_len hP; omega
  | succ dd ih =>
    intro k P S σ Q hk hG hp hP hway hmark hS h
    have hk7 := PV_len hP
    have hk1 := hP.1
    have hs : P (k - 1) < G 0 0 := hP.2.1 (k - 1) (by omega)
    have e8 := (hW.2.1 (P (k - 1)) (by omega)).2.2.2.1
    have e15 : σ.1 15 (P (k - 1)) = i32 (G 8 (P (k - 1))) := (hG.2.2.1 (P (k - 1)) (by omega)).2.2.1
    refine v_X12_walks ?_
    rw [show (1 : Int32) = i32 1 from rfl, i32_pr ⟨k, by omega⟩ (by show k ≠ 0; omega)]
    refine ⟨vpi (by omega) (by omega), ?_⟩
    rw [i32_N (by omega), hway (k - 1) (by omega)]
    rintro _ rfl
    refine ⟨vpi (by omega) (by omega), ?_⟩
    rw [i32_N (by omega), e15, show (0 : Int32) = i32 0 from rfl, i32_eq (by omega) (by omega)]
    refine ⟨fun z => ⟨vpi (by omega) (by omega), ?_⟩, fun z => ?_⟩
    · have hT : ¬ TG G (P (k - 1)) := fun y => y z
      rw [vn1]
      rintro _ rfl
      have hm : mv (G 10) (P (k - 1)) < 21 := mv_lt (by omega) (told_2 hW _ (by omega))
      have hmp := hpt _ hs
      have hb6 : bT G (P (k - 1)) ≤ 6 := (hW.2.2.1 _ hm).2.2.1
      have f0 : Fr [18] [] [] σ (cg_i σ 18 (P (k - 1)) (i32 1)) := Fr.i (by decide)
      -- a trace goes on
      have more : ∀ j f, EXT G k P j f → k < j := fun j f hx => by
        have := hx.1
        have hj : j ≠ k := fun e => by
          subst e
          have h4 := hx.2.1.1.2.2.2
          rw [hx.2.2 (j - 1) (by omega)] at h4
          exact hT h4
        omega
      refine up (n := G 0 0) (fun t τ => KP σ τ ∧ (∀ i, i < k → τ.1 13 i = i32 (P i)) ∧ (∀ u, u < G 0 0 → τ.1 18 u = i32 (b01 (∃ i, i < k ∧ P i = u))) ∧ BW G τ (fun j f => S j f ∨ (EXT G k P j f ∧ f k < t))) (fun v τ => L_X12_walks_89 dd (i32 k) (i64 ((pU G P (k - 1) : Nat) : Int)) (i64 ((pD G P (k - 1) : Nat) : Int)) (i32 (P (k - 1))) v τ Q) ?_ ?_ 0 _ (by omega) ⟨⟨f0.mo (by simp) (by simp) (fun _ z => z), fun j _ => by rw [f0.1 0 (by decide)]⟩, fun i hi => by rw [f0.1 13 (by decide)]; exact hway i hi, fun u hu => ?_, (hS.fr f0 (by decide)).cg (fun j f => ⟨Or.inl, fun y => y.elim id (fun y => absurd y.2 (by omega))⟩)⟩
      · rintro t τ ht ⟨hk1', hw13, hm18, hBW⟩ kk
        have hG2 := hG.kp hk1'
        have hp2 : MP τ p := hp.fr hk1'.1 (by decide)
        have hw6 : wT G (P (k - 1)) t ≤ 6 := hW.w6 hm (by omega)
        have ew : G 7 (7 * mv p (P (k - 1)) + t) = wT G (P (k - 1)) t := by rw [hmp]; rfl
        have skip : (∀ j f, EXT G k P j f → f k ≠ t) → L_X12_walks_89 dd (i32 k) (i64 ((pU G P (k - 1) : Nat) : Int)) (i64 ((pD G P (k - 1) : Nat) : Int)) (i32 (P (k - 1))) (i32 (t + 1)) τ Q := fun hno => kk τ ⟨hk1', hw13, hm18, hBW.cg (fun j f => or_congr Iff.rfl ⟨fun y => ⟨y.1, by omega⟩, fun y => ⟨y.1, by have := hno j f y.1; omega⟩⟩)⟩
        refine v_X12_walks_89 ?_
        rw [hG2.1.1]
        simp (disch := omega) only [n0, n1, n2, n3, n4, n5, n6, n7, n8, n9, n49, n97, n98, n114, n102, n115, n119, n109, n112, i32_add, i32_mul, i32_N, i32_le, i32_lt, i32_eq, vpi_iff]
        refine ⟨fun z => by omega, fun _ => m_weightTo (by omega) (by omega) hp2 hG2 ?_⟩
        rw [ew, hm18 t ht]
        have hb := b01_le (∃ i, i < k ∧ P i = t)
        simp (disch := omega) only [n0, n1, n2, n3, n4, n5, n6, n7, n8, n9, n49, n97, n98, n114, n102, n115, n119, n109, n112, i32_add, i32_mul, i32_N, i32_le, i32_lt, i32_eq, vpi_iff]
        refine ⟨fun zz => skip (fun j f hx e => ?_), fun zz => ⟨by omega, fun z2 => ?_, fun z2 => skip (fun j f hx e => ?_)⟩⟩
        · have hj := more j f hx
          have := (hx.2.1.1.2.2.1 (k - 1) (by omega)).1
          rw [show k - 1 + 1 = k by omega, hx.2.2 (k - 1) (by omega), e] at this
          exact this zz
        · have hun : ¬ ∃ i, i < k ∧ P i = t := fun y => absurd (b01_ne.mpr y) (by omega)
          have hP' : PV G (k + 1) (upd1 P k t) := by
            refine ⟨by omega, fun i hi => ?_, fun i j hi hj e => ?_, fun i hi => ?_⟩
            · by_cases e : i = k
              · rw [e, upd1_e]; exact ht
              · rw [upd1_b (by omega)]; exact hP.2.1 i (by omega)
            · by_cases e1 : i = k
              · by_cases e2 : j = k
                · omega
                · rw [e1, upd1_e, upd1_b (by omega)] at e
                  exact absurd ⟨j, by omega, e.symm⟩ hun
              · by_cases e2 : j = k
                · rw [e2, upd1_e, upd1_b (by omega)] at e
                  exact absurd ⟨i, by omega, e⟩ hun
                · rw [upd1_b (by omega), upd1_b (by omega)] at e
                  exact hP.2.2.1 i j (by omega) (by omega) e
            · rw [upd1_b (by omega)]
              by_cases e1 : i + 1 = k
              · rw [e1, upd1_e, show i = k - 1 by omega]
                exact ⟨zz, hT⟩
              · rw [upd1_b (by omega)]
                exact hP.2.2.2 i (by omega)
          have hk1n := PV_len hP'
          refine ⟨by omega, ?_⟩
          rintro _ rfl
          have fr : Fr [13] [] [] τ (cg_i τ 13 k (i32 t)) := Fr.i (by decide)
          have hG3 := hG2.fr fr (by decide)
          have hp3 := hp2.fr fr (by decide)
          refine m_weightTo (by omega) (by omega) hp3 hG3 (m_at (by omega) hp3 ?_)
          rw [hmp, show G 7 (7 * mv (G 10) (P (k - 1)) + t) = wT G (P (k - 1)) t from rfl]
          refine ⟨vpi hm (by omega), ?_⟩
          rw [i32_N (by omega), (hG3.2.2.2.1 _ hm).2.2]
          have eb : G 9 = G 9 := rfl
          have e6 : G 6 (mv (G 10) (P (k - 1))) = bT G (P (k - 1)) := rfl
          rw [e6, i32_64 (by omega), i32_64 (by omega), i64_mul, i64_mul, ← Int.natCast_mul, ← Int.natCast_mul]
          obtain ⟨q1, q2, q3⟩ := tw_cg (G := G) (f := upd1 P k t) (g := P) (k - 1) (fun i hi => upd1_b (by omega))
          have eU : pU G P (k - 1) * wT G (P (k - 1)) t = pU G (upd1 P k t) (k + 1 - 1) := by
            rw [Nat.add_sub_cancel]
            obtain ⟨m, rfl⟩ : ∃ m, k = m + 1 := ⟨k - 1, by omega⟩
            rw [Nat.add_sub_cancel] at q2 ⊢
            rw [pU, q2, upd1_b (by omega), upd1_e]
          have eD : pD G P (k - 1) * bT G (P (k - 1)) = pD G (upd1 P k t) (k + 1 - 1) := by
            rw [Nat.add_sub_cancel]
            obtain ⟨m, rfl⟩ : ∃ m, k = m + 1 := ⟨k - 1, by omega⟩
            rw [Nat.add_sub_cancel] at q3 ⊢
            rw [pD, q3, upd1_b (by omega)]
          rw [eU, eD]
          refine ih (k + 1) (upd1 P k t) _ _ _ (by omega) hG3 hp3 hP' (fun i hi => ?_) (fun u hu => ?_) (hBW.fr fr (by decide)) (fun τ2 k2 w2 m2 b2 => ?_)
          · rw [ri, if_pos rfl]
            by_cases e : i = k
            · rw [if_pos e, e, upd1_e]
            · rw [if_neg e, upd1_b (by omega)]; exact hw13 i (by omega)
          · rw [fr.1 18 (by decide), hm18 u hu]
            refine congrArg i32 (b01_c ⟨fun ⟨i, h1, h2⟩ => ⟨i, by omega, by rw [upd1_b h1]; exact h2⟩, fun ⟨i, h1, h2⟩ => ⟨i, by omega, by rw [upd1_b (by omega)] at h2; exact h2⟩⟩)
          · have kfr : KP τ (cg_i τ 13 k (i32 t)) := ⟨fr.mo (by simp) (by simp) (fun _ z => z), fun j _ => by rw [fr.1 0 (by decide)]⟩
            refine kk τ2 ⟨hk1'.tr (kfr.tr k2), fun i hi => by rw [w2 i (by omega), upd1_b hi], fun u hu => ?_, b2.cg (fun j f => ?_)⟩
            · rw [m2 u hu]
              refine congrArg i32 (b01_c ⟨fun ⟨i, h1, h2⟩ => ⟨i, by omega, by rw [upd1_b (by omega)] at h2; exact h2⟩, fun ⟨i, h1, h2⟩ => ⟨i, by omega, by rw [upd1_b h1]; exact h2⟩⟩)
            · rw [← ext_kid hT hk1, or_assoc]
              refine or_congr Iff.rfl ⟨fun y => ?_, fun y => ?_⟩
              · rcases y with y | y
                · exact ⟨y.1, by omega⟩
                · exact ⟨y.1, by omega⟩
              · by_cases e : f k = t
                · exact Or.inr ⟨y.1, e⟩
                · exact Or.inl ⟨y.1, by omega⟩
        · have hj := more j f hx
          obtain ⟨i, hi, hPi⟩ := b01_ne.mp z2
          have := hx.2.1.2 i k (by omega) hj (by rw [hx.2.2 i hi, hPi, e])
          omega
      · rintro τ ⟨hk1', hw13, hm18, hBW⟩
        have hG2 := hG.kp hk1'
        refine v_X12_walks_89 ?_
        rw [hG2.1.1]
        refine ⟨fun _ => ⟨vpi (by omega) (by omega), ?_⟩, fun z => absurd ((i32_le (by omega) (by omega)).mpr (Nat.le_refl _)) z⟩
        rw [i32_N (by omega)]
        have vn0' : vp_nar .boolean (0 : Int32) = i32 0 := rfl
        rw [vn0']
        rintro _ rfl
        have fr : Fr [18] [] [] τ (cg_i τ 18 (P (k - 1)) (i32 0)) := Fr.i (by decide)
        refine h _ (hk1'.tr ⟨fr.mo (by simp) (by simp) (fun _ z => z), fun j _ => by rw [fr.1 0 (by decide)]⟩) (fun i hi => by rw [fr.1 13 (by decide)]; exact hw13 i hi) (fun u hu => ?_) ((hBW.fr fr (by decide)).cg (fun j f => or_congr Iff.rfl ⟨fun y => y.1, fun y => ⟨y, y.2.1.1.2.1 k (more j f y)⟩⟩))
        rw [ri, if_pos rfl]
        by_cases e : u = P (k - 1)
        · have hf : ¬ ∃ i, i + 1 < k ∧ P i = u := fun ⟨i, h1, h2⟩ => by
            have := hP.2.2.1 i (k - 1) (by omega) (by omega) (by rw [h2, e])
            omega
          rw [if_pos e, b01_0 hf]
        · rw [if_neg e, hm18 u hu]
          refine congrArg i32 (b01_c ⟨fun ⟨i, h1, h2⟩ => ⟨i, ?_, h2⟩, fun ⟨i, h1, h2⟩ => ⟨i, by omega, h2⟩⟩)
          have : i ≠ k - 1 := fun e2 => by rw [e2] at h2; exact e h2.symm
          omega
      · rw [ri, if_pos rfl]
        by_cases e : u = P (k - 1)
        · rw [if_pos e, b01_1 ⟨k - 1, by omega, e.symm⟩]
        · rw [if_neg e, hmark u hu]
          refine congrArg i32 (b01_c ⟨fun ⟨i, h1, h2⟩ => ⟨i, by omega, h2⟩, fun ⟨i, h1, h2⟩ => ⟨i, ?_, h2⟩⟩)
          have : i ≠ k - 1 := fun e2 => by rw [e2] at h2; exact e h2.symm
          omega
    · have hT : TG G (P (k - 1)) := z
      exact m_leaf hW hw hP hT hway hS (fun τ k1 k2 k3 k4 => h τ k1 (fun i hi => by rw [k2]; exact hway i hi) (fun t ht => by rw [k3]; exact hmark t ht) k4)
end WKS
