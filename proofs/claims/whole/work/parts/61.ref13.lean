/-! THE REFERENCE: what is asked -/
theorem MG.c0 {b : cg_S} {G : Gm} {j : Nat} {x : Int32} (h : MG b G) (hj : j = 0 ∨ 5 < j) : MG (cg_i b 0 j x) G := by
  have e : ∀ k, k ≠ 0 → (cg_i b 0 j x).1 k = b.1 k := fun k hk => if_neg hk
  have e0 : ∀ i, i ≠ j → (cg_i b 0 j x).1 0 i = b.1 0 i := fun i hi => by rw [ri, if_pos rfl, if_neg hi]
  unfold MG
  rw [e 1 (by decide), e 2 (by decide), e 3 (by decide), e 4 (by decide), e 7 (by decide), e 8 (by decide), e 9 (by decide), e 10 (by decide), e 15 (by decide), e0 1 (by omega), e0 2 (by omega), e0 3 (by omega), e0 4 (by omega), e0 5 (by omega)]
  exact h
theorem i32_pred {n : Nat} (hn : n ≤ 7) : (i32 n - 1).toInt = (n : Int) - 1 := by
  have : ∀ m : Fin 8, (i32 m.val - 1).toInt = (m.val : Int) - 1 := by decide
  exact this ⟨n, by omega⟩
theorem i32_nat {v : Int32} (h : 0 ≤ v.toInt) : v = i32 v.toInt.toNat := by
  have h2 := v.toInt_lt
  rw [← Int32.toInt_inj, i32_toInt (by omega)]
  omega
theorem m_isState {v : Int32} {n : Nat} {σ : cg_S} {Q : Int32 → cg_S → Prop} (hn : n ≤ 7) (h1 : σ.1 0 1 = i32 n) (hy : ∀ s, s < n → v = i32 s → Q 1 σ) (hno : (∀ s, s < n → v ≠ i32 s) → Q 0 σ) : M_X12_isState v σ Q := by
  refine v_X12_isState (v_X12_in ?_)
  rw [h1, Int32.lt_iff_toInt_lt, Int32.lt_iff_toInt_lt, i32_pred hn]
  have z0 : (0 : Int32).toInt = 0 := rfl
  rw [z0]
  refine ⟨fun z => ⟨Or.inl rfl, hno (fun s hs e => ?_)⟩, fun z => ⟨fun z2 => ⟨Or.inl rfl, hno (fun s hs e => ?_)⟩, fun z2 => ⟨Or.inr rfl, hy v.toInt.toNat (by omega) (i32_nat (by omega))⟩⟩⟩
  · rw [e, i32_toInt (by omega)] at z; omega
  · rw [e, i32_toInt (by omega)] at z2; omega
theorem m_isAll {G : Gm} {σ : cg_S} {Q : Int32 → cg_S → Prop} (hW : GW G) (hG : MG σ G) (hy : whole G → Q 1 σ) (hno : ¬ whole G → Q 0 σ) : M_X12_isAll σ Q := by
  have hn := hW.1
  refine v_X12_isAll ?_
  refine up (n := G 0 0) (fun s τ => τ = σ ∧ ∀ t, t < s → 0 < G 3 t ∧ ∀ c, c < G 3 t → 0 < G 6 (3 * t + c)) (fun w τ => L_X12_isAll_2 w τ Q) ?_ ?_ 0 σ (by omega) ⟨rfl, fun t ht => by omega⟩
  · rintro s τ hs ⟨rfl, hP⟩ kk
    have g3 := (hW.2.1 s (by omega)).2.2.1
    refine v_X12_isAll_2 ?_
    rw [hG.1.1]
    simp (disch := omega) only [n0, n1, n2, n3, n4, n5, n6, n7, n8, n9, n49, n97, n98, n114, n102, n115, n119, n109, n112, i32_add, i32_mul, i32_N, i32_le, i32_lt, i32_eq, vpi_iff]
    rw [(hG.2.2.1 s (by omega)).2.1]
    simp (disch := omega) only [n0, n1, n2, n3, n4, n5, n6, n7, n8, n9, n49, n97, n98, n114, n102, n115, n119, n109, n112, i32_add, i32_mul, i32_N, i32_le, i32_lt, i32_eq, vpi_iff]
    refine ⟨fun z => by omega, fun _ => ⟨by omega, fun z => ?_, fun z => hno (fun y => ?_)⟩⟩
    · refine up (n := G 3 s) (fun c υ => υ = τ ∧ ∀ d, d < c → 0 < G 6 (3 * s + d)) (fun w υ => L_X12_isAll_23 (i32 s) w υ Q) ?_ ?_ 0 τ (by omega) ⟨rfl, fun t ht => by omega⟩
      · rintro c υ hc ⟨rfl, hC⟩ kk2
        have g6 := (hW.2.2.1 (3 * s + c) (by omega)).2.2.1
        refine v_X12_isAll_23 ?_
        simp (disch := omega) only [n0, n1, n2, n3, n4, n5, n6, n7, n8, n9, n49, n97, n98, n114, n102, n115, n119, n109, n112, i32_add, i32_mul, i32_N, i32_le, i32_lt, i32_eq, vpi_iff]
        rw [(hG.2.2.1 s (by omega)).2.1, (hG.2.2.2.1 (3 * s + c) (by omega)).2.2]
        simp (disch := omega) only [n0, n1, n2, n3, n4, n5, n6, n7, n8, n9, n49, n97, n98, n114, n102, n115, n119, n109, n112, i32_add, i32_mul, i32_N, i32_le, i32_lt, i32_eq, vpi_iff]
        refine ⟨by omega, fun y => by omega, fun _ => ⟨by omega, fun y => kk2 _ ⟨rfl, fun d hd => ?_⟩, fun y => hno (fun u => ?_)⟩⟩
        · by_cases e : d = c
          · subst e; omega
          · exact hC d (by omega)
        · have := (u.2 s hs).2 c hc
          omega
      · rintro υ ⟨rfl, hC⟩
        refine v_X12_isAll_23 ?_
        simp (disch := omega) only [n0, n1, n2, n3, n4, n5, n6, n7, n8, n9, n49, n97, n98, n114, n102, n115, n119, n109, n112, i32_add, i32_mul, i32_N, i32_le, i32_lt, i32_eq, vpi_iff]
        rw [(hG.2.2.1 s (by omega)).2.1]
        refine ⟨by omega, fun _ => kk _ ⟨rfl, fun t ht => ?_⟩, fun y => absurd ((i32_le (by omega) (by omega)).mpr (Nat.le_refl _)) y⟩
        by_cases e : t = s
        · subst e; exact ⟨by omega, hC⟩
        · exact hP t (by omega)
    · have := (y.2 s hs).1
      omega
  · rintro τ ⟨rfl, hP⟩
    refine v_X12_isAll_2 ?_
    rw [hG.1.1]
    refine ⟨fun _ => ?_, fun z => absurd ((i32_le (by omega) (by omega)).mpr (Nat.le_refl _)) z⟩
    simp (disch := omega) only [n0, n1, n2, n3, n4, n5, n6, n7, n8, n9, n49, n97, n98, n114, n102, n115, n119, n109, n112, i32_add, i32_mul, i32_N, i32_le, i32_lt, i32_eq, vpi_iff]
    exact ⟨fun z => hno (fun y => by have := y.1; omega), fun z => hy ⟨by omega, hP⟩⟩
/-- the four aims -/
def okA (aim : Nat) : Prop := aim = 114 ∨ aim = 102 ∨ aim = 115 ∨ aim = 119
theorem m_numberOf2 {v : Int32} {σ : cg_S} {Q : Int32 → cg_S → Prop} (hy : ∀ aim, okA aim → v = i32 aim → Q (i32 (aimN aim)) σ) (hno : (∀ aim, okA aim → v ≠ i32 aim) → Q (-1) σ) : M_X12_numberOf v σ Q := by
  by_cases c : ∃ aim, okA aim ∧ v = i32 aim
  · obtain ⟨aim, h1, h2⟩ := c
    have := hy aim h1 h2
    rw [h2]
    exact m_numberOf h1 this
  · have c2 : ∀ aim, okA aim → v ≠ i32 aim := fun aim h1 h2 => c ⟨aim, h1, h2⟩
    refine v_X12_numberOf ⟨fun _ => ⟨fun _ => ⟨fun _ => ⟨fun _ => hno c2, fun z => ?_⟩, fun z => ?_⟩, fun z => ?_⟩, fun z => ?_⟩
    · exact absurd z (c2 119 (Or.inr (Or.inr (Or.inr rfl))))
    · exact absurd z (c2 115 (Or.inr (Or.inr (Or.inl rfl))))
    · exact absurd z (c2 102 (Or.inr (Or.inl rfl)))
    · exact absurd z (c2 114 (Or.inl rfl))
theorem aimN_ne (aim : Nat) : ¬ i32 (aimN aim) = -1 := by
  have : ∀ m : Fin 4, ¬ i32 m.val = -1 := by decide
  exact this ⟨aimN aim, aimN_lt aim⟩
/-- the reference stands for the game -/
def RB (b : cg_S) (G : Gm) : Prop := GW G ∧ MG b G ∧ (∃ p, MP b p) ∧ KN b G
theorem RB.c0 {b : cg_S} {G : Gm} {x : Int32} (h : RB b G) : RB (cg_i b 0 0 x) G := by
  obtain ⟨h1, h2, ⟨p, h3⟩, h4⟩ := h
  have f : Fr [0] [] [] b (cg_i b 0 0 x) := Fr.i (by decide)
  exact ⟨h1, h2.c0 (Or.inl rfl), ⟨p, h3.fr f (by decide)⟩, h4.fr f (by decide)⟩
/-- why a question has no answer -/
def why3 (v1 v2 : Int32) (G : Gm) (e : Nat) : Prop := (e = 1 ∧ ∀ aim, okA aim → v1 ≠ i32 aim) ∨ (e = 2 ∧ (∃ aim, okA aim ∧ v1 = i32 aim) ∧ ∀ s, s < G 0 0 → v2 ≠ i32 s) ∨ (e = 3 ∧ (∃ aim, okA aim ∧ v1 = i32 aim) ∧ (∃ s, s < G 0 0 ∧ v2 = i32 s) ∧ ¬ whole G)
theorem m_isAsked {v1 v2 : Int32} {G : Gm} {σ : cg_S} {Q : Int32 → cg_S → Prop} (hR : RB σ G) (hbad : ∀ e, why3 v1 v2 G e → Q 0 (cg_i σ 0 0 (i32 e))) (hok : ∀ aim s τ w, okA aim → v1 = i32 aim → s < G 0 0 → v2 = i32 s → whole G → RB τ G → τ.1 0 0 = i32 0 → mmb G aim w → zfit (w s).num → zfit ((w s).den : Nat) → τ.2.1 0 40 = i64 (w s).num → τ.2.1 0 41 = i64 ((w s).den : Nat) → Q 1 τ) : M_X12_isAsked v1 v2 σ Q := by
  obtain ⟨hW, hG, ⟨p, hp⟩, hK⟩ := id hR
  have hn := hW.1
  have bad : ∀ e, 0 < e → e < 4 → why3 v1 v2 G e → L_X12_isAsked_37 v1 v2 (i32 e) σ Q := fun e he0 he he2 => by
    refine v_X12_isAsked_37 ?_
    rintro _ rfl
    have e1 : (cg_i σ 0 0 (i32 e)).1 0 0 = i32 e := by rw [ri, if_pos rfl, if_pos rfl]
    rw [e1]
    simp (disch := omega) only [n0, n1, n2, n3, n4, n5, n6, n7, n8, n9, n49, n97, n98, n114, n102, n115, n119, n109, n112, i32_add, i32_mul, i32_N, i32_le, i32_lt, i32_eq, vpi_iff]
    exact ⟨fun z => by omega, fun _ => hbad e he2⟩
  refine v_X12_isAsked (m_numberOf2 (fun aim ha hv1 => ?_) (fun hno => ?_))
  · refine ⟨fun _ => ?_, fun z => absurd z (aimN_ne aim)⟩
    refine m_isState hn hG.1.1 (fun s hs hv2 => ?_) (fun hno => ?_)
    · refine ⟨fun _ => ?_, fun z => absurd z (by decide)⟩
      refine m_isAll hW hG (fun hw => ?_) (fun hno => ?_)
      · refine ⟨fun _ => ?_, fun z => absurd z (by decide)⟩
        refine v_X12_isAsked_37 ?_
        rintro _ rfl
        have f : Fr [0] [] [] σ (cg_i σ 0 0 0) := Fr.i (by decide)
        have e1 : (cg_i σ 0 0 0).1 0 0 = i32 0 := by rw [ri, if_pos rfl, if_pos rfl]; rfl
        refine ⟨fun _ => ?_, fun z => absurd (by rw [e1]; decide) z⟩
        rw [hv1]
        refine m_values hW hw ha (hp.fr f (by decide)) (hG.c0 (Or.inl rfl)) (hK.fr f (by decide)) (fun τ w p' g1 g2 g3 g4 g5 g6 g7 => ?_)
        have h4 := aimN_lt aim
        have hG2 := (hG.c0 (x := 0) (Or.inl rfl)).fr g1 (by decide)
        refine m_numberOf ha ?_
        rw [hv2]
        simp (disch := omega) only [n0, n1, n2, n3, n4, n5, n6, n7, n8, n9, n49, n97, n98, n114, n102, n115, n119, n109, n112, i32_add, i32_mul, i32_N, i32_le, i32_lt, i32_eq, vpi_iff]
        refine ⟨by omega, ?_⟩
        rintro _ rfl
        refine m_numberOf ha ?_
        simp (disch := omega) only [n0, n1, n2, n3, n4, n5, n6, n7, n8, n9, n49, n97, n98, n114, n102, n115, n119, n109, n112, i32_add, i32_mul, i32_N, i32_le, i32_lt, i32_eq, vpi_iff]
        refine ⟨by omega, ?_⟩
        rintro _ rfl
        obtain ⟨k1, k2, k3, k4⟩ := g7 s hs
        refine hok aim s _ w ha hv1 hs hv2 hw ?_ ?_ g6 k1 k2 ?_ ?_
        · have f3 : Fr [] [0] [] τ (cg_l (cg_l τ 0 40 (τ.2.1 28 (7 * aimN aim + s))) 0 41 ((cg_l τ 0 40 (τ.2.1 28 (7 * aimN aim + s))).2.1 29 (7 * aimN aim + s))) := (Fr.l (by decide)).tr (Fr.l (by decide))
          exact ⟨hW, hG2.fr f3 (by decide), ⟨p', g3.fr f3 (by decide)⟩, g4.fr f3 (by decide)⟩
        · rw [rl1, rl1, g1.1 0 (by decide), e1]
        · rw [rl, if_pos rfl, if_neg (by decide), rl, if_pos rfl, if_pos rfl, k3]
        · rw [rl, if_pos rfl, if_pos rfl, rl, if_neg (by decide), k4]
      · exact ⟨fun z => absurd rfl z, fun _ => bad 3 (by decide) (by decide) (Or.inr (Or.inr ⟨rfl, ⟨aim, ha, hv1⟩, ⟨s, hs, hv2⟩, hno⟩))⟩
    · exact ⟨fun z => absurd rfl z, fun _ => bad 2 (by decide) (by decide) (Or.inr (Or.inl ⟨rfl, ⟨aim, ha, hv1⟩, hno⟩))⟩
  · exact ⟨fun z => absurd rfl z, fun _ => bad 1 (by decide) (by decide) (Or.inl ⟨rfl, hno⟩)⟩
