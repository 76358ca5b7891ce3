/-! THE REFERENCE: games, choices, responses -/
theorem m_in0 {v : Int32} {n : Nat} {σ : cg_S} {Q : Int32 → cg_S → Prop} (hn : n ≤ 7) (hy : ∀ s, s < n → v = i32 s → Q 1 σ) (hno : (∀ s, s < n → v ≠ i32 s) → Q 0 σ) : M_X12_in v 0 (i32 n - 1) σ Q := by
  refine v_X12_in ?_
  rw [Int32.lt_iff_toInt_lt, Int32.lt_iff_toInt_lt, i32_pred hn]
  have z0 : (0 : Int32).toInt = 0 := rfl
  rw [z0]
  refine ⟨fun z => hno (fun s hs e => ?_), fun z => ⟨fun z2 => hno (fun s hs e => ?_), fun z2 => hy v.toInt.toNat (by omega) (i32_nat (by omega))⟩⟩
  · rw [e, i32_toInt (by omega)] at z; omega
  · rw [e, i32_toInt (by omega)] at z2; omega
theorem m_isChoice {v1 v2 : Int32} {G : Gm} {σ : cg_S} {Q : Int32 → cg_S → Prop} (hR : RB σ G) (hy : ∀ s c, s < G 0 0 → v1 = i32 s → c < G 3 s → v2 = i32 c → Q 1 σ) (hno : (∀ s c, s < G 0 0 → v1 = i32 s → c < G 3 s → v2 ≠ i32 c) → Q 0 σ) : M_X12_isChoice v1 v2 σ Q := by
  obtain ⟨hW, hG, -, -⟩ := id hR
  have hn := hW.1
  refine v_X12_isChoice (m_isState hn hG.1.1 (fun s hs e => ?_) (fun z => ?_))
  · refine ⟨fun z => absurd z (by decide), fun _ => ?_⟩
    rw [e]
    simp (disch := omega) only [n0, n1, n2, n3, n4, n5, n6, n7, n8, n9, n49, n97, n98, n114, n102, n115, n119, n109, n112, i32_add, i32_mul, i32_N, i32_le, i32_lt, i32_eq, vpi_iff]
    have g3 := (hW.2.1 s (by omega)).2.2.1
    refine ⟨by omega, ?_⟩
    rw [(hG.2.2.1 s (by omega)).2.1]
    refine m_in0 (by omega) (fun c hc e2 => ?_) (fun z => ?_)
    · exact ⟨fun z => absurd z (by decide), fun _ => hy s c hs e hc e2⟩
    · refine ⟨fun _ => hno (fun s' c hs' e' hc e2 => ?_), fun z => absurd rfl z⟩
      have : s' = s := by
        rw [e, i32_eq (by omega) (by omega)] at e'
        exact e'.symm
      subst this
      exact z c hc e2
  · exact ⟨fun _ => hno (fun s c hs e _ _ => z s hs e), fun z => absurd rfl z⟩
/-- why a state's question has no answer -/
def why2 (v : Int32) (G : Gm) (e : Nat) : Prop := (e = 1 ∧ ∀ s, s < G 0 0 → v ≠ i32 s) ∨ (e = 2 ∧ (∃ s, s < G 0 0 ∧ v = i32 s) ∧ ¬ whole G)
theorem m_isGame {v : Int32} {G : Gm} {σ : cg_S} {Q : Int32 → cg_S → Prop} (hR : RB σ G) (hbad : ∀ e, why2 v G e → Q 0 (cg_i σ 0 0 (i32 e))) (hok : ∀ s, s < G 0 0 → v = i32 s → whole G → Q 1 (cg_i σ 0 0 (i32 0))) : M_X12_isGame v σ Q := by
  obtain ⟨hW, hG, -, -⟩ := id hR
  have hn := hW.1
  have fin : ∀ e, (e = 0 → Q 1 (cg_i σ 0 0 (i32 e))) → e < 4 → (e ≠ 0 → Q 0 (cg_i σ 0 0 (i32 e))) → L_X12_isGame_25 (i32 e) σ Q := fun e he h4 he2 => by
    refine v_X12_isGame_25 ?_
    rintro _ rfl
    have e1 : (cg_i σ 0 0 (i32 e)).1 0 0 = i32 e := by rw [ri, if_pos rfl, if_pos rfl]
    rw [e1]
    simp (disch := omega) only [n0, n1, n2, n3, n4, n5, n6, n7, n8, n9, n49, n97, n98, n114, n102, n115, n119, n109, n112, i32_add, i32_mul, i32_N, i32_le, i32_lt, i32_eq, vpi_iff]
    exact ⟨fun z => he2 z, fun z => he z⟩
  refine v_X12_isGame (m_isState hn hG.1.1 (fun s hs e => ?_) (fun z => ?_))
  · refine ⟨fun _ => ?_, fun z => absurd z (by decide)⟩
    refine m_isAll hW hG (fun hw => ?_) (fun hno => ?_)
    · exact ⟨fun _ => fin 0 (fun _ => hok s hs e hw) (by decide) (fun z => absurd rfl z), fun z => absurd z (by decide)⟩
    · exact ⟨fun z => absurd rfl z, fun _ => fin 2 (fun z => by omega) (by decide) (fun _ => hbad 2 (Or.inr ⟨rfl, ⟨s, hs, e⟩, hno⟩))⟩
  · exact ⟨fun z => absurd rfl z, fun _ => fin 1 (fun z => by omega) (by decide) (fun _ => hbad 1 (Or.inl ⟨rfl, z⟩))⟩
/-- the picks told -/
def tp (G : Gm) (p : Nat → Nat) (s : Nat) : Nat := if s < G 0 0 then G 10 s else p s
theorem tp_ok {G : Gm} {p : Nat → Nat} (hW : GW G) (hw : whole G) : pkOk G (tp G p) := fun s hs => by
  unfold tp
  rw [if_pos hs]
  have h1 := (hw.2 s hs).1
  rcases (hW.2.1 s (by have := hW.1; omega)).2.2.2.2.2 with z | z <;> omega
theorem m_picksTold {p : Nat → Nat} {G : Gm} {σ : cg_S} {Q : cg_S → Prop} (hW : GW G) (hp : MP σ p) (hG : MG σ G) (h : ∀ τ, Fr [5] [] [] σ τ → MP τ (tp G p) → Q τ) : M_X12_picksTold σ Q := by
  have hn := hW.1
  refine v_X12_picksTold ?_
  refine up (n := G 0 0) (fun k τ => Fr [5] [] [] σ τ ∧ ∀ s, s < 7 → τ.1 5 s = i32 (if s < k then G 10 s else p s)) (fun w τ => L_X12_picksTold_2 w τ Q) ?_ ?_ 0 σ (by omega) ⟨Fr.rf σ, fun s hs => by rw [if_neg (by omega)]; exact (hp s hs).1⟩
  · intro k τ hk hP kk
    have hG2 := hG.fr hP.1 (by decide)
    refine v_X12_picksTold_2 ?_
    rw [hG2.1.1]
    simp (disch := omega) only [n0, n1, n2, n3, n4, n5, n6, n7, n8, n9, n49, n97, n98, n114, n102, n115, n119, n109, n112, i32_add, i32_mul, i32_N, i32_le, i32_lt, i32_eq, vpi_iff]
    refine ⟨fun z => by omega, fun _ => ⟨by omega, by omega, ?_⟩⟩
    rintro _ rfl
    refine kk _ ⟨hP.1.tr (Fr.i (by decide)), fun s hs => ?_⟩
    rw [ri, if_pos rfl]
    by_cases c : s = k
    · subst c
      rw [if_pos rfl, if_pos (by omega)]
      exact (hG2.2.2.1 s (by omega)).2.2.2
    · rw [if_neg c, hP.2 s hs]
      by_cases c2 : s < k
      · rw [if_pos c2, if_pos (by omega)]
      · rw [if_neg c2, if_neg (by omega)]
  · intro τ hP
    have hG2 := hG.fr hP.1 (by decide)
    refine v_X12_picksTold_2 ?_
    rw [hG2.1.1]
    refine ⟨fun _ => h τ hP.1 (fun s hs => ⟨hP.2 s hs, ?_⟩), fun z => absurd ((i32_le (by omega) (by omega)).mpr (Nat.le_refl _)) z⟩
    unfold tp
    split
    · exact (hW.2.1 s hs).2.2.2.2.1
    · exact (hp s hs).2
/-- why a response has no answer -/
def why4 (v1 v2 v3 : Int32) (G : Gm) (e : Nat) : Prop := (e = 1 ∧ ((v1 ≠ i32 97 ∧ v1 ≠ i32 98) ∨ ∀ aim, okA aim → v2 ≠ i32 aim)) ∨ (e = 2 ∧ (v1 = i32 97 ∨ v1 = i32 98) ∧ (∃ aim, okA aim ∧ v2 = i32 aim) ∧ ∀ s, s < G 0 0 → v3 ≠ i32 s) ∨ (e = 3 ∧ (v1 = i32 97 ∨ v1 = i32 98) ∧ (∃ aim, okA aim ∧ v2 = i32 aim) ∧ (∃ s, s < G 0 0 ∧ v3 = i32 s) ∧ ¬ whole G)
theorem m_isResponse {v1 v2 v3 : Int32} {G : Gm} {σ : cg_S} {Q : Int32 → cg_S → Prop} (hR : RB σ G) (hbad : ∀ e, why4 v1 v2 v3 G e → Q 0 (cg_i σ 0 0 (i32 e))) (hok : ∀ o aim s τ p y, (v1 = i32 97 ∧ o = 98 ∨ v1 = i32 98 ∧ o = 97) → okA aim → v2 = i32 aim → s < G 0 0 → v3 = i32 s → whole G → RB τ G → τ.1 0 0 = i32 0 → bst G o aim (tp G p) y → zfit (y s).num → zfit ((y s).den : Nat) → τ.2.1 24 s = i64 (y s).num → τ.2.1 25 s = i64 ((y s).den : Nat) → Q 1 τ) : M_X12_isResponse v1 v2 v3 σ Q := by
  obtain ⟨hW, hG, ⟨p, hp⟩, hK⟩ := id hR
  have hn := hW.1
  have bad : ∀ e, 0 < e → e < 4 → why4 v1 v2 v3 G e → L_X12_isResponse_49 v1 v2 (i32 e) σ Q := fun e he0 he he2 => by
    refine v_X12_isResponse_49 ?_
    rintro _ rfl
    have e1 : (cg_i σ 0 0 (i32 e)).1 0 0 = i32 e := by rw [ri, if_pos rfl, if_pos rfl]
    rw [e1]
    simp (disch := omega) only [n0, n1, n2, n3, n4, n5, n6, n7, n8, n9, n49, n97, n98, n114, n102, n115, n119, n109, n112, i32_add, i32_mul, i32_N, i32_le, i32_lt, i32_eq, vpi_iff]
    exact ⟨fun z => by omega, fun _ => hbad e he2⟩
  have mid : (v1 = i32 97 ∨ v1 = i32 98) → L_X12_isResponse_13 v1 v2 v3 σ Q := fun hv1 => by
    refine v_X12_isResponse_13 (m_numberOf2 (fun aim ha hv2 => ?_) (fun hno => ?_))
    · refine ⟨fun _ => ?_, fun z => absurd z (aimN_ne aim)⟩
      refine m_isState hn hG.1.1 (fun s hs hv3 => ?_) (fun hno => ?_)
      · refine ⟨fun _ => ?_, fun z => absurd z (by decide)⟩
        refine m_isAll hW hG (fun hw => ?_) (fun hno => ?_)
        · refine ⟨fun _ => ?_, fun z => absurd z (by decide)⟩
          refine v_X12_isResponse_49 ?_
          rintro _ rfl
          have f : Fr [0] [] [] σ (cg_i σ 0 0 0) := Fr.i (by decide)
          have e1 : (cg_i σ 0 0 0).1 0 0 = i32 0 := by rw [ri, if_pos rfl, if_pos rfl]; rfl
          refine ⟨fun _ => ?_, fun z => absurd (by rw [e1]; decide) z⟩
          refine m_picksTold hW (hp.fr f (by decide)) (hG.c0 (Or.inl rfl)) (fun τ f1 hp1 => ?_)
          have hG1 := (hG.c0 (x := 0) (Or.inl rfl)).fr f1 (by decide)
          have go : ∀ o, (v1 = i32 97 ∧ o = 98 ∨ v1 = i32 98 ∧ o = 97) → L_X12_isResponse_79 v2 (i32 o) τ Q := fun o ho => by
            rw [hv2]
            refine v_X12_isResponse_79 (m_answers hW hw (by rcases ho with ⟨-, z⟩ | ⟨-, z⟩ <;> omega) ha hp1 (fun s hs _ => tp_ok hW hw s hs) hG1 (fun τ2 y g1 g2 g3 g4 g5 => ?_))
            obtain ⟨k1, k2, k3, k4⟩ := g4 s hs
            refine hok o aim s τ2 p y ho ha hv2 hs hv3 hw ⟨hW, hG1.fr g1 (by decide), ⟨_, g3⟩, ((hK.fr f (by decide)).fr f1 (by decide)).fr g1 (by decide)⟩ ?_ g5 k1 k2 k3 k4
            rw [g1.1 0 (by decide), f1.1 0 (by decide), e1]
          refine ⟨fun z => go 97 (Or.inr ⟨?_, rfl⟩), fun z => go 98 (Or.inl ⟨z, rfl⟩)⟩
          rcases hv1 with y | y
          · exact absurd y z
          · exact y
        · exact ⟨fun z => absurd rfl z, fun _ => bad 3 (by decide) (by decide) (Or.inr (Or.inr ⟨rfl, hv1, ⟨aim, ha, hv2⟩, ⟨s, hs, hv3⟩, hno⟩))⟩
      · exact ⟨fun z => absurd rfl z, fun _ => bad 2 (by decide) (by decide) (Or.inr (Or.inl ⟨rfl, hv1, ⟨aim, ha, hv2⟩, hno⟩))⟩
    · exact ⟨fun z => absurd rfl z, fun _ => bad 1 (by decide) (by decide) (Or.inl ⟨rfl, Or.inr hno⟩)⟩
  refine v_X12_isResponse ⟨fun z => mid (Or.inl z), fun z => ⟨fun z2 => bad 1 (by decide) (by decide) (Or.inl ⟨rfl, Or.inl ⟨z, z2⟩⟩), fun z2 => mid (Or.inr z2)⟩⟩
/-! what is built -/
theorem m_told {v : Int32} {G : Gm} {σ : cg_S} {Q : Int32 → cg_S → Prop} (hR : RB σ G) (hy : ∀ s, s < G 0 0 → v = i32 s → Q (i32 (G 10 s)) (cg_i σ 0 0 (i32 0))) (hno : (∀ s, s < G 0 0 → v ≠ i32 s) → Q 0 (cg_i σ 0 0 (i32 1))) : M_X12_told v σ Q := by
  obtain ⟨hW, hG, -, -⟩ := id hR
  have hn := hW.1
  refine v_X12_told (m_isState hn hG.1.1 (fun s hs e => ⟨fun _ => ?_, fun z => absurd z (by decide)⟩) (fun z => ⟨fun y => absurd rfl y, fun _ => ?_⟩))
  · rintro _ rfl
    have h := hy s hs e
    rw [e]
    simp (disch := omega) only [n0, n1, n2, n3, n4, n5, n6, n7, n8, n9, n49, n97, n98, n114, n102, n115, n119, n109, n112, i32_add, i32_mul, i32_N, i32_le, i32_lt, i32_eq, vpi_iff]
    refine ⟨by omega, ?_⟩
    rw [ri, if_neg (by decide), (hG.2.2.1 s (by omega)).2.2.2]
    exact h
  · refine v_X12_fails ?_
    rintro _ rfl
    exact hno z
theorem m_choices {v : Int32} {G : Gm} {σ : cg_S} {Q : Int32 → cg_S → Prop} (hR : RB σ G) (hy : ∀ s, s < G 0 0 → v = i32 s → Q (i32 (G 3 s)) (cg_i σ 0 0 (i32 0))) (hno : (∀ s, s < G 0 0 → v ≠ i32 s) → Q 0 (cg_i σ 0 0 (i32 1))) : M_X12_choices v σ Q := by
  obtain ⟨hW, hG, -, -⟩ := id hR
  have hn := hW.1
  refine v_X12_choices (m_isState hn hG.1.1 (fun s hs e => ⟨fun _ => ?_, fun z => absurd z (by decide)⟩) (fun z => ⟨fun y => absurd rfl y, fun _ => ?_⟩))
  · rintro _ rfl
    have h := hy s hs e
    rw [e]
    simp (disch := omega) only [n0, n1, n2, n3, n4, n5, n6, n7, n8, n9, n49, n97, n98, n114, n102, n115, n119, n109, n112, i32_add, i32_mul, i32_N, i32_le, i32_lt, i32_eq, vpi_iff]
    refine ⟨by omega, ?_⟩
    rw [ri, if_neg (by decide), (hG.2.2.1 s (by omega)).2.1]
    exact h
  · refine v_X12_fails ?_
    rintro _ rfl
    exact hno z
theorem m_states {G : Gm} {σ : cg_S} {Q : Int32 → cg_S → Prop} (hR : RB σ G) (h : Q (i32 (G 0 0)) (cg_i σ 0 0 (i32 0))) : M_X12_states σ Q := by
  refine v_X12_states ?_
  rintro _ rfl
  rw [ri, if_pos rfl, if_neg (by decide), hR.2.1.1.1]
  exact h
theorem m_isWhole {G : Gm} {σ : cg_S} {Q : Int32 → cg_S → Prop} (hR : RB σ G) (hy : whole G → Q 1 (cg_i σ 0 0 (i32 0))) (hno : ¬ whole G → Q 0 (cg_i σ 0 0 (i32 0))) : M_X12_isWhole σ Q := by
  refine v_X12_isWhole ?_
  rintro _ rfl
  exact m_isAll hR.1 (hR.2.1.c0 (Or.inl rfl)) (fun z => ⟨Or.inr rfl, hy z⟩) (fun z => ⟨Or.inl rfl, hno z⟩)
