/-! THE REFERENCE: what changes the game -/
theorem m_inG {v : Int32} {a b : Nat} {σ : cg_S} {Q : Int32 → cg_S → Prop} (ha : a < 1000) (hb : b < 1000) (hy : ∀ k, a ≤ k → k ≤ b → v = i32 k → Q 1 σ) (hno : (∀ k, a ≤ k → k ≤ b → v ≠ i32 k) → Q 0 σ) : M_X12_in v (i32 a) (i32 b) σ Q := by
  refine v_X12_in ?_
  rw [Int32.lt_iff_toInt_lt, Int32.lt_iff_toInt_lt, i32_toInt (by omega), i32_toInt (by omega)]
  refine ⟨fun z => hno (fun s h1 h2 e => ?_), fun z => ⟨fun z2 => hno (fun s h1 h2 e => ?_), fun z2 => hy v.toInt.toNat (by omega) (by omega) (i32_nat (by omega))⟩⟩
  · rw [e, i32_toInt (by omega)] at z; omega
  · rw [e, i32_toInt (by omega)] at z2; omega
theorem m_changes {σ : cg_S} {Q : cg_S → Prop} (h : ∀ τ, Fr [19] [] [] (cg_i σ 0 0 (i32 0)) τ → (∀ k, k < 4 → τ.1 19 k = i32 0) → Q τ) : M_X12_changes σ Q := by
  refine v_X12_changes ?_
  rintro _ rfl
  refine up (n := 4) (fun k τ => Fr [19] [] [] (cg_i σ 0 0 (i32 0)) τ ∧ ∀ j, j < k → τ.1 19 j = i32 0) (fun w τ => L_X12_changes_7 w τ Q) ?_ ?_ 0 _ (by omega) ⟨Fr.rf _, fun j hj => by omega⟩
  · intro k τ hk hP kk
    refine v_X12_changes_7 ?_
    simp (disch := omega) only [n0, n1, n2, n3, n4, n5, n6, n7, n8, n9, n49, n97, n98, n114, n102, n115, n119, n109, n112, i32_add, i32_mul, i32_N, i32_le, i32_lt, i32_eq, vpi_iff]
    refine ⟨fun z => by omega, fun _ => ⟨hk, ?_⟩⟩
    rintro _ rfl
    refine kk _ ⟨hP.1.tr (Fr.i (by decide)), fun j hj => ?_⟩
    rw [ri, if_pos rfl]
    by_cases c : j = k
    · rw [if_pos c]; rfl
    · rw [if_neg c]; exact hP.2 j (by omega)
  · intro τ hP
    refine v_X12_changes_7 ?_
    refine ⟨fun _ => h τ hP.1 hP.2, fun z => absurd ((i32_le (a := 4) (b := 4) (by omega) (by omega)).mpr (Nat.le_refl _)) z⟩
/-- the game with one number changed -/
def gU (G : Gm) (k j v : Nat) : Gm := fun k' j' => if k' = k then (if j' = j then v else G k' j') else G k' j'
theorem KN_0 {τ : cg_S} {G : Gm} (h : ∀ k, k < 4 → τ.1 19 k = i32 0) : KN τ G := fun aim _ => Or.inl (h _ (aimN_lt aim))
theorem m_fails {σ : cg_S} {e : Int32} {Q : Int32 → cg_S → Prop} (h : Q 0 (cg_i σ 0 0 e)) : M_X12_fails e σ Q := by
  refine v_X12_fails ?_
  rintro _ rfl
  exact h
theorem sN_congr {f g : Nat → Nat} : ∀ n, (∀ i, i < n → f i = g i) → sN n f = sN n g := by
  intro n
  induction n with
  | zero => intro _; rfl
  | succ n ih => intro h; rw [sN, sN, ih (fun i hi => h i (by omega)), h n (by omega)]
theorem sN_add {f g : Nat → Nat} {j d : Nat} : ∀ n, j < n → g j = f j + d → (∀ i, i ≠ j → g i = f i) → sN n g = sN n f + d := by
  intro n
  induction n with
  | zero => intro h; omega
  | succ n ih =>
    intro h h1 h2
    rw [sN, sN]
    by_cases c : j = n
    · subst c
      rw [sN_congr j (fun i hi => h2 i (by omega)), h1]; omega
    · rw [ih (by omega) h1 h2, h2 n (by omega)]; omega
/-- a state more -/
def gAddS (G : Gm) (ia c : Nat) : Gm := gU (gU (gU G 1 (G 0 0) ia) 2 (G 0 0) c) 0 0 (G 0 0 + 1)
theorem GW_addS {G : Gm} {ia c : Nat} (hW : GW G) (hn : G 0 0 ≠ 7) (hi : ia ≤ 1) (hc : c ≤ 3) : GW (gAddS G ia c) := by
  obtain ⟨h1, h2, h3, h4⟩ := hW
  unfold GW
  refine ⟨?_, fun s hs => ?_, fun m hm => ?_, h4⟩
  · show G 0 0 + 1 ≤ 7; omega
  · obtain ⟨a1, a2, a3, a4, a5, a6⟩ := h2 s hs
    refine ⟨?_, ?_, a3, a4, a5, a6⟩
    · show (if s = G 0 0 then ia else G 1 s) ≤ 1
      split <;> omega
    · show (if s = G 0 0 then c else G 2 s) ≤ 3
      split <;> omega
  · obtain ⟨a1, a2, a3, a4, a5⟩ := h3 m hm
    refine ⟨a1, a2, a3, ?_, fun t ht h => a5 t ht ?_⟩
    · show G 6 m = sN (G 0 0 + 1) (fun t => G 7 (7 * m + t))
      rw [sN, a5 (G 0 0) (by omega) (Nat.le_refl _), ← a4]; rfl
    · have : G 0 0 + 1 ≤ t := h
      omega
theorem m_addState {v1 v2 : Int32} {G : Gm} {σ : cg_S} {Q : Int32 → cg_S → Prop} (hR : RB σ G) (h1 : ¬ ((v1 = i32 97 ∨ v1 = i32 98) ∧ ∃ c, c ≤ 3 ∧ v2 = i32 c) → Q 0 (cg_i σ 0 0 (i32 1))) (h2 : ((v1 = i32 97 ∨ v1 = i32 98) ∧ ∃ c, c ≤ 3 ∧ v2 = i32 c) → G 0 0 = 7 → Q 0 (cg_i σ 0 0 (i32 2))) (h0 : ∀ ia c τ, (v1 = i32 97 ∧ ia = 1 ∨ v1 = i32 98 ∧ ia = 0) → c ≤ 3 → v2 = i32 c → G 0 0 ≠ 7 → RB τ (gAddS G ia c) → τ.1 0 0 = i32 0 → Q (i32 (G 0 0)) τ) : M_X12_addState v1 v2 σ Q := by
  obtain ⟨hW, hG, ⟨p, hp⟩, hK⟩ := id hR
  have hn := hW.1
  have mid : ∀ ia, (v1 = i32 97 ∧ ia = 1 ∨ v1 = i32 98 ∧ ia = 0) → L_X12_addState_12 v1 v2 σ Q := fun ia hia => by
    have hv1 : v1 = i32 97 ∨ v1 = i32 98 := by
      rcases hia with ⟨z, -⟩ | ⟨z, -⟩
      · exact Or.inl z
      · exact Or.inr z
    have hia1 : ia ≤ 1 := by omega
    have hvi : v1 = i32 (if ia = 1 then 97 else 98) := by
      rcases hia with ⟨z, e⟩ | ⟨z, e⟩
      · rw [e, if_pos rfl]; exact z
      · rw [e, if_neg (by decide)]; exact z
    refine v_X12_addState_12 (m_inG (a := 0) (b := 3) (by omega) (by omega) (fun c _ hc hv2 => ?_) (fun hno => ?_))
    · refine ⟨fun _ => ?_, fun z => absurd z (by decide)⟩
      rw [hG.1.1]
      simp (disch := omega) only [n0, n1, n2, n3, n4, n5, n6, n7, n8, n9, n49, n97, n98, n114, n102, n115, n119, n109, n112, i32_add, i32_mul, i32_N, i32_le, i32_lt, i32_eq, vpi_iff]
      refine ⟨fun z => ?_, fun z => m_fails (h2 ⟨hv1, c, hc, hv2⟩ z)⟩
      refine m_changes (fun τ f1 k1 => ?_)
      have hG1 := (hG.c0 (x := i32 0) (Or.inl rfl)).fr f1 (by decide)
      rw [hG1.1.1]
      simp (disch := omega) only [n0, n1, n2, n3, n4, n5, n6, n7, n8, n9, n49, n97, n98, n114, n102, n115, n119, n109, n112, i32_add, i32_mul, i32_N, i32_le, i32_lt, i32_eq, vpi_iff]
      refine ⟨by omega, ?_⟩
      rintro _ rfl
      have e1 : (cg_i τ 1 (G 0 0) v1).1 0 1 = i32 (G 0 0) := by rw [ri, if_neg (by decide)]; exact hG1.1.1
      rw [e1]
      simp (disch := omega) only [n0, n1, n2, n3, n4, n5, n6, n7, n8, n9, n49, n97, n98, n114, n102, n115, n119, n109, n112, i32_add, i32_mul, i32_N, i32_le, i32_lt, i32_eq, vpi_iff]
      refine ⟨by omega, ?_⟩
      rintro _ rfl
      have e2 : (cg_i (cg_i τ 1 (G 0 0) v1) 2 (G 0 0) v2).1 0 1 = i32 (G 0 0) := by rw [ri, if_neg (by decide)]; exact e1
      rw [e2]
      rintro _ rfl
      have e3 : (cg_i (cg_i (cg_i τ 1 (G 0 0) v1) 2 (G 0 0) v2) 0 1 (i32 (G 0 0) + i32 1)).1 0 1 = i32 (G 0 0 + 1) := by rw [ri, if_pos rfl, if_pos rfl, i32_add]
      rw [e3, i32_sub (by omega), Nat.add_sub_cancel]
      have f2 : Fr [0, 1, 2] [] [] τ (cg_i (cg_i (cg_i τ 1 (G 0 0) v1) 2 (G 0 0) v2) 0 1 (i32 (G 0 0) + i32 1)) := (Fr.i (by decide)).tr ((Fr.i (by decide)).tr (Fr.i (by decide)))
      have f3 : Fr [0, 1, 2, 19] [] [] σ (cg_i (cg_i (cg_i τ 1 (G 0 0) v1) 2 (G 0 0) v2) 0 1 (i32 (G 0 0) + i32 1)) := ((Fr.i (k := 0) (j := 0) (x := i32 0) (by decide)).tr (f1.mo (by simp) (by simp) (by simp))).tr (f2.mo (by simp) (by simp) (by simp))
      refine h0 ia c _ hia hc hv2 z ⟨GW_addS hW z hia1 hc, ?_, ⟨p, hp.fr f3 (by decide)⟩, KN_0 (fun k hk => by rw [f2.1 19 (by decide)]; exact k1 k hk)⟩ ?_
      · obtain ⟨⟨b1, b2, b3, b4, b5⟩, b6, b7, b8, b9⟩ := hG1
        refine ⟨⟨?_, ?_, ?_, ?_, ?_⟩, fun s hs => ?_, fun s hs => ?_, fun m hm => ?_, fun j hj => ?_⟩
        · rw [ri, if_pos rfl, if_pos rfl, i32_add]; rfl
        · rw [ri, if_pos rfl, if_neg (by decide)]; exact b2
        · rw [ri, if_pos rfl, if_neg (by decide)]; exact b3
        · rw [ri, if_pos rfl, if_neg (by decide)]; exact b4
        · rw [ri, if_pos rfl, if_neg (by decide)]; exact b5
        · have hs2 : s < G 0 0 + 1 := hs
          rw [ri, if_neg (by decide), ri, if_neg (by decide), ri, if_pos rfl]
          show _ = i32 (if (if s = G 0 0 then ia else G 1 s) = 1 then 97 else 98)
          by_cases e : s = G 0 0
          · rw [if_pos e, if_pos e]; exact hvi
          · rw [if_neg e, if_neg e]; exact b6 s (by omega)
        · obtain ⟨d1, d2, d3, d4⟩ := b7 s hs
          refine ⟨?_, ?_, ?_, ?_⟩
          · rw [ri, if_neg (by decide), ri, if_pos rfl]
            show _ = i32 (if s = G 0 0 then c else G 2 s)
            by_cases e : s = G 0 0
            · rw [if_pos e, if_pos e]; exact hv2
            · rw [if_neg e, if_neg e]; rw [ri, if_neg (by decide)]; exact d1
          · rw [f2.1 3 (by decide)]; exact d2
          · rw [f2.1 15 (by decide)]; exact d3
          · rw [f2.1 4 (by decide)]; exact d4
        · rw [f2.1 7 (by decide), f2.1 8 (by decide), f2.1 9 (by decide)]; exact b8 m hm
        · rw [f2.1 10 (by decide)]; exact b9 j hj
      · rw [ri, if_pos rfl, if_neg (by decide), ri, if_neg (by decide), ri, if_neg (by decide), f1.1 0 (by decide), ri, if_pos rfl, if_pos rfl]
    · refine ⟨fun z => absurd rfl z, fun _ => v_X12_addState_21 (m_fails (h1 (fun ⟨_, c, hc, e⟩ => hno c (Nat.zero_le _) hc e)))⟩
  refine v_X12_addState ⟨fun z => mid 1 (Or.inl ⟨z, rfl⟩), fun z => ⟨fun z2 => v_X12_addState_21 (m_fails (h1 (fun ⟨y, _⟩ => ?_))), fun z2 => mid 0 (Or.inr ⟨z2, rfl⟩)⟩⟩
  rcases y with y | y
  · exact z y
  · exact z2 y
