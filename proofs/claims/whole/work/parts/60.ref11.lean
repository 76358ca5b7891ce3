/-! THE REFERENCE: values -/
theorem pb97_or (x y : Rat) : pb 97 x y = x ∨ pb 97 x y = y := pb_or 97 x y
/-- one of the values kept -/
def VK1 (τ : cg_S) (i : Nat) (y : Rat) : Prop := zfit y.num ∧ zfit (y.den : Nat) ∧ τ.2.1 28 i = i64 y.num ∧ τ.2.1 29 i = i64 (y.den : Nat)
theorem VK1.fr {σ τ : cg_S} {s : Nat} {y : Rat} {I L D : List Nat} (h : VK1 σ s y) (hf : Fr I L D σ τ) (h0 : 28 ∉ L ∧ 29 ∉ L) : VK1 τ s y := by
  unfold VK1
  rw [hf.2.1 28 h0.1, hf.2.1 29 h0.2]
  exact h
/-- the most that a forces: over its picks the least over b's -/
def mmb (G : Gm) (aim : Nat) (w : Nat → Rat) : Prop := (∀ p y, pkOk G p → bst G 98 aim p y → ∀ s, s < G 0 0 → y s ≤ w s) ∧ ∀ s, s < G 0 0 → ∃ p y, pkOk G p ∧ bst G 98 aim p y ∧ y s = w s
theorem m_val48 {aim f a : Nat} {n : Nat} {x y : Nat → Rat} {σ : cg_S} {Q : cg_S → Prop} (hn : n ≤ 7) (ha : a < 4) (hf : f ≤ 1) (h1 : σ.1 0 1 = i32 n) (hx : ∀ s, s < n → VB1 σ s (x s) ∧ 0 ≤ x s) (hy : f = 0 → ∀ s, s < n → VK1 σ (7 * a + s) (y s) ∧ 0 ≤ y s) (h : ∀ τ, Fr [] [28, 29] [] σ τ → (∀ i, (i < 7 * a ∨ 7 * a + 7 ≤ i) → τ.2.1 28 i = σ.2.1 28 i ∧ τ.2.1 29 i = σ.2.1 29 i) → (∀ s, s < n → VK1 τ (7 * a + s) (if f = 0 then pb 97 (x s) (y s) else x s)) → M_X12_goesOn (i32 97) τ (fun r1 s2 => L_X12_values_33 (i32 aim) (i32 a) 0 r1 s2 Q)) : L_X12_values_48 (i32 aim) (i32 a) (i32 f) 0 σ Q := by
  refine up (n := n) (fun k τ => Fr [] [28, 29] [] σ τ ∧ (∀ i, (i < 7 * a ∨ 7 * a + 7 ≤ i) → τ.2.1 28 i = σ.2.1 28 i ∧ τ.2.1 29 i = σ.2.1 29 i) ∧ (∀ s, s < k → VK1 τ (7 * a + s) (if f = 0 then pb 97 (x s) (y s) else x s)) ∧ (f = 0 → ∀ s, k ≤ s → s < n → VK1 τ (7 * a + s) (y s))) (fun w τ => L_X12_values_48 (i32 aim) (i32 a) (i32 f) w τ Q) ?_ ?_ 0 σ (by omega) ⟨Fr.rf σ, fun _ _ => ⟨rfl, rfl⟩, fun s hs => by omega, fun z s _ hs => (hy z s hs).1⟩
  · intro k τ hk hP kk
    obtain ⟨hP1, hP4, hP2, hP3⟩ := hP
    obtain ⟨x1, x2, x3, x4⟩ := ((hx k hk).1.fr hP1 (by decide))
    have st : (if f = 0 then pb 97 (x k) (y k) else x k) = x k → L_X12_values_108 (i32 aim) (i32 a) (i32 f) (i32 k) τ Q := by
      intro he
      refine v_X12_values_108 ?_
      simp (disch := omega) only [n0, n1, n2, n3, n4, n5, n6, n7, n8, n9, n49, n97, n98, n114, n102, n115, n119, n109, n112, i32_add, i32_mul, i32_N, i32_le, i32_lt, i32_eq, vpi_iff]
      refine ⟨by omega, by omega, ?_⟩
      rintro _ rfl
      refine ⟨by omega, by omega, ?_⟩
      rintro _ rfl
      refine kk _ ⟨hP1.tr ((Fr.l (by decide)).tr (Fr.l (by decide))), fun i hi => ?_, fun s hs => ?_, fun z s h1 h2 => ?_⟩
      · rw [rl, if_neg (by decide), rl, if_pos rfl, if_neg (by omega), rl, if_pos rfl, if_neg (by omega), rl, if_neg (by decide)]
        exact hP4 i hi
      · by_cases c : s = k
        · subst c
          rw [he]
          refine ⟨x1, x2, ?_, ?_⟩
          · rw [rl, if_neg (by decide), rl, if_pos rfl, if_pos rfl, x3]
          · rw [rl, if_pos rfl, if_pos rfl, rl, if_neg (by decide), x4]
        · obtain ⟨y1, y2, y3, y4⟩ := hP2 s (by omega)
          refine ⟨y1, y2, ?_, ?_⟩
          · rw [rl, if_neg (by decide), rl, if_pos rfl, if_neg (by omega), y3]
          · rw [rl, if_pos rfl, if_neg (by omega), rl, if_neg (by decide), y4]
      · have c : s ≠ k := by omega
        obtain ⟨y1, y2, y3, y4⟩ := hP3 z s (by omega) h2
        refine ⟨y1, y2, ?_, ?_⟩
        · rw [rl, if_neg (by decide), rl, if_pos rfl, if_neg (by omega), y3]
        · rw [rl, if_pos rfl, if_neg (by omega), rl, if_neg (by decide), y4]
    refine v_X12_values_48 ?_
    rw [hP1.1 0 (by decide), h1]
    simp (disch := omega) only [n0, n1, n2, n3, n4, n5, n6, n7, n8, n9, n49, n97, n98, n114, n102, n115, n119, n109, n112, i32_add, i32_mul, i32_N, i32_le, i32_lt, i32_eq, vpi_iff]
    refine ⟨fun z => by omega, fun _ => ⟨fun z => st (if_neg z), fun z => ⟨by omega, by omega, by omega, by omega, ?_⟩⟩⟩
    have hy1 := hP3 z k (Nat.le_refl k) hk
    rw [x3, x4, hy1.2.2.1, hy1.2.2.2]
    refine m_compare (hx k hk).2 (hy z k hk).2 x1 x2 hy1.1 hy1.2.1 ?_
    have e0 : i32 0 = 0 := rfl
    have e1 : ∀ r : Int32, (0 < r) = (0 < (1 : Int32) * r) := fun r => by rw [Int32.one_mul]
    rw [e0, e1, sg_bt (o := 97) (by rw [if_neg (by decide)])]
    refine ⟨fun z2 => st (by rw [if_pos z, pb_bt z2]), fun z2 => ?_⟩
    refine kk _ ⟨hP1, hP4, fun s hs => ?_, fun _ s h1 h2 => hP3 z s (by omega) h2⟩
    by_cases c : s = k
    · subst c
      rw [if_pos z, pb_nbt z2]
      exact hy1
    · exact hP2 s (by omega)
  · intro τ hP
    refine v_X12_values_48 ?_
    rw [hP.1.1 0 (by decide), h1]
    refine ⟨fun _ => h τ hP.1 hP.2.1 hP.2.2.1, fun z => absurd ((i32_le (by omega) (by omega)).mpr (Nat.le_refl _)) z⟩
theorem of_97 {G : Gm} {s : Nat} : ofG G 97 s = true ↔ ofG G 98 s = false := by
  unfold ofG ownG
  split <;> simp
theorem bst_congr {G : Gm} {aim : Nat} {p q y : Nat → _} (h : ∀ s, s < G 0 0 → ofG G 97 s = true → p s = q s) (hb : bst G 98 aim p y) : bst G 98 aim q y := by
  have hs : ∀ r, sd G 98 q r ↔ sd G 98 p r := fun r => by
    constructor
    · exact fun z => ⟨z.1, fun s hs hD => by rw [z.2 s hs hD, h s hs (of_97.mpr hD)]⟩
    · exact fun z => ⟨z.1, fun s hs hD => by rw [z.2 s hs hD, ← h s hs (of_97.mpr hD)]⟩
  unfold bst
  simp only [hs]
  exact hb
theorem bst_nonneg {G : Gm} {o aim : Nat} {p : Nat → Nat} {y : Nat → Rat} (hW : GW G) (hw : whole G) (hb : bst G o aim p y) : ∀ s, s < G 0 0 → 0 ≤ y s := fun s hs => by
  obtain ⟨q, x, hq, hX, e⟩ := hb.2 s hs
  rw [← e]
  exact gX_nonneg hW hw (mv_pk hq.1) (XS_gX.mp hX) s hs
theorem bst_uniq {G : Gm} {o aim : Nat} {p : Nat → Nat} {y z : Nat → Rat} (hy : bst G o aim p y) (hz : bst G o aim p z) : ∀ s, s < G 0 0 → y s = z s := fun s hs => by
  obtain ⟨q, x, hq, hX, e⟩ := hy.2 s hs
  obtain ⟨q', x', hq', hX', e'⟩ := hz.2 s hs
  have h1 := hz.1 q x hq hX s hs
  have h2 := hy.1 q' x' hq' hX' s hs
  rw [e] at h1
  rw [e'] at h2
  unfold bt at h1 h2
  split at h1
  · rw [if_pos (by assumption)] at h2
    exact Rat.le_antisymm (Rat.not_lt.mp h2) (Rat.not_lt.mp h1)
  · rw [if_neg (by assumption)] at h2
    exact Rat.le_antisymm (Rat.not_lt.mp h1) (Rat.not_lt.mp h2)
theorem m_val33 {aim a : Nat} {G : Gm} {σ : cg_S} {Q : cg_S → Prop} (hW : GW G) (hw : whole G) (ha : aim = 114 ∨ aim = 102 ∨ aim = 115 ∨ aim = 119) (ha4 : a < 4) (hG : MG σ G) (h : ∀ τ w p', Fr [5, 16, 20] [0, 21, 22, 23, 24, 25, 28, 29] [] σ τ → (∀ j, j ≠ 39 → j ≠ 40 → j ≠ 41 → τ.2.1 0 j = σ.2.1 0 j) → (∀ i, (i < 7 * a ∨ 7 * a + 7 ≤ i) → τ.2.1 28 i = σ.2.1 28 i ∧ τ.2.1 29 i = σ.2.1 29 i) → MP τ p' → mmb G aim w → (∀ s, s < G 0 0 → VK1 τ (7 * a + s) (w s)) → Q τ) : ∀ (r k f : Nat) (τ : cg_S) (p : Nat → Nat) (w : Nat → Rat), r + k = rx (ofG G 97) (G 3) (G 0 0) → cd (ofG G 97) (G 3) p (G 0 0) = k → f ≤ 1 → (f = 1 → k = 0) → Fr [5, 16, 20] [0, 21, 22, 23, 24, 25, 28, 29] [] σ τ → (∀ j, j ≠ 39 → j ≠ 40 → j ≠ 41 → τ.2.1 0 j = σ.2.1 0 j) → (∀ i, (i < 7 * a ∨ 7 * a + 7 ≤ i) → τ.2.1 28 i = σ.2.1 28 i ∧ τ.2.1 29 i = σ.2.1 29 i) → MP τ p → (∀ s, s < G 0 0 → ofG G 97 s = true → p s < G 3 s) → (f = 0 → ∀ s, s < G 0 0 → VK1 τ (7 * a + s) (w s) ∧ ∃ q y, pkOk G q ∧ bst G 98 aim q y ∧ y s = w s) → (f = 0 → ∀ q y, pkOk G q → cd (ofG G 97) (G 3) q (G 0 0) < k → bst G 98 aim q y → ∀ s, s < G 0 0 → y s ≤ w s) → L_X12_values_33 (i32 aim) (i32 a) (i32 f) 1 τ Q := by
  have hn := hW.1
  intro r
  induction r with
  | zero =>
    intro k f τ p w hr hk _ _ _ _ _ _ hpk _ _
    exfalso
    have := cd_lt (D := ofG G 97) (c := G 3) (p := p) (G 0 0) (fun s hs hD => hpk s hs hD)
    omega
  | succ r ih =>
    intro k f τ p w hr hk hf hf1 hfr h0 h28 hp hpk hy hb
    have hG2 := hG.fr hfr (by decide)
    refine v_X12_values_33 ⟨fun z => absurd z (by decide), fun _ => ?_⟩
    refine m_answers (o := 98) hW hw (Or.inr rfl) ha hp (fun s hs hD => hpk s hs (of_97.mpr hD)) hG2 (fun τ1 y f1 f2 hp1 hV hB => ?_)
    have hy0 := bst_nonneg hW hw hB
    have hpk1 : pkOk G (pz (ofG G 98) (G 0 0) p) := fun s hs => by
      cases hD : ofG G 98 s
      · rw [pz_no (fun z => by rw [hD] at z; exact absurd z.2 (by decide))]; exact hpk s hs (of_97.mpr hD)
      · rw [pz_yes hs hD]; exact (hw.2 s hs).1
    have hpz : ∀ s, ofG G 97 s = true → pz (ofG G 98) (G 0 0) p s = p s := fun s hD => pz_no (fun z => by rw [of_97.mp hD] at z; exact absurd z.2 (by decide))
    have hB1 : bst G 98 aim (pz (ofG G 98) (G 0 0) p) y := bst_congr (fun s hs hD => (hpz s hD).symm) hB
    refine m_val48 hn ha4 hf (hG2.fr f1 (by decide)).1.1 (fun s hs => ⟨hV s hs, hy0 s hs⟩) (fun z s hs => ⟨(hy z s hs).1.fr f1 (by decide), ?_⟩) (fun τ2 g1 g3 g2 => ?_)
    · obtain ⟨-, q, y', hq, hB', e⟩ := hy z s hs
      rw [← e]
      exact bst_nonneg hW hw hB' s hs
    · have hfr2 : Fr [5, 16, 20] [0, 21, 22, 23, 24, 25, 28, 29] [] σ τ2 := hfr.tr ((f1.mo (by simp) (by simp) (by simp)).tr (g1.mo (by simp) (by simp) (by simp)))
      have h02 : ∀ j, j ≠ 39 → j ≠ 40 → j ≠ 41 → τ2.2.1 0 j = σ.2.1 0 j := fun j a b c => by rw [g1.2.1 0 (by decide), f2 j a b c, h0 j a b c]
      have h282 : ∀ i, (i < 7 * a ∨ 7 * a + 7 ≤ i) → τ2.2.1 28 i = σ.2.1 28 i ∧ τ2.2.1 29 i = σ.2.1 29 i := fun i hi => by
        rw [(g3 i hi).1, (g3 i hi).2, f1.2.1 28 (by decide), f1.2.1 29 (by decide)]
        exact h28 i hi
      have hp2 : MP τ2 (pz (ofG G 98) (G 0 0) p) := hp1.fr g1 (by decide)
      have hG3 := hG.fr hfr2 (by decide)
      have hcd : cd (ofG G 97) (G 3) (pz (ofG G 98) (G 0 0) p) (G 0 0) = k := by
        rw [← hk]
        exact cd_congr _ (fun s hs hD => hpz s hD)
      have hex : ∀ s, s < G 0 0 → ∃ q y', pkOk G q ∧ bst G 98 aim q y' ∧ y' s = (if f = 0 then pb 97 (y s) (w s) else y s) := fun s hs => by
        by_cases c : f = 0
        · rw [if_pos c]
          rcases pb_or 97 (y s) (w s) with e | e
          · exact ⟨_, y, hpk1, hB1, e.symm⟩
          · obtain ⟨-, q, y', hq, hB', e'⟩ := hy c s hs
            exact ⟨q, y', hq, hB', by rw [e, e']⟩
        · rw [if_neg c]
          exact ⟨_, y, hpk1, hB1, rfl⟩
      have hbb : ∀ q y', pkOk G q → cd (ofG G 97) (G 3) q (G 0 0) < k + 1 → bst G 98 aim q y' → ∀ s, s < G 0 0 → y' s ≤ (if f = 0 then pb 97 (y s) (w s) else y s) := fun q y' hq hc hB' s hs => by
        by_cases e : cd (ofG G 97) (G 3) q (G 0 0) = k
        · have hqp := cd_inj (D := ofG G 97) (c := G 3) (p := q) (q := p) (G 0 0) (fun s hs _ => hq s hs) (fun s hs hD => hpk s hs hD) (by omega)
          have hxx := bst_uniq (bst_congr hqp hB') hB s hs
          rw [hxx]
          by_cases c : f = 0
          · rw [if_pos c]
            have := pb_1 97 (y s) (w s)
            unfold bt at this
            rw [if_neg (by decide)] at this
            exact Rat.not_lt.mp this
          · rw [if_neg c]; exact Rat.le_refl
        · by_cases c : f = 0
          · rw [if_pos c]
            have h1 := hb c q y' hq (by omega) hB' s hs
            have := pb_2 (o := 97) (x := y s) (y := w s) (z := y' s) (by unfold bt; rw [if_neg (by decide)]; exact Rat.not_lt.mpr h1)
            unfold bt at this
            rw [if_neg (by decide)] at this
            exact Rat.not_lt.mp this
          · have := hf1 (by omega)
            omega
      refine m_goesOn hW (by decide) hp2 hpk1 hG3 (fun τ3 p' k1 k2 k3 k4 k5 => ?_) (fun τ3 k1 k2 k3 => ?_)
      · refine ih (k + 1) 0 τ3 p' (fun s => if f = 0 then pb 97 (y s) (w s) else y s) (by omega) (by omega) (by omega) (fun z => by omega) (hfr2.tr (k1.mo (by simp) (by simp) (by simp))) (fun j a b c => by rw [k1.2.1 0 (by decide), h02 j a b c]) (fun i hi => by rw [k1.2.1 28 (by decide), k1.2.1 29 (by decide)]; exact h282 i hi) k2 (fun s hs _ => k3 s hs) (fun _ s hs => ⟨(g2 s hs).fr k1 (by decide), hex s hs⟩) (fun _ => hbb)
      · refine v_X12_values_33 ⟨fun _ => ?_, fun z => absurd rfl z⟩
        refine h τ3 (fun s => if f = 0 then pb 97 (y s) (w s) else y s) _ (hfr2.tr (k1.mo (by simp) (by simp) (by simp))) (fun j a b c => by rw [k1.2.1 0 (by decide), h02 j a b c]) (fun i hi => by rw [k1.2.1 28 (by decide), k1.2.1 29 (by decide)]; exact h282 i hi) k2 ⟨fun q y' hq hB' => hbb q y' hq ?_ hB', hex⟩ (fun s hs => (g2 s hs).fr k1 (by decide))
        have := cd_lt (D := ofG G 97) (c := G 3) (p := q) (G 0 0) (fun s hs _ => hq s hs)
        omega
/-- the number of an aim -/
def aimN (aim : Nat) : Nat := if aim = 114 then 0 else if aim = 102 then 1 else if aim = 115 then 2 else 3
theorem aimN_lt (aim : Nat) : aimN aim < 4 := by unfold aimN; repeat' split
                                                 all_goals omega
theorem m_numberOf {aim : Nat} {σ : cg_S} {Q : Int32 → cg_S → Prop} (ha : aim = 114 ∨ aim = 102 ∨ aim = 115 ∨ aim = 119) (h : Q (i32 (aimN aim)) σ) : M_X12_numberOf (i32 aim) σ Q := by
  refine v_X12_numberOf ?_
  rcases ha with rfl | rfl | rfl | rfl
  · exact ⟨fun z => absurd rfl z, fun _ => h⟩
  · exact ⟨fun _ => ⟨fun z => absurd rfl z, fun _ => h⟩, fun z => absurd z (by decide)⟩
  · exact ⟨fun _ => ⟨fun _ => ⟨fun z => absurd rfl z, fun _ => h⟩, fun z => absurd z (by decide)⟩, fun z => absurd z (by decide)⟩
  · exact ⟨fun _ => ⟨fun _ => ⟨fun _ => ⟨fun z => absurd rfl z, fun _ => h⟩, fun z => absurd z (by decide)⟩, fun z => absurd z (by decide)⟩, fun z => absurd z (by decide)⟩
/-- what is kept is right -/
def KN (τ : cg_S) (G : Gm) : Prop := ∀ aim, (aim = 114 ∨ aim = 102 ∨ aim = 115 ∨ aim = 119) → τ.1 19 (aimN aim) = i32 0 ∨ (τ.1 19 (aimN aim) = i32 1 ∧ ∃ w, mmb G aim w ∧ ∀ s, s < G 0 0 → VK1 τ (7 * aimN aim + s) (w s))
theorem KN.fr {σ τ : cg_S} {G : Gm} {I L D : List Nat} (h : KN σ G) (hf : Fr I L D σ τ) (h0 : 19 ∉ I ∧ 28 ∉ L ∧ 29 ∉ L) : KN τ G := fun aim ha => by
  rw [hf.1 19 h0.1]
  rcases h aim ha with z | ⟨z, w, z2, z3⟩
  · exact Or.inl z
  · exact Or.inr ⟨z, w, z2, fun s hs => (z3 s hs).fr hf h0.2⟩
theorem aimN_inj {a b : Nat} (ha : a = 114 ∨ a = 102 ∨ a = 115 ∨ a = 119) (hb : b = 114 ∨ b = 102 ∨ b = 115 ∨ b = 119) (h : aimN a = aimN b) : a = b := by
  rcases ha with rfl | rfl | rfl | rfl <;> rcases hb with rfl | rfl | rfl | rfl <;> first | rfl | exact absurd h (by decide)
theorem m_values {aim : Nat} {p : Nat → Nat} {G : Gm} {σ : cg_S} {Q : cg_S → Prop} (hW : GW G) (hw : whole G) (ha : aim = 114 ∨ aim = 102 ∨ aim = 115 ∨ aim = 119) (hp : MP σ p) (hG : MG σ G) (hK : KN σ G) (h : ∀ τ w p', Fr [5, 16, 19, 20] [0, 21, 22, 23, 24, 25, 28, 29] [] σ τ → (∀ j, j ≠ 39 → j ≠ 40 → j ≠ 41 → τ.2.1 0 j = σ.2.1 0 j) → MP τ p' → KN τ G → τ.1 19 (aimN aim) = i32 1 → mmb G aim w → (∀ s, s < G 0 0 → VK1 τ (7 * aimN aim + s) (w s)) → Q τ) : M_X12_values (i32 aim) σ Q := by
  have hn := hW.1
  have h4 := aimN_lt aim
  refine v_X12_values (m_numberOf ha ?_)
  simp (disch := omega) only [n0, n1, n2, n3, n4, n5, n6, n7, n8, n9, n49, n97, n98, n114, n102, n115, n119, n109, n112, i32_add, i32_mul, i32_N, i32_le, i32_lt, i32_eq, vpi_iff]
  refine ⟨by omega, fun z => ⟨by omega, ?_⟩, fun z => ?_⟩
  · rintro _ rfl
    have f0 : Fr [19] [] [] σ (cg_i σ 19 (aimN aim) (vp_nar .boolean (i32 1))) := Fr.i (by decide)
    refine m_begins hW (by decide) (hp.fr f0 (by decide)) (hG.fr f0 (by decide)) (fun τ f1 hp1 => ?_)
    have hG1 := (hG.fr f0 (by decide)).fr f1 (by decide)
    have hz : cd (ofG G 97) (G 3) (pz (ofG G 97) (G 0 0) p) (G 0 0) = 0 := cd_zero _ (fun s hs hD => pz_yes hs hD)
    refine m_val33 (a := aimN aim) hW hw ha h4 hG1 (fun τ2 w p' g1 g2 g3 g4 g5 g6 => ?_) (rx (ofG G 97) (G 3) (G 0 0)) 0 1 τ _ (fun _ => 0) rfl hz (by omega) (fun _ => rfl) (Fr.rf τ) (fun _ _ _ _ => rfl) (fun _ _ => ⟨rfl, rfl⟩) hp1 (fun s hs hD => by rw [pz_yes hs hD]; exact (hw.2 s hs).1) (fun z => by omega) (fun z => by omega)
    have e19 : ∀ i, τ2.1 19 i = if i = aimN aim then i32 1 else σ.1 19 i := fun i => by
      rw [g1.1 19 (by decide), f1.1 19 (by decide), ri, if_pos rfl]
      rfl
    refine h τ2 w p' ((f0.mo (by simp) (by simp) (by simp)).tr ((f1.mo (by simp) (by simp) (by simp)).tr (g1.mo (by simp) (by simp) (by simp)))) (fun j a b c => by rw [g2 j a b c, f1.2.1 0 (by decide)]; rfl) g4 (fun aim' ha' => ?_) (by rw [e19, if_pos rfl]) g5 g6
    rw [e19]
    by_cases c : aimN aim' = aimN aim
    · have := aimN_inj ha' ha c
      subst this
      rw [if_pos rfl]
      exact Or.inr ⟨rfl, w, g5, g6⟩
    · rw [if_neg c]
      rcases hK aim' ha' with y | ⟨y, w', y2, y3⟩
      · exact Or.inl y
      · refine Or.inr ⟨y, w', y2, fun s hs => ?_⟩
        obtain ⟨u1, u2, u3, u4⟩ := y3 s hs
        have := g3 (7 * aimN aim' + s) (by omega)
        refine ⟨u1, u2, ?_, ?_⟩
        · rw [this.1, f1.2.1 28 (by decide)]; exact u3
        · rw [this.2, f1.2.1 29 (by decide)]; exact u4
  · rcases hK aim ha with y | ⟨y, w', y2, y3⟩
    · exact absurd y z
    · exact h σ w' p (Fr.rf σ) (fun _ _ _ _ => rfl) hp hK y y2 y3
