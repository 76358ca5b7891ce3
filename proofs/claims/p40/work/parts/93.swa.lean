/-! THE CLASS: all strategies, one after another -/
theorem hat_congr {A B : Nat → Nat → Rat} {k : Nat} (h : ∀ i, i < k → ∀ t, A i t = B i t) : ∀ i, i < k → ∀ t, hat A i t = hat B i t := by
  intro i
  induction i using Nat.strongRecOn with
  | _ i ih =>
    intro hi t
    have hd : hdl A i = hdl B i := by
      unfold hdl
      rw [(gB_rows (A := hatS A i) (B := hatS B i) i (fun j hj t => by rw [hatS_lt hj, hatS_lt hj]; exact ih j hj (by omega) t)).2 i (fun t => by rw [hatS_ge (Nat.le_refl i), hatS_ge (Nat.le_refl i)]; exact h i hi t)]
    unfold hat
    rw [h i hi t, hd]
theorem RWS_congr {τ : cg_S} {n k : Nat} {o : Nat → Nat} {A B : Nat → Nat → Rat} (h : ∀ i, i < k → ∀ t, A i t = B i t) (hR : RWS τ n o (hat A) k) : RWS τ n o (hat B) k := fun i hi => by
  have e : ∀ t, gB i (hat A) i t = gB i (hat B) i t := (gB_rows (A := hat A) (B := hat B) i (fun j hj t => hat_congr h j (by omega) t)).2 i (fun t => hat_congr h i hi t)
  obtain ⟨h1, h2⟩ := hR i hi
  exact ⟨fun j h3 h4 => by rw [← e]; exact h1 j h3 h4, by rw [← e]; exact h2⟩
theorem RWS.le {τ : cg_S} {n k j : Nat} {o : Nat → Nat} {A : Nat → Nat → Rat} (hR : RWS τ n o A k) (h : j ≤ k) : RWS τ n o A j := fun i hi => hR i (by omega)
theorem RWS.fr {σ τ : cg_S} {n k : Nat} {o : Nat → Nat} {A : Nat → Nat → Rat} {I L D : List Nat} (hR : RWS σ n o A k) (hf : Fr I L D σ τ) (h0 : ∀ i, i < k → 60 + o i ∉ L) : RWS τ n o A k := fun i hi => by
  rw [hf.2.1 _ (h0 i hi)]
  exact hR i hi
theorem clP_row {G : Gm} {o p q : Nat → Nat} {aim i : Nat} (h : p (o i) = q (o i)) (j : Nat) : clP o G p aim i j = clP o G q aim i j := by
  have hm : mv p (o i) = mv q (o i) := by unfold mv; rw [h]
  have e : ∀ (N : Nat → Bool) (f : Nat → Int) (ov un : Nat) (c d : Nat → Int) (t : Nat), c (o i) = d (o i) → sysA G p N f ov un c (o i) t = sysA G q N f ov un d (o i) t := fun N f ov un c d t hc => by
    unfold sysA rowS
    rw [hm, hc]
  unfold clP
  split
  · show pmA o _ i j = pmA o _ i j
    unfold pmA
    rw [e _ _ _ _ _ (fun _ => 0) _ rfl, e _ _ _ _ _ (fun _ => 0) _ rfl]
  · show pmA o _ i j = pmA o _ i j
    unfold pmA
    rw [e _ _ _ _ _ (fun s => ((costG G aim (mv q s) : Nat) : Int)) _ (by rw [hm]), e _ _ _ _ _ (fun s => ((costG G aim (mv q s) : Nat) : Int)) _ (by rw [hm])]
theorem cd_max {D : Nat → Bool} {c p : Nat → Nat} : ∀ k, (∀ j, j < k → D j = true → p j + 1 = c j) → cd D c p k + 1 = rx D c k := by
  intro k
  induction k with
  | zero => intro _; rfl
  | succ k ih =>
    intro h
    have h1 := ih (fun j hj => h j (by omega))
    rw [cd, rx]
    by_cases e : D k
    · rw [if_pos e, if_pos e, ← h k (by omega) e, Nat.add_mul, Nat.one_mul]; omega
    · rw [if_neg e, if_neg e]; exact h1
/-- the number of a pick, by the positions that D has -/
def cdo (G : Gm) (o : Nat → Nat) (D : Nat → Bool) (p : Nat → Nat) : Nat := cd (fun j => decide (j < G 0 0) && D (G 0 0 - 1 - j)) (fun j => G 3 (o (G 0 0 - 1 - j))) (fun j => p (o (G 0 0 - 1 - j))) (G 0 0)
def rxo (G : Gm) (o : Nat → Nat) (D : Nat → Bool) : Nat := rx (fun j => decide (j < G 0 0) && D (G 0 0 - 1 - j)) (fun j => G 3 (o (G 0 0 - 1 - j))) (G 0 0)
section CO2
variable {G : Gm} {o oi : Nat → Nat} {D : Nat → Bool} {p q : Nat → Nat}
theorem dj {n j : Nat} (hj : j < n) : (decide (j < n) && D (n - 1 - j)) = D (n - 1 - j) := by rw [decide_eq_true hj, Bool.true_and]
theorem cdo_lt (hP : PM (G 0 0) o oi) (hp : pkOk G p) : cdo G o D p < rxo G o D := cd_lt _ (fun j hj _ => hp _ (hP.1 _ (by omega)).1)
theorem cdo_congr (h : ∀ i, i < G 0 0 → D i = true → p (o i) = q (o i)) : cdo G o D p = cdo G o D q := cd_congr _ (fun j hj hD => by
  rw [dj hj] at hD
  exact h _ (by omega) hD)
theorem cdo_zero (h : ∀ i, i < G 0 0 → D i = true → p (o i) = 0) : cdo G o D p = 0 := cd_zero _ (fun j hj hD => by
  rw [dj hj] at hD
  exact h _ (by omega) hD)
theorem cdo_inj (hP : PM (G 0 0) o oi) (hp : pkOk G p) (hq : pkOk G q) (he : cdo G o D p = cdo G o D q) : ∀ i, i < G 0 0 → D i = true → p (o i) = q (o i) := fun i hi hD => by
  have := cd_inj (G 0 0) (fun j hj _ => hp _ (hP.1 _ (by omega)).1) (fun j hj _ => hq _ (hP.1 _ (by omega)).1) he (G 0 0 - 1 - i) (by omega) (by
    rw [dj (show G 0 0 - 1 - i < G 0 0 by omega), show G 0 0 - 1 - (G 0 0 - 1 - i) = i by omega]; exact hD)
  rw [show G 0 0 - 1 - (G 0 0 - 1 - i) = i by omega] at this
  exact this
theorem cdo_max (h : ∀ i, i < G 0 0 → D i = true → p (o i) + 1 = G 3 (o i)) : cdo G o D p + 1 = rxo G o D := cd_max _ (fun j hj hD => by
  rw [dj hj] at hD
  exact h _ (by omega) hD)
theorem cdo_step {i : Nat} (hi : i < G 0 0) (hD : D i = true) (h1 : ∀ j, j < i → q (o j) = p (o j)) (h2 : q (o i) = p (o i) + 1) (h3 : ∀ j, i < j → j < G 0 0 → q (o j) = 0 ∧ p (o j) + 1 = G 3 (o j)) : cdo G o D q = cdo G o D p + 1 := by
  have e : G 0 0 - 1 - (G 0 0 - 1 - i) = i := by omega
  refine cd_step (k := G 0 0 - 1 - i) ?_ (cd_max _ (fun j hj hDj => (h3 _ (by omega) (by omega)).2)) (fun s hs => ?_) (G 0 0) (by omega)
  · rw [dj (show G 0 0 - 1 - i < G 0 0 by omega), e]; exact hD
  · have hs2 : s < G 0 0 := by
      rw [Bool.and_eq_true, decide_eq_true_iff] at hs
      exact hs.1
    by_cases c : s = G 0 0 - 1 - i
    · rw [if_pos c, c, e]; exact h2
    · rw [if_neg c]
      by_cases c2 : s < G 0 0 - 1 - i
      · rw [if_pos c2]; exact (h3 _ (by omega) (by omega)).1
      · rw [if_neg c2]; exact h1 _ (by omega)
theorem rxo_le (hW : GW G) (hP : PM (G 0 0) o oi) : rxo G o D ≤ 2187 := by
  have hn := hW.1
  have key : ∀ k, k ≤ G 0 0 → rx (fun j => decide (j < G 0 0) && D (G 0 0 - 1 - j)) (fun j => G 3 (o (G 0 0 - 1 - j))) k ≤ 3 ^ k := by
    intro k
    induction k with
    | zero => intro _; exact Nat.le_refl 1
    | succ k ih =>
      intro hk
      have h1 := ih (by omega)
      have h2 := (hW.2.1 (o (G 0 0 - 1 - k)) (by have := (hP.1 (G 0 0 - 1 - k) (by omega)).1; omega)).2.2.1
      rw [rx, Nat.pow_succ]
      split
      · have := Nat.mul_le_mul h2 h1; omega
      · omega
  have h1 := key (G 0 0) (Nat.le_refl _)
  have h2 : 3 ^ (G 0 0) ≤ 3 ^ 7 := Nat.pow_le_pow_right (by decide) hn
  have h3 : 3 ^ 7 = 2187 := by decide
  unfold rxo
  omega
end CO2
section SW
variable {G : Gm} {ch aim nA : Nat} {o oi p : Nat → Nat} {σ : cg_S}
/-- the next pick, whose first change is at position i -/
def advQ (G : Gm) (oi p : Nat → Nat) (i s : Nat) : Nat := if G 0 0 ≤ s then 0 else if oi s < i then p s else if oi s = i then p s + 1 else 0
theorem c_advance {Q : Int32 → cg_S → Prop} (hC : CG σ G ch) (hW : GW G) (hw : whole G) (hO : ORD σ (G 0 0) nA (gA G) o oi) (hpk : pkOk G p) (hpc : PK σ 30 (G 0 0) p) (h1 : ∀ τ q i, i < G 0 0 → Fr [30] [] [] σ τ → PK τ 30 (G 0 0) q → pkOk G q → (∀ s, s < 7 → q s ≤ 2) → (∀ j, j < i → q (o j) = p (o j)) → q (o i) = p (o i) + 1 → (∀ j, i < j → j < G 0 0 → q (o j) = 0 ∧ p (o j) + 1 = G 3 (o j)) → Q (i32 i) τ) (h0 : ∀ τ, Fr [30] [] [] σ τ → (∀ j, j < G 0 0 → p (o j) + 1 = G 3 (o j)) → Q (-1) τ) : M_X7_advance σ Q := by
  have hn := hW.1
  have hn0 := hw.1
  have hP := hO.pm
  have dn : ∀ k : Fin 8, i32 (k.val + 1) - 1 = i32 k.val ∧ i32 (k.val + 1) + (-1) = i32 k.val := by decide
  have key : ∀ k, k ≤ G 0 0 → ∀ τ, Fr [30] [] [] σ τ → (∀ s, s < G 0 0 → τ.1 30 s = i32 (if k ≤ oi s then 0 else p s)) → (∀ j, k ≤ j → j < G 0 0 → p (o j) + 1 = G 3 (o j)) → L_X7_advance_13 (i32 k + (-1)) τ Q := by
    intro k
    induction k with
    | zero =>
      intro hk τ hf hpc2 hm
      exact v_X7_advance_13 ⟨fun _ => h0 τ hf (fun j hj => hm j (Nat.zero_le j) hj), fun z => absurd (by decide) z⟩
    | succ k ih =>
      intro hk τ hf hpc2 hm
      have hC2 := hC.fr hf (by decide)
      obtain ⟨w1, w2, w3, w4⟩ := (hO.fr hf (by decide)).2.2.2.1 k (by omega)
      have g3 := (hW.2.1 (o k) (by omega)).2.2.1
      have hp0 := hpk (o k) w2
      have hone : ∀ s, s < G 0 0 → (s = o k ↔ oi s = k) := fun s hs => ⟨fun e => by rw [e, w3], fun e => by rw [← (hP.2 s hs).2, e]⟩
      rw [(dn ⟨k, by omega⟩).2]
      refine v_X7_advance_13 ?_
      simp (disch := omega) only [n0, n1, n2, n3, n4, n5, n6, n7, n8, n9, n49, n97, n98, n114, n102, n115, n119, n109, n112, i32_add, i32_mul, i32_N, i32_le, i32_lt, i32_eq, vpi_iff]
      refine ⟨fun z => by omega, fun _ => ⟨by omega, ?_⟩⟩
      rintro _ rfl
      rw [w1]
      simp (disch := omega) only [n0, n1, n2, n3, n4, n5, n6, n7, n8, n9, n49, n97, n98, n114, n102, n115, n119, n109, n112, i32_add, i32_mul, i32_N, i32_le, i32_lt, i32_eq, vpi_iff]
      rw [hpc2 (o k) w2, w3, if_neg (by omega)]
      refine ⟨by omega, by omega, ?_⟩
      rw [i32_add]
      rintro _ rfl
      have e1 : (cg_i τ 30 (o k) (i32 (p (o k) + 1))).1 21 (o k) = i32 (G 3 (o k)) := by rw [ri, if_neg (by decide)]; exact (hC2.2.1 (o k) (by omega)).2.2.1
      have e2 : (cg_i τ 30 (o k) (i32 (p (o k) + 1))).1 30 (o k) = i32 (p (o k) + 1) := by rw [ri, if_pos rfl, if_pos rfl]
      rw [e1, e2]
      simp (disch := omega) only [n0, n1, n2, n3, n4, n5, n6, n7, n8, n9, n49, n97, n98, n114, n102, n115, n119, n109, n112, i32_add, i32_mul, i32_N, i32_le, i32_lt, i32_eq, vpi_iff]
      refine ⟨by omega, by omega, fun z => ⟨by omega, ?_⟩, fun z => ?_⟩
      · rintro _ rfl
        refine ih (by omega) _ (hf.tr ((Fr.i (by decide)).tr (Fr.i (by decide)))) (fun s hs => ?_) (fun j h2 h3 => ?_)
        · rw [ri, if_pos rfl, ri, if_pos rfl]
          by_cases c : s = o k
          · rw [if_pos c, if_pos (by have := (hone s hs).mp c; omega)]
          · have : oi s ≠ k := fun e => c ((hone s hs).mpr e)
            rw [if_neg c, if_neg c, hpc2 s hs]
            by_cases c2 : k + 1 ≤ oi s
            · rw [if_pos c2, if_pos (by omega)]
            · rw [if_neg c2, if_neg (by omega)]
        · by_cases c : j = k
          · rw [c]; omega
          · exact hm j (by omega) h3
      · have hq : ∀ s, s < G 0 0 → advQ G oi p k s = if oi s < k then p s else if oi s = k then p s + 1 else 0 := fun s hs => by
          unfold advQ
          rw [if_neg (by omega)]
        refine h1 _ (advQ G oi p k) k (by omega) (hf.tr (Fr.i (by decide))) (fun s hs => ?_) (fun s hs => ?_) (fun s hs => ?_) (fun j hj => ?_) ?_ (fun j h2 h3 => ⟨?_, hm j (by omega) h3⟩)
        · rw [ri, if_pos rfl, hq s hs]
          by_cases c : s = o k
          · have := (hone s hs).mp c
            rw [if_pos c, if_neg (by omega), if_pos this, c]
          · have : oi s ≠ k := fun e => c ((hone s hs).mpr e)
            rw [if_neg c, hpc2 s hs]
            by_cases c2 : k + 1 ≤ oi s
            · rw [if_pos c2, if_neg (by omega), if_neg (by omega)]
            · rw [if_neg c2, if_pos (by omega)]
        · rw [hq s hs]
          split
          · exact hpk s hs
          · split
            · rename_i e
              have : s = o k := (hone s hs).mpr e
              rw [this]; omega
            · exact (hw.2 s hs).1
        · by_cases c : s < G 0 0
          · have hh : advQ G oi p k s < G 3 s := by
              rw [hq s c]
              split
              · exact hpk s c
              · split
                · rename_i e
                  have : s = o k := (hone s c).mpr e
                  rw [this]; omega
                · exact (hw.2 s c).1
            have := (hW.2.1 s hs).2.2.1
            omega
          · unfold advQ
            rw [if_pos (by omega)]
            exact Nat.zero_le 2
        · obtain ⟨a1, a2⟩ := hP.1 j (by omega)
          rw [hq (o j) a1, a2, if_pos hj]
        · rw [hq (o k) w2, w3, if_neg (by omega), if_pos rfl]
        · obtain ⟨a1, a2⟩ := hP.1 j h3
          rw [hq (o j) a1, a2, if_neg (by omega), if_neg (by omega)]
  refine v_X7_advance ?_
  rw [hO.1]
  rintro _ rfl
  obtain ⟨m, hm⟩ : ∃ m, G 0 0 = m + 1 := ⟨G 0 0 - 1, by omega⟩
  have h := key (G 0 0) (Nat.le_refl _) σ (Fr.rf σ) (fun s hs => by rw [if_neg (by have := (hP.2 s hs).1; omega)]; exact hpc s hs) (fun j h1 h2 => by omega)
  rw [hm] at h ⊢
  rw [(dn ⟨m, by omega⟩).2] at h
  rw [(dn ⟨m, by omega⟩).1]
  exact h
/-- the picks of 'b' against p's of 'a' -/
def sdA (G : Gm) (p q : Nat → Nat) : Prop := pkOk G q ∧ ∀ s, s < G 0 0 → gA G s → q s = p s
theorem sd_sdA {G : Gm} {p q : Nat → Nat} : sd G 98 p q ↔ sdA G p q := ⟨fun h => ⟨h.1, fun s hs hA => h.2 s hs (of98.mpr hA)⟩, fun h => ⟨h.1, fun s hs hD => h.2 s hs (of98.mp hD)⟩⟩
def dA (nA i : Nat) : Bool := decide (i < nA)
def dB (nA i : Nat) : Bool := decide (nA ≤ i)
abbrev swL (v : Nat) : List Nat := [4, 58, 60, 61, 62, 63, 64, 65, 66, 69, 77, v + 56, v + 64]
/-- what stands when a strategy comes up -/
def SWI (τ : cg_S) (G : Gm) (o : Nat → Nat) (nA aim v : Nat) (p : Nat → Nat) (fr fs : Nat) : Prop := fr ≤ 1 ∧ fs ≤ 1 ∧ (fr = 1 → cdo G o (dB nA) p = 0) ∧ (fr = 0 → ∃ y : Nat → Rat, (∀ s, s < G 0 0 → FV τ 13 s (y s)) ∧ (∀ s, s < G 0 0 → ∃ q x, sdA G p q ∧ gX G aim (mv q) x ∧ x s = y s) ∧ ∀ q x, sdA G p q → cdo G o (dB nA) q < cdo G o (dB nA) p → gX G aim (mv q) x → ∀ s, s < G 0 0 → y s ≤ x s) ∧ (fs = 1 → cdo G o (dA nA) p = 0) ∧ (fs = 0 → ∃ w : Nat → Rat, (∀ s, s < G 0 0 → FV τ v s (w s)) ∧ (∀ s, s < G 0 0 → ∃ q y, pkOk G q ∧ bst G 98 aim q y ∧ y s = w s) ∧ ∀ q y, pkOk G q → cdo G o (dA nA) q < cdo G o (dA nA) p → bst G 98 aim q y → ∀ s, s < G 0 0 → y s ≤ w s)
/-- what the sweep finds, and what stays -/
def SWAF : Prop := ∀ (a : cg_S) (G : Gm) (ch aim : Nat) (Q : cg_S → Prop), CG a G ch → GW G → whole G → okA aim → (∀ τ w, Fr [3, 4, 27, 30] (swL (14 + aimN aim)) [] a τ → mmb G aim w → (∀ s, s < G 0 0 → FV τ (14 + aimN aim) s (w s)) → Q τ) → M_X7_sweepAll (i32 aim) (14 + aimN aim) a Q
theorem swaF_all : SWAF := fun a G ch aim Q hC hW hw ha hQ => by
  have hn := hW.1
  have hn0 := hw.1
  have ha2 := okA_lt ha
  have h4 := aimN_lt aim
  have hv : 14 ≤ 14 + aimN aim ∧ 14 + aimN aim < 18 := by omega
  generalize hvv : 14 + aimN aim = v at hQ hv ⊢
  have hend := hQ
  refine v_X7_sweepAll (by omega) ?_
  refine up (n := G 0 0) (fun k τ => Fr [30] [] [] a τ ∧ ∀ s, s < k → τ.1 30 s = i32 0) (fun u τ => L_X7_sweepAll_2 (i32 aim) v u τ Q) ?_ ?_ 0 a (by omega) ⟨Fr.rf a, fun s hs => by omega⟩
  · rintro k τ hk ⟨hf, hP⟩ kk
    have hC2 := hC.fr hf (by decide)
    refine v_X7_sweepAll_2 (by omega) ?_
    rw [hC2.1.1]
    simp (disch := omega) only [n0, n1, n2, n3, n4, n5, n6, n7, n8, n9, n49, n97, n98, n114, n102, n115, n119, n109, n112, i32_add, i32_mul, i32_N, i32_le, i32_lt, i32_eq, vpi_iff]
    refine ⟨fun z => by omega, fun _ => ⟨by omega, ?_⟩⟩
    rintro _ rfl
    refine kk _ ⟨hf.tr (Fr.i (by decide)), fun s hs => ?_⟩
    rw [ri, if_pos rfl]
    by_cases e : s = k
    · rw [if_pos e]
    · rw [if_neg e]; exact hP s (by omega)
  · rintro τ0 ⟨hf0, hP0⟩
    have hC0 := hC.fr hf0 (by decide)
    refine v_X7_sweepAll_2 (by omega) ?_
    rw [hC0.1.1]
    refine ⟨fun _ => c_arrange hC0 hW (fun τ1 o oi nA f1 hO1 => ?_), fun z => absurd ((i32_le (by omega) (by omega)).mpr (Nat.le_refl _)) z⟩
    have hP := hO1.pm
    have hnA := hO1.2.2.1
    have hAi : ∀ i, i < G 0 0 → (gA G (o i) ↔ i < nA) := fun i hi => (hO1.2.2.2.1 i hi).2.2.2
    have hf1 : Fr [3, 4, 27, 30] (swL v) [] a τ1 := (hf0.mo (by simp) (by simp) (fun _ z => z)).tr (f1.mo (by simp) (by simp) (fun _ z => z))
    have all : ∀ (D : Nat → Bool) (p q : Nat → Nat), (∀ i, i < G 0 0 → D i = true → p (o i) = q (o i)) → (∀ i, i < G 0 0 → D i = false → p (o i) = q (o i)) → ∀ s, s < G 0 0 → p s = q s := fun D p q h1 h2 s hs => by
      obtain ⟨k1, k2⟩ := hP.2 s hs
      cases hD : D (oi s)
      · have := h2 _ k1 hD; rw [k2] at this; exact this
      · have := h1 _ k1 hD; rw [k2] at this; exact this
    have key : ∀ r turn, turn + r = 2187 → ∀ τ p fr fs i, i ≤ G 0 0 → Fr [3, 4, 27, 30] (swL v) [] a τ → ORD τ (G 0 0) nA (gA G) o oi → PK τ 30 (G 0 0) p → pkOk G p → (∀ s, s < 7 → p s ≤ 2) → RWS τ (G 0 0) o (hat (clP o G p aim)) i → cdo G o (fun _ => true) p = turn → SWI τ G o nA aim v p fr fs → L_X7_sweepAll_44 (i32 aim) v (i32 fr) (i32 fs) (i32 i) (i32 turn) τ Q := by
      intro r
      induction r with
      | zero =>
        intro turn ht τ p fr fs i _ _ _ _ hpk _ _ hcd _
        exfalso
        have h1 := cdo_lt (D := fun _ => true) hP hpk
        have h2 := rxo_le (D := fun _ => true) hW hP
        omega
      | succ r ih =>
        intro turn ht τ p fr fs i hi hf hO hpc hpk hp hR hcd ⟨s1, s2, s3, s4, s5, s6⟩
        refine v_X7_sweepAll_44 (by omega) ?_
        rw [show (2187 : Int32) = i32 2187 from rfl]
        simp (disch := omega) only [n0, n1, n2, n3, n4, n5, n6, n7, n8, n9, n49, n97, n98, n114, n102, n115, n119, n109, n112, i32_add, i32_mul, i32_N, i32_le, i32_lt, i32_eq, vpi_iff]
        refine ⟨fun z => by omega, fun _ => ⟨fun z => by omega, fun _ => ?_⟩⟩
        refine c_evalFrom (from' := i) (pk := 30) (hC.fr hf (by decide)) hW hw hpk hp ha (Or.inr (Or.inr rfl)) hpc hO hi hR (fun τ2 x g1 hR2 hX hAW => ?_)
        have hf2 : Fr [3, 4, 27, 30] (swL v) [] a τ2 := hf.tr (g1.mo (by simp) (by simp) (fun _ z => z))
        obtain ⟨y, hy1, hy2, hy3⟩ : ∃ y : Nat → Rat, (fr = 0 → ∀ s, s < G 0 0 → FV τ2 13 s (y s)) ∧ (fr = 0 → ∀ s, s < G 0 0 → ∃ q x, sdA G p q ∧ gX G aim (mv q) x ∧ x s = y s) ∧ (fr = 0 → ∀ q x, sdA G p q → cdo G o (dB nA) q < cdo G o (dB nA) p → gX G aim (mv q) x → ∀ s, s < G 0 0 → y s ≤ x s) := by
          by_cases c : fr = 0
          · obtain ⟨y, k1, k2, k3⟩ := s4 c
            exact ⟨y, fun _ s hs => (k1 s hs).fr g1 (by simp), fun _ => k2, fun _ => k3⟩
          · exact ⟨fun _ => 0, fun z => absurd z c, fun z => absurd z c, fun z => absurd z c⟩
        refine c_takeLeast (hC.fr hf2 (by decide)) hW s1 hAW hy1 (fun τ3 g2 hF13 => ?_)
        have hf3 : Fr [3, 4, 27, 30] (swL v) [] a τ3 := hf2.tr (g2.mo (by simp) (by simp) (fun _ z => z))
        -- the least over those up to this one
        have hat1 : ∀ s, s < G 0 0 → ∃ q x', sdA G p q ∧ gX G aim (mv q) x' ∧ x' s = (if fr = 0 then pb 98 (x s) (y s) else x s) := fun s hs => by
          by_cases c : fr = 0
          · rw [if_pos c]
            rcases pb_or 98 (x s) (y s) with e | e
            · exact ⟨p, x, ⟨hpk, fun _ _ _ => rfl⟩, hX, e.symm⟩
            · obtain ⟨q, x', k1, k2, k3⟩ := hy2 c s hs
              exact ⟨q, x', k1, k2, by rw [e, k3]⟩
          · rw [if_neg c]
            exact ⟨p, x, ⟨hpk, fun _ _ _ => rfl⟩, hX, rfl⟩
        have hlow : ∀ q x', sdA G p q → cdo G o (dB nA) q ≤ cdo G o (dB nA) p → gX G aim (mv q) x' → ∀ s, s < G 0 0 → (if fr = 0 then pb 98 (x s) (y s) else x s) ≤ x' s := fun q x' hq hcq hx' s hs => by
          by_cases c2 : cdo G o (dB nA) q = cdo G o (dB nA) p
          · have hB := cdo_inj hP hq.1 hpk c2
            have hqp : ∀ s, s < G 0 0 → q s = p s := all (dB nA) q p hB (fun j hj hD => hq.2 _ (hP.1 j hj).1 ((hAi j hj).mpr (by unfold dB at hD; have := of_decide_eq_false hD; omega)))
            have hxx := gX_uniq hW hw (mv_pk hpk) (gX_congr (fun s hs => by unfold mv; rw [hqp s hs]) hx') hX s hs
            rw [hxx]
            split
            · have := pb_1 98 (x s) (y s)
              unfold bt at this
              rw [if_pos rfl] at this
              exact Rat.not_lt.mp this
            · exact Rat.le_refl
          · by_cases c : fr = 0
            · rw [if_pos c]
              have h1 := hy3 c q x' hq (by omega) hx' s hs
              have := pb_2 (o := 98) (x := x s) (y := y s) (z := x' s) (by unfold bt; rw [if_pos rfl]; exact Rat.not_lt.mpr h1)
              unfold bt at this
              rw [if_pos rfl] at this
              exact Rat.not_lt.mp this
            · have := s3 (by omega)
              omega
        generalize hyy : (fun s => if fr = 0 then pb 98 (x s) (y s) else x s) = yy
        have hyy2 : ∀ s, (if fr = 0 then pb 98 (x s) (y s) else x s) = yy s := fun s => by rw [← hyy]
        simp only [hyy2] at hF13 hat1 hlow
        have hO3 : ORD τ3 (G 0 0) nA (gA G) o oi := (hO.fr g1 (by decide)).fr g2 (by decide)
        have hR3 : RWS τ3 (G 0 0) o (hat (clP o G p aim)) (G 0 0) := hR2.fr g2 (fun j hj => by have := (hP.1 j hj).1; simp; omega)
        have hpc3 : PK τ3 30 (G 0 0) p := fun s hs => by rw [g2.1 30 (by simp), g1.1 30 (by simp)]; exact hpc s hs
        -- the greatest, behind the last reply
        have block : ∀ τ4, Fr [30] [] [] τ3 τ4 → (∀ j, nA ≤ j → j < G 0 0 → p (o j) + 1 = G 3 (o j)) → ∀ Q2 : cg_S → Prop, (∀ (τ5 : cg_S) (w : Nat → Rat), Fr [] [v + 56, v + 64] [] τ4 τ5 → (∀ s, s < G 0 0 → FV τ5 v s (w s)) → (∀ s, s < G 0 0 → ∃ q y, pkOk G q ∧ bst G 98 aim q y ∧ y s = w s) → (∀ q y, pkOk G q → cdo G o (dA nA) q ≤ cdo G o (dA nA) p → bst G 98 aim q y → ∀ s, s < G 0 0 → y s ≤ w s) → Q2 τ5) → M_X7_takeGreatest v (i32 fs) τ4 Q2 := fun τ4 g3 hmax Q2 hQ2 => by
          have hf4 : Fr [3, 4, 27, 30] (swL v) [] a τ4 := hf3.tr (g3.mo (by simp) (by simp) (fun _ z => z))
          have hbst : bst G 98 aim p yy := by
            have hmx : cdo G o (dB nA) p + 1 = rxo G o (dB nA) := cdo_max (fun j hj hD => hmax j (by unfold dB at hD; exact of_decide_eq_true hD) hj)
            refine ⟨fun q x' hq hx' s hs => ?_, fun s hs => ?_⟩
            · have h1 := cdo_lt (D := dB nA) hP hq.1
              have h2 := hlow q x' (sd_sdA.mp hq) (by omega) hx' s hs
              unfold bt
              rw [if_pos rfl]
              exact Rat.not_lt.mpr h2
            · obtain ⟨q, x', k1, k2, k3⟩ := hat1 s hs
              exact ⟨q, x', sd_sdA.mpr k1, k2, k3⟩
          obtain ⟨w, hw1, hw2, hw3⟩ : ∃ w : Nat → Rat, (fs = 0 → ∀ s, s < G 0 0 → FV τ4 v s (w s)) ∧ (fs = 0 → ∀ s, s < G 0 0 → ∃ q y, pkOk G q ∧ bst G 98 aim q y ∧ y s = w s) ∧ (fs = 0 → ∀ q y, pkOk G q → cdo G o (dA nA) q < cdo G o (dA nA) p → bst G 98 aim q y → ∀ s, s < G 0 0 → y s ≤ w s) := by
            by_cases c : fs = 0
            · obtain ⟨w, k1, k2, k3⟩ := s6 c
              exact ⟨w, fun _ s hs => (((k1 s hs).fr g1 (by simp; omega)).fr g2 (by simp; omega)).fr g3 (by simp), fun _ => k2, fun _ => k3⟩
            · exact ⟨fun _ => 0, fun z => absurd z c, fun z => absurd z c, fun z => absurd z c⟩
          refine c_takeGreatest hv (hC.fr hf4 (by decide)) hW s2 (fun s hs => (hF13 s hs).fr g3 (by simp)) hw1 (fun τ5 g4 hFv => hQ2 τ5 (fun s => if fs = 0 then pb 97 (yy s) (w s) else yy s) g4 hFv (fun s hs => ?_) (fun q y' hq hcq hb s hs => ?_))
          · by_cases c : fs = 0
            · rw [if_pos c]
              rcases pb_or 97 (yy s) (w s) with e | e
              · exact ⟨p, yy, hpk, hbst, e.symm⟩
              · obtain ⟨q, y', k1, k2, k3⟩ := hw2 c s hs
                exact ⟨q, y', k1, k2, by rw [e, k3]⟩
            · rw [if_neg c]
              exact ⟨p, yy, hpk, hbst, rfl⟩
          · by_cases c2 : cdo G o (dA nA) q = cdo G o (dA nA) p
            · have hAq := cdo_inj hP hq hpk c2
              have hb2 : bst G 98 aim p y' := bst_congr (fun s hs hD => by
                obtain ⟨k1, k2⟩ := hP.2 s hs
                have hAs : gA G s := by
                  cases e : ofG G 98 s
                  · exact of98.mp e
                  · have := of_97.mp hD; rw [e] at this; exact absurd this (by decide)
                have := hAq (oi s) k1 (decide_eq_true ((hAi (oi s) k1).mp (by rw [k2]; exact hAs)))
                rw [k2] at this
                exact this) hb
              rw [bst_uniq hb2 hbst s hs]
              split
              · have := pb_1 97 (yy s) (w s)
                unfold bt at this
                rw [if_neg (by decide)] at this
                exact Rat.not_lt.mp this
              · exact Rat.le_refl
            · by_cases c : fs = 0
              · rw [if_pos c]
                have h1 := hw3 c q y' hq (by omega) hb s hs
                have := pb_2 (o := 97) (x := yy s) (y := w s) (z := y' s) (by unfold bt; rw [if_neg (by decide)]; exact Rat.not_lt.mpr h1)
                unfold bt at this
                rw [if_neg (by decide)] at this
                exact Rat.not_lt.mp this
              · have := s5 (by omega)
                omega
        refine c_advance (hC.fr hf3 (by decide)) hW hw hO3 hpk hpc3 (fun τ4 q j hj g3 hpc4 hq hq2 e1 e2 e3 => ?_) (fun τ4 g3 hmax => ?_)
        · have hf4 : Fr [3, 4, 27, 30] (swL v) [] a τ4 := hf3.tr (g3.mo (by simp) (by simp) (fun _ z => z))
          have hO4 := hO3.fr g3 (by decide)
          have hR4 : RWS τ4 (G 0 0) o (hat (clP o G q aim)) j := RWS_congr (fun i' hi' t => clP_row (e1 i' hi').symm t) ((hR3.le (by omega)).fr g3 (by simp))
          have hcdq : cdo G o (fun _ => true) q = turn + 1 := by rw [cdo_step (D := fun _ => true) hj rfl e1 e2 e3, hcd]
          rw [hO4.2.1]
          simp (disch := omega) only [n0, n1, n2, n3, n4, n5, n6, n7, n8, n9, n49, n97, n98, n114, n102, n115, n119, n109, n112, i32_add, i32_mul, i32_N, i32_le, i32_lt, i32_eq, vpi_iff]
          refine ⟨fun z => ?_, fun z => ?_⟩
          · -- the same moves of 'a'
            refine v_X7_sweepAll_99 (by omega) ⟨fun _ => ?_, fun y1 => absurd rfl y1⟩
            have hsame : ∀ s, s < G 0 0 → gA G s → q s = p s := fun s hs hA => by
              obtain ⟨k1, k2⟩ := hP.2 s hs
              have := (hAi (oi s) k1).mp (by rw [k2]; exact hA)
              have h9 := e1 (oi s) (by omega)
              rw [k2] at h9
              exact h9
            have hsd : ∀ r, sdA G q r ↔ sdA G p r := fun r => ⟨fun h => ⟨h.1, fun s hs hA => by rw [h.2 s hs hA, hsame s hs hA]⟩, fun h => ⟨h.1, fun s hs hA => by rw [h.2 s hs hA, hsame s hs hA]⟩⟩
            have hcB : cdo G o (dB nA) q = cdo G o (dB nA) p + 1 := cdo_step hj (decide_eq_true z) e1 e2 e3
            have hcA : cdo G o (dA nA) q = cdo G o (dA nA) p := cdo_congr (fun i' hi' hD => e1 i' (by have := of_decide_eq_true hD; omega))
            rw [i32_s]
            refine ih (turn + 1) (by omega) τ4 q 0 fs j (by omega) hf4 hO4 hpc4 hq hq2 hR4 hcdq ⟨by omega, s2, fun y1 => by omega, fun _ => ⟨yy, fun s hs => (hF13 s hs).fr g3 (by simp), fun s hs => ?_, fun r x' hr hc hx' => hlow r x' ((hsd r).mp hr) (by omega) hx'⟩, fun y1 => by rw [hcA]; exact s5 y1, fun y1 => ?_⟩
            · obtain ⟨r, x', k1, k2, k3⟩ := hat1 s hs
              exact ⟨r, x', (hsd r).mpr k1, k2, k3⟩
            · obtain ⟨w, k1, k2, k3⟩ := s6 y1
              exact ⟨w, fun s hs => (((k1 s hs).fr g1 (by simp; omega)).fr g2 (by simp; omega)).fr g3 (by simp), k2, fun r y' hr hc => k3 r y' hr (by rw [← hcA]; exact hc)⟩
          · -- other moves of 'a'
            have hcA : cdo G o (dA nA) q = cdo G o (dA nA) p + 1 := cdo_step hj (decide_eq_true (by omega)) e1 e2 e3
            have hcB : cdo G o (dB nA) q = 0 := cdo_zero (fun i' hi' hD => (e3 i' (by have := of_decide_eq_true hD; omega) hi').1)
            refine v_X7_sweepAll_99 (by omega) ⟨fun y1 => absurd y1 (by decide), fun _ => block τ4 g3 (fun j' h1 h2 => (e3 j' (by omega) h2).2) _ (fun τ5 w g4 k1 k2 k3 => ?_)⟩
            rw [i32_s]
            refine ih (turn + 1) (by omega) τ5 q 1 0 j (by omega) (hf4.tr (g4.mo (by simp) (by simp) (fun _ z => z))) (hO4.fr g4 (by decide)) (fun s hs => by rw [g4.1 30 (by simp)]; exact hpc4 s hs) hq hq2 (hR4.fr g4 (fun j' hj' => by have := (hP.1 j' (by omega)).1; simp; omega)) hcdq ⟨by omega, by omega, fun _ => hcB, fun y1 => by omega, fun y1 => by omega, fun _ => ⟨w, k1, k2, fun r y' hr hc => k3 r y' hr (by omega)⟩⟩
        · rw [(hO3.fr g3 (by decide)).2.1]
          have hlt : ¬ i32 nA ≤ -1 := by
            rw [Int32.le_iff_toInt_le, i32_toInt (by omega)]
            have : (-1 : Int32).toInt = -1 := rfl
            omega
          refine ⟨fun z => absurd z hlt, fun _ => ?_⟩
          refine v_X7_sweepAll_99 (by omega) ⟨fun y1 => absurd y1 (by decide), fun _ => block τ4 g3 (fun j' _ h2 => hmax j' h2) _ (fun τ5 w g4 k1 k2 k3 => ?_)⟩
          have hmx : cdo G o (dA nA) p + 1 = rxo G o (dA nA) := cdo_max (fun j' hj' _ => hmax j' hj')
          refine v_X7_sweepAll_44 (by omega) ⟨fun _ => ?_, fun y1 => absurd (by decide) y1⟩
          refine hend τ5 w ((hf3.tr (g3.mo (by simp) (by simp) (fun _ z => z))).tr (g4.mo (by simp) (by simp) (fun _ z => z))) ⟨fun q y' hq hb => k3 q y' hq (by have := cdo_lt (D := dA nA) hP hq; omega) hb, k2⟩ k1
    have hz : pkOk G (fun _ => 0) := fun s hs => (hw.2 s hs).1
    refine key 2187 0 (by omega) τ1 (fun _ => 0) 1 1 0 (Nat.zero_le _) hf1 hO1 (fun s hs => by rw [f1.1 30 (by simp)]; exact hP0 s hs) hz (fun _ _ => Nat.zero_le 2) (fun i hi => by omega) (cdo_zero (fun _ _ _ => rfl)) ⟨by omega, by omega, fun _ => cdo_zero (fun _ _ _ => rfl), fun z => by omega, fun _ => cdo_zero (fun _ _ _ => rfl), fun z => by omega⟩
theorem swa_all : SWA := fun a G ch aim Q hC hW hw ha hQ => swaF_all a G ch aim Q hC hW hw ha (fun τ w hf hm hF => by
  have h4 := aimN_lt aim
  exact hQ τ w (hC.fr hf (by decide)) (hf.1 31 (by decide)) (fun k h1 h2 h3 => ⟨hf.2.1 _ (by simp; omega), hf.2.1 _ (by simp; omega)⟩) hm hF)
theorem c_valuesF {a : cg_S} {G : Gm} {ch aim : Nat} {Q : Nat → cg_S → Prop} (hC : CG a G ch) (hK : CK a G ch) (hW : GW G) (hw : whole G) (ha : okA aim) (h : ∀ τ w, Fr [3, 4, 27, 30, 31] (swL (14 + aimN aim)) [] a τ → CK τ G ch → mmb G aim w → (∀ s, s < G 0 0 → FV τ (14 + aimN aim) s (w s)) → Q (14 + aimN aim) τ) : M_X7_valuesFor (i32 aim) a Q := by
  have h4 := aimN_lt aim
  have key : L_X7_valuesFor_31 (i32 aim) (i32 (aimN aim)) a Q := by
    refine v_X7_valuesFor_31 ⟨vpi h4 (by omega), ?_⟩
    rw [i32_N (by omega)]
    rintro _ rfl
    refine ⟨vpi h4 (by omega), fun z => ?_, fun z => ?_⟩
    · rw [hC.1.2.2.2.2.2.2] at z
      obtain ⟨w, h1, h2⟩ := (hK aim ha).2 z
      exact h a w (Fr.rf a) hK h1 h2
    · refine swaF_all a G ch aim _ hC hW hw ha (fun τ w hf h5 h6 => ⟨vpi h4 (by omega), ?_⟩)
      have h1 := hC.fr hf (by decide)
      rw [h1.1.2.2.2.2.2.2]
      rintro _ rfl
      have fr : Fr [31] [] [] τ (cg_i τ 31 (aimN aim) (i32 ch)) := Fr.i (by decide)
      have e31 : ∀ i, (cg_i τ 31 (aimN aim) (i32 ch)).1 31 i = if i = aimN aim then i32 ch else a.1 31 i := fun i => by
        rw [ri, if_pos rfl, hf.1 31 (by decide)]
      refine h _ w ((hf.mo (by simp) (fun _ z => z) (fun _ z => z)).tr (Fr.i (by simp))) (fun aim' ha' => ?_) h5 (fun s hs => h6 s hs)
      rw [e31]
      by_cases c : aimN aim' = aimN aim
      · have := aimN_inj ha' ha c
        subst this
        rw [if_pos rfl]
        exact ⟨Or.inr ⟨ch, Nat.le_refl _, rfl⟩, fun _ => ⟨w, h5, fun s hs => h6 s hs⟩⟩
      · rw [if_neg c]
        have k1 := hK aim' ha'
        refine ⟨k1.1, fun z2 => ?_⟩
        obtain ⟨w', y1, y2⟩ := k1.2 z2
        have h4' := aimN_lt aim'
        exact ⟨w', y1, fun s hs => (show FV τ (14 + aimN aim') s (w' s) from (y2 s hs).fr hf ⟨by simp; omega, by simp; omega⟩)⟩
  refine v_X7_valuesFor ?_
  rcases ha with rfl | rfl | rfl | rfl
  · exact ⟨fun z => absurd rfl z, fun _ => key⟩
  · exact ⟨fun _ => ⟨fun z => absurd rfl z, fun _ => key⟩, fun z => absurd z (by decide)⟩
  · exact ⟨fun _ => ⟨fun _ => ⟨fun z => absurd rfl z, fun _ => key⟩, fun z => absurd z (by decide)⟩, fun z => absurd z (by decide)⟩
  · exact ⟨fun _ => ⟨fun _ => ⟨fun _ => key, fun z => absurd z (by decide)⟩, fun z => absurd z (by decide)⟩, fun z => absurd z (by decide)⟩
end SW
