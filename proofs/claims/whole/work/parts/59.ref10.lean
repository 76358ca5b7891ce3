/-! THE REFERENCE: answers -/
def bt (o : Nat) (x y : Rat) : Prop := if o = 98 then x < y else y < x
def pb (o : Nat) (x y : Rat) : Rat := if o = 98 then (if x < y then x else y) else (if y < x then x else y)
theorem pb_or (o : Nat) (x y : Rat) : pb o x y = x ∨ pb o x y = y := by
  unfold pb
  repeat' split
  all_goals first | exact Or.inl rfl | exact Or.inr rfl
theorem pb_bt {o : Nat} {x y : Rat} (h : bt o x y) : pb o x y = x := by
  unfold bt at h; unfold pb
  split at h
  · rw [if_pos (by assumption), if_pos h]
  · rw [if_neg (by assumption), if_pos h]
theorem pb_nbt {o : Nat} {x y : Rat} (h : ¬ bt o x y) : pb o x y = y := by
  unfold bt at h; unfold pb
  split at h
  · rw [if_pos (by assumption), if_neg h]
  · rw [if_neg (by assumption), if_neg h]
theorem pb_1 (o : Nat) (x y : Rat) : ¬ bt o x (pb o x y) := by
  unfold bt pb
  repeat' split
  all_goals grind
theorem pb_2 {o : Nat} {x y z : Rat} (h : ¬ bt o z y) : ¬ bt o z (pb o x y) := by
  unfold bt at h
  unfold bt pb
  repeat' split
  all_goals grind
theorem sg_bt {o : Nat} {x y : Rat} {sg : Int32} (h : sg = if o = 98 then -1 else 1) : (0 < sg * (if x = y then 0 else if y < x then 1 else -1)) ↔ bt o x y := by
  rw [h]
  unfold bt
  split
  · split
    · constructor
      · intro z; exact absurd z (by decide)
      · intro z; grind
    · split
      · constructor
        · intro z; exact absurd z (by decide)
        · intro z; grind
      · constructor
        · intro z; grind
        · intro z; decide
  · split
    · constructor
      · intro z; exact absurd z (by decide)
      · intro z; grind
    · split
      · constructor
        · intro z; assumption
        · intro z; decide
      · constructor
        · intro z; exact absurd z (by decide)
        · intro z; grind
/-- one of the best at hand -/
def VB1 (τ : cg_S) (s : Nat) (y : Rat) : Prop := zfit y.num ∧ zfit (y.den : Nat) ∧ τ.2.1 24 s = i64 y.num ∧ τ.2.1 25 s = i64 (y.den : Nat)
theorem VB1.fr {σ τ : cg_S} {s : Nat} {y : Rat} {I L D : List Nat} (h : VB1 σ s y) (hf : Fr I L D σ τ) (h0 : 24 ∉ L ∧ 25 ∉ L) : VB1 τ s y := by
  unfold VB1
  rw [hf.2.1 24 h0.1, hf.2.1 25 h0.2]
  exact h
/-- the picks of a side, the other side's kept -/
def sd (G : Gm) (o : Nat) (p q : Nat → Nat) : Prop := pkOk G q ∧ ∀ s, s < G 0 0 → ofG G o s = false → q s = p s
/-- the best that a side gets -/
def bst (G : Gm) (o aim : Nat) (p : Nat → Nat) (y : Nat → Rat) : Prop := (∀ q x, sd G o p q → XS G aim q x → ∀ s, s < G 0 0 → ¬ bt o (x s) (y s)) ∧ ∀ s, s < G 0 0 → ∃ q x, sd G o p q ∧ XS G aim q x ∧ x s = y s
theorem m_ans36 {o aim f : Nat} {sg : Int32} {n : Nat} {x y : Nat → Rat} {σ : cg_S} {Q : cg_S → Prop} (hn : n ≤ 7) (hf : f ≤ 1) (hsg : sg = if o = 98 then -1 else 1) (h1 : σ.1 0 1 = i32 n) (hx : VX σ n x) (hx0 : ∀ s, s < n → 0 ≤ x s) (hy : f = 0 → ∀ s, s < n → VB1 σ s (y s) ∧ 0 ≤ y s) (h : ∀ τ, Fr [] [24, 25] [] σ τ → (∀ s, s < n → VB1 τ s (if f = 0 then pb o (x s) (y s) else x s)) → M_X12_goesOn (i32 o) τ (fun r1 s2 => L_X12_answers_23 (i32 o) (i32 aim) sg 0 r1 s2 Q)) : L_X12_answers_36 (i32 o) (i32 aim) sg (i32 f) 0 σ Q := by
  refine up (n := n) (fun k τ => Fr [] [24, 25] [] σ τ ∧ (∀ s, s < k → VB1 τ s (if f = 0 then pb o (x s) (y s) else x s)) ∧ (f = 0 → ∀ s, k ≤ s → s < n → VB1 τ s (y s))) (fun w τ => L_X12_answers_36 (i32 o) (i32 aim) sg (i32 f) w τ Q) ?_ ?_ 0 σ (by omega) ⟨Fr.rf σ, fun s hs => by omega, fun z s _ hs => (hy z s hs).1⟩
  · intro k τ hk hP kk
    obtain ⟨hP1, hP2, hP3⟩ := hP
    obtain ⟨x1, x2, x3, x4⟩ := (hx.fr hP1 (by decide)) k hk
    -- it is stored
    have st : (if f = 0 then pb o (x k) (y k) else x k) = x k → L_X12_answers_89 (i32 o) (i32 aim) sg (i32 f) (i32 k) τ Q := by
      intro he
      refine v_X12_answers_89 ?_
      simp (disch := omega) only [n0, n1, n2, n3, n4, n5, n6, n7, n8, n9, n49, n97, n98, n114, n102, n115, n119, n109, n112, i32_add, i32_mul, i32_N, i32_le, i32_lt, i32_eq, vpi_iff]
      refine ⟨by omega, by omega, ?_⟩
      rintro _ rfl
      refine ⟨by omega, by omega, ?_⟩
      rintro _ rfl
      refine kk _ ⟨hP1.tr ((Fr.l (by decide)).tr (Fr.l (by decide))), fun s hs => ?_, fun z s h1 h2 => ?_⟩
      · by_cases c : s = k
        · subst c
          rw [he]
          refine ⟨x1, x2, ?_, ?_⟩
          · rw [rl, if_neg (by decide), rl, if_pos rfl, if_pos rfl, x3]
          · rw [rl, if_pos rfl, if_pos rfl, rl, if_neg (by decide), x4]
        · obtain ⟨y1, y2, y3, y4⟩ := hP2 s (by omega)
          refine ⟨y1, y2, ?_, ?_⟩
          · rw [rl, if_neg (by decide), rl, if_pos rfl, if_neg c, y3]
          · rw [rl, if_pos rfl, if_neg c, rl, if_neg (by decide), y4]
      · have c : s ≠ k := by omega
        obtain ⟨y1, y2, y3, y4⟩ := hP3 z s (by omega) h2
        refine ⟨y1, y2, ?_, ?_⟩
        · rw [rl, if_neg (by decide), rl, if_pos rfl, if_neg c, y3]
        · rw [rl, if_pos rfl, if_neg c, rl, if_neg (by decide), y4]
    refine v_X12_answers_36 ?_
    rw [hP1.1 0 (by decide), h1]
    simp (disch := omega) only [n0, n1, n2, n3, n4, n5, n6, n7, n8, n9, n49, n97, n98, n114, n102, n115, n119, n109, n112, i32_add, i32_mul, i32_N, i32_le, i32_lt, i32_eq, vpi_iff]
    refine ⟨fun z => by omega, fun _ => ⟨fun z => st (if_neg z), fun z => ⟨by omega, by omega, by omega, by omega, ?_⟩⟩⟩
    have hy1 := hP3 z k (Nat.le_refl k) hk
    rw [x3, x4, hy1.2.2.1, hy1.2.2.2]
    refine m_compare (hx0 k hk) (hy z k hk).2 x1 x2 hy1.1 hy1.2.1 ?_
    have e0 : i32 0 = 0 := rfl
    rw [e0, sg_bt hsg]
    refine ⟨fun z2 => st (by rw [if_pos z, pb_bt z2]), fun z2 => ?_⟩
    refine kk _ ⟨hP1, fun s hs => ?_, fun _ s h1 h2 => hP3 z s (by omega) h2⟩
    by_cases c : s = k
    · subst c
      rw [if_pos z, pb_nbt z2]
      exact hy1
    · exact hP2 s (by omega)
  · intro τ hP
    refine v_X12_answers_36 ?_
    rw [hP.1.1 0 (by decide), h1]
    refine ⟨fun _ => h τ hP.1 hP.2.1, fun z => absurd ((i32_le (by omega) (by omega)).mpr (Nat.le_refl _)) z⟩
theorem m_ans23 {o aim : Nat} {sg : Int32} {p0 : Nat → Nat} {G : Gm} {σ : cg_S} {Q : cg_S → Prop} (hW : GW G) (hw : whole G) (ho : o = 97 ∨ o = 98) (hsg : sg = if o = 98 then -1 else 1) (ha : aim = 114 ∨ aim = 102 ∨ aim = 115 ∨ aim = 119) (hG : MG σ G) (h : ∀ τ y, Fr [5, 16, 20] [0, 21, 22, 23, 24, 25] [] σ τ → (∀ j, j ≠ 39 → j ≠ 40 → j ≠ 41 → τ.2.1 0 j = σ.2.1 0 j) → MP τ (pz (ofG G o) (G 0 0) p0) → (∀ s, s < G 0 0 → VB1 τ s (y s)) → bst G o aim p0 y → Q τ) : ∀ (r k f : Nat) (τ : cg_S) (p : Nat → Nat) (y : Nat → Rat), r + k = rx (ofG G o) (G 3) (G 0 0) → cd (ofG G o) (G 3) p (G 0 0) = k → f ≤ 1 → (f = 1 → k = 0) → Fr [5, 16, 20] [0, 21, 22, 23, 24, 25] [] σ τ → (∀ j, j ≠ 39 → j ≠ 40 → j ≠ 41 → τ.2.1 0 j = σ.2.1 0 j) → MP τ p → pkOk G p → (∀ s, ¬ (s < G 0 0 ∧ ofG G o s = true) → p s = p0 s) → (f = 0 → ∀ s, s < G 0 0 → VB1 τ s (y s) ∧ ∃ q x, sd G o p0 q ∧ XS G aim q x ∧ x s = y s) → (f = 0 → ∀ q x, sd G o p0 q → cd (ofG G o) (G 3) q (G 0 0) < k → XS G aim q x → ∀ s, s < G 0 0 → ¬ bt o (x s) (y s)) → L_X12_answers_23 (i32 o) (i32 aim) sg (i32 f) 1 τ Q := by
  have hn := hW.1
  intro r
  induction r with
  | zero =>
    intro k f τ p y hr hk _ _ _ _ _ hpk _ _ _
    exfalso
    have := cd_lt (D := ofG G o) (c := G 3) (p := p) (G 0 0) (fun s hs _ => hpk s hs)
    omega
  | succ r ih =>
    intro k f τ p y hr hk hf hf1 hfr h0 hp hpk hag hy hb
    have hG2 := hG.fr hfr (by decide)
    have hsd : sd G o p0 p := ⟨hpk, fun s hs hD => hag s (fun z => by rw [hD] at z; exact absurd z.2 (by decide))⟩
    refine v_X12_answers_23 ⟨fun z => absurd z (by decide), fun _ => ?_⟩
    refine m_gets hW hw hpk ha hp hG2 (fun τ1 x f1 f2 hX hV => ?_)
    have hx0 := gX_nonneg hW hw (mv_pk hpk) (XS_gX.mp hX)
    refine m_ans36 hn hf hsg (hG2.fr f1 (by decide)).1.1 hV hx0 (fun z s hs => ⟨(hy z s hs).1.fr f1 (by decide), ?_⟩) (fun τ2 g1 g2 => ?_)
    · obtain ⟨-, q, x', hq, hX', e⟩ := hy z s hs
      rw [← e]
      exact gX_nonneg hW hw (mv_pk hq.1) (XS_gX.mp hX') s hs
    · have hfr2 : Fr [5, 16, 20] [0, 21, 22, 23, 24, 25] [] σ τ2 := hfr.tr ((f1.mo (by simp) (by simp) (by simp)).tr (g1.mo (by simp) (by simp) (by simp)))
      have h02 : ∀ j, j ≠ 39 → j ≠ 40 → j ≠ 41 → τ2.2.1 0 j = σ.2.1 0 j := fun j a b c => by rw [g1.2.1 0 (by decide), f2 j a b c, h0 j a b c]
      have hp2 : MP τ2 p := (hp.fr f1 (by decide)).fr g1 (by decide)
      have hG3 := hG.fr hfr2 (by decide)
      have hex : ∀ s, s < G 0 0 → ∃ q x', sd G o p0 q ∧ XS G aim q x' ∧ x' s = (if f = 0 then pb o (x s) (y s) else x s) := fun s hs => by
        by_cases c : f = 0
        · rw [if_pos c]
          rcases pb_or o (x s) (y s) with e | e
          · exact ⟨p, x, hsd, hX, e.symm⟩
          · obtain ⟨-, q, x', hq, hX', e'⟩ := hy c s hs
            exact ⟨q, x', hq, hX', by rw [e, e']⟩
        · rw [if_neg c]
          exact ⟨p, x, hsd, hX, rfl⟩
      have hbb : ∀ q x', sd G o p0 q → cd (ofG G o) (G 3) q (G 0 0) < k + 1 → XS G aim q x' → ∀ s, s < G 0 0 → ¬ bt o (x' s) (if f = 0 then pb o (x s) (y s) else x s) := fun q x' hq hc hX' s hs => by
        by_cases e : cd (ofG G o) (G 3) q (G 0 0) = k
        · have hqp := cd_inj (D := ofG G o) (c := G 3) (p := q) (q := p) (G 0 0) (fun s hs _ => hq.1 s hs) (fun s hs _ => hpk s hs) (by omega)
          have hqp2 : ∀ s, s < G 0 0 → mv q s = mv p s := fun s hs => by
            unfold mv
            cases hD : ofG G o s
            · rw [hq.2 s hs hD, hsd.2 s hs hD]
            · rw [hqp s hs hD]
          have hxx := gX_uniq hW hw (mv_pk hpk) (gX_congr hqp2 (XS_gX.mp hX')) (XS_gX.mp hX) s hs
          rw [hxx]
          by_cases c : f = 0
          · rw [if_pos c]; exact pb_1 o _ _
          · rw [if_neg c]; unfold bt; split <;> exact Rat.lt_irrefl
        · by_cases c : f = 0
          · rw [if_pos c]
            exact pb_2 (hb c q x' hq (by omega) hX' s hs)
          · have := hf1 (by omega)
            omega
      refine m_goesOn hW (by omega) hp2 hpk hG3 (fun τ3 p' k1 k2 k3 k4 k5 => ?_) (fun τ3 k1 k2 k3 => ?_)
      · refine ih (k + 1) 0 τ3 p' (fun s => if f = 0 then pb o (x s) (y s) else x s) (by omega) (by omega) (by omega) (fun z => by omega) (hfr2.tr (k1.mo (by simp) (by simp) (by simp))) (fun j a b c => by rw [k1.2.1 0 (by decide), h02 j a b c]) k2 k3 (fun s hs => by rw [k4 s hs, hag s hs]) (fun _ s hs => ⟨(g2 s hs).fr k1 (by decide), hex s hs⟩) (fun _ => hbb)
      · refine v_X12_answers_23 ⟨fun _ => ?_, fun z => absurd rfl z⟩
        refine h τ3 (fun s => if f = 0 then pb o (x s) (y s) else x s) (hfr2.tr (k1.mo (by simp) (by simp) (by simp))) (fun j a b c => by rw [k1.2.1 0 (by decide), h02 j a b c]) ?_ (fun s hs => (g2 s hs).fr k1 (by decide)) ⟨fun q x' hq hX' => hbb q x' hq ?_ hX', hex⟩
        · have e : pz (ofG G o) (G 0 0) p = pz (ofG G o) (G 0 0) p0 := by
            funext s
            by_cases c : s < G 0 0 ∧ ofG G o s = true
            · rw [pz_yes c.1 c.2, pz_yes c.1 c.2]
            · rw [pz_no c, pz_no c, hag s c]
          rw [← e]; exact k2
        · have := cd_lt (D := ofG G o) (c := G 3) (p := q) (G 0 0) (fun s hs _ => hq.1 s hs)
          omega
theorem m_answers {o aim : Nat} {p : Nat → Nat} {G : Gm} {σ : cg_S} {Q : cg_S → Prop} (hW : GW G) (hw : whole G) (ho : o = 97 ∨ o = 98) (ha : aim = 114 ∨ aim = 102 ∨ aim = 115 ∨ aim = 119) (hp : MP σ p) (hpk : ∀ s, s < G 0 0 → ofG G o s = false → p s < G 3 s) (hG : MG σ G) (h : ∀ τ y, Fr [5, 16, 20] [0, 21, 22, 23, 24, 25] [] σ τ → (∀ j, j ≠ 39 → j ≠ 40 → j ≠ 41 → τ.2.1 0 j = σ.2.1 0 j) → MP τ (pz (ofG G o) (G 0 0) p) → (∀ s, s < G 0 0 → VB1 τ s (y s)) → bst G o aim p y → Q τ) : M_X12_answers (i32 o) (i32 aim) σ Q := by
  have hn := hW.1
  have key : ∀ sg : Int32, (sg = if o = 98 then -1 else 1) → L_X12_answers_11 (i32 o) (i32 aim) sg σ Q := by
    intro sg hsg
    refine v_X12_answers_11 (m_begins hW (by omega) hp hG (fun τ f1 hp1 => ?_))
    have hpk1 : pkOk G (pz (ofG G o) (G 0 0) p) := fun s hs => by
      cases hD : ofG G o s
      · rw [pz_no (fun z => by rw [hD] at z; exact absurd z.2 (by decide))]; exact hpk s hs hD
      · rw [pz_yes hs hD]; exact (hw.2 s hs).1
    have hz : cd (ofG G o) (G 3) (pz (ofG G o) (G 0 0) p) (G 0 0) = 0 := cd_zero _ (fun s hs hD => pz_yes hs hD)
    have hpp : pz (ofG G o) (G 0 0) (pz (ofG G o) (G 0 0) p) = pz (ofG G o) (G 0 0) p := by
      funext s
      by_cases c : s < G 0 0 ∧ ofG G o s = true
      · rw [pz_yes c.1 c.2, pz_yes c.1 c.2]
      · rw [pz_no c]
    refine m_ans23 (p0 := pz (ofG G o) (G 0 0) p) hW hw ho hsg ha (hG.fr f1 (by decide)) (fun τ2 y g1 g2 g3 g4 g5 => ?_) (rx (ofG G o) (G 3) (G 0 0)) 0 1 τ _ (fun _ => 0) rfl hz (by omega) (fun _ => rfl) (Fr.rf τ) (fun _ _ _ _ => rfl) hp1 hpk1 (fun _ _ => rfl) (fun z => by omega) (fun z => by omega)
    refine h τ2 y ((f1.mo (by simp) (by simp) (by simp)).tr g1) (fun j a b c => by rw [g2 j a b c, f1.2.1 0 (by decide)]) (by rw [hpp] at g3; exact g3) g4 ?_
    have hs : ∀ q, sd G o p q ↔ sd G o (pz (ofG G o) (G 0 0) p) q := fun q => by
      constructor
      · exact fun z => ⟨z.1, fun s hs hD => by rw [z.2 s hs hD, pz_no (fun y => by rw [hD] at y; exact absurd y.2 (by decide))]⟩
      · exact fun z => ⟨z.1, fun s hs hD => by rw [z.2 s hs hD, pz_no (fun y => by rw [hD] at y; exact absurd y.2 (by decide))]⟩
    unfold bst
    simp only [hs]
    exact g5
  refine v_X12_answers ?_
  rw [show (98 : Int32) = i32 98 from rfl, i32_eq (by omega) (by omega)]
  exact ⟨fun z => key 1 (by rw [if_neg z]), fun z => key (-1) (by rw [if_pos z])⟩
