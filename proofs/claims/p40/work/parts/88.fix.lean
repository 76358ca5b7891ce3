/-! THE CLASS'S GRAPH: sets that grow until nothing more comes in -/
theorem bit_and : ∀ a b : Fin 128, i32 a.val &&& i32 b.val = i32 (a.val &&& b.val) := by decide +kernel
theorem bit_oor : ∀ a b : Fin 128, i32 a.val ||| i32 b.val = i32 (a.val ||| b.val) := by decide +kernel
theorem bit_not : ∀ a b : Fin 128, i32 a.val &&& (i32 b.val ^^^ (-1)) = i32 (a.val &&& (127 - b.val)) := by decide +kernel
theorem bit_127 : ∀ b : Fin 128, ∀ t : Fin 7, (127 - b.val).testBit t.val = !b.val.testBit t.val := by decide
theorem bit_all : ∀ n : Fin 8, (1 <<< (i32 n.val &&& 31)) - 1 = i32 (2 ^ n.val - 1) ∧ 2 ^ n.val - 1 < 128 ∧ ∀ t : Fin 7, (2 ^ n.val - 1).testBit t.val = decide (t.val < n.val) := by decide
theorem bit_0 {T : Nat} (h : T < 128) : T = 0 ↔ ∀ t, t < 7 → T.testBit t = false := by
  constructor
  · rintro rfl t _; exact Nat.zero_testBit t
  · intro h1
    refine Nat.eq_of_testBit_eq (fun t => ?_)
    rw [Nat.zero_testBit]
    by_cases c : t < 7
    · exact h1 t c
    · exact Nat.testBit_lt_two_pow (Nat.lt_of_lt_of_le h (show 128 ≤ 2 ^ t from Nat.pow_le_pow_right (n := 2) (by decide) (show 7 ≤ t by omega)))
theorem mk_zero {w : Int32} {P : Nat → Prop} (h : mk w P) : w = 0 ↔ ∀ t, t < 7 → ¬ P t := by
  obtain ⟨T, h1, h2, h3⟩ := h
  rw [h2, n0, i32_eq (by omega) (by omega), bit_0 h1]
  constructor
  · intro h t ht hP
    have := (h3 t ht).mpr hP
    rw [h t ht] at this
    exact absurd this (by decide)
  · intro h t ht
    cases e : T.testBit t
    · rfl
    · exact absurd ((h3 t ht).mp e) (h t ht)
theorem mk_and {w v : Int32} {P R : Nat → Prop} (h : mk w P) (k : mk v R) : mk (w &&& v) (fun t => P t ∧ R t) := by
  obtain ⟨T, h1, h2, h3⟩ := h
  obtain ⟨U, k1, k2, k3⟩ := k
  refine ⟨T &&& U, Nat.lt_of_le_of_lt Nat.and_le_left h1, by rw [h2, k2]; exact bit_and ⟨T, h1⟩ ⟨U, k1⟩, fun t ht => ?_⟩
  rw [Nat.testBit_and, Bool.and_eq_true, h3 t ht, k3 t ht]
theorem mk_oor {w v : Int32} {P R : Nat → Prop} (h : mk w P) (k : mk v R) : mk (w ||| v) (fun t => P t ∨ R t) := by
  obtain ⟨T, h1, h2, h3⟩ := h
  obtain ⟨U, k1, k2, k3⟩ := k
  refine ⟨T ||| U, Nat.or_lt_two_pow (n := 7) h1 k1, by rw [h2, k2]; exact bit_oor ⟨T, h1⟩ ⟨U, k1⟩, fun t ht => ?_⟩
  rw [Nat.testBit_or, Bool.or_eq_true, h3 t ht, k3 t ht]
theorem mk_not {w v : Int32} {P R : Nat → Prop} (h : mk w P) (k : mk v R) : mk (w &&& (v ^^^ (-1))) (fun t => P t ∧ ¬ R t) := by
  obtain ⟨T, h1, h2, h3⟩ := h
  obtain ⟨U, k1, k2, k3⟩ := k
  refine ⟨T &&& (127 - U), Nat.lt_of_le_of_lt Nat.and_le_left h1, by rw [h2, k2]; exact bit_not ⟨T, h1⟩ ⟨U, k1⟩, fun t ht => ?_⟩
  have e : (127 - U).testBit t = !U.testBit t := bit_127 ⟨U, k1⟩ ⟨t, ht⟩
  rw [Nat.testBit_and, Bool.and_eq_true, h3 t ht, e, Bool.not_eq_true', ← Bool.not_eq_true, k3 t ht]
theorem mk_eq {w v : Int32} {P R : Nat → Prop} (h : mk w P) (k : mk v R) : w = v ↔ ∀ t, t < 7 → (P t ↔ R t) := by
  obtain ⟨T, h1, h2, h3⟩ := h
  obtain ⟨U, k1, k2, k3⟩ := k
  rw [h2, k2, i32_eq (by omega) (by omega)]
  constructor
  · rintro rfl t ht; rw [← h3 t ht, k3 t ht]
  · intro h
    refine Nat.eq_of_testBit_eq (fun t => ?_)
    by_cases c : t < 7
    · have e : T.testBit t = true ↔ U.testBit t = true := by rw [h3 t c, k3 t c]; exact h t c
      cases e1 : T.testBit t <;> cases e2 : U.testBit t <;> simp [e1, e2] at e ⊢
    · have hp : 128 ≤ 2 ^ t := Nat.pow_le_pow_right (n := 2) (by decide) (show 7 ≤ t by omega)
      rw [Nat.testBit_lt_two_pow (Nat.lt_of_lt_of_le h1 hp), Nat.testBit_lt_two_pow (Nat.lt_of_lt_of_le k1 hp)]
theorem mk_all {n : Nat} (hn : n ≤ 7) : mk ((1 <<< (i32 n &&& 31)) - 1) (fun t => t < n) := by
  obtain ⟨h1, h2, h3⟩ := bit_all ⟨n, by omega⟩
  refine ⟨2 ^ n - 1, h2, h1, fun t ht => ?_⟩
  have := h3 ⟨t, ht⟩
  dsimp only at this
  rw [this, decide_eq_true_iff]
/-- how many states below n are in a set -/
noncomputable def cntS (E : Nat → Prop) : Nat → Nat
  | 0 => 0
  | n + 1 => cntS E n + @ite Nat (E n) (Classical.propDecidable _) 1 0
theorem cntS_le (E : Nat → Prop) (n : Nat) : cntS E n ≤ n := by
  induction n with
  | zero => exact Nat.le_refl 0
  | succ n ih => rw [cntS]; split <;> omega
theorem cntS_mono {E F : Nat → Prop} {n : Nat} (h : ∀ t, t < n → E t → F t) : cntS E n ≤ cntS F n := by
  induction n with
  | zero => exact Nat.le_refl 0
  | succ n ih =>
    have h1 := ih (fun t ht => h t (by omega))
    rw [cntS, cntS]
    split
    · rw [if_pos (h n (by omega) (by assumption))]; omega
    · split <;> omega
theorem cntS_lt {E F : Nat → Prop} {n s : Nat} (h : ∀ t, t < n → E t → F t) (hs : s < n) (hE : ¬ E s) (hF : F s) : cntS E n + 1 ≤ cntS F n := by
  induction n with
  | zero => omega
  | succ n ih =>
    rw [cntS, cntS]
    by_cases c : s = n
    · subst c
      have h1 := cntS_mono (n := s) (fun t ht => h t (by omega))
      rw [if_neg hE, if_pos hF]; omega
    · have h1 := ih (fun t ht => h t (by omega)) (by omega)
      split
      · rw [if_pos (h n (by omega) (by assumption))]; omega
      · split <;> omega
theorem cntS_full {E : Nat → Prop} {n : Nat} (h : n ≤ cntS E n) : ∀ s, s < n → E s := by
  induction n with
  | zero => intro s hs; omega
  | succ n ih =>
    rw [cntS] at h
    have h1 := cntS_le E n
    intro s hs
    split at h
    · by_cases c : s = n
      · rw [c]; assumption
      · exact ih (by omega) s (by omega)
    · omega
/-- rounds over the states, in each of which a state may come in: at the end nothing more can come -/
theorem fixloop {n : Nat} {Lo : Int32 → Int32 → Prop} {Li : Int32 → Int32 → Int32 → Prop} (cond : (Nat → Prop) → Nat → Prop) (J : (Nat → Prop) → Prop) (hn : n ≤ 7) (hJ : ∀ E s, J E → s < n → cond E s → J (fun t => E t ∨ t = s)) (h1 : ∀ w k, k < n → Li w (i32 k) (i32 0) → Lo w (i32 k)) (h2 : ∀ w E, mk w E → J E → (∀ s, s < n → cond E s → E s) → Lo w (i32 n)) (h3 : ∀ w E k s, k < n → s < n → mk w E → J E → (cond E s → Li (w ||| (1 <<< (i32 s &&& 31))) (i32 k) (i32 (s + 1))) → (¬ cond E s → Li w (i32 k) (i32 (s + 1))) → Li w (i32 k) (i32 s)) (h4 : ∀ w k, k < n → Lo w (i32 (k + 1)) → Li w (i32 k) (i32 n)) : ∀ w E, mk w E → J E → Lo w (i32 0) := by
  have outer : ∀ r k, k + r = n → ∀ w E, mk w E → J E → ((∀ s, s < n → cond E s → E s) ∨ k ≤ cntS E n) → Lo w (i32 k) := by
    intro r
    induction r with
    | zero =>
      intro k hk w E hm hj hc
      have : k = n := by omega
      subst this
      refine h2 w E hm hj ?_
      rcases hc with z | z
      · exact z
      · exact fun s hs _ => cntS_full z s hs
    | succ r ih =>
      intro k hk w E hm hj hc
      have inner : ∀ q s, s + q = n → ∀ w' E', mk w' E' → J E' → ((E' = E ∧ ∀ t, t < s → cond E t → E t) ∨ k + 1 ≤ cntS E' n) → Li w' (i32 k) (i32 s) := by
        intro q
        induction q with
        | zero =>
          intro s hs w' E' hm' hj' hd
          have : s = n := by omega
          subst this
          refine h4 w' k (by omega) (ih (k + 1) (by omega) w' E' hm' hj' ?_)
          rcases hd with ⟨rfl, z⟩ | z
          · exact Or.inl z
          · exact Or.inr z
        | succ q ihq =>
          intro s hs w' E' hm' hj' hd
          refine h3 w' E' k s (by omega) (by omega) hm' hj' (fun hcs => ?_) (fun hcs => ?_)
          · refine ihq (s + 1) (by omega) _ _ (mk_or hm' (by omega)) (hJ E' s hj' (by omega) hcs) ?_
            rcases hd with ⟨rfl, z⟩ | z
            · by_cases hEs : E' s
              · left
                refine ⟨?_, fun t ht htc => ?_⟩
                · funext t
                  refine propext ⟨fun y => ?_, Or.inl⟩
                  rcases y with y | y
                  · exact y
                  · rw [y]; exact hEs
                · by_cases e : t = s
                  · rw [e]; exact hEs
                  · exact z t (by omega) htc
              · right
                have hk1 : k ≤ cntS E' n := by
                  rcases hc with y | y
                  · exact absurd (y s (by omega) hcs) hEs
                  · exact y
                have := cntS_lt (E := E') (F := fun t => E' t ∨ t = s) (n := n) (s := s) (fun t _ y => Or.inl y) (by omega) hEs (Or.inr rfl)
                omega
            · right
              have := cntS_mono (E := E') (F := fun t => E' t ∨ t = s) (n := n) (fun t _ y => Or.inl y)
              omega
          · refine ihq (s + 1) (by omega) w' E' hm' hj' ?_
            rcases hd with ⟨rfl, z⟩ | z
            · left
              refine ⟨rfl, fun t ht htc => ?_⟩
              by_cases e : t = s
              · rw [e] at htc; exact absurd htc hcs
              · exact z t (by omega) htc
            · exact Or.inr z
      exact h1 w k (by omega) (inner n 0 (by omega) w E hm hj (Or.inl ⟨rfl, fun t ht => by omega⟩))
  intro w E hm hj
  exact outer n 0 (by omega) w E hm hj (Or.inr (Nat.zero_le _))
section DR
variable {σ : cg_S} {G : Gm} {ch : Nat}
/-- a move that can lead into E, and stays in W -/
def so1 (G : Gm) (E W : Nat → Prop) (m : Nat) : Prop := (∃ t, t < G 0 0 ∧ G 7 (7 * m + t) ≠ 0 ∧ E t) ∧ ∀ t, t < G 0 0 → G 7 (7 * m + t) ≠ 0 → W t
def drw (G : Gm) (E W : Nat → Prop) (s : Nat) : Prop := (gA G s ∧ ∃ c, c < G 3 s ∧ so1 G E W (3 * s + c)) ∨ (¬ gA G s ∧ ∀ c, c < G 3 s → so1 G E W (3 * s + c))
theorem lead_n {m t : Nat} (hW : GW G) (hm : m < 21) (ht : t < 7) (h : G 7 (7 * m + t) ≠ 0) : t < G 0 0 := Nat.lt_of_not_le (fun z => h ((hW.2.2.1 m hm).2.2.2.2 t ht z))
theorem so1_bits {w v : Int32} {E W : Nat → Prop} {m : Nat} (hC : CG σ G ch) (hW : GW G) (hm : m < 21) (hE : mk w E) (hWi : mk v W) : so1 G E W m ↔ (¬ (σ.1 25 m &&& w) = 0 ∧ (σ.1 25 m &&& (v ^^^ (-1))) = 0) := by
  have hl := (hC.2.2 m hm).2.2.2.1
  rw [mk_zero (mk_and hl hE), mk_zero (mk_not hl hWi)]
  unfold so1
  have hn := hW.1
  constructor
  · rintro ⟨⟨t, h1, h2, h3⟩, h4⟩
    exact ⟨fun z => z t (by omega) ⟨h2, h3⟩, fun t ht z => z.2 (h4 t (lead_n hW hm ht z.1) z.1)⟩
  · rintro ⟨h1, h2⟩
    refine ⟨Classical.byContradiction fun z => h1 (fun t ht y => z ⟨t, lead_n hW hm ht y.1, y.1, y.2⟩), fun t ht hne => Classical.byContradiction fun z => h2 t (by omega) ⟨hne, z⟩⟩
theorem c_everyState {Q : Int32 → cg_S → Prop} (hC : CG σ G ch) (h : ∀ w, mk w (fun t => t < G 0 0) → G 0 0 = G 0 0 → Q w σ) (hn : G 0 0 ≤ 7) : M_X2_everyState σ Q := by
  refine v_X2_everyState ?_
  rw [hC.1.1]
  exact h _ (mk_all hn) rfl
theorem c_isDrawn {s : Nat} {w v : Int32} {E W : Nat → Prop} {Q : Int32 → cg_S → Prop} (hC : CG σ G ch) (hW : GW G) (hs : s < G 0 0) (hE : mk w E) (hWi : mk v W) (hy : drw G E W s → Q 1 σ) (hno : ¬ drw G E W s → Q 0 σ) : M_X3_isDrawn (i32 s) w v σ Q := by
  have hn := hW.1
  have g1 := (hW.2.1 s (by omega)).1
  have g3 := (hW.2.1 s (by omega)).2.2.1
  refine v_X3_isDrawn ?_
  simp (disch := omega) only [n0, n1, n2, n3, n4, n5, n6, n7, n8, n9, n49, n97, n98, n114, n102, n115, n119, n109, n112, i32_add, i32_mul, i32_N, i32_le, i32_lt, i32_eq, vpi_iff]
  refine ⟨by omega, ?_⟩
  rw [(hC.2.1 s (by omega)).1]
  rintro _ rfl
  refine up (n := G 3 s) (fun c τ => τ = σ ∧ ∀ e, e < c → (so1 G E W (3 * s + e) ↔ G 1 s = 0)) (fun u τ => L_X3_isDrawn_14 (i32 s) w v (i32 (G 1 s)) u τ Q) ?_ ?_ 0 σ (by omega) ⟨rfl, fun e he => by omega⟩
  · rintro c τ hc ⟨rfl, hP⟩ kk
    have hm : 3 * s + c < 21 := by omega
    have hbits := so1_bits hC hW hm hE hWi
    -- the answer of a choice
    have one : ∀ k : Nat, k ≤ 1 → (k = 1 ↔ so1 G E W (3 * s + c)) → L_X3_isDrawn_65 (i32 s) w v (i32 (G 1 s)) (i32 c) (i32 k) τ Q := fun k hk hkc => by
      refine v_X3_isDrawn_65 ?_
      simp (disch := omega) only [n0, n1, n2, n3, n4, n5, n6, n7, n8, n9, n49, n97, n98, n114, n102, n115, n119, n109, n112, i32_add, i32_mul, i32_N, i32_le, i32_lt, i32_eq, vpi_iff]
      refine ⟨fun z => kk τ ⟨rfl, fun e he => ?_⟩, fun z => ⟨by omega, ?_⟩⟩
      · by_cases e2 : e = c
        · rw [e2, ← hkc]; omega
        · exact hP e (by omega)
      · by_cases hA : G 1 s = 1
        · rw [hA]
          exact hy (Or.inl ⟨hA, c, hc, hkc.mp (by omega)⟩)
        · have h0 : G 1 s = 0 := by omega
          rw [h0]
          refine hno (fun y => ?_)
          rcases y with ⟨y, -⟩ | ⟨-, y⟩
          · exact hA y
          · have := hkc.mpr (y c hc); omega
    refine v_X3_isDrawn_14 ?_
    simp (disch := omega) only [n0, n1, n2, n3, n4, n5, n6, n7, n8, n9, n49, n97, n98, n114, n102, n115, n119, n109, n112, i32_add, i32_mul, i32_N, i32_le, i32_lt, i32_eq, vpi_iff]
    rw [(hC.2.1 s (by omega)).2.2.1]
    simp (disch := omega) only [n0, n1, n2, n3, n4, n5, n6, n7, n8, n9, n49, n97, n98, n114, n102, n115, n119, n109, n112, i32_add, i32_mul, i32_N, i32_le, i32_lt, i32_eq, vpi_iff]
    refine ⟨by omega, fun z => by omega, fun _ => c_moveOf ⟨vpi hm (by omega), ?_⟩⟩
    rw [i32_N (by omega)]
    rintro _ rfl
    refine ⟨fun z => one 0 (by omega) ⟨fun y => by omega, fun y => absurd z (hbits.mp y).1⟩, fun z => ⟨fun z2 => one 0 (by omega) ⟨fun y => by omega, fun y => absurd (hbits.mp y).2 z2⟩, fun z2 => one 1 (by omega) ⟨fun _ => hbits.mpr ⟨z, z2⟩, fun _ => rfl⟩⟩⟩
  · rintro τ ⟨rfl, hP⟩
    refine v_X3_isDrawn_14 ?_
    simp (disch := omega) only [n0, n1, n2, n3, n4, n5, n6, n7, n8, n9, n49, n97, n98, n114, n102, n115, n119, n109, n112, i32_add, i32_mul, i32_N, i32_le, i32_lt, i32_eq, vpi_iff]
    rw [(hC.2.1 s (by omega)).2.2.1]
    refine ⟨by omega, fun _ => ⟨fun z => hno (fun y => ?_), fun z => hy (Or.inr ⟨fun y => ?_, fun c hc => (hP c hc).mpr (by omega)⟩)⟩, fun z => absurd ((i32_le (by omega) (by omega)).mpr (Nat.le_refl _)) z⟩
    · rcases y with ⟨-, c, hc, y⟩ | ⟨y, -⟩
      · have := (hP c hc).mp y; omega
      · exact y (show G 1 s = 1 by omega)
    · have : G 1 s = 1 := y
      omega
theorem c_drawnWithin {v : Int32} {W : Nat → Prop} {Q : Int32 → cg_S → Prop} (J : (Nat → Prop) → Prop) (hC : CG σ G ch) (hW : GW G) (hWi : mk v W) (hJ0 : J (fun t => G 8 t ≠ 0 ∧ W t)) (hJ : ∀ E s, J E → s < G 0 0 → W s ∧ drw G E W s → J (fun t => E t ∨ t = s)) (h : ∀ r E, mk r E → J E → (∀ s, s < G 0 0 → W s ∧ drw G E W s → E s) → Q r σ) : M_X3_drawnWithin v σ Q := by
  have hn := hW.1
  refine v_X3_drawnWithin ?_
  rintro _ rfl
  refine fixloop (n := G 0 0) (Lo := fun w k => L_X3_drawnWithin_12 v w k σ Q) (Li := fun w k s => L_X3_drawnWithin_26 v w k s σ Q) (fun E s => W s ∧ drw G E W s) J hn hJ ?_ ?_ ?_ ?_ _ _ (mk_and hC.1.2.1 hWi) hJ0
  · intro w k hk hL
    refine v_X3_drawnWithin_12 ?_
    rw [hC.1.1]
    simp (disch := omega) only [n0, n1, n2, n3, n4, n5, n6, n7, n8, n9, n49, n97, n98, n114, n102, n115, n119, n109, n112, i32_add, i32_mul, i32_N, i32_le, i32_lt, i32_eq, vpi_iff]
    exact ⟨fun z => by omega, fun _ => hL⟩
  · intro w E hm hj hc
    refine v_X3_drawnWithin_12 ?_
    rw [hC.1.1]
    exact ⟨fun _ => h w E hm hj hc, fun z => absurd ((i32_le (by omega) (by omega)).mpr (Nat.le_refl _)) z⟩
  · intro w E k s hk hs hm hj h1 h2
    refine v_X3_drawnWithin_26 ?_
    rw [hC.1.1]
    simp only [i32_s]
    refine ⟨fun z => ?_, fun _ => c_holds hWi (by omega) (fun hWs => ⟨fun z => absurd z (by decide), fun _ => c_isDrawn hC hW hs hm hWi (fun hd => ⟨fun z => absurd z (by decide), fun _ => ?_⟩) (fun hd => ⟨fun _ => h2 (fun y => hd y.2), fun z => absurd rfl z⟩)⟩) (fun hWs => ⟨fun _ => h2 (fun y => hWs y.1), fun z => absurd rfl z⟩)⟩
    · rw [i32_le (by omega) (by omega)] at z; omega
    · rintro _ rfl
      exact h1 ⟨hWs, hd⟩
  · intro w k hk hL
    refine v_X3_drawnWithin_26 ?_
    rw [hC.1.1]
    simp only [i32_s]
    exact ⟨fun _ => hL, fun z => absurd ((i32_le (by omega) (by omega)).mpr (Nat.le_refl _)) z⟩
end DR
