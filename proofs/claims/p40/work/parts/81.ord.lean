/-! THE CLASS: the order of the equations -/
theorem up2 {α : Type} {n : Nat} (P : Nat → α → cg_S → Prop) (L : α → Int32 → cg_S → Prop) (step : ∀ k a σ, k < n → P k a σ → (∀ b τ, P (k + 1) b τ → L b (i32 (k + 1)) τ) → L a (i32 k) σ) (fin : ∀ a σ, P n a σ → L a (i32 n) σ) : ∀ k a σ, k ≤ n → P k a σ → L a (i32 k) σ := by
  have key : ∀ r k, k + r = n → ∀ a σ, P k a σ → L a (i32 k) σ := by
    intro r
    induction r with
    | zero => intro k hk a σ h; have : k = n := by omega
              subst this; exact fin a σ h
    | succ r ih => intro k hk a σ h; exact step k a σ (by omega) h (fun b τ hτ => ih (k + 1) (by omega) b τ hτ)
  intro k a σ hk h
  exact key (n - k) k (by omega) a σ h
/-- cells that a game's numbers don't stand in -/
abbrev noG (I : List Nat) : Prop := 1 ∉ I ∧ 57 ∉ I ∧ 20 ∉ I ∧ 21 ∉ I ∧ 19 ∉ I ∧ 22 ∉ I ∧ 23 ∉ I ∧ 24 ∉ I ∧ 25 ∉ I ∧ ∀ m, m < 21 → 36 + m ∉ I
theorem CG.fr {a τ : cg_S} {G : Gm} {ch : Nat} {I L D : List Nat} (h : CG a G ch) (hf : Fr I L D a τ) (h0 : noG I) : CG τ G ch := by
  obtain ⟨n1, n2, n3, n4, n5, n6, n7, n8, n9, n10⟩ := h0
  obtain ⟨c1, c2, c3⟩ := h
  refine ⟨by rw [hf.1 1 n1]; exact c1, fun s hs => ?_, fun m hm => ?_⟩
  · rw [hf.1 57 n2, hf.1 20 n3, hf.1 21 n4, hf.1 19 n5]; exact c2 s hs
  · rw [hf.1 22 n6, hf.1 23 n7, hf.1 24 n8, hf.1 25 n9, hf.1 (36 + m) (n10 m hm)]; exact c3 m hm
abbrev noK (I L : List Nat) : Prop := 31 ∉ I ∧ ∀ k, k < 4 → 70 + k ∉ L ∧ 78 + k ∉ L
theorem FV.fr {a τ : cg_S} {v s : Nat} {q : Rat} {I L D : List Nat} (h : FV a v s q) (hf : Fr I L D a τ) (h0 : v + 56 ∉ L ∧ v + 64 ∉ L) : FV τ v s q := by
  unfold FV
  rw [hf.2.1 _ h0.1, hf.2.1 _ h0.2]
  exact h
theorem CK.fr {a τ : cg_S} {G : Gm} {ch : Nat} {I L D : List Nat} (h : CK a G ch) (hf : Fr I L D a τ) (h0 : noK I L) : CK τ G ch := fun aim ha => by
  obtain ⟨h1, h2⟩ := h aim ha
  rw [hf.1 31 h0.1]
  refine ⟨h1, fun z => ?_⟩
  obtain ⟨w, w1, w2⟩ := h2 z
  have h4 := aimN_lt aim
  obtain ⟨k1, k2⟩ := h0.2 (aimN aim) h4
  exact ⟨w, w1, fun s hs => (w2 s hs).fr hf ⟨by rw [show 14 + aimN aim + 56 = 70 + aimN aim by omega]; exact k1, by rw [show 14 + aimN aim + 64 = 78 + aimN aim by omega]; exact k2⟩⟩
/-- how many of the states below k are a's -/
def cA (G : Gm) : Nat → Nat
  | 0 => 0
  | k + 1 => cA G k + if G 1 k = 1 then 1 else 0
theorem cA_le (G : Gm) : ∀ k, cA G k ≤ k := by
  intro k
  induction k with
  | zero => exact Nat.le_refl 0
  | succ k ih => rw [cA]; split <;> omega
theorem cA_mono (G : Gm) {k n : Nat} (h : k ≤ n) : cA G k ≤ cA G n ∧ cA G n ≤ cA G k + (n - k) := by
  obtain ⟨d, rfl⟩ : ∃ d, n = k + d := ⟨n - k, by omega⟩
  induction d with
  | zero => exact ⟨Nat.le_refl _, Nat.le_add_right _ _⟩
  | succ d ih =>
    have := ih (by omega)
    rw [← Nat.add_assoc, cA]
    split <;> omega
/-- the order of the equations: a's states first -/
def ORD (τ : cg_S) (n nA : Nat) (A : Nat → Prop) (o oi : Nat → Nat) : Prop := τ.1 4 0 = i32 n ∧ τ.1 3 2 = i32 nA ∧ nA ≤ n ∧ (∀ i, i < n → τ.1 27 i = i32 (o i) ∧ o i < n ∧ oi (o i) = i ∧ (A (o i) ↔ i < nA)) ∧ ∀ s, s < n → oi s < n ∧ o (oi s) = s
theorem ORD.fr {σ τ : cg_S} {n nA : Nat} {A : Nat → Prop} {o oi : Nat → Nat} {I L D : List Nat} (h : ORD σ n nA A o oi) (hf : Fr I L D σ τ) (h0 : 3 ∉ I ∧ 4 ∉ I ∧ 27 ∉ I) : ORD τ n nA A o oi := by
  unfold ORD
  rw [hf.1 3 h0.1, hf.1 4 h0.2.1, hf.1 27 h0.2.2]
  exact h
theorem c_arrange {σ : cg_S} {G : Gm} {ch : Nat} {Q : cg_S → Prop} (hC : CG σ G ch) (hW : GW G) (h : ∀ τ o oi nA, Fr [3, 4, 27] [] [] σ τ → ORD τ (G 0 0) nA (gA G) o oi → Q τ) : M_X0_arrange σ Q := by
  have hn := hW.1
  refine v_X0_arrange ?_
  refine up2 (n := G 0 0) (fun k pl τ => Fr [27] [] [] σ τ ∧ pl = cA G k ∧ ∃ o oi : Nat → Nat, (∀ i, i < pl → τ.1 27 i = i32 (o i) ∧ o i < k ∧ G 1 (o i) = 1 ∧ oi (o i) = i) ∧ ∀ t, t < k → G 1 t = 1 → oi t < pl ∧ o (oi t) = t) (fun pl w τ => L_X0_arrange_4 (i32 pl) w τ Q) ?_ ?_ 0 0 σ (by omega) ⟨Fr.rf σ, rfl, fun _ => 0, fun _ => 0, fun i hi => by omega, fun t ht => by omega⟩
  · rintro k pl τ hk ⟨hf, hpl, o, oi, p1, p2⟩ kk
    have hC2 := hC.fr hf (by decide)
    have hg := hC2.2.1 k (by omega)
    have g1 := (hW.2.1 k (by omega)).1
    have hcl := cA_le G k
    have hc1 : cA G (k + 1) = cA G k + if G 1 k = 1 then 1 else 0 := rfl
    refine v_X0_arrange_4 ?_
    rw [hC2.1.1]
    simp (disch := omega) only [n0, n1, n2, n3, n4, n5, n6, n7, n8, n9, n49, n97, n98, n114, n102, n115, n119, n109, n112, i32_add, i32_mul, i32_N, i32_le, i32_lt, i32_eq, vpi_iff]
    rw [hg.1]
    simp (disch := omega) only [n0, n1, n2, n3, n4, n5, n6, n7, n8, n9, n49, n97, n98, n114, n102, n115, n119, n109, n112, i32_add, i32_mul, i32_N, i32_le, i32_lt, i32_eq, vpi_iff]
    refine ⟨fun z => by omega, fun _ => ⟨by omega, fun z => ?_, fun z => ⟨by omega, ?_⟩⟩⟩
    · refine kk pl τ ⟨hf, by rw [hc1, if_neg (by omega)]; exact hpl, o, oi, fun i hi => ?_, fun t ht hA => ?_⟩
      · obtain ⟨q1, q2, q3, q4⟩ := p1 i hi
        exact ⟨q1, by omega, q3, q4⟩
      · by_cases c : t = k
        · subst c; omega
        · exact p2 t (by omega) hA
    · rintro _ rfl
      refine kk (pl + 1) _ ⟨hf.tr (Fr.i (by decide)), by rw [hc1, if_pos (by omega), hpl], fun i => if i = pl then k else o i, fun t => if t = k then pl else oi t, fun i hi => ?_, fun t ht hA => ?_⟩
      · dsimp only
        rw [ri, if_pos rfl]
        by_cases c : i = pl
        · rw [if_pos c, if_pos c, if_pos rfl]
          exact ⟨rfl, by omega, by omega, c.symm⟩
        · obtain ⟨q1, q2, q3, q4⟩ := p1 i (by omega)
          rw [if_neg c, if_neg c, if_neg (by omega)]
          exact ⟨q1, by omega, q3, q4⟩
      · dsimp only
        by_cases c : t = k
        · rw [if_pos c, if_pos rfl]; exact ⟨by omega, c.symm⟩
        · obtain ⟨q1, q2⟩ := p2 t (by omega) hA
          rw [if_neg c, if_neg (by omega)]
          exact ⟨by omega, q2⟩
  · rintro pl τ ⟨hf, hpl, o, oi, p1, p2⟩
    have hC2 := hC.fr hf (by decide)
    have hcn := cA_le G (G 0 0)
    refine v_X0_arrange_4 ?_
    rw [hC2.1.1]
    refine ⟨fun _ => ?_, fun z => absurd ((i32_le (by omega) (by omega)).mpr (Nat.le_refl _)) z⟩
    rintro _ rfl
    have f1 : Fr [3, 27] [] [] σ (cg_i τ 3 2 (i32 pl)) := (hf.mo (by decide) (by decide) (by decide)).tr (Fr.i (by decide))
    refine up2 (n := G 0 0) (fun k pl2 τ => Fr [3, 27] [] [] σ τ ∧ τ.1 3 2 = i32 pl ∧ pl2 = pl + (k - cA G k) ∧ ∃ o oi : Nat → Nat, (∀ i, i < pl2 → τ.1 27 i = i32 (o i) ∧ o i < G 0 0 ∧ oi (o i) = i ∧ (G 1 (o i) = 1 ↔ i < pl) ∧ (pl ≤ i → o i < k)) ∧ ∀ t, t < G 0 0 → (G 1 t = 1 ∨ t < k) → oi t < pl2 ∧ o (oi t) = t) (fun pl w τ => L_X0_arrange_53 (i32 pl) w τ Q) ?_ ?_ 0 pl _ (by omega) ⟨f1, by rw [ri, if_pos rfl, if_pos rfl], by show pl = pl + (0 - 0); omega, o, oi, fun i hi => ?_, fun t ht hA => ?_⟩
    · rintro k pl2 υ hk ⟨hf2, h32, hpl2, o, oi, p1, p2⟩ kk
      have hC3 := hC.fr hf2 (by decide)
      have hg := hC3.2.1 k (by omega)
      have g1 := (hW.2.1 k (by omega)).1
      have hcl := cA_le G k
      have hcm := cA_mono G (show k ≤ G 0 0 by omega)
      have hcm1 := cA_mono G (show k + 1 ≤ G 0 0 by omega)
      have hc1 : cA G (k + 1) = cA G k + if G 1 k = 1 then 1 else 0 := rfl
      have hpl7 : pl2 ≤ 7 := by omega
      refine v_X0_arrange_53 ?_
      rw [hC3.1.1]
      simp (disch := omega) only [n0, n1, n2, n3, n4, n5, n6, n7, n8, n9, n49, n97, n98, n114, n102, n115, n119, n109, n112, i32_add, i32_mul, i32_N, i32_le, i32_lt, i32_eq, vpi_iff]
      rw [hg.1]
      simp (disch := omega) only [n0, n1, n2, n3, n4, n5, n6, n7, n8, n9, n49, n97, n98, n114, n102, n115, n119, n109, n112, i32_add, i32_mul, i32_N, i32_le, i32_lt, i32_eq, vpi_iff]
      refine ⟨fun z => by omega, fun _ => ⟨by omega, fun z => ?_, fun z => ⟨?_, ?_⟩⟩⟩
      · rw [if_pos (by omega)] at hc1
        refine kk pl2 υ ⟨hf2, h32, by omega, o, oi, fun i hi => ?_, fun t ht hA => ?_⟩
        · obtain ⟨q1, q2, q3, q4, q5⟩ := p1 i hi
          exact ⟨q1, q2, q3, q4, fun z => by have := q5 z; omega⟩
        · by_cases c : t = k
          · exact p2 t ht (Or.inl (by rw [c]; omega))
          · exact p2 t ht (hA.imp id (fun z => by omega))
      · rw [if_neg (by omega)] at hc1
        omega
      · rw [if_neg (by omega)] at hc1
        rintro _ rfl
        refine kk (pl2 + 1) _ ⟨hf2.tr (Fr.i (by decide)), by rw [ri, if_neg (by decide)]; exact h32, by omega, fun i => if i = pl2 then k else o i, fun t => if t = k then pl2 else oi t, fun i hi => ?_, fun t ht hA => ?_⟩
        · dsimp only
          rw [ri, if_pos rfl]
          by_cases c : i = pl2
          · rw [if_pos c, if_pos c, if_pos rfl]
            exact ⟨rfl, by omega, c.symm, ⟨fun y => by omega, fun y => by omega⟩, fun _ => by omega⟩
          · obtain ⟨q1, q2, q3, q4, q5⟩ := p1 i (by omega)
            have hne : o i ≠ k := fun e => by
              rw [e] at q4
              by_cases c2 : i < pl
              · have := q4.mpr c2; omega
              · have := q5 (by omega); omega
            rw [if_neg c, if_neg c, if_neg hne]
            exact ⟨q1, q2, q3, q4, fun z => by have := q5 z; omega⟩
        · dsimp only
          by_cases c : t = k
          · rw [if_pos c, if_pos rfl]; exact ⟨by omega, c.symm⟩
          · obtain ⟨q1, q2⟩ := p2 t ht (hA.imp id (fun z => by omega))
            rw [if_neg c, if_neg (by omega)]
            exact ⟨by omega, q2⟩
    · rintro pl2 υ ⟨hf2, h32, hpl2, o, oi, p1, p2⟩
      have hC3 := hC.fr hf2 (by decide)
      have e : pl2 = G 0 0 := by omega
      subst e
      refine v_X0_arrange_53 ?_
      rw [hC3.1.1]
      refine ⟨fun _ => ?_, fun z => absurd ((i32_le (by omega) (by omega)).mpr (Nat.le_refl _)) z⟩
      rintro _ rfl
      refine h _ o oi pl ((hf2.mo (by decide) (by decide) (by decide)).tr (Fr.i (by decide))) ⟨by rw [ri, if_pos rfl, if_pos rfl], by rw [ri, if_neg (by decide)]; exact h32, by omega, fun i hi => ?_, fun s hs => p2 s hs (Or.inr hs)⟩
      obtain ⟨q1, q2, q3, q4, q5⟩ := p1 i hi
      exact ⟨by rw [ri, if_neg (by decide)]; exact q1, q2, q3, q4⟩
    · obtain ⟨q1, q2, q3, q4⟩ := p1 i hi
      exact ⟨by rw [ri, if_neg (by decide)]; exact q1, q2, q4, ⟨fun _ => hi, fun _ => q3⟩, fun z => by omega⟩
    · rcases hA with z | z
      · exact p2 t ht z
      · omega
theorem sr_perm {n : Nat} {o oi : Nat → Nat} {f : Nat → Rat} (h1 : ∀ i, i < n → o i < n ∧ oi (o i) = i) (h2 : ∀ s, s < n → oi s < n ∧ o (oi s) = s) : sr n (fun i => f (o i)) = sr n f := by
  rw [sr_congr (g := fun i => sr n (fun t => if t = o i then f t else 0)) (fun i hi => by
    rw [sr_one (i := o i) (h1 i hi).1 (fun j _ hj => if_neg hj), if_pos rfl]), sr_swap]
  refine sr_congr (fun t ht => ?_)
  obtain ⟨e1, e2⟩ := h2 t ht
  rw [sr_one (i := oi t) e1 (fun j hj hne => if_neg (fun z => hne (by rw [z]; exact (h1 j hj).2.symm))), if_pos e2.symm]
