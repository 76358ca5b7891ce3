/-! THE REFERENCE: solves -/
theorem isI_num {x : Rat} (h : isI x) : ((x.num : Int) : Rat) = x := by
  obtain ⟨z, rfl⟩ := h
  rw [Rat.num_intCast]
section SV
variable {A : Nat → Nat → Rat}
theorem z_B (hI : ∀ i j, isI (A i j)) (hN : ND 7 A) {k : Nat} (hk : k ≤ 7) (s t : Nat) : (((gB k A s t).num : Int) : Rat) = gB k A s t := isI_num (gj_int hI (hN.le hk) s t)
theorem z_D (hI : ∀ i j, isI (A i j)) (hN : ND 7 A) {k : Nat} (hk : k ≤ 7) : (((gD k A).num : Int) : Rat) = gD k A := by
  cases k with
  | zero => exact isI_num ⟨1, by rw [gD_zero]; rfl⟩
  | succ k => rw [gD_succ]; exact z_B hI hN (by omega) k k
theorem z_step (hI : ∀ i j, isI (A i j)) (hN : ND 7 A) {k : Nat} (hk : k < 7) {s : Nat} (hs : s ≠ k) (t : Nat) : (gB k A k k).num * (gB k A s t).num - (gB k A s k).num * (gB k A k t).num = (gD k A).num * (gB (k + 1) A s t).num := by
  rw [← Rat.intCast_inj, Rat.intCast_sub, Rat.intCast_mul, Rat.intCast_mul, Rat.intCast_mul, z_B hI hN (by omega), z_B hI hN (by omega), z_B hI hN (by omega), z_B hI hN (by omega), z_D hI hN (by omega), z_B hI hN (by omega), gB_else hs]
  have := hN k (by omega)
  grind
/-- what the long holds -/
def zfit (z : Int) : Prop := -9223372036854775808 < z ∧ z < 9223372036854775808
def A_fits (A : Nat → Nat → Rat) : Prop := (∀ k, k ≤ 7 → zfit (gD k A).num) ∧ ∀ k s t, k < 7 → s < 7 → s ≠ k → t < 8 → zfit ((gD k A).num * (gB (k + 1) A s t).num)
/-- the matrix at a stage, rows below s and of row s the columns below t a stage further -/
def MX (τ : cg_S) (f : Nat → Nat → Rat) : Prop := ∀ s t, s < 7 → t < 8 → τ.2.1 21 (8 * s + t) = i64 (f s t).num
theorem m_solves (hI : ∀ i j, isI (A i j)) (hN : ND 7 A) (hfit : A_fits A) {n : Nat} {σ : cg_S} {Q : cg_S → Prop} (hn7 : n ≤ 7) (hn : σ.1 0 1 = i32 n) (h1 : ∀ s t, s < n → t < 8 → σ.2.1 21 (8 * s + t) = i64 (A s t).num) (h2 : ∀ s t, n ≤ s → s < 7 → t < 8 → A s t = if t = s then 1 else 0) (h : ∀ τ, Fr [] [0, 21] [] σ τ → (∀ j, j ≠ 39 → τ.2.1 0 j = σ.2.1 0 j) → τ.2.1 0 39 = i64 (gD 7 A).num → (∀ s, s < 7 → τ.2.1 21 (8 * s + 7) = i64 (gB 7 A s 7).num) → Q τ) : M_X12_solves σ Q := by
  refine v_X12_solves ?_
  rintro _ rfl
  rw [hn]
  -- the rows of no state
  refine up (n := 7) (fun k τ => n ≤ k ∧ Fr [] [21] [] σ τ ∧ ∀ s t, s < k → t < 8 → τ.2.1 21 (8 * s + t) = i64 (A s t).num) (fun w τ => L_X12_solves_7 1 w τ Q) ?_ ?_ n σ hn7 ⟨Nat.le_refl n, Fr.rf σ, h1⟩
  · intro k τ hk hP kk
    refine v_X12_solves_7 ?_
    simp (disch := omega) only [n0, n1, n2, n3, n4, n5, n6, n7, n8, n9, n49, n97, n98, n114, n102, n115, n119, n109, n112, i32_add, i32_mul, i32_N, i32_le, i32_lt, i32_eq, vpi_iff]
    refine ⟨fun z => by omega, fun _ => m_laysNumber hk (fun υ hf hυ => ?_)⟩
    refine kk υ ⟨by omega, hP.2.1.tr hf, fun s t hs ht => ?_⟩
    rw [hυ]
    by_cases c : s = k
    · subst c
      rw [h2 s t hP.1 hk ht]
      by_cases c2 : t = s
      · rw [if_neg (by omega), if_pos (by omega), if_pos c2]; rfl
      · rw [if_neg c2]
        by_cases c3 : t = 7
        · rw [if_pos (by omega)]; rfl
        · rw [if_neg (by omega), if_neg (by omega), if_pos (by omega)]; rfl
    · rw [if_neg (by omega), if_neg (by omega), if_neg (by omega)]
      exact hP.2.2 s t (by omega) ht
  · intro τ0 hP0
    refine v_X12_solves_7 ?_
    refine ⟨fun _ => ?_, fun z => absurd ((i32_le (by decide) (by decide)).mpr (Nat.le_refl 7)) z⟩
    -- the stages
    have key : ∀ r k, k + r = 7 → ∀ τ, Fr [] [21] [] σ τ → MX τ (gB k A) → L_X12_solves_27 (i64 (gD k A).num) (i32 k) τ Q := by
      intro r
      induction r with
      | zero =>
        intro k hk τ hf hM
        have hk : k = 7 := by omega
        subst hk
        refine v_X12_solves_27 ?_
        refine ⟨fun _ => ?_, fun z => absurd ((i32_le (by decide) (by decide)).mpr (Nat.le_refl 7)) z⟩
        rintro _ rfl
        refine h _ ((hf.mo (fun _ z => z) (by simp) (fun _ z => z)).tr (Fr.l (by decide))) (fun j hj => ?_) ?_ (fun s hs => ?_)
        · rw [rl, if_pos rfl, if_neg hj, hf.2.1 0 (by decide)]
        · rw [rl, if_pos rfl, if_pos rfl]
        · rw [rl, if_neg (by decide)]; exact hM s 7 hs (by decide)
      | succ r ih =>
        intro k hk τ hf hM
        have hk7 : k < 7 := by omega
        have hdf := hfit.1 k (by omega)
        have hd0 : (gD k A).num ≠ 0 := fun z => hN k (by omega) (by rw [← z_D hI hN (by omega), z]; rfl)
        refine v_X12_solves_27 ?_
        simp (disch := omega) only [n0, n1, n2, n3, n4, n5, n6, n7, n8, n9, n49, n97, n98, n114, n102, n115, n119, n109, n112, i32_add, i32_mul, i32_N, i32_le, i32_lt, i32_eq, vpi_iff]
        refine ⟨fun z => by omega, fun _ => ⟨by omega, ?_⟩⟩
        rintro _ rfl
        rw [hM k k hk7 (by omega)]
        -- the rows of a stage
        refine up (n := 7) (fun s υ => Fr [] [21] [] σ υ ∧ ∀ a b, a < 7 → b < 8 → υ.2.1 21 (8 * a + b) = i64 (if a < s then gB (k + 1) A a b else gB k A a b).num) (fun w υ => L_X12_solves_49 (i64 (gD k A).num) (i32 k) (i64 (gB k A k k).num) w υ Q) ?_ ?_ 0 τ (by omega) ⟨hf, fun a b ha hb => by rw [if_neg (by omega)]; exact hM a b ha hb⟩
        · intro s υ hs hP kk
          refine v_X12_solves_49 ?_
          simp (disch := omega) only [n0, n1, n2, n3, n4, n5, n6, n7, n8, n9, n49, n97, n98, n114, n102, n115, n119, n109, n112, i32_add, i32_mul, i32_N, i32_le, i32_lt, i32_eq, vpi_iff]
          refine ⟨fun z => by omega, fun _ => ⟨by omega, ?_⟩⟩
          rintro _ rfl
          rw [hP.2 s k hs (by omega), if_neg (by omega)]
          -- the columns of a row
          by_cases c : s = k
          · subst c
            refine v_X12_solves_73 ?_
            simp (disch := omega) only [n0, n1, n2, n3, n4, n5, n6, n7, n8, n9, n49, n97, n98, n114, n102, n115, n119, n109, n112, i32_add, i32_mul, i32_N, i32_le, i32_lt, i32_eq, vpi_iff]
            refine ⟨fun z => by omega, fun _ => ⟨fun _ => kk υ ⟨hP.1, fun a b ha hb => ?_⟩, fun z => absurd trivial z⟩⟩
            rw [hP.2 a b ha hb]
            by_cases c1 : a < s
            · rw [if_pos c1, if_pos (by omega)]
            · rw [if_neg c1]
              by_cases c2 : a = s
              · rw [if_pos (by omega), c2, gB_same]
              · rw [if_neg (by omega)]
          · refine up (n := 8) (fun t ω => Fr [] [21] [] σ ω ∧ ∀ a b, a < 7 → b < 8 → ω.2.1 21 (8 * a + b) = i64 (if a < s ∨ (a = s ∧ b < t) then gB (k + 1) A a b else gB k A a b).num) (fun w ω => L_X12_solves_73 (i64 (gD k A).num) (i32 k) (i64 (gB k A k k).num) (i32 s) (i64 (gB k A s k).num) w ω Q) ?_ ?_ 0 υ (by omega) ⟨hP.1, fun a b ha hb => by
              rw [hP.2 a b ha hb]
              by_cases c1 : a < s
              · rw [if_pos c1, if_pos (Or.inl c1)]
              · rw [if_neg c1, if_neg (by omega)]⟩
            · intro t ω ht hR kk2
              refine v_X12_solves_73 ?_
              simp (disch := omega) only [n0, n1, n2, n3, n4, n5, n6, n7, n8, n9, n49, n97, n98, n114, n102, n115, n119, n109, n112, i32_add, i32_mul, i32_N, i32_le, i32_lt, i32_eq, vpi_iff]
              refine ⟨fun z => by omega, fun _ => ⟨fun z => absurd z c, fun _ => ⟨by omega, by omega, ?_, by omega, ?_⟩⟩⟩
              · rw [l0, i64_eq ⟨by have := hdf.1; omega, hdf.2⟩ (by decide)]; exact hd0
              · rintro _ rfl
                refine kk2 _ ⟨hR.1.tr (Fr.l (by decide)), fun a b ha hb => ?_⟩
                rw [rl, if_pos rfl]
                by_cases c1 : a = s ∧ b = t
                · rw [c1.1, c1.2, if_pos rfl, if_pos (Or.inr ⟨rfl, by omega⟩), hR.2 s t hs ht, if_neg (by omega), hR.2 k t hk7 ht]
                  have e1 : (if k < s ∨ (k = s ∧ t < t) then gB (k + 1) A k t else gB k A k t) = gB k A k t := by
                    split
                    · rw [gB_same]
                    · rfl
                  rw [e1, i64_mul, i64_mul, i64_sub]
                  have h9 := hfit.2 k s t hk7 hs c ht
                  exact i64_div (z_step hI hN hk7 c t) hd0 (by rw [z_step hI hN hk7 c t]; exact h9) ⟨by have := hdf.1; omega, hdf.2⟩
                · rw [if_neg (by omega), hR.2 a b ha hb]
                  by_cases c2 : a < s ∨ (a = s ∧ b < t)
                  · rw [if_pos c2, if_pos (by omega)]
                  · rw [if_neg c2, if_neg (by omega)]
            · intro ω hR
              refine v_X12_solves_73 ?_
              refine ⟨fun _ => ?_, fun z => absurd ((i32_le (by decide) (by decide)).mpr (Nat.le_refl 8)) z⟩
              rw [n1, i32_add]
              refine kk ω ⟨hR.1, fun a b ha hb => ?_⟩
              rw [hR.2 a b ha hb]
              by_cases c2 : a < s ∨ (a = s ∧ b < 8)
              · rw [if_pos c2, if_pos (by omega)]
              · rw [if_neg c2, if_neg (by omega)]
        · intro υ hP
          refine v_X12_solves_49 ?_
          refine ⟨fun _ => ?_, fun z => absurd ((i32_le (by decide) (by decide)).mpr (Nat.le_refl 7)) z⟩
          rw [n1, i32_add, show i64 (gB k A k k).num = i64 (gD (k + 1) A).num by rw [gD_succ]]
          exact ih (k + 1) (by omega) υ hP.1 (fun a b ha hb => by rw [hP.2 a b ha hb, if_pos ha])
    have := key 7 0 (by omega) τ0 hP0.2.1 (fun s t hs ht => hP0.2.2 s t hs ht)
    rw [gD_zero] at this
    exact this
end SV
