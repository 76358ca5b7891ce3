/-! endOf: the reference, and the call -/
section MEN
variable {σ : cg_S} {G : Gm}
theorem m_warsh {e : Nat → Nat → Nat} {n : Nat} {τ0 : cg_S} {Q : cg_S → Prop} (hn : n ≤ 7) (hn2 : ∀ τ, Fr [20] [] [] σ τ → τ.1 0 1 = i32 n) (hf0 : Fr [20] [] [] σ τ0) (hR0 : RX τ0 n e) (h : ∀ τ r, Fr [20] [] [] σ τ → RX τ n r → (∀ s t, s < n → t < n → (r s t ≠ 0 ↔ tcR n (fun s t => t < n ∧ e s t ≠ 0) s t)) → Q τ) : L_X12_reachesIn_145 (i32 0) τ0 Q := by
  refine up (n := n) (fun k τ => Fr [20] [] [] σ τ ∧ ∃ r, RX τ n r ∧ (∀ s t, s < n → t < n → e s t ≠ 0 → r s t ≠ 0) ∧ (∀ s t, s < n → t < n → r s t ≠ 0 → tcR n (fun s t => t < n ∧ e s t ≠ 0) s t) ∧ ∀ s t u, s < n → t < n → u < k → r s u ≠ 0 → r u t ≠ 0 → r s t ≠ 0) (fun w τ => L_X12_reachesIn_145 w τ Q) ?_ ?_ 0 τ0 (by omega) ⟨hf0, e, hR0, fun s t _ _ hne => hne, fun s t _ ht hne C hs hcl => hs t ⟨ht, hne⟩, fun s t u _ _ hu => by omega⟩
  · intro k τ hk hP kk
    obtain ⟨hf, r, hR, p1, p2, p3⟩ := hP
    refine v_X12_reachesIn_145 ?_
    rw [hn2 τ hf]
    simp (disch := omega) only [n0, n1, n2, n3, n4, n5, n6, n7, n8, n9, n49, n97, n98, n114, n102, n115, n119, n109, n112, i32_add, i32_mul, i32_N, i32_le, i32_lt, i32_eq, vpi_iff]
    refine ⟨fun z => by omega, fun _ => ?_⟩
    refine up (n := n) (fun s υ => Fr [20] [] [] σ υ ∧ RX υ n (fun a b => if a < s then wr1 k r a b else r a b)) (fun w υ => L_X12_reachesIn_155 (i32 k) w υ Q) ?_ ?_ 0 τ (by omega) ⟨hf, fun a b ha hb => by have := hR a b ha hb; dsimp only; rw [if_neg (by omega)]; exact this⟩
    · intro s υ hs hP2 kk2
      refine v_X12_reachesIn_155 ?_
      rw [hn2 υ hP2.1]
      simp (disch := omega) only [n0, n1, n2, n3, n4, n5, n6, n7, n8, n9, n49, n97, n98, n114, n102, n115, n119, n109, n112, i32_add, i32_mul, i32_N, i32_le, i32_lt, i32_eq, vpi_iff]
      refine ⟨fun z => by omega, fun _ => ?_⟩
      refine up (n := n) (fun t ω => Fr [20] [] [] σ ω ∧ RX ω n (fun a b => if a < s ∨ (a = s ∧ b < t) then wr1 k r a b else r a b)) (fun w ω => L_X12_reachesIn_165 (i32 k) (i32 s) w ω Q) ?_ ?_ 0 υ (by omega) ⟨hP2.1, fun a b ha hb => by
        have := hP2.2 a b ha hb
        dsimp only at this ⊢
        by_cases c : a < s
        · rw [if_pos c] at this; rw [if_pos (Or.inl c)]; exact this
        · rw [if_neg c] at this; rw [if_neg (by omega)]; exact this⟩
      · intro t ω ht hP3 kk3
        have c1 := hP3.2 s t hs ht
        have c2 := hP3.2 s k hs hk
        have c3 := hP3.2 k t hk ht
        dsimp only at c1 c2 c3
        rw [if_neg (by omega)] at c1
        have e2 : (if s < s ∨ (s = s ∧ k < t) then wr1 k r s k else r s k) = r s k := by
          split
          · exact wr1_k (hR s k hs hk).2
          · rfl
        have e3 : (if k < s ∨ (k = s ∧ t < t) then wr1 k r k t else r k t) = r k t := by
          split
          · exact wr1_k2 (hR k t hk ht).2
          · rfl
        rw [e2] at c2
        rw [e3] at c3
        have nxt : ∀ x : Nat, x = wr1 k r s t → L_X12_reachesIn_165 (i32 k) (i32 s) (i32 (t + 1)) (cg_i ω 20 (7 * s + t) (i32 x)) Q := by
          rintro _ rfl
          refine kk3 _ ⟨hP3.1.tr (Fr.i (by decide)), fun a b ha hb => ?_⟩
          have := hP3.2 a b ha hb
          dsimp only at this ⊢
          rw [ri, if_pos rfl]
          by_cases cc : a = s ∧ b = t
          · rw [cc.1, cc.2, if_pos rfl, if_pos (Or.inr ⟨rfl, by omega⟩)]
            exact ⟨rfl, wr1_le _ _ _ _⟩
          · rw [if_neg (by omega)]
            by_cases c4 : a < s ∨ (a = s ∧ b < t)
            · rw [if_pos c4] at this; rw [if_pos (by omega)]; exact this
            · rw [if_neg c4] at this; rw [if_neg (by omega)]; exact this
        refine v_X12_reachesIn_165 ?_
        rw [hn2 ω hP3.1]
        simp (disch := omega) only [n0, n1, n2, n3, n4, n5, n6, n7, n8, n9, n49, n97, n98, n114, n102, n115, n119, n109, n112, i32_add, i32_mul, i32_N, i32_le, i32_lt, i32_eq, vpi_iff]
        rw [c1.1, c2.1, c3.1]
        have b1 := c1.2
        have b2 := c2.2
        have b3 := c3.2
        simp (disch := omega) only [n0, n1, n2, n3, n4, n5, n6, n7, n8, n9, n49, n97, n98, n114, n102, n115, n119, n109, n112, i32_add, i32_mul, i32_N, i32_le, i32_lt, i32_eq, vpi_iff, vn0, vn1]
        refine ⟨fun z => by omega, fun _ => ⟨by omega, fun z1 => ⟨by omega, ?_⟩, fun z1 => ⟨by omega, fun z2 => ⟨by omega, ?_⟩, fun z2 => ⟨by omega, fun z3 => ⟨by omega, ?_⟩, fun z3 => ⟨by omega, ?_⟩⟩⟩⟩⟩
        all_goals rintro _ rfl
        · exact nxt 1 (by unfold wr1; rw [if_pos (Or.inl z1)])
        · exact nxt 0 (by unfold wr1; rw [if_neg (by omega)])
        · exact nxt 0 (by unfold wr1; rw [if_neg (by omega)])
        · exact nxt 1 (by unfold wr1; rw [if_pos (by omega)])
      · intro ω hP3
        refine v_X12_reachesIn_165 ?_
        rw [hn2 ω hP3.1]
        refine ⟨fun _ => ?_, fun z => absurd ((i32_le (by omega) (by omega)).mpr (Nat.le_refl n)) z⟩
        rw [n1, i32_add]
        refine kk2 ω ⟨hP3.1, fun a b ha hb => ?_⟩
        have := hP3.2 a b ha hb
        dsimp only at this ⊢
        by_cases c : a < s + 1
        · rw [if_pos (by omega)] at this; rw [if_pos c]; exact this
        · rw [if_neg (by omega)] at this; rw [if_neg c]; exact this
    · intro υ hP2
      refine v_X12_reachesIn_155 ?_
      rw [hn2 υ hP2.1]
      refine ⟨fun _ => ?_, fun z => absurd ((i32_le (by omega) (by omega)).mpr (Nat.le_refl n)) z⟩
      rw [n1, i32_add]
      have hw : ∀ a b, wr1 k r a b ≠ 0 ↔ (r a b ≠ 0 ∨ (r a k ≠ 0 ∧ r k b ≠ 0)) := fun a b => by
        unfold wr1
        by_cases c : r a b ≠ 0 ∨ (r a k ≠ 0 ∧ r k b ≠ 0)
        · rw [if_pos c]; exact ⟨fun _ => c, fun _ => by decide⟩
        · rw [if_neg c]; exact ⟨fun z => absurd rfl z, fun z => absurd z c⟩
      refine kk υ ⟨hP2.1, wr1 k r, fun a b ha hb => ?_, fun s t hs ht hne => (hw s t).mpr (Or.inl (p1 s t hs ht hne)), fun s t hs ht hne => ?_, fun s t u hs ht hu h1 h2 => ?_⟩
      · have := hP2.2 a b ha hb
        dsimp only at this
        rw [if_pos ha] at this
        exact this
      · rcases (hw s t).mp hne with z | ⟨z1, z2⟩
        · exact p2 s t hs ht z
        · intro C hC hcl
          have hk1 := p2 s k hs hk z1 C hC hcl
          exact p2 k t hk ht z2 C (fun u hu => hcl k hk hk1 u hu) hcl
      · rw [hw] at h1 h2 ⊢
        by_cases cu : u = k
        · subst cu
          have a1 : r s u ≠ 0 := by rcases h1 with z | z; exact z; exact z.1
          have a2 : r u t ≠ 0 := by rcases h2 with z | z; exact z; exact z.2
          exact Or.inr ⟨a1, a2⟩
        · have hu2 : u < k := by omega
          rcases h1 with z1 | ⟨z1, z2⟩
          · rcases h2 with y1 | ⟨y1, y2⟩
            · exact Or.inl (p3 s t u hs ht hu2 z1 y1)
            · exact Or.inr ⟨p3 s k u hs hk hu2 z1 y1, y2⟩
          · rcases h2 with y1 | ⟨y1, y2⟩
            · exact Or.inr ⟨z1, p3 k t u hk ht hu2 z2 y1⟩
            · exact Or.inr ⟨z1, y2⟩
  · intro τ hP
    obtain ⟨hf, r, hR, p1, p2, p3⟩ := hP
    refine v_X12_reachesIn_145 ?_
    rw [hn2 τ hf]
    refine ⟨fun _ => ?_, fun z => absurd ((i32_le (by omega) (by omega)).mpr (Nat.le_refl n)) z⟩
    refine h τ r hf hR (fun s t hs ht => ⟨p2 s t hs ht, fun hc => ?_⟩)
    have := hc (fun u => u < n ∧ r s u ≠ 0) (fun u hu => ⟨hu.1, p1 s u hs hu.1 hu.2⟩) (fun u hu hC v hv => ⟨hv.1, p3 s v u hs hv.1 hu hC.2 (p1 u v hu hv.1 hv.2)⟩)
    exact this.2
noncomputable def b01 (P : Prop) : Nat := @ite Nat P (Classical.propDecidable P) 1 0
theorem b01_ne {P : Prop} : b01 P ≠ 0 ↔ P := by
  unfold b01
  by_cases c : P
  · rw [if_pos c]; exact ⟨fun _ => c, fun _ => by decide⟩
  · rw [if_neg c]; exact ⟨fun z => absurd rfl z, fun z => absurd z c⟩
theorem b01_le (P : Prop) : b01 P ≤ 1 := by
  unfold b01
  by_cases c : P
  · rw [if_pos c]; omega
  · rw [if_neg c]; omega
theorem b01_1 {P : Prop} (h : P) : b01 P = 1 := by have := b01_ne.mpr h; have := b01_le P; omega
theorem b01_0 {P : Prop} (h : ¬ P) : b01 P = 0 := Classical.byContradiction fun z => h (b01_ne.mp z)
theorem b01_c {P R : Prop} (h : P ↔ R) : b01 P = b01 R := by rw [propext h]
/-- the set, in the reference's cells -/
def SX (τ : cg_S) (n : Nat) (S : Nat → Prop) : Prop := ∀ t, t < n → τ.1 16 t = i32 (b01 (S t))
theorem SX.fr {σ τ : cg_S} {n : Nat} {S : Nat → Prop} {I L D : List Nat} (h : SX σ n S) (hf : Fr I L D σ τ) (h0 : 16 ∉ I) : SX τ n S := fun t ht => by rw [hf.1 16 h0]; exact h t ht
theorem m_staysIn {m : Nat} {S : Nat → Prop} {Q : Int32 → cg_S → Prop} (hG : MG σ G) (hW : GW G) (hm : m < 21) (hS : SX σ (G 0 0) S) (hy : stI G S m → Q 1 σ) (hno : ¬ stI G S m → Q 0 σ) : M_X12_staysIn (i32 m) σ Q := by
  have hn := hW.1
  refine v_X12_staysIn ?_
  refine up (n := G 0 0) (fun k τ => τ = σ ∧ ∀ t, t < k → G 7 (7 * m + t) ≠ 0 → S t) (fun w τ => L_X12_staysIn_2 (i32 m) w τ Q) ?_ ?_ 0 σ (by omega) ⟨rfl, fun t ht => by omega⟩
  · rintro k τ hk ⟨rfl, hP⟩ kk
    have h6 := hW.w6 hm (show k < 7 by omega)
    have hb := b01_le (S k)
    have nxt : (G 7 (7 * m + k) ≠ 0 → S k) → L_X12_staysIn_2 (i32 m) (i32 (k + 1)) τ Q := fun z => kk τ ⟨rfl, fun t ht hw => by
      by_cases e : t = k
      · rw [e] at hw ⊢; exact z hw
      · exact hP t (by omega) hw⟩
    refine v_X12_staysIn_2 ?_
    rw [hG.1.1]
    simp (disch := omega) only [n0, n1, n2, n3, n4, n5, n6, n7, n8, n9, n49, n97, n98, n114, n102, n115, n119, n109, n112, i32_add, i32_mul, i32_N, i32_le, i32_lt, i32_eq, vpi_iff]
    rw [hG.2.2.2.2 (7 * m + k) (by omega), hS k hk]
    simp (disch := omega) only [n0, n1, n2, n3, n4, n5, n6, n7, n8, n9, n49, n97, n98, n114, n102, n115, n119, n109, n112, i32_add, i32_mul, i32_N, i32_le, i32_lt, i32_eq, vpi_iff]
    refine ⟨fun z => by omega, fun _ => ⟨by omega, fun z => nxt (fun y => by omega), fun z => ⟨by omega, fun z2 => nxt (fun _ => b01_ne.mp z2), fun z2 => hno (fun y => ?_)⟩⟩⟩
    exact absurd (b01_ne.mpr (y k hk (by omega))) (by omega)
  · rintro τ ⟨rfl, hP⟩
    refine v_X12_staysIn_2 ?_
    rw [hG.1.1]
    exact ⟨fun _ => hy hP, fun z => absurd ((i32_le (by omega) (by omega)).mpr (Nat.le_refl _)) z⟩
/-- the edges of the moves that were seen -/
def eJ (G : Gm) (S : Nat → Prop) (s k a b : Nat) : Prop := S a ∧ ∃ c, c < G 3 a ∧ (a < s ∨ (a = s ∧ c < k)) ∧ stI G S (3 * a + c) ∧ b < G 0 0 ∧ G 7 (7 * (3 * a + c) + b) ≠ 0
theorem m_reachesIn {S : Nat → Prop} {Q : cg_S → Prop} (hG : MG σ G) (hW : GW G) (hS : SX σ (G 0 0) S) (h : ∀ τ r, Fr [20] [] [] σ τ → RX τ (G 0 0) r → (∀ s t, s < G 0 0 → t < G 0 0 → (r s t ≠ 0 ↔ rI G S s t)) → Q τ) : M_X12_reachesIn σ Q := by
  have hn := hW.1
  refine v_X12_reachesIn ?_
  refine up (n := 49) (fun k τ => Fr [20] [] [] σ τ ∧ ∀ i, i < k → τ.1 20 i = i32 0) (fun w τ => L_X12_reachesIn_2 w τ Q) ?_ ?_ 0 σ (by omega) ⟨Fr.rf σ, fun t ht => by omega⟩
  · rintro k τ hk ⟨hf, hP⟩ kk
    refine v_X12_reachesIn_2 ?_
    simp (disch := omega) only [n0, n1, n2, n3, n4, n5, n6, n7, n8, n9, n49, n97, n98, n114, n102, n115, n119, n109, n112, i32_add, i32_mul, i32_N, i32_le, i32_lt, i32_eq, vpi_iff, vn0]
    refine ⟨fun z => by omega, fun _ => ⟨by omega, ?_⟩⟩
    rintro _ rfl
    refine kk _ ⟨hf.tr (Fr.i (by decide)), fun i hi => ?_⟩
    rw [ri, if_pos rfl]
    by_cases e : i = k
    · rw [if_pos e]
    · rw [if_neg e]; exact hP i (by omega)
  · rintro τ ⟨hf, hP⟩
    refine v_X12_reachesIn_2 ?_
    simp (disch := omega) only [n0, n1, n2, n3, n4, n5, n6, n7, n8, n9, n49, n97, n98, n114, n102, n115, n119, n109, n112, i32_add, i32_mul, i32_N, i32_le, i32_lt, i32_eq, vpi_iff]
    refine ⟨fun _ => ?_, fun z => absurd (Nat.le_refl _) z⟩
    refine up (n := G 0 0) (fun s τ => Fr [20] [] [] σ τ ∧ RX τ (G 0 0) (fun a b => b01 (eJ G S s 0 a b))) (fun w τ => L_X12_reachesIn_23 w τ Q) ?_ ?_ 0 τ (by omega) ⟨hf, fun a b ha hb => ⟨by dsimp only; rw [hP _ (by omega), b01_0 (fun ⟨_, c, _, y, _⟩ => by omega)], b01_le _⟩⟩
    · rintro s τ hs ⟨hf, hX⟩ kk
      have hG2 := hG.fr hf (by decide)
      have g3 := (hW.2.1 s (by omega)).2.2.1
      have e3 := (hG2.2.2.1 s (by omega)).2.1
      refine v_X12_reachesIn_23 ?_
      rw [hG2.1.1]
      simp (disch := omega) only [n0, n1, n2, n3, n4, n5, n6, n7, n8, n9, n49, n97, n98, n114, n102, n115, n119, n109, n112, i32_add, i32_mul, i32_N, i32_le, i32_lt, i32_eq, vpi_iff]
      refine ⟨fun z => by omega, fun _ => ?_⟩
      refine up (n := G 3 s) (fun k τ => Fr [20] [] [] σ τ ∧ RX τ (G 0 0) (fun a b => b01 (eJ G S s k a b))) (fun w τ => L_X12_reachesIn_33 (i32 s) w τ Q) ?_ ?_ 0 τ (by omega) ⟨hf, hX⟩
      · rintro k τ hk ⟨hf, hX⟩ kk2
        have hG2 := hG.fr hf (by decide)
        have hS2 := hS.fr hf (by decide)
        have hb := b01_le (S s)
        refine v_X12_reachesIn_33 ?_
        simp (disch := omega) only [n0, n1, n2, n3, n4, n5, n6, n7, n8, n9, n49, n97, n98, n114, n102, n115, n119, n109, n112, i32_add, i32_mul, i32_N, i32_le, i32_lt, i32_eq, vpi_iff]
        rw [(hG2.2.2.1 s (by omega)).2.1, hS2 s hs]
        simp (disch := omega) only [n0, n1, n2, n3, n4, n5, n6, n7, n8, n9, n49, n97, n98, n114, n102, n115, n119, n109, n112, i32_add, i32_mul, i32_N, i32_le, i32_lt, i32_eq, vpi_iff]
        refine ⟨by omega, fun z => by omega, fun _ => ⟨by omega, fun z => kk τ ⟨hf, fun a b ha hb => ⟨?_, b01_le _⟩⟩, fun z => ?_⟩⟩
        · rw [(hX a b ha hb).1]
          refine congrArg i32 (b01_c ⟨fun ⟨y1, c, y2, y3, y4⟩ => ⟨y1, c, y2, ?_, y4⟩, fun ⟨y1, c, y2, y3, y4⟩ => ⟨y1, c, y2, ?_, y4⟩⟩)
          · rcases y3 with y3 | y3
            · exact Or.inl (by omega)
            · exact Or.inl (by omega)
          · rcases y3 with y3 | y3
            · by_cases e : a = s
              · rw [e] at y1; exact absurd (b01_ne.mpr y1) (by omega)
              · exact Or.inl (by omega)
            · omega
        · rintro _ rfl
          have hSs : S s := b01_ne.mp z
          by_cases hst : stI G S (3 * s + k)
          · refine up (n := G 0 0) (fun t τ => Fr [20] [] [] σ τ ∧ RX τ (G 0 0) (fun a b => if a = s ∧ b < t then b01 (eJ G S s (k + 1) a b) else b01 (eJ G S s k a b))) (fun w τ => L_X12_reachesIn_61 (i32 s) (i32 k) (i32 (3 * s + k)) w τ Q) ?_ ?_ 0 τ (by omega) ⟨hf, fun a b ha hb => by dsimp only; rw [if_neg (by omega)]; exact hX a b ha hb⟩
            · rintro t τ ht ⟨hf, hX⟩ kk3
              have hG2 := hG.fr hf (by decide)
              have hm : 3 * s + k < 21 := by omega
              have h6 := hW.w6 hm (show t < 7 by omega)
              have hc := hX s t hs ht
              dsimp only at hc
              rw [if_neg (by omega)] at hc
              have nxt : ∀ x : Nat, x = b01 (eJ G S s (k + 1) s t) → L_X12_reachesIn_61 (i32 s) (i32 k) (i32 (3 * s + k)) (i32 (t + 1)) (cg_i τ 20 (7 * s + t) (i32 x)) Q := fun x hx => by
                refine kk3 _ ⟨hf.tr (Fr.i (by decide)), fun a b ha hb => ?_⟩
                have := hX a b ha hb
                dsimp only at this ⊢
                rw [ri, if_pos rfl]
                by_cases cc : a = s ∧ b = t
                · rw [cc.1, cc.2, if_pos rfl, if_pos ⟨rfl, by omega⟩, hx]
                  exact ⟨rfl, b01_le _⟩
                · rw [if_neg (by omega)]
                  by_cases c4 : a = s ∧ b < t
                  · rw [if_pos c4] at this; rw [if_pos (by omega)]; exact this
                  · rw [if_neg c4] at this; rw [if_neg (by omega)]; exact this
              refine v_X12_reachesIn_61 ?_
              rw [hG2.1.1]
              simp (disch := omega) only [n0, n1, n2, n3, n4, n5, n6, n7, n8, n9, n49, n97, n98, n114, n102, n115, n119, n109, n112, i32_add, i32_mul, i32_N, i32_le, i32_lt, i32_eq, vpi_iff]
              refine ⟨fun z => by omega, fun _ => m_staysIn hG2 hW hm (hS.fr hf (by decide)) (fun _ => ⟨fun y => absurd y (by decide), fun _ => ?_⟩) (fun y => absurd hst y)⟩
              rw [hc.1, hG2.2.2.2.2 (7 * (3 * s + k) + t) (by omega)]
              have hb2 := hc.2
              simp (disch := omega) only [n0, n1, n2, n3, n4, n5, n6, n7, n8, n9, n49, n97, n98, n114, n102, n115, n119, n109, n112, i32_add, i32_mul, i32_N, i32_le, i32_lt, i32_eq, vpi_iff, vn0, vn1]
              refine ⟨by omega, fun z1 => ⟨by omega, ?_⟩, fun z1 => ⟨by omega, fun z2 => ⟨by omega, ?_⟩, fun z2 => ⟨by omega, ?_⟩⟩⟩
              all_goals rintro _ rfl
              · obtain ⟨y1, c, y2, y3, y4⟩ := b01_ne.mp z1
                exact nxt 1 (b01_1 ⟨y1, c, y2, by omega, y4⟩).symm
              · refine nxt 0 (b01_0 (fun ⟨y1, c, y2, y3, y4, y5, y6⟩ => ?_)).symm
                by_cases e : c = k
                · rw [e] at y6; omega
                · exact absurd ((b01_ne (P := eJ G S s k s t)).mpr ⟨y1, c, y2, by omega, y4, y5, y6⟩) (by omega)
              · exact nxt 1 (b01_1 ⟨hSs, k, hk, by omega, hst, ht, by omega⟩).symm
            · rintro τ ⟨hf, hX⟩
              refine v_X12_reachesIn_61 ?_
              rw [(hG.fr hf (by decide)).1.1]
              refine ⟨fun _ => ?_, fun z => absurd ((i32_le (by omega) (by omega)).mpr (Nat.le_refl _)) z⟩
              rw [n1, i32_add]
              refine kk2 τ ⟨hf, fun a b ha hb => ?_⟩
              have := hX a b ha hb
              dsimp only at this ⊢
              by_cases c : a = s
              · rw [if_pos ⟨c, hb⟩] at this; exact this
              · rw [if_neg (by omega)] at this
                refine ⟨this.1.trans (congrArg i32 (b01_c ⟨fun ⟨y1, c, y2, y3, y4⟩ => ⟨y1, c, y2, by omega, y4⟩, fun ⟨y1, c, y2, y3, y4⟩ => ⟨y1, c, y2, by omega, y4⟩⟩)), b01_le _⟩
          · refine v_X12_reachesIn_61 ?_
            rw [hG2.1.1]
            simp (disch := omega) only [n0, n1, n2, n3, n4, n5, n6, n7, n8, n9, n49, n97, n98, n114, n102, n115, n119, n109, n112, i32_add, i32_mul, i32_N, i32_le, i32_lt, i32_eq, vpi_iff]
            refine ⟨fun z => by omega, fun _ => m_staysIn hG2 hW (by omega) hS2 (fun y => absurd y hst) (fun _ => ⟨fun _ => ?_, fun y => absurd rfl y⟩)⟩
            refine kk2 τ ⟨hf, fun a b ha hb => ⟨(hX a b ha hb).1.trans (congrArg i32 (b01_c ⟨fun ⟨y1, c, y2, y3, y4⟩ => ⟨y1, c, y2, by omega, y4⟩, fun ⟨y1, c, y2, y3, y4, y5⟩ => ⟨y1, c, y2, ?_, y4, y5⟩⟩)), b01_le _⟩⟩
            by_cases e : a = s ∧ c = k
            · rw [e.1, e.2] at y4; exact absurd y4 hst
            · omega
      · rintro τ ⟨hf, hX⟩
        have hG2 := hG.fr hf (by decide)
        refine v_X12_reachesIn_33 ?_
        simp (disch := omega) only [n0, n1, n2, n3, n4, n5, n6, n7, n8, n9, n49, n97, n98, n114, n102, n115, n119, n109, n112, i32_add, i32_mul, i32_N, i32_le, i32_lt, i32_eq, vpi_iff]
        rw [(hG2.2.2.1 s (by omega)).2.1]
        simp (disch := omega) only [n0, n1, n2, n3, n4, n5, n6, n7, n8, n9, n49, n97, n98, n114, n102, n115, n119, n109, n112, i32_add, i32_mul, i32_N, i32_le, i32_lt, i32_eq, vpi_iff]
        refine ⟨by omega, fun _ => kk τ ⟨hf, fun a b ha hb => ⟨(hX a b ha hb).1.trans (congrArg i32 (b01_c ⟨fun ⟨y1, c, y2, y3, y4⟩ => ⟨y1, c, y2, by omega, y4⟩, fun ⟨y1, c, y2, y3, y4⟩ => ⟨y1, c, y2, ?_, y4⟩⟩)), b01_le _⟩⟩, fun z => absurd (Nat.le_refl _) z⟩
        by_cases e : a = s
        · rw [e] at y2 ⊢; exact Or.inr ⟨rfl, y2⟩
        · omega
    · rintro τ ⟨hf, hX⟩
      refine v_X12_reachesIn_23 ?_
      rw [(hG.fr hf (by decide)).1.1]
      refine ⟨fun _ => ?_, fun z => absurd ((i32_le (by omega) (by omega)).mpr (Nat.le_refl _)) z⟩
      refine m_warsh (e := fun a b => b01 (eJ G S (G 0 0) 0 a b)) hn (fun τ hf => (hG.fr hf (by decide)).1.1) hf hX (fun τ2 r f2 hX2 hr => h τ2 r f2 hX2 (fun s t hs ht => (hr s t hs ht).trans ⟨fun hc C h1 h2 => ?_, fun hc C h1 h2 => ?_⟩))
      · have lem : ∀ a b, a < G 0 0 → (b < G 0 0 ∧ b01 (eJ G S (G 0 0) 0 a b) ≠ 0) → eI G S a b := fun a b _ hb => by
          obtain ⟨y1, c, y2, y3, y4, y5, y6⟩ := b01_ne.mp hb.2
          exact ⟨y1, c, y2, y4, y5, y6⟩
        exact hc C (fun u hu => h1 u (lem s u hs hu)) (fun u hu hC v hv => h2 u hu hC v (lem u v hu hv))
      · have lem : ∀ a b, a < G 0 0 → eI G S a b → (b < G 0 0 ∧ b01 (eJ G S (G 0 0) 0 a b) ≠ 0) := fun a b ha ⟨y1, c, y2, y4, y5, y6⟩ => ⟨y5, b01_ne.mpr ⟨y1, c, y2, Or.inl ha, y4, y5, y6⟩⟩
        exact hc C (fun u hu => h1 u (lem s u hs hu)) (fun u hu hC v hv => h2 u hu hC v (lem u v hu hv))
theorem m_isEnd {S : Nat → Prop} {Q : Int32 → cg_S → Prop} (hG : MG σ G) (hW : GW G) (hS : SX σ (G 0 0) S) (hy : ∀ τ, Fr [20] [] [] σ τ → isEC G S → Q 1 τ) (hno : ∀ τ, Fr [20] [] [] σ τ → ¬ isEC G S → Q 0 τ) : M_X12_isEnd σ Q := by
  have hn := hW.1
  refine v_X12_isEnd (m_reachesIn hG hW hS (fun τ r f1 hX hr => ?_))
  have hG1 := hG.fr f1 (by decide)
  have hS1 := hS.fr f1 (by decide)
  refine up (n := G 0 0) (fun k υ => υ = τ ∧ ∀ s t, s < k → S s → t < G 0 0 → S t → rI G S s t) (fun w υ => L_X12_isEnd_6 w υ Q) ?_ ?_ 0 τ (by omega) ⟨rfl, fun s t hs => by omega⟩
  · rintro s υ hs ⟨rfl, hP⟩ kk
    refine v_X12_isEnd_6 ?_
    rw [hG1.1.1]
    simp (disch := omega) only [n0, n1, n2, n3, n4, n5, n6, n7, n8, n9, n49, n97, n98, n114, n102, n115, n119, n109, n112, i32_add, i32_mul, i32_N, i32_le, i32_lt, i32_eq, vpi_iff]
    refine ⟨fun z => by omega, fun _ => ?_⟩
    refine up (n := G 0 0) (fun k υ' => υ' = υ ∧ ∀ t, t < k → S s → S t → rI G S s t) (fun w υ' => L_X12_isEnd_16 (i32 s) w υ' Q) ?_ ?_ 0 υ (by omega) ⟨rfl, fun t ht => by omega⟩
    · rintro t υ' ht ⟨rfl, hP2⟩ kk2
      have b1 := b01_le (S s)
      have b2 := b01_le (S t)
      obtain ⟨x1, x2⟩ := hX s t hs ht
      have nxt : (S s → S t → rI G S s t) → L_X12_isEnd_16 (i32 s) (i32 (t + 1)) υ' Q := fun z => kk2 υ' ⟨rfl, fun t' ht' h1 h2 => by
        by_cases e : t' = t
        · rw [e] at h2 ⊢; exact z h1 h2
        · exact hP2 t' (by omega) h1 h2⟩
      refine v_X12_isEnd_16 ?_
      rw [hG1.1.1]
      simp (disch := omega) only [n0, n1, n2, n3, n4, n5, n6, n7, n8, n9, n49, n97, n98, n114, n102, n115, n119, n109, n112, i32_add, i32_mul, i32_N, i32_le, i32_lt, i32_eq, vpi_iff]
      rw [hS1 s hs, hS1 t ht, x1]
      simp (disch := omega) only [n0, n1, n2, n3, n4, n5, n6, n7, n8, n9, n49, n97, n98, n114, n102, n115, n119, n109, n112, i32_add, i32_mul, i32_N, i32_le, i32_lt, i32_eq, vpi_iff]
      refine ⟨fun z => by omega, fun _ => ⟨by omega, fun z => nxt (fun y => absurd (b01_ne.mpr y) (by omega)), fun z => ⟨by omega, fun z2 => nxt (fun _ y => absurd (b01_ne.mpr y) (by omega)), fun z2 => ⟨by omega, fun z3 => nxt (fun _ _ => (hr s t hs ht).mp z3), fun z3 => hno υ' f1 (fun y => ?_)⟩⟩⟩⟩
      exact absurd ((hr s t hs ht).mpr (y s t hs (b01_ne.mp z) ht (b01_ne.mp z2))) (by omega)
    · rintro υ' ⟨rfl, hP2⟩
      refine v_X12_isEnd_16 ?_
      rw [hG1.1.1]
      refine ⟨fun _ => ?_, fun z => absurd ((i32_le (by omega) (by omega)).mpr (Nat.le_refl _)) z⟩
      rw [n1, i32_add]
      refine kk υ' ⟨rfl, fun s' t hs' h1 ht h2 => ?_⟩
      by_cases e : s' = s
      · rw [e] at h1 ⊢; exact hP2 t ht h1 h2
      · exact hP s' t (by omega) h1 ht h2
  · rintro υ ⟨rfl, hP⟩
    refine v_X12_isEnd_6 ?_
    rw [hG1.1.1]
    exact ⟨fun _ => hy υ f1 hP, fun z => absurd ((i32_le (by omega) (by omega)).mpr (Nat.le_refl _)) z⟩
end MEN
