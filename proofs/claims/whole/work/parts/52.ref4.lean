/-! THE REFERENCE: what is reached -/
theorem vn0 : vp_nar .boolean (i32 0) = i32 0 := rfl
theorem vn1 : vp_nar .boolean (i32 1) = i32 1 := rfl
theorem vnb {k : Nat} (h : k ≤ 1) : vp_nar .boolean (i32 k) = i32 k := by
  have : k = 0 ∨ k = 1 := by omega
  rcases this with rfl | rfl <;> rfl
def wtR (G : Gm) : Nat → Nat → Rat := fun m t => ((G 7 (7 * m + t) : Nat) : Rat)
theorem wtR_ne {G : Gm} {m t : Nat} : wtR G m t ≠ 0 ↔ G 7 (7 * m + t) ≠ 0 := by
  unfold wtR
  rw [Ne, Ne, Rat.natCast_eq_zero_iff]
/-- t is reached from s by one or more steps -/
def c_rch (n : Nat) (wt : Nat → Nat → Rat) (p : Nat → Nat) (s t : Nat) : Prop := ∀ C : Nat → Prop, c_cl n wt p C → (∀ u, u < n → wt (p s) u ≠ 0 → C u) → C t
/-- the cells hold the relation r -/
def RX (τ : cg_S) (n : Nat) (r : Nat → Nat → Nat) : Prop := ∀ s t, s < n → t < n → τ.1 20 (7 * s + t) = i32 (r s t) ∧ r s t ≤ 1
def e01 (w : Nat) : Nat := if w = 0 then 0 else 1
theorem e01_le (w : Nat) : e01 w ≤ 1 := by unfold e01; split <;> omega
/-- one round of Warshall's -/
def wr1 (k : Nat) (r : Nat → Nat → Nat) (s t : Nat) : Nat := if r s t ≠ 0 ∨ (r s k ≠ 0 ∧ r k t ≠ 0) then 1 else 0
theorem wr1_le (k : Nat) (r : Nat → Nat → Nat) (s t : Nat) : wr1 k r s t ≤ 1 := by unfold wr1; split <;> omega
theorem wr1_k {k : Nat} {r : Nat → Nat → Nat} {s : Nat} (h : r s k ≤ 1) : wr1 k r s k = r s k := by
  unfold wr1
  by_cases c : r s k = 0
  · rw [if_neg (by omega)]; omega
  · rw [if_pos (by omega)]; omega
theorem wr1_k2 {k : Nat} {r : Nat → Nat → Nat} {t : Nat} (h : r k t ≤ 1) : wr1 k r k t = r k t := by
  unfold wr1
  by_cases c : r k t = 0
  · rw [if_neg (by omega)]; omega
  · rw [if_pos (by omega)]; omega
theorem m_reaches {p : Nat → Nat} {G : Gm} {σ : cg_S} {Q : cg_S → Prop} (hW : GW G) (hp : MP σ p) (hG : MG σ G) (h : ∀ τ r, Fr [20] [] [] σ τ → RX τ (G 0 0) r → (∀ s t, s < G 0 0 → t < G 0 0 → (r s t ≠ 0 ↔ c_rch (G 0 0) (wtR G) (mv p) s t)) → Q τ) : M_X12_reaches σ Q := by
  have hn := hW.1
  generalize hnn : G 0 0 = n at *
  have hn2 : ∀ τ, Fr [20] [] [] σ τ → τ.1 0 1 = i32 n := fun τ hf => by rw [(hG.fr hf (by decide)).1.1, hnn]
  refine v_X12_reaches ?_
  -- the rounds
  have round : ∀ τ, Fr [20] [] [] σ τ → RX τ n (fun s t => e01 (G 7 (7 * mv p s + t))) → L_X12_reaches_59 (i32 0) τ Q := by
    intro τ0 hf0 hR0
    refine up (n := n) (fun k τ => Fr [20] [] [] σ τ ∧ ∃ r, RX τ n r ∧ (∀ s t, s < n → t < n → G 7 (7 * mv p s + t) ≠ 0 → r s t ≠ 0) ∧ (∀ s t, s < n → t < n → r s t ≠ 0 → c_rch n (wtR G) (mv p) s t) ∧ ∀ s t u, s < n → t < n → u < k → r s u ≠ 0 → r u t ≠ 0 → r s t ≠ 0) (fun w τ => L_X12_reaches_59 w τ Q) ?_ ?_ 0 τ0 (by omega) ⟨hf0, _, hR0, fun s t _ _ hne => by unfold e01; rw [if_neg hne]; decide, fun s t _ ht hne C hcl hs => hs t ht (wtR_ne.mpr (fun z => hne (by unfold e01; rw [if_pos z]))), fun s t u _ _ hu => by omega⟩
    · intro k τ hk hP kk
      obtain ⟨hf, r, hR, p1, p2, p3⟩ := hP
      refine v_X12_reaches_59 ?_
      rw [hn2 τ hf]
      simp (disch := omega) only [n0, n1, n2, n3, n4, n5, n6, n7, n8, n9, n49, n97, n98, n114, n102, n115, n119, n109, n112, i32_add, i32_mul, i32_N, i32_le, i32_lt, i32_eq, vpi_iff]
      refine ⟨fun z => by omega, fun _ => ?_⟩
      refine up (n := n) (fun s υ => Fr [20] [] [] σ υ ∧ RX υ n (fun a b => if a < s then wr1 k r a b else r a b)) (fun w υ => L_X12_reaches_69 (i32 k) w υ Q) ?_ ?_ 0 τ (by omega) ⟨hf, fun a b ha hb => by have := hR a b ha hb; dsimp only; rw [if_neg (by omega)]; exact this⟩
      · intro s υ hs hP2 kk2
        refine v_X12_reaches_69 ?_
        rw [hn2 υ hP2.1]
        simp (disch := omega) only [n0, n1, n2, n3, n4, n5, n6, n7, n8, n9, n49, n97, n98, n114, n102, n115, n119, n109, n112, i32_add, i32_mul, i32_N, i32_le, i32_lt, i32_eq, vpi_iff]
        refine ⟨fun z => by omega, fun _ => ?_⟩
        refine up (n := n) (fun t ω => Fr [20] [] [] σ ω ∧ RX ω n (fun a b => if a < s ∨ (a = s ∧ b < t) then wr1 k r a b else r a b)) (fun w ω => L_X12_reaches_79 (i32 k) (i32 s) w ω Q) ?_ ?_ 0 υ (by omega) ⟨hP2.1, fun a b ha hb => by
          have := hP2.2 a b ha hb
          dsimp only at this ⊢
          by_cases c : a < s
          · rw [if_pos c] at this; rw [if_pos (Or.inl c)]; exact this
          · rw [if_neg c] at this; rw [if_neg (by omega)]; exact this⟩
        · intro t ω ht hP3 kk3
          have c1 := hP3.2 s t hs ht
          have c2 := hP3.2 s k hs hk
          have c3 := hP3.2 k t hk ht
          dsimp only at c1 c2 c3
          rw [if_neg (by omega)] at c1
          have e2 : (if s < s ∨ (s = s ∧ k < t) then wr1 k r s k else r s k) = r s k := by
            split
            · exact wr1_k (hR s k hs hk).2
            · rfl
          have e3 : (if k < s ∨ (k = s ∧ t < t) then wr1 k r k t else r k t) = r k t := by
            split
            · exact wr1_k2 (hR k t hk ht).2
            · rfl
          rw [e2] at c2
          rw [e3] at c3
          have nxt : ∀ x : Nat, x = wr1 k r s t → L_X12_reaches_79 (i32 k) (i32 s) (i32 (t + 1)) (cg_i ω 20 (7 * s + t) (i32 x)) Q := by
            rintro _ rfl
            refine kk3 _ ⟨hP3.1.tr (Fr.i (by decide)), fun a b ha hb => ?_⟩
            have := hP3.2 a b ha hb
            dsimp only at this ⊢
            rw [ri, if_pos rfl]
            by_cases cc : a = s ∧ b = t
            · rw [cc.1, cc.2, if_pos rfl, if_pos (Or.inr ⟨rfl, by omega⟩)]
              exact ⟨rfl, wr1_le _ _ _ _⟩
            · rw [if_neg (by omega)]
              by_cases c4 : a < s ∨ (a = s ∧ b < t)
              · rw [if_pos c4] at this; rw [if_pos (by omega)]; exact this
              · rw [if_neg c4] at this; rw [if_neg (by omega)]; exact this
          refine v_X12_reaches_79 ?_
          rw [hn2 ω hP3.1]
          simp (disch := omega) only [n0, n1, n2, n3, n4, n5, n6, n7, n8, n9, n49, n97, n98, n114, n102, n115, n119, n109, n112, i32_add, i32_mul, i32_N, i32_le, i32_lt, i32_eq, vpi_iff]
          rw [c1.1, c2.1, c3.1]
          have b1 := c1.2
          have b2 := c2.2
          have b3 := c3.2
          simp (disch := omega) only [n0, n1, n2, n3, n4, n5, n6, n7, n8, n9, n49, n97, n98, n114, n102, n115, n119, n109, n112, i32_add, i32_mul, i32_N, i32_le, i32_lt, i32_eq, vpi_iff, vn0, vn1]
          refine ⟨fun z => by omega, fun _ => ⟨by omega, fun z1 => ⟨by omega, ?_⟩, fun z1 => ⟨by omega, fun z2 => ⟨by omega, ?_⟩, fun z2 => ⟨by omega, fun z3 => ⟨by omega, ?_⟩, fun z3 => ⟨by omega, ?_⟩⟩⟩⟩⟩
          all_goals rintro _ rfl
          · exact nxt 1 (by unfold wr1; rw [if_pos (Or.inl z1)])
          · exact nxt 0 (by unfold wr1; rw [if_neg (by omega)])
          · exact nxt 0 (by unfold wr1; rw [if_neg (by omega)])
          · exact nxt 1 (by unfold wr1; rw [if_pos (by omega)])
        · intro ω hP3
          refine v_X12_reaches_79 ?_
          rw [hn2 ω hP3.1]
          refine ⟨fun _ => ?_, fun z => absurd ((i32_le (by omega) (by omega)).mpr (Nat.le_refl n)) z⟩
          rw [n1, i32_add]
          refine kk2 ω ⟨hP3.1, fun a b ha hb => ?_⟩
          have := hP3.2 a b ha hb
          dsimp only at this ⊢
          by_cases c : a < s + 1
          · rw [if_pos (by omega)] at this; rw [if_pos c]; exact this
          · rw [if_neg (by omega)] at this; rw [if_neg c]; exact this
      · intro υ hP2
        refine v_X12_reaches_69 ?_
        rw [hn2 υ hP2.1]
        refine ⟨fun _ => ?_, fun z => absurd ((i32_le (by omega) (by omega)).mpr (Nat.le_refl n)) z⟩
        rw [n1, i32_add]
        have hw : ∀ a b, wr1 k r a b ≠ 0 ↔ (r a b ≠ 0 ∨ (r a k ≠ 0 ∧ r k b ≠ 0)) := fun a b => by
          unfold wr1
          by_cases c : r a b ≠ 0 ∨ (r a k ≠ 0 ∧ r k b ≠ 0)
          · rw [if_pos c]; exact ⟨fun _ => c, fun _ => by decide⟩
          · rw [if_neg c]; exact ⟨fun z => absurd rfl z, fun z => absurd z c⟩
        refine kk υ ⟨hP2.1, wr1 k r, fun a b ha hb => ?_, fun s t hs ht hne => (hw s t).mpr (Or.inl (p1 s t hs ht hne)), fun s t hs ht hne => ?_, fun s t u hs ht hu h1 h2 => ?_⟩
        · have := hP2.2 a b ha hb
          dsimp only at this
          rw [if_pos ha] at this
          exact this
        · rcases (hw s t).mp hne with z | ⟨z1, z2⟩
          · exact p2 s t hs ht z
          · intro C hcl hC
            have hk1 := p2 s k hs hk z1 C hcl hC
            exact p2 k t hk ht z2 C hcl (fun u hu hwu => hcl k hk hk1 u hu hwu)
        · rw [hw] at h1 h2 ⊢
          by_cases cu : u = k
          · subst cu
            have a1 : r s u ≠ 0 := by rcases h1 with z | z; exact z; exact z.1
            have a2 : r u t ≠ 0 := by rcases h2 with z | z; exact z; exact z.2
            exact Or.inr ⟨a1, a2⟩
          · have hu2 : u < k := by omega
            rcases h1 with z1 | ⟨z1, z2⟩
            · rcases h2 with y1 | ⟨y1, y2⟩
              · exact Or.inl (p3 s t u hs ht hu2 z1 y1)
              · exact Or.inr ⟨p3 s k u hs hk hu2 z1 y1, y2⟩
            · rcases h2 with y1 | ⟨y1, y2⟩
              · exact Or.inr ⟨z1, p3 k t u hk ht hu2 z2 y1⟩
              · exact Or.inr ⟨z1, y2⟩
    · intro τ hP
      obtain ⟨hf, r, hR, p1, p2, p3⟩ := hP
      refine v_X12_reaches_59 ?_
      rw [hn2 τ hf]
      refine ⟨fun _ => ?_, fun z => absurd ((i32_le (by omega) (by omega)).mpr (Nat.le_refl n)) z⟩
      refine h τ r hf hR (fun s t hs ht => ⟨p2 s t hs ht, fun hc => ?_⟩)
      have := hc (fun u => u < n ∧ r s u ≠ 0) (fun u hu hC v hv hwv => ⟨hv, p3 s v u hs hv hu hC.2 (p1 u v hu hv (wtR_ne.mp hwv))⟩) (fun u hu hwu => ⟨hu, p1 s u hs hu (wtR_ne.mp hwu)⟩)
      exact this.2
  -- the edges
  refine up (n := n) (fun s τ => Fr [20] [] [] σ τ ∧ ∀ a b, a < s → b < n → τ.1 20 (7 * a + b) = i32 (e01 (G 7 (7 * mv p a + b)))) (fun w τ => L_X12_reaches_2 w τ Q) ?_ ?_ 0 σ (by omega) ⟨Fr.rf σ, fun a b ha => by omega⟩
  · intro s τ hs hP kk
    refine v_X12_reaches_2 ?_
    rw [hn2 τ hP.1]
    simp (disch := omega) only [n0, n1, n2, n3, n4, n5, n6, n7, n8, n9, n49, n97, n98, n114, n102, n115, n119, n109, n112, i32_add, i32_mul, i32_N, i32_le, i32_lt, i32_eq, vpi_iff]
    refine ⟨fun z => by omega, fun _ => ?_⟩
    refine up (n := n) (fun t υ => Fr [20] [] [] σ υ ∧ ∀ a b, (a < s ∧ b < n ∨ a = s ∧ b < t) → υ.1 20 (7 * a + b) = i32 (e01 (G 7 (7 * mv p a + b)))) (fun w υ => L_X12_reaches_12 (i32 s) w υ Q) ?_ ?_ 0 τ (by omega) ⟨hP.1, fun a b hab => hP.2 a b (by omega) (by omega)⟩
    · intro t υ ht hP2 kk2
      have nxt : ∀ x : Nat, x = e01 (G 7 (7 * mv p s + t)) → L_X12_reaches_12 (i32 s) (i32 (t + 1)) (cg_i υ 20 (7 * s + t) (i32 x)) Q := by
        rintro _ rfl
        refine kk2 _ ⟨hP2.1.tr (Fr.i (by decide)), fun a b hab => ?_⟩
        rw [ri, if_pos rfl]
        by_cases cc : a = s ∧ b = t
        · rw [cc.1, cc.2, if_pos rfl]
        · rw [if_neg (by omega)]; exact hP2.2 a b (by omega)
      have hw6 := hW.w6 (mv_lt (show s < 7 by omega) (hp s (by omega)).2) (show t < 7 by omega)
      refine v_X12_reaches_12 ?_
      rw [hn2 υ hP2.1]
      simp (disch := omega) only [n0, n1, n2, n3, n4, n5, n6, n7, n8, n9, n49, n97, n98, n114, n102, n115, n119, n109, n112, i32_add, i32_mul, i32_N, i32_le, i32_lt, i32_eq, vpi_iff]
      refine ⟨fun z => by omega, fun _ => m_weightTo (by omega) (by omega) (hp.fr hP2.1 (by decide)) (hG.fr hP2.1 (by decide)) ?_⟩
      simp (disch := omega) only [n0, n1, n2, n3, n4, n5, n6, n7, n8, n9, n49, n97, n98, n114, n102, n115, n119, n109, n112, i32_add, i32_mul, i32_N, i32_le, i32_lt, i32_eq, vpi_iff, vn0, vn1]
      refine ⟨fun z => ⟨by omega, ?_⟩, fun z => ⟨by omega, ?_⟩⟩
      all_goals rintro _ rfl
      · exact nxt 0 (by unfold e01; rw [if_pos (by omega)])
      · exact nxt 1 (by unfold e01; rw [if_neg (by omega)])
    · intro υ hP2
      refine v_X12_reaches_12 ?_
      rw [hn2 υ hP2.1]
      refine ⟨fun _ => ?_, fun z => absurd ((i32_le (by omega) (by omega)).mpr (Nat.le_refl n)) z⟩
      rw [n1, i32_add]
      exact kk υ ⟨hP2.1, fun a b ha hb => hP2.2 a b (by omega)⟩
  · intro τ hP
    refine v_X12_reaches_2 ?_
    rw [hn2 τ hP.1]
    refine ⟨fun _ => ?_, fun z => absurd ((i32_le (by omega) (by omega)).mpr (Nat.le_refl n)) z⟩
    exact round τ hP.1 (fun s t hs ht => ⟨hP.2 s t hs ht, e01_le _⟩)
