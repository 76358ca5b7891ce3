/-! LIKENESS: the reference; classOf, classes -/
section LM
variable {σ : cg_S} {G : Gm} {g : Nat → Nat}
theorem m_weightInto {c m : Nat} {Q : Int32 → cg_S → Prop} (hG : MG σ G) (hW : GW G) (hg : CL σ 11 (G 0 0) g) (hgb : ∀ s, s < G 0 0 → g s < 7) (hc : c < 7) (hm : m < 21) (h : Q (i32 (wiG G g m c)) σ) : M_X12_weightInto (i32 m) (i32 c) σ Q := by
  have hn := hW.1
  refine v_X12_weightInto ?_
  refine up2 (n := G 0 0) (fun k (v : Int32) τ => τ = σ ∧ v = i32 (sN k (fun t => if g t = c then G 7 (7 * m + t) else 0))) (fun v w τ => L_X12_weightInto_5 (i32 m) (i32 c) v w τ Q) ?_ ?_ 0 (0 : Int32) σ (by omega) ⟨rfl, rfl⟩
  · rintro k v τ hk ⟨rfl, rfl⟩ kk
    have hgk := hgb k hk
    refine v_X12_weightInto_5 ?_
    rw [hG.1.1]
    simp (disch := omega) only [n0, n1, n2, n3, n4, n5, n6, n7, n8, n9, n49, n97, n98, n114, n102, n115, n119, n109, n112, i32_add, i32_mul, i32_N, i32_le, i32_lt, i32_eq, vpi_iff]
    rw [hg k hk]
    simp (disch := omega) only [n0, n1, n2, n3, n4, n5, n6, n7, n8, n9, n49, n97, n98, n114, n102, n115, n119, n109, n112, i32_add, i32_mul, i32_N, i32_le, i32_lt, i32_eq, vpi_iff]
    refine ⟨fun z => by omega, fun _ => ⟨by omega, fun z => ?_, fun z => ⟨by omega, ?_⟩⟩⟩
    · rintro _ rfl
      refine kk _ τ ⟨rfl, ?_⟩
      rw [sN, if_neg z]
    · rw [hG.2.2.2.2 (7 * m + k) (by omega), i32_add]
      rintro _ rfl
      refine kk _ τ ⟨rfl, ?_⟩
      rw [sN, if_pos z]
  · rintro v τ ⟨rfl, rfl⟩
    refine v_X12_weightInto_5 ?_
    rw [hG.1.1]
    exact ⟨fun _ => h, fun z => absurd ((i32_le (by omega) (by omega)).mpr (Nat.le_refl _)) z⟩
theorem m_isLike {x y : Nat} {Q : Int32 → cg_S → Prop} (hG : MG σ G) (hW : GW G) (hg : CL σ 11 (G 0 0) g) (hgb : ∀ s, s < G 0 0 → g s < 7) (hx : x < 21) (hy : y < 21) (h1 : lkC G g x y → Q 1 σ) (h0 : ¬ lkC G g x y → Q 0 σ) : M_X12_isLikeChoice (i32 x) (i32 y) σ Q := by
  have hn := hW.1
  obtain ⟨x1, x2, x3⟩ := hG.2.2.2.1 x hx
  obtain ⟨y1, y2, y3⟩ := hG.2.2.2.1 y hy
  have wx := hW.2.2.1 x hx
  have wy := hW.2.2.1 y hy
  refine v_X12_isLikeChoice ?_
  simp (disch := omega) only [n0, n1, n2, n3, n4, n5, n6, n7, n8, n9, n49, n97, n98, n114, n102, n115, n119, n109, n112, i32_add, i32_mul, i32_N, i32_le, i32_lt, i32_eq, vpi_iff]
  rw [x1, x2, y1, y2]
  simp (disch := omega) only [n0, n1, n2, n3, n4, n5, n6, n7, n8, n9, n49, n97, n98, n114, n102, n115, n119, n109, n112, i32_add, i32_mul, i32_N, i32_le, i32_lt, i32_eq, vpi_iff]
  refine ⟨by omega, by omega, fun z => h0 (fun l => z l.1), fun z => ⟨by omega, by omega, fun z2 => ?_, fun z2 => h0 (fun l => z2 l.2.1)⟩⟩
  refine up (n := G 0 0) (fun k τ => τ = σ ∧ ∀ c, c < k → wiG G g x c * G 6 y = wiG G g y c * G 6 x) (fun w τ => L_X12_isLikeChoice_34 (i32 x) (i32 y) w τ Q) ?_ ?_ 0 σ (by omega) ⟨rfl, fun c hc => by omega⟩
  · rintro k τ hk ⟨rfl, hP⟩ kk
    have b1 := wiG_le (g := g) hW hx k
    have b2 := wiG_le (g := g) hW hy k
    have m1 : wiG G g x k * G 6 y ≤ 6 * 6 := Nat.mul_le_mul b1 wy.2.2.1
    have m2 : wiG G g y k * G 6 x ≤ 6 * 6 := Nat.mul_le_mul b2 wx.2.2.1
    refine v_X12_isLikeChoice_34 ?_
    rw [hG.1.1]
    simp (disch := omega) only [n0, n1, n2, n3, n4, n5, n6, n7, n8, n9, n49, n97, n98, n114, n102, n115, n119, n109, n112, i32_add, i32_mul, i32_N, i32_le, i32_lt, i32_eq, vpi_iff]
    refine ⟨fun z => by omega, fun _ => m_weightInto hG hW hg hgb (by omega) hx ⟨by omega, m_weightInto hG hW hg hgb (by omega) hy ⟨by omega, ?_⟩⟩⟩
    rw [y3, x3, i32_mul, i32_mul, i32_eq (by omega) (by omega)]
    refine ⟨fun e => kk τ ⟨rfl, fun c hc => ?_⟩, fun e => h0 (fun l => e (l.2.2 k hk))⟩
    by_cases c1 : c = k
    · rw [c1]; exact e
    · exact hP c (by omega)
  · rintro τ ⟨rfl, hP⟩
    refine v_X12_isLikeChoice_34 ?_
    rw [hG.1.1]
    exact ⟨fun _ => h1 ⟨z, z2, hP⟩, fun z => absurd ((i32_le (by omega) (by omega)).mpr (Nat.le_refl _)) z⟩
theorem m_follows {s t : Nat} {Q : Int32 → cg_S → Prop} (hG : MG σ G) (hW : GW G) (hg : CL σ 11 (G 0 0) g) (hgb : ∀ s, s < G 0 0 → g s < 7) (hs : s < G 0 0) (ht : t < G 0 0) (h1 : foL G g s t → Q 1 σ) (h0 : ¬ foL G g s t → Q 0 σ) : M_X12_follows (i32 s) (i32 t) σ Q := by
  have hn := hW.1
  have g3 := (hW.2.1 s (by omega)).2.2.1
  have g3t := (hW.2.1 t (by omega)).2.2.1
  have e3 := (hG.2.2.1 s (by omega)).2.1
  have e3t := (hG.2.2.1 t (by omega)).2.1
  refine v_X12_follows ?_
  refine up (n := G 3 s) (fun k τ => τ = σ ∧ ∀ c, c < k → ∃ d, d < G 3 t ∧ lkC G g (3 * s + c) (3 * t + d)) (fun w τ => L_X12_follows_2 (i32 s) (i32 t) w τ Q) ?_ ?_ 0 σ (by omega) ⟨rfl, fun c hc => by omega⟩
  · rintro k τ hk ⟨rfl, hP⟩ kk
    refine v_X12_follows_2 ?_
    simp (disch := omega) only [n0, n1, n2, n3, n4, n5, n6, n7, n8, n9, n49, n97, n98, n114, n102, n115, n119, n109, n112, i32_add, i32_mul, i32_N, i32_le, i32_lt, i32_eq, vpi_iff]
    rw [e3]
    simp (disch := omega) only [n0, n1, n2, n3, n4, n5, n6, n7, n8, n9, n49, n97, n98, n114, n102, n115, n119, n109, n112, i32_add, i32_mul, i32_N, i32_le, i32_lt, i32_eq, vpi_iff]
    refine ⟨by omega, fun z => by omega, fun _ => ?_⟩
    refine up2 (n := G 3 t) (fun d b υ => υ = τ ∧ b ≤ 1 ∧ (b = 1 ↔ ∃ e, e < d ∧ lkC G g (3 * s + k) (3 * t + e))) (fun b w υ => L_X12_follows_18 (i32 s) (i32 t) (i32 k) (i32 b) w υ Q) ?_ ?_ 0 0 τ (by omega) ⟨rfl, by omega, fun z => by omega, fun ⟨e, he, _⟩ => by omega⟩
    · rintro d b υ hd ⟨rfl, hb, hbe⟩ kk2
      refine v_X12_follows_18 ?_
      simp (disch := omega) only [n0, n1, n2, n3, n4, n5, n6, n7, n8, n9, n49, n97, n98, n114, n102, n115, n119, n109, n112, i32_add, i32_mul, i32_N, i32_le, i32_lt, i32_eq, vpi_iff]
      rw [e3t]
      simp (disch := omega) only [n0, n1, n2, n3, n4, n5, n6, n7, n8, n9, n49, n97, n98, n114, n102, n115, n119, n109, n112, i32_add, i32_mul, i32_N, i32_le, i32_lt, i32_eq, vpi_iff]
      refine ⟨by omega, fun z => by omega, fun _ => ⟨fun z => kk2 1 υ ⟨rfl, by omega, fun _ => ?_, fun _ => rfl⟩, fun z => m_isLike hG hW hg hgb (by omega) (by omega) (fun l => ⟨fun y => absurd y (by decide), fun _ => kk2 1 υ ⟨rfl, by omega, fun _ => ⟨d, by omega, l⟩, fun _ => rfl⟩⟩) (fun l => ⟨fun _ => kk2 0 υ ⟨rfl, by omega, fun y => by omega, fun ⟨e, he, l2⟩ => ?_⟩, fun y => absurd rfl y⟩)⟩⟩
      · obtain ⟨e, he, l⟩ := hbe.mp (by omega)
        exact ⟨e, by omega, l⟩
      · by_cases c : e = d
        · rw [c] at l2; exact absurd l2 l
        · have := hbe.mpr ⟨e, by omega, l2⟩
          omega
    · rintro b υ ⟨rfl, hb, hbe⟩
      refine v_X12_follows_18 ?_
      simp (disch := omega) only [n0, n1, n2, n3, n4, n5, n6, n7, n8, n9, n49, n97, n98, n114, n102, n115, n119, n109, n112, i32_add, i32_mul, i32_N, i32_le, i32_lt, i32_eq, vpi_iff]
      rw [e3t]
      refine ⟨by omega, fun _ => ⟨fun z => kk υ ⟨rfl, fun c hc => ?_⟩, fun z => h0 (fun f => ?_)⟩, fun z => absurd ((i32_le (by omega) (by omega)).mpr (Nat.le_refl _)) z⟩
      · by_cases c1 : c = k
        · rw [c1]; exact hbe.mp (by omega)
        · exact hP c (by omega)
      · have := hbe.mpr (f k hk); omega
  · rintro τ ⟨rfl, hP⟩
    refine v_X12_follows_2 ?_
    simp (disch := omega) only [n0, n1, n2, n3, n4, n5, n6, n7, n8, n9, n49, n97, n98, n114, n102, n115, n119, n109, n112, i32_add, i32_mul, i32_N, i32_le, i32_lt, i32_eq, vpi_iff]
    rw [e3]
    exact ⟨by omega, fun _ => h1 hP, fun z => absurd ((i32_le (by omega) (by omega)).mpr (Nat.le_refl _)) z⟩
theorem dn1 : ∀ k : Fin 8, i32 (k.val + 1) - 1 = i32 k.val ∧ i32 (k.val + 1) + (-1) = i32 k.val := by decide
/-- downward, the last that is like is the lowest -/
def lwS (E : Nat → Nat → Prop) (s k t : Nat) : Prop := t ≤ s ∧ (t = s ∨ (k ≤ t ∧ E t s)) ∧ ∀ u, k ≤ u → u < t → ¬ E u s
theorem lwS_step {E : Nat → Nat → Prop} {s k t : Nat} (hk : k < s) (h : lwS E s (k + 1) t) (hE : E k s) : lwS E s k k := ⟨by omega, Or.inr ⟨Nat.le_refl k, hE⟩, fun u h1 h2 => by omega⟩
theorem lwS_skip {E : Nat → Nat → Prop} {s k t : Nat} (h : lwS E s (k + 1) t) (hE : ¬ E k s) : lwS E s k t := ⟨h.1, h.2.1.imp id (fun z => ⟨by omega, z.2⟩), fun u h1 h2 => by
  by_cases c : u = k
  · rw [c]; exact hE
  · exact h.2.2 u (by omega) h2⟩
theorem m_groups {Q : cg_S → Prop} (hG : MG σ G) (hW : GW G) (hw : whole G) (h : ∀ τ g, Fr [11, 12] [] [] σ τ → CL τ 11 (G 0 0) g → GS G 7 g → Q τ) : M_X12_groups σ Q := by
  have hn := hW.1
  have hb : ∀ k {g : Nat → Nat}, GS G k g → ∀ s, s < G 0 0 → g s < 7 := fun k g hg s hs => by have := ((GS_good hw k hg).1 s hs).1; omega
  refine v_X12_groups ?_
  refine up2 (n := G 0 0) (fun k g τ => Fr [11, 12] [] [] σ τ ∧ CL τ 11 k g ∧ ∀ s, s < k → g s ≤ s ∧ (g s = s ∨ loL G (g s) s) ∧ ∀ u, u < g s → ¬ loL G u s) (fun _ w τ => L_X12_groups_2 w τ Q) ?_ ?_ 0 (fun _ => 0) σ (by omega) ⟨Fr.rf σ, fun s hs => by omega, fun s hs => by omega⟩
  · rintro k g τ hk ⟨hf, hg, hP⟩ kk
    have hG2 := hG.fr hf (by decide)
    have low : ∀ j, j ≤ k → ∀ υ t, Fr [11, 12] [] [] σ υ → (∀ s, s < k → υ.1 11 s = i32 (g s)) → υ.1 11 k = i32 t → lwS (loL G) k j t → L_X12_groups_21 (i32 k) (i32 j + (-1)) υ Q := by
      intro j
      induction j with
      | zero =>
        intro _ υ t hf2 h1 h2 h3
        refine v_X12_groups_21 ⟨fun _ => ?_, fun z => absurd (by decide) z⟩
        rw [i32_s]
        refine kk (upd1 g k t) υ ⟨hf2, fun s hs => ?_, fun s hs => ?_⟩
        · unfold upd1
          by_cases c : s = k
          · rw [if_pos c, c]; exact h2
          · rw [if_neg c]; exact h1 s (by omega)
        · unfold upd1
          by_cases c : s = k
          · rw [if_pos c, c]; exact ⟨h3.1, h3.2.1.imp id (fun z => z.2), fun u hu => h3.2.2 u (Nat.zero_le u) hu⟩
          · rw [if_neg c]; exact hP s (by omega)
      | succ j ih =>
        intro hj υ t hf2 h1 h2 h3
        have hG3 := hG.fr hf2 (by decide)
        have ak := hG3.2.1 k hk
        have aj := hG3.2.1 j (by omega)
        obtain ⟨b1, b2, b3, b4⟩ := hG3.2.2.1 k (by omega)
        obtain ⟨c1, c2, c3, c4⟩ := hG3.2.2.1 j (by omega)
        have wk := hW.2.1 k (by omega)
        have wj := hW.2.1 j (by omega)
        have skip : ¬ loL G j k → L_X12_groups_21 (i32 k) (i32 j + (-1)) υ Q := fun z => ih (by omega) υ t hf2 h1 h2 (lwS_skip h3 z)
        have hown : ∀ x : Nat, (if x = 1 then 97 else 98) < 2147483648 := fun x => by split <;> omega
        have h1' := hown (G 1 k)
        have h2' := hown (G 1 j)
        rw [(dn1 ⟨j, by omega⟩).2]
        refine v_X12_groups_21 ?_
        simp (disch := omega) only [n0, n1, n2, n3, n4, n5, n6, n7, n8, n9, n49, n97, n98, n114, n102, n115, n119, n109, n112, i32_add, i32_mul, i32_N, i32_le, i32_lt, i32_eq, vpi_iff]
        rw [ak, aj, b1, c1, b3, c3]
        rw [i32_eq (by omega) (by omega), i32_eq (by omega) (by omega), i32_eq (by omega) (by omega)]
        have hpl : (if G 1 k = 1 then 97 else 98) = (if G 1 j = 1 then 97 else 98) ↔ G 1 k = G 1 j := by
          split <;> split <;> omega
        rw [hpl]
        refine ⟨fun z => by omega, fun _ => ⟨by omega, by omega, fun z => skip (fun e => z e.1.symm), fun z => ⟨by omega, by omega, fun z2 => skip (fun e => z2 e.2.1.symm), fun z2 => ⟨by omega, by omega, fun z3 => skip (fun e => z3 ?_), fun z3 => ⟨by omega, ?_⟩⟩⟩⟩⟩
        · have := e.2.2; omega
        · rintro _ rfl
          refine ih (by omega) _ j (hf2.tr (Fr.i (by decide))) (fun s hs => by rw [ri, if_pos rfl, if_neg (by omega)]; exact h1 s hs) (by rw [ri, if_pos rfl, if_pos rfl]) (lwS_step (by omega) h3 ⟨z.symm, z2.symm, by omega⟩)
    refine v_X12_groups_2 ?_
    rw [hG2.1.1]
    simp (disch := omega) only [n0, n1, n2, n3, n4, n5, n6, n7, n8, n9, n49, n97, n98, n114, n102, n115, n119, n109, n112, i32_add, i32_mul, i32_N, i32_le, i32_lt, i32_eq, vpi_iff]
    refine ⟨fun z => by omega, fun _ => ⟨by omega, ?_⟩⟩
    rintro _ rfl
    rintro _ rfl
    have hd : i32 k - i32 1 = i32 k + (-1) := by
      have : ∀ k : Fin 8, i32 k.val - i32 1 = i32 k.val + (-1) := by decide
      exact this ⟨k, by omega⟩
    rw [hd]
    exact low k (Nat.le_refl k) _ k (hf.tr (Fr.i (by decide))) (fun s hs => by rw [ri, if_pos rfl, if_neg (by omega)]; exact hg s hs) (by rw [ri, if_pos rfl, if_pos rfl]) ⟨Nat.le_refl k, Or.inl rfl, fun u h1 h2 => by omega⟩
  · rintro g τ ⟨hf, hg, hP⟩
    have hG2 := hG.fr hf (by decide)
    refine v_X12_groups_2 ?_
    rw [hG2.1.1]
    refine ⟨fun _ => ?_, fun z => absurd ((i32_le (by omega) (by omega)).mpr (Nat.le_refl _)) z⟩
    refine up2 (n := 7) (fun k g τ => Fr [11, 12] [] [] σ τ ∧ CL τ 11 (G 0 0) g ∧ GS G k g) (fun _ w τ => L_X12_groups_91 w τ Q) ?_ ?_ 0 g τ (by omega) ⟨hf, hg, hP⟩
    · rintro k g τ hk ⟨hf, hg, hGS⟩ kk
      have hgb := hb k hGS
      refine v_X12_groups_91 ?_
      simp (disch := omega) only [n0, n1, n2, n3, n4, n5, n6, n7, n8, n9, n49, n97, n98, n114, n102, n115, n119, n109, n112, i32_add, i32_mul, i32_N, i32_le, i32_lt, i32_eq, vpi_iff]
      refine ⟨fun z => by omega, fun _ => ?_⟩
      refine up2 (n := G 0 0) (fun j f υ => Fr [11, 12] [] [] σ υ ∧ CL υ 11 (G 0 0) g ∧ CL υ 12 j f ∧ ∀ s, s < j → f s ≤ s ∧ (f s = s ∨ eqL G g (f s) s) ∧ ∀ u, u < f s → ¬ eqL G g u s) (fun _ w υ => L_X12_groups_99 (i32 k) w υ Q) ?_ ?_ 0 (fun _ => 0) τ (by omega) ⟨hf, hg, fun s hs => by omega, fun s hs => by omega⟩
      · rintro j f υ hj ⟨hf2, hg2, hf34, hP2⟩ kk2
        have low : ∀ i, i ≤ j → ∀ ω t, Fr [11, 12] [] [] σ ω → CL ω 11 (G 0 0) g → (∀ s, s < j → ω.1 12 s = i32 (f s)) → ω.1 12 j = i32 t → lwS (eqL G g) j i t → L_X12_groups_118 (i32 k) (i32 j) (i32 i + (-1)) ω Q := by
          intro i
          induction i with
          | zero =>
            intro _ ω t hf3 h0 h1 h2 h3
            refine v_X12_groups_118 ⟨fun _ => ?_, fun z => absurd (by decide) z⟩
            rw [i32_s]
            refine kk2 (upd1 f j t) ω ⟨hf3, h0, fun s hs => ?_, fun s hs => ?_⟩
            · unfold upd1
              by_cases c : s = j
              · rw [if_pos c, c]; exact h2
              · rw [if_neg c]; exact h1 s (by omega)
            · unfold upd1
              by_cases c : s = j
              · rw [if_pos c, c]; exact ⟨h3.1, h3.2.1.imp id (fun z => z.2), fun u hu => h3.2.2 u (Nat.zero_le u) hu⟩
              · rw [if_neg c]; exact hP2 s (by omega)
          | succ i ih =>
            intro hi ω t hf3 h0 h1 h2 h3
            have hG4 := hG.fr hf3 (by decide)
            have bi := hgb i (by omega)
            have bj := hgb j hj
            have skip : ¬ eqL G g i j → L_X12_groups_118 (i32 k) (i32 j) (i32 i + (-1)) ω Q := fun z => ih (by omega) ω t hf3 h0 h1 h2 (lwS_skip h3 z)
            rw [(dn1 ⟨i, by omega⟩).2]
            refine v_X12_groups_118 ?_
            simp (disch := omega) only [n0, n1, n2, n3, n4, n5, n6, n7, n8, n9, n49, n97, n98, n114, n102, n115, n119, n109, n112, i32_add, i32_mul, i32_N, i32_le, i32_lt, i32_eq, vpi_iff]
            rw [h0 j hj, h0 i (by omega)]
            rw [i32_eq (by omega) (by omega)]
            refine ⟨fun z => by omega, fun _ => ⟨by omega, by omega, fun z => skip (fun e => z e.1.symm), fun z => m_follows hG4 hW h0 hgb hj (by omega) (fun f1 => ⟨fun y => absurd y (by decide), fun _ => m_follows hG4 hW h0 hgb (by omega) hj (fun f2 => ⟨fun y => absurd y (by decide), fun _ => ⟨by omega, ?_⟩⟩) (fun f2 => ⟨fun _ => skip (fun e => f2 e.2.1), fun y => absurd rfl y⟩)⟩) (fun f1 => ⟨fun _ => skip (fun e => f1 e.2.2), fun y => absurd rfl y⟩)⟩⟩
            rintro _ rfl
            refine ih (by omega) _ i (hf3.tr (Fr.i (by decide))) (fun s hs => by rw [ri, if_neg (by decide)]; exact h0 s hs) (fun s hs => by rw [ri, if_pos rfl, if_neg (by omega)]; exact h1 s hs) (by rw [ri, if_pos rfl, if_pos rfl]) (lwS_step (by omega) h3 ⟨z.symm, f2, f1⟩)
        have hG3 := hG.fr hf2 (by decide)
        refine v_X12_groups_99 ?_
        rw [hG3.1.1]
        simp (disch := omega) only [n0, n1, n2, n3, n4, n5, n6, n7, n8, n9, n49, n97, n98, n114, n102, n115, n119, n109, n112, i32_add, i32_mul, i32_N, i32_le, i32_lt, i32_eq, vpi_iff]
        refine ⟨fun z => by omega, fun _ => ⟨by omega, ?_⟩⟩
        rintro _ rfl
        rintro _ rfl
        have hd : i32 j - i32 1 = i32 j + (-1) := by
          have : ∀ k : Fin 8, i32 k.val - i32 1 = i32 k.val + (-1) := by decide
          exact this ⟨j, by omega⟩
        rw [hd]
        exact low j (Nat.le_refl j) _ j (hf2.tr (Fr.i (by decide))) (fun s hs => by rw [ri, if_neg (by decide)]; exact hg2 s hs) (fun s hs => by rw [ri, if_pos rfl, if_neg (by omega)]; exact hf34 s hs) (by rw [ri, if_pos rfl, if_pos rfl]) ⟨Nat.le_refl j, Or.inl rfl, fun u h1 h2 => by omega⟩
      · rintro f υ ⟨hf2, hg2, hf34, hP2⟩
        have hG3 := hG.fr hf2 (by decide)
        refine v_X12_groups_99 ?_
        rw [hG3.1.1]
        refine ⟨fun _ => ?_, fun z => absurd ((i32_le (by omega) (by omega)).mpr (Nat.le_refl _)) z⟩
        refine up (n := G 0 0) (fun j ω => Fr [11, 12] [] [] σ ω ∧ CL ω 12 (G 0 0) f ∧ CL ω 11 j f) (fun w ω => L_X12_groups_176 (i32 k) w ω Q) ?_ ?_ 0 υ (by omega) ⟨hf2, hf34, fun s hs => by omega⟩
        · rintro j ω hj ⟨hf3, h34, h33⟩ kk3
          have hG4 := hG.fr hf3 (by decide)
          refine v_X12_groups_176 ?_
          rw [hG4.1.1]
          simp (disch := omega) only [n0, n1, n2, n3, n4, n5, n6, n7, n8, n9, n49, n97, n98, n114, n102, n115, n119, n109, n112, i32_add, i32_mul, i32_N, i32_le, i32_lt, i32_eq, vpi_iff]
          rw [h34 j hj]
          refine ⟨fun z => by omega, fun _ => ⟨by omega, by omega, ?_⟩⟩
          rintro _ rfl
          refine kk3 _ ⟨hf3.tr (Fr.i (by decide)), fun s hs => by rw [ri, if_neg (by decide)]; exact h34 s hs, fun s hs => ?_⟩
          rw [ri, if_pos rfl]
          by_cases c : s = j
          · rw [if_pos c, c]
          · rw [if_neg c]; exact h33 s (by omega)
        · rintro ω ⟨hf3, h34, h33⟩
          have hG4 := hG.fr hf3 (by decide)
          refine v_X12_groups_176 ?_
          rw [hG4.1.1]
          simp only [i32_s]
          exact ⟨fun _ => kk f ω ⟨hf3, h33, g, hGS, hP2⟩, fun z => absurd ((i32_le (by omega) (by omega)).mpr (Nat.le_refl _)) z⟩
    · rintro g τ ⟨hf, hg, hGS⟩
      refine v_X12_groups_91 ?_
      exact ⟨fun _ => h τ g hf hg hGS, fun z => absurd ((i32_le (by decide) (by decide)).mpr (Nat.le_refl 7)) z⟩
theorem RB.fr {b τ : cg_S} {I L D : List Nat} (h : RB b G) (hf : Fr I L D b τ) (h0 : (0 ∉ I ∧ 1 ∉ I ∧ 2 ∉ I ∧ 3 ∉ I ∧ 4 ∉ I ∧ 7 ∉ I ∧ 8 ∉ I ∧ 9 ∉ I ∧ 10 ∉ I ∧ 15 ∉ I) ∧ 5 ∉ I ∧ 19 ∉ I ∧ 28 ∉ L ∧ 29 ∉ L) : RB τ G := by
  obtain ⟨hW, hG, ⟨p, hp⟩, hK⟩ := h
  exact ⟨hW, hG.fr hf h0.1, ⟨p, hp.fr hf h0.2.1⟩, hK.fr hf h0.2.2⟩
theorem m_classOf {v : Int32} {b : cg_S} {Q : Int32 → cg_S → Prop} (hR : RB b G) (hbad : ∀ e, why2 v G e → Q 0 (cg_i b 0 0 (i32 e))) (hok : ∀ s τ g, s < G 0 0 → v = i32 s → whole G → RB τ G → τ.1 0 0 = i32 0 → GS G 7 g → Q (i32 (g s)) τ) : M_X12_classOf v b Q := by
  have hW := hR.1
  have hn := hW.1
  refine v_X12_classOf (m_isGame hR (fun e he => ⟨fun z => absurd rfl z, fun _ => hbad e he⟩) (fun s hs e hw => ⟨fun _ => ?_, fun z => absurd z (by decide)⟩))
  refine m_groups (hR.c0 (x := i32 0)).2.1 hW hw (fun τ g f1 h1 h2 => ⟨by rw [e]; exact vpi (by omega) (by omega), ?_⟩)
  have hN : v.toNatClampNeg = s := by rw [e]; exact i32_N (by omega)
  rw [hN, h1 s hs]
  exact hok s τ g hs e hw (hR.c0.fr f1 (by decide)) (by rw [f1.1 0 (by decide), ri, if_pos rfl, if_pos rfl]) h2
theorem m_classes {b : cg_S} {Q : Int32 → cg_S → Prop} (hR : RB b G) (hbad : ¬ whole G → Q 0 (cg_i b 0 0 (i32 1))) (hok : ∀ τ g, whole G → RB τ G → τ.1 0 0 = i32 0 → GS G 7 g → Q (i32 (hmG g (G 0 0))) τ) : M_X12_classes b Q := by
  obtain ⟨hW, hG, -, -⟩ := id hR
  have hn := hW.1
  refine v_X12_classes (m_isAll hW hG (fun hw => ⟨fun z => absurd z (by decide), fun _ => ?_⟩) (fun hw => ⟨fun _ => ?_, fun z => absurd rfl z⟩))
  · refine v_X12_classes_13 ?_
    rintro _ rfl
    have e1 : (cg_i b 0 0 0).1 0 0 = i32 0 := by rw [ri, if_pos rfl, if_pos rfl]; rfl
    refine ⟨fun _ => ?_, fun z => absurd (by rw [e1]; decide) z⟩
    refine m_groups (hR.c0 (x := 0)).2.1 hW hw (fun τ g f1 h1 h2 => ?_)
    have hgb : ∀ s, s < G 0 0 → g s < 7 := fun s hs => by have := ((GS_good hw 7 h2).1 s hs).1; omega
    have hG2 := (hR.c0 (x := 0)).2.1.fr f1 (by decide)
    refine up2 (n := G 0 0) (fun k (v : Int32) υ => υ = τ ∧ v = i32 (hmG g k)) (fun v w υ => L_X12_classes_33 v w υ Q) ?_ ?_ 0 (0 : Int32) τ (by omega) ⟨rfl, rfl⟩
    · rintro k v υ hk ⟨rfl, rfl⟩ kk
      have := hgb k hk
      refine v_X12_classes_33 ?_
      rw [hG2.1.1]
      simp (disch := omega) only [n0, n1, n2, n3, n4, n5, n6, n7, n8, n9, n49, n97, n98, n114, n102, n115, n119, n109, n112, i32_add, i32_mul, i32_N, i32_le, i32_lt, i32_eq, vpi_iff]
      rw [h1 k hk]
      simp (disch := omega) only [n0, n1, n2, n3, n4, n5, n6, n7, n8, n9, n49, n97, n98, n114, n102, n115, n119, n109, n112, i32_add, i32_mul, i32_N, i32_le, i32_lt, i32_eq, vpi_iff]
      refine ⟨fun z => by omega, fun _ => ⟨by omega, fun z => ?_, fun z => ?_⟩⟩
      · rintro _ rfl
        refine kk _ υ ⟨rfl, ?_⟩
        rw [hmG, if_neg z]
      · rintro _ rfl
        refine kk _ υ ⟨rfl, ?_⟩
        rw [hmG, if_pos z]
    · rintro v υ ⟨rfl, rfl⟩
      refine v_X12_classes_33 ?_
      rw [hG2.1.1]
      exact ⟨fun _ => hok υ g hw (hR.c0.fr f1 (by decide)) (by rw [f1.1 0 (by decide), e1]) h2, fun z => absurd ((i32_le (by omega) (by omega)).mpr (Nat.le_refl _)) z⟩
  · refine v_X12_classes_13 ?_
    rintro _ rfl
    have e1 : (cg_i b 0 0 1).1 0 0 = i32 1 := by rw [ri, if_pos rfl, if_pos rfl]; rfl
    exact ⟨fun z => absurd z (by rw [e1]; decide), fun _ => hbad hw⟩
theorem GS_7 (hW : GW G) (hw : whole G) {g f : Nat → Nat} (hg : GS G (G 0 0) g) (hf : GS G 7 f) : ∀ s, s < G 0 0 → g s = f s := by
  have hn := hW.1
  have e : G 0 0 + (7 - G 0 0) = 7 := by omega
  exact GS_more hw (7 - G 0 0) hg (by rw [e]; exact hf)
theorem op_classOf {n : Nat} {v1 : Int32} {a b : cg_S} (h : Inv n a b) : OP_classOf (Inv (n + 1)) v1 a b := by
  obtain ⟨G, ch, hch, hC, hK, hR⟩ := h
  have hW := hR.1
  have hn7 := hW.1
  refine v_X11_classOf (c_needWholeFor hC hW (fun s hs e hw => ?_) (fun e he => ?_))
  · refine c_sort hC hW hw (fun τ g f1 h1 h2 => ⟨by rw [e]; exact vpi (by omega) (by omega), ?_⟩)
    have hN : v1.toNatClampNeg = s := by rw [e]; exact i32_N (by omega)
    rw [hN, h1 s hs]
    refine m_classOf hR (fun e' he' => (why2_no he' hs e hw).elim) (fun s' b' f hs' e' _ hb h0 hf => m_thrown1 h0 ⟨rfl, ?_, ⟨G, ch, by omega, hC.fr f1 (by decide), hK.fr f1 (by decide), hb⟩⟩)
    rw [e, i32_eq (by omega) (by omega)] at e'
    subst e'
    rw [GS_7 hW hw h2 hf s hs]
  · have fin : ∀ P : Int32 → cg_S → Prop, P (i32 e) (cg_i b 0 0 (i32 e)) → M_X12_classOf v1 b (fun r2 b1 => M_X12_thrown b1 P) := fun P hP => m_classOf hR (fun e' he' => by rw [why2_uniq he' he]; exact m_thrown0 hP) (fun s τ g hs e1 hw _ _ _ => (why2_no he hs e1 hw).elim)
    have hI : Inv (n + 1) a (cg_i b 0 0 (i32 e)) := Inv.up hch hC hK hR
    rcases (show e = 1 ∨ e = 2 by rcases he with ⟨z, -⟩ | ⟨z, -⟩ <;> omega) with rfl | rfl
    · exact Or.inl ⟨rfl, fin _ ⟨rfl, hI⟩⟩
    · exact Or.inr ⟨rfl, fin _ ⟨rfl, hI⟩⟩
theorem op_classes {n : Nat} {a b : cg_S} (h : Inv n a b) : OP_classes (Inv (n + 1)) a b := by
  obtain ⟨G, ch, hch, hC, hK, hR⟩ := h
  have hW := hR.1
  have hn7 := hW.1
  refine v_X11_classes (c_needWhole hC hW (fun hw => ?_) (fun hw => ?_))
  · refine c_sort hC hW hw (fun τ g f1 h1 h2 => ?_)
    refine c_howMany (hC.fr f1 (by decide)) hW h1 (fun s hs => by have := ((GS_good hw _ h2).1 s hs).1; omega) ?_
    refine m_classes hR (fun z => absurd hw z) (fun b' f _ hb h0 hf => m_thrown1 h0 ⟨rfl, ?_, ⟨G, ch, by omega, hC.fr f1 (by decide), hK.fr f1 (by decide), hb⟩⟩)
    rw [hmG_congr (GS_7 hW hw h2 hf)]
  · exact ⟨rfl, m_classes hR (fun _ => m_thrown0 ⟨rfl, Inv.up hch hC hK hR⟩) (fun _ _ z _ _ _ => absurd z hw)⟩
end LM
