/-! LIKENESS: the class -/
section LC
variable {σ : cg_S} {G : Gm} {ch : Nat} {g : Nat → Nat}
/-- the class's numbers of classes -/
def CL (τ : cg_S) (k n : Nat) (g : Nat → Nat) : Prop := ∀ s, s < n → τ.1 k s = i32 (g s)
theorem wiG_le (hW : GW G) {x : Nat} (hx : x < 21) (c : Nat) : wiG G g x c ≤ 6 := by
  have h1 := (hW.2.2.1 x hx).2.2
  have key : ∀ n, sN n (fun t => if g t = c then G 7 (7 * x + t) else 0) ≤ sN n (fun t => G 7 (7 * x + t)) := by
    intro n
    induction n with
    | zero => exact Nat.le_refl _
    | succ n ih => rw [sN, sN]; split <;> omega
  have := key (G 0 0)
  unfold wiG
  omega
theorem c_weightInto {c m : Nat} {Q : Int32 → cg_S → Prop} (hC : CG σ G ch) (hW : GW G) (hg : CL σ 33 (G 0 0) g) (hgb : ∀ s, s < G 0 0 → g s < 7) (hc : c < 7) (hm : m < 21) (h : Q (i32 (wiG G g m c)) σ) : M_X5_weightInto (i32 c) (i32 m) σ Q := by
  have hn := hW.1
  refine v_X5_weightInto ?_
  refine up2 (n := G 0 0) (fun k (v : Int32) τ => τ = σ ∧ v = i32 (sN k (fun t => if g t = c then G 7 (7 * m + t) else 0))) (fun v w τ => L_X5_weightInto_5 (i32 c) (i32 m) v w τ Q) ?_ ?_ 0 (0 : Int32) σ (by omega) ⟨rfl, rfl⟩
  · rintro k v τ hk ⟨rfl, rfl⟩ kk
    have hgk := hgb k hk
    refine v_X5_weightInto_5 ?_
    rw [hC.1.1]
    simp (disch := omega) only [n0, n1, n2, n3, n4, n5, n6, n7, n8, n9, n49, n97, n98, n114, n102, n115, n119, n109, n112, i32_add, i32_mul, i32_N, i32_le, i32_lt, i32_eq, vpi_iff]
    rw [hg k hk]
    simp (disch := omega) only [n0, n1, n2, n3, n4, n5, n6, n7, n8, n9, n49, n97, n98, n114, n102, n115, n119, n109, n112, i32_add, i32_mul, i32_N, i32_le, i32_lt, i32_eq, vpi_iff]
    refine ⟨fun z => by omega, fun _ => ⟨by omega, fun z => kk _ τ ⟨rfl, ?_⟩, fun z => ⟨by omega, by omega, ?_⟩⟩⟩
    · rw [sN, if_neg z, Nat.add_zero]
    · rw [(hC.2.2 m hm).2.2.2.2 k (by omega), i32_add]
      rintro _ rfl
      refine kk _ τ ⟨rfl, ?_⟩
      rw [sN, if_pos z]
  · rintro v τ ⟨rfl, rfl⟩
    refine v_X5_weightInto_5 ?_
    rw [hC.1.1]
    exact ⟨fun _ => h, fun z => absurd ((i32_le (by omega) (by omega)).mpr (Nat.le_refl _)) z⟩
theorem c_isLike {x y : Nat} {Q : Int32 → cg_S → Prop} (hC : CG σ G ch) (hW : GW G) (hg : CL σ 33 (G 0 0) g) (hgb : ∀ s, s < G 0 0 → g s < 7) (hx : x < 21) (hy : y < 21) (h1 : lkC G g x y → Q 1 σ) (h0 : ¬ lkC G g x y → Q 0 σ) : M_X5_isLike (i32 x) (i32 y) σ Q := by
  have hn := hW.1
  obtain ⟨x1, x2, x3, -⟩ := hC.2.2 x hx
  obtain ⟨y1, y2, y3, -⟩ := hC.2.2 y hy
  have wx := hW.2.2.1 x hx
  have wy := hW.2.2.1 y hy
  refine v_X5_isLike ?_
  simp (disch := omega) only [n0, n1, n2, n3, n4, n5, n6, n7, n8, n9, n49, n97, n98, n114, n102, n115, n119, n109, n112, i32_add, i32_mul, i32_N, i32_le, i32_lt, i32_eq, vpi_iff]
  rw [x1, x2, y1, y2]
  simp (disch := omega) only [n0, n1, n2, n3, n4, n5, n6, n7, n8, n9, n49, n97, n98, n114, n102, n115, n119, n109, n112, i32_add, i32_mul, i32_N, i32_le, i32_lt, i32_eq, vpi_iff]
  refine ⟨by omega, by omega, fun z => h0 (fun l => z l.1), fun z => ⟨by omega, by omega, fun z2 => ?_, fun z2 => h0 (fun l => z2 l.2.1)⟩⟩
  refine up (n := G 0 0) (fun k τ => τ = σ ∧ ∀ c, c < k → wiG G g x c * G 6 y = wiG G g y c * G 6 x) (fun w τ => L_X5_isLike_46 (i32 x) (i32 y) w τ Q) ?_ ?_ 0 σ (by omega) ⟨rfl, fun c hc => by omega⟩
  · rintro k τ hk ⟨rfl, hP⟩ kk
    have b1 := wiG_le (g := g) hW hx k
    have b2 := wiG_le (g := g) hW hy k
    have m1 : wiG G g x k * G 6 y ≤ 6 * 6 := Nat.mul_le_mul b1 wy.2.2.1
    have m2 : wiG G g y k * G 6 x ≤ 6 * 6 := Nat.mul_le_mul b2 wx.2.2.1
    refine v_X5_isLike_46 ?_
    rw [hC.1.1]
    simp (disch := omega) only [n0, n1, n2, n3, n4, n5, n6, n7, n8, n9, n49, n97, n98, n114, n102, n115, n119, n109, n112, i32_add, i32_mul, i32_N, i32_le, i32_lt, i32_eq, vpi_iff]
    refine ⟨fun z => by omega, fun _ => c_weightInto hC hW hg hgb (by omega) hx ⟨by omega, ?_⟩⟩
    rw [y3, i32_mul]
    rintro _ rfl
    refine c_weightInto hC hW hg hgb (by omega) hy ⟨by omega, ?_⟩
    rw [x3, i32_mul, i32_eq (by omega) (by omega)]
    refine ⟨fun e => kk τ ⟨rfl, fun c hc => ?_⟩, fun e => h0 (fun l => e (l.2.2 k hk))⟩
    by_cases c1 : c = k
    · rw [c1]; exact e
    · exact hP c (by omega)
  · rintro τ ⟨rfl, hP⟩
    refine v_X5_isLike_46 ?_
    rw [hC.1.1]
    exact ⟨fun _ => h1 ⟨z, z2, hP⟩, fun z => absurd ((i32_le (by omega) (by omega)).mpr (Nat.le_refl _)) z⟩
theorem c_hasLike {s y : Nat} {Q : Int32 → cg_S → Prop} (hC : CG σ G ch) (hW : GW G) (hg : CL σ 33 (G 0 0) g) (hgb : ∀ s, s < G 0 0 → g s < 7) (hs : s < G 0 0) (hy : y < 21) (h1 : (∃ d, d < G 3 s ∧ lkC G g (3 * s + d) y) → Q 1 σ) (h0 : ¬ (∃ d, d < G 3 s ∧ lkC G g (3 * s + d) y) → Q 0 σ) : M_X5_hasLike (i32 s) (i32 y) σ Q := by
  have hn := hW.1
  have g3 := (hW.2.1 s (by omega)).2.2.1
  refine v_X5_hasLike ?_
  refine up (n := G 3 s) (fun k τ => τ = σ ∧ ∀ d, d < k → ¬ lkC G g (3 * s + d) y) (fun w τ => L_X5_hasLike_2 (i32 s) (i32 y) w τ Q) ?_ ?_ 0 σ (by omega) ⟨rfl, fun c hc => by omega⟩
  · rintro k τ hk ⟨rfl, hP⟩ kk
    refine v_X5_hasLike_2 ?_
    simp (disch := omega) only [n0, n1, n2, n3, n4, n5, n6, n7, n8, n9, n49, n97, n98, n114, n102, n115, n119, n109, n112, i32_add, i32_mul, i32_N, i32_le, i32_lt, i32_eq, vpi_iff]
    rw [(hC.2.1 s (by omega)).2.2.1]
    simp (disch := omega) only [n0, n1, n2, n3, n4, n5, n6, n7, n8, n9, n49, n97, n98, n114, n102, n115, n119, n109, n112, i32_add, i32_mul, i32_N, i32_le, i32_lt, i32_eq, vpi_iff]
    refine ⟨by omega, fun z => by omega, fun _ => c_moveOf (c_isLike hC hW hg hgb (by omega) hy (fun l => ⟨fun z => absurd z (by decide), fun _ => h1 ⟨k, hk, l⟩⟩) (fun l => ⟨fun _ => kk τ ⟨rfl, fun d hd => ?_⟩, fun z => absurd rfl z⟩))⟩
    by_cases c : d = k
    · rw [c]; exact l
    · exact hP d (by omega)
  · rintro τ ⟨rfl, hP⟩
    refine v_X5_hasLike_2 ?_
    simp (disch := omega) only [n0, n1, n2, n3, n4, n5, n6, n7, n8, n9, n49, n97, n98, n114, n102, n115, n119, n109, n112, i32_add, i32_mul, i32_N, i32_le, i32_lt, i32_eq, vpi_iff]
    rw [(hC.2.1 s (by omega)).2.2.1]
    exact ⟨by omega, fun _ => h0 (fun ⟨d, hd, l⟩ => hP d hd l), fun z => absurd ((i32_le (by omega) (by omega)).mpr (Nat.le_refl _)) z⟩
theorem lkC_sy {x y : Nat} (h : lkC G g x y) : lkC G g y x := ⟨h.1.symm, h.2.1.symm, fun c hc => (h.2.2 c hc).symm⟩
theorem c_isAnswered {s t : Nat} {Q : Int32 → cg_S → Prop} (hC : CG σ G ch) (hW : GW G) (hg : CL σ 33 (G 0 0) g) (hgb : ∀ s, s < G 0 0 → g s < 7) (hs : s < G 0 0) (ht : t < G 0 0) (h1 : foL G g s t → Q 1 σ) (h0 : ¬ foL G g s t → Q 0 σ) : M_X5_isAnswered (i32 s) (i32 t) σ Q := by
  have hn := hW.1
  have g3 := (hW.2.1 s (by omega)).2.2.1
  refine v_X5_isAnswered ?_
  refine up (n := G 3 s) (fun k τ => τ = σ ∧ ∀ c, c < k → ∃ d, d < G 3 t ∧ lkC G g (3 * s + c) (3 * t + d)) (fun w τ => L_X5_isAnswered_2 (i32 s) (i32 t) w τ Q) ?_ ?_ 0 σ (by omega) ⟨rfl, fun c hc => by omega⟩
  · rintro k τ hk ⟨rfl, hP⟩ kk
    refine v_X5_isAnswered_2 ?_
    simp (disch := omega) only [n0, n1, n2, n3, n4, n5, n6, n7, n8, n9, n49, n97, n98, n114, n102, n115, n119, n109, n112, i32_add, i32_mul, i32_N, i32_le, i32_lt, i32_eq, vpi_iff]
    rw [(hC.2.1 s (by omega)).2.2.1]
    simp (disch := omega) only [n0, n1, n2, n3, n4, n5, n6, n7, n8, n9, n49, n97, n98, n114, n102, n115, n119, n109, n112, i32_add, i32_mul, i32_N, i32_le, i32_lt, i32_eq, vpi_iff]
    refine ⟨by omega, fun z => by omega, fun _ => c_moveOf (c_hasLike hC hW hg hgb ht (by omega) (fun ⟨d, hd, l⟩ => ⟨fun _ => kk τ ⟨rfl, fun c hc => ?_⟩, fun z => absurd z (by decide)⟩) (fun l => ⟨fun z => absurd rfl z, fun _ => h0 (fun f => ?_)⟩))⟩
    · by_cases c1 : c = k
      · rw [c1]; exact ⟨d, hd, lkC_sy l⟩
      · exact hP c (by omega)
    · obtain ⟨d, hd, l'⟩ := f k hk
      exact l ⟨d, hd, lkC_sy l'⟩
  · rintro τ ⟨rfl, hP⟩
    refine v_X5_isAnswered_2 ?_
    simp (disch := omega) only [n0, n1, n2, n3, n4, n5, n6, n7, n8, n9, n49, n97, n98, n114, n102, n115, n119, n109, n112, i32_add, i32_mul, i32_N, i32_le, i32_lt, i32_eq, vpi_iff]
    rw [(hC.2.1 s (by omega)).2.2.1]
    exact ⟨by omega, fun _ => h1 hP, fun z => absurd ((i32_le (by omega) (by omega)).mpr (Nat.le_refl _)) z⟩
/-- the lowest that is like, as the loops find it -/
theorem c_lowestLike {s : Nat} {Q : Int32 → cg_S → Prop} (hC : CG σ G ch) (hW : GW G) (hg : CL σ 33 (G 0 0) g) (hgb : ∀ s, s < G 0 0 → g s < 7) (hs : s < G 0 0) (h : ∀ t, t ≤ s → (t = s ∨ eqL G g t s) → (∀ u, u < t → ¬ eqL G g u s) → Q (i32 t) σ) : M_X5_lowestLike (i32 s) σ Q := by
  have hn := hW.1
  refine v_X5_lowestLike ?_
  refine up (n := s) (fun k τ => τ = σ ∧ ∀ u, u < k → ¬ eqL G g u s) (fun w τ => L_X5_lowestLike_2 (i32 s) w τ Q) ?_ ?_ 0 σ (by omega) ⟨rfl, fun c hc => by omega⟩
  · rintro k τ hk ⟨rfl, hP⟩ kk
    have b1 := hgb k (by omega)
    have b2 := hgb s hs
    have nxt : ¬ eqL G g k s → L_X5_lowestLike_2 (i32 s) (i32 (k + 1)) τ Q := fun z => kk τ ⟨rfl, fun u hu => by
      by_cases c : u = k
      · rw [c]; exact z
      · exact hP u (by omega)⟩
    refine v_X5_lowestLike_2 ?_
    simp (disch := omega) only [n0, n1, n2, n3, n4, n5, n6, n7, n8, n9, n49, n97, n98, n114, n102, n115, n119, n109, n112, i32_add, i32_mul, i32_N, i32_le, i32_lt, i32_eq, vpi_iff]
    rw [hg k (by omega), hg s hs]
    simp (disch := omega) only [n0, n1, n2, n3, n4, n5, n6, n7, n8, n9, n49, n97, n98, n114, n102, n115, n119, n109, n112, i32_add, i32_mul, i32_N, i32_le, i32_lt, i32_eq, vpi_iff]
    refine ⟨fun z => by omega, fun _ => ⟨by omega, by omega, fun z => nxt (fun e => z e.1), fun z => c_isAnswered hC hW hg hgb (by omega) hs (fun f1 => ⟨fun y => absurd y (by decide), fun _ => c_isAnswered hC hW hg hgb hs (by omega) (fun f2 => ⟨fun y => absurd y (by decide), fun _ => h k (by omega) (Or.inr ⟨z, f1, f2⟩) hP⟩) (fun f2 => ⟨fun _ => nxt (fun e => f2 e.2.2), fun y => absurd rfl y⟩)⟩) (fun f1 => ⟨fun _ => nxt (fun e => f1 e.2.1), fun y => absurd rfl y⟩)⟩⟩
  · rintro τ ⟨rfl, hP⟩
    refine v_X5_lowestLike_2 ?_
    exact ⟨fun _ => h s (Nat.le_refl s) (Or.inl rfl) hP, fun z => absurd ((i32_le (by omega) (by omega)).mpr (Nat.le_refl _)) z⟩
theorem c_lowestLook {s : Nat} {Q : Int32 → cg_S → Prop} (hC : CG σ G ch) (hW : GW G) (hs : s < G 0 0) (h : ∀ t, t ≤ s → (t = s ∨ loL G t s) → (∀ u, u < t → ¬ loL G u s) → Q (i32 t) σ) : M_X5_lowestLook (i32 s) σ Q := by
  have hn := hW.1
  refine v_X5_lowestLook ?_
  refine up (n := s) (fun k τ => τ = σ ∧ ∀ u, u < k → ¬ loL G u s) (fun w τ => L_X5_lowestLook_2 (i32 s) w τ Q) ?_ ?_ 0 σ (by omega) ⟨rfl, fun c hc => by omega⟩
  · rintro k τ hk ⟨rfl, hP⟩ kk
    obtain ⟨a1, a2, -⟩ := hC.2.1 k (by omega)
    obtain ⟨b1, b2, -⟩ := hC.2.1 s (by omega)
    have wk := hW.2.1 k (by omega)
    have ws := hW.2.1 s (by omega)
    have nxt : ¬ loL G k s → L_X5_lowestLook_2 (i32 s) (i32 (k + 1)) τ Q := fun z => kk τ ⟨rfl, fun u hu => by
      by_cases c : u = k
      · rw [c]; exact z
      · exact hP u (by omega)⟩
    refine v_X5_lowestLook_2 ?_
    simp (disch := omega) only [n0, n1, n2, n3, n4, n5, n6, n7, n8, n9, n49, n97, n98, n114, n102, n115, n119, n109, n112, i32_add, i32_mul, i32_N, i32_le, i32_lt, i32_eq, vpi_iff]
    rw [a1, a2, b1, b2]
    simp (disch := omega) only [n0, n1, n2, n3, n4, n5, n6, n7, n8, n9, n49, n97, n98, n114, n102, n115, n119, n109, n112, i32_add, i32_mul, i32_N, i32_le, i32_lt, i32_eq, vpi_iff]
    refine ⟨fun z => by omega, fun _ => ⟨by omega, by omega, fun z => nxt (fun e => z e.1), fun z => ⟨by omega, by omega, fun z2 => nxt (fun e => z2 e.2.1), fun z2 => ?_⟩⟩⟩
    have key : ∀ x y : Nat, x ≤ 1 → y ≤ 1 → (x = 1 ↔ TG G k) → (y = 1 ↔ TG G s) → (¬ i32 x = i32 y → L_X5_lowestLook_2 (i32 s) (i32 (k + 1)) τ Q) ∧ (i32 x = i32 y → Q (i32 k) τ) := fun x y hx hy e1 e2 => by
      rw [i32_eq (by omega) (by omega)]
      have e3 : TG G k ↔ G 8 k ≠ 0 := Iff.rfl
      have e4 : TG G s ↔ G 8 s ≠ 0 := Iff.rfl
      refine ⟨fun y1 => nxt (fun e => ?_), fun y1 => h k (by omega) (Or.inr ⟨z, z2, ?_⟩) hP⟩
      · have := e.2.2
        rw [e3] at e1
        rw [e4] at e2
        omega
      · rw [← e3, ← e4, ← e1, ← e2]; omega
    exact c_isT hC (by omega) (fun h1 => c_isT hC (by omega) (fun h2 => key 1 1 (by omega) (by omega) ⟨fun _ => h1, fun _ => rfl⟩ ⟨fun _ => h2, fun _ => rfl⟩) (fun h2 => key 1 0 (by omega) (by omega) ⟨fun _ => h1, fun _ => rfl⟩ ⟨fun y => by omega, fun y => absurd y h2⟩)) (fun h1 => c_isT hC (by omega) (fun h2 => key 0 1 (by omega) (by omega) ⟨fun y => by omega, fun y => absurd y h1⟩ ⟨fun _ => h2, fun _ => rfl⟩) (fun h2 => key 0 0 (by omega) (by omega) ⟨fun y => by omega, fun y => absurd y h1⟩ ⟨fun y => by omega, fun y => absurd y h2⟩))
  · rintro τ ⟨rfl, hP⟩
    refine v_X5_lowestLook_2 ?_
    exact ⟨fun _ => h s (Nat.le_refl s) (Or.inl rfl) hP, fun z => absurd ((i32_le (by omega) (by omega)).mpr (Nat.le_refl _)) z⟩
theorem CL.fr {τ : cg_S} {k n : Nat} {I L D : List Nat} (h : CL σ k n g) (hf : Fr I L D σ τ) (h0 : k ∉ I) : CL τ k n g := fun s hs => by rw [hf.1 k h0]; exact h s hs
theorem c_sort {Q : cg_S → Prop} (hC : CG σ G ch) (hW : GW G) (hw : whole G) (h : ∀ τ g, Fr [33, 34] [] [] σ τ → CL τ 33 (G 0 0) g → GS G (G 0 0) g → Q τ) : M_X5_sort σ Q := by
  have hn := hW.1
  have hb : ∀ k {g : Nat → Nat}, GS G k g → ∀ s, s < G 0 0 → g s < 7 := fun k g hg s hs => by have := ((GS_good hw k hg).1 s hs).1; omega
  refine v_X5_sort ?_
  refine up2 (n := G 0 0) (fun k g τ => Fr [33, 34] [] [] σ τ ∧ CL τ 33 k g ∧ ∀ s, s < k → g s ≤ s ∧ (g s = s ∨ loL G (g s) s) ∧ ∀ u, u < g s → ¬ loL G u s) (fun _ w τ => L_X5_sort_2 w τ Q) ?_ ?_ 0 (fun _ => 0) σ (by omega) ⟨Fr.rf σ, fun s hs => by omega, fun s hs => by omega⟩
  · rintro k g τ hk ⟨hf, hg, hP⟩ kk
    have hC2 := hC.fr hf (by decide)
    refine v_X5_sort_2 ?_
    rw [hC2.1.1]
    simp (disch := omega) only [n0, n1, n2, n3, n4, n5, n6, n7, n8, n9, n49, n97, n98, n114, n102, n115, n119, n109, n112, i32_add, i32_mul, i32_N, i32_le, i32_lt, i32_eq, vpi_iff]
    refine ⟨fun z => by omega, fun _ => c_lowestLook hC2 hW hk (fun t t1 t2 t3 => ⟨by omega, ?_⟩)⟩
    rintro _ rfl
    refine kk (upd1 g k t) _ ⟨hf.tr (Fr.i (by decide)), fun s hs => ?_, fun s hs => ?_⟩
    · unfold upd1
      rw [ri, if_pos rfl]
      by_cases c : s = k
      · rw [if_pos c, if_pos c]
      · rw [if_neg c, if_neg c]; exact hg s (by omega)
    · unfold upd1
      by_cases c : s = k
      · rw [if_pos c, c]; exact ⟨t1, t2, t3⟩
      · rw [if_neg c]; exact hP s (by omega)
  · rintro g τ ⟨hf, hg, hP⟩
    have hC2 := hC.fr hf (by decide)
    refine v_X5_sort_2 ?_
    rw [hC2.1.1]
    refine ⟨fun _ => ?_, fun z => absurd ((i32_le (by omega) (by omega)).mpr (Nat.le_refl _)) z⟩
    refine up2 (n := G 0 0) (fun k g τ => Fr [33, 34] [] [] σ τ ∧ CL τ 33 (G 0 0) g ∧ GS G k g) (fun _ w τ => L_X5_sort_32 w τ Q) ?_ ?_ 0 g τ (by omega) ⟨hf, hg, hP⟩
    · rintro k g τ hk ⟨hf, hg, hG⟩ kk
      have hC2 := hC.fr hf (by decide)
      have hgb := hb k hG
      refine v_X5_sort_32 ?_
      rw [hC2.1.1]
      simp (disch := omega) only [n0, n1, n2, n3, n4, n5, n6, n7, n8, n9, n49, n97, n98, n114, n102, n115, n119, n109, n112, i32_add, i32_mul, i32_N, i32_le, i32_lt, i32_eq, vpi_iff]
      refine ⟨fun z => by omega, fun _ => ?_⟩
      refine up2 (n := G 0 0) (fun j f υ => Fr [33, 34] [] [] σ υ ∧ CL υ 33 (G 0 0) g ∧ CL υ 34 j f ∧ ∀ s, s < j → f s ≤ s ∧ (f s = s ∨ eqL G g (f s) s) ∧ ∀ u, u < f s → ¬ eqL G g u s) (fun _ w υ => L_X5_sort_45 (i32 k) w υ Q) ?_ ?_ 0 (fun _ => 0) τ (by omega) ⟨hf, hg, fun s hs => by omega, fun s hs => by omega⟩
      · rintro j f υ hj ⟨hf2, hg2, hf34, hP2⟩ kk2
        have hC3 := hC.fr hf2 (by decide)
        refine v_X5_sort_45 ?_
        rw [hC3.1.1]
        simp (disch := omega) only [n0, n1, n2, n3, n4, n5, n6, n7, n8, n9, n49, n97, n98, n114, n102, n115, n119, n109, n112, i32_add, i32_mul, i32_N, i32_le, i32_lt, i32_eq, vpi_iff]
        refine ⟨fun z => by omega, fun _ => c_lowestLike hC3 hW hg2 hgb hj (fun t t1 t2 t3 => ⟨by omega, ?_⟩)⟩
        rintro _ rfl
        refine kk2 (upd1 f j t) _ ⟨hf2.tr (Fr.i (by decide)), fun s hs => by rw [ri, if_neg (by decide)]; exact hg2 s hs, fun s hs => ?_, fun s hs => ?_⟩
        · unfold upd1
          rw [ri, if_pos rfl]
          by_cases c : s = j
          · rw [if_pos c, if_pos c]
          · rw [if_neg c, if_neg c]; exact hf34 s (by omega)
        · unfold upd1
          by_cases c : s = j
          · rw [if_pos c, c]; exact ⟨t1, t2, t3⟩
          · rw [if_neg c]; exact hP2 s (by omega)
      · rintro f υ ⟨hf2, hg2, hf34, hP2⟩
        have hC3 := hC.fr hf2 (by decide)
        refine v_X5_sort_45 ?_
        rw [hC3.1.1]
        refine ⟨fun _ => ?_, fun z => absurd ((i32_le (by omega) (by omega)).mpr (Nat.le_refl _)) z⟩
        refine up (n := G 0 0) (fun j ω => Fr [33, 34] [] [] σ ω ∧ CL ω 34 (G 0 0) f ∧ CL ω 33 j f) (fun w ω => L_X5_sort_75 (i32 k) w ω Q) ?_ ?_ 0 υ (by omega) ⟨hf2, hf34, fun s hs => by omega⟩
        · rintro j ω hj ⟨hf3, h34, h33⟩ kk3
          have hC4 := hC.fr hf3 (by decide)
          refine v_X5_sort_75 ?_
          rw [hC4.1.1]
          simp (disch := omega) only [n0, n1, n2, n3, n4, n5, n6, n7, n8, n9, n49, n97, n98, n114, n102, n115, n119, n109, n112, i32_add, i32_mul, i32_N, i32_le, i32_lt, i32_eq, vpi_iff]
          rw [h34 j hj]
          refine ⟨fun z => by omega, fun _ => ⟨by omega, by omega, ?_⟩⟩
          rintro _ rfl
          refine kk3 _ ⟨hf3.tr (Fr.i (by decide)), fun s hs => by rw [ri, if_neg (by decide)]; exact h34 s hs, fun s hs => ?_⟩
          rw [ri, if_pos rfl]
          by_cases c : s = j
          · rw [if_pos c, c]
          · rw [if_neg c]; exact h33 s (by omega)
        · rintro ω ⟨hf3, h34, h33⟩
          have hC4 := hC.fr hf3 (by decide)
          refine v_X5_sort_75 ?_
          rw [hC4.1.1]
          simp only [i32_s]
          exact ⟨fun _ => kk f ω ⟨hf3, h33, g, hG, hP2⟩, fun z => absurd ((i32_le (by omega) (by omega)).mpr (Nat.le_refl _)) z⟩
    · rintro g τ ⟨hf, hg, hG⟩
      have hC2 := hC.fr hf (by decide)
      refine v_X5_sort_32 ?_
      rw [hC2.1.1]
      exact ⟨fun _ => h τ g hf hg hG, fun z => absurd ((i32_le (by omega) (by omega)).mpr (Nat.le_refl _)) z⟩
/-- how many are the lowest of their class -/
def hmG (g : Nat → Nat) : Nat → Nat
  | 0 => 0
  | k + 1 => hmG g k + if g k = k then 1 else 0
theorem hmG_le (g : Nat → Nat) (k : Nat) : hmG g k ≤ k := by
  induction k with
  | zero => exact Nat.le_refl 0
  | succ k ih => rw [hmG]; split <;> omega
theorem hmG_congr {f : Nat → Nat} {k : Nat} (h : ∀ s, s < k → g s = f s) : hmG g k = hmG f k := by
  induction k with
  | zero => rfl
  | succ k ih => rw [hmG, hmG, ih (fun s hs => h s (by omega)), h k (by omega)]
theorem c_howMany {Q : Int32 → cg_S → Prop} (hC : CG σ G ch) (hW : GW G) (hg : CL σ 33 (G 0 0) g) (hgb : ∀ s, s < G 0 0 → g s < 7) (h : Q (i32 (hmG g (G 0 0))) σ) : M_X5_howMany σ Q := by
  have hn := hW.1
  refine v_X5_howMany ?_
  refine up2 (n := G 0 0) (fun k (v : Int32) τ => τ = σ ∧ v = i32 (hmG g k)) (fun v w τ => L_X5_howMany_4 v w τ Q) ?_ ?_ 0 (0 : Int32) σ (by omega) ⟨rfl, rfl⟩
  · rintro k v τ hk ⟨rfl, rfl⟩ kk
    have := hgb k hk
    refine v_X5_howMany_4 ?_
    rw [hC.1.1]
    simp (disch := omega) only [n0, n1, n2, n3, n4, n5, n6, n7, n8, n9, n49, n97, n98, n114, n102, n115, n119, n109, n112, i32_add, i32_mul, i32_N, i32_le, i32_lt, i32_eq, vpi_iff]
    rw [hg k hk]
    simp (disch := omega) only [n0, n1, n2, n3, n4, n5, n6, n7, n8, n9, n49, n97, n98, n114, n102, n115, n119, n109, n112, i32_add, i32_mul, i32_N, i32_le, i32_lt, i32_eq, vpi_iff]
    refine ⟨fun z => by omega, fun _ => ⟨by omega, fun z => kk _ τ ⟨rfl, by rw [hmG, if_neg z, Nat.add_zero]⟩, fun z => kk _ τ ⟨rfl, by rw [hmG, if_pos z]⟩⟩⟩
  · rintro v τ ⟨rfl, rfl⟩
    refine v_X5_howMany_4 ?_
    rw [hC.1.1]
    exact ⟨fun _ => h, fun z => absurd ((i32_le (by omega) (by omega)).mpr (Nat.le_refl _)) z⟩
end LC
