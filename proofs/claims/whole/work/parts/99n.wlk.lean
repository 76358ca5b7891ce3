/-! TRACES: the reference's walks -/
section WLK
variable {σ : cg_S} {G : Gm}
def KP (σ τ : cg_S) : Prop := Fr [0, 13, 14, 18] [0] [] σ τ ∧ ∀ j, j ≠ 38 → τ.1 0 j = σ.1 0 j
theorem KP.rf (σ : cg_S) : KP σ σ := ⟨Fr.rf σ, fun _ _ => rfl⟩
theorem KP.tr {a b c : cg_S} (h : KP a b) (k : KP b c) : KP a c := ⟨h.1.tr k.1, fun j hj => (k.2 j hj).trans (h.2 j hj)⟩
theorem MG.kp {τ : cg_S} (h : MG σ G) (k : KP σ τ) : MG τ G := by
  obtain ⟨⟨a1, a2, a3, a4, a5⟩, b, c, d, e⟩ := h
  have f := k.1.1
  refine ⟨⟨?_, ?_, ?_, ?_, ?_⟩, ?_, ?_, ?_, ?_⟩
  · rw [k.2 1 (by decide)]; exact a1
  · rw [k.2 2 (by decide)]; exact a2
  · rw [k.2 3 (by decide)]; exact a3
  · rw [k.2 4 (by decide)]; exact a4
  · rw [k.2 5 (by decide)]; exact a5
  · rw [f 1 (by decide)]; exact b
  · rw [f 2 (by decide), f 3 (by decide), f 15 (by decide), f 4 (by decide)]; exact c
  · rw [f 7 (by decide), f 8 (by decide), f 9 (by decide)]; exact d
  · rw [f 10 (by decide)]; exact e
/-- the beginning of a trace -/
def PV (G : Gm) (k : Nat) (P : Nat → Nat) : Prop := 1 ≤ k ∧ (∀ i, i < k → P i < G 0 0) ∧ (∀ i j, i < k → j < k → P i = P j → i = j) ∧ ∀ i, i + 1 < k → wT G (P i) (P (i + 1)) ≠ 0 ∧ ¬ TG G (P i)
theorem PV_len {k : Nat} {f : Nat → Nat} (h : PV G k f) : k ≤ G 0 0 := Classical.byContradiction fun z => by
  obtain ⟨i, j, hij, hj, e⟩ := pigeon (G 0 0) f (fun i hi => h.2.1 i (by omega))
  have := h.2.2.1 i j (by omega) (by omega) e
  omega
theorem PV_b {k : Nat} {f : Nat → Nat} (hW : GW G) (hw : whole G) (h : PV G k f) : ∀ j, j < k → 0 < pU G f j ∧ pU G f j ≤ 6 ^ j ∧ 0 < pD G f j ∧ pD G f j ≤ 6 ^ j ∧ tw G f j = ((pU G f j : Nat) : Rat) / ((pD G f j : Nat) : Rat) := by
  have hn := hW.1
  intro j
  induction j with
  | zero => intro _; exact ⟨Nat.one_pos, Nat.le_refl 1, Nat.one_pos, Nat.le_refl 1, q11.symm⟩
  | succ j ih =>
    intro hj
    obtain ⟨i1, i2, i3, i4, i5⟩ := ih (by omega)
    obtain ⟨-, h2, -, h3⟩ := h
    have hs := h2 j (by omega)
    have hb := bT_pos hW hw hs
    have hm : mv (G 10) (f j) < 21 := mv_lt (by omega) (told_2 hW _ (by omega))
    have hw6 : wT G (f j) (f (j + 1)) ≤ 6 := hW.w6 hm (by have := h2 (j + 1) hj; omega)
    have hb6 : bT G (f j) ≤ 6 := (hW.2.2.1 _ hm).2.2.1
    refine ⟨Nat.mul_pos i1 (Nat.pos_of_ne_zero (h3 j hj).1), Nat.mul_le_mul i2 hw6, Nat.mul_pos i3 hb, Nat.mul_le_mul i4 hb6, ?_⟩
    show tw G f j * hT G (f j) (f (j + 1)) = ((pU G f j * wT G (f j) (f (j + 1)) : Nat) : Rat) / ((pD G f j * bT G (f j) : Nat) : Rat)
    rw [i5]
    unfold hT
    have a := Rat.ne_of_gt (Rat.natCast_pos.mpr i3)
    have b := Rat.ne_of_gt (Rat.natCast_pos.mpr hb)
    rw [Rat.natCast_mul, Rat.natCast_mul]
    grind
theorem tw_cg {f g : Nat → Nat} : ∀ j, (∀ i, i ≤ j → f i = g i) → tw G f j = tw G g j ∧ pU G f j = pU G g j ∧ pD G f j = pD G g j := by
  intro j
  induction j with
  | zero => intro _; exact ⟨rfl, rfl, rfl⟩
  | succ j ih =>
    intro h
    obtain ⟨a, b, c⟩ := ih (fun i hi => h i (by omega))
    refine ⟨?_, ?_, ?_⟩
    · rw [tw, tw, a, h j (by omega), h (j + 1) (by omega)]
    · rw [pU, pU, b, h j (by omega), h (j + 1) (by omega)]
    · rw [pD, pD, c, h j (by omega)]
/-- the traces that begin so -/
def EXT (G : Gm) (k : Nat) (P : Nat → Nat) (j : Nat) (f : Nat → Nat) : Prop := k ≤ j ∧ trc G j f ∧ ∀ i, i < k → f i = P i
/-- the best of those that were seen -/
def BW (G : Gm) (τ : cg_S) (S : Nat → (Nat → Nat) → Prop) : Prop := ∃ K g, τ.1 0 38 = i32 K ∧ K ≤ 7 ∧ (K = 0 → ∀ k f, ¬ S k f) ∧ (K ≠ 0 → trc G K g ∧ S K g ∧ (∀ i, i < K → τ.1 14 i = i32 (g i)) ∧ τ.2.1 0 42 = i64 ((pU G g (K - 1) : Nat) : Int) ∧ τ.2.1 0 43 = i64 ((pD G g (K - 1) : Nat) : Int) ∧ ∀ k f, S k f → btt (tw G g (K - 1)) K (tw G f (k - 1)) k ∧ (tw G f (k - 1) = tw G g (K - 1) → k = K → lxl K g f))
theorem BW.cg {τ : cg_S} {S T : Nat → (Nat → Nat) → Prop} (h : BW G τ S) (hST : ∀ k f, S k f ↔ T k f) : BW G τ T := by
  have : S = T := funext fun k => funext fun f => propext (hST k f)
  rw [← this]; exact h
theorem BW.fr {τ : cg_S} {S : Nat → (Nat → Nat) → Prop} {I : List Nat} (h : BW G σ S) (hf : Fr I [] [] σ τ) (h0 : 0 ∉ I ∧ 14 ∉ I) : BW G τ S := by
  unfold BW
  rw [hf.1 0 h0.1, hf.1 14 h0.2, hf.2.1 0 (by simp)]
  exact h
theorem lxl_rf (k : Nat) (f : Nat → Nat) : lxl k f f := fun i _ _ => Nat.le_refl _
theorem lxl_tr {k : Nat} {f g h : Nat → Nat} (h1 : lxl k f g) (h2 : lxl k g h) : lxl k f h := by
  intro i hi hpre
  -- both agree with g below i
  have key : ∀ m, m ≤ i → ∀ j, j < m → f j = g j ∧ g j = h j := by
    intro m
    induction m with
    | zero => intro _ j hj; omega
    | succ m ih =>
      intro hm j hj
      by_cases e : j = m
      · subst e
        have a := h1 j (by omega) (fun l hl => (ih (by omega) l hl).1)
        have b := h2 j (by omega) (fun l hl => (ih (by omega) l hl).2)
        have c := hpre j (by omega)
        omega
      · exact ih (by omega) j (by omega)
  have a := h1 i hi (fun l hl => (key i (Nat.le_refl i) l hl).1)
  have b := h2 i hi (fun l hl => (key i (Nat.le_refl i) l hl).2)
  omega
theorem i64_sg {a b : Nat} (ha : a < 2 ^ 40) (hb : b < 2 ^ 40) : (i64 ((a : Nat) : Int) - i64 ((b : Nat) : Int) = 0 ↔ a = b) ∧ (i64 ((a : Nat) : Int) - i64 ((b : Nat) : Int) ≤ 0 ↔ a ≤ b) := by
  have e : (2 : Nat) ^ 40 = 1099511627776 := by decide
  rw [i64_sub, l0, i64_eq (by omega) (by omega), i64_le (by omega) (by omega)]
  omega
theorem p40 {i j : Nat} {a b : Nat} (hi : i ≤ 6) (hj : j ≤ 6) (ha : a ≤ 6 ^ i) (hb : b ≤ 6 ^ j) : a * b < 2 ^ 40 := by
  have h1 : 6 ^ i ≤ 6 ^ 6 := Nat.pow_le_pow_right (by decide) hi
  have h2 : 6 ^ j ≤ 6 ^ 6 := Nat.pow_le_pow_right (by decide) hj
  have h3 := Nat.mul_le_mul (Nat.le_trans ha h1) (Nat.le_trans hb h2)
  have e : (6 : Nat) ^ 6 * 6 ^ 6 < 2 ^ 40 := by decide
  omega
/-- the row at hand against the best -/
theorem m_isBetter {k K : Nat} {P g : Nat → Nat} {S : Nat → (Nat → Nat) → Prop} {Q : Int32 → cg_S → Prop} (hW : GW G) (hw : whole G) (hP : PV G k P) (hway : ∀ i, i < k → σ.1 13 i = i32 (P i)) (hK : σ.1 0 38 = i32 K) (hK7 : K ≤ 7) (hB : K ≠ 0 → trc G K g ∧ (∀ i, i < K → σ.1 14 i = i32 (g i)) ∧ σ.2.1 0 42 = i64 ((pU G g (K - 1) : Nat) : Int) ∧ σ.2.1 0 43 = i64 ((pD G g (K - 1) : Nat) : Int)) (h0 : K = 0 → Q 1 σ) (hy : K ≠ 0 → btt (tw G P (k - 1)) k (tw G g (K - 1)) K → (tw G g (K - 1) = tw G P (k - 1) → K = k → lxl k P g) → Q 1 σ) (hno : K ≠ 0 → btt (tw G g (K - 1)) K (tw G P (k - 1)) k → (tw G P (k - 1) = tw G g (K - 1) → k = K → lxl K g P) → Q 0 σ) : M_X12_isBetter (i32 k) (i64 ((pU G P (k - 1) : Nat) : Int)) (i64 ((pD G P (k - 1) : Nat) : Int)) σ Q := by
  have hn := hW.1
  have hk7 := PV_len hP
  have hk1 := hP.1
  refine v_X12_isBetter ?_
  rw [hK]
  simp (disch := omega) only [n0, n1, n2, n3, n4, n5, n6, n7, n8, n9, n49, n97, n98, n114, n102, n115, n119, n109, n112, i32_add, i32_mul, i32_N, i32_le, i32_lt, i32_eq, vpi_iff]
  refine ⟨fun z => ?_, fun z => h0 z⟩
  obtain ⟨hg, hbw, h42, h43⟩ := hB z
  rw [h42, h43, i64_mul, i64_mul, ← Int.natCast_mul, ← Int.natCast_mul]
  obtain ⟨a1, a2, a3, a4, a5⟩ := PV_b hW hw hP (k - 1) (by omega)
  obtain ⟨b1, b2, b3, b4, b5⟩ := pUD hW hw hg.1 (K - 1) (by omega)
  obtain ⟨s1, s2⟩ := i64_sg (p40 (by omega) (by omega) a2 b4) (p40 (by omega) (by omega) b2 a4)
  have qa : (0 : Rat) < ((pD G P (k - 1) : Nat) : Rat) := Rat.natCast_pos.mpr a3
  have qb : (0 : Rat) < ((pD G g (K - 1) : Nat) : Rat) := Rat.natCast_pos.mpr b3
  have lt1 : tw G P (k - 1) < tw G g (K - 1) ↔ pU G P (k - 1) * pD G g (K - 1) < pU G g (K - 1) * pD G P (k - 1) := by
    rw [a5, b5, rat_div_lt qa qb, ← Rat.natCast_mul, ← Rat.natCast_mul, Rat.natCast_lt_natCast]
  have lt2 : tw G g (K - 1) < tw G P (k - 1) ↔ pU G g (K - 1) * pD G P (k - 1) < pU G P (k - 1) * pD G g (K - 1) := by
    rw [a5, b5, rat_div_lt qb qa, ← Rat.natCast_mul, ← Rat.natCast_mul, Rat.natCast_lt_natCast]
  generalize pU G P (k - 1) * pD G g (K - 1) = x at *
  generalize pU G g (K - 1) * pD G P (k - 1) = y at *
  rintro _ rfl
  rw [s1, s2]
  have eqw : x = y → tw G P (k - 1) = tw G g (K - 1) := fun e => Rat.le_antisymm (Rat.not_lt.mp (fun z => by have := lt2.mp z; omega)) (Rat.not_lt.mp (fun z => by have := lt1.mp z; omega))
  have new : ∀ e : tw G g (K - 1) = tw G P (k - 1), False ∨ True := fun _ => Or.inr trivial
  refine ⟨fun e => ⟨fun ek => ?_, fun ek => ⟨fun hle => ?_, fun hle => ?_⟩⟩, fun e => ⟨fun hle => ?_, fun hle => ?_⟩⟩
  · -- as heavy and as long: the first difference decides
    subst ek
    have ew := eqw e
    refine up (n := k) (fun i τ => τ = σ ∧ ∀ j, j < i → P j = g j) (fun v τ => L_X12_isBetter_70 (i32 k) v τ Q) ?_ ?_ 0 σ (by omega) ⟨rfl, fun j hj => by omega⟩
    · rintro i τ hi ⟨rfl, hpre⟩ kk
      have hPi := hP.2.1 i hi
      have hgi := hg.1.2.1 i hi
      refine v_X12_isBetter_70 ?_
      simp (disch := omega) only [n0, n1, n2, n3, n4, n5, n6, n7, n8, n9, n49, n97, n98, n114, n102, n115, n119, n109, n112, i32_add, i32_mul, i32_N, i32_le, i32_lt, i32_eq, vpi_iff]
      rw [hway i hi, hbw i hi]
      simp (disch := omega) only [n0, n1, n2, n3, n4, n5, n6, n7, n8, n9, n49, n97, n98, n114, n102, n115, n119, n109, n112, i32_add, i32_mul, i32_N, i32_le, i32_lt, i32_eq, vpi_iff]
      refine ⟨fun z => by omega, fun _ => ⟨by omega, by omega, fun z => kk τ ⟨rfl, fun j hj => ?_⟩, fun z => ⟨by omega, by omega, fun z2 => hno (by omega) (Or.inr ⟨ew, Nat.le_refl k⟩) (fun _ _ => ?_), fun z2 => hy (by omega) (Or.inr ⟨ew.symm, Nat.le_refl k⟩) (fun _ _ => ?_)⟩⟩⟩
      · by_cases e2 : j = i
        · rw [e2]; exact z
        · exact hpre j (by omega)
      · intro j hj hp
        rcases Nat.lt_trichotomy j i with c | c | c
        · exact Nat.le_of_eq (hpre j c).symm
        · rw [c]; exact z2
        · exact absurd (hp i c).symm z
      · intro j hj hp
        rcases Nat.lt_trichotomy j i with c | c | c
        · exact Nat.le_of_eq (hpre j c)
        · rw [c]; omega
        · exact absurd (hp i c) z
    · rintro τ ⟨rfl, hpre⟩
      refine v_X12_isBetter_70 ⟨fun _ => hno (by omega) (Or.inr ⟨ew, Nat.le_refl k⟩) (fun _ _ j hj _ => Nat.le_of_eq (hpre j hj).symm), fun z => absurd ((i32_le (by omega) (by omega)).mpr (Nat.le_refl _)) z⟩
  · exact hno z (Or.inr ⟨eqw e, hle⟩) (fun _ e2 => absurd e2 ek)
  · exact hy z (Or.inr ⟨(eqw e).symm, by omega⟩) (fun _ e2 => absurd e2.symm ek)
  · have hl := lt1.mpr (by omega)
    exact hno z (Or.inl hl) (fun e2 _ => by rw [e2] at hl; exact absurd hl Rat.lt_irrefl)
  · have hl := lt2.mpr (by omega)
    exact hy z (Or.inl hl) (fun e2 _ => by rw [e2] at hl; exact absurd hl Rat.lt_irrefl)
end WLK
