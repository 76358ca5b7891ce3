/-! TRACES: the reference's walks -/
section WLK
variable {σ : cg_S} {G : Gm}
def KP (σ τ : cg_S) : Prop := Fr [0, 13, 14, 18] [0] [] σ τ ∧ ∀ j, j ≠ 38 → τ.1 0 j = σ.1 0 j
theorem KP.rf (σ : cg_S) : KP σ σ := ⟨Fr.rf σ, fun _ _ => rfl⟩
theorem KP.tr {a b c : cg_S} (h : KP a b) (k : KP b c) : KP a c := ⟨h.1.tr k.1, fun j hj => (k.2 j hj).trans (h.2 j hj)⟩
theorem MG.kp {τ : cg_S} (h : MG σ G) (k : KP σ τ) : MG τ G := by
  obtain ⟨⟨a1, a2, a3, a4, a5⟩, b, c, d, e⟩ := h
  have f := k.1.1
  refine ⟨⟨?_, ?_, ?_, ?_, ?_⟩, ?_, ?_, ?_, ?_⟩
  · rw [k.2 1 (by decide)]; exact a1
  · rw [k.2 2 (by decide)]; exact a2
  · rw [k.2 3 (by decide)]; exact a3
  · rw [k.2 4 (by decide)]; exact a4
  · rw [k.2 5 (by decide)]; exact a5
  · rw [f 1 (by decide)]; exact b
  · rw [f 2 (by decide), f 3 (by decide), f 15 (by decide), f 4 (by decide)]; exact c
  · rw [f 7 (by decide), f 8 (by decide), f 9 (by decide)]; exact d
  · rw [f 10 (by decide)]; exact e
/-- the beginning of a trace -/
def PV (G : Gm) (k : Nat) (P : Nat → Nat) : Prop := 1 ≤ k ∧ (∀ i, i < k → P i < G 0 0) ∧ (∀ i j, i < k → j < k → P i = P j → i = j) ∧ ∀ i, i + 1 < k → wT G (P i) (P (i + 1)) ≠ 0 ∧ ¬ TG G (P i)
theorem PV_len {k : Nat} {f : Nat → Nat} (h : PV G k f) : k ≤ G 0 0 := Classical.byContradiction fun z => by
  obtain ⟨i, j, hij, hj, e⟩ := pigeon (G 0 0) f (fun i hi => h.2.1 i (by omega))
  have := h.2.2.1 i j (by omega) (by omega) e
  omega
theorem PV_b {k : Nat} {f : Nat → Nat} (hW : GW G) (hw : whole G) (h : PV G k f) : ∀ j, j < k → 0 < pU G f j ∧ pU G f j ≤ 6 ^ j ∧ 0 < pD G f j ∧ pD G f j ≤ 6 ^ j ∧ tw G f j = ((pU G f j : Nat) : Rat) / ((pD G f j : Nat) : Rat) := by
  have hn := hW.1
  intro j
  induction j with
  | zero => intro _; exact ⟨Nat.one_pos, Nat.le_refl 1, Nat.one_pos, Nat.le_refl 1, q11.symm⟩
  | succ j ih =>
    intro hj
    obtain ⟨i1, i2, i3, i4, i5⟩ := ih (by omega)
    obtain ⟨-, h2, -, h3⟩ := h
    have hs := h2 j (by omega)
    have hb := bT_pos hW hw hs
    have hm : mv (G 10) (f j) < 21 := mv_lt (by omega) (told_2 hW _ (by omega))
    have hw6 : wT G (f j) (f (j + 1)) ≤ 6 := hW.w6 hm (by have := h2 (j + 1) hj; omega)
    have hb6 : bT G (f j) ≤ 6 := (hW.2.2.1 _ hm).2.2.1
    refine ⟨Nat.mul_pos i1 (Nat.pos_of_ne_zero (h3 j hj).1), Nat.mul_le_mul i2 hw6, Nat.mul_pos i3 hb, Nat.mul_le_mul i4 hb6, ?_⟩
    show tw G f j * hT G (f j) (f (j + 1)) = ((pU G f j * wT G (f j) (f (j + 1)) : Nat) : Rat) / ((pD G f j * bT G (f j) : Nat) : Rat)
    rw [i5]
    unfold hT
    have a := Rat.ne_of_gt (Rat.natCast_pos.mpr i3)
    have b := Rat.ne_of_gt (Rat.natCast_pos.mpr hb)
    rw [Rat.natCast_mul, Rat.natCast_mul]
    grind
theorem tw_cg {f g : Nat → Nat} : ∀ j, (∀ i, i ≤ j → f i = g i) → tw G f j = tw G g j ∧ pU G f j = pU G g j ∧ pD G f j = pD G g j := by
  intro j
  induction j with
  | zero => intro _; exact ⟨rfl, rfl, rfl⟩
  | succ j ih =>
    intro h
    obtain ⟨a, b, c⟩ := ih (fun i hi => h i (by omega))
    refine ⟨?_, ?_, ?_⟩
    · rw [tw, tw, a, h j (by omega), h (j + 1) (by omega)]
    · rw [pU, pU, b, h j (by omega), h (j + 1) (by omega)]
    · rw [pD, pD, c, h j (by omega)]
/-- the traces that begin so -/
def EXT (G : Gm) (k : Nat) (P : Nat → Nat) (j : Nat) (f : Nat → Nat) : Prop := k ≤ j ∧ trc G j f ∧ ∀ i, i < k → f i = P i
/-- the best of those that were seen -/
def BW (G : Gm) (τ : cg_S) (S : Nat → (Nat → Nat) → Prop) : Prop := ∃ K g, τ.1 0 38 = i32 K ∧ K ≤ 7 ∧ (K = 0 → ∀ k f, ¬ S k f) ∧ (K ≠ 0 → trc G K g ∧ S K g ∧ (∀ i, i < K → τ.1 14 i = i32 (g i)) ∧ τ.2.1 0 42 = i64 ((pU G g (K - 1) : Nat) : Int) ∧ τ.2.1 0 43 = i64 ((pD G g (K - 1) : Nat) : Int) ∧ ∀ k f, S k f → btt (tw G g (K - 1)) K (tw G f (k - 1)) k ∧ (tw G f (k - 1) = tw G g (K - 1) → k = K → lxl K g f))
theorem BW.cg {τ : cg_S} {S T : Nat → (Nat → Nat) → Prop} (h : BW G τ S) (hST : ∀ k f, S k f ↔ T k f) : BW G τ T := by
  have : S = T := funext fun k => funext fun f => propext (hST k f)
  rw [← this]; exact h
theorem BW.fr {τ : cg_S} {S : Nat → (Nat → Nat) → Prop} {I : List Nat} (h : BW G σ S) (hf : Fr I [] [] σ τ) (h0 : 0 ∉ I ∧ 14 ∉ I) : BW G τ S := by
  unfold BW
  rw [hf.1 0 h0.1, hf.1 14 h0.2, hf.2.1 0 (by simp)]
  exact h
theorem lxl_rf (k : Nat) (f : Nat → Nat) : lxl k f f := fun i _ _ => Nat.le_refl _
theorem lxl_tr {k : Nat} {f g h : Nat → Nat} (h1 : lxl k f g) (h2 : lxl k g h) : lxl k f h := by
  intro i hi hpre
  -- both agree with g below i
  have key : ∀ m, m ≤ i → ∀ j, j < m → f j = g j ∧ g j = h j := by
    intro m
    induction m with
    | zero => intro _ j hj; omega
    | succ m ih =>
      intro hm j hj
      by_cases e : j = m
      · subst e
        have a := h1 j (by omega) (fun l hl => (ih (by omega) l hl).1)
        have b := h2 j (by omega) (fun l hl => (ih (by omega) l hl).2)
        have c := hpre j (by omega)
        omega
      · exact ih (by omega) j (by omega)
  have a := h1 i hi (fun l hl => (key i (Nat.le_refl i) l hl).1)
  have b := h2 i hi (fun l hl => (key i (Nat.le_refl i) l hl).2)
  omega
theorem i64_sg {a b : Nat} (ha : a < 2 ^ 40) (hb : b < 2 ^ 40) : (i64 ((a : Nat) : Int) - i64 ((b : Nat) : Int) = 0 ↔ a = b) ∧ (i64 ((a : Nat) : Int) - i64 ((b : Nat) : Int) ≤ 0 ↔ a ≤ b) := by
  have e : (2 : Nat) ^ 40 = 1099511627776 := by decide
  rw [i64_sub, l0, i64_eq (by omega) (by omega), i64_le (by omega) (by omega)]
  omega
theorem p40 {i j : Nat} {a b : Nat} (hi : i ≤ 6) (hj : j ≤ 6) (ha : a ≤ 6 ^ i) (hb : b ≤ 6 ^ j) : a * b < 2 ^ 40 := by
  have h1 : 6 ^ i ≤ 6 ^ 6 := Nat.pow_le_pow_right (by decide) hi
  have h2 : 6 ^ j ≤ 6 ^ 6 := Nat.pow_le_pow_right (by decide) hj
  have h3 := Nat.mul_le_mul (Nat.le_trans ha h1) (Nat.le_trans hb h2)
  have e : (6 : Nat) ^ 6 * 6 ^ 6 < 2 ^ 40 := by decide
  omega
end WLK
