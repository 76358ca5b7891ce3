/-! TRACES: the best ones -/
section TRA
variable {G : Gm}
/-- the weight and the sum of the told choice, and the chance -/
def wT (G : Gm) (s t : Nat) : Nat := G 7 (7 * mv (G 10) s + t)
def bT (G : Gm) (s : Nat) : Nat := G 6 (mv (G 10) s)
def hT (G : Gm) (s t : Nat) : Rat := ((wT G s t : Nat) : Rat) / ((bT G s : Nat) : Rat)
def tw (G : Gm) (f : Nat → Nat) : Nat → Rat
  | 0 => 1
  | j + 1 => tw G f j * hT G (f j) (f (j + 1))
def wk (G : Gm) (k : Nat) (f : Nat → Nat) : Prop := 1 ≤ k ∧ (∀ i, i < k → f i < G 0 0) ∧ (∀ i, i + 1 < k → wT G (f i) (f (i + 1)) ≠ 0 ∧ ¬ TG G (f i)) ∧ TG G (f (k - 1))
def trc (G : Gm) (k : Nat) (f : Nat → Nat) : Prop := wk G k f ∧ ∀ i j, i < k → j < k → f i = f j → i = j
def cns (s : Nat) (f : Nat → Nat) (i : Nat) : Nat := if i = 0 then s else f (i - 1)
def tlf (f : Nat → Nat) (i : Nat) : Nat := f (i + 1)
/-- at least as good -/
def btt (V : Rat) (L : Nat) (W : Rat) (k : Nat) : Prop := W < V ∨ (W = V ∧ L ≤ k)
theorem btt_rf (V : Rat) (L : Nat) : btt V L V L := Or.inr ⟨rfl, Nat.le_refl L⟩
theorem btt_tr {U V W : Rat} {i j k : Nat} (h1 : btt U i V j) (h2 : btt V j W k) : btt U i W k := by
  rcases h1 with h1 | ⟨h1, h1'⟩ <;> rcases h2 with h2 | ⟨h2, h2'⟩
  · exact Or.inl (by grind)
  · exact Or.inl (by rw [h2]; exact h1)
  · exact Or.inl (by rw [← h1]; exact h2)
  · exact Or.inr ⟨by rw [h2, h1], by omega⟩
theorem btt_le {V W : Rat} {i k : Nat} (h : btt V i W k) : W ≤ V := by
  rcases h with h | ⟨h, -⟩
  · exact Rat.le_of_lt h
  · rw [h]; exact Rat.le_refl
theorem btt_as {V W : Rat} {i k : Nat} (h1 : btt V i W k) (h2 : btt W k V i) : V = W ∧ i = k := by
  have a := btt_le h1
  have b := btt_le h2
  have e : V = W := Rat.le_antisymm b a
  refine ⟨e, ?_⟩
  rcases h1 with h1 | ⟨-, h1⟩
  · rw [e] at h1; exact absurd h1 Rat.lt_irrefl
  · rcases h2 with h2 | ⟨-, h2⟩
    · rw [e] at h2; exact absurd h2 Rat.lt_irrefl
    · omega
theorem btt_mul {V W c : Rat} {i k : Nat} (hc : 0 < c) (h : btt V i W k) : btt (c * V) (i + 1) (c * W) (k + 1) := by
  rcases h with h | ⟨h, h'⟩
  · exact Or.inl (Rat.mul_lt_mul_of_pos_left h hc)
  · exact Or.inr ⟨by rw [h], by omega⟩
theorem hT_pos {s t : Nat} (hW : GW G) (hw : whole G) (hs : s < G 0 0) (h : wT G s t ≠ 0) : 0 < hT G s t := by
  have hb : 0 < bT G s := (hw.2 s hs).2 _ (told_ok hW hw s hs)
  unfold hT
  rw [Rat.div_def]
  exact Rat.mul_pos (Rat.natCast_pos.mpr (by omega)) (Rat.inv_pos.mpr (Rat.natCast_pos.mpr hb))
theorem bT_pos {s : Nat} (hW : GW G) (hw : whole G) (hs : s < G 0 0) : 0 < bT G s := (hw.2 s hs).2 _ (told_ok hW hw s hs)
theorem hT_le {s t : Nat} (hW : GW G) (hw : whole G) (hs : s < G 0 0) (ht : t < G 0 0) : hT G s t ≤ 1 := by
  have hn := hW.1
  have hb := bT_pos hW hw hs
  have hm : mv (G 10) s < 21 := mv_lt (by omega) (told_2 hW s (by omega))
  have hle : wT G s t ≤ bT G s := by
    unfold wT bT
    rw [(hW.2.2.1 _ hm).2.2.2.1]
    exact sN_le (f := fun t => G 7 (7 * mv (G 10) s + t)) ht
  have hbq : (0 : Rat) < ((bT G s : Nat) : Rat) := Rat.natCast_pos.mpr hb
  unfold hT
  rw [Rat.div_def]
  have h1 := Rat.mul_le_mul_of_nonneg_right (Rat.natCast_le_natCast.mpr hle) (Rat.le_of_lt (Rat.inv_pos.mpr hbq))
  rw [Rat.mul_inv_cancel _ (Rat.ne_of_gt hbq)] at h1
  exact h1
theorem tw_cns (s : Nat) (f : Nat → Nat) : ∀ j, tw G (cns s f) (j + 1) = hT G s (f 0) * tw G f j := by
  intro j
  induction j with
  | zero =>
    show 1 * hT G (cns s f 0) (cns s f 1) = hT G s (f 0) * 1
    rw [Rat.one_mul, Rat.mul_one]
    rfl
  | succ j ih =>
    show tw G (cns s f) (j + 1) * hT G (cns s f (j + 1)) (cns s f (j + 2)) = hT G s (f 0) * (tw G f j * hT G (f j) (f (j + 1)))
    rw [ih, Rat.mul_assoc]
    have e1 : cns s f (j + 1) = f j := by unfold cns; rw [if_neg (by omega)]; rfl
    have e2 : cns s f (j + 2) = f (j + 1) := by unfold cns; rw [if_neg (by omega)]; rfl
    rw [e1, e2]
theorem cns_tlf (f : Nat → Nat) : cns (f 0) (tlf f) = f := by
  funext i
  unfold cns tlf
  split
  · rename_i h; rw [h]
  · congr 1; omega
theorem tw_tl (f : Nat → Nat) (j : Nat) : tw G f (j + 1) = hT G (f 0) (f 1) * tw G (tlf f) j := by
  have := tw_cns (G := G) (f 0) (tlf f) j
  rw [cns_tlf] at this
  exact this
theorem wk_cns {s k : Nat} {f : Nat → Nat} (hs : s < G 0 0) (ht : ¬ TG G s) (hw : wT G s (f 0) ≠ 0) (h : wk G k f) : wk G (k + 1) (cns s f) := by
  obtain ⟨h1, h2, h3, h4⟩ := h
  have e : ∀ i, cns s f (i + 1) = f i := fun i => by unfold cns; rw [if_neg (by omega)]; rfl
  refine ⟨by omega, fun i hi => ?_, fun i hi => ?_, ?_⟩
  · cases i with
    | zero => exact hs
    | succ i => rw [e]; exact h2 i (by omega)
  · cases i with
    | zero => rw [e]; exact ⟨hw, ht⟩
    | succ i => rw [e, e]; exact h3 i (by omega)
  · rw [show k + 1 - 1 = (k - 1) + 1 by omega, e]; exact h4
theorem wk_tl {k : Nat} {f : Nat → Nat} (h : wk G (k + 1) f) (hk : 1 ≤ k) : wk G k (tlf f) := by
  obtain ⟨h1, h2, h3, h4⟩ := h
  refine ⟨hk, fun i hi => h2 (i + 1) (by omega), fun i hi => h3 (i + 1) (by omega), ?_⟩
  unfold tlf
  rw [show k - 1 + 1 = k by omega]
  exact h4
/-- the best values and lengths -/
def OPT (G : Gm) (V : Nat → Rat) (L : Nat → Nat) : Prop := (∀ s, s < G 0 0 → TG G s → V s = 1 ∧ L s = 1) ∧ (∀ s, s < G 0 0 → ¬ TG G s → ∀ t, t < G 0 0 → wT G s t ≠ 0 → L t ≠ 0 → L s ≠ 0 ∧ btt (V s) (L s) (hT G s t * V t) (L t + 1)) ∧ ∀ s, s < G 0 0 → L s ≠ 0 → ∃ f, trc G (L s) f ∧ f 0 = s ∧ tw G f (L s - 1) = V s
def BST (G : Gm) (V : Nat → Rat) (L : Nat → Nat) (k : Nat) (f : Nat → Nat) : Prop := wk G k f ∧ tw G f (k - 1) = V (f 0) ∧ k = L (f 0)
variable {V : Nat → Rat} {L : Nat → Nat}
theorem opt_all (hW : GW G) (hw : whole G) (hO : OPT G V L) : ∀ k f, wk G k f → L (f 0) ≠ 0 ∧ btt (V (f 0)) (L (f 0)) (tw G f (k - 1)) k := by
  intro k
  induction k with
  | zero => intro f h; exact absurd h.1 (by omega)
  | succ k ih =>
    intro f h
    by_cases hk : k = 0
    · subst hk
      obtain ⟨-, h2, -, h4⟩ := h
      obtain ⟨a, b⟩ := hO.1 (f 0) (h2 0 (by omega)) h4
      rw [a, b]
      exact ⟨by decide, btt_rf 1 1⟩
    · have ht := wk_tl h (by omega)
      obtain ⟨i1, i2⟩ := ih (tlf f) ht
      obtain ⟨-, h2, h3, -⟩ := h
      have h01 := h3 0 (by omega)
      have hs := h2 0 (by omega)
      have hp := hT_pos hW hw hs h01.1
      obtain ⟨o1, o2⟩ := hO.2.1 (f 0) hs h01.2 (f 1) (h2 1 (by omega)) h01.1 i1
      refine ⟨o1, btt_tr o2 ?_⟩
      have := btt_mul hp i2
      rw [show k + 1 - 1 = (k - 1) + 1 by omega, tw_tl]
      exact this
theorem bst_tl {k : Nat} {f : Nat → Nat} (hW : GW G) (hw : whole G) (hO : OPT G V L) (h : BST G V L (k + 1) f) (hk : 1 ≤ k) : BST G V L k (tlf f) ∧ ¬ TG G (f 0) ∧ wT G (f 0) (f 1) ≠ 0 ∧ hT G (f 0) (f 1) * V (f 1) = V (f 0) ∧ L (f 1) + 1 = L (f 0) := by
  obtain ⟨h1, h2, h3⟩ := h
  have ht := wk_tl h1 hk
  obtain ⟨i1, i2⟩ := opt_all hW hw hO k (tlf f) ht
  obtain ⟨-, q2, q3, -⟩ := h1
  have h01 := q3 0 (by omega)
  have hs := q2 0 (by omega)
  have hp := hT_pos hW hw hs h01.1
  obtain ⟨o1, o2⟩ := hO.2.1 (f 0) hs h01.2 (f 1) (q2 1 (by omega)) h01.1 i1
  have m := btt_mul hp i2
  have e : hT G (f 0) (f 1) * tw G (tlf f) (k - 1) = V (f 0) := by
    rw [← h2, show k + 1 - 1 = (k - 1) + 1 by omega, tw_tl]
  have hm2 : btt (hT G (f 0) (f 1) * V (f 1)) (L (f 1) + 1) (V (f 0)) (L (f 0)) := by
    rw [← e, ← h3]; exact m
  obtain ⟨a1, a2⟩ := btt_as o2 hm2
  refine ⟨⟨ht, ?_, ?_⟩, h01.2, h01.1, a1.symm, a2.symm⟩
  · have : hT G (f 0) (f 1) * tw G (tlf f) (k - 1) = hT G (f 0) (f 1) * V (f 1) := by rw [e, a1]
    have hne := Rat.ne_of_gt hp
    have h5 := congrArg (fun z => (hT G (f 0) (f 1))⁻¹ * z) this
    rw [← Rat.mul_assoc, ← Rat.mul_assoc, Rat.inv_mul_cancel _ hne, Rat.one_mul, Rat.one_mul] at h5
    exact h5
  · show k = L (f 1)
    omega
theorem bst_cns {s k : Nat} {f : Nat → Nat} (hs : s < G 0 0) (ht : ¬ TG G s) (hw : wT G s (f 0) ≠ 0) (hv : hT G s (f 0) * V (f 0) = V s) (hl : L (f 0) + 1 = L s) (h : BST G V L k f) : BST G V L (k + 1) (cns s f) := by
  obtain ⟨h1, h2, h3⟩ := h
  refine ⟨wk_cns hs ht hw h1, ?_, ?_⟩
  · have := h1.1
    rw [show k + 1 - 1 = (k - 1) + 1 by omega, tw_cns, h2]
    exact hv
  · show k + 1 = L s
    omega
theorem bst_len (hW : GW G) (hw : whole G) (hO : OPT G V L) : ∀ k f, BST G V L k f → ∀ i, i < k → L (f i) = k - i := by
  intro k
  induction k with
  | zero => intro f _ i hi; omega
  | succ k ih =>
    intro f h i hi
    cases i with
    | zero => rw [← h.2.2]; rfl
    | succ i =>
      have := ih (tlf f) (bst_tl hW hw hO h (by omega)).1 i (by omega)
      show L (tlf f i) = _
      rw [this]; omega
theorem bst_trc {k : Nat} {f : Nat → Nat} (hW : GW G) (hw : whole G) (hO : OPT G V L) (h : BST G V L k f) : trc G k f := by
  refine ⟨h.1, fun i j hi hj e => ?_⟩
  have a := bst_len hW hw hO k f h i hi
  have b := bst_len hW hw hO k f h j hj
  rw [e] at a
  omega
/-- a state that can follow -/
def cnd (G : Gm) (V : Nat → Rat) (L : Nat → Nat) (s t : Nat) : Prop := wT G s t ≠ 0 ∧ L t ≠ 0 ∧ L t + 1 = L s ∧ hT G s t * V t = V s
def lxl (k : Nat) (g f : Nat → Nat) : Prop := ∀ i, i < k → (∀ j, j < i → g j = f j) → g i ≤ f i
def LXB (G : Gm) (V : Nat → Rat) (L : Nat → Nat) (k : Nat) (g : Nat → Nat) : Prop := BST G V L k g ∧ ∀ f, BST G V L k f → f 0 = g 0 → lxl k g f
theorem lxb_tl {k : Nat} {g : Nat → Nat} (hW : GW G) (hw : whole G) (hO : OPT G V L) (h : LXB G V L (k + 1) g) (hk : 1 ≤ k) : LXB G V L k (tlf g) ∧ cnd G V L (g 0) (g 1) ∧ ∀ t, t < G 0 0 → cnd G V L (g 0) t → g 1 ≤ t := by
  obtain ⟨h1, h2⟩ := h
  obtain ⟨a1, a2, a3, a4, a5⟩ := bst_tl hW hw hO h1 hk
  have hs : g 0 < G 0 0 := h1.1.2.1 0 (by omega)
  have hlk := h1.2.2
  refine ⟨⟨a1, fun f hf e0 i hi hpre => ?_⟩, ⟨a3, by omega, a5, a4⟩, fun t ht hc => ?_⟩
  · have e1 : f 0 = g 1 := e0
    have hb := bst_cns (s := g 0) hs a2 (by rw [e1]; exact a3) (by rw [e1]; exact a4) (by rw [e1]; exact a5) hf
    have := h2 _ hb rfl (i + 1) (by omega) (fun j hj => by
      cases j with
      | zero => rfl
      | succ j =>
        show tlf g j = cns (g 0) f (j + 1)
        rw [hpre j (by omega)]
        unfold cns; rw [if_neg (by omega)]; rfl)
    have e2 : cns (g 0) f (i + 1) = f i := by unfold cns; rw [if_neg (by omega)]; rfl
    rw [e2] at this
    exact this
  · obtain ⟨c1, c2, c3, c4⟩ := hc
    obtain ⟨f, f1, f2, f3⟩ := hO.2.2 t ht c2
    have hbf : BST G V L k f := by
      have : L t = k := by omega
      rw [this] at f1 f3
      exact ⟨f1.1, by rw [f2]; exact f3, by rw [f2]; exact this.symm⟩
    have hb := bst_cns (s := g 0) hs a2 (by rw [f2]; exact c1) (by rw [f2]; exact c4) (by rw [f2]; exact c3) hbf
    have := h2 _ hb rfl 1 (by omega) (fun j hj => by
      have : j = 0 := by omega
      rw [this]; rfl)
    have e2 : cns (g 0) f 1 = f 0 := rfl
    rw [e2, f2] at this
    exact this
end TRA
