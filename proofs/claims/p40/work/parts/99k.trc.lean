/-! TRACES: how the class finds them -/
section TRC
variable {G : Gm}
def pU (G : Gm) (f : Nat → Nat) : Nat → Nat
  | 0 => 1
  | j + 1 => pU G f j * wT G (f j) (f (j + 1))
def pD (G : Gm) (f : Nat → Nat) : Nat → Nat
  | 0 => 1
  | j + 1 => pD G f j * bT G (f j)
def shf (i : Nat) (f : Nat → Nat) (x : Nat) : Nat := f (x + i)
theorem q11 : ((1 : Nat) : Rat) / ((1 : Nat) : Rat) = 1 := by
  have e : ((1 : Nat) : Rat) = 1 := rfl
  rw [e]
  grind
theorem shf_cns {s i : Nat} {f : Nat → Nat} : shf (i + 1) (cns s f) = shf i f := by
  funext x
  unfold shf cns
  rw [if_neg (by omega)]
  congr 1
theorem tw_add (f : Nat → Nat) (i : Nat) : ∀ j, tw G f (i + j) = tw G f i * tw G (shf i f) j := by
  intro j
  induction j with
  | zero => exact (Rat.mul_one _).symm
  | succ j ih =>
    show tw G f (i + j) * hT G (f (i + j)) (f (i + j + 1)) = tw G f i * (tw G (shf i f) j * hT G (f (j + i)) (f (j + 1 + i)))
    rw [ih, Rat.mul_assoc, Nat.add_comm j i, show j + 1 + i = i + j + 1 by omega]
theorem tw_1 {k : Nat} {f : Nat → Nat} (hW : GW G) (hw : whole G) (h : wk G k f) : ∀ j, j < k → 0 < tw G f j ∧ tw G f j ≤ 1 := by
  intro j
  induction j with
  | zero => intro _; exact ⟨show (0 : Rat) < 1 by decide, Rat.le_refl⟩
  | succ j ih =>
    intro hj
    obtain ⟨i1, i2⟩ := ih (by omega)
    obtain ⟨-, h2, h3, -⟩ := h
    have hp := hT_pos hW hw (h2 j (by omega)) (h3 j hj).1
    have hl := hT_le hW hw (h2 j (by omega)) (h2 (j + 1) hj)
    refine ⟨Rat.mul_pos i1 hp, ?_⟩
    have := Rat.mul_le_mul_of_nonneg_left hl (Rat.le_of_lt i1)
    rw [Rat.mul_one] at this
    exact Rat.le_trans this i2
theorem pUD {k : Nat} {f : Nat → Nat} (hW : GW G) (hw : whole G) (h : wk G k f) : ∀ j, j < k → 0 < pU G f j ∧ pU G f j ≤ 6 ^ j ∧ 0 < pD G f j ∧ pD G f j ≤ 6 ^ j ∧ tw G f j = ((pU G f j : Nat) : Rat) / ((pD G f j : Nat) : Rat) := by
  have hn := hW.1
  intro j
  induction j with
  | zero => intro _; exact ⟨Nat.one_pos, Nat.le_refl 1, Nat.one_pos, Nat.le_refl 1, q11.symm⟩
  | succ j ih =>
    intro hj
    obtain ⟨i1, i2, i3, i4, i5⟩ := ih (by omega)
    obtain ⟨-, h2, h3, -⟩ := h
    have hs := h2 j (by omega)
    have hb := bT_pos hW hw hs
    have hm : mv (G 10) (f j) < 21 := mv_lt (by omega) (told_2 hW _ (by omega))
    have hw6 : wT G (f j) (f (j + 1)) ≤ 6 := hW.w6 hm (by have := h2 (j + 1) hj; omega)
    have hb6 : bT G (f j) ≤ 6 := (hW.2.2.1 _ hm).2.2.1
    refine ⟨Nat.mul_pos i1 (Nat.pos_of_ne_zero (h3 j hj).1), Nat.mul_le_mul i2 hw6, Nat.mul_pos i3 hb, Nat.mul_le_mul i4 hb6, ?_⟩
    show tw G f j * hT G (f j) (f (j + 1)) = ((pU G f j * wT G (f j) (f (j + 1)) : Nat) : Rat) / ((pD G f j * bT G (f j) : Nat) : Rat)
    rw [i5]
    unfold hT
    have a := Rat.ne_of_gt (Rat.natCast_pos.mpr i3)
    have b := Rat.ne_of_gt (Rat.natCast_pos.mpr hb)
    rw [Rat.natCast_mul, Rat.natCast_mul]
    grind
theorem pU_cns (s : Nat) (f : Nat → Nat) : ∀ j, pU G (cns s f) (j + 1) = wT G s (f 0) * pU G f j ∧ pD G (cns s f) (j + 1) = bT G s * pD G f j := by
  intro j
  have e : ∀ i, cns s f (i + 1) = f i := fun i => by unfold cns; rw [if_neg (by omega)]; rfl
  induction j with
  | zero =>
    refine ⟨?_, ?_⟩
    · show 1 * wT G (cns s f 0) (cns s f 1) = wT G s (f 0) * 1
      rw [Nat.one_mul, Nat.mul_one]; rfl
    · show 1 * bT G (cns s f 0) = bT G s * 1
      rw [Nat.one_mul, Nat.mul_one]; rfl
  | succ j ih =>
    refine ⟨?_, ?_⟩
    · show pU G (cns s f) (j + 1) * wT G (cns s f (j + 1)) (cns s f (j + 1 + 1)) = wT G s (f 0) * (pU G f j * wT G (f j) (f (j + 1)))
      rw [ih.1, e, e, Nat.mul_assoc]
    · show pD G (cns s f) (j + 1) * bT G (cns s f (j + 1)) = bT G s * (pD G f j * bT G (f j))
      rw [ih.2, e, Nat.mul_assoc]
theorem trc_len {k : Nat} {f : Nat → Nat} (h : trc G k f) : k ≤ G 0 0 := Classical.byContradiction fun z => by
  obtain ⟨i, j, hij, hj, e⟩ := pigeon (G 0 0) f (fun i hi => h.1.2.1 i (by omega))
  have := h.2 i j (by omega) (by omega) e
  omega
def VV (U D : Nat → Nat) (s : Nat) : Rat := ((U s : Nat) : Rat) / ((D s : Nat) : Rat)
/-- what holds while the traces are found -/
def TI (G : Gm) (U D L : Nat → Nat) : Prop := (∀ s, s < G 0 0 → TG G s → U s = 1 ∧ D s = 1 ∧ L s = 1) ∧ (∀ s, s < G 0 0 → L s = 0 → U s = 0 ∧ D s = 1) ∧ ∀ s, s < G 0 0 → L s ≠ 0 → ∃ f, trc G (L s) f ∧ f 0 = s ∧ pU G f (L s - 1) = U s ∧ pD G f (L s - 1) = D s ∧ ∀ i, i < L s → btt (VV U D (f i)) (L (f i)) (tw G (shf i f) (L s - 1 - i)) (L s - i)
variable {U D L : Nat → Nat}
theorem TI_b {s : Nat} (hW : GW G) (hw : whole G) (h : TI G U D L) (hs : s < G 0 0) : U s ≤ 46656 ∧ 0 < D s ∧ D s ≤ 46656 ∧ L s ≤ G 0 0 ∧ (L s ≠ 0 → 0 < VV U D s) := by
  by_cases c : L s = 0
  · obtain ⟨a, b⟩ := h.2.1 s hs c
    rw [a, b, c]
    exact ⟨by decide, by decide, by decide, Nat.zero_le _, fun z => absurd rfl z⟩
  · obtain ⟨f, f1, f2, f3, f4, -⟩ := h.2.2 s hs c
    obtain ⟨p1, p2, p3, p4, p5⟩ := pUD hW hw f1.1 (L s - 1) (by omega)
    have hl := trc_len f1
    have hn := hW.1
    have h6 : 6 ^ (L s - 1) ≤ 6 ^ 6 := Nat.pow_le_pow_right (by decide) (by omega)
    have e6 : (6 : Nat) ^ 6 = 46656 := by decide
    rw [f3] at p1 p2
    rw [f4] at p3 p4
    refine ⟨by omega, p3, by omega, hl, fun _ => ?_⟩
    unfold VV
    rw [Rat.div_def]
    exact Rat.mul_pos (Rat.natCast_pos.mpr p1) (Rat.inv_pos.mpr (Rat.natCast_pos.mpr p3))
theorem VV_upd {s t : Nat} (hb : 0 < bT G s) (hD : 0 < D t) : ((wT G s t * U t : Nat) : Rat) / ((bT G s * D t : Nat) : Rat) = hT G s t * VV U D t := by
  unfold hT VV
  have a := Rat.ne_of_gt (Rat.natCast_pos.mpr hb)
  have b := Rat.ne_of_gt (Rat.natCast_pos.mpr hD)
  rw [Rat.natCast_mul, Rat.natCast_mul]
  grind
theorem TI_upd {s t : Nat} (hW : GW G) (hw : whole G) (h : TI G U D L) (hs : s < G 0 0) (ht : t < G 0 0) (hT0 : ¬ TG G s) (hwt : wT G s t ≠ 0) (hL : L t ≠ 0) (hb : VV U D s < hT G s t * VV U D t ∨ (hT G s t * VV U D t = VV U D s ∧ L t + 1 < L s)) : TI G (upd1 U s (wT G s t * U t)) (upd1 D s (bT G s * D t)) (upd1 L s (L t + 1)) := by
  have hp := hT_pos hW hw hs hwt
  have hl1 := hT_le hW hw hs ht
  have hbp := bT_pos hW hw hs
  obtain ⟨-, dt, -, -, vt⟩ := TI_b hW hw h ht
  obtain ⟨f, f1, f2, f3, f4, f5⟩ := h.2.2 t ht hL
  have htw : tw G f (L t - 1) = VV U D t := by
    rw [(pUD hW hw f1.1 (L t - 1) (by omega)).2.2.2.2, f3, f4]
    rfl
  have hVs : VV (upd1 U s (wT G s t * U t)) (upd1 D s (bT G s * D t)) s = hT G s t * VV U D t := by
    rw [← VV_upd hbp dt]
    unfold VV upd1
    rw [if_pos rfl, if_pos rfl]
  have hVu : ∀ u, u ≠ s → VV (upd1 U s (wT G s t * U t)) (upd1 D s (bT G s * D t)) u = VV U D u := fun u hu => by
    unfold VV upd1
    rw [if_neg hu, if_neg hu]
  have hLs : upd1 L s (L t + 1) s = L t + 1 := by unfold upd1; rw [if_pos rfl]
  have hLu : ∀ u, u ≠ s → upd1 L s (L t + 1) u = L u := fun u hu => by unfold upd1; rw [if_neg hu]
  have imp : ∀ u, btt (VV (upd1 U s (wT G s t * U t)) (upd1 D s (bT G s * D t)) u) (upd1 L s (L t + 1) u) (VV U D u) (L u) := fun u => by
    by_cases c : u = s
    · rw [c, hVs, hLs]
      rcases hb with y | ⟨y1, y2⟩
      · exact Or.inl y
      · exact Or.inr ⟨y1.symm, by omega⟩
    · rw [hVu u c, hLu u c]
      exact btt_rf _ _
  -- the state isn't in the trace
  have hnot : ∀ i, i < L t → f i ≠ s := fun i hi e => by
    have h5 := f5 i hi
    rw [e] at h5
    have hsplit := tw_add (G := G) f i (L t - 1 - i)
    rw [show i + (L t - 1 - i) = L t - 1 by omega, htw] at hsplit
    obtain ⟨q1, q2⟩ := tw_1 hW hw f1.1 i hi
    have q3 : 0 < tw G (shf i f) (L t - 1 - i) := by
      refine Rat.not_le.mp fun z => ?_
      have := Rat.mul_le_mul_of_nonneg_left z (Rat.le_of_lt q1)
      rw [← hsplit, Rat.mul_zero] at this
      exact absurd (vt hL) (Rat.not_lt.mpr this)
    have q4 : hT G s t * VV U D t ≤ tw G (shf i f) (L t - 1 - i) := by
      rw [hsplit]
      have a1 := Rat.mul_le_mul_of_nonneg_right q2 (Rat.le_of_lt q3)
      rw [Rat.one_mul] at a1
      have a2 := Rat.mul_nonneg (Rat.le_of_lt q1) (Rat.le_of_lt q3)
      have a3 := Rat.mul_le_mul_of_nonneg_right hl1 a2
      rw [Rat.one_mul] at a3
      exact Rat.le_trans a3 a1
    have q5 := btt_le h5
    rcases hb with y | ⟨y1, y2⟩
    · exact absurd (Rat.le_trans q4 q5) (Rat.not_le.mpr y)
    · rcases h5 with z | ⟨-, z⟩
      · rw [y1] at q4
        exact absurd q4 (Rat.not_le.mpr z)
      · omega
  refine ⟨fun u hu hu2 => ?_, fun u hu hu2 => ?_, fun u hu hu2 => ?_⟩
  · have c : u ≠ s := fun e => hT0 (e ▸ hu2)
    have := h.1 u hu hu2
    unfold upd1
    rw [if_neg c, if_neg c, if_neg c]
    exact this
  · have c : u ≠ s := fun e => by rw [e, hLs] at hu2; omega
    rw [hLu u c] at hu2
    have := h.2.1 u hu hu2
    unfold upd1
    rw [if_neg c, if_neg c]
    exact this
  · by_cases c : u = s
    · rw [c, hLs]
      have e : ∀ i, cns s f (i + 1) = f i := fun i => by unfold cns; rw [if_neg (by omega)]; rfl
      have eU := pU_cns (G := G) s f (L t - 1)
      rw [show L t - 1 + 1 = L t by omega] at eU
      refine ⟨cns s f, ⟨wk_cns hs hT0 (by rw [f2]; exact hwt) f1.1, fun i j hi hj hij => ?_⟩, rfl, ?_, ?_, fun i hi => ?_⟩
      · cases i with
        | zero =>
          cases j with
          | zero => rfl
          | succ j =>
            rw [e] at hij
            exact absurd hij.symm (hnot j (by omega))
        | succ i =>
          cases j with
          | zero =>
            rw [e] at hij
            exact absurd hij (hnot i (by omega))
          | succ j =>
            rw [e, e] at hij
            rw [f1.2 i j (by omega) (by omega) hij]
      · rw [Nat.add_sub_cancel, eU.1, f2, f3]
        unfold upd1
        rw [if_pos rfl]
      · rw [Nat.add_sub_cancel, eU.2, f4]
        unfold upd1
        rw [if_pos rfl]
      · cases i with
        | zero =>
          have e0 : cns s f 0 = s := rfl
          rw [e0, hVs, hLs]
          have e1 : shf 0 (cns s f) = cns s f := rfl
          have e2 := tw_cns (G := G) s f (L t - 1)
          rw [show L t - 1 + 1 = L t by omega, f2, htw] at e2
          rw [e1, show L t + 1 - 1 - 0 = L t by omega, e2]
          exact btt_rf _ _
        | succ i =>
          rw [e, shf_cns, show L t + 1 - 1 - (i + 1) = L t - 1 - i by omega, show L t + 1 - (i + 1) = L t - i by omega]
          exact btt_tr (imp _) (f5 i (by omega))
    · rw [hLu u c] at hu2
      obtain ⟨g, g1, g2, g3, g4, g5⟩ := h.2.2 u hu hu2
      rw [hLu u c]
      refine ⟨g, g1, g2, ?_, ?_, fun i hi => btt_tr (imp _) (g5 i hi)⟩
      · unfold upd1; rw [if_neg c]; exact g3
      · unfold upd1; rw [if_neg c]; exact g4
/-- complete for walks of at most k states -/
def CP (G : Gm) (U D L : Nat → Nat) (k : Nat) : Prop := ∀ j f, wk G j f → j ≤ k → L (f 0) ≠ 0 ∧ btt (VV U D (f 0)) (L (f 0)) (tw G f (j - 1)) j
theorem TI_opt (hW : GW G) (hw : whole G) (h : TI G U D L) (hc : CP G U D L (G 0 0 + 1)) : OPT G (VV U D) L := by
  have htw : ∀ s f, trc G (L s) f → L s ≠ 0 → pU G f (L s - 1) = U s → pD G f (L s - 1) = D s → tw G f (L s - 1) = VV U D s := fun s f f1 f0 f3 f4 => by
    rw [(pUD hW hw f1.1 (L s - 1) (by omega)).2.2.2.2, f3, f4]
    rfl
  refine ⟨fun s hs h1 => ?_, fun s hs h1 t ht hwt hLt => ?_, fun s hs h1 => ?_⟩
  · obtain ⟨a, b, c⟩ := h.1 s hs h1
    refine ⟨?_, c⟩
    unfold VV
    rw [a, b]
    exact q11
  · obtain ⟨f, f1, f2, f3, f4, -⟩ := h.2.2 t ht hLt
    have hwk := wk_cns hs h1 (by rw [f2]; exact hwt) f1.1
    have := hc _ _ hwk (by have := trc_len f1; omega)
    have e0 : cns s f 0 = s := rfl
    have e2 := tw_cns (G := G) s f (L t - 1)
    rw [show L t - 1 + 1 = L t by omega, f2, htw t f f1 hLt f3 f4] at e2
    rw [e0, Nat.add_sub_cancel, e2] at this
    exact this
  · obtain ⟨f, f1, f2, f3, f4, -⟩ := h.2.2 s hs h1
    exact ⟨f, f1, f2, htw s f f1 h1 f3 f4⟩
end TRC
