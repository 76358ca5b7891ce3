/-! THE HELPERS ANSWER 1: isBest -/
section BE
variable {a : cg_S} {G : Gm} {ch s aim : Nat} {x : Nat → Rat}
/-- a value's two numbers -/
theorem val_num (hW : GW G) (hw : whole G) (hm : mmb G aim x) (hs : s < G 0 0) : ∃ m k : Nat, 0 < k ∧ k < 2 ^ 30 ∧ m ≤ 162 * k ∧ (x s).num = (m : Int) ∧ (x s).den = k := by
  obtain ⟨d, u, g1, g2, g4⟩ := cden_mmb hW hw hm
  obtain ⟨k1, k3⟩ := g4 s hs
  obtain ⟨n, k, l1, l2, l3, l4, l5⟩ := num_le g1 g2 k1
  rw [← k3] at l4 l5
  exact ⟨n, k, l1, l2, l3, l4, l5⟩
theorem i64_nneg {m : Nat} (h : m < 2 ^ 40) : ¬ i64 (m : Int) < 0 := by
  have e : (2 : Nat) ^ 40 = 1099511627776 := by decide
  rw [l0, i64_lt (by omega) (by omega)]; omega
theorem i64_npos {m : Nat} (h : m < 2 ^ 40) (h0 : 0 < m) : ¬ i64 (m : Int) ≤ 0 := by
  have e : (2 : Nat) ^ 40 = 1099511627776 := by decide
  rw [l0, i64_le (by omega) (by omega)]; omega
theorem i64_ltn {m k : Nat} (h : m < 2 ^ 40) (h0 : k < 2 ^ 40) : i64 (m : Int) < i64 (k : Int) ↔ m < k := by
  have e : (2 : Nat) ^ 40 = 1099511627776 := by decide
  rw [i64_lt (by omega) (by omega)]; omega
theorem i64_eqn {m k : Nat} (h : m < 2 ^ 40) (h0 : k < 2 ^ 40) : i64 (m : Int) = i64 (k : Int) ↔ m = k := by
  have e : (2 : Nat) ^ 40 = 1099511627776 := by decide
  rw [i64_eq (by omega) (by omega)]; omega
theorem ord_self {d : FP.Core.Datum} (h : d ≠ .nan) : FP.Core.order d d = some .eq := by
  cases d with
  | nan => exact absurd rfl h
  | inf s => cases s <;> rfl
  | fin s c q =>
    show some (compare _ _) = _
    rw [Int.compare_eq_eq.mpr rfl]
theorem fcmp_self {y : UInt32} {o} (h : D32 y ≠ .nan) : Op.cmpValue (FP.fcmp y y) o = 0 := by
  have e : FP.fcmp y y = some .eq := ord_self h
  rw [e]; rfl
theorem val_le_one (hW : GW G) (hw : whole G) (hm : mmb G 114 x) (hs : s < G 0 0) : x s ≤ 1 := by
  obtain ⟨p, hp, hcv, -⟩ := mmb_val hW hw hm
  have h1 := hcv.1
  unfold gX at h1
  rw [if_pos rfl] at h1
  exact solR_le_one ((mv_pk hp).ok (game_ok hW hw)) h1 s hs
theorem num_le_den {q : Rat} {m k : Nat} (h : q ≤ 1) (hn : q.num = (m : Int)) (hd : q.den = k) : m ≤ k := by
  have d1 : (1 : Rat).den = 1 := rfl
  have d2 : (1 : Rat).num = 1 := rfl
  rw [Rat.le_iff, d1, d2] at h
  omega
/-- what is told gets the values -/
def TV (G : Gm) (aim : Nat) (x : Nat → Rat) : Prop := (∀ y, gX G aim (mv (G 10)) y → ∀ s, s < G 0 0 → y s = x s) ∧ (∀ o y, o = 97 ∨ o = 98 → bst G o aim (G 10) y → ∀ s, s < G 0 0 → y s = x s)
theorem l_isBest {Q : Int32 → cg_S → Prop} (h : SI a G ch) (hch : ch < 1000) (hw : whole G) (ha : okA aim) (hs : s < G 0 0) (hm : mmb G aim x) (hv : TV G aim x) (k : ∀ τ, SI τ G ch → Q 1 τ) : M_L_isBest (i32 aim) (i32 s) a Q := by
  have hW := h.2.2
  have hn := hW.1
  obtain ⟨m, d, d0, d1, m1, en, ed⟩ := val_num hW hw hm hs
  have N : ∀ w, mmb G aim w → (w s).num = (m : Int) ∧ (w s).den = d := fun w hw' => by rw [mmb_uniq hw' hm s hs]; exact ⟨en, ed⟩
  have Y : ∀ y : Nat → Rat, y s = x s → (y s).num = (m : Int) ∧ (y s).den = d := fun y e => by rw [e]; exact ⟨en, ed⟩
  have e30 : (2 : Nat) ^ 30 = 1073741824 := by decide
  have e40 : (2 : Nat) ^ 40 = 1099511627776 := by decide
  have p202 : ∀ kc τ, kc + 3 ≤ 60 → SI τ G ch → L_L_isBest_202 kc (i32 aim) (i32 s) (i64 (m : Int)) (i64 ((d : Nat) : Int)) τ Q := fun kc τ hk hτ => v_L_isBest_202 hk (l_valueFloat hτ hw ha hs (fun τ' w h1 h2 h3 h4 => by
    have e : vlF (w s) = FP.fdiv (FP.l2f (i64 (m : Int))) (FP.l2f (i64 ((d : Nat) : Int))) := by unfold vlF; rw [(N w h2).1, (N w h2).2]
    rw [e] at h3 h4 ⊢
    rw [fcmp_self h4]
    exact ⟨h3, fun z => absurd rfl z, fun _ => k τ' h1⟩))
  have p142 : ∀ kc τ, kc + 7 ≤ 60 → SI τ G ch → L_L_isBest_142 kc (i32 aim) (i32 s) (i64 (m : Int)) (i64 ((d : Nat) : Int)) 1 1 τ Q := fun kc τ hk hτ => by
    refine v_L_isBest_142 (by omega) ?_
    rintro _ rfl
    refine ⟨fun z => absurd z (by decide), fun _ => ⟨fun _ => p202 _ _ (by omega) hτ, fun e114 => ?_⟩⟩
    have ea : aim = 114 := (i32_eq (okA_lt ha) (by decide)).mp e114
    subst ea
    have hmd : m ≤ d := num_le_den (val_le_one hW hw hm hs) en ed
    have hz : x s = 0 ↔ m = 0 := by rw [← Rat.num_eq_zero, en]; omega
    have ho : x s = 1 ↔ m = d := by rw [← rat_one_iff, en, ed]; omega
    have q179 : ∀ τ, SI τ G ch → L_L_isBest_179 (kc + 2) (i32 114) (i32 s) (i64 (m : Int)) (i64 ((d : Nat) : Int)) 1 1 τ Q ∧ L_L_isBest_179 (kc + 2) (i32 114) (i32 s) (i64 (m : Int)) (i64 ((d : Nat) : Int)) 0 0 τ Q := fun τ hτ => by
      have core : ∀ t : Int32, L_L_isBest_179 (kc + 2) (i32 114) (i32 s) (i64 (m : Int)) (i64 ((d : Nat) : Int)) t t τ Q := fun t => by
        refine v_L_isBest_179 (by omega) ⟨fun z => absurd rfl z, fun _ => l_isOne hτ hw hs (fun τ' h1 h2 => ⟨fun z => absurd (congrArg (fun n : Nat => i64 (n : Int)) (ho.mp (h2 x hm))) z, fun _ => ⟨fun z => absurd rfl z, fun _ => p202 _ _ (by omega) h1⟩⟩) (fun τ' h1 h2 => ⟨fun _ => ⟨fun z => absurd rfl z, fun _ => p202 _ _ (by omega) h1⟩, fun z => absurd (ho.mpr ((i64_eqn (by omega) (by omega)).mp z)) (h2 x hm)⟩)⟩
      exact ⟨core 1, core 0⟩
    refine ⟨fun z => ?_, fun _ => l_isZero hτ hw hs (fun τ' h1 h2 => ?_) (fun τ' h1 h2 => ?_)⟩
    · rw [i64_ltn (by omega) (by omega)] at z; omega
    · have e0 : m = 0 := hz.mp (h2 x hm)
      subst e0
      exact ⟨fun z => absurd rfl z, fun _ => (q179 τ' h1).1⟩
    · refine ⟨fun _ => (q179 τ' h1).2, fun z => ?_⟩
      have := (i64_eqn (m := m) (k := 0) (by omega) (by decide)).mp z
      exact absurd (hz.mpr this) (h2 x hm)
  have p79 : ∀ τ, SI τ G ch → L_L_isBest_79 18 (i32 aim) (i32 s) (i64 (m : Int)) (i64 ((d : Nat) : Int)) 1 τ Q := fun τ hτ => by
    refine v_L_isBest_79 (by decide) (l_responseAbove hτ (Or.inl ⟨rfl, rfl⟩) hw ha hs (fun τ1 y1 h1 g1 => ?_))
    rw [(Y y1 (hv.2 98 y1 (Or.inr rfl) g1 s hs)).1]
    refine ⟨fun z => absurd rfl z, fun _ => l_responseBelow h1 (Or.inl ⟨rfl, rfl⟩) hw ha hs (fun τ2 y2 h2 g2 => ?_)⟩
    rw [(Y y2 (hv.2 98 y2 (Or.inr rfl) g2 s hs)).2]
    refine ⟨fun z => absurd rfl z, fun _ => l_responseAbove h2 (Or.inr ⟨rfl, rfl⟩) hw ha hs (fun τ3 y3 h3 g3 => ?_)⟩
    rw [(Y y3 (hv.2 97 y3 (Or.inl rfl) g3 s hs)).1]
    refine ⟨fun z => absurd rfl z, fun _ => l_responseBelow h3 (Or.inr ⟨rfl, rfl⟩) hw ha hs (fun τ4 y4 h4 g4 => ?_)⟩
    rw [(Y y4 (hv.2 97 y4 (Or.inl rfl) g4 s hs)).2]
    exact ⟨fun z => absurd rfl z, fun _ => p142 34 τ4 (by decide) h4⟩
  refine v_L_isBest (l_above h hw ha hs (fun τ1 w1 h1 g1 => ?_))
  rw [(N w1 g1).1]
  refine l_below h1 hw ha hs (fun τ2 w2 h2 g2 => ?_)
  rw [(N w2 g2).2]
  refine ⟨fun z => absurd z (i64_nneg (by omega)), fun _ => ⟨fun z => absurd z (i64_npos (by omega) d0), fun _ => ?_⟩⟩
  refine l_aboveByAll h2 hch hw ha hs (fun τ3 w3 h3 g3 => ?_)
  rw [(N w3 g3).1]
  refine ⟨fun z => absurd rfl z, fun _ => l_belowByAll h3 hch hw ha hs (fun τ4 w4 h4 g4 => ?_)⟩
  rw [(N w4 g4).2]
  refine ⟨fun z => absurd rfl z, fun _ => l_chainAbove h4 hw ha hs (fun τ5 y5 h5 g5 => ?_)⟩
  rw [(Y y5 (hv.1 y5 g5 s hs)).1]
  refine ⟨fun z => absurd rfl z, fun _ => l_chainBelow h5 hw ha hs (fun τ6 y6 h6 g6 => ?_)⟩
  rw [(Y y6 (hv.1 y6 g6 s hs)).2]
  exact ⟨fun z => absurd rfl z, fun _ => p79 τ6 h6⟩
end BE
