/-! THE HELPERS ANSWER 1: areBounds -/
section EPS
theorem p2_hf {a b : Int} (h : a + 1 = b) : 2 * p2 a = p2 b := by subst h; exact (p2_s a).symm
theorem eps_v : ∃ E, isV (D64 4517329193108106637) E ∧ p2 (-20) ≤ E ∧ E ≤ p2 (-19) := by
  refine ⟨((4722366482869645 : Nat) : Rat) * p2 (-72), ⟨4722366482869645, -72, by decide, rfl⟩, ?_, ?_⟩
  · have e : p2 (-20) = p2 52 * p2 (-72) := by rw [← p2_add]; rfl
    have e2 : p2 52 = ((2 ^ 52 : Nat) : Rat) := p2_nat 52
    rw [e, e2]
    exact Rat.mul_le_mul_of_nonneg_right (Rat.natCast_le_natCast.mpr (by decide)) (Rat.le_of_lt (p2_pos _))
  · have e : p2 (-19) = p2 53 * p2 (-72) := by rw [← p2_add]; rfl
    have e2 : p2 53 = ((2 ^ 53 : Nat) : Rat) := p2_nat 53
    rw [e, e2]
    exact Rat.mul_le_mul_of_nonneg_right (Rat.natCast_le_natCast.mpr (by decide)) (Rat.le_of_lt (p2_pos _))
theorem eps_n : p2 (-30) + p2 (-51) ≤ p2 (-20) ∧ p2 (-30) + p2 (-52) ≤ p2 (-20) ∧ p2 (-19) ≤ 1 := by
  have h1 := p2_le (a := -51) (b := -21) (by decide)
  have h2 := p2_le (a := -30) (b := -21) (by decide)
  have h3 := p2_le (a := -52) (b := -21) (by decide)
  have h4 : 2 * p2 (-21) = p2 (-20) := p2_hf (by decide)
  have h5 := p2_le (a := -19) (b := 0) (by decide)
  rw [p2_0] at h5
  exact ⟨by grind, by grind, h5⟩
/-- rounded below zero: still a number -/
theorem neg_form {c : Nat} {q : Int} : (∃ d r, FP.Core.round FP.Core.b64 (.fin true c q) = .fin true d r) ∨ FP.Core.round FP.Core.b64 (.fin true c q) = .inf true := by
  show (∃ d r, FP.Core.roundRatio FP.Core.b64 true c 1 q = .fin true d r) ∨ FP.Core.roundRatio FP.Core.b64 true c 1 q = .inf true
  unfold FP.Core.roundRatio FP.Core.roundAt FP.Core.settle FP.Core.bound
  split
  · exact Or.inl ⟨_, _, rfl⟩
  · split <;> split
    · exact Or.inl ⟨_, _, rfl⟩
    · exact Or.inr rfl
    · exact Or.inl ⟨_, _, rfl⟩
    · exact Or.inr rfl
theorem neg_ord {d : FP.Core.Datum} {V : Rat} (hd : isV d V) {c : Nat} {q : Int} : ¬ Op.cmpValue (FP.Core.order d (FP.Core.round FP.Core.b64 (.fin true c q))) .l < 0 := by
  obtain ⟨n, r, rfl, -⟩ := hd
  rcases neg_form (c := c) (q := q) with ⟨m, z, e⟩ | e
  · rw [e]
    have ho : FP.Core.order (.fin false n r) (.fin true m z) = some (compare ((FP.Core.inUnits n r (min r z) : Nat) : Int) (-((FP.Core.inUnits m z (min r z) : Nat) : Int))) := rfl
    rw [ho]
    generalize FP.Core.inUnits n r (min r z) = A
    generalize FP.Core.inUnits m z (min r z) = B
    by_cases h : (A : Int) = -(B : Int)
    · rw [Int.compare_eq_eq.mpr h]; exact (by decide : ¬ (0 : Int32) < 0)
    · rw [Int.compare_eq_gt.mpr (by omega)]; exact (by decide : ¬ (1 : Int32) < 0)
  · rw [e]; exact (by decide : ¬ (1 : Int32) < 0)
theorem sub_neg {a b : Nat} {q r : Int} (h : (a : Rat) * p2 q < (b : Rat) * p2 r) : ∃ n m, FP.Core.exactSum (.fin false a q) (FP.Core.negate (.fin false b r)) = .fin true n m := by
  unfold FP.Core.negate FP.Core.exactSum
  dsimp only
  have e1 : ∀ (x : Nat) (z : Int), min q r ≤ z → ((FP.Core.inUnits x z (min q r) : Nat) : Rat) * p2 (min q r) = (x : Rat) * p2 z := fun x z hz => by
    unfold FP.Core.inUnits
    rw [Rat.natCast_mul, ← p2_nat, Rat.mul_assoc, ← p2_add]
    congr 2
    omega
  have hv : FP.Core.sumUnits false a q (!false) b r (min q r) = (FP.Core.inUnits a q (min q r) : Int) - (FP.Core.inUnits b r (min q r) : Int) := by
    unfold FP.Core.sumUnits FP.Core.signed
    simp
    omega
  rw [hv]
  have ha := e1 a q (by omega)
  have hb := e1 b r (by omega)
  generalize FP.Core.inUnits a q (min q r) = A at *
  generalize FP.Core.inUnits b r (min q r) = B at *
  have hm := p2_pos (min q r)
  have hAB : A < B := Nat.not_le.mp fun z => by
    have := Rat.mul_le_mul_of_nonneg_right (Rat.natCast_le_natCast.mpr z) (Rat.le_of_lt hm)
    rw [ha, hb] at this
    exact absurd h (Rat.not_lt.mpr this)
  refine ⟨((A : Int) - (B : Int)).natAbs, min q r, ?_⟩
  congr 1
  unfold FP.Core.sumSign
  rw [if_neg (by omega)]
  exact decide_eq_true (by omega)
theorem sub_eps {x : UInt64} {P : Rat} (hx : isV (D64 x) P) (hP : P ≤ 2) : vf_n64 (FP.dsub x 4517329193108106637) ∧ ∀ y V, isV (D64 y) V → P ≤ V + p2 (-30) → ¬ Op.cmpValue (FP.dcmp y (FP.dsub x 4517329193108106637)) .l < 0 := by
  obtain ⟨E, he, e1, e2⟩ := eps_v
  obtain ⟨k1, k2, k3⟩ := eps_n
  obtain ⟨a, q, x1, x2⟩ := hx
  obtain ⟨b, r, h1, h2⟩ := he
  by_cases hle : E ≤ P
  · obtain ⟨n, m, s1, s2⟩ := sub_v (a := a) (b := b) (q := q) (r := r) (V := P - E) (by rw [x2, h2]) (by grind)
    obtain ⟨Z, z1, z2, z3, z4⟩ := round_near (j := 1) s2 (by rw [p2_1]; have := p2_pos (-20); grind) (by decide) (by decide)
    have z3' : Z ≤ P - E + p2 (-52) := z3
    have hD : D64 (FP.dsub x 4517329193108106637) = FP.Core.round FP.Core.b64 (.fin false n m) := by rw [D_dsub, x1, h1, s1]
    rw [← hD] at z1
    refine ⟨vf64 z1.nn, fun y V hy hv => ?_⟩
    rw [(cmp_ge hy z1).1]
    exact Rat.not_lt.mpr (by grind)
  · obtain ⟨n, m, s1⟩ := sub_neg (a := a) (b := b) (q := q) (r := r) (by rw [x2, h2]; exact Rat.not_le.mp hle)
    have hD : D64 (FP.dsub x 4517329193108106637) = FP.Core.round FP.Core.b64 (.fin true n m) := by rw [D_dsub, x1, h1, s1]
    refine ⟨vf64 (by rw [hD]; exact round_nn), fun y V hy _ => ?_⟩
    have e : FP.dcmp y (FP.dsub x 4517329193108106637) = FP.Core.order (D64 y) (D64 (FP.dsub x 4517329193108106637)) := rfl
    rw [e, hD]
    exact neg_ord hy
theorem add_eps {y : UInt64} {W : Rat} (hy : isV (D64 y) W) (hW : W ≤ 2) : vf_n64 (FP.dadd y 4517329193108106637) ∧ ∀ z V, isV (D64 z) V → V ≤ W + p2 (-30) → ¬ 0 < Op.cmpValue (FP.dcmp z (FP.dadd y 4517329193108106637)) .g := by
  obtain ⟨E, he, e1, e2⟩ := eps_v
  obtain ⟨k1, k2, k3⟩ := eps_n
  have p4 : p2 2 = 4 := by
    have : p2 2 = ((2 ^ 2 : Nat) : Rat) := p2_nat 2
    rw [this]; rfl
  obtain ⟨Z, z1, z2, z3, z4⟩ := add_near (j := 2) hy he (by rw [p4]; grind) (by decide) (by decide)
  have z4' : W + E ≤ Z + p2 (-51) := z4
  refine ⟨vf64 z1.nn, fun z V hz hv => ?_⟩
  rw [(cmp_ge hz z1).2.1]
  exact Rat.not_lt.mpr (by grind)
/-- a whole number as a double -/
theorem l2d_v {n : Nat} (h : n < 2 ^ 40) : isV (D64 (FP.l2d (i64 (n : Int)))) (n : Rat) := by
  have e : (i64 (n : Int)).toInt = (n : Int) := i64_ofInt_toInt (Nat.lt_trans h (by decide))
  rw [D_l2d, e]
  have e : FP.Core.ofInt (n : Int) = .fin false n 0 := by
    unfold FP.Core.ofInt
    rw [decide_eq_false (by omega)]
    rfl
  have h2 := round_exact (f := FP.Core.b64) (c := n) (q := 0) ok64 (Nat.lt_trans h (by decide)) (by decide) (by decide)
  rw [p2_0, Rat.mul_one] at h2
  rw [e]
  exact h2
/-- a number up to 1 as a double -/
theorem rat_dbl {q : Rat} (h0 : 0 ≤ q) (h1 : q ≤ 1) (hd : q.den < 2 ^ 40) : ∃ Z, isV (D64 (FP.ddiv (FP.l2d (i64 q.num)) (FP.l2d (i64 ((q.den : Nat) : Int))))) Z ∧ Z ≤ 1 ∧ Z ≤ q + p2 (-53) ∧ q ≤ Z + p2 (-53) := by
  obtain ⟨m, hm⟩ : ∃ m : Nat, q.num = (m : Int) := ⟨q.num.toNat, by have := Rat.num_nonneg.mpr h0; omega⟩
  have hmd := num_le_den h1 hm rfl
  rw [hm]
  have hp := q.den_pos
  have hq := nat_pos_q hp
  have hv : q * ((q.den : Nat) : Rat) = (m : Rat) := by
    have h9 := rat_nd q
    have h10 : q * ((q.den : Nat) : Rat) = (q.num : Rat) := by
      conv => lhs; lhs; rw [h9]
      exact rat_divm hq
    rw [h10, hm]
    exact Rat.intCast_natCast m
  obtain ⟨Z, z1, z2, z3, z4⟩ := div_near (j := 0) (l2d_v (show m < 2 ^ 40 by omega)) (l2d_v hd) hq hv (by rw [p2_0]; exact h1) (by decide) (by decide)
  rw [p2_0] at z2
  exact ⟨Z, z1, z2, z3, z4⟩
end EPS
section AB
variable {a : cg_S} {G : Gm} {ch s n : Nat} {tt ff : Nat → Int32}
theorem n60_le {r : Nat} (h : r ≤ 60) : (r : Rat) * p2 (-42) ≤ p2 (-36) := by
  have e : p2 (-36) = p2 6 * p2 (-42) := by rw [← p2_add]; rfl
  have e2 : p2 6 = ((2 ^ 6 : Nat) : Rat) := p2_nat 6
  rw [e, e2]
  exact Rat.mul_le_mul_of_nonneg_right (Rat.natCast_le_natCast.mpr (by omega)) (Rat.le_of_lt (p2_pos _))
theorem l_areBounds {Q : Int32 → cg_S → Prop} (h : SI a G ch) (hw : whole G) (hn5 : G 0 0 ≤ 5) (htt : ∀ s, s < G 0 0 → tt s = i32 (G 8 s)) (k : ∀ τ, SI τ G ch → Q 1 τ) : M_L_areBounds (G 0 0) tt ff (i32 (G 0 0)) a Q := by
  have hW := h.2.2
  have hn := hW.1
  obtain ⟨x, hx⟩ := mmb_get hW hw 114
  have hx0 := mmb_nonneg hW hw hx
  have ax : ∀ s, s < G 0 0 → x s ≤ 1 := fun s hs => val_le_one hW hw hx hs
  have hp36 : p2 (-36) + p2 (-36) ≤ p2 (-30) := by
    have h4 : 2 * p2 (-36) = p2 (-35) := p2_hf (by decide)
    have := p2_le (a := -35) (b := -30) (by decide)
    grind
  have hp53 : p2 (-36) + p2 (-53) ≤ p2 (-30) := by
    have := p2_le (a := -53) (b := -36) (by decide)
    grind
  have hp1 : p2 (-36) ≤ 1 := by
    have := p2_le (a := -36) (b := 0) (by decide)
    rw [p2_0] at this; exact this
  refine v_L_areBounds ?_
  refine up2 (α := Nat) (n := G 0 0) (fun k q τ => SI τ G ch ∧ q ≤ 40 * k) (fun q v τ => L_L_areBounds_5 (G 0 0) tt ff q (i32 (G 0 0)) 1 v τ Q) ?_ ?_ 0 0 a (by omega) ⟨h, Nat.le_refl _⟩
  · rintro s kc τ hs ⟨hτ, hkc⟩ kk
    refine v_L_areBounds_5 (by omega) ⟨fun z => ?_, fun _ => l_above hτ hw (Or.inl rfl) hs (fun τ1 w1 h1 m1 => l_below h1 hw (Or.inl rfl) hs (fun τ2 w2 h2 m2 => ?_))⟩
    · rw [i32_le (by omega) (by omega)] at z; omega
    rw [mmb_uniq m1 hx s hs, mmb_uniq m2 hx s hs]
    obtain ⟨m, d, d0, d1, d2, d3, d4⟩ := val_num hW hw hx hs
    obtain ⟨Z, z1, z2, z3, z4⟩ := rat_dbl (hx0 s hs) (ax s hs) (by rw [d4]; exact Nat.lt_trans d1 (by decide))
    refine ⟨vf64 z1.nn, ?_⟩
    rintro X rfl
    generalize FP.ddiv (FP.l2d (i64 (x s).num)) (FP.l2d (i64 (((x s).den : Nat) : Int))) = X at *
    have loop : ∀ r i, i + r = 7 → ∀ q y τ P, SI τ G ch → q ≤ kc + 6 + 3 * i → isV (D64 y) P → (∀ r', 3 * i ≤ r' → r' ≤ 60 → P ≤ bE G r' s + p2 (-36)) → P ≤ 2 → L_L_areBounds_38 (G 0 0) tt ff q (i32 (G 0 0)) 1 (i32 s) y X (i32 (3 * i)) τ Q := by
      intro r
      induction r with
      | zero =>
        intro i hi q y τ P hτ hq hy hPr hP
        refine v_L_areBounds_38 (by omega) ⟨fun _ => ⟨vpi hs (by omega), ?_⟩, fun z => ?_⟩
        · rw [i32_N (by omega), htt s hs]
          have nxt : ∀ q' τ', SI τ' G ch → q' ≤ 40 * (s + 1) → L_L_areBounds_5 (G 0 0) tt ff q' (i32 (G 0 0)) (1 &&& 1) (i32 s + 1) τ' Q := fun q' τ' h1 h2 => by
            rw [i32_s, and11]
            exact kk q' τ' ⟨h1, h2⟩
          refine ⟨fun z => ?_, fun z => l_isOne hτ hw hs (fun τ3 h3 _ => ⟨fun z => absurd rfl z, fun _ => l_bound h3 hw hs (r := 7) (by decide) (fun τ4 h4 => ?_)⟩) (fun τ3 h3 hne => ?_)⟩
          · rintro _ rfl
            exact nxt _ τ hτ (by omega)
          · have hT : G 8 s ≠ 0 := fun e => z (by rw [e]; rfl)
            have e : bndD G 7 s = FP.dconst1 := if_pos hT
            rw [e]
            obtain ⟨V, v1, -⟩ := okB_1
            have h0 : Op.cmpValue (FP.dcmp FP.dconst1 FP.dconst1) .l = 0 := (cmp_ge v1 v1).2.2.mpr rfl
            refine ⟨fun y => absurd h0 y, fun _ => ?_⟩
            rintro _ rfl
            exact nxt _ τ4 h4 (by omega)
          · have hT : G 8 s ≠ 0 := fun e => z (by rw [e]; rfl)
            obtain ⟨p, hp, hcv, hA⟩ := mmb_val hW hw hx
            exact absurd (gX_stop hcv.1 hs ⟨rfl, hT⟩) (hne x hx)
        · have e : i = 7 := by omega
          subst e
          exact absurd (by decide) z
      | succ r ih =>
        intro i hi q y τ P hτ hq hy hPr hP
        refine v_L_areBounds_38 (by omega) ⟨fun z => ?_, fun _ => l_bound hτ hw hs (by omega) (fun τ1 h1 => ?_)⟩
        · rw [show (20 : Int32) = i32 20 from rfl, i32_le (by omega) (by omega)] at z; omega
        obtain ⟨V, v1, v2, v3⟩ := bndD_near hW hw (3 * i) (by omega) s hs
        have e36 := n60_le (r := 3 * i) (by omega)
        obtain ⟨s1, s2⟩ := sub_eps hy hP
        obtain ⟨t1, t2⟩ := add_eps z1 (by grind)
        have hb := bE_x hW hw hx (3 * i) s hs
        have hax := ax s hs
        have go : L_L_areBounds_38 (G 0 0) tt ff (q + 3) (i32 (G 0 0)) (1 &&& 1) (i32 s) (bndD G (3 * i) s) X (i32 (3 * i) + 3) τ1 Q := by
          rw [and11, show (3 : Int32) = i32 3 from rfl, i32_add]
          refine ih (i + 1) (by omega) _ _ τ1 V h1 (by omega) v1 (fun r' hr hr6 => ?_) (by grind)
          have := bE_mono hW hw hs (3 * i) (r' - 3 * i)
          rw [show 3 * i + (r' - 3 * i) = r' by omega] at this
          grind
        refine ⟨s1, fun z => absurd z (s2 _ V v1 ?_), fun _ => ⟨t1, fun z => absurd z (t2 _ V v1 ?_), fun _ => ?_⟩⟩
        · have := hPr (3 * i) (Nat.le_refl _) (by omega)
          grind
        · grind
        · rintro _ rfl
          exact go
    exact loop 7 0 rfl _ _ τ2 0 h2 (by omega) ⟨0, -1074, by decide, q_n0⟩ (fun r' _ _ => by
      have := bE_nn hW hw r' s hs
      have := p2_pos (-36)
      grind) (by decide)
  · rintro kc τ ⟨hτ, hkc⟩
    refine v_L_areBounds_5 (by omega) ⟨fun _ => ⟨Or.inr rfl, k τ hτ⟩, fun z => absurd ((i32_le (by omega) (by omega)).mpr (Nat.le_refl _)) z⟩
end AB
