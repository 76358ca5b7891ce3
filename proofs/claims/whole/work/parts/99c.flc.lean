/-! THE CALLS: valueFloat, restFloat, rounded -/
theorem num_le {u d : Nat} (hd : 0 < d) (hd2 : d ≤ 612220032) (hu : u ≤ 162 * d) : ∃ n k : Nat, 0 < k ∧ k < 2 ^ 30 ∧ n ≤ 162 * k ∧ (((u : Nat) : Rat) / ((d : Nat) : Rat)).num = (n : Int) ∧ (((u : Nat) : Rat) / ((d : Nat) : Rat)).den = k := by
  obtain ⟨h1, h2⟩ := rat_num (a := (u : Int)) (b := (d : Int)) (by omega)
  have hs : ((d : Nat) : Int).sign = 1 := Int.sign_eq_one_of_pos (by omega)
  rw [hs, Int.mul_one] at h1 h2
  have h0 : 0 ≤ (((u : Nat) : Rat) / ((d : Nat) : Rat)).num := Rat.num_nonneg.mpr (rat_div_nonneg Rat.natCast_nonneg (Rat.natCast_pos.mpr hd))
  have hk := (((u : Nat) : Rat) / ((d : Nat) : Rat)).den_pos
  have e1 : (((u : Int) : Rat) / ((d : Int) : Rat)) = (((u : Nat) : Rat) / ((d : Nat) : Rat)) := by rw [Rat.intCast_natCast, Rat.intCast_natCast]
  rw [e1] at h1 h2
  generalize ((u : Nat) : Rat) / ((d : Nat) : Rat) = q at *
  generalize Int.gcd (u : Int) (d : Int) = g at *
  have hn : q.num = (q.num.toNat : Int) := by omega
  rw [hn] at h1
  have h1' : q.num.toNat * g = u := by
    have : ((q.num.toNat * g : Nat) : Int) = (u : Int) := by rw [Int.natCast_mul]; exact h1
    omega
  have h2' : q.den * g = d := by
    have : ((q.den * g : Nat) : Int) = (d : Int) := by rw [Int.natCast_mul]; exact h2
    omega
  have hg : 0 < g := Nat.pos_of_ne_zero fun z => by rw [z] at h2'; omega
  refine ⟨q.num.toNat, q.den, hk, ?_, ?_, hn, rfl⟩
  · have := Nat.le_mul_of_pos_right q.den hg
    have e : (2 : Nat) ^ 30 = 1073741824 := by decide
    omega
  · apply Nat.le_of_mul_le_mul_right _ hg
    rw [h1', Nat.mul_assoc, h2']
    exact hu
/-- the values with what they may be -/
theorem c_findValuesW {v1 v2 : Int32} {a : cg_S} {G : Gm} {ch : Nat} {Q : cg_S → Prop} {X : String → cg_S → Prop} (hC : CG a G ch) (hK : CK a G ch) (hW : GW G) (hy : ∀ aim s τ w, okA aim → v1 = i32 aim → s < G 0 0 → v2 = i32 s → whole G → CG τ G ch → CK τ G ch → mmb G aim w → AW τ (G 0 0) w → Q τ) (hx : ∀ e, why3 v1 v2 G e → X (exn e) a) : M_X11_findValues v1 v2 a Q X := by
  refine v_X11_findValues (c_needSolvable hC hW (fun aim s ha e1 hs e2 hw => ?_) hx)
  have k := hy aim s
  rw [e1] at k ⊢
  exact impW_all a G ch aim Q hC hK hW hw ha (fun τ w _ h1 h2 h3 h4 => k τ w ha rfl hs e2 hw h1 h2 h3 h4)
theorem c_asked {v1 v2 : Int32} {a : cg_S} {G : Gm} {ch : Nat} {Q : Int64 → Int64 → cg_S → Prop} {X : String → cg_S → Prop} (hC : CG a G ch) (hK : CK a G ch) (hW : GW G) (hy : ∀ aim s τ w n k, okA aim → v1 = i32 aim → s < G 0 0 → v2 = i32 s → whole G → CG τ G ch → CK τ G ch → mmb G aim w → 0 < k → k < 2 ^ 30 → n ≤ 162 * k → (w s).num = ((n : Nat) : Int) → (w s).den = k → Q (i64 ((n : Nat) : Int)) (i64 ((k : Nat) : Int)) τ) (hx : ∀ e, why3 v1 v2 G e → X (exn e) a) : M_X11_findValues v1 v2 a (fun s2 => M_X0_toldAbove v2 s2 (fun r4 s5 => M_X0_toldBelow v2 s5 (fun r7 s8 => Q r4 r7 s8))) X := by
  have hn7 := hW.1
  refine c_findValuesW hC hK hW (fun aim s τ w ha e1 hs e2 hw h1 h2 h3 h4 => ?_) hx
  rw [show M_X0_toldAbove v2 τ = M_X0_toldAbove (i32 s) τ by rw [e2]]
  refine (c_told hn7 h4.an hs).1 ?_
  rw [show M_X0_toldBelow v2 τ = M_X0_toldBelow (i32 s) τ by rw [e2]]
  refine (c_told hn7 h4.an hs).2 ?_
  obtain ⟨d, u, g1, g2, g3, g4⟩ := h4
  obtain ⟨k1, k2, k3⟩ := g4 s hs
  obtain ⟨n, k, l1, l2, l3, l4, l5⟩ := num_le g1 g2 k1
  rw [← k3] at l4 l5
  rw [l4, l5]
  exact hy aim s τ w n k ha e1 hs e2 hw h1 h2 h3 l1 l2 l3 l4 l5
theorem m_asked {v1 v2 : Int32} {G : Gm} {b : cg_S} {aim s n k : Nat} {w : Nat → Rat} {Q : Int32 → cg_S → Prop} (hR : RB b G) (ha : okA aim) (e1 : v1 = i32 aim) (hs : s < G 0 0) (e2 : v2 = i32 s) (hw : whole G) (hm : mmb G aim w) (hn : (w s).num = ((n : Nat) : Int)) (hk : (w s).den = k) (h : ∀ τ, RB τ G → τ.1 0 0 = i32 0 → τ.2.1 0 40 = i64 ((n : Nat) : Int) → τ.2.1 0 41 = i64 ((k : Nat) : Int) → Q 1 τ) : M_X12_isAsked v1 v2 b Q := by
  have hn7 := hR.1.1
  refine m_isAsked hR (fun e he => (why3_no he ha e1 hs e2 hw).elim) (fun aim' s' τ w' ha' e1' hs' e2' _ hR' h0 hw' _ _ h40 h41 => ?_)
  rw [e1, i32_eq (okA_lt ha) (okA_lt ha')] at e1'
  rw [e2, i32_eq (by omega) (by omega)] at e2'
  subst e1'; subst e2'
  rw [← mmb_uniq hm hw' s hs, hn] at h40
  rw [← mmb_uniq hm hw' s hs, hk] at h41
  exact h τ hR' h0 h40 h41
theorem i64_n0 {k : Nat} (h : k < 2 ^ 30) (h0 : 0 < k) : ¬ i64 ((k : Nat) : Int) = 0 := fun z => by
  have e : (2 : Nat) ^ 30 = 1073741824 := by decide
  rw [l0, i64_eq (by omega) (by omega)] at z
  omega
theorem op_valueFloat {n : Nat} {v1 v2 : Int32} {a b : cg_S} (h : Inv n a b) : OP_valueFloat (Inv (n + 1)) v1 v2 a b := by
  obtain ⟨G, ch, hch, hC, hK, hR⟩ := h
  have hW := hR.1
  refine v_X11_valueFloat (c_asked hC hK hW (fun aim s τ w m k ha e1 hs e2 hw h1 h2 h3 hk hk2 hm hn hd => v_X11_floatOf ⟨fun _ => ?_, fun z => absurd z (i64_n0 hk2 hk)⟩) (fun e he => ?_))
  · obtain ⟨c, q, f1, f2, f3⟩ := float_v hk hk2 hm
    have nn : D32 (FP.fdiv (FP.l2f (Int64.ofInt m)) (FP.l2f (Int64.ofInt k))) ≠ .nan := by rw [f1]; exact fun z => by cases z
    have v32 : vf_n32 (FP.fdiv (FP.l2f (i64 m)) (FP.l2f (i64 k))) := vf32 nn
    refine ⟨v32, ?_, v_X12_valueFloat (m_asked hR ha e1 hs e2 hw h3 hn hd (fun υ hR' h0 h40 h41 => ⟨fun z => absurd z (by decide), fun _ => ?_⟩))⟩
    · refine vf64 ?_
      show D64 (FP.f2d (FP.fdiv (FP.l2f (Int64.ofInt m)) (FP.l2f (Int64.ofInt k)))) ≠ .nan
      rw [D_f2d nn, f1]
      exact round_nn
    · rw [h40, h41]
      exact ⟨v32, m_thrown1 h0 ⟨rfl, rfl, ⟨G, ch, by omega, h1, h2, hR'⟩⟩⟩
  · refine fail3 (R := fun _ _ _ => True) (b := b) (M := fun P => M_X12_valueFloat v1 v2 b (fun r2 b1 => M_X12_thrown b1 P)) he (fun P hP => v_X12_valueFloat (m_isAsked hR (fun e' he' => ⟨fun _ => ?_, fun z => absurd rfl z⟩) (fun aim s τ w ha e1 hs e2 hw _ _ _ _ _ _ _ => (why3_no he ha e1 hs e2 hw).elim))) (Inv.up hch hC hK hR)
    rw [why3_uniq he' he]
    exact m_thrown0 hP
theorem op_restFloat {n : Nat} {v1 v2 : Int32} {a b : cg_S} (h : Inv n a b) : OP_restFloat (Inv (n + 1)) v1 v2 a b := by
  obtain ⟨G, ch, hch, hC, hK, hR⟩ := h
  have hW := hR.1
  refine v_X11_restFloat (c_asked hC hK hW (fun aim s τ w m k ha e1 hs e2 hw h1 h2 h3 hk hk2 hm hn hd => v_X11_floatOf ⟨fun _ => ?_, fun z => absurd z (i64_n0 hk2 hk)⟩) (fun e he => ?_))
  · obtain ⟨c, q, f1, f2, f3⟩ := float_v hk hk2 hm
    have nn : D32 (FP.fdiv (FP.l2f (Int64.ofInt m)) (FP.l2f (Int64.ofInt k))) ≠ .nan := by rw [f1]; exact fun z => by cases z
    have v32 : vf_n32 (FP.fdiv (FP.l2f (i64 m)) (FP.l2f (i64 k))) := vf32 nn
    obtain ⟨r1, r2, r3, r4, r5, ⟨V, r6⟩⟩ := rest_v f1 f2 f3
    refine ⟨v32, v_X11_restOf ⟨vf64 r1, ?_⟩⟩
    rintro _ rfl
    refine ⟨vf64 r2, ?_⟩
    rintro _ rfl
    have r5' : FP.d2f (FP.dsub (FP.f2d (FP.fdiv (FP.l2f (i64 m)) (FP.l2f (i64 k)))) (FP.dmul (FP.l2d (FP.d2l (FP.ddiv (FP.f2d (FP.fdiv (FP.l2f (i64 m)) (FP.l2f (i64 k)))) 4604930618986332160))) 4604930618986332160)) = FP.frem (FP.fdiv (FP.l2f (i64 m)) (FP.l2f (i64 k))) 1061158912 := r5
    refine ⟨vf64 r3, vf64 r4, ?_⟩
    rw [r5']
    refine ⟨vf32 r6.nn, ?_, v_X12_restFloat (m_asked hR ha e1 hs e2 hw h3 hn hd (fun υ hR' h0 h40 h41 => ⟨fun z => absurd z (by decide), fun _ => ?_⟩))⟩
    · refine vf64 ?_
      show D64 (FP.f2d (FP.frem (FP.fdiv (FP.l2f (Int64.ofInt m)) (FP.l2f (Int64.ofInt k))) 1061158912)) ≠ .nan
      rw [D_f2d r6.nn]
      obtain ⟨c2, q2, e3, -⟩ := r6
      rw [e3]
      exact round_nn
    · rw [h40, h41]
      exact ⟨v32, vf32 r6.nn, m_thrown1 h0 ⟨rfl, rfl, ⟨G, ch, by omega, h1, h2, hR'⟩⟩⟩
  · refine fail3 (R := fun _ _ _ => True) (b := b) (M := fun P => M_X12_restFloat v1 v2 b (fun r2 b1 => M_X12_thrown b1 P)) he (fun P hP => v_X12_restFloat (m_isAsked hR (fun e' he' => ⟨fun _ => ?_, fun z => absurd rfl z⟩) (fun aim s τ w ha e1 hs e2 hw _ _ _ _ _ _ _ => (why3_no he ha e1 hs e2 hw).elim))) (Inv.up hch hC hK hR)
    rw [why3_uniq he' he]
    exact m_thrown0 hP
theorem i64_dbl {m : Nat} (h : m < 2 ^ 40) : (2 : Int64) * i64 ((m : Nat) : Int) ≤ 0 ↔ m = 0 := by
  have e : (2 : Nat) ^ 40 = 1099511627776 := by decide
  have e2 : (2 : Int64) * i64 ((m : Nat) : Int) = i64 ((2 * m : Nat) : Int) := by
    have : (2 : Int64) = i64 2 := rfl
    rw [this, i64_mul]
    congr 1
  rw [e2, l0, i64_le (by omega) (by omega)]
  omega
theorem op_rounded {n : Nat} {v1 v2 : Int32} {a b : cg_S} (h : Inv n a b) : OP_rounded (Inv (n + 1)) v1 v2 a b := by
  obtain ⟨G, ch, hch, hC, hK, hR⟩ := h
  have hW := hR.1
  refine v_X11_rounded (c_asked hC hK hW (fun aim s τ w m k ha e1 hs e2 hw h1 h2 h3 hk hk2 hm hn hd => v_X11_nearestOf ⟨fun _ => ?_, fun z => absurd z (i64_n0 hk2 hk)⟩) (fun e he => ?_))
  · obtain ⟨r1, ⟨t, t1, t2, t3⟩, r3⟩ := double_v hk hk2 hm
    have hodd := odd_v ⟨t, t1⟩
    have ref : ∀ P : Int64 → cg_S → Prop, (∀ υ, RB υ G → υ.1 0 0 = i32 0 → ∀ x6, x6 = FP.ddiv (FP.l2d (i64 m)) (FP.l2d (i64 k)) → ∀ x7, x7 = FP.d2l x6 → ∀ x9, x9 = FP.dsub x6 (FP.l2d x7) → (0 < (Op.cmpValue (FP.dcmp x9 4602678819172646912) .l) → P (x7 + 1) υ) ∧ (¬ 0 < (Op.cmpValue (FP.dcmp x9 4602678819172646912) .l) → (¬ (Op.cmpValue (FP.dcmp x9 4602678819172646912) .l) = 0 → P x7 υ) ∧ ((Op.cmpValue (FP.dcmp x9 4602678819172646912) .l) = 0 → (¬ (x7 &&& 1) = 1 → P x7 υ) ∧ ((x7 &&& 1) = 1 → P (x7 + 1) υ)))) → M_X12_rounded v1 v2 b P := fun P hP => by
      refine v_X12_rounded (m_asked hR ha e1 hs e2 hw h3 hn hd (fun υ hR' h0 h40 h41 => ⟨fun _ => ?_, fun z => absurd z (by decide)⟩))
      rw [h40, h41]
      rintro _ rfl
      refine ⟨vf64 r1, ?_⟩
      rintro _ rfl _ rfl
      refine ⟨vf64 (r3 _), ?_⟩
      rintro _ rfl
      obtain ⟨p1, p2⟩ := hP υ hR' h0 _ rfl _ rfl _ rfl
      have t3' : FP.d2l (FP.ddiv (FP.l2d (i64 m)) (FP.l2d (i64 k))) = Int64.ofInt (t : Int) := t3
      refine ⟨p1, fun z => ⟨(p2 z).1, fun z2 => ⟨fun z3 => ((p2 z).2 z2).1 ?_, fun z3 => ⟨fun z4 => ?_, fun z4 => ((p2 z).2 z2).2 ?_⟩⟩⟩⟩
      · rw [t3'] at z3 ⊢
        exact fun y => z3 (hodd.mp y)
      · exfalso
        have hm0 := (i64_dbl (m := m) (by
          have e : (2 : Nat) ^ 40 = 1099511627776 := by decide
          have e2 : (2 : Nat) ^ 30 = 1073741824 := by decide
          omega)).mp z4
        rw [t3', t2 hm0] at z3
        exact absurd z3 (by decide)
      · rw [t3'] at z3 ⊢
        exact hodd.mpr z3
    refine ⟨vf64 r1, ?_⟩
    rintro _ rfl _ rfl
    refine ⟨vf64 (r3 _), ?_⟩
    rintro _ rfl
    have fin1 : ∀ υ (z : Int64), RB υ G → υ.1 0 0 = i32 0 → M_X12_thrown υ (fun t b2 => t = 0 ∧ z = z ∧ Inv (n + 1) τ b2) := fun υ z hR' h0 => m_thrown1 h0 ⟨rfl, rfl, ⟨G, ch, by omega, h1, h2, hR'⟩⟩
    have L : ∀ (q0 q1 : Prop) (z : Int64), True := fun _ _ _ => trivial
    refine ⟨fun z => ?_, fun z => ⟨fun z2 => ?_, fun z2 => ⟨fun z3 => ?_, fun z3 => ?_⟩⟩⟩
    · refine v_X11_nearestOf_60 ⟨fun y => absurd y (by decide), fun _ => ref _ (fun υ hR' h0 => ?_)⟩
      rintro _ rfl _ rfl _ rfl
      exact ⟨fun _ => fin1 υ _ hR' h0, fun y => absurd z y⟩
    · refine v_X11_nearestOf_60 ⟨fun _ => ref _ (fun υ hR' h0 => ?_), fun y => absurd rfl y⟩
      rintro _ rfl _ rfl _ rfl
      exact ⟨fun y => absurd y z, fun _ => ⟨fun _ => fin1 υ _ hR' h0, fun y => absurd y z2⟩⟩
    · refine v_X11_nearestOf_60 ⟨fun _ => ref _ (fun υ hR' h0 => ?_), fun y => absurd rfl y⟩
      rintro _ rfl _ rfl _ rfl
      exact ⟨fun y => absurd y z, fun _ => ⟨fun y => absurd z2 y, fun _ => ⟨fun _ => fin1 υ _ hR' h0, fun y => absurd y z3⟩⟩⟩
    · refine v_X11_nearestOf_60 ⟨fun y => absurd y (by decide), fun _ => ref _ (fun υ hR' h0 => ?_)⟩
      rintro _ rfl _ rfl _ rfl
      exact ⟨fun y => absurd y z, fun _ => ⟨fun y => absurd z2 y, fun _ => ⟨fun y => absurd z3 y, fun _ => fin1 υ _ hR' h0⟩⟩⟩
  · refine fail3 (R := fun _ _ _ => True) (b := b) (M := fun P => M_X12_rounded v1 v2 b (fun r2 b1 => M_X12_thrown b1 P)) he (fun P hP => v_X12_rounded (m_isAsked hR (fun e' he' => ⟨fun z => absurd rfl z, fun _ => ?_⟩) (fun aim s τ w ha e1 hs e2 hw _ _ _ _ _ _ _ => (why3_no he ha e1 hs e2 hw).elim))) (Inv.up hch hC hK hR)
    rw [why3_uniq he' he]
    exact m_thrown0 hP
