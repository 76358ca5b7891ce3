/-! THE CALLS: bound -/
section BND
variable {σ : cg_S} {G : Gm} {ch : Nat} {B : Nat → UInt64}
def lowD (G : Gm) (B : Nat → UInt64) (m : Nat) : Nat → UInt64
  | 0 => FP.dconst0
  | k + 1 => FP.dadd (lowD G B m k) (FP.dmul (FP.i2d (i32 (G 7 (7 * m + k)))) (B k))
def lowM (G : Gm) (B : Nat → UInt64) (m : Nat) : UInt64 := FP.ddiv (lowD G B m (G 0 0)) (FP.i2d (i32 (G 6 m)))
def btr (G : Gm) (s : Nat) (r x : UInt64) : UInt64 := if G 1 s = 1 then (if Op.cmpValue (FP.dcmp r x) .l ≤ i32 0 then x else r) else (if i32 0 ≤ Op.cmpValue (FP.dcmp r x) .g then x else r)
def bestD (G : Gm) (B : Nat → UInt64) (s : Nat) : Nat → UInt64
  | 0 => lowM G B (3 * s)
  | c + 1 => btr G s (lowM G B (3 * s + (c + 1))) (bestD G B s c)
def nxtD (G : Gm) (B : Nat → UInt64) (s : Nat) : UInt64 := if G 8 s ≠ 0 then FP.dconst1 else bestD G B s (G 3 s - 1)
def bndD (G : Gm) : Nat → Nat → UInt64
  | 0 => fun s => if G 8 s ≠ 0 then FP.dconst1 else FP.dconst0
  | r + 1 => nxtD G (bndD G r)
theorem lowD_ok {m : Nat} {j : Nat} (hW : GW G) (hm : m < 21) (hB : ∀ t, t < G 0 0 → okB (j : Int) (B t)) (hj : j ≤ 700) : ∀ k, k ≤ G 0 0 → okB ((j : Int) + 3 + (k : Int)) (lowD G B m k) ∧ (k < G 0 0 → okB ((j : Int) + 3) (FP.dmul (FP.i2d (i32 (G 7 (7 * m + k)))) (B k))) := by
  have hn := hW.1
  have mul : ∀ k, k < G 0 0 → okB ((j : Int) + 3) (FP.dmul (FP.i2d (i32 (G 7 (7 * m + k)))) (B k)) := fun k hk => okB_mul (hW.w6 hm (by omega)) (hB k hk) (by omega) (by omega)
  intro k
  induction k with
  | zero => intro _; exact ⟨okB_0.mo (by omega), mul 0⟩
  | succ k ih =>
    intro hk
    refine ⟨?_, mul (k + 1)⟩
    have := okB_add (ih (by omega)).1 (mul k (by omega)) (by omega) (by omega) (by omega)
    exact this.mo (by omega)
theorem lowM_ok {m j : Nat} (hW : GW G) (hm : m < 21) (h0 : 0 < G 6 m) (hB : ∀ t, t < G 0 0 → okB (j : Int) (B t)) (hj : j ≤ 700) : okB ((j + 10 : Nat) : Int) (lowM G B m) := by
  have hn := hW.1
  have h6 := (hW.2.2.1 m hm).2.2.1
  have := okB_div h6 h0 (lowD_ok hW hm hB hj (G 0 0) (Nat.le_refl _)).1 (by omega) (by omega)
  exact this.mo (by omega)
theorem btr_ok {s : Nat} {i : Int} {r x : UInt64} (h1 : okB i r) (h2 : okB i x) : okB i (btr G s r x) := by
  unfold btr
  split <;> split <;> assumption
theorem bestD_ok {s j : Nat} (hW : GW G) (hw : whole G) (hs : s < G 0 0) (hB : ∀ t, t < G 0 0 → okB (j : Int) (B t)) (hj : j ≤ 700) : ∀ c, c < G 3 s → okB ((j + 10 : Nat) : Int) (bestD G B s c) := by
  have hn := hW.1
  have g3 := (hW.2.1 s (by omega)).2.2.1
  intro c
  induction c with
  | zero => intro h; exact lowM_ok hW (by omega) ((hw.2 s hs).2 0 h) hB hj
  | succ c ih => intro h; exact btr_ok (lowM_ok hW (by omega) ((hw.2 s hs).2 (c + 1) h) hB hj) (ih (by omega))
theorem bndD_ok (hW : GW G) (hw : whole G) : ∀ r, r ≤ 60 → ∀ s, s < G 0 0 → okB ((10 * r : Nat) : Int) (bndD G r s) := by
  intro r
  induction r with
  | zero =>
    intro _ s _
    show okB _ (if G 8 s ≠ 0 then FP.dconst1 else FP.dconst0)
    split
    · exact okB_1
    · exact okB_0
  | succ r ih =>
    intro hr s hs
    show okB _ (if G 8 s ≠ 0 then FP.dconst1 else bestD G (bndD G r) s (G 3 s - 1))
    split
    · exact okB_1.mo (by omega)
    · have := (hw.2 s hs).1
      exact (bestD_ok hW hw hs (ih (by omega)) (by omega) (G 3 s - 1) (by omega)).mo (by omega)
/-! the class -/
theorem c_boundOfMove {m j : Nat} {Q : UInt64 → cg_S → Prop} (hC : CG σ G ch) (hW : GW G) (hm : m < 21) (h0 : 0 < G 6 m) (hB : ∀ t, t < G 0 0 → okB (j : Int) (B t)) (hj : j ≤ 700) (hb : ∀ t, t < G 0 0 → σ.2.2 83 t = B t) (h : Q (lowM G B m) σ) : M_X3_boundOfMove (i32 m) σ Q := by
  have hn := hW.1
  have h6 := (hW.2.2.1 m hm).2.2.1
  have hok := lowD_ok hW hm hB hj
  refine v_X3_boundOfMove ?_
  simp (disch := omega) only [n0, n1, n2, n3, n4, n5, n6, n7, n8, n9, n49, n97, n98, n114, n102, n115, n119, n109, n112, i32_add, i32_mul, i32_N, i32_le, i32_lt, i32_eq, vpi_iff]
  rw [(hC.2.2 m hm).2.2.1]
  simp (disch := omega) only [n0, n1, n2, n3, n4, n5, n6, n7, n8, n9, n49, n97, n98, n114, n102, n115, n119, n109, n112, i32_add, i32_mul, i32_N, i32_le, i32_lt, i32_eq, vpi_iff]
  refine ⟨by omega, fun _ => ?_, fun z => by omega⟩
  refine up2 (n := G 0 0) (fun k (x : UInt64) τ => τ = σ ∧ x = lowD G B m k) (fun x v τ => L_X3_boundOfMove_19 (i32 m) x v τ Q) ?_ ?_ 0 FP.dconst0 σ (by omega) ⟨rfl, rfl⟩
  · rintro k x τ hk ⟨rfl, rfl⟩ kk
    refine v_X3_boundOfMove_19 ?_
    rw [hC.1.1]
    simp (disch := omega) only [n0, n1, n2, n3, n4, n5, n6, n7, n8, n9, n49, n97, n98, n114, n102, n115, n119, n109, n112, i32_add, i32_mul, i32_N, i32_le, i32_lt, i32_eq, vpi_iff]
    rw [(hC.2.2 m hm).2.2.2.2 k (by omega), hb k hk]
    refine ⟨fun z => by omega, fun _ => ⟨by omega, by omega, by omega, vf64 ((hok k (by omega)).2 hk).nn, vf64 (hok (k + 1) (by omega)).1.nn, ?_⟩⟩
    rintro _ rfl
    exact kk _ τ ⟨rfl, rfl⟩
  · rintro x τ ⟨rfl, rfl⟩
    refine v_X3_boundOfMove_19 ?_
    rw [hC.1.1]
    simp (disch := omega) only [n0, n1, n2, n3, n4, n5, n6, n7, n8, n9, n49, n97, n98, n114, n102, n115, n119, n109, n112, i32_add, i32_mul, i32_N, i32_le, i32_lt, i32_eq, vpi_iff]
    rw [(hC.2.2 m hm).2.2.1]
    exact ⟨fun _ => ⟨by omega, vf64 (lowM_ok hW hm h0 hB hj).nn, h⟩, fun z => absurd (Nat.le_refl _) z⟩
theorem c_nextBound {s j : Nat} {Q : UInt64 → cg_S → Prop} (hC : CG σ G ch) (hW : GW G) (hw : whole G) (hs : s < G 0 0) (hB : ∀ t, t < G 0 0 → okB (j : Int) (B t)) (hj : j ≤ 700) (hb : ∀ t, t < G 0 0 → σ.2.2 83 t = B t) (h : Q (bestD G B s (G 3 s - 1)) σ) : M_X3_nextBound (i32 s) σ Q := by
  have hn := hW.1
  have g1 := (hW.2.1 s (by omega)).1
  have g3 := (hW.2.1 s (by omega)).2.2.1
  have g30 := (hw.2 s hs).1
  refine v_X3_nextBound ?_
  simp (disch := omega) only [n0, n1, n2, n3, n4, n5, n6, n7, n8, n9, n49, n97, n98, n114, n102, n115, n119, n109, n112, i32_add, i32_mul, i32_N, i32_le, i32_lt, i32_eq, vpi_iff]
  refine c_moveOf (c_boundOfMove hC hW (by omega) ((hw.2 s hs).2 0 g30) hB hj hb ?_)
  refine up2 (n := G 3 s) (fun c (x : UInt64) τ => τ = σ ∧ 0 < c ∧ x = bestD G B s (c - 1)) (fun x v τ => L_X3_nextBound_13 (i32 s) x v τ Q) ?_ ?_ 1 _ σ (by omega) ⟨rfl, by omega, rfl⟩
  · rintro c x τ hc ⟨rfl, c0, rfl⟩ kk
    have nxt : L_X3_nextBound_13 (i32 s) (btr G s (lowM G B (3 * s + c)) (bestD G B s (c - 1))) (i32 (c + 1)) τ Q := kk _ τ ⟨rfl, by omega, by
      obtain ⟨c', rfl⟩ : ∃ c', c = c' + 1 := ⟨c - 1, by omega⟩
      rfl⟩
    refine v_X3_nextBound_13 ?_
    simp (disch := omega) only [n0, n1, n2, n3, n4, n5, n6, n7, n8, n9, n49, n97, n98, n114, n102, n115, n119, n109, n112, i32_add, i32_mul, i32_N, i32_le, i32_lt, i32_eq, vpi_iff]
    rw [(hC.2.1 s (by omega)).2.2.1]
    simp (disch := omega) only [n0, n1, n2, n3, n4, n5, n6, n7, n8, n9, n49, n97, n98, n114, n102, n115, n119, n109, n112, i32_add, i32_mul, i32_N, i32_le, i32_lt, i32_eq, vpi_iff]
    refine ⟨by omega, fun z => by omega, fun _ => c_moveOf (c_boundOfMove hC hW (by omega) ((hw.2 s hs).2 c hc) hB hj hb ?_)⟩
    rw [(hC.2.1 s (by omega)).1, i32_eq (by omega) (by omega)]
    unfold btr at nxt
    refine ⟨by omega, fun z => ⟨fun z2 => ?_, fun z2 => ?_⟩, fun z => ⟨fun z2 => ?_, fun z2 => ?_⟩⟩
    · rw [if_neg (by omega), if_pos z2] at nxt; exact nxt
    · rw [if_neg (by omega), if_neg z2] at nxt; exact nxt
    · rw [if_pos (by omega), if_pos z2] at nxt; exact nxt
    · rw [if_pos (by omega), if_neg z2] at nxt; exact nxt
  · rintro x τ ⟨rfl, c0, rfl⟩
    refine v_X3_nextBound_13 ?_
    simp (disch := omega) only [n0, n1, n2, n3, n4, n5, n6, n7, n8, n9, n49, n97, n98, n114, n102, n115, n119, n109, n112, i32_add, i32_mul, i32_N, i32_le, i32_lt, i32_eq, vpi_iff]
    rw [(hC.2.1 s (by omega)).2.2.1]
    exact ⟨by omega, fun _ => h, fun z => absurd ((i32_le (by omega) (by omega)).mpr (Nat.le_refl _)) z⟩
theorem c_boundAfter {s r : Nat} {Q : UInt64 → cg_S → Prop} (hC : CG σ G ch) (hW : GW G) (hw : whole G) (hs : s < G 0 0) (hr : r ≤ 60) (h : ∀ τ, Fr [] [] [83, 84] σ τ → Q (bndD G r s) τ) : M_X3_boundAfter (i32 s) (i32 r) σ Q := by
  have hn := hW.1
  refine v_X3_boundAfter ?_
  refine up (n := G 0 0) (fun k τ => Fr [] [] [83, 84] σ τ ∧ ∀ t, t < k → τ.2.2 83 t = bndD G 0 t) (fun v τ => L_X3_boundAfter_2 (i32 s) (i32 r) v τ Q) ?_ ?_ 0 σ (by omega) ⟨Fr.rf σ, fun t ht => by omega⟩
  · rintro k τ hk ⟨hf, hP⟩ kk
    have hC2 := hC.fr hf (by decide)
    have nxt : ∀ x, x = bndD G 0 k → L_X3_boundAfter_2 (i32 s) (i32 r) (i32 (k + 1)) (cg_d τ 83 k x) Q := fun x hx => kk _ ⟨hf.tr (Fr.d (by decide)), fun t ht => by
      rw [rd, if_pos rfl]
      by_cases e : t = k
      · rw [if_pos e, e]; exact hx
      · rw [if_neg e]; exact hP t (by omega)⟩
    refine v_X3_boundAfter_2 ?_
    rw [hC2.1.1]
    simp (disch := omega) only [n0, n1, n2, n3, n4, n5, n6, n7, n8, n9, n49, n97, n98, n114, n102, n115, n119, n109, n112, i32_add, i32_mul, i32_N, i32_le, i32_lt, i32_eq, vpi_iff]
    refine ⟨fun z => by omega, fun _ => c_isTarget hC2 (by omega) (fun t8 => ⟨fun y => absurd y (by decide), fun _ => ⟨by omega, ?_⟩⟩) (fun t8 => ⟨fun _ => ⟨by omega, ?_⟩, fun y => absurd rfl y⟩)⟩
    · rintro _ rfl
      exact nxt _ (by show _ = if G 8 k ≠ 0 then _ else _; rw [if_pos t8])
    · rintro _ rfl
      exact nxt _ (by show _ = if G 8 k ≠ 0 then _ else _; rw [if_neg (by omega)])
  · rintro τ ⟨hf, hP⟩
    refine v_X3_boundAfter_2 ?_
    rw [(hC.fr hf (by decide)).1.1]
    refine ⟨fun _ => ?_, fun z => absurd ((i32_le (by omega) (by omega)).mpr (Nat.le_refl _)) z⟩
    refine up (n := r) (fun k τ => Fr [] [] [83, 84] σ τ ∧ ∀ t, t < G 0 0 → τ.2.2 83 t = bndD G k t) (fun v τ => L_X3_boundAfter_43 (i32 s) (i32 r) v τ Q) ?_ ?_ 0 τ (by omega) ⟨hf, hP⟩
    · rintro k τ hk ⟨hf, hP⟩ kk
      have hok := bndD_ok hW hw k (by omega)
      refine v_X3_boundAfter_43 ?_
      have n60 : (60 : Int32) = i32 60 := rfl
      rw [n60]
      simp (disch := omega) only [n0, n1, n2, n3, n4, n5, n6, n7, n8, n9, n49, n97, n98, n114, n102, n115, n119, n109, n112, i32_add, i32_mul, i32_N, i32_le, i32_lt, i32_eq, vpi_iff]
      refine ⟨fun z => by omega, fun _ => ⟨fun z => by omega, fun _ => ?_⟩⟩
      refine up (n := G 0 0) (fun s' τ => Fr [] [] [83, 84] σ τ ∧ (∀ t, t < G 0 0 → τ.2.2 83 t = bndD G k t) ∧ ∀ t, t < s' → τ.2.2 84 t = bndD G (k + 1) t) (fun v τ => L_X3_boundAfter_57 (i32 s) (i32 r) (i32 k) v τ Q) ?_ ?_ 0 τ (by omega) ⟨hf, hP, fun t ht => by omega⟩
      · rintro s' τ hs' ⟨hf, hP, hN⟩ kk2
        have hC2 := hC.fr hf (by decide)
        have nxt : ∀ x, x = bndD G (k + 1) s' → L_X3_boundAfter_57 (i32 s) (i32 r) (i32 k) (i32 (s' + 1)) (cg_d τ 84 s' x) Q := fun x hx => kk2 _ ⟨hf.tr (Fr.d (by decide)), fun t ht => by
          rw [rd, if_neg (by decide)]; exact hP t ht, fun t ht => by
          rw [rd, if_pos rfl]
          by_cases e : t = s'
          · rw [if_pos e, e]; exact hx
          · rw [if_neg e]; exact hN t (by omega)⟩
        refine v_X3_boundAfter_57 ?_
        rw [hC2.1.1]
        simp (disch := omega) only [n0, n1, n2, n3, n4, n5, n6, n7, n8, n9, n49, n97, n98, n114, n102, n115, n119, n109, n112, i32_add, i32_mul, i32_N, i32_le, i32_lt, i32_eq, vpi_iff]
        refine ⟨fun z => by omega, fun _ => c_isTarget hC2 (by omega) (fun t8 => ⟨fun y => absurd y (by decide), fun _ => ⟨by omega, ?_⟩⟩) (fun t8 => ⟨fun _ => c_nextBound hC2 hW hw hs' hok (by omega) hP ⟨by omega, ?_⟩, fun y => absurd rfl y⟩)⟩
        · rintro _ rfl
          exact nxt _ (by show _ = if G 8 s' ≠ 0 then _ else _; rw [if_pos t8])
        · rintro _ rfl
          exact nxt _ (by show _ = if G 8 s' ≠ 0 then _ else _; rw [if_neg (by omega)])
      · rintro τ ⟨hf, hP, hN⟩
        refine v_X3_boundAfter_57 ?_
        rw [(hC.fr hf (by decide)).1.1]
        refine ⟨fun _ => ?_, fun z => absurd ((i32_le (by omega) (by omega)).mpr (Nat.le_refl _)) z⟩
        refine up (n := G 0 0) (fun s' τ => Fr [] [] [83, 84] σ τ ∧ (∀ t, t < G 0 0 → τ.2.2 84 t = bndD G (k + 1) t) ∧ ∀ t, t < s' → τ.2.2 83 t = bndD G (k + 1) t) (fun v τ => L_X3_boundAfter_107 (i32 s) (i32 r) (i32 k) v τ Q) ?_ ?_ 0 τ (by omega) ⟨hf, hN, fun t ht => by omega⟩
        · rintro s' τ hs' ⟨hf, hN, hP⟩ kk2
          refine v_X3_boundAfter_107 ?_
          rw [(hC.fr hf (by decide)).1.1]
          simp (disch := omega) only [n0, n1, n2, n3, n4, n5, n6, n7, n8, n9, n49, n97, n98, n114, n102, n115, n119, n109, n112, i32_add, i32_mul, i32_N, i32_le, i32_lt, i32_eq, vpi_iff]
          refine ⟨fun z => by omega, fun _ => ⟨by omega, by omega, ?_⟩⟩
          rintro _ rfl
          refine kk2 _ ⟨hf.tr (Fr.d (by decide)), fun t ht => ?_, fun t ht => ?_⟩
          · rw [rd, if_neg (by decide)]; exact hN t ht
          · rw [rd, if_pos rfl]
            by_cases e : t = s'
            · rw [if_pos e, e]; exact hN s' hs'
            · rw [if_neg e]; exact hP t (by omega)
        · rintro τ ⟨hf, hN, hP⟩
          refine v_X3_boundAfter_107 ?_
          rw [(hC.fr hf (by decide)).1.1]
          refine ⟨fun _ => ?_, fun z => absurd ((i32_le (by omega) (by omega)).mpr (Nat.le_refl _)) z⟩
          simp (disch := omega) only [n0, n1, n2, n3, n4, n5, n6, n7, n8, n9, n49, n97, n98, n114, n102, n115, n119, n109, n112, i32_add, i32_mul, i32_N, i32_le, i32_lt, i32_eq, vpi_iff]
          exact kk τ ⟨hf, hP⟩
    · rintro τ ⟨hf, hP⟩
      refine v_X3_boundAfter_43 ?_
      refine ⟨fun _ => ?_, fun z => absurd ((i32_le (by omega) (by omega)).mpr (Nat.le_refl _)) z⟩
      simp (disch := omega) only [n0, n1, n2, n3, n4, n5, n6, n7, n8, n9, n49, n97, n98, n114, n102, n115, n119, n109, n112, i32_add, i32_mul, i32_N, i32_le, i32_lt, i32_eq, vpi_iff]
      rw [hP s hs]
      exact ⟨by omega, h τ hf⟩
end BND
