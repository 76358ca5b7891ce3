/-! TRACES: the class finds them -/
section TRF
variable {σ : cg_S} {G : Gm} {ch : Nat} {U D L : Nat → Nat}
def TS (τ : cg_S) (n : Nat) (U D L : Nat → Nat) : Prop := ∀ s, s < n → τ.1 35 s = i32 (L s) ∧ τ.2.1 74 s = i64 ((U s : Nat) : Int) ∧ τ.2.1 82 s = i64 ((D s : Nat) : Int)
theorem TI_n0 {s : Nat} (h : TI G U D L) (hs : s < G 0 0) (hV : 0 < VV U D s) : L s ≠ 0 := fun z => by
  obtain ⟨a, b⟩ := h.2.1 s hs z
  unfold VV at hV
  rw [a] at hV
  have e : ((0 : Nat) : Rat) = 0 := rfl
  rw [e, Rat.div_def, Rat.zero_mul] at hV
  exact absurd hV Rat.lt_irrefl
theorem c_lengthen {s : Nat} {Q : cg_S → Prop} (hC : CG σ G ch) (hW : GW G) (hw : whole G) (hs : s < G 0 0) (hT0 : ¬ TG G s) (hTS : TS σ (G 0 0) U D L) (hI : TI G U D L) (h : ∀ τ U' D' L', Fr [35] [74, 82] [] σ τ → TS τ (G 0 0) U' D' L' → TI G U' D' L' → (∀ u, btt (VV U' D' u) (L' u) (VV U D u) (L u)) → (∀ t, t < G 0 0 → wT G s t ≠ 0 → L t ≠ 0 → L' s ≠ 0 ∧ btt (VV U' D' s) (L' s) (hT G s t * VV U D t) (L t + 1)) → Q τ) : M_X9_lengthen (i32 s) (i32 (mv (G 10) s)) σ Q := by
  have hn := hW.1
  have hm : mv (G 10) s < 21 := mv_lt (by omega) (told_2 hW s (by omega))
  have hbs := bT_pos hW hw hs
  have hb6 : bT G s ≤ 6 := (hW.2.2.1 _ hm).2.2.1
  refine v_X9_lengthen ?_
  refine up2 (n := G 0 0) (fun k (a : (Nat → Nat) × (Nat → Nat) × (Nat → Nat)) τ => Fr [35] [74, 82] [] σ τ ∧ TS τ (G 0 0) a.1 a.2.1 a.2.2 ∧ TI G a.1 a.2.1 a.2.2 ∧ (∀ u, btt (VV a.1 a.2.1 u) (a.2.2 u) (VV U D u) (L u)) ∧ (∀ u, u ≠ s → a.1 u = U u ∧ a.2.1 u = D u ∧ a.2.2 u = L u) ∧ ∀ t, t < k → wT G s t ≠ 0 → L t ≠ 0 → a.2.2 s ≠ 0 ∧ btt (VV a.1 a.2.1 s) (a.2.2 s) (hT G s t * VV U D t) (L t + 1)) (fun _ v τ => L_X9_lengthen_2 (i32 s) (i32 (mv (G 10) s)) v τ Q) ?_ ?_ 0 (U, D, L) σ (by omega) ⟨Fr.rf σ, hTS, hI, fun u => btt_rf _ _, fun u _ => ⟨rfl, rfl, rfl⟩, fun t ht => by omega⟩
  · rintro t ⟨A, B, M⟩ τ ht ⟨hf, hS, hJ, h1, h2, h3⟩ kk
    dsimp only at hS hJ h1 h2 h3
    have hC2 := hC.fr hf (by decide)
    have hw6 : wT G s t ≤ 6 := hW.w6 hm (show t < 7 by omega)
    obtain ⟨ub, db, db2, lb, vb⟩ := TI_b hW hw hJ ht
    obtain ⟨us, ds, ds2, ls, vs⟩ := TI_b hW hw hJ hs
    -- the first state is as good, so what starts with itself needs no look
    have old : wT G s t ≠ 0 → L t ≠ 0 → t = s → M s ≠ 0 ∧ btt (VV A B s) (M s) (hT G s t * VV U D t) (L t + 1) := fun a1 a2 e => by
      subst e
      have v0 : 0 < VV U D t := (TI_b hW hw hI ht).2.2.2.2 a2
      refine ⟨TI_n0 hJ ht (q_lt_le v0 (btt_le (h1 t))), btt_tr (h1 t) ?_⟩
      have hle := hT_le hW hw ht ht (G := G)
      have := Rat.mul_le_mul_of_nonneg_right hle (Rat.le_of_lt v0)
      rw [Rat.one_mul] at this
      by_cases c : hT G t t * VV U D t = VV U D t
      · exact Or.inr ⟨c, by omega⟩
      · exact Or.inl (Rat.lt_of_le_of_ne this c)
    have skip : (wT G s t ≠ 0 → L t ≠ 0 → M s ≠ 0 ∧ btt (VV A B s) (M s) (hT G s t * VV U D t) (L t + 1)) → L_X9_lengthen_2 (i32 s) (i32 (mv (G 10) s)) (i32 (t + 1)) τ Q := fun z => kk (A, B, M) τ ⟨hf, hS, hJ, h1, h2, fun t' ht' => by
      by_cases e : t' = t
      · rw [e]; exact z
      · exact h3 t' (by omega)⟩
    have same : t ≠ s → VV U D t = VV A B t ∧ L t = M t := fun e => by
      obtain ⟨q1, q2, q3⟩ := h2 t e
      refine ⟨?_, q3.symm⟩
      unfold VV
      rw [q1, q2]
    have upd : wT G s t ≠ 0 → M t ≠ 0 → (VV A B s < hT G s t * VV A B t ∨ (hT G s t * VV A B t = VV A B s ∧ M t + 1 < M s)) → L_X9_lengthen_136 (i32 s) (i32 (mv (G 10) s)) (i32 t) (i64 ((wT G s t * A t : Nat) : Int)) (i64 ((bT G s * B t : Nat) : Int)) τ Q := fun z1 z2 z3 => by
      have hts : t ≠ s := fun e => by
        subst e
        have v0 := vb z2
        have hle := hT_le hW hw ht ht (G := G)
        have := Rat.mul_le_mul_of_nonneg_right hle (Rat.le_of_lt v0)
        rw [Rat.one_mul] at this
        rcases z3 with y | ⟨-, y⟩
        · exact absurd this (Rat.not_le.mpr y)
        · omega
      have hnew := TI_upd hW hw hJ hs ht hT0 z1 z2 z3
      have hVs : VV (upd1 A s (wT G s t * A t)) (upd1 B s (bT G s * B t)) s = hT G s t * VV A B t := by
        rw [← VV_upd hbs db]
        unfold VV upd1
        rw [if_pos rfl, if_pos rfl]
      have hVu : ∀ u, u ≠ s → VV (upd1 A s (wT G s t * A t)) (upd1 B s (bT G s * B t)) u = VV A B u := fun u hu => by
        unfold VV upd1
        rw [if_neg hu, if_neg hu]
      have hLs : upd1 M s (M t + 1) s = M t + 1 := by unfold upd1; rw [if_pos rfl]
      have hbet : btt (hT G s t * VV A B t) (M t + 1) (VV A B s) (M s) := by
        rcases z3 with y | ⟨y1, y2⟩
        · exact Or.inl y
        · exact Or.inr ⟨y1.symm, by omega⟩
      refine v_X9_lengthen_136 (v_X10_put (by omega) ?_)
      rw [show (18 + 56 : Nat) = 74 from rfl, show (18 + 64 : Nat) = 82 from rfl]
      simp (disch := omega) only [n0, n1, n2, n3, n4, n5, n6, n7, n8, n9, n49, n97, n98, n114, n102, n115, n119, n109, n112, i32_add, i32_mul, i32_N, i32_le, i32_lt, i32_eq, vpi_iff]
      refine ⟨by omega, ?_⟩
      rintro _ rfl
      refine ⟨by omega, ?_⟩
      rintro _ rfl
      refine ⟨by omega, by omega, ?_⟩
      rw [rl1, rl1, (hS t ht).1]
      simp (disch := omega) only [n0, n1, n2, n3, n4, n5, n6, n7, n8, n9, n49, n97, n98, n114, n102, n115, n119, n109, n112, i32_add, i32_mul, i32_N, i32_le, i32_lt, i32_eq, vpi_iff]
      rintro _ rfl
      refine kk (upd1 A s (wT G s t * A t), upd1 B s (bT G s * B t), upd1 M s (M t + 1)) _ ⟨hf.tr (((Fr.l (by decide)).tr (Fr.l (by decide))).tr (Fr.i (by decide))), fun u hu => ?_, hnew, fun u => ?_, fun u hu => ?_, fun t' ht' y1 y2 => ?_⟩
      · obtain ⟨k1, k2, k3⟩ := hS u hu
        refine ⟨?_, ?_, ?_⟩
        · show _ = i32 (upd1 M s (M t + 1) u)
          rw [ri, if_pos rfl, rl1, rl1, k1]
          unfold upd1
          by_cases e : u = s
          · rw [if_pos e, if_pos e]
          · rw [if_neg e, if_neg e]
        · show _ = i64 ((upd1 A s (wT G s t * A t) u : Nat) : Int)
          rw [ri2, rl, if_neg (by decide), rl, if_pos rfl, k2]
          unfold upd1
          by_cases e : u = s
          · rw [if_pos e, if_pos e]
          · rw [if_neg e, if_neg e]
        · show _ = i64 ((upd1 B s (bT G s * B t) u : Nat) : Int)
          rw [ri2, rl, if_pos rfl]
          unfold upd1
          by_cases e : u = s
          · rw [if_pos e, if_pos e]
          · rw [if_neg e, if_neg e, rl, if_neg (show ¬ (82 : Nat) = 74 by decide), k3]
      · show btt (VV (upd1 A s (wT G s t * A t)) (upd1 B s (bT G s * B t)) u) (upd1 M s (M t + 1) u) (VV U D u) (L u)
        by_cases e : u = s
        · rw [e, hVs, hLs]
          exact btt_tr hbet (h1 s)
        · rw [hVu u e, show upd1 M s (M t + 1) u = M u by unfold upd1; rw [if_neg e]]
          exact h1 u
      · show upd1 A s _ u = U u ∧ upd1 B s _ u = D u ∧ upd1 M s _ u = L u
        obtain ⟨q1, q2, q3⟩ := h2 u hu
        unfold upd1
        rw [if_neg hu, if_neg hu, if_neg hu]
        exact ⟨q1, q2, q3⟩
      · show upd1 M s (M t + 1) s ≠ 0 ∧ btt (VV (upd1 A s (wT G s t * A t)) (upd1 B s (bT G s * B t)) s) (upd1 M s (M t + 1) s) _ _
        rw [hVs, hLs]
        refine ⟨by omega, ?_⟩
        by_cases e : t' = t
        · rw [e, (same hts).1, (same hts).2]
          exact btt_rf _ _
        · exact btt_tr hbet (h3 t' (by omega) y1 y2).2
    refine v_X9_lengthen_2 ?_
    rw [hC2.1.1]
    simp (disch := omega) only [n0, n1, n2, n3, n4, n5, n6, n7, n8, n9, n49, n97, n98, n114, n102, n115, n119, n109, n112, i32_add, i32_mul, i32_N, i32_le, i32_lt, i32_eq, vpi_iff]
    rw [show (18 + 56 : Nat) = 74 from rfl, show (18 + 64 : Nat) = 82 from rfl]
    obtain ⟨k1, k2, k3⟩ := hS t ht
    obtain ⟨l1, l2, l3⟩ := hS s hs
    have ew : τ.1 (36 + mv (G 10) s) t = i32 (wT G s t) := (hC2.2.2 _ hm).2.2.2.2 t (by omega)
    have eb : τ.1 24 (mv (G 10) s) = i32 (bT G s) := (hC2.2.2 _ hm).2.2.1
    rw [ew, eb, k1, k2, k3, l2, l3]
    simp (disch := omega) only [n0, n1, n2, n3, n4, n5, n6, n7, n8, n9, n49, n97, n98, n114, n102, n115, n119, n109, n112, i32_add, i32_mul, i32_N, i32_le, i32_lt, i32_eq, vpi_iff]
    refine ⟨fun z => by omega, fun _ => ⟨by omega, by omega, fun z => skip (fun y => absurd (show wT G s t = 0 by omega) y), fun z => ⟨by omega, fun z2 => skip (fun y y2 => ?_), fun z2 => ⟨by omega, by omega, by omega, ?_⟩⟩⟩⟩
    · by_cases e : t = s
      · exact old y y2 e
      · exact absurd ((same e).2.trans (by omega)) y2
    · rw [i32_64 (by omega), i32_64 (by omega), i64_mul, i64_mul]
      rintro _ rfl
      refine ⟨by omega, by omega, ?_⟩
      rintro _ rfl
      refine ⟨by omega, by omega, ?_⟩
      have hz1 : wT G s t ≠ 0 := by omega
      have hz2 : M t ≠ 0 := by omega
      have n1 : wT G s t * A t ≤ 6 * 46656 := Nat.mul_le_mul hw6 ub
      have n2 : bT G s * B t ≤ 6 * 46656 := Nat.mul_le_mul hb6 db2
      have n3 : 0 < bT G s * B t := Nat.mul_pos hbs db
      have hq := VV_upd (U := A) (D := B) (s := s) (t := t) hbs db
      rw [← Int.natCast_mul, ← Int.natCast_mul]
      have noup : hT G s t * VV A B t < VV A B s ∨ (hT G s t * VV A B t = VV A B s ∧ M s ≤ M t + 1) → (wT G s t ≠ 0 → L t ≠ 0 → M s ≠ 0 ∧ btt (VV A B s) (M s) (hT G s t * VV U D t) (L t + 1)) := fun z3 y1 y2 => by
        by_cases e : t = s
        · exact old y1 y2 e
        · rw [(same e).1, (same e).2]
          have hc0 : 0 < hT G s t * VV A B t := Rat.mul_pos (hT_pos hW hw hs hz1) (vb hz2)
          rcases z3 with y | ⟨y3, y4⟩
          · exact ⟨TI_n0 hJ hs (by grind), Or.inl y⟩
          · exact ⟨TI_n0 hJ hs (by rw [← y3]; exact hc0), Or.inr ⟨y3, y4⟩⟩
      refine c_cmp n3 ds (by omega) (by omega) (by omega) (by omega) (fun y => ?_) (fun y => ?_) (fun y => ?_)
      · rw [hq] at y
        exact ⟨fun z3 => absurd z3 (by decide), fun _ => ⟨fun _ => skip (noup (Or.inl y)), fun z3 => absurd z3 (by decide)⟩⟩
      · rw [hq] at y
        exact ⟨fun _ => upd hz1 hz2 (Or.inl y), fun z3 => absurd (by decide) z3⟩
      · rw [hq] at y
        refine ⟨fun z3 => absurd z3 (by decide), fun _ => ⟨fun z3 => absurd rfl z3, fun _ => ⟨by omega, by omega, ?_⟩⟩⟩
        rw [k1, l1]
        simp (disch := omega) only [n0, n1, n2, n3, n4, n5, n6, n7, n8, n9, n49, n97, n98, n114, n102, n115, n119, n109, n112, i32_add, i32_mul, i32_N, i32_le, i32_lt, i32_eq, vpi_iff]
        exact ⟨fun z3 => skip (noup (Or.inr ⟨y, z3⟩)), fun z3 => upd hz1 hz2 (Or.inr ⟨y, by omega⟩)⟩
  · rintro ⟨A, B, M⟩ τ ⟨hf, hS, hJ, h1, h2, h3⟩
    dsimp only at hS hJ h1 h2 h3
    refine v_X9_lengthen_2 ?_
    rw [(hC.fr hf (by decide)).1.1]
    exact ⟨fun _ => h τ A B M hf hS hJ h1 h3, fun z => absurd ((i32_le (by omega) (by omega)).mpr (Nat.le_refl _)) z⟩
theorem TI_init {U D L : Nat → Nat} (hU : ∀ s, s < G 0 0 → U s = L s ∧ D s = 1 ∧ L s = if G 8 s ≠ 0 then 1 else 0) : TI G U D L ∧ CP G U D L 1 := by
  have h1 : ∀ s, s < G 0 0 → TG G s → U s = 1 ∧ D s = 1 ∧ L s = 1 := fun s hs ht => by
    obtain ⟨a, b, c⟩ := hU s hs
    have ht' : G 8 s ≠ 0 := ht
    have : L s = 1 := by rw [c, if_pos ht']
    exact ⟨by omega, b, this⟩
  refine ⟨⟨h1, fun s hs h0 => ?_, fun s hs h0 => ?_⟩, fun j f hwk hj => ?_⟩
  · obtain ⟨a, b, c⟩ := hU s hs
    exact ⟨by omega, b⟩
  · have ht : TG G s := Classical.byContradiction fun y => by
      obtain ⟨a, b, c⟩ := hU s hs
      have y' : ¬ G 8 s ≠ 0 := y
      rw [if_neg y'] at c
      exact h0 c
    obtain ⟨a, b, c⟩ := h1 s hs ht
    rw [a, b, c]
    refine ⟨fun _ => s, ⟨⟨Nat.le_refl 1, fun _ _ => hs, fun i hi => by omega, ht⟩, fun i j hi hj _ => by omega⟩, rfl, rfl, rfl, fun i hi => ?_⟩
    have : i = 0 := by omega
    subst this
    show btt (VV U D s) (L s) 1 1
    unfold VV
    rw [a, b, c, q11]
    exact btt_rf 1 1
  · have j1 : j = 1 := by have := hwk.1; omega
    subst j1
    obtain ⟨-, h2, -, h4⟩ := hwk
    obtain ⟨a, b, c⟩ := h1 (f 0) (h2 0 (by omega)) h4
    refine ⟨by omega, ?_⟩
    show btt (VV U D (f 0)) (L (f 0)) 1 1
    unfold VV
    rw [a, b, c, q11]
    exact btt_rf 1 1
theorem c_traces {Q : cg_S → Prop} (hC : CG σ G ch) (hW : GW G) (hw : whole G) (h : ∀ τ U D L, Fr [35] [74, 82] [] σ τ → TS τ (G 0 0) U D L → TI G U D L → OPT G (VV U D) L → Q τ) : M_X9_follow 19 σ Q := by
  have hn := hW.1
  refine v_X9_follow (Or.inl rfl) ?_
  refine up (n := G 0 0) (fun k τ => Fr [35] [74, 82] [] σ τ ∧ TS τ k (fun s => if G 8 s ≠ 0 then 1 else 0) (fun _ => 1) (fun s => if G 8 s ≠ 0 then 1 else 0)) (fun v τ => L_X9_follow_2 19 v τ Q) ?_ ?_ 0 σ (by omega) ⟨Fr.rf σ, fun s hs => by omega⟩
  · rintro k τ hk ⟨hf, hP⟩ kk
    have hC2 := hC.fr hf (by decide)
    have nxt : ∀ x : Nat, x = (if G 8 k ≠ 0 then 1 else 0) → L_X9_follow_34 19 (i32 k) (i32 k) (i32 x) τ Q := fun x hx => by
      have hx1 : x ≤ 1 := by rw [hx]; split <;> omega
      refine v_X9_follow_34 (Or.inl rfl) ?_
      simp (disch := omega) only [n0, n1, n2, n3, n4, n5, n6, n7, n8, n9, n49, n97, n98, n114, n102, n115, n119, n109, n112, i32_add, i32_mul, i32_N, i32_le, i32_lt, i32_eq, vpi_iff]
      refine ⟨by omega, ?_⟩
      rintro _ rfl
      refine ⟨by omega, v_X10_put (by omega) ?_⟩
      rw [show (18 + 56 : Nat) = 74 from rfl, show (18 + 64 : Nat) = 82 from rfl, ri, if_pos rfl, if_pos rfl]
      simp (disch := omega) only [n0, n1, n2, n3, n4, n5, n6, n7, n8, n9, n49, n97, n98, n114, n102, n115, n119, n109, n112, i32_add, i32_mul, i32_N, i32_le, i32_lt, i32_eq, vpi_iff]
      refine ⟨by omega, ?_⟩
      rintro _ rfl
      refine ⟨by omega, ?_⟩
      rintro _ rfl
      refine kk _ ⟨hf.tr ((Fr.i (by decide)).tr ((Fr.l (by decide)).tr (Fr.l (by decide)))), fun u hu => ?_⟩
      by_cases e : u = k
      · refine ⟨?_, ?_, ?_⟩
        · rw [rl1, rl1, ri, if_pos rfl, if_pos e, hx, e]
        · rw [rl, if_neg (show ¬ (74 : Nat) = 82 by decide), rl, if_pos rfl, if_pos e, i32_64 (by omega), hx, e]
        · rw [rl, if_pos rfl, if_pos e]; rfl
      · obtain ⟨k1, k2, k3⟩ := hP u (by omega)
        refine ⟨?_, ?_, ?_⟩
        · rw [rl1, rl1, ri, if_pos rfl, if_neg e]; exact k1
        · rw [rl, if_neg (show ¬ (74 : Nat) = 82 by decide), rl, if_pos rfl, if_neg e, ri2]; exact k2
        · rw [rl, if_pos rfl, if_neg e, rl, if_neg (show ¬ (82 : Nat) = 74 by decide), ri2]; exact k3
    refine v_X9_follow_2 (Or.inl rfl) ?_
    rw [hC2.1.1]
    simp (disch := omega) only [n0, n1, n2, n3, n4, n5, n6, n7, n8, n9, n49, n97, n98, n114, n102, n115, n119, n109, n112, i32_add, i32_mul, i32_N, i32_le, i32_lt, i32_eq, vpi_iff]
    exact ⟨fun z => by omega, fun _ => c_isTarget hC2 (by omega) (fun t8 => ⟨fun y => absurd y (by decide), fun _ => nxt 1 (by rw [if_pos t8])⟩) (fun t8 => ⟨fun _ => nxt 0 (by rw [if_neg (by omega)]), fun y => absurd rfl y⟩)⟩
  · rintro τ ⟨hf, hP⟩
    refine v_X9_follow_2 (Or.inl rfl) ?_
    rw [(hC.fr hf (by decide)).1.1]
    refine ⟨fun _ => ?_, fun z => absurd ((i32_le (by omega) (by omega)).mpr (Nat.le_refl _)) z⟩
    obtain ⟨hI0, hC0⟩ := TI_init (G := G) (U := fun s => if G 8 s ≠ 0 then 1 else 0) (D := fun _ => 1) (L := fun s => if G 8 s ≠ 0 then 1 else 0) (fun s _ => ⟨rfl, rfl, rfl⟩)
    refine up (n := G 0 0) (fun k τ => Fr [35] [74, 82] [] σ τ ∧ ∃ U D L, TS τ (G 0 0) U D L ∧ TI G U D L ∧ CP G U D L (k + 1)) (fun v τ => L_X9_follow_59 19 v τ Q) ?_ ?_ 0 τ (by omega) ⟨hf, _, _, _, hP, hI0, hC0⟩
    · rintro k τ hk ⟨hf, U, D, L, hS, hI, hCP⟩ kk
      refine v_X9_follow_59 (Or.inl rfl) ?_
      rw [(hC.fr hf (by decide)).1.1]
      simp (disch := omega) only [n0, n1, n2, n3, n4, n5, n6, n7, n8, n9, n49, n97, n98, n114, n102, n115, n119, n109, n112, i32_add, i32_mul, i32_N, i32_le, i32_lt, i32_eq, vpi_iff]
      refine ⟨fun z => by omega, fun _ => ?_⟩
      refine up (n := G 0 0) (fun s τ => Fr [35] [74, 82] [] σ τ ∧ ∃ A B M, TS τ (G 0 0) A B M ∧ TI G A B M ∧ (∀ u, btt (VV A B u) (M u) (VV U D u) (L u)) ∧ ∀ s', s' < s → ¬ TG G s' → ∀ t, t < G 0 0 → wT G s' t ≠ 0 → L t ≠ 0 → M s' ≠ 0 ∧ btt (VV A B s') (M s') (hT G s' t * VV U D t) (L t + 1)) (fun v τ => L_X9_follow_72 19 (i32 k) v τ Q) ?_ ?_ 0 τ (by omega) ⟨hf, U, D, L, hS, hI, fun u => btt_rf _ _, fun s' hs' => by omega⟩
      · rintro s τ hs ⟨hf, A, B, M, hS2, hI2, h1, h2⟩ kk2
        have hC2 := hC.fr hf (by decide)
        have e19 : τ.1 19 s = i32 (G 10 s) := (hC2.2.1 s (by omega)).2.2.2
        have g10 := told_2 hW s (by omega)
        refine v_X9_follow_72 (Or.inl rfl) ?_
        rw [hC2.1.1]
        simp (disch := omega) only [n0, n1, n2, n3, n4, n5, n6, n7, n8, n9, n49, n97, n98, n114, n102, n115, n119, n109, n112, i32_add, i32_mul, i32_N, i32_le, i32_lt, i32_eq, vpi_iff]
        refine ⟨fun z => by omega, fun _ => c_isTarget hC2 (by omega) (fun t8 => ⟨fun _ => ?_, fun y => absurd y (by decide)⟩) (fun t8 => ⟨fun y => absurd rfl y, fun _ => ⟨by omega, ?_⟩⟩)⟩
        · refine kk2 τ ⟨hf, A, B, M, hS2, hI2, h1, fun s' hs' => ?_⟩
          by_cases e : s' = s
          · rw [e]; exact fun y => absurd t8 y
          · exact h2 s' (by omega)
        · rw [e19]
          refine c_moveOf ?_
          refine c_lengthen hC2 hW hw hs (fun y => y t8) hS2 hI2 (fun τ2 A2 B2 M2 f2 q1 q2 q3 q4 => ?_)
          refine kk2 τ2 ⟨hf.tr f2, A2, B2, M2, q1, q2, fun u => btt_tr (q3 u) (h1 u), fun s' hs' hn' t ht y1 y2 => ?_⟩
          have v0 : 0 < VV U D t := (TI_b hW hw hI ht).2.2.2.2 y2
          by_cases e : s' = s
          · subst e
            have hM : M t ≠ 0 := TI_n0 hI2 ht (q_lt_le v0 (btt_le (h1 t)))
            obtain ⟨z1, z2⟩ := q4 t ht y1 hM
            exact ⟨z1, btt_tr z2 (btt_mul (hT_pos hW hw hs y1) (h1 t))⟩
          · obtain ⟨z1, z2⟩ := h2 s' (by omega) hn' t ht y1 y2
            have hc0 : 0 < hT G s' t * VV U D t := Rat.mul_pos (hT_pos hW hw (by omega) y1) v0
            have z3 := btt_tr (q3 s') z2
            exact ⟨TI_n0 q2 (by omega) (q_lt_le hc0 (btt_le z3)), z3⟩
      · rintro τ ⟨hf, A, B, M, hS2, hI2, h1, h2⟩
        refine v_X9_follow_72 (Or.inl rfl) ?_
        rw [(hC.fr hf (by decide)).1.1]
        refine ⟨fun _ => ?_, fun z => absurd ((i32_le (by omega) (by omega)).mpr (Nat.le_refl _)) z⟩
        simp (disch := omega) only [n0, n1, n2, n3, n4, n5, n6, n7, n8, n9, n49, n97, n98, n114, n102, n115, n119, n109, n112, i32_add, i32_mul, i32_N, i32_le, i32_lt, i32_eq, vpi_iff]
        refine kk τ ⟨hf, A, B, M, hS2, hI2, fun j f hwk hj => ?_⟩
        obtain ⟨j', rfl⟩ : ∃ j', j = j' + 1 := ⟨j - 1, by have := hwk.1; omega⟩
        by_cases hj0 : j' = 0
        · subst hj0
          obtain ⟨z1, z2⟩ := hCP 1 f hwk (by omega)
          have v0 : 0 < VV U D (f 0) := (TI_b hW hw hI (hwk.2.1 0 (by omega))).2.2.2.2 z1
          exact ⟨TI_n0 hI2 (hwk.2.1 0 (by omega)) (q_lt_le v0 (btt_le (h1 _))), btt_tr (h1 _) z2⟩
        · have htl := wk_tl hwk (by omega)
          obtain ⟨z1, z2⟩ := hCP j' (tlf f) htl (by omega)
          obtain ⟨-, p2', p3', -⟩ := hwk
          have p01 := p3' 0 (by omega)
          have hs0 := p2' 0 (by omega)
          obtain ⟨y1, y2⟩ := h2 (f 0) hs0 p01.2 (f 1) (p2' 1 (by omega)) p01.1 z1
          refine ⟨y1, btt_tr y2 ?_⟩
          have := btt_mul (hT_pos hW hw hs0 p01.1) z2
          rw [show j' + 1 - 1 = (j' - 1) + 1 by omega, tw_tl]
          exact this
    · rintro τ ⟨hf, U, D, L, hS, hI, hCP⟩
      refine v_X9_follow_59 (Or.inl rfl) ?_
      rw [(hC.fr hf (by decide)).1.1]
      exact ⟨fun _ => h τ U D L hf hS hI (TI_opt hW hw hI hCP), fun z => absurd ((i32_le (by omega) (by omega)).mpr (Nat.le_refl _)) z⟩
end TRF
