/-! MEANS in the class: findMean -/
section MN5
variable {σ : cg_S} {G : Gm} {ch : Nat}
def cstW (G : Gm) (U : Nat → Nat) (D s : Nat) : Nat := bT G s * G 4 (mv (G 10) s) * D + sN (G 0 0) (fun t => wT G s t * U t)
def stpW (G : Gm) (W : Nat → Nat) (D s : Nat) : Nat := bT G s * D + sN (G 0 0) (fun t => wT G s t * W t)
theorem c_findMean {s D : Nat} {U W : Nat → Nat} {Q : cg_S → Prop} (hC : CG σ G ch) (hW : GW G) (hs : s < G 0 0) (h59 : ∀ t, t < G 0 0 → σ.2.1 59 t = i64 ((U t : Nat) : Int)) (h58 : ∀ t, t < G 0 0 → σ.2.1 58 t = i64 ((W t : Nat) : Int)) (h44 : σ.2.1 4 4 = i64 ((D : Nat) : Int)) (hc : ((cstW G U D s : Nat) : Int) < 9223372036854775808) (hst : ((stpW G W D s : Nat) : Int) < 9223372036854775808) (h0 : stpW G W D s ≠ 0) (h : ∀ τ, Fr [] [68, 76] [] σ τ → τ.2.1 68 s = i64 (((cstW G U D s : Nat) : Rat) / ((stpW G W D s : Nat) : Rat)).num → τ.2.1 76 s = i64 (((((cstW G U D s : Nat) : Rat) / ((stpW G W D s : Nat) : Rat)).den : Nat) : Int) → (∀ t, t ≠ s → τ.2.1 68 t = σ.2.1 68 t ∧ τ.2.1 76 t = σ.2.1 76 t) → Q τ) : M_X6_findMean (i32 s) (i32 (mv (G 10) s)) σ Q := by
  have hn := hW.1
  have hm : mv (G 10) s < 21 := mv_lt (by omega) (told_2 hW s (by omega))
  have h4 := (hW.2.2.1 _ hm).1
  have h6 := (hW.2.2.1 _ hm).2.2.1
  have e24 : σ.1 24 (mv (G 10) s) = i32 (G 6 (mv (G 10) s)) := (hC.2.2 _ hm).2.2.1
  have e22 : σ.1 22 (mv (G 10) s) = i32 (G 4 (mv (G 10) s)) := (hC.2.2 _ hm).1
  have k69 : G 6 (mv (G 10) s) * G 4 (mv (G 10) s) ≤ 6 * 9 := Nat.mul_le_mul h6 h4
  refine v_X6_findMean ?_
  simp (disch := omega) only [n0, n1, n2, n3, n4, n5, n6, n7, n8, n9, n49, n97, n98, n114, n102, n115, n119, n109, n112, i32_add, i32_mul, i32_N, i32_le, i32_lt, i32_eq, vpi_iff]
  rw [e24, e22, h44, i32_mul, i32_64 (by omega), i32_64 (by omega), i64_mul, i64_mul]
  refine ⟨by omega, by omega, ?_⟩
  rintro _ rfl
  refine ⟨by omega, c_expected (u := W) hC hW hm h58 ?_⟩
  rw [i64_add]
  rintro _ rfl
  refine up2 (n := G 0 0) (fun k (v : Int64) τ => τ = σ ∧ v = i64 (((bT G s * G 4 (mv (G 10) s) * D + sN k (fun t => wT G s t * U t) : Nat)) : Int)) (fun v w τ => L_X6_findMean_67 (i32 s) (i32 (mv (G 10) s)) v (i64 ((((G 6 (mv (G 10) s) : Nat) : Int)) * ((D : Nat) : Int) + ((sN (G 0 0) (fun t => G 7 (7 * mv (G 10) s + t) * W t) : Nat) : Int))) w τ Q) ?_ ?_ 0 _ σ (by omega) ⟨rfl, rfl⟩
  · rintro k v τ hk ⟨rfl, rfl⟩ kk
    have hw6 := hW.w6 hm (show k < 7 by omega)
    refine v_X6_findMean_67 ?_
    rw [hC.1.1]
    simp (disch := omega) only [n0, n1, n2, n3, n4, n5, n6, n7, n8, n9, n49, n97, n98, n114, n102, n115, n119, n109, n112, i32_add, i32_mul, i32_N, i32_le, i32_lt, i32_eq, vpi_iff]
    rw [(hC.2.2 _ hm).2.2.2.2 k (by omega), h59 k hk, i32_64 (by omega), i64_mul, i64_add]
    refine ⟨fun z => by omega, fun _ => ⟨by omega, by omega, by omega, ?_⟩⟩
    rintro _ rfl
    refine kk _ τ ⟨rfl, ?_⟩
    congr 1
    rw [sN, ← Int.natCast_mul, ← Int.natCast_add, Nat.add_assoc]
    rfl
  · rintro v τ ⟨rfl, rfl⟩
    have es : (((G 6 (mv (G 10) s) : Nat) : Int)) * ((D : Nat) : Int) + ((sN (G 0 0) (fun t => G 7 (7 * mv (G 10) s + t) * W t) : Nat) : Int) = ((stpW G W D s : Nat) : Int) := by
      rw [← Int.natCast_mul, ← Int.natCast_add]
      rfl
    have ec : ((bT G s * G 4 (mv (G 10) s) * D + sN (G 0 0) (fun t => wT G s t * U t) : Nat) : Int) = ((cstW G U D s : Nat) : Int) := rfl
    rw [es, ec]
    refine v_X6_findMean_67 ?_
    rw [hC.1.1]
    refine ⟨fun _ => (c_lowest hc hst h0).1 ((c_lowest hc hst h0).2 (v_X10_put (by omega) ?_)), fun z => absurd ((i32_le (by omega) (by omega)).mpr (Nat.le_refl _)) z⟩
    rw [show (12 + 56 : Nat) = 68 from rfl, show (12 + 64 : Nat) = 76 from rfl]
    simp (disch := omega) only [n0, n1, n2, n3, n4, n5, n6, n7, n8, n9, n49, n97, n98, n114, n102, n115, n119, n109, n112, i32_add, i32_mul, i32_N, i32_le, i32_lt, i32_eq, vpi_iff]
    refine ⟨by omega, ?_⟩
    rintro _ rfl
    refine ⟨by omega, ?_⟩
    rintro _ rfl
    refine h _ ((Fr.l (by decide)).tr (Fr.l (by decide))) ?_ ?_ (fun t ht => ⟨?_, ?_⟩)
    · rw [rl, if_neg (show ¬ (68 : Nat) = 76 by decide), rl, if_pos rfl, if_pos rfl]
    · rw [rl, if_pos rfl, if_pos rfl]
    · rw [rl, if_neg (show ¬ (68 : Nat) = 76 by decide), rl, if_pos rfl, if_neg ht]
    · rw [rl, if_pos rfl, if_neg ht, rl, if_neg (show ¬ (76 : Nat) = 68 by decide)]
end MN5
/-! the divisor doesn't see the right side -/
theorem gB_col {A B : Nat → Nat → Rat} (h : ∀ i j, i < 7 → j ≠ 7 → A i j = B i j) : ∀ k, k ≤ 7 → gD k A = gD k B ∧ ∀ s t, s < 7 → t ≠ 7 → gB k A s t = gB k B s t := by
  intro k
  induction k with
  | zero => intro _; exact ⟨rfl, fun s t hs ht => h s t hs ht⟩
  | succ k ih =>
    intro hk
    obtain ⟨h1, h2⟩ := ih (by omega)
    refine ⟨by rw [gD_succ, gD_succ, h2 k k (by omega) (by omega)], fun s t hs ht => ?_⟩
    rw [gB_succ, gB_succ, h1, h2 s t hs ht, h2 k k (by omega) (by omega), h2 s k hs (by omega), h2 k t (by omega) ht]
theorem hatS_col {A B : Nat → Nat → Rat} (h : ∀ i j, i < 7 → j ≠ 7 → A i j = B i j) : ∀ q, q ≤ 7 → ∀ i j, i < 7 → j ≠ 7 → hatS A q i j = hatS B q i j := by
  intro q
  induction q with
  | zero => intro _ i j hi hj; exact h i j hi hj
  | succ q ih =>
    intro hq i j hi hj
    have e := (gB_col (ih (by omega)) q (by omega)).2 q q (by omega) (by omega)
    show hatS A q i j + _ = hatS B q i j + _
    rw [ih (by omega) i j hi hj, e]
theorem hdl_col {A B : Nat → Nat → Rat} (h : ∀ i j, i < 7 → j ≠ 7 → A i j = B i j) {i : Nat} (hi : i < 7) : hdl A i = hdl B i := by
  unfold hdl
  rw [(gB_col (hatS_col h i (by omega)) i (by omega)).2 i i hi (by omega)]
theorem gD_col {A B : Nat → Nat → Rat} {n : Nat} (hn : n ≤ 7) (h : ∀ i j, i < 7 → j ≠ 7 → A i j = B i j) : gD n (hat A) = gD n (hat B) := by
  refine (gB_col (A := hat A) (B := hat B) (fun i j hi hj => ?_) n hn).1
  unfold hat
  rw [h i j hi hj, hdl_col h hi]
