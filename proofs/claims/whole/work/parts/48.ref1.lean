/-! THE REFERENCE: its equations -/
theorem m_laysNumber {s : Nat} {v : Int64} {σ : cg_S} {Q : cg_S → Prop} (hs : s < 7) (h : ∀ τ, Fr [] [21] [] σ τ → (∀ i, τ.2.1 21 i = if i = 8 * s + 7 then v else if i = 8 * s + s then 1 else if 8 * s ≤ i ∧ i < 8 * s + 8 then 0 else σ.2.1 21 i) → Q τ) : M_X12_laysNumber (i32 s) v σ Q := by
  refine v_X12_laysNumber ?_
  refine up (n := 8) (fun k τ => Fr [] [21] [] σ τ ∧ ∀ i, τ.2.1 21 i = if 8 * s ≤ i ∧ i < 8 * s + k then 0 else σ.2.1 21 i) (fun w τ => L_X12_laysNumber_3 (i32 s) v w τ Q) ?_ ?_ 0 σ (by omega) ⟨Fr.rf σ, fun i => by rw [if_neg (by omega)]⟩
  · intro k τ hk hP kk
    refine v_X12_laysNumber_3 ?_
    simp (disch := omega) only [n0, n1, n2, n3, n4, n5, n6, n7, n8, n9, n49, n97, n98, n114, n102, n115, n119, n109, n112, i32_add, i32_mul, i32_N, i32_le, i32_lt, i32_eq, vpi_iff]
    refine ⟨fun z => by omega, fun _ => ⟨by omega, ?_⟩⟩
    rintro _ rfl
    refine kk _ ⟨hP.1.tr (Fr.l (by decide)), fun i => ?_⟩
    rw [rl, if_pos rfl, hP.2 i]
    repeat' split
    all_goals first | rfl | omega
  · intro τ hP
    refine v_X12_laysNumber_3 ?_
    simp (disch := omega) only [n0, n1, n2, n3, n4, n5, n6, n7, n8, n9, n49, n97, n98, n114, n102, n115, n119, n109, n112, i32_add, i32_mul, i32_N, i32_le, i32_lt, i32_eq, vpi_iff]
    refine ⟨fun _ => ⟨by omega, ?_⟩, fun z => by omega⟩
    rintro _ rfl
    refine ⟨by omega, ?_⟩
    rintro _ rfl
    refine h _ (hP.1.tr ((Fr.l (by decide)).tr (Fr.l (by decide)))) (fun i => ?_)
    rw [rl, if_pos rfl, rl, if_pos rfl, hP.2 i]
