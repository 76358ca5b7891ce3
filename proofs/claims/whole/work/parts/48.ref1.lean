/-! THE REFERENCE: its equations -/
theorem m_laysNumber {s : Nat} {v : Int64} {σ : cg_S} {Q : cg_S → Prop} (hs : s < 7) (h : ∀ τ, Fr [] [21] [] σ τ → (∀ i, τ.2.1 21 i = if i = 8 * s + 7 then v else if i = 8 * s + s then 1 else if 8 * s ≤ i ∧ i < 8 * s + 8 then 0 else σ.2.1 21 i) → Q τ) : M_X12_laysNumber (i32 s) v σ Q := by
  refine v_X12_laysNumber ?_
  refine up (n := 8) (fun k τ => Fr [] [21] [] σ τ ∧ ∀ i, τ.2.1 21 i = if 8 * s ≤ i ∧ i < 8 * s + k then 0 else σ.2.1 21 i) (fun w τ => L_X12_laysNumber_3 (i32 s) v w τ Q) ?_ ?_ 0 σ (by omega) ⟨Fr.rf σ, fun i => by rw [if_neg (by omega)]⟩
  · intro k τ hk hP kk
    refine v_X12_laysNumber_3 ?_
    simp (disch := omega) only [n0, n1, n2, n3, n4, n5, n6, n7, n8, n9, n49, n97, n98, n114, n102, n115, n119, n109, n112, i32_add, i32_mul, i32_N, i32_le, i32_lt, i32_eq, vpi_iff]
    refine ⟨fun z => by omega, fun _ => ⟨by omega, ?_⟩⟩
    rintro _ rfl
    refine kk _ ⟨hP.1.tr (Fr.l (by decide)), fun i => ?_⟩
    rw [rl, if_pos rfl, hP.2 i]
    repeat' split
    all_goals first | rfl | omega
  · intro τ hP
    refine v_X12_laysNumber_3 ?_
    simp (disch := omega) only [n0, n1, n2, n3, n4, n5, n6, n7, n8, n9, n49, n97, n98, n114, n102, n115, n119, n109, n112, i32_add, i32_mul, i32_N, i32_le, i32_lt, i32_eq, vpi_iff]
    refine ⟨fun _ => ⟨by omega, ?_⟩, fun z => by omega⟩
    rintro _ rfl
    refine ⟨by omega, ?_⟩
    rintro _ rfl
    refine h _ (hP.1.tr ((Fr.l (by decide)).tr (Fr.l (by decide)))) (fun i => ?_)
    rw [rl, if_pos rfl, rl, if_pos rfl, hP.2 i]
abbrev Gm : Type := Nat → Nat → Nat
/-- the game G in the reference's cells -/
def MG (b : cg_S) (G : Gm) : Prop := (b.1 0 1 = i32 (G 0 0) ∧ b.1 0 2 = i32 (G 9 0) ∧ b.1 0 3 = i32 (G 9 1) ∧ b.1 0 4 = i32 (G 9 2) ∧ b.1 0 5 = i32 (G 9 3)) ∧ (∀ s, s < G 0 0 → b.1 1 s = i32 (if G 1 s = 1 then 97 else 98)) ∧ (∀ s, s < 7 → b.1 2 s = i32 (G 2 s) ∧ b.1 3 s = i32 (G 3 s) ∧ b.1 15 s = i32 (G 8 s) ∧ b.1 4 s = i32 (G 10 s)) ∧ (∀ m, m < 21 → b.1 7 m = i32 (G 4 m) ∧ b.1 8 m = i32 (G 5 m) ∧ b.1 9 m = i32 (G 6 m)) ∧ ∀ j, j < 147 → b.1 10 j = i32 (G 7 j)
def sN : Nat → (Nat → Nat) → Nat
  | 0, _ => 0
  | n + 1, f => sN n f + f n
/-- what always holds of the game's numbers -/
def GW (G : Gm) : Prop := G 0 0 ≤ 7 ∧ (∀ s, s < 7 → G 1 s ≤ 1 ∧ G 2 s ≤ 3 ∧ G 3 s ≤ 3 ∧ G 8 s ≤ 1 ∧ G 10 s ≤ 2 ∧ (G 10 s = 0 ∨ G 10 s < G 3 s)) ∧ (∀ m, m < 21 → G 4 m ≤ 9 ∧ G 5 m ≤ 9 ∧ G 6 m ≤ 6 ∧ G 6 m = sN (G 0 0) (fun t => G 7 (7 * m + t)) ∧ ∀ t, t < 7 → G 0 0 ≤ t → G 7 (7 * m + t) = 0) ∧ (G 9 0 < G 9 1 ∧ 1 ≤ G 9 0 ∧ G 9 1 ≤ 3) ∧ G 9 2 ≤ 3 ∧ G 9 3 ≤ 3
theorem MG.fr {b τ : cg_S} {G : Gm} {I L D : List Nat} (h : MG b G) (hf : Fr I L D b τ) (h0 : 0 ∉ I ∧ 1 ∉ I ∧ 2 ∉ I ∧ 3 ∉ I ∧ 4 ∉ I ∧ 7 ∉ I ∧ 8 ∉ I ∧ 9 ∉ I ∧ 10 ∉ I ∧ 15 ∉ I) : MG τ G := by
  have e := hf.1
  unfold MG
  rw [e 0 h0.1, e 1 h0.2.1, e 2 h0.2.2.1, e 3 h0.2.2.2.1, e 4 h0.2.2.2.2.1, e 7 h0.2.2.2.2.2.1, e 8 h0.2.2.2.2.2.2.1, e 9 h0.2.2.2.2.2.2.2.1, e 10 h0.2.2.2.2.2.2.2.2.1, e 15 h0.2.2.2.2.2.2.2.2.2]
  exact h
theorem sN_le {n : Nat} {f : Nat → Nat} {i : Nat} (h : i < n) : f i ≤ sN n f := by
  induction n with
  | zero => omega
  | succ n ih =>
    rw [sN]
    by_cases c : i = n
    · subst c; omega
    · have := ih (by omega); omega
theorem GW.w6 {G : Gm} (h : GW G) {m t : Nat} (hm : m < 21) (ht : t < 7) : G 7 (7 * m + t) ≤ 6 := by
  have h1 := h.2.2.1 m hm
  by_cases c : G 0 0 ≤ t
  · rw [h1.2.2.2.2 t ht c]; omega
  · have := sN_le (n := G 0 0) (f := fun t => G 7 (7 * m + t)) (i := t) (by omega)
    omega
/-- the picks at hand -/
def MP (b : cg_S) (p : Nat → Nat) : Prop := ∀ s, s < 7 → b.1 5 s = i32 (p s) ∧ p s ≤ 2
theorem MP.fr {b τ : cg_S} {p : Nat → Nat} {I L D : List Nat} (h : MP b p) (hf : Fr I L D b τ) (h0 : 5 ∉ I) : MP τ p := fun s hs => by rw [hf.1 5 h0]; exact h s hs
def mv (p : Nat → Nat) (s : Nat) : Nat := 3 * s + p s
theorem m_at {s : Nat} {p : Nat → Nat} {σ : cg_S} {Q : Int32 → cg_S → Prop} (hs : s < 7) (hp : MP σ p) (h : Q (i32 (mv p s)) σ) : M_X12_at (i32 s) σ Q := by
  refine v_X12_at ?_
  simp (disch := omega) only [n0, n1, n2, n3, n4, n5, n6, n7, n8, n9, n49, n97, n98, n114, n102, n115, n119, n109, n112, i32_add, i32_mul, i32_N, i32_le, i32_lt, i32_eq, vpi_iff]
  rw [(hp s hs).1, i32_add]
  exact ⟨hs, h⟩
theorem mv_lt {p : Nat → Nat} {s : Nat} (hs : s < 7) (hp : p s ≤ 2) : mv p s < 21 := by unfold mv; omega
theorem m_weightTo {s t : Nat} {p : Nat → Nat} {G : Gm} {σ : cg_S} {Q : Int32 → cg_S → Prop} (hs : s < 7) (ht : t < 7) (hp : MP σ p) (hG : MG σ G) (h : Q (i32 (G 7 (7 * mv p s + t))) σ) : M_X12_weightTo (i32 s) (i32 t) σ Q := by
  have h21 := mv_lt hs (hp s hs).2
  refine v_X12_weightTo (m_at hs hp ?_)
  simp (disch := omega) only [n0, n1, n2, n3, n4, n5, n6, n7, n8, n9, n49, n97, n98, n114, n102, n115, n119, n109, n112, i32_add, i32_mul, i32_N, i32_le, i32_lt, i32_eq, vpi_iff]
  rw [hG.2.2.2.2 _ (by omega)]
  exact ⟨by omega, h⟩
theorem neg32 {a b : Nat} (h : a * b < 2147483648) : (-i32 a * i32 b).toInt64 = i64 (-((a * b : Nat) : Int)) := by
  have e1 : -i32 a * i32 b = Int32.ofInt (-((a * b : Nat) : Int)) := by
    rw [show (-((a * b : Nat) : Int)) = (-(a : Int)) * (b : Int) by rw [Int.natCast_mul, Int.neg_mul], Int32.ofInt_mul, Int32.ofInt_neg, Int32.ofInt_eq_ofNat, Int32.ofInt_eq_ofNat]
    rfl
  rw [e1, ← Int64.toInt_inj, Int32.toInt_toInt64, Int32.toInt_ofInt_of_le (by omega) (by omega), i64_toInt (by omega) (by omega)]
/-- a step's row -/
def rowS (G : Gm) (p : Nat → Nat) (s : Nat) (cost : Int) (ov un t : Nat) : Int := if t = 7 then ((un * G 6 (mv p s) : Nat) : Int) * cost else (if t < G 0 0 then -((ov * G 7 (7 * mv p s + t) : Nat) : Int) else 0) + (if t = s then ((un * G 6 (mv p s) : Nat) : Int) else 0)
theorem m_laysStep {s ov un : Nat} {c : Int} {p : Nat → Nat} {G : Gm} {σ : cg_S} {Q : cg_S → Prop} (hs : s < 7) (hov : ov ≤ 3) (hun : un ≤ 3) (hW : GW G) (hp : MP σ p) (hG : MG σ G) (h : ∀ τ, Fr [] [21] [] σ τ → (∀ t, t < 8 → τ.2.1 21 (8 * s + t) = i64 (rowS G p s c ov un t)) → (∀ i, (i < 8 * s ∨ 8 * s + 8 ≤ i) → τ.2.1 21 i = σ.2.1 21 i) → Q τ) : M_X12_laysStep (i32 s) (i64 c) (i32 ov) (i32 un) σ Q := by
  have h21 := mv_lt hs (hp s hs).2
  refine v_X12_laysStep ?_
  refine up (n := 7) (fun k τ => Fr [] [21] [] σ τ ∧ (∀ t, t < k → τ.2.1 21 (8 * s + t) = i64 (if t < G 0 0 then -((ov * G 7 (7 * mv p s + t) : Nat) : Int) else 0)) ∧ ∀ i, (i < 8 * s ∨ 8 * s + k ≤ i) → τ.2.1 21 i = σ.2.1 21 i) (fun w τ => L_X12_laysStep_3 (i32 s) (i64 c) (i32 ov) (i32 un) w τ Q) ?_ ?_ 0 σ (by omega) ⟨Fr.rf σ, fun t ht => by omega, fun i _ => rfl⟩
  · intro k τ hk hP kk
    have hG2 := hG.fr hP.1 (by decide)
    have hp2 := hp.fr hP.1 (by decide)
    refine v_X12_laysStep_3 ?_
    rw [hG2.1.1]
    have hn := hW.1
    simp (disch := omega) only [n0, n1, n2, n3, n4, n5, n6, n7, n8, n9, n49, n97, n98, n114, n102, n115, n119, n109, n112, i32_add, i32_mul, i32_N, i32_le, i32_lt, i32_eq, vpi_iff]
    refine ⟨fun z => by omega, fun _ => ⟨fun hc => ⟨by omega, ?_⟩, fun hc => ?_⟩⟩
    · rintro _ rfl
      refine kk _ ⟨hP.1.tr (Fr.l (by decide)), fun t ht => ?_, fun i hi => ?_⟩
      · rw [rl, if_pos rfl]
        by_cases c1 : t = k
        · rw [c1, if_pos rfl, if_neg (by omega)]; rfl
        · rw [if_neg (by omega), hP.2.1 t (by omega)]
      · rw [rl, if_pos rfl, if_neg (by omega), hP.2.2 i (by omega)]
    · refine m_weightTo hs hk hp2 hG2 ?_
      refine ⟨by omega, ?_⟩
      have hw := hW.w6 h21 hk
      have hm : ov * G 7 (7 * mv p s + k) ≤ 3 * 6 := Nat.mul_le_mul hov hw
      rintro _ rfl
      refine kk _ ⟨hP.1.tr (Fr.l (by decide)), fun t ht => ?_, fun i hi => ?_⟩
      · rw [rl, if_pos rfl]
        by_cases c1 : t = k
        · rw [c1, if_pos rfl, if_pos (by omega), neg32 (by omega)]
        · rw [if_neg (by omega), hP.2.1 t (by omega)]
      · rw [rl, if_pos rfl, if_neg (by omega), hP.2.2 i (by omega)]
  · intro τ hP
    have hG2 := hG.fr hP.1 (by decide)
    have hp2 := hp.fr hP.1 (by decide)
    have h6 := (hW.2.2.1 _ h21).2.2.1
    have hm : un * G 6 (mv p s) ≤ 3 * 6 := Nat.mul_le_mul hun h6
    refine v_X12_laysStep_3 ?_
    refine ⟨fun _ => ⟨by simp (disch := omega) only [n0, n1, n2, n3, n4, n5, n6, n7, n8, n9, n49, n97, n98, n114, n102, n115, n119, n109, n112, i32_add, i32_mul, i32_N, i32_le, i32_lt, i32_eq, vpi_iff]; omega, m_at hs hp2 ?_⟩, fun z => absurd ((i32_le (by decide) (by decide)).mpr (Nat.le_refl 7)) z⟩
    simp (disch := omega) only [n0, n1, n2, n3, n4, n5, n6, n7, n8, n9, n49, n97, n98, n114, n102, n115, n119, n109, n112, i32_add, i32_mul, i32_N, i32_le, i32_lt, i32_eq, vpi_iff]
    rw [hG2.2.2.2.1 _ h21 |>.2.2, i32_mul, i32_64 (by omega)]
    refine ⟨h21, by omega, ?_⟩
    rintro _ rfl
    have hf1 : Fr [] [21] [] τ (cg_l τ 21 (8 * s + s) (τ.2.1 21 (8 * s + s) + i64 ((un * G 6 (mv p s) : Nat) : Int))) := Fr.l (by decide)
    refine m_at hs (hp2.fr hf1 (by decide)) ?_
    have hG3 := hG2.fr hf1 (by decide)
    simp (disch := omega) only [n0, n1, n2, n3, n4, n5, n6, n7, n8, n9, n49, n97, n98, n114, n102, n115, n119, n109, n112, i32_add, i32_mul, i32_N, i32_le, i32_lt, i32_eq, vpi_iff]
    rw [hG3.2.2.2.1 _ h21 |>.2.2, i32_mul, i32_64 (by omega), i64_mul]
    refine ⟨h21, by omega, ?_⟩
    rintro _ rfl
    refine h _ (hP.1.tr (hf1.tr (Fr.l (by decide)))) (fun t ht => ?_) (fun i hi => ?_)
    · rw [rl, if_pos rfl, rl, if_pos rfl]
      unfold rowS
      by_cases c1 : t = 7
      · rw [if_pos (by omega), if_pos c1]
      · rw [if_neg (by omega), if_neg c1]
        by_cases c2 : t = s
        · rw [c2, if_pos rfl, if_pos rfl, hP.2.1 s hs, i64_add]
        · rw [if_neg (by omega), if_neg c2, hP.2.1 t (by omega), Int.add_zero]
    · rw [rl, if_pos rfl, if_neg (by omega), rl, if_pos rfl, if_neg (by omega), hP.2.2 i (by omega)]
