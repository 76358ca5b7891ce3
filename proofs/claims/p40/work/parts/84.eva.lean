/-! THE CLASS: rows are laid, chains are solved -/
section LY
variable {σ : cg_S} {G : Gm} {ch : Nat} {Q : cg_S → Prop}
theorem c_holds {w : Int32} {P : Nat → Prop} {t : Nat} {Q : Int32 → cg_S → Prop} (h : mk w P) (ht : t < 7) (hy : P t → Q 1 σ) (hno : ¬ P t → Q 0 σ) : M_X2_holds w (i32 t) σ Q := by
  refine v_X2_holds ⟨fun z => ?_, fun z => ?_⟩
  · rcases mk_get h ht with ⟨k, e⟩ | ⟨k, e⟩
    · exact absurd e z
    · exact hno k
  · rcases mk_get h ht with ⟨k, e⟩ | ⟨k, e⟩
    · exact hy k
    · rw [e] at z; exact absurd z (by decide)
theorem c_step {s m ov un : Nat} {c : Int} {p : Nat → Nat} (hC : CG σ G ch) (hW : GW G) (hs : s < G 0 0) (hm : m < 21) (hmv : mv p s = m) (hov : ov ≤ 3) (hun : un ≤ 3) (h : ∀ τ, Fr [] [60 + s] [] σ τ → (∀ t, t < G 0 0 → τ.2.1 (60 + s) t = i64 (rowS G p s c ov un t)) → τ.2.1 (60 + s) 7 = i64 0 → Q τ) : M_X0_step (i32 s) (i32 m) (i32 ov) (i32 un) σ Q := by
  have hn := hW.1
  refine v_X0_step ?_
  simp (disch := omega) only [n0, n1, n2, n3, n4, n5, n6, n7, n8, n9, n49, n97, n98, n114, n102, n115, n119, n109, n112, i32_add, i32_mul, i32_N, i32_le, i32_lt, i32_eq, vpi_iff]
  refine ⟨by omega, ?_⟩
  intro n2 e2
  rw [e2]
  clear e2 n2
  refine up (n := G 0 0) (fun k τ => Fr [] [60 + s] [] σ τ ∧ ∀ t, t < k → τ.2.1 (60 + s) t = i64 (-((ov * G 7 (7 * m + t) : Nat) : Int))) (fun w τ => L_X0_step_14 (i32 s) (i32 m) (i32 ov) (i32 un) s w τ Q) ?_ ?_ 0 σ (by omega) ⟨Fr.rf σ, fun t ht => by omega⟩
  · rintro k τ hk ⟨hf, hP⟩ kk
    have hC2 := hC.fr hf (by decide)
    have hw := hW.w6 hm (show k < 7 by omega)
    have hmul : ov * G 7 (7 * m + k) ≤ 3 * 6 := Nat.mul_le_mul hov hw
    refine v_X0_step_14 (by omega) ?_
    rw [hC2.1.1]
    simp (disch := omega) only [n0, n1, n2, n3, n4, n5, n6, n7, n8, n9, n49, n97, n98, n114, n102, n115, n119, n109, n112, i32_add, i32_mul, i32_N, i32_le, i32_lt, i32_eq, vpi_iff]
    refine ⟨fun z => by omega, fun _ => ⟨by omega, by omega, by omega, ?_⟩⟩
    rw [(hC2.2.2 m hm).2.2.2.2 k (by omega), neg32 (by omega)]
    rintro _ rfl
    refine kk _ ⟨hf.tr (Fr.l (by simp)), fun t ht => ?_⟩
    rw [rl, if_pos rfl]
    by_cases c1 : t = k
    · rw [c1, if_pos rfl]
    · rw [if_neg c1]; exact hP t (by omega)
  · rintro τ ⟨hf, hP⟩
    have hC2 := hC.fr hf (by decide)
    have h6 := (hW.2.2.1 m hm).2.2.1
    have hmul : un * G 6 m ≤ 3 * 6 := Nat.mul_le_mul hun h6
    refine v_X0_step_14 (by omega) ?_
    rw [hC2.1.1]
    refine ⟨fun _ => ?_, fun z => absurd ((i32_le (by omega) (by omega)).mpr (Nat.le_refl _)) z⟩
    simp (disch := omega) only [n0, n1, n2, n3, n4, n5, n6, n7, n8, n9, n49, n97, n98, n114, n102, n115, n119, n109, n112, i32_add, i32_mul, i32_N, i32_le, i32_lt, i32_eq, vpi_iff]
    rw [(hC2.2.2 m hm).2.2.1, i32_mul, i32_64 (by omega)]
    refine ⟨by omega, by omega, by omega, ?_⟩
    rintro _ rfl
    rintro _ rfl
    refine h _ (hf.tr ((Fr.l (by simp)).tr (Fr.l (by simp)))) (fun t ht => ?_) (by rw [rl, if_pos rfl, if_pos rfl]; rfl)
    rw [rl, if_pos rfl, if_neg (by omega), rl, if_pos rfl]
    unfold rowS
    rw [if_neg (show ¬ t = 7 by omega), if_pos ht, hmv]
    by_cases c1 : t = s
    · rw [c1, if_pos rfl, if_pos rfl, hP s hs, i64_add]
    · rw [if_neg c1, if_neg c1, hP t ht, Int.add_zero]
theorem c_fix {s : Nat} {v : Int} (hs : s < 7) (h : ∀ τ, Fr [] [60 + s] [] σ τ → (∀ t, t < 7 → τ.2.1 (60 + s) t = i64 (rowN v s t)) → τ.2.1 (60 + s) 7 = i64 v → Q τ) : M_X1_fix (i32 s) (i64 v) σ Q := by
  refine v_X1_fix ?_
  simp (disch := omega) only [n0, n1, n2, n3, n4, n5, n6, n7, n8, n9, n49, n97, n98, n114, n102, n115, n119, n109, n112, i32_add, i32_mul, i32_N, i32_le, i32_lt, i32_eq, vpi_iff]
  refine ⟨by omega, ?_⟩
  intro n2 e2
  rw [e2]
  clear e2 n2
  refine up (n := 7) (fun k τ => Fr [] [60 + s] [] σ τ ∧ ∀ t, t < k → τ.2.1 (60 + s) t = i64 0) (fun w τ => L_X1_fix_11 (i32 s) (i64 v) s w τ Q) ?_ ?_ 0 σ (by omega) ⟨Fr.rf σ, fun t ht => by omega⟩
  · rintro k τ hk ⟨hf, hP⟩ kk
    refine v_X1_fix_11 (by omega) ?_
    simp (disch := omega) only [n0, n1, n2, n3, n4, n5, n6, n7, n8, n9, n49, n97, n98, n114, n102, n115, n119, n109, n112, i32_add, i32_mul, i32_N, i32_le, i32_lt, i32_eq, vpi_iff]
    refine ⟨fun z => by omega, fun _ => ⟨by omega, ?_⟩⟩
    rintro _ rfl
    refine kk _ ⟨hf.tr (Fr.l (by simp)), fun t ht => ?_⟩
    rw [rl, if_pos rfl]
    by_cases c1 : t = k
    · rw [c1, if_pos rfl]; rfl
    · rw [if_neg c1]; exact hP t (by omega)
  · rintro τ ⟨hf, hP⟩
    refine v_X1_fix_11 (by omega) ?_
    refine ⟨fun _ => ?_, fun z => absurd ((i32_le (by omega) (by omega)).mpr (Nat.le_refl 7)) z⟩
    simp (disch := omega) only [n0, n1, n2, n3, n4, n5, n6, n7, n8, n9, n49, n97, n98, n114, n102, n115, n119, n109, n112, i32_add, i32_mul, i32_N, i32_le, i32_lt, i32_eq, vpi_iff]
    refine ⟨by omega, ?_⟩
    rintro _ rfl
    rintro _ rfl
    refine h _ (hf.tr ((Fr.l (by simp)).tr (Fr.l (by simp)))) (fun t ht => ?_) (by rw [rl, if_pos rfl, if_pos rfl])
    rw [rl, if_pos rfl, if_neg (by omega), rl, if_pos rfl]
    unfold rowN
    rw [if_neg (show ¬ t = 7 by omega)]
    by_cases c1 : t = s
    · rw [if_pos c1, if_pos c1]; rfl
    · rw [if_neg c1, if_neg c1, hP t ht]
theorem c_costOf {m aim : Nat} {Q : Int32 → cg_S → Prop} (hC : CG σ G ch) (hm : m < 21) (ha : aim = 102 ∨ aim = 115 ∨ aim = 119) (h : Q (i32 (costG G aim m)) σ) : M_X2_costOf (i32 m) (i32 aim) σ Q := by
  obtain ⟨d1, d2, -⟩ := hC.2.2 m hm
  refine v_X2_costOf ?_
  have ha2 : aim < 2147483648 := by omega
  simp (disch := omega) only [n0, n1, n2, n3, n4, n5, n6, n7, n8, n9, n49, n97, n98, n114, n102, n115, n119, n109, n112, i32_add, i32_mul, i32_N, i32_le, i32_lt, i32_eq, vpi_iff]
  rw [d1, d2, hC.1.2.2.2.2.1, hC.1.2.2.2.2.2.1]
  unfold costG at h
  simp (disch := omega) only [n0, n1, n2, n3, n4, n5, n6, n7, n8, n9, n49, n97, n98, n114, n102, n115, n119, n109, n112, i32_add, i32_mul, i32_N, i32_le, i32_lt, i32_eq, vpi_iff]
  refine ⟨fun z => ⟨fun z2 => ⟨hm, hm, ?_⟩, fun z2 => ⟨hm, ?_⟩⟩, fun z => ⟨hm, ?_⟩⟩
  · rw [if_neg (by omega), if_neg z2] at h; exact h
  · rw [if_neg (by omega), if_pos z2] at h; exact h
  · rw [if_pos (Or.inl z)] at h; exact h
theorem c_reachEq {s m : Nat} {w : Int32} {T : Nat → Prop} {p : Nat → Nat} (hC : CG σ G ch) (hW : GW G) (hs : s < G 0 0) (hm : m < 21) (hmv : mv p s = m) (hT : mk w T) {N : Nat → Bool} (hN : N s = true ↔ T s) (h : ∀ τ, Fr [] [60 + s] [] σ τ → (∀ t, t < G 0 0 → τ.2.1 (60 + s) t = i64 (if N s then rowN 1 s t else rowS G p s 0 1 1 t)) → τ.2.1 (60 + s) 7 = i64 (if N s then rowN 1 s 7 else rowS G p s 0 1 1 7) → Q τ) : M_X0_reachEquation (i32 s) (i32 m) w σ Q := by
  have hn := hW.1
  refine v_X0_reachEquation (c_holds hT (by omega) (fun hTs => ⟨fun z => absurd z (by decide), fun _ => ?_⟩) (fun hTs => ⟨fun _ => ?_, fun z => absurd rfl z⟩))
  · have hNs := hN.mpr hTs
    refine c_fix (v := 1) (by omega) (fun τ f1 f2 f3 => h τ f1 (fun t ht => ?_) ?_)
    · rw [hNs]; exact f2 t (by omega)
    · rw [hNs]; exact f3
  · have hNs : N s = false := by
      cases e : N s
      · rfl
      · exact absurd (hN.mp e) hTs
    refine c_step (ov := 1) (un := 1) (c := 0) (p := p) hC hW hs hm hmv (by decide) (by decide) (fun τ f1 f2 f3 => h τ f1 (fun t ht => ?_) ?_)
    · rw [hNs]; exact f2 t ht
    · rw [hNs, f3]
      congr 1
theorem c_costEq {s m aim : Nat} {p : Nat → Nat} (hC : CG σ G ch) (hW : GW G) (hs : s < G 0 0) (hm : m < 21) (hmv : mv p s = m) (ha : aim = 102 ∨ aim = 115 ∨ aim = 119) (h : ∀ τ, Fr [] [60 + s] [] σ τ → (∀ t, t < G 0 0 → τ.2.1 (60 + s) t = i64 (rowS G p s ((costG G aim m : Nat) : Int) (G 9 0) (G 9 1) t)) → τ.2.1 (60 + s) 7 = i64 (rowS G p s ((costG G aim m : Nat) : Int) (G 9 0) (G 9 1) 7) → Q τ) : M_X0_costEquation (i32 s) (i32 m) (i32 aim) σ Q := by
  have hn := hW.1
  have hd := hW.2.2.2.1
  refine v_X0_costEquation ?_
  rw [hC.1.2.2.1, hC.1.2.2.2.1]
  refine c_step (ov := G 9 0) (un := G 9 1) (c := ((costG G aim m : Nat) : Int)) (p := p) hC hW hs hm hmv (by omega) (by omega) (fun τ f1 f2 f3 => ?_)
  have hC2 := hC.fr f1 (by decide)
  have hcl := costG_le hW aim hm
  have h6 := (hW.2.2.1 m hm).2.2.1
  simp (disch := omega) only [n0, n1, n2, n3, n4, n5, n6, n7, n8, n9, n49, n97, n98, n114, n102, n115, n119, n109, n112, i32_add, i32_mul, i32_N, i32_le, i32_lt, i32_eq, vpi_iff]
  refine ⟨by omega, by omega, c_costOf hC2 hm ha ?_⟩
  rw [hC2.1.2.2.2.1, (hC2.2.2 m hm).2.2.1, i32_64 (by omega), i32_64 (by omega), i32_64 (by omega), i64_mul, i64_mul]
  rintro _ rfl
  refine h _ (f1.tr (Fr.l (by simp))) (fun t ht => ?_) ?_
  · rw [rl, if_pos rfl, if_neg (by omega)]; exact f2 t ht
  · rw [rl, if_pos rfl, if_pos rfl]
    congr 1
    unfold rowS
    rw [if_pos rfl, hmv, Int.natCast_mul]
end LY
abbrev cL : List Nat := [4, 58, 60, 61, 62, 63, 64, 65, 66]
theorem cL_mem {s : Nat} (h : s < 7) : 60 + s ∈ cL := by
  have : ∀ s : Fin 7, 60 + s.val ∈ cL := by decide
  exact this ⟨s, h⟩
theorem Fr.cl {σ τ : cg_S} {s : Nat} (hs : s < 7) (h : Fr [] [60 + s] [] σ τ) : Fr [] cL [] σ τ := h.mo (fun _ z => z) (fun k hk => by
  have : k = 60 + s := by simpa using hk
  rw [this]; exact cL_mem hs) (fun _ z => z)
/-- the rows of a system, as they are laid -/
def RAW (τ : cg_S) (n : Nat) (o : Nat → Nat) (A : Nat → Nat → Rat) (i : Nat) : Prop := (∀ j, j < n → τ.2.1 (60 + o i) (o j) = i64 (A i j).num) ∧ τ.2.1 (60 + o i) 7 = i64 (A i 7).num
theorem raw_of {τ : cg_S} {G : Gm} {p : Nat → Nat} {N : Nat → Bool} {f c : Nat → Int} {ov un : Nat} {o oi : Nat → Nat} {i : Nat} (hn : G 0 0 ≤ 7) (hP : PM (G 0 0) o oi) (hi : i < G 0 0) (h1 : ∀ t, t < G 0 0 → τ.2.1 (60 + o i) t = i64 (if N (o i) then rowN (f (o i)) (o i) t else rowS G p (o i) (c (o i)) ov un t)) (h7 : τ.2.1 (60 + o i) 7 = i64 (if N (o i) then rowN (f (o i)) (o i) 7 else rowS G p (o i) (c (o i)) ov un 7)) : RAW τ (G 0 0) o (pmS o G p N f ov un c) i := by
  have ho := (hP.1 i hi).1
  refine ⟨fun j hj => ?_, ?_⟩
  · have hoj := (hP.1 j hj).1
    rw [h1 (o j) hoj]
    show _ = i64 (pmA o (sysA G p N f ov un c) i j).num
    rw [pmA_lt (by omega)]
    unfold sysA
    rw [if_pos ho]
    split <;> rw [Rat.num_intCast]
  · rw [h7]
    show _ = i64 (pmA o (sysA G p N f ov un c) i 7).num
    rw [pmA_7]
    unfold sysA
    rw [if_pos ho]
    split <;> rw [Rat.num_intCast]
theorem RAW.fr {σ τ : cg_S} {n : Nat} {o : Nat → Nat} {A : Nat → Nat → Rat} {i : Nat} {I L D : List Nat} (h : RAW σ n o A i) (hf : Fr I L D σ τ) (h0 : 60 + o i ∉ L) : RAW τ n o A i := by
  unfold RAW
  rw [hf.2.1 _ h0]
  exact h
/-- the answers stand -/
def CX (τ : cg_S) (n : Nat) (A : Nat → Nat → Rat) (oi : Nat → Nat) : Prop := τ.2.1 4 4 = i64 (gD n (hat A)).num ∧ ∀ s, s < n → τ.2.1 58 s = i64 (gB n (hat A) (oi s) 7).num
section SO
variable {n nA : Nat} {P : Nat → Prop} {o oi : Nat → Nat} {A : Nat → Nat → Rat}
theorem c_settleX {σ : cg_S} {Q : cg_S → Prop} (hn0 : 0 < n) (hn : n ≤ 7) (hI : ∀ i j, isI (A i j)) (hZ : Zm n A) (hFT : FT A n) (hO : ORD σ n nA P o oi) (hR : RWS σ n o (hat A) n) (h : ∀ τ, Fr [] [4, 58] [] σ τ → CX τ n A oi → Q τ) : M_X1_settle σ Q := by
  refine c_settle hn0 hn (isI_hat hI) (hat_Zm hZ) (hat_piv hZ) hO hR (fun i hi => (hFT.2.2 i (by omega)).1 hi) (fun i hi => (hFT.2.2 i hi).2) (fun τ f1 f2 f3 => h τ f1 ⟨f2, fun s hs => ?_⟩)
  obtain ⟨k1, k2⟩ := hO.2.2.2.2 s hs
  have := f3 (oi s) k1
  rw [k2] at this
  exact this
theorem c_reduceX {p : Nat} {σ : cg_S} {Q : cg_S → Prop} (hn : n ≤ 7) (hp : p < n) (hI : ∀ i j, isI (A i j)) (hZ : Zm n A) (hFT : FT A n) (hO : ORD σ n nA P o oi) (hR : RWS σ n o (hat A) p) (hraw : RAW σ n o A p) (h : ∀ τ, Fr [] [60 + o p] [] σ τ → RWS τ n o (hat A) (p + 1) → Q τ) : M_X1_reduce (i32 p) σ Q :=
  c_reduce hn hp hI hZ (fun k hk => hFT.1 k (by omega)) (hFT.2.1 p hp).1 (hFT.2.1 p hp).2 hO hR hraw.1 hraw.2 h
theorem c_solveAll {σ : cg_S} {Q : cg_S → Prop} (hn0 : 0 < n) (hn : n ≤ 7) (hI : ∀ i j, isI (A i j)) (hZ : Zm n A) (hFT : FT A n) (hO : ORD σ n nA P o oi) (hraw : ∀ i, i < n → RAW σ n o A i) (h : ∀ τ, Fr [] cL [] σ τ → CX τ n A oi → Q τ) : M_X0_solveAll σ Q := by
  refine v_X0_solveAll ?_
  refine up (n := n) (fun k τ => Fr [] cL [] σ τ ∧ RWS τ n o (hat A) k ∧ ∀ i, k ≤ i → i < n → RAW τ n o A i) (fun w τ => L_X0_solveAll_2 w τ Q) ?_ ?_ 0 σ (by omega) ⟨Fr.rf σ, fun i hi => by omega, fun i _ hi => hraw i hi⟩
  · rintro k τ hk ⟨hf, hR, hr⟩ kk
    have hO2 := hO.fr hf (by decide)
    refine v_X0_solveAll_2 ?_
    rw [hO2.1]
    simp (disch := omega) only [n0, n1, n2, n3, n4, n5, n6, n7, n8, n9, n49, n97, n98, n114, n102, n115, n119, n109, n112, i32_add, i32_mul, i32_N, i32_le, i32_lt, i32_eq, vpi_iff]
    refine ⟨fun z => by omega, fun _ => c_reduceX hn hk hI hZ hFT hO2 hR (hr k (Nat.le_refl k) hk) (fun τ' f1 f2 => kk τ' ⟨hf.tr (Fr.cl (by have := (hO.pm.1 k hk).1; omega) f1), f2, fun i h1 h2 => (hr i (by omega) h2).fr f1 ?_⟩)⟩
    have e1 := (hO.pm.1 i h2).2
    have e2 := (hO.pm.1 k hk).2
    have : o i ≠ o k := fun e => by rw [e, e2] at e1; omega
    simp; omega
  · rintro τ ⟨hf, hR, hr⟩
    have hO2 := hO.fr hf (by decide)
    refine v_X0_solveAll_2 ?_
    rw [hO2.1]
    refine ⟨fun _ => c_settleX hn0 hn hI hZ hFT hO2 hR (fun τ' f1 f2 => h τ' (hf.tr (f1.mo (fun _ z => z) (by decide) (fun _ z => z))) f2), fun z => absurd ((i32_le (by omega) (by omega)).mpr (Nat.le_refl _)) z⟩
end SO
/-- the answers at hand, with their bounds -/
def AW (τ : cg_S) (n : Nat) (x : Nat → Rat) : Prop := ∃ (d : Nat) (u : Nat → Nat), 0 < d ∧ d ≤ 612220032 ∧ τ.2.1 4 4 = i64 d ∧ ∀ s, s < n → u s ≤ 162 * d ∧ τ.2.1 58 s = i64 (u s : Nat) ∧ x s = ((u s : Nat) : Rat) / ((d : Nat) : Rat)
theorem AW.an {τ : cg_S} {n : Nat} {x : Nat → Rat} (h : AW τ n x) : AN τ n x := by
  obtain ⟨d, u, h1, h2, h3, h4⟩ := h
  refine ⟨d, by omega, by omega, h3, fun s hs => ?_⟩
  obtain ⟨k1, k2, k3⟩ := h4 s hs
  exact ⟨u s, by omega, k2, k3⟩
theorem AW.fr {σ τ : cg_S} {n : Nat} {x : Nat → Rat} {I L D : List Nat} (h : AW σ n x) (hf : Fr I L D σ τ) (h0 : 4 ∉ L ∧ 58 ∉ L) : AW τ n x := by
  unfold AW
  rw [hf.2.1 4 h0.1, hf.2.1 58 h0.2]
  exact h
theorem AW_of {τ : cg_S} {n : Nat} {A : Nat → Nat → Rat} {o oi : Nat → Nat} (hP : PM n o oi) (hI : ∀ i j, isI (A i j)) (hZ : Zm n A) (hd : gD n (hat A) ≤ 612220032) (h0 : ∀ s, s < n → 0 ≤ pmX n A oi s) (h1 : ∀ s, s < n → pmX n A oi s ≤ 162) (h : CX τ n A oi) : AW τ n (pmX n A oi) := by
  obtain ⟨d1, d2, d3⟩ := hat_D hI hZ (Nat.le_refl n)
  have hdn : ((((gD n (hat A)).num.toNat : Nat) : Int)) = (gD n (hat A)).num := Int.toNat_of_nonneg (by omega)
  have hdr : ((((gD n (hat A)).num.toNat : Nat)) : Rat) = gD n (hat A) := by rw [← Rat.intCast_natCast, hdn, d2]
  refine ⟨(gD n (hat A)).num.toNat, fun s => (gB n (hat A) (oi s) 7).num.toNat, by omega, ?_, by rw [hdn]; exact h.1, fun s hs => ?_⟩
  · have : ((((gD n (hat A)).num.toNat : Nat)) : Rat) ≤ ((612220032 : Nat) : Rat) := by rw [hdr]; exact hd
    exact Rat.natCast_le_natCast.mp this
  · have x0 := h0 s hs
    have x1 := h1 s hs
    have iB := fit_iB (isI_hat hI) (hat_Zm hZ) (Nat.le_refl n) (hat_piv hZ) (Nat.le_refl n) (oi s) 7
    have q1 : gB n (hat A) (oi s) 7 = gD n (hat A) * pmX n A oi s := by unfold pmX; grind
    have hz : 0 ≤ (gB n (hat A) (oi s) 7).num := Rat.num_nonneg.mpr (by rw [q1]; exact Rat.mul_nonneg (Rat.le_of_lt d1) x0)
    have hun : ((((gB n (hat A) (oi s) 7).num.toNat : Nat) : Int)) = (gB n (hat A) (oi s) 7).num := Int.toNat_of_nonneg hz
    have hur : ((((gB n (hat A) (oi s) 7).num.toNat : Nat)) : Rat) = gB n (hat A) (oi s) 7 := by rw [← Rat.intCast_natCast, hun, iB]
    refine ⟨?_, by rw [hun]; exact h.2 s hs, ?_⟩
    · have : ((((gB n (hat A) (oi s) 7).num.toNat : Nat)) : Rat) ≤ ((162 * (gD n (hat A)).num.toNat : Nat) : Rat) := by
        rw [hur, Rat.natCast_mul, hdr, q1]
        have e : ((162 : Nat) : Rat) = 162 := rfl
        rw [e]
        have := Rat.mul_nonneg (Rat.le_of_lt d1) (b := 162 - pmX n A oi s) (by grind)
        grind
      exact Rat.natCast_le_natCast.mp this
    · rw [hur, hdr]; rfl
/-- the class's system for an aim -/
def clP (o : Nat → Nat) (G : Gm) (p : Nat → Nat) (aim : Nat) : Nat → Nat → Rat := if aim = 114 then rchP o G p (fun s => decide (G 8 s ≠ 0)) else costP o G p aim
section EV
variable {G : Gm} {p : Nat → Nat} {o oi : Nat → Nat} {aim : Nat}
theorem clP_int (i j : Nat) : isI (clP o G p aim i j) := by
  unfold clP
  split
  · exact pmA_int sysA_int i j
  · exact pmA_int sysA_int i j
theorem clP_Zm (hW : GW G) (hp : ∀ s, s < 7 → p s ≤ 2) (hP : PM (G 0 0) o oi) : Zm (G 0 0) (clP o G p aim) := by
  unfold clP
  split
  · exact pm_Zm hW hp hP (Nat.le_refl 1)
  · exact pm_Zm hW hp hP (Nat.le_of_lt hW.2.2.2.1.1)
theorem clP_sol (hW : GW G) (hw : whole G) (hpk : pkOk G p) (hp : ∀ s, s < 7 → p s ≤ 2) (hP : PM (G 0 0) o oi) : gX G aim (mv p) (pmX (G 0 0) (clP o G p aim) oi) ∧ FT (clP o G p aim) (G 0 0) ∧ gD (G 0 0) (hat (clP o G p aim)) ≤ 612220032 := by
  unfold clP
  by_cases c : aim = 114
  · rw [if_pos c]
    obtain ⟨h1, h2⟩ := pm_reach (N := fun s => decide (G 8 s ≠ 0)) (T := TG G) hW hw hpk hp hP (fun s _ => decide_eq_true_iff)
    refine ⟨?_, h2⟩
    unfold gX
    rw [if_pos c]
    exact h1
  · rw [if_neg c]
    exact pm_cost hW hw hpk hp hP c
theorem clP_AW {τ : cg_S} (hW : GW G) (hw : whole G) (hpk : pkOk G p) (hp : ∀ s, s < 7 → p s ≤ 2) (hP : PM (G 0 0) o oi) (h : CX τ (G 0 0) (clP o G p aim) oi) : AW τ (G 0 0) (pmX (G 0 0) (clP o G p aim) oi) := by
  obtain ⟨h1, h2, h3⟩ := clP_sol (aim := aim) hW hw hpk hp hP
  exact AW_of hP clP_int (clP_Zm hW hp hP) h3 (gX_nonneg hW hw (mv_pk hpk) h1) (gX_le hW hw hpk hp h1) h
theorem c_evalFrom {nA pk from' ch : Nat} {σ : cg_S} {Q : cg_S → Prop} (hC : CG σ G ch) (hW : GW G) (hw : whole G) (hpk : pkOk G p) (hp : ∀ s, s < 7 → p s ≤ 2) (ha : okA aim) (hk : pk = 19 ∨ pk = 29 ∨ pk = 30) (hpc : ∀ s, s < G 0 0 → σ.1 pk s = i32 (p s)) (hO : ORD σ (G 0 0) nA (gA G) o oi) (hfr : from' ≤ G 0 0) (hR : RWS σ (G 0 0) o (hat (clP o G p aim)) from') (h : ∀ τ x, Fr [] cL [] σ τ → RWS τ (G 0 0) o (hat (clP o G p aim)) (G 0 0) → gX G aim (mv p) x → AW τ (G 0 0) x → Q τ) : M_X0_evaluateFrom (i32 aim) pk (i32 from') σ Q := by
  have hn := hW.1
  have hP := hO.pm
  obtain ⟨hX, hFT, hD⟩ := clP_sol (aim := aim) hW hw hpk hp hP
  have hZ := clP_Zm (aim := aim) hW hp hP
  refine v_X0_evaluateFrom hk ?_
  refine up (n := G 0 0) (fun k τ => Fr [] cL [] σ τ ∧ RWS τ (G 0 0) o (hat (clP o G p aim)) k) (fun w τ => L_X0_evaluateFrom_3 (i32 aim) pk w τ Q) ?_ ?_ from' σ hfr ⟨Fr.rf σ, hR⟩
  · rintro k τ hk7 ⟨hf, hR2⟩ kk
    have hO2 := hO.fr hf (by decide)
    have hC2 := hC.fr hf (by decide)
    obtain ⟨q1, q2, q3, q4⟩ := hO2.2.2.2.1 k hk7
    have hm : 3 * o k + p (o k) < 21 := mv_lt (show o k < 7 by omega) (hp _ (by omega))
    have hmv : mv p (o k) = 3 * o k + p (o k) := rfl
    have ha2 := okA_lt ha
    -- behind the row
    have nxt : ∀ υ, Fr [] [60 + o k] [] τ υ → RAW υ (G 0 0) o (clP o G p aim) k → L_X0_evaluateFrom_71 (i32 aim) pk (i32 k) υ Q := fun υ f1 hraw => by
      have hR3 : RWS υ (G 0 0) o (hat (clP o G p aim)) k := fun i hi => by
        have e1 := (hP.1 i (by omega)).2
        have : o i ≠ o k := fun e => by rw [e, q3] at e1; omega
        rw [f1.2.1 (60 + o i) (by simp; omega)]
        exact hR2 i hi
      refine v_X0_evaluateFrom_71 hk (c_reduceX hn hk7 clP_int hZ hFT (hO2.fr f1 (by decide)) hR3 hraw (fun τ' f2 f3 => ?_))
      rw [i32_s]
      exact kk τ' ⟨hf.tr ((Fr.cl (by omega) f1).tr (Fr.cl (by omega) f2)), f3⟩
    refine v_X0_evaluateFrom_3 hk ?_
    rw [hO2.1]
    simp (disch := omega) only [n0, n1, n2, n3, n4, n5, n6, n7, n8, n9, n49, n97, n98, n114, n102, n115, n119, n109, n112, i32_add, i32_mul, i32_N, i32_le, i32_lt, i32_eq, vpi_iff]
    refine ⟨fun z => by omega, fun _ => ⟨by omega, ?_⟩⟩
    rintro _ rfl
    rw [q1]
    simp (disch := omega) only [n0, n1, n2, n3, n4, n5, n6, n7, n8, n9, n49, n97, n98, n114, n102, n115, n119, n109, n112, i32_add, i32_mul, i32_N, i32_le, i32_lt, i32_eq, vpi_iff]
    rw [hf.1 pk (by simp), hpc (o k) q2]
    refine ⟨by omega, c_moveOf ⟨fun z => ?_, fun z => ?_⟩⟩
    · refine c_costEq (p := p) hC2 hW q2 hm hmv (by unfold okA at ha; omega) (fun υ f1 f2 f3 => nxt υ f1 ?_)
      unfold clP
      rw [if_neg z]
      exact raw_of hn hP hk7 f2 f3
    · refine c_reachEq (p := p) (N := fun s => decide (G 8 s ≠ 0)) hC2 hW q2 hm hmv hC2.1.2.1 decide_eq_true_iff (fun υ f1 f2 f3 => nxt υ f1 ?_)
      unfold clP
      rw [if_pos z]
      exact raw_of hn hP hk7 f2 f3
  · rintro τ ⟨hf, hR2⟩
    have hO2 := hO.fr hf (by decide)
    refine v_X0_evaluateFrom_3 hk ?_
    rw [hO2.1]
    refine ⟨fun _ => c_settleX hw.1 hn clP_int hZ hFT hO2 hR2 (fun τ' f1 f2 => ?_), fun z => absurd ((i32_le (by omega) (by omega)).mpr (Nat.le_refl _)) z⟩
    refine h τ' _ (hf.tr (f1.mo (fun _ z => z) (by decide) (fun _ z => z))) (fun i hi => ?_) hX (clP_AW hW hw hpk hp hP f2)
    have := hR2 i hi
    have ho := (hP.1 i hi).1
    rw [f1.2.1 (60 + o i) (by simp; omega)]
    exact this
theorem c_evaluate {pk ch : Nat} {σ : cg_S} {Q : cg_S → Prop} (hC : CG σ G ch) (hW : GW G) (hw : whole G) (hpk : pkOk G p) (hp : ∀ s, s < 7 → p s ≤ 2) (ha : okA aim) (hk : pk = 19 ∨ pk = 29 ∨ pk = 30) (hpc : ∀ s, s < G 0 0 → σ.1 pk s = i32 (p s)) (h : ∀ τ x, Fr [3, 4, 27] cL [] σ τ → gX G aim (mv p) x → AW τ (G 0 0) x → Q τ) : M_X0_evaluate (i32 aim) pk σ Q := by
  refine v_X0_evaluate hk (c_arrange hC hW (fun τ o oi nA f1 hO => ?_))
  refine c_evalFrom (from' := 0) (hC.fr f1 (by decide)) hW hw hpk hp ha hk (fun s hs => by rw [f1.1 pk (by simp; omega)]; exact hpc s hs) hO (Nat.zero_le _) (fun i hi => by omega) (fun τ' x f2 _ h1 h2 => ?_)
  exact h τ' x ((f1.mo (fun _ z => z) (by simp) (fun _ z => z)).tr (f2.mo (by simp) (fun _ z => z) (fun _ z => z))) h1 h2
/-- the chances to reach a set -/
theorem c_evalReach {pk ch : Nat} {w : Int32} {T : Nat → Prop} {σ : cg_S} {Q : cg_S → Prop} (hC : CG σ G ch) (hW : GW G) (hw : whole G) (hpk : pkOk G p) (hp : ∀ s, s < 7 → p s ≤ 2) (hk : pk = 19 ∨ pk = 29 ∨ pk = 30) (hpc : ∀ s, s < G 0 0 → σ.1 pk s = i32 (p s)) (hT : mk w T) (h : ∀ τ x, Fr [3, 4, 27] cL [] σ τ → SolR (G 0 0) (wtR G) (mv p) T x → AW τ (G 0 0) x → Q τ) : M_X0_evaluateReach w pk σ Q := by
  classical
  have hn := hW.1
  refine v_X0_evaluateReach hk (c_arrange hC hW (fun τ o oi nA f0 hO => ?_))
  have hC1 := hC.fr f0 (by decide)
  have hP := hO.pm
  obtain ⟨hX, hFT, hD⟩ := pm_reach (N := fun s => decide (T s)) (T := T) hW hw hpk hp hP (fun s _ => decide_eq_true_iff)
  have hok := pk_c hW hw hpk
  refine up (n := G 0 0) (fun k υ => Fr [] cL [] τ υ ∧ ∀ i, i < G 0 0 → o i < k → RAW υ (G 0 0) o (rchP o G p (fun s => decide (T s))) i) (fun v υ => L_X0_evaluateReach_6 w pk v υ Q) ?_ ?_ 0 τ (by omega) ⟨Fr.rf τ, fun i _ hi => by omega⟩
  · rintro k υ hk7 ⟨hf, hr⟩ kk
    have hC2 := hC1.fr hf (by decide)
    have hm : 3 * k + p k < 21 := mv_lt (show k < 7 by omega) (hp _ (by omega))
    refine v_X0_evaluateReach_6 hk ?_
    rw [hC2.1.1]
    simp (disch := omega) only [n0, n1, n2, n3, n4, n5, n6, n7, n8, n9, n49, n97, n98, n114, n102, n115, n119, n109, n112, i32_add, i32_mul, i32_N, i32_le, i32_lt, i32_eq, vpi_iff]
    rw [hf.1 pk (by simp), f0.1 pk (by simp; omega), hpc k hk7]
    refine ⟨fun z => by omega, fun _ => ⟨by omega, c_moveOf ?_⟩⟩
    refine c_reachEq (p := p) (N := fun s => decide (T s)) hC2 hW hk7 hm rfl hT decide_eq_true_iff (fun ω f1 f2 f3 => kk ω ⟨hf.tr (Fr.cl (by omega) f1), fun i hi hik => ?_⟩)
    by_cases c : o i = k
    · subst c
      exact raw_of hn hP hi f2 f3
    · exact (hr i hi (by omega)).fr f1 (by simp; omega)
  · rintro υ ⟨hf, hr⟩
    have hC2 := hC1.fr hf (by decide)
    refine v_X0_evaluateReach_6 hk ?_
    rw [hC2.1.1]
    refine ⟨fun _ => ?_, fun z => absurd ((i32_le (by omega) (by omega)).mpr (Nat.le_refl _)) z⟩
    refine c_solveAll hw.1 hn (pmA_int sysA_int) (pm_Zm hW hp hP (Nat.le_refl 1)) hFT (hO.fr hf (by decide)) (fun i hi => hr i hi (hP.1 i hi).1) (fun τ' f1 f2 => ?_)
    refine h τ' _ ((f0.mo (fun _ z => z) (by simp) (fun _ z => z)).tr ((hf.tr f1).mo (by simp) (fun _ z => z) (fun _ z => z))) hX (AW_of hP (pmA_int sysA_int) (pm_Zm hW hp hP (Nat.le_refl 1)) hD (solR_nonneg hok hX) (fun s hs => Rat.le_trans (solR_le_one hok hX s hs) (by decide)) f2)
end EV
