/-! RANKS: both sides give a state the round in which it is drawn -/
section RKP
variable {G : Gm} {x : Nat → Rat} {rk rk' : Nat → Nat}
/-- a good choice of 'a', or each good one of 'b', can lead into E -/
def drC (G : Gm) (x : Nat → Rat) (s : Nat) (E : Nat → Prop) : Prop := (gA G s ∧ ∃ c, c < G 3 s ∧ gdG G 114 x s (3 * s + c) ∧ ∃ t, t < G 0 0 ∧ G 7 (7 * (3 * s + c) + t) ≠ 0 ∧ E t) ∨ (¬ gA G s ∧ ∀ c, c < G 3 s → gdG G 114 x s (3 * s + c) → ∃ t, t < G 0 0 ∧ G 7 (7 * (3 * s + c) + t) ≠ 0 ∧ E t)
def rkN (G : Gm) (x : Nat → Rat) (k : Nat) (rk rk' : Nat → Nat) : Prop := ∀ s, s < G 0 0 → (rk s ≠ 0 → rk' s = rk s) ∧ (rk s = 0 → 0 < x s → drC G x s (fun t => rk t ≠ 0) → rk' s = k + 2) ∧ (rk s = 0 → ¬ (0 < x s ∧ drC G x s (fun t => rk t ≠ 0)) → rk' s = 0)
def RKS (G : Gm) (x : Nat → Rat) : Nat → (Nat → Nat) → Prop
  | 0, rk => ∀ s, s < G 0 0 → rk s = if G 8 s ≠ 0 then 1 else 0
  | k + 1, rk => ∃ rk0, RKS G x k rk0 ∧ rkN G x k rk0 rk
theorem drC_congr {E F : Nat → Prop} {y : Nat → Rat} {s : Nat} (hs : s < G 0 0) (h : ∀ t, t < G 0 0 → (E t ↔ F t)) (hxy : ∀ t, t < G 0 0 → x t = y t) : drC G x s E ↔ drC G y s F := by
  have h1 : ∀ m, gdG G 114 x s m ↔ gdG G 114 y s m := fun m => by
    unfold gdG ahR tgR
    rw [c_ex_congr (x := x) (y := y) hxy, hxy s hs]
  have h2 : ∀ m, (∃ t, t < G 0 0 ∧ G 7 (7 * m + t) ≠ 0 ∧ E t) ↔ (∃ t, t < G 0 0 ∧ G 7 (7 * m + t) ≠ 0 ∧ F t) := fun m => ⟨fun ⟨t, a, b, c⟩ => ⟨t, a, b, (h t a).mp c⟩, fun ⟨t, a, b, c⟩ => ⟨t, a, b, (h t a).mpr c⟩⟩
  unfold drC
  simp only [h1, h2]
theorem rkN_det {f f' : Nat → Nat} {y : Nat → Rat} {k : Nat} (hxy : ∀ t, t < G 0 0 → x t = y t) (h0 : ∀ s, s < G 0 0 → rk s = f s) (h1 : rkN G x k rk rk') (h2 : rkN G y k f f') : ∀ s, s < G 0 0 → rk' s = f' s := fun s hs => by
  obtain ⟨a1, a2, a3⟩ := h1 s hs
  obtain ⟨b1, b2, b3⟩ := h2 s hs
  have e := h0 s hs
  by_cases c : rk s = 0
  · have hd := drC_congr (x := x) (y := y) (s := s) (E := fun t => rk t ≠ 0) (F := fun t => f t ≠ 0) hs (fun t ht => by rw [h0 t ht]) hxy
    by_cases c2 : 0 < x s ∧ drC G x s (fun t => rk t ≠ 0)
    · rw [a2 c c2.1 c2.2, b2 (by omega) (by rw [← hxy s hs]; exact c2.1) (hd.mp c2.2)]
    · rw [a3 c c2, b3 (by omega) (fun z => c2 ⟨by rw [hxy s hs]; exact z.1, hd.mpr z.2⟩)]
  · rw [a1 c, b1 (by omega), e]
theorem RKS_uniq {y : Nat → Rat} (hxy : ∀ t, t < G 0 0 → x t = y t) : ∀ k {rk f : Nat → Nat}, RKS G x k rk → RKS G y k f → ∀ s, s < G 0 0 → rk s = f s := by
  intro k
  induction k with
  | zero => intro rk f h1 h2 s hs; rw [h1 s hs, h2 s hs]
  | succ k ih =>
    rintro rk f ⟨r0, h1, h2⟩ ⟨f0, h3, h4⟩
    exact rkN_det hxy (ih h1 h3) h2 h4
theorem RKS_le : ∀ k {rk : Nat → Nat}, RKS G x k rk → ∀ s, s < G 0 0 → rk s ≤ k + 1 := by
  intro k
  induction k with
  | zero => intro rk h s hs; rw [h s hs]; split <;> omega
  | succ k ih =>
    rintro rk ⟨r0, h1, h2⟩ s hs
    have e := ih h1 s hs
    obtain ⟨a1, a2, a3⟩ := h2 s hs
    by_cases c : r0 s = 0
    · by_cases c2 : 0 < x s ∧ drC G x s (fun t => r0 t ≠ 0)
      · rw [a2 c c2.1 c2.2]; omega
      · rw [a3 c c2]; omega
    · rw [a1 c]; omega
theorem RKS_stab : ∀ k {rk : Nat → Nat}, RKS G x k rk → (∀ s, s < G 0 0 → rk s = 0 → ¬ (0 < x s ∧ drC G x s (fun t => rk t ≠ 0))) ∨ k ≤ cntS (fun s => rk s ≠ 0) (G 0 0) := by
  intro k
  induction k with
  | zero => intro rk _; exact Or.inr (Nat.zero_le _)
  | succ k ih =>
    rintro rk ⟨r0, h1, h2⟩
    by_cases hst : ∀ s, s < G 0 0 → r0 s = 0 → ¬ (0 < x s ∧ drC G x s (fun t => r0 t ≠ 0))
    · left
      have e : ∀ s, s < G 0 0 → rk s = r0 s := fun s hs => by
        obtain ⟨a1, a2, a3⟩ := h2 s hs
        by_cases c : r0 s = 0
        · rw [a3 c (hst s hs c), c]
        · exact a1 c
      intro s hs hz hd
      refine hst s hs (by rw [← e s hs]; exact hz) ⟨hd.1, (drC_congr hs (fun t ht => by rw [e t ht]) (fun _ _ => rfl)).mp hd.2⟩
    · obtain ⟨s, hs, hz, hd⟩ : ∃ s, s < G 0 0 ∧ r0 s = 0 ∧ (0 < x s ∧ drC G x s (fun t => r0 t ≠ 0)) := Classical.byContradiction fun hno => hst (fun s hs hz hd => hno ⟨s, hs, hz, hd⟩)
      have h3 := cntS_lt (E := fun s => r0 s ≠ 0) (F := fun s => rk s ≠ 0) (n := G 0 0) (s := s) (fun t ht y => by
        show rk t ≠ 0
        rw [(h2 t ht).1 y]; exact y) hs (fun y => y hz) (by
        show rk s ≠ 0
        rw [(h2 s hs).2.1 hz hd.1 hd.2]; omega)
      rcases ih h1 with z | z
      · exact absurd hd (z s hs hz)
      · right; omega
theorem RKS_more : ∀ d {rk f : Nat → Nat}, RKS G x (G 0 0) rk → RKS G x (G 0 0 + d) f → ∀ s, s < G 0 0 → rk s = f s := by
  intro d
  induction d with
  | zero => intro rk f h1 h2; exact RKS_uniq (fun _ _ => rfl) _ h1 h2
  | succ d ih =>
    rintro rk f h1 ⟨f0, h3, h4⟩ s hs
    have e := ih h1 h3
    have hst : ∀ s, s < G 0 0 → rk s = 0 → ¬ (0 < x s ∧ drC G x s (fun t => rk t ≠ 0)) := by
      rcases RKS_stab _ h1 with z | z
      · exact z
      · intro s hs hz; exact absurd hz (cntS_full z s hs)
    obtain ⟨a1, a2, a3⟩ := h4 s hs
    by_cases c : rk s = 0
    · rw [c]
      refine (a3 (by rw [← e s hs]; exact c) (fun z => hst s hs c ⟨z.1, (drC_congr hs (fun t ht => by rw [e t ht]) (fun _ _ => rfl)).mpr z.2⟩)).symm
    · rw [a1 (by rw [← e s hs]; exact c), e s hs]
theorem RKS_7 {y : Nat → Rat} {f : Nat → Nat} (hW : GW G) (hxy : ∀ t, t < G 0 0 → x t = y t) (h1 : RKS G x (G 0 0) rk) (h2 : RKS G y 7 f) : ∀ s, s < G 0 0 → rk s = f s := by
  have hn := hW.1
  have ex : ∀ k, ∃ r, RKS G x k r := by
    intro k
    induction k with
    | zero => exact ⟨fun s => if G 8 s ≠ 0 then 1 else 0, fun s _ => rfl⟩
    | succ k ih =>
      obtain ⟨r, hr⟩ := ih
      classical
      refine ⟨fun s => if r s ≠ 0 then r s else if 0 < x s ∧ drC G x s (fun t => r t ≠ 0) then k + 2 else 0, r, hr, fun s _ => ⟨fun z => by dsimp only; rw [if_pos z], fun z z1 z2 => by dsimp only; rw [if_neg (by omega), if_pos ⟨z1, z2⟩], fun z z1 => by dsimp only; rw [if_neg (by omega), if_neg z1]⟩⟩
  obtain ⟨r, hr⟩ := ex 7
  intro s hs
  have e1 := RKS_more (7 - G 0 0) h1 (f := r) (by rw [show G 0 0 + (7 - G 0 0) = 7 by omega]; exact hr) s hs
  rw [e1]
  exact RKS_uniq hxy 7 hr h2 s hs
end RKP
/-- a rank in a cell -/
def rkv (r : Nat) : Int32 := if r = 0 then -1 else i32 (r - 1)
def RKc (τ : cg_S) (k n : Nat) (rk : Nat → Nat) : Prop := ∀ s, s < n → τ.1 k s = rkv (rk s)
theorem rkv_s (r : Nat) : rkv (r + 1) = i32 r := by unfold rkv; rw [if_neg (by omega)]; rfl
theorem rkv_0 : rkv 0 = -1 := rfl
theorem rkv_f : ∀ a b : Fin 12, ((0 : Int32) ≤ rkv a.val ↔ a.val ≠ 0) ∧ (rkv a.val < 0 ↔ a.val = 0) ∧ (rkv a.val ≤ rkv b.val ↔ a.val ≤ b.val) ∧ (rkv a.val = -1 ↔ a.val = 0) := by decide
theorem rkv_1 {a : Nat} (h : a < 12) : ((0 : Int32) ≤ rkv a ↔ a ≠ 0) ∧ (rkv a < 0 ↔ a = 0) ∧ (rkv a = -1 ↔ a = 0) := ⟨(rkv_f ⟨a, h⟩ ⟨a, h⟩).1, (rkv_f ⟨a, h⟩ ⟨a, h⟩).2.1, (rkv_f ⟨a, h⟩ ⟨a, h⟩).2.2.2⟩
theorem rkv_le {a b : Nat} (ha : a < 12) (hb : b < 12) : rkv a ≤ rkv b ↔ a ≤ b := (rkv_f ⟨a, ha⟩ ⟨b, hb⟩).2.2.1
section RKL
variable {σ : cg_S} {G : Gm} {ch d : Nat} {x : Nat → Rat} {u : Nat → Nat}
theorem RKc.fr {τ : cg_S} {k n : Nat} {rk : Nat → Nat} {I L D : List Nat} (h : RKc σ k n rk) (hf : Fr I L D σ τ) (h0 : k ∉ I) : RKc τ k n rk := fun s hs => by rw [hf.1 k h0]; exact h s hs
theorem lead_bits {w : Int32} {E : Nat → Prop} {m : Nat} (hC : CG σ G ch) (hW : GW G) (hm : m < 21) (hE : mk w E) : ((σ.1 25 m &&& w) = 0 ↔ ¬ ∃ t, t < G 0 0 ∧ G 7 (7 * m + t) ≠ 0 ∧ E t) := by
  have hn := hW.1
  rw [mk_zero (mk_and (hC.2.2 m hm).2.2.2.1 hE)]
  exact ⟨fun h ⟨t, ht, a, b⟩ => h t (by omega) ⟨a, b⟩, fun h t ht y => h ⟨t, lead_n hW hm ht y.1, y.1, y.2⟩⟩
theorem c_rDrawn {s : Nat} {w : Int32} {E : Nat → Prop} {Q : Int32 → cg_S → Prop} (hC : CG σ G ch) (hW : GW G) (hU : AU σ (G 0 0) x d u) (hs : s < G 0 0) (hE : mk w E) (hy : drC G x s E → Q 1 σ) (hno : ¬ drC G x s E → Q 0 σ) : M_X8_isDrawn (i32 s) w σ Q := by
  have hn := hW.1
  have g1 := (hW.2.1 s (by omega)).1
  have g3 := (hW.2.1 s (by omega)).2.2.1
  refine v_X8_isDrawn ?_
  simp (disch := omega) only [n0, n1, n2, n3, n4, n5, n6, n7, n8, n9, n49, n97, n98, n114, n102, n115, n119, n109, n112, i32_add, i32_mul, i32_N, i32_le, i32_lt, i32_eq, vpi_iff]
  refine ⟨by omega, ?_⟩
  rw [(hC.2.1 s (by omega)).1]
  rintro _ rfl
  refine up (n := G 3 s) (fun c τ => τ = σ ∧ ∀ e, e < c → gdG G 114 x s (3 * s + e) → ((∃ t, t < G 0 0 ∧ G 7 (7 * (3 * s + e) + t) ≠ 0 ∧ E t) ↔ G 1 s = 0)) (fun v τ => L_X8_isDrawn_13 (i32 s) w (i32 (G 1 s)) v τ Q) ?_ ?_ 0 σ (by omega) ⟨rfl, fun e he => by omega⟩
  · rintro c τ hc ⟨rfl, hP⟩ kk
    have hm : 3 * s + c < 21 := by omega
    have hb := lead_bits hC hW hm hE
    have one : ∀ k : Nat, k ≤ 1 → gdG G 114 x s (3 * s + c) → (k = 1 ↔ ∃ t, t < G 0 0 ∧ G 7 (7 * (3 * s + c) + t) ≠ 0 ∧ E t) → L_X8_isDrawn_70 (i32 s) w (i32 (G 1 s)) (i32 c) (i32 k) τ Q := fun k hk hgd hkc => by
      refine v_X8_isDrawn_70 ?_
      simp (disch := omega) only [n0, n1, n2, n3, n4, n5, n6, n7, n8, n9, n49, n97, n98, n114, n102, n115, n119, n109, n112, i32_add, i32_mul, i32_N, i32_le, i32_lt, i32_eq, vpi_iff]
      refine ⟨fun z => kk τ ⟨rfl, fun e he hge => ?_⟩, fun z => ⟨by omega, ?_⟩⟩
      · by_cases e2 : e = c
        · rw [e2, ← hkc]; omega
        · exact hP e (by omega) hge
      · by_cases hA : G 1 s = 1
        · rw [hA]
          exact hy (Or.inl ⟨hA, c, hc, hgd, hkc.mp (by omega)⟩)
        · have h0 : G 1 s = 0 := by omega
          rw [h0]
          refine hno (fun y => ?_)
          rcases y with ⟨y, -⟩ | ⟨-, y⟩
          · exact hA y
          · have := hkc.mpr (y c hc hgd); omega
    refine v_X8_isDrawn_13 ?_
    simp (disch := omega) only [n0, n1, n2, n3, n4, n5, n6, n7, n8, n9, n49, n97, n98, n114, n102, n115, n119, n109, n112, i32_add, i32_mul, i32_N, i32_le, i32_lt, i32_eq, vpi_iff]
    rw [(hC.2.1 s (by omega)).2.2.1]
    simp (disch := omega) only [n0, n1, n2, n3, n4, n5, n6, n7, n8, n9, n49, n97, n98, n114, n102, n115, n119, n109, n112, i32_add, i32_mul, i32_N, i32_le, i32_lt, i32_eq, vpi_iff]
    refine ⟨by omega, fun z => by omega, fun _ => c_moveOf ?_⟩
    refine c_isGood (aim := 114) hC hW (Or.inl rfl) hU hs hc (fun hgd => ⟨fun z => absurd z (by decide), fun _ => ⟨vpi hm (by omega), ?_⟩⟩) (fun hgd => ⟨fun _ => kk τ ⟨rfl, fun e he hge => ?_⟩, fun z => absurd rfl z⟩)
    · rw [i32_N (by omega)]
      have z0 : i32 0 = 0 := rfl
      rw [z0, hb]
      exact ⟨fun z => one 0 (by omega) hgd ⟨fun y => by omega, fun y => absurd y z⟩, fun z => one 1 (by omega) hgd ⟨fun _ => Classical.byContradiction z, fun _ => rfl⟩⟩
    · by_cases e2 : e = c
      · rw [e2] at hge; exact absurd hge hgd
      · exact hP e (by omega) hge
  · rintro τ ⟨rfl, hP⟩
    refine v_X8_isDrawn_13 ?_
    simp (disch := omega) only [n0, n1, n2, n3, n4, n5, n6, n7, n8, n9, n49, n97, n98, n114, n102, n115, n119, n109, n112, i32_add, i32_mul, i32_N, i32_le, i32_lt, i32_eq, vpi_iff]
    rw [(hC.2.1 s (by omega)).2.2.1]
    refine ⟨by omega, fun _ => ⟨fun z => hno (fun y => ?_), fun z => hy (Or.inr ⟨fun y => ?_, fun c hc hgd => (hP c hc hgd).mpr (by omega)⟩)⟩, fun z => absurd ((i32_le (by omega) (by omega)).mpr (Nat.le_refl _)) z⟩
    · rcases y with ⟨-, c, hc, hgd, y⟩ | ⟨y, -⟩
      · have := (hP c hc hgd).mp y; omega
      · exact y (show G 1 s = 1 by omega)
    · have : G 1 s = 1 := y
      omega
theorem AU_pos (hU : AU σ (G 0 0) x d u) {s : Nat} (hs : s < G 0 0) : (0 < x s ↔ u s ≠ 0) := by
  obtain ⟨h1, h2, h3, h4⟩ := hU
  rw [(h4 s hs).2.2]
  have hd : (0 : Rat) < ((d : Nat) : Rat) := Rat.natCast_pos.mpr h1
  constructor
  · intro h e
    rw [e] at h
    have : ((0 : Nat) : Rat) / ((d : Nat) : Rat) = 0 := by
      have : ((0 : Nat) : Rat) = 0 := rfl
      rw [this]; grind
    rw [this] at h
    exact absurd h Rat.lt_irrefl
  · intro h
    have hu : (0 : Rat) < ((u s : Nat) : Rat) := Rat.natCast_pos.mpr (by omega)
    rw [Rat.div_def]
    exact Rat.mul_pos hu (Rat.inv_pos.mpr hd)
theorem c_isNought {s : Nat} {Q : Int32 → cg_S → Prop} (hW : GW G) (hU : AU σ (G 0 0) x d u) (hs : s < G 0 0) (hy : 0 < x s → Q 0 σ) (hno : ¬ 0 < x s → Q 1 σ) : M_X0_isNought (i32 s) σ Q := by
  have hn := hW.1
  have hp := AU_pos hU hs
  obtain ⟨w1, w2, w3⟩ := hU.2.2.2 s hs
  have := hU.2.1
  refine v_X0_isNought ?_
  simp (disch := omega) only [n0, n1, n2, n3, n4, n5, n6, n7, n8, n9, n49, n97, n98, n114, n102, n115, n119, n109, n112, i32_add, i32_mul, i32_N, i32_le, i32_lt, i32_eq, vpi_iff]
  rw [w2, l0, i64_eq (by omega) (by omega)]
  exact ⟨by omega, fun z => hy (hp.mpr (by omega)), fun z => hno (fun y => hp.mp y (by omega))⟩
/-- the states that have a rank, as the word holds them -/
def erG (G : Gm) (rk : Nat → Nat) (t : Nat) : Prop := (t < G 0 0 → rk t ≠ 0) ∧ (G 0 0 ≤ t → G 8 t ≠ 0)
theorem erG_iff {G : Gm} {rk : Nat → Nat} {t : Nat} (h : t < G 0 0) : erG G rk t ↔ rk t ≠ 0 := ⟨fun z => z.1 h, fun z => ⟨fun _ => z, fun y => by omega⟩⟩
theorem c_rankStates {Q : cg_S → Prop} (hC : CG σ G ch) (hW : GW G) (hU : AU σ (G 0 0) x d u) (h : ∀ τ rk, Fr [32] [] [] σ τ → RKc τ 32 (G 0 0) rk → RKS G x (G 0 0) rk → Q τ) : M_X8_rankStates σ Q := by
  have hn := hW.1
  refine v_X8_rankStates ?_
  refine up (n := G 0 0) (fun k τ => Fr [32] [] [] σ τ ∧ RKc τ 32 k (fun s => if G 8 s ≠ 0 then 1 else 0)) (fun w τ => L_X8_rankStates_2 w τ Q) ?_ ?_ 0 σ (by omega) ⟨Fr.rf σ, fun s hs => by omega⟩
  · rintro k τ hk ⟨hf, hP⟩ kk
    have hC2 := hC.fr hf (by decide)
    have nxt : ∀ v : Int32, v = rkv (if G 8 k ≠ 0 then 1 else 0) → L_X8_rankStates_2 (i32 (k + 1)) (cg_i τ 32 k v) Q := by
      rintro _ rfl
      refine kk _ ⟨hf.tr (Fr.i (by decide)), fun s hs => ?_⟩
      rw [ri, if_pos rfl]
      by_cases c : s = k
      · rw [if_pos c, c]
      · rw [if_neg c]; exact hP s (by omega)
    refine v_X8_rankStates_2 ?_
    rw [hC2.1.1]
    simp (disch := omega) only [n0, n1, n2, n3, n4, n5, n6, n7, n8, n9, n49, n97, n98, n114, n102, n115, n119, n109, n112, i32_add, i32_mul, i32_N, i32_le, i32_lt, i32_eq, vpi_iff]
    refine ⟨fun z => by omega, fun _ => c_isT hC2 (by omega) (fun hT => ⟨fun y => absurd y (by decide), fun _ => ⟨by omega, ?_⟩⟩) (fun hT => ⟨fun _ => ⟨by omega, ?_⟩, fun y => absurd rfl y⟩)⟩
    · rintro _ rfl
      exact nxt _ (by rw [if_pos (c := G 8 k ≠ 0) hT]; rfl)
    · rintro _ rfl
      exact nxt _ (by rw [if_neg (c := G 8 k ≠ 0) hT]; rfl)
  · rintro τ ⟨hf, hP⟩
    have hC2 := hC.fr hf (by decide)
    refine v_X8_rankStates_2 ?_
    rw [hC2.1.1]
    refine ⟨fun _ => ?_, fun z => absurd ((i32_le (by omega) (by omega)).mpr (Nat.le_refl _)) z⟩
    rintro _ rfl
    -- the rounds
    have key : ∀ r k, k + r = G 0 0 → ∀ υ (w : Int32) rk, Fr [32] [] [] σ υ → RKc υ 32 (G 0 0) rk → RKS G x k rk → mk w (erG G rk) → L_X8_rankStates_51 w (i32 (k + 1)) υ Q := by
      intro r
      induction r with
      | zero =>
        intro k hk υ w rk hf2 h1 h2 h3
        have : k = G 0 0 := by omega
        subst this
        have hC3 := hC.fr hf2 (by decide)
        refine v_X8_rankStates_51 ?_
        rw [hC3.1.1]
        exact ⟨fun _ => h υ rk hf2 h1 h2, fun z => absurd ((i32_lt (by omega) (by omega)).mpr (Nat.lt_succ_self _)) z⟩
      | succ r ih =>
        intro k hk υ w rk hf2 h1 h2 h3
        have hC3 := hC.fr hf2 (by decide)
        have hb0 := RKS_le k h2
        refine v_X8_rankStates_51 ?_
        rw [hC3.1.1]
        refine ⟨fun z => absurd ((i32_lt (by omega) (by omega)).mp z) (by omega), fun _ => ?_⟩
        refine up2 (n := G 0 0) (fun s (vw : Int32 × (Nat → Nat)) ω => Fr [32] [] [] σ ω ∧ RKc ω 32 (G 0 0) vw.2 ∧ mk vw.1 (erG G vw.2) ∧ (∀ t, t < G 0 0 → s ≤ t → vw.2 t = rk t) ∧ ∀ t, t < s → (rk t ≠ 0 → vw.2 t = rk t) ∧ (rk t = 0 → 0 < x t → drC G x t (fun t => rk t ≠ 0) → vw.2 t = k + 2) ∧ (rk t = 0 → ¬ (0 < x t ∧ drC G x t (fun t => rk t ≠ 0)) → vw.2 t = 0)) (fun vw v ω => L_X8_rankStates_67 vw.1 (i32 (k + 1)) w v ω Q) ?_ ?_ 0 (w, rk) υ (by omega) ⟨hf2, h1, h3, fun _ _ _ => rfl, fun t ht => by omega⟩
        · rintro s ⟨v, f⟩ ω hs ⟨hf3, r1, r2, r3, r4⟩ kk
          dsimp only at r1 r2 r3 r4
          have hC4 := hC.fr hf3 (by decide)
          have hU4 := hU.fr hf3 (by decide)
          have hfs := r3 s hs (Nat.le_refl s)
          have hle := hb0 s hs
          have skip : (rk s ≠ 0 ∨ ¬ (0 < x s ∧ drC G x s (fun t => rk t ≠ 0))) → L_X8_rankStates_67 v (i32 (k + 1)) w (i32 (s + 1)) ω Q := fun hsk => kk (v, f) ω ⟨hf3, r1, r2, fun t h5 h6 => r3 t h5 (by omega), fun t ht => by
            by_cases c : t = s
            · rw [c]
              refine ⟨fun _ => hfs, fun z z1 z2 => ?_, fun z _ => by show f s = 0; rw [hfs]; exact z⟩
              rcases hsk with y | y
              · exact absurd z y
              · exact absurd ⟨z1, z2⟩ y
            · exact r4 t (by omega)⟩
          refine v_X8_rankStates_67 ?_
          rw [hC4.1.1]
          simp (disch := omega) only [n0, n1, n2, n3, n4, n5, n6, n7, n8, n9, n49, n97, n98, n114, n102, n115, n119, n109, n112, i32_add, i32_mul, i32_N, i32_le, i32_lt, i32_eq, vpi_iff]
          rw [r1 s hs, hfs]
          refine ⟨fun z => by omega, fun _ => ⟨by omega, fun z => skip (Or.inl ((rkv_1 (by omega)).1.mp z)), fun z => ?_⟩⟩
          have hz : rk s = 0 := Classical.byContradiction fun y => z ((rkv_1 (by omega)).1.mpr y)
          refine c_isNought hW hU4 hs (fun hx => ⟨fun y => absurd rfl y, fun _ => ?_⟩) (fun hx => ⟨fun _ => skip (Or.inr (fun y => hx y.1)), fun y => absurd y (by decide)⟩)
          refine c_rDrawn hC4 hW hU4 hs h3 (fun hd => ⟨fun y => absurd y (by decide), fun _ => ⟨by omega, ?_⟩⟩) (fun hd => ⟨fun _ => skip (Or.inr (fun y => hd ((drC_congr (x := x) (y := x) (E := fun t => rk t ≠ 0) (F := erG G rk) hs (fun t ht => (erG_iff ht).symm) (fun _ _ => rfl)).mp y.2))), fun y => absurd rfl y⟩)
          have hd' := (drC_congr (x := x) (y := x) (E := erG G rk) (F := fun t => rk t ≠ 0) hs (fun t ht => erG_iff ht) (fun _ _ => rfl)).mp hd
          rintro _ rfl _ rfl
          refine kk (_, upd1 f s (k + 2)) _ ⟨hf3.tr (Fr.i (by decide)), fun t ht => ?_, mk_congr (mk_or r2 (by omega)) (fun t _ => ?_), fun t h5 h6 => ?_, fun t ht => ?_⟩
          · show _ = rkv (upd1 f s (k + 2) t)
            unfold upd1
            rw [ri, if_pos rfl]
            by_cases c : t = s
            · rw [if_pos c, if_pos c, rkv_s]
            · rw [if_neg c, if_neg c]; exact r1 t ht
          · show _ ↔ erG G (upd1 f s (k + 2)) t
            unfold erG upd1
            by_cases c : t = s
            · rw [if_pos c]; exact ⟨fun _ => ⟨fun _ => by omega, fun y => by omega⟩, fun _ => Or.inr c⟩
            · rw [if_neg c]; exact ⟨fun y => y.resolve_right c, Or.inl⟩
          · show upd1 f s (k + 2) t = rk t
            unfold upd1
            rw [if_neg (by omega)]; exact r3 t h5 (by omega)
          · show (_ → upd1 f s (k + 2) t = _) ∧ (_ → _ → _ → upd1 f s (k + 2) t = _) ∧ (_ → _ → upd1 f s (k + 2) t = _)
            unfold upd1
            by_cases c : t = s
            · rw [if_pos c, c]
              exact ⟨fun y => absurd hz y, fun _ _ _ => rfl, fun _ y => absurd ⟨hx, hd'⟩ y⟩
            · rw [if_neg c]; exact r4 t (by omega)
        · rintro ⟨v, f⟩ ω ⟨hf3, r1, r2, r3, r4⟩
          dsimp only at r1 r2 r3 r4
          have hC4 := hC.fr hf3 (by decide)
          refine v_X8_rankStates_67 ?_
          rw [hC4.1.1]
          simp only [i32_s]
          exact ⟨fun _ => ih (k + 1) (by omega) ω v f hf3 r1 ⟨rk, h2, fun t ht => r4 t ht⟩ r2, fun z => absurd ((i32_le (by omega) (by omega)).mpr (Nat.le_refl _)) z⟩
    refine key (G 0 0) 0 (by omega) τ _ _ hf hP (fun s _ => rfl) (mk_congr hC2.1.2.1 (fun t _ => ?_))
    unfold erG
    dsimp only
    by_cases c : G 8 t ≠ 0
    · rw [if_pos c]; exact ⟨fun _ => ⟨fun _ => by omega, fun _ => c⟩, fun _ => c⟩
    · rw [if_neg c]
      refine ⟨fun y => absurd y c, fun y => ?_⟩
      by_cases c2 : t < G 0 0
      · exact absurd rfl (y.1 c2)
      · exact y.2 (by omega)
end RKL
