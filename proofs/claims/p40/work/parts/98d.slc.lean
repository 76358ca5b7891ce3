/-! THE CALLS: solve, the class side -/
section SLC
variable {σ : cg_S} {G : Gm} {aim ch d : Nat} {x : Nat → Rat} {u rk : Nat → Nat}
theorem some_t {m : Nat} (hW : GW G) (hm : m < 21) (h : 0 < G 6 m) : ∃ t, t < G 0 0 ∧ G 7 (7 * m + t) ≠ 0 := Classical.byContradiction fun hno => by
  have e := (hW.2.2.1 m hm).2.2.2.1
  have : ∀ k, k ≤ G 0 0 → sN k (fun t => G 7 (7 * m + t)) = 0 := by
    intro k
    induction k with
    | zero => intro _; rfl
    | succ k ih =>
      intro hk
      have z : G 7 (7 * m + k) = 0 := Classical.byContradiction fun y => hno ⟨k, by omega, y⟩
      rw [sN, ih (by omega), z]
  rw [this _ (Nat.le_refl _)] at e
  omega
theorem rkv_n {a : Nat} (h : a < 12) : rkv a < i32 0 ↔ a = 0 := (rkv_1 h).2.1
theorem c_lowerThan {s : Nat} {Q : Int32 → cg_S → Prop} (hC : CG σ G ch) (hW : GW G) (hr : RKc σ 32 (G 0 0) rk) (hrb : ∀ t, t < G 0 0 → rk t < 12) (hs : s < G 0 0) (h : ∀ w, mk w (fun t => t < G 0 0 ∧ rk t ≠ 0 ∧ rk t < rk s) → Q w σ) : M_X8_lowerThan (i32 s) σ Q := by
  have hn := hW.1
  refine v_X8_lowerThan ?_
  refine up2 (n := G 0 0) (fun k (w : Int32) τ => τ = σ ∧ mk w (fun t => t < k ∧ rk t ≠ 0 ∧ rk t < rk s)) (fun w v τ => L_X8_lowerThan_4 (i32 s) w v τ Q) ?_ ?_ 0 0 σ (by omega) ⟨rfl, mk_0 (fun t _ y => by omega)⟩
  · rintro k w τ hk ⟨rfl, hm⟩ kk
    have hb := hrb k hk
    have skip : ¬ (rk k ≠ 0 ∧ rk k < rk s) → L_X8_lowerThan_4 (i32 s) w (i32 (k + 1)) τ Q := fun z => kk w τ ⟨rfl, mk_congr hm (fun t _ => ⟨fun y => ⟨by omega, y.2⟩, fun y => by
      by_cases e : t = k
      · rw [e] at y; exact absurd y.2 z
      · exact ⟨by omega, y.2⟩⟩)⟩
    refine v_X8_lowerThan_4 ?_
    rw [hC.1.1]
    simp (disch := omega) only [n0, n1, n2, n3, n4, n5, n6, n7, n8, n9, n49, n97, n98, n114, n102, n115, n119, n109, n112, i32_add, i32_mul, i32_N, i32_le, i32_lt, i32_eq, vpi_iff]
    rw [hr k hk, hr s hs, rkv_n hb, rkv_le (hrb s hs) hb]
    refine ⟨fun z => by omega, fun _ => ⟨by omega, fun z => skip (fun y => y.1 z), fun z => ⟨by omega, by omega, fun z2 => skip (fun y => by omega), fun z2 => ?_⟩⟩⟩
    rintro _ rfl
    refine kk _ τ ⟨rfl, mk_congr (mk_or hm (by omega)) (fun t _ => ⟨fun y => ?_, fun y => ?_⟩)⟩
    · rcases y with y | y
      · exact ⟨by omega, y.2⟩
      · rw [y]; exact ⟨by omega, z, by omega⟩
    · by_cases e : t = k
      · exact Or.inr e
      · exact Or.inl ⟨by omega, y.2⟩
  · rintro w τ ⟨rfl, hm⟩
    refine v_X8_lowerThan_4 ?_
    rw [hC.1.1]
    exact ⟨fun _ => h w hm, fun z => absurd ((i32_le (by omega) (by omega)).mpr (Nat.le_refl _)) z⟩
theorem c_lowestGood {s : Nat} {w : Int32} {E : Nat → Prop} {Q : Int32 → cg_S → Prop} (hC : CG σ G ch) (hW : GW G) (ha : okA aim) (hU : AU σ (G 0 0) x d u) (hs : s < G 0 0) (hE : mk w E) (h : ∀ c, ((c < G 3 s ∧ (gdG G aim x s (3 * s + c) ∧ ∃ t, t < G 0 0 ∧ G 7 (7 * (3 * s + c) + t) ≠ 0 ∧ E t) ∧ ∀ e, e < c → ¬ (gdG G aim x s (3 * s + e) ∧ ∃ t, t < G 0 0 ∧ G 7 (7 * (3 * s + e) + t) ≠ 0 ∧ E t)) ∨ (c = 0 ∧ ∀ e, e < G 3 s → ¬ (gdG G aim x s (3 * s + e) ∧ ∃ t, t < G 0 0 ∧ G 7 (7 * (3 * s + e) + t) ≠ 0 ∧ E t))) → Q (i32 c) σ) : M_X8_lowestGood (i32 aim) (i32 s) w σ Q := by
  have hn := hW.1
  have g3 := (hW.2.1 s (by omega)).2.2.1
  refine v_X8_lowestGood ?_
  refine up (n := G 3 s) (fun c τ => τ = σ ∧ ∀ e, e < c → ¬ (gdG G aim x s (3 * s + e) ∧ ∃ t, t < G 0 0 ∧ G 7 (7 * (3 * s + e) + t) ≠ 0 ∧ E t)) (fun v τ => L_X8_lowestGood_3 (i32 aim) (i32 s) w v τ Q) ?_ ?_ 0 σ (by omega) ⟨rfl, fun e he => by omega⟩
  · rintro c τ hc ⟨rfl, hP⟩ kk
    have hm : 3 * s + c < 21 := by omega
    have hb := lead_bits hC hW hm hE
    have skip : ¬ (gdG G aim x s (3 * s + c) ∧ ∃ t, t < G 0 0 ∧ G 7 (7 * (3 * s + c) + t) ≠ 0 ∧ E t) → L_X8_lowestGood_3 (i32 aim) (i32 s) w (i32 (c + 1)) τ Q := fun z => kk τ ⟨rfl, fun e he => by
      by_cases e2 : e = c
      · rw [e2]; exact z
      · exact hP e (by omega)⟩
    refine v_X8_lowestGood_3 ?_
    simp (disch := omega) only [n0, n1, n2, n3, n4, n5, n6, n7, n8, n9, n49, n97, n98, n114, n102, n115, n119, n109, n112, i32_add, i32_mul, i32_N, i32_le, i32_lt, i32_eq, vpi_iff]
    rw [(hC.2.1 s (by omega)).2.2.1]
    simp (disch := omega) only [n0, n1, n2, n3, n4, n5, n6, n7, n8, n9, n49, n97, n98, n114, n102, n115, n119, n109, n112, i32_add, i32_mul, i32_N, i32_le, i32_lt, i32_eq, vpi_iff]
    refine ⟨by omega, fun z => by omega, fun _ => c_moveOf ?_⟩
    refine c_isGood hC hW ha hU hs hc (fun hgd => ⟨fun z => absurd z (by decide), fun _ => ⟨vpi hm (by omega), ?_⟩⟩) (fun hgd => ⟨fun _ => skip (fun y => hgd y.1), fun z => absurd rfl z⟩)
    rw [i32_N (by omega)]
    have z0 : i32 0 = 0 := rfl
    rw [z0, hb]
    exact ⟨fun z => skip (fun y => z y.2), fun z => h c (Or.inl ⟨hc, ⟨hgd, Classical.byContradiction z⟩, hP⟩)⟩
  · rintro τ ⟨rfl, hP⟩
    refine v_X8_lowestGood_3 ?_
    simp (disch := omega) only [n0, n1, n2, n3, n4, n5, n6, n7, n8, n9, n49, n97, n98, n114, n102, n115, n119, n109, n112, i32_add, i32_mul, i32_N, i32_le, i32_lt, i32_eq, vpi_iff]
    rw [(hC.2.1 s (by omega)).2.2.1]
    exact ⟨by omega, fun _ => h 0 (Or.inr ⟨rfl, hP⟩), fun z => absurd ((i32_le (by omega) (by omega)).mpr (Nat.le_refl _)) z⟩
/-- the game with told choices, in the class -/
theorem CG_next {τ : cg_S} {tb : Nat → Nat} {k c : Nat} (h : CG τ (gT G tb k) ch) : CG (cg_i τ 19 k (i32 c)) (gT G (upd1 tb k c) (k + 1)) ch := by
  have fr : Fr [19] [] [] τ (cg_i τ 19 k (i32 c)) := Fr.i (by decide)
  obtain ⟨c1, c8, c9⟩ := h
  refine ⟨?_, fun t ht => ?_, fun m hm => ?_⟩
  · rw [fr.1 1 (by decide)]; exact c1
  · rw [fr.1 57 (by decide), fr.1 20 (by decide), fr.1 21 (by decide)]
    obtain ⟨d1, d2, d3, d4⟩ := c8 t ht
    refine ⟨d1, d2, d3, ?_⟩
    rw [ri, if_pos rfl]
    show _ = i32 (if t < k + 1 then upd1 tb k c t else G 10 t)
    by_cases e : t = k
    · rw [if_pos e, if_pos (by omega)]
      unfold upd1
      rw [if_pos e]
    · rw [if_neg e, d4]
      show i32 (if t < k then tb t else G 10 t) = _
      unfold upd1
      by_cases e2 : t < k
      · rw [if_pos e2, if_pos (by omega), if_neg e]
      · rw [if_neg e2, if_neg (by omega)]
  · rw [fr.1 22 (by decide), fr.1 23 (by decide), fr.1 24 (by decide), fr.1 25 (by decide), fr.1 (36 + m) (by simp; omega)]
    exact c9 m hm
theorem ncG_next {tb : Nat → Nat} {k c : Nat} : ncG G (upd1 tb k c) (k + 1) = ncG G tb k + (if c = G 10 k then 0 else 1) := by
  rw [ncG]
  have e5 : upd1 tb k c k = c := by unfold upd1; rw [if_pos rfl]
  rw [e5]
  congr 1
  have : ∀ j, j ≤ k → ncG G (upd1 tb k c) j = ncG G tb j := by
    intro j
    induction j with
    | zero => intro _; rfl
    | succ j ih =>
      intro hj
      rw [ncG, ncG, ih (by omega)]
      have : upd1 tb k c j = tb j := by unfold upd1; rw [if_neg (by omega)]
      rw [this]
  exact this k (Nat.le_refl k)
theorem GW_T {tb : Nat → Nat} {k : Nat} (hW : GW G) (h : ∀ t, t < k → t < 7 → tb t < G 3 t) : GW (gT G tb k) := by
  obtain ⟨h1, h2, h3, h4⟩ := hW
  refine ⟨h1, fun t ht => ?_, h3, h4⟩
  obtain ⟨a1, a2, a3, a4, a5, a6⟩ := h2 t ht
  by_cases c : t < k
  · have hlt := h t c ht
    refine ⟨a1, a2, a3, a4, ?_, ?_⟩
    · show (if t < k then tb t else G 10 t) ≤ 2
      rw [if_pos c]; omega
    · show (if t < k then tb t else G 10 t) = 0 ∨ (if t < k then tb t else G 10 t) < G 3 t
      rw [if_pos c]; exact Or.inr hlt
  · refine ⟨a1, a2, a3, a4, ?_, ?_⟩
    · show (if t < k then tb t else G 10 t) ≤ 2
      rw [if_neg c]; exact a5
    · show (if t < k then tb t else G 10 t) = 0 ∨ (if t < k then tb t else G 10 t) < G 3 t
      rw [if_neg c]; exact a6
theorem c_tells {Q : Int32 → cg_S → Prop} (hC : CG σ G ch) (hW : GW G) (hw : whole G) (ha : okA aim) (hU : AU σ (G 0 0) x d u) (hrk : aim = 114 → RKc σ 32 (G 0 0) rk ∧ ∀ t, t < G 0 0 → rk t < 12) (h : ∀ τ tb, Fr [19] [] [] σ τ → (∀ s, s < G 0 0 → tbS G aim x rk s (tb s)) → CG τ (gT G tb (G 0 0)) ch → Q (i32 (ncG G tb (G 0 0))) τ) : L_X8_tellBest_26 (i32 aim) 19 0 0 σ Q := by
  have hn := hW.1
  have ha2 := okA_lt ha
  refine up2 (n := G 0 0) (fun k (vt : Int32 × (Nat → Nat)) τ => Fr [19] [] [] σ τ ∧ vt.1 = i32 (ncG G vt.2 k) ∧ (∀ s, s < k → tbS G aim x rk s (vt.2 s)) ∧ CG τ (gT G vt.2 k) ch) (fun vt v τ => L_X8_tellBest_26 (i32 aim) 19 vt.1 v τ Q) ?_ ?_ 0 ((0 : Int32), fun _ => 0) σ (by omega) ⟨Fr.rf σ, rfl, fun s hs => by omega, by rw [gT_0]; exact hC⟩
  · rintro k ⟨v, tb⟩ τ hk ⟨hf, hv', hT, hCk⟩ kk
    dsimp only at hv' hT hCk
    subst hv'
    have hncl := ncG_le (G := G) tb k
    have hWk : GW (gT G tb k) := GW_T hW (fun t ht _ => tbS_lt hw (by omega) (hT t ht))
    have hUk : AU τ (gT G tb k 0 0) x d u := hU.fr hf (by decide)
    have g1 := (hW.2.1 k (by omega)).1
    have g3k := (hW.2.1 k (by omega)).2.2.1
    have g10 := (hW.2.1 k (by omega)).2.2.2.2.1
    have e10 : τ.1 19 k = i32 (G 10 k) := by
      have := (hCk.2.1 k (by omega)).2.2.2
      rw [this]
      show i32 (if k < k then tb k else G 10 k) = _
      rw [if_neg (Nat.lt_irrefl k)]
    -- told, and on
    have go : ∀ (w : Int32) (E : Nat → Prop), mk w E → (∀ e, e < G 3 k → ((∃ t, t < G 0 0 ∧ G 7 (7 * (3 * k + e) + t) ≠ 0 ∧ E t) ↔ (ledG G aim x k → ∃ t, t < G 0 0 ∧ G 7 (7 * (3 * k + e) + t) ≠ 0 ∧ rk t ≠ 0 ∧ rk t < rk k))) → L_X8_tellBest_113 (i32 aim) 19 (i32 (ncG G tb k)) (i32 k) (i32 aim) (i32 k) w τ Q := fun w E hE hEq => by
      refine v_X8_tellBest_113 (Or.inl rfl) (c_lowestGood (G := gT G tb k) hCk hWk ha hUk hk hE (fun c hc => ?_))
      have hc' : tbS G aim x rk k c := by
        rcases hc with ⟨a1, a2, a3⟩ | ⟨a1, a2⟩
        · exact Or.inl ⟨a1, ⟨a2.1, (hEq c a1).mp a2.2⟩, fun e he y => a3 e he ⟨y.1, (hEq e (Nat.lt_trans he a1)).mpr y.2⟩⟩
        · exact Or.inr ⟨a1, fun e he y => a2 e he ⟨y.1, (hEq e he).mpr y.2⟩⟩
      have hclt := tbS_lt hw hk hc'
      have nxt : ∀ q : Nat, q = (if c = G 10 k then 0 else 1) → L_X8_tellBest_26 (i32 aim) 19 (i32 (ncG G tb k + q)) (i32 (k + 1)) (cg_i τ 19 k (i32 c)) Q := fun q hq => by
        refine kk (_, upd1 tb k c) _ ⟨hf.tr (Fr.i (by decide)), ?_, fun s hs => ?_, CG_next hCk⟩
        · show i32 _ = i32 (ncG G (upd1 tb k c) (k + 1))
          rw [ncG_next, hq]
        · show tbS G aim x rk s (upd1 tb k c s)
          unfold upd1
          by_cases e : s = k
          · rw [if_pos e, e]; exact hc'
          · rw [if_neg e]; exact hT s (by omega)
      simp (disch := omega) only [n0, n1, n2, n3, n4, n5, n6, n7, n8, n9, n49, n97, n98, n114, n102, n115, n119, n109, n112, i32_add, i32_mul, i32_N, i32_le, i32_lt, i32_eq, vpi_iff]
      rw [e10, i32_eq (by omega) (by omega)]
      refine ⟨by omega, fun z => ⟨by omega, ?_⟩, fun z => ⟨by omega, ?_⟩⟩
      · rintro _ rfl
        exact nxt 0 (by rw [if_pos z])
      · rintro _ rfl
        exact nxt 1 (by rw [if_neg z])
    have any : ¬ ledG G aim x k → L_X8_tellBest_86 (i32 aim) 19 (i32 (ncG G tb k)) (i32 k) 0 τ Q := fun hl => by
      refine v_X8_tellBest_86 (Or.inl rfl) ⟨fun _ => c_everyState hCk (fun w hm _ => go w _ hm (fun e he => ⟨fun _ y => absurd y hl, fun _ => ?_⟩)) hn, fun y => absurd rfl y⟩
      obtain ⟨t, t1, t2⟩ := some_t (m := 3 * k + e) hW (by omega) ((hw.2 k hk).2 e he)
      exact ⟨t, t1, t2, t1⟩
    refine v_X8_tellBest_26 (Or.inl rfl) ?_
    rw [hCk.1.1]
    rw [show gT G tb k 0 0 = G 0 0 from rfl]
    simp (disch := omega) only [n0, n1, n2, n3, n4, n5, n6, n7, n8, n9, n49, n97, n98, n114, n102, n115, n119, n109, n112, i32_add, i32_mul, i32_N, i32_le, i32_lt, i32_eq, vpi_iff]
    refine ⟨fun z => by omega, fun _ => ⟨fun z => any (fun y => z y.1), fun z => ⟨by omega, ?_⟩⟩⟩
    subst z
    rw [(hCk.2.1 k (by omega)).1]
    rw [show gT G tb k 1 k = G 1 k from rfl]
    simp (disch := omega) only [n0, n1, n2, n3, n4, n5, n6, n7, n8, n9, n49, n97, n98, n114, n102, n115, n119, n109, n112, i32_add, i32_mul, i32_N, i32_le, i32_lt, i32_eq, vpi_iff]
    refine ⟨fun z => any (fun y => ?_), fun z => ?_⟩
    · have : G 1 k = 1 := y.2.1
      omega
    · refine c_isTarget hCk (by omega) (fun t8 => ⟨fun _ => any (fun y => y.2.2.1 t8), fun y => absurd y (by decide)⟩) (fun t8 => ⟨fun y => absurd rfl y, fun _ => ?_⟩)
      refine c_isNought (G := gT G tb k) hWk hUk hk (fun hx => ⟨fun y => absurd rfl y, fun _ => ?_⟩) (fun hx => ⟨fun _ => any (fun y => hx y.2.2.2), fun y => absurd y (by decide)⟩)
      obtain ⟨r1, r2⟩ := hrk rfl
      refine v_X8_tellBest_86 (Or.inl rfl) ⟨fun y => absurd y (by decide), fun _ => c_lowerThan (G := gT G tb k) hCk hWk (r1.fr hf (by decide)) r2 hk (fun w hm => go w _ hm (fun e he => ⟨fun ⟨t, y1, y2, y3⟩ _ => ⟨t, y1, y2, y3.2⟩, fun y => ?_⟩))⟩
      obtain ⟨t, y1, y2, y3⟩ := y ⟨rfl, show G 1 k = 1 by omega, fun y => y t8, hx⟩
      exact ⟨t, y1, y2, y1, y3⟩
  · rintro ⟨v, tb⟩ τ ⟨hf, hv', hT, hCk⟩
    dsimp only at hv' hT hCk
    subst hv'
    refine v_X8_tellBest_26 (Or.inl rfl) ?_
    rw [hCk.1.1]
    rw [show gT G tb (G 0 0) 0 0 = G 0 0 from rfl]
    exact ⟨fun _ => h τ tb hf hT hCk, fun z => absurd ((i32_le (by omega) (by omega)).mpr (Nat.le_refl _)) z⟩
end SLC
theorem ncG_congr {G : Gm} {f g : Nat → Nat} : ∀ k, (∀ t, t < k → f t = g t) → ncG G f k = ncG G g k := by
  intro k
  induction k with
  | zero => intro _; rfl
  | succ k ih => intro h; rw [ncG, ncG, ih (fun t ht => h t (by omega)), h k (by omega)]
theorem gT_congr {G : Gm} {f g : Nat → Nat} {k : Nat} (h : ∀ t, t < k → f t = g t) : gT G f k = gT G g k := by
  funext i j
  unfold gT
  split
  · split
    · exact h j (by assumption)
    · rfl
  · rfl
