/-! THE CLASS: what a move promises; choices are changed -/
theorem rat_div_lt {a b s t : Rat} (hs : 0 < s) (ht : 0 < t) : a / s < b / t ↔ a * t < b * s := by
  have e1 : a = (a / s) * s := by grind
  have e2 : b = (b / t) * t := by grind
  have hst := Rat.mul_pos hs ht
  generalize a / s = u at *
  generalize b / t = v at *
  subst e1; subst e2
  constructor
  · intro h
    have := Rat.mul_pos (a := v - u) (b := s * t) (by grind) hst
    grind
  · intro h
    by_cases c : u < v
    · exact c
    · have := Rat.mul_nonneg (a := u - v) (b := s * t) (by grind) (Rat.le_of_lt hst)
      grind
/-- what a move promises -/
def prm (G : Gm) (aim : Nat) (x : Nat → Rat) (m : Nat) : Rat := ahR G aim x m / c_sm (G 0 0) (wtR G) m
/-- one move beats another, for a player -/
def BM (G : Gm) (aim ia : Nat) (x : Nat → Rat) (m k : Nat) : Prop := if ia = 1 then prm G aim x k < prm G aim x m else prm G aim x m < prm G aim x k
section AHD
variable {G : Gm} {aim ch : Nat} {x : Nat → Rat} {σ : cg_S} {d : Nat} {u : Nat → Nat}
theorem BM_tr {ia m k l : Nat} (h1 : BM G aim ia x m k) (h2 : BM G aim ia x k l) : BM G aim ia x m l := by
  unfold BM at *
  split
  · rename_i c; rw [if_pos c] at h1 h2; grind
  · rename_i c; rw [if_neg c] at h1 h2; grind
theorem BM_ir {ia m : Nat} : ¬ BM G aim ia x m m := by
  unfold BM
  split <;> exact Rat.lt_irrefl
theorem BM_nt {ia m k l : Nat} (h1 : ¬ BM G aim ia x l m) (h2 : BM G aim ia x k m) : ¬ BM G aim ia x l k := fun h => h1 (BM_tr h h2)
/-- what is held against a move: its sum times what the present one promises -/
theorem prm_at {q : Nat → Nat} (hW : GW G) (hw : whole G) (hq : pkOk G q) (hx : gX G aim (mv q) x) {s m : Nat} (hs : s < G 0 0) (hst : ¬ stop G aim s) (hm : gAd G s m) : (prm G aim x (mv q s) < prm G aim x m ↔ tgR G aim x s m < ahR G aim x m) ∧ (prm G aim x m < prm G aim x (mv q s) ↔ ahR G aim x m < tgR G aim x s m) := by
  have h1 := gX_ah hx hs hst
  have p1 := (game_ok hW hw s m hs hm).2
  have p2 := (game_ok hW hw s (mv q s) hs (mv_pk hq s hs)).2
  unfold prm
  rw [rat_div_lt p2 p1, rat_div_lt p1 p2, h1]
  have e : tgR G aim x s (mv q s) * c_sm (G 0 0) (wtR G) m = tgR G aim x s m * c_sm (G 0 0) (wtR G) (mv q s) := by
    unfold tgR
    split <;> grind
  rw [e]
  have key : ∀ a b : Rat, a * c_sm (G 0 0) (wtR G) (mv q s) < b * c_sm (G 0 0) (wtR G) (mv q s) ↔ a < b := fun a b => by
    constructor
    · intro h
      by_cases c : a < b
      · exact c
      · have := Rat.mul_nonneg (a := a - b) (by grind) (Rat.le_of_lt p2)
        grind
    · intro h
      have := Rat.mul_pos (a := b - a) (by grind) p2
      grind
  exact ⟨key _ _, key _ _⟩
theorem c_expected {m : Nat} {Q : Int64 → cg_S → Prop} (hC : CG σ G ch) (hW : GW G) (hm : m < 21) (hu : ∀ s, s < G 0 0 → σ.2.1 58 s = i64 (u s : Nat)) (h : Q (i64 ((sN (G 0 0) (fun t => G 7 (7 * m + t) * u t) : Nat) : Int)) σ) : M_X0_expected (i32 m) σ Q := by
  have hn := hW.1
  refine v_X0_expected ?_
  refine up2 (n := G 0 0) (fun k (v : Int64) τ => τ = σ ∧ v = i64 ((sN k (fun t => G 7 (7 * m + t) * u t) : Nat) : Int)) (fun v w τ => L_X0_expected_5 (i32 m) v w τ Q) ?_ ?_ 0 (0 : Int64) σ (by omega) ⟨rfl, rfl⟩
  · rintro k v τ hk ⟨rfl, rfl⟩ kk
    have hw := hW.w6 hm (show k < 7 by omega)
    refine v_X0_expected_5 ?_
    rw [hC.1.1]
    simp (disch := omega) only [n0, n1, n2, n3, n4, n5, n6, n7, n8, n9, n49, n97, n98, n114, n102, n115, n119, n109, n112, i32_add, i32_mul, i32_N, i32_le, i32_lt, i32_eq, vpi_iff]
    refine ⟨fun z => by omega, fun _ => ⟨by omega, by omega, by omega, ?_⟩⟩
    rw [(hC.2.2 m hm).2.2.2.2 k (by omega), hu k hk, i32_64 (by omega), i64_mul, i64_add]
    rintro _ rfl
    refine kk _ _ ⟨rfl, ?_⟩
    rw [sN, Int.natCast_add, Int.natCast_mul]
  · rintro v τ ⟨rfl, rfl⟩
    refine v_X0_expected_5 ?_
    rw [hC.1.1]
    refine ⟨fun _ => h, fun z => absurd ((i32_le (by omega) (by omega)).mpr (Nat.le_refl _)) z⟩
theorem sN_mul_le {n c : Nat} {f g : Nat → Nat} (h : ∀ t, t < n → g t ≤ c) : sN n (fun t => f t * g t) ≤ sN n f * c := by
  induction n with
  | zero => simp [sN]
  | succ n ih =>
    have h1 := ih (fun t ht => h t (by omega))
    have h2 := Nat.mul_le_mul_left (f n) (h n (by omega))
    rw [sN, sN, Nat.add_mul]
    omega
theorem exp_rat {m : Nat} (hd : 0 < d) (hx : ∀ s, s < G 0 0 → x s = ((u s : Nat) : Rat) / ((d : Nat) : Rat)) : ((sN (G 0 0) (fun t => G 7 (7 * m + t) * u t) : Nat) : Rat) = ((d : Nat) : Rat) * c_ex (G 0 0) (wtR G) x m := by
  have hd' : ((d : Nat) : Rat) ≠ 0 := fun e => by
    have := Rat.natCast_eq_zero_iff.mp e
    omega
  unfold c_ex
  rw [sN_sr, ← sr_mul]
  refine sr_congr (fun t ht => ?_)
  rw [Rat.natCast_mul, hx t ht]
  show _ = _ * (((G 7 (7 * m + t) : Nat) : Rat) * _)
  grind
/-- the answers, with names for the numbers -/
def AU (τ : cg_S) (n : Nat) (x : Nat → Rat) (d : Nat) (u : Nat → Nat) : Prop := 0 < d ∧ d ≤ 612220032 ∧ τ.2.1 4 4 = i64 d ∧ ∀ s, s < n → u s ≤ 162 * d ∧ τ.2.1 58 s = i64 (u s : Nat) ∧ x s = ((u s : Nat) : Rat) / ((d : Nat) : Rat)
theorem AU.fr {τ υ : cg_S} {n : Nat} {I L D : List Nat} (h : AU τ n x d u) (hf : Fr I L D τ υ) (h0 : 4 ∉ L ∧ 58 ∉ L) : AU υ n x d u := by
  unfold AU
  rw [hf.2.1 4 h0.1, hf.2.1 58 h0.2]
  exact h
theorem c_ahead {m : Nat} {Q : Int64 → cg_S → Prop} (hC : CG σ G ch) (hW : GW G) (ha : okA aim) (hm : m < 21) (hU : AU σ (G 0 0) x d u) (h : ∀ z : Nat, (z : Rat) = ((d : Nat) : Rat) * ahR G aim x m → z ≤ 2916 * d → Q (i64 z) σ) : M_X0_ahead (i32 aim) (i32 m) σ Q := by
  have hn := hW.1
  obtain ⟨h1, h2, h3, h4⟩ := hU
  have g6 := (hW.2.2.1 m hm)
  have hE : sN (G 0 0) (fun t => G 7 (7 * m + t) * u t) ≤ 6 * (162 * d) := by
    refine Nat.le_trans (sN_mul_le (fun t ht => (h4 t ht).1)) ?_
    rw [← g6.2.2.2.1]
    exact Nat.mul_le_mul_right _ g6.2.2.1
  have hR := exp_rat (G := G) (m := m) h1 (fun s hs => (h4 s hs).2.2)
  have ha2 := okA_lt ha
  have hd9 := hW.2.2.2.1
  refine v_X0_ahead ?_
  simp (disch := omega) only [n0, n1, n2, n3, n4, n5, n6, n7, n8, n9, n49, n97, n98, n114, n102, n115, n119, n109, n112, i32_add, i32_mul, i32_N, i32_le, i32_lt, i32_eq, vpi_iff]
  refine ⟨fun z => ⟨hm, c_costOf hC hm (by unfold okA at ha; omega) ?_⟩, fun z => c_expected hC hW hm (fun s hs => (h4 s hs).2.1) (h _ ?_ (by omega))⟩
  · have hcl := costG_le hW aim hm
    rw [(hC.2.2 m hm).2.2.1, i32_64 (by omega), i32_64 (by omega), i64_mul]
    rintro _ rfl
    refine c_expected hC hW hm (fun s hs => (h4 s hs).2.1) ?_
    rw [hC.1.2.2.1, hC.1.2.2.2.1, h3, i32_64 (by omega), i32_64 (by omega), i64_mul, i64_mul, i64_mul, i64_add]
    have hk := h (G 9 0 * sN (G 0 0) (fun t => G 7 (7 * m + t) * u t) + G 9 1 * (G 6 m * costG G aim m) * d) ?_ ?_
    · rw [Int.natCast_add, Int.natCast_mul, Int.natCast_mul, Int.natCast_mul, Int.natCast_mul] at hk
      exact hk
    · unfold ahR KG
      rw [if_neg z, Rat.natCast_add, Rat.natCast_mul, hR, Rat.natCast_mul, Rat.natCast_mul, Rat.natCast_mul, sm_eq hW hm]
      grind
    · have e1 : G 9 0 * sN (G 0 0) (fun t => G 7 (7 * m + t) * u t) ≤ 2 * (6 * (162 * d)) := Nat.mul_le_mul (by omega) hE
      have e2 : G 6 m * costG G aim m ≤ 6 * 54 := Nat.mul_le_mul g6.2.2.1 hcl
      have e3 : G 9 1 * (G 6 m * costG G aim m) ≤ 3 * (6 * 54) := Nat.mul_le_mul hd9.2.2 e2
      have e4 := Nat.mul_le_mul_right d e3
      omega
  · unfold ahR
    rw [if_pos z, hR]
/-- two products tell which move is better -/
theorem bm_iff {m k zm zk : Nat} (hW : GW G) (hm : m < 21) (hk : k < 21) (pm : 0 < G 6 m) (pk : 0 < G 6 k) (hd : 0 < d) (e1 : (zm : Rat) = ((d : Nat) : Rat) * ahR G aim x m) (e2 : (zk : Rat) = ((d : Nat) : Rat) * ahR G aim x k) : (zm * G 6 k < zk * G 6 m ↔ prm G aim x m < prm G aim x k) := by
  unfold prm
  rw [sm_eq hW hm, sm_eq hW hk, rat_div_lt (Rat.natCast_pos.mpr pm) (Rat.natCast_pos.mpr pk), ← Rat.natCast_lt_natCast, Rat.natCast_mul, Rat.natCast_mul, e1, e2]
  have hd' : (0 : Rat) < ((d : Nat) : Rat) := Rat.natCast_pos.mpr hd
  constructor
  · intro h
    by_cases c : ahR G aim x m * ((G 6 k : Nat) : Rat) < ahR G aim x k * ((G 6 m : Nat) : Rat)
    · exact c
    · have := Rat.mul_nonneg (Rat.le_of_lt hd') (b := ahR G aim x m * ((G 6 k : Nat) : Rat) - ahR G aim x k * ((G 6 m : Nat) : Rat)) (by grind)
      grind
  · intro h
    have := Rat.mul_pos hd' (b := ahR G aim x k * ((G 6 m : Nat) : Rat) - ahR G aim x m * ((G 6 k : Nat) : Rat)) (by grind)
    grind
/-- the picks at hand: a cell holds them -/
def PK (τ : cg_S) (pk n : Nat) (p : Nat → Nat) : Prop := ∀ s, s < n → τ.1 pk s = i32 (p s)
theorem c_isT {s : Nat} {Q : Int32 → cg_S → Prop} (hC : CG σ G ch) (hs : s < 7) (hy : TG G s → Q 1 σ) (hno : ¬ TG G s → Q 0 σ) : M_X2_isTarget (i32 s) σ Q :=
  v_X2_isTarget (c_holds hC.1.2.1 hs (fun h => ⟨Or.inr rfl, hy h⟩) (fun h => ⟨Or.inl rfl, hno h⟩))
theorem c_change {ia : Nat} {p : Nat → Nat} {Q : Int32 → cg_S → Prop} (hia : ia ≤ 1) (hC : CG σ G ch) (hW : GW G) (hw : whole G) (ha : okA aim) (hU : AU σ (G 0 0) x d u) (hpk : pkOk G p) (hp : ∀ s, s < 7 → p s ≤ 2) (hpc : PK σ 29 (G 0 0) p) (h : ∀ τ q f, Fr [29] [] [] σ τ → PK τ 29 (G 0 0) q → f ≤ 1 → pkOk G q → (∀ s, s < 7 → q s ≤ 2) → (∀ s, s < G 0 0 → q s = p s ∨ (G 1 s = ia ∧ ¬ stop G aim s ∧ BM G aim ia x (mv q s) (mv p s))) → (f = 0 → (∀ s, s < G 0 0 → q s = p s) ∧ ∀ s m, s < G 0 0 → G 1 s = ia → ¬ stop G aim s → gAd G s m → ¬ BM G aim ia x m (mv p s)) → (f = 1 → ∃ s, s < G 0 0 ∧ q s ≠ p s) → Q (i32 f) τ) : M_X4_change (i32 aim) (i32 ia) σ Q := by
  have hn := hW.1
  have ha2 := okA_lt ha
  refine v_X4_change ?_
  refine up2 (n := G 0 0) (fun k (fq : Nat × (Nat → Nat)) τ => Fr [29] [] [] σ τ ∧ PK τ 29 (G 0 0) fq.2 ∧ fq.1 ≤ 1 ∧ pkOk G fq.2 ∧ (∀ s, s < 7 → fq.2 s ≤ 2) ∧ (∀ s, s < G 0 0 → k ≤ s → fq.2 s = p s) ∧ (∀ s, s < G 0 0 → fq.2 s = p s ∨ (G 1 s = ia ∧ ¬ stop G aim s ∧ BM G aim ia x (mv fq.2 s) (mv p s))) ∧ (fq.1 = 0 → (∀ s, s < G 0 0 → fq.2 s = p s) ∧ ∀ s m, s < k → G 1 s = ia → ¬ stop G aim s → gAd G s m → ¬ BM G aim ia x m (mv p s)) ∧ (fq.1 = 1 → ∃ s, s < G 0 0 ∧ fq.2 s ≠ p s)) (fun fq w τ => L_X4_change_5 (i32 aim) (i32 ia) (i32 fq.1) w τ Q) ?_ ?_ 0 (0, p) σ (by omega) ⟨Fr.rf σ, hpc, Nat.zero_le 1, hpk, hp, fun _ _ _ => rfl, fun _ _ => Or.inl rfl, fun _ => ⟨fun _ _ => rfl, fun s m hs => by omega⟩, fun z => by omega⟩
  · rintro k ⟨f, q⟩ τ hk ⟨hf, r1, r2, r3, r4, r5, r6, r7, r8⟩ kk
    dsimp only at r1 r2 r3 r4 r5 r6 r7 r8
    have hC2 := hC.fr hf (by decide)
    have g1 := (hW.2.1 k (by omega)).1
    have g3 := (hW.2.1 k (by omega)).2.2.1
    -- a state of which nothing is asked
    have skip : (¬ G 1 k = ia ∨ stop G aim k) → L_X4_change_59 (i32 aim) (i32 ia) (i32 f) (i32 k) 0 0 τ Q := fun hsk => by
      refine v_X4_change_59 ⟨fun _ => ?_, fun z => absurd rfl z⟩
      rw [i32_s]
      refine kk (f, q) τ ⟨hf, r1, r2, r3, r4, fun s h1 h2 => r5 s h1 (by omega), r6, fun z => ⟨(r7 z).1, fun s m h1 h2 h3 h4 => ?_⟩, r8⟩
      by_cases e : s = k
      · subst e
        rcases hsk with y | y
        · exact absurd h2 y
        · exact absurd y h3
      · exact (r7 z).2 s m (by omega) h2 h3 h4
    -- its choices
    have go : G 1 k = ia → ¬ stop G aim k → L_X4_change_59 (i32 aim) (i32 ia) (i32 f) (i32 k) 1 0 τ Q := fun hmine hst => by
      refine up2 (n := G 3 k) (fun c (fq : Nat × (Nat → Nat)) υ => Fr [29] [] [] σ υ ∧ PK υ 29 (G 0 0) fq.2 ∧ fq.1 ≤ 1 ∧ pkOk G fq.2 ∧ (∀ s, s < 7 → fq.2 s ≤ 2) ∧ (∀ s, s ≠ k → fq.2 s = q s) ∧ (fq.2 k = p k ∨ BM G aim ia x (mv fq.2 k) (mv p k)) ∧ (∀ e, e < c → ¬ BM G aim ia x (3 * k + e) (mv fq.2 k)) ∧ (fq.1 = 0 → f = 0 ∧ fq.2 k = p k) ∧ (fq.1 = 1 → f = 1 ∨ fq.2 k ≠ p k)) (fun fq w υ => L_X4_change_59 (i32 aim) (i32 ia) (i32 fq.1) (i32 k) 1 w υ Q) ?_ ?_ 0 (f, q) τ (by omega) ⟨hf, r1, r2, r3, r4, fun _ _ => rfl, Or.inl (r5 k hk (Nat.le_refl k)), fun e he => by omega, fun z => ⟨z, r5 k hk (Nat.le_refl k)⟩, fun z => Or.inl z⟩
      · rintro c ⟨f', q'⟩ υ hc ⟨hf', s1, s2, s3, s4, s5, s6, s7, s8, s9⟩ kk2
        dsimp only at s1 s2 s3 s4 s5 s6 s7 s8 s9
        have hC3 := hC.fr hf' (by decide)
        have hU3 := hU.fr hf' (by decide)
        have hm1 : 3 * k + c < 21 := by omega
        have hm2 : 3 * k + q' k < 21 := by have := s4 k (by omega); omega
        have p1 := (hw.2 k hk).2 c hc
        have p2 := (hw.2 k hk).2 (q' k) (s3 k hk)
        have w1 := (hW.2.2.1 _ hm1).2.2.1
        have w2 := (hW.2.2.1 _ hm2).2.2.1
        -- it is taken, or not
        have take : BM G aim ia x (3 * k + c) (mv q' k) → L_X4_change_173 (i32 aim) (i32 ia) (i32 k) 1 (i32 c) υ Q := fun hbm => by
          refine v_X4_change_173 ?_
          simp (disch := omega) only [n0, n1, n2, n3, n4, n5, n6, n7, n8, n9, n49, n97, n98, n114, n102, n115, n119, n109, n112, i32_add, i32_mul, i32_N, i32_le, i32_lt, i32_eq, vpi_iff]
          refine ⟨by omega, ?_⟩
          rintro _ rfl
          have hmk : mv (upd1 q' k c) k = 3 * k + c := by unfold mv upd1; rw [if_pos rfl]
          have hp' : BM G aim ia x (3 * k + c) (mv p k) := by
            rcases s6 with e | e
            · have : mv q' k = mv p k := by unfold mv; rw [e]
              rw [← this]; exact hbm
            · exact BM_tr hbm e
          refine kk2 (1, upd1 q' k c) _ ⟨hf'.tr (Fr.i (by decide)), fun s hs => ?_, Nat.le_refl 1, upd1_ok s3 hc, fun s hs => ?_, fun s hs => ?_, Or.inr ?_, fun e he => ?_, fun z => by omega, fun _ => Or.inr ?_⟩
          · show _ = i32 (upd1 q' k c s)
            unfold upd1
            rw [ri, if_pos rfl]
            by_cases e : s = k
            · rw [if_pos e, if_pos e]
            · rw [if_neg e, if_neg e]; exact s1 s hs
          · show upd1 q' k c s ≤ 2
            unfold upd1
            split
            · omega
            · exact s4 s hs
          · show upd1 q' k c s = q s
            unfold upd1
            rw [if_neg hs]; exact s5 s hs
          · show BM G aim ia x (mv (upd1 q' k c) k) _
            rw [hmk]; exact hp'
          · show ¬ BM G aim ia x _ (mv (upd1 q' k c) k)
            rw [hmk]
            by_cases e2 : e = c
            · rw [e2]; exact BM_ir
            · exact BM_nt (s7 e (by omega)) hbm
          · show upd1 q' k c k ≠ p k
            unfold upd1
            rw [if_pos rfl]
            intro e
            refine BM_ir (m := mv p k) (x := x) (G := G) (aim := aim) (ia := ia) ?_
            have : mv p k = 3 * k + c := by unfold mv; rw [e]
            rw [this] at hp' ⊢
            exact hp'
        have leave : ¬ BM G aim ia x (3 * k + c) (mv q' k) → L_X4_change_59 (i32 aim) (i32 ia) (i32 f') (i32 k) 1 (i32 (c + 1)) υ Q := fun hbm =>
          kk2 (f', q') υ ⟨hf', s1, s2, s3, s4, s5, s6, fun e he => by
            by_cases e2 : e = c
            · rw [e2]; exact hbm
            · exact s7 e (by omega), s8, s9⟩
        refine v_X4_change_59 ⟨fun z => absurd z (by decide), fun _ => ?_⟩
        simp (disch := omega) only [n0, n1, n2, n3, n4, n5, n6, n7, n8, n9, n49, n97, n98, n114, n102, n115, n119, n109, n112, i32_add, i32_mul, i32_N, i32_le, i32_lt, i32_eq, vpi_iff]
        rw [(hC3.2.1 k (by omega)).2.2.1]
        refine ⟨by omega, fun z => ?_, fun _ => c_moveOf ⟨by omega, ?_⟩⟩
        · rw [i32_le (by omega) (by omega)] at z; omega
        · rw [s1 k hk]
          refine c_moveOf (c_ahead hC3 hW ha hm1 hU3 (fun z1 e1 b1 => ⟨vpi hm2 (by omega), ?_⟩))
          rw [i32_N (by omega), (hC3.2.2 _ hm2).2.2.1, i32_64 (by omega), i64_mul]
          rintro _ rfl
          refine c_ahead hC3 hW ha hm2 hU3 (fun z2 e2 b2 => ⟨vpi hm1 (by omega), ?_⟩)
          rw [i32_N (by omega), (hC3.2.2 _ hm1).2.2.1, i32_64 (by omega), i64_mul]
          rintro _ rfl
          have hd := hU3.2.1
          have hd0 := hU3.1
          have m1 : z1 * G 6 (3 * k + q' k) ≤ 2916 * 612220032 * 6 := Nat.mul_le_mul (by omega) w2
          have m2 : z2 * G 6 (3 * k + c) ≤ 2916 * 612220032 * 6 := Nat.mul_le_mul (by omega) w1
          have c1 : ((z1 : Int) * ((G 6 (3 * k + q' k) : Nat) : Int)) = ((z1 * G 6 (3 * k + q' k) : Nat) : Int) := by rw [Int.natCast_mul]
          have c2 : ((z2 : Int) * ((G 6 (3 * k + c) : Nat) : Int)) = ((z2 * G 6 (3 * k + c) : Nat) : Int) := by rw [Int.natCast_mul]
          rw [c1, c2, i64_le (by omega) (by omega), i64_le (by omega) (by omega)]
          have q1 := bm_iff (k := 3 * k + q' k) (m := 3 * k + c) hW hm1 hm2 p1 p2 hd0 e1 e2
          have q2 := bm_iff (m := 3 * k + q' k) (k := 3 * k + c) hW hm2 hm1 p2 p1 hd0 e2 e1
          refine ⟨fun z => ⟨fun z2' => leave (fun hb => ?_), fun z2' => take ?_⟩, fun z => ⟨fun z2' => leave (fun hb => ?_), fun z2' => take ?_⟩⟩
          · unfold BM at hb
            rw [if_neg (by omega)] at hb
            have := q1.mpr hb
            omega
          · unfold BM
            rw [if_neg (by omega)]
            exact q1.mp (by omega)
          · unfold BM at hb
            rw [if_pos (by omega)] at hb
            have := q2.mpr hb
            omega
          · unfold BM
            rw [if_pos (by omega)]
            exact q2.mp (by omega)
      · rintro ⟨f', q'⟩ υ ⟨hf', s1, s2, s3, s4, s5, s6, s7, s8, s9⟩
        dsimp only at s1 s2 s3 s4 s5 s6 s7 s8 s9
        have hC3 := hC.fr hf' (by decide)
        refine v_X4_change_59 ⟨fun z => absurd z (by decide), fun _ => ?_⟩
        simp (disch := omega) only [n0, n1, n2, n3, n4, n5, n6, n7, n8, n9, n49, n97, n98, n114, n102, n115, n119, n109, n112, i32_add, i32_mul, i32_N, i32_le, i32_lt, i32_eq, vpi_iff]
        rw [(hC3.2.1 k (by omega)).2.2.1]
        refine ⟨by omega, fun _ => ?_, fun z => absurd ((i32_le (by omega) (by omega)).mpr (Nat.le_refl _)) z⟩
        refine kk (f', q') υ ⟨hf', s1, s2, s3, s4, fun s h1 h2 => ?_, fun s hs => ?_, fun z => ⟨fun s hs => ?_, fun s m h1 h2 h3 h4 => ?_⟩, fun z => ?_⟩
        · show q' s = p s
          rw [s5 s (by omega)]; exact r5 s h1 (by omega)
        · show q' s = p s ∨ _
          by_cases e : s = k
          · subst e
            exact s6.imp id (fun y => ⟨hmine, hst, y⟩)
          · have := r6 s hs
            rw [s5 s e]
            have e3 : mv q' s = mv q s := by unfold mv; rw [s5 s e]
            show q s = p s ∨ (G 1 s = ia ∧ ¬ stop G aim s ∧ BM G aim ia x (mv q' s) (mv p s))
            rw [e3]
            exact this
        · show q' s = p s
          by_cases e : s = k
          · rw [e]; exact (s8 z).2
          · rw [s5 s e]; exact (r7 (s8 z).1).1 s hs
        · by_cases e : s = k
          · subst e
            obtain ⟨c, hc, rfl⟩ := h4
            have : mv p s = mv q' s := by unfold mv; rw [(s8 z).2]
            rw [this]
            exact s7 c hc
          · exact (r7 (s8 z).1).2 s m (by omega) h2 h3 h4
        · rcases s9 z with y | y
          · obtain ⟨s, hs, hne⟩ := r8 y
            by_cases e : s = k
            · subst e
              exact absurd (r5 s hs (Nat.le_refl s)) hne
            · exact ⟨s, hs, by show q' s ≠ p s; rw [s5 s e]; exact hne⟩
          · exact ⟨k, hk, y⟩
    refine v_X4_change_5 ?_
    rw [hC2.1.1]
    simp (disch := omega) only [n0, n1, n2, n3, n4, n5, n6, n7, n8, n9, n49, n97, n98, n114, n102, n115, n119, n109, n112, i32_add, i32_mul, i32_N, i32_le, i32_lt, i32_eq, vpi_iff]
    rw [(hC2.2.1 k (by omega)).1]
    simp (disch := omega) only [n0, n1, n2, n3, n4, n5, n6, n7, n8, n9, n49, n97, n98, n114, n102, n115, n119, n109, n112, i32_add, i32_mul, i32_N, i32_le, i32_lt, i32_eq, vpi_iff]
    refine ⟨fun z => by omega, fun _ => ⟨by omega, fun z => skip (Or.inl z), fun z => ⟨fun z2 => go z (fun y => z2 y.1), fun z2 => c_isT hC2 (by omega) (fun hT => ⟨fun _ => skip (Or.inr ⟨z2, hT⟩), fun y => absurd y (by decide)⟩) (fun hT => ⟨fun y => absurd rfl y, fun _ => go z (fun y => hT y.2)⟩)⟩⟩⟩
  · rintro ⟨f, q⟩ τ ⟨hf, r1, r2, r3, r4, r5, r6, r7, r8⟩
    dsimp only at r1 r2 r3 r4 r5 r6 r7 r8
    have hC2 := hC.fr hf (by decide)
    refine v_X4_change_5 ?_
    rw [hC2.1.1]
    refine ⟨fun _ => ⟨?_, h τ q f hf r1 r2 r3 r4 r6 (fun z => ⟨(r7 z).1, fun s m hs => (r7 z).2 s m hs⟩) r8⟩, fun z => absurd ((i32_le (by omega) (by omega)).mpr (Nat.le_refl _)) z⟩
    have : f = 0 ∨ f = 1 := by omega
    rcases this with rfl | rfl
    · exact Or.inl rfl
    · exact Or.inr rfl
end AHD
