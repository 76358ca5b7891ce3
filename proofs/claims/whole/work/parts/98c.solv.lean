/-! THE CALLS: solve -/
section SV2
variable {σ : cg_S} {G : Gm} {aim ch d : Nat} {x y : Nat → Rat} {u rk : Nat → Nat}
theorem rkv_m {a : Nat} (h : a < 12) : rkv a = -i32 1 ↔ a = 0 := (rkv_1 h).2.2
theorem q_num_pos {q : Rat} : 0 < q.num ↔ 0 < q := by
  have h1 := Rat.num_nonneg (q := q)
  have h2 := Rat.num_eq_zero (q := q)
  constructor
  · intro h
    exact Rat.lt_of_le_of_ne (h1.mp (by omega)) (fun e => by have := h2.mpr e.symm; omega)
  · intro h
    have a := h1.mpr (Rat.le_of_lt h)
    have b : q.num ≠ 0 := fun e => Rat.ne_of_gt h (h2.mp e)
    omega
/-- a state of 'a' that must come nearer to a target -/
def ledG (G : Gm) (aim : Nat) (x : Nat → Rat) (s : Nat) : Prop := aim = 114 ∧ gA G s ∧ ¬ TG G s ∧ 0 < x s
def okT (G : Gm) (aim : Nat) (x : Nat → Rat) (rk : Nat → Nat) (s c : Nat) : Prop := gdG G aim x s (3 * s + c) ∧ (ledG G aim x s → ∃ t, t < G 0 0 ∧ G 7 (7 * (3 * s + c) + t) ≠ 0 ∧ rk t ≠ 0 ∧ rk t < rk s)
/-- the choice that is told -/
def tbS (G : Gm) (aim : Nat) (x : Nat → Rat) (rk : Nat → Nat) (s c : Nat) : Prop := (c < G 3 s ∧ okT G aim x rk s c ∧ ∀ e, e < c → ¬ okT G aim x rk s e) ∨ (c = 0 ∧ ∀ e, e < G 3 s → ¬ okT G aim x rk s e)
theorem okT_congr {f : Nat → Nat} {s c : Nat} (hs : s < G 0 0) (hxy : ∀ t, t < G 0 0 → x t = y t) (hr : aim = 114 → ∀ t, t < G 0 0 → rk t = f t) : okT G aim x rk s c ↔ okT G aim y f s c := by
  have h1 : ∀ m, gdG G aim x s m ↔ gdG G aim y s m := fun m => by
    unfold gdG ahR tgR
    rw [c_ex_congr (x := x) (y := y) hxy, hxy s hs]
  have h2 : ledG G aim x s ↔ ledG G aim y s := by unfold ledG; rw [hxy s hs]
  unfold okT
  rw [h1, h2]
  refine and_congr Iff.rfl ⟨fun h hl => ?_, fun h hl => ?_⟩
  · obtain ⟨t, a, b, c, e⟩ := h hl
    have hr' := hr hl.1
    exact ⟨t, a, b, by rw [← hr' t a]; exact c, by rw [← hr' t a, ← hr' s hs]; exact e⟩
  · obtain ⟨t, a, b, c, e⟩ := h hl
    have hr' := hr hl.1
    exact ⟨t, a, b, by rw [hr' t a]; exact c, by rw [hr' t a, hr' s hs]; exact e⟩
theorem tbS_uniq {f : Nat → Nat} {s c e : Nat} (hs : s < G 0 0) (hxy : ∀ t, t < G 0 0 → x t = y t) (hr : aim = 114 → ∀ t, t < G 0 0 → rk t = f t) (h1 : tbS G aim x rk s c) (h2 : tbS G aim y f s e) : c = e := by
  have hk := fun c => okT_congr (aim := aim) (c := c) hs hxy hr
  rcases h1 with ⟨a1, a2, a3⟩ | ⟨a1, a2⟩ <;> rcases h2 with ⟨b1, b2, b3⟩ | ⟨b1, b2⟩
  · rcases Nat.lt_trichotomy c e with z | z | z
    · exact absurd ((hk c).mp a2) (b3 c z)
    · exact z
    · exact absurd ((hk e).mpr b2) (a3 e z)
  · exact absurd ((hk c).mp a2) (b2 c a1)
  · exact absurd ((hk e).mpr b2) (a2 e b1)
  · omega
theorem tbS_lt {s c : Nat} (hw : whole G) (hs : s < G 0 0) (h : tbS G aim x rk s c) : c < G 3 s := by
  rcases h with ⟨a1, -⟩ | ⟨a1, -⟩
  · exact a1
  · rw [a1]; exact (hw.2 s hs).1
/-- the game with what is told to the states below k -/
def gT (G : Gm) (tb : Nat → Nat) (k : Nat) : Gm := fun i j => if i = 10 then (if j < k then tb j else G 10 j) else G i j
theorem gT_0 {tb : Nat → Nat} : gT G tb 0 = G := by
  funext i j
  unfold gT
  split
  · rename_i h; rw [if_neg (by omega), h]
  · rfl
/-- how many are other ones -/
def ncG (G : Gm) (tb : Nat → Nat) : Nat → Nat
  | 0 => 0
  | k + 1 => ncG G tb k + if tb k = G 10 k then 0 else 1
theorem ncG_le (tb : Nat → Nat) (k : Nat) : ncG G tb k ≤ k := by
  induction k with
  | zero => exact Nat.le_refl 0
  | succ k ih => rw [ncG]; split <;> omega
/-! the reference -/
theorem m_leadsLower {s c r : Nat} {Q : Int32 → cg_S → Prop} (hG : MG σ G) (hW : GW G) (hr : RKc σ 6 (G 0 0) rk) (hrb : ∀ t, t < G 0 0 → rk t < 12) (hs : s < G 0 0) (hc : c < G 3 s) (hrr : r < 12) (hy : (∃ t, t < G 0 0 ∧ G 7 (7 * (3 * s + c) + t) ≠ 0 ∧ rk t ≠ 0 ∧ rk t < r) → Q 1 σ) (hno : ¬ (∃ t, t < G 0 0 ∧ G 7 (7 * (3 * s + c) + t) ≠ 0 ∧ rk t ≠ 0 ∧ rk t < r) → Q 0 σ) : M_X12_leadsLower (i32 s) (i32 c) (rkv r) σ Q := by
  have hn := hW.1
  have g3 := (hW.2.1 s (by omega)).2.2.1
  refine v_X12_leadsLower ?_
  refine up (n := G 0 0) (fun k τ => τ = σ ∧ ∀ t, t < k → ¬ (G 7 (7 * (3 * s + c) + t) ≠ 0 ∧ rk t ≠ 0 ∧ rk t < r)) (fun w τ => L_X12_leadsLower_3 (i32 s) (i32 c) (rkv r) w τ Q) ?_ ?_ 0 σ (by omega) ⟨rfl, fun t ht => by omega⟩
  · rintro k τ hk ⟨rfl, hP⟩ kk
    have hw7 := hW.w6 (m := 3 * s + c) (t := k) (by omega) (by omega)
    have hb := hrb k hk
    have skip : ¬ (G 7 (7 * (3 * s + c) + k) ≠ 0 ∧ rk k ≠ 0 ∧ rk k < r) → L_X12_leadsLower_3 (i32 s) (i32 c) (rkv r) (i32 (k + 1)) τ Q := fun z => kk τ ⟨rfl, fun t ht => by
      by_cases e : t = k
      · rw [e]; exact z
      · exact hP t (by omega)⟩
    refine v_X12_leadsLower_3 ?_
    rw [hG.1.1]
    simp (disch := omega) only [n0, n1, n2, n3, n4, n5, n6, n7, n8, n9, n49, n97, n98, n114, n102, n115, n119, n109, n112, i32_add, i32_mul, i32_N, i32_le, i32_lt, i32_eq, vpi_iff]
    rw [hG.2.2.2.2 (7 * (3 * s + c) + k) (by omega), hr k hk]
    simp (disch := omega) only [n0, n1, n2, n3, n4, n5, n6, n7, n8, n9, n49, n97, n98, n114, n102, n115, n119, n109, n112, i32_add, i32_mul, i32_N, i32_le, i32_lt, i32_eq, vpi_iff]
    rw [rkv_m hb, rkv_le hrr hb]
    exact ⟨fun z => by omega, fun _ => ⟨by omega, fun z => skip (fun y => by omega), fun z => ⟨by omega, fun z2 => skip (fun y => y.2.1 z2), fun z2 => ⟨by omega, fun z3 => skip (fun y => by omega), fun z3 => hy ⟨k, hk, by omega, z2, by omega⟩⟩⟩⟩⟩
  · rintro τ ⟨rfl, hP⟩
    refine v_X12_leadsLower_3 ?_
    rw [hG.1.1]
    exact ⟨fun _ => hno (fun ⟨t, ht, y⟩ => hP t ht y), fun z => absurd ((i32_le (by omega) (by omega)).mpr (Nat.le_refl _)) z⟩
theorem m_isRanked {s r : Nat} {w : Nat → Rat} {Q : Int32 → cg_S → Prop} (hW : GW G) (hw : whole G) (hG : MG σ G) (hm : mmb G 114 w) (hV : ∀ s, s < G 0 0 → VK1 σ (7 * aimN 114 + s) (w s)) (hr : RKc σ 6 (G 0 0) rk) (hrb : ∀ t, t < G 0 0 → rk t < 12) (hrr : r < 11) (hs : s < G 0 0) (hy : ∀ τ, Fr [] [0] [] σ τ → drC G w s (fun t => rk t ≠ 0 ∧ rk t < r + 1) → Q 1 τ) (hno : ∀ τ, Fr [] [0] [] σ τ → ¬ drC G w s (fun t => rk t ≠ 0 ∧ rk t < r + 1) → Q 0 τ) : M_X12_isRanked (i32 s) (i32 r) σ Q := by
  have hn := hW.1
  have g3 := (hW.2.1 s (by omega)).2.2.1
  have hown := ownG_lt G s
  refine v_X12_isRanked ?_
  refine up2 (n := G 3 s) (fun k (ab : Nat × Nat) τ => Fr [] [0] [] σ τ ∧ ab.1 ≤ 1 ∧ ab.2 ≤ 1 ∧ (ab.1 = 1 ↔ ∃ e, e < k ∧ gdG G 114 w s (3 * s + e) ∧ ∃ t, t < G 0 0 ∧ G 7 (7 * (3 * s + e) + t) ≠ 0 ∧ rk t ≠ 0 ∧ rk t < r + 1) ∧ (ab.2 = 1 ↔ ∀ e, e < k → gdG G 114 w s (3 * s + e) → ∃ t, t < G 0 0 ∧ G 7 (7 * (3 * s + e) + t) ≠ 0 ∧ rk t ≠ 0 ∧ rk t < r + 1)) (fun ab v τ => L_X12_isRanked_8 (i32 s) (i32 r) (i32 ab.1) (i32 ab.2) v τ Q) ?_ ?_ 0 (0, 1) σ (by omega) ⟨Fr.rf σ, by decide, by decide, ⟨fun z => absurd z (by decide), fun ⟨e, he, _⟩ => by omega⟩, ⟨fun _ e he => by omega, fun _ => rfl⟩⟩
  · rintro k ⟨a, b⟩ τ hk ⟨hf, a1, b1, ha, hb⟩ kk
    dsimp only at a1 b1 ha hb
    have hG2 := hG.fr hf (by decide)
    have hV2 : ∀ s, s < G 0 0 → VK1 τ (7 * aimN 114 + s) (w s) := fun s hs => (hV s hs).fr hf (by decide)
    have e3 := (hG2.2.2.1 s (by omega)).2.1
    refine v_X12_isRanked_8 ?_
    simp (disch := omega) only [n0, n1, n2, n3, n4, n5, n6, n7, n8, n9, n49, n97, n98, n114, n102, n115, n119, n109, n112, i32_add, i32_mul, i32_N, i32_le, i32_lt, i32_eq, vpi_iff]
    rw [e3]
    simp (disch := omega) only [n0, n1, n2, n3, n4, n5, n6, n7, n8, n9, n49, n97, n98, n114, n102, n115, n119, n109, n112, i32_add, i32_mul, i32_N, i32_le, i32_lt, i32_eq, vpi_iff]
    refine ⟨by omega, fun z => by omega, fun _ => ?_⟩
    refine m_isGood (aim := 114) hW hw (Or.inl rfl) hG2 hm hV2 hs hk (fun τ1 f1 hgd => ⟨fun _ => ?_, fun y => absurd y (by decide)⟩) (fun τ1 f1 hgd => ⟨fun y => absurd rfl y, fun _ => kk (a, b) τ1 ⟨hf.tr f1, a1, b1, ⟨fun z => ?_, fun ⟨e, he, h1, h2⟩ => ?_⟩, ⟨fun z e he h1 => ?_, fun h => hb.mpr (fun e he => h e (by omega))⟩⟩⟩)
    · have hr2 : RKc τ1 6 (G 0 0) rk := (hr.fr hf (by decide)).fr f1 (by decide)
      -- the end of a choice
      have fin : ∀ q : Nat, q ≤ 1 → (q = 1 ↔ ∃ t, t < G 0 0 ∧ G 7 (7 * (3 * s + k) + t) ≠ 0 ∧ rk t ≠ 0 ∧ rk t < r + 1) → ∀ a2 : Nat, a2 ≤ 1 → (a2 = 1 ↔ a = 1 ∨ q = 1) → L_X12_isRanked_58 (i32 s) (i32 r) (i32 b) (i32 k) (i32 q) (i32 a2) τ1 Q := fun q hq hqe a2 ha2 hae => by
        have nxt : ∀ b2 : Nat, b2 ≤ 1 → (b2 = 1 ↔ b = 1 ∧ q = 1) → L_X12_isRanked_8 (i32 s) (i32 r) (i32 a2) (i32 b2) (i32 (k + 1)) τ1 Q := fun b2 hb2 hbe => kk (a2, b2) τ1 ⟨hf.tr f1, ha2, hb2, ⟨fun z => ?_, fun ⟨e, he, h1, h2⟩ => ?_⟩, ⟨fun z e he h1 => ?_, fun h => ?_⟩⟩
        · refine v_X12_isRanked_58 ?_
          simp (disch := omega) only [n0, n1, n2, n3, n4, n5, n6, n7, n8, n9, n49, n97, n98, n114, n102, n115, n119, n109, n112, i32_add, i32_mul, i32_N, i32_le, i32_lt, i32_eq, vpi_iff]
          exact ⟨fun z => nxt 0 (by omega) (by omega), fun z => ⟨fun z2 => nxt 0 (by omega) (by omega), fun z2 => nxt 1 (by omega) (by omega)⟩⟩
        · rcases hae.mp z with y | y
          · obtain ⟨e, he, h⟩ := ha.mp y
            exact ⟨e, by omega, h⟩
          · exact ⟨k, by omega, hgd, hqe.mp y⟩
        · refine hae.mpr ?_
          by_cases c : e = k
          · rw [c] at h2; exact Or.inr (hqe.mpr h2)
          · exact Or.inl (ha.mpr ⟨e, by omega, h1, h2⟩)
        · obtain ⟨y1, y2⟩ := hbe.mp z
          by_cases c : e = k
          · rw [c]; exact hqe.mp y2
          · exact hb.mp y1 e (by omega) h1
        · exact hbe.mpr ⟨hb.mpr (fun e he => h e (by omega)), hqe.mpr (h k (by omega) hgd)⟩
      have hll := m_leadsLower (r := r + 1) (Q := fun r6 s7 => (¬ i32 a = 0 → L_X12_isRanked_58 (i32 s) (i32 r) (i32 b) (i32 k) r6 1 s7 Q) ∧ (i32 a = 0 → (r6 = 0 → L_X12_isRanked_58 (i32 s) (i32 r) (i32 b) (i32 k) r6 0 s7 Q) ∧ (¬ r6 = 0 → L_X12_isRanked_58 (i32 s) (i32 r) (i32 b) (i32 k) r6 1 s7 Q))) (hG2.fr f1 (by decide)) hW hr2 hrb hs hk (by omega) (fun hex => ?_) (fun hex => ?_)
      · rw [rkv_s] at hll
        simp (disch := omega) only [n0, n1, n2, n3, n4, n5, n6, n7, n8, n9, n49, n97, n98, n114, n102, n115, n119, n109, n112, i32_add, i32_mul, i32_N, i32_le, i32_lt, i32_eq, vpi_iff] at hll
        exact hll
      · have z0 : (0 : Int32) = i32 0 := rfl
        rw [z0, i32_eq (by omega) (by omega)]
        exact ⟨fun z => fin 1 (by omega) ⟨fun _ => hex, fun _ => rfl⟩ 1 (by omega) (by omega), fun z => ⟨fun y => absurd y (by decide), fun _ => fin 1 (by omega) ⟨fun _ => hex, fun _ => rfl⟩ 1 (by omega) (by omega)⟩⟩
      · have z0 : (0 : Int32) = i32 0 := rfl
        rw [z0, i32_eq (by omega) (by omega)]
        exact ⟨fun z => fin 0 (by omega) ⟨fun y => by omega, fun y => absurd y hex⟩ 1 (by omega) (by omega), fun z => ⟨fun _ => fin 0 (by omega) ⟨fun y => by omega, fun y => absurd y hex⟩ 0 (by omega) (by omega), fun y => absurd rfl y⟩⟩
    · obtain ⟨e, he, h⟩ := ha.mp z
      exact ⟨e, by omega, h⟩
    · refine ha.mpr ⟨e, ?_, h1, h2⟩
      by_cases c : e = k
      · rw [c] at h1; exact absurd h1 hgd
      · omega
    · by_cases c : e = k
      · rw [c] at h1; exact absurd h1 hgd
      · exact hb.mp z e (by omega) h1
  · rintro ⟨a, b⟩ τ ⟨hf, a1, b1, ha, hb⟩
    dsimp only at a1 b1 ha hb
    have hG2 := hG.fr hf (by decide)
    have e3 := (hG2.2.2.1 s (by omega)).2.1
    have e1 : τ.1 1 s = i32 (ownG G s) := hG2.2.1 s hs
    refine v_X12_isRanked_8 ?_
    simp (disch := omega) only [n0, n1, n2, n3, n4, n5, n6, n7, n8, n9, n49, n97, n98, n114, n102, n115, n119, n109, n112, i32_add, i32_mul, i32_N, i32_le, i32_lt, i32_eq, vpi_iff]
    rw [e3, e1]
    refine ⟨by omega, fun _ => ⟨by omega, fun z => ?_, fun z => ?_⟩, fun z => absurd ((i32_le (by omega) (by omega)).mpr (Nat.le_refl _)) z⟩
    · rw [i32_eq (by omega) (by omega)] at z
      have hA : ¬ gA G s := fun y => z (by unfold ownG; rw [if_pos (c := G 1 s = 1) y])
      have : b = 0 ∨ b = 1 := by omega
      rcases this with rfl | rfl
      · refine ⟨Or.inl rfl, hno τ hf (fun y => ?_)⟩
        rcases y with ⟨y, -⟩ | ⟨-, y⟩
        · exact hA y
        · have := hb.mpr (fun e he h1 => y e he h1); omega
      · exact ⟨Or.inr rfl, hy τ hf (Or.inr ⟨hA, fun e he h1 => hb.mp rfl e he h1⟩)⟩
    · rw [i32_eq (by omega) (by omega)] at z
      have hA : gA G s := by
        unfold ownG at z
        split at z
        · assumption
        · omega
      have : a = 0 ∨ a = 1 := by omega
      rcases this with rfl | rfl
      · refine ⟨Or.inl rfl, hno τ hf (fun y => ?_)⟩
        rcases y with ⟨-, e, he, h1, h2⟩ | ⟨y, -⟩
        · have := ha.mpr ⟨e, he, h1, h2⟩; omega
        · exact y hA
      · obtain ⟨e, he, h1, h2⟩ := ha.mp rfl
        exact ⟨Or.inr rfl, hy τ hf (Or.inl ⟨hA, e, he, h1, h2⟩)⟩
theorem m_ranks {w : Nat → Rat} {Q : cg_S → Prop} (hW : GW G) (hw : whole G) (hG : MG σ G) (hm : mmb G 114 w) (hV : ∀ s, s < G 0 0 → VK1 σ (7 * aimN 114 + s) (w s)) (h : ∀ τ rk, Fr [6] [0] [] σ τ → RKc τ 6 (G 0 0) rk → RKS G w 7 rk → Q τ) : M_X12_ranks σ Q := by
  have hn := hW.1
  have e28 : ∀ s, 7 * aimN 114 + s = s := fun s => by unfold aimN; rw [if_pos rfl]; omega
  refine v_X12_ranks ?_
  refine up (n := G 0 0) (fun k τ => Fr [6] [0] [] σ τ ∧ RKc τ 6 k (fun s => if G 8 s ≠ 0 then 1 else 0)) (fun v τ => L_X12_ranks_2 v τ Q) ?_ ?_ 0 σ (by omega) ⟨Fr.rf σ, fun s hs => by omega⟩
  · rintro k τ hk ⟨hf, hP⟩ kk
    have hG2 := hG.fr hf (by decide)
    have h8 := (hW.2.1 k (by omega)).2.2.2.1
    have nxt : ∀ v : Int32, v = rkv (if G 8 k ≠ 0 then 1 else 0) → L_X12_ranks_2 (i32 (k + 1)) (cg_i τ 6 k v) Q := by
      rintro _ rfl
      refine kk _ ⟨hf.tr (Fr.i (by decide)), fun s hs => ?_⟩
      rw [ri, if_pos rfl]
      by_cases c : s = k
      · rw [if_pos c, c]
      · rw [if_neg c]; exact hP s (by omega)
    refine v_X12_ranks_2 ?_
    rw [hG2.1.1]
    simp (disch := omega) only [n0, n1, n2, n3, n4, n5, n6, n7, n8, n9, n49, n97, n98, n114, n102, n115, n119, n109, n112, i32_add, i32_mul, i32_N, i32_le, i32_lt, i32_eq, vpi_iff]
    rw [(hG2.2.2.1 k (by omega)).2.2.1]
    simp (disch := omega) only [n0, n1, n2, n3, n4, n5, n6, n7, n8, n9, n49, n97, n98, n114, n102, n115, n119, n109, n112, i32_add, i32_mul, i32_N, i32_le, i32_lt, i32_eq, vpi_iff]
    refine ⟨fun z => by omega, fun _ => ⟨by omega, fun z => ⟨by omega, ?_⟩, fun z => ⟨by omega, ?_⟩⟩⟩
    · rintro _ rfl
      exact nxt _ (by rw [if_neg (by omega)]; rfl)
    · rintro _ rfl
      exact nxt _ (by rw [if_pos (by omega)]; rfl)
  · rintro τ ⟨hf, hP⟩
    have hG2 := hG.fr hf (by decide)
    refine v_X12_ranks_2 ?_
    rw [hG2.1.1]
    refine ⟨fun _ => ?_, fun z => absurd ((i32_le (by omega) (by omega)).mpr (Nat.le_refl _)) z⟩
    have key : ∀ r k, k + r = 7 → ∀ υ rk, Fr [6] [0] [] σ υ → RKc υ 6 (G 0 0) rk → RKS G w k rk → L_X12_ranks_38 (i32 (k + 1)) υ Q := by
      intro r
      induction r with
      | zero =>
        intro k hk υ rk hf2 h1 h2
        have : k = 7 := by omega
        subst this
        exact v_X12_ranks_38 ⟨fun _ => h υ rk hf2 h1 h2, fun z => absurd (by decide) z⟩
      | succ r ih =>
        intro k hk υ rk hf2 h1 h2
        have hb0 := RKS_le k h2
        refine v_X12_ranks_38 ?_
        simp (disch := omega) only [n0, n1, n2, n3, n4, n5, n6, n7, n8, n9, n49, n97, n98, n114, n102, n115, n119, n109, n112, i32_add, i32_mul, i32_N, i32_le, i32_lt, i32_eq, vpi_iff]
        refine ⟨fun z => by omega, fun _ => ?_⟩
        refine up2 (n := G 0 0) (fun s (f : Nat → Nat) ω => Fr [6] [0] [] σ ω ∧ RKc ω 6 (G 0 0) f ∧ (∀ t, t < G 0 0 → f t = rk t ∨ (rk t = 0 ∧ f t = k + 2)) ∧ (∀ t, t < G 0 0 → s ≤ t → f t = rk t) ∧ ∀ t, t < s → (rk t ≠ 0 → f t = rk t) ∧ (rk t = 0 → 0 < w t → drC G w t (fun t => rk t ≠ 0) → f t = k + 2) ∧ (rk t = 0 → ¬ (0 < w t ∧ drC G w t (fun t => rk t ≠ 0)) → f t = 0)) (fun _ v ω => L_X12_ranks_46 (i32 (k + 1)) v ω Q) ?_ ?_ 0 rk υ (by omega) ⟨hf2, h1, fun _ _ => Or.inl rfl, fun _ _ _ => rfl, fun t ht => by omega⟩
        · rintro s f ω hs ⟨hf3, r1, r2, r3, r4⟩ kk
          have hG3 := hG.fr hf3 (by decide)
          have hfs := r3 s hs (Nat.le_refl s)
          have hle := hb0 s hs
          have hfb : ∀ t, t < G 0 0 → f t < 12 := fun t ht => by have := hb0 t ht; rcases r2 t ht with e | e <;> omega
          have skip : ∀ ω', Fr [] [0] [] ω ω' → (rk s ≠ 0 ∨ ¬ (0 < w s ∧ drC G w s (fun t => rk t ≠ 0))) → L_X12_ranks_46 (i32 (k + 1)) (i32 (s + 1)) ω' Q := fun ω' g hsk => kk f ω' ⟨hf3.tr (g.mo (by simp) (fun _ z => z) (fun _ z => z)), r1.fr g (by decide), r2, fun t h5 h6 => r3 t h5 (by omega), fun t ht => by
            by_cases c : t = s
            · rw [c]
              refine ⟨fun _ => hfs, fun z z1 z2 => ?_, fun z _ => by rw [hfs]; exact z⟩
              rcases hsk with y | y
              · exact absurd z y
              · exact absurd ⟨z1, z2⟩ y
            · exact r4 t (by omega)⟩
          have hE : drC G w s (fun t => f t ≠ 0 ∧ f t < k + 1 + 1) ↔ drC G w s (fun t => rk t ≠ 0) := drC_congr hs (fun t ht => by
            have := hb0 t ht
            rcases r2 t ht with e | e <;> omega) (fun _ _ => rfl)
          have hVs := (hV s hs).fr hf3 (by decide)
          obtain ⟨v1, v2, v3, v4⟩ := hVs
          rw [e28] at v3
          unfold zfit at v1
          refine v_X12_ranks_46 ?_
          rw [hG3.1.1]
          simp (disch := omega) only [n0, n1, n2, n3, n4, n5, n6, n7, n8, n9, n49, n97, n98, n114, n102, n115, n119, n109, n112, i32_add, i32_mul, i32_N, i32_le, i32_lt, i32_eq, vpi_iff]
          rw [r1 s hs, hfs, v3, rkv_m (a := rk s) (by omega), l0, i64_le (by omega) (by omega)]
          refine ⟨fun z => by omega, fun _ => ⟨by omega, fun z => skip ω (Fr.rf ω) (Or.inl z), fun z => ⟨by omega, fun z2 => skip ω (Fr.rf ω) (Or.inr (fun y => ?_)), fun z2 => ?_⟩⟩⟩
          · have := q_num_pos.mpr y.1; omega
          · have hpos : 0 < w s := q_num_pos.mp (by omega)
            refine m_isRanked (r := k + 1) hW hw hG3 hm (fun s hs => (hV s hs).fr hf3 (by decide)) r1 hfb (by omega) hs (fun ω' g hd => ⟨fun y => absurd y (by decide), fun _ => ⟨by omega, ?_⟩⟩) (fun ω' g hd => ⟨fun _ => skip ω' g (Or.inr (fun y => hd (hE.mpr y.2))), fun y => absurd rfl y⟩)
            have hd' := hE.mp hd
            rintro _ rfl
            refine kk (upd1 f s (k + 2)) _ ⟨hf3.tr ((g.mo (by simp) (fun _ z => z) (fun _ z => z)).tr (Fr.i (by decide))), fun t ht => ?_, fun t ht => ?_, fun t h5 h6 => ?_, fun t ht => ?_⟩
            · unfold upd1
              rw [ri, if_pos rfl]
              by_cases c : t = s
              · rw [if_pos c, if_pos c, rkv_s]
              · rw [if_neg c, if_neg c, g.1 6 (by decide)]; exact r1 t ht
            · unfold upd1
              by_cases c : t = s
              · rw [if_pos c, c]; exact Or.inr ⟨z, rfl⟩
              · rw [if_neg c]; exact r2 t ht
            · unfold upd1
              rw [if_neg (by omega)]; exact r3 t h5 (by omega)
            · unfold upd1
              by_cases c : t = s
              · rw [if_pos c, c]
                exact ⟨fun y => absurd z y, fun _ _ _ => rfl, fun _ y => absurd ⟨hpos, hd'⟩ y⟩
              · rw [if_neg c]; exact r4 t (by omega)
        · rintro f ω ⟨hf3, r1, r2, r3, r4⟩
          have hG3 := hG.fr hf3 (by decide)
          refine v_X12_ranks_46 ?_
          rw [hG3.1.1]
          simp only [i32_s]
          exact ⟨fun _ => ih (k + 1) (by omega) ω f hf3 r1 ⟨rk, h2, fun t ht => r4 t ht⟩, fun z => absurd ((i32_le (by omega) (by omega)).mpr (Nat.le_refl _)) z⟩
    exact key 7 0 (by omega) τ _ hf hP (fun s _ => rfl)
theorem m_best {s : Nat} {w : Nat → Rat} {Q : Int32 → cg_S → Prop} (hW : GW G) (hw : whole G) (ha : okA aim) (hG : MG σ G) (hm : mmb G aim w) (hV : ∀ s, s < G 0 0 → VK1 σ (7 * aimN aim + s) (w s)) (hr : aim = 114 → RKc σ 6 (G 0 0) rk ∧ ∀ t, t < G 0 0 → rk t < 12) (hs : s < G 0 0) (h : ∀ τ c, Fr [] [0] [] σ τ → tbS G aim w rk s c → Q (i32 c) τ) : M_X12_best (i32 aim) (i32 s) σ Q := by
  have hn := hW.1
  have ha2 := okA_lt ha
  have g3 := (hW.2.1 s (by omega)).2.2.1
  have hown := ownG_lt G s
  have core : ∀ b : Nat, b ≤ 1 → (b = 1 ↔ ledG G aim w s) → L_X12_best_46 (i32 aim) (i32 s) (i32 b) 0 σ Q := fun b hb hbe => by
    refine up (n := G 3 s) (fun k τ => Fr [] [0] [] σ τ ∧ ∀ e, e < k → ¬ okT G aim w rk s e) (fun v τ => L_X12_best_46 (i32 aim) (i32 s) (i32 b) v τ Q) ?_ ?_ 0 σ (by omega) ⟨Fr.rf σ, fun e he => by omega⟩
    · rintro k τ hk ⟨hf, hP⟩ kk
      have hG2 := hG.fr hf (by decide)
      have skip : ∀ τ', Fr [] [0] [] τ τ' → ¬ okT G aim w rk s k → L_X12_best_46 (i32 aim) (i32 s) (i32 b) (i32 (k + 1)) τ' Q := fun τ' g hno => kk τ' ⟨hf.tr g, fun e he => by
        by_cases c : e = k
        · rw [c]; exact hno
        · exact hP e (by omega)⟩
      refine v_X12_best_46 ?_
      simp (disch := omega) only [n0, n1, n2, n3, n4, n5, n6, n7, n8, n9, n49, n97, n98, n114, n102, n115, n119, n109, n112, i32_add, i32_mul, i32_N, i32_le, i32_lt, i32_eq, vpi_iff]
      rw [(hG2.2.2.1 s (by omega)).2.1]
      simp (disch := omega) only [n0, n1, n2, n3, n4, n5, n6, n7, n8, n9, n49, n97, n98, n114, n102, n115, n119, n109, n112, i32_add, i32_mul, i32_N, i32_le, i32_lt, i32_eq, vpi_iff]
      refine ⟨by omega, fun z => by omega, fun _ => ?_⟩
      refine m_isGood hW hw ha hG2 hm (fun s hs => (hV s hs).fr hf (by decide)) hs hk (fun τ1 g hgd => ⟨fun y => absurd y (by decide), fun _ => ⟨fun z => ?_, fun z => ⟨by omega, ?_⟩⟩⟩) (fun τ1 g hgd => ⟨fun _ => skip τ1 g (fun y => hgd y.1), fun y => absurd rfl y⟩)
      · exact h τ1 k (hf.tr g) (Or.inl ⟨hk, ⟨hgd, fun y => by have := hbe.mpr y; omega⟩, hP⟩)
      · have hl := hbe.mp (by omega)
        obtain ⟨r1, r2⟩ := hr hl.1
        have r1' : RKc τ1 6 (G 0 0) rk := (r1.fr hf (by decide)).fr g (by decide)
        rw [r1' s hs]
        exact m_leadsLower (hG2.fr g (by decide)) hW r1' r2 hs hk (r2 s hs) (fun hex => ⟨fun y => absurd y (by decide), fun _ => h τ1 k (hf.tr g) (Or.inl ⟨hk, ⟨hgd, fun _ => hex⟩, hP⟩)⟩) (fun hex => ⟨fun _ => skip τ1 g (fun y => hex (y.2 hl)), fun y => absurd rfl y⟩)
    · rintro τ ⟨hf, hP⟩
      have hG2 := hG.fr hf (by decide)
      refine v_X12_best_46 ?_
      simp (disch := omega) only [n0, n1, n2, n3, n4, n5, n6, n7, n8, n9, n49, n97, n98, n114, n102, n115, n119, n109, n112, i32_add, i32_mul, i32_N, i32_le, i32_lt, i32_eq, vpi_iff]
      rw [(hG2.2.2.1 s (by omega)).2.1]
      exact ⟨by omega, fun _ => h τ 0 hf (Or.inr ⟨rfl, hP⟩), fun z => absurd ((i32_le (by omega) (by omega)).mpr (Nat.le_refl _)) z⟩
  have e1 : σ.1 1 s = i32 (ownG G s) := hG.2.1 s hs
  have h8 := (hW.2.1 s (by omega)).2.2.2.1
  have hA : gA G s ↔ ownG G s = 97 := by
    unfold gA ownG
    split
    · exact ⟨fun _ => rfl, fun _ => by assumption⟩
    · exact ⟨fun z => absurd z (by assumption), fun z => absurd z (by decide)⟩
  refine v_X12_best ?_
  simp (disch := omega) only [n0, n1, n2, n3, n4, n5, n6, n7, n8, n9, n49, n97, n98, n114, n102, n115, n119, n109, n112, i32_add, i32_mul, i32_N, i32_le, i32_lt, i32_eq, vpi_iff]
  refine ⟨fun z => core 0 (by omega) ⟨fun y => by omega, fun y => absurd y.1 z⟩, fun z => ⟨by omega, ?_⟩⟩
  subst z
  have e28 : ∀ s, 7 * aimN 114 + s = s := fun s => by unfold aimN; rw [if_pos rfl]; omega
  obtain ⟨v1, v2, v3, v4⟩ := hV s hs
  rw [e28] at v3
  unfold zfit at v1
  rw [e1, (hG.2.2.1 s (by omega)).2.2.1, v3, l0, i64_le (by omega) (by omega)]
  simp (disch := omega) only [n0, n1, n2, n3, n4, n5, n6, n7, n8, n9, n49, n97, n98, n114, n102, n115, n119, n109, n112, i32_add, i32_mul, i32_N, i32_le, i32_lt, i32_eq, vpi_iff]
  refine ⟨fun z => core 0 (by omega) ⟨fun y => by omega, fun y => absurd (hA.mp y.2.1) z⟩, fun z => ⟨by omega, fun z2 => core 0 (by omega) ⟨fun y => by omega, fun y => absurd z2 y.2.2.1⟩, fun z2 => ⟨by omega, fun z3 => core 0 (by omega) ⟨fun y => by omega, fun y => ?_⟩, fun z3 => core 1 (by omega) ⟨fun _ => ⟨rfl, hA.mpr z, fun y => ?_, q_num_pos.mp (by omega)⟩, fun _ => rfl⟩⟩⟩⟩
  · have := q_num_pos.mpr y.2.2.2; omega
  · have : G 8 s ≠ 0 := y
    omega
theorem m_solve {v : Int32} {b : cg_S} {Q : Int32 → cg_S → Prop} (hR : RB b G) (hbad1 : (∀ aim, okA aim → v ≠ i32 aim) → Q 0 (cg_i b 0 0 (i32 1))) (hbad2 : ∀ aim, okA aim → v = i32 aim → ¬ whole G → Q 0 (cg_i b 0 0 (i32 2))) (hok : ∀ aim w rk tb τ, okA aim → v = i32 aim → whole G → mmb G aim w → (aim = 114 → RKS G w 7 rk) → (∀ s, s < G 0 0 → tbS G aim w rk s (tb s)) → RB τ (gT G tb (G 0 0)) → τ.1 0 0 = i32 0 → Q (i32 (ncG G tb (G 0 0))) τ) : M_X12_solve v b Q := by
  obtain ⟨hW, hG, ⟨p, hp⟩, hK⟩ := id hR
  have hn := hW.1
  refine v_X12_solve (m_numberOf2 (fun aim ha hv => ⟨fun _ => ?_, fun z => absurd z (aimN_ne aim)⟩) (fun hno => ⟨fun z => absurd rfl z, fun _ => ?_⟩))
  · refine m_isAll hW hG (fun hw => ⟨fun _ => ?_, fun z => absurd z (by decide)⟩) (fun hw => ⟨fun z => absurd rfl z, fun _ => ?_⟩)
    · refine v_X12_solve_25 ?_
      rintro _ rfl
      have f0 : Fr [0] [] [] b (cg_i b 0 0 0) := Fr.i (by decide)
      have e1 : (cg_i b 0 0 0).1 0 0 = i32 0 := by rw [ri, if_pos rfl, if_pos rfl]; rfl
      refine ⟨fun _ => ?_, fun z => absurd (by rw [e1]; decide) z⟩
      rw [hv]
      refine m_values hW hw ha (hp.fr f0 (by decide)) (hG.c0 (Or.inl rfl)) (hK.fr f0 (by decide)) (fun τ1 w p1 g1 g2 g3 g4 g5 g6 g7 => ?_)
      have hG1 := (hG.c0 (x := 0) (Or.inl rfl)).fr g1 (by decide)
      have e01 : τ1.1 0 0 = i32 0 := by rw [g1.1 0 (by decide), e1]
      have ha2 := okA_lt ha
      -- the told choices, one after another
      have tells : ∀ (τ2 : cg_S) (rk : Nat → Nat), Fr [6] [0] [] τ1 τ2 → (aim = 114 → RKc τ2 6 (G 0 0) rk ∧ RKS G w 7 rk) → L_X12_solve_56 (i32 aim) 0 0 τ2 Q := fun τ2 rk f2 hrk => by
        refine up2 (n := G 0 0) (fun k (vt : Int32 × (Nat → Nat)) τ => Fr [4] [0] [] τ2 τ ∧ vt.1 = i32 (ncG G vt.2 k) ∧ (∀ s, s < k → tbS G aim w rk s (vt.2 s)) ∧ MG τ (gT G vt.2 k)) (fun vt v τ => L_X12_solve_56 (i32 aim) vt.1 v τ Q) ?_ ?_ 0 ((0 : Int32), fun _ => 0) τ2 (by omega) ⟨Fr.rf τ2, rfl, fun s hs => by omega, by rw [gT_0]; exact hG1.fr f2 (by decide)⟩
        · rintro k ⟨v, tb⟩ τ hk ⟨hf, hv', hT, hGk⟩ kk
          dsimp only at hv' hT hGk
          subst hv'
          have hfall : Fr [4, 6] [0] [] τ1 τ := (f2.mo (by simp) (fun _ z => z) (fun _ z => z)).tr (hf.mo (by simp) (fun _ z => z) (fun _ z => z))
          have hVk : ∀ s, s < G 0 0 → VK1 τ (7 * aimN aim + s) (w s) := fun s hs => (g7 s hs).fr hfall (by decide)
          have hncl := ncG_le (G := G) tb k
          -- the game as it is now
          have hWk : GW (gT G tb k) := by
            obtain ⟨h1, h2, h3, h4⟩ := hW
            refine ⟨h1, fun t ht => ?_, h3, h4⟩
            obtain ⟨a1, a2, a3, a4, a5, a6⟩ := h2 t ht
            by_cases c : t < k
            · have hlt := tbS_lt hw (show t < G 0 0 by omega) (hT t c)
              refine ⟨a1, a2, a3, a4, ?_, ?_⟩
              · show (if t < k then tb t else G 10 t) ≤ 2
                rw [if_pos c]; omega
              · show (if t < k then tb t else G 10 t) = 0 ∨ (if t < k then tb t else G 10 t) < G 3 t
                rw [if_pos c]; exact Or.inr hlt
            · refine ⟨a1, a2, a3, a4, ?_, ?_⟩
              · show (if t < k then tb t else G 10 t) ≤ 2
                rw [if_neg c]; exact a5
              · show (if t < k then tb t else G 10 t) = 0 ∨ (if t < k then tb t else G 10 t) < G 3 t
                rw [if_neg c]; exact a6
          refine v_X12_solve_56 ?_
          rw [hGk.1.1]
          rw [show gT G tb k 0 0 = G 0 0 from rfl]
          simp (disch := omega) only [n0, n1, n2, n3, n4, n5, n6, n7, n8, n9, n49, n97, n98, n114, n102, n115, n119, n109, n112, i32_add, i32_mul, i32_N, i32_le, i32_lt, i32_eq, vpi_iff]
          refine ⟨fun z => by omega, fun _ => ?_⟩
          refine m_best (G := gT G tb k) (rk := rk) (w := w) hWk hw ha hGk g6 hVk (fun e => ⟨((hrk e).1.fr hf (by decide)), fun t ht => by have := RKS_le 7 (hrk e).2 t ht; omega⟩) hk (fun τ3 c k1 hc => ?_)
          have hc' : tbS G aim w rk k c := hc
          have hclt := tbS_lt hw hk hc'
          have g3k := (hW.2.1 k (by omega)).2.2.1
          have g10 := (hW.2.1 k (by omega)).2.2.2.2.1
          have hG3 := hGk.fr k1 (by decide)
          have e10 : τ3.1 4 k = i32 (G 10 k) := by
            have := (hG3.2.2.1 k (by omega)).2.2.2
            rw [this]
            show i32 (if k < k then tb k else G 10 k) = _
            rw [if_neg (Nat.lt_irrefl k)]
          have hnc : ncG G (upd1 tb k c) (k + 1) = ncG G tb k + (if c = G 10 k then 0 else 1) := by
            rw [ncG]
            have e5 : upd1 tb k c k = c := by unfold upd1; rw [if_pos rfl]
            rw [e5]
            congr 1
            have : ∀ j, j ≤ k → ncG G (upd1 tb k c) j = ncG G tb j := by
              intro j
              induction j with
              | zero => intro _; rfl
              | succ j ih =>
                intro hj
                rw [ncG, ncG, ih (by omega)]
                have : upd1 tb k c j = tb j := by unfold upd1; rw [if_neg (by omega)]
                rw [this]
            exact this k (Nat.le_refl k)
          -- behind it
          have nxt : ∀ q : Nat, q = (if c = G 10 k then 0 else 1) → L_X12_solve_89 (i32 aim) (i32 k) (i32 c) (i32 (ncG G tb k)) (i32 q) τ3 Q := fun q hq => by
            refine v_X12_solve_89 ?_
            simp (disch := omega) only [n0, n1, n2, n3, n4, n5, n6, n7, n8, n9, n49, n97, n98, n114, n102, n115, n119, n109, n112, i32_add, i32_mul, i32_N, i32_le, i32_lt, i32_eq, vpi_iff]
            rintro _ rfl
            refine ⟨by omega, ?_⟩
            rintro _ rfl
            refine kk (_, upd1 tb k c) _ ⟨hf.tr ((k1.mo (by simp) (fun _ z => z) (fun _ z => z)).tr (Fr.i (by decide))), ?_, fun s hs => ?_, ?_⟩
            · show i32 _ = i32 (ncG G (upd1 tb k c) (k + 1))
              rw [hnc, hq]
            · show tbS G aim w rk s (upd1 tb k c s)
              unfold upd1
              by_cases e : s = k
              · rw [if_pos e, e]; exact hc'
              · rw [if_neg e]; exact hT s (by omega)
            · show MG _ (gT G (upd1 tb k c) (k + 1))
              obtain ⟨b1, b6, b7, b8, b9⟩ := hG3
              have fr4 : Fr [4] [] [] τ3 (cg_i τ3 4 k (i32 c)) := Fr.i (by decide)
              refine ⟨?_, fun t ht => ?_, fun t ht => ?_, fun m hm => ?_, fun j hj => ?_⟩
              · rw [fr4.1 0 (by decide)]; exact b1
              · rw [fr4.1 1 (by decide)]; exact b6 t ht
              · obtain ⟨d1, d2, d3, d4⟩ := b7 t ht
                refine ⟨by rw [fr4.1 2 (by decide)]; exact d1, by rw [fr4.1 3 (by decide)]; exact d2, by rw [fr4.1 15 (by decide)]; exact d3, ?_⟩
                rw [ri, if_pos rfl]
                show _ = i32 (if t < k + 1 then upd1 tb k c t else G 10 t)
                by_cases e : t = k
                · rw [if_pos e, if_pos (by omega)]
                  unfold upd1
                  rw [if_pos e]
                · rw [if_neg e, d4]
                  show i32 (if t < k then tb t else G 10 t) = _
                  unfold upd1
                  by_cases e2 : t < k
                  · rw [if_pos e2, if_pos (by omega), if_neg e]
                  · rw [if_neg e2, if_neg (by omega)]
              · rw [fr4.1 7 (by decide), fr4.1 8 (by decide), fr4.1 9 (by decide)]; exact b8 m hm
              · rw [fr4.1 10 (by decide)]; exact b9 j hj
          rw [e10, i32_eq (by omega) (by omega)]
          exact ⟨by omega, fun z => nxt 1 (by rw [if_neg z]), fun z => nxt 0 (by rw [if_pos z])⟩
        · rintro ⟨v, tb⟩ τ ⟨hf, hv', hT, hGk⟩
          dsimp only at hv' hT hGk
          subst hv'
          have hfall : Fr [4, 6] [0] [] τ1 τ := (f2.mo (by simp) (fun _ z => z) (fun _ z => z)).tr (hf.mo (by simp) (fun _ z => z) (fun _ z => z))
          refine v_X12_solve_56 ?_
          rw [hGk.1.1]
          rw [show gT G tb (G 0 0) 0 0 = G 0 0 from rfl]
          refine ⟨fun _ => hok aim w rk tb τ ha hv hw g6 (fun e => (hrk e).2) hT ⟨?_, hGk, ⟨p1, g3.fr hfall (by decide)⟩, g4.fr hfall (by decide)⟩ (by rw [hfall.1 0 (by decide)]; exact e01), fun z => absurd ((i32_le (by omega) (by omega)).mpr (Nat.le_refl _)) z⟩
          obtain ⟨h1, h2, h3, h4⟩ := hW
          refine ⟨h1, fun t ht => ?_, h3, h4⟩
          obtain ⟨a1, a2, a3, a4, a5, a6⟩ := h2 t ht
          by_cases c : t < G 0 0
          · have hlt := tbS_lt hw c (hT t c)
            refine ⟨a1, a2, a3, a4, ?_, ?_⟩
            · show (if t < G 0 0 then tb t else G 10 t) ≤ 2
              rw [if_pos c]; omega
            · show (if t < G 0 0 then tb t else G 10 t) = 0 ∨ (if t < G 0 0 then tb t else G 10 t) < G 3 t
              rw [if_pos c]; exact Or.inr hlt
          · refine ⟨a1, a2, a3, a4, ?_, ?_⟩
            · show (if t < G 0 0 then tb t else G 10 t) ≤ 2
              rw [if_neg c]; exact a5
            · show (if t < G 0 0 then tb t else G 10 t) = 0 ∨ (if t < G 0 0 then tb t else G 10 t) < G 3 t
              rw [if_neg c]; exact a6
      simp (disch := omega) only [n0, n1, n2, n3, n4, n5, n6, n7, n8, n9, n49, n97, n98, n114, n102, n115, n119, n109, n112, i32_add, i32_mul, i32_N, i32_le, i32_lt, i32_eq, vpi_iff]
      refine ⟨fun z => tells τ1 (fun _ => 0) (Fr.rf τ1) (fun e => absurd e z), fun z => ?_⟩
      subst z
      exact m_ranks hW hw hG1 g6 g7 (fun τ2 rk f2 r1 r2 => tells τ2 rk f2 (fun _ => ⟨r1, r2⟩))
    · refine v_X12_solve_25 ?_
      rintro _ rfl
      have e1 : (cg_i b 0 0 2).1 0 0 = i32 2 := by rw [ri, if_pos rfl, if_pos rfl]; rfl
      exact ⟨fun z => absurd z (by rw [e1]; decide), fun _ => hbad2 aim ha hv hw⟩
  · refine v_X12_solve_25 ?_
    rintro _ rfl
    have e1 : (cg_i b 0 0 1).1 0 0 = i32 1 := by rw [ri, if_pos rfl, if_pos rfl]; rfl
    exact ⟨fun z => absurd z (by rw [e1]; decide), fun _ => hbad1 hno⟩
end SV2
