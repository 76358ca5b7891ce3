/-! THE CLASS'S GRAPH: what can be reached; closed sets -/
/-- what r0 reaches by one or more steps -/
def tcR (n : Nat) (r0 : Nat → Nat → Prop) (s t : Nat) : Prop := ∀ C : Nat → Prop, (∀ u, r0 s u → C u) → (∀ u, u < n → C u → ∀ v, r0 u v → C v) → C t
def RJ (τ : cg_S) (n : Nat) (r : Nat → Nat → Prop) : Prop := ∀ s, s < n → mk (τ.1 26 s) (r s)
section JN
variable {σ : cg_S} {G : Gm} {ch : Nat} {p : Nat → Nat}
theorem c_join {r0 : Nat → Nat → Prop} {Q : cg_S → Prop} (hC : CG σ G ch) (hW : GW G) (h0 : RJ σ (G 0 0) r0) (h : ∀ τ r, Fr [26] [] [] σ τ → RJ τ (G 0 0) r → (∀ s t, s < G 0 0 → (r s t ↔ tcR (G 0 0) r0 s t)) → Q τ) : M_X3_join σ Q := by
  have hn := hW.1
  refine v_X3_join ?_
  refine up (n := G 0 0) (fun k τ => Fr [26] [] [] σ τ ∧ ∃ r, RJ τ (G 0 0) r ∧ (∀ s t, s < G 0 0 → r0 s t → r s t) ∧ (∀ s t, s < G 0 0 → r s t → tcR (G 0 0) r0 s t) ∧ ∀ s u t, s < G 0 0 → u < k → r s u → r u t → r s t) (fun w τ => L_X3_join_2 w τ Q) ?_ ?_ 0 σ (by omega) ⟨Fr.rf σ, r0, h0, fun _ _ _ z => z, fun s t _ z C h1 _ => h1 t z, fun s u t _ hu => by omega⟩
  · rintro k τ hk ⟨hf, r, hR, p1, p2, p3⟩ kk
    have hC2 := hC.fr hf (by decide)
    refine v_X3_join_2 ?_
    rw [hC2.1.1]
    simp (disch := omega) only [n0, n1, n2, n3, n4, n5, n6, n7, n8, n9, n49, n97, n98, n114, n102, n115, n119, n109, n112, i32_add, i32_mul, i32_N, i32_le, i32_lt, i32_eq, vpi_iff]
    refine ⟨fun z => by omega, fun _ => ?_⟩
    refine up (n := G 0 0) (fun s υ => Fr [26] [] [] σ υ ∧ RJ υ (G 0 0) (fun a t => if a < s then (r a t ∨ (r a k ∧ r k t)) else r a t)) (fun w υ => L_X3_join_15 (i32 k) w υ Q) ?_ ?_ 0 τ (by omega) ⟨hf, fun a ha => by have := hR a ha; exact mk_congr this (fun t _ => by dsimp only; rw [if_neg (by omega)])⟩
    · rintro s υ hs ⟨hf2, hR2⟩ kk2
      have hC3 := hC.fr hf2 (by decide)
      have hrow : mk (υ.1 26 s) (r s) := mk_congr (hR2 s hs) (fun t _ => by dsimp only; rw [if_neg (by omega)])
      have hrk : mk (υ.1 26 k) (r k) := mk_congr (hR2 k hk) (fun t _ => by
        dsimp only
        split
        · exact ⟨fun z => z.elim id (fun z => z.2), Or.inl⟩
        · exact Iff.rfl)
      refine v_X3_join_15 ?_
      rw [hC3.1.1]
      simp (disch := omega) only [n0, n1, n2, n3, n4, n5, n6, n7, n8, n9, n49, n97, n98, n114, n102, n115, n119, n109, n112, i32_add, i32_mul, i32_N, i32_le, i32_lt, i32_eq, vpi_iff]
      refine ⟨fun z => by omega, fun _ => ⟨by omega, ?_⟩⟩
      refine c_holds hrow (by omega) (fun hsk => ⟨fun z => absurd z (by decide), fun _ => ⟨by omega, by omega, by omega, ?_⟩⟩) (fun hsk => ⟨fun _ => ?_, fun z => absurd rfl z⟩)
      · rintro _ rfl
        refine kk2 _ ⟨hf2.tr (Fr.i (by decide)), fun a ha => ?_⟩
        rw [ri, if_pos rfl]
        by_cases c : a = s
        · rw [if_pos c, c]
          refine mk_congr (mk_oor hrow hrk) (fun t _ => ?_)
          dsimp only
          rw [if_pos (by omega)]
          exact ⟨fun z => z.imp id (fun y => ⟨hsk, y⟩), fun z => z.imp id (fun y => y.2)⟩
        · rw [if_neg c]
          refine mk_congr (hR2 a ha) (fun t _ => ?_)
          dsimp only
          by_cases c2 : a < s
          · rw [if_pos c2, if_pos (by omega)]
          · rw [if_neg c2, if_neg (by omega)]
      · refine kk2 υ ⟨hf2, fun a ha => mk_congr (hR2 a ha) (fun t _ => ?_)⟩
        dsimp only
        by_cases c : a = s
        · rw [c, if_neg (by omega), if_pos (by omega)]
          exact ⟨Or.inl, fun z => z.elim id (fun y => absurd y.1 hsk)⟩
        · by_cases c2 : a < s
          · rw [if_pos c2, if_pos (by omega)]
          · rw [if_neg c2, if_neg (by omega)]
    · rintro υ ⟨hf2, hR2⟩
      have hC3 := hC.fr hf2 (by decide)
      refine v_X3_join_15 ?_
      rw [hC3.1.1]
      simp only [i32_s]
      refine ⟨fun _ => kk υ ⟨hf2, fun a t => r a t ∨ (r a k ∧ r k t), fun a ha => mk_congr (hR2 a ha) (fun t _ => by dsimp only; rw [if_pos ha]), fun s t hs z => Or.inl (p1 s t hs z), fun s t hs z => ?_, fun s u t hs hu h1 h2 => ?_⟩, fun z => absurd ((i32_le (by omega) (by omega)).mpr (Nat.le_refl _)) z⟩
      · rcases z with z | ⟨z1, z2⟩
        · exact p2 s t hs z
        · intro C hC1 hC2
          have hk1 := p2 s k hs z1 C hC1 hC2
          exact p2 k t hk z2 C (fun u hu => hC2 k hk hk1 u hu) hC2
      · by_cases cu : u = k
        · subst cu
          have a1 : r s u := h1.elim id (fun z => z.1)
          have a2 : r u t := h2.elim id (fun z => z.2)
          exact Or.inr ⟨a1, a2⟩
        · have hu2 : u < k := by omega
          rcases h1 with z1 | ⟨z1, z2⟩
          · rcases h2 with y1 | ⟨y1, y2⟩
            · exact Or.inl (p3 s u t hs hu2 z1 y1)
            · exact Or.inr ⟨p3 s u k hs hu2 z1 y1, y2⟩
          · rcases h2 with y1 | ⟨y1, y2⟩
            · exact Or.inr ⟨z1, p3 k u t hk hu2 z2 y1⟩
            · exact Or.inr ⟨z1, y2⟩
  · rintro τ ⟨hf, r, hR, p1, p2, p3⟩
    have hC2 := hC.fr hf (by decide)
    refine v_X3_join_2 ?_
    rw [hC2.1.1]
    refine ⟨fun _ => h τ r hf hR (fun s t hs => ⟨p2 s t hs, fun hc => ?_⟩), fun z => absurd ((i32_le (by omega) (by omega)).mpr (Nat.le_refl _)) z⟩
    exact hc (r s) (fun u hu => p1 s u hs hu) (fun u hu hCu v hv => p3 s u v hs hu hCu (p1 u v hu hv))
/-- in the chain of a pick -/
theorem tcR_rch {s t : Nat} (hW : GW G) (hp : ∀ s, s < 7 → p s ≤ 2) (hs : s < G 0 0) (ht : t < 7) : (tcR (G 0 0) (fun s t => t < 7 ∧ G 7 (7 * mv p s + t) ≠ 0) s t ↔ c_rch (G 0 0) (wtR G) (mv p) s t) := by
  have hn := hW.1
  have hb : ∀ u v, u < G 0 0 → v < 7 → G 7 (7 * mv p u + v) ≠ 0 → v < G 0 0 := fun u v hu hv h => lead_n hW (mv_lt (by omega) (hp u (by omega))) hv h
  constructor
  · intro h C hcl hC
    have := h (fun u => u < G 0 0 ∧ C u) (fun u hu => ⟨hb s u hs hu.1 hu.2, hC u (hb s u hs hu.1 hu.2) (wtR_ne.mpr hu.2)⟩) (fun u hu hCu v hv => ⟨hb u v hu hv.1 hv.2, hcl u hu hCu.2 v (hb u v hu hv.1 hv.2) (wtR_ne.mpr hv.2)⟩)
    exact this.2
  · intro h C h1 h2
    exact h C (fun u hu hCu v hv hwv => h2 u hu hCu v ⟨by omega, wtR_ne.mp hwv⟩) (fun u hu hwu => h1 u ⟨by omega, wtR_ne.mp hwu⟩)
theorem rch_lt {s t : Nat} (h : c_rch (G 0 0) (wtR G) (mv p) s t) : t < G 0 0 := h (fun u => u < G 0 0) (fun u hu _ v hv _ => hv) (fun u hu _ => hu)
theorem c_follow {pk : Nat} {Q : cg_S → Prop} (hC : CG σ G ch) (hW : GW G) (hp : ∀ s, s < 7 → p s ≤ 2) (hk : pk = 19 ∨ pk = 29 ∨ pk = 30) (hpc : PK σ pk (G 0 0) p) (h : ∀ τ, Fr [26] [] [] σ τ → RJ τ (G 0 0) (fun s t => c_rch (G 0 0) (wtR G) (mv p) s t) → Q τ) : M_X3_follow pk σ Q := by
  have hn := hW.1
  refine v_X3_follow hk ?_
  refine up (n := G 0 0) (fun k τ => Fr [26] [] [] σ τ ∧ ∀ s, s < k → mk (τ.1 26 s) (fun t => G 7 (7 * mv p s + t) ≠ 0)) (fun w τ => L_X3_follow_2 pk w τ Q) ?_ ?_ 0 σ (by omega) ⟨Fr.rf σ, fun s hs => by omega⟩
  · rintro k τ hk7 ⟨hf, hP⟩ kk
    have hC2 := hC.fr hf (by decide)
    have hm : 3 * k + p k < 21 := mv_lt (show k < 7 by omega) (hp k (by omega))
    refine v_X3_follow_2 hk ?_
    rw [hC2.1.1]
    simp (disch := omega) only [n0, n1, n2, n3, n4, n5, n6, n7, n8, n9, n49, n97, n98, n114, n102, n115, n119, n109, n112, i32_add, i32_mul, i32_N, i32_le, i32_lt, i32_eq, vpi_iff]
    rw [hf.1 pk (by simp; omega), hpc k hk7]
    refine ⟨fun z => by omega, fun _ => ⟨by omega, c_moveOf ⟨vpi hm (by omega), by omega, ?_⟩⟩⟩
    rw [i32_N (by omega)]
    rintro _ rfl
    refine kk _ ⟨hf.tr (Fr.i (by decide)), fun s hs => ?_⟩
    rw [ri, if_pos rfl]
    by_cases c : s = k
    · rw [if_pos c, c]; exact (hC2.2.2 _ hm).2.2.2.1
    · rw [if_neg c]; exact hP s (by omega)
  · rintro τ ⟨hf, hP⟩
    have hC2 := hC.fr hf (by decide)
    refine v_X3_follow_2 hk ?_
    rw [hC2.1.1]
    refine ⟨fun _ => c_join (r0 := fun s t => t < 7 ∧ G 7 (7 * mv p s + t) ≠ 0) hC2 hW (fun s hs => mk_congr (hP s hs) (fun t ht => ⟨fun z => ⟨ht, z⟩, fun z => z.2⟩)) (fun τ2 r f1 hR hr => h τ2 (hf.tr f1) (fun s hs => mk_congr (hR s hs) (fun t ht => (hr s t hs).trans (tcR_rch hW hp hs ht)))), fun z => absurd ((i32_le (by omega) (by omega)).mpr (Nat.le_refl _)) z⟩
theorem mk_none : mk 0 (fun _ => False) := mk_0 (fun _ _ z => z)
theorem c_mutual {s : Nat} {r : Nat → Nat → Prop} {Q : Int32 → cg_S → Prop} (hC : CG σ G ch) (hW : GW G) (hR : RJ σ (G 0 0) r) (hs : s < G 0 0) (h : ∀ w, mk w (fun t => t < G 0 0 ∧ r s t ∧ r t s) → Q w σ) : M_X3_mutual (i32 s) σ Q := by
  have hn := hW.1
  refine v_X3_mutual ?_
  refine up2 (n := G 0 0) (fun k (w : Int32) τ => τ = σ ∧ mk w (fun t => t < k ∧ r s t ∧ r t s)) (fun w u τ => L_X3_mutual_4 (i32 s) w u τ Q) ?_ ?_ 0 0 σ (by omega) ⟨rfl, mk_0 (fun t _ z => by omega)⟩
  · rintro k w τ hk ⟨rfl, hw⟩ kk
    have yes : (r s k ∧ r k s) → ∀ x, x = w ||| (1 <<< (i32 k &&& 31)) → L_X3_mutual_4 (i32 s) x (i32 (k + 1)) τ Q := by
      rintro hy _ rfl
      refine kk _ τ ⟨rfl, mk_congr (mk_or hw (by omega)) (fun t _ => ⟨fun z => ?_, fun z => ?_⟩)⟩
      · rcases z with z | rfl
        · exact ⟨by omega, z.2⟩
        · exact ⟨by omega, hy⟩
      · by_cases c : t = k
        · exact Or.inr c
        · exact Or.inl ⟨by omega, z.2⟩
    have no : ¬ (r s k ∧ r k s) → L_X3_mutual_4 (i32 s) w (i32 (k + 1)) τ Q := fun hno => kk w τ ⟨rfl, mk_congr hw (fun t _ => ⟨fun z => ⟨by omega, z.2⟩, fun z => by
      by_cases c : t = k
      · rw [c] at z; exact absurd z.2 hno
      · exact ⟨by omega, z.2⟩⟩)⟩
    refine v_X3_mutual_4 ?_
    rw [hC.1.1]
    simp (disch := omega) only [n0, n1, n2, n3, n4, n5, n6, n7, n8, n9, n49, n97, n98, n114, n102, n115, n119, n109, n112, i32_add, i32_mul, i32_N, i32_le, i32_lt, i32_eq, vpi_iff]
    refine ⟨fun z => by omega, fun _ => ⟨by omega, ?_⟩⟩
    refine c_holds (hR s hs) (by omega) (fun h1 => ⟨fun z => absurd z (by decide), fun _ => ⟨by omega, c_holds (hR k hk) (by omega) (fun h2 => ⟨fun z => absurd z (by decide), fun _ => yes ⟨h1, h2⟩⟩) (fun h2 => ⟨fun _ => no (fun z => h2 z.2), fun z => absurd rfl z⟩)⟩⟩) (fun h1 => ⟨fun _ => no (fun z => h1 z.1), fun z => absurd rfl z⟩)
  · rintro w τ ⟨rfl, hw⟩
    refine v_X3_mutual_4 ?_
    rw [hC.1.1]
    exact ⟨fun _ => h w hw, fun z => absurd ((i32_le (by omega) (by omega)).mpr (Nat.le_refl _)) z⟩
/-- a closed set, if the state is in one -/
theorem c_closedSet {s : Nat} {r : Nat → Nat → Prop} {Q : Int32 → cg_S → Prop} (hC : CG σ G ch) (hW : GW G) (hR : RJ σ (G 0 0) r) (hrn : ∀ s t, s < G 0 0 → r s t → t < G 0 0) (hs : s < G 0 0) (hy : (∀ t, r s t → r t s) → ∀ w, mk w (r s) → Q w σ) (hno : ¬ (∀ t, r s t → r t s) → Q 0 σ) : M_X3_closedSet (i32 s) σ Q := by
  have hn := hW.1
  refine v_X3_closedSet (c_mutual hC hW hR hs (fun w hw => ?_))
  simp (disch := omega) only [n0, n1, n2, n3, n4, n5, n6, n7, n8, n9, n49, n97, n98, n114, n102, n115, n119, n109, n112, i32_add, i32_mul, i32_N, i32_le, i32_lt, i32_eq, vpi_iff]
  rw [mk_eq hw (hR s hs)]
  refine ⟨by omega, fun z => hno (fun y => z (fun t ht => ⟨fun x => x.2.1, fun x => ⟨hrn s t hs x, x, y t x⟩⟩)), fun z => hy (fun t ht => ((z t (by have := hrn s t hs ht; omega)).mpr ht).2.2) w (mk_congr hw z)⟩
theorem bit_tz : ∀ T : Fin 128, T.val ≠ 0 → ∃ t : Fin 7, ((i32 T.val ^^^ (-1)) &&& (i32 T.val - 1)) = i32 (2 ^ t.val - 1) ∧ T.val.testBit t.val = true ∧ ∀ u : Fin 7, u < t → T.val.testBit u.val = false := by decide
theorem c_ntz {w : Int32} {P : Nat → Prop} {Q : Int32 → cg_S → Prop} (hm : mk w P) (hne : w ≠ 0) (h : ∀ t, t < 7 → P t → (∀ u, u < t → ¬ P u) → Q (i32 t) σ) : M_J6_numberOfTrailingZeros_0f7a4 w σ Q := by
  obtain ⟨T, h1, h2, h3⟩ := hm
  obtain ⟨⟨t, ht⟩, e1, e2, e3⟩ := bit_tz ⟨T, h1⟩ (fun e => hne (by rw [h2, show T = 0 from e]; rfl))
  dsimp only at e1 e2 e3
  have hq := h t ht ((h3 t ht).mp e2) (fun u hu hP => by
    have := e3 ⟨u, by omega⟩ hu
    dsimp only at this
    rw [(h3 u (by omega)).mpr hP] at this
    exact absurd this (by decide))
  refine v_J6_numberOfTrailingZeros_0f7a4 ?_
  rw [h2, e1]
  rintro _ rfl
  have : t = 0 ∨ t = 1 ∨ t = 2 ∨ t = 3 ∨ t = 4 ∨ t = 5 ∨ t = 6 := by omega
  rcases this with rfl | rfl | rfl | rfl | rfl | rfl | rfl
  · exact ⟨fun z => absurd z (by decide), fun _ => hq⟩
  · exact ⟨fun _ => ⟨fun _ => v_J6_numberOfTrailingZeros_0f7a4_34 ⟨fun _ => v_J6_numberOfTrailingZeros_0f7a4_49 ⟨fun _ => v_J6_numberOfTrailingZeros_0f7a4_62 ⟨fun _ => hq, fun z => absurd (by decide) z⟩, fun z => absurd (by decide) z⟩, fun z => absurd (by decide) z⟩, fun z => absurd (by decide) z⟩, fun z => absurd (by decide) z⟩
  · exact ⟨fun _ => ⟨fun _ => v_J6_numberOfTrailingZeros_0f7a4_34 ⟨fun _ => v_J6_numberOfTrailingZeros_0f7a4_49 ⟨fun _ => v_J6_numberOfTrailingZeros_0f7a4_62 ⟨fun _ => hq, fun z => absurd (by decide) z⟩, fun z => absurd (by decide) z⟩, fun z => absurd (by decide) z⟩, fun z => absurd (by decide) z⟩, fun z => absurd (by decide) z⟩
  · refine ⟨fun _ => ⟨fun _ => v_J6_numberOfTrailingZeros_0f7a4_34 ⟨fun _ => v_J6_numberOfTrailingZeros_0f7a4_49 ⟨fun _ => v_J6_numberOfTrailingZeros_0f7a4_62 ⟨fun z => absurd z (by decide), fun _ => ?_⟩, fun z => absurd (by decide) z⟩, fun z => absurd (by decide) z⟩, fun z => absurd (by decide) z⟩, fun z => absurd (by decide) z⟩
    rintro _ rfl
    exact hq
  · refine ⟨fun _ => ⟨fun _ => v_J6_numberOfTrailingZeros_0f7a4_34 ⟨fun _ => v_J6_numberOfTrailingZeros_0f7a4_49 ⟨fun _ => v_J6_numberOfTrailingZeros_0f7a4_62 ⟨fun z => absurd z (by decide), fun _ => ?_⟩, fun z => absurd (by decide) z⟩, fun z => absurd (by decide) z⟩, fun z => absurd (by decide) z⟩, fun z => absurd (by decide) z⟩
    rintro _ rfl
    exact hq
  · refine ⟨fun _ => ⟨fun _ => v_J6_numberOfTrailingZeros_0f7a4_34 ⟨fun _ => v_J6_numberOfTrailingZeros_0f7a4_49 ⟨fun z => absurd z (by decide), fun _ => ?_⟩, fun z => absurd (by decide) z⟩, fun z => absurd (by decide) z⟩, fun z => absurd (by decide) z⟩
    rintro _ rfl
    exact v_J6_numberOfTrailingZeros_0f7a4_62 ⟨fun _ => hq, fun z => absurd (by decide) z⟩
  · refine ⟨fun _ => ⟨fun _ => v_J6_numberOfTrailingZeros_0f7a4_34 ⟨fun _ => v_J6_numberOfTrailingZeros_0f7a4_49 ⟨fun z => absurd z (by decide), fun _ => ?_⟩, fun z => absurd (by decide) z⟩, fun z => absurd (by decide) z⟩, fun z => absurd (by decide) z⟩
    rintro _ rfl
    exact v_J6_numberOfTrailingZeros_0f7a4_62 ⟨fun _ => hq, fun z => absurd (by decide) z⟩
theorem c_lowestOf {w : Int32} {P : Nat → Prop} {Q : Int32 → cg_S → Prop} {X : String → cg_S → Prop} (hm : mk w P) (h : ∀ t, t < 7 → P t → (∀ u, u < t → ¬ P u) → Q (i32 t) σ) (hno : (∀ t, t < 7 → ¬ P t) → X "java/util/NoSuchElementException" σ) : M_X11_lowestOf w σ Q X :=
  v_X11_lowestOf ⟨fun z => c_ntz hm z h, fun z => hno ((mk_zero hm).mp z)⟩
end JN
/-! THE REFERENCE: closed sets -/
section MC
variable {τ : cg_S} {n s : Nat} {r : Nat → Nat → Nat}
end MC
