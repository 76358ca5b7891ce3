/-! CHAINS: closed sets with their lowest colour ('p') -/
section PAR
variable {σ : cg_S} {G : Gm} {ch : Nat}
def RC (G : Gm) (s t : Nat) : Prop := c_rch (G 0 0) (wtR G) (mv (G 10)) s t
def MC (G : Gm) (s m : Nat) : Prop := (∃ t, t < G 0 0 ∧ RC G s t ∧ G 2 t = m) ∧ ∀ t, t < G 0 0 → RC G s t → m ≤ G 2 t
def EVN (G : Gm) (s : Nat) : Prop := isClo G s ∧ ∃ m, MC G s m ∧ m % 2 = 0
theorem MC_uq {s m k : Nat} (h : MC G s m) (h2 : MC G s k) : m = k := by
  obtain ⟨⟨t, t1, t2, t3⟩, a⟩ := h
  obtain ⟨⟨u, u1, u2, u3⟩, b⟩ := h2
  have x := a u u1 u2
  have y := b t t1 t2
  omega
/-- the class's closed sets -/
def CLS (τ : cg_S) (G : Gm) : Prop := ∀ s, s < G 0 0 → mk (τ.1 28 s) (fun t => isClo G s ∧ RC G s t)
theorem c_findClosed {Q : cg_S → Prop} (hC : CG σ G ch) (hW : GW G) (h : ∀ τ, Fr [26, 28] [] [] σ τ → CLS τ G → Q τ) : M_X6_findClosed 19 σ Q := by
  have hn := hW.1
  refine v_X6_findClosed (Or.inl rfl) (c_follow hC hW (told_2 hW) (Or.inl rfl) (PK_told hC hW) (fun τ f1 hX => ?_))
  refine up (n := G 0 0) (fun k υ => Fr [26, 28] [] [] σ υ ∧ RJ υ (G 0 0) (fun s t => c_rch (G 0 0) (wtR G) (mv (G 10)) s t) ∧ ∀ s, s < k → mk (υ.1 28 s) (fun t => isClo G s ∧ RC G s t)) (fun w υ => L_X6_findClosed_10 w υ Q) ?_ ?_ 0 τ (by omega) ⟨f1.mo (by simp) (fun _ z => z) (fun _ z => z), hX, fun s hs => by omega⟩
  · rintro s υ hs ⟨hf, hR, hP⟩ kk
    have hC2 := hC.fr hf (by decide)
    have nxt : ∀ w, mk w (fun t => isClo G s ∧ RC G s t) → L_X6_findClosed_10 (i32 (s + 1)) (cg_i υ 28 s w) Q := fun w hw => kk _ ⟨hf.tr (Fr.i (by decide)), fun a ha => by rw [ri, if_neg (by decide)]; exact hR a ha, fun a ha => by
      rw [ri, if_pos rfl]
      by_cases e : a = s
      · rw [if_pos e, e]; exact hw
      · rw [if_neg e]; exact hP a (by omega)⟩
    refine v_X6_findClosed_10 ?_
    rw [hC2.1.1]
    simp (disch := omega) only [n0, n1, n2, n3, n4, n5, n6, n7, n8, n9, n49, n97, n98, n114, n102, n115, n119, n109, n112, i32_add, i32_mul, i32_N, i32_le, i32_lt, i32_eq, vpi_iff]
    refine ⟨fun z => by omega, fun _ => c_closedSet hC2 hW hR (fun s t _ ht => rch_lt ht) hs (fun hcl w hw => ⟨by omega, ?_⟩) (fun hcl => ⟨by omega, ?_⟩)⟩
    · rintro _ rfl
      exact nxt w (mk_congr hw (fun t _ => ⟨fun y => ⟨hcl, y⟩, fun y => y.2⟩))
    · rintro _ rfl
      exact nxt 0 (mk_0 (fun t _ y => hcl y.1))
  · rintro υ ⟨hf, hR, hP⟩
    refine v_X6_findClosed_10 ?_
    rw [(hC.fr hf (by decide)).1.1]
    exact ⟨fun _ => h υ hf hP, fun z => absurd ((i32_le (by omega) (by omega)).mpr (Nat.le_refl _)) z⟩
theorem c_leastColour {s : Nat} {w : Int32} {Q : Int32 → cg_S → Prop} (hC : CG σ G ch) (hW : GW G) (hw : whole G) (hs : s < G 0 0) (hm : mk w (fun t => isClo G s ∧ RC G s t)) (hcl : isClo G s) (h : ∀ m, m ≤ 3 → MC G s m → Q (i32 m) σ) : M_X6_leastColour w σ Q := by
  have hn := hW.1
  refine v_X6_leastColour ?_
  refine up2 (n := G 0 0) (fun k (m : Nat) τ => τ = σ ∧ m ≤ 3 ∧ ((∃ t, t < k ∧ RC G s t ∧ G 2 t = m) ∨ m = 3) ∧ ∀ t, t < k → RC G s t → m ≤ G 2 t) (fun m v τ => L_X6_leastColour_4 w (i32 m) v τ Q) ?_ ?_ 0 3 σ (by omega) ⟨rfl, by omega, Or.inr rfl, fun t ht => by omega⟩
  · rintro k m τ hk ⟨rfl, m3, h1, h2⟩ kk
    have g2 := (hW.2.1 k (by omega)).2.1
    refine v_X6_leastColour_4 ?_
    rw [hC.1.1]
    simp (disch := omega) only [n0, n1, n2, n3, n4, n5, n6, n7, n8, n9, n49, n97, n98, n114, n102, n115, n119, n109, n112, i32_add, i32_mul, i32_N, i32_le, i32_lt, i32_eq, vpi_iff]
    refine ⟨fun z => by omega, fun _ => c_holds hm (by omega) (fun hy => ⟨fun z => absurd z (by decide), fun _ => ⟨by omega, ?_⟩⟩) (fun hy => ⟨fun _ => kk m τ ⟨rfl, m3, h1.imp (fun ⟨t, y⟩ => ⟨t, by omega, y.2⟩) id, fun t ht hr => ?_⟩, fun z => absurd rfl z⟩)⟩
    · rw [(hC.2.1 k (by omega)).2.1]
      rintro _ rfl
      by_cases c : G 2 k < m
      · rw [if_pos ((i32_lt (by omega) (by omega)).mpr c)]
        refine kk (G 2 k) τ ⟨rfl, g2, Or.inl ⟨k, by omega, hy.2, rfl⟩, fun t ht hr => ?_⟩
        by_cases e : t = k
        · rw [e]; exact Nat.le_refl _
        · have := h2 t (by omega) hr; omega
      · rw [if_neg (fun z => c ((i32_lt (by omega) (by omega)).mp z))]
        refine kk m τ ⟨rfl, m3, h1.imp (fun ⟨t, y⟩ => ⟨t, by omega, y.2⟩) id, fun t ht hr => ?_⟩
        by_cases e : t = k
        · rw [e]; omega
        · exact h2 t (by omega) hr
    · by_cases e : t = k
      · rw [e] at hr; exact absurd ⟨hcl, hr⟩ hy
      · exact h2 t (by omega) hr
  · rintro m τ ⟨rfl, m3, h1, h2⟩
    refine v_X6_leastColour_4 ?_
    rw [hC.1.1]
    refine ⟨fun _ => h m m3 ⟨?_, h2⟩, fun z => absurd ((i32_le (by omega) (by omega)).mpr (Nat.le_refl _)) z⟩
    rcases h1 with y | y
    · exact y
    · obtain ⟨t, ht, hst⟩ := rch_some hW hw hs
      have a := h2 t ht hst
      have b := (hW.2.1 t (by omega)).2.1
      exact ⟨t, ht, hst, by omega⟩
theorem par_f : ∀ m : Fin 10, i32 m.val - i32 m.val / i32 2 * i32 2 = i32 (m.val % 2) := by decide
theorem c_findParity {Q : cg_S → Prop} (hC : CG σ G ch) (hW : GW G) (hw : whole G) (h : ∀ τ x, Fr [3, 4, 26, 27, 28] cL [] σ τ → SolR (G 0 0) (wtR G) (mv (G 10)) (EVN G) x → AW τ (G 0 0) x → Q τ) : M_X6_findParity 19 σ Q := by
  have hn := hW.1
  refine v_X6_findParity (Or.inl rfl) (c_findClosed hC hW (fun τ f1 hCL => ?_))
  have hC1 := hC.fr f1 (by decide)
  refine up2 (n := G 0 0) (fun k (w : Int32) υ => υ = τ ∧ mk w (fun t => t < k ∧ EVN G t)) (fun w v υ => L_X6_findParity_9 19 w v υ Q) ?_ ?_ 0 0 τ (by omega) ⟨rfl, mk_0 (fun t _ y => by omega)⟩
  · rintro s w υ hs ⟨rfl, hm⟩ kk
    have hz := mk_zero (hCL s hs)
    have skip : ¬ EVN G s → L_X6_findParity_9 19 w (i32 (s + 1)) υ Q := fun z => kk w υ ⟨rfl, mk_congr hm (fun t _ => ⟨fun y => ⟨by omega, y.2⟩, fun y => by
      by_cases e : t = s
      · rw [e] at y; exact absurd y.2 z
      · exact ⟨by omega, y.2⟩⟩)⟩
    refine v_X6_findParity_9 (Or.inl rfl) ?_
    rw [hC1.1.1]
    simp (disch := omega) only [n0, n1, n2, n3, n4, n5, n6, n7, n8, n9, n49, n97, n98, n114, n102, n115, n119, n109, n112, i32_add, i32_mul, i32_N, i32_le, i32_lt, i32_eq, vpi_iff]
    have z0 : i32 0 = 0 := rfl
    rw [z0, hz]
    refine ⟨fun z => by omega, fun _ => ⟨by omega, fun z => skip (fun y => ?_), fun z => ⟨by omega, ?_⟩⟩⟩
    · obtain ⟨⟨t, t1, t2, -⟩, -⟩ := y.2.choose_spec.1
      exact z t (by omega) ⟨y.1, t2⟩
    · have hcl : isClo G s := Classical.byContradiction fun y => z (fun t _ y2 => y y2.1)
      refine c_leastColour hC1 hW hw hs (hCL s hs) hcl (fun m m3 hmc => ?_)
      rw [← z0, par_f ⟨m, by omega⟩, i32_eq (by omega) (by omega)]
      refine ⟨fun y => skip (fun y2 => ?_), fun y => ?_⟩
      · obtain ⟨m', q1, q2⟩ := y2.2
        rw [MC_uq q1 hmc] at q2
        exact y q2
      · rintro _ rfl
        refine kk _ υ ⟨rfl, mk_congr (mk_or hm (by omega)) (fun t _ => ⟨fun y2 => ?_, fun y2 => ?_⟩)⟩
        · rcases y2 with y2 | y2
          · exact ⟨by omega, y2.2⟩
          · rw [y2]; exact ⟨by omega, hcl, m, hmc, y⟩
        · by_cases e : t = s
          · exact Or.inr e
          · exact Or.inl ⟨by omega, y2.2⟩
  · rintro w υ ⟨rfl, hm⟩
    refine v_X6_findParity_9 (Or.inl rfl) ?_
    rw [hC1.1.1]
    refine ⟨fun _ => ?_, fun z => absurd ((i32_le (by omega) (by omega)).mpr (Nat.le_refl _)) z⟩
    refine c_evalReach hC1 hW hw (told_ok hW hw) (told_2 hW) (Or.inl rfl) (PK_told hC1 hW) hm (fun τ2 x f2 hX hA => h τ2 x ((f1.mo (by simp) (by simp) (fun _ z => z)).tr (f2.mo (by simp) (fun _ z => z) (fun _ z => z))) ?_ hA)
    have e : ∀ s, s < G 0 0 → ((s < G 0 0 ∧ EVN G s) ↔ EVN G s) := fun s hs => ⟨fun y => y.2, fun y => ⟨hs, y⟩⟩
    obtain ⟨q1, q2, q3⟩ := hX
    refine ⟨fun s hs y => q1 s hs ⟨hs, y⟩, fun s hs y => q2 s hs (fun y2 => y y2.2), fun s hs y => q3 s hs (fun y2 => y ?_)⟩
    intro C hC0 hcl
    obtain ⟨t, a, b, c⟩ := y2 C hC0 hcl
    exact ⟨t, a, b, c.2⟩
end PAR
