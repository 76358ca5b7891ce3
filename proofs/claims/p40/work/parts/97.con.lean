/-! THE CALLS: isConsistent -/
section CS
variable {σ : cg_S} {G : Gm} {ch : Nat}
/-- the answers put aside -/
def VU (τ : cg_S) (v n : Nat) (x : Nat → Rat) : Prop := ∃ (d : Nat) (u : Nat → Nat), 0 < d ∧ d ≤ 612220032 ∧ ∀ s, s < n → u s ≤ 162 * d ∧ τ.2.1 (v + 56) s = i64 (u s : Nat) ∧ τ.2.1 (v + 64) s = i64 d ∧ x s = ((u s : Nat) : Rat) / ((d : Nat) : Rat)
theorem VU.fr {τ υ : cg_S} {v n : Nat} {x : Nat → Rat} {I L D : List Nat} (h : VU τ v n x) (hf : Fr I L D τ υ) (h0 : v + 56 ∉ L ∧ v + 64 ∉ L) : VU υ v n x := by
  unfold VU
  rw [hf.2.1 _ h0.1, hf.2.1 _ h0.2]
  exact h
theorem c_copyTo {x : Nat → Rat} {Q : cg_S → Prop} (hC : CG σ G ch) (hW : GW G) (hx : AW σ (G 0 0) x) (h : ∀ τ, Fr [] [67, 75] [] σ τ → VU τ 11 (G 0 0) x → Q τ) : M_X0_copyTo 11 σ Q := by
  have hn := hW.1
  obtain ⟨d, u, h1, h2, h3, h4⟩ := hx
  refine v_X0_copyTo (by omega) ?_
  refine up (n := G 0 0) (fun k τ => Fr [] [67, 75] [] σ τ ∧ ∀ s, s < k → τ.2.1 67 s = i64 (u s : Nat) ∧ τ.2.1 75 s = i64 d) (fun w τ => L_X0_copyTo_2 11 w τ Q) ?_ ?_ 0 σ (by omega) ⟨Fr.rf σ, fun s hs => by omega⟩
  · rintro k τ hk ⟨hf, hP⟩ kk
    have hC2 := hC.fr hf (by decide)
    obtain ⟨b1, b2, b3⟩ := h4 k hk
    refine v_X0_copyTo_2 (by omega) ?_
    rw [hC2.1.1]
    simp (disch := omega) only [n0, n1, n2, n3, n4, n5, n6, n7, n8, n9, n49, n97, n98, n114, n102, n115, n119, n109, n112, i32_add, i32_mul, i32_N, i32_le, i32_lt, i32_eq, vpi_iff]
    rw [hf.2.1 58 (by decide), hf.2.1 4 (by decide), b2, h3]
    refine ⟨fun z => by omega, fun _ => ⟨by omega, v_X10_put (by omega) ?_⟩⟩
    simp (disch := omega) only [n0, n1, n2, n3, n4, n5, n6, n7, n8, n9, n49, n97, n98, n114, n102, n115, n119, n109, n112, i32_add, i32_mul, i32_N, i32_le, i32_lt, i32_eq, vpi_iff]
    refine ⟨by omega, ?_⟩
    rintro _ rfl
    refine ⟨by omega, ?_⟩
    rintro _ rfl
    refine kk _ ⟨hf.tr ((Fr.l (by decide)).tr (Fr.l (by decide))), fun s hs => ?_⟩
    refine ⟨?_, ?_⟩
    · rw [rl, if_neg (by decide), rl, if_pos rfl]
      by_cases c : s = k
      · rw [if_pos c, c]
      · rw [if_neg c]; exact (hP s (by omega)).1
    · rw [rl, if_pos rfl]
      by_cases c : s = k
      · rw [if_pos c]
      · rw [if_neg c, rl, if_neg (by decide)]; exact (hP s (by omega)).2
  · rintro τ ⟨hf, hP⟩
    have hC2 := hC.fr hf (by decide)
    refine v_X0_copyTo_2 (by omega) ?_
    rw [hC2.1.1]
    refine ⟨fun _ => h τ hf ⟨d, u, h1, h2, fun s hs => ⟨(h4 s hs).1, (hP s hs).1, (hP s hs).2, (h4 s hs).2.2⟩⟩, fun z => absurd ((i32_le (by omega) (by omega)).mpr (Nat.le_refl _)) z⟩
theorem fr_eq {u v d : Nat} (hd : 0 < d) : ((u : Nat) : Rat) / ((d : Nat) : Rat) = ((v : Nat) : Rat) / ((d : Nat) : Rat) ↔ u = v := by
  have hd' : (0 : Rat) < ((d : Nat) : Rat) := Rat.natCast_pos.mpr hd
  constructor
  · intro h
    have : ((u : Nat) : Rat) = ((v : Nat) : Rat) := by
      have e1 : ((u : Nat) : Rat) = ((u : Nat) : Rat) / ((d : Nat) : Rat) * ((d : Nat) : Rat) := by grind
      have e2 : ((v : Nat) : Rat) = ((v : Nat) : Rat) / ((d : Nat) : Rat) * ((d : Nat) : Rat) := by grind
      rw [e1, e2, h]
    exact Rat.natCast_inj.mp this
  · intro h; rw [h]
theorem c_graphAgrees {x : Nat → Rat} {Q : Int32 → cg_S → Prop} (hC : CG σ G ch) (hW : GW G) (hw : whole G) (hx : mmb G 114 x) (hV : VU σ 11 (G 0 0) x) (h : Q 1 σ) : M_X11_graphAgrees σ Q := by
  have hn := hW.1
  obtain ⟨d, u, h1, h2, h3⟩ := hV
  refine v_X11_graphAgrees (c_positive hC hW hw (fun r1 hr1 => c_sure hC hW hw (fun r2 hr2 => ?_)))
  have hm1 := hr1 x hx
  have hm2 := hr2 x hx
  refine up (n := G 0 0) (fun k τ => τ = σ) (fun w τ => L_X11_graphAgrees_18 r1 r2 w τ Q) ?_ ?_ 0 σ (by omega) rfl
  · rintro k τ hk rfl kk
    obtain ⟨b1, b2, b3, b4⟩ := h3 k hk
    have hxk0 : x k ≠ 0 ↔ ¬ u k = 0 := by
      have : x k = 0 ↔ u k = 0 := by
        rw [b4]
        have e := fr_eq (u := u k) (v := 0) h1
        have e0 : ((0 : Nat) : Rat) / ((d : Nat) : Rat) = 0 := by
          have : ((0 : Nat) : Rat) = 0 := rfl
          rw [this]; grind
        rw [e0] at e
        exact e
      rw [Ne, this]
    have hxk1 : x k = 1 ↔ u k = d := by
      rw [b4]
      have e := fr_eq (u := u k) (v := d) h1
      have e0 : ((d : Nat) : Rat) / ((d : Nat) : Rat) = 1 := by
        have : (0 : Rat) < ((d : Nat) : Rat) := Rat.natCast_pos.mpr h1
        grind
      rw [e0] at e
      exact e
    have fin : ∀ t : Int32, L_X11_graphAgrees_53 r1 r2 (i32 k) t t τ Q := fun t => by
      refine v_X11_graphAgrees_53 ⟨fun z => absurd rfl z, fun _ => ?_⟩
      have hv : vp_in (i32 k) 7 := vpi (by omega) (by omega)
      refine c_holds hm2 (by omega) (fun hs => ⟨hv, hv, ?_⟩) (fun hs => ⟨hv, hv, ?_⟩)
      · rw [i32_N (by omega), b2, b3, i64_eq (by omega) (by omega), i32_s]
        refine ⟨fun z => ?_, fun _ => ⟨fun _ => kk τ rfl, fun z => absurd rfl z⟩⟩
        have := hxk1.mp hs.2
        omega
      · rw [i32_N (by omega), b2, b3, i64_eq (by omega) (by omega), i32_s]
        refine ⟨fun _ => ⟨fun _ => kk τ rfl, fun z => absurd rfl z⟩, fun z => absurd ⟨hk, hxk1.mpr (by omega)⟩ hs⟩
    refine v_X11_graphAgrees_18 ?_
    rw [hC.1.1]
    simp (disch := omega) only [n0, n1, n2, n3, n4, n5, n6, n7, n8, n9, n49, n97, n98, n114, n102, n115, n119, n109, n112, i32_add, i32_mul, i32_N, i32_le, i32_lt, i32_eq, vpi_iff]
    refine ⟨fun z => by omega, fun _ => ?_⟩
    refine c_holds hm1 (by omega) (fun hs => ⟨by omega, ?_⟩) (fun hs => ⟨by omega, ?_⟩)
    · rw [b2, l0, i64_le (by omega) (by omega)]
      refine ⟨fun z => ?_, fun _ => fin 1⟩
      have := hxk0.mp hs.2
      omega
    · rw [b2, l0, i64_le (by omega) (by omega)]
      refine ⟨fun _ => fin 0, fun z => absurd ⟨hk, hxk0.mpr (by omega)⟩ hs⟩
  · rintro τ rfl
    refine v_X11_graphAgrees_18 ?_
    rw [hC.1.1]
    exact ⟨fun _ => h, fun z => absurd ((i32_le (by omega) (by omega)).mpr (Nat.le_refl _)) z⟩
theorem c_agrees {aim : Nat} {g : Nat → Nat} {Q : Int32 → cg_S → Prop} (hC : CG σ G ch) (hK : CK σ G ch) (hW : GW G) (hw : whole G) (ha : okA aim) (hg : CL σ 33 (G 0 0) g) (hGS : GS G (G 0 0) g) (h : ∀ τ, CG τ G ch → CK τ G ch → CL τ 33 (G 0 0) g → Q 1 τ) : M_X11_agrees (i32 aim) σ Q := by
  have hn := hW.1
  have h4 := aimN_lt aim
  have ha2 := okA_lt ha
  have hgd := GS_good hw _ hGS
  refine v_X11_agrees (impW_all σ G ch aim _ hC hK hW hw ha (fun τ x hf hC1 hK1 hm hA => ?_))
  refine c_copyTo hC1 hW hA (fun τ2 f1 hV => ?_)
  have hC2 := hC1.fr f1 (by decide)
  have hK2 := hK1.fr f1 (by decide)
  refine c_valuesF hC2 hK2 hW hw ha (fun τ3 w f2 hK3 hm3 hF => ⟨by omega, ?_⟩)
  have hC3 := hC2.fr f2 (by decide)
  have hV3 : VU τ3 11 (G 0 0) x := hV.fr f2 ⟨by simp; omega, by simp; omega⟩
  have hg3 : CL τ3 33 (G 0 0) g := ((hg.fr hf (by decide)).fr f1 (by decide)).fr f2 (by decide)
  have hxw := mmb_uniq hm hm3
  -- states of a class
  have hlike : ∀ s, s < G 0 0 → x s = x (g s) := by
    obtain ⟨p, y, hp, hv, hN, hxy⟩ := mmb_sad hW hw hm
    have := like_vals hW hw hp hv hN (GS_n hw (Nat.le_refl _) hGS) hgd.1 hgd.2
    intro s hs
    rw [hxy s hs, hxy (g s) (by have := (hgd.1 s hs).1; omega)]
    exact this s hs
  obtain ⟨d, u, h1, h2, h3⟩ := id hV3
  refine up (n := G 0 0) (fun k υ => υ = τ3) (fun v υ => L_X11_agrees_36 (i32 aim) (14 + aimN aim) v υ Q) ?_ ?_ 0 τ3 (by omega) rfl
  · rintro k υ hk rfl kk
    obtain ⟨b1, b2, b3, b4⟩ := h3 k hk
    obtain ⟨a', d', c1, c2, c3, c4, c5, c6⟩ := (hF k hk).nat
    have hgk : g k < G 0 0 := by have := (hgd.1 k hk).1; omega
    obtain ⟨e1, e2, e3, e4⟩ := h3 (g k) hgk
    have heq : x k = w k := hxw k hk
    refine v_X11_agrees_36 (by omega) ?_
    rw [hC3.1.1]
    simp (disch := omega) only [n0, n1, n2, n3, n4, n5, n6, n7, n8, n9, n49, n97, n98, n114, n102, n115, n119, n109, n112, i32_add, i32_mul, i32_N, i32_le, i32_lt, i32_eq, vpi_iff]
    refine ⟨fun z => by omega, fun _ => ⟨by omega, by omega, by omega, by omega, ?_⟩⟩
    rw [b2, b3, c4, c5]
    refine c_cmp h1 c2 (by omega) c1 h2 c3 (fun hc => ?_) (fun hc => ?_) (fun hc => ⟨fun z => absurd rfl z, fun _ => ⟨by omega, by omega, ?_⟩⟩)
    · rw [← b4, ← c6, heq] at hc; exact absurd hc Rat.lt_irrefl
    · rw [← b4, ← c6, heq] at hc; exact absurd hc Rat.lt_irrefl
    · rw [hg3 k hk]
      have hv : vp_in (i32 (g k)) 7 := vpi (by omega) (by omega)
      refine ⟨hv, ?_⟩
      rw [i32_N (show g k < 2147483648 by omega), e2, b2, i64_eq (by omega) (by omega)]
      have hu : u k = u (g k) := (fr_eq h1).mp (by rw [← b4, ← e4]; exact hlike k hk)
      exact ⟨fun _ => kk υ rfl, fun z => absurd (by omega) z⟩
  · rintro υ rfl
    refine v_X11_agrees_36 (by omega) ?_
    rw [hC3.1.1]
    refine ⟨fun _ => ?_, fun z => absurd ((i32_le (by omega) (by omega)).mpr (Nat.le_refl _)) z⟩
    simp (disch := omega) only [n0, n1, n2, n3, n4, n5, n6, n7, n8, n9, n49, n97, n98, n114, n102, n115, n119, n109, n112, i32_add, i32_mul, i32_N, i32_le, i32_lt, i32_eq, vpi_iff]
    refine ⟨fun _ => h υ hC3 hK3 hg3, fun z => ?_⟩
    subst z
    exact c_graphAgrees hC3 hW hw hm hV3 ⟨fun z => absurd z (by decide), fun _ => h υ hC3 hK3 hg3⟩
end CS
