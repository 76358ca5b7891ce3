/-! THE CALLS THAT ARE REFUSED; sum; isRefused -/
section SR
variable {a : cg_S} {G : Gm} {ch s aim : Nat}
theorem opt_uniq {V V' : Nat → Rat} {L L' : Nat → Nat} (hW : GW G) (hw : whole G) (hO : OPT G V L) (hO' : OPT G V' L') {s : Nat} (hs : s < G 0 0) : L s = L' s ∧ (L s ≠ 0 → V s = V' s) := by
  have half : ∀ {V V' : Nat → Rat} {L L' : Nat → Nat}, OPT G V L → OPT G V' L' → L s ≠ 0 → L' s ≠ 0 ∧ btt (V' s) (L' s) (V s) (L s) := fun {V V' L L'} hO hO' hL => by
    obtain ⟨f, f1, f2, f3⟩ := hO.2.2 s hs hL
    have := opt_all hW hw hO' (L s) f f1.1
    rw [f2, f3] at this
    exact this
  by_cases c : L s = 0
  · by_cases c' : L' s = 0
    · exact ⟨by rw [c, c'], fun z => absurd c z⟩
    · exact absurd c (half hO' hO c').1
  · obtain ⟨h1, h2⟩ := half hO hO' c
    obtain ⟨h3, h4⟩ := half hO' hO h1
    obtain ⟨e1, e2⟩ := btt_as h2 h4
    exact ⟨e2.symm, fun _ => e1.symm⟩
theorem r_addState {Q : Int32 → cg_S → Prop} (k : Q (-78) a) : M_L_addState 120 0 a Q :=
  w_addState (v_X11_addState (c_needPlayer (fun z => absurd z (by decide)) (fun _ => Or.inl ⟨rfl, k⟩)))
theorem r_addChoice1 {Q : Int32 → cg_S → Prop} (h : SI a G ch) (k : Q (-77) a) : M_L_addChoice (i32 (G 0 0)) 0 0 a Q := by
  have hn := h.2.2.1
  exact w_addChoice (v_X11_addChoice (c_needState h.1 hn (fun s hs e => by rw [i32_eq (by omega) (by omega)] at e; omega) (fun _ => Or.inl ⟨rfl, k⟩)))
theorem r_addChoice2 {Q : Int32 → cg_S → Prop} (h : SI a G ch) (h0 : 0 < G 0 0) (k : Q (-78) a) : M_L_addChoice 0 10 0 a Q := by
  have hn := h.2.2.1
  exact w_addChoice (v_X11_addChoice (c_needState h.1 hn (fun s hs e => ⟨fun z => absurd z (by decide), fun _ => ⟨fun _ => Or.inr (Or.inl ⟨rfl, k⟩), fun z => absurd (by decide) z⟩⟩) (fun z => (z 0 h0 rfl).elim)))
theorem r_addWeight1 {Q : Int32 → cg_S → Prop} (h : SI a G ch) (hw : whole G) (k : Q (-78) a) : M_L_addWeight 0 0 0 7 a Q := by
  have hn := h.2.2.1
  exact w_addWeight (v_X11_addWeight (c_needChoice h.1 h.2.2 (fun s c hs e1 hc e2 => c_needState h.1 hn (fun t ht e3 => ⟨fun z => absurd z (by decide), fun _ => ⟨fun z => absurd z (by decide), fun _ => Or.inr (Or.inl ⟨rfl, k⟩)⟩⟩) (fun z => (z 0 hw.1 rfl).elim)) (fun z => (z 0 0 hw.1 rfl (hw.2 0 hw.1).1 rfl).elim)))
theorem r_addWeight2 {Q : Int32 → cg_S → Prop} (h : SI a G ch) (k : Q (-77) a) : M_L_addWeight 0 3 0 1 a Q := by
  have hn := h.2.2.1
  exact w_addWeight (v_X11_addWeight (c_needChoice h.1 h.2.2 (fun s c hs e1 hc e2 => by
    have g3 := (h.2.2.2.1 s (by omega)).2.2.1
    rw [show (3 : Int32) = i32 3 from rfl, i32_eq (by omega) (by omega)] at e2
    omega) (fun _ => Or.inl ⟨rfl, k⟩)))
theorem r_setDiscount {Q : Int32 → cg_S → Prop} (k : Q (-78) a) : M_L_setDiscount 3 2 a Q :=
  w_setDiscount (v_X11_setDiscount ⟨fun z => absurd z (by decide), fun _ => ⟨fun _ => ⟨rfl, k⟩, fun z => absurd (by decide) z⟩⟩)
theorem r_setWeights {Q : Int32 → cg_S → Prop} (k : Q (-78) a) : M_L_setWeights 4 4 a Q :=
  w_setWeights (v_X11_setWeights ⟨fun z => absurd z (by decide), fun _ => ⟨fun _ => ⟨rfl, k⟩, fun z => absurd (by decide) z⟩⟩)
theorem r_tell {Q : Int32 → cg_S → Prop} (h : SI a G ch) (k : Q (-77) a) : M_L_tell 0 3 a Q := by
  have hn := h.2.2.1
  exact w_tell (v_X11_tell (c_needChoice h.1 h.2.2 (fun s c hs e1 hc e2 => by
    have g3 := (h.2.2.2.1 s (by omega)).2.2.1
    rw [show (3 : Int32) = i32 3 from rfl, i32_eq (by omega) (by omega)] at e2
    omega) (fun _ => ⟨rfl, k⟩)))
theorem r_aim {aim : Nat} (h : okA aim) : ¬ (112 : Int32) = i32 aim := by
  rw [show (112 : Int32) = i32 112 from rfl, i32_eq (by omega) (okA_lt h)]
  unfold okA at h; omega
theorem r_solve {Q : Int32 → cg_S → Prop} (k : Q (-78) a) : M_L_solve 112 a Q :=
  w_solve (v_X11_solve (c_needAim (fun aim ha e => absurd e (r_aim ha)) (fun _ => Or.inl ⟨rfl, k⟩)))
theorem r_bound {Q : UInt64 → cg_S → Prop} (h : SI a G ch) (h0 : 0 < G 0 0) (k : Q 13858561215837503488 a) : M_L_bound 0 (-1) a Q := by
  have hn := h.2.2.1
  exact w_bound (v_X11_bound (c_needState h.1 hn (fun s hs e => ⟨fun _ => Or.inr (Or.inl ⟨rfl, k⟩), fun z => absurd (by decide) z⟩) (fun z => (z 0 h0 rfl).elim)))
theorem r_traceAt {Q : Int32 → cg_S → Prop} (h : SI a G ch) (hw : whole G) (k : ∀ τ, SI τ G ch → Q (-75) τ) : M_L_traceAt 0 7 a Q := by
  have hn := h.2.2.1
  refine w_traceAt (v_X11_traceAt (l_trace (s := 0) h hw hw.1 (fun τ U D L h2 hS hI hO hL => ?_) (fun τ V L h2 hO hL => Or.inr (Or.inr ⟨rfl, k τ h2⟩))))
  obtain ⟨b1, b2, b3, b4, b5⟩ := TI_b h.2.2 hw hI hw.1
  rw [show ((0 : Int32).toNatClampNeg) = 0 from rfl, (hS 0 hw.1).1]
  refine ⟨fun z => absurd z (by decide), fun _ => ⟨(vpi (by omega) (by omega) : vp_in (i32 0) 7), fun z => ?_, fun _ => Or.inr (Or.inr ⟨rfl, k τ h2⟩)⟩⟩
  rw [show (7 : Int32) = i32 7 from rfl, i32_lt (by omega) (by omega)] at z
  omega
theorem r_responseAbove {Q : Int64 → cg_S → Prop} (k : Q (-78) a) : M_L_responseAbove 120 114 0 a Q :=
  w_responseAbove (v_X11_responseAbove (v_X11_findResponse (c_needPlayer (fun z => absurd z (by decide)) (fun _ => Or.inl ⟨rfl, k⟩))))
/-! sum -/
def smC (G : Gm) (t : Nat) : Nat → Nat → Int64 → Int64
  | 0, _, v => v
  | k + 1, c, v => smC G t k (c + 1) (31 * v + (chv (chq G (3 * t + c) t)).toInt64)
def smA (G : Gm) (w1 w2 : Nat → Rat) (t : Nat) (v : Int64) : Int64 := ((((31 * v + (i32 (G 10 t)).toInt64) + 7 * (i32 (G 3 t)).toInt64) + 11 * i64 (w1 t).num) + 13 * i64 ((w1 t).den : Nat)) + 17 * i64 (w2 t).num
def smT (G : Gm) (w1 w2 : Nat → Rat) : Nat → Nat → Int64 → Int64
  | 0, _, v => v
  | k + 1, t, v => smT G w1 w2 k (t + 1) (smC G t (G 3 t) 0 (smA G w1 w2 t v))
theorem i32_sc {n : Nat} : i32 n + 1 = i32 (n + 1) := by rw [show (1 : Int32) = i32 1 from rfl, i32_add]
theorem l_sumC {n t : Nat} {Q : Int64 → cg_S → Prop} (hw : whole G) (ht : t < G 0 0) : ∀ k c kc v (σ : cg_S), c + k = G 3 t → SI σ G ch → kc + 4 * k + 4 ≤ 200 → (∀ kc' τ, kc' ≤ kc + 4 * k + 1 → SI τ G ch → L_L_sum_9 kc' (i32 n) (smC G t k c v) (i32 (t + 1)) τ Q) → L_L_sum_83 kc (i32 n) v (i32 t) (i32 c) σ Q := by
  intro k
  induction k with
  | zero =>
    intro c kc v σ hck h hkc K
    have g3 := (h.2.2.2.1 t (by have := h.2.2.1; omega)).2.2.1
    refine v_L_sum_83 (by omega) (l_choices h ht ⟨fun _ => ?_, fun z => ?_⟩)
    · rw [i32_sc]; exact K (kc + 1) σ (by omega) h
    · rw [i32_le (by omega) (by omega)] at z; omega
  | succ k ih =>
    intro c kc v σ hck h hkc K
    have g3 := (h.2.2.2.1 t (by have := h.2.2.1; omega)).2.2.1
    refine v_L_sum_83 (by omega) (l_choices h ht ⟨fun z => ?_, fun _ => ?_⟩)
    · rw [i32_le (by omega) (by omega)] at z; omega
    · refine l_chance h ht (by omega) ht ((hw.2 t ht).2 c (by omega)) ?_
      rintro _ rfl
      rw [i32_sc]
      exact ih (c + 1) (kc + 4) _ σ (by omega) h (by omega) (fun kc' τ hk' h' => K kc' τ (by omega) h')
theorem l_sumT {n : Nat} {w1 w2 : Nat → Rat} {Q : Int64 → cg_S → Prop} (hn : G 0 0 = n) (hw : whole G) (h1 : mmb G 119 w1) (h2 : mmb G 114 w2) : ∀ k t kc v (σ : cg_S), t + k = n → SI σ G ch → kc + 24 * k + 11 ≤ 200 → (∀ τ, SI τ G ch → Q (smT G w1 w2 k t v) τ) → L_L_sum_9 kc (i32 n) v (i32 t) σ Q := by
  intro k
  induction k with
  | zero =>
    intro t kc v σ htk h hkc K
    have := h.2.2.1
    refine v_L_sum_9 (by omega) ⟨fun _ => K σ h, fun z => ?_⟩
    rw [i32_le (by omega) (by omega)] at z; omega
  | succ k ih =>
    intro t kc v σ htk h hkc K
    have hn7 := h.2.2.1
    have ht : t < G 0 0 := by omega
    have g3 := (h.2.2.2.1 t (by omega)).2.2.1
    refine v_L_sum_9 (by omega) ⟨fun z => ?_, fun _ => ?_⟩
    · rw [i32_le (by omega) (by omega)] at z; omega
    refine l_told h ht (l_choices h ht ?_)
    refine l_above (aim := 119) h hw (Or.inr (Or.inr (Or.inr rfl))) ht (fun τ1 w s1 m1 => ?_)
    rw [mmb_uniq m1 h1 t ht]
    refine l_below (aim := 119) s1 hw (Or.inr (Or.inr (Or.inr rfl))) ht (fun τ2 w s2 m2 => ?_)
    rw [mmb_uniq m2 h1 t ht]
    refine l_above (aim := 114) s2 hw (Or.inl rfl) ht (fun τ3 w s3 m3 => ?_)
    rw [mmb_uniq m3 h2 t ht]
    rintro _ rfl
    exact l_sumC hw ht (G 3 t) 0 (kc + 11) _ τ3 (by omega) s3 (by omega) (fun kc' τ hk' h' => ih (t + 1) kc' _ τ (by omega) h' (by omega) K)
theorem q_sum {w1 w2 : Nat → Rat} {Q : Int64 → cg_S → Prop} (h : SI a G ch) (hw : whole G) (hn : G 0 0 ≤ 5) (h1 : mmb G 119 w1) (h2 : mmb G 114 w2) (K : ∀ τ, SI τ G ch → Q (smT G w1 w2 (G 0 0) 0 (i32 (G 0 0)).toInt64) τ) : M_L_sum (i32 (G 0 0)) a Q :=
  v_L_sum (l_states h (l_sumT rfl hw h1 h2 (G 0 0) 0 0 _ a (by omega) h (by omega) K))
theorem mmb_get (hW : GW G) (hw : whole G) (aim : Nat) : ∃ w, mmb G aim w := by
  obtain ⟨p, x, h1, h2, h3⟩ := sad_ex aim hW hw
  exact ⟨x, sad_mmb hW hw h1 h2 h3⟩
theorem l_isRefused {Q : Int32 → cg_S → Prop} (h : SI a G ch) (hw : whole G) (hn : G 0 0 ≤ 5) (K : ∀ τ, SI τ G ch → Q 1 τ) : M_L_isRefused (i32 (G 0 0)) a Q := by
  obtain ⟨w1, h1⟩ := mmb_get h.2.2 hw 119
  obtain ⟨w2, h2⟩ := mmb_get h.2.2 hw 114
  refine v_L_isRefused (q_sum h hw hn h1 h2 (fun τ1 s1 => r_addState ⟨fun z => absurd rfl z, fun _ => ?_⟩))
  refine r_addChoice1 s1 ⟨fun z => absurd rfl z, fun _ => ?_⟩
  refine r_addChoice2 s1 hw.1 ⟨fun z => absurd rfl z, fun _ => ?_⟩
  refine r_addWeight1 s1 hw ⟨fun z => absurd rfl z, fun _ => ?_⟩
  refine r_addWeight2 s1 ⟨fun z => absurd rfl z, fun _ => ?_⟩
  refine r_setDiscount ⟨fun z => absurd rfl z, fun _ => ?_⟩
  refine r_setWeights ⟨fun z => absurd rfl z, fun _ => ?_⟩
  refine r_tell s1 ⟨fun z => absurd rfl z, fun _ => ?_⟩
  refine r_solve ⟨fun z => absurd rfl z, fun _ => ?_⟩
  refine r_bound s1 hw.1 ⟨fun z => absurd (by decide +kernel) z, fun _ => ?_⟩
  refine r_traceAt s1 hw (fun τ2 s2 => ⟨fun z => absurd z (by decide), fun _ => ?_⟩)
  refine r_responseAbove ⟨fun z => absurd rfl z, fun _ => ?_⟩
  refine v_L_isRefused_158 (by omega) ⟨fun z => absurd z (by decide), fun _ => ?_⟩
  exact q_sum s2 hw hn h1 h2 (fun τ3 s3 => ⟨fun z => absurd rfl z, fun _ => K τ3 s3⟩)
end SR
