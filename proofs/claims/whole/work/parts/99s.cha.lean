/-! THE CALLS: chainAbove, chainBelow, from what is still to be shown of 'm' -/
section CHA
variable {G : Gm}
/-- a round of a closed set begins and ends at its lowest state -/
def rtn (G : Gm) (s : Nat) : Prop := isClo G s ∧ cloL G s s
/-- what is gathered, state by state, until the round ends -/
def RND (G : Gm) (K : Nat → Rat) (c : Nat → Rat) : Prop := (∀ s, s < G 0 0 → (¬ isClo G s ∨ rtn G s) → c s = 0) ∧ ∀ s, s < G 0 0 → isClo G s → ¬ rtn G s → c_sm (G 0 0) (wtR G) (mv (G 10) s) * c s = c_sm (G 0 0) (wtR G) (mv (G 10) s) * K s + c_ex (G 0 0) (wtR G) c (mv (G 10) s)
def whl (G : Gm) (K c : Nat → Rat) (h : Nat) : Rat := c_sm (G 0 0) (wtR G) (mv (G 10) h) * K h + c_ex (G 0 0) (wtR G) c (mv (G 10) h)
def cst1 (G : Gm) (s : Nat) : Rat := ((G 4 (mv (G 10) s) : Nat) : Rat)
/-- the means: in a closed set, cost of a round by its steps; else what the chain expects of them -/
def MNX (G : Gm) (x : Nat → Rat) : Prop := ∃ c k, RND G (cst1 G) c ∧ RND G (fun _ => 1) k ∧ (∀ s h, s < G 0 0 → isClo G s → cloL G s h → 0 < whl G (fun _ => 1) k h ∧ x s = whl G (cst1 G) c h / whl G (fun _ => 1) k h) ∧ ∀ s, s < G 0 0 → ¬ isClo G s → c_sm (G 0 0) (wtR G) (mv (G 10) s) * x s = c_ex (G 0 0) (wtR G) x (mv (G 10) s)
def okC (c : Nat) : Prop := okA c ∨ c = 109 ∨ c = 112
theorem okC_lt {c : Nat} (h : okC c) : c < 2147483648 := by
  rcases h with h | h | h
  · exact okA_lt h
  · omega
  · omega
/-- the value of a chain -/
def CHX (G : Gm) (c : Nat) (x : Nat → Rat) : Prop := (okA c → gX G c (mv (G 10)) x) ∧ (c = 112 → SolR (G 0 0) (wtR G) (mv (G 10)) (EVN G) x) ∧ (c = 109 → MNX G x)
/-- still to be shown: means are one, the class finds them, the reference finds them -/
def MNU : Prop := ∀ (G : Gm) (x y : Nat → Rat), GW G → whole G → MNX G x → MNX G y → ∀ s, s < G 0 0 → x s = y s
def MNC : Prop := ∀ (σ : cg_S) (G : Gm) (ch : Nat) (Q : cg_S → Prop), CG σ G ch → CK σ G ch → GW G → whole G → (∀ τ x, CG τ G ch → CK τ G ch → MNX G x → AN τ (G 0 0) x → Q τ) → M_X6_findMeans 19 σ Q
def MNM : Prop := ∀ (σ : cg_S) (G : Gm) (p : Nat → Nat) (Q : cg_S → Prop), GW G → whole G → pkOk G p → (∀ s, s < G 0 0 → mv p s = mv (G 10) s) → MP σ p → MG σ G → (∀ τ x, Fr [16, 17, 20] [0, 21, 22, 23, 30] [] σ τ → MNX G x → VX τ (G 0 0) x → Q τ) → M_X12_means σ Q
theorem CHX_uniq {c : Nat} {x y : Nat → Rat} (hU : MNU) (hW : GW G) (hw : whole G) (hc : okC c) (hx : CHX G c x) (hy : CHX G c y) : ∀ s, s < G 0 0 → x s = y s := by
  rcases hc with h | h | h
  · exact gX_uniq hW hw (mv_pk (told_ok hW hw)) (hx.1 h) (hy.1 h)
  · exact hU G x y hW hw (hx.2.2 h) (hy.2.2 h)
  · exact solR_uniq (pk_c hW hw (told_ok hW hw)) (hx.2.1 h) (hy.2.1 h)
def whyC (v1 v2 : Int32) (G : Gm) (e : Nat) : Prop := (e = 1 ∧ ∀ c, okC c → v1 ≠ i32 c) ∨ (e = 2 ∧ (∃ c, okC c ∧ v1 = i32 c) ∧ ∀ s, s < G 0 0 → v2 ≠ i32 s) ∨ (e = 3 ∧ (∃ c, okC c ∧ v1 = i32 c) ∧ (∃ s, s < G 0 0 ∧ v2 = i32 s) ∧ ¬ whole G)
theorem whyC_uniq {v1 v2 : Int32} {e e' : Nat} (h : whyC v1 v2 G e) (h' : whyC v1 v2 G e') : e = e' := by
  rcases h with ⟨rfl, h⟩ | ⟨rfl, ⟨c, hc, e1⟩, h⟩ | ⟨rfl, ⟨c, hc, e1⟩, ⟨s, hs, e2⟩, h⟩ <;> rcases h' with ⟨rfl, h'⟩ | ⟨rfl, ⟨c', hc', e1'⟩, h'⟩ | ⟨rfl, ⟨c', hc', e1'⟩, ⟨s', hs', e2'⟩, h'⟩
  · rfl
  · exact absurd e1' (h c' hc')
  · exact absurd e1' (h c' hc')
  · exact absurd e1 (h' c hc)
  · rfl
  · exact absurd e2' (h s' hs')
  · exact absurd e1 (h' c hc)
  · exact absurd e2 (h' s hs)
  · rfl
theorem whyC_no {v1 v2 : Int32} {e c s : Nat} (h : whyC v1 v2 G e) (hc : okC c) (e1 : v1 = i32 c) (hs : s < G 0 0) (e2 : v2 = i32 s) (hw : whole G) : False := by
  rcases h with ⟨rfl, h⟩ | ⟨rfl, -, h⟩ | ⟨rfl, -, -, h⟩
  · exact h c hc e1
  · exact h s hs e2
  · exact h hw
theorem whyC_3 {v1 v2 : Int32} {e : Nat} (h : whyC v1 v2 G e) : e = 1 ∨ e = 2 ∨ e = 3 := by
  rcases h with ⟨rfl, -⟩ | ⟨rfl, -⟩ | ⟨rfl, -⟩
  · exact Or.inl rfl
  · exact Or.inr (Or.inl rfl)
  · exact Or.inr (Or.inr rfl)
theorem c_followChain {v1 v2 : Int32} {a : cg_S} {ch : Nat} {Q : cg_S → Prop} {X : String → cg_S → Prop} (hM : MNC) (hC : CG a G ch) (hK : CK a G ch) (hW : GW G) (hy : ∀ c s τ x, okC c → v1 = i32 c → s < G 0 0 → v2 = i32 s → whole G → CG τ G ch → CK τ G ch → CHX G c x → AN τ (G 0 0) x → Q τ) (hx : ∀ e, whyC v1 v2 G e → X (exn e) a) : M_X11_followChain v1 v2 a Q X := by
  have hn := hW.1
  have go : ∀ c, okC c → v1 = i32 c → L_X11_followChain_16 v1 v2 a Q X := fun c hc e1 => by
    refine v_X11_followChain_16 (v_X11_needWholeFor (c_needState hC hn (fun s hs e2 => c_needWhole hC hW (fun hw => ?_) (fun z => hx 3 (Or.inr (Or.inr ⟨rfl, ⟨c, hc, e1⟩, ⟨s, hs, e2⟩, z⟩)))) (fun z => hx 2 (Or.inr (Or.inl ⟨rfl, ⟨c, hc, e1⟩, z⟩)))))
    have hlt := okC_lt hc
    have ev : M_X0_evaluate v1 19 a = M_X0_evaluate (i32 c) 19 a := by rw [e1]
    have q := hy c s
    rw [ev]
    have e109 : v1 = 109 ↔ c = 109 := by rw [e1, show (109 : Int32) = i32 109 from rfl, i32_eq hlt (by omega)]
    have e112 : v1 = 112 ↔ c = 112 := by rw [e1, show (112 : Int32) = i32 112 from rfl, i32_eq hlt (by omega)]
    rw [e109, e112]
    refine ⟨fun z => ⟨fun z2 => ?_, fun z2 => ?_⟩, fun z => ?_⟩
    · have ha : okA c := by
        rcases hc with h | h | h
        · exact h
        · exact absurd h z
        · exact absurd h z2
      exact c_evaluate hC hW hw (told_ok hW hw) (told_2 hW) ha (Or.inl rfl) (PK_told hC hW) (fun τ x f1 h1 h2 => q τ x hc e1 hs e2 hw (hC.fr f1 (by decide)) (hK.fr f1 (by decide)) ⟨fun _ => h1, fun y => absurd y z2, fun y => absurd y z⟩ h2.an)
    · have hno : ¬ okA c := by rw [z2]; unfold okA; omega
      exact c_findParity hC hW hw (fun τ x f1 h1 h2 => q τ x hc e1 hs e2 hw (hC.fr f1 (by decide)) (hK.fr f1 (by decide)) ⟨fun y => absurd y hno, fun _ => h1, fun y => absurd y z⟩ h2.an)
    · have hno : ¬ okA c := by rw [z]; unfold okA; omega
      exact hM a G ch Q hC hK hW hw (fun τ x g1 g2 g3 g4 => q τ x hc e1 hs e2 hw g1 g2 ⟨fun y => absurd y hno, fun y => absurd y (by omega), fun _ => g3⟩ g4)
  refine v_X11_followChain ⟨fun z => go 109 (Or.inr (Or.inl rfl)) z, fun z => ⟨fun z2 => go 112 (Or.inr (Or.inr rfl)) z2, fun z2 => c_needAim (fun aim ha e1 => go aim (Or.inl ha) e1) (fun h => hx 1 (Or.inl ⟨rfl, fun c hc e1 => ?_⟩))⟩⟩
  rcases hc with h1 | h1 | h1
  · exact h c h1 e1
  · rw [h1] at e1; exact z e1
  · rw [h1] at e1; exact z2 e1
theorem m_isChain {v1 v2 : Int32} {b : cg_S} {Q : Int32 → cg_S → Prop} (hM : MNM) (hR : RB b G) (hbad : ∀ e, whyC v1 v2 G e → Q 0 (cg_i b 0 0 (i32 e))) (hok : ∀ c s τ x, okC c → v1 = i32 c → s < G 0 0 → v2 = i32 s → whole G → RB τ G → τ.1 0 0 = i32 0 → CHX G c x → VX τ (G 0 0) x → Q 1 τ) : M_X12_isChain v1 v2 b Q := by
  have hW := hR.1
  have hG := hR.2.1
  have hn := hW.1
  have bad : ∀ e, 0 < e → e < 4 → whyC v1 v2 G e → L_X12_isChain_49 v1 (i32 e) b Q := fun e h0 h4 he => by
    refine v_X12_isChain_49 ?_
    rintro _ rfl
    have e1 : (cg_i b 0 0 (i32 e)).1 0 0 = i32 e := by rw [ri, if_pos rfl, if_pos rfl]
    rw [e1, n0, i32_le (by omega) (by omega)]
    exact ⟨fun z => by omega, fun _ => hbad e he⟩
  have go : ∀ c, okC c → v1 = i32 c → L_X12_isChain_25 v1 v2 b Q := fun c hc e1 => by
    refine v_X12_isChain_25 (m_isState hn hG.1.1 (fun s hs e2 => ⟨fun _ => ?_, fun y => absurd y (by decide)⟩) (fun z => ⟨fun y => absurd rfl y, fun _ => bad 2 (by omega) (by omega) (Or.inr (Or.inl ⟨rfl, ⟨c, hc, e1⟩, z⟩))⟩))
    refine m_isAll hW hG (fun hw => ⟨fun _ => ?_, fun y => absurd y (by decide)⟩) (fun hw => ⟨fun y => absurd rfl y, fun _ => bad 3 (by omega) (by omega) (Or.inr (Or.inr ⟨rfl, ⟨c, hc, e1⟩, ⟨s, hs, e2⟩, hw⟩))⟩)
    refine v_X12_isChain_49 ?_
    rintro _ rfl
    have e0 : (cg_i b 0 0 0).1 0 0 = i32 0 := by rw [ri, if_pos rfl, if_pos rfl]; rfl
    have hR0 := hR.c0 (x := 0)
    generalize cg_i b 0 0 0 = β at *
    refine ⟨fun _ => ?_, fun y => absurd (by rw [e0]; decide) y⟩
    obtain ⟨-, hG0, ⟨p0, hp0⟩, hK0⟩ := id hR0
    refine m_picksTold hW hp0 hG0 (fun τ1 f1 hp1 => ?_)
    have hG1 := hG0.fr f1 (by decide)
    have hpt : ∀ s, s < G 0 0 → mv (tp G p0) s = mv (G 10) s := fun s hs => tp_eq hs
    have hpk : pkOk G (tp G p0) := fun s hs => by
      have h1 := hpt s hs
      unfold mv at h1
      have h2 := told_ok hW hw s hs
      omega
    have fin : ∀ τ x, Fr [16, 17, 20] [0, 21, 22, 23, 30] [] τ1 τ → CHX G c x → VX τ (G 0 0) x → Q 1 τ := fun τ x f2 hx hv => by
      refine hok c s τ x hc e1 hs e2 hw ⟨hW, hG1.fr f2 (by decide), ⟨_, hp1.fr f2 (by decide)⟩, (hK0.fr f1 (by decide)).fr f2 (by decide)⟩ ?_ hx hv
      rw [f2.1 0 (by decide), f1.1 0 (by decide)]
      exact e0
    rw [e1]
    rcases hc with h | h | h
    · have h1 : c ≠ 109 := by unfold okA at h; omega
      have h2 : c ≠ 112 := by unfold okA at h; omega
      refine m_gets hW hw hpk h hp1 hG1 (fun τ x f2 _ hx hv => fin τ x (f2.mo (by simp) (by simp) (fun _ z => z)) ⟨fun _ => ?_, fun y => absurd y h2, fun y => absurd y h1⟩ hv)
      exact gX_congr hpt (XS_gX.mp hx)
    · subst h
      refine v_X12_gets ⟨fun y => absurd rfl y, fun _ => hM τ1 G (tp G p0) _ hW hw hpk hpt hp1 hG1 (fun τ x f2 hx hv => fin τ x f2 ⟨fun y => absurd y (by unfold okA; omega), fun y => absurd y (by omega), fun _ => hx⟩ hv)⟩
    · subst h
      refine v_X12_gets ⟨fun _ => ⟨fun y => absurd rfl y, fun _ => m_parities hW hw hpk hpt hp1 hG1 (fun τ x f2 hx hv => fin τ x (f2.mo (by simp) (by simp) (fun _ z => z)) ⟨fun y => absurd y (by unfold okA; omega), fun _ => ?_, fun y => absurd y (by omega)⟩ hv)⟩, fun y => absurd y (by decide)⟩
      refine ⟨hx.1, fun s hs hT => ?_, fun s hs hc2 => hx.2.2 s hs (fun z => hc2 (can_congr hpt z))⟩
      rw [← hpt s hs]; exact hx.2.1 s hs hT
  refine v_X12_isChain (m_numberOf2 (fun aim ha e1 => ⟨fun _ => go aim (Or.inl ha) e1, fun y => absurd y (aimN_ne aim)⟩) (fun hno => ⟨fun y => absurd rfl y, fun _ => ⟨fun z => go 109 (Or.inr (Or.inl rfl)) z, fun z => ⟨fun z2 => go 112 (Or.inr (Or.inr rfl)) z2, fun z2 => bad 1 (by omega) (by omega) (Or.inl ⟨rfl, fun c hc e1 => ?_⟩)⟩⟩⟩))
  rcases hc with h1 | h1 | h1
  · exact hno c h1 e1
  · rw [h1] at e1; exact z e1
  · rw [h1] at e1; exact z2 e1
end CHA

theorem failC {n e : Nat} {v1 v2 : Int32} {a b : cg_S} {G : Gm} {M : (Int32 → cg_S → Prop) → Prop} (he : whyC v1 v2 G e) (h : ∀ P : Int32 → cg_S → Prop, P (i32 e) (cg_i b 0 0 (i32 e)) → M P) (hI : Inv (n + 1) a (cg_i b 0 0 (i32 e))) : (exn e = "java/lang/IllegalArgumentException" ∧ M (fun t b2 => t = 1 ∧ Inv (n + 1) a b2)) ∨ (exn e = "java/lang/IndexOutOfBoundsException" ∧ M (fun t b2 => t = 2 ∧ Inv (n + 1) a b2)) ∨ (exn e = "java/lang/IllegalStateException" ∧ M (fun t b2 => t = 3 ∧ Inv (n + 1) a b2)) := by
  rcases whyC_3 he with rfl | rfl | rfl
  · exact Or.inl ⟨rfl, h _ ⟨rfl, hI⟩⟩
  · exact Or.inr (Or.inl ⟨rfl, h _ ⟨rfl, hI⟩⟩)
  · exact Or.inr (Or.inr ⟨rfl, h _ ⟨rfl, hI⟩⟩)
theorem op_chainAbove {n : Nat} {v1 v2 : Int32} {a b : cg_S} (hU : MNU) (hMC : MNC) (hMM : MNM) (h : Inv n a b) : OP_chainAbove (Inv (n + 1)) v1 v2 a b := by
  obtain ⟨G, ch, hch, hC, hK, hR⟩ := h
  have hW := hR.1
  have hn7 := hW.1
  refine v_X11_chainAbove (c_followChain hMC hC hK hW (fun c s τ x hc e1 hs e2 hw h1 h2 h3 h4 => ?_) (fun e he => ?_))
  · rw [show M_X0_toldAbove v2 τ = M_X0_toldAbove (i32 s) τ by rw [e2]]
    refine (c_told hn7 h4 hs).1 (v_X12_chainAbove (m_isChain hMM hR (fun e he => (whyC_no he hc e1 hs e2 hw).elim) (fun c' s' β y hc' e1' hs' e2' _ hR' h0 hy hv => ⟨fun z => absurd z (by decide), fun _ => ?_⟩)))
    rw [e1, i32_eq (okC_lt hc) (okC_lt hc')] at e1'
    rw [e2, i32_eq (by omega) (by omega)] at e2'
    subst e1'; subst e2'
    rw [e2, i32_N (by omega), (hv s hs).2.2.1, CHX_uniq hU hW hw hc h3 hy s hs]
    exact ⟨vpi (by omega) (by omega), m_thrown1 h0 ⟨rfl, rfl, ⟨G, ch, by omega, h1, h2, hR'⟩⟩⟩
  · refine failC (b := b) (M := fun P => M_X12_chainAbove v1 v2 b (fun r2 b1 => M_X12_thrown b1 P)) he (fun P hP => v_X12_chainAbove (m_isChain hMM hR (fun e' he' => ⟨fun _ => ?_, fun z => absurd rfl z⟩) (fun c s τ x hc e1 hs e2 hw _ _ _ _ => (whyC_no he hc e1 hs e2 hw).elim))) (Inv.up hch hC hK hR)
    rw [whyC_uniq he' he]
    exact m_thrown0 hP
theorem op_chainBelow {n : Nat} {v1 v2 : Int32} {a b : cg_S} (hU : MNU) (hMC : MNC) (hMM : MNM) (h : Inv n a b) : OP_chainBelow (Inv (n + 1)) v1 v2 a b := by
  obtain ⟨G, ch, hch, hC, hK, hR⟩ := h
  have hW := hR.1
  have hn7 := hW.1
  refine v_X11_chainBelow (c_followChain hMC hC hK hW (fun c s τ x hc e1 hs e2 hw h1 h2 h3 h4 => ?_) (fun e he => ?_))
  · rw [show M_X0_toldBelow v2 τ = M_X0_toldBelow (i32 s) τ by rw [e2]]
    refine (c_told hn7 h4 hs).2 (v_X12_chainBelow (m_isChain hMM hR (fun e he => (whyC_no he hc e1 hs e2 hw).elim) (fun c' s' β y hc' e1' hs' e2' _ hR' h0 hy hv => ⟨fun z => absurd z (by decide), fun _ => ?_⟩)))
    rw [e1, i32_eq (okC_lt hc) (okC_lt hc')] at e1'
    rw [e2, i32_eq (by omega) (by omega)] at e2'
    subst e1'; subst e2'
    rw [e2, i32_N (by omega), (hv s hs).2.2.2, CHX_uniq hU hW hw hc h3 hy s hs]
    exact ⟨vpi (by omega) (by omega), m_thrown1 h0 ⟨rfl, rfl, ⟨G, ch, by omega, h1, h2, hR'⟩⟩⟩
  · refine failC (b := b) (M := fun P => M_X12_chainBelow v1 v2 b (fun r2 b1 => M_X12_thrown b1 P)) he (fun P hP => v_X12_chainBelow (m_isChain hMM hR (fun e' he' => ⟨fun _ => ?_, fun z => absurd rfl z⟩) (fun c s τ x hc e1 hs e2 hw _ _ _ _ => (whyC_no he hc e1 hs e2 hw).elim))) (Inv.up hch hC hK hR)
    rw [whyC_uniq he' he]
    exact m_thrown0 hP
