/-! THE CALLS IN A STATE THAT STANDS FOR A GAME: those that change nothing -/
def SI (a : cg_S) (G : Gm) (ch : Nat) : Prop := CG a G ch ∧ CK a G ch ∧ GW G
section SO
variable {a : cg_S} {G : Gm} {ch s aim : Nat}
theorem SI.fr {τ : cg_S} {I L D : List Nat} (h : SI a G ch) (hC : CG τ G ch) (hK : CK τ G ch) : SI τ G ch := ⟨hC, hK, h.2.2⟩
theorem l_told {Q : Int32 → cg_S → Prop} (h : SI a G ch) (hs : s < G 0 0) (k : Q (i32 (G 10 s)) a) : M_L_told (i32 s) a Q := by
  obtain ⟨hC, hK, hW⟩ := h
  have hn := hW.1
  refine w_told (v_X11_told (c_needState hC hn (fun s' hs' e => ⟨vpi (by omega) (by omega), ?_⟩) (fun z => (z s hs rfl).elim)))
  rw [i32_N (by omega), (hC.2.1 s (by omega)).2.2.2]
  exact k
theorem l_choices {Q : Int32 → cg_S → Prop} (h : SI a G ch) (hs : s < G 0 0) (k : Q (i32 (G 3 s)) a) : M_L_choices (i32 s) a Q := by
  obtain ⟨hC, hK, hW⟩ := h
  have hn := hW.1
  refine w_choices (v_X11_choices (c_needState hC hn (fun s' hs' e => ⟨vpi (by omega) (by omega), ?_⟩) (fun z => (z s hs rfl).elim)))
  rw [i32_N (by omega), (hC.2.1 s (by omega)).2.2.1]
  exact k
/-- the chance q as it is told -/
def chv (q : Rat) : Int32 := i32 (10 * q.num.toNat + q.den)
def chq (G : Gm) (m t : Nat) : Rat := ((G 7 (7 * m + t) : Nat) : Rat) / ((G 6 m : Nat) : Rat)
theorem l_chance {c t : Nat} {Q : Int32 → cg_S → Prop} (h : SI a G ch) (hs : s < G 0 0) (hc : c < G 3 s) (ht : t < G 0 0) (h6 : 0 < G 6 (3 * s + c)) (k : Q (chv (chq G (3 * s + c) t)) a) : M_L_chance (i32 s) (i32 c) (i32 t) a Q := by
  obtain ⟨hC, hK, hW⟩ := h
  have hn := hW.1
  have g3 := (hW.2.1 s (by omega)).2.2.1
  have g6 := (hW.2.2.1 (3 * s + c) (by omega)).2.2.1
  have g7 := hW.w6 (m := 3 * s + c) (t := t) (by omega) (by omega)
  obtain ⟨d1, d2, d3, d4, d5⟩ := hC.2.2 (3 * s + c) (by omega)
  refine w_chance (v_X11_chance (c_needChoice hC hW (fun s' c' hs' e1 hc' e2 => c_needState hC hn (fun t' ht' e3 => ?_) (fun z => (z t ht rfl).elim)) (fun z => (z s c hs rfl hc rfl).elim)))
  refine c_moveOf ⟨vpi (by omega) (by omega), ?_⟩
  rw [i32_N (by omega), d3]
  rintro _ rfl
  refine ⟨fun z => ⟨vpi (by omega) (by omega), vpi (by omega) (by omega), ?_⟩, fun z => ?_⟩
  · rw [i32_N (by omega), d5 t (by omega)]
    rintro _ rfl
    rw [n0, i32_eq (by omega) (by omega)] at z
    rw [i32_64 (by omega), i32_64 (by omega)]
    refine (c_lowest (by omega) (by omega) z).1 ((c_lowest (by omega) (by omega) z).2 ?_)
    have hnn : 0 ≤ (((G 7 (7 * (3 * s + c) + t) : Nat) : Rat) / ((G 6 (3 * s + c) : Nat) : Rat)).num := Rat.num_nonneg.mpr (rat_div_nonneg Rat.natCast_nonneg (Rat.natCast_pos.mpr (by omega)))
    unfold chv chq at k
    generalize ((G 7 (7 * (3 * s + c) + t) : Nat) : Rat) / ((G 6 (3 * s + c) : Nat) : Rat) = q at *
    have e : (((10 : Int64) * i64 q.num + i64 ((q.den : Nat) : Int)).toInt32) = i32 (10 * q.num.toNat + q.den) := by
      rw [show (10 : Int64) = i64 10 from rfl, i64_mul, i64_add]
      show (Int64.ofInt _).toInt32 = Int32.ofNat _
      rw [Int64.toInt32_ofInt, ← Int32.ofInt_eq_ofNat]
      congr 1
      omega
    rw [e]
    exact k
  · rw [n0, i32_eq (by omega) (by omega)] at z
    omega
theorem l_isWhole {Q : Int32 → cg_S → Prop} (h : SI a G ch) (hw : whole G) (k : Q 1 a) : M_X11_isWhole a Q :=
  v_X11_isWhole (c_isReady h.1 h.2.2 (fun _ => ⟨Or.inr rfl, k⟩) (fun z => absurd hw z))
theorem l_states {Q : Int32 → cg_S → Prop} (h : SI a G ch) (k : Q (i32 (G 0 0)) a) : M_X11_states a Q := v_X11_states (by rw [h.1.1.1]; exact k)
theorem l_isConsistent {Q : Int32 → cg_S → Prop} (h : SI a G ch) (hw : whole G) (k : ∀ τ, SI τ G ch → Q 1 τ) : M_X11_isConsistent a Q := by
  obtain ⟨hC, hK, hW⟩ := h
  refine v_X11_isConsistent (c_isReady hC hW (fun hw => ⟨fun _ => ?_, fun z => absurd z (by decide)⟩) (fun z => absurd hw z))
  refine c_sort hC hW hw (fun τ0 g f1 h1 h2 => ?_)
  refine c_agrees (aim := 114) (hC.fr f1 (by decide)) (hK.fr f1 (by decide)) hW hw (Or.inl rfl) h1 h2 (fun τ1 hC1 hK1 hg1 => ⟨fun z => absurd z (by decide), fun _ => ?_⟩)
  refine c_agrees (aim := 102) hC1 hK1 hW hw (Or.inr (Or.inl rfl)) hg1 h2 (fun τ2 hC2 hK2 hg2 => ⟨fun z => absurd z (by decide), fun _ => ?_⟩)
  refine c_agrees (aim := 115) hC2 hK2 hW hw (Or.inr (Or.inr (Or.inl rfl))) hg2 h2 (fun τ3 hC3 hK3 hg3 => ⟨fun z => absurd z (by decide), fun _ => ?_⟩)
  refine c_agrees (aim := 119) hC3 hK3 hW hw (Or.inr (Or.inr (Or.inr rfl))) hg3 h2 (fun τ4 hC4 hK4 hg4 => ⟨fun z => absurd z (by decide), fun _ => ?_⟩)
  exact k τ4 ⟨hC4, hK4, hW⟩
theorem l_val (h : SI a G ch) (hw : whole G) (ha : okA aim) (hs : s < G 0 0) {P : cg_S → Prop} (k : ∀ τ w, SI τ G ch → mmb G aim w → AN τ (G 0 0) w → P τ) {X : String → cg_S → Prop} : M_X11_findValues (i32 aim) (i32 s) a P X := by
  obtain ⟨hC, hK, hW⟩ := h
  have hn := hW.1
  refine c_findValues imp_all hC hK hW (fun aim' s' τ w ha' e1 hs' e2 _ h1 h2 h3 h4 => ?_) (fun e he => (why3_no he ha rfl hs rfl hw).elim)
  rw [i32_eq (okA_lt ha) (okA_lt ha')] at e1
  subst e1
  exact k τ w ⟨h1, h2, hW⟩ h3 h4
theorem l_above {Q : Int64 → cg_S → Prop} (h : SI a G ch) (hw : whole G) (ha : okA aim) (hs : s < G 0 0) (k : ∀ τ w, SI τ G ch → mmb G aim w → Q (i64 (w s).num) τ) : M_L_above (i32 aim) (i32 s) a Q :=
  w_above (v_X11_above (l_val h hw ha hs (fun τ w h1 h3 h4 => (c_told h.2.2.1 h4 hs).1 (k τ w h1 h3))))
theorem l_below {Q : Int64 → cg_S → Prop} (h : SI a G ch) (hw : whole G) (ha : okA aim) (hs : s < G 0 0) (k : ∀ τ w, SI τ G ch → mmb G aim w → Q (i64 ((w s).den : Nat)) τ) : M_L_below (i32 aim) (i32 s) a Q :=
  w_below (v_X11_below (l_val h hw ha hs (fun τ w h1 h3 h4 => (c_told h.2.2.1 h4 hs).2 (k τ w h1 h3))))
theorem l_needS (h : SI a G ch) (hw : whole G) (ha : okA aim) (hs : s < G 0 0) {P : cg_S → Prop} (k : P a) {X : String → cg_S → Prop} : M_X11_needSolvable (i32 aim) (i32 s) a P X :=
  c_needSolvable h.1 h.2.2 (fun _ _ _ _ _ _ _ => k) (fun e he => (why3_no he ha rfl hs rfl hw).elim)
theorem l_aboveByAll {Q : Int64 → cg_S → Prop} (h : SI a G ch) (hch : ch < 1000) (hw : whole G) (ha : okA aim) (hs : s < G 0 0) (k : ∀ τ w, SI τ G ch → mmb G aim w → Q (i64 (w s).num) τ) : M_L_aboveByAll (i32 aim) (i32 s) a Q := by
  have hn := h.2.2.1
  refine w_aboveByAll (v_X11_aboveByAll (l_needS h hw ha hs (c_valuesFor swa_all hch h.1 h.2.1 h.2.2 hw ha (fun τ w h1 h2 h3 h4 => ?_))))
  have h9 := aimN_lt aim
  refine ⟨by omega, vpi (by omega) (by omega), vpi (by omega) (by omega), ?_⟩
  rw [i32_N (by omega)]
  exact (c_lowFV (h4 s hs)).1 (k τ w ⟨h1, h2, h.2.2⟩ h3)
theorem l_belowByAll {Q : Int64 → cg_S → Prop} (h : SI a G ch) (hch : ch < 1000) (hw : whole G) (ha : okA aim) (hs : s < G 0 0) (k : ∀ τ w, SI τ G ch → mmb G aim w → Q (i64 ((w s).den : Nat)) τ) : M_L_belowByAll (i32 aim) (i32 s) a Q := by
  have hn := h.2.2.1
  refine w_belowByAll (v_X11_belowByAll (l_needS h hw ha hs (c_valuesFor swa_all hch h.1 h.2.1 h.2.2 hw ha (fun τ w h1 h2 h3 h4 => ?_))))
  have h9 := aimN_lt aim
  refine ⟨by omega, vpi (by omega) (by omega), vpi (by omega) (by omega), ?_⟩
  rw [i32_N (by omega)]
  exact (c_lowFV (h4 s hs)).2 (k τ w ⟨h1, h2, h.2.2⟩ h3)
theorem l_resp {v1 : Int32} {o : Nat} (h : SI a G ch) (ho : v1 = i32 97 ∧ o = 98 ∨ v1 = i32 98 ∧ o = 97) (hw : whole G) (ha : okA aim) (hs : s < G 0 0) {P : cg_S → Prop} (k : ∀ τ y, SI τ G ch → bst G o aim (G 10) y → AN τ (G 0 0) y → P τ) {X : String → cg_S → Prop} : M_X11_findResponse v1 (i32 aim) (i32 s) a P X := by
  obtain ⟨hC, hK, hW⟩ := h
  have hn := hW.1
  refine c_findResponse rsp_all hC hK hW (fun o' aim' s' τ y ho' ha' e1 hs' e2 _ h1 h2 h3 h4 => ?_) (fun e he => (why4_no he (ho.imp And.left And.left) ha rfl hs rfl hw).elim)
  have ho2 := side_uniq ho ho'
  rw [i32_eq (okA_lt ha) (okA_lt ha')] at e1
  subst e1; subst ho2
  exact k τ y ⟨h1, h2, hW⟩ h3 h4
theorem l_responseAbove {v1 : Int32} {o : Nat} {Q : Int64 → cg_S → Prop} (h : SI a G ch) (ho : v1 = i32 97 ∧ o = 98 ∨ v1 = i32 98 ∧ o = 97) (hw : whole G) (ha : okA aim) (hs : s < G 0 0) (k : ∀ τ y, SI τ G ch → bst G o aim (G 10) y → Q (i64 (y s).num) τ) : M_L_responseAbove v1 (i32 aim) (i32 s) a Q :=
  w_responseAbove (v_X11_responseAbove (l_resp h ho hw ha hs (fun τ w h1 h3 h4 => (c_told h.2.2.1 h4 hs).1 (k τ w h1 h3))))
theorem l_responseBelow {v1 : Int32} {o : Nat} {Q : Int64 → cg_S → Prop} (h : SI a G ch) (ho : v1 = i32 97 ∧ o = 98 ∨ v1 = i32 98 ∧ o = 97) (hw : whole G) (ha : okA aim) (hs : s < G 0 0) (k : ∀ τ y, SI τ G ch → bst G o aim (G 10) y → Q (i64 ((y s).den : Nat)) τ) : M_L_responseBelow v1 (i32 aim) (i32 s) a Q :=
  w_responseBelow (v_X11_responseBelow (l_resp h ho hw ha hs (fun τ w h1 h3 h4 => (c_told h.2.2.1 h4 hs).2 (k τ w h1 h3))))
theorem l_chain (h : SI a G ch) (hw : whole G) (ha : okA aim) (hs : s < G 0 0) {P : cg_S → Prop} (k : ∀ τ x, SI τ G ch → gX G aim (mv (G 10)) x → AN τ (G 0 0) x → P τ) {X : String → cg_S → Prop} : M_X11_followChain (i32 aim) (i32 s) a P X := by
  obtain ⟨hC, hK, hW⟩ := h
  have hn := hW.1
  have hlt := okA_lt ha
  have e109 : ¬ i32 aim = 109 := by
    rw [show (109 : Int32) = i32 109 from rfl, i32_eq hlt (by omega)]
    unfold okA at ha; omega
  have e112 : ¬ i32 aim = 112 := by
    rw [show (112 : Int32) = i32 112 from rfl, i32_eq hlt (by omega)]
    unfold okA at ha; omega
  refine v_X11_followChain ⟨fun z => absurd z e109, fun _ => ⟨fun z => absurd z e112, fun _ => c_needAim (fun aim' ha' e1 => ?_) (fun z => (z aim ha rfl).elim)⟩⟩
  refine v_X11_followChain_16 (v_X11_needWholeFor (c_needState hC hn (fun s' hs' e2 => c_needWhole hC hW (fun _ => ?_) (fun z => absurd hw z)) (fun z => (z s hs rfl).elim)))
  refine ⟨fun _ => ⟨fun _ => ?_, fun z => absurd z e112⟩, fun z => absurd z e109⟩
  exact c_evaluate hC hW hw (told_ok hW hw) (told_2 hW) ha (Or.inl rfl) (PK_told hC hW) (fun τ x f1 h1 h2 => k τ x ⟨hC.fr f1 (by decide), hK.fr f1 (by decide), hW⟩ h1 h2.an)
theorem l_chainAbove {Q : Int64 → cg_S → Prop} (h : SI a G ch) (hw : whole G) (ha : okA aim) (hs : s < G 0 0) (k : ∀ τ x, SI τ G ch → gX G aim (mv (G 10)) x → Q (i64 (x s).num) τ) : M_L_chainAbove (i32 aim) (i32 s) a Q :=
  w_chainAbove (v_X11_chainAbove (l_chain h hw ha hs (fun τ w h1 h3 h4 => (c_told h.2.2.1 h4 hs).1 (k τ w h1 h3))))
theorem l_chainBelow {Q : Int64 → cg_S → Prop} (h : SI a G ch) (hw : whole G) (ha : okA aim) (hs : s < G 0 0) (k : ∀ τ x, SI τ G ch → gX G aim (mv (G 10)) x → Q (i64 ((x s).den : Nat)) τ) : M_L_chainBelow (i32 aim) (i32 s) a Q :=
  w_chainBelow (v_X11_chainBelow (l_chain h hw ha hs (fun τ w h1 h3 h4 => (c_told h.2.2.1 h4 hs).2 (k τ w h1 h3))))
theorem l_needW (h : SI a G ch) (hw : whole G) (hs : s < G 0 0) {P : cg_S → Prop} (k : P a) {X : String → cg_S → Prop} : M_X11_needWholeFor (i32 s) a P X :=
  c_needWholeFor h.1 h.2.2 (fun _ _ _ _ => k) (fun e he => (why2_no he hs rfl hw).elim)
theorem l_isZero {Q : Int32 → cg_S → Prop} (h : SI a G ch) (hw : whole G) (hs : s < G 0 0) (k1 : ∀ τ, SI τ G ch → (∀ w, mmb G 114 w → w s = 0) → Q 1 τ) (k0 : ∀ τ, SI τ G ch → (∀ w, mmb G 114 w → w s ≠ 0) → Q 0 τ) : M_L_isZero (i32 s) a Q := by
  have hn := h.2.2.1
  refine w_isZero (v_X11_isZero (l_needW h hw hs (pos_all a G ch _ h.1 h.2.1 h.2.2 hw (fun τ r h1 h2 h3 => ?_))))
  have h4 : SI τ G ch := ⟨h1, h2, h.2.2⟩
  refine v_X2_holds ⟨fun z => ⟨fun y => absurd rfl y, fun _ => ⟨fun y => absurd y (by decide), fun _ => k1 τ h4 (fun w hw' => ?_)⟩⟩, fun z => ⟨fun _ => ⟨fun _ => k0 τ h4 (fun w hw' => ?_), fun y => absurd rfl y⟩, fun y => absurd y (by decide)⟩⟩
  · rcases mk_get (h3 w hw') (show s < 7 by omega) with ⟨k, e'⟩ | ⟨k, e'⟩
    · exact absurd e' z
    · exact Classical.byContradiction fun y => k ⟨hs, y⟩
  · rcases mk_get (h3 w hw') (show s < 7 by omega) with ⟨k, e'⟩ | ⟨k, e'⟩
    · exact k.2
    · rw [e'] at z; exact absurd z (by decide)
theorem l_isOne {Q : Int32 → cg_S → Prop} (h : SI a G ch) (hw : whole G) (hs : s < G 0 0) (k1 : ∀ τ, SI τ G ch → (∀ w, mmb G 114 w → w s = 1) → Q 1 τ) (k0 : ∀ τ, SI τ G ch → (∀ w, mmb G 114 w → w s ≠ 1) → Q 0 τ) : M_L_isOne (i32 s) a Q := by
  have hn := h.2.2.1
  refine w_isOne (v_X11_isOne (l_needW h hw hs (sur_all a G ch _ h.1 h.2.1 h.2.2 hw (fun τ r h1 h2 h3 => ?_))))
  have h4 : SI τ G ch := ⟨h1, h2, h.2.2⟩
  refine v_X2_holds ⟨fun z => ⟨Or.inl rfl, ⟨fun _ => k0 τ h4 (fun w hw' y => ?_), fun y => absurd rfl y⟩⟩, fun z => ⟨Or.inr rfl, ⟨fun y => absurd y (by decide), fun _ => k1 τ h4 (fun w hw' => ?_)⟩⟩⟩
  · rcases mk_get (h3 w hw') (show s < 7 by omega) with ⟨k, e'⟩ | ⟨k, e'⟩
    · exact absurd e' z
    · exact absurd ⟨hs, y⟩ k
  · rcases mk_get (h3 w hw') (show s < 7 by omega) with ⟨k, e'⟩ | ⟨k, e'⟩
    · exact k.2
    · rw [e'] at z; exact absurd z (by decide)
theorem l_classOf {Q : Int32 → cg_S → Prop} (h : SI a G ch) (hw : whole G) (hs : s < G 0 0) (k : ∀ τ g, SI τ G ch → GS G (G 0 0) g → Q (i32 (g s)) τ) : M_L_classOf (i32 s) a Q := by
  have hn := h.2.2.1
  refine w_classOf (v_X11_classOf (l_needW h hw hs (c_sort h.1 h.2.2 hw (fun τ g f1 h1 h2 => ⟨vpi (by omega) (by omega), ?_⟩))))
  rw [i32_N (by omega), h1 s hs]
  exact k τ g ⟨h.1.fr f1 (by decide), h.2.1.fr f1 (by decide), h.2.2⟩ h2
theorem l_classes {Q : Int32 → cg_S → Prop} (h : SI a G ch) (hw : whole G) (k : ∀ τ g, SI τ G ch → GS G (G 0 0) g → Q (i32 (hmG g (G 0 0))) τ) : M_L_classes a Q := by
  have hn := h.2.2.1
  refine w_classes (v_X11_classes (c_needWhole h.1 h.2.2 (fun _ => c_sort h.1 h.2.2 hw (fun τ g f1 h1 h2 => ?_)) (fun z => absurd hw z)))
  exact c_howMany (h.1.fr f1 (by decide)) h.2.2 h1 (fun s hs => by have := ((GS_good hw _ h2).1 s hs).1; omega) (k τ g ⟨h.1.fr f1 (by decide), h.2.1.fr f1 (by decide), h.2.2⟩ h2)
theorem l_closedOf {Q : Int32 → cg_S → Prop} (h : SI a G ch) (hw : whole G) (hs : s < G 0 0) (k1 : ∀ τ t, SI τ G ch → isClo G s → cloL G s t → Q (i32 t) τ) (k0 : ∀ τ, SI τ G ch → ¬ isClo G s → Q (-75) τ) : M_L_closedOf (i32 s) a Q := by
  obtain ⟨hC, hK, hW⟩ := id h
  have hn := hW.1
  refine w_closedOf (v_X11_closedOf (l_needW h hw hs (c_follow hC hW (told_2 hW) (Or.inl rfl) (PK_told hC hW) (fun τ f1 hX => ?_))))
  have hC1 := hC.fr f1 (by decide)
  have h2 : SI τ G ch := ⟨hC1, hK.fr f1 (by decide), hW⟩
  refine c_closedSet hC1 hW hX (fun s t _ ht => rch_lt ht) hs (fun hcl w hm => ?_) (fun hcl => ?_)
  · refine c_lowestOf hm (fun t ht hst hlow => k1 τ t h2 hcl ⟨rch_lt hst, hst, hlow⟩) (fun hno => ?_)
    obtain ⟨t, ht, hst⟩ := rch_some hW hw hs
    exact absurd hst (hno t (by omega))
  · exact c_lowestOf mk_none (fun t ht hst _ => hst.elim) (fun _ => Or.inr (Or.inr ⟨rfl, k0 τ h2 hcl⟩))
theorem l_endOf {Q : Int32 → cg_S → Prop} (h : SI a G ch) (hw : whole G) (hs : s < G 0 0) (k1 : ∀ τ t, SI τ G ch → endS G s t → (∀ u, u < t → ¬ endS G s u) → Q (i32 t) τ) (k0 : ∀ τ, SI τ G ch → (∀ t, ¬ endS G s t) → Q (-75) τ) : M_L_endOf (i32 s) a Q := by
  obtain ⟨hC, hK, hW⟩ := id h
  have hn := hW.1
  refine w_endOf (v_X11_endOf (l_needW h hw hs (c_endSet hC hW hs (fun τ w f1 hm => ?_))))
  have h2 : SI τ G ch := ⟨hC.fr f1 (by decide), hK.fr f1 (by decide), hW⟩
  exact c_lowestOf hm (fun t ht hst hlow => k1 τ t h2 hst hlow) (fun hno => Or.inr (Or.inr ⟨rfl, k0 τ h2 (fun t ht => hno t (by have := endS_n ht; omega) ht)⟩))
theorem l_bound {r : Nat} {Q : UInt64 → cg_S → Prop} (h : SI a G ch) (hw : whole G) (hs : s < G 0 0) (hr : r ≤ 60) (k : ∀ τ, SI τ G ch → Q (bndD G r s) τ) : M_L_bound (i32 s) (i32 r) a Q := by
  obtain ⟨hC, hK, hW⟩ := id h
  have hn := hW.1
  refine w_bound (v_X11_bound (c_needState hC hn (fun s' hs' e1 => ⟨fun z => ?_, fun z => ⟨fun z2 => ?_, fun z2 => ?_⟩⟩) (fun z => (z s hs rfl).elim)))
  · exfalso
    rw [n0, i32_lt (by omega) (by omega)] at z; omega
  · refine c_needWhole hC hW (fun _ => ?_) (fun z => absurd hw z)
    exact c_boundAfter hC hW hw hs hr (fun τ ft => k τ ⟨hC.fr ft (by decide), hK.fr ft (by decide), hW⟩)
  · exfalso
    rw [show (60 : Int32) = i32 60 from rfl, i32_le (by omega) (by omega)] at z2; omega
theorem l_trace {P : cg_S → Prop} {X : String → cg_S → Prop} (h : SI a G ch) (hw : whole G) (hs : s < G 0 0) (k1 : ∀ τ U D L, SI τ G ch → TS τ (G 0 0) U D L → TI G U D L → OPT G (VV U D) L → L s ≠ 0 → P τ) (k0 : ∀ τ V L, SI τ G ch → OPT G V L → L s = 0 → X "java/util/NoSuchElementException" τ) : M_X11_findTrace (i32 s) a P X := by
  obtain ⟨hC, hK, hW⟩ := id h
  have hn := hW.1
  refine c_findTrace hC hW (fun s' τ U D L hs' e _ f1 hS hI hO hL => ?_) (fun s' τ U D L hs' e _ f1 hO hL => ?_) (fun e he => (why2_no he hs rfl hw).elim)
  · rw [i32_eq (by omega) (by omega)] at e
    subst e
    exact k1 τ U D L ⟨hC.fr f1 (by decide), hK.fr f1 (by decide), hW⟩ hS hI hO hL
  · rw [i32_eq (by omega) (by omega)] at e
    subst e
    exact k0 τ _ L ⟨hC.fr f1 (by decide), hK.fr f1 (by decide), hW⟩ hO hL
theorem l_traceLength {Q : Int32 → cg_S → Prop} (h : SI a G ch) (hw : whole G) (hs : s < G 0 0) (k1 : ∀ τ V L, SI τ G ch → OPT G V L → L s ≠ 0 → Q (i32 (L s)) τ) (k0 : ∀ τ V L, SI τ G ch → OPT G V L → L s = 0 → Q (-75) τ) : M_L_traceLength (i32 s) a Q := by
  have hn := h.2.2.1
  refine w_traceLength (v_X11_traceLength (l_trace h hw hs (fun τ U D L h2 hS hI hO hL => ⟨vpi (by omega) (by omega), ?_⟩) (fun τ V L h2 hO hL => Or.inr (Or.inr ⟨rfl, k0 τ V L h2 hO hL⟩))))
  rw [i32_N (by omega), (hS s hs).1]
  exact k1 τ _ L h2 hO hL
theorem l_traceAbove {Q : Int64 → cg_S → Prop} (h : SI a G ch) (hw : whole G) (hs : s < G 0 0) (hex : ∀ V L, OPT G V L → L s ≠ 0) (k1 : ∀ τ V L, SI τ G ch → OPT G V L → Q (i64 (V s).num) τ) : M_L_traceAbove (i32 s) a Q := by
  have hn := h.2.2.1
  refine w_traceAbove (v_X11_traceAbove (l_trace h hw hs (fun τ U D L h2 hS hI hO hL => ?_) (fun τ V L h2 hO hL => absurd hL (hex _ _ hO))))
  obtain ⟨b1, b2, b3, b4, b5⟩ := TI_b h.2.2 hw hI hs
  refine ⟨vpi (by omega) (by omega), vpi (by omega) (by omega), ?_⟩
  rw [i32_N (by omega), (hS s hs).2.1, (hS s hs).2.2]
  exact (c_lowest (by omega) (by omega) (by omega)).1 (k1 τ _ L h2 hO)
theorem l_traceBelow {Q : Int64 → cg_S → Prop} (h : SI a G ch) (hw : whole G) (hs : s < G 0 0) (hex : ∀ V L, OPT G V L → L s ≠ 0) (k1 : ∀ τ V L, SI τ G ch → OPT G V L → Q (i64 ((V s).den : Nat)) τ) : M_L_traceBelow (i32 s) a Q := by
  have hn := h.2.2.1
  refine w_traceBelow (v_X11_traceBelow (l_trace h hw hs (fun τ U D L h2 hS hI hO hL => ?_) (fun τ V L h2 hO hL => absurd hL (hex _ _ hO))))
  obtain ⟨b1, b2, b3, b4, b5⟩ := TI_b h.2.2 hw hI hs
  refine ⟨vpi (by omega) (by omega), vpi (by omega) (by omega), ?_⟩
  rw [i32_N (by omega), (hS s hs).2.1, (hS s hs).2.2]
  exact (c_lowest (by omega) (by omega) (by omega)).2 (k1 τ _ L h2 hO)
theorem l_traceAt {i : Nat} {Q : Int32 → cg_S → Prop} (h : SI a G ch) (hw : whole G) (hs : s < G 0 0) (hi : i < 100) (k1 : ∀ τ V L g, SI τ G ch → OPT G V L → LXB G V L (L s) g → g 0 = s → i < L s → Q (i32 (g i)) τ) (k0 : (∀ V L, OPT G V L → L s ≤ i) → ∀ τ, SI τ G ch → Q (-75) τ) (kx : ∀ V L V' L', OPT G V L → OPT G V' L' → L s = L' s) : M_L_traceAt (i32 s) (i32 i) a Q := by
  have hn := h.2.2.1
  refine w_traceAt (v_X11_traceAt (l_trace h hw hs (fun τ U D L h2 hS hI hO hL => ?_) (fun τ V L h2 hO hL => Or.inr (Or.inr ⟨rfl, k0 (fun V' L' hO' => by rw [← kx V L V' L' hO hO']; omega) τ h2⟩))))
  obtain ⟨b1, b2, b3, b4, b5⟩ := TI_b h.2.2 hw hI hs
  rw [i32_N (by omega), (hS s hs).1]
  refine ⟨fun z => ?_, fun _ => ⟨vpi (by omega) (by omega), fun z => ?_, fun z => Or.inr (Or.inr ⟨rfl, k0 (fun V' L' hO' => ?_) τ h2⟩)⟩⟩
  · exfalso
    rw [n0, i32_lt (by omega) (by omega)] at z; omega
  · have hlt : i < L s := by
      rw [Int32.lt_iff_toInt_lt] at z
      rw [i32_toInt (by omega), i32_toInt (by omega)] at z
      omega
    obtain ⟨g, g1, g2⟩ := lxb_ex h.2.2 hw hO (L s - 1) s hs (by omega)
    rw [show L s - 1 + 1 = L s by omega] at g1
    exact c_stateAt h2.1 h2.2.2 hw hS hI hO g1 g2 hlt (k1 τ _ L g h2 hO g1 g2 hlt)
  · rw [← kx _ _ V' L' hO hO']
    rw [Int32.lt_iff_toInt_lt, i32_toInt (by omega), i32_toInt (by omega)] at z
    omega
end SO
