/-! THE CLASS'S GRAPH against the values: what is positive, what is sure, to stay away -/
section GF
variable {σ : cg_S} {G : Gm} {ch : Nat} {x y : Nat → Rat} {p q : Nat → Nat}
theorem wt_move {m t : Nat} : wtR G m t ≠ 0 ↔ G 7 (7 * m + t) ≠ 0 := wtR_ne
/-- where 'b' can stay away, the value is 0 -/
theorem avd_le (hw : whole G) (hp : pkOk G p) (ha : awayG G (mv p) x) {s : Nat} (hs : s < G 0 0) (hav : avd G p s) : x s ≤ 0 := by
  classical
  obtain ⟨C, c1, c2, c3, c4⟩ := hav
  have hch : ∀ u, ∃ m, (u < G 0 0 → gAd G u m) ∧ (C u → gA G u → m = mv p u) ∧ (gA G u → m = mv p u) ∧ (C u → ¬ gA G u → ∀ t, t < G 0 0 → wtR G m t ≠ 0 → C t) := fun u => by
    by_cases hA : gA G u
    · exact ⟨mv p u, fun hu => mv_pk hp u hu, fun _ _ => rfl, fun _ => rfl, fun _ h => absurd hA h⟩
    · by_cases hCu : C u
      · obtain ⟨m, hm, h⟩ := c4 u hCu hA
        exact ⟨m, fun _ => hm, fun _ h => absurd h hA, fun h => absurd h hA, fun _ _ => h⟩
      · exact ⟨mv p u, fun hu => mv_pk hp u hu, fun h => absurd h hCu, fun h => absurd h hA, fun h => absurd h hCu⟩
  obtain ⟨f, hf⟩ := Classical.axiomOfChoice hch
  refine ha f (fun u hu => (hf u).1 hu) (fun u _ hA => (hf u).2.2.1 hA) s hs (fun hcan => ?_)
  obtain ⟨t, ht, hCt, hTt⟩ := hcan C c1 (fun u hu hCu t ht hwt => by
    by_cases hA : gA G u
    · rw [(hf u).2.2.1 hA] at hwt
      exact c3 u hCu hA t ht hwt
    · exact (hf u).2.2.2 hCu hA t ht hwt)
  exact (c2 t hCt).2 hTt
theorem gX114 (h : gX G 114 q x) : SolR (G 0 0) (wtR G) q (TG G) x := by
  unfold gX at h
  rw [if_pos rfl] at h
  exact h
theorem ex_pos {m t : Nat} (h0 : ∀ s, s < G 0 0 → 0 ≤ x s) (ht : t < G 0 0) (hwt : G 7 (7 * m + t) ≠ 0) (hx : 0 < x t) : 0 < c_ex (G 0 0) (wtR G) x m := by
  have h1 : ∀ i, i < G 0 0 → 0 ≤ wtR G m i * x i := fun i hi => Rat.mul_nonneg wtR_nn (h0 i hi)
  have h2 := sr_nonneg h1
  by_cases c : c_ex (G 0 0) (wtR G) x m = 0
  · exfalso
    have h3 := sr_zero_all h1 c t ht
    rcases Rat.mul_eq_zero.mp h3 with h | h
    · exact wtR_ne.mpr hwt h
    · grind
  · unfold c_ex at c ⊢
    grind
theorem noRA114 (h : noRA G 114 x) {s m : Nat} (hs : s < G 0 0) (hA : gA G s) (hT : ¬ TG G s) (hm : gAd G s m) : c_ex (G 0 0) (wtR G) x m ≤ c_sm (G 0 0) (wtR G) m * x s := noRA_r h s m hs hA hT hm
theorem noRB114 (h : noRB G 114 x) {s m : Nat} (hs : s < G 0 0) (hA : ¬ gA G s) (hT : ¬ TG G s) (hm : gAd G s m) : c_sm (G 0 0) (wtR G) m * x s ≤ c_ex (G 0 0) (wtR G) x m := noRB_r h s m hs hA hT hm
theorem c_positive {Q : Int32 → cg_S → Prop} (hC : CG σ G ch) (hW : GW G) (hw : whole G) (h : ∀ r, (∀ w, mmb G 114 w → mk r (fun s => s < G 0 0 ∧ w s ≠ 0)) → Q r σ) : M_X3_positive σ Q := by
  have hn := hW.1
  obtain ⟨p, x, hp, hv, hA⟩ := sad_ex 114 hW hw
  have hg := game_ok hW hw
  have hx0 := gX_nonneg hW hw (mv_pk hp) hv.1
  have hS := gX114 hv.1
  refine v_X3_positive (c_everyState hC (fun wv hwv _ => ?_) hn)
  refine c_drawnWithin (fun E => (∀ t, E t → t < G 0 0) ∧ (∀ t, t < G 0 0 → TG G t → E t) ∧ ∀ t, t < G 0 0 → E t → 0 < x t) hC hW hwv ⟨fun t ht => ht.2, fun t ht hT => ⟨hT, ht⟩, fun t ht hE => ?_⟩ ?_ (fun r E hm hj hc => h r (fun w hmw => ?_))
  · rw [hS.1 t ht hE.1]; decide
  · rintro E s ⟨e1, e2, e3⟩ hs ⟨-, hd⟩
    refine ⟨fun t ht => ht.elim (e1 t) (fun z => by omega), fun t ht hT => Or.inl (e2 t ht hT), fun t ht hE => ?_⟩
    rcases hE with hE | rfl
    · exact e3 t ht hE
    · by_cases hT : TG G t
      · rw [hS.1 t hs hT]; decide
      · rcases hd with ⟨hAt, c, hc, ⟨u, hu, hwu, hEu⟩, -⟩ | ⟨hAt, hall⟩
        · have k1 := noRA114 hA hs hAt hT ⟨c, hc, rfl⟩
          have k2 := ex_pos hx0 hu hwu (e3 u hu hEu)
          have k3 := (hg t _ hs ⟨c, hc, rfl⟩).2
          by_cases c0 : x t = 0
          · rw [c0] at k1; grind
          · have := hx0 t hs; grind
        · obtain ⟨⟨u, hu, hwu, hEu⟩, -⟩ := hall (p t) (hp t hs)
          have k1 := hS.2.1 t hs hT
          have k2 := ex_pos (m := mv p t) hx0 hu hwu (e3 u hu hEu)
          by_cases c0 : x t = 0
          · rw [c0] at k1; grind
          · have := hx0 t hs; grind
  · obtain ⟨e1, e2, e3⟩ := hj
    have hwx := mmb_uniq hmw (sad_mmb hW hw hp hv hA)
    refine mk_congr hm (fun s _ => ⟨fun hE => ⟨e1 s hE, fun z => ?_⟩, fun hs => ?_⟩)
    · have := e3 s (e1 s hE) hE
      rw [hwx s (e1 s hE)] at z
      grind
    · refine Classical.byContradiction fun hE => hs.2 ?_
      have hle := avd_le hw hp (hv.2.2 rfl) hs.1 ⟨fun u => u < G 0 0 ∧ ¬ E u, ⟨hs.1, hE⟩, fun u hu => ⟨hu.1, fun hT => hu.2 (e2 u hu.1 hT)⟩, fun u hu hAu t ht hwt => ⟨ht, fun hEt => ?_⟩, fun u hu hAu => ?_⟩
      · rw [hwx s hs.1]
        have := hx0 s hs.1
        grind
      · exact hu.2 (hc u hu.1 ⟨hu.1, Or.inl ⟨hAu, p u, hp u hu.1, ⟨t, ht, wtR_ne.mp hwt, hEt⟩, fun v hv _ => hv⟩⟩)
      · have hnd : ¬ drw G E (fun t => t < G 0 0) u := fun z => hu.2 (hc u hu.1 ⟨hu.1, z⟩)
        refine Classical.byContradiction fun hno => hnd (Or.inr ⟨hAu, fun c hc' => ⟨Classical.byContradiction fun hz => hno ⟨3 * u + c, ⟨c, hc', rfl⟩, fun t ht hwt => ⟨ht, fun hEt => hz ⟨t, ht, wtR_ne.mp hwt, hEt⟩⟩⟩, fun v hv _ => hv⟩⟩)
theorem pos_all : POS := fun a G ch Q hC hK hW hw h => c_positive hC hW hw (fun r hr => h a r hC hK hr)
/-- the ways by which all is drawn without leaving -/
def sureJ (G : Gm) (W E : Nat → Prop) : Prop := (∀ t, E t → t < G 0 0 ∧ W t) ∧ (∀ t, t < G 0 0 → TG G t → W t → E t) ∧ ∃ a : Nat → Nat, (∀ s, E s → ¬ TG G s → gA G s → a s < G 3 s ∧ ∀ t, t < G 0 0 → G 7 (7 * (3 * s + a s) + t) ≠ 0 → W t) ∧ (∀ s, E s → ¬ TG G s → ¬ gA G s → ∀ c, c < G 3 s → ∀ t, t < G 0 0 → G 7 (7 * (3 * s + c) + t) ≠ 0 → W t) ∧ ∀ M : Nat → Prop, (∀ s, M s → s < G 0 0 ∧ ¬ TG G s) → (∀ s, M s → E s → gA G s → ∀ t, t < G 0 0 → G 7 (7 * (3 * s + a s) + t) ≠ 0 → M t) → (∀ s, M s → ¬ gA G s → ∃ c, c < G 3 s ∧ ∀ t, t < G 0 0 → G 7 (7 * (3 * s + c) + t) ≠ 0 → M t) → ∀ s, M s → ¬ E s
theorem sureJ_step {W E : Nat → Prop} {s : Nat} (hj : sureJ G W E) (hs : s < G 0 0) (hd : W s ∧ drw G E W s) : sureJ G W (fun t => E t ∨ t = s) := by
  classical
  obtain ⟨e1, e2, a, a1, a2, a3⟩ := hj
  obtain ⟨hWs, hd⟩ := hd
  have f1 : ∀ t, (E t ∨ t = s) → t < G 0 0 ∧ W t := fun t ht => ht.elim (e1 t) (fun z => by rw [z]; exact ⟨hs, hWs⟩)
  by_cases hEs : E s
  · have : (fun t => E t ∨ t = s) = E := by
      funext t
      exact propext ⟨fun z => z.elim id (fun z => by rw [z]; exact hEs), Or.inl⟩
    rw [this]
    exact ⟨e1, e2, a, a1, a2, a3⟩
  · rcases hd with ⟨hA, c, hc, ⟨u, hu, hwu, hEu⟩, hin⟩ | ⟨hA, hall⟩
    · refine ⟨f1, fun t ht hT hWt => Or.inl (e2 t ht hT hWt), upd1 a s c, fun t ht hT hAt => ?_, fun t ht hT hAt => ?_, fun M m1 m2 m3 t hMt hEt => ?_⟩
      · unfold upd1
        by_cases e : t = s
        · rw [if_pos e, e]; exact ⟨hc, hin⟩
        · rw [if_neg e]; exact a1 t (ht.resolve_right e) hT hAt
      · refine a2 t (ht.resolve_right (fun e => hAt (by rw [e]; exact hA))) hT hAt
      · have hM := a3 M m1 (fun v hv hEv hAv => by
          have := m2 v hv (Or.inl hEv) hAv
          unfold upd1 at this
          rw [if_neg (fun e => hEs (by rw [← e]; exact hEv))] at this
          exact this) m3
        rcases hEt with z | rfl
        · exact hM t hMt z
        · have := m2 t hMt (Or.inr rfl) hA
          unfold upd1 at this
          rw [if_pos rfl] at this
          exact hM u (this u hu hwu) hEu
    · refine ⟨f1, fun t ht hT hWt => Or.inl (e2 t ht hT hWt), a, fun t ht hT hAt => ?_, fun t ht hT hAt => ?_, fun M m1 m2 m3 t hMt hEt => ?_⟩
      · exact a1 t (ht.resolve_right (fun e => hA (by rw [← e]; exact hAt))) hT hAt
      · rcases ht with z | rfl
        · exact a2 t z hT hAt
        · exact fun c hc => (hall c hc).2
      · have hM := a3 M m1 (fun v hv hEv hAv => m2 v hv (Or.inl hEv) hAv) m3
        rcases hEt with z | rfl
        · exact hM t hMt z
        · obtain ⟨c, hc, hin⟩ := m3 t hMt hA
          obtain ⟨⟨u, hu, hwu, hEu⟩, -⟩ := hall c hc
          exact hM u (hin u hu hwu) hEu
/-- a set that is drawn within itself is sure -/
theorem sure_one {E : Nat → Prop} (hW : GW G) (hw : whole G) (hj : sureJ G E E) (hp : pkOk G p) (hmm : mmb G 114 x) : ∀ s, s < G 0 0 → E s → 1 ≤ x s := by
  classical
  obtain ⟨e1, e2, a, a1, a2, a3⟩ := hj
  have hα : pkOk G (fun s => if E s ∧ ¬ TG G s ∧ gA G s then a s else p s) := fun s hs => by
    dsimp only
    split
    · rename_i c; exact (a1 s c.1 c.2.1 c.2.2).1
    · exact hp s hs
  obtain ⟨r, y, hr, hag, hy⟩ := cvB_ex (aim := 114) hW hw hα
  have hb := cv_bst hW hw hr hag hy
  have hle := hmm.1 _ y hα hb
  have hS := gX114 hy.1
  have hok := (mv_pk hr).ok (game_ok hW hw)
  have hy1 := solR_le_one hok hS
  intro s hs hEs
  refine Rat.le_trans ?_ (hle s hs)
  refine Classical.byContradiction fun hlt => ?_
  obtain ⟨m, hm, hEm, hmax⟩ := c_maxS (S := E) (fun t => 1 - y t) ⟨s, hs, hEs⟩
  have hpos : 0 < 1 - y m := by have := hmax s hs hEs; grind
  -- the successors of a state in E
  have hin : ∀ u, u < G 0 0 → E u → ¬ TG G u → ∀ t, t < G 0 0 → wtR G (mv r u) t ≠ 0 → E t := fun u hu hEu hT t ht hwt => by
    by_cases hA : gA G u
    · have h1 : r u = a u := by rw [hag u hu hA]; exact if_pos ⟨hEu, hT, hA⟩
      have h2 := (a1 u hEu hT hA).2 t ht
      unfold mv at hwt
      rw [h1] at hwt
      exact h2 (wtR_ne.mp hwt)
    · exact a2 u hEu hT hA (r u) (hr u hu) t ht (wtR_ne.mp hwt)
  have hM : ∀ u, (E u ∧ 1 - y u = 1 - y m) → u < G 0 0 ∧ ¬ TG G u := fun u hu => by
    refine ⟨(e1 u hu.1).1, fun hT => ?_⟩
    have := hS.1 u (e1 u hu.1).1 hT
    have h2 := hu.2
    rw [this] at h2
    grind
  have hcl : ∀ u, (E u ∧ 1 - y u = 1 - y m) → ∀ t, t < G 0 0 → wtR G (mv r u) t ≠ 0 → (E t ∧ 1 - y t = 1 - y m) := fun u hu t ht hwt => by
    obtain ⟨hun, hT⟩ := hM u hu
    have hEt := hin u hun hu.1 hT t ht hwt
    refine ⟨hEt, ?_⟩
    have hh := hS.2.1 u hun hT
    have hex : c_ex (G 0 0) (wtR G) (fun t => if E t then 1 - y t else 1 - y m) (mv r u) = c_sm (G 0 0) (wtR G) (mv r u) * (1 - y u) := by
      have e0 : c_ex (G 0 0) (wtR G) (fun t => if E t then 1 - y t else 1 - y m) (mv r u) = c_ex (G 0 0) (wtR G) (fun t => 1 - y t) (mv r u) := sr_congr (fun t ht => by
        by_cases c : E t
        · dsimp only; rw [if_pos c]
        · have : wtR G (mv r u) t = 0 := Classical.byContradiction fun hw => c (hin u hun hu.1 hT t ht hw)
          rw [this]; grind)
      rw [e0]
      have e1 := c_ex_sub (n := G 0 0) (wt := wtR G) (x := fun _ => 1) (y := y) (m := mv r u)
      rw [e1, c_ex_const, ← hh]
      grind
    have h1 := c_maxp (n := G 0 0) (wt := wtR G) (y := fun t => if E t then 1 - y t else 1 - y m) (M := 1 - y m) (s := u) (m := mv r u) (hok u hun).1 (fun t ht => by
      split
      · rename_i c; exact hmax t ht c
      · exact Rat.le_refl) (by rw [if_pos hu.1]; exact hu.2) (by rw [hex, if_pos hu.1]; exact Rat.le_refl) t ht hwt
    rw [if_pos hEt] at h1
    exact h1
  exact a3 (fun u => E u ∧ 1 - y u = 1 - y m) hM (fun u hu hEu hA t ht hwt => hcl u hu t ht (by
    have hT := (hM u hu).2
    have h1 : r u = a u := by rw [hag u (hM u hu).1 hA]; exact if_pos ⟨hEu, hT, hA⟩
    unfold mv
    rw [h1]
    exact wtR_ne.mpr hwt)) (fun u hu hA => ⟨r u, hr u (hM u hu).1, fun t ht hwt => hcl u hu t ht (wtR_ne.mpr hwt)⟩) m ⟨hEm, rfl⟩ hEm
theorem c_sure {Q : Int32 → cg_S → Prop} (hC : CG σ G ch) (hW : GW G) (hw : whole G) (h : ∀ r, (∀ w, mmb G 114 w → mk r (fun s => s < G 0 0 ∧ w s = 1)) → Q r σ) : M_X3_sure σ Q := by
  have hn := hW.1
  obtain ⟨p, x, hp, hv, hA⟩ := sad_ex 114 hW hw
  have hmm := sad_mmb hW hw hp hv hA
  have hg := game_ok hW hw
  have hok := (mv_pk hp).ok hg
  have hS := gX114 hv.1
  have hx1 := solR_le_one hok hS
  refine v_X3_sure (c_everyState hC (fun wv hwv _ => ?_) hn)
  refine up2 (n := G 0 0) (fun k (v : Int32) τ => τ = σ ∧ ∃ W, mk v W ∧ (∀ t, W t → t < G 0 0) ∧ (∀ t, t < G 0 0 → x t = 1 → W t) ∧ ((∀ t, t < G 0 0 → W t → 1 ≤ x t) ∨ cntS W (G 0 0) + k ≤ G 0 0)) (fun v u τ => L_X3_sure_10 v u τ Q) ?_ ?_ 0 wv σ (by omega) ⟨rfl, _, hwv, fun t ht => ht, fun t ht _ => ht, Or.inr (by have := cntS_le (fun t => t < G 0 0) (G 0 0); omega)⟩
  · rintro k v τ hk ⟨rfl, W, hm, w1, w2, w3⟩ kk
    refine v_X3_sure_10 ?_
    rw [hC.1.1, i32_s]
    refine ⟨fun z => ?_, fun _ => c_drawnWithin (sureJ G W) hC hW hm ⟨fun t ht => ⟨w1 t ht.2, ht.2⟩, fun t _ hT hWt => ⟨hT, hWt⟩, fun _ => 0, fun s hs hT => absurd hs.1 hT, fun s hs hT => absurd hs.1 hT, fun M m1 _ _ s hMs hEs => (m1 s hMs).2 hEs.1⟩ (fun E s hj hs hd => sureJ_step hj hs hd) (fun r E hmE hj hc => kk r τ ⟨rfl, E, hmE, fun t ht => (hj.1 t ht).1, fun t ht hxt => ?_, ?_⟩)⟩
    · rw [i32_le (by omega) (by omega)] at z; omega
    · -- what has the value 1 is drawn
      refine Classical.byContradiction fun hEt => ?_
      have hle := avd_le (x := x) hw hp (hv.2.2 rfl) ht ⟨fun u => u < G 0 0 ∧ x u = 1 ∧ ¬ E u, ⟨ht, hxt, hEt⟩, fun u hu => ⟨hu.1, fun hT => hu.2.2 (hj.2.1 u hu.1 hT (w2 u hu.1 hu.2.1))⟩, fun u hu hAu t' ht' hwt => ?_, fun u hu hAu => ?_⟩
      · rw [hxt] at hle; exact absurd hle (by decide)
      · have hTu : ¬ TG G u := fun hT => hu.2.2 (hj.2.1 u hu.1 hT (w2 u hu.1 hu.2.1))
        have hsucc := c_maxp (n := G 0 0) (wt := wtR G) (y := x) (M := 1) (s := u) (m := mv p u) (hok u hu.1).1 hx1 hu.2.1 (by rw [hS.2.1 u hu.1 hTu]; exact Rat.le_refl)
        refine ⟨ht', hsucc t' ht' hwt, fun hEt' => hu.2.2 (hc u hu.1 ⟨w2 u hu.1 hu.2.1, Or.inl ⟨hAu, p u, hp u hu.1, ⟨t', ht', wtR_ne.mp hwt, hEt'⟩, fun v hv hwv => w2 v hv (hsucc v hv (wtR_ne.mpr hwv))⟩⟩)⟩
      · have hTu : ¬ TG G u := fun hT => hu.2.2 (hj.2.1 u hu.1 hT (w2 u hu.1 hu.2.1))
        have hsucc : ∀ c, c < G 3 u → ∀ v, v < G 0 0 → wtR G (3 * u + c) v ≠ 0 → x v = 1 := fun c hc' => c_maxp (n := G 0 0) (wt := wtR G) (y := x) (M := 1) (s := u) (m := 3 * u + c) (hg u _ hu.1 ⟨c, hc', rfl⟩).1 hx1 hu.2.1 (noRB114 hv.2.1 hu.1 hAu hTu ⟨c, hc', rfl⟩)
        have hnd : ¬ drw G E W u := fun z => hu.2.2 (hc u hu.1 ⟨w2 u hu.1 hu.2.1, z⟩)
        refine Classical.byContradiction fun hno => hnd (Or.inr ⟨hAu, fun c hc' => ⟨Classical.byContradiction fun hz => hno ⟨3 * u + c, ⟨c, hc', rfl⟩, fun t' ht' hwt => ⟨ht', hsucc c hc' t' ht' hwt, fun hEt' => hz ⟨t', ht', wtR_ne.mp hwt, hEt'⟩⟩⟩, fun v hv hwv => w2 v hv (hsucc c hc' v hv (wtR_ne.mpr hwv))⟩⟩)
    · -- nothing went, or one less
      rcases w3 with z | z
      · exact Or.inl (fun t ht hEt => z t ht (hj.1 t hEt).2)
      · by_cases hEW : ∀ t, W t → E t
        · have e : E = W := by
            funext t
            exact propext ⟨fun y => (hj.1 t y).2, hEW t⟩
          rw [e] at hj ⊢
          exact Or.inl (sure_one hW hw hj hp hmm)
        · obtain ⟨t, hWt, hEt⟩ : ∃ t, W t ∧ ¬ E t := Classical.byContradiction fun hno => hEW (fun t hWt => Classical.byContradiction fun y => hno ⟨t, hWt, y⟩)
          have := cntS_lt (E := E) (F := W) (n := G 0 0) (fun t _ y => (hj.1 t y).2) (w1 t hWt) hEt hWt
          exact Or.inr (by omega)
  · rintro v τ ⟨rfl, W, hm, w1, w2, w3⟩
    refine v_X3_sure_10 ?_
    rw [hC.1.1]
    refine ⟨fun _ => h v (fun w hmw => ?_), fun z => absurd ((i32_le (by omega) (by omega)).mpr (Nat.le_refl _)) z⟩
    have hwx := mmb_uniq hmw hmm
    have w4 : ∀ t, t < G 0 0 → W t → 1 ≤ x t := by
      rcases w3 with z | z
      · exact z
      · intro t ht hWt
        exfalso
        have := cntS_lt (E := fun _ => False) (F := W) (n := G 0 0) (fun t _ y => y.elim) ht (fun y => y) hWt
        omega
    refine mk_congr hm (fun s _ => ⟨fun hWs => ⟨w1 s hWs, ?_⟩, fun hs => w2 s hs.1 (by rw [← hwx s hs.1]; exact hs.2)⟩)
    rw [hwx s (w1 s hWs)]
    exact Rat.le_antisymm (hx1 s (w1 s hWs)) (w4 s (w1 s hWs) hWs)
theorem sur_all : SUR := fun a G ch Q hC hK hW hw h => c_sure hC hW hw (fun r hr => h a r hC hK hr)
end GF
