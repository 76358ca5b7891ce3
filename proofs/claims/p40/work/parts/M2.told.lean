/-! STRATEGIES THAT ARE TOLD BY SOLVING HOLD THE VALUES -/
section ST
variable {G : Gm} {aim : Nat} {x y : Nat → Rat} {rk tb p : Nat → Nat}
theorem ahR_cx (h : ∀ s, s < G 0 0 → x s = y s) (m : Nat) : ahR G aim x m = ahR G aim y m := by
  unfold ahR
  rw [c_ex_congr h]
theorem tgR_cx {s : Nat} (h : x s = y s) (m : Nat) : tgR G aim x s m = tgR G aim y s m := by
  unfold tgR
  rw [h]
theorem gX_cx {q : Nat → Nat} (h : ∀ s, s < G 0 0 → x s = y s) (hx : gX G aim q x) : gX G aim q y := by
  unfold gX at hx ⊢
  split at hx
  · rw [if_pos (by assumption)]
    refine ⟨fun s hs hT => ?_, fun s hs hT => ?_, fun s hs hc => ?_⟩
    · rw [← h s hs]; exact hx.1 s hs hT
    · rw [← h s hs, ← c_ex_congr h]; exact hx.2.1 s hs hT
    · rw [← h s hs]; exact hx.2.2 s hs hc
  · rw [if_neg (by assumption)]
    intro s hs
    rw [← h s hs, ← c_ex_congr h]; exact hx s hs
/-- a value: what a saddle gives -/
theorem mmb_val (hW : GW G) (hw : whole G) (h : mmb G aim x) : ∃ p, pkOk G p ∧ cvB G aim (mv p) x ∧ noRA G aim x := by
  obtain ⟨p, x0, h1, h2, h3, h4⟩ := mmb_sad hW hw h
  have h5 : ∀ s, s < G 0 0 → x0 s = x s := fun s hs => (h4 s hs).symm
  have hN : noRB G aim x := fun s m hs ha hst hm => by
    rw [← tgR_cx (h5 s hs) m, ← ahR_cx h5 m]; exact h2.2.1 s m hs ha hst hm
  refine ⟨p, h1, ⟨gX_cx h5 h2.1, hN, fun ha q hq hag s hs hc => ?_⟩, fun s m hs ha hst hm => ?_⟩
  · rw [h4 s hs]; exact h2.2.2 ha q hq hag s hs hc
  · rw [← tgR_cx (h5 s hs) m, ← ahR_cx h5 m]; exact h3 s m hs ha hst hm
theorem drC_mono {E F : Nat → Prop} {s : Nat} (h : ∀ t, t < G 0 0 → E t → F t) (hd : drC G x s E) : drC G x s F := by
  rcases hd with ⟨ha, c, hc, hg, t, ht, hw, hE⟩ | ⟨ha, hall⟩
  · exact Or.inl ⟨ha, c, hc, hg, t, ht, hw, h t ht hE⟩
  · refine Or.inr ⟨ha, fun c hc hg => ?_⟩
    obtain ⟨t, ht, hw, hE⟩ := hall c hc hg
    exact ⟨t, ht, hw, h t ht hE⟩
/-- a ranked state is a target, or can be drawn to a lower rank -/
theorem RKS_down : ∀ k {rk : Nat → Nat}, RKS G x k rk → ∀ s, s < G 0 0 → rk s ≠ 0 → TG G s ∨ (0 < x s ∧ drC G x s (fun t => rk t ≠ 0 ∧ rk t < rk s)) := by
  intro k
  induction k with
  | zero =>
    intro rk h s hs hr
    rw [h s hs] at hr
    by_cases c : G 8 s ≠ 0
    · exact Or.inl c
    · rw [if_neg c] at hr; exact absurd rfl hr
  | succ k ih =>
    intro rk h s hs hr
    obtain ⟨f, h1, h2⟩ := h
    obtain ⟨a1, a2, a3⟩ := h2 s hs
    have keep : ∀ t, t < G 0 0 → f t ≠ 0 → rk t = f t := fun t ht z => (h2 t ht).1 z
    by_cases c : f s = 0
    · by_cases d : 0 < x s ∧ drC G x s (fun t => f t ≠ 0)
      · refine Or.inr ⟨d.1, drC_mono (fun t ht z => ?_) d.2⟩
        have e := a2 c d.1 d.2
        have := RKS_le k h1 t ht
        rw [keep t ht z, e]
        exact ⟨z, by omega⟩
      · exact absurd (a3 c d) hr
    · rcases ih h1 s hs c with z | ⟨z1, z2⟩
      · exact Or.inl z
      · refine Or.inr ⟨z1, drC_mono (fun t ht z => ?_) z2⟩
        rw [keep t ht z.1, a1 c]
        exact z
theorem RKS_T : ∀ k {rk : Nat → Nat}, RKS G x k rk → ∀ s, s < G 0 0 → TG G s → rk s ≠ 0 := by
  intro k
  induction k with
  | zero =>
    intro rk h s hs hT
    have e : rk s = 1 := (h s hs).trans (if_pos hT)
    rw [e]; decide
  | succ k ih =>
    intro rk h s hs hT
    obtain ⟨f, h1, h2⟩ := h
    have h3 := ih h1 s hs hT
    rw [(h2 s hs).1 h3]; exact h3
/-- where all is weighed, and none is greater: all are as great -/
theorem ex_top {m s : Nat} {M : Rat} {C : Nat → Prop} (hok : (∀ t, t < G 0 0 → 0 ≤ wtR G m t) ∧ 0 < c_sm (G 0 0) (wtR G) m) (hC : ∀ t, t < G 0 0 → wtR G m t ≠ 0 → C t) (hM : ∀ t, t < G 0 0 → C t → x t ≤ M) (hs : x s = M) (h : c_sm (G 0 0) (wtR G) m * x s ≤ c_ex (G 0 0) (wtR G) x m) : ∀ t, t < G 0 0 → wtR G m t ≠ 0 → x t = M := by
  classical
  obtain ⟨z, hz⟩ : ∃ z : Nat → Rat, z = fun t => if C t then x t else M := ⟨_, rfl⟩
  have z1 : ∀ t, C t → z t = x t := fun t ht => by rw [hz]; exact if_pos ht
  have z2 : ∀ t, t < G 0 0 → z t ≤ M := fun t ht => by
    by_cases c : C t
    · rw [z1 t c]; exact hM t ht c
    · rw [hz]; show (if C t then x t else M) ≤ M; rw [if_neg c]; exact Rat.le_refl
  have e : c_ex (G 0 0) (wtR G) x m ≤ c_ex (G 0 0) (wtR G) z m := sr_le (fun t ht => by
    by_cases c : wtR G m t = 0
    · show wtR G m t * x t ≤ wtR G m t * z t
      rw [c, Rat.zero_mul, Rat.zero_mul]; exact Rat.le_refl
    · show wtR G m t * x t ≤ wtR G m t * z t
      rw [z1 t (hC t ht c)]; exact Rat.le_refl)
  obtain ⟨v, hv⟩ : ∃ v : Nat → Rat, v = fun t => if t = G 0 0 then M else z t := ⟨_, rfl⟩
  have h5 : c_sm (G 0 0) (wtR G) m * M ≤ c_ex (G 0 0) (wtR G) z m := by rw [← hs]; exact Rat.le_trans h e
  have h6 : c_ex (G 0 0) (wtR G) z m = c_ex (G 0 0) (wtR G) v m := c_ex_congr (fun t ht => by rw [hv]; exact (if_neg (by omega)).symm)
  have h7 : v (G 0 0) = M := by rw [hv]; exact if_pos rfl
  have h8 := c_maxp (y := v) (M := M) (s := G 0 0) hok.1 (fun t ht => by rw [hv]; show (if t = G 0 0 then M else z t) ≤ M; rw [if_neg (by omega)]; exact z2 t ht) h7 (by rw [h7, ← h6]; exact h5)
  intro t ht hw
  have h9 := h8 t ht hw
  rw [hv] at h9
  have h10 : (if t = G 0 0 then M else z t) = M := h9
  rw [if_neg (by omega), z1 t (hC t ht hw)] at h10
  exact h10
theorem gd_eq {s m : Nat} (hns : ¬ TG G s) : gdG G 114 x s m ↔ c_ex (G 0 0) (wtR G) x m = c_sm (G 0 0) (wtR G) m * x s := by
  unfold gdG ahR tgR
  rw [if_pos rfl, if_pos rfl]
  exact ⟨fun z => z.resolve_left (fun y => hns y.2), Or.inr⟩
/-- each state with a value has a rank -/
theorem RKS_all (hW : GW G) (hw : whole G) (hp : pkOk G p) (hcv : cvB G 114 (mv p) x) (hr : RKS G x (G 0 0) rk) : ∀ s, s < G 0 0 → 0 < x s → rk s ≠ 0 := by
  classical
  have hok := game_ok hW hw
  have hgX := hcv.1
  have hx0 := gX_nonneg hW hw (mv_pk hp) hgX
  rcases RKS_stab _ hr with hst | hst
  · -- what b does where nothing draws
    have hb : ∀ s, ∃ c, s < G 0 0 → ¬ gA G s → rk s = 0 → 0 < x s → c < G 3 s ∧ gdG G 114 x s (3 * s + c) ∧ ∀ t, t < G 0 0 → G 7 (7 * (3 * s + c) + t) ≠ 0 → rk t = 0 := fun s => by
      by_cases z : s < G 0 0 ∧ ¬ gA G s ∧ rk s = 0 ∧ 0 < x s
      · obtain ⟨z1, z2, z3, z4⟩ := z
        have h1 : ¬ drC G x s (fun t => rk t ≠ 0) := fun y => hst s z1 z3 ⟨z4, y⟩
        refine Classical.byContradiction fun hno => h1 (Or.inr ⟨z2, fun c hc hg => ?_⟩)
        refine Classical.byContradiction fun hno2 => hno ⟨c, fun _ _ _ _ => ⟨hc, hg, fun t ht hw7 => ?_⟩⟩
        exact Classical.byContradiction fun h0 => hno2 ⟨t, ht, hw7, h0⟩
      · exact ⟨0, fun a b c d => absurd ⟨a, b, c, d⟩ z⟩
    obtain ⟨cb, hcb⟩ := Classical.axiomOfChoice hb
    obtain ⟨q, hq⟩ : ∃ q : Nat → Nat, q = fun s => if ¬ gA G s ∧ rk s = 0 ∧ 0 < x s then cb s else p s := ⟨_, rfl⟩
    have hq1 : ∀ s, (¬ gA G s ∧ rk s = 0 ∧ 0 < x s) → q s = cb s := fun s z => by rw [hq]; exact if_pos z
    have hq2 : ∀ s, ¬ (¬ gA G s ∧ rk s = 0 ∧ 0 < x s) → q s = p s := fun s z => by rw [hq]; exact if_neg z
    have hqk : pkOk G q := fun s hs => by
      by_cases z : ¬ gA G s ∧ rk s = 0 ∧ 0 < x s
      · rw [hq1 s z]; exact (hcb s hs z.1 z.2.1 z.2.2).1
      · rw [hq2 s z]; exact hp s hs
    obtain ⟨v, hv⟩ := gX_ex (aim := 114) hW hw (mv_pk hqk)
    have hle := lstB hW hw hcv (mv_pk hqk) (fun s hs ha => by
      show 3 * s + q s = 3 * s + p s
      rw [hq2 s (fun z => z.1 ha)]) hv
    have nT : ∀ s, s < G 0 0 → rk s = 0 → ¬ TG G s := fun s hs h0 hT => RKS_T _ hr s hs hT h0
    have zr : ∀ t, t < G 0 0 → x t = 0 → rk t = 0 := fun t ht h0 => Classical.byContradiction fun h1 => by
      rcases RKS_down _ hr t ht h1 with z | ⟨z, _⟩
      · have := gX_stop hgX ht ⟨rfl, z⟩
        rw [h0] at this; exact absurd this (by decide)
      · rw [h0] at z; exact absurd z (by decide)
    have gp : ∀ s, s < G 0 0 → rk s = 0 → c_ex (G 0 0) (wtR G) x (mv p s) = c_sm (G 0 0) (wtR G) (mv p s) * x s := fun s hs h0 => by
      have h1 := gX_ah hgX hs (fun z => nT s hs h0 z.2)
      unfold ahR tgR at h1
      rw [if_pos rfl, if_pos rfl] at h1
      exact h1
    have clo : ∀ s, s < G 0 0 → rk s = 0 → ∀ t, t < G 0 0 → wtR G (mv q s) t ≠ 0 → rk t = 0 := fun s hs h0 t ht hwt => by
      by_cases hpos : 0 < x s
      · by_cases ha : gA G s
        · have e : q s = p s := hq2 s (fun z => z.1 ha)
          have h1 : ¬ drC G x s (fun t => rk t ≠ 0) := fun y => hst s hs h0 ⟨hpos, y⟩
          refine Classical.byContradiction fun h2 => h1 (Or.inl ⟨ha, p s, hp s hs, (gd_eq (nT s hs h0)).mpr (gp s hs h0), t, ht, ?_, h2⟩)
          have h3 := wtR_ne.mp hwt
          unfold mv at h3
          rw [e] at h3
          exact h3
        · have e := hq1 s ⟨ha, h0, hpos⟩
          refine (hcb s hs ha h0 hpos).2.2 t ht ?_
          have h3 := wtR_ne.mp hwt
          unfold mv at h3
          rw [e] at h3
          exact h3
      · have e : q s = p s := hq2 s (fun z => hpos z.2.2)
        have hx : x s = 0 := Rat.le_antisymm (Rat.not_lt.mp hpos) (hx0 s hs)
        have h1 := gp s hs h0
        rw [hx, Rat.mul_zero] at h1
        have hmv : mv q s = mv p s := by unfold mv; rw [e]
        rw [hmv] at hwt
        refine zr t ht (Classical.byContradiction fun hne => ?_)
        have hnn : ∀ u, u < G 0 0 → 0 ≤ wtR G (mv p s) u * x u := fun u hu => Rat.mul_nonneg ((hok s (mv p s) hs (mv_pk hp s hs)).1 u hu) (hx0 u hu)
        unfold c_ex at h1
        have := sr_zero_all hnn h1 t ht
        rcases Rat.mul_eq_zero.mp this with z | z
        · exact hwt z
        · exact hne z
    intro s hs hpos h0
    have hnc : ¬ c_can (G 0 0) (wtR G) (mv q) (TG G) s := fun hc => by
      obtain ⟨t, ht, h1, h2⟩ := hc (fun t => t < G 0 0 → rk t = 0) (fun _ => h0) (fun u hu hCu t ht hwt _ => clo u hu (hCu hu) t ht hwt)
      exact nT t ht (h1 ht) h2
    unfold gX at hv
    rw [if_pos rfl] at hv
    have h1 := hv.2.2 s hs hnc
    have h2 := hle s hs
    rw [h1] at h2
    exact absurd hpos (Rat.not_lt.mpr h2)
  · intro s hs _
    exact cntS_full hst s hs
theorem tb_ok (hW : GW G) (hw : whole G) (hm : mmb G aim x) (hr : aim = 114 → RKS G x (G 0 0) rk) (ht : ∀ s, s < G 0 0 → tbS G aim x rk s (tb s)) : ∀ s, s < G 0 0 → tb s < G 3 s ∧ okT G aim x rk s (tb s) := by
  obtain ⟨p, hp, hcv, hA⟩ := mmb_val hW hw hm
  intro s hs
  rcases ht s hs with ⟨h1, h2, h3⟩ | ⟨h1, h2⟩
  · exact ⟨h1, h2⟩
  · exfalso
    by_cases hl : ledG G aim x s
    · obtain ⟨ha, hgA, hT, hpos⟩ := id hl
      subst ha
      have hr := hr rfl
      rcases RKS_down _ hr s hs (RKS_all hW hw hp hcv hr s hs hpos) with z | ⟨_, ⟨_, c, hc, hg, t, ht, hw7, hE⟩ | ⟨z, _⟩⟩
      · exact hT z
      · exact h2 c hc ⟨hg, fun _ => ⟨t, ht, hw7, hE.1, hE.2⟩⟩
      · exact z hgA
    · refine h2 (p s) (hp s hs) ⟨?_, fun z => absurd z hl⟩
      by_cases hst : stop G aim s
      · exact Or.inl hst
      · exact Or.inr (gX_ah hcv.1 hs hst)
/-- where b can stay away from targets against the told strategy of a, there is no value -/
theorem told_avd (hW : GW G) (hw : whole G) (hm : mmb G 114 x) (hr : RKS G x (G 0 0) rk) (ht : ∀ s, s < G 0 0 → tbS G 114 x rk s (tb s)) : ∀ s, s < G 0 0 → avd G tb s → x s ≤ 0 := by
  obtain ⟨p, hp, hcv, hA⟩ := mmb_val hW hw hm
  have hok := game_ok hW hw
  have htb := tb_ok hW hw hm (fun _ => hr) ht
  have hra := RKS_all hW hw hp hcv hr
  intro s hs hav
  refine Rat.not_lt.mp fun hpos => ?_
  obtain ⟨C, hC, hCn, hCA, hCB⟩ := hav
  obtain ⟨u, hu, hCu, hmax⟩ := c_maxS x ⟨s, hs, hC⟩
  have hupos : 0 < x u := by
    have := hmax s hs hC
    exact Rat.not_le.mp fun z => absurd hpos (Rat.not_lt.mpr (Rat.le_trans this z))
  -- the least rank of the greatest
  obtain ⟨r, ⟨v, hv, hCv, hxv, hrv⟩, hrm⟩ := least_ex (P := fun r => ∃ v, v < G 0 0 ∧ C v ∧ x v = x u ∧ rk v = r) (rk u) ⟨u, hu, hCu, rfl, rfl⟩
  have hvpos : 0 < x v := by rw [hxv]; exact hupos
  have hvT : ¬ TG G v := (hCn v hCv).2
  have low : ∀ t, t < G 0 0 → C t → x t = x u → ¬ rk t < rk v := fun t ht h1 h2 h3 => hrm (rk t) (by omega) ⟨t, ht, h1, h2, rfl⟩
  have down : ∀ m, gAd G v m → (∀ t, t < G 0 0 → wtR G m t ≠ 0 → C t) → c_sm (G 0 0) (wtR G) m * x v ≤ c_ex (G 0 0) (wtR G) x m → ∀ t, t < G 0 0 → wtR G m t ≠ 0 → C t ∧ x t = x u := fun m hm hc hle t ht hwt => by
    have h1 := ex_top (M := x u) (hok v m hv hm) hc (fun t ht hct => hmax t ht hct) hxv hle t ht hwt
    exact ⟨hc t ht hwt, h1⟩
  rcases RKS_down _ hr v hv (hra v hv hvpos) with z | ⟨_, hd⟩
  · exact hvT z
  by_cases ha : gA G v
  · obtain ⟨h1, h2, h3⟩ := htb v hv
    obtain ⟨t, ht, hw7, hr0, hrl⟩ := h3 ⟨rfl, ha, hvT, hvpos⟩
    have hm1 : gAd G v (mv tb v) := ⟨tb v, h1, rfl⟩
    have hwt : wtR G (mv tb v) t ≠ 0 := wtR_ne.mpr hw7
    have he := (gd_eq hvT).mp h2
    obtain ⟨a1, a2⟩ := down (mv tb v) hm1 (fun t ht hwt => hCA v hCv ha t ht hwt) (by
      show c_sm (G 0 0) (wtR G) (3 * v + tb v) * x v ≤ c_ex (G 0 0) (wtR G) x (3 * v + tb v)
      rw [he]; exact Rat.le_refl) t ht hwt
    exact low t ht a1 a2 hrl
  · obtain ⟨m, ⟨c, hc, hmc⟩, hcm⟩ := hCB v hCv ha
    have hB : c_sm (G 0 0) (wtR G) m * x v ≤ c_ex (G 0 0) (wtR G) x m := by
      have h1 := hcv.2.1 v m hv ha (fun z => hvT z.2) ⟨c, hc, hmc⟩
      unfold ahR tgR at h1
      rw [if_pos rfl, if_pos rfl] at h1
      exact h1
    have hall := down m ⟨c, hc, hmc⟩ hcm hB
    have hle2 : c_ex (G 0 0) (wtR G) x m ≤ c_sm (G 0 0) (wtR G) m * x v := by
      have h1 : c_ex (G 0 0) (wtR G) x m ≤ c_ex (G 0 0) (wtR G) (fun _ => x u) m := sr_le (fun t ht => by
        by_cases z : wtR G m t = 0
        · rw [z, Rat.zero_mul, Rat.zero_mul]; exact Rat.le_refl
        · rw [(hall t ht z).2]; exact Rat.le_refl)
      rw [c_ex_const, Rat.mul_comm, ← hxv] at h1
      exact h1
    rcases hd with ⟨z, _⟩ | ⟨_, hg⟩
    · exact ha z
    · subst hmc
      obtain ⟨t, ht, hw7, hE⟩ := hg c hc ((gd_eq hvT).mpr (Rat.le_antisymm hle2 hB))
      obtain ⟨a1, a2⟩ := hall t ht (wtR_ne.mpr hw7)
      exact low t ht a1 a2 hE.2
/-- strategies that are told by solving: a saddle -/
theorem told_val (hW : GW G) (hw : whole G) (ha : okA aim) (hm : mmb G aim x) (hr : aim = 114 → RKS G x (G 0 0) rk) (ht : ∀ s, s < G 0 0 → tbS G aim x rk s (tb s)) : pkOk G tb ∧ cvB G aim (mv tb) x ∧ noRA G aim x := by
  obtain ⟨p, hp, hcv, hA⟩ := mmb_val hW hw hm
  have htb := tb_ok hW hw hm hr ht
  have hpk : pkOk G tb := fun s hs => (htb s hs).1
  by_cases e : aim = 114
  · subst e
    have hav := told_avd hW hw hm (hr rfl) ht
    have hx0 := gX_nonneg hW hw (mv_pk hp) hcv.1
    have hg : gX G 114 (mv tb) x := by
      unfold gX
      rw [if_pos rfl]
      refine ⟨fun s hs hT => gX_stop hcv.1 hs ⟨rfl, hT⟩, fun s hs hT => ((gd_eq hT).mp (htb s hs).2.1).symm, fun s hs hc => ?_⟩
      refine Rat.le_antisymm (hav s hs ?_) (hx0 s hs)
      refine Classical.byContradiction fun hno => hc (fun C hC hcl => ?_)
      refine Classical.byContradiction fun hn2 => hno ⟨fun t => t < G 0 0 ∧ C t, ⟨hs, hC⟩, fun t ht => ⟨ht.1, fun hT => hn2 ⟨t, ht.1, ht.2, hT⟩⟩, fun t ht _ u hu hwu => ⟨hu, hcl t ht.1 ht.2 u hu hwu⟩, fun t ht _ => ⟨mv tb t, ⟨tb t, hpk t ht.1, rfl⟩, fun u hu hwu => ⟨hu, hcl t ht.1 ht.2 u hu hwu⟩⟩⟩
    exact ⟨hpk, ⟨hg, hcv.2.1, fun _ => avd_away hg hav⟩, hA⟩
  · refine ⟨hpk, ⟨?_, hcv.2.1, fun z => absurd z e⟩, hA⟩
    unfold gX
    rw [if_neg e]
    intro s hs
    have h1 := (htb s hs).2.1.resolve_left (fun z => e z.1)
    unfold ahR tgR at h1
    rw [if_neg e, if_neg e] at h1
    exact h1.symm
/-- what told strategies get, whatever the other one does -/
theorem told_get (hW : GW G) (hw : whole G) (ha : okA aim) (hm : mmb G aim x) (hr : aim = 114 → RKS G x (G 0 0) rk) (ht : ∀ s, s < G 0 0 → tbS G aim x rk s (tb s)) : (∀ y, gX G aim (mv tb) y → ∀ s, s < G 0 0 → y s = x s) ∧ (∀ o y, o = 97 ∨ o = 98 → bst G o aim tb y → ∀ s, s < G 0 0 → y s = x s) := by
  obtain ⟨h1, h2, h3⟩ := told_val hW hw ha hm hr ht
  refine ⟨fun y hy => gX_uniq hW hw (mv_pk h1) hy h2.1, fun o y ho hb => ?_⟩
  rcases ho with rfl | rfl
  · exact bst_uniq hb (no_bst hW hw h1 (fun _ _ _ => rfl) h2.1 h3)
  · exact bst_uniq hb (cv_bst hW hw h1 (fun _ _ _ => rfl) h2)
end ST
