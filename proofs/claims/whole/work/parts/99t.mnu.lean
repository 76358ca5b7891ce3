/-! MEANS: there is one solution -/
section MNN
variable {G : Gm}
theorem harm {n : Nat} {wt : Nat → Nat → Rat} {p : Nat → Nat} {T : Nat → Prop} {d : Nat → Rat} (hok : c_ok n wt p) (hT : ∀ s, s < n → T s → d s = 0) (h : ∀ s, s < n → ¬ T s → c_sm n wt (p s) * d s = c_ex n wt d (p s)) (hc : ∀ s, s < n → c_can n wt p T s) : ∀ s, s < n → d s = 0 := by
  have one : SolR n wt p T (fun _ => 1) := ⟨fun _ _ _ => rfl, fun s hs _ => by rw [c_ex_const]; grind, fun s hs z => absurd (hc s hs) z⟩
  have two : SolR n wt p T (fun s => 1 + d s) := by
    refine ⟨fun s hs ht => by show 1 + d s = 1; rw [hT s hs ht]; grind, fun s hs ht => ?_, fun s hs z => absurd (hc s hs) z⟩
    have e : c_ex n wt (fun s => 1 + d s) (p s) = c_ex n wt (fun _ => 1) (p s) + c_ex n wt d (p s) := by
      unfold c_ex
      rw [← sr_add]
      refine sr_congr (fun t _ => ?_)
      grind
    rw [e, c_ex_const, ← h s hs ht]
    grind
  intro s hs
  have := solR_uniq hok one two s hs
  grind
theorem clo_ex {s : Nat} (hW : GW G) (hw : whole G) (hs : s < G 0 0) : ∃ t, t < G 0 0 ∧ RC G s t ∧ isClo G t := by
  obtain ⟨t0, ht0, h0⟩ := rch_some hW hw hs
  obtain ⟨k, ⟨t, ht, hst, hk⟩, hmin⟩ := least_ex (P := fun k => ∃ t, t < G 0 0 ∧ RC G s t ∧ cntS (RC G t) (G 0 0) = k) _ ⟨t0, ht0, h0, rfl⟩
  obtain ⟨u, hu, htu⟩ := rch_some hW hw ht
  -- nothing smaller is reached
  have full : ∀ v w, v < G 0 0 → RC G s v → cntS (RC G v) (G 0 0) = k → w < G 0 0 → RC G v w → ∀ x, x < G 0 0 → RC G v x → RC G w x := fun v w hv hsv hkv hw2 hvw x hx hvx => Classical.byContradiction fun hno => by
    have hsw : RC G s w := rch_tr hv hsv hvw
    have h1 := cntS_lt (E := RC G w) (F := RC G v) (n := G 0 0) (fun y _ hy => rch_tr hw2 hvw hy) hx hno hvx
    exact hmin (cntS (RC G w) (G 0 0)) (by omega) ⟨w, hw2, hsw, rfl⟩
  have hsu : RC G s u := rch_tr ht hst htu
  have huk : cntS (RC G u) (G 0 0) = k := by
    have h1 : k ≤ cntS (RC G u) (G 0 0) := Nat.le_of_not_lt fun z => hmin _ z ⟨u, hu, hsu, rfl⟩
    have h2 := cntS_mono (E := RC G u) (F := RC G t) (n := G 0 0) (fun y _ hy => rch_tr hu htu hy)
    omega
  have huu : RC G u u := full t u ht hst hk hu htu u hu htu
  exact ⟨u, hu, hsu, fun v hv => full u v hu hsu huk (rch_lt hv) hv u hu huu⟩
theorem low_ex {s : Nat} (hW : GW G) (hw : whole G) (hs : s < G 0 0) : ∃ h, cloL G s h := by
  obtain ⟨t0, ht0, h0⟩ := rch_some hW hw hs
  obtain ⟨h, h1, h2⟩ := least_ex (P := fun t => RC G s t) t0 h0
  exact ⟨h, rch_lt h1, h1, h2⟩
theorem low_rtn {s h : Nat} (hs : s < G 0 0) (hc : isClo G s) (hl : cloL G s h) : rtn G h := by
  obtain ⟨h1, h2, h3⟩ := hl
  have hhs : RC G h s := hc h h2
  have hclo : isClo G h := fun t ht => rch_tr hs (hc t (rch_tr h1 h2 ht)) h2
  exact ⟨hclo, h1, rch_tr hs hhs h2, fun u hu hr => h3 u hu (rch_tr h1 h2 hr)⟩
theorem can_rt {s t : Nat} {T : Nat → Prop} (hr : RC G s t) (hs : s < G 0 0) (ht : t < G 0 0) (hT : T t) : c_can (G 0 0) (wtR G) (mv (G 10)) T s := fun C hC hcl => ⟨t, ht, hr C hcl (fun u hu hw => hcl s hs hC u hu hw), hT⟩
theorem can_me {s : Nat} {T : Nat → Prop} (hs : s < G 0 0) (hT : T s) : c_can (G 0 0) (wtR G) (mv (G 10)) T s := fun C hC _ => ⟨s, hs, hC, hT⟩
theorem ex_sub {n : Nat} {wt : Nat → Nat → Rat} {x y : Nat → Rat} {m : Nat} : c_ex n wt (fun t => x t - y t) m = c_ex n wt x m - c_ex n wt y m := by
  have e : c_ex n wt (fun t => x t - y t) m + c_ex n wt y m = c_ex n wt x m := by
    unfold c_ex
    rw [← sr_add]
    refine sr_congr (fun t _ => ?_)
    grind
  grind
theorem RND_uq {K c k : Nat → Rat} (hW : GW G) (hw : whole G) (h1 : RND G K c) (h2 : RND G K k) : ∀ s, s < G 0 0 → c s = k s := by
  have := harm (p := mv (G 10)) (T := fun s => ¬ isClo G s ∨ rtn G s) (d := fun s => c s - k s) (pk_c hW hw (told_ok hW hw)) (fun s hs ht => by rw [h1.1 s hs ht, h2.1 s hs ht]; grind) (fun s hs ht => ?_) (fun s hs => ?_)
  · intro s hs
    have := this s hs
    grind
  · have hc : isClo G s := Classical.byContradiction fun z => ht (Or.inl z)
    have hr : ¬ rtn G s := fun z => ht (Or.inr z)
    have a := h1.2 s hs hc hr
    have b := h2.2 s hs hc hr
    rw [ex_sub]
    grind
  · by_cases hc : isClo G s
    · obtain ⟨h, hl⟩ := low_ex hW hw hs
      exact can_rt hl.2.1 hs hl.1 (Or.inr (low_rtn hs hc hl))
    · exact can_me hs (Or.inl hc)
theorem whl_cg {K c k : Nat → Rat} {h : Nat} (e : ∀ s, s < G 0 0 → c s = k s) : whl G K c h = whl G K k h := by
  unfold whl c_ex
  congr 1
  exact sr_congr (fun t ht => by rw [e t ht])
theorem mnu_all : MNU := fun G x y hW hw hx hy => by
  obtain ⟨c, k, x1, x2, x3, x4⟩ := hx
  obtain ⟨c', k', y1, y2, y3, y4⟩ := hy
  have ec := RND_uq hW hw x1 y1
  have ek := RND_uq hW hw x2 y2
  have cl : ∀ s, s < G 0 0 → isClo G s → x s = y s := fun s hs hc => by
    obtain ⟨h, hl⟩ := low_ex hW hw hs
    rw [(x3 s h hs hc hl).2, (y3 s h hs hc hl).2, whl_cg ec, whl_cg ek]
  have := harm (p := mv (G 10)) (T := isClo G) (d := fun s => x s - y s) (pk_c hW hw (told_ok hW hw)) (fun s hs ht => by rw [cl s hs ht]; grind) (fun s hs ht => ?_) (fun s hs => ?_)
  · intro s hs
    have := this s hs
    grind
  · have a := x4 s hs ht
    have b := y4 s hs ht
    rw [ex_sub]
    grind
  · obtain ⟨t, ht, hst, hc⟩ := clo_ex hW hw hs
    exact can_rt hst hs ht hc
end MNN
