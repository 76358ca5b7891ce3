/-! MEANS: costs and steps of rounds stand; their bounds -/
section MEA
variable {G : Gm}
theorem rnd_can (hW : GW G) (hw : whole G) : ∀ s, s < G 0 0 → c_can (G 0 0) (wtR G) (mv (G 10)) (fun s => NNr G s = true) s := fun s hs => by
  by_cases hc : isClo G s
  · obtain ⟨h, hl⟩ := low_ex hW hw hs
    exact can_rt hl.2.1 hs hl.1 (NNr_t.mpr (Or.inr (low_rtn hs hc hl)))
  · exact can_me hs (NNr_t.mpr (Or.inl hc))
theorem rtn_ex (hW : GW G) (hw : whole G) : ∃ h, h < G 0 0 ∧ rtn G h := by
  obtain ⟨t, ht, -, hc⟩ := clo_ex hW hw (show 0 < G 0 0 from hw.1)
  obtain ⟨h, hl⟩ := low_ex hW hw ht
  exact ⟨h, hl.1, low_rtn ht hc hl⟩
theorem rnd_N (hW : GW G) (hw : whole G) : ∃ s, s < G 0 0 ∧ NNr G s = true := by
  obtain ⟨h, h1, h2⟩ := rtn_ex hW hw
  exact ⟨h, h1, NNr_t.mpr (Or.inr h2)⟩
theorem id_PM (n : Nat) : PM n id id := ⟨fun _ hi => ⟨hi, rfl⟩, fun _ hi => ⟨hi, rfl⟩⟩
theorem RND_K {K K' c : Nat → Rat} (h : ∀ s, s < G 0 0 → K s = K' s) (hc : RND G K c) : RND G K' c := ⟨hc.1, fun s hs h1 h2 => by rw [← h s hs]; exact hc.2 s hs h1 h2⟩
theorem RND_of {K : Nat → Rat} {x : Nat → Rat} (h : ∀ s, s < G 0 0 → (NNr G s = true → x s = 0) ∧ (NNr G s = false → c_sm (G 0 0) (wtR G) (mv (G 10) s) * x s = c_sm (G 0 0) (wtR G) (mv (G 10) s) * K s + c_ex (G 0 0) (wtR G) x (mv (G 10) s))) : RND G K x := ⟨fun s hs h1 => (h s hs).1 (NNr_t.mpr h1), fun s hs h1 h2 => (h s hs).2 (NNr_f.mpr ⟨h1, h2⟩)⟩
theorem RND_ex {K : Nat → Nat} (hW : GW G) (hw : whole G) (hK : ∀ s, K s ≤ 9) : ∃ c, RND G (fun s => ((K s : Nat) : Rat)) c ∧ ∀ s, s < G 0 0 → 0 ≤ c s := by
  obtain ⟨h1, -⟩ := pm_rnd (K := K) hW hw (told_ok hW hw) (told_2 hW) (id_PM (G 0 0)) (rnd_can hW hw) (rnd_N hW hw) hK
  exact ⟨_, RND_of (fun s hs => ⟨(h1 s hs).1, (h1 s hs).2.1⟩), fun s hs => (h1 s hs).2.2.1⟩
theorem ex_add {n : Nat} {wt : Nat → Nat → Rat} {x y : Nat → Rat} {m : Nat} : c_ex n wt (fun t => x t + y t) m = c_ex n wt x m + c_ex n wt y m := by
  unfold c_ex
  rw [← sr_add]
  refine sr_congr (fun t _ => ?_)
  grind
theorem ex_mul {n : Nat} {wt : Nat → Nat → Rat} {x : Nat → Rat} {a : Rat} {m : Nat} : c_ex n wt (fun t => a * x t) m = a * c_ex n wt x m := by
  unfold c_ex
  rw [← sr_mul]
  refine sr_congr (fun t _ => ?_)
  grind
theorem KKr_9 (hW : GW G) (b s : Nat) : KKr G b s ≤ 9 := by
  have hn := hW.1
  unfold KKr
  split
  · omega
  · split
    · exact (hW.2.2.1 _ (mv_lt (by omega) (told_2 hW s (by omega)))).1
    · omega
/-- costs and steps of rounds -/
def MK (G : Gm) (c k : Nat → Rat) : Prop := RND G (cst1 G) c ∧ RND G (fun _ => 1) k ∧ ∀ s, s < G 0 0 → 0 ≤ c s ∧ 0 ≤ k s ∧ c s ≤ 9 * k s
theorem MK_ex (hW : GW G) (hw : whole G) : ∃ c k, MK G c k := by
  obtain ⟨c, c1, c2⟩ := RND_ex (K := KKr G 1) hW hw (KKr_9 hW 1)
  obtain ⟨k, k1, k2⟩ := RND_ex (K := fun _ => 1) hW hw (fun _ => by omega)
  obtain ⟨y, y1, y2⟩ := RND_ex (K := fun s => 9 - KKr G 1 s) hW hw (fun _ => by omega)
  refine ⟨c, k, RND_K (fun s hs => by unfold KKr cst1; rw [if_neg (by decide), if_pos hs]) c1, RND_K (fun s hs => rfl) k1, fun s hs => ⟨c2 s hs, k2 s hs, ?_⟩⟩
  have hs9 : RND G (fun _ => 9) (fun s => c s + y s) := ⟨fun s hs h => by show c s + y s = 0; rw [c1.1 s hs h, y1.1 s hs h]; grind, fun s hs h1 h2 => by
    have a := c1.2 s hs h1 h2
    have b := y1.2 s hs h1 h2
    have e : ((KKr G 1 s : Nat) : Rat) + ((9 - KKr G 1 s : Nat) : Rat) = 9 := by
      rw [← Rat.natCast_add, Nat.add_sub_cancel' (KKr_9 hW 1 s)]
      rfl
    rw [ex_add]
    grind⟩
  have hk9 : RND G (fun _ => 9) (fun s => 9 * k s) := ⟨fun s hs h => by show 9 * k s = 0; rw [k1.1 s hs h]; grind, fun s hs h1 h2 => by
    have a := k1.2 s hs h1 h2
    have e : ((1 : Nat) : Rat) = 1 := rfl
    rw [e] at a
    rw [ex_mul]
    grind⟩
  have := RND_uq hW hw hs9 hk9 s hs
  have := y2 s hs
  grind
/-- the mean of the closed set of a return -/
def mh (G : Gm) (c k : Nat → Rat) (h : Nat) : Rat := whl G (cst1 G) c h / whl G (fun _ => 1) k h
theorem mh_b {c k : Nat → Rat} {h : Nat} (hW : GW G) (hw : whole G) (hM : MK G c k) (hh : h < G 0 0) : 0 < whl G (fun _ => 1) k h ∧ 0 ≤ whl G (cst1 G) c h ∧ 0 ≤ mh G c k h ∧ mh G c k h ≤ 9 := by
  have hn := hW.1
  have hok := pk_c hW hw (told_ok hW hw) h hh
  have h4 := (hW.2.2.1 _ (mv_lt (show h < 7 by omega) (told_2 hW h (by omega)))).1
  have e9 : cst1 G h ≤ 9 := by
    unfold cst1
    have : ((G 4 (mv (G 10) h) : Nat) : Rat) ≤ ((9 : Nat) : Rat) := Rat.natCast_le_natCast.mpr h4
    exact this
  have e0 : 0 ≤ cst1 G h := Rat.natCast_nonneg
  have x1 : 0 ≤ c_ex (G 0 0) (wtR G) c (mv (G 10) h) := sr_nonneg (fun t ht => Rat.mul_nonneg wtR_nn (hM.2.2 t ht).1)
  have x2 : 0 ≤ c_ex (G 0 0) (wtR G) k (mv (G 10) h) := sr_nonneg (fun t ht => Rat.mul_nonneg wtR_nn (hM.2.2 t ht).2.1)
  have x3 : c_ex (G 0 0) (wtR G) c (mv (G 10) h) ≤ 9 * c_ex (G 0 0) (wtR G) k (mv (G 10) h) := by
    rw [← ex_mul]
    exact c_ex_le hok.1 (fun t ht => (hM.2.2 t ht).2.2)
  have q1 := Rat.mul_nonneg (Rat.le_of_lt hok.2) e0
  have q2 := Rat.mul_nonneg (Rat.le_of_lt hok.2) (b := 9 - cst1 G h) (by grind)
  have hS := hok.2
  have a1 : 0 < whl G (fun _ => 1) k h := by unfold whl; grind
  have a2 : 0 ≤ whl G (cst1 G) c h := by unfold whl; grind
  have a3 : whl G (cst1 G) c h ≤ 9 * whl G (fun _ => 1) k h := by unfold whl; grind
  refine ⟨a1, a2, rat_div_nonneg a2 a1, ?_⟩
  unfold mh
  refine rat_le_of_mul a1 ?_
  have : whl G (fun _ => 1) k h * (whl G (cst1 G) c h / whl G (fun _ => 1) k h) = whl G (cst1 G) c h := by
    rw [Rat.mul_comm, Rat.div_def, Rat.mul_assoc, Rat.inv_mul_cancel _ (Rat.ne_of_gt a1), Rat.mul_one]
  rw [this]
  grind
end MEA
