/-! STRATEGIES MADE BETTER, for all four aims alike; a saddle point stands -/
section AH
variable {G : Gm} {aim : Nat} {x y : Nat → Rat} {p q r : Nat → Nat}
/-- what a move promises, times the sum of its weights -/
def ahR (G : Gm) (aim : Nat) (x : Nat → Rat) (m : Nat) : Rat := if aim = 114 then c_ex (G 0 0) (wtR G) x m else ((G 9 0 : Nat) : Rat) * c_ex (G 0 0) (wtR G) x m + KG G aim m
/-- what it is held against -/
def tgR (G : Gm) (aim : Nat) (x : Nat → Rat) (s m : Nat) : Rat := if aim = 114 then c_sm (G 0 0) (wtR G) m * x s else ((G 9 1 : Nat) : Rat) * (c_sm (G 0 0) (wtR G) m * x s)
/-- states at which nothing is chosen for 'r' -/
def stop (G : Gm) (aim s : Nat) : Prop := aim = 114 ∧ TG G s
theorem gX_ah (h : gX G aim q x) {s : Nat} (hs : s < G 0 0) (hns : ¬ stop G aim s) : ahR G aim x (q s) = tgR G aim x s (q s) := by
  unfold gX at h
  unfold ahR tgR
  split
  · rename_i c
    rw [if_pos c] at h
    exact (h.2.1 s hs (fun hT => hns ⟨c, hT⟩)).symm
  · rename_i c
    rw [if_neg c] at h
    exact (h s hs).symm
theorem gX_stop (h : gX G aim q x) {s : Nat} (hs : s < G 0 0) (hst : stop G aim s) : x s = 1 := by
  unfold gX at h
  rw [if_pos hst.1] at h
  exact h.1 s hs hst.2
/-- no move is better: for 'a', for 'b' -/
def noRA (G : Gm) (aim : Nat) (x : Nat → Rat) : Prop := ∀ s m, s < G 0 0 → gA G s → ¬ stop G aim s → gAd G s m → ahR G aim x m ≤ tgR G aim x s m
def noRB (G : Gm) (aim : Nat) (x : Nat → Rat) : Prop := ∀ s m, s < G 0 0 → ¬ gA G s → ¬ stop G aim s → gAd G s m → tgR G aim x s m ≤ ahR G aim x m
theorem noRA_r (h : noRA G 114 x) : noA (G 0 0) (wtR G) (gAd G) (gA G) (TG G) x := fun s m hs hA hT hm => by
  have := h s m hs hA (fun z => hT z.2) hm
  unfold ahR tgR at this
  rw [if_pos rfl, if_pos rfl] at this
  exact this
theorem noRB_r (h : noRB G 114 x) : noB (G 0 0) (wtR G) (gAd G) (gA G) (TG G) x := fun s m hs hA hT hm => by
  have := h s m hs hA (fun z => hT z.2) hm
  unfold ahR tgR at this
  rw [if_pos rfl, if_pos rfl] at this
  exact this
theorem noRA_c (ha : aim ≠ 114) (h : noRA G aim x) : noAc (G 0 0) (wtR G) (gAd G) (gA G) ((G 9 0 : Nat) : Rat) ((G 9 1 : Nat) : Rat) (KG G aim) x := fun s m hs hA hm => by
  have := h s m hs hA (fun z => ha z.1) hm
  unfold ahR tgR at this
  rw [if_neg ha, if_neg ha] at this
  exact this
theorem noRB_c (ha : aim ≠ 114) (h : noRB G aim x) : noBc (G 0 0) (wtR G) (gAd G) (gA G) ((G 9 0 : Nat) : Rat) ((G 9 1 : Nat) : Rat) (KG G aim) x := fun s m hs hA hm => by
  have := h s m hs hA (fun z => ha z.1) hm
  unfold ahR tgR at this
  rw [if_neg ha, if_neg ha] at this
  exact this
abbrev awayG (G : Gm) (q : Nat → Nat) (x : Nat → Rat) : Prop := away (G 0 0) (wtR G) (gAd G) (gA G) (TG G) q x
/-- 'b' can't be better against the pick's moves of 'a' -/
def cvB (G : Gm) (aim : Nat) (q : Nat → Nat) (x : Nat → Rat) : Prop := gX G aim q x ∧ noRB G aim x ∧ (aim = 114 → awayG G q x)
/-- q is p with some better moves of a player -/
def imRA (G : Gm) (aim : Nat) (x : Nat → Rat) (p q : Nat → Nat) : Prop := ∀ s, s < G 0 0 → q s = p s ∨ (gA G s ∧ ¬ stop G aim s ∧ tgR G aim x s (q s) < ahR G aim x (q s))
def imRB (G : Gm) (aim : Nat) (x : Nat → Rat) (p q : Nat → Nat) : Prop := ∀ s, s < G 0 0 → q s = p s ∨ (¬ gA G s ∧ ¬ stop G aim s ∧ ahR G aim x (q s) < tgR G aim x s (q s))
theorem imRA_r (h : imRA G 114 x p q) : impA (G 0 0) (wtR G) (gA G) (TG G) x p q := fun s hs => (h s hs).imp id (fun ⟨h1, h2, h3⟩ => by
  unfold ahR tgR at h3
  rw [if_pos rfl, if_pos rfl] at h3
  exact ⟨h1, fun hT => h2 ⟨rfl, hT⟩, h3⟩)
theorem imRB_r (h : imRB G 114 x p q) : impB (G 0 0) (wtR G) (gA G) (TG G) x p q := fun s hs => (h s hs).imp id (fun ⟨h1, h2, h3⟩ => by
  unfold ahR tgR at h3
  rw [if_pos rfl, if_pos rfl] at h3
  exact ⟨h1, fun hT => h2 ⟨rfl, hT⟩, h3⟩)
theorem imRA_c (ha : aim ≠ 114) (h : imRA G aim x p q) : impAc (G 0 0) (wtR G) (gA G) ((G 9 0 : Nat) : Rat) ((G 9 1 : Nat) : Rat) (KG G aim) x p q := fun s hs => (h s hs).imp id (fun ⟨h1, _, h3⟩ => by
  unfold ahR tgR at h3
  rw [if_neg ha, if_neg ha] at h3
  exact ⟨h1, h3⟩)
theorem imRB_c (ha : aim ≠ 114) (h : imRB G aim x p q) : impBc (G 0 0) (wtR G) (gA G) ((G 9 0 : Nat) : Rat) ((G 9 1 : Nat) : Rat) (KG G aim) x p q := fun s hs => (h s hs).imp id (fun ⟨h1, _, h3⟩ => by
  unfold ahR tgR at h3
  rw [if_neg ha, if_neg ha] at h3
  exact ⟨h1, h3⟩)
abbrev gPk (G : Gm) (q : Nat → Nat) : Prop := g_pk (G 0 0) (gAd G) q
theorem btrB (hW : GW G) (hw : whole G) (hp : gPk G p) (hq : gPk G q) (hv : gX G aim p x) (hi : imRB G aim x p q) (hy : gX G aim q y) : (∀ s, s < G 0 0 → y s ≤ x s) ∧ ∀ s, s < G 0 0 → q s ≠ p s → y s < x s := by
  have hg := game_ok hW hw
  have hd := disc hW
  unfold gX at hv hy
  by_cases c : aim = 114
  · subst c
    rw [if_pos rfl] at hv hy
    exact betterB hg hp hq hv (imRB_r hi) hy
  · rw [if_neg c] at hv hy
    exact betterBc hg hd.1 hd.2 hq hv (imRB_c c hi) hy
theorem btrA (hW : GW G) (hw : whole G) (hp : gPk G p) (hq : gPk G q) (hr : gPk G r) (hv : cvB G aim p x) (hi : imRA G aim x p q) (hag : g_ag (G 0 0) (gA G) q r) (hy : gX G aim r y) : (∀ s, s < G 0 0 → x s ≤ y s) ∧ ∀ s, s < G 0 0 → gA G s → q s ≠ p s → x s < y s := by
  have hg := game_ok hW hw
  have hd := disc hW
  obtain ⟨h1, h2, h3⟩ := hv
  unfold gX at h1 hy
  by_cases c : aim = 114
  · subst c
    rw [if_pos rfl] at h1 hy
    obtain ⟨k1, k2⟩ := betterA hg hp hq hr h1 (noRB_r h2) (h3 rfl) (imRA_r hi) hag hy
    exact ⟨k1, fun s hs _ => k2 s hs⟩
  · rw [if_neg c] at h1 hy
    exact betterAc hg hd.1 hd.2 hr h1 (fun s hs hA => noRB_c c h2 s (r s) hs hA (hr s hs)) (imRA_c c hi) hag hy
theorem btrA1 (hW : GW G) (hw : whole G) (hp : gPk G p) (hq : gPk G q) (hv : gX G aim p x) (hi : imRA G aim x p q) (hy : gX G aim q y) : (∀ s, s < G 0 0 → x s ≤ y s) ∧ ∀ s, s < G 0 0 → gA G s → q s ≠ p s → x s < y s := by
  have hg := game_ok hW hw
  have hd := disc hW
  unfold gX at hv hy
  by_cases c : aim = 114
  · subst c
    rw [if_pos rfl] at hv hy
    obtain ⟨k1, k2⟩ := betterA1 hg hp hq hv (imRA_r hi) hy
    exact ⟨k1, fun s hs _ => k2 s hs⟩
  · rw [if_neg c] at hv hy
    refine betterAc hg hd.1 hd.2 hq hv (fun s hs hA => ?_) (imRA_c c hi) (fun _ _ _ => rfl) hy
    rcases hi s hs with h | h
    · rw [h, hv s hs]; exact Rat.le_refl
    · exact absurd h.1 hA
/-- against the moves of 'a', the least -/
theorem lstB (hW : GW G) (hw : whole G) (hv : cvB G aim p x) (hq : gPk G q) (hag : g_ag (G 0 0) (gA G) p q) (hy : gX G aim q y) : ∀ s, s < G 0 0 → x s ≤ y s := by
  have hg := game_ok hW hw
  have hd := disc hW
  obtain ⟨h1, h2, h3⟩ := hv
  unfold gX at h1 hy
  by_cases c : aim = 114
  · subst c
    rw [if_pos rfl] at h1 hy
    exact bestB hg h1 (noRB_r h2) (h3 rfl) hq hag hy
  · rw [if_neg c] at h1 hy
    exact bestBc hg hd.1 hd.2 h1 (noRB_c c h2) hq hag hy
theorem grtA (hW : GW G) (hw : whole G) (hp : gPk G p) (hv : gX G aim p x) (hA : noRA G aim x) (hq : gPk G q) (hag : g_ag (G 0 0) (fun s => ¬ gA G s) p q) (hy : gX G aim q y) : ∀ s, s < G 0 0 → y s ≤ x s := by
  have hg := game_ok hW hw
  have hd := disc hW
  unfold gX at hv hy
  by_cases c : aim = 114
  · subst c
    rw [if_pos rfl] at hv hy
    exact bestA hg hp hv (noRA_r hA) hq hag hy
  · rw [if_neg c] at hv hy
    exact bestAc hg hd.1 hd.2 hv (noRA_c c hA) hq hag hy
end AH
/-- a row of picks, each one better than those before -/
def HS (G : Gm) (R : (Nat → Nat) → (Nat → Nat) → Prop) (k : Nat) (p : Nat → Nat) : Prop := ∃ h : Nat → Nat → Nat, h k = p ∧ (∀ i, i ≤ k → pkOk G (h i)) ∧ ∀ i j, i < j → j ≤ k → R (h i) (h j)
section HI
variable {G : Gm} {R : (Nat → Nat) → (Nat → Nat) → Prop} {k : Nat} {p q : Nat → Nat}
theorem HS.zero (hp : pkOk G p) : HS G R 0 p := ⟨fun _ => p, rfl, fun _ _ => hp, fun i j h1 h2 => by omega⟩
theorem HS.step (h : HS G R k p) (hq : pkOk G q) (hR : R p q) (ht : ∀ a b c, pkOk G a → pkOk G b → pkOk G c → R a b → R b c → R a c) : HS G R (k + 1) q := by
  obtain ⟨h, h1, h2, h3⟩ := h
  refine ⟨fun i => if i ≤ k then h i else q, if_neg (by omega), fun i hi => ?_, fun i j hij hj => ?_⟩
  · dsimp only
    split
    · rename_i c; exact h2 i c
    · exact hq
  · dsimp only
    rw [if_pos (show i ≤ k by omega)]
    by_cases c : j ≤ k
    · rw [if_pos c]; exact h3 i j hij c
    · rw [if_neg c]
      by_cases c2 : i = k
      · rw [c2, h1]; exact hR
      · exact ht (h i) (h k) q (h2 i (by omega)) (h2 k (Nat.le_refl k)) hq (h3 i k (by omega) (Nat.le_refl k)) (by rw [h1]; exact hR)
theorem rx3 (n : Nat) : rx (fun _ => true) (fun _ => 3) n = 3 ^ n := by
  induction n with
  | zero => rfl
  | succ n ih => rw [rx, if_pos rfl, ih, Nat.pow_succ, Nat.mul_comm]
theorem HS.stop (hW : GW G) (h : HS G R k p) (hi : ∀ a b, (∀ s, s < G 0 0 → a s = b s) → ¬ R a b) : k < 2187 := by
  refine Nat.lt_of_not_le (fun hk => ?_)
  obtain ⟨h, h1, h2, h3⟩ := h
  have hn := hW.1
  have h9 : ∀ i, i ≤ 2187 → ∀ s, s < G 0 0 → (fun _ => true) s = true → h i s < (fun _ => 3) s := fun i hi s hs _ => by
    have e1 := h2 i (by omega) s hs
    have e2 := (hW.2.1 s (by omega)).2.2.1
    show h i s < 3
    omega
  obtain ⟨i, j, hij, hj, he⟩ := pigeon 2187 (fun i => cd (fun _ => true) (fun _ => 3) (h i) (G 0 0)) (fun i hi => by
    have e1 := cd_lt (D := fun _ => true) (c := fun _ => 3) (p := h i) (G 0 0) (fun s hs hD => h9 i hi s hs hD)
    rw [rx3] at e1
    have e2 : 3 ^ (G 0 0) ≤ 3 ^ 7 := Nat.pow_le_pow_right (by decide) hn
    have e3 : 3 ^ 7 = 2187 := by decide
    omega)
  have e := cd_inj (D := fun _ => true) (c := fun _ => 3) (p := h i) (q := h j) (G 0 0) (fun s hs hD => h9 i (by omega) s hs hD) (fun s hs hD => h9 j hj s hs hD) he
  exact hi (h i) (h j) (fun s hs => e s hs rfl) (h3 i j hij (by omega))
/-- so some pick can't be made better -/
theorem HS.ex (hW : GW G) {Ph Gd : (Nat → Nat) → Prop} (hPk : ∀ p, Ph p → pkOk G p) (h0 : ∃ p, Ph p) (hst : ∀ p, Ph p → Gd p ∨ ∃ q, Ph q ∧ R p q) (ht : ∀ a b c, pkOk G a → pkOk G b → pkOk G c → R a b → R b c → R a c) (hi : ∀ a b, (∀ s, s < G 0 0 → a s = b s) → ¬ R a b) : ∃ p, Ph p ∧ Gd p := by
  refine Classical.byContradiction fun hno => ?_
  have key : ∀ k, ∃ p, Ph p ∧ HS G R k p := by
    intro k
    induction k with
    | zero => obtain ⟨p, hp⟩ := h0; exact ⟨p, hp, HS.zero (hPk p hp)⟩
    | succ k ih =>
      obtain ⟨p, hp, hH⟩ := ih
      rcases hst p hp with z | ⟨q, hq, hR⟩
      · exact absurd ⟨p, hp, z⟩ hno
      · exact ⟨q, hq, hH.step (hPk q hq) hR ht⟩
  obtain ⟨p, _, hH⟩ := key 2187
  have := hH.stop hW hi
  omega
end HI
/-- the values of q are no more than those of p, and one is less -/
def ltX (G : Gm) (aim : Nat) (p q : Nat → Nat) : Prop := ∃ x y, gX G aim (mv p) x ∧ gX G aim (mv q) y ∧ (∀ s, s < G 0 0 → y s ≤ x s) ∧ ∃ s, s < G 0 0 ∧ y s < x s
section SD
variable {G : Gm} {aim : Nat} {x y : Nat → Rat} {p q : Nat → Nat}
theorem ltX_tr (hW : GW G) (hw : whole G) (a b c : Nat → Nat) (_ : pkOk G a) (hb : pkOk G b) (_ : pkOk G c) (h1 : ltX G aim a b) (h2 : ltX G aim b c) : ltX G aim a c := by
  obtain ⟨x, y, e1, e2, e3, s, hs, e4⟩ := h1
  obtain ⟨y', z, f1, f2, f3, t, ht, f4⟩ := h2
  have hu := gX_uniq hW hw (mv_pk hb) e2 f1
  refine ⟨x, z, e1, f2, fun u hu' => ?_, s, hs, ?_⟩
  · have := e3 u hu'; have := f3 u hu'; have := hu u hu'; grind
  · have := f3 s hs; have := hu s hs; grind
theorem ltX_ir (hW : GW G) (hw : whole G) (a b : Nat → Nat) (hb : pkOk G b) (h : ∀ s, s < G 0 0 → a s = b s) : ¬ ltX G aim a b := by
  rintro ⟨x, y, e1, e2, e3, s, hs, e4⟩
  have := gX_uniq hW hw (mv_pk hb) (gX_congr (fun s hs => by unfold mv; rw [h s hs]) e1) e2 s hs
  grind
theorem gtX_tr (hW : GW G) (hw : whole G) (a b c : Nat → Nat) (ha : pkOk G a) (hb : pkOk G b) (hc : pkOk G c) (h1 : ltX G aim b a) (h2 : ltX G aim c b) : ltX G aim c a := ltX_tr hW hw c b a hc hb ha h2 h1
end SD
theorem HS.stopB {G : Gm} {aim k : Nat} {p : Nat → Nat} (hW : GW G) (hw : whole G) (h : HS G (ltX G aim) k p) : k < 2187 := by
  obtain ⟨h, h1, h2, h3⟩ := h
  have : HS G (fun a b => pkOk G b ∧ ltX G aim a b) k p := ⟨h, h1, h2, fun i j hij hj => ⟨h2 j hj, h3 i j hij hj⟩⟩
  exact this.stop hW (fun a b he hR => ltX_ir hW hw a b hR.1 he hR.2)
theorem HS.stopA {G : Gm} {aim k : Nat} {p : Nat → Nat} (hW : GW G) (hw : whole G) (h : HS G (fun a b => ltX G aim b a) k p) : k < 2187 := by
  obtain ⟨h, h1, h2, h3⟩ := h
  have : HS G (fun a b => pkOk G a ∧ ltX G aim b a) k p := ⟨h, h1, h2, fun i j hij hj => ⟨h2 i (by omega), h3 i j hij hj⟩⟩
  exact this.stop hW (fun a b he hR => ltX_ir hW hw b a hR.1 (fun s hs => (he s hs).symm) hR.2)
