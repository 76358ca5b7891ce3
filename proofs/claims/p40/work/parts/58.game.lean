/-! THE GAME: chains of picks -/
def gAd (G : Gm) (s m : Nat) : Prop := ∃ c, c < G 3 s ∧ m = 3 * s + c
def gA (G : Gm) (s : Nat) : Prop := G 1 s = 1
def gX (G : Gm) (aim : Nat) (q : Nat → Nat) (x : Nat → Rat) : Prop := if aim = 114 then SolR (G 0 0) (wtR G) q (TG G) x else SolC (G 0 0) (wtR G) q ((G 9 0 : Nat) : Rat) ((G 9 1 : Nat) : Rat) (KG G aim) x
theorem XS_gX {G : Gm} {aim : Nat} {p : Nat → Nat} {x : Nat → Rat} : XS G aim p x ↔ gX G aim (mv p) x := Iff.rfl
theorem can_congr {n : Nat} {wt : Nat → Nat → Rat} {T : Nat → Prop} {q r : Nat → Nat} (h : ∀ s, s < n → q s = r s) {s : Nat} (hc : c_can n wt q T s) : c_can n wt r T s := fun C hC hcl => hc C hC (fun u hu hCu t ht hw => hcl u hu hCu t ht (by rw [← h u hu]; exact hw))
theorem gX_congr {G : Gm} {aim : Nat} {q r : Nat → Nat} {x : Nat → Rat} (h : ∀ s, s < G 0 0 → q s = r s) (hx : gX G aim q x) : gX G aim r x := by
  unfold gX at hx ⊢
  split at hx
  · rw [if_pos (by assumption)]
    refine ⟨hx.1, fun s hs hT => ?_, fun s hs hc => hx.2.2 s hs (fun z => hc (can_congr h z))⟩
    rw [← h s hs]; exact hx.2.1 s hs hT
  · rw [if_neg (by assumption)]
    intro s hs
    rw [← h s hs]; exact hx s hs
section GX
variable {G : Gm} {aim : Nat} {q r : Nat → Nat} {x y : Nat → Rat}
/-- the pick of the choices of q -/
def dg (G : Gm) (q : Nat → Nat) (s : Nat) : Nat := if s < G 0 0 then q s - 3 * s else 0
theorem dg_mv (h : g_pk (G 0 0) (gAd G) q) : ∀ s, s < G 0 0 → mv (dg G q) s = q s := fun s hs => by
  obtain ⟨c, _, e⟩ := h s hs
  unfold mv dg
  rw [if_pos hs, e]; omega
theorem dg_ok (h : g_pk (G 0 0) (gAd G) q) : pkOk G (dg G q) := fun s hs => by
  obtain ⟨c, h1, e⟩ := h s hs
  unfold dg
  rw [if_pos hs, e]; omega
theorem dg_2 (hW : GW G) (h : g_pk (G 0 0) (gAd G) q) : ∀ s, s < 7 → dg G q s ≤ 2 := fun s hs => by
  by_cases c : s < G 0 0
  · have := dg_ok h s c
    have := (hW.2.1 s hs).2.2.1
    omega
  · unfold dg; rw [if_neg c]; omega
theorem mv_pk {p : Nat → Nat} (h : pkOk G p) : g_pk (G 0 0) (gAd G) (mv p) := fun s hs => ⟨p s, h s hs, rfl⟩
theorem game_ok (hW : GW G) (hw : whole G) : g_ok (G 0 0) (wtR G) (gAd G) := fun s m hs ⟨c, hc, e⟩ => by
  have h := pk_c hW hw (p := fun t => if t = s then c else 0) (fun t ht => by
    show (if t = s then c else 0) < G 3 t
    by_cases z : t = s
    · subst z; rw [if_pos rfl]; exact hc
    · rw [if_neg z]; exact (hw.2 t ht).1) s hs
  have e2 : mv (fun t => if t = s then c else 0) s = m := by
    show 3 * s + (if s = s then c else 0) = m
    rw [if_pos rfl, e]
  rw [e2] at h
  exact h
theorem gX_uniq (hW : GW G) (hw : whole G) (hq : g_pk (G 0 0) (gAd G) q) (hx : gX G aim q x) (hy : gX G aim q y) : ∀ s, s < G 0 0 → x s = y s := by
  have hok := (game_ok hW hw)
  have hc := hq.ok hok
  have hd := disc hW
  unfold gX at hx hy
  split at hx
  · rw [if_pos (by assumption)] at hy; exact solR_uniq hc hx hy
  · rw [if_neg (by assumption)] at hy; exact solC_uniq hc hd.1 hd.2 hx hy
theorem KG_nonneg (hW : GW G) (hw : whole G) {s m : Nat} (hs : s < G 0 0) (hm : gAd G s m) : 0 ≤ KG G aim m := by
  unfold KG
  exact Rat.mul_nonneg (Rat.mul_nonneg Rat.natCast_nonneg (Rat.le_of_lt (game_ok hW hw s m hs hm).2)) Rat.natCast_nonneg
theorem gX_nonneg (hW : GW G) (hw : whole G) (hq : g_pk (G 0 0) (gAd G) q) (hx : gX G aim q x) : ∀ s, s < G 0 0 → 0 ≤ x s := by
  have hok := (game_ok hW hw)
  have hc := hq.ok hok
  have hd := disc hW
  unfold gX at hx
  split at hx
  · exact solR_nonneg hc hx
  · exact solC_nonneg hc hd.1 hd.2 (fun s hs => KG_nonneg hW hw hs (hq s hs)) hx
theorem gX_ex (hW : GW G) (hw : whole G) (hq : g_pk (G 0 0) (gAd G) q) : ∃ x, gX G aim q x := by
  classical
  have h2 := dg_2 hW hq
  have h3 := dg_ok hq
  by_cases c : aim = 114
  · refine ⟨_, gX_congr (dg_mv hq) (x := fun t => gB 7 (rchA G (dg G q) (fun s => decide (TG G s ∨ ¬ c_can (G 0 0) (wtR G) (mv (dg G q)) (TG G) s)) (fun s => if TG G s then 1 else 0)) t 7 / gD 7 (rchA G (dg G q) (fun s => decide (TG G s ∨ ¬ c_can (G 0 0) (wtR G) (mv (dg G q)) (TG G) s)) (fun s => if TG G s then 1 else 0))) ?_⟩
    unfold gX
    rw [if_pos c]
    refine (rch_sol hW hw h3 h2 (fun s hs hN => ?_) (fun s hs hN => ?_)).2.1
    · have h := of_decide_eq_false hN
      exact ⟨fun z => h (Or.inl z), Classical.byContradiction fun z => h (Or.inr z)⟩
    · have h := of_decide_eq_true hN
      by_cases e : TG G s
      · exact Or.inl ⟨e, if_pos e⟩
      · rcases h with h | h
        · exact absurd h e
        · exact Or.inr ⟨e, h, if_neg e⟩
  · refine ⟨_, gX_congr (dg_mv hq) (x := fun t => gB 7 (costA G (dg G q) aim) t 7 / gD 7 (costA G (dg G q) aim)) ?_⟩
    unfold gX
    rw [if_neg c]
    exact (cost_sol (aim := aim) hW hw h3 h2).2.1
end GX
