/-! A SADDLE POINT STANDS; it is the most that 'a' forces -/
theorem of98 {G : Gm} {s : Nat} : ofG G 98 s = false ↔ gA G s := by
  unfold ofG ownG gA
  split
  · rename_i h; exact ⟨fun _ => h, fun _ => by decide⟩
  · rename_i h; exact ⟨fun z => absurd z (by decide), fun z => absurd z h⟩
theorem of97 {G : Gm} {s : Nat} : ofG G 97 s = false ↔ ¬ gA G s := by
  unfold ofG ownG gA
  split
  · rename_i h; exact ⟨fun z => absurd z (by decide), fun z => absurd h z⟩
  · rename_i h; exact ⟨fun _ => h, fun _ => by decide⟩
section SE
variable {G : Gm} {aim : Nat} {x y : Nat → Rat} {p q : Nat → Nat}
theorem cv_bst (hW : GW G) (hw : whole G) (hq : pkOk G q) (hag : ∀ s, s < G 0 0 → gA G s → q s = p s) (hv : cvB G aim (mv q) x) : bst G 98 aim p x := by
  refine ⟨fun r z hr hz s hs => ?_, fun s hs => ⟨q, x, ⟨hq, fun s hs hD => hag s hs (of98.mp hD)⟩, hv.1, rfl⟩⟩
  unfold bt
  rw [if_pos rfl]
  have := lstB hW hw hv (mv_pk hr.1) (fun s hs hA => by unfold mv; rw [hr.2 s hs (of98.mpr hA), hag s hs hA]) hz s hs
  exact Rat.not_lt.mpr this
theorem no_bst (hW : GW G) (hw : whole G) (hq : pkOk G q) (hag : ∀ s, s < G 0 0 → ¬ gA G s → q s = p s) (hv : gX G aim (mv q) x) (hA : noRA G aim x) : bst G 97 aim p x := by
  refine ⟨fun r z hr hz s hs => ?_, fun s hs => ⟨q, x, ⟨hq, fun s hs hD => hag s hs (of97.mp hD)⟩, hv, rfl⟩⟩
  unfold bt
  rw [if_neg (by decide)]
  have := grtA hW hw (mv_pk hq) hv hA (mv_pk hr.1) (fun s hs hA => by unfold mv; rw [hr.2 s hs (of97.mpr hA), hag s hs hA]) hz s hs
  exact Rat.not_lt.mpr this
theorem sad_mmb (hW : GW G) (hw : whole G) (hp : pkOk G p) (hv : cvB G aim (mv p) x) (hA : noRA G aim x) : mmb G aim x := by
  classical
  refine ⟨fun r z hr hb s hs => ?_, fun s hs => ⟨p, x, hp, cv_bst hW hw hp (fun _ _ _ => rfl) hv, rfl⟩⟩
  have hq : pkOk G (fun s => if gA G s then r s else p s) := fun s hs => by
    dsimp only
    split
    · exact hr s hs
    · exact hp s hs
  obtain ⟨u, hu⟩ := gX_ex (aim := aim) hW hw (mv_pk hq)
  have h1 := hb.1 _ u ⟨hq, fun s hs hD => if_pos (of98.mp hD)⟩ hu s hs
  unfold bt at h1
  rw [if_pos rfl] at h1
  have h2 := grtA hW hw (mv_pk hp) hv.1 hA (mv_pk hq) (fun s hs hA => by unfold mv; dsimp only; rw [if_neg hA]) hu s hs
  exact Rat.le_trans (Rat.not_lt.mp h1) h2
/-- 'b' can keep the chain of p's moves of 'a' from T -/
def avd (G : Gm) (p : Nat → Nat) (s : Nat) : Prop := ∃ C : Nat → Prop, C s ∧ (∀ s, C s → s < G 0 0 ∧ ¬ TG G s) ∧ (∀ s, C s → gA G s → ∀ t, t < G 0 0 → wtR G (mv p s) t ≠ 0 → C t) ∧ ∀ s, C s → ¬ gA G s → ∃ m, gAd G s m ∧ ∀ t, t < G 0 0 → wtR G m t ≠ 0 → C t
theorem avd_away (hq : gX G 114 (mv q) x) (hz : ∀ s, s < G 0 0 → avd G q s → x s ≤ 0) : awayG G (mv q) x := by
  unfold gX at hq
  rw [if_pos rfl] at hq
  exact away_of (Dr := fun s => ¬ avd G q s) hq (fun C h1 h2 h3 s hs hn => hn ⟨C, hs, h1, h2, h3⟩) (fun s hs hn => hz s hs (Classical.byContradiction hn))
/-- a pick of one other choice -/
def upd1 (p : Nat → Nat) (s c t : Nat) : Nat := if t = s then c else p t
theorem upd1_ok {s c : Nat} (hp : pkOk G p) (hc : c < G 3 s) : pkOk G (upd1 p s c) := fun t ht => by
  unfold upd1
  split
  · rename_i e; rw [e]; exact hc
  · exact hp t ht
theorem avd_congr (h : ∀ s, s < G 0 0 → gA G s → q s = p s) {s : Nat} (ha : avd G q s) : avd G p s := by
  obtain ⟨C, h1, h2, h3, h4⟩ := ha
  refine ⟨C, h1, h2, fun u hu hA t ht hw => h3 u hu hA t ht ?_, h4⟩
  unfold mv at hw ⊢
  rw [h u (h2 u hu).1 hA]; exact hw
theorem cvB_ex (hW : GW G) (hw : whole G) (hp : pkOk G p) : ∃ q x, pkOk G q ∧ (∀ s, s < G 0 0 → gA G s → q s = p s) ∧ cvB G aim (mv q) x := by
  classical
  have hmain := HS.ex (G := G) (R := fun a b => pkOk G b ∧ ltX G aim a b) hW (Ph := fun q => pkOk G q ∧ (∀ s, s < G 0 0 → gA G s → q s = p s) ∧ (aim = 114 → ∃ x, gX G aim (mv q) x ∧ ∀ s, s < G 0 0 → avd G p s → x s ≤ 0)) (Gd := fun q => ∃ x, cvB G aim (mv q) x) (fun q hq => hq.1) ?_ ?_ (fun a b c ha hb hc h1 h2 => ⟨hc, ltX_tr hW hw a b c ha hb hc h1.2 h2.2⟩) (fun a b he hR => ltX_ir hW hw a b hR.1 he hR.2)
  · obtain ⟨q, hq, x, hx⟩ := hmain
    exact ⟨q, x, hq.1, hq.2.1, hx⟩
  · -- a first one
    have hch : ∀ s, ∃ c, (s < G 0 0 → ¬ gA G s → c < G 3 s) ∧ (s < G 0 0 → ¬ gA G s → avd G p s → ∀ t, t < G 0 0 → wtR G (3 * s + c) t ≠ 0 → avd G p t) := fun s => by
      by_cases h : s < G 0 0 ∧ ¬ gA G s ∧ avd G p s
      · obtain ⟨hs, hA, C, h1, h2, h3, h4⟩ := h
        obtain ⟨m, ⟨c, hc, e⟩, hm⟩ := h4 s h1 hA
        exact ⟨c, fun _ _ => hc, fun _ _ _ t ht hwt => ⟨C, hm t ht (by rw [e]; exact hwt), h2, h3, h4⟩⟩
      · exact ⟨0, fun hs _ => (hw.2 s hs).1, fun hs hA ha => absurd ⟨hs, hA, ha⟩ h⟩
    obtain ⟨f, hf⟩ := Classical.axiomOfChoice hch
    have hq : pkOk G (fun s => if gA G s then p s else f s) := fun s hs => by
      dsimp only
      split
      · exact hp s hs
      · rename_i hA; exact (hf s).1 hs hA
    refine ⟨fun s => if gA G s then p s else f s, hq, fun s _ hA => if_pos hA, fun ha => ?_⟩
    obtain ⟨x, hx⟩ := gX_ex (aim := aim) hW hw (mv_pk hq)
    refine ⟨x, hx, fun s hs hav => ?_⟩
    unfold gX at hx
    rw [if_pos ha] at hx
    rw [hx.2.2 s hs (fun hcan => ?_)]
    · exact Rat.le_refl
    · obtain ⟨t, ht, hat, hTt⟩ := hcan (avd G p) hav (fun u hu hau v hv hwv => by
        unfold mv at hwv
        dsimp only at hwv
        by_cases hA : gA G u
        · rw [if_pos hA] at hwv
          obtain ⟨C, h1, h2, h3, h4⟩ := hau
          exact ⟨C, h3 u h1 hA v hv hwv, h2, h3, h4⟩
        · rw [if_neg hA] at hwv
          exact (hf u).2 hu hA hau v hv hwv)
      obtain ⟨C, h1, h2, -⟩ := hat
      exact (h2 t h1).2 hTt
  · rintro q ⟨hq, hag, hz⟩
    obtain ⟨x, hx⟩ := gX_ex (aim := aim) hW hw (mv_pk hq)
    have hz' : aim = 114 → ∀ s, s < G 0 0 → avd G p s → x s ≤ 0 := fun ha s hs hav => by
      obtain ⟨x', hx', h0⟩ := hz ha
      rw [gX_uniq hW hw (mv_pk hq) hx hx' s hs]
      exact h0 s hs hav
    by_cases hB : noRB G aim x
    · refine Or.inl ⟨x, hx, hB, fun ha => ?_⟩
      subst ha
      exact avd_away hx (fun s hs hav => hz' rfl s hs (avd_congr hag hav))
    · right
      obtain ⟨s, m, hs, hA, hst, hm, hlt⟩ : ∃ s m, s < G 0 0 ∧ ¬ gA G s ∧ ¬ stop G aim s ∧ gAd G s m ∧ ahR G aim x m < tgR G aim x s m := Classical.byContradiction fun hno => hB (fun s m h1 h2 h3 h4 => Rat.not_lt.mp (fun z => hno ⟨s, m, h1, h2, h3, h4, z⟩))
      obtain ⟨c, hc, rfl⟩ := hm
      have hq2 := upd1_ok hq hc
      obtain ⟨y, hy⟩ := gX_ex (aim := aim) hW hw (mv_pk hq2)
      have hat : mv (upd1 q s c) s = 3 * s + c := by unfold mv upd1; rw [if_pos rfl]
      have hi : imRB G aim x (mv q) (mv (upd1 q s c)) := fun t ht => by
        by_cases e : t = s
        · subst e
          rw [hat]
          exact Or.inr ⟨hA, hst, hlt⟩
        · left
          unfold mv upd1
          rw [if_neg e]
      obtain ⟨k1, k2⟩ := btrB hW hw (mv_pk hq) (mv_pk hq2) hx hi hy
      have hne : mv (upd1 q s c) s ≠ mv q s := fun e => by
        rw [hat] at e
        rw [e, gX_ah hx hs hst] at hlt
        exact Rat.lt_irrefl hlt
      refine ⟨upd1 q s c, ⟨hq2, fun t ht hAt => ?_, fun ha => ⟨y, hy, fun t ht hav => Rat.le_trans (k1 t ht) (hz' ha t ht hav)⟩⟩, hq2, x, y, hx, hy, k1, s, hs, k2 s hs hne⟩
      unfold upd1
      rw [if_neg (fun e => hA (by rw [← e]; exact hAt))]
      exact hag t ht hAt
theorem sad_ex (aim : Nat) (hW : GW G) (hw : whole G) : ∃ p x, pkOk G p ∧ cvB G aim (mv p) x ∧ noRA G aim x := by
  have hmain := HS.ex (G := G) (R := fun a b => pkOk G a ∧ ltX G aim b a) hW (Ph := fun q => pkOk G q ∧ ∃ x, cvB G aim (mv q) x) (Gd := fun q => ∃ x, cvB G aim (mv q) x ∧ noRA G aim x) (fun q hq => hq.1) ?_ ?_ (fun a b c ha hb hc h1 h2 => ⟨ha, ltX_tr hW hw c b a hc hb ha h2.2 h1.2⟩) (fun a b he hR => ltX_ir hW hw b a hR.1 (fun s hs => (he s hs).symm) hR.2)
  · obtain ⟨q, hq, x, hx⟩ := hmain
    exact ⟨q, x, hq.1, hx⟩
  · obtain ⟨q, x, h1, h2, h3⟩ := cvB_ex (aim := aim) (p := fun _ => 0) hW hw (fun s hs => (hw.2 s hs).1)
    exact ⟨q, h1, x, h3⟩
  · rintro q ⟨hq, x, hx⟩
    by_cases hA : noRA G aim x
    · exact Or.inl ⟨x, hx, hA⟩
    · right
      obtain ⟨s, m, hs, hAs, hst, hm, hlt⟩ : ∃ s m, s < G 0 0 ∧ gA G s ∧ ¬ stop G aim s ∧ gAd G s m ∧ tgR G aim x s m < ahR G aim x m := Classical.byContradiction fun hno => hA (fun s m h1 h2 h3 h4 => Rat.not_lt.mp (fun z => hno ⟨s, m, h1, h2, h3, h4, z⟩))
      obtain ⟨c, hc, rfl⟩ := hm
      have hq2 := upd1_ok hq hc
      have hat : mv (upd1 q s c) s = 3 * s + c := by unfold mv upd1; rw [if_pos rfl]
      have hi : imRA G aim x (mv q) (mv (upd1 q s c)) := fun t ht => by
        by_cases e : t = s
        · subst e
          rw [hat]
          exact Or.inr ⟨hAs, hst, hlt⟩
        · left
          unfold mv upd1
          rw [if_neg e]
      obtain ⟨r, y, hr, hag, hy⟩ := cvB_ex (aim := aim) hW hw hq2
      obtain ⟨k1, k2⟩ := btrA hW hw (mv_pk hq) (mv_pk hq2) (mv_pk hr) hx hi (fun t ht hAt => by unfold mv; rw [hag t ht hAt]) hy.1
      have hne : mv (upd1 q s c) s ≠ mv q s := fun e => by
        rw [hat] at e
        rw [e, gX_ah hx.1 hs hst] at hlt
        exact Rat.lt_irrefl hlt
      exact ⟨r, ⟨hr, y, hy⟩, hq, y, x, hy.1, hx.1, k1, s, hs, k2 s hs hAs hne⟩
/-- the values are those of a saddle point -/
theorem mmb_sad {w : Nat → Rat} (hW : GW G) (hw : whole G) (h : mmb G aim w) : ∃ p x, pkOk G p ∧ cvB G aim (mv p) x ∧ noRA G aim x ∧ ∀ s, s < G 0 0 → w s = x s := by
  obtain ⟨p, x, h1, h2, h3⟩ := sad_ex aim hW hw
  exact ⟨p, x, h1, h2, h3, mmb_uniq h (sad_mmb hW hw h1 h2 h3)⟩
end SE
