/-! LIKENESS: classes that are split until they agree -/
def wiG (G : Gm) (g : Nat → Nat) (x c : Nat) : Nat := sN (G 0 0) (fun t => if g t = c then G 7 (7 * x + t) else 0)
def lkC (G : Gm) (g : Nat → Nat) (x y : Nat) : Prop := G 4 x = G 4 y ∧ G 5 x = G 5 y ∧ ∀ c, c < G 0 0 → wiG G g x c * G 6 y = wiG G g y c * G 6 x
def foL (G : Gm) (g : Nat → Nat) (s t : Nat) : Prop := ∀ c, c < G 3 s → ∃ d, d < G 3 t ∧ lkC G g (3 * s + c) (3 * t + d)
def eqL (G : Gm) (g : Nat → Nat) (s t : Nat) : Prop := g s = g t ∧ foL G g s t ∧ foL G g t s
def loL (G : Gm) (s t : Nat) : Prop := G 1 s = G 1 t ∧ G 2 s = G 2 t ∧ (G 8 s ≠ 0 ↔ G 8 t ≠ 0)
/-- each state has the lowest one that is like it -/
def lowB (n : Nat) (E : Nat → Nat → Prop) (g : Nat → Nat) : Prop := ∀ s, s < n → g s ≤ s ∧ (g s = s ∨ E (g s) s) ∧ ∀ u, u < g s → ¬ E u s
def GS (G : Gm) : Nat → (Nat → Nat) → Prop
  | 0, g => lowB (G 0 0) (loL G) g
  | k + 1, g => ∃ g0, GS G k g0 ∧ lowB (G 0 0) (eqL G g0) g
section LI
variable {G : Gm} {g f : Nat → Nat}
theorem lowB_uniq {n : Nat} {E : Nat → Nat → Prop} (hg : lowB n E g) (hf : lowB n E f) : ∀ s, s < n → g s = f s := fun s hs => by
  obtain ⟨a1, a2, a3⟩ := hg s hs
  obtain ⟨b1, b2, b3⟩ := hf s hs
  rcases Nat.lt_trichotomy (g s) (f s) with h | h | h
  · rcases a2 with z | z
    · omega
    · exact absurd z (b3 _ h)
  · exact h
  · rcases b2 with z | z
    · omega
    · exact absurd z (a3 _ h)
theorem lowB_congr {n : Nat} {E F : Nat → Nat → Prop} (h : ∀ s t, s < n → t < n → (E s t ↔ F s t)) (hg : lowB n E g) : lowB n F g := fun s hs => by
  obtain ⟨a1, a2, a3⟩ := hg s hs
  exact ⟨a1, a2.imp id (fun z => (h _ s (by omega) hs).mp z), fun u hu z => a3 u hu ((h u s (by omega) hs).mpr z)⟩
theorem sN_cg {n : Nat} {a b : Nat → Nat} (h : ∀ t, t < n → a t = b t) : sN n a = sN n b := by
  induction n with
  | zero => rfl
  | succ n ih => rw [sN, sN, ih (fun t ht => h t (by omega)), h n (by omega)]
theorem wiG_congr (h : ∀ s, s < G 0 0 → g s = f s) (x c : Nat) : wiG G g x c = wiG G f x c := sN_cg (fun t ht => by rw [h t ht])
theorem lkC_congr (h : ∀ s, s < G 0 0 → g s = f s) {x y : Nat} : lkC G g x y ↔ lkC G f x y := by
  unfold lkC
  simp only [wiG_congr h]
theorem eqL_congr (h : ∀ s, s < G 0 0 → g s = f s) {s t : Nat} (hs : s < G 0 0) (ht : t < G 0 0) : eqL G g s t ↔ eqL G f s t := by
  unfold eqL foL
  simp only [lkC_congr h, h s hs, h t ht]
theorem GS_uniq : ∀ k {g f : Nat → Nat}, GS G k g → GS G k f → ∀ s, s < G 0 0 → g s = f s := by
  intro k
  induction k with
  | zero => intro g f hg hf; exact lowB_uniq hg hf
  | succ k ih =>
    rintro g f ⟨g0, h1, h2⟩ ⟨f0, h3, h4⟩
    exact lowB_uniq (lowB_congr (fun s t hs ht => eqL_congr (ih h1 h3) hs ht) h2) h4
theorem lkC_tr {x y z : Nat} (hy : 0 < G 6 y) (h1 : lkC G g x y) (h2 : lkC G g y z) : lkC G g x z := by
  obtain ⟨a1, a2, a3⟩ := h1
  obtain ⟨b1, b2, b3⟩ := h2
  refine ⟨a1.trans b1, a2.trans b2, fun c hc => ?_⟩
  have e1 := a3 c hc
  have e2 := b3 c hc
  have : (wiG G g x c * G 6 z) * G 6 y = (wiG G g z c * G 6 x) * G 6 y := by
    calc (wiG G g x c * G 6 z) * G 6 y = (wiG G g x c * G 6 y) * G 6 z := by ac_rfl
      _ = (wiG G g y c * G 6 z) * G 6 x := by rw [e1]; ac_rfl
      _ = (wiG G g z c * G 6 x) * G 6 y := by rw [e2]; ac_rfl
  exact Nat.eq_of_mul_eq_mul_right hy this
theorem foL_tr (hw : whole G) {s t u : Nat} (ht : t < G 0 0) (h1 : foL G g s t) (h2 : foL G g t u) : foL G g s u := fun c hc => by
  obtain ⟨d, hd, e1⟩ := h1 c hc
  obtain ⟨e, he, e2⟩ := h2 d hd
  exact ⟨e, he, lkC_tr ((hw.2 t ht).2 d hd) e1 e2⟩
theorem foL_rf (s : Nat) : foL G g s s := fun c hc => ⟨c, hc, rfl, rfl, fun _ _ => rfl⟩
theorem eqL_tr (hw : whole G) {s t u : Nat} (ht : t < G 0 0) (h1 : eqL G g s t) (h2 : eqL G g t u) : eqL G g s u := ⟨h1.1.trans h2.1, foL_tr hw ht h1.2.1 h2.2.1, foL_tr hw ht h2.2.2 h1.2.2⟩
theorem eqL_sy {s t : Nat} (h : eqL G g s t) : eqL G g t s := ⟨h.1.symm, h.2.2, h.2.1⟩
theorem loL_tr {s t u : Nat} (h1 : loL G s t) (h2 : loL G t u) : loL G s u := ⟨h1.1.trans h2.1, h1.2.1.trans h2.2.1, h1.2.2.trans h2.2.2⟩
theorem loL_sy {s t : Nat} (h : loL G s t) : loL G t s := ⟨h.1.symm, h.2.1.symm, h.2.2.symm⟩
/-- a relation that is an equivalence: its lowest ones stay -/
theorem lowB_idem {n : Nat} {E : Nat → Nat → Prop} (hg : lowB n E g) (ht : ∀ s t u, s < n → t < n → u < n → E s t → E t u → E s u) : ∀ s, s < n → g (g s) = g s := fun s hs => by
  obtain ⟨a1, a2, a3⟩ := hg s hs
  obtain ⟨b1, b2, b3⟩ := hg (g s) (by omega)
  rcases b2 with z | z
  · exact z
  · by_cases c : g (g s) < g s
    · rcases a2 with y | y
      · rw [y] at c ⊢; rw [y] at c; omega
      · exact absurd (ht _ _ _ (by omega) (by omega) hs z y) (a3 _ c)
    · omega
theorem GS_good (hw : whole G) : ∀ k {g : Nat → Nat}, GS G k g → (∀ s, s < G 0 0 → g s ≤ s ∧ g (g s) = g s) ∧ ∀ s t, s < G 0 0 → t < G 0 0 → g s = g t → loL G s t := by
  intro k
  induction k with
  | zero =>
    intro g hg
    have hid := lowB_idem hg (fun s t u _ _ _ h1 h2 => loL_tr h1 h2)
    refine ⟨fun s hs => ⟨(hg s hs).1, hid s hs⟩, fun s t hs ht he => ?_⟩
    have e1 : loL G (g s) s := by
      rcases (hg s hs).2.1 with z | z
      · rw [z]; exact ⟨rfl, rfl, Iff.rfl⟩
      · exact z
    have e2 : loL G (g t) t := by
      rcases (hg t ht).2.1 with z | z
      · rw [z]; exact ⟨rfl, rfl, Iff.rfl⟩
      · exact z
    rw [he] at e1
    exact loL_tr (loL_sy e1) e2
  | succ k ih =>
    rintro g ⟨g0, h1, h2⟩
    obtain ⟨k1, k2⟩ := ih h1
    have hid := lowB_idem h2 (fun s t u _ ht _ h1 h2 => eqL_tr hw ht h1 h2)
    refine ⟨fun s hs => ⟨(h2 s hs).1, hid s hs⟩, fun s t hs ht he => k2 s t hs ht ?_⟩
    have e1 : g0 (g s) = g0 s := by
      rcases (h2 s hs).2.1 with z | z
      · rw [z]
      · exact z.1
    have e2 : g0 (g t) = g0 t := by
      rcases (h2 t ht).2.1 with z | z
      · rw [z]
      · exact z.1
    rw [he] at e1
    rw [← e1, e2]
theorem GS_stab (hw : whole G) : ∀ k {g : Nat → Nat}, GS G k g → lowB (G 0 0) (eqL G g) g ∨ k + 1 ≤ cntS (fun s => g s = s) (G 0 0) := by
  intro k
  induction k with
  | zero =>
    intro g hg
    right
    have h0 := (hg 0 hw.1).1
    have := cntS_lt (E := fun _ => False) (F := fun s => g s = s) (n := G 0 0) (s := 0) (fun _ _ z => z.elim) hw.1 (fun z => z) (by show g 0 = 0; omega)
    omega
  | succ k ih =>
    rintro g ⟨g0, h1, h2⟩
    obtain ⟨k1, -⟩ := GS_good hw k h1
    have hid := lowB_idem h2 (fun s t u _ ht _ h1 h2 => eqL_tr hw ht h1 h2)
    have hsub : ∀ s, s < G 0 0 → g0 s = s → g s = s := fun s hs he => by
      rcases (h2 s hs).2.1 with z | z
      · exact z
      · have e1 := z.1
        have e2 := (k1 (g s) (by have := (h2 s hs).1; omega)).1
        have e3 := (h2 s hs).1
        omega
    have hstep : ∀ s, s < G 0 0 → (∀ u, u < G 0 0 → g u = u → g0 u = u) → g0 s = g s := fun s hs hall => by
      have hgs : g s < G 0 0 := by have := (h2 s hs).1; omega
      have e1 := hall (g s) hgs (hid s hs)
      rcases (h2 s hs).2.1 with z | z
      · rw [z] at e1; rw [z]; exact e1
      · rw [← z.1, e1]
    by_cases hall : ∀ u, u < G 0 0 → g u = u → g0 u = u
    · left
      exact lowB_congr (fun s t hs ht => eqL_congr (fun u hu => hstep u hu hall) hs ht) h2
    · right
      obtain ⟨u, hu, e1, e2⟩ : ∃ u, u < G 0 0 ∧ g u = u ∧ g0 u ≠ u := Classical.byContradiction fun hno => hall (fun u hu e => Classical.byContradiction fun y => hno ⟨u, hu, e, y⟩)
      have hlt := cntS_lt (E := fun s => g0 s = s) (F := fun s => g s = s) (n := G 0 0) (s := u) (fun t ht z => hsub t ht z) hu e2 e1
      rcases ih h1 with z | z
      · exfalso
        have := lowB_uniq z h2 u hu
        rw [this] at e2
        exact e2 e1
      · omega
theorem GS_n (hw : whole G) {k : Nat} (hk : G 0 0 ≤ k) {g : Nat → Nat} (hg : GS G k g) : lowB (G 0 0) (eqL G g) g := by
  rcases GS_stab hw k hg with z | z
  · exact z
  · have := cntS_le (fun s => g s = s) (G 0 0)
    omega
theorem GS_more (hw : whole G) : ∀ d {g f : Nat → Nat}, GS G (G 0 0) g → GS G (G 0 0 + d) f → ∀ s, s < G 0 0 → g s = f s := by
  intro d
  induction d with
  | zero => intro g f hg hf; exact GS_uniq _ hg hf
  | succ d ih =>
    rintro g f hg ⟨f0, h1, h2⟩
    have e := ih hg h1
    have hst := GS_n hw (Nat.le_refl _) hg
    exact lowB_uniq (lowB_congr (fun s t hs ht => eqL_congr e hs ht) hst) h2
end LI
/-! states of a class have the same values -/
section LV
variable {G : Gm} {aim : Nat} {x y z : Nat → Rat} {p q g : Nat → Nat}
theorem sup_le (hW : GW G) (hw : whole G) (hq : pkOk G q) (h1 : ∀ s, s < G 0 0 → stop G aim s → 1 ≤ y s) (h2 : ∀ s, s < G 0 0 → ¬ stop G aim s → ahR G aim y (mv q s) ≤ tgR G aim y s (mv q s)) (h3 : ∀ s, s < G 0 0 → 0 ≤ y s) (hz : gX G aim (mv q) z) : ∀ s, s < G 0 0 → z s ≤ y s := by
  have hok := (mv_pk hq).ok (game_ok hW hw)
  have hd := disc hW
  unfold gX at hz
  by_cases c : aim = 114
  · rw [if_pos c] at hz
    refine cmpR_ge hok hz (fun s hs hT => h1 s hs ⟨c, hT⟩) (fun s hs hT => ?_) h3
    have := h2 s hs (fun y => hT y.2)
    unfold ahR tgR at this
    rw [if_pos c, if_pos c] at this
    exact this
  · rw [if_neg c] at hz
    refine cmpC_ge hok hd.1 hz (fun s hs => ?_) hd.2
    have := h2 s hs (fun y => c y.1)
    unfold ahR tgR at this
    rw [if_neg c, if_neg c] at this
    exact this
theorem ah_mono (hW : GW G) {m : Nat} (h : ∀ s, s < G 0 0 → y s ≤ x s) : ahR G aim y m ≤ ahR G aim x m := by
  have h1 := c_ex_le (n := G 0 0) (wt := wtR G) (x := y) (y := x) (m := m) (fun t _ => wtR_nn) h
  have hd := (disc hW).2
  unfold ahR
  split
  · exact h1
  · have := Rat.mul_nonneg hd (b := c_ex (G 0 0) (wtR G) x m - c_ex (G 0 0) (wtR G) y m) (by grind)
    grind
/-- sums by classes -/
theorem ex_cls (hg : ∀ s, s < G 0 0 → g s < G 0 0) (hy : ∀ s, s < G 0 0 → y s = y (g s)) (m : Nat) : c_ex (G 0 0) (wtR G) y m = sr (G 0 0) (fun c => ((wiG G g m c : Nat) : Rat) * y c) := by
  have e1 : ∀ c, ((wiG G g m c : Nat) : Rat) * y c = sr (G 0 0) (fun t => if g t = c then wtR G m t * y c else 0) := fun c => by
    unfold wiG
    rw [sN_sr, show sr (G 0 0) (fun t => (((if g t = c then G 7 (7 * m + t) else 0 : Nat)) : Rat)) * y c = y c * sr (G 0 0) (fun t => (((if g t = c then G 7 (7 * m + t) else 0 : Nat)) : Rat)) by grind, ← sr_mul]
    refine sr_congr (fun t _ => ?_)
    split
    · show y c * ((G 7 (7 * m + t) : Nat) : Rat) = ((G 7 (7 * m + t) : Nat) : Rat) * y c
      grind
    · show y c * ((0 : Nat) : Rat) = 0
      have : ((0 : Nat) : Rat) = 0 := rfl
      rw [this]; grind
  rw [sr_congr (g := fun c => sr (G 0 0) (fun t => if g t = c then wtR G m t * y c else 0)) (fun c _ => e1 c), sr_swap]
  refine sr_congr (fun t ht => ?_)
  rw [sr_one (i := g t) (f := fun c => if g t = c then wtR G m t * y c else 0) (hg t ht) (fun j _ hj => if_neg (fun e => hj e.symm)), if_pos rfl, ← hy t ht]
theorem ah_like (hW : GW G) {m k : Nat} (hm : m < 21) (hk : k < 21) (hg : ∀ s, s < G 0 0 → g s < G 0 0) (hy : ∀ s, s < G 0 0 → y s = y (g s)) (hl : lkC G g m k) : ahR G aim y m * c_sm (G 0 0) (wtR G) k = ahR G aim y k * c_sm (G 0 0) (wtR G) m := by
  obtain ⟨l1, l2, l3⟩ := hl
  have hex : c_ex (G 0 0) (wtR G) y m * c_sm (G 0 0) (wtR G) k = c_ex (G 0 0) (wtR G) y k * c_sm (G 0 0) (wtR G) m := by
    rw [ex_cls hg hy m, ex_cls hg hy k, sm_eq hW hm, sm_eq hW hk]
    have e1 : ∀ (f : Nat → Rat) (c : Rat), sr (G 0 0) f * c = sr (G 0 0) (fun i => c * f i) := fun f c => by rw [sr_mul]; grind
    rw [e1, e1]
    refine sr_congr (fun c hc => ?_)
    have e2 : ((wiG G g m c * G 6 k : Nat) : Rat) = ((wiG G g k c * G 6 m : Nat) : Rat) := by rw [l3 c hc]
    rw [Rat.natCast_mul, Rat.natCast_mul] at e2
    grind
  have hc : costG G aim m = costG G aim k := by unfold costG; rw [l1, l2]
  unfold ahR
  split
  · exact hex
  · unfold KG
    rw [hc]
    grind
theorem like_vals (hW : GW G) (hw : whole G) (hp : pkOk G p) (hv : cvB G aim (mv p) x) (hA : noRA G aim x) (hst : lowB (G 0 0) (eqL G g) g) (hgood : ∀ s, s < G 0 0 → g s ≤ s ∧ g (g s) = g s) (hlo : ∀ s t, s < G 0 0 → t < G 0 0 → g s = g t → loL G s t) : ∀ s, s < G 0 0 → x s = x (g s) := by
  have hn := hW.1
  have hx0 := gX_nonneg hW hw (mv_pk hp) hv.1
  have hgn : ∀ s, s < G 0 0 → g s < G 0 0 := fun s hs => by have := (hgood s hs).1; omega
  -- a least one of each class
  have hch : ∀ s, ∃ t, s < G 0 0 → t < G 0 0 ∧ g t = g s ∧ ∀ u, u < G 0 0 → g u = g s → x t ≤ x u := fun s => by
    by_cases hs : s < G 0 0
    · obtain ⟨t, h1, h2, h3⟩ := c_maxS (n := G 0 0) (S := fun u => g u = g s) (fun u => -x u) ⟨s, hs, rfl⟩
      exact ⟨t, fun _ => ⟨h1, h2, fun u hu hgu => by have := h3 u hu hgu; grind⟩⟩
    · exact ⟨0, fun h => absurd h hs⟩
  obtain ⟨tm, htm⟩ := Classical.axiomOfChoice hch
  have hyx : ∀ s, s < G 0 0 → x (tm s) ≤ x s := fun s hs => (htm s hs).2.2 s hs rfl
  have hyc : ∀ s t, s < G 0 0 → t < G 0 0 → g s = g t → x (tm s) = x (tm t) := fun s t hs ht he => by
    obtain ⟨a1, a2, a3⟩ := htm s hs
    obtain ⟨b1, b2, b3⟩ := htm t ht
    exact Rat.le_antisymm (a3 (tm t) b1 (b2.trans he.symm)) (b3 (tm s) a1 (a2.trans he))
  have hyg : ∀ s, s < G 0 0 → x (tm s) = x (tm (g s)) := fun s hs => hyc s (g s) hs (hgn s hs) (hgood s hs).2.symm
  have hfo : ∀ s t, s < G 0 0 → t < G 0 0 → g s = g t → foL G g s t := fun s t hs ht he => by
    have e1 : foL G g s (g s) := by
      rcases (hst s hs).2.1 with z | z
      · rw [z]; exact foL_rf s
      · exact z.2.2
    have e2 : foL G g (g t) t := by
      rcases (hst t ht).2.1 with z | z
      · rw [z]; exact foL_rf t
      · exact z.2.1
    rw [← he] at e2
    exact foL_tr hw (hgn s hs) e1 e2
  have m21 : ∀ s c, s < G 0 0 → c < G 3 s → 3 * s + c < 21 := fun s c hs hc => by
    have := (hW.2.1 s (by omega)).2.2.1
    omega
  have pos : ∀ s c, s < G 0 0 → c < G 3 s → 0 < c_sm (G 0 0) (wtR G) (3 * s + c) := fun s c hs hc => (game_ok hW hw s _ hs ⟨c, hc, rfl⟩).2
  -- a like choice promises no more
  have fin : ∀ s c d, s < G 0 0 → c < G 3 s → d < G 3 (tm s) → lkC G g (3 * s + c) (3 * tm s + d) → ¬ stop G aim s → ahR G aim x (3 * tm s + d) ≤ tgR G aim x (tm s) (3 * tm s + d) → ahR G aim (fun u => x (tm u)) (3 * s + c) ≤ tgR G aim (fun u => x (tm u)) s (3 * s + c) := fun s c d hs hc hd hl _ hle => by
    obtain ⟨a1, a2, a3⟩ := htm s hs
    have e1 := ah_like (aim := aim) (y := fun u => x (tm u)) hW (m21 s c hs hc) (m21 (tm s) d a1 hd) hgn hyg hl
    have e2 := ah_mono (aim := aim) (x := x) (y := fun u => x (tm u)) hW (m := 3 * tm s + d) hyx
    have p1 := pos s c hs hc
    have p2 := pos (tm s) d a1 hd
    refine rat_le_of_mul p2 ?_
    have e3 := Rat.mul_nonneg (Rat.le_of_lt p1) (b := tgR G aim x (tm s) (3 * tm s + d) - ahR G aim (fun u => x (tm u)) (3 * tm s + d)) (by grind)
    have e4 : c_sm (G 0 0) (wtR G) (3 * tm s + d) * tgR G aim (fun u => x (tm u)) s (3 * s + c) = c_sm (G 0 0) (wtR G) (3 * s + c) * tgR G aim x (tm s) (3 * tm s + d) := by
      unfold tgR
      split <;> grind
    rw [e4]
    grind
  have hlt : ∀ s, s < G 0 0 → loL G s (tm s) := fun s hs => hlo s (tm s) hs (htm s hs).1 (htm s hs).2.1.symm
  have hstop : ∀ s, s < G 0 0 → (stop G aim s ↔ stop G aim (tm s)) := fun s hs => ⟨fun z => ⟨z.1, (hlt s hs).2.2.mp z.2⟩, fun z => ⟨z.1, (hlt s hs).2.2.mpr z.2⟩⟩
  -- the picks of 'b'
  have hcq : ∀ s, ∃ c, (s < G 0 0 → c < G 3 s) ∧ (s < G 0 0 → gA G s → c = p s) ∧ (s < G 0 0 → ¬ gA G s → lkC G g (3 * tm s + p (tm s)) (3 * s + c)) := fun s => by
    by_cases hs : s < G 0 0
    · by_cases hAs : gA G s
      · exact ⟨p s, fun _ => hp s hs, fun _ _ => rfl, fun _ h => absurd hAs h⟩
      · obtain ⟨a1, a2, a3⟩ := htm s hs
        obtain ⟨d, hd, hl⟩ := hfo (tm s) s a1 hs a2 (p (tm s)) (hp _ a1)
        exact ⟨d, fun _ => hd, fun _ h => absurd h hAs, fun _ _ => hl⟩
    · exact ⟨0, fun h => absurd h hs, fun h => absurd h hs, fun h => absurd h hs⟩
  obtain ⟨q, hq⟩ := Classical.axiomOfChoice hcq
  have hqk : pkOk G q := fun s hs => (hq s).1 hs
  obtain ⟨z, hz⟩ := gX_ex (aim := aim) hW hw (mv_pk hqk)
  have h1 := lstB hW hw hv (mv_pk hqk) (fun s hs hA => by unfold mv; rw [(hq s).2.1 hs hA]) hz
  have h2 := sup_le (y := fun u => x (tm u)) hW hw hqk (fun s hs hst' => by
    show 1 ≤ x (tm s)
    rw [gX_stop hv.1 (htm s hs).1 ((hstop s hs).mp hst')]; exact Rat.le_refl) (fun s hs hns => by
    obtain ⟨a1, a2, a3⟩ := htm s hs
    have hns' : ¬ stop G aim (tm s) := fun y => hns ((hstop s hs).mpr y)
    have hlo1 := hlt s hs
    by_cases hAs : gA G s
    · have hAt : gA G (tm s) := by have h9 : G 1 s = 1 := hAs; show G 1 (tm s) = 1; rw [← hlo1.1]; exact h9
      obtain ⟨d, hd, hl⟩ := hfo s (tm s) hs a1 a2.symm (q s) ((hq s).1 hs)
      exact fin s (q s) d hs ((hq s).1 hs) hd hl hns (hA (tm s) _ a1 hAt hns' ⟨d, hd, rfl⟩)
    · have hl := (hq s).2.2 hs hAs
      have hl' : lkC G g (3 * s + q s) (3 * tm s + p (tm s)) := ⟨hl.1.symm, hl.2.1.symm, fun c hc => (hl.2.2 c hc).symm⟩
      exact fin s (q s) (p (tm s)) hs ((hq s).1 hs) (hp _ a1) hl' hns (by
        have := gX_ah hv.1 a1 hns'
        unfold mv at this
        rw [this]; exact Rat.le_refl)) (fun s hs => hx0 _ (htm s hs).1) hz
  have h3 : ∀ s, s < G 0 0 → x s = x (tm s) := fun s hs => Rat.le_antisymm (Rat.le_trans (h1 s hs) (h2 s hs)) (hyx s hs)
  intro s hs
  rw [h3 s hs, h3 (g s) (hgn s hs)]
  exact hyg s hs
end LV
