/-! VALUES: strategies that can't be made better are best -/
section VA
variable {n : Nat} {wt : Nat → Nat → Rat} {adm : Nat → Nat → Prop} {isA T : Nat → Prop} {p q r : Nat → Nat} {v w x : Nat → Rat}
/-- every move of every state has weights -/
def g_ok (n : Nat) (wt : Nat → Nat → Rat) (adm : Nat → Nat → Prop) : Prop := ∀ s m, s < n → adm s m → (∀ t, t < n → 0 ≤ wt m t) ∧ 0 < c_sm n wt m
def g_pk (n : Nat) (adm : Nat → Nat → Prop) (p : Nat → Nat) : Prop := ∀ s, s < n → adm s (p s)
theorem g_pk.ok (h : g_ok n wt adm) (hp : g_pk n adm p) : c_ok n wt p := fun s hs => h s (p s) hs (hp s hs)
/-- alike at the states of a player -/
def g_ag (n : Nat) (P : Nat → Prop) (p q : Nat → Nat) : Prop := ∀ s, s < n → P s → q s = p s
/-- no move is better for 'a', or for 'b' -/
def noA (n : Nat) (wt : Nat → Nat → Rat) (adm : Nat → Nat → Prop) (isA T : Nat → Prop) (v : Nat → Rat) : Prop := ∀ s m, s < n → isA s → ¬ T s → adm s m → c_ex n wt v m ≤ c_sm n wt m * v s
def noB (n : Nat) (wt : Nat → Nat → Rat) (adm : Nat → Nat → Prop) (isA T : Nat → Prop) (v : Nat → Rat) : Prop := ∀ s m, s < n → ¬ isA s → ¬ T s → adm s m → c_sm n wt m * v s ≤ c_ex n wt v m
/-- where 'b' can stay away against the pick of 'a', v is 0 -/
def away (n : Nat) (wt : Nat → Nat → Rat) (adm : Nat → Nat → Prop) (isA T : Nat → Prop) (p : Nat → Nat) (v : Nat → Rat) : Prop := ∀ q, g_pk n adm q → g_ag n isA p q → ∀ s, s < n → ¬ c_can n wt q T s → v s ≤ 0
theorem bestB (hg : g_ok n wt adm) (hv : SolR n wt p T v) (hB : noB n wt adm isA T v) (ha : away n wt adm isA T p v) (hq : g_pk n adm q) (hag : g_ag n isA p q) (hx : SolR n wt q T x) : ∀ s, s < n → v s ≤ x s := by
  refine cmpR_le (hq.ok hg) hx (fun s hs hT => by rw [hv.1 s hs hT]; exact Rat.le_refl) (fun s hs hT => ?_) (fun s hs hc => ha q hq hag s hs hc)
  by_cases c : isA s
  · rw [hag s hs c, hv.2.1 s hs hT]; exact Rat.le_refl
  · exact hB s (q s) hs c hT (hq s hs)
theorem bestA (hg : g_ok n wt adm) (hp : g_pk n adm p) (hv : SolR n wt p T v) (hA : noA n wt adm isA T v) (hq : g_pk n adm q) (hag : g_ag n (fun s => ¬ isA s) p q) (hx : SolR n wt q T x) : ∀ s, s < n → x s ≤ v s := by
  refine cmpR_ge (hq.ok hg) hx (fun s hs hT => by rw [hv.1 s hs hT]; exact Rat.le_refl) (fun s hs hT => ?_) (solR_nonneg (hp.ok hg) hv)
  by_cases c : isA s
  · exact hA s (q s) hs c hT (hq s hs)
  · rw [hag s hs c, hv.2.1 s hs hT]; exact Rat.le_refl
/-- q is p, changed at some states to what is better for 'b' -/
def impB (n : Nat) (wt : Nat → Nat → Rat) (isA T : Nat → Prop) (v : Nat → Rat) (p q : Nat → Nat) : Prop := ∀ s, s < n → q s = p s ∨ (¬ isA s ∧ ¬ T s ∧ c_ex n wt v (q s) < c_sm n wt (q s) * v s)
def impA (n : Nat) (wt : Nat → Nat → Rat) (isA T : Nat → Prop) (v : Nat → Rat) (p q : Nat → Nat) : Prop := ∀ s, s < n → q s = p s ∨ (isA s ∧ ¬ T s ∧ c_sm n wt (q s) * v s < c_ex n wt v (q s))
theorem rat_lt_of {a b c d : Rat} (h1 : a ≤ b) (h2 : b < c) (h3 : c ≤ d) : a < d := by grind
theorem betterB (hg : g_ok n wt adm) (hp : g_pk n adm p) (hq : g_pk n adm q) (hv : SolR n wt p T v) (hi : impB n wt isA T v p q) (hx : SolR n wt q T x) : (∀ s, s < n → x s ≤ v s) ∧ ∀ s, s < n → q s ≠ p s → x s < v s := by
  have h1 : ∀ s, s < n → x s ≤ v s := by
    refine cmpR_ge (hq.ok hg) hx (fun s hs hT => by rw [hv.1 s hs hT]; exact Rat.le_refl) (fun s hs hT => ?_) (solR_nonneg (hp.ok hg) hv)
    rcases hi s hs with h | h
    · rw [h, hv.2.1 s hs hT]; exact Rat.le_refl
    · exact Rat.le_of_lt h.2.2
  refine ⟨h1, fun s hs hne => ?_⟩
  rcases hi s hs with h | h
  · exact absurd h hne
  · have e1 := hx.2.1 s hs h.2.1
    have e2 := c_ex_le (x := x) (y := v) (hq.ok hg s hs).1 h1
    have e3 := (hq.ok hg s hs).2
    by_cases c : x s < v s
    · exact c
    · have := Rat.mul_nonneg (Rat.le_of_lt e3) (b := x s - v s) (by grind)
      grind
/-- where v > 0 and no target can be come to, no move was made better, and nothing is left -/
theorem impA_stuck (hg : g_ok n wt adm) (hq : g_pk n adm q) (hr : g_pk n adm r) (hv : SolR n wt p T v) (hi : impA n wt isA T v p q) (hag : g_ag n isA q r) (hB : ∀ s, s < n → ¬ isA s → ¬ T s → c_sm n wt (r s) * v s ≤ c_ex n wt v (r s)) : ∀ s, s < n → ¬ c_can n wt r T s → 0 < v s → ∃ S : Nat → Prop, (∃ u, u < n ∧ S u ∧ 0 < v u) ∧ (∀ u, S u → u < n) ∧ c_cl n wt r S ∧ (∀ u, S u → ¬ T u) ∧ ∀ u, S u → isA u → r u = p u := by
  classical
  intro s hs hc hpos
  -- the greatest v among those that can't come to T
  obtain ⟨m, hm, hmax⟩ := c_max (show 0 < n by omega) (fun u => if c_can n wt r T u then -1 else v u)
  have hsm := hmax s hs
  simp only [if_neg hc] at hsm
  have hmc : ¬ c_can n wt r T m := fun z => by rw [if_pos z] at hsm; grind
  rw [if_neg hmc] at hsm hmax
  have hle : ∀ u, u < n → ¬ c_can n wt r T u → v u ≤ v m := fun u hu hz => by have := hmax u hu; rw [if_neg hz] at this; exact this
  have hsucc : ∀ u, u < n → ¬ c_can n wt r T u → ∀ t, t < n → wt (r u) t ≠ 0 → ¬ c_can n wt r T t := fun u hu hz t ht hw hct => hz (c_can_of_step hu ht hw hct)
  -- what comes next is no less
  have hge : ∀ u, u < n → ¬ T u → c_sm n wt (r u) * v u ≤ c_ex n wt v (r u) := by
    intro u hu hT
    by_cases c : isA u
    · rw [hag u hu c]
      rcases hi u hu with h | h
      · rw [h, hv.2.1 u hu hT]; exact Rat.le_refl
      · exact Rat.le_of_lt h.2.2
    · exact hB u hu c hT
  -- sums over what can come next alone
  have hex : ∀ u, u < n → ¬ c_can n wt r T u → c_ex n wt v (r u) = c_ex n wt (fun t => if c_can n wt r T t then v m else v t) (r u) := fun u hu hz => sr_congr (fun t ht => by
    by_cases c : c_can n wt r T t
    · have : wt (r u) t = 0 := Classical.byContradiction fun hw => hsucc u hu hz t ht hw c
      rw [this]; grind
    · dsimp only; rw [if_neg c])
  refine ⟨fun u => u < n ∧ ¬ c_can n wt r T u ∧ v u = v m, ⟨m, hm, ⟨hm, hmc, rfl⟩, by grind⟩, fun u h => h.1, fun u hu hS t ht hw => ?_, fun u hS hT => hS.2.1 (c_can_T hS.1 hT), fun u hS hA => ?_⟩
  · have hz := hsucc u hu hS.2.1 t ht hw
    refine ⟨ht, hz, ?_⟩
    have h1 := c_maxp (n := n) (wt := wt) (y := fun t => if c_can n wt r T t then v m else v t) (M := v m) (s := u) (m := r u) (hr.ok hg u hu).1 (fun t ht => by
      split
      · exact Rat.le_refl
      · rename_i c; exact hle t ht c) (by rw [if_neg hS.2.1]; exact hS.2.2) (by
      rw [← hex u hu hS.2.1, if_neg hS.2.1]
      exact hge u hu (fun hT => hS.2.1 (c_can_T hu hT))) t ht hw
    rw [if_neg hz] at h1
    exact h1
  · rw [hag u hS.1 hA]
    rcases hi u hS.1 with h | h
    · exact h
    · exfalso
      have e1 : c_ex n wt v (r u) ≤ v m * c_sm n wt (r u) := by
        rw [hex u hS.1 hS.2.1, ← c_ex_const]
        refine c_ex_le (hr.ok hg u hS.1).1 (fun t ht => ?_)
        split
        · exact Rat.le_refl
        · rename_i c; exact hle t ht c
      have e2 := h.2.2
      rw [← hag u hS.1 hA, hS.2.2] at e2
      grind
theorem betterA (hg : g_ok n wt adm) (hp : g_pk n adm p) (hq : g_pk n adm q) (hr : g_pk n adm r) (hv : SolR n wt p T v) (hB : noB n wt adm isA T v) (ha : away n wt adm isA T p v) (hi : impA n wt isA T v p q) (hag : g_ag n isA q r) (hx : SolR n wt r T x) : (∀ s, s < n → v s ≤ x s) ∧ ∀ s, s < n → q s ≠ p s → v s < x s := by
  classical
  have hBr : ∀ s, s < n → ¬ isA s → ¬ T s → c_sm n wt (r s) * v s ≤ c_ex n wt v (r s) := fun s hs h1 h2 => hB s (r s) hs h1 h2 (hr s hs)
  have hge : ∀ u, u < n → ¬ T u → c_sm n wt (r u) * v u ≤ c_ex n wt v (r u) := by
    intro u hu hT
    by_cases c : isA u
    · rw [hag u hu c]
      rcases hi u hu with h | h
      · rw [h, hv.2.1 u hu hT]; exact Rat.le_refl
      · exact Rat.le_of_lt h.2.2
    · exact hBr u hu c hT
  have h1 : ∀ s, s < n → v s ≤ x s := by
    refine cmpR_le (hr.ok hg) hx (fun s hs hT => by rw [hv.1 s hs hT]; exact Rat.le_refl) hge (fun s hs hc => ?_)
    refine Classical.byContradiction fun hpos => ?_
    obtain ⟨S, ⟨u, hu, hSu, hvu⟩, hSn, hcl, hST, hSA⟩ := impA_stuck hg hq hr hv hi hag hBr s hs hc (by grind)
    have hq2 : g_pk n adm (fun s => if S s then r s else p s) := fun s hs => by
      dsimp only
      split
      · exact hr s hs
      · exact hp s hs
    have h2 := ha (fun s => if S s then r s else p s) hq2 (fun s hs hA => by
      dsimp only
      split
      · rename_i c; exact hSA s c hA
      · rfl) u hu (fun hz => by
      obtain ⟨t, ht, hSt, hTt⟩ := hz S hSu (fun a hA hSa t ht hw => by
        dsimp only at hw
        rw [if_pos hSa] at hw
        exact hcl a hA hSa t ht hw)
      exact hST t hSt hTt)
    grind
  refine ⟨h1, fun s hs hne => ?_⟩
  rcases hi s hs with h | h
  · exact absurd h hne
  · have e0 := hag s hs h.1
    have e1 := hx.2.1 s hs h.2.1
    have e2 := c_ex_le (x := v) (y := x) (hr.ok hg s hs).1 h1
    have e3 := (hr.ok hg s hs).2
    rw [← e0] at h
    by_cases c : v s < x s
    · exact c
    · have := Rat.mul_nonneg (Rat.le_of_lt e3) (b := v s - x s) (by grind)
      grind
/-- the same where 'b' keeps its pick -/
theorem betterA1 (hg : g_ok n wt adm) (hp : g_pk n adm p) (hq : g_pk n adm q) (hv : SolR n wt p T v) (hi : impA n wt isA T v p q) (hx : SolR n wt q T x) : (∀ s, s < n → v s ≤ x s) ∧ ∀ s, s < n → q s ≠ p s → v s < x s := by
  have hBr : ∀ s, s < n → ¬ isA s → ¬ T s → c_sm n wt (q s) * v s ≤ c_ex n wt v (q s) := fun s hs h1 h2 => by
    rcases hi s hs with h | h
    · rw [h, hv.2.1 s hs h2]; exact Rat.le_refl
    · exact absurd h.1 h1
  have hge : ∀ u, u < n → ¬ T u → c_sm n wt (q u) * v u ≤ c_ex n wt v (q u) := by
    intro u hu hT
    rcases hi u hu with h | h
    · rw [h, hv.2.1 u hu hT]; exact Rat.le_refl
    · exact Rat.le_of_lt h.2.2
  have h1 : ∀ s, s < n → v s ≤ x s := by
    refine cmpR_le (hq.ok hg) hx (fun s hs hT => by rw [hv.1 s hs hT]; exact Rat.le_refl) hge (fun s hs hc => ?_)
    refine Classical.byContradiction fun hpos => ?_
    obtain ⟨S, ⟨u, hu, hSu, hvu⟩, hSn, hcl, hST, hSA⟩ := impA_stuck hg hq hq hv hi (fun _ _ _ => rfl) hBr s hs hc (by grind)
    have h2 := hv.2.2 u hu (fun hz => by
      obtain ⟨t, ht, hSt, hTt⟩ := hz S hSu (fun a hA hSa t ht hw => by
        refine hcl a hA hSa t ht ?_
        rcases hi a hA with h | h
        · rw [h]; exact hw
        · rw [hSA a hSa h.1]; exact hw)
      exact hST t hSt hTt)
    grind
  refine ⟨h1, fun s hs hne => ?_⟩
  rcases hi s hs with h | h
  · exact absurd h hne
  · have e1 := hx.2.1 s hs h.2.1
    have e2 := c_ex_le (x := v) (y := x) (hq.ok hg s hs).1 h1
    have e3 := (hq.ok hg s hs).2
    by_cases c : v s < x s
    · exact c
    · have := Rat.mul_nonneg (Rat.le_of_lt e3) (b := v s - x s) (by grind)
      grind
/-- a set that 'b' can keep the chain out of: drawn is what is outside -/
theorem away_of (hv : SolR n wt p T v) {Dr : Nat → Prop} (hD : ∀ C : Nat → Prop, (∀ s, C s → s < n ∧ ¬ T s) → (∀ s, C s → isA s → ∀ t, t < n → wt (p s) t ≠ 0 → C t) → (∀ s, C s → ¬ isA s → ∃ m, adm s m ∧ ∀ t, t < n → wt m t ≠ 0 → C t) → ∀ s, C s → ¬ Dr s) (hz : ∀ s, s < n → ¬ Dr s → v s ≤ 0) : away n wt adm isA T p v := by
  intro q hq hag s hs hc
  refine hz s hs (hD (fun u => u < n ∧ ¬ c_can n wt q T u) (fun u hu => ⟨hu.1, fun hT => hu.2 (c_can_T hu.1 hT)⟩) (fun u hu hA t ht hw => ⟨ht, fun hz => hu.2 (c_can_of_step hu.1 ht (by rw [hag u hu.1 hA]; exact hw) hz)⟩) (fun u hu _ => ⟨q u, hq u hu.1, fun t ht hw => ⟨ht, fun hz => hu.2 (c_can_of_step hu.1 ht hw hz)⟩⟩) s ⟨hs, hc⟩)
end VA
/-! the same for discounted costs -/
section VC
variable {n : Nat} {wt : Nat → Nat → Rat} {adm : Nat → Nat → Prop} {isA : Nat → Prop} {p q r : Nat → Nat} {v w x : Nat → Rat} {dn dd : Rat} {K : Nat → Rat}
def noAc (n : Nat) (wt : Nat → Nat → Rat) (adm : Nat → Nat → Prop) (isA : Nat → Prop) (dn dd : Rat) (K : Nat → Rat) (v : Nat → Rat) : Prop := ∀ s m, s < n → isA s → adm s m → dn * c_ex n wt v m + K m ≤ dd * (c_sm n wt m * v s)
def noBc (n : Nat) (wt : Nat → Nat → Rat) (adm : Nat → Nat → Prop) (isA : Nat → Prop) (dn dd : Rat) (K : Nat → Rat) (v : Nat → Rat) : Prop := ∀ s m, s < n → ¬ isA s → adm s m → dd * (c_sm n wt m * v s) ≤ dn * c_ex n wt v m + K m
theorem bestBc (hg : g_ok n wt adm) (hd : dn < dd) (hd0 : 0 ≤ dn) (hv : SolC n wt p dn dd K v) (hB : noBc n wt adm isA dn dd K v) (hq : g_pk n adm q) (hag : g_ag n isA p q) (hx : SolC n wt q dn dd K x) : ∀ s, s < n → v s ≤ x s := by
  refine cmpC_le (hq.ok hg) hd hx (fun s hs => ?_) hd0
  by_cases c : isA s
  · rw [hag s hs c, hv s hs]; exact Rat.le_refl
  · exact hB s (q s) hs c (hq s hs)
theorem bestAc (hg : g_ok n wt adm) (hd : dn < dd) (hd0 : 0 ≤ dn) (hv : SolC n wt p dn dd K v) (hA : noAc n wt adm isA dn dd K v) (hq : g_pk n adm q) (hag : g_ag n (fun s => ¬ isA s) p q) (hx : SolC n wt q dn dd K x) : ∀ s, s < n → x s ≤ v s := by
  refine cmpC_ge (hq.ok hg) hd hx (fun s hs => ?_) hd0
  by_cases c : isA s
  · exact hA s (q s) hs c (hq s hs)
  · rw [hag s hs c, hv s hs]; exact Rat.le_refl
def impBc (n : Nat) (wt : Nat → Nat → Rat) (isA : Nat → Prop) (dn dd : Rat) (K : Nat → Rat) (v : Nat → Rat) (p q : Nat → Nat) : Prop := ∀ s, s < n → q s = p s ∨ (¬ isA s ∧ dn * c_ex n wt v (q s) + K (q s) < dd * (c_sm n wt (q s) * v s))
def impAc (n : Nat) (wt : Nat → Nat → Rat) (isA : Nat → Prop) (dn dd : Rat) (K : Nat → Rat) (v : Nat → Rat) (p q : Nat → Nat) : Prop := ∀ s, s < n → q s = p s ∨ (isA s ∧ dd * (c_sm n wt (q s) * v s) < dn * c_ex n wt v (q s) + K (q s))
theorem betterBc (hg : g_ok n wt adm) (hd : dn < dd) (hd0 : 0 ≤ dn) (hq : g_pk n adm q) (hv : SolC n wt p dn dd K v) (hi : impBc n wt isA dn dd K v p q) (hx : SolC n wt q dn dd K x) : (∀ s, s < n → x s ≤ v s) ∧ ∀ s, s < n → q s ≠ p s → x s < v s := by
  have h1 : ∀ s, s < n → x s ≤ v s := by
    refine cmpC_ge (hq.ok hg) hd hx (fun s hs => ?_) hd0
    rcases hi s hs with h | h
    · rw [h, hv s hs]; exact Rat.le_refl
    · exact Rat.le_of_lt h.2
  refine ⟨h1, fun s hs hne => ?_⟩
  rcases hi s hs with h | h
  · exact absurd h hne
  · have e1 := hx s hs
    have e2 := c_ex_le (x := x) (y := v) (hq.ok hg s hs).1 h1
    have e3 := (hq.ok hg s hs).2
    have e4 := Rat.mul_nonneg hd0 (b := c_ex n wt v (q s) - c_ex n wt x (q s)) (by grind)
    by_cases c : x s < v s
    · exact c
    · have e5 := Rat.mul_nonneg (Rat.le_of_lt e3) (b := x s - v s) (by grind)
      have e6 := Rat.mul_nonneg (a := dd) (by grind) e5
      grind
theorem betterAc (hg : g_ok n wt adm) (hd : dn < dd) (hd0 : 0 ≤ dn) (hr : g_pk n adm r) (hv : SolC n wt p dn dd K v) (hB : ∀ s, s < n → ¬ isA s → dd * (c_sm n wt (r s) * v s) ≤ dn * c_ex n wt v (r s) + K (r s)) (hi : impAc n wt isA dn dd K v p q) (hag : g_ag n isA q r) (hx : SolC n wt r dn dd K x) : (∀ s, s < n → v s ≤ x s) ∧ ∀ s, s < n → isA s → q s ≠ p s → v s < x s := by
  have hge : ∀ u, u < n → dd * (c_sm n wt (r u) * v u) ≤ dn * c_ex n wt v (r u) + K (r u) := by
    intro u hu
    by_cases c : isA u
    · rw [hag u hu c]
      rcases hi u hu with h | h
      · rw [h, hv u hu]; exact Rat.le_refl
      · exact Rat.le_of_lt h.2
    · exact hB u hu c
  have h1 : ∀ s, s < n → v s ≤ x s := cmpC_le (hr.ok hg) hd hx hge hd0
  refine ⟨h1, fun s hs hA hne => ?_⟩
  rcases hi s hs with h | h
  · exact absurd h hne
  · have e0 := hag s hs hA
    have e1 := hx s hs
    have e2 := c_ex_le (x := v) (y := x) (hr.ok hg s hs).1 h1
    have e3 := (hr.ok hg s hs).2
    rw [← e0] at h
    have e4 := Rat.mul_nonneg hd0 (b := c_ex n wt x (r s) - c_ex n wt v (r s)) (by grind)
    by_cases c : v s < x s
    · exact c
    · have e5 := Rat.mul_nonneg (Rat.le_of_lt e3) (b := v s - x s) (by grind)
      have e6 := Rat.mul_nonneg (a := dd) (by grind) e5
      grind
end VC
/-! values by all strategies -/
section VE
variable {n : Nat} {adm : Nat → Nat → Prop} {isA : Nat → Prop}
/-- X p x: the chain of the pick p gets x -/
def g_val (n : Nat) (adm : Nat → Nat → Prop) (isA : Nat → Prop) (X : (Nat → Nat) → (Nat → Rat) → Prop) (v : Nat → Rat) : Prop := ∃ p, g_pk n adm p ∧ X p v ∧ (∀ q x, g_pk n adm q → g_ag n isA p q → X q x → ∀ s, s < n → v s ≤ x s) ∧ ∀ q x, g_pk n adm q → g_ag n (fun s => ¬ isA s) p q → X q x → ∀ s, s < n → x s ≤ v s
/-- the least that can be had against what p picks for P -/
def g_min (n : Nat) (adm : Nat → Nat → Prop) (P : Nat → Prop) (X : (Nat → Nat) → (Nat → Rat) → Prop) (p : Nat → Nat) (y : Nat → Rat) : Prop := (∀ q x, g_pk n adm q → g_ag n P p q → X q x → ∀ s, s < n → y s ≤ x s) ∧ ∀ s, s < n → ∃ q x, g_pk n adm q ∧ g_ag n P p q ∧ X q x ∧ x s = y s
def g_max (n : Nat) (adm : Nat → Nat → Prop) (P : Nat → Prop) (X : (Nat → Nat) → (Nat → Rat) → Prop) (p : Nat → Nat) (y : Nat → Rat) : Prop := (∀ q x, g_pk n adm q → g_ag n P p q → X q x → ∀ s, s < n → x s ≤ y s) ∧ ∀ s, s < n → ∃ q x, g_pk n adm q ∧ g_ag n P p q ∧ X q x ∧ x s = y s
def g_mm (n : Nat) (adm : Nat → Nat → Prop) (isA : Nat → Prop) (X : (Nat → Nat) → (Nat → Rat) → Prop) (w : Nat → Rat) : Prop := (∀ p y, g_pk n adm p → g_min n adm isA X p y → ∀ s, s < n → y s ≤ w s) ∧ ∀ s, s < n → ∃ p y, g_pk n adm p ∧ g_min n adm isA X p y ∧ y s = w s
theorem g_min_uniq {P : Nat → Prop} {X : (Nat → Nat) → (Nat → Rat) → Prop} {p : Nat → Nat} {y z : Nat → Rat} (hy : g_min n adm P X p y) (hz : g_min n adm P X p z) : ∀ s, s < n → y s = z s := by
  intro s hs
  obtain ⟨q, x, h1, h2, h3, h4⟩ := hy.2 s hs
  obtain ⟨q', x', h1', h2', h3', h4'⟩ := hz.2 s hs
  have e1 := hz.1 q x h1 h2 h3 s hs
  have e2 := hy.1 q' x' h1' h2' h3' s hs
  exact Rat.le_antisymm (by rw [← h4']; exact e2) (by rw [← h4]; exact e1)
theorem g_max_uniq {P : Nat → Prop} {X : (Nat → Nat) → (Nat → Rat) → Prop} {p : Nat → Nat} {y z : Nat → Rat} (hy : g_max n adm P X p y) (hz : g_max n adm P X p z) : ∀ s, s < n → y s = z s := by
  intro s hs
  obtain ⟨q, x, h1, h2, h3, h4⟩ := hy.2 s hs
  obtain ⟨q', x', h1', h2', h3', h4'⟩ := hz.2 s hs
  have e1 := hz.1 q x h1 h2 h3 s hs
  have e2 := hy.1 q' x' h1' h2' h3' s hs
  exact Rat.le_antisymm (by rw [← h4]; exact e1) (by rw [← h4']; exact e2)
theorem g_val_mm {X : (Nat → Nat) → (Nat → Rat) → Prop} {v w : Nat → Rat} (hex : ∀ p, g_pk n adm p → ∃ x, X p x) (hv : g_val n adm isA X v) (hw : g_mm n adm isA X w) : ∀ s, s < n → w s = v s := by
  classical
  obtain ⟨p, h1, h2, h3, h4⟩ := hv
  intro s hs
  refine Rat.le_antisymm ?_ ?_
  · obtain ⟨q, y, k1, k2, k3⟩ := hw.2 s hs
    rw [← k3]
    have hr : g_pk n adm (fun s => if isA s then q s else p s) := fun s hs => by
      dsimp only
      split
      · exact k1 s hs
      · exact h1 s hs
    obtain ⟨x, hx⟩ := hex _ hr
    have e1 := k2.1 _ x hr (fun s hs hA => if_pos hA) hx s hs
    have e2 := h4 _ x hr (fun s hs hA => if_neg hA) hx s hs
    exact Rat.le_trans e1 e2
  · exact hw.1 p v h1 ⟨fun q x k1 k2 k3 => h3 q x k1 k2 k3, fun s hs => ⟨p, v, h1, fun _ _ _ => rfl, h2, rfl⟩⟩ s hs
theorem g_val_uniq {X : (Nat → Nat) → (Nat → Rat) → Prop} {v w : Nat → Rat} (hex : ∀ p, g_pk n adm p → ∃ x, X p x) (hv : g_val n adm isA X v) (hw : g_val n adm isA X w) : ∀ s, s < n → w s = v s := by
  have key : ∀ {v w : Nat → Rat}, g_val n adm isA X v → g_val n adm isA X w → ∀ s, s < n → w s ≤ v s := by
    classical
    intro v w hv hw s hs
    obtain ⟨p, h1, h2, h3, h4⟩ := hv
    obtain ⟨q, k1, k2, k3, k4⟩ := hw
    have hr : g_pk n adm (fun s => if isA s then q s else p s) := fun s hs => by
      dsimp only
      split
      · exact k1 s hs
      · exact h1 s hs
    obtain ⟨x, hx⟩ := hex _ hr
    exact Rat.le_trans (k3 _ x hr (fun s hs hA => if_pos hA) hx s hs) (h4 _ x hr (fun s hs hA => if_neg hA) hx s hs)
  intro s hs
  exact Rat.le_antisymm (key hv hw s hs) (key hw hv s hs)
end VE
/-- more numbers than places -/
theorem pigeon : ∀ (N : Nat) (f : Nat → Nat), (∀ i, i ≤ N → f i < N) → ∃ i j, i < j ∧ j ≤ N ∧ f i = f j := by
  intro N
  induction N with
  | zero => intro f h; have := h 0 (by omega); omega
  | succ N ih =>
    intro f h
    by_cases c : ∃ i, i ≤ N ∧ f i = f (N + 1)
    · obtain ⟨i, h1, h2⟩ := c
      exact ⟨i, N + 1, by omega, by omega, h2⟩
    · have hne : ∀ i, i ≤ N → f i ≠ f (N + 1) := fun i hi he => c ⟨i, hi, he⟩
      obtain ⟨i, j, h1, h2, h3⟩ := ih (fun i => if f i = N then f (N + 1) else f i) (fun i hi => by
        have e1 := h i (by omega)
        have e2 := h (N + 1) (by omega)
        have e3 := hne i hi
        split
        · omega
        · omega)
      refine ⟨i, j, h1, by omega, ?_⟩
      have e1 := hne i (by omega)
      have e2 := hne j (by omega)
      split at h3 <;> split at h3 <;> omega
