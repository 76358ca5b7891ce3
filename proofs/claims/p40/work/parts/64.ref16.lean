/-! THE REFERENCE: what changes the game, on -/
/-- a choice more -/
def gAddC (G : Gm) (s a b : Nat) : Gm := gU (gU (gU G 4 (3 * s + G 3 s) a) 5 (3 * s + G 3 s) b) 3 s (G 3 s + 1)
theorem GW_addC {G : Gm} {s a b : Nat} (hW : GW G) (hs : s < 7) (hc : G 3 s ≠ 3) (ha : a ≤ 9) (hb : b ≤ 9) : GW (gAddC G s a b) := by
  obtain ⟨h1, h2, h3, h4⟩ := hW
  refine ⟨h1, fun t ht => ?_, fun m hm => ?_, h4⟩
  · obtain ⟨a1, a2, a3, a4, a5, a6⟩ := h2 t ht
    refine ⟨a1, a2, ?_, a4, a5, ?_⟩
    · show (if t = s then G 3 s + 1 else G 3 t) ≤ 3
      split
      · have := (h2 s hs).2.2.1; omega
      · exact a3
    · show G 10 t = 0 ∨ G 10 t < (if t = s then G 3 s + 1 else G 3 t)
      split
      · rename_i e
        subst e
        omega
      · exact a6
  · obtain ⟨a1, a2, a3, a4, a5⟩ := h3 m hm
    refine ⟨?_, ?_, a3, a4, a5⟩
    · show (if m = 3 * s + G 3 s then a else G 4 m) ≤ 9
      split <;> omega
    · show (if m = 3 * s + G 3 s then b else G 5 m) ≤ 9
      split <;> omega
/-- weight more -/
def gAddW (G : Gm) (m t w : Nat) : Gm := gU (gU G 7 (7 * m + t) (G 7 (7 * m + t) + w)) 6 m (G 6 m + w)
theorem GW_addW {G : Gm} {m t w : Nat} (hW : GW G) (hm : m < 21) (ht : t < G 0 0) (hw : G 6 m + w ≤ 6) : GW (gAddW G m t w) := by
  obtain ⟨h1, h2, h3, h4⟩ := hW
  refine ⟨h1, h2, fun m' hm' => ?_, h4⟩
  obtain ⟨a1, a2, a3, a4, a5⟩ := h3 m' hm'
  refine ⟨a1, a2, ?_, ?_, fun u hu h => ?_⟩
  · show (if m' = m then G 6 m + w else G 6 m') ≤ 6
    split <;> omega
  · show (if m' = m then G 6 m + w else G 6 m') = sN (G 0 0) (fun u => if 7 * m' + u = 7 * m + t then G 7 (7 * m + t) + w else G 7 (7 * m' + u))
    by_cases e : m' = m
    · subst e
      rw [if_pos rfl, a4]
      refine (sN_add (j := t) (G 0 0) ht ?_ (fun i hi => ?_)).symm
      · rw [if_pos rfl]
      · rw [if_neg (by omega)]
    · rw [if_neg e, a4]
      exact sN_congr _ (fun i hi => by rw [if_neg (by omega)])
  · have h' : G 0 0 ≤ u := h
    show (if 7 * m' + u = 7 * m + t then G 7 (7 * m + t) + w else G 7 (7 * m' + u)) = 0
    rw [if_neg (by omega)]
    exact a5 u hu h
