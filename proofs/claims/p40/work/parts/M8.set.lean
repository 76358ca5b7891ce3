/-! THE LAW: the game is laid out -/
section SET
variable {L n : Nat} {xs tt ff : Nat → Int32} {σ : cg_S} {G : Gm} {s c : Nat}
theorem CG_0 : CG j_a0 G0 0 := by
  refine ⟨⟨rfl, mk_0 (fun t _ z => z rfl), rfl, rfl, rfl, rfl, rfl⟩, fun s _ => ⟨rfl, rfl, rfl, rfl⟩, fun m hm => ⟨rfl, rfl, rfl, mk_0 (fun t _ z => z rfl), fun t _ => ?_⟩⟩
  show (if 36 + m = 1 then _ else if 36 + m = 31 then _ else fun _ => (0 : Int32)) t = _
  rw [if_neg (by omega), if_neg (by omega)]
  rfl
theorem CK_0 : CK j_a0 G0 0 := fun aim ha => by
  have e : j_a0.1 31 (aimN aim) = -1 := by
    rcases ha with rfl | rfl | rfl | rfl <;> rfl
  refine ⟨Or.inl e, fun z => ?_⟩
  rw [e] at z
  exact absurd z (by decide)
theorem SI_0 : SI j_a0 G0 0 := ⟨CG_0, CK_0, GW_0⟩
/-- states below s have their choices, s has c of them -/
def Bst (G : Gm) (n s c : Nat) : Prop := G 0 0 = n ∧ (∀ t, t < s → 0 < G 3 t ∧ ∀ d, d < G 3 t → 0 < G 6 (3 * t + d)) ∧ G 3 s = c ∧ (∀ d, d < c → 0 < G 6 (3 * s + d)) ∧ (∀ t, s < t → G 3 t = 0) ∧ ∀ m, 3 * s + c ≤ m → G 6 m = 0
theorem aC_3 {x y u : Nat} : gAddC G s x y 3 u = if u = s then G 3 s + 1 else G 3 u := rfl
theorem aC_6 {x y : Nat} : gAddC G s x y 6 = G 6 := rfl
theorem aW_3 {m t w : Nat} : gAddW G m t w 3 = G 3 := rfl
theorem aW_6 {m t w u : Nat} : gAddW G m t w 6 u = if u = m then G 6 m + w else G 6 u := rfl
theorem Bst_add {x y t1 w1 t2 w2 : Nat} (hW : GW G) (hn : n ≤ 5) (hs : s < n) (h : Bst G n s c) (h1 : 1 ≤ w1) : Bst (gAddW (gAddW (gAddC G s x y) (3 * s + c) t1 w1) (3 * s + c) t2 w2) n s (c + 1) := by
  obtain ⟨b1, b2, b3, b4, b5, b6⟩ := h
  have e3 : ∀ u, gAddW (gAddW (gAddC G s x y) (3 * s + c) t1 w1) (3 * s + c) t2 w2 3 u = if u = s then G 3 s + 1 else G 3 u := fun u => rfl
  have e6 : ∀ u, u ≠ 3 * s + c → gAddW (gAddW (gAddC G s x y) (3 * s + c) t1 w1) (3 * s + c) t2 w2 6 u = G 6 u := fun u hu => by
    rw [aW_6, if_neg hu, aW_6, if_neg hu, aC_6]
  have e6' : gAddW (gAddW (gAddC G s x y) (3 * s + c) t1 w1) (3 * s + c) t2 w2 6 (3 * s + c) = G 6 (3 * s + c) + w1 + w2 := by
    rw [aW_6, if_pos rfl, aW_6, if_pos rfl, aC_6]
  refine ⟨b1, fun t ht => ?_, ?_, fun d hd => ?_, fun t ht => ?_, fun m hm => ?_⟩
  · have g3 := (hW.2.1 t (by omega)).2.2.1
    rw [e3, if_neg (by omega)]
    refine ⟨(b2 t ht).1, fun d hd => ?_⟩
    rw [e6 _ (by omega)]
    exact (b2 t ht).2 d hd
  · rw [e3, if_pos rfl, b3]
  · by_cases e : d = c
    · subst e; rw [e6']; omega
    · rw [e6 _ (by omega)]
      exact b4 d (by omega)
  · rw [e3, if_neg (by omega)]; exact b5 t ht
  · rw [e6 _ (by omega)]; exact b6 m (by omega)
theorem Bst_next {N : Nat} (hN : 1 ≤ N) (hN3 : N ≤ 3) (h : Bst G n s N) : Bst G n (s + 1) 0 := by
  obtain ⟨b1, b2, b3, b4, b5, b6⟩ := h
  refine ⟨b1, fun t ht => ?_, b5 _ (by omega), fun d hd => by omega, fun t ht => b5 t (by omega), fun m hm => b6 m (by omega)⟩
  by_cases e : t = s
  · subst e
    rw [b3]
    exact ⟨hN, b4⟩
  · exact b2 t (by omega)
theorem Bst_whole (hn : 0 < n) (h : Bst G n n 0) : whole G := by
  obtain ⟨b1, b2, -⟩ := h
  exact ⟨by omega, fun s hs => b2 s (by omega)⟩
theorem nlt0 {k : Nat} (h : k < 1000) : ¬ i32 k < 0 := by rw [n0, i32_lt (by omega) (by omega)]; omega
theorem st_choices (hL : L ≤ 260) (hn5 : n ≤ 5) (hs : s < n) {N k0 e0 c0 : Nat} {g8 : Nat → Nat} (hN : 1 ≤ N) (hN3 : N ≤ 3) (hk0 : k0 ≤ 1000) (he0 : e0 ≤ 500) (hc0 : c0 ≤ 500) (h : SI σ G c0) (hB : Bst G n s 0) (h8 : G 8 = g8) (kk : ∀ J q e ch τ, SI τ J ch → Bst J n (s + 1) 0 → J 8 = g8 → q ≤ k0 + 24 → e ≤ e0 + 21 → ch ≤ c0 + 9 → L_law_127 n L xs tt ff q (i32 n) 1 (i32 e) (i32 (s + 1)) τ) : L_law_156 n L xs tt ff k0 (i32 n) 1 (i32 e0) (i32 s) (i32 N) 0 σ := by
  refine up2 (α := Nat × Nat × Nat × Gm) (n := N) (fun c b τ => SI τ b.2.2.2 b.2.2.1 ∧ Bst b.2.2.2 n s c ∧ b.2.2.2 8 = g8 ∧ b.1 = k0 + 8 * c ∧ b.2.1 = e0 + 7 * c ∧ b.2.2.1 = c0 + 3 * c) (fun b v τ => L_law_156 n L xs tt ff b.1 (i32 n) 1 (i32 b.2.1) (i32 s) (i32 N) v τ) ?_ ?_ 0 (k0, e0, c0, G) σ (by omega) ⟨h, hB, h8, rfl, rfl, rfl⟩
  · rintro c ⟨q, e, ch, G⟩ τ hc ⟨hτ, hB, h8, hq, he, hch⟩ kk2
    dsimp only at hτ hB h8 hq he hch ⊢
    have hW := hτ.2.2
    have hBB := hB
    obtain ⟨b1, b2, b3, b4, b5, b6⟩ := hB
    obtain ⟨x, hx, ex⟩ := pick_n (L := L) (xs := xs) (k := i32 (e + 1)) (m := 10) (by decide) (by decide)
    obtain ⟨y, hy, ey⟩ := pick_n (L := L) (xs := xs) (k := i32 (e + 2)) (m := 10) (by decide) (by decide)
    obtain ⟨t1, ht1, et1⟩ := pick_n (L := L) (xs := xs) (k := i32 (e + 3)) (m := n) (by omega) (by omega)
    obtain ⟨w1, hw1, ew1⟩ := pick_n (L := L) (xs := xs) (k := i32 (e + 4)) (m := 3) (by decide) (by decide)
    obtain ⟨t2, ht2, et2⟩ := pick_n (L := L) (xs := xs) (k := i32 (e + 5)) (m := n) (by omega) (by omega)
    obtain ⟨w2, hw2, ew2⟩ := pick_n (L := L) (xs := xs) (k := i32 (e + 6)) (m := 3) (by decide) (by decide)
    have z0 : G 6 (3 * s + c) = 0 := b6 _ (Nat.le_refl _)
    refine v_law_156 hL (by omega) ⟨fun z => ?_, fun _ => ?_⟩
    · rw [i32_le (by omega) (by omega)] at z; omega
    rw [show (1 : Int32) = i32 1 from rfl, show (2 : Int32) = i32 2 from rfl, show (3 : Int32) = i32 3 from rfl, show (4 : Int32) = i32 4 from rfl, show (5 : Int32) = i32 5 from rfl, show (6 : Int32) = i32 6 from rfl, show (7 : Int32) = i32 7 from rfl, show (10 : Int32) = i32 10 from rfl]
    simp only [i32_add]
    rw [ex, ey, et1, ew1, et2, ew2]
    simp only [i32_add]
    have nz : ¬ i32 n = 0 := by rw [n0, i32_eq (by omega) (by omega)]; omega
    refine ⟨nlt0 (by omega), nlt0 (by omega), l_addChoice hτ (by omega) (by omega) (by omega) (by omega) (by omega) (fun τ1 h1 => ?_)⟩
    rw [b3]
    refine ⟨fun z => absurd rfl z, fun _ => ⟨nlt0 (by omega), nz, nlt0 (by omega), ?_⟩⟩
    have e3 : gAddC G s x y 3 s = c + 1 := by rw [aC_3, if_pos rfl, b3]
    have e6 : gAddC G s x y 6 (3 * s + c) = 0 := by rw [aC_6]; exact z0
    have e00 : gAddC G s x y 0 0 = n := b1
    refine l_addWeight h1 (by omega) (by omega) (by omega) (by omega) (by omega) (by omega) (by omega) (fun τ2 h2 => ?_)
    rw [e6]
    have f6 : gAddW (gAddC G s x y) (3 * s + c) t1 (1 + w1) 6 (3 * s + c) = 1 + w1 := by rw [aW_6, if_pos rfl, e6]; omega
    have f3 : gAddW (gAddC G s x y) (3 * s + c) t1 (1 + w1) 3 s = c + 1 := e3
    have f00 : gAddW (gAddC G s x y) (3 * s + c) t1 (1 + w1) 0 0 = n := b1
    refine ⟨fun z => ?_, fun _ => ⟨nlt0 (by omega), nz, nlt0 (by omega), ?_⟩⟩
    · rw [n0, i32_le (by omega) (by omega)] at z; omega
    refine l_addWeight h2 (by omega) (by omega) (by omega) (by omega) (by omega) (by omega) (by omega) (fun τ3 h3 => ?_)
    rw [f6]
    refine ⟨fun z => ?_, fun _ => ?_⟩
    · rw [i32_le (by omega) (by omega)] at z; omega
    rintro _ rfl
    rw [show i32 1 &&& i32 1 = 1 from rfl]
    exact kk2 (q + 8, e + 7, ch + 1 + 1 + 1, _) τ3 ⟨h3, Bst_add hW hn5 hs hBB (by omega), h8, by show q + 8 = _; omega, by show e + 7 = _; omega, by show ch + 1 + 1 + 1 = _; omega⟩
  · rintro ⟨q, e, ch, G⟩ τ ⟨hτ, hB, h8, hq, he, hch⟩
    dsimp only at hτ hB h8 hq he hch ⊢
    refine v_law_156 hL (by omega) ⟨fun _ => ?_, fun z => absurd ((i32_le (by omega) (by omega)).mpr (Nat.le_refl _)) z⟩
    rw [i32_s]
    exact kk G q e ch τ hτ (Bst_next hN hN3 hB) h8 (by omega) (by omega) (by omega)
/-- from the first choice on -/
theorem st_rest (hL : L ≤ 260) (hn0 : 0 < n) (hn5 : n ≤ 5) {k0 e0 c0 : Nat} (hk0 : k0 ≤ 300) (he0 : e0 ≤ 100) (hc0 : c0 ≤ 100) (h : SI σ G c0) (hB : Bst G n 0 0) (htt : ∀ s, s < n → tt s = i32 (G 8 s)) : L_law_127 n L xs tt ff k0 (i32 n) 1 (i32 e0) 0 σ := by
  refine up2 (α := Nat × Nat × Nat × Gm) (n := n) (fun s b τ => SI τ b.2.2.2 b.2.2.1 ∧ Bst b.2.2.2 n s 0 ∧ b.2.2.2 8 = G 8 ∧ b.1 ≤ k0 + 24 * s ∧ b.2.1 ≤ e0 + 21 * s ∧ b.2.2.1 ≤ c0 + 9 * s) (fun b v τ => L_law_127 n L xs tt ff b.1 (i32 n) 1 (i32 b.2.1) v τ) ?_ ?_ 0 (k0, e0, c0, G) σ (by omega) ⟨h, hB, rfl, Nat.le_refl _, Nat.le_refl _, Nat.le_refl _⟩
  · rintro s ⟨q, e, ch, J⟩ τ hs ⟨hτ, hB, h8, hq, he, hch⟩ kk2
    dsimp only at hτ hB h8 hq he hch ⊢
    have go : ∀ N : Nat, 1 ≤ N → N ≤ 3 → L_law_156 n L xs tt ff q (i32 n) 1 (i32 e) (i32 s) (i32 N) 0 τ := fun N hN hN3 => st_choices hL hn5 hs hN hN3 (by omega) (by omega) (by omega) hτ hB h8 (fun J' q' e' ch' τ' h1 h2 h3 h4 h5 h6 => kk2 (q', e', ch', J') τ' ⟨h1, h2, h3, by show q' ≤ _; omega, by show e' ≤ _; omega, by show ch' ≤ _; omega⟩)
    refine v_law_127 hL (by omega) ⟨fun z => ?_, fun _ => ⟨fun _ => ?_, fun _ => ?_⟩⟩
    · rw [i32_le (by omega) (by omega)] at z; omega
    · obtain ⟨r, hr, er⟩ := pick_n (L := L) (xs := xs) (k := i32 e) (m := 3) (by decide) (by decide)
      refine v_law_147 hL (by omega) ⟨nlt0 (by omega), by decide, ?_⟩
      rw [show (3 : Int32) = i32 3 from rfl, er, show (1 : Int32) = i32 1 from rfl, i32_add]
      rintro _ rfl
      exact go (1 + r) (by omega) (by omega)
    · obtain ⟨r, hr, er⟩ := pick_n (L := L) (xs := xs) (k := i32 e) (m := 2) (by decide) (by decide)
      refine v_law_147 hL (by omega) ⟨nlt0 (by omega), by decide, ?_⟩
      rw [show (2 : Int32) = i32 2 from rfl, er, show (1 : Int32) = i32 1 from rfl, i32_add]
      rintro _ rfl
      exact go (1 + r) (by omega) (by omega)
  · rintro ⟨q, e, ch, J⟩ τ ⟨hτ, hB, h8, hq, he, hch⟩
    dsimp only at hτ hB h8 hq he hch ⊢
    have hw := Bst_whole hn0 hB
    have e0 : J 0 0 = n := hB.1
    subst e0
    exact law_end hL hτ (by omega) hw hn5 (fun s hs => by rw [htt s hs, h8]) (by omega) _
/-- from the first state on -/
theorem st_all (hL : L ≤ 260) (hn0 : 0 < n) (hn5 : n ≤ 5) : L_law_24 n L xs (fun _ => 0) (fun _ => 0) 200 (i32 n) 1 j_a0 := by
  refine v_law_24 hL (by omega) ?_
  refine up2 (α := Nat × Nat × (Nat → Int32) × Gm) (n := n) (fun s b τ => SI τ b.2.2.2 (2 * s) ∧ b.2.2.2 0 0 = s ∧ (∀ t, b.2.2.2 3 t = 0) ∧ (∀ m, b.2.2.2 6 m = 0) ∧ (∀ t, s ≤ t → b.2.2.2 8 t = 0) ∧ (∀ t, t < s → b.2.2.1 t = i32 (b.2.2.2 8 t)) ∧ b.1 = 200 + 3 * s ∧ b.2.1 = 1 + 3 * s) (fun b v τ => L_law_30 n L xs b.2.2.1 (fun _ => 0) b.1 (i32 n) 1 (i32 b.2.1) v τ) ?_ ?_ 0 (200, 1, fun _ => 0, G0) j_a0 (by omega) ⟨SI_0, rfl, fun _ => rfl, fun _ => rfl, fun _ _ => rfl, fun t ht => absurd ht (Nat.not_lt_zero t), rfl, rfl⟩
  · rintro s ⟨q, e, f, G⟩ τ hs ⟨hτ, h0, h3, h6, h8, hf, hq, he⟩ kk2
    dsimp only at hτ h0 h3 h6 h8 hf hq he ⊢
    -- one state
    have p77 : ∀ (f2 : Nat → Int32) (k ia : Nat) (v : Int32), k ≤ 1 → f2 s = i32 k → (∀ t, t ≠ s → f2 t = f t) → (v = i32 97 ∧ ia = 1 ∨ v = i32 98 ∧ ia = 0) → L_law_77 n L xs f2 (fun _ => 0) q (i32 n) (i32 e) (i32 s) 1 v τ := fun f2 k ia v hk e1 e2 hv => by
      obtain ⟨c, hc, ec⟩ := pick_n (L := L) (xs := xs) (k := i32 (e + 2)) (m := 4) (by decide) (by decide)
      refine v_law_77 hL (by omega) ?_
      rw [show (2 : Int32) = i32 2 from rfl, show (4 : Int32) = i32 4 from rfl, show (3 : Int32) = i32 3 from rfl, i32_add, i32_add, i32_s, ec]
      refine ⟨nlt0 (by omega), l_addState hτ (by omega) (by omega) hv (by omega) (fun τ1 h1 => ?_)⟩
      rw [h0]
      refine ⟨fun z => absurd rfl z, fun _ => ⟨vpi hs (by omega), ?_⟩⟩
      have g00 : gAddS G ia c 0 0 = s + 1 := by show G 0 0 + 1 = s + 1; rw [h0]
      have g8 : gAddS G ia c 8 s = 0 := h8 s (Nat.le_refl _)
      rw [i32_N (by omega)]
      refine l_setTarget h1 (by omega) (by omega) e1 hk g8 (fun τ2 h2 => ⟨fun z => absurd rfl z, fun _ => ?_⟩)
      rintro _ rfl
      rw [and11]
      refine kk2 (q + 3, e + 3, f2, gU (gAddS G ia c) 8 s k) τ2 ⟨?_, g00, h3, h6, fun t ht => ?_, fun t ht => ?_, by show q + 3 = _; omega, by show e + 3 = _; omega⟩
      · have e9 : 2 * (s + 1) = 2 * s + 1 + 1 := by omega
        rw [e9]; exact h2
      · show (if t = s then k else G 8 t) = 0
        rw [if_neg (by omega)]; exact h8 t (by omega)
      · show f2 t = i32 (if t = s then k else G 8 t)
        by_cases et : t = s
        · rw [if_pos et, et]; exact e1
        · rw [if_neg et, e2 t et]; exact hf t (by omega)
    have p55 : ∀ (t2 : Int32) (k : Nat), k ≤ 1 → vp_nar .boolean t2 = i32 k → L_law_55 n L xs f (fun _ => 0) q (i32 n) 1 (i32 e) (i32 s) (i32 s) t2 τ := fun t2 k hk ek => by
      refine v_law_55 hL (by omega) ⟨vpi hs (by omega), ?_⟩
      rintro _ rfl
      rw [i32_N (by omega), ek]
      have u1 : upd f s (i32 k) s = i32 k := by unfold upd; exact if_pos rfl
      have u2 : ∀ t, t ≠ s → upd f s (i32 k) t = f t := fun t ht => by unfold upd; exact if_neg ht
      refine ⟨?_, fun _ => p77 _ k 0 98 hk u1 u2 (Or.inr ⟨rfl, rfl⟩), fun _ => p77 _ k 1 97 hk u1 u2 (Or.inl ⟨rfl, rfl⟩)⟩
      rw [i32_s]; exact nlt0 (by omega)
    refine v_law_30 hL (by omega) ⟨fun z => ?_, fun _ => ⟨nlt0 (by omega), fun _ => p55 0 0 (by decide) (by decide), fun _ => p55 1 1 (by decide) (by decide)⟩⟩
    rw [i32_le (by omega) (by omega)] at z; omega
  · rintro ⟨q, e, f, G⟩ τ ⟨hτ, h0, h3, h6, h8, hf, hq, he⟩
    dsimp only at hτ h0 h3 h6 h8 hf hq he ⊢
    refine v_law_30 hL (by omega) ⟨fun _ => ?_, fun z => absurd ((i32_le (by omega) (by omega)).mpr (Nat.le_refl _)) z⟩
    exact st_rest hL hn0 hn5 (by omega) (by omega) (by omega) hτ ⟨h0, fun t ht => absurd ht (Nat.not_lt_zero t), h3 0, fun d hd => absurd hd (Nat.not_lt_zero d), fun t _ => h3 t, fun m _ => h6 m⟩ hf
end SET
