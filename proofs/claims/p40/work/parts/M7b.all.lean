/-! THE LAW: the picks, all aims -/
section PCK
variable {L : Nat} {xs : Nat → Int32}
theorem i32_divN {x y : Nat} (hx : x < 2147483648) (hy : y < 2147483648) (h0 : y ≠ 0) : i32 x / i32 y = i32 (x / y) := by
  rw [← Int32.toInt_inj]
  have hle := Nat.div_le_self x y
  have e1 : (i32 x / i32 y).toInt = (x : Int).tdiv (y : Int) := by
    rw [Int32.toInt_div_of_ne_left, i32_toInt hx, i32_toInt hy]
    intro hm
    have := congrArg Int32.toInt hm
    rw [i32_toInt hx] at this
    have h9 : Int32.minValue.toInt = -2147483648 := rfl
    omega
  rw [e1, i32_toInt (by omega), ← Int.ofNat_tdiv]
theorem pick_n {k : Int32} {m : Nat} (h0 : 0 < m) (hm : m < 1000000) : ∃ r, r < m ∧ pickw L xs k (i32 m) = i32 r := by
  unfold pickw
  generalize cellv L xs k = c
  obtain ⟨u, hu⟩ : ∃ u : UInt32, u = c.toUInt32 >>> ((1 : Int32).toUInt32 &&& Int32.toUInt32 31) := ⟨_, rfl⟩
  rw [← hu]
  have hlt : u.toNat < 2147483648 := by
    rw [hu, show ((1 : Int32).toUInt32 &&& Int32.toUInt32 31) = 1 from rfl, UInt32.toNat_shiftRight]
    have h1 := UInt32.toNat_lt c.toUInt32
    have e1 : (1 : UInt32).toNat % 32 = 1 := rfl
    rw [e1, Nat.shiftRight_eq_div_pow]
    omega
  have e : u.toInt32 = i32 u.toNat := by
    rw [← Int32.toInt_inj, i32_toInt hlt]
    show u.toBitVec.toInt = _
    have hb : u.toBitVec.toNat = u.toNat := rfl
    rw [BitVec.toInt_eq_toNat_of_lt (by rw [hb]; omega), hb]
  rw [e]
  generalize u.toNat = N at *
  refine ⟨N % m, Nat.mod_lt _ h0, ?_⟩
  have h1 := Nat.div_add_mod N m
  have h2 := Nat.div_mul_le_self N m
  rw [i32_divN hlt (by omega) (by omega), i32_mul, i32_sub h2]
  congr 1
  rw [Nat.mul_comm] at h1
  omega
end PCK
section ALA
variable {G : Gm} {ch L kc : Nat} {xs tt ff : Nat → Int32} {σ : cg_S}
set_option maxRecDepth 100000 in
theorem law_aims (hL : L ≤ 260) (hch : ch < 800) : ∀ r i, i + r = 4 → ∀ (G : Gm) (q : Nat) (τ : cg_S) (ff : Nat → Int32), SI τ G ch → whole G → G 0 0 ≤ 5 → (∀ s, s < G 0 0 → tt s = i32 (G 8 s)) → q + 1130 * r + 1 ≤ 8000 → L_law_332 (G 0 0) L xs tt ff q (i32 (G 0 0)) 1 (i32 i) τ := by
  intro r
  induction r with
  | zero =>
    intro i hi G q τ ff h hw hn5 htt hq
    exact v_law_332 hL (by omega) ⟨fun _ => rfl, fun z => absurd (by rw [show i = 4 by omega]; decide) z⟩
  | succ r ih =>
    intro i hi G q τ ff h hw hn5 htt hq
    have hi4 : i < 4 := by omega
    have hk : q + 1130 ≤ 8000 := by omega
    refine law_aim (G := G) (i := i) (kc := q) hL hi4 h hch hw hn5 htt hk (fun J q' τ' ff' h1 h2 h3 h4 h5 => ?_)
    have := ih (i + 1) (by omega) J q' τ' ff' h1 h2 (by omega) (fun s hs => by rw [h4]; exact htt s (by omega)) (by omega)
    rw [h3] at this
    exact this
/-- all states have their choices -/
theorem law_end (hL : L ≤ 260) (h : SI σ G ch) (hch : ch < 800) (hw : whole G) (hn5 : G 0 0 ≤ 5) (htt : ∀ s, s < G 0 0 → tt s = i32 (G 8 s)) (hkc : kc + 5700 ≤ 8000) (v5 : Int32) : L_law_127 (G 0 0) L xs tt ff kc (i32 (G 0 0)) 1 v5 (i32 (G 0 0)) σ := by
  have hn := h.2.2.1
  refine v_law_127 hL (by omega) ⟨fun _ => ?_, fun z => absurd ((i32_le (by omega) (by omega)).mpr (Nat.le_refl _)) z⟩
  refine l_isWhole h hw ⟨fun z => absurd z (by decide), fun _ => l_isConsistent h hw (fun τ1 h1 => ⟨fun z => absurd z (by decide), fun _ => ?_⟩)⟩
  refine l_isRefused h1 hw hn5 (fun τ2 h2 => ⟨fun z => absurd z (by decide), fun _ => ?_⟩)
  refine l_areClasses h2 hw hn5 (fun τ3 h3 => ⟨fun z => absurd z (by decide), fun _ => ?_⟩)
  refine l_areBounds h3 hw hn5 htt (fun τ4 h4 => ⟨fun z => absurd z (by decide), fun _ => ?_⟩)
  rintro _ rfl
  rw [and11]
  exact law_aims hL hch 4 0 rfl G _ τ4 ff h4 hw hn5 htt (by omega)
end ALA
