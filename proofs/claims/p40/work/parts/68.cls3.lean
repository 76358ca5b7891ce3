/-! THE CLASS: what it needs -/
section CN
variable {a : cg_S} {G : Gm} {ch : Nat}
theorem c_hasState {v : Int32} {Q : Int32 → cg_S → Prop} (hC : CG a G ch) (hn : G 0 0 ≤ 7) (hy : ∀ s, s < G 0 0 → v = i32 s → Q 1 a) (hno : (∀ s, s < G 0 0 → v ≠ i32 s) → Q 0 a) : M_X2_hasState v a Q := by
  refine v_X2_hasState ?_
  rw [hC.1.1]
  refine ⟨fun z => hno (fun s hs e => rg_lo (a := 0) (by omega) z s (Nat.zero_le _) (by omega) e), fun z => ⟨fun z2 => hno (fun s hs e => ?_), fun z2 => ?_⟩⟩
  · rw [e, i32_le (by omega) (by omega)] at z2; omega
  · rw [Int32.le_iff_toInt_le, i32_toInt (by omega)] at z2
    rw [Int32.lt_iff_toInt_lt] at z
    have z0 : (0 : Int32).toInt = 0 := rfl
    rw [z0] at z
    exact hy v.toInt.toNat (by omega) (i32_nat (by omega))
theorem c_needState {v : Int32} {Q : cg_S → Prop} {X : String → cg_S → Prop} (hC : CG a G ch) (hn : G 0 0 ≤ 7) (hy : ∀ s, s < G 0 0 → v = i32 s → Q a) (hno : (∀ s, s < G 0 0 → v ≠ i32 s) → X "java/lang/IndexOutOfBoundsException" a) : M_X11_needState v a Q X :=
  v_X11_needState (c_hasState hC hn (fun s hs e => ⟨fun _ => hy s hs e, fun z => absurd z (by decide)⟩) (fun h => ⟨fun z => absurd rfl z, fun _ => hno h⟩))
theorem c_needChoice {v1 v2 : Int32} {Q : cg_S → Prop} {X : String → cg_S → Prop} (hC : CG a G ch) (hW : GW G) (hy : ∀ s c, s < G 0 0 → v1 = i32 s → c < G 3 s → v2 = i32 c → Q a) (hno : (∀ s c, s < G 0 0 → v1 = i32 s → c < G 3 s → v2 ≠ i32 c) → X "java/lang/IndexOutOfBoundsException" a) : M_X11_needChoice v1 v2 a Q X := by
  have hn := hW.1
  have no : (∀ s c, s < G 0 0 → v1 = i32 s → c < G 3 s → v2 ≠ i32 c) → (¬ (0 : Int32) = 0 → Q a) ∧ ((0 : Int32) = 0 → X "java/lang/IndexOutOfBoundsException" a) := fun h => ⟨fun z => absurd rfl z, fun _ => hno h⟩
  refine v_X11_needChoice (v_X2_hasChoice (c_hasState hC hn (fun s hs e => ⟨fun z => absurd z (by decide), fun _ => ⟨fun z => no (fun s' c _ _ hc e2 => ?_), fun z => ?_⟩⟩) (fun h => ⟨fun _ => no (fun s c hs e _ => absurd e (h s hs)), fun z => absurd rfl z⟩)))
  · have := (hW.2.1 s' (by omega)).2.2.1
    exact rg_lo (a := 0) (by omega) z c (Nat.zero_le _) (by omega) e2
  · have g3 := (hW.2.1 s (by omega)).2.2.1
    refine ⟨by rw [e]; exact vpi (by omega) (by omega), ?_⟩
    rw [e, i32_N (by omega), (hC.2.1 s (by omega)).2.2.1]
    refine ⟨fun z2 => no (fun s' c hs' e' hc e2 => ?_), fun z2 => ?_⟩
    · rw [e2, i32_le (by omega) (by have := (hW.2.1 s' (by omega)).2.2.1; omega)] at z2
      rw [e, i32_eq (by omega) (by omega)] at e'
      subst e'
      omega
    · rw [Int32.le_iff_toInt_le, i32_toInt (by omega)] at z2
      rw [Int32.lt_iff_toInt_lt] at z
      have z0 : (0 : Int32).toInt = 0 := rfl
      rw [z0] at z
      exact ⟨fun _ => hy s v2.toInt.toNat hs e (by omega) (i32_nat (by omega)), fun y => absurd y (by decide)⟩
theorem c_moveOf {s c : Nat} {Q : Int32 → cg_S → Prop} (h : Q (i32 (3 * s + c)) a) : M_X2_moveOf (i32 s) (i32 c) a Q := by
  refine v_X2_moveOf ?_
  rw [n3, i32_mul, i32_add, Nat.mul_comm s 3]
  exact h
theorem c_isReady {Q : Int32 → cg_S → Prop} (hC : CG a G ch) (hW : GW G) (hy : whole G → Q 1 a) (hno : ¬ whole G → Q 0 a) : M_X2_isReady a Q := by
  have hn := hW.1
  refine v_X2_isReady ?_
  refine up (n := G 0 0) (fun s τ => τ = a ∧ ∀ t, t < s → 0 < G 3 t ∧ ∀ c, c < G 3 t → 0 < G 6 (3 * t + c)) (fun w τ => L_X2_isReady_2 w τ Q) ?_ ?_ 0 a (by omega) ⟨rfl, fun t ht => by omega⟩
  · rintro s τ hs ⟨rfl, hP⟩ kk
    have g3 := (hW.2.1 s (by omega)).2.2.1
    refine v_X2_isReady_2 ?_
    rw [hC.1.1]
    simp (disch := omega) only [n0, n1, n2, n3, n4, n5, n6, n7, n8, n9, n49, n97, n98, n114, n102, n115, n119, n109, n112, i32_add, i32_mul, i32_N, i32_le, i32_lt, i32_eq, vpi_iff]
    rw [(hC.2.1 s (by omega)).2.2.1]
    simp (disch := omega) only [n0, n1, n2, n3, n4, n5, n6, n7, n8, n9, n49, n97, n98, n114, n102, n115, n119, n109, n112, i32_add, i32_mul, i32_N, i32_le, i32_lt, i32_eq, vpi_iff]
    refine ⟨fun z => by omega, fun _ => ⟨by omega, fun z => ?_, fun z => hno (fun y => ?_)⟩⟩
    · refine up (n := G 3 s) (fun c υ => υ = τ ∧ ∀ d, d < c → 0 < G 6 (3 * s + d)) (fun w υ => L_X2_isReady_23 (i32 s) w υ Q) ?_ ?_ 0 τ (by omega) ⟨rfl, fun t ht => by omega⟩
      · rintro c υ hc ⟨rfl, hD⟩ kk2
        have g6 := (hW.2.2.1 (3 * s + c) (by omega)).2.2.1
        refine v_X2_isReady_23 ?_
        simp (disch := omega) only [n0, n1, n2, n3, n4, n5, n6, n7, n8, n9, n49, n97, n98, n114, n102, n115, n119, n109, n112, i32_add, i32_mul, i32_N, i32_le, i32_lt, i32_eq, vpi_iff]
        rw [(hC.2.1 s (by omega)).2.2.1]
        refine ⟨by omega, fun y => ?_, fun _ => c_moveOf ?_⟩
        · rw [i32_le (by omega) (by omega)] at y; omega
        · rw [i32_N (by omega), (hC.2.2 (3 * s + c) (by omega)).2.2.1]
          refine ⟨vpi (by omega) (by omega), fun y => ?_, fun y => hno (fun u => ?_)⟩
          · rw [i32_eq (by omega) (by omega)] at y
            have := kk2 υ ⟨rfl, fun d hd => ?_⟩
            · exact this
            · by_cases e : d = c
              · subst e; omega
              · exact hD d (by omega)
          · rw [i32_eq (by omega) (by omega)] at y
            have := (u.2 s hs).2 c hc
            omega
      · rintro υ ⟨rfl, hD⟩
        refine v_X2_isReady_23 ?_
        simp (disch := omega) only [n0, n1, n2, n3, n4, n5, n6, n7, n8, n9, n49, n97, n98, n114, n102, n115, n119, n109, n112, i32_add, i32_mul, i32_N, i32_le, i32_lt, i32_eq, vpi_iff]
        rw [(hC.2.1 s (by omega)).2.2.1]
        refine ⟨by omega, fun _ => kk _ ⟨rfl, fun t ht => ?_⟩, fun y => absurd ((i32_le (by omega) (by omega)).mpr (Nat.le_refl _)) y⟩
        by_cases e : t = s
        · subst e; exact ⟨by omega, hD⟩
        · exact hP t (by omega)
    · have := (y.2 s hs).1
      omega
  · rintro τ ⟨rfl, hP⟩
    refine v_X2_isReady_2 ?_
    rw [hC.1.1]
    refine ⟨fun _ => ?_, fun z => absurd ((i32_le (by omega) (by omega)).mpr (Nat.le_refl _)) z⟩
    simp (disch := omega) only [n0, n1, n2, n3, n4, n5, n6, n7, n8, n9, n49, n97, n98, n114, n102, n115, n119, n109, n112, i32_add, i32_mul, i32_N, i32_le, i32_lt, i32_eq, vpi_iff]
    exact ⟨fun z => hno (fun y => by have := y.1; omega), fun z => hy ⟨by omega, hP⟩⟩
theorem c_needWhole {Q : cg_S → Prop} {X : String → cg_S → Prop} (hC : CG a G ch) (hW : GW G) (hy : whole G → Q a) (hno : ¬ whole G → X "java/lang/IllegalStateException" a) : M_X11_needWhole a Q X :=
  v_X11_needWhole (c_isReady hC hW (fun h => ⟨fun _ => hy h, fun z => absurd z (by decide)⟩) (fun h => ⟨fun z => absurd rfl z, fun _ => hno h⟩))
theorem c_needAim {v : Int32} {Q : cg_S → Prop} {X : String → cg_S → Prop} (hy : ∀ aim, okA aim → v = i32 aim → Q a) (hno : (∀ aim, okA aim → v ≠ i32 aim) → X "java/lang/IllegalArgumentException" a) : M_X11_needAim v a Q X := by
  refine v_X11_needAim ⟨fun z => hy 114 (Or.inl rfl) z, fun z1 => ⟨fun z => hy 102 (Or.inr (Or.inl rfl)) z, fun z2 => ⟨fun z => hy 115 (Or.inr (Or.inr (Or.inl rfl))) z, fun z3 => ⟨fun z => hy 119 (Or.inr (Or.inr (Or.inr rfl))) z, fun z4 => hno (fun aim ha e => ?_)⟩⟩⟩⟩
  rcases ha with rfl | rfl | rfl | rfl
  · exact z1 e
  · exact z2 e
  · exact z3 e
  · exact z4 e
end CN
/-! THE CLASS: lowest terms -/
theorem c_div9 {σ : cg_S} {Q : Int64 → cg_S → Prop} : ∀ (k x y c : Nat), y ≤ x → x * y < 2 ^ k → (x : Int) < 9223372036854775808 → c + k < 200 → Q (i64 (Nat.gcd x y : Nat)) σ → L_X11_commonDivisor_9 (i64 x) (i64 y) (i32 c) σ Q := by
  intro k
  induction k with
  | zero =>
    intro x y c hyx hk hx hc hQ
    have hy : y = 0 := by
      rcases Nat.eq_zero_or_pos y with z | z
      · exact z
      · have := Nat.mul_pos (show 0 < x by omega) z
        omega
    subst hy
    rw [Nat.gcd_zero_right] at hQ
    refine v_X11_commonDivisor_9 ⟨fun _ => hQ, fun _ => ⟨fun _ => hQ, fun z => absurd rfl z⟩⟩
  | succ k ih =>
    intro x y c hyx hk hx hc hQ
    refine v_X11_commonDivisor_9 ⟨fun z => ?_, fun _ => ⟨fun z => ?_, fun z => ⟨z, ?_⟩⟩⟩
    · rw [show (200 : Int32) = i32 200 from rfl, i32_le (by omega) (by omega)] at z; omega
    · rw [l0, i64_eq (by omega) (by omega)] at z
      have : y = 0 := by omega
      subst this
      rw [Nat.gcd_zero_right] at hQ
      exact hQ
    · rw [l0, i64_eq (by omega) (by omega)] at z
      have hy0 : y ≠ 0 := by omega
      rintro _ rfl
      rw [i64_emod hx (by omega) hy0, i32_s]
      have hlt : x % y < y := Nat.mod_lt _ (by omega)
      refine ih y (x % y) (c + 1) (by omega) ?_ (by omega) (by omega) ?_
      · have h1 := Nat.div_add_mod x y
        have h2 : 1 ≤ x / y := Nat.div_pos hyx (by omega)
        have h3 := Nat.mul_le_mul_left y h2
        have h4 : 2 * (x % y) ≤ x := by omega
        have h5 := Nat.mul_le_mul_right y h4
        have h6 : 2 * (x % y) * y = 2 * (y * (x % y)) := by grind
        rw [Nat.pow_succ] at hk
        omega
      · rw [Nat.gcd_comm x y, Nat.gcd_rec y x, Nat.gcd_comm] at hQ
        exact hQ
theorem c_div {u d : Nat} {σ : cg_S} {Q : Int64 → cg_S → Prop} (hu : (u : Int) < 9223372036854775808) (hd : (d : Int) < 9223372036854775808) (h : Q (i64 (Nat.gcd u d : Nat)) σ) : M_X11_commonDivisor (i64 u) (i64 d) σ Q := by
  refine v_X11_commonDivisor ?_
  have big : ∀ x y : Nat, (x : Int) < 9223372036854775808 → (y : Int) < 9223372036854775808 → x * y < 2 ^ 126 := fun x y hx hy => by
    have h1 : x * y ≤ 9223372036854775807 * 9223372036854775807 := Nat.mul_le_mul (by omega) (by omega)
    exact Nat.lt_of_le_of_lt h1 (by decide)
  by_cases c : d ≤ u
  · exact c_div9 126 u d 0 c (big u d hu hd) hu (by omega) h
  · refine v_X11_commonDivisor_9 ⟨fun z => absurd z (by decide), fun _ => ⟨fun z => ?_, fun z => ⟨z, ?_⟩⟩⟩
    · rw [l0, i64_eq (by omega) (by omega)] at z; omega
    · rintro _ rfl
      rw [i64_emod hu hd (by omega)]
      have e : u % d = u := Nat.mod_eq_of_lt (by omega)
      rw [e]
      refine c_div9 126 d u 1 (by omega) (big d u hd hu) hd (by omega) ?_
      rw [Nat.gcd_comm]
      exact h
theorem c_lowest {u d : Nat} {σ : cg_S} {Q : Int64 → cg_S → Prop} (hu : (u : Int) < 9223372036854775808) (hd : (d : Int) < 9223372036854775808) (hd0 : d ≠ 0) : (Q (i64 (((u : Nat) : Rat) / ((d : Nat) : Rat)).num) σ → M_X11_lowestAbove (i64 u) (i64 d) σ Q) ∧ (Q (i64 ((((u : Nat) : Rat) / ((d : Nat) : Rat)).den : Nat)) σ → M_X11_lowestBelow (i64 u) (i64 d) σ Q) := by
  obtain ⟨e1, e2⟩ := rat_num (a := (u : Int)) (b := (d : Int)) (by omega)
  have hs : ((d : Nat) : Int).sign = 1 := Int.sign_eq_one_of_pos (by omega)
  rw [hs, Int.mul_one] at e1 e2
  have hg0 : 0 < Nat.gcd u d := Nat.gcd_pos_of_pos_right _ (by omega)
  have hgd : Nat.gcd u d ≤ d := Nat.gcd_le_right _ (by omega)
  have hig : Int.gcd (u : Int) (d : Int) = Nat.gcd u d := rfl
  rw [hig] at e1 e2
  have hne : ¬ i64 ((Nat.gcd u d : Nat) : Int) = 0 := by rw [l0, i64_eq (by omega) (by omega)]; omega
  have ec : ∀ k : Nat, (((k : Nat) : Int) : Rat) = ((k : Nat) : Rat) := fun k => rfl
  rw [ec, ec] at e1 e2
  refine ⟨fun h => v_X11_lowestAbove (c_div hu hd (v_X11_quotient ⟨fun _ => ⟨hne, ?_⟩, fun z => absurd z hne⟩)), fun h => v_X11_lowestBelow (c_div hu hd (v_X11_quotient ⟨fun _ => ⟨hne, ?_⟩, fun z => absurd z hne⟩))⟩
  · rw [i64_div (q := (((u : Nat) : Rat) / ((d : Nat) : Rat)).num) (by rw [Int.mul_comm]; exact e1.symm) (by omega) (by omega) (by omega)]
    exact h
  · rw [i64_div (q := ((((u : Nat) : Rat) / ((d : Nat) : Rat)).den : Nat)) (by rw [Int.mul_comm]; exact e2.symm) (by omega) (by omega) (by omega)]
    exact h
