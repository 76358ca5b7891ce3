/-! THE MACHINE'S NUMBERS, FRAMES, LOOPS -/
def i32 (n : Nat) : Int32 := Int32.ofNat n
def i64 (z : Int) : Int64 := Int64.ofInt z
theorem i32_toInt {n : Nat} (h : n < 2147483648) : (i32 n).toInt = n := Int32.toInt_ofNat_of_lt h
theorem i32_N {n : Nat} (h : n < 2147483648) : (i32 n).toNatClampNeg = n := by
  show (i32 n).toInt.toNat = n
  rw [i32_toInt h]; rfl
theorem i32_le {a b : Nat} (ha : a < 2147483648) (hb : b < 2147483648) : (i32 a ≤ i32 b) ↔ a ≤ b := by
  rw [Int32.le_iff_toInt_le, i32_toInt ha, i32_toInt hb]; omega
theorem i32_lt {a b : Nat} (ha : a < 2147483648) (hb : b < 2147483648) : (i32 a < i32 b) ↔ a < b := by
  rw [Int32.lt_iff_toInt_lt, i32_toInt ha, i32_toInt hb]; omega
theorem i32_eq {a b : Nat} (ha : a < 2147483648) (hb : b < 2147483648) : (i32 a = i32 b) ↔ a = b := by
  rw [← Int32.toInt_inj, i32_toInt ha, i32_toInt hb]; omega
theorem i32_add (a b : Nat) : i32 a + i32 b = i32 (a + b) := (Int32.ofNat_add a b).symm
theorem i32_mul (a b : Nat) : i32 a * i32 b = i32 (a * b) := (Int32.ofNat_mul a b).symm
theorem i32_sub {a b : Nat} (h : b ≤ a) : i32 a - i32 b = i32 (a - b) := (Int32.ofNat_sub a b h).symm
theorem n0 : (0 : Int32) = i32 0 := rfl
theorem n1 : (1 : Int32) = i32 1 := rfl
theorem n2 : (2 : Int32) = i32 2 := rfl
theorem n3 : (3 : Int32) = i32 3 := rfl
theorem n4 : (4 : Int32) = i32 4 := rfl
theorem n5 : (5 : Int32) = i32 5 := rfl
theorem n6 : (6 : Int32) = i32 6 := rfl
theorem n7 : (7 : Int32) = i32 7 := rfl
theorem n8 : (8 : Int32) = i32 8 := rfl
theorem n9 : (9 : Int32) = i32 9 := rfl
theorem n49 : (49 : Int32) = i32 49 := rfl
theorem n97 : (97 : Int32) = i32 97 := rfl
theorem n98 : (98 : Int32) = i32 98 := rfl
theorem n102 : (102 : Int32) = i32 102 := rfl
theorem n109 : (109 : Int32) = i32 109 := rfl
theorem n112 : (112 : Int32) = i32 112 := rfl
theorem n114 : (114 : Int32) = i32 114 := rfl
theorem n115 : (115 : Int32) = i32 115 := rfl
theorem n119 : (119 : Int32) = i32 119 := rfl
theorem i32_s (a : Nat) : i32 a + 1 = i32 (a + 1) := by rw [n1, i32_add]
theorem i32_3 (a b : Nat) : 3 * i32 a + i32 b = i32 (3 * a + b) := by rw [n3, i32_mul, i32_add]
theorem i32_7 (a b : Nat) : 7 * i32 a + i32 b = i32 (7 * a + b) := by rw [n7, i32_mul, i32_add]
theorem i32_8 (a b : Nat) : 8 * i32 a + i32 b = i32 (8 * a + b) := by rw [n8, i32_mul, i32_add]
theorem i32_87 (a : Nat) : 8 * i32 a + 7 = i32 (8 * a + 7) := by rw [n8, n7, i32_mul, i32_add]
theorem vpi {a N : Nat} (h : a < N) (h2 : a < 2147483648) : vp_in (i32 a) N := by
  rintro (z | z)
  · rw [n0, i32_lt h2 (by decide)] at z; omega
  · rw [i32_N h2] at z; omega
theorem vpi_iff {a N : Nat} (h2 : a < 2147483648) : vp_in (i32 a) N ↔ a < N := by
  refine ⟨fun h => ?_, fun h => vpi h h2⟩
  refine Nat.lt_of_not_le (fun z => h (Or.inr ?_))
  rw [i32_N h2]; exact z
theorem le_of_i32 {a b : Nat} (h : i32 a ≤ i32 b) (ha : a < 2147483648) (hb : b < 2147483648) : a ≤ b := (i32_le ha hb).mp h
theorem lt_of_i32 {a b : Nat} (h : ¬ i32 a ≤ i32 b) (ha : a < 2147483648) (hb : b < 2147483648) : b < a := by
  rw [i32_le ha hb] at h; omega
theorem i64_toInt {z : Int} (h1 : -9223372036854775808 ≤ z) (h2 : z < 9223372036854775808) : (i64 z).toInt = z := Int64.toInt_ofInt_of_le h1 h2
theorem i64_add (a b : Int) : i64 a + i64 b = i64 (a + b) := (Int64.ofInt_add a b).symm
theorem i64_sub (a b : Int) : i64 a - i64 b = i64 (a - b) := (Int64.ofInt_sub a b).symm
theorem i64_mul (a b : Int) : i64 a * i64 b = i64 (a * b) := (Int64.ofInt_mul a b).symm
theorem i64_neg (a : Int) : -i64 a = i64 (-a) := (Int64.ofInt_neg a).symm
theorem l0 : (0 : Int64) = i64 0 := rfl
theorem l1 : (1 : Int64) = i64 1 := rfl
theorem i64_le {a b : Int} (ha : -9223372036854775808 ≤ a ∧ a < 9223372036854775808) (hb : -9223372036854775808 ≤ b ∧ b < 9223372036854775808) : (i64 a ≤ i64 b) ↔ a ≤ b := by
  rw [Int64.le_iff_toInt_le, i64_toInt ha.1 ha.2, i64_toInt hb.1 hb.2]
theorem i64_lt {a b : Int} (ha : -9223372036854775808 ≤ a ∧ a < 9223372036854775808) (hb : -9223372036854775808 ≤ b ∧ b < 9223372036854775808) : (i64 a < i64 b) ↔ a < b := by
  rw [Int64.lt_iff_toInt_lt, i64_toInt ha.1 ha.2, i64_toInt hb.1 hb.2]
theorem i64_eq {a b : Int} (ha : -9223372036854775808 ≤ a ∧ a < 9223372036854775808) (hb : -9223372036854775808 ≤ b ∧ b < 9223372036854775808) : (i64 a = i64 b) ↔ a = b := by
  rw [← Int64.toInt_inj, i64_toInt ha.1 ha.2, i64_toInt hb.1 hb.2]
theorem i64_of (x : Int64) : x = i64 x.toInt := (Int64.ofInt_toInt x).symm
theorem i32_64 {n : Nat} (h : n < 2147483648) : (i32 n).toInt64 = i64 n := by
  rw [← Int64.toInt_inj, Int32.toInt_toInt64, i32_toInt h, i64_toInt (by omega) (by omega)]
/-- a division that leaves no rest -/
theorem i64_div {a d q : Int} (h : a = d * q) (hd : d ≠ 0) (ha : -9223372036854775808 < a ∧ a < 9223372036854775808) (hd2 : -9223372036854775808 ≤ d ∧ d < 9223372036854775808) : i64 a / i64 d = i64 q := by
  rw [← Int64.toInt_inj]
  have e1 : (i64 a / i64 d).toInt = a.tdiv d := by
    rw [Int64.toInt_div_of_ne_left, i64_toInt (by omega) ha.2, i64_toInt hd2.1 hd2.2]
    intro h0
    have := congrArg Int64.toInt h0
    rw [i64_toInt (by omega) ha.2] at this
    have h9 : Int64.minValue.toInt = -9223372036854775808 := rfl
    omega
  have e2 : a.tdiv d = q := by rw [h, Int.mul_tdiv_cancel_left q hd]
  have e3 : q.natAbs ≤ a.natAbs := by
    rw [h, Int.natAbs_mul]
    have : 1 ≤ d.natAbs := by omega
    exact Nat.le_mul_of_pos_left _ this
  rw [e1, e2, i64_toInt (by omega) (by omega)]
theorem i64_tdiv {a d : Int} (hd : d ≠ 0) (ha : -9223372036854775808 < a ∧ a < 9223372036854775808) (hd2 : -9223372036854775808 ≤ d ∧ d < 9223372036854775808) : i64 a / i64 d = i64 (a.tdiv d) := by
  rw [← Int64.toInt_inj]
  have e1 : (i64 a / i64 d).toInt = a.tdiv d := by
    rw [Int64.toInt_div_of_ne_left, i64_toInt (by omega) ha.2, i64_toInt hd2.1 hd2.2]
    intro h0
    have := congrArg Int64.toInt h0
    rw [i64_toInt (by omega) ha.2] at this
    have h9 : Int64.minValue.toInt = -9223372036854775808 := rfl
    omega
  have e3 : (a.tdiv d).natAbs ≤ a.natAbs := by
    rw [Int.natAbs_tdiv]
    exact Nat.div_le_self _ _
  rw [e1, i64_toInt (by omega) (by omega)]
/-! numbers that a method leaves -/
theorem ri {σ : cg_S} {k j k' i : Nat} {x : Int32} : (cg_i σ k j x).1 k' i = if k' = k then (if i = j then x else σ.1 k' i) else σ.1 k' i := by
  show (if k' = k then upd (σ.1 k') j x else σ.1 k') i = _
  by_cases c : k' = k
  · rw [if_pos c, if_pos c]; rfl
  · rw [if_neg c, if_neg c]
theorem ri2 {σ : cg_S} {k j : Nat} {x : Int32} : (cg_i σ k j x).2 = σ.2 := rfl
theorem rl {σ : cg_S} {k j k' i : Nat} {x : Int64} : (cg_l σ k j x).2.1 k' i = if k' = k then (if i = j then x else σ.2.1 k' i) else σ.2.1 k' i := by
  show (if k' = k then vp_updL (σ.2.1 k') j x else σ.2.1 k') i = _
  by_cases c : k' = k
  · rw [if_pos c, if_pos c]; rfl
  · rw [if_neg c, if_neg c]
theorem rl1 {σ : cg_S} {k j : Nat} {x : Int64} : (cg_l σ k j x).1 = σ.1 := rfl
theorem rl3 {σ : cg_S} {k j : Nat} {x : Int64} : (cg_l σ k j x).2.2 = σ.2.2 := rfl
theorem rd {σ : cg_S} {k j k' i : Nat} {x : UInt64} : (cg_d σ k j x).2.2 k' i = if k' = k then (if i = j then x else σ.2.2 k' i) else σ.2.2 k' i := by
  show (if k' = k then vf_upd (σ.2.2 k') j x else σ.2.2 k') i = _
  by_cases c : k' = k
  · rw [if_pos c, if_pos c]; rfl
  · rw [if_neg c, if_neg c]
theorem rd1 {σ : cg_S} {k j : Nat} {x : UInt64} : (cg_d σ k j x).1 = σ.1 := rfl
theorem rd2 {σ : cg_S} {k j : Nat} {x : UInt64} : (cg_d σ k j x).2.1 = σ.2.1 := rfl
/-- only these cells are others -/
def Fr (I L D : List Nat) (σ τ : cg_S) : Prop := (∀ k, k ∉ I → τ.1 k = σ.1 k) ∧ (∀ k, k ∉ L → τ.2.1 k = σ.2.1 k) ∧ ∀ k, k ∉ D → τ.2.2 k = σ.2.2 k
theorem Fr.rf {I L D : List Nat} (σ : cg_S) : Fr I L D σ σ := ⟨fun _ _ => rfl, fun _ _ => rfl, fun _ _ => rfl⟩
theorem Fr.tr {I L D : List Nat} {σ τ υ : cg_S} (h : Fr I L D σ τ) (h2 : Fr I L D τ υ) : Fr I L D σ υ := ⟨fun k hk => (h2.1 k hk).trans (h.1 k hk), fun k hk => (h2.2.1 k hk).trans (h.2.1 k hk), fun k hk => (h2.2.2 k hk).trans (h.2.2 k hk)⟩
theorem Fr.mo {I L D I' L' D' : List Nat} {σ τ : cg_S} (h : Fr I L D σ τ) (h1 : ∀ k, k ∈ I → k ∈ I') (h2 : ∀ k, k ∈ L → k ∈ L') (h3 : ∀ k, k ∈ D → k ∈ D') : Fr I' L' D' σ τ := ⟨fun k hk => h.1 k (fun z => hk (h1 k z)), fun k hk => h.2.1 k (fun z => hk (h2 k z)), fun k hk => h.2.2 k (fun z => hk (h3 k z))⟩
theorem Fr.i {I L D : List Nat} {σ : cg_S} {k j : Nat} {x : Int32} (h : k ∈ I) : Fr I L D σ (cg_i σ k j x) := ⟨fun a ha => if_neg (c := a = k) (fun z => ha (by rw [z]; exact h)), fun _ _ => rfl, fun _ _ => rfl⟩
theorem Fr.l {I L D : List Nat} {σ : cg_S} {k j : Nat} {x : Int64} (h : k ∈ L) : Fr I L D σ (cg_l σ k j x) := ⟨fun _ _ => rfl, fun a ha => if_neg (c := a = k) (fun z => ha (by rw [z]; exact h)), fun _ _ => rfl⟩
theorem Fr.d {I L D : List Nat} {σ : cg_S} {k j : Nat} {x : UInt64} (h : k ∈ D) : Fr I L D σ (cg_d σ k j x) := ⟨fun _ _ => rfl, fun _ _ => rfl, fun a ha => if_neg (c := a = k) (fun z => ha (by rw [z]; exact h))⟩
/-- a loop upward -/
theorem up {n : Nat} (P : Nat → cg_S → Prop) (L : Int32 → cg_S → Prop) (step : ∀ k σ, k < n → P k σ → (∀ τ, P (k + 1) τ → L (i32 (k + 1)) τ) → L (i32 k) σ) (fin : ∀ σ, P n σ → L (i32 n) σ) : ∀ k σ, k ≤ n → P k σ → L (i32 k) σ := by
  have key : ∀ r k, k + r = n → ∀ σ, P k σ → L (i32 k) σ := by
    intro r
    induction r with
    | zero => intro k hk σ h; have : k = n := by omega
              subst this; exact fin σ h
    | succ r ih => intro k hk σ h; exact step k σ (by omega) h (fun τ hτ => ih (k + 1) (by omega) τ hτ)
  intro k σ hk h
  exact key (n - k) k (by omega) σ h
