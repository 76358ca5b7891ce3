/-! THE REFERENCE: its equations -/
abbrev Gm : Type := Nat → Nat → Nat
/-- the game G in the reference's cells -/
def MG (b : cg_S) (G : Gm) : Prop := (b.1 0 1 = i32 (G 0 0) ∧ b.1 0 2 = i32 (G 9 0) ∧ b.1 0 3 = i32 (G 9 1) ∧ b.1 0 4 = i32 (G 9 2) ∧ b.1 0 5 = i32 (G 9 3)) ∧ (∀ s, s < G 0 0 → b.1 1 s = i32 (if G 1 s = 1 then 97 else 98)) ∧ (∀ s, s < 7 → b.1 2 s = i32 (G 2 s) ∧ b.1 3 s = i32 (G 3 s) ∧ b.1 15 s = i32 (G 8 s) ∧ b.1 4 s = i32 (G 10 s)) ∧ (∀ m, m < 21 → b.1 7 m = i32 (G 4 m) ∧ b.1 8 m = i32 (G 5 m) ∧ b.1 9 m = i32 (G 6 m)) ∧ ∀ j, j < 147 → b.1 10 j = i32 (G 7 j)
def sN : Nat → (Nat → Nat) → Nat
  | 0, _ => 0
  | n + 1, f => sN n f + f n
/-- what always holds of the game's numbers -/
def GW (G : Gm) : Prop := G 0 0 ≤ 7 ∧ (∀ s, s < 7 → G 1 s ≤ 1 ∧ G 2 s ≤ 3 ∧ G 3 s ≤ 3 ∧ G 8 s ≤ 1 ∧ G 10 s ≤ 2 ∧ (G 10 s = 0 ∨ G 10 s < G 3 s)) ∧ (∀ m, m < 21 → G 4 m ≤ 9 ∧ G 5 m ≤ 9 ∧ G 6 m ≤ 6 ∧ G 6 m = sN (G 0 0) (fun t => G 7 (7 * m + t)) ∧ ∀ t, t < 7 → G 0 0 ≤ t → G 7 (7 * m + t) = 0) ∧ (G 9 0 < G 9 1 ∧ 1 ≤ G 9 0 ∧ G 9 1 ≤ 3) ∧ G 9 2 ≤ 3 ∧ G 9 3 ≤ 3
theorem MG.fr {b τ : cg_S} {G : Gm} {I L D : List Nat} (h : MG b G) (hf : Fr I L D b τ) (h0 : 0 ∉ I ∧ 1 ∉ I ∧ 2 ∉ I ∧ 3 ∉ I ∧ 4 ∉ I ∧ 7 ∉ I ∧ 8 ∉ I ∧ 9 ∉ I ∧ 10 ∉ I ∧ 15 ∉ I) : MG τ G := by
  have e := hf.1
  unfold MG
  rw [e 0 h0.1, e 1 h0.2.1, e 2 h0.2.2.1, e 3 h0.2.2.2.1, e 4 h0.2.2.2.2.1, e 7 h0.2.2.2.2.2.1, e 8 h0.2.2.2.2.2.2.1, e 9 h0.2.2.2.2.2.2.2.1, e 10 h0.2.2.2.2.2.2.2.2.1, e 15 h0.2.2.2.2.2.2.2.2.2]
  exact h
theorem sN_le {n : Nat} {f : Nat → Nat} {i : Nat} (h : i < n) : f i ≤ sN n f := by
  induction n with
  | zero => omega
  | succ n ih =>
    rw [sN]
    by_cases c : i = n
    · subst c; omega
    · have := ih (by omega); omega
theorem GW.w6 {G : Gm} (h : GW G) {m t : Nat} (hm : m < 21) (ht : t < 7) : G 7 (7 * m + t) ≤ 6 := by
  have h1 := h.2.2.1 m hm
  by_cases c : G 0 0 ≤ t
  · rw [h1.2.2.2.2 t ht c]; omega
  · have := sN_le (n := G 0 0) (f := fun t => G 7 (7 * m + t)) (i := t) (by omega)
    omega
/-- the picks at hand -/
def MP (b : cg_S) (p : Nat → Nat) : Prop := ∀ s, s < 7 → b.1 5 s = i32 (p s) ∧ p s ≤ 2
theorem MP.fr {b τ : cg_S} {p : Nat → Nat} {I L D : List Nat} (h : MP b p) (hf : Fr I L D b τ) (h0 : 5 ∉ I) : MP τ p := fun s hs => by rw [hf.1 5 h0]; exact h s hs
def mv (p : Nat → Nat) (s : Nat) : Nat := 3 * s + p s
theorem mv_lt {p : Nat → Nat} {s : Nat} (hs : s < 7) (hp : p s ≤ 2) : mv p s < 21 := by unfold mv; omega
theorem neg32 {a b : Nat} (h : a * b < 2147483648) : (-i32 a * i32 b).toInt64 = i64 (-((a * b : Nat) : Int)) := by
  have e1 : -i32 a * i32 b = Int32.ofInt (-((a * b : Nat) : Int)) := by
    rw [show (-((a * b : Nat) : Int)) = (-(a : Int)) * (b : Int) by rw [Int.natCast_mul, Int.neg_mul], Int32.ofInt_mul, Int32.ofInt_neg, Int32.ofInt_eq_ofNat, Int32.ofInt_eq_ofNat]
    rfl
  rw [e1, ← Int64.toInt_inj, Int32.toInt_toInt64, Int32.toInt_ofInt_of_le (by omega) (by omega), i64_toInt (by omega) (by omega)]
/-- a step's row -/
def rowS (G : Gm) (p : Nat → Nat) (s : Nat) (cost : Int) (ov un t : Nat) : Int := if t = 7 then ((un * G 6 (mv p s) : Nat) : Int) * cost else (if t < G 0 0 then -((ov * G 7 (7 * mv p s + t) : Nat) : Int) else 0) + (if t = s then ((un * G 6 (mv p s) : Nat) : Int) else 0)
