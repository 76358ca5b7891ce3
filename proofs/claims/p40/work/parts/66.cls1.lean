/-! THE CLASS: its numbers, and a state more -/
theorem rg {v : Int32} {a b : Nat} (ha : a < 1000) (hb : b < 1000) (h1 : ¬ v < i32 a) (h2 : v ≤ i32 b) : ∃ k, a ≤ k ∧ k ≤ b ∧ v = i32 k := by
  rw [Int32.lt_iff_toInt_lt, i32_toInt (by omega)] at h1
  rw [Int32.le_iff_toInt_le, i32_toInt (by omega)] at h2
  exact ⟨v.toInt.toNat, by omega, by omega, i32_nat (by omega)⟩
theorem rg_lo {v : Int32} {a : Nat} (ha : a < 1000) (h : v < i32 a) : ∀ k, a ≤ k → k < 1000 → v ≠ i32 k := fun k h1 h2 e => by
  rw [Int32.lt_iff_toInt_lt, e, i32_toInt (by omega), i32_toInt (by omega)] at h
  omega
theorem rg_hi {v : Int32} {b : Nat} (hb : b < 1000) (h : ¬ v ≤ i32 b) : ∀ k, k ≤ b → v ≠ i32 k := fun k h1 e => by
  rw [Int32.le_iff_toInt_le, e, i32_toInt (by omega), i32_toInt (by omega)] at h
  omega
theorem rg_hi2 {v : Int32} {b : Nat} (hb : b < 1000) (h : i32 b < v) : ∀ k, k ≤ b → v ≠ i32 k := fun k h1 e => by
  rw [Int32.lt_iff_toInt_lt, e, i32_toInt (by omega), i32_toInt (by omega)] at h
  omega
theorem rg_le {v : Int32} {b : Nat} (h : ¬ i32 b < v) : v ≤ i32 b := by
  rw [Int32.lt_iff_toInt_lt] at h
  rw [Int32.le_iff_toInt_le]
  omega
/-! sets, a bit each -/
/-- the word T holds the states of P -/
def mk (w : Int32) (P : Nat → Prop) : Prop := ∃ T, T < 128 ∧ w = i32 T ∧ ∀ t, t < 7 → (T.testBit t = true ↔ P t)
theorem bit_get : ∀ T : Fin 128, ∀ t : Fin 7, (i32 T.val >>> (i32 t.val &&& 31)) &&& 1 = i32 (if T.val.testBit t.val then 1 else 0) := by decide
theorem bit_or : ∀ T : Fin 128, ∀ t : Fin 7, i32 T.val ||| (1 <<< (i32 t.val &&& 31)) = i32 (T.val ||| 2 ^ t.val) ∧ T.val ||| 2 ^ t.val < 128 ∧ ∀ u : Fin 7, (T.val ||| 2 ^ t.val).testBit u.val = (T.val.testBit u.val || decide (u = t)) := by decide
theorem bit_off : ∀ T : Fin 128, ∀ t : Fin 7, i32 T.val &&& ((1 <<< (i32 t.val &&& 31)) ^^^ (-1)) = i32 (T.val &&& (127 - 2 ^ t.val)) ∧ T.val &&& (127 - 2 ^ t.val) < 128 ∧ ∀ u : Fin 7, (T.val &&& (127 - 2 ^ t.val)).testBit u.val = (T.val.testBit u.val && !decide (u = t)) := by decide
theorem mk_get {w : Int32} {P : Nat → Prop} {t : Nat} (h : mk w P) (ht : t < 7) : (P t ∧ (w >>> (i32 t &&& 31)) &&& 1 = i32 1) ∨ (¬ P t ∧ (w >>> (i32 t &&& 31)) &&& 1 = i32 0) := by
  obtain ⟨T, h1, h2, h3⟩ := h
  have h4 := bit_get ⟨T, h1⟩ ⟨t, ht⟩
  rw [h2]
  by_cases c : P t
  · left
    refine ⟨c, ?_⟩
    rw [if_pos ((h3 t ht).mpr c)] at h4
    exact h4
  · right
    refine ⟨c, ?_⟩
    rw [if_neg (fun z => c ((h3 t ht).mp z))] at h4
    exact h4
theorem mk_or {w : Int32} {P : Nat → Prop} {t : Nat} (h : mk w P) (ht : t < 7) : mk (w ||| (1 <<< (i32 t &&& 31))) (fun u => P u ∨ u = t) := by
  obtain ⟨T, h1, h2, h3⟩ := h
  obtain ⟨h4, h5, h6⟩ := bit_or ⟨T, h1⟩ ⟨t, ht⟩
  refine ⟨T ||| 2 ^ t, h5, by rw [h2]; exact h4, fun u hu => ?_⟩
  have h7 := h6 ⟨u, hu⟩
  have h8 : (T ||| 2 ^ t).testBit u = (T.testBit u || decide ((⟨u, hu⟩ : Fin 7) = ⟨t, ht⟩)) := h7
  rw [h8, Bool.or_eq_true, h3 u hu, decide_eq_true_iff, Fin.mk.injEq]
theorem mk_off {w : Int32} {P : Nat → Prop} {t : Nat} (h : mk w P) (ht : t < 7) : mk (w &&& ((1 <<< (i32 t &&& 31)) ^^^ (-1))) (fun u => P u ∧ u ≠ t) := by
  obtain ⟨T, h1, h2, h3⟩ := h
  obtain ⟨h4, h5, h6⟩ := bit_off ⟨T, h1⟩ ⟨t, ht⟩
  refine ⟨T &&& (127 - 2 ^ t), h5, by rw [h2]; exact h4, fun u hu => ?_⟩
  have h8 : (T &&& (127 - 2 ^ t)).testBit u = (T.testBit u && !decide ((⟨u, hu⟩ : Fin 7) = ⟨t, ht⟩)) := h6 ⟨u, hu⟩
  rw [h8, Bool.and_eq_true, h3 u hu, Bool.not_eq_true', decide_eq_false_iff_not, Fin.mk.injEq]
theorem mk_congr {w : Int32} {P R : Nat → Prop} (h : mk w P) (hPR : ∀ t, t < 7 → (P t ↔ R t)) : mk w R := by
  obtain ⟨T, h1, h2, h3⟩ := h
  exact ⟨T, h1, h2, fun t ht => (h3 t ht).trans (hPR t ht)⟩
/-- the game G in the class's cells, after ch changes -/
def CG (a : cg_S) (G : Gm) (ch : Nat) : Prop := (a.1 1 0 = i32 (G 0 0) ∧ mk (a.1 1 1) (fun t => G 8 t ≠ 0) ∧ a.1 1 2 = i32 (G 9 0) ∧ a.1 1 3 = i32 (G 9 1) ∧ a.1 1 4 = i32 (G 9 2) ∧ a.1 1 5 = i32 (G 9 3) ∧ a.1 1 6 = i32 ch) ∧ (∀ s, s < 7 → a.1 57 s = i32 (G 1 s) ∧ a.1 20 s = i32 (G 2 s) ∧ a.1 21 s = i32 (G 3 s) ∧ a.1 19 s = i32 (G 10 s)) ∧ ∀ m, m < 21 → a.1 22 m = i32 (G 4 m) ∧ a.1 23 m = i32 (G 5 m) ∧ a.1 24 m = i32 (G 6 m) ∧ mk (a.1 25 m) (fun t => G 7 (7 * m + t) ≠ 0) ∧ ∀ t, t < 7 → a.1 (36 + m) t = i32 (G 7 (7 * m + t))
/-- a fraction of Values v -/
def FV (a : cg_S) (v s : Nat) (q : Rat) : Prop := ∃ u d : Int, 0 ≤ u ∧ zfit u ∧ 0 < d ∧ d ≤ 612220032 ∧ a.2.1 (v + 56) s = i64 u ∧ a.2.1 (v + 64) s = i64 d ∧ q = (u : Rat) / (d : Rat)
/-- what the sweep keeps -/
def CK (a : cg_S) (G : Gm) (ch : Nat) : Prop := ∀ aim, okA aim → (a.1 31 (aimN aim) = -1 ∨ ∃ c, c ≤ ch ∧ a.1 31 (aimN aim) = i32 c) ∧ (a.1 31 (aimN aim) = i32 ch → ∃ w, mmb G aim w ∧ ∀ s, s < G 0 0 → FV a (14 + aimN aim) s (w s))
theorem i32_m1 {n : Nat} (h : n < 2147483648) : i32 n ≠ -1 := fun e => by
  have : (i32 n).toInt = (-1 : Int32).toInt := by rw [e]
  rw [i32_toInt h] at this
  have h2 : (-1 : Int32).toInt = -1 := rfl
  omega
theorem CK_next {a a' : cg_S} {G G' : Gm} {ch : Nat} (hch : ch < 1000) (h : CK a G ch) (h31 : a'.1 31 = a.1 31) : CK a' G' (ch + 1) := fun aim ha => by
  rw [h31]
  have h1 := (h aim ha).1
  refine ⟨?_, fun e => ?_⟩
  · rcases h1 with z | ⟨c, h1, h2⟩
    · exact Or.inl z
    · exact Or.inr ⟨c, by omega, h2⟩
  · exfalso
    rcases h1 with z | ⟨c, h1, h2⟩
    · rw [z] at e; exact i32_m1 (by omega) e.symm
    · rw [h2, i32_eq (by omega) (by omega)] at e; omega
/-- what always holds, after n calls -/
def Inv (n : Nat) (a b : cg_S) : Prop := ∃ G ch, ch ≤ n ∧ CG a G ch ∧ CK a G ch ∧ RB b G
theorem Inv.up {n : Nat} {a b : cg_S} {G : Gm} {ch : Nat} {x : Int32} (hc : ch ≤ n) (h1 : CG a G ch) (h2 : CK a G ch) (h3 : RB b G) : Inv (n + 1) a (cg_i b 0 0 x) := ⟨G, ch, by omega, h1, h2, h3.c0⟩
theorem c_needPlayer {v : Int32} {σ : cg_S} {Q : cg_S → Prop} {X : String → cg_S → Prop} (h : (v = i32 97 ∨ v = i32 98) → Q σ) (hx : ¬ (v = i32 97 ∨ v = i32 98) → X "java/lang/IllegalArgumentException" σ) : M_X11_needPlayer v σ Q X :=
  v_X11_needPlayer ⟨fun z => h (Or.inl z), fun z => ⟨fun z2 => h (Or.inr z2), fun z2 => hx (fun y => y.elim z z2)⟩⟩
