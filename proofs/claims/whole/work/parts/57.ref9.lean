/-! THE REFERENCE: all picks of one side, one after another -/
/-- how many picks of the states below k -/
def rx (D : Nat → Bool) (c : Nat → Nat) : Nat → Nat
  | 0 => 1
  | k + 1 => if D k then c k * rx D c k else rx D c k
/-- the number of a pick -/
def cd (D : Nat → Bool) (c : Nat → Nat) (p : Nat → Nat) : Nat → Nat
  | 0 => 0
  | k + 1 => if D k then p k * rx D c k + cd D c p k else cd D c p k
section CD
variable {D : Nat → Bool} {c : Nat → Nat} {p q : Nat → Nat}
theorem cd_lt : ∀ k, (∀ s, s < k → D s → p s < c s) → cd D c p k < rx D c k := by
  intro k
  induction k with
  | zero => intro _; exact Nat.lt_of_lt_of_le (show 0 < 1 by decide) (Nat.le_refl 1)
  | succ k ih =>
    intro h
    have h1 := ih (fun s hs => h s (by omega))
    rw [cd, rx]
    by_cases e : D k
    · rw [if_pos e, if_pos e]
      have h2 := Nat.mul_le_mul_right (rx D c k) (show p k + 1 ≤ c k from h k (by omega) e)
      rw [Nat.add_mul, Nat.one_mul] at h2
      omega
    · rw [if_neg e, if_neg e]; exact h1
theorem cd_congr : ∀ k, (∀ s, s < k → D s → p s = q s) → cd D c p k = cd D c q k := by
  intro k
  induction k with
  | zero => intro _; rfl
  | succ k ih =>
    intro h
    rw [cd, cd, ih (fun s hs => h s (by omega))]
    by_cases e : D k
    · rw [if_pos e, if_pos e, h k (by omega) e]
    · rw [if_neg e, if_neg e]
theorem cd_zero : ∀ k, (∀ s, s < k → D s → p s = 0) → cd D c p k = 0 := by
  intro k
  induction k with
  | zero => intro _; rfl
  | succ k ih =>
    intro h
    rw [cd, ih (fun s hs => h s (by omega))]
    by_cases e : D k
    · rw [if_pos e, h k (by omega) e, Nat.zero_mul]
    · rw [if_neg e]
theorem cd_inj : ∀ k, (∀ s, s < k → D s → p s < c s) → (∀ s, s < k → D s → q s < c s) → cd D c p k = cd D c q k → ∀ s, s < k → D s → p s = q s := by
  intro k
  induction k with
  | zero => intro _ _ _ s hs; omega
  | succ k ih =>
    intro h1 h2 he s hs hD
    have a1 := cd_lt k (fun s hs => h1 s (by omega))
    have a2 := cd_lt k (fun s hs => h2 s (by omega))
    rw [cd, cd] at he
    by_cases e : D k
    · rw [if_pos e, if_pos e] at he
      have hpq : p k = q k := by
        rcases Nat.lt_trichotomy (p k) (q k) with z | z | z
        · have := Nat.mul_le_mul_right (rx D c k) (show p k + 1 ≤ q k from z)
          rw [Nat.add_mul, Nat.one_mul] at this
          omega
        · exact z
        · have := Nat.mul_le_mul_right (rx D c k) (show q k + 1 ≤ p k from z)
          rw [Nat.add_mul, Nat.one_mul] at this
          omega
      rw [hpq] at he
      by_cases es : s = k
      · subst es; exact hpq
      · exact ih (fun s hs => h1 s (by omega)) (fun s hs => h2 s (by omega)) (by omega) s (by omega) hD
    · rw [if_neg e, if_neg e] at he
      by_cases es : s = k
      · subst es; exact absurd hD e
      · exact ih (fun s hs => h1 s (by omega)) (fun s hs => h2 s (by omega)) he s (by omega) hD
theorem cd_step {k : Nat} (hk : D k) (h0 : cd D c p k + 1 = rx D c k) (hq : ∀ s, D s → q s = if s = k then p k + 1 else if s < k then 0 else p s) : ∀ m, k < m → cd D c q m = cd D c p m + 1 := by
  intro m
  induction m with
  | zero => intro h; omega
  | succ m ih =>
    intro h
    by_cases e : m = k
    · subst e
      rw [cd, cd, if_pos hk, if_pos hk, hq m hk, if_pos rfl, cd_zero m (fun s hs hD => by rw [hq s hD, if_neg (by omega), if_pos hs]), Nat.add_mul, Nat.one_mul]
      omega
    · have h1 := ih (by omega)
      rw [cd, cd]
      by_cases e2 : D m
      · rw [if_pos e2, if_pos e2, hq m e2, if_neg e, if_neg (by omega)]; omega
      · rw [if_neg e2, if_neg e2]; exact h1
end CD
/-- whose a state is -/
def ownG (G : Gm) (s : Nat) : Nat := if G 1 s = 1 then 97 else 98
def ofG (G : Gm) (o s : Nat) : Bool := decide (ownG G s = o)
theorem ownG_lt (G : Gm) (s : Nat) : ownG G s < 2147483648 := by unfold ownG; split <;> omega
/-- the pick with the side's first k digits nought -/
def pz (D : Nat → Bool) (k : Nat) (p : Nat → Nat) (s : Nat) : Nat := if s < k ∧ D s = true then 0 else p s
section PZ
variable {D : Nat → Bool} {p : Nat → Nat} {k s : Nat}
theorem pz_yes (h : s < k) (hD : D s = true) : pz D k p s = 0 := if_pos ⟨h, hD⟩
theorem pz_no (h : ¬ (s < k ∧ D s = true)) : pz D k p s = p s := if_neg h
theorem pz_ne (h : s ≠ k) : pz D (k + 1) p s = pz D k p s := by
  unfold pz
  by_cases c : s < k ∧ D s = true
  · rw [if_pos c, if_pos ⟨by omega, c.2⟩]
  · rw [if_neg c, if_neg (fun z => c ⟨by omega, z.2⟩)]
theorem pz_f (h : D k = false) : pz D (k + 1) p = pz D k p := by
  funext s
  by_cases c : s = k
  · subst c
    rw [pz_no (fun z => by rw [h] at z; exact absurd z.2 (by decide)), pz_no (fun z => by omega)]
  · exact pz_ne c
theorem pz_0 : pz D 0 p = p := by
  funext s
  exact pz_no (fun z => by omega)
end PZ
theorem m_begins {o : Nat} {p : Nat → Nat} {G : Gm} {σ : cg_S} {Q : cg_S → Prop} (hW : GW G) (ho : o < 2147483648) (hp : MP σ p) (hG : MG σ G) (h : ∀ τ, Fr [5] [] [] σ τ → MP τ (pz (ofG G o) (G 0 0) p) → Q τ) : M_X12_begins (i32 o) σ Q := by
  have hn := hW.1
  refine v_X12_begins ?_
  refine up (n := G 0 0) (fun k τ => Fr [5] [] [] σ τ ∧ MP τ (pz (ofG G o) k p)) (fun w τ => L_X12_begins_2 (i32 o) w τ Q) ?_ ?_ 0 σ (by omega) ⟨Fr.rf σ, by rw [pz_0]; exact hp⟩
  · intro k τ hk hP kk
    have hG2 := hG.fr hP.1 (by decide)
    have hk7 : k < 7 := by omega
    have ow := ownG_lt G k
    refine v_X12_begins_2 ?_
    rw [hG2.1.1]
    simp (disch := omega) only [n0, n1, n2, n3, n4, n5, n6, n7, n8, n9, n49, n97, n98, n114, n102, n115, n119, n109, n112, i32_add, i32_mul, i32_N, i32_le, i32_lt, i32_eq, vpi_iff]
    have e1 : τ.1 1 k = i32 (ownG G k) := hG2.2.1 k hk
    rw [e1]
    simp (disch := omega) only [n0, n1, n2, n3, n4, n5, n6, n7, n8, n9, n49, n97, n98, n114, n102, n115, n119, n109, n112, i32_add, i32_mul, i32_N, i32_le, i32_lt, i32_eq, vpi_iff]
    refine ⟨fun z => by omega, fun _ => ⟨by omega, fun z => ⟨by omega, by omega, ?_⟩, fun z => ⟨by omega, ?_⟩⟩⟩
    · rintro _ rfl
      have hf : ofG G o k = false := decide_eq_false z
      refine kk _ ⟨hP.1.tr (Fr.i (by decide)), fun s hs => ?_⟩
      rw [pz_f hf, ri, if_pos rfl]
      have := hP.2 s hs
      by_cases c : s = k
      · subst c; rw [if_pos rfl]; exact this
      · rw [if_neg c]; exact this
    · rintro _ rfl
      have hf : ofG G o k = true := decide_eq_true z
      refine kk _ ⟨hP.1.tr (Fr.i (by decide)), fun s hs => ?_⟩
      have := hP.2 s hs
      rw [ri, if_pos rfl]
      by_cases c : s = k
      · subst c; rw [if_pos rfl, pz_yes (by omega) hf]; exact ⟨rfl, by omega⟩
      · rw [if_neg c, pz_ne c]; exact this
  · intro τ hP
    have hG2 := hG.fr hP.1 (by decide)
    refine v_X12_begins_2 ?_
    rw [hG2.1.1]
    refine ⟨fun _ => ?_, fun z => absurd ((i32_le (by omega) (by omega)).mpr (Nat.le_refl _)) z⟩
    exact h τ hP.1 hP.2
/-- the pick after this one, if its first change is at k -/
def pn (D : Nat → Bool) (k : Nat) (p : Nat → Nat) (s : Nat) : Nat := if s = k then p k + 1 else pz D k p s
theorem m_goesOn {o : Nat} {p : Nat → Nat} {G : Gm} {σ : cg_S} {Q : Int32 → cg_S → Prop} (hW : GW G) (ho : o < 2147483648) (hp : MP σ p) (hpk : pkOk G p) (hG : MG σ G) (h1 : ∀ τ p', Fr [5] [] [] σ τ → MP τ p' → pkOk G p' → (∀ s, ¬ (s < G 0 0 ∧ ofG G o s = true) → p' s = p s) → cd (ofG G o) (G 3) p' (G 0 0) = cd (ofG G o) (G 3) p (G 0 0) + 1 → Q 1 τ) (h0 : ∀ τ, Fr [5] [] [] σ τ → MP τ (pz (ofG G o) (G 0 0) p) → cd (ofG G o) (G 3) p (G 0 0) + 1 = rx (ofG G o) (G 3) (G 0 0) → Q 0 τ) : M_X12_goesOn (i32 o) σ Q := by
  have hn := hW.1
  refine v_X12_goesOn ?_
  refine up (n := G 0 0) (fun k τ => Fr [5] [] [] σ τ ∧ MP τ (pz (ofG G o) k p) ∧ cd (ofG G o) (G 3) p k + 1 = rx (ofG G o) (G 3) k) (fun w τ => L_X12_goesOn_2 (i32 o) w τ Q) ?_ ?_ 0 σ (by omega) ⟨Fr.rf σ, by rw [pz_0]; exact hp, rfl⟩
  · intro k τ hk hP kk
    have hG2 := hG.fr hP.1 (by decide)
    have hk7 : k < 7 := by omega
    have ow := ownG_lt G k
    have g3 := (hW.2.1 k hk7).2.2.1
    have pk := hpk k hk
    refine v_X12_goesOn_2 ?_
    rw [hG2.1.1]
    simp (disch := omega) only [n0, n1, n2, n3, n4, n5, n6, n7, n8, n9, n49, n97, n98, n114, n102, n115, n119, n109, n112, i32_add, i32_mul, i32_N, i32_le, i32_lt, i32_eq, vpi_iff]
    have e1 : τ.1 1 k = i32 (ownG G k) := hG2.2.1 k hk
    rw [e1]
    simp (disch := omega) only [n0, n1, n2, n3, n4, n5, n6, n7, n8, n9, n49, n97, n98, n114, n102, n115, n119, n109, n112, i32_add, i32_mul, i32_N, i32_le, i32_lt, i32_eq, vpi_iff]
    refine ⟨fun z => by omega, fun _ => ⟨by omega, fun z => ⟨by omega, by omega, ?_⟩, fun z => ?_⟩⟩
    · have hf : ofG G o k = true := decide_eq_true z
      have e5 : τ.1 5 k = i32 (p k) := by
        have := (hP.2.1 k hk7).1
        rw [pz_no (fun z => by omega)] at this
        exact this
      rw [e5, i32_add]
      rintro _ rfl
      have e3 : (cg_i τ 5 k (i32 (p k + 1))).1 3 k = i32 (G 3 k) := by
        rw [ri, if_neg (by decide)]; exact (hG2.2.2.1 k hk7).2.1
      have e4 : (cg_i τ 5 k (i32 (p k + 1))).1 5 k = i32 (p k + 1) := by
        rw [ri, if_pos rfl, if_pos rfl]
      rw [e3, e4]
      simp (disch := omega) only [n0, n1, n2, n3, n4, n5, n6, n7, n8, n9, n49, n97, n98, n114, n102, n115, n119, n109, n112, i32_add, i32_mul, i32_N, i32_le, i32_lt, i32_eq, vpi_iff]
      refine ⟨by omega, by omega, fun z2 => ⟨by omega, ?_⟩, fun z2 => ?_⟩
      · rintro _ rfl
        refine kk _ ⟨hP.1.tr ((Fr.i (by decide)).tr (Fr.i (by decide))), fun s hs => ?_, ?_⟩
        · have := hP.2.1 s hs
          rw [ri, if_pos rfl, ri, if_pos rfl]
          by_cases c : s = k
          · subst c
            rw [if_pos rfl, pz_yes (by omega) hf]
            exact ⟨rfl, by omega⟩
          · rw [if_neg c, if_neg c, pz_ne c]; exact this
        · have e6 : G 3 k = p k + 1 := by omega
          rw [cd, rx, if_pos hf, if_pos hf, e6, Nat.add_mul, Nat.one_mul, ← hP.2.2]
          omega
      · have hq : ∀ s, ofG G o s = true → pn (ofG G o) k p s = if s = k then p k + 1 else if s < k then 0 else p s := fun s hs => by
          unfold pn
          by_cases c : s < k
          · rw [pz_yes c hs, if_pos c]
          · rw [pz_no (fun y => c y.1), if_neg c]
        refine h1 _ (pn (ofG G o) k p) (hP.1.tr (Fr.i (by decide))) (fun s hs => ?_) (fun s hs => ?_) (fun s hs => ?_) (cd_step hf hP.2.2 hq (G 0 0) hk)
        · have := hP.2.1 s hs
          unfold pn
          rw [ri, if_pos rfl]
          by_cases c : s = k
          · subst c
            rw [if_pos rfl, if_pos rfl]
            exact ⟨rfl, by omega⟩
          · rw [if_neg c, if_neg c]
            exact this
        · have := hpk s hs
          unfold pn pz
          by_cases c : s = k
          · subst c
            rw [if_pos rfl]; omega
          · rw [if_neg c]
            split <;> omega
        · have c : s ≠ k := fun y => hs (by rw [y]; exact ⟨hk, hf⟩)
          unfold pn
          rw [if_neg c, pz_no (fun y => hs ⟨by omega, y.2⟩)]
    · have hf : ofG G o k = false := decide_eq_false z
      refine kk _ ⟨hP.1, by rw [pz_f hf]; exact hP.2.1, ?_⟩
      rw [cd, rx, if_neg (by simp [hf]), if_neg (by simp [hf])]; exact hP.2.2
  · intro τ hP
    have hG2 := hG.fr hP.1 (by decide)
    refine v_X12_goesOn_2 ?_
    rw [hG2.1.1]
    refine ⟨fun _ => ?_, fun z => absurd ((i32_le (by omega) (by omega)).mpr (Nat.le_refl _)) z⟩
    exact h0 τ hP.1 hP.2.1 hP.2.2
