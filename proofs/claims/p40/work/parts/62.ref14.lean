/-! THE REFERENCE: games, choices, responses -/
/-- why a state's question has no answer -/
def why2 (v : Int32) (G : Gm) (e : Nat) : Prop := (e = 1 ∧ ∀ s, s < G 0 0 → v ≠ i32 s) ∨ (e = 2 ∧ (∃ s, s < G 0 0 ∧ v = i32 s) ∧ ¬ whole G)
/-- the picks told -/
def tp (G : Gm) (p : Nat → Nat) (s : Nat) : Nat := if s < G 0 0 then G 10 s else p s
theorem tp_ok {G : Gm} {p : Nat → Nat} (hW : GW G) (hw : whole G) : pkOk G (tp G p) := fun s hs => by
  unfold tp
  rw [if_pos hs]
  have h1 := (hw.2 s hs).1
  rcases (hW.2.1 s (by have := hW.1; omega)).2.2.2.2.2 with z | z <;> omega
/-- why a response has no answer -/
def why4 (v1 v2 v3 : Int32) (G : Gm) (e : Nat) : Prop := (e = 1 ∧ ((v1 ≠ i32 97 ∧ v1 ≠ i32 98) ∨ ∀ aim, okA aim → v2 ≠ i32 aim)) ∨ (e = 2 ∧ (v1 = i32 97 ∨ v1 = i32 98) ∧ (∃ aim, okA aim ∧ v2 = i32 aim) ∧ ∀ s, s < G 0 0 → v3 ≠ i32 s) ∨ (e = 3 ∧ (v1 = i32 97 ∨ v1 = i32 98) ∧ (∃ aim, okA aim ∧ v2 = i32 aim) ∧ (∃ s, s < G 0 0 ∧ v3 = i32 s) ∧ ¬ whole G)
/-! what is built -/
