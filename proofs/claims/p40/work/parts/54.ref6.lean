/-! THE REFERENCE: what a chain gets for 'r', 'f', 's', 'w' -/
theorem p18_7 : (18 : Rat) ^ 7 * 162 ≤ 9000000000000000000 := by decide +kernel
theorem sys_fitX {A : Nat → Nat → Rat} {x : Nat → Rat} (hI : ∀ i j, isI (A i j)) (hZ : Zm 7 A) (hp : ∀ k, k < 7 → 0 < gB k A k k) (ha : ∀ s, s < 7 → A s s ≤ 18) (hb : ∀ s, s < 7 → 0 ≤ A s 7) (hx : ∀ s, s < 7 → rowOk 7 7 A x s) (hx0 : ∀ s, s < 7 → 0 ≤ x s) (hxV : ∀ s, s < 7 → x s ≤ 162) : ∀ s, s < 7 → zfit (gB 7 A s 7).num := by
  intro s hs
  have hN := sys_ND hp
  have h18 : (1 : Rat) ≤ 18 := by decide
  have e1 := gj_R0 (R := 7) hZ (Nat.le_refl 7) hp hb 7 (Nat.le_refl 7) s hs
  have e2 := gj_RV (R := 7) hZ (Nat.le_refl 7) hp hx hx0 hxV 7 (Nat.le_refl 7) s hs
  rw [gB_shape hN s s hs, if_pos rfl] at e2
  have e3 := gj_D hZ (Nat.le_refl 7) hp h18 ha 7 (Nat.le_refl 7)
  have e4 := p18_7
  exact zfit_of (z_B hI hN (Nat.le_refl 7) s 7) (by grind) (by grind)
def costG (G : Gm) (aim m : Nat) : Nat := if aim = 102 ∨ aim = 109 then G 4 m else if aim = 115 then G 5 m else G 9 2 * G 4 m + G 9 3 * G 5 m
theorem costG_le {G : Gm} (hW : GW G) (aim : Nat) {m : Nat} (hm : m < 21) : costG G aim m ≤ 54 := by
  have h := hW.2.2.1 m hm
  have h1 := h.1
  have h2 := h.2.1
  unfold costG
  split
  · omega
  · split
    · omega
    · have e1 := Nat.mul_le_mul hW.2.2.2.2.1 h1
      have e2 := Nat.mul_le_mul hW.2.2.2.2.2 h2
      omega
/-- below times the sum of the weights times the cost -/
def KG (G : Gm) (aim m : Nat) : Rat := ((G 9 1 : Nat) : Rat) * c_sm (G 0 0) (wtR G) m * ((costG G aim m : Nat) : Rat)
def TG (G : Gm) : Nat → Prop := fun s => G 8 s ≠ 0
/-- what the chain of a pick gets for an aim -/
def XS (G : Gm) (aim : Nat) (p : Nat → Nat) (x : Nat → Rat) : Prop := if aim = 114 then SolR (G 0 0) (wtR G) (mv p) (TG G) x else SolC (G 0 0) (wtR G) (mv p) ((G 9 0 : Nat) : Rat) ((G 9 1 : Nat) : Rat) (KG G aim) x
section CO
variable {G : Gm} {p : Nat → Nat} {aim : Nat}
abbrev costA (G : Gm) (p : Nat → Nat) (aim : Nat) : Nat → Nat → Rat := sysA G p (fun _ => false) (fun _ => 0) (G 9 0) (G 9 1) (fun s => ((costG G aim (mv p s) : Nat) : Int))
theorem disc (hW : GW G) : ((G 9 0 : Nat) : Rat) < ((G 9 1 : Nat) : Rat) ∧ (0 : Rat) ≤ ((G 9 0 : Nat) : Rat) := ⟨Rat.natCast_lt_natCast.mpr hW.2.2.2.1.1, Rat.natCast_nonneg⟩
theorem cost_piv (hW : GW G) (hw : whole G) (hpk : pkOk G p) (hp : ∀ s, s < 7 → p s ≤ 2) : ∀ k, k < 7 → 0 < gB k (costA G p aim) k k := by
  refine sys_piv (sysA_Z hW hp (Nat.le_of_lt hW.2.2.2.1.1)) (fun S hS hS7 hsum _ => ?_)
  obtain ⟨m, hm, hSm⟩ := hS
  have h1 := hsum m hSm
  rw [sysA_sum hW hp hm] at h1
  by_cases c : m < G 0 0
  · rw [if_pos ⟨c, rfl⟩] at h1
    have h2 := (pk_c hW hw hpk m c).2
    have h3 := (disc hW).1
    rcases Rat.mul_eq_zero.mp h1 with h | h
    · grind
    · grind
  · rw [if_neg (by simp [c])] at h1
    exact absurd h1 (by decide)
theorem cost_sol (hW : GW G) (hw : whole G) (hpk : pkOk G p) (hp : ∀ s, s < 7 → p s ≤ 2) : (∀ s, s < 7 → rowOk 7 7 (costA G p aim) (fun t => gB 7 (costA G p aim) t 7 / gD 7 (costA G p aim)) s) ∧ SolC (G 0 0) (wtR G) (mv p) ((G 9 0 : Nat) : Rat) ((G 9 1 : Nat) : Rat) (KG G aim) (fun t => gB 7 (costA G p aim) t 7 / gD 7 (costA G p aim)) ∧ ∀ s, s < 7 → 0 ≤ gB 7 (costA G p aim) s 7 / gD 7 (costA G p aim) ∧ gB 7 (costA G p aim) s 7 / gD 7 (costA G p aim) ≤ 162 := by
  have hn := hW.1
  have h0 := gj_sol (R := 7) (sys_ND (cost_piv (aim := aim) hW hw hpk hp))
  generalize hx : (fun t => gB 7 (costA G p aim) t 7 / gD 7 (costA G p aim)) = x at h0 ⊢
  have hx2 : ∀ s, gB 7 (costA G p aim) s 7 / gD 7 (costA G p aim) = x s := fun s => by rw [← hx]
  simp only [hx2]
  have hS : SolC (G 0 0) (wtR G) (mv p) ((G 9 0 : Nat) : Rat) ((G 9 1 : Nat) : Rat) (KG G aim) x := fun s hs => by
    have h1 := h0 s (by omega)
    unfold rowOk at h1
    rw [sysA_dot hW hp (by omega), if_pos ⟨hs, rfl⟩] at h1
    have h2 : costA G p aim s 7 = KG G aim (mv p s) := by
      unfold costA sysA
      rw [if_pos hs]
      simp only [Bool.false_eq_true, if_false]
      rw [rowS_rhs hW (mv_lt (by omega) (hp s (by omega))), Rat.intCast_natCast]
      rfl
    rw [h2] at h1
    grind
  have hd := disc hW
  have hok := pk_c hW hw hpk
  have hnn := solC_nonneg hok hd.1 hd.2 (fun s hs => by
    unfold KG
    rw [sm_eq hW (mv_lt (by omega) (hp s (by omega)))]
    exact Rat.mul_nonneg (Rat.mul_nonneg Rat.natCast_nonneg Rat.natCast_nonneg) Rat.natCast_nonneg) hS
  have hle := cmpC_ge hok hd.1 hS (y := fun _ => 162) (fun s hs => by
    rw [c_ex_const]
    unfold KG
    have h1 := (hok s hs).2
    have h2 : ((G 9 1 * costG G aim (mv p s) : Nat) : Rat) ≤ (((G 9 1 - G 9 0) * 162 : Nat) : Rat) := Rat.natCast_le_natCast.mpr (by
      have e1 := costG_le hW aim (mv_lt (show s < 7 by omega) (hp s (by omega)))
      have e2 := Nat.mul_le_mul hW.2.2.2.1.2.2 e1
      have e3 := hW.2.2.2.1.1
      omega)
    rw [Rat.natCast_mul, Rat.natCast_mul] at h2
    have h3 : ((G 9 1 - G 9 0 : Nat) : Rat) = ((G 9 1 : Nat) : Rat) - ((G 9 0 : Nat) : Rat) := by
      have e3 := hW.2.2.2.1.1
      have : ((G 9 1 - G 9 0 + G 9 0 : Nat) : Rat) = ((G 9 1 : Nat) : Rat) := by rw [Nat.sub_add_cancel (Nat.le_of_lt e3)]
      rw [Rat.natCast_add] at this
      grind
    rw [h3] at h2
    have h4 := Rat.mul_nonneg (a := c_sm (G 0 0) (wtR G) (mv p s)) (b := (((G 9 1 : Nat) : Rat) - ((G 9 0 : Nat) : Rat)) * ((162 : Nat) : Rat) - ((G 9 1 : Nat) : Rat) * ((costG G aim (mv p s) : Nat) : Rat)) (Rat.le_of_lt h1) (by grind)
    have h5 : ((162 : Nat) : Rat) = 162 := rfl
    rw [h5] at h4
    grind) hd.2
  refine ⟨h0, hS, fun s hs => ?_⟩
  by_cases c : s < G 0 0
  · exact ⟨hnn s c, hle s c⟩
  · have h1 := h0 s hs
    unfold rowOk at h1
    rw [sysA_dot hW hp hs, if_neg (by simp [c])] at h1
    have h2 : costA G p aim s 7 = 0 := by
      unfold costA sysA
      rw [if_neg c, if_neg (by omega)]
    rw [h1, h2]
    exact ⟨Rat.le_refl, by decide⟩
theorem d6 (hW : GW G) : ((6 * G 9 1 : Nat) : Rat) ≤ 18 := by
  have : ((6 * G 9 1 : Nat) : Rat) ≤ ((18 : Nat) : Rat) := Rat.natCast_le_natCast.mpr (by have := hW.2.2.2.1.2.2; omega)
  exact this
theorem cost_fits (hW : GW G) (hw : whole G) (hpk : pkOk G p) (hp : ∀ s, s < 7 → p s ≤ 2) : A_fits (costA G p aim) ∧ ∀ s, s < 7 → zfit (gB 7 (costA G p aim) s 7).num := by
  obtain ⟨h0, -, h1⟩ := cost_sol (aim := aim) hW hw hpk hp
  have hZ := sysA_Z (G := G) (p := p) (N := fun _ => false) (f := fun _ => 0) (c := fun s => ((costG G aim (mv p s) : Nat) : Int)) hW hp (Nat.le_of_lt hW.2.2.2.1.1)
  have hp1 := cost_piv (aim := aim) hW hw hpk hp
  have ha : ∀ s, s < 7 → costA G p aim s s ≤ 18 := fun s hs => Rat.le_trans (sysA_diag hW hp hW.2.2.2.1.2.2 (by have := hW.2.2.2.1; omega) hs) (d6 hW)
  have hb : ∀ s, s < 7 → 0 ≤ costA G p aim s 7 := fun s hs => sysA_rhs hW hp (fun _ _ => by omega) (fun _ _ => by omega) hs
  exact ⟨sys_fits sysA_int hZ hp1 ha hb h0 (fun s hs => (h1 s hs).1) (fun s hs => (h1 s hs).2), sys_fitX sysA_int hZ hp1 ha hb h0 (fun s hs => (h1 s hs).1) (fun s hs => (h1 s hs).2)⟩
end CO
