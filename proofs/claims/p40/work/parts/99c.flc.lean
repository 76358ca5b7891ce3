/-! THE CALLS: valueFloat, restFloat, rounded -/
theorem num_le {u d : Nat} (hd : 0 < d) (hd2 : d ≤ 612220032) (hu : u ≤ 162 * d) : ∃ n k : Nat, 0 < k ∧ k < 2 ^ 30 ∧ n ≤ 162 * k ∧ (((u : Nat) : Rat) / ((d : Nat) : Rat)).num = (n : Int) ∧ (((u : Nat) : Rat) / ((d : Nat) : Rat)).den = k := by
  obtain ⟨h1, h2⟩ := rat_num (a := (u : Int)) (b := (d : Int)) (by omega)
  have hs : ((d : Nat) : Int).sign = 1 := Int.sign_eq_one_of_pos (by omega)
  rw [hs, Int.mul_one] at h1 h2
  have h0 : 0 ≤ (((u : Nat) : Rat) / ((d : Nat) : Rat)).num := Rat.num_nonneg.mpr (rat_div_nonneg Rat.natCast_nonneg (Rat.natCast_pos.mpr hd))
  have hk := (((u : Nat) : Rat) / ((d : Nat) : Rat)).den_pos
  have e1 : (((u : Int) : Rat) / ((d : Int) : Rat)) = (((u : Nat) : Rat) / ((d : Nat) : Rat)) := by rw [Rat.intCast_natCast, Rat.intCast_natCast]
  rw [e1] at h1 h2
  generalize ((u : Nat) : Rat) / ((d : Nat) : Rat) = q at *
  generalize Int.gcd (u : Int) (d : Int) = g at *
  have hn : q.num = (q.num.toNat : Int) := by omega
  rw [hn] at h1
  have h1' : q.num.toNat * g = u := by
    have : ((q.num.toNat * g : Nat) : Int) = (u : Int) := by rw [Int.natCast_mul]; exact h1
    omega
  have h2' : q.den * g = d := by
    have : ((q.den * g : Nat) : Int) = (d : Int) := by rw [Int.natCast_mul]; exact h2
    omega
  have hg : 0 < g := Nat.pos_of_ne_zero fun z => by rw [z] at h2'; omega
  refine ⟨q.num.toNat, q.den, hk, ?_, ?_, hn, rfl⟩
  · have := Nat.le_mul_of_pos_right q.den hg
    have e : (2 : Nat) ^ 30 = 1073741824 := by decide
    omega
  · apply Nat.le_of_mul_le_mul_right _ hg
    rw [h1', Nat.mul_assoc, h2']
    exact hu
/-- the values with what they may be -/
theorem c_findValuesW {v1 v2 : Int32} {a : cg_S} {G : Gm} {ch : Nat} {Q : cg_S → Prop} {X : String → cg_S → Prop} (hC : CG a G ch) (hK : CK a G ch) (hW : GW G) (hy : ∀ aim s τ w, okA aim → v1 = i32 aim → s < G 0 0 → v2 = i32 s → whole G → CG τ G ch → CK τ G ch → mmb G aim w → AW τ (G 0 0) w → Q τ) (hx : ∀ e, why3 v1 v2 G e → X (exn e) a) : M_X11_findValues v1 v2 a Q X := by
  refine v_X11_findValues (c_needSolvable hC hW (fun aim s ha e1 hs e2 hw => ?_) hx)
  have k := hy aim s
  rw [e1] at k ⊢
  exact impW_all a G ch aim Q hC hK hW hw ha (fun τ w _ h1 h2 h3 h4 => k τ w ha rfl hs e2 hw h1 h2 h3 h4)
theorem c_asked {v1 v2 : Int32} {a : cg_S} {G : Gm} {ch : Nat} {Q : Int64 → Int64 → cg_S → Prop} {X : String → cg_S → Prop} (hC : CG a G ch) (hK : CK a G ch) (hW : GW G) (hy : ∀ aim s τ w n k, okA aim → v1 = i32 aim → s < G 0 0 → v2 = i32 s → whole G → CG τ G ch → CK τ G ch → mmb G aim w → 0 < k → k < 2 ^ 30 → n ≤ 162 * k → (w s).num = ((n : Nat) : Int) → (w s).den = k → Q (i64 ((n : Nat) : Int)) (i64 ((k : Nat) : Int)) τ) (hx : ∀ e, why3 v1 v2 G e → X (exn e) a) : M_X11_findValues v1 v2 a (fun s2 => M_X0_toldAbove v2 s2 (fun r4 s5 => M_X0_toldBelow v2 s5 (fun r7 s8 => Q r4 r7 s8))) X := by
  have hn7 := hW.1
  refine c_findValuesW hC hK hW (fun aim s τ w ha e1 hs e2 hw h1 h2 h3 h4 => ?_) hx
  rw [show M_X0_toldAbove v2 τ = M_X0_toldAbove (i32 s) τ by rw [e2]]
  refine (c_told hn7 h4.an hs).1 ?_
  rw [show M_X0_toldBelow v2 τ = M_X0_toldBelow (i32 s) τ by rw [e2]]
  refine (c_told hn7 h4.an hs).2 ?_
  obtain ⟨d, u, g1, g2, g3, g4⟩ := h4
  obtain ⟨k1, k2, k3⟩ := g4 s hs
  obtain ⟨n, k, l1, l2, l3, l4, l5⟩ := num_le g1 g2 k1
  rw [← k3] at l4 l5
  rw [l4, l5]
  exact hy aim s τ w n k ha e1 hs e2 hw h1 h2 h3 l1 l2 l3 l4 l5
theorem i64_n0 {k : Nat} (h : k < 2 ^ 30) (h0 : 0 < k) : ¬ i64 ((k : Nat) : Int) = 0 := fun z => by
  have e : (2 : Nat) ^ 30 = 1073741824 := by decide
  rw [l0, i64_eq (by omega) (by omega)] at z
  omega
theorem i64_dbl {m : Nat} (h : m < 2 ^ 40) : (2 : Int64) * i64 ((m : Nat) : Int) ≤ 0 ↔ m = 0 := by
  have e : (2 : Nat) ^ 40 = 1099511627776 := by decide
  have e2 : (2 : Int64) * i64 ((m : Nat) : Int) = i64 ((2 * m : Nat) : Int) := by
    have : (2 : Int64) = i64 2 := rfl
    rw [this, i64_mul]
    congr 1
  rw [e2, l0, i64_le (by omega) (by omega)]
  omega
