/-! MEANS in the class: solveReturns -/
section MN4
variable {σ : cg_S} {G : Gm} {ch : Nat}
/-- where nothing is gathered: outside closed sets, and at returns -/
noncomputable def NNr (G : Gm) (s : Nat) : Bool := @decide (¬ isClo G s ∨ rtn G s) (Classical.propDecidable _)
def KKr (G : Gm) (b s : Nat) : Nat := if b = 0 then 1 else (if s < G 0 0 then G 4 (mv (G 10) s) else 0)
theorem NNr_t {s : Nat} : NNr G s = true ↔ (¬ isClo G s ∨ rtn G s) := by
  unfold NNr
  exact @decide_eq_true_iff _ (Classical.propDecidable _)
theorem NNr_f {s : Nat} : NNr G s = false ↔ (isClo G s ∧ ¬ rtn G s) := by
  unfold NNr
  rw [decide_eq_false_iff_not]
  constructor
  · intro h
    exact ⟨Classical.byContradiction fun z => h (Or.inl z), fun z => h (Or.inr z)⟩
  · rintro ⟨h1, h2⟩ h
    rcases h with h | h
    · exact h h1
    · exact h2 h
theorem c_solveReturns {b nA : Nat} {A : Nat → Prop} {o oi : Nat → Nat} {Q : cg_S → Prop} (hb : b ≤ 1) (hC : CG σ G ch) (hW : GW G) (hw : whole G) (hCL : CLS σ G) (hO : ORD σ (G 0 0) nA A o oi) (hFT : FT (pmS o G (G 10) (NNr G) (fun _ => 0) 1 1 (fun s => ((KKr G b s : Nat) : Int))) (G 0 0)) (h : ∀ τ, Fr [] cL [] σ τ → CX τ (G 0 0) (pmS o G (G 10) (NNr G) (fun _ => 0) 1 1 (fun s => ((KKr G b s : Nat) : Int))) oi → Q τ) : M_X6_solveReturns 19 (i32 b) σ Q := by
  have hn := hW.1
  have hP := hO.pm
  have hp := told_2 hW
  refine v_X6_solveReturns (Or.inl rfl) ?_
  refine up (n := G 0 0) (fun k υ => Fr [] cL [] σ υ ∧ ∀ i, i < G 0 0 → o i < k → RAW υ (G 0 0) o (pmS o G (G 10) (NNr G) (fun _ => 0) 1 1 (fun s => ((KKr G b s : Nat) : Int))) i) (fun v υ => L_X6_solveReturns_2 19 (i32 b) v υ Q) ?_ ?_ 0 σ (by omega) ⟨Fr.rf σ, fun i _ hi => by omega⟩
  · rintro k υ hk7 ⟨hf, hr⟩ kk
    have hC2 := hC.fr hf (by decide)
    have hm : mv (G 10) k < 21 := mv_lt (show k < 7 by omega) (hp _ (by omega))
    have hCL2 : CLS υ G := fun s hs => by rw [hf.1 28 (by simp)]; exact hCL s hs
    have h4 := (hW.2.2.1 _ hm).1
    have h6 := (hW.2.2.1 _ hm).2.2.1
    have row : ∀ ω, Fr [] [60 + k] [] υ ω → (∀ t, t < G 0 0 → ω.2.1 (60 + k) t = i64 (if NNr G k then rowN 0 k t else rowS G (G 10) k ((KKr G b k : Nat) : Int) 1 1 t)) → ω.2.1 (60 + k) 7 = i64 (if NNr G k then rowN 0 k 7 else rowS G (G 10) k ((KKr G b k : Nat) : Int) 1 1 7) → L_X6_solveReturns_2 19 (i32 b) (i32 (k + 1)) ω Q := fun ω f1 f2 f3 => kk ω ⟨hf.tr (Fr.cl (by omega) f1), fun i hi hik => by
      by_cases c : o i = k
      · subst c
        exact raw_of hn hP hi f2 f3
      · exact (hr i hi (by omega)).fr f1 (by simp; omega)⟩
    have fx : (¬ isClo G k ∨ rtn G k) → L_X6_solveReturns_30 19 (i32 b) (i32 k) υ Q := fun hN => by
      have e := NNr_t.mpr hN
      refine v_X6_solveReturns_30 (Or.inl rfl) (c_fix (v := 0) (by omega) (fun ω f1 f2 f3 => ?_))
      rw [n1, i32_add]
      refine row ω f1 (fun t ht => ?_) ?_
      · rw [e]; exact f2 t (by omega)
      · rw [e]; exact f3
    refine v_X6_solveReturns_2 (Or.inl rfl) ?_
    rw [hC2.1.1]
    simp (disch := omega) only [n0, n1, n2, n3, n4, n5, n6, n7, n8, n9, n49, n97, n98, n114, n102, n115, n119, n109, n112, i32_add, i32_mul, i32_N, i32_le, i32_lt, i32_eq, vpi_iff]
    have z0 : i32 0 = 0 := rfl
    have hz := mk_zero (hCL2 k hk7)
    have e19 : υ.1 19 k = i32 (G 10 k) := (hC2.2.1 k (by omega)).2.2.2
    have g10 := hp k (by omega)
    refine ⟨fun z => by omega, fun _ => ⟨by omega, fun z => fx ?_, fun z => ?_⟩⟩
    · refine Or.inl (fun y => ?_)
      obtain ⟨t, ht, hst⟩ := rch_some hW hw hk7
      exact (hz.mp z) t (by omega) ⟨y, hst⟩
    · have hcl : isClo G k := Classical.byContradiction fun y => z (hz.mpr (fun t _ y2 => y y2.1))
      refine c_isReturn hW hw hk7 hCL2 (fun hrt => ⟨fun y => absurd y (by decide), fun _ => fx (Or.inr hrt)⟩) (fun hrt => ⟨fun _ => ⟨by omega, ?_⟩, fun y => absurd rfl y⟩)
      rw [e19]
      refine c_moveOf ?_
      have hN := NNr_f.mpr ⟨hcl, hrt⟩
      refine c_step (ov := 1) (un := 1) (c := ((KKr G b k : Nat) : Int)) (p := G 10) hC2 hW hk7 (show 3 * k + G 10 k < 21 from hm) rfl (by omega) (by omega) (fun ω f1 f2 f3 => ?_)
      have hC3 := hC2.fr f1 (by decide)
      have e24 : ω.1 24 (3 * k + G 10 k) = i32 (G 6 (mv (G 10) k)) := (hC3.2.2 _ hm).2.2.1
      have e22 : ω.1 22 (3 * k + G 10 k) = i32 (G 4 (mv (G 10) k)) := (hC3.2.2 _ hm).1
      have hm' : 3 * k + G 10 k < 21 := hm
      rw [i32_N (show 3 * k + G 10 k < 2147483648 by omega), e24, e22, i32_mul, i32_mul]
      have k69 : G 6 (mv (G 10) k) * G 4 (mv (G 10) k) ≤ 6 * 9 := Nat.mul_le_mul h6 h4
      have k61 : G 6 (mv (G 10) k) * 1 ≤ 6 * 1 := Nat.mul_le_mul h6 (Nat.le_refl 1)
      rw [i32_64 (by omega), i32_64 (by omega)]
      have fin : ∀ q : Nat, q = G 6 (mv (G 10) k) * KKr G b k → L_X6_solveReturns_2 19 (i32 b) (i32 (k + 1)) (cg_l ω (60 + k) 7 (i64 ((q : Nat) : Int))) Q := fun q hq => by
        refine row _ (f1.tr (Fr.l (by simp))) (fun t ht => ?_) ?_
        · rw [rl, if_pos rfl, if_neg (by omega), hN]; exact f2 t ht
        · rw [rl, if_pos rfl, if_pos rfl, hN, hq]
          congr 1
          show _ = rowS G (G 10) k ((KKr G b k : Nat) : Int) 1 1 7
          unfold rowS
          rw [if_pos rfl, Nat.one_mul, Int.natCast_mul]
      refine ⟨by omega, vpi hm' (by omega), fun y => ?_, fun y => ⟨vpi hm' (by omega), ?_⟩⟩
      · rintro _ rfl
        exact fin _ (by unfold KKr; rw [if_pos y])
      · rintro _ rfl
        exact fin _ (by unfold KKr; rw [if_neg y, if_pos hk7])
  · rintro υ ⟨hf, hr⟩
    have hC2 := hC.fr hf (by decide)
    refine v_X6_solveReturns_2 (Or.inl rfl) ?_
    rw [hC2.1.1]
    refine ⟨fun _ => ?_, fun z => absurd ((i32_le (by omega) (by omega)).mpr (Nat.le_refl _)) z⟩
    exact c_solveAll hw.1 hn (pmA_int sysA_int) (pm_Zm hW hp hP (Nat.le_refl 1)) hFT (hO.fr hf (by decide)) (fun i hi => hr i hi (hP.1 i hi).1) (fun τ' f1 f2 => h τ' (hf.tr f1) f2)
end MN4
