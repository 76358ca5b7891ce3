/-! MEANS in the class: no pivot vanishes where each state comes to a number row; returns -/
section MN1
variable {G : Gm} {p : Nat → Nat} {o oi : Nat → Nat}
theorem pm_none {N : Nat → Bool} {f c : Nat → Int} (hW : GW G) (hp : ∀ s, s < 7 → p s ≤ 2) (hP : PM (G 0 0) o oi) (hcan : ∀ s, s < G 0 0 → c_can (G 0 0) (wtR G) (mv p) (fun s => N s = true) s) : ∀ q, q < G 0 0 → hdl (pmS o G p N f 1 1 c) q = 0 := by
  have hn := hW.1
  have hZ := pm_Zm (p := p) (N := N) (f := f) (c := c) (ov := 1) (un := 1) hW hp hP (Nat.le_refl 1)
  refine hat_none (sys_piv hZ (fun S hS hS7 hsum hoff => ?_))
  obtain ⟨m, hm, hSm⟩ := hS
  have nN : ∀ i, i < G 0 0 → S i → N (o i) = false := fun i hi hSi => by
    have h1 := hsum i hSi
    rw [pm_sum hW hp hP hi] at h1
    cases h : N (o i) with
    | false => rfl
    | true =>
      rw [h, if_neg (by decide)] at h1
      exact absurd h1 (by decide)
  obtain ⟨t, ht, hSt, hNt⟩ := hcan (o m) (hP.1 m hm).1 (fun s => S (oi s)) (by show S (oi (o m)); rw [(hP.1 m hm).2]; exact hSm) (fun s hs hSs t ht hwt => Classical.byContradiction fun hno => by
    have hos := (hP.2 s hs).1
    have hot := (hP.2 t ht).1
    have h1 := hoff (oi s) (oi t) hSs hot hno
    have hNs := nN (oi s) hos hSs
    rw [(hP.2 s hs).2] at hNs
    unfold pmS at h1
    rw [pmA_lt (by omega), (hP.2 s hs).2, (hP.2 t ht).2] at h1
    unfold sysA at h1
    rw [if_pos hs, hNs] at h1
    simp only [Bool.false_eq_true, if_false] at h1
    rw [rowS_rat hW (mv_lt (by omega) (hp s (by omega))) (by omega), if_neg (fun e => hno (by rw [e]; exact hSs))] at h1
    apply hwt
    have e1 : ((1 : Nat) : Rat) = 1 := rfl
    rw [e1] at h1
    grind)
  have := nN (oi t) (hP.2 t ht).1 hSt
  rw [(hP.2 t ht).2, hNt] at this
  exact absurd this (by decide)
end MN1
section MN2
variable {σ : cg_S} {G : Gm} {ch : Nat}
theorem c_isReturn {s : Nat} {Q : Int32 → cg_S → Prop} (hW : GW G) (hw : whole G) (hs : s < G 0 0) (hCL : CLS σ G) (hy : rtn G s → Q 1 σ) (hno : ¬ rtn G s → Q 0 σ) : M_X6_isReturn (i32 s) σ Q := by
  have hn := hW.1
  have hm := hCL s hs
  have hz := mk_zero hm
  refine v_X6_isReturn ?_
  simp (disch := omega) only [n0, n1, n2, n3, n4, n5, n6, n7, n8, n9, n49, n97, n98, n114, n102, n115, n119, n109, n112, i32_add, i32_mul, i32_N, i32_le, i32_lt, i32_eq, vpi_iff]
  have z0 : i32 0 = 0 := rfl
  rw [z0, hz]
  refine ⟨by omega, fun z => hno (fun y => ?_), fun z => ⟨by omega, c_ntz hm (fun e => z (hz.mp e)) (fun t ht hP hlow => ?_)⟩⟩
  · exact z s (by omega) ⟨y.1, y.2.2.1⟩
  · rw [i32_eq (by omega) (by omega)]
    have hl : cloL G s t := ⟨rch_lt hP.2, hP.2, fun u hu hr => hlow u hu ⟨hP.1, hr⟩⟩
    refine ⟨fun e => hno (fun y => e (cloL_uniq hl y.2)), fun e => hy ⟨hP.1, by rw [e] at hl; exact hl⟩⟩
end MN2
