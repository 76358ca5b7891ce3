/-! THE CLASS'S CHAINS: the permuted system, its solution, its bounds -/
theorem hat_none {n : Nat} {A : Nat → Nat → Rat} (h : ∀ k, k < n → 0 < gB k A k k) : ∀ p, p < n → hdl A p = 0 := by
  intro p
  induction p using Nat.strongRecOn with
  | _ p ih =>
    intro hp
    have e : hatS A p = A := by
      funext i j
      rw [hatS_eq]
      split
      · rename_i c
        unfold hat
        rw [ih i c (by omega)]
        split <;> grind
      · rfl
    unfold hdl
    rw [e, if_neg (by have := h p hp; grind)]
/-- what longs hold on the way -/
def FT (A : Nat → Nat → Rat) (n : Nat) : Prop := (∀ k, k ≤ n → zfit (gD k (hat A)).num) ∧ (∀ p, p < n → (∀ k t, k < p → (t < n ∨ t = 7) → zfit ((gD k (hat A)).num * (gB (k + 1) (hatS A p) p t).num)) ∧ zfit (gB p (hatS A p) p p).num) ∧ ∀ i, i < n → (i + 1 < n → zfit ((gB i (hat A) i i).num * (gB n (hat A) i 7).num)) ∧ zfit (gB i (hat A) i i).num
theorem ft_of {A : Nat → Nat → Rat} {n : Nat} {a : Nat → Rat} {V : Rat} (hn : n ≤ 7) (hI : ∀ i j, isI (A i j)) (hZ : Zm n A) (ha1 : ∀ s, 1 ≤ a s) (ha : ∀ s, s < n → hat A s s ≤ a s) (hb : ∀ s, s < n → 0 ≤ A s 7) (h0 : ∀ s, s < n → rowOk n 7 (hat A) (fun t => gB n (hat A) t 7 / gD n (hat A)) s) (hS : ∀ p s, s < n → rowOk n 7 (hatS A p) (fun t => gB n (hat A) t 7 / gD n (hat A)) s) (hx0 : ∀ s, s < n → 0 ≤ gB n (hat A) s 7 / gD n (hat A)) (hxV : ∀ s, s < n → gB n (hat A) s 7 / gD n (hat A) ≤ V) (hV : 1 ≤ V) (hBD : BD n a V) : FT A n ∧ gD n (hat A) ≤ prR n a := by
  have hZh := hat_Zm hZ
  have hIh := isI_hat hI
  have hpv := hat_piv hZ
  have haS : ∀ p s, s < n → hatS A p s s ≤ a s := fun p s hs => by
    have h1 := ha s hs
    rw [hatS_eq]
    split
    · exact h1
    · have h2 : hat A s s = A s s + hdl A s := by unfold hat; rw [if_pos rfl]
      have := hdl_nn (A := A) s
      grind
  have hbS : ∀ p s, s < n → 0 ≤ hatS A p s 7 := fun p s hs => by rw [hatS_off (by omega)]; exact hb s hs
  have hbH : ∀ s, s < n → 0 ≤ hat A s 7 := fun s hs => by rw [hat_off (by omega)]; exact hb s hs
  have o2 := prR_one ha1 n
  have hV9 := hBD.2
  refine ⟨⟨fun k hk => fit_zD hIh hZh (Nat.le_refl n) hpv ha1 ha hV hBD hk, fun p hp => ?_, fun i hi => ?_⟩, fit_D hZh (Nat.le_refl n) hpv ha1 ha n (Nat.le_refl n)⟩
  · have hpS := hatS_piv hZ (Nat.le_of_lt hp)
    have hZs := hatS_Zm hZ p
    have hIs := isI_hatS hI p
    refine ⟨fun k t hk ht => ?_, ?_⟩
    · have h1 := fit_step hIs hZs (Nat.le_of_lt hp) hpS ha1 (haS p) (hbS p) (hS p) hx0 hxV hV hBD hk hk hp ht
      rw [(hatS_rows (A := A) (p := p) (k := k) (by omega)).1] at h1
      exact h1
    · have h1 := fit_ent hZs (Nat.le_of_lt hp) hpS ha1 (haS p) (hbS p) (hS p) hx0 hxV hV (k := p) (Nat.le_refl p) (Nat.le_refl p) hp (Or.inl hp)
      have h2 := prR_with ha1 (Nat.le_refl p) hp
      have h3 := Rat.mul_nonneg (a := prR n a - prR p a * a p) (b := V) (by grind) (by grind)
      exact zfit_of (fit_iB hIs hZs (Nat.le_of_lt hp) hpS (Nat.le_refl p) p p) (by grind) (by grind)
  · have e1 := fit_D hZh (Nat.le_refl n) hpv ha1 ha (i + 1) (by omega)
    rw [gD_succ] at e1
    have e2 := hpv i hi
    have e3 := prR_le ha1 (show i + 1 ≤ n by omega)
    have e4 := Rat.mul_nonneg (a := prR n a) (b := V - 1) (by grind) (by grind)
    have e5 := prR_one ha1 (i + 1)
    refine ⟨fun hi1 => ?_, zfit_of (fit_iB hIh hZh (Nat.le_refl n) hpv (by omega) i i) (by grind) (by grind)⟩
    have d0 := (gj_Z hZh (Nat.le_refl n) hpv).1 n (Nat.le_refl n)
    have d1 := fit_D hZh (Nat.le_refl n) hpv ha1 ha n (Nat.le_refl n)
    have x0 := hx0 i hi
    have xV := hxV i hi
    have e6 := hBD.1 i hi1
    have q1 : gB n (hat A) i 7 = gD n (hat A) * (gB n (hat A) i 7 / gD n (hat A)) := by grind
    generalize gB n (hat A) i 7 / gD n (hat A) = q at *
    have f1 := rat_mul_le (Rat.le_of_lt d0) x0 d1 xV
    have f2 := Rat.mul_nonneg (Rat.le_of_lt d0) x0
    have f3 := rat_mul_le (Rat.le_of_lt e2) f2 e1 f1
    have f4 := Rat.mul_nonneg (Rat.le_of_lt e2) f2
    refine zfit_of (x := gB i (hat A) i i * gB n (hat A) i 7) (by rw [Rat.intCast_mul, fit_iB hIh hZh (Nat.le_refl n) hpv (by omega), fit_iB hIh hZh (Nat.le_refl n) hpv (by omega)]) ?_ ?_
    · rw [q1]; grind
    · rw [q1]; grind
/-- the permuted system, a column of ones behind -/
def pmA (o : Nat → Nat) (A : Nat → Nat → Rat) (i j : Nat) : Rat := if j = 8 then 1 else if j = 7 then A (o i) 7 else A (o i) (o j)
def PM (n : Nat) (o oi : Nat → Nat) : Prop := (∀ i, i < n → o i < n ∧ oi (o i) = i) ∧ ∀ s, s < n → oi s < n ∧ o (oi s) = s
theorem ORD.pm {τ : cg_S} {n nA : Nat} {A : Nat → Prop} {o oi : Nat → Nat} (h : ORD τ n nA A o oi) : PM n o oi := ⟨fun i hi => ⟨(h.2.2.2.1 i hi).2.1, (h.2.2.2.1 i hi).2.2.1⟩, h.2.2.2.2⟩
theorem pmA_int {o : Nat → Nat} {A : Nat → Nat → Rat} (h : ∀ s t, isI (A s t)) (i j : Nat) : isI (pmA o A i j) := by
  unfold pmA
  split
  · exact ⟨1, rfl⟩
  · split
    · exact h _ _
    · exact h _ _
theorem pmA_lt {o : Nat → Nat} {A : Nat → Nat → Rat} {i j : Nat} (h : j < 7) : pmA o A i j = A (o i) (o j) := by unfold pmA; rw [if_neg (by omega), if_neg (by omega)]
theorem pmA_7 {o : Nat → Nat} {A : Nat → Nat → Rat} {i : Nat} : pmA o A i 7 = A (o i) 7 := by unfold pmA; rw [if_neg (by omega), if_pos rfl]
section PX
variable {G : Gm} {p : Nat → Nat} {N : Nat → Bool} {f c : Nat → Int} {ov un : Nat} {o oi : Nat → Nat}
theorem sysA_0 (hW : GW G) (hp : ∀ s, s < 7 → p s ≤ 2) {s t : Nat} (hs : s < G 0 0) (h1 : G 0 0 ≤ t) (h2 : t < 7) : sysA G p N f ov un c s t = 0 := by
  unfold sysA
  rw [if_pos hs]
  split
  · unfold rowN
    rw [if_neg (by omega), if_neg (by omega)]; rfl
  · rw [rowS_rat hW (mv_lt (by omega) (hp s (by omega))) h2, wtR_0 hW (mv_lt (by omega) (hp s (by omega))) h2 h1, if_neg (by omega)]
    grind
theorem pm_dot (hW : GW G) (hp : ∀ s, s < 7 → p s ≤ 2) (hP : PM (G 0 0) o oi) {x : Nat → Rat} {i : Nat} (hi : i < G 0 0) : sr (G 0 0) (fun j => pmA o (sysA G p N f ov un c) i j * x (o j)) = if N (o i) = false then ((un : Nat) : Rat) * (c_sm (G 0 0) (wtR G) (mv p (o i)) * x (o i)) - ((ov : Nat) : Rat) * c_ex (G 0 0) (wtR G) x (mv p (o i)) else x (o i) := by
  have hn := hW.1
  have ho := (hP.1 i hi).1
  rw [sr_congr (g := fun j => (fun t => sysA G p N f ov un c (o i) t * x t) (o j)) (fun j hj => by dsimp only; rw [pmA_lt (by omega)]), sr_perm (f := fun t => sysA G p N f ov un c (o i) t * x t) hP.1 hP.2, ← sr_cut hn (fun t h1 h2 => by rw [sysA_0 hW hp ho h1 h2]; grind), sysA_dot hW hp (by omega)]
  cases hN : N (o i)
  · rw [if_pos ⟨ho, rfl⟩, if_pos rfl]
  · rw [if_neg (by simp), if_neg (by simp)]
theorem pm_sum (hW : GW G) (hp : ∀ s, s < 7 → p s ≤ 2) (hP : PM (G 0 0) o oi) {i : Nat} (hi : i < G 0 0) : sr (G 0 0) (pmA o (sysA G p N f ov un c) i) = if N (o i) = false then (((un : Nat) : Rat) - ((ov : Nat) : Rat)) * c_sm (G 0 0) (wtR G) (mv p (o i)) else 1 := by
  have h := pm_dot (N := N) (f := f) (c := c) (ov := ov) (un := un) hW hp hP (x := fun _ => 1) hi
  rw [sr_congr (g := fun j => pmA o (sysA G p N f ov un c) i j * 1) (fun t _ => by grind), h]
  split
  · rw [c_ex_const]; grind
  · rfl
theorem pm_Zm (hW : GW G) (hp : ∀ s, s < 7 → p s ≤ 2) (hP : PM (G 0 0) o oi) (hou : ov ≤ un) : Zm (G 0 0) (pmA o (sysA G p N f ov un c)) := by
  have hn := hW.1
  refine ⟨fun s t hs ht hne => ?_, fun s hs => ?_⟩
  · rw [pmA_lt (by omega)]
    obtain ⟨a1, a2⟩ := hP.1 s hs
    obtain ⟨b1, b2⟩ := hP.1 t ht
    exact (sysA_Z hW hp hou).1 _ _ (by omega) (by omega) (fun e => hne (by rw [← a2, e, b2]))
  · rw [pm_sum hW hp hP hs]
    split
    · have h1 : ((ov : Nat) : Rat) ≤ ((un : Nat) : Rat) := Rat.natCast_le_natCast.mpr hou
      have := (hP.1 s hs).1
      rw [sm_eq hW (mv_lt (by omega) (hp _ (by omega)))]
      exact Rat.mul_nonneg (by grind) Rat.natCast_nonneg
    · decide
/-- what the class finds, by states -/
def pmX (n : Nat) (A : Nat → Nat → Rat) (oi : Nat → Nat) (s : Nat) : Rat := gB n (hat A) (oi s) 7 / gD n (hat A)
theorem pmX_o {n : Nat} {A : Nat → Nat → Rat} (hP : PM n o oi) : ∀ t, t < n → gB n (hat A) t 7 / gD n (hat A) = pmX n A oi (o t) := fun t ht => by unfold pmX; rw [(hP.1 t ht).2]
abbrev pmS (o : Nat → Nat) (G : Gm) (p : Nat → Nat) (N : Nat → Bool) (f : Nat → Int) (ov un : Nat) (c : Nat → Int) : Nat → Nat → Rat := pmA o (sysA G p N f ov un c)
theorem pm_rhs (hW : GW G) (hp : ∀ s, s < 7 → p s ≤ 2) {i : Nat} (hi : o i < G 0 0) : pmS o G p N f ov un c i 7 = if N (o i) = false then ((un : Nat) : Rat) * c_sm (G 0 0) (wtR G) (mv p (o i)) * ((c (o i) : Int) : Rat) else ((f (o i) : Int) : Rat) := by
  have hn := hW.1
  show pmA o (sysA G p N f ov un c) i 7 = _
  rw [pmA_7]
  unfold sysA
  rw [if_pos hi]
  cases hN : N (o i)
  · rw [if_pos rfl]
    simp only [Bool.false_eq_true, if_false]
    rw [rowS_rhs hW (mv_lt (by omega) (hp _ (by omega)))]
  · rw [if_pos rfl, if_neg (by decide)]
    unfold rowN
    rw [if_pos rfl]
theorem pm_sol (hW : GW G) (hw : whole G) (hpk : pkOk G p) (hp : ∀ s, s < 7 → p s ≤ 2) (hP : PM (G 0 0) o oi) (hou : ov ≤ un) (hz : (∀ s, s < G 0 0 → N s = false → ov = un → c s = 0) ∨ ∀ i, i < G 0 0 → hdl (pmS o G p N f ov un c) i = 0) : (∀ s, s < G 0 0 → (N s = true → pmX (G 0 0) (pmS o G p N f ov un c) oi s = ((f s : Int) : Rat)) ∧ (N s = false → ((un : Nat) : Rat) * (c_sm (G 0 0) (wtR G) (mv p s) * pmX (G 0 0) (pmS o G p N f ov un c) oi s) = ((ov : Nat) : Rat) * c_ex (G 0 0) (wtR G) (pmX (G 0 0) (pmS o G p N f ov un c) oi) (mv p s) + ((un : Nat) : Rat) * c_sm (G 0 0) (wtR G) (mv p s) * ((c s : Int) : Rat)) ∧ (hdl (pmS o G p N f ov un c) (oi s) ≠ 0 → pmX (G 0 0) (pmS o G p N f ov un c) oi s = 0)) ∧ (∀ s, s < G 0 0 → rowOk (G 0 0) 7 (hat (pmS o G p N f ov un c)) (fun t => gB (G 0 0) (hat (pmS o G p N f ov un c)) t 7 / gD (G 0 0) (hat (pmS o G p N f ov un c))) s) ∧ ∀ q s, s < G 0 0 → rowOk (G 0 0) 7 (hatS (pmS o G p N f ov un c) q) (fun t => gB (G 0 0) (hat (pmS o G p N f ov un c)) t 7 / gD (G 0 0) (hat (pmS o G p N f ov un c))) s := by
  have hn := hW.1
  have hZ := pm_Zm (N := N) (f := f) (c := c) hW hp hP hou
  have h0 := gj_sol (R := 7) (sys_ND (hat_piv hZ))
  have hok := pk_c hW hw hpk
  have hx0 : ∀ q, q < G 0 0 → hdl (pmS o G p N f ov un c) q ≠ 0 → gB (G 0 0) (hat (pmS o G p N f ov un c)) q 7 / gD (G 0 0) (hat (pmS o G p N f ov un c)) = 0 := by
    rcases hz with hz | hz
    · exact hat_x0 hZ hn (fun s hs he => by
        have ho := (hP.1 s hs).1
        rw [pm_sum hW hp hP hs] at he
        rw [pm_rhs hW hp ho]
        cases hN : N (o s)
        · rw [hN, if_pos rfl] at he
          rw [if_pos rfl]
          have h2 := (hok _ ho).2
          have h3 : un = ov := by
            rcases Rat.mul_eq_zero.mp he with h | h
            · have h4 : ((un : Nat) : Rat) = ((ov : Nat) : Rat) := by grind
              exact Rat.natCast_inj.mp h4
            · grind
          rw [hz _ ho hN h3.symm]
          simp
        · rw [hN, if_neg (by simp)] at he
          exact absurd he (by decide)) h0
    · exact fun q hq hne => absurd (hz q hq) hne
  obtain ⟨h1, h2⟩ := hat_xA hn hx0 h0
  refine ⟨fun s hs => ?_, h0, h2⟩
  obtain ⟨k1, k2⟩ := hP.2 s hs
  have h3 := h1 (oi s) k1
  unfold rowOk at h3
  rw [sr_congr (g := fun j => pmS o G p N f ov un c (oi s) j * pmX (G 0 0) (pmS o G p N f ov un c) oi (o j)) (fun j hj => by dsimp only; rw [pmX_o hP j hj]), pm_dot hW hp hP k1, k2, pm_rhs hW hp (by rw [k2]; exact hs), k2] at h3
  refine ⟨fun hN => ?_, fun hN => ?_, hx0 (oi s) k1⟩
  · rw [hN, if_neg (by simp), if_neg (by simp)] at h3
    exact h3
  · rw [hN, if_pos rfl, if_pos rfl] at h3
    grind
theorem pm_hdiag (hW : GW G) (hp : ∀ s, s < 7 → p s ≤ 2) (hP : PM (G 0 0) o oi) (hun : un ≤ 3) (hun1 : 1 ≤ un) {s : Nat} (hs : s < G 0 0) : hat (pmS o G p N f ov un c) s s ≤ ((6 * un : Nat) : Rat) + hdl (pmS o G p N f ov un c) s := by
  have hn := hW.1
  unfold hat
  rw [if_pos rfl]
  show pmA o (sysA G p N f ov un c) s s + _ ≤ _
  rw [pmA_lt (by omega)]
  have := sysA_diag (N := N) (f := f) (c := c) (ov := ov) hW hp hun hun1 (show o s < 7 by have := (hP.1 s hs).1; omega)
  grind
/-- a set of states that the chain never leaves, with steps alone, has a state with one more -/
theorem pm_noS {M : Nat → Prop} (hW : GW G) (hp : ∀ s, s < 7 → p s ≤ 2) (hP : PM (G 0 0) o oi) (hou : ov = un) (hM : ∃ s, s < G 0 0 ∧ M s) (hN : ∀ s, s < G 0 0 → M s → N s = false) (hcl : c_cl (G 0 0) (wtR G) (mv p) M) (h0 : ∀ s, s < G 0 0 → M s → hdl (pmS o G p N f ov un c) (oi s) = 0) : False := by
  have hn := hW.1
  subst hou
  obtain ⟨m, hm, hMm⟩ := hM
  refine hat_noS (A := pmS o G p N f ov ov c) (n := G 0 0) (R := 8) (S := fun i => M (o i)) (pm_Zm hW hp hP (Nat.le_refl _)) (by omega) (fun s _ => by show pmA _ _ s 8 = 1; unfold pmA; rw [if_pos rfl]) ⟨oi m, (hP.2 m hm).1, by rw [(hP.2 m hm).2]; exact hMm⟩ (fun s hs hMs => ?_) (fun s t hs hMs ht hMt => ?_) (fun s hs hMs => ?_)
  · rw [pm_sum hW hp hP hs, if_pos (hN _ (hP.1 s hs).1 hMs)]
    grind
  · have hos := (hP.1 s hs).1
    have hot := (hP.1 t ht).1
    show pmA o (sysA G p N f ov ov c) s t = 0
    rw [pmA_lt (by omega)]
    unfold sysA
    rw [if_pos hos, hN _ hos hMs]
    simp only [Bool.false_eq_true, if_false]
    rw [rowS_rat hW (mv_lt (by omega) (hp _ (by omega))) (by omega), if_neg (fun e => hMt (by rw [e]; exact hMs))]
    have h1 : wtR G (mv p (o s)) (o t) = 0 := Classical.byContradiction fun hne => hMt (hcl _ hos hMs _ hot hne)
    rw [h1]; grind
  · have := h0 (o s) (hP.1 s hs).1 hMs
    rw [(hP.1 s hs).2] at this
    exact this
end PX
/-- numbers that are means of what comes next, in a set that is never left: nought, if no set of others than nought is never left -/
theorem harm_le {n : Nat} {wt : Nat → Nat → Rat} {p : Nat → Nat} {U : Nat → Prop} {x : Nat → Rat} (hok : c_ok n wt p) (hcl : c_cl n wt p U) (hx : ∀ s, s < n → U s → c_sm n wt (p s) * x s = c_ex n wt x (p s)) (hno : ∀ M : Nat → Prop, (∃ s, s < n ∧ M s) → (∀ s, M s → U s) → c_cl n wt p M → (∀ s, s < n → M s → x s ≠ 0) → False) : ∀ s, s < n → U s → x s ≤ 0 := by
  intro s hs hU
  refine Classical.byContradiction fun hpos => ?_
  obtain ⟨m, hm, hUm, hmax⟩ := c_maxS x ⟨s, hs, hU⟩
  have hm0 : 0 < x m := by have := hmax s hs hU; grind
  classical
  refine hno (fun u => U u ∧ x u = x m) ⟨m, hm, hUm, rfl⟩ (fun u h => h.1) (fun u hu hM t ht hw => ?_) (fun u _ hM e => by rw [hM.2] at e; grind)
  have hUt := hcl u hu hM.1 t ht hw
  refine ⟨hUt, ?_⟩
  have hex : c_ex n wt x (p u) = c_ex n wt (fun t => if U t then x t else x m) (p u) := sr_congr (fun t ht => by
    by_cases c : U t
    · dsimp only; rw [if_pos c]
    · have : wt (p u) t = 0 := Classical.byContradiction fun hw => c (hcl u hu hM.1 t ht hw)
      rw [this]; grind)
  have h1 := c_maxp (n := n) (wt := wt) (y := fun t => if U t then x t else x m) (M := x m) (s := u) (m := p u) (hok u hu).1 (fun t ht => by
    split
    · rename_i c; exact hmax t ht c
    · exact Rat.le_refl) (by rw [if_pos hM.1]; exact hM.2) (by
    rw [← hex, if_pos hM.1, hx u hu hM.1]; exact Rat.le_refl) t ht hw
  rw [if_pos hUt] at h1
  exact h1
theorem harm0 {n : Nat} {wt : Nat → Nat → Rat} {p : Nat → Nat} {U : Nat → Prop} {x : Nat → Rat} (hok : c_ok n wt p) (hcl : c_cl n wt p U) (hx : ∀ s, s < n → U s → c_sm n wt (p s) * x s = c_ex n wt x (p s)) (hno : ∀ M : Nat → Prop, (∃ s, s < n ∧ M s) → (∀ s, M s → U s) → c_cl n wt p M → (∀ s, s < n → M s → x s ≠ 0) → False) : ∀ s, s < n → U s → x s = 0 := by
  intro s hs hU
  have h1 := harm_le hok hcl hx hno s hs hU
  have h2 := harm_le (x := fun t => -x t) hok hcl (fun u hu hUu => by
    have := hx u hu hUu
    have e : c_ex n wt (fun t => -x t) (p u) = -c_ex n wt x (p u) := by
      unfold c_ex
      rw [← sr_neg]
      exact sr_congr (fun t _ => by grind)
    rw [e]; grind) (fun M h1 h2 h3 h4 => hno M h1 h2 h3 (fun u hu hM e => h4 u hu hM (by rw [e]; grind))) s hs hU
  grind
section RX
variable {G : Gm} {p : Nat → Nat} {N : Nat → Bool} {T : Nat → Prop} {o oi : Nat → Nat}
abbrev rchP (o : Nat → Nat) (G : Gm) (p : Nat → Nat) (N : Nat → Bool) : Nat → Nat → Rat := pmS o G p N (fun _ => 1) 1 1 (fun _ => 0)
/-- the chances to reach T, by the class's rows -/
theorem pm_reach (hW : GW G) (hw : whole G) (hpk : pkOk G p) (hp : ∀ s, s < 7 → p s ≤ 2) (hP : PM (G 0 0) o oi) (hN : ∀ s, s < G 0 0 → (N s = true ↔ T s)) : SolR (G 0 0) (wtR G) (mv p) T (pmX (G 0 0) (rchP o G p N) oi) ∧ FT (rchP o G p N) (G 0 0) ∧ gD (G 0 0) (hat (rchP o G p N)) ≤ 612220032 := by
  have hn := hW.1
  obtain ⟨h1, h2, h3⟩ := pm_sol (N := N) (f := fun _ => 1) (ov := 1) (un := 1) (c := fun _ => 0) hW hw hpk hp hP (Nat.le_refl 1) (Or.inl (fun _ _ _ _ => rfl))
  have hok := pk_c hW hw hpk
  have hF : ∀ s, s < G 0 0 → ¬ T s → N s = false := fun s hs hT => by
    cases h : N s
    · rfl
    · exact absurd ((hN s hs).mp h) hT
  have hst : ∀ s, s < G 0 0 → ¬ T s → c_sm (G 0 0) (wtR G) (mv p s) * pmX (G 0 0) (rchP o G p N) oi s = c_ex (G 0 0) (wtR G) (pmX (G 0 0) (rchP o G p N) oi) (mv p s) := fun s hs hT => by
    have h := (h1 s hs).2.1 (hF s hs hT)
    have e1 : ((1 : Nat) : Rat) = 1 := rfl
    have e0 : (((0 : Int)) : Rat) = 0 := rfl
    rw [e1, e0] at h
    grind
  have hS : SolR (G 0 0) (wtR G) (mv p) T (pmX (G 0 0) (rchP o G p N) oi) := by
    refine ⟨fun s hs hT => ?_, hst, fun s hs hc => ?_⟩
    · rw [(h1 s hs).1 ((hN s hs).mpr hT)]; rfl
    · refine harm0 (U := fun u => ¬ c_can (G 0 0) (wtR G) (mv p) T u ∧ u < G 0 0) hok (fun u hu hU t ht hwt => ⟨fun z => hU.1 (c_can_of_step hu ht hwt z), ht⟩) (fun u hu hU => hst u hu (fun hT => hU.1 (c_can_T hu hT))) (fun M hM hMU hcl hne => ?_) s hs ⟨hc, hs⟩
      refine pm_noS (N := N) (f := fun _ => 1) (ov := 1) (un := 1) (c := fun _ => 0) hW hp hP rfl hM (fun u hu hMu => hF u hu (fun hT => (hMU u hMu).1 (c_can_T hu hT))) hcl (fun u hu hMu => ?_)
      exact Classical.byContradiction fun hd => hne u hu hMu ((h1 u hu).2.2 hd)
  refine ⟨hS, ?_⟩
  have x0 := solR_nonneg hok hS
  have x1 := solR_le_one hok hS
  have hdn : prR (G 0 0) (fun _ => (7 : Rat)) ≤ 612220032 := by
    rw [prR_const]
    have e2 := rat_pow_le (a := 7) (by decide) (show G 0 0 ≤ 7 by omega)
    have e4 : (7 : Rat) ^ 7 ≤ 612220032 := by decide +kernel
    grind
  refine (fun (z : FT (rchP o G p N) (G 0 0) ∧ _) => ⟨z.1, Rat.le_trans z.2 hdn⟩) (ft_of (a := fun _ => 7) (V := 1) hn (pmA_int sysA_int) (pm_Zm hW hp hP (Nat.le_refl 1)) (fun _ => by decide) (fun s hs => ?_) (fun s hs => ?_) h2 h3 (fun s hs => ?_) (fun s hs => ?_) Rat.le_refl ⟨fun i hi => ?_, ?_⟩)
  · have := pm_hdiag (N := N) (f := fun _ => 1) (ov := 1) (un := 1) (c := fun _ => 0) hW hp hP (by decide) (by decide) hs
    have e : ((6 * 1 : Nat) : Rat) = 6 := rfl
    rw [e] at this
    rcases hdl_01 (A := rchP o G p N) s with z | z
    · rw [z] at this; grind
    · rw [z] at this; grind
  · have ho := (hP.1 s hs).1
    show 0 ≤ pmS o G p N (fun _ => 1) 1 1 (fun _ => 0) s 7
    rw [pm_rhs hW hp ho]
    split
    · have e0 : (((0 : Int)) : Rat) = 0 := rfl
      rw [e0]; grind
    · decide
  · rw [pmX_o hP s hs]; exact x0 _ (hP.1 s hs).1
  · rw [pmX_o hP s hs]; exact x1 _ (hP.1 s hs).1
  · rw [prR_const, prR_const]
    have e1 := rat_pow_le (a := 7) (by decide) (show i + 1 ≤ 7 by omega)
    have e2 := rat_pow_le (a := 7) (by decide) (show G 0 0 ≤ 7 by omega)
    have e3 := rat_mul_le (a := 7 ^ (i + 1)) (c := 7 ^ (G 0 0)) (by have := rat_pow_one (a := 7) (by decide) (i + 1); grind) (by have := rat_pow_one (a := 7) (by decide) (G 0 0); grind) e1 e2
    have e4 : (7 : Rat) ^ 7 * 7 ^ 7 ≤ 9000000000000000000 := by decide +kernel
    grind
  · rw [prR_const]
    have e2 := rat_pow_le (a := 7) (by decide) (show G 0 0 ≤ 7 by omega)
    have e4 : (7 : Rat) ^ 7 ≤ 9000000000000000000 := by decide +kernel
    grind
/-- discounted costs, by the class's rows -/
abbrev costP (o : Nat → Nat) (G : Gm) (p : Nat → Nat) (aim : Nat) : Nat → Nat → Rat := pmS o G p (fun _ => false) (fun _ => 1) (G 9 0) (G 9 1) (fun s => ((costG G aim (mv p s) : Nat) : Int))
theorem gX_le {aim : Nat} {x : Nat → Rat} (hW : GW G) (hw : whole G) (hpk : pkOk G p) (hp : ∀ s, s < 7 → p s ≤ 2) (hx : gX G aim (mv p) x) : ∀ s, s < G 0 0 → x s ≤ 162 := fun s hs => by
  have hn := hW.1
  by_cases c : aim = 114
  · unfold gX at hx
    rw [if_pos c] at hx
    exact Rat.le_trans (solR_le_one (pk_c hW hw hpk) hx s hs) (by decide)
  · obtain ⟨h0, hS, h1⟩ := cost_sol (aim := aim) hW hw hpk hp
    have hy : gX G aim (mv p) (fun t => gB 7 (costA G p aim) t 7 / gD 7 (costA G p aim)) := by
      unfold gX
      rw [if_neg c]
      exact hS
    rw [gX_uniq hW hw (mv_pk hpk) hx hy s hs]
    exact (h1 s (by omega)).2
theorem pm_cost {aim : Nat} (hW : GW G) (hw : whole G) (hpk : pkOk G p) (hp : ∀ s, s < 7 → p s ≤ 2) (hP : PM (G 0 0) o oi) (ha : aim ≠ 114) : gX G aim (mv p) (pmX (G 0 0) (costP o G p aim) oi) ∧ FT (costP o G p aim) (G 0 0) ∧ gD (G 0 0) (hat (costP o G p aim)) ≤ 612220032 := by
  have hn := hW.1
  have hd := disc hW
  have hok := pk_c hW hw hpk
  have hou : G 9 0 ≤ G 9 1 := Nat.le_of_lt hW.2.2.2.1.1
  have hZ := pm_Zm (p := p) (N := fun _ => false) (f := fun _ => 1) (c := fun s => ((costG G aim (mv p s) : Nat) : Int)) hW hp hP hou
  have hno : ∀ q, q < G 0 0 → hdl (costP o G p aim) q = 0 := hat_none (sys_piv hZ (fun S hS hS7 hsum _ => by
    obtain ⟨m, hm, hSm⟩ := hS
    have h1 := hsum m hSm
    rw [pm_sum hW hp hP hm, if_pos rfl] at h1
    have h2 := (hok _ (hP.1 m hm).1).2
    rcases Rat.mul_eq_zero.mp h1 with h | h
    · have := hd.1; grind
    · grind))
  obtain ⟨h1, h2, h3⟩ := pm_sol (N := fun _ => false) (f := fun _ => 1) (ov := G 9 0) (un := G 9 1) (c := fun s => ((costG G aim (mv p s) : Nat) : Int)) hW hw hpk hp hP hou (Or.inr hno)
  have hS : gX G aim (mv p) (pmX (G 0 0) (costP o G p aim) oi) := by
    unfold gX
    rw [if_neg ha]
    intro s hs
    have h := (h1 s hs).2.1 rfl
    unfold KG
    rw [Rat.intCast_natCast] at h
    exact h
  refine ⟨hS, ?_⟩
  have x0 := gX_nonneg hW hw (mv_pk hpk) hS
  have x1 := gX_le hW hw hpk hp hS
  have d6' := d6 hW
  have hdn : prR (G 0 0) (fun _ => (18 : Rat)) ≤ 612220032 := by
    rw [prR_const]
    have e2 := rat_pow_le (a := 18) (by decide) (show G 0 0 ≤ 7 by omega)
    have e4 : (18 : Rat) ^ 7 ≤ 612220032 := by decide +kernel
    grind
  refine (fun (z : FT (costP o G p aim) (G 0 0) ∧ _) => ⟨z.1, Rat.le_trans z.2 hdn⟩) (ft_of (a := fun _ => 18) (V := 162) hn (pmA_int sysA_int) hZ (fun _ => by decide) (fun s hs => ?_) (fun s hs => ?_) h2 h3 (fun s hs => ?_) (fun s hs => ?_) (by decide) ⟨fun i hi => ?_, ?_⟩)
  · have := pm_hdiag (N := fun _ => false) (f := fun _ => 1) (ov := G 9 0) (un := G 9 1) (c := fun s => ((costG G aim (mv p s) : Nat) : Int)) hW hp hP hW.2.2.2.1.2.2 (by have := hW.2.2.2.1; omega) hs
    rw [hno s hs] at this
    grind
  · have ho := (hP.1 s hs).1
    show 0 ≤ pmS o G p (fun _ => false) (fun _ => 1) (G 9 0) (G 9 1) (fun s => ((costG G aim (mv p s) : Nat) : Int)) s 7
    rw [pm_rhs hW hp ho, if_pos rfl, Rat.intCast_natCast]
    exact Rat.mul_nonneg (Rat.mul_nonneg Rat.natCast_nonneg (Rat.le_of_lt (hok _ ho).2)) Rat.natCast_nonneg
  · rw [pmX_o hP s hs]; exact x0 _ (hP.1 s hs).1
  · rw [pmX_o hP s hs]; exact x1 _ (hP.1 s hs).1
  · rw [prR_const, prR_const]
    have e1 := rat_pow_le (a := 18) (by decide) (show i + 1 ≤ 6 by omega)
    have e2 := rat_pow_le (a := 18) (by decide) (show G 0 0 ≤ 7 by omega)
    have e3 := rat_mul_le (a := 18 ^ (i + 1)) (c := 18 ^ (G 0 0)) (by have := rat_pow_one (a := 18) (by decide) (i + 1); grind) (by have := rat_pow_one (a := 18) (by decide) (G 0 0); grind) e1 e2
    have e4 : (18 : Rat) ^ 6 * 18 ^ 7 * 162 ≤ 9000000000000000000 := by decide +kernel
    grind
  · rw [prR_const]
    have e2 := rat_pow_le (a := 18) (by decide) (show G 0 0 ≤ 7 by omega)
    have e4 : (18 : Rat) ^ 7 * 162 ≤ 9000000000000000000 := by decide +kernel
    grind
end RX
