/-! MEANS: the chances of closed sets, and the sum over them -/
theorem gB_coln {n : Nat} {A B : Nat → Nat → Rat} (h : ∀ i j, i < n → j < n → A i j = B i j) : ∀ k, k ≤ n → gD k A = gD k B ∧ ∀ s t, s < n → t < n → gB k A s t = gB k B s t := by
  intro k
  induction k with
  | zero => intro _; exact ⟨rfl, fun s t hs ht => h s t hs ht⟩
  | succ k ih =>
    intro hk
    obtain ⟨h1, h2⟩ := ih (by omega)
    refine ⟨by rw [gD_succ, gD_succ, h2 k k (by omega) (by omega)], fun s t hs ht => ?_⟩
    rw [gB_succ, gB_succ, h1, h2 s t hs ht, h2 k k (by omega) (by omega), h2 s k hs (by omega), h2 k t (by omega) ht]
theorem hatS_coln {n : Nat} {A B : Nat → Nat → Rat} (h : ∀ i j, i < n → j < n → A i j = B i j) : ∀ q, q ≤ n → ∀ i j, i < n → j < n → hatS A q i j = hatS B q i j := by
  intro q
  induction q with
  | zero => intro _ i j hi hj; exact h i j hi hj
  | succ q ih =>
    intro hq i j hi hj
    have e := (gB_coln (ih (by omega)) q (by omega)).2 q q (by omega) (by omega)
    show hatS A q i j + _ = hatS B q i j + _
    rw [ih (by omega) i j hi hj, e]
theorem gD_coln {n : Nat} {A B : Nat → Nat → Rat} (h : ∀ i j, i < n → j < n → A i j = B i j) : gD n (hat A) = gD n (hat B) := by
  refine (gB_coln (A := hat A) (B := hat B) (fun i j hi hj => ?_) n (Nat.le_refl n)).1
  have e : hdl A i = hdl B i := by
    unfold hdl
    rw [(gB_coln (hatS_coln h i (by omega)) i (by omega)).2 i i hi hi]
  unfold hat
  rw [h i j hi hj, e]
/-- what a state's number is, the divisor doesn't see -/
theorem gD_pm {G : Gm} {o oi : Nat → Nat} {N : Nat → Bool} {f f' c c' : Nat → Int} (hn : G 0 0 ≤ 7) (hP : PM (G 0 0) o oi) : gD (G 0 0) (hat (pmS o G (G 10) N f 1 1 c)) = gD (G 0 0) (hat (pmS o G (G 10) N f' 1 1 c')) := gD_coln (fun i j hi hj => by
  show pmA o _ i j = pmA o _ i j
  rw [pmA_lt (by omega), pmA_lt (by omega)]
  have := (hP.1 j hj).1
  exact sysA_col (o i) (o j) (by omega))
section SUM
variable {G : Gm}
noncomputable def CB (G : Gm) (s : Nat) : Bool := @decide (isClo G s) (Classical.propDecidable _)
theorem CB_t {s : Nat} : CB G s = true ↔ isClo G s := by
  unfold CB
  exact @decide_eq_true_iff _ (Classical.propDecidable _)
theorem CB_f {s : Nat} : CB G s = false ↔ ¬ isClo G s := by
  unfold CB
  rw [decide_eq_false_iff_not]
theorem CB_can (hW : GW G) (hw : whole G) : ∀ s, s < G 0 0 → c_can (G 0 0) (wtR G) (mv (G 10)) (fun s => CB G s = true) s := fun s hs => by
  obtain ⟨t, ht, h1, h2⟩ := clo_ex hW hw hs
  exact can_rt h1 hs ht (CB_t.mpr h2)
theorem RC_self {s t : Nat} (hs : s < G 0 0) (hc : isClo G s) (h : RC G s t) : RC G s s := rch_tr (rch_lt h) h (hc t h)
theorem RC_clo {s t : Nat} (hs : s < G 0 0) (hc : isClo G s) (h : RC G s t) : isClo G t := fun u hu => rch_tr hs (hc u (rch_tr (rch_lt h) h hu)) h
theorem rtn_uq {b h t : Nat} (hb : rtn G b) (hh : rtn G h) (h1 : RC G b t) (h2 : RC G h t) : b = h := by
  have ht : t < G 0 0 := rch_lt h1
  have bh : RC G b h := rch_tr ht h1 (hh.1 t h2)
  have hb2 : RC G h b := hb.1 h bh
  have a1 := hb.2.2.2 h
  have a2 := hh.2.2.2 b
  rcases Nat.lt_trichotomy b h with e | e | e
  · exact absurd hb2 (a2 e)
  · exact e
  · exact absurd bh (a1 e)
/-- only closed sets' states have numbers in the system of chances -/
noncomputable abbrev chP (G : Gm) (o : Nat → Nat) (f : Nat → Int) : Nat → Nat → Rat := pmS o G (G 10) (CB G) f 1 1 (fun _ => 0)
theorem ch_none {o oi : Nat → Nat} {f : Nat → Int} (hW : GW G) (hw : whole G) (hP : PM (G 0 0) o oi) : ∀ q, q < G 0 0 → hdl (chP G o f) q = 0 := pm_none hW (told_2 hW) hP (CB_can hW hw)
noncomputable def w6 (G : Gm) (s : Nat) : Rat := @ite Rat (isClo G s ∨ G 0 0 ≤ s) (Classical.propDecidable _) 1 6
theorem w6_1 (s : Nat) : 1 ≤ w6 G s := by
  unfold w6
  split <;> decide
theorem w6_6 (s : Nat) : w6 G s ≤ 6 := by
  unfold w6
  split <;> decide
theorem ch_diag {o oi : Nat → Nat} {f : Nat → Int} (hW : GW G) (hw : whole G) (hP : PM (G 0 0) o oi) : ∀ s, s < G 0 0 → hat (chP G o f) s s ≤ w6 G (o s) := fun s hs => by
  have hn := hW.1
  have ho := (hP.1 s hs).1
  have hno := ch_none (f := f) hW hw hP s hs
  by_cases c : isClo G (o s)
  · unfold w6
    rw [if_pos (Or.inl c)]
    unfold hat
    rw [if_pos rfl, hno, Rat.add_zero]
    show pmA o (sysA G (G 10) (CB G) f 1 1 (fun _ => 0)) s s ≤ 1
    rw [pmA_lt (by omega)]
    unfold sysA
    rw [if_pos ho, if_pos (CB_t.mpr c)]
    unfold rowN
    rw [if_neg (by omega), if_pos rfl]
    decide
  · unfold w6
    rw [if_neg (show ¬ (isClo G (o s) ∨ G 0 0 ≤ o s) from fun z => z.elim c (fun z => by omega))]
    have := pm_hdiag (N := CB G) (f := f) (ov := 1) (un := 1) (c := fun _ => 0) hW (told_2 hW) hP (by omega) (by omega) hs
    rw [hno] at this
    have e : ((6 * 1 : Nat) : Rat) = 6 := rfl
    rw [e] at this
    grind
theorem ch_D {o oi : Nat → Nat} {f : Nat → Int} (hW : GW G) (hw : whole G) (hP : PM (G 0 0) o oi) : gD (G 0 0) (hat (chP G o f)) ≤ prR (G 0 0) (w6 G) := by
  have hZ := pm_Zm (p := G 10) (N := CB G) (f := f) (c := fun _ => 0) (ov := 1) (un := 1) hW (told_2 hW) hP (Nat.le_refl 1)
  have := fit_D (a := fun i => w6 G (o i)) (hat_Zm hZ) (Nat.le_refl _) (hat_piv hZ) (fun s => w6_1 _) (ch_diag hW hw hP) (G 0 0) (Nat.le_refl _)
  rw [prR_perm hP.1 hP.2] at this
  exact this
/-- what the system says -/
theorem ch_sol {o oi : Nat → Nat} {f : Nat → Int} (hW : GW G) (hw : whole G) (hP : PM (G 0 0) o oi) : ∀ s, s < G 0 0 → (isClo G s → pmX (G 0 0) (chP G o f) oi s = ((f s : Int) : Rat)) ∧ (¬ isClo G s → c_sm (G 0 0) (wtR G) (mv (G 10) s) * pmX (G 0 0) (chP G o f) oi s = c_ex (G 0 0) (wtR G) (pmX (G 0 0) (chP G o f) oi) (mv (G 10) s)) := fun s hs => by
  obtain ⟨h1, -⟩ := pm_sol (N := CB G) (f := f) (ov := 1) (un := 1) (c := fun _ => 0) hW hw (told_ok hW hw) (told_2 hW) hP (Nat.le_refl 1) (Or.inr (ch_none hW hw hP))
  refine ⟨fun hc => (h1 s hs).1 (CB_t.mpr hc), fun hc => ?_⟩
  have := (h1 s hs).2.1 (CB_f.mpr hc)
  have e1 : ((1 : Nat) : Rat) = 1 := rfl
  have e0 : (((0 : Int)) : Rat) = 0 := rfl
  rw [e1, e0] at this
  grind
/-- the chances to come into each closed set, and their common divisor -/
theorem chance_ex (hW : GW G) (hw : whole G) : ∃ (D : Nat) (q : Nat → Nat → Rat), 0 < D ∧ ((D : Nat) : Rat) ≤ prR (G 0 0) (w6 G) ∧ ∀ b, rtn G b → SolR (G 0 0) (wtR G) (mv (G 10)) (RC G b) (q b) ∧ ∀ s, s < G 0 0 → isI (((D : Nat) : Rat) * q b s) := by
  have hn := hW.1
  have hP := id_PM (G 0 0)
  have hZ := fun f => pm_Zm (p := G 10) (N := CB G) (f := f) (c := fun _ => 0) (ov := 1) (un := 1) hW (told_2 hW) hP (Nat.le_refl 1)
  have hI : ∀ (f : Nat → Int) i j, isI (chP G id f i j) := fun f => pmA_int sysA_int
  obtain ⟨d1, d2, d3⟩ := hat_D (hI (fun _ => 0)) (hZ (fun _ => 0)) (Nat.le_refl (G 0 0))
  have dn : ((((gD (G 0 0) (hat (chP G id (fun _ => 0)))).num.toNat : Nat) : Int)) = (gD (G 0 0) (hat (chP G id (fun _ => 0)))).num := Int.toNat_of_nonneg (by omega)
  have dr : ((((gD (G 0 0) (hat (chP G id (fun _ => 0)))).num.toNat : Nat)) : Rat) = gD (G 0 0) (hat (chP G id (fun _ => 0))) := by rw [← Rat.intCast_natCast, dn, d2]
  refine ⟨(gD (G 0 0) (hat (chP G id (fun _ => 0)))).num.toNat, fun b => pmX (G 0 0) (chP G id (fun s => if NNh G b s = true ∧ s ≠ b then 0 else 1)) id, by omega, by rw [dr]; exact ch_D hW hw hP, fun b hb => ?_⟩
  dsimp only
  have fT : ∀ s, (if NNh G b s = true ∧ s ≠ b then (0 : Int) else 1) = if NNh G b s = true ∧ s ≠ b then 0 else 1 := fun _ => rfl
  have f1 : ∀ s, RC G b s → (((if NNh G b s = true ∧ s ≠ b then (0 : Int) else 1) : Int) : Rat) = 1 := fun s hs => by
    rw [if_neg]
    · rfl
    · rintro ⟨z1, z2⟩
      rcases NNh_t.mp z1 with z | z
      · exact z2 z
      · exact z hs
  have f0 : ∀ s, ¬ RC G b s → (((if NNh G b s = true ∧ s ≠ b then (0 : Int) else 1) : Int) : Rat) = 0 := fun s hs => by
    rw [if_pos]
    · rfl
    · exact ⟨NNh_t.mpr (Or.inr hs), fun e => hs (by rw [e]; exact hb.2.2.1)⟩
  have hbn := hb.2.1
  have h1 := ch_sol (f := fun s => if NNh G b s = true ∧ s ≠ b then 0 else 1) hW hw hP
  have dcol : gD (G 0 0) (hat (chP G id (fun s => if NNh G b s = true ∧ s ≠ b then 0 else 1))) = gD (G 0 0) (hat (chP G id (fun _ => 0))) := gD_pm hn hP
  have hval : ∀ s, s < G 0 0 → pmX (G 0 0) (chP G id (fun s => if NNh G b s = true ∧ s ≠ b then 0 else 1)) id s = gB (G 0 0) (hat (chP G id (fun s => if NNh G b s = true ∧ s ≠ b then 0 else 1))) s 7 / gD (G 0 0) (hat (chP G id (fun _ => 0))) := fun s hs => by
    unfold pmX
    rw [dcol]
    rfl
  have hint : ∀ s, isI (gB (G 0 0) (hat (chP G id (fun s => if NNh G b s = true ∧ s ≠ b then 0 else 1))) s 7) := fun s => ⟨_, (fit_iB (isI_hat (hI _)) (hat_Zm (hZ _)) (Nat.le_refl _) (hat_piv (hZ _)) (Nat.le_refl _) s 7).symm⟩
  generalize hx : pmX (G 0 0) (chP G id (fun s => if NNh G b s = true ∧ s ≠ b then 0 else 1)) id = x at h1 hval ⊢
  have hclz : ∀ s, s < G 0 0 → isClo G s → ¬ RC G b s → x s = 0 := fun s hs hc hr => by rw [(h1 s hs).1 hc, f0 s hr]
  refine ⟨⟨fun s hs hT => ?_, fun s hs hT => ?_, fun s hs hc => ?_⟩, fun s hs => ?_⟩
  · rw [(h1 s hs).1 (RC_clo hbn hb.1 hT), f1 s hT]
  · by_cases c : isClo G s
    · rw [hclz s hs c hT]
      have : c_ex (G 0 0) (wtR G) x (mv (G 10) s) = 0 := sr_zero (fun t ht => by
        by_cases cw : wtR G (mv (G 10) s) t = 0
        · rw [cw, Rat.zero_mul]
        · have hst := RC_st hs ht cw
          rw [hclz t ht (RC_clo hs c hst) (fun z => hT (rch_tr ht z (c t hst))), Rat.mul_zero])
      rw [this, Rat.mul_zero]
    · exact (h1 s hs).2 c
  · have key := harm (p := mv (G 10)) (T := fun s => isClo G s ∨ c_can (G 0 0) (wtR G) (mv (G 10)) (RC G b) s) (d := fun s => @ite Rat (c_can (G 0 0) (wtR G) (mv (G 10)) (RC G b) s) (Classical.propDecidable _) 0 (x s)) (pk_c hW hw (told_ok hW hw)) (fun s hs ht => ?_) (fun s hs ht => ?_) (fun s hs => ?_) s hs
    · rw [if_neg hc] at key
      exact key
    · by_cases c : c_can (G 0 0) (wtR G) (mv (G 10)) (RC G b) s
      · rw [if_pos c]
      · rw [if_neg c]
        rcases ht with z | z
        · exact hclz s hs z (fun y => c (c_can_T hs y))
        · exact absurd z c
    · have c1 : ¬ isClo G s := fun z => ht (Or.inl z)
      have c2 : ¬ c_can (G 0 0) (wtR G) (mv (G 10)) (RC G b) s := fun z => ht (Or.inr z)
      rw [if_neg c2, (h1 s hs).2 c1]
      refine sr_congr (fun t ht => ?_)
      by_cases cw : wtR G (mv (G 10) s) t = 0
      · rw [cw, Rat.zero_mul, Rat.zero_mul]
      · dsimp only
        rw [if_neg (fun z => c2 (c_can_of_step hs ht cw z))]
    · obtain ⟨t, ht, z1, z2⟩ := clo_ex hW hw hs
      exact can_rt z1 hs ht (Or.inl z2)
  · rw [dr, hval s hs]
    have hne := Rat.ne_of_gt d1
    rw [show gD (G 0 0) (hat (chP G id (fun _ => 0))) * (gB (G 0 0) (hat (chP G id (fun s => if NNh G b s = true ∧ s ≠ b then 0 else 1))) s 7 / gD (G 0 0) (hat (chP G id (fun _ => 0)))) = gB (G 0 0) (hat (chP G id (fun s => if NNh G b s = true ∧ s ≠ b then 0 else 1))) s 7 by rw [Rat.mul_comm, Rat.div_def, Rat.mul_assoc, Rat.inv_mul_cancel _ hne, Rat.mul_one]]
    exact hint s
/-- the sum over the first closed sets -/
noncomputable def yB (G : Gm) (c k : Nat → Rat) (q : Nat → Nat → Rat) (B s : Nat) : Rat := sr B (fun b => @ite Rat (rtn G b) (Classical.propDecidable _) (mh G c k b * q b s) 0)
theorem yB_t {c k : Nat → Rat} {q : Nat → Nat → Rat} {B s : Nat} (h : rtn G B) : yB G c k q (B + 1) s = yB G c k q B s + mh G c k B * q B s := by
  unfold yB
  rw [sr_succ, if_pos h]
theorem yB_f {c k : Nat → Rat} {q : Nat → Nat → Rat} {B s : Nat} (h : ¬ rtn G B) : yB G c k q (B + 1) s = yB G c k q B s := by
  unfold yB
  rw [sr_succ, if_neg h, Rat.add_zero]
theorem yB_b {c k : Nat → Rat} {q : Nat → Nat → Rat} (hW : GW G) (hw : whole G) (hM : MK G c k) (hq : ∀ b, rtn G b → SolR (G 0 0) (wtR G) (mv (G 10)) (RC G b) (q b)) {s : Nat} (hs : s < G 0 0) : ∀ B, 0 ≤ yB G c k q B s ∧ yB G c k q B s ≤ 9 * ((B : Nat) : Rat) := by
  intro B
  have hok := pk_c hW hw (told_ok hW hw)
  induction B with
  | zero => unfold yB; exact ⟨Rat.le_refl, by show (0 : Rat) ≤ 9 * ((0 : Nat) : Rat); decide +kernel⟩
  | succ B ih =>
    have e : ((B + 1 : Nat) : Rat) = ((B : Nat) : Rat) + 1 := by rw [Rat.natCast_add]; rfl
    rw [e]
    by_cases hr : rtn G B
    · rw [yB_t hr]
      have h1 := mh_b hW hw hM hr.2.1
      have q0 := solR_nonneg hok (hq B hr) s hs
      have q1 := solR_le_one hok (hq B hr) s hs
      have m0 := Rat.mul_nonneg h1.2.2.1 q0
      have m1 := rat_mul_le h1.2.2.1 q0 h1.2.2.2 q1
      grind
    · rw [yB_f hr]
      grind
theorem yB_MNX {c k : Nat → Rat} {q : Nat → Nat → Rat} (hW : GW G) (hw : whole G) (hM : MK G c k) (hq : ∀ b, rtn G b → SolR (G 0 0) (wtR G) (mv (G 10)) (RC G b) (q b)) : MNX G (yB G c k q (G 0 0)) := by
  refine ⟨c, k, hM.1, hM.2.1, fun s h hs hc hl => ?_, fun s hs hc => ?_⟩
  · have hr := low_rtn hs hc hl
    have hh := hl.1
    refine ⟨(mh_b hW hw hM hh).1, ?_⟩
    have hRh : RC G h s := hc h hl.2.1
    unfold yB
    rw [sr_one (i := h) hh (fun b hb hne => ?_), if_pos hr, (hq h hr).1 s hs hRh, Rat.mul_one]
    · rfl
    · by_cases hrb : rtn G b
      · rw [if_pos hrb, (hq b hrb).2.2 s hs (fun z => ?_), Rat.mul_zero]
        obtain ⟨t, ht, h1, h2⟩ := z (RC G s) (RC_self hs hc hl.2.1) (fun u hu hsu v hv hwv => rch_tr hu hsu (RC_st hu hv hwv))
        exact hne (rtn_uq hrb hr h2 (rch_tr hs hRh h1))
      · rw [if_neg hrb]
  · unfold yB
    rw [← sr_mul]
    unfold c_ex
    have e : (fun t => wtR G (mv (G 10) s) t * sr (G 0 0) (fun b => @ite Rat (rtn G b) (Classical.propDecidable _) (mh G c k b * q b t) 0)) = fun t => sr (G 0 0) (fun b => wtR G (mv (G 10) s) t * @ite Rat (rtn G b) (Classical.propDecidable _) (mh G c k b * q b t) 0) := by
      funext t
      rw [sr_mul]
    rw [e, sr_swap]
    refine sr_congr (fun b hb => ?_)
    by_cases hrb : rtn G b
    · rw [if_pos hrb]
      have h1 := (hq b hrb).2.1 s hs (fun z => hc (RC_clo hb hrb.1 z))
      have e2 : sr (G 0 0) (fun t => wtR G (mv (G 10) s) t * @ite Rat (rtn G b) (Classical.propDecidable _) (mh G c k b * q b t) 0) = mh G c k b * c_ex (G 0 0) (wtR G) (q b) (mv (G 10) s) := by
        unfold c_ex
        rw [← sr_mul]
        refine sr_congr (fun t _ => ?_)
        rw [if_pos hrb]
        grind
      rw [e2, ← h1]
      grind
    · rw [if_neg hrb, Rat.mul_zero]
      exact (sr_zero (fun t _ => by rw [if_neg hrb, Rat.mul_zero])).symm
/-- the product of what is below in the means -/
noncomputable def PbN (G : Gm) (c k : Nat → Rat) : Nat → Nat
  | 0 => 1
  | b + 1 => PbN G c k b * @ite Nat (rtn G b) (Classical.propDecidable _) (mh G c k b).den 1
theorem PbN_t {c k : Nat → Rat} {b : Nat} (h : rtn G b) : PbN G c k (b + 1) = PbN G c k b * (mh G c k b).den := by
  rw [PbN, if_pos h]
theorem PbN_f {c k : Nat → Rat} {b : Nat} (h : ¬ rtn G b) : PbN G c k (b + 1) = PbN G c k b := by
  rw [PbN, if_neg h, Nat.mul_one]
theorem PbN_pos {c k : Nat → Rat} : ∀ b, 0 < PbN G c k b := by
  intro b
  induction b with
  | zero => exact Nat.one_pos
  | succ b ih =>
    by_cases h : rtn G b
    · rw [PbN_t h]; exact Nat.mul_pos ih (Rat.den_pos _)
    · rw [PbN_f h]; exact ih
theorem PbN_dv {c k : Nat → Rat} {b : Nat} : ∀ B, b < B → rtn G b → (mh G c k b).den ∣ PbN G c k B := by
  intro B
  induction B with
  | zero => intro h; omega
  | succ B ih =>
    intro h hr
    by_cases e : b = B
    · subst e
      rw [PbN_t hr]
      exact Nat.dvd_mul_left _ _
    · have h1 := ih (by omega) hr
      by_cases h2 : rtn G B
      · rw [PbN_t h2]; exact Nat.dvd_trans h1 (Nat.dvd_mul_right _ _)
      · rw [PbN_f h2]; exact h1
theorem whl_K {K K' c : Nat → Rat} {h : Nat} (e : K h = K' h) : whl G K c h = whl G K' c h := by
  unfold whl
  rw [e]
theorem KKr_0 (s : Nat) : ((KKr G 0 s : Nat) : Rat) = 1 := by
  unfold KKr
  rw [if_pos rfl]
  rfl
theorem KKr_1 {s : Nat} (hs : s < G 0 0) : ((KKr G 1 s : Nat) : Rat) = cst1 G s := by
  unfold KKr cst1
  rw [if_neg (by decide), if_pos hs]
theorem den_w42 {c k : Nat → Rat} {h : Nat} (hW : GW G) (hw : whole G) (hM : MK G c k) (hr : rtn G h) : (((mh G c k h).den : Nat) : Rat) ≤ prR 7 (w42 G h) := by
  obtain ⟨D0, X0, z1, z2, z3, z4, z5, z6⟩ := cy_S (b := 0) (κ := 1) (c := k) hW hw hr (fun s => by unfold KKr; rw [if_pos rfl]; exact Nat.le_refl 1) (RND_K (fun s hs => rfl) hM.2.1)
  obtain ⟨D1, X1, y1, y2, y3, y4, y5, y6⟩ := cy_S (b := 1) (κ := 9) (c := c) hW hw hr (KKr_9 hW 1) (RND_K (fun s hs => by unfold KKr cst1; rw [if_neg (by decide), if_pos hs]) hM.1)
  have hcol : gD 7 (cyA G h 1) = gD 7 (cyA G h 0) := (gB_col (fun i j _ hj => sysA_col i j hj) 7 (Nat.le_refl 7)).1
  have hh := hr.2.1
  have w0 : whl G (fun s => ((KKr G 0 s : Nat) : Rat)) k h = whl G (fun _ => 1) k h := whl_K (KKr_0 h)
  have w1 : whl G (fun s => ((KKr G 1 s : Nat) : Rat)) c h = whl G (cst1 G) c h := whl_K (KKr_1 hh)
  have hp := (mh_b hW hw hM hh).1
  have hD : 0 < gD 7 (cyA G h 0) := by
    rw [← z4]
    exact Rat.natCast_pos.mpr z1
  rw [w0] at z5
  rw [w1, hcol] at y5
  have hS : 0 < ((cyS G h 0 D0 X0 : Nat) : Rat) := by rw [z5]; exact Rat.mul_pos hD hp
  have hS0 : cyS G h 0 D0 X0 ≠ 0 := fun e => by rw [e] at hS; exact absurd hS (by decide)
  have em : mh G c k h = (((cyS G h 1 D1 X1 : Nat) : Int) : Rat) / (((cyS G h 0 D0 X0 : Nat) : Int) : Rat) := by
    rw [Rat.intCast_natCast, Rat.intCast_natCast, y5, z5]
    unfold mh
    have a1 := Rat.ne_of_gt hD
    have a2 := Rat.ne_of_gt hp
    have a3 : gD 7 (cyA G h 0) * whl G (fun _ => 1) k h ≠ 0 := fun e => by rcases Rat.mul_eq_zero.mp e with e | e; exact a1 e; exact a2 e
    generalize gD 7 (cyA G h 0) = d at *
    generalize whl G (fun _ => 1) k h = u at *
    generalize whl G (cst1 G) c h = v at *
    grind
  have hle := (rat_num_le (a := ((cyS G h 1 D1 X1 : Nat) : Int)) (b := ((cyS G h 0 D0 X0 : Nat) : Int)) (by omega)).2
  rw [← em, Int.natAbs_natCast] at hle
  have e1 : ((1 : Nat) : Rat) = 1 := rfl
  rw [e1, Rat.one_mul] at z6
  exact Rat.le_trans (Rat.natCast_le_natCast.mpr hle) z6
noncomputable def w7 (G : Gm) (s : Nat) : Rat := @ite Rat (isClo G s ∧ s < G 0 0) (Classical.propDecidable _) 42 1
theorem w7_1 (s : Nat) : 1 ≤ w7 G s := by
  unfold w7
  split <;> decide
theorem PbN_le {c k : Nat → Rat} (hW : GW G) (hw : whole G) (hM : MK G c k) : ∀ B, B ≤ 7 → ((PbN G c k B : Nat) : Rat) ≤ prR 7 (w7 G) := by
  have step : ∀ B, ((PbN G c k B : Nat) : Rat) ≤ prR B (fun b => @ite Rat (rtn G b) (Classical.propDecidable _) (prR 7 (w42 G b)) 1) := by
    intro B
    induction B with
    | zero => exact Rat.le_refl
    | succ B ih =>
      rw [prR]
      by_cases hr : rtn G B
      · rw [PbN_t hr, Rat.natCast_mul, if_pos hr]
        exact rat_mul_le Rat.natCast_nonneg Rat.natCast_nonneg ih (den_w42 hW hw hM hr)
      · rw [PbN_f hr, if_neg hr, Rat.mul_one]; exact ih
  intro B hB
  refine Rat.le_trans (step B) ?_
  have ge1 : ∀ b, (1 : Rat) ≤ @ite Rat (rtn G b) (Classical.propDecidable _) (prR 7 (w42 G b)) 1 := fun b => by
    split
    · exact prR_one w42_1 7
    · exact Rat.le_refl
  refine Rat.le_trans (prR_le ge1 hB) ?_
  rw [prR_cg (b := fun b => prR 7 (fun t => @ite Rat (rtn G b) (Classical.propDecidable _) (w42 G b t) 1)) (fun b _ => by
    by_cases hr : rtn G b
    · rw [if_pos hr]
      exact prR_cg (fun t _ => by rw [if_pos hr])
    · rw [if_neg hr]
      exact (prR_1 (fun t _ => by rw [if_neg hr])).symm), prR_swap]
  have val : ∀ b t, @ite Rat (rtn G b) (Classical.propDecidable _) (w42 G b t) 1 ≠ 1 → rtn G b ∧ RC G b t := fun b t hne => by
    by_cases hr : rtn G b
    · rw [if_pos hr] at hne
      exact ⟨hr, Classical.byContradiction fun z => hne (w42_f z)⟩
    · rw [if_neg hr] at hne
      exact absurd rfl hne
  refine prR_mono (fun t => prR_nn (fun b => ?_) 7) (fun t => ?_) 7
  · split
    · exact Rat.le_trans (show (0 : Rat) ≤ 1 by decide) (w42_1 t)
    · decide
  · unfold w7
    by_cases c : isClo G t ∧ t < G 0 0
    · rw [if_pos c]
      refine prR_one' (by decide) (fun b => ?_) (fun b b' h1 h2 => ?_) 7
      · by_cases hr : rtn G b
        · rw [if_pos hr]
          by_cases h1 : RC G b t
          · exact Or.inr (w42_t h1)
          · exact Or.inl (w42_f h1)
        · rw [if_neg hr]
          exact Or.inl rfl
      · obtain ⟨a1, a2⟩ := val b t h1
        obtain ⟨a3, a4⟩ := val b' t h2
        exact rtn_uq a1 a3 a2 a4
    · rw [if_neg c]
      rw [prR_1 (fun b _ => Classical.byContradiction fun z => ?_)]
      · exact Rat.le_refl
      obtain ⟨a1, a2⟩ := val b t z
      exact c ⟨RC_clo a1.2.1 a1.1 a2, rch_lt a2⟩
/-- all together -/
theorem w67 (hW : GW G) : prR (G 0 0) (w6 G) * prR 7 (w7 G) ≤ 42 ^ 7 ∧ prR (G 0 0) (w6 G) * prR (G 0 0) (w6 G) * prR 7 (w7 G) ≤ 42 ^ 7 := by
  have hn := hW.1
  rw [← prR_cut (a := w6 G) hn (fun i h1 _ => by unfold w6; rw [if_pos (Or.inr h1)]), ← prR_mul, ← prR_mul, ← prR_mul, ← prR_const]
  have n6 : ∀ i, 0 ≤ w6 G i := fun i => Rat.le_trans (show (0 : Rat) ≤ 1 by decide) (w6_1 i)
  have n7 : ∀ i, 0 ≤ w7 G i := fun i => Rat.le_trans (show (0 : Rat) ≤ 1 by decide) (w7_1 i)
  have key : ∀ i, w6 G i * w7 G i ≤ 42 ∧ w6 G i * w6 G i * w7 G i ≤ 42 := fun i => by
    unfold w6 w7
    by_cases c : isClo G i ∨ G 0 0 ≤ i
    · rw [if_pos c]
      split
      · exact ⟨by decide +kernel, by decide +kernel⟩
      · exact ⟨by decide +kernel, by decide +kernel⟩
    · rw [if_neg c, if_neg (fun z => c (Or.inl z.1))]
      exact ⟨by decide +kernel, by decide +kernel⟩
  exact ⟨prR_mono (fun i => Rat.mul_nonneg (n6 i) (n7 i)) (fun i => (key i).1) 7, prR_mono (fun i => Rat.mul_nonneg (Rat.mul_nonneg (n6 i) (n6 i)) (n7 i)) (fun i => (key i).2) 7⟩
end SUM
