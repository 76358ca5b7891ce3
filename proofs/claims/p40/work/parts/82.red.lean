/-! THE CLASS: a row is reduced; the answers are settled -/
theorem c_quot {a d q : Int} {σ : cg_S} {Q : Int64 → cg_S → Prop} (h : a = d * q) (hd : d ≠ 0) (ha : zfit a) (hd2 : zfit d) (hQ : Q (i64 q) σ) : M_X11_quotient (i64 a) (i64 d) σ Q := by
  unfold zfit at ha hd2
  have hne : ¬ i64 d = 0 := by rw [l0, i64_eq (by omega) (by decide)]; exact hd
  refine v_X11_quotient ⟨fun z => ⟨z, ?_⟩, fun z => absurd z hne⟩
  rw [i64_div h hd ha (by omega)]
  exact hQ
/-- the rows before p stand as the stages have them -/
def RWS (τ : cg_S) (n : Nat) (o : Nat → Nat) (H : Nat → Nat → Rat) (p : Nat) : Prop := ∀ i, i < p → (∀ j, i ≤ j → j < n → τ.2.1 (60 + o i) (o j) = i64 (gB i H i j).num) ∧ τ.2.1 (60 + o i) 7 = i64 (gB i H i 7).num
section RD
variable {n nA p : Nat} {P : Nat → Prop} {o oi : Nat → Nat} {A : Nat → Nat → Rat}
theorem isI_hat (hI : ∀ i j, isI (A i j)) (i j : Nat) : isI (hat A i j) := by
  unfold hat
  split
  · rcases hdl_01 (A := A) i with h | h <;> rw [h]
    · exact isI_add (hI i j) ⟨0, rfl⟩
    · exact isI_add (hI i j) ⟨1, rfl⟩
  · exact isI_add (hI i j) ⟨0, rfl⟩
theorem isI_hatS (hI : ∀ i j, isI (A i j)) (p i j : Nat) : isI (hatS A p i j) := by
  rw [hatS_eq]
  split
  · exact isI_hat hI i j
  · exact hI i j
theorem hatS_piv (hZ : Zm n A) {p : Nat} (hp : p ≤ n) : ∀ k, k < p → 0 < gB k (hatS A p) k k := fun k hk => by
  rw [(hatS_rows (A := A) (p := p) (k := k) (by omega)).2 k hk]
  exact hat_piv hZ k (by omega)
/-- a step of the row p, in whole numbers -/
theorem z_red (hI : ∀ i j, isI (A i j)) (hZ : Zm n A) (hp : p < n) {k : Nat} (hk : k < p) (t : Nat) : (gB k (hat A) k k).num * (gB k (hatS A p) p t).num - (gB k (hatS A p) p k).num * (gB k (hat A) k t).num = (gD k (hat A)).num * (gB (k + 1) (hatS A p) p t).num := by
  have hpv := hatS_piv hZ (Nat.le_of_lt hp)
  have hZs := hatS_Zm hZ p
  have hIs := isI_hatS hI p
  have e := (hatS_rows (A := A) (p := p) (k := k) (by omega))
  rw [← e.1, ← e.2 k hk, ← e.2 k hk, ← Rat.intCast_inj, Rat.intCast_sub, Rat.intCast_mul, Rat.intCast_mul, Rat.intCast_mul, fit_iB hIs hZs (Nat.le_of_lt hp) hpv (by omega), fit_iB hIs hZs (Nat.le_of_lt hp) hpv (by omega), fit_iB hIs hZs (Nat.le_of_lt hp) hpv (by omega), fit_iB hIs hZs (Nat.le_of_lt hp) hpv (by omega), fit_iB hIs hZs (Nat.le_of_lt hp) hpv (by omega), fit_iD hIs hZs (Nat.le_of_lt hp) hpv (by omega), gB_else (by omega)]
  have := (gj_Z hZs (Nat.le_of_lt hp) hpv).1 k (by omega)
  grind
theorem hat_D (hI : ∀ i j, isI (A i j)) (hZ : Zm n A) {k : Nat} (hk : k ≤ n) : 0 < gD k (hat A) ∧ (((gD k (hat A)).num : Int) : Rat) = gD k (hat A) ∧ 0 < (gD k (hat A)).num := by
  have h1 := (gj_Z (hat_Zm hZ) (Nat.le_refl n) (hat_piv hZ)).1 k hk
  have h2 := fit_iD (isI_hat hI) (hat_Zm hZ) (Nat.le_refl n) (hat_piv hZ) hk
  exact ⟨h1, h2, by rw [← h2] at h1; exact Rat.intCast_pos.mp h1⟩
theorem c_reduce {σ : cg_S} {Q : cg_S → Prop} (hn : n ≤ 7) (hp : p < n) (hI : ∀ i j, isI (A i j)) (hZ : Zm n A) (hfD : ∀ k, k ≤ p → zfit (gD k (hat A)).num) (hfE : ∀ k t, k < p → (t < n ∨ t = 7) → zfit ((gD k (hat A)).num * (gB (k + 1) (hatS A p) p t).num)) (hfP : zfit (gB p (hatS A p) p p).num) (hO : ORD σ n nA P o oi) (hR : RWS σ n o (hat A) p) (hraw : ∀ j, j < n → σ.2.1 (60 + o p) (o j) = i64 (A p j).num) (hraw7 : σ.2.1 (60 + o p) 7 = i64 (A p 7).num) (h : ∀ τ, Fr [] [60 + o p] [] σ τ → RWS τ n o (hat A) (p + 1) → Q τ) : M_X1_reduce (i32 p) σ Q := by
  obtain ⟨o1, o2, o3, o4, o5⟩ := id hO
  obtain ⟨q1, q2, q3, q4⟩ := o4 p hp
  have hinj : ∀ i, i < n → i ≠ p → o i ≠ o p := fun i hi hne e => hne (by rw [← (o4 i hi).2.2.1, e, q3])
  have hinj2 : ∀ i j, i < n → j < n → i ≠ j → o i ≠ o j := fun i j hi hj hne e => hne (by rw [← (o4 i hi).2.2.1, e, (o4 j hj).2.2.1])
  refine v_X1_reduce ?_
  simp (disch := omega) only [n0, n1, n2, n3, n4, n5, n6, n7, n8, n9, n49, n97, n98, n114, n102, n115, n119, n109, n112, i32_add, i32_mul, i32_N, i32_le, i32_lt, i32_eq, vpi_iff]
  refine ⟨by omega, ?_⟩
  rintro _ rfl
  rw [q1]
  simp (disch := omega) only [n0, n1, n2, n3, n4, n5, n6, n7, n8, n9, n49, n97, n98, n114, n102, n115, n119, n109, n112, i32_add, i32_mul, i32_N, i32_le, i32_lt, i32_eq, vpi_iff]
  refine ⟨by omega, ?_⟩
  rintro _ rfl
  -- the stages
  refine up2 (n := p) (fun k bf τ => Fr [] [60 + o p] [] σ τ ∧ bf = i64 (gD k (hat A)).num ∧ (∀ i, k ≤ i → i < n → τ.2.1 (60 + o p) (o i) = i64 (gB k (hatS A p) p i).num) ∧ τ.2.1 (60 + o p) 7 = i64 (gB k (hatS A p) p 7).num) (fun bf w τ => L_X1_reduce_20 (i32 p) (i32 (o p)) (o p) bf w τ Q) ?_ ?_ 0 (1 : Int64) σ (by omega) ⟨Fr.rf σ, rfl, fun i _ hi => ?_, ?_⟩
  · rintro k bf τ hk ⟨hf, rfl, p1, p2⟩ kk
    have hO2 := hO.fr hf (by decide)
    obtain ⟨u1, u2, u3, u4, u5⟩ := id hO2
    obtain ⟨w1, w2, w3, w4⟩ := u4 k (by omega)
    have hki := hinj k (by omega) (by omega)
    have hD := hat_D hI hZ (k := k) (by omega)
    have hup : ∀ j, k ≤ j → j < n → τ.2.1 (60 + o k) (o j) = i64 (gB k (hat A) k j).num := fun j h1 h2 => by
      rw [hf.2.1 (60 + o k) (by simp; omega)]; exact (hR k hk).1 j h1 h2
    have hup7 : τ.2.1 (60 + o k) 7 = i64 (gB k (hat A) k 7).num := by
      rw [hf.2.1 (60 + o k) (by simp; omega)]; exact (hR k hk).2
    refine v_X1_reduce_20 (by omega) ?_
    simp (disch := omega) only [n0, n1, n2, n3, n4, n5, n6, n7, n8, n9, n49, n97, n98, n114, n102, n115, n119, n109, n112, i32_add, i32_mul, i32_N, i32_le, i32_lt, i32_eq, vpi_iff]
    refine ⟨fun z => by omega, fun _ => ⟨by omega, ?_⟩⟩
    rintro _ rfl
    rw [w1]
    simp (disch := omega) only [n0, n1, n2, n3, n4, n5, n6, n7, n8, n9, n49, n97, n98, n114, n102, n115, n119, n109, n112, i32_add, i32_mul, i32_N, i32_le, i32_lt, i32_eq, vpi_iff]
    refine ⟨by omega, ?_⟩
    rintro _ rfl
    refine ⟨by omega, ?_⟩
    rintro _ rfl
    refine ⟨by omega, ?_⟩
    rintro _ rfl
    rintro _ rfl
    rw [hup k (Nat.le_refl k) (by omega), p1 k (Nat.le_refl k) (by omega)]
    -- the columns
    refine up (n := n) (fun j υ => k < j ∧ Fr [] [60 + o p] [] σ υ ∧ (∀ i, k < i → i < n → υ.2.1 (60 + o p) (o i) = i64 (if i < j then gB (k + 1) (hatS A p) p i else gB k (hatS A p) p i).num) ∧ υ.2.1 (60 + o p) 7 = i64 (gB k (hatS A p) p 7).num) (fun w υ => L_X1_reduce_63 (i32 p) (i32 (o p)) (o p) (i64 (gD k (hat A)).num) (i32 k) (o k) (i64 (gB k (hat A) k k).num) (i64 (gB k (hatS A p) p k).num) w υ Q) ?_ ?_ (k + 1) τ (by omega) ⟨by omega, hf, fun i h1 h2 => by rw [if_neg (by omega)]; exact p1 i (by omega) h2, p2⟩
    · rintro j υ hj ⟨hjk, hf2, r1, r2⟩ kk2
      · have hO3 := hO.fr hf2 (by decide)
        obtain ⟨x1, x2, x3, x4⟩ := hO3.2.2.2.1 j hj
        have hupj : υ.2.1 (60 + o k) (o j) = i64 (gB k (hat A) k j).num := by
          rw [hf2.2.1 (60 + o k) (by simp; omega)]; exact (hR k hk).1 j (by omega) hj
        refine v_X1_reduce_63 (by omega) (by omega) ?_
        rw [hO3.1]
        simp (disch := omega) only [n0, n1, n2, n3, n4, n5, n6, n7, n8, n9, n49, n97, n98, n114, n102, n115, n119, n109, n112, i32_add, i32_mul, i32_N, i32_le, i32_lt, i32_eq, vpi_iff]
        refine ⟨fun z => by omega, fun _ => ⟨by omega, ?_⟩⟩
        rintro _ rfl
        rw [x1]
        simp (disch := omega) only [n0, n1, n2, n3, n4, n5, n6, n7, n8, n9, n49, n97, n98, n114, n102, n115, n119, n109, n112, i32_add, i32_mul, i32_N, i32_le, i32_lt, i32_eq, vpi_iff]
        refine ⟨by omega, by omega, ?_⟩
        rw [hupj, r1 j (by omega) hj, if_neg (by omega), i64_mul, i64_mul, i64_sub]
        refine c_quot (z_red hI hZ hp hk j) (by omega) (by rw [z_red hI hZ hp hk j]; exact hfE k j hk (Or.inl hj)) (hfD k (by omega)) ⟨by omega, ?_⟩
        rintro _ rfl
        refine kk2 _ ⟨by omega, hf2.tr (Fr.l (by simp)), fun i h1 h2 => ?_, ?_⟩
        · rw [rl, if_pos rfl]
          by_cases c : i = j
          · rw [c, if_pos rfl, if_pos (by omega)]
          · rw [if_neg (hinj2 i j h2 hj c), r1 i h1 h2]
            by_cases c2 : i < j
            · rw [if_pos c2, if_pos (by omega)]
            · rw [if_neg c2, if_neg (by omega)]
        · rw [rl, if_pos rfl, if_neg (by omega)]; exact r2
    · rintro υ ⟨-, hf2, r1, r2⟩
      have hO3 := hO.fr hf2 (by decide)
      have hup7' : υ.2.1 (60 + o k) 7 = i64 (gB k (hat A) k 7).num := by
        rw [hf2.2.1 (60 + o k) (by simp; omega)]; exact (hR k hk).2
      refine v_X1_reduce_63 (by omega) (by omega) ?_
      rw [hO3.1]
      refine ⟨fun _ => ?_, fun z => absurd ((i32_le (by omega) (by omega)).mpr (Nat.le_refl _)) z⟩
      rw [hup7', r2, i64_mul, i64_mul, i64_sub]
      refine c_quot (z_red hI hZ hp hk 7) (by omega) (by rw [z_red hI hZ hp hk 7]; exact hfE k 7 hk (Or.inr rfl)) (hfD k (by omega)) ?_
      rintro _ rfl
      rw [i32_s]
      refine kk _ _ ⟨hf2.tr (Fr.l (by simp)), by rw [gD_succ], fun i h1 h2 => ?_, ?_⟩
      · rw [rl, if_pos rfl, if_neg (by have := (o4 i h2).2.1; omega), r1 i (by omega) h2, if_pos h2]
      · rw [rl, if_pos rfl, if_pos rfl]
  · rintro bf τ ⟨hf, rfl, p1, p2⟩
    have hD := hat_D hI hZ (k := p) (by omega)
    have hDf := hfD p (Nat.le_refl p)
    have hnd : ∀ i, i < p → gD i (hat A) ≠ 0 := fun i hi => by
      have := (hat_D hI hZ (k := i) (by omega)).1
      grind
    have hpk := hat_pk (A := A) (p := p) hnd
    have hR2 : RWS τ n o (hat A) p := fun i hi => by
      rw [hf.2.1 (60 + o i) (by have := hinj i (by omega) (by omega); simp; omega)]
      exact hR i hi
    have hpp : 0 < gB p (hat A) p p := hat_piv hZ p hp
    refine v_X1_reduce_20 (by omega) ?_
    simp (disch := omega) only [n0, n1, n2, n3, n4, n5, n6, n7, n8, n9, n49, n97, n98, n114, n102, n115, n119, n109, n112, i32_add, i32_mul, i32_N, i32_le, i32_lt, i32_eq, vpi_iff]
    rw [p1 p (Nat.le_refl p) hp]
    refine ⟨fun _ => ⟨by omega, fun z => ?_, fun z => ⟨by omega, ?_⟩⟩, fun z => by omega⟩
    · have h0 : hdl A p = 0 := by
        unfold hdl
        rw [if_neg (fun e => z (by rw [e]; rfl))]
      refine h τ hf (fun i hi => ?_)
      by_cases c : i = p
      · subst c
        refine ⟨fun j h1 h2 => ?_, ?_⟩
        · rw [p1 j h1 h2, hpk j, h0]
          congr 2
          split <;> grind
        · rw [p2, hpk 7, if_neg (by omega)]
          congr 2
          grind
      · exact hR2 i (by omega)
    · have hz : gB p (hatS A p) p p = 0 := by
        have hpv := hatS_piv hZ (Nat.le_of_lt hp)
        have e1 := fit_iB (isI_hatS hI p) (hatS_Zm hZ p) (Nat.le_of_lt hp) hpv (Nat.le_refl p) p p
        unfold zfit at hfP
        rw [l0, i64_eq (by omega) (by decide)] at z
        rw [← e1, z]; rfl
      have h1 : hdl A p = 1 := by unfold hdl; rw [if_pos hz]
      rintro _ rfl
      refine h _ (hf.tr (Fr.l (by simp))) (fun i hi => ?_)
      by_cases c : i = p
      · subst c
        refine ⟨fun j h1' h2 => ?_, ?_⟩
        · rw [rl, if_pos rfl, hpk j, h1]
          by_cases c2 : j = i
          · rw [c2, if_pos rfl, if_pos rfl, hz]
            congr 2
            grind
          · rw [if_neg (hinj j h2 c2), if_neg c2, p1 j h1' h2]
            congr 2
            grind
        · rw [rl, if_pos rfl, if_neg (by omega), p2, hpk 7, if_neg (by omega)]
          congr 2
          grind
      · have := hR2 i (by omega)
        have hne := hinj i (by omega) c
        refine ⟨fun j h1' h2 => ?_, ?_⟩
        · rw [rl, if_neg (by omega)]; exact this.1 j h1' h2
        · rw [rl, if_neg (by omega)]; exact this.2
  · rw [hraw i hi, gB_zero, hatS_ge (Nat.le_refl p)]
  · rw [hraw7, gB_zero, hatS_ge (Nat.le_refl p)]
/-- the answers -/
theorem c_settle {H : Nat → Nat → Rat} {σ : cg_S} {Q : cg_S → Prop} (hn0 : 0 < n) (hn : n ≤ 7) (hI : ∀ i j, isI (H i j)) (hZ : Zm n H) (hpv : ∀ k, k < n → 0 < gB k H k k) (hO : ORD σ n nA P o oi) (hR : RWS σ n o H n) (hfit : ∀ i, i + 1 < n → zfit ((gB i H i i).num * (gB n H i 7).num)) (hfp : ∀ i, i < n → zfit (gB i H i i).num) (h : ∀ τ, Fr [] [4, 58] [] σ τ → τ.2.1 4 4 = i64 (gD n H).num → (∀ i, i < n → τ.2.1 58 (o i) = i64 (gB n H i 7).num) → Q τ) : M_X1_settle σ Q := by
  obtain ⟨m, rfl⟩ : ∃ m, n = m + 1 := ⟨n - 1, by omega⟩
  obtain ⟨o1, o2, o3, o4, o5⟩ := id hO
  obtain ⟨w1, w2, w3, w4⟩ := o4 m (by omega)
  have hND := fit_ND hZ (Nat.le_refl _) hpv
  have iB : ∀ {k : Nat}, k ≤ m + 1 → ∀ s t, (((gB k H s t).num : Int) : Rat) = gB k H s t := fun hk s t => fit_iB hI hZ (Nat.le_refl _) hpv hk s t
  have iD := fit_iD hI hZ (Nat.le_refl _) hpv (Nat.le_refl _)
  have hD0 := (gj_Z hZ (Nat.le_refl _) hpv).1 (m + 1) (Nat.le_refl _)
  -- the solution, at each stage
  have hx := gj_fwd (R := 7) (gj_sol (R := 7) hND) (Nat.le_refl _) hND
  have hrow : ∀ i, i < m + 1 → gB i H i i * gB (m + 1) H i 7 = gD (m + 1) H * gB i H i 7 - sr (m + 1) (fun l => if i < l then gB i H i l * gB (m + 1) H l 7 else 0) := fun i hi => by
    have h1 := hx i (by omega) i hi
    unfold rowOk at h1
    rw [← h1, ← sr_mul, ← sr_sub, sr_one (i := i) hi (fun j hj hne => ?_), if_neg (by omega)]
    · grind
    · by_cases c : i < j
      · rw [if_pos c]; grind
      · rw [if_neg c, gB_shape (hND.le (by omega)) i j (by omega), if_neg (by omega)]; grind
  have dn : ∀ k : Fin 8, i32 (k.val + 1) - i32 2 = i32 k.val + (-1) ∧ (i32 (k.val + 1) + (-1) = i32 k.val) ∧ i32 (k.val + 1) - i32 1 = i32 k.val := by decide
  refine v_X1_settle ?_
  rw [o1]
  simp (disch := omega) only [n0, n1, n2, n3, n4, n5, n6, n7, n8, n9, n49, n97, n98, n114, n102, n115, n119, n109, n112, i32_add, i32_mul, i32_N, i32_le, i32_lt, i32_eq, vpi_iff]
  refine ⟨fun _ => ?_, fun z => by omega⟩
  rw [(dn ⟨m, by omega⟩).2.2]
  simp (disch := omega) only [n0, n1, n2, n3, n4, n5, n6, n7, n8, n9, n49, n97, n98, n114, n102, n115, n119, n109, n112, i32_add, i32_mul, i32_N, i32_le, i32_lt, i32_eq, vpi_iff]
  refine ⟨by omega, ?_⟩
  rintro _ rfl
  rw [w1]
  simp (disch := omega) only [n0, n1, n2, n3, n4, n5, n6, n7, n8, n9, n49, n97, n98, n114, n102, n115, n119, n109, n112, i32_add, i32_mul, i32_N, i32_le, i32_lt, i32_eq, vpi_iff]
  refine ⟨by omega, by omega, ?_⟩
  rintro _ rfl
  refine ⟨by omega, by omega, ?_⟩
  rintro _ rfl
  have c44 : σ.2.1 (60 + o m) (o m) = i64 (gD (m + 1) H).num := by rw [(hR m (by omega)).1 m (Nat.le_refl m) (by omega), gD_succ]
  have c587 : (cg_l σ 4 4 (σ.2.1 (60 + o m) (o m))).2.1 (60 + o m) 7 = i64 (gB (m + 1) H m 7).num := by rw [rl, if_neg (by omega), (hR m (by omega)).2, gB_same]
  rw [c587, c44]
  rintro _ rfl
  have e40 : (cg_l (cg_l σ 4 4 (i64 (gD (m + 1) H).num)) 58 (o m) (i64 (gB (m + 1) H m 7).num)).1 4 0 = i32 (m + 1) := o1
  rw [e40, (dn ⟨m, by omega⟩).1]
  -- downward
  have key : ∀ i υ, i ≤ m → Fr [] [4, 58] [] σ υ → υ.2.1 4 4 = i64 (gD (m + 1) H).num → (∀ l, i ≤ l → l < m + 1 → υ.2.1 58 (o l) = i64 (gB (m + 1) H l 7).num) → L_X1_settle_55 (i32 i + (-1)) υ Q := by
    intro i
    induction i with
    | zero =>
      intro υ _ hf h4 h5
      refine v_X1_settle_55 ⟨fun _ => h υ hf h4 (fun l hl => h5 l (Nat.zero_le l) hl), fun z => absurd (by decide) z⟩
    | succ i ih =>
      intro υ hi hf h4 h5
      have hO2 := hO.fr hf (by decide)
      obtain ⟨x1, x2, x3, x4⟩ := hO2.2.2.2.1 i (by omega)
      have hg : ∀ j, i ≤ j → j < m + 1 → υ.2.1 (60 + o i) (o j) = i64 (gB i H i j).num := fun j h1 h2 => by
        rw [hf.2.1 (60 + o i) (by simp; omega)]; exact (hR i (by omega)).1 j h1 h2
      have hg7 : υ.2.1 (60 + o i) 7 = i64 (gB i H i 7).num := by
        rw [hf.2.1 (60 + o i) (by simp; omega)]; exact (hR i (by omega)).2
      rw [(dn ⟨i, by omega⟩).2.1]
      refine v_X1_settle_55 ?_
      simp (disch := omega) only [n0, n1, n2, n3, n4, n5, n6, n7, n8, n9, n49, n97, n98, n114, n102, n115, n119, n109, n112, i32_add, i32_mul, i32_N, i32_le, i32_lt, i32_eq, vpi_iff]
      refine ⟨fun z => by omega, fun _ => ⟨by omega, ?_⟩⟩
      rintro _ rfl
      rw [x1]
      simp (disch := omega) only [n0, n1, n2, n3, n4, n5, n6, n7, n8, n9, n49, n97, n98, n114, n102, n115, n119, n109, n112, i32_add, i32_mul, i32_N, i32_le, i32_lt, i32_eq, vpi_iff]
      refine ⟨by omega, ?_⟩
      rintro _ rfl
      rw [h4, hg7, i64_mul]
      rintro _ rfl
      rintro _ rfl
      refine up2 (n := m + 1) (fun j (v : Int64) ω => i < j ∧ ω = υ ∧ ∃ z : Int, v = i64 z ∧ (z : Rat) = gD (m + 1) H * gB i H i 7 - sr j (fun l => if i < l then gB i H i l * gB (m + 1) H l 7 else 0)) (fun v w ω => L_X1_settle_91 (i32 i) (i32 (o i)) (o i) v w ω Q) ?_ ?_ (i + 1) _ υ (by omega) ⟨by omega, rfl, _, rfl, ?_⟩
      · rintro j v ω hj ⟨hij, rfl, z, rfl, hz⟩ kk
        obtain ⟨y1, y2, y3, y4⟩ := hO2.2.2.2.1 j hj
        refine v_X1_settle_91 (by omega) ?_
        rw [hO2.1]
        simp (disch := omega) only [n0, n1, n2, n3, n4, n5, n6, n7, n8, n9, n49, n97, n98, n114, n102, n115, n119, n109, n112, i32_add, i32_mul, i32_N, i32_le, i32_lt, i32_eq, vpi_iff]
        refine ⟨fun z => by omega, fun _ => ?_⟩
        rw [y1]
        simp (disch := omega) only [n0, n1, n2, n3, n4, n5, n6, n7, n8, n9, n49, n97, n98, n114, n102, n115, n119, n109, n112, i32_add, i32_mul, i32_N, i32_le, i32_lt, i32_eq, vpi_iff]
        refine ⟨by omega, by omega, by omega, by omega, ?_⟩
        rw [hg j (by omega) hj, h5 j (by omega) hj, i64_mul, i64_sub]
        rintro _ rfl
        refine kk _ _ ⟨by omega, rfl, _, rfl, ?_⟩
        rw [Rat.intCast_sub, Rat.intCast_mul, hz, iB (by omega), iB (by omega), sr_succ, if_pos hij]
        grind
      · rintro v ω ⟨-, rfl, z, rfl, hz⟩
        have hzz : z = (gB i H i i).num * (gB (m + 1) H i 7).num := by
          rw [← Rat.intCast_inj, hz, ← hrow i (by omega), Rat.intCast_mul, iB (by omega), iB (by omega)]
        have hp0 : (gB i H i i).num ≠ 0 := fun e => by
          have h1 := hpv i (by omega)
          rw [← iB (by omega), e] at h1
          exact absurd h1 (by decide)
        refine v_X1_settle_91 (by omega) ?_
        rw [hO2.1]
        refine ⟨fun _ => ?_, fun z => absurd ((i32_le (by omega) (by omega)).mpr (Nat.le_refl _)) z⟩
        simp (disch := omega) only [n0, n1, n2, n3, n4, n5, n6, n7, n8, n9, n49, n97, n98, n114, n102, n115, n119, n109, n112, i32_add, i32_mul, i32_N, i32_le, i32_lt, i32_eq, vpi_iff]
        rw [hg i (Nat.le_refl i) (by omega)]
        refine ⟨by omega, c_quot hzz hp0 (by rw [hzz]; exact hfit i (by omega)) (hfp i (by omega)) ⟨by omega, ?_⟩⟩
        rintro _ rfl
        refine ih _ (by omega) (hf.tr (Fr.l (by decide))) (by rw [rl, if_neg (by decide)]; exact h4) (fun l h1 h2 => ?_)
        rw [rl, if_pos rfl]
        by_cases c : l = i
        · rw [c, if_pos rfl]
        · rw [if_neg (fun e => c (by rw [← (o4 l h2).2.2.1, e, (o4 i (by omega)).2.2.1]))]
          exact h5 l (by omega) h2
      · rw [Rat.intCast_mul, iD, iB (by omega), sr_zero (fun l hl => if_neg (by omega))]
        grind
  refine key m _ (Nat.le_refl m) ((Fr.l (by decide)).tr (Fr.l (by decide))) (by rw [rl, if_neg (by decide), rl, if_pos rfl, if_pos rfl]) (fun l h1 h2 => ?_)
  have e : l = m := by omega
  subst e
  rw [rl, if_pos rfl, if_pos rfl]
end RD
