/-! bound: the reference, and the call -/
section MBN
variable {σ : cg_S} {G : Gm} {B : Nat → UInt64}
theorem m_lowOf {m j : Nat} {Q : UInt64 → cg_S → Prop} (hG : MG σ G) (hW : GW G) (hm : m < 21) (h0 : 0 < G 6 m) (hB : ∀ t, t < G 0 0 → okB (j : Int) (B t)) (hj : j ≤ 700) (hb : ∀ t, t < G 0 0 → σ.2.2 31 t = B t) (h : Q (lowM G B m) σ) : M_X12_lowOf (i32 m) σ Q := by
  have hn := hW.1
  have h6 := (hW.2.2.1 m hm).2.2.1
  have hok := lowD_ok hW hm hB hj
  refine v_X12_lowOf ?_
  refine up2 (n := G 0 0) (fun k (x : UInt64) τ => τ = σ ∧ x = lowD G B m k) (fun x v τ => L_X12_lowOf_5 (i32 m) x v τ Q) ?_ ?_ 0 FP.dconst0 σ (by omega) ⟨rfl, rfl⟩
  · rintro k x τ hk ⟨rfl, rfl⟩ kk
    refine v_X12_lowOf_5 ?_
    rw [hG.1.1]
    simp (disch := omega) only [n0, n1, n2, n3, n4, n5, n6, n7, n8, n9, n49, n97, n98, n114, n102, n115, n119, n109, n112, i32_add, i32_mul, i32_N, i32_le, i32_lt, i32_eq, vpi_iff]
    rw [hG.2.2.2.2 (7 * m + k) (by omega), hb k hk]
    refine ⟨fun z => by omega, fun _ => ⟨by omega, by omega, vf64 ((hok k (by omega)).2 hk).nn, vf64 (hok (k + 1) (by omega)).1.nn, ?_⟩⟩
    rintro _ rfl
    exact kk _ τ ⟨rfl, rfl⟩
  · rintro x τ ⟨rfl, rfl⟩
    refine v_X12_lowOf_5 ?_
    rw [hG.1.1]
    simp (disch := omega) only [n0, n1, n2, n3, n4, n5, n6, n7, n8, n9, n49, n97, n98, n114, n102, n115, n119, n109, n112, i32_add, i32_mul, i32_N, i32_le, i32_lt, i32_eq, vpi_iff]
    rw [(hG.2.2.2.1 m hm).2.2]
    exact ⟨fun _ => ⟨by omega, vf64 (lowM_ok hW hm h0 hB hj).nn, h⟩, fun z => absurd (Nat.le_refl _) z⟩
theorem m_boundAfter {s r : Nat} {Q : UInt64 → cg_S → Prop} (hG : MG σ G) (hW : GW G) (hw : whole G) (hs : s < G 0 0) (hr : r ≤ 60) (h : ∀ τ, Fr [] [] [31, 32] σ τ → Q (bndD G r s) τ) : L_X12_bound_53 (i32 s) (i32 r) 0 σ Q := by
  have hn := hW.1
  refine up (n := G 0 0) (fun k τ => Fr [] [] [31, 32] σ τ ∧ ∀ t, t < k → τ.2.2 31 t = bndD G 0 t) (fun v τ => L_X12_bound_53 (i32 s) (i32 r) v τ Q) ?_ ?_ 0 σ (by omega) ⟨Fr.rf σ, fun t ht => by omega⟩
  · rintro k τ hk ⟨hf, hP⟩ kk
    have hG2 := hG.fr hf (by decide)
    have h8 := (hW.2.1 k (by omega)).2.2.2.1
    have nxt : ∀ x, x = bndD G 0 k → L_X12_bound_53 (i32 s) (i32 r) (i32 (k + 1)) (cg_d τ 31 k x) Q := fun x hx => kk _ ⟨hf.tr (Fr.d (by decide)), fun t ht => by
      rw [rd, if_pos rfl]
      by_cases e : t = k
      · rw [if_pos e, e]; exact hx
      · rw [if_neg e]; exact hP t (by omega)⟩
    refine v_X12_bound_53 ?_
    rw [hG2.1.1]
    simp (disch := omega) only [n0, n1, n2, n3, n4, n5, n6, n7, n8, n9, n49, n97, n98, n114, n102, n115, n119, n109, n112, i32_add, i32_mul, i32_N, i32_le, i32_lt, i32_eq, vpi_iff]
    rw [(hG2.2.2.1 k (by omega)).2.2.1]
    simp (disch := omega) only [n0, n1, n2, n3, n4, n5, n6, n7, n8, n9, n49, n97, n98, n114, n102, n115, n119, n109, n112, i32_add, i32_mul, i32_N, i32_le, i32_lt, i32_eq, vpi_iff]
    refine ⟨fun z => by omega, fun _ => ⟨by omega, fun z => ⟨by omega, ?_⟩, fun z => ⟨by omega, ?_⟩⟩⟩
    · rintro _ rfl
      exact nxt _ (by show _ = if G 8 k ≠ 0 then _ else _; rw [if_neg (by omega)])
    · rintro _ rfl
      exact nxt _ (by show _ = if G 8 k ≠ 0 then _ else _; rw [if_pos z])
  · rintro τ ⟨hf, hP⟩
    refine v_X12_bound_53 ?_
    rw [(hG.fr hf (by decide)).1.1]
    refine ⟨fun _ => ?_, fun z => absurd ((i32_le (by omega) (by omega)).mpr (Nat.le_refl _)) z⟩
    refine up (n := r) (fun k τ => Fr [] [] [31, 32] σ τ ∧ ∀ t, t < G 0 0 → τ.2.2 31 t = bndD G k t) (fun v τ => L_X12_bound_89 (i32 s) (i32 r) v τ Q) ?_ ?_ 0 τ (by omega) ⟨hf, hP⟩
    · rintro k τ hk ⟨hf, hP⟩ kk
      have hok := bndD_ok hW hw k (by omega)
      refine v_X12_bound_89 ?_
      simp (disch := omega) only [n0, n1, n2, n3, n4, n5, n6, n7, n8, n9, n49, n97, n98, n114, n102, n115, n119, n109, n112, i32_add, i32_mul, i32_N, i32_le, i32_lt, i32_eq, vpi_iff]
      refine ⟨fun z => by omega, fun _ => ?_⟩
      refine up (n := G 0 0) (fun s' τ => Fr [] [] [31, 32] σ τ ∧ (∀ t, t < G 0 0 → τ.2.2 31 t = bndD G k t) ∧ ∀ t, t < s' → τ.2.2 32 t = bndD G (k + 1) t) (fun v τ => L_X12_bound_97 (i32 s) (i32 r) (i32 k) v τ Q) ?_ ?_ 0 τ (by omega) ⟨hf, hP, fun t ht => by omega⟩
      · rintro s' τ hs' ⟨hf, hP, hN⟩ kk2
        have hG2 := hG.fr hf (by decide)
        have hs7 : s' < 7 := by omega
        obtain ⟨q2, q3, q15, q4⟩ := hG2.2.2.1 s' hs7
        have g3 := (hW.2.1 s' hs7).2.2.1
        have g8 := (hW.2.1 s' hs7).2.2.2.1
        have g30 := (hw.2 s' hs').1
        have e1 : τ.1 1 s' = i32 (ownG G s') := hG2.2.1 s' hs'
        have hown := ownG_lt G s'
        have nxt : ∀ x, x = bndD G (k + 1) s' → L_X12_bound_97 (i32 s) (i32 r) (i32 k) (i32 (s' + 1)) (cg_d τ 32 s' x) Q := fun x hx => kk2 _ ⟨hf.tr (Fr.d (by decide)), fun t ht => by
          rw [rd, if_neg (by decide)]; exact hP t ht, fun t ht => by
          rw [rd, if_pos rfl]
          by_cases e : t = s'
          · rw [if_pos e, e]; exact hx
          · rw [if_neg e]; exact hN t (by omega)⟩
        refine v_X12_bound_97 ?_
        rw [hG2.1.1]
        simp (disch := omega) only [n0, n1, n2, n3, n4, n5, n6, n7, n8, n9, n49, n97, n98, n114, n102, n115, n119, n109, n112, i32_add, i32_mul, i32_N, i32_le, i32_lt, i32_eq, vpi_iff]
        refine ⟨fun z => by omega, fun _ => ?_⟩
        refine m_lowOf hG2 hW (by omega) ((hw.2 s' hs').2 0 g30) hok (by omega) hP ?_
        refine up2 (n := G 3 s') (fun c (x : UInt64) υ => υ = τ ∧ 0 < c ∧ x = bestD G (bndD G k) s' (c - 1)) (fun x v υ => L_X12_bound_119 (i32 s) (i32 r) (i32 k) (i32 s') x v υ Q) ?_ ?_ 1 _ τ (by omega) ⟨rfl, by omega, rfl⟩
        · rintro c x υ hc ⟨rfl, c0, rfl⟩ kk3
          have nx3 : L_X12_bound_119 (i32 s) (i32 r) (i32 k) (i32 s') (btr G s' (lowM G (bndD G k) (3 * s' + c)) (bestD G (bndD G k) s' (c - 1))) (i32 (c + 1)) υ Q := kk3 _ υ ⟨rfl, by omega, by
            obtain ⟨c', rfl⟩ : ∃ c', c = c' + 1 := ⟨c - 1, by omega⟩
            rfl⟩
          refine v_X12_bound_119 ?_
          simp (disch := omega) only [n0, n1, n2, n3, n4, n5, n6, n7, n8, n9, n49, n97, n98, n114, n102, n115, n119, n109, n112, i32_add, i32_mul, i32_N, i32_le, i32_lt, i32_eq, vpi_iff]
          rw [q3]
          simp (disch := omega) only [n0, n1, n2, n3, n4, n5, n6, n7, n8, n9, n49, n97, n98, n114, n102, n115, n119, n109, n112, i32_add, i32_mul, i32_N, i32_le, i32_lt, i32_eq, vpi_iff]
          refine ⟨by omega, fun z => by omega, fun _ => m_lowOf hG2 hW (by omega) ((hw.2 s' hs').2 c hc) hok (by omega) hP ?_⟩
          rw [e1, i32_eq (by omega) (by omega)]
          unfold btr at nx3
          have hA : ownG G s' = 97 ↔ G 1 s' = 1 := by
            unfold ownG
            split
            · exact ⟨fun _ => by assumption, fun _ => rfl⟩
            · exact ⟨fun z => absurd z (by decide), fun z => absurd z (by assumption)⟩
          rw [hA]
          refine ⟨by omega, fun z => ⟨fun z2 => ?_, fun z2 => ?_⟩, fun z => ⟨fun z2 => ?_, fun z2 => ?_⟩⟩
          · rw [if_neg z, if_pos z2] at nx3; exact nx3
          · rw [if_neg z, if_neg z2] at nx3; exact nx3
          · rw [if_pos z, if_pos z2] at nx3; exact nx3
          · rw [if_pos z, if_neg z2] at nx3; exact nx3
        · rintro x υ ⟨rfl, c0, rfl⟩
          refine v_X12_bound_119 ?_
          simp (disch := omega) only [n0, n1, n2, n3, n4, n5, n6, n7, n8, n9, n49, n97, n98, n114, n102, n115, n119, n109, n112, i32_add, i32_mul, i32_N, i32_le, i32_lt, i32_eq, vpi_iff]
          rw [q3, q15]
          simp (disch := omega) only [n0, n1, n2, n3, n4, n5, n6, n7, n8, n9, n49, n97, n98, n114, n102, n115, n119, n109, n112, i32_add, i32_mul, i32_N, i32_le, i32_lt, i32_eq, vpi_iff]
          refine ⟨by omega, fun _ => ⟨by omega, fun z => ⟨by omega, ?_⟩, fun z => ⟨by omega, ?_⟩⟩, fun z => absurd (Nat.le_refl _) z⟩
          · rintro _ rfl
            exact nxt _ (by show _ = if G 8 s' ≠ 0 then _ else _; rw [if_neg (by omega)])
          · rintro _ rfl
            exact nxt _ (by show _ = if G 8 s' ≠ 0 then _ else _; rw [if_pos z])
      · rintro τ ⟨hf, hP, hN⟩
        refine v_X12_bound_97 ?_
        rw [(hG.fr hf (by decide)).1.1]
        refine ⟨fun _ => ?_, fun z => absurd ((i32_le (by omega) (by omega)).mpr (Nat.le_refl _)) z⟩
        refine up (n := G 0 0) (fun s' τ => Fr [] [] [31, 32] σ τ ∧ (∀ t, t < G 0 0 → τ.2.2 32 t = bndD G (k + 1) t) ∧ ∀ t, t < s' → τ.2.2 31 t = bndD G (k + 1) t) (fun v τ => L_X12_bound_229 (i32 s) (i32 r) (i32 k) v τ Q) ?_ ?_ 0 τ (by omega) ⟨hf, hN, fun t ht => by omega⟩
        · rintro s' τ hs' ⟨hf, hN, hP⟩ kk2
          refine v_X12_bound_229 ?_
          rw [(hG.fr hf (by decide)).1.1]
          simp (disch := omega) only [n0, n1, n2, n3, n4, n5, n6, n7, n8, n9, n49, n97, n98, n114, n102, n115, n119, n109, n112, i32_add, i32_mul, i32_N, i32_le, i32_lt, i32_eq, vpi_iff]
          refine ⟨fun z => by omega, fun _ => ⟨by omega, by omega, ?_⟩⟩
          rintro _ rfl
          refine kk2 _ ⟨hf.tr (Fr.d (by decide)), fun t ht => ?_, fun t ht => ?_⟩
          · rw [rd, if_neg (by decide)]; exact hN t ht
          · rw [rd, if_pos rfl]
            by_cases e : t = s'
            · rw [if_pos e, e]; exact hN s' hs'
            · rw [if_neg e]; exact hP t (by omega)
        · rintro τ ⟨hf, hN, hP⟩
          refine v_X12_bound_229 ?_
          rw [(hG.fr hf (by decide)).1.1]
          refine ⟨fun _ => ?_, fun z => absurd ((i32_le (by omega) (by omega)).mpr (Nat.le_refl _)) z⟩
          simp (disch := omega) only [n0, n1, n2, n3, n4, n5, n6, n7, n8, n9, n49, n97, n98, n114, n102, n115, n119, n109, n112, i32_add, i32_mul, i32_N, i32_le, i32_lt, i32_eq, vpi_iff]
          exact kk τ ⟨hf, hP⟩
    · rintro τ ⟨hf, hP⟩
      refine v_X12_bound_89 ?_
      refine ⟨fun _ => ?_, fun z => absurd ((i32_le (by omega) (by omega)).mpr (Nat.le_refl _)) z⟩
      simp (disch := omega) only [n0, n1, n2, n3, n4, n5, n6, n7, n8, n9, n49, n97, n98, n114, n102, n115, n119, n109, n112, i32_add, i32_mul, i32_N, i32_le, i32_lt, i32_eq, vpi_iff]
      rw [hP s hs]
      exact ⟨by omega, h τ hf⟩
theorem m_bound {v1 v2 : Int32} {b : cg_S} {Q : UInt64 → cg_S → Prop} (hR : RB b G) (h1 : (∀ s, s < G 0 0 → v1 ≠ i32 s) → Q FP.dconst0 (cg_i b 0 0 (i32 1))) (h2 : ∀ s, s < G 0 0 → v1 = i32 s → (v2 < 0 ∨ 60 < v2) → Q FP.dconst0 (cg_i b 0 0 (i32 2))) (h3 : ∀ s, s < G 0 0 → v1 = i32 s → ¬ (v2 < 0 ∨ 60 < v2) → ¬ whole G → Q FP.dconst0 (cg_i b 0 0 (i32 3))) (hok : ∀ s r τ, s < G 0 0 → v1 = i32 s → v2 = i32 r → r ≤ 60 → whole G → RB τ G → τ.1 0 0 = i32 0 → Q (bndD G r s) τ) : M_X12_bound v1 v2 b Q := by
  obtain ⟨hW, hG, hp, hK⟩ := id hR
  have hn := hW.1
  have bad : ∀ e : Nat, 0 < e → e < 4 → Q FP.dconst0 (cg_i b 0 0 (i32 e)) → L_X12_bound_39 v1 v2 (i32 e) b Q := fun e e0 e4 hq => by
    refine v_X12_bound_39 ?_
    rintro _ rfl
    have e1 : (cg_i b 0 0 (i32 e)).1 0 0 = i32 e := by rw [ri, if_pos rfl, if_pos rfl]
    rw [e1]
    refine ⟨fun z => ?_, fun _ => hq⟩
    rw [n0, i32_le (by omega) (by omega)] at z
    omega
  refine v_X12_bound (m_isState hn hG.1.1 (fun s hs e1 => ⟨fun _ => ?_, fun y => absurd y (by decide)⟩) (fun z => ⟨fun y => absurd rfl y, fun _ => bad 1 (by omega) (by omega) (h1 z)⟩))
  refine v_X12_in ⟨fun z => ⟨fun y => absurd rfl y, fun _ => bad 2 (by omega) (by omega) (h2 s hs e1 (Or.inl z))⟩, fun z => ⟨fun z2 => ⟨fun y => absurd rfl y, fun _ => bad 2 (by omega) (by omega) (h2 s hs e1 (Or.inr z2))⟩, fun z2 => ⟨fun _ => ?_, fun y => absurd y (by decide)⟩⟩⟩
  have hnn : ¬ (v2 < 0 ∨ 60 < v2) := fun y => y.elim z z2
  refine m_isAll hW hG (fun hw => ⟨fun _ => ?_, fun y => absurd y (by decide)⟩) (fun hw => ⟨fun y => absurd rfl y, fun _ => bad 3 (by omega) (by omega) (h3 s hs e1 hnn hw)⟩)
  refine v_X12_bound_39 ?_
  rintro _ rfl
  have f0 : Fr [0] [] [] b (cg_i b 0 0 0) := Fr.i (by decide)
  have e0 : (cg_i b 0 0 0).1 0 0 = i32 0 := by rw [ri, if_pos rfl, if_pos rfl]; rfl
  refine ⟨fun _ => ?_, fun y => absurd (by rw [e0]; decide) y⟩
  have hv : v2 = i32 v2.toInt.toNat ∧ v2.toInt.toNat ≤ 60 := by
    rw [Int32.lt_iff_toInt_lt] at z z2
    have a1 : (0 : Int32).toInt = 0 := rfl
    have a2 : (60 : Int32).toInt = 60 := rfl
    rw [a1] at z
    rw [a2] at z2
    exact ⟨i32_nat (by omega), by omega⟩
  rw [e1, hv.1]
  refine m_boundAfter (hG.c0 (Or.inl rfl)) hW hw hs hv.2 (fun τ ft => ?_)
  have hk := hok s v2.toInt.toNat τ hs e1 hv.1 hv.2 hw
  exact hk (hR.c0.fr ft (by decide)) (by rw [ft.1 0 (by decide)]; exact e0)
end MBN
theorem op_bound {n : Nat} {v1 v2 : Int32} {a b : cg_S} (h : Inv n a b) : OP_bound (Inv (n + 1)) v1 v2 a b := by
  obtain ⟨G, ch, hch, hC, hK, hR⟩ := h
  have hW := hR.1
  have hn := hW.1
  have up := fun x => Inv.up (n := n) (x := x) hch hC hK hR
  have bad2 : ∀ s, s < G 0 0 → v1 = i32 s → (v2 < 0 ∨ 60 < v2) → M_X12_bound v1 v2 b (fun r2 b1 => M_X12_thrown b1 (fun t b2 => t = 2 ∧ Inv (n + 1) a b2)) := fun s hs e1 hv => m_bound hR (fun z => absurd e1 (z s hs)) (fun _ _ _ _ => m_thrown0 ⟨rfl, up _⟩) (fun _ _ _ y _ => absurd hv y) (fun s' r' τ _ _ e2 hr _ _ _ => by
    exfalso
    rcases hv with z | z
    · rw [e2, n0, i32_lt (by omega) (by omega)] at z; omega
    · rw [e2, show (60 : Int32) = i32 60 from rfl, i32_lt (by omega) (by omega)] at z; omega)
  refine v_X11_bound (c_needState hC hn (fun s hs e1 => ⟨fun z => Or.inr (Or.inl ⟨rfl, bad2 s hs e1 (Or.inl z)⟩), fun z => ⟨fun z2 => ?_, fun z2 => Or.inr (Or.inl ⟨rfl, bad2 s hs e1 (Or.inr (Int32.not_le.mp z2))⟩)⟩⟩) (fun z => Or.inl ⟨rfl, m_bound hR (fun _ => m_thrown0 ⟨rfl, up _⟩) (fun s hs e _ => absurd e (z s hs)) (fun s hs e _ _ => absurd e (z s hs)) (fun s _ _ hs e _ _ _ _ _ => absurd e (z s hs))⟩))
  have hnn : ¬ (v2 < 0 ∨ 60 < v2) := fun y => y.elim z (fun y2 => Int32.not_le.mpr y2 z2)
  have hv : v2 = i32 v2.toInt.toNat ∧ v2.toInt.toNat ≤ 60 := by
    rw [Int32.lt_iff_toInt_lt] at z
    rw [Int32.le_iff_toInt_le] at z2
    have a1 : (0 : Int32).toInt = 0 := rfl
    have a2 : (60 : Int32).toInt = 60 := rfl
    rw [a1] at z
    rw [a2] at z2
    exact ⟨i32_nat (by omega), by omega⟩
  refine c_needWhole hC hW (fun hw => ?_) (fun hw => Or.inr (Or.inr ⟨rfl, m_bound hR (fun y => absurd e1 (y s hs)) (fun _ _ _ y => absurd y hnn) (fun _ _ _ _ _ => m_thrown0 ⟨rfl, up _⟩) (fun _ _ _ _ _ _ _ y _ _ => absurd y hw)⟩))
  generalize v2.toInt.toNat = r at hv
  have e12 : M_X3_boundAfter v1 v2 a = M_X3_boundAfter (i32 s) (i32 r) a := by rw [e1, hv.1]
  rw [e12]
  refine c_boundAfter hC hW hw hs hv.2 (fun τ ft => m_bound hR (fun y => absurd e1 (y s hs)) (fun _ _ _ y => absurd y hnn) (fun _ _ _ _ y => absurd hw y) (fun s' r' υ hs' e1' e2' hr' _ hR' h0 => m_thrown1 h0 ⟨rfl, ?_, ⟨G, ch, by omega, hC.fr ft (by decide), hK.fr ft (by decide), hR'⟩⟩))
  rw [e1, i32_eq (by omega) (by omega)] at e1'
  rw [hv.1, i32_eq (by omega) (by omega)] at e2'
  rw [e1', e2']
