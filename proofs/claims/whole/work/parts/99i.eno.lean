/-! THE CALLS: endOf -/
section ENO
variable {σ : cg_S} {G : Gm}
/-- the states of a mask -/
def BS (n T t : Nat) : Prop := t < n ∧ T.testBit t = true
/-- a mask that is an end component of v -/
def EM (G : Gm) (v T : Nat) : Prop := T.testBit v = true ∧ isEC G (BS (G 0 0) T)
theorem sh_n : ∀ n : Fin 8, ((1 : Int32) <<< (i32 n.val &&& 31)) = i32 (2 ^ n.val) := by decide
/-- what was found below k: 0 is nothing, l + 1 is l -/
def FD (G : Gm) (v k a : Nat) : Prop := (a = 0 → ∀ T, T < k → ¬ EM G v T) ∧ (a ≠ 0 → a - 1 < G 0 0 ∧ (∃ T, T < k ∧ EM G v T ∧ BS (G 0 0) T (a - 1)) ∧ ∀ T, T < k → EM G v T → ∀ t, BS (G 0 0) T t → a - 1 ≤ t)
theorem FD_no {v k a : Nat} (h : FD G v k a) (hno : ¬ EM G v k) : FD G v (k + 1) a := by
  have key : ∀ T, T < k + 1 → EM G v T → T < k := fun T hT hE => by
    have : T ≠ k := fun e => hno (e ▸ hE)
    omega
  exact ⟨fun e T hT hE => h.1 e T (key T hT hE) hE, fun e => ⟨(h.2 e).1, by
    obtain ⟨T, h1, h2⟩ := (h.2 e).2.1
    exact ⟨T, by omega, h2⟩, fun T hT hE => (h.2 e).2.2 T (key T hT hE) hE⟩⟩
theorem FD_yes {v k a l : Nat} (h : FD G v k a) (hE : EM G v k) (hl : BS (G 0 0) k l) (hlow : ∀ t, BS (G 0 0) k t → l ≤ t) : FD G v (k + 1) (if a = 0 then l + 1 else if a - 1 ≤ l then a else l + 1) := by
  by_cases c : a = 0
  · rw [if_pos c]
    refine ⟨fun z => by omega, fun _ => ⟨hl.1, ⟨k, by omega, hE, hl⟩, fun T hT hE2 t ht => ?_⟩⟩
    have e : T = k := Classical.byContradiction fun y => h.1 c T (by omega) hE2
    rw [e] at ht
    exact hlow t ht
  · rw [if_neg c]
    obtain ⟨h1, ⟨T0, t1, t2, t3⟩, h2⟩ := h.2 c
    by_cases c2 : a - 1 ≤ l
    · rw [if_pos c2]
      refine ⟨fun z => absurd z c, fun _ => ⟨h1, ⟨T0, by omega, t2, t3⟩, fun T hT hE2 t ht => ?_⟩⟩
      by_cases e : T = k
      · rw [e] at ht; have := hlow t ht; omega
      · exact h2 T (by omega) hE2 t ht
    · rw [if_neg c2]
      refine ⟨fun z => by omega, fun _ => ⟨hl.1, ⟨k, by omega, hE, hl⟩, fun T hT hE2 t ht => ?_⟩⟩
      by_cases e : T = k
      · rw [e] at ht; exact hlow t ht
      · have := h2 T (by omega) hE2 t ht; omega
theorem m_endOf {v1 : Int32} {b : cg_S} {Q : Int32 → cg_S → Prop} (hR : RB b G) (hbad : ∀ e, why2 v1 G e → Q 0 (cg_i b 0 0 (i32 e))) (hok : ∀ v a τ, v < G 0 0 → v1 = i32 v → whole G → RB τ G → τ.1 0 0 = i32 0 → FD G v (2 ^ G 0 0) a → a ≠ 0 → Q (i32 (a - 1)) τ) (hno : ∀ v τ, v < G 0 0 → v1 = i32 v → whole G → RB τ G → FD G v (2 ^ G 0 0) 0 → Q 0 (cg_i τ 0 0 (i32 3))) : M_X12_endOf v1 b Q := by
  have hW := hR.1
  have hn := hW.1
  refine v_X12_endOf (m_isGame hR (fun e he => ⟨fun z => absurd rfl z, fun _ => hbad e he⟩) (fun v hv e hw => ⟨fun _ => ?_, fun z => absurd z (by decide)⟩))
  have e00 : (cg_i b 0 0 (i32 0)).1 0 0 = i32 0 := by rw [ri, if_pos rfl, if_pos rfl]
  have h2n : 2 ^ G 0 0 ≤ 128 := Nat.pow_le_pow_right (n := 2) (by decide) hn
  have h1n := Nat.one_le_two_pow (n := G 0 0)
  have hsh : ((1 : Int32) <<< (i32 (G 0 0) &&& 31)) = i32 (2 ^ G 0 0) := sh_n ⟨G 0 0, by omega⟩
  have h0 := hR.c0 (x := i32 0)
  rw [e]
  generalize hb0 : cg_i b 0 0 (i32 0) = β at *
  refine up2 (n := 2 ^ G 0 0) (fun k (a : Nat) τ => Fr [16, 20] [] [] β τ ∧ 1 ≤ k ∧ a ≤ 7 ∧ FD G v k a) (fun a w τ => L_X12_endOf_14 (i32 v) (rkv a) w τ Q) ?_ ?_ 1 0 β h1n ⟨Fr.rf β, Nat.le_refl 1, by omega, fun _ T hT hE => by
    have e : T = 0 := by omega
    rw [e] at hE
    have := hE.1
    rw [Nat.zero_testBit] at this
    exact absurd this (by decide), fun z => absurd rfl z⟩
  · rintro k a τ hk ⟨hf, k1, a7, hFD⟩ kk
    have hRt := h0.fr hf (by decide)
    have hG2 := hRt.2.1
    have hbit : ∀ t, t < 7 → (i32 k >>> (i32 t &&& 31)) &&& 1 = i32 (if k.testBit t then 1 else 0) := fun t ht => bit_get ⟨k, by omega⟩ ⟨t, ht⟩
    refine v_X12_endOf_14 ?_
    rw [hG2.1.1, hsh, hbit v (by omega)]
    refine ⟨fun z => ?_, fun _ => ⟨fun z => ?_, fun z => ?_⟩⟩
    · rw [i32_le (by omega) (by omega)] at z
      omega
    · have hvb : k.testBit v = true := by
        cases hc : k.testBit v with
        | true => rfl
        | false => rw [hc] at z; exact absurd rfl z
      refine up (n := G 0 0) (fun t τ => Fr [16, 20] [] [] β τ ∧ ∀ u, u < t → τ.1 16 u = i32 (b01 (BS (G 0 0) k u))) (fun w τ => L_X12_endOf_38 (i32 v) (rkv a) (i32 k) w τ Q) ?_ ?_ 0 τ (by omega) ⟨hf, fun u hu => by omega⟩
      · rintro t τ ht ⟨hf, hP⟩ kk2
        have hG2 := (h0.fr hf (by decide)).2.1
        have nxt : ∀ x, x = b01 (BS (G 0 0) k t) → L_X12_endOf_38 (i32 v) (rkv a) (i32 k) (i32 (t + 1)) (cg_i τ 16 t (i32 x)) Q := fun x hx => kk2 _ ⟨hf.tr (Fr.i (by decide)), fun u hu => by
          rw [ri, if_pos rfl]
          by_cases e : u = t
          · rw [if_pos e, e, hx]
          · rw [if_neg e]; exact hP u (by omega)⟩
        refine v_X12_endOf_38 ?_
        rw [hG2.1.1, hbit t (by omega)]
        refine ⟨fun z => ?_, fun _ => ⟨fun z => ?_, fun z => ?_⟩⟩
        · rw [i32_le (by omega) (by omega)] at z
          omega
        · have hb : ¬ k.testBit t = true := fun y => z (by rw [y]; rfl)
          simp (disch := omega) only [n0, n1, n2, n3, n4, n5, n6, n7, n8, n9, n49, n97, n98, n114, n102, n115, n119, n109, n112, i32_add, i32_mul, i32_N, i32_le, i32_lt, i32_eq, vpi_iff, vn0]
          refine ⟨by omega, ?_⟩
          rintro _ rfl
          exact nxt 0 (b01_0 (fun y => hb y.2)).symm
        · have hb : k.testBit t = true := by
            cases hc : k.testBit t with
            | true => rfl
            | false => rw [hc] at z; exact absurd z (by decide)
          simp (disch := omega) only [n0, n1, n2, n3, n4, n5, n6, n7, n8, n9, n49, n97, n98, n114, n102, n115, n119, n109, n112, i32_add, i32_mul, i32_N, i32_le, i32_lt, i32_eq, vpi_iff, vn1]
          refine ⟨by omega, ?_⟩
          rintro _ rfl
          exact nxt 1 (b01_1 ⟨ht, hb⟩).symm
      · rintro τ ⟨hf, hP⟩
        have hRt := h0.fr hf (by decide)
        have hG2 := hRt.2.1
        refine v_X12_endOf_38 ?_
        rw [hG2.1.1]
        refine ⟨fun _ => ?_, fun z => absurd ((i32_le (by omega) (by omega)).mpr (Nat.le_refl _)) z⟩
        refine m_isEnd hG2 hW (S := BS (G 0 0) k) hP (fun τ2 f2 hE => ⟨fun _ => ?_, fun z => absurd z (by decide)⟩) (fun τ2 f2 hE => ⟨fun z => absurd rfl z, fun _ => ?_⟩)
        · have hf2 : Fr [16, 20] [] [] β τ2 := hf.tr (f2.mo (by simp) (fun _ z => z) (fun _ z => z))
          have hEM : EM G v k := ⟨hvb, hE⟩
          -- the lowest state of the mask
          have go : ∀ d t, t + d = v → (∀ u, u < t → ¬ BS (G 0 0) k u) → L_X12_endOf_88 (i32 v) (rkv a) (i32 k) (i32 t) τ2 Q := by
            intro d
            induction d with
            | zero =>
              intro t htv hlo
              have htv' : t = v := by omega
              subst htv'
              have fin : ∀ x, x = rkv (if a = 0 then t + 1 else if a - 1 ≤ t then a else t + 1) → L_X12_endOf_14 (i32 t) x (i32 (k + 1)) τ2 Q := by
                rintro _ rfl
                refine kk _ τ2 ⟨hf2, by omega, ?_, FD_yes hFD hEM ⟨hv, hvb⟩ (fun u hu => Nat.le_of_not_lt (fun y => hlo u y hu))⟩
                split
                · omega
                · split <;> omega
              have e16 : τ2.1 16 t = i32 1 := by
                rw [f2.1 16 (by decide), hP t hv, b01_1 ⟨hv, hvb⟩]
              refine v_X12_endOf_88 ?_
              simp (disch := omega) only [n0, n1, n2, n3, n4, n5, n6, n7, n8, n9, n49, n97, n98, n114, n102, n115, n119, n109, n112, i32_add, i32_mul, i32_N, i32_le, i32_lt, i32_eq, vpi_iff]
              rw [e16]
              simp (disch := omega) only [n0, n1, n2, n3, n4, n5, n6, n7, n8, n9, n49, n97, n98, n114, n102, n115, n119, n109, n112, i32_add, i32_mul, i32_N, i32_le, i32_lt, i32_eq, vpi_iff]
              rw [rkv_m (by omega)]
              refine ⟨by omega, fun _ => ⟨fun z => fin _ (by rw [if_pos z, rkv_s]), fun z => ?_⟩, fun z => by omega⟩
              rw [show (i32 t : Int32) = rkv (t + 1) from (rkv_s t).symm, rkv_le (by omega) (by omega)]
              refine ⟨fun z2 => ?_, fun z2 => ?_⟩
              · rw [rkv_s]
                exact fin _ (by rw [if_neg z, if_pos (by omega)])
              · rw [rkv_s]
                exact fin _ (by rw [if_neg z, if_neg (by omega), rkv_s])
            | succ d ih =>
              intro t htv hlo
              have ht : t < G 0 0 := by omega
              have fin : BS (G 0 0) k t → ∀ x, x = rkv (if a = 0 then t + 1 else if a - 1 ≤ t then a else t + 1) → L_X12_endOf_14 (i32 v) x (i32 (k + 1)) τ2 Q := by
                rintro hb _ rfl
                refine kk _ τ2 ⟨hf2, by omega, ?_, FD_yes hFD hEM hb (fun u hu => Nat.le_of_not_lt (fun y => hlo u y hu))⟩
                split
                · omega
                · split <;> omega
              have e16 : τ2.1 16 t = i32 (b01 (BS (G 0 0) k t)) := by
                rw [f2.1 16 (by decide), hP t ht]
              have hb := b01_le (BS (G 0 0) k t)
              refine v_X12_endOf_88 ?_
              simp (disch := omega) only [n0, n1, n2, n3, n4, n5, n6, n7, n8, n9, n49, n97, n98, n114, n102, n115, n119, n109, n112, i32_add, i32_mul, i32_N, i32_le, i32_lt, i32_eq, vpi_iff]
              rw [e16]
              simp (disch := omega) only [n0, n1, n2, n3, n4, n5, n6, n7, n8, n9, n49, n97, n98, n114, n102, n115, n119, n109, n112, i32_add, i32_mul, i32_N, i32_le, i32_lt, i32_eq, vpi_iff]
              rw [rkv_m (by omega)]
              refine ⟨by omega, fun z0 => ⟨fun z => fin (b01_ne.mp z0) _ (by rw [if_pos z, rkv_s]), fun z => ?_⟩, fun z => ih (t + 1) (by omega) (fun u hu => ?_)⟩
              · rw [show (i32 t : Int32) = rkv (t + 1) from (rkv_s t).symm, rkv_le (by omega) (by omega)]
                refine ⟨fun z2 => ?_, fun z2 => ?_⟩
                · exact fin (b01_ne.mp z0) _ (by rw [if_neg z, if_pos (by omega)])
                · exact fin (b01_ne.mp z0) _ (by rw [if_neg z, if_neg (by omega)])
              · by_cases e : u = t
                · rw [e]; exact fun y => absurd (b01_ne.mpr y) (by omega)
                · exact hlo u (by omega)
          exact go v 0 (by omega) (fun u hu => by omega)
        · have hf2 : Fr [16, 20] [] [] β τ2 := hf.tr (f2.mo (by simp) (fun _ z => z) (fun _ z => z))
          rw [n1, i32_add]
          exact kk a τ2 ⟨hf2, by omega, a7, FD_no hFD (fun y => hE y.2)⟩
    · have hvb : ¬ k.testBit v = true := fun y => by rw [y] at z; exact absurd z (by decide)
      rw [n1, i32_add]
      exact kk a τ ⟨hf, by omega, a7, FD_no hFD (fun y => hvb y.1)⟩
  · rintro a τ ⟨hf, k1, a7, hFD⟩
    have hRt := h0.fr hf (by decide)
    refine v_X12_endOf_14 ?_
    rw [hRt.2.1.1.1, hsh]
    refine ⟨fun _ => ?_, fun z => absurd ((i32_le (by omega) (by omega)).mpr (Nat.le_refl _)) z⟩
    rw [(rkv_1 (a := a) (by omega)).2.2]
    refine ⟨fun z => ?_, fun z => v_X12_fails ?_⟩
    · obtain ⟨a', rfl⟩ : ∃ a', a = a' + 1 := ⟨a - 1, by omega⟩
      rw [rkv_s]
      exact hok v (a' + 1) τ hv e hw hRt (by rw [hf.1 0 (by decide)]; exact e00) hFD z
    · rintro _ rfl
      subst z
      exact hno v τ hv e hw hRt hFD
end ENO
theorem mk_BS {G : Gm} {v : Nat} {w : Int32} (hW : GW G) (h : mk w (endS G v)) : ∃ T, T < 2 ^ G 0 0 ∧ BS (G 0 0) T = endS G v := by
  have hn := hW.1
  obtain ⟨T, h1, -, h3⟩ := h
  have hbit : ∀ t, T.testBit t = true → t < 7 := fun t ht => Classical.byContradiction fun z => by
    have h7 : 2 ^ 7 ≤ 2 ^ t := Nat.pow_le_pow_right (by decide) (by omega)
    have : T.testBit t = false := Nat.testBit_lt_two_pow (by omega)
    rw [this] at ht
    exact absurd ht (by decide)
  refine ⟨T, Nat.lt_pow_two_of_testBit T (fun i hi => ?_), funext fun t => propext ⟨fun z => (h3 t (hbit t z.2)).mp z.2, fun z => ⟨endS_n z, (h3 t (by have := endS_n z; omega)).mpr z⟩⟩⟩
  cases hc : T.testBit i with
  | false => rfl
  | true =>
    have := endS_n ((h3 i (hbit i hc)).mp hc)
    omega
theorem EM_sub {G : Gm} {v T t : Nat} (hv : v < G 0 0) (hE : EM G v T) (ht : BS (G 0 0) T t) : endS G v t := endS_max hv hE.2 ⟨hv, hE.1⟩ (fun _ z => z.1) _ t ht
theorem op_endOf {n : Nat} {v1 : Int32} {a b : cg_S} (h : Inv n a b) : OP_endOf (Inv (n + 1)) v1 a b := by
  obtain ⟨G, ch, hch, hC, hK, hR⟩ := h
  have hW := hR.1
  have hn7 := hW.1
  refine v_X11_endOf (c_needWholeFor hC hW (fun s hs e hw => ?_) (fun e he => ?_))
  · rw [show M_X3_endSet v1 a = M_X3_endSet (i32 s) a by rw [e]]
    refine c_endSet hC hW hs (fun τ w f1 hm => ?_)
    have hC1 := hC.fr f1 (by decide)
    have hK1 := hK.fr f1 (by decide)
    have hinv : ∀ b', RB b' G → Inv (n + 1) τ b' := fun b' hb => ⟨G, ch, by omega, hC1, hK1, hb⟩
    obtain ⟨T0, t1, t2⟩ := mk_BS hW hm
    have em0 : ∀ t, endS G s t → EM G s T0 := fun t ht => by
      have h1 : BS (G 0 0) T0 s := by rw [t2]; exact endS_v hs ht
      exact ⟨h1.2, by rw [t2]; exact endS_EC hs⟩
    refine c_lowestOf hm (fun t ht hst hlow => ?_) (fun hno => Or.inr (Or.inr ⟨rfl, ?_⟩))
    · refine m_endOf hR (fun e' he' => (why2_no he' hs e hw).elim) (fun s' c b' hs' e' _ hb h0 hFD hc0 => m_thrown1 h0 ⟨rfl, ?_, hinv _ hb⟩) (fun s' b' hs' e' _ _ hFD => ?_)
      · rw [e, i32_eq (by omega) (by omega)] at e'
        subst e'
        obtain ⟨-, ⟨T, q1, q2, q3⟩, q4⟩ := hFD.2 hc0
        have a1 : t ≤ c - 1 := Nat.le_of_not_lt (fun y => hlow _ y (EM_sub hs q2 q3))
        have a2 : c - 1 ≤ t := q4 T0 t1 (em0 t hst) t (by rw [t2]; exact hst)
        rw [show t = c - 1 by omega]
      · rw [e, i32_eq (by omega) (by omega)] at e'
        subst e'
        exact absurd (em0 t hst) (hFD.1 rfl T0 t1)
    · refine m_endOf hR (fun e' he' => (why2_no he' hs e hw).elim) (fun s' c b' hs' e' _ hb h0 hFD hc0 => ?_) (fun s' b' hs' e' _ hb _ => m_thrown0 ⟨rfl, hinv _ hb.c0⟩)
      rw [e, i32_eq (by omega) (by omega)] at e'
      subst e'
      obtain ⟨-, ⟨T, q1, q2, q3⟩, q4⟩ := hFD.2 hc0
      exact absurd (EM_sub hs q2 q3) (hno _ (by have := q3.1; omega))
  · have fin : ∀ P : Int32 → cg_S → Prop, P (i32 e) (cg_i b 0 0 (i32 e)) → M_X12_endOf v1 b (fun r2 b1 => M_X12_thrown b1 P) := fun P hP => m_endOf hR (fun e' he' => by rw [why2_uniq he' he]; exact m_thrown0 hP) (fun s _ _ hs e1 hw _ _ _ _ => (why2_no he hs e1 hw).elim) (fun s τ hs e1 hw _ _ => (why2_no he hs e1 hw).elim)
    have hI : Inv (n + 1) a (cg_i b 0 0 (i32 e)) := Inv.up hch hC hK hR
    rcases (show e = 1 ∨ e = 2 by rcases he with ⟨z, -⟩ | ⟨z, -⟩ <;> omega) with rfl | rfl
    · exact Or.inl ⟨rfl, fin _ ⟨rfl, hI⟩⟩
    · exact Or.inr (Or.inl ⟨rfl, fin _ ⟨rfl, hI⟩⟩)
