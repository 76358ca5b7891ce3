/-! THE LAW FROM ITS ENTRY TO ITS FIRST LOOP, AND ITS END -/
set_option maxRecDepth 100000 in
set_option maxHeartbeats 8000000 in
theorem law_all {p : Program} {e : Env} {s : State} {m : MethodId} {below : List Frame} {meth : Method} {c : Code} (l : Launch) (hflags : l.flags = flags0) {b L : Nat} {xs : Nat → Int32} (hL : L ≤ 260) (C0 : lw_At p s m meth c b L xs) {n : Nat} {v2 : Int32} (hv2 : v2 = 2 + pickw L xs 0 4) (hn : ¬ v2 < 0 ∧ v2.toNatClampNeg = n ∧ n ≤ 5) (K : L_law_24 n L xs (fun _ => 0) (fun _ => 0) 200 v2 1 j_a0) : W p l e room_1 s m #[Value.ref b] below meth c s.heap [] 0 0 (lw_Z below #[Value.ref b] s) (entryFrame m ([Value.ref b] : List Value).toArray 12) := by
  obtain ⟨hx, hb, hr, hml, hown, hts, hX, hbl, hlocks, hgv⟩ := id C0
  have hs : ∀ w ∈ lk_l, w.before #[Value.ref b] s = true := flat_of_before _ hgv
  obtain ⟨D, cy, hK⟩ := lk_K hts
  have hst : l.stackTraces = false := by unfold Launch.stackTraces; rw [hflags]; decide
  have haux := lk_aux hts
  have hxf := lk_xf hts hs
  have hnc := lk_nc hs
  have hT : ∀ w ∈ cg_T, w.before #[Value.ref b] s = true := fun w hw => hts w (List.mem_filter.mp hw).1
  have hC : cn_X RL cL_law 12 ret p s m #[Value.ref b] meth c D cy (fun q => s.heap.size ≤ q) := ⟨hx, hb, hr, hml, hown, hT, hlocks, hK, fun _ h => h, haux⟩
  have hl := lv_entry ([.ref b]) (n := 12) (Nat.le_of_ble_eq_true rfl)
  rw [lg_entry_eq]
  generalize (lg_sl ([.ref b]) ++ List.replicate (12 - (lg_sl ([.ref b])).length) Slot.unset).toArray = ls at hl ⊢
  have hl : lv_has ls 12 [(0, .ref b)] := hl
  have G : cn_G room_1 p l e s m #[Value.ref b] below meth c D (fun q => s.heap.size ≤ q) (lw_Z below #[Value.ref b] s) 0 0 12 0 [(0, .ref b)] [] [] := by
    refine cn_new (ci := 13) (fs := [.null, .null, .null, .null, .null, .null, .null, .null, .null, .null, .null]) hC uw_X11 tyX11 tyX11_ok (cg_in1 29 (by decide +kernel) (by decide +kernel)) (cg_in1 30 (by decide +kernel) (by decide +kernel)) (cg_in1 1 (by decide +kernel) (by decide +kernel)) rfl (by decide) ⟨Nat.le_of_ble_eq_true rfl, Nat.le_of_ble_eq_true rfl⟩ dL_law_0 (fun q0 => ?_)
    refine cn_dup hC dL_law_3 rfl ?_
    refine cn_init (n := 0) false hC (c_X11 q0) rfl rfl rfl rfl (by decide) (cg_in1 31 (by decide +kernel) (by decide +kernel)) (cg_in1 32 (by decide +kernel) (by decide +kernel)) (cg_in1 1 (by decide +kernel) (by decide +kernel)) (cg_in1 33 (by decide +kernel) (by decide +kernel)) rfl rfl ⟨Nat.le_of_ble_eq_true rfl, Nat.le_of_ble_eq_true rfl⟩ (Nat.le_of_ble_eq_true rfl) ⟨Nat.le_of_ble_eq_true rfl, Nat.le_of_ble_eq_true rfl⟩ (wr := []) rfl dL_law_4 (fun u0 => ?_)
    refine cn_astore_n (lv' := [(1, .ref q0), (0, .ref b)]) hC dL_law_7 rfl (by decide) rfl ?_
    refine cn_widen (k := 199) (n := 1194) (Nat.le_of_ble_eq_true rfl) (Nat.le_of_ble_eq_true rfl) ?_
    intro H locs ls hl hP hD hS
    have hP : va_P D vwCl (cn_w11 cy q0 u0) H := hP
    have hD : va_D (fun q => s.heap.size ≤ q) (cn_w11 cy q0 u0) := hD
    generalize had : j_adC q0 u0 = ad at *
    have hget : ∀ k, k < 88 → (cn_w11 cy q0 u0)[(j_pC[k]?).getD 0]? = some (ad k, cg_c cg_WC cy ad j_a0 k) := fun k hk => by rw [← had]; exact j_getC hk
    have hlo : ∀ k, k < 88 → s.heap.size ≤ ad k := fun k hk => hD.2 _ _ (hget k hk)
    have hinj : cg_inj ad 88 := fun i j hi hj he => (j_pC_ok i hi).2 j hj (hD.1 _ _ _ _ (hget i hi) (hget j hj) he)
    have hPW : va_P D vwCl (cg_W cg_WC cy ad j_a0) H := by
      intro k q hq
      obtain ⟨h1, rfl⟩ := cg_W_some hq
      exact hP _ _ (hget k h1)
    have hFA : ∀ q, cg_F ad 88 s.heap.size q → s.heap.size ≤ q := fun q hq => by
      rcases hq with ⟨k, hk, rfl⟩ | hq
      · exact hlo k hk
      · exact hq
    have hSF : va_S (cg_F ad 88 s.heap.size) s.heap H locs := ⟨hS.1, fun q h1 h2 => hS.2.1 q h1 (fun z => h2 (Or.inr z)), fun q hq => Or.inr (hS.2.2 q hq)⟩
    have hA0 : ∀ a : Nat, a < s.heap.size → ¬ cg_F ad 88 s.heap.size a := fun a ha hF => absurd (hFA a hF) (Nat.not_le.mpr ha)
    have hCW : cg_X cg_WC RL cL_law 12 ret p s m #[Value.ref b] meth c D cy ad := ⟨hx, hb, hr, hml, hown, hT, hlocks, hK, hinj, haux.1⟩
    have hQ : cq_Y cg_WC L xs b c.exceptionTable.toList p l s m #[Value.ref b] meth c D cy ad := ⟨⟨hCW, hst, rfl, hxf, lk_zq hts hs hA0, hnc, lk_sq hts hs hA0⟩, hlo, hX, hbl⟩
    have e1 : ad 0 = q0 := by rw [← had]; rfl
    have hE : cq_E n L xs b c.exceptionTable.toList p l e s m #[Value.ref b] below meth c D cy (lw_Z below #[Value.ref b] s) := by
      intro ad2 kc σ x hx1 hkc hQ2
      subst hx1
      refine ga_iload_n hQ2.1.1 dL_law_514 0 rfl rfl ?_
      intro H2 locs2 ls2 g1 g2 g3
      refine W.widen (k := 600312) (n := 7291745) (by omega) (by omega) ?_
      refine va_forget (fun q hq => ?_) ?_
      · rcases g3.2.2 q hq with ⟨k, hk, e⟩ | z
        · rw [e]; exact hQ2.2.1 k hk
        · exact z
      · exact lw_ret (d0 := s.drawn) (Drawn.sameBut.refl s.drawn lw_cs) hx hb hr hlocks dL_law_515
    have hl2 : lv_has ls 12 [(1, .ref (ad 0)), (0, .ref b)] := by rw [e1]; exact hl
    have G2 : cg_G cg_WC room_1 p l e s m #[Value.ref b] below meth c D cy ad (lw_Z below #[Value.ref b] s) 199 1194 12 8 [(1, .ref (ad 0)), (0, .ref b)] [] j_a0 := by
      refine ga_iconst (v := 2) hCW dL_law_8 (by decide) ?_
      refine ga_aload_n hCW dL_law_9 1 rfl rfl ?_
      refine ga_iconst (v := 0) hCW dL_law_10 (by decide) ?_
      refine ga_iconst (v := 4) hCW dL_law_11 (by decide) ?_
      refine ck_callS (As := [.ref b, .int 0, .int 4]) (st := [.int 2]) (n := 3) hCW hX hbl (cq_out hQ) (k_pick hL (by decide) (by decide)) (cg_in3 112 (by decide +kernel) (by decide +kernel)) (cg_in3 113 (by decide +kernel) (by decide +kernel)) (cg_in1 0 (by decide +kernel) (by decide +kernel)) (cg_in3 114 (by decide +kernel) (by decide +kernel)) rfl rfl (by decide +kernel) ⟨Nat.le_of_ble_eq_true rfl, Nat.le_of_ble_eq_true rfl⟩ ⟨Nat.le_of_ble_eq_true rfl, Nat.le_of_ble_eq_true rfl⟩ rfl rfl (Nat.le_of_ble_eq_true rfl) dL_law_12 (fun v hq => ?_)
      subst hq
      refine ga_iadd hCW dL_law_15 ?_
      rw [← hv2]
      refine ga_istore_n (lv' := [(2, .int v2), (1, .ref (ad 0)), (0, .ref b)]) hCW dL_law_16 rfl (by decide) rfl ?_
      refine ga_iconst (v := 1) hCW dL_law_17 (by decide) ?_
      refine ga_istore_n (lv' := [(3, .int 1), (2, .int v2), (1, .ref (ad 0)), (0, .ref b)]) hCW dL_law_18 rfl (by decide) rfl ?_
      refine ga_iload_n hCW dL_law_19 1 rfl rfl ?_
      refine cq_newa (w := cg_WC) (w' := cg_W2 n) (t0 := 0) (N := n) (cA := cy 0) (ty := .boolean) (a0 := (n, .inl (fun _ => 0))) (σ := j_a0) (σ' := jp j_a0 (fun _ => 0) (fun _ => 0)) (lvf := fun ad => [(3, .int 1), (2, .int v2), (1, .ref (ad 0)), (0, .ref b)]) (stf := fun ad => []) hQ rfl jp_c2 (fun _ => rfl) (cg_in1 137 (by decide +kernel) (by decide +kernel)) rfl rfl (fun _ z => nomatch z) (fun _ => rfl) hn.1 hn.2.1 (by show n * 1 ≤ 536870912; omega) ⟨Nat.le_of_ble_eq_true rfl, by show _ ≤ 7291745; omega⟩ dL_law_20 (fun ad' hag => by simp only [hag 0 (Nat.le_of_ble_eq_true rfl)]) (fun _ _ => rfl) (fun ad2 hag hQ2 => ?_)
      refine ga_astore (lv' := [(4, .ref (ad2 88)), (3, .int 1), (2, .int v2), (1, .ref (ad2 0)), (0, .ref b)]) hQ2.1.1 dL_law_22 (by decide) rfl ?_
      refine ga_locals [4, 3, 2, 1, 0] rfl ?_
      refine gp_kw (k := 200) (by omega) (by omega) ?_
      exact K p l e s m #[Value.ref b] below meth c D cy ad2 _ b _ hQ2 hE
    exact G2 H locs ls hl2 hPW hSF
  exact G s.heap [] ls hl (fun k q h => by simp at h) ⟨fun i j p q h => by simp at h, fun k q h => by simp at h⟩ va_S.rf
