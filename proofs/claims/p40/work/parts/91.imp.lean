/-! THE CLASS: strategies are made better until they can't be -/
section IM
variable {G : Gm} {aim ch : Nat} {p q : Nat → Nat} {x : Nat → Rat}
theorem nA_iff (hW : GW G) {s : Nat} (hs : s < G 0 0) : ¬ gA G s ↔ G 1 s = 0 := by
  have := (hW.2.1 s (by have := hW.1; omega)).1
  unfold gA
  omega
theorem chg_no {ia : Nat} (hW : GW G) (hw : whole G) (hq : pkOk G q) (hx : gX G aim (mv q) x) (h : ∀ s m, s < G 0 0 → G 1 s = ia → ¬ stop G aim s → gAd G s m → ¬ BM G aim ia x m (mv q s)) : (ia = 1 → noRA G aim x) ∧ (ia = 0 → noRB G aim x) := by
  refine ⟨fun hi s m hs hA hst hm => ?_, fun hi s m hs hA hst hm => ?_⟩
  · have h1 := h s m hs (by rw [hi]; exact hA) hst hm
    unfold BM at h1
    rw [if_pos hi, (prm_at hW hw hq hx hs hst hm).1] at h1
    exact Rat.not_lt.mp h1
  · have h1 := h s m hs (by rw [hi]; exact (nA_iff hW hs).mp hA) hst hm
    unfold BM at h1
    rw [if_neg (by omega), (prm_at hW hw hq hx hs hst hm).2] at h1
    exact Rat.not_lt.mp h1
theorem chg_im {ia : Nat} {r : Nat → Nat} (hW : GW G) (hw : whole G) (hq : pkOk G q) (hr : pkOk G r) (hx : gX G aim (mv q) x) (h : ∀ s, s < G 0 0 → r s = q s ∨ (G 1 s = ia ∧ ¬ stop G aim s ∧ BM G aim ia x (mv r s) (mv q s))) : (ia = 1 → imRA G aim x (mv q) (mv r)) ∧ (ia = 0 → imRB G aim x (mv q) (mv r)) := by
  refine ⟨fun hi s hs => ?_, fun hi s hs => ?_⟩
  · rcases h s hs with e | ⟨e1, e2, e3⟩
    · left; unfold mv; rw [e]
    · right
      unfold BM at e3
      rw [if_pos hi, (prm_at hW hw hq hx hs e2 (mv_pk hr s hs)).1] at e3
      exact ⟨by rw [hi] at e1; exact e1, e2, e3⟩
  · rcases h s hs with e | ⟨e1, e2, e3⟩
    · left; unfold mv; rw [e]
    · right
      unfold BM at e3
      rw [if_neg (by omega), (prm_at hW hw hq hx hs e2 (mv_pk hr s hs)).2] at e3
      exact ⟨(nA_iff hW hs).mpr (by rw [hi] at e1; exact e1), e2, e3⟩
theorem mv_ne {s : Nat} (h : q s ≠ p s) : mv q s ≠ mv p s := by unfold mv; omega
theorem c_respond1 {nA : Nat} {o oi : Nat → Nat} {σ : cg_S} {Q : cg_S → Prop} (hC : CG σ G ch) (hW : GW G) (hw : whole G) (ha : okA aim) (hO : ORD σ (G 0 0) nA (gA G) o oi) (hpk : pkOk G p) (hp : ∀ s, s < 7 → p s ≤ 2) (hpc : PK σ 29 (G 0 0) p) (h : ∀ τ q x, Fr [29] cL [] σ τ → PK τ 29 (G 0 0) q → pkOk G q → (∀ s, s < 7 → q s ≤ 2) → (∀ s, s < G 0 0 → gA G s → q s = p s) → cvB G aim (mv q) x → AW τ (G 0 0) x → Q τ) : M_X4_respond (i32 aim) (i32 1) σ Q := by
  have hn := hW.1
  have ha2 := okA_lt ha
  have key : ∀ r k, k + r = 2187 → ∀ τ q, Fr [29] cL [] σ τ → PK τ 29 (G 0 0) q → pkOk G q → (∀ s, s < 7 → q s ≤ 2) → (∀ s, s < G 0 0 → gA G s → q s = p s) → (aim = 114 → ∃ x, gX G 114 (mv q) x ∧ ∀ s, s < G 0 0 → avd G p s → x s ≤ 0) → HS G (ltX G aim) k q → L_X4_respond_26 (i32 aim) (i32 1) (i32 1) (i32 k) τ Q := by
    intro r
    induction r with
    | zero =>
      intro k hk τ q _ _ _ _ _ _ hH
      have := hH.stopB hW hw
      omega
    | succ r ih =>
      intro k hk τ q hf r1 r2 r3 r4 r5 hH
      have hC2 := hC.fr hf (by decide)
      refine v_X4_respond_26 ?_
      rw [show (2187 : Int32) = i32 2187 from rfl]
      simp (disch := omega) only [n0, n1, n2, n3, n4, n5, n6, n7, n8, n9, n49, n97, n98, n114, n102, n115, n119, n109, n112, i32_add, i32_mul, i32_N, i32_le, i32_lt, i32_eq, vpi_iff]
      refine ⟨fun z => by omega, fun _ => ⟨fun z => by omega, fun _ => ?_⟩⟩
      refine c_evalFrom (from' := 0) (pk := 29) hC2 hW hw r2 r3 ha (Or.inr (Or.inl rfl)) r1 (hO.fr hf (by decide)) (Nat.zero_le _) (fun i hi => by omega) (fun τ1 x f1 _ hX hAW => ?_)
      refine ⟨fun z => by omega, fun _ => ?_⟩
      obtain ⟨d, u, hU⟩ := id hAW
      have hf1 : Fr [29] cL [] σ τ1 := hf.tr (f1.mo (by simp) (fun _ z => z) (fun _ z => z))
      have r1' : PK τ1 29 (G 0 0) q := fun s hs => by rw [f1.1 29 (by simp)]; exact r1 s hs
      have hz : aim = 114 → ∀ s, s < G 0 0 → avd G p s → x s ≤ 0 := fun e s hs hav => by
        obtain ⟨x', hx', h0⟩ := r5 e
        subst e
        rw [gX_uniq hW hw (mv_pk r2) hX hx' s hs]
        exact h0 s hs hav
      refine c_change (ia := 0) (d := d) (u := u) (by omega) (hC.fr hf1 (by decide)) hW hw ha hU r2 r3 r1' (fun τ2 q' f g1 g2 g3 g4 g5 g6 g7 g8 => ?_)
      have hf2 : Fr [29] cL [] σ τ2 := hf1.tr (g1.mo (by simp) (by simp) (fun _ z => z))
      simp (disch := omega) only [n0, n1, n2, n3, n4, n5, n6, n7, n8, n9, n49, n97, n98, n114, n102, n115, n119, n109, n112, i32_add, i32_mul, i32_N, i32_le, i32_lt, i32_eq, vpi_iff]
      refine ⟨fun z => ?_, fun z => ?_⟩
      · refine v_X4_respond_26 ⟨fun _ => ?_, fun y => absurd rfl y⟩
        obtain ⟨e1, e2⟩ := g7 z
        refine h τ2 q' x hf2 g2 g4 g5 (fun s hs hA => by rw [e1 s hs]; exact r4 s hs hA) ?_ (hAW.fr g1 (by decide))
        have hX' : gX G aim (mv q') x := gX_congr (fun s hs => by unfold mv; rw [e1 s hs]) hX
        refine ⟨hX', (chg_no hW hw r2 hX e2).2 rfl, fun e => ?_⟩
        subst e
        exact avd_away hX' (fun s hs hav => hz rfl s hs (avd_congr (fun s hs hA => by rw [e1 s hs]; exact r4 s hs hA) hav))
      · have him := (chg_im hW hw r2 g4 hX g6).2 rfl
        obtain ⟨y, hy⟩ := gX_ex (aim := aim) hW hw (mv_pk g4)
        obtain ⟨k1, k2⟩ := btrB hW hw (mv_pk r2) (mv_pk g4) hX him hy
        obtain ⟨s, hs, hne⟩ := g8 (by omega)
        refine ih (k + 1) (by omega) τ2 q' hf2 g2 g4 g5 (fun t ht hA => ?_) (fun e => ⟨y, by subst e; exact hy, fun t ht hav => Rat.le_trans (k1 t ht) (hz e t ht hav)⟩) (hH.step g4 ⟨x, y, hX, hy, k1, s, hs, k2 s hs (mv_ne hne)⟩ (ltX_tr hW hw))
        rcases g6 t ht with e | ⟨e, -⟩
        · rw [e]; exact r4 t ht hA
        · exact absurd e (by have : G 1 t = 1 := hA; omega)
  refine v_X4_respond ?_
  simp (disch := omega) only [n0, n1, n2, n3, n4, n5, n6, n7, n8, n9, n49, n97, n98, n114, n102, n115, n119, n109, n112, i32_add, i32_mul, i32_N, i32_le, i32_lt, i32_eq, vpi_iff]
  refine ⟨fun z => ?_, fun z => ⟨fun y => by omega, fun _ => ?_⟩⟩
  · exact key 2187 0 (by omega) σ p (Fr.rf σ) hpc hpk hp (fun _ _ _ => rfl) (fun e => absurd e z) (HS.zero hpk)
  · refine c_stay hC hW hw hpk hp hpc (fun τ q f1 f2 f3 f4 f5 f6 => ?_)
    refine key 2187 0 (by omega) τ q (f1.mo (fun _ z => z) (by simp) (fun _ z => z)) f2 f3 f4 f5 (fun _ => ?_) (HS.zero f3)
    obtain ⟨y, hy⟩ := gX_ex (aim := 114) hW hw (mv_pk f3)
    refine ⟨y, hy, fun s hs hav => ?_⟩
    rw [(gX114 hy).2.2 s hs (f6 s hs hav)]
    exact Rat.le_refl
theorem c_respond0 {nA : Nat} {o oi : Nat → Nat} {σ : cg_S} {Q : cg_S → Prop} (hC : CG σ G ch) (hW : GW G) (hw : whole G) (ha : okA aim) (hO : ORD σ (G 0 0) nA (gA G) o oi) (hpk : pkOk G p) (hp : ∀ s, s < 7 → p s ≤ 2) (hpc : PK σ 29 (G 0 0) p) (h : ∀ τ x, Fr [29] cL [] σ τ → PK τ 29 (G 0 0) p → gX G aim (mv p) x → AW τ (G 0 0) x → Q τ) : M_X4_respond (i32 aim) (i32 0) σ Q := by
  have hn := hW.1
  have ha2 := okA_lt ha
  have key : L_X4_respond_26 (i32 aim) (i32 0) (i32 1) (i32 0) σ Q := by
    refine v_X4_respond_26 ?_
    rw [show (2187 : Int32) = i32 2187 from rfl]
    simp (disch := omega) only [n0, n1, n2, n3, n4, n5, n6, n7, n8, n9, n49, n97, n98, n114, n102, n115, n119, n109, n112, i32_add, i32_mul, i32_N, i32_le, i32_lt, i32_eq, vpi_iff]
    refine ⟨fun z => by omega, fun _ => ⟨fun z => by omega, fun _ => ?_⟩⟩
    refine c_evalFrom (from' := 0) (pk := 29) hC hW hw hpk hp ha (Or.inr (Or.inl rfl)) hpc hO (Nat.zero_le _) (fun i hi => by omega) (fun τ1 x f1 _ hX hAW => ?_)
    refine ⟨fun _ => v_X4_respond_26 ⟨fun _ => ?_, fun y => absurd rfl y⟩, fun y => absurd trivial y⟩
    exact h τ1 x (f1.mo (by simp) (fun _ z => z) (fun _ z => z)) (fun s hs => by rw [f1.1 29 (by simp)]; exact hpc s hs) hX hAW
  refine v_X4_respond ?_
  simp (disch := omega) only [n0, n1, n2, n3, n4, n5, n6, n7, n8, n9, n49, n97, n98, n114, n102, n115, n119, n109, n112, i32_add, i32_mul, i32_N, i32_le, i32_lt, i32_eq, vpi_iff]
  exact ⟨fun _ => key, fun _ => ⟨fun _ => key, fun y => absurd trivial y⟩⟩
/-- the first picks -/
def ipk (G : Gm) (fa fb s : Nat) : Nat := if (if G 1 s = 1 then fa else fb) = 0 then G 10 s else 0
theorem ipk_ok {fa fb : Nat} (hW : GW G) (hw : whole G) : pkOk G (ipk G fa fb) ∧ ∀ s, s < 7 → ipk G fa fb s ≤ 2 := by
  refine ⟨fun s hs => ?_, fun s hs => ?_⟩
  · have h1 := (hw.2 s hs).1
    have h2 := (hW.2.1 s (by have := hW.1; omega)).2.2.2.2.2
    unfold ipk
    repeat' split
    all_goals omega
  · have h2 := (hW.2.1 s hs).2.2.2.2.1
    unfold ipk
    repeat' split
    all_goals omega
theorem c_improveX {fa fb : Nat} {σ : cg_S} {Q : cg_S → Prop} (hfa : fa ≤ 1) (hfb : fb ≤ 1) (hC : CG σ G ch) (hW : GW G) (h : ∀ τ o oi nA, Fr [3, 4, 27, 29] [] [] σ τ → PK τ 29 (G 0 0) (ipk G fa fb) → ORD τ (G 0 0) nA (gA G) o oi → L_X4_improve_75 (i32 aim) (i32 fa) (i32 fb) 1 0 τ Q) : M_X4_improve (i32 aim) 19 (i32 fa) (i32 fb) σ Q := by
  have hn := hW.1
  refine v_X4_improve (Or.inl rfl) ?_
  refine up (n := G 0 0) (fun k τ => Fr [29] [] [] σ τ ∧ ∀ s, s < k → τ.1 29 s = i32 (ipk G fa fb s)) (fun u τ => L_X4_improve_3 (i32 aim) 19 (i32 fa) (i32 fb) u τ Q) ?_ ?_ 0 σ (by omega) ⟨Fr.rf σ, fun s hs => by omega⟩
  · rintro k τ hk ⟨hf, hP⟩ kk
    have hC2 := hC.fr hf (by decide)
    have g1 := (hW.2.1 k (by omega)).1
    have nxt : ∀ b : Nat, b ≤ 1 → b = (if G 1 k = 1 then fa else fb) → L_X4_improve_34 (i32 aim) 19 (i32 fa) (i32 fb) (i32 k) (i32 b) τ Q := fun b hb hbc => by
      have hi : ipk G fa fb k = if b = 0 then G 10 k else 0 := by unfold ipk; rw [hbc]
      refine v_X4_improve_34 (Or.inl rfl) ?_
      simp (disch := omega) only [n0, n1, n2, n3, n4, n5, n6, n7, n8, n9, n49, n97, n98, n114, n102, n115, n119, n109, n112, i32_add, i32_mul, i32_N, i32_le, i32_lt, i32_eq, vpi_iff]
      refine ⟨fun z => ⟨by omega, by omega, ?_⟩, fun z => ⟨by omega, ?_⟩⟩
      · rw [(hC2.2.1 k (by omega)).2.2.2]
        rintro _ rfl
        refine kk _ ⟨hf.tr (Fr.i (by decide)), fun s hs => ?_⟩
        rw [ri, if_pos rfl]
        by_cases e : s = k
        · rw [if_pos e, e, hi, if_pos z]
        · rw [if_neg e]; exact hP s (by omega)
      · rintro _ rfl
        refine kk _ ⟨hf.tr (Fr.i (by decide)), fun s hs => ?_⟩
        rw [ri, if_pos rfl]
        by_cases e : s = k
        · rw [if_pos e, e, hi, if_neg z]
        · rw [if_neg e]; exact hP s (by omega)
    refine v_X4_improve_3 (Or.inl rfl) ?_
    rw [hC2.1.1]
    simp (disch := omega) only [n0, n1, n2, n3, n4, n5, n6, n7, n8, n9, n49, n97, n98, n114, n102, n115, n119, n109, n112, i32_add, i32_mul, i32_N, i32_le, i32_lt, i32_eq, vpi_iff]
    rw [(hC2.2.1 k (by omega)).1]
    simp (disch := omega) only [n0, n1, n2, n3, n4, n5, n6, n7, n8, n9, n49, n97, n98, n114, n102, n115, n119, n109, n112, i32_add, i32_mul, i32_N, i32_le, i32_lt, i32_eq, vpi_iff]
    exact ⟨fun z => by omega, fun _ => ⟨by omega, fun z => nxt fb hfb (by rw [if_neg (by omega)]), fun z => nxt fa hfa (by rw [if_pos (by omega)])⟩⟩
  · rintro τ ⟨hf, hP⟩
    have hC2 := hC.fr hf (by decide)
    refine v_X4_improve_3 (Or.inl rfl) ?_
    rw [hC2.1.1]
    refine ⟨fun _ => c_arrange hC2 hW (fun τ1 o oi nA f1 hO => ?_), fun z => absurd ((i32_le (by omega) (by omega)).mpr (Nat.le_refl _)) z⟩
    exact h τ1 o oi nA ((hf.mo (by simp) (by simp) (fun _ z => z)).tr (f1.mo (by simp) (by simp) (fun _ z => z))) (fun s hs => by rw [f1.1 29 (by simp)]; exact hP s hs) hO
abbrev frI : List Nat := [3, 4, 27, 29]
/-- what the improver finds, with bounds -/
def IMPW : Prop := ∀ (a : cg_S) (G : Gm) (ch aim : Nat) (Q : cg_S → Prop), CG a G ch → CK a G ch → GW G → whole G → okA aim → (∀ τ w, Fr frI cL [] a τ → CG τ G ch → CK τ G ch → mmb G aim w → AW τ (G 0 0) w → Q τ) → M_X4_improve (i32 aim) 19 1 1 a Q
theorem impW_all : IMPW := fun a G ch aim Q hC hK hW hw ha hQ => by
  have hn := hW.1
  have ha2 := okA_lt ha
  refine c_improveX (fa := 1) (fb := 1) (by omega) (by omega) hC hW (fun σ o oi nA f0 hpc hO => ?_)
  obtain ⟨ip1, ip2⟩ := ipk_ok (fa := 1) (fb := 1) hW hw
  have key : ∀ r k, k + r = 2187 → ∀ τ p, Fr frI cL [] a τ → ORD τ (G 0 0) nA (gA G) o oi → PK τ 29 (G 0 0) p → pkOk G p → (∀ s, s < 7 → p s ≤ 2) → (k = 0 ∨ ∃ j r0 x0, k = j + 1 ∧ pkOk G r0 ∧ HS G (fun a b => ltX G aim b a) j r0 ∧ cvB G aim (mv r0) x0 ∧ imRA G aim x0 (mv r0) (mv p) ∧ ∃ s, s < G 0 0 ∧ p s ≠ r0 s) → L_X4_improve_75 (i32 aim) (i32 1) (i32 1) (i32 1) (i32 k) τ Q := by
    have gtr : ∀ a b c, pkOk G a → pkOk G b → pkOk G c → ltX G aim b a → ltX G aim c b → ltX G aim c a := fun a b c => gtX_tr hW hw a b c
    -- one more in the row
    have more : ∀ j r0 x0 p r y, pkOk G r0 → pkOk G p → pkOk G r → HS G (fun a b => ltX G aim b a) j r0 → cvB G aim (mv r0) x0 → imRA G aim x0 (mv r0) (mv p) → (∃ s, s < G 0 0 ∧ p s ≠ r0 s) → (∀ s, s < G 0 0 → gA G s → r s = p s) → gX G aim (mv r) y → HS G (fun a b => ltX G aim b a) (j + 1) r := by
      intro j r0 x0 p r y h1 h2 h3 hH hv hi hne hag hy
      obtain ⟨s, hs, hne⟩ := hne
      obtain ⟨k1, k2⟩ := btrA hW hw (mv_pk h1) (mv_pk h2) (mv_pk h3) hv hi (fun t ht hA => by unfold mv; rw [hag t ht hA]) hy
      have hAs : gA G s := by
        rcases hi s hs with e | e
        · exact absurd e (mv_ne hne)
        · exact e.1
      exact hH.step h3 ⟨y, x0, hy, hv.1, k1, s, hs, k2 s hs hAs (mv_ne hne)⟩ gtr
    intro r
    induction r with
    | zero =>
      intro k hk τ p _ _ _ hp _ hst
      exfalso
      rcases hst with z | ⟨j, r0, x0, e, h1, h2, h3, h4, h5⟩
      · omega
      · obtain ⟨y, hy⟩ := gX_ex (aim := aim) hW hw (mv_pk hp)
        have := (more j r0 x0 p p y h1 hp hp h2 h3 h4 h5 (fun _ _ _ => rfl) hy).stopA hW hw
        omega
    | succ r ih =>
      intro k hk τ p hf hO2 hpc2 hp hp2 hst
      refine v_X4_improve_75 ?_
      rw [show (2187 : Int32) = i32 2187 from rfl]
      simp (disch := omega) only [n0, n1, n2, n3, n4, n5, n6, n7, n8, n9, n49, n97, n98, n114, n102, n115, n119, n109, n112, i32_add, i32_mul, i32_N, i32_le, i32_lt, i32_eq, vpi_iff]
      refine ⟨fun z => by omega, fun _ => ⟨fun z => by omega, fun _ => ?_⟩⟩
      refine c_respond1 (hC.fr hf (by decide)) hW hw ha hO2 hp hp2 hpc2 (fun τ1 q x g1 g2 g3 g4 g5 g6 g7 => ?_)
      refine ⟨fun z => by omega, fun _ => ?_⟩
      have hf1 : Fr frI cL [] a τ1 := hf.tr (g1.mo (by simp) (fun _ z => z) (fun _ z => z))
      obtain ⟨d, u, hU⟩ := id g7
      refine c_change (ia := 1) (d := d) (u := u) (by omega) (hC.fr hf1 (by decide)) hW hw ha hU g3 g4 g2 (fun τ2 q' f k1 k2 k3 k4 k5 k6 k7 k8 => ?_)
      have hf2 : Fr frI cL [] a τ2 := hf1.tr (k1.mo (by simp) (by simp) (fun _ z => z))
      simp (disch := omega) only [n0, n1, n2, n3, n4, n5, n6, n7, n8, n9, n49, n97, n98, n114, n102, n115, n119, n109, n112, i32_add, i32_mul, i32_N, i32_le, i32_lt, i32_eq, vpi_iff]
      refine ⟨fun z => ?_, fun z => ?_⟩
      · refine v_X4_improve_75 ⟨fun _ => ?_, fun y => absurd rfl y⟩
        refine hQ τ2 x hf2 (hC.fr hf2 (by decide)) (hK.fr hf2 (by decide)) (sad_mmb hW hw g3 g6 ((chg_no hW hw g3 g6.1 (k7 z).2).1 rfl)) (g7.fr k1 (by decide))
      · have him := (chg_im hW hw g3 k4 g6.1 k6).1 rfl
        refine ih (k + 1) (by omega) τ2 q' hf2 ((hO2.fr g1 (by decide)).fr k1 (by decide)) k2 k4 k5 (Or.inr ⟨k, q, x, rfl, g3, ?_, g6, him, k8 (by omega)⟩)
        rcases hst with e | ⟨j, r0, x0, e, h1, h2, h3, h4, h5⟩
        · subst e; exact HS.zero g3
        · subst e
          exact more j r0 x0 p q x h1 hp g3 h2 h3 h4 h5 g5 g6.1
  exact key 2187 0 (by omega) σ _ (f0.mo (fun _ z => z) (by simp) (fun _ z => z)) hO hpc ip1 ip2 (Or.inl rfl)
theorem imp_all : IMP := fun a G ch aim Q hC hK hW hw ha hQ => impW_all a G ch aim Q hC hK hW hw ha (fun τ w _ h1 h2 h3 h4 => hQ τ w h1 h2 h3 h4.an)
theorem rsp_all : RSP := fun a G ch aim o Q hC hK hW hw ha ho hQ => by
  have hn := hW.1
  have ha2 := okA_lt ha
  rcases ho with rfl | rfl
  · -- 'a' is free
    rw [if_pos rfl, if_neg (by decide)]
    refine c_improveX (fa := 1) (fb := 0) (by omega) (by omega) hC hW (fun σ o oi nA f0 hpc hO => ?_)
    obtain ⟨ip1, ip2⟩ := ipk_ok (fa := 1) (fb := 0) hW hw
    have key : ∀ r k, k + r = 2187 → ∀ τ p, Fr frI cL [] a τ → ORD τ (G 0 0) nA (gA G) o oi → PK τ 29 (G 0 0) p → pkOk G p → (∀ s, s < 7 → p s ≤ 2) → (∀ s, s < G 0 0 → ¬ gA G s → p s = G 10 s) → HS G (fun a b => ltX G aim b a) k p → L_X4_improve_75 (i32 aim) (i32 1) (i32 0) (i32 1) (i32 k) τ Q := by
      intro r
      induction r with
      | zero =>
        intro k hk τ p _ _ _ _ _ _ hH
        have := hH.stopA hW hw
        omega
      | succ r ih =>
        intro k hk τ p hf hO2 hpc2 hp hp2 hag hH
        refine v_X4_improve_75 ?_
        rw [show (2187 : Int32) = i32 2187 from rfl]
        simp (disch := omega) only [n0, n1, n2, n3, n4, n5, n6, n7, n8, n9, n49, n97, n98, n114, n102, n115, n119, n109, n112, i32_add, i32_mul, i32_N, i32_le, i32_lt, i32_eq, vpi_iff]
        refine ⟨fun z => by omega, fun _ => ⟨fun z => by omega, fun _ => ?_⟩⟩
        refine c_respond0 (hC.fr hf (by decide)) hW hw ha hO2 hp hp2 hpc2 (fun τ1 x g1 g2 g6 g7 => ?_)
        refine ⟨fun z => by omega, fun _ => ?_⟩
        have hf1 : Fr frI cL [] a τ1 := hf.tr (g1.mo (by simp) (fun _ z => z) (fun _ z => z))
        obtain ⟨d, u, hU⟩ := id g7
        refine c_change (ia := 1) (d := d) (u := u) (by omega) (hC.fr hf1 (by decide)) hW hw ha hU hp hp2 g2 (fun τ2 q' f k1 k2 k3 k4 k5 k6 k7 k8 => ?_)
        have hf2 : Fr frI cL [] a τ2 := hf1.tr (k1.mo (by simp) (by simp) (fun _ z => z))
        simp (disch := omega) only [n0, n1, n2, n3, n4, n5, n6, n7, n8, n9, n49, n97, n98, n114, n102, n115, n119, n109, n112, i32_add, i32_mul, i32_N, i32_le, i32_lt, i32_eq, vpi_iff]
        refine ⟨fun z => ?_, fun z => ?_⟩
        · refine v_X4_improve_75 ⟨fun _ => ?_, fun y => absurd rfl y⟩
          refine hQ τ2 x (hC.fr hf2 (by decide)) (hK.fr hf2 (by decide)) (no_bst hW hw hp hag g6 ((chg_no hW hw hp g6 (k7 z).2).1 rfl)) (g7.fr k1 (by decide)).an
        · have him := (chg_im hW hw hp k4 g6 k6).1 rfl
          obtain ⟨y, hy⟩ := gX_ex (aim := aim) hW hw (mv_pk k4)
          obtain ⟨s, hs, hne⟩ := k8 (by omega)
          obtain ⟨b1, b2⟩ := btrA1 hW hw (mv_pk hp) (mv_pk k4) g6 him hy
          have hAs : gA G s := by
            rcases him s hs with e | e
            · exact absurd e (mv_ne hne)
            · exact e.1
          refine ih (k + 1) (by omega) τ2 q' hf2 ((hO2.fr g1 (by decide)).fr k1 (by decide)) k2 k4 k5 (fun t ht hA => ?_) (hH.step k4 ⟨y, x, hy, g6, b1, s, hs, b2 s hs hAs (mv_ne hne)⟩ (fun a b c => gtX_tr hW hw a b c))
          rcases k6 t ht with e | ⟨e, -⟩
          · rw [e]; exact hag t ht hA
          · exact absurd e hA
    exact key 2187 0 (by omega) σ _ (f0.mo (fun _ z => z) (by simp) (fun _ z => z)) hO hpc ip1 ip2 (fun s hs hA => by
      unfold ipk
      rw [if_neg (c := G 1 s = 1) hA, if_pos rfl]) (HS.zero ip1)
  · -- 'b' is free
    rw [if_neg (by decide), if_pos rfl]
    refine c_improveX (fa := 0) (fb := 1) (by omega) (by omega) hC hW (fun σ o oi nA f0 hpc hO => ?_)
    obtain ⟨ip1, ip2⟩ := ipk_ok (fa := 0) (fb := 1) hW hw
    refine v_X4_improve_75 ?_
    rw [show (2187 : Int32) = i32 2187 from rfl]
    simp (disch := omega) only [n0, n1, n2, n3, n4, n5, n6, n7, n8, n9, n49, n97, n98, n114, n102, n115, n119, n109, n112, i32_add, i32_mul, i32_N, i32_le, i32_lt, i32_eq, vpi_iff]
    refine ⟨fun z => by omega, fun _ => ⟨fun z => by omega, fun _ => ?_⟩⟩
    refine c_respond1 (hC.fr f0 (by decide)) hW hw ha hO ip1 ip2 hpc (fun τ1 q x g1 g2 g3 g4 g5 g6 g7 => ?_)
    have hf1 : Fr frI cL [] a τ1 := (f0.mo (fun _ z => z) (by simp) (fun _ z => z)).tr (g1.mo (by simp) (fun _ z => z) (fun _ z => z))
    refine ⟨fun _ => v_X4_improve_75 ⟨fun _ => ?_, fun y => absurd rfl y⟩, fun y => absurd trivial y⟩
    refine hQ τ1 x (hC.fr hf1 (by decide)) (hK.fr hf1 (by decide)) (cv_bst hW hw g3 (fun s hs hA => ?_) g6) g7.an
    rw [g5 s hs hA]
    unfold ipk
    rw [if_pos (c := G 1 s = 1) hA, if_pos rfl]
end IM
