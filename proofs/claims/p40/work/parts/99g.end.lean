/-! END COMPONENTS, and the class's search -/
section ENC
variable {σ : cg_S} {G : Gm} {ch : Nat} {S T : Nat → Prop}
def stI (G : Gm) (S : Nat → Prop) (m : Nat) : Prop := ∀ t, t < G 0 0 → G 7 (7 * m + t) ≠ 0 → S t
def eI (G : Gm) (S : Nat → Prop) (s t : Nat) : Prop := S s ∧ ∃ c, c < G 3 s ∧ stI G S (3 * s + c) ∧ t < G 0 0 ∧ G 7 (7 * (3 * s + c) + t) ≠ 0
def rI (G : Gm) (S : Nat → Prop) (s t : Nat) : Prop := tcR (G 0 0) (eI G S) s t
def isEC (G : Gm) (T : Nat → Prop) : Prop := ∀ s t, s < G 0 0 → T s → t < G 0 0 → T t → rI G T s t
def mS (G : Gm) (v : Nat) (S : Nat → Prop) (t : Nat) : Prop := t < G 0 0 ∧ rI G S v t ∧ rI G S t v
def fS (G : Gm) (v : Nat) : Nat → Nat → Prop
  | 0 => fun t => t < G 0 0
  | k + 1 => mS G v (fS G v k)
def endS (G : Gm) (v : Nat) : Nat → Prop := fS G v (G 0 0 + 1)
theorem tcR_mono {n : Nat} {r q : Nat → Nat → Prop} {s t : Nat} (h : ∀ u v, r u v → q u v) (k : tcR n r s t) : tcR n q s t := fun C h1 h2 => k C (fun u hu => h1 u (h s u hu)) (fun u hu hC v hv => h2 u hu hC v (h u v hv))
theorem tcR_tr {n : Nat} {r : Nat → Nat → Prop} {s u t : Nat} (hu : u < n) (h1 : tcR n r s u) (h2 : tcR n r u t) : tcR n r s t := fun C a b => h2 C (fun v hv => b u hu (h1 C a b) v hv) b
theorem rI_mono {s t : Nat} (h : ∀ t, T t → S t) (k : rI G T s t) : rI G S s t := tcR_mono (fun u v ⟨a, c, b1, b2, b3, b4⟩ => ⟨h u a, c, b1, fun t ht hw => h t (b2 t ht hw), b3, b4⟩) k
theorem rI_l {s t : Nat} (h : rI G S s t) : S s := h (fun _ => S s) (fun _ hu => hu.1) (fun _ _ z _ _ => z)
theorem rI_r {s t : Nat} (h : rI G S s t) : t < G 0 0 ∧ S t := h (fun u => u < G 0 0 ∧ S u) (fun u ⟨_, c, _, b2, b3, b4⟩ => ⟨b3, b2 u b3 b4⟩) (fun u _ _ v ⟨_, c, _, b2, b3, b4⟩ => ⟨b3, b2 v b3 b4⟩)
theorem fS_sub {v : Nat} : ∀ k t, fS G v k t → t < G 0 0 := by
  intro k t h
  cases k with
  | zero => exact h
  | succ k => exact h.1
theorem fS_dn {v k t : Nat} (h : fS G v (k + 1) t) : fS G v k t := (rI_r h.2.1).2
theorem fS_stab {v : Nat} : ∀ k, fS G v (k + 1) = fS G v k ∨ cntS (fS G v k) (G 0 0) + k ≤ G 0 0 := by
  intro k
  induction k with
  | zero => exact Or.inr (cntS_le _ _)
  | succ k ih =>
    by_cases c : fS G v (k + 1) = fS G v k
    · left
      show mS G v (fS G v (k + 1)) = mS G v (fS G v k)
      rw [c]
    · right
      have hle : cntS (fS G v k) (G 0 0) + k ≤ G 0 0 := ih.resolve_left c
      obtain ⟨t, h1, h2⟩ : ∃ t, fS G v k t ∧ ¬ fS G v (k + 1) t := Classical.byContradiction fun hno => c (funext fun t => propext ⟨fS_dn, fun z => Classical.byContradiction fun y => hno ⟨t, z, y⟩⟩)
      have := cntS_lt (E := fS G v (k + 1)) (F := fS G v k) (fun t _ z => fS_dn z) (fS_sub k t h1) h2 h1
      omega
theorem endS_fix (v : Nat) : mS G v (endS G v) = endS G v := by
  rcases fS_stab (G := G) (v := v) (G 0 0 + 1) with h | h
  · exact h
  · omega
theorem endS_n {v t : Nat} (h : endS G v t) : t < G 0 0 := fS_sub _ t h
theorem endS_v {v t : Nat} (hv : v < G 0 0) (h : endS G v t) : endS G v v := by
  have h2 : mS G v (endS G v) t := by rw [endS_fix]; exact h
  exact rI_l h2.2.1
theorem endS_EC {v : Nat} (hv : v < G 0 0) : isEC G (endS G v) := fun s t hs h1 ht h2 => by
  have a : mS G v (endS G v) s := by rw [endS_fix]; exact h1
  have b : mS G v (endS G v) t := by rw [endS_fix]; exact h2
  exact tcR_tr hv a.2.2 b.2.1
theorem endS_max {v : Nat} (hv : v < G 0 0) (hT : isEC G T) (hTv : T v) (hn : ∀ t, T t → t < G 0 0) : ∀ k t, T t → fS G v k t := by
  intro k
  induction k with
  | zero => exact hn
  | succ k ih => exact fun t h => ⟨hn t h, rI_mono ih (hT v t hv hTv (hn t h) h), rI_mono ih (hT t v (hn t h) h hv hTv)⟩
/-! the class -/
theorem c_leadsWithin {s : Nat} {w : Int32} {Q : Int32 → cg_S → Prop} (hC : CG σ G ch) (hW : GW G) (hs : s < G 0 0) (hS : mk w S) (hSs : S s) (h : ∀ x, mk x (eI G S s) → Q x σ) : M_X3_leadsWithin (i32 s) w σ Q := by
  have hn := hW.1
  have g3 := (hW.2.1 s (by omega)).2.2.1
  refine v_X3_leadsWithin ?_
  refine up2 (n := G 3 s) (fun k (x : Int32) τ => τ = σ ∧ mk x (fun t => ∃ c, c < k ∧ stI G S (3 * s + c) ∧ t < G 0 0 ∧ G 7 (7 * (3 * s + c) + t) ≠ 0)) (fun x u τ => L_X3_leadsWithin_5 (i32 s) w x u τ Q) ?_ ?_ 0 0 σ (by omega) ⟨rfl, mk_0 (fun t _ ⟨c, hc, _⟩ => by omega)⟩
  · rintro k x τ hk ⟨rfl, hx⟩ kk
    have hm : 3 * s + k < 21 := by omega
    have hl := (hC.2.2 _ hm).2.2.2.1
    have hz := mk_zero (mk_not hl hS)
    refine v_X3_leadsWithin_5 ?_
    simp (disch := omega) only [n0, n1, n2, n3, n4, n5, n6, n7, n8, n9, n49, n97, n98, n114, n102, n115, n119, n109, n112, i32_add, i32_mul, i32_N, i32_le, i32_lt, i32_eq, vpi_iff]
    rw [(hC.2.1 s (by omega)).2.2.1]
    simp (disch := omega) only [n0, n1, n2, n3, n4, n5, n6, n7, n8, n9, n49, n97, n98, n114, n102, n115, n119, n109, n112, i32_add, i32_mul, i32_N, i32_le, i32_lt, i32_eq, vpi_iff]
    refine ⟨by omega, fun z => by omega, fun _ => c_moveOf ⟨vpi hm (by omega), ?_⟩⟩
    rw [i32_N (by omega)]
    rintro _ rfl
    have z0 : i32 0 = 0 := rfl
    have zm1 : -i32 1 = (-1 : Int32) := rfl
    rw [z0, zm1, hz]
    refine ⟨fun z => ?_, fun z => ?_⟩
    · refine kk x τ ⟨rfl, mk_congr hx (fun t ht => ⟨fun ⟨c, y1, y2⟩ => ⟨c, by omega, y2⟩, fun ⟨c, y1, y2⟩ => ⟨c, ?_, y2⟩⟩)⟩
      have : c ≠ k := fun e => by
        rw [e] at y2
        exact z (fun t ht y => y.2 (y2.1 t (lead_n hW hm ht y.1) y.1))
      omega
    · rintro _ rfl
      refine kk _ τ ⟨rfl, mk_congr (mk_oor hx hl) (fun t ht => ⟨fun y => ?_, fun ⟨c, y1, y2, y3, y4⟩ => ?_⟩)⟩
      · rcases y with ⟨c, y1, y2⟩ | y
        · exact ⟨c, by omega, y2⟩
        · exact ⟨k, by omega, fun t ht hw => Classical.byContradiction fun y2 => z t (by omega) ⟨hw, y2⟩, lead_n hW hm ht y, y⟩
      · by_cases e : c = k
        · rw [e] at y4; exact Or.inr y4
        · exact Or.inl ⟨c, by omega, y2, y3, y4⟩
  · rintro x τ ⟨rfl, hx⟩
    refine v_X3_leadsWithin_5 ?_
    simp (disch := omega) only [n0, n1, n2, n3, n4, n5, n6, n7, n8, n9, n49, n97, n98, n114, n102, n115, n119, n109, n112, i32_add, i32_mul, i32_N, i32_le, i32_lt, i32_eq, vpi_iff]
    rw [(hC.2.1 s (by omega)).2.2.1]
    exact ⟨by omega, fun _ => h x (mk_congr hx (fun t _ => ⟨fun y => ⟨hSs, y⟩, fun y => y.2⟩)), fun z => absurd ((i32_le (by omega) (by omega)).mpr (Nat.le_refl _)) z⟩
theorem c_endSet {v : Nat} {Q : Int32 → cg_S → Prop} (hC : CG σ G ch) (hW : GW G) (hv : v < G 0 0) (h : ∀ τ w, Fr [26] [] [] σ τ → mk w (endS G v) → Q w τ) : M_X3_endSet (i32 v) σ Q := by
  have hn := hW.1
  refine v_X3_endSet (c_everyState hC (fun w0 hw0 _ => ?_) hn)
  refine up2 (n := G 0 0 + 1) (fun k (w : Int32) τ => Fr [26] [] [] σ τ ∧ mk w (fS G v k)) (fun w u τ => L_X3_endSet_10 (i32 v) w u τ Q) ?_ ?_ 0 w0 σ (by omega) ⟨Fr.rf σ, hw0⟩
  · rintro k w τ hk ⟨hf, hw⟩ kk
    have hC2 := hC.fr hf (by decide)
    refine v_X3_endSet_10 ?_
    rw [hC2.1.1]
    simp (disch := omega) only [n0, n1, n2, n3, n4, n5, n6, n7, n8, n9, n49, n97, n98, n114, n102, n115, n119, n109, n112, i32_add, i32_mul, i32_N, i32_le, i32_lt, i32_eq, vpi_iff]
    refine ⟨fun z => by omega, fun _ => ?_⟩
    refine up (n := G 0 0) (fun s υ => Fr [26] [] [] σ υ ∧ ∀ a, a < s → mk (υ.1 26 a) (eI G (fS G v k) a)) (fun u υ => L_X3_endSet_24 (i32 v) w (i32 k) u υ Q) ?_ ?_ 0 τ (by omega) ⟨hf, fun a ha => by omega⟩
    · rintro s υ hs ⟨hf2, hP⟩ kk2
      have hC3 := hC.fr hf2 (by decide)
      have nxt : ∀ x, mk x (eI G (fS G v k) s) → L_X3_endSet_24 (i32 v) w (i32 k) (i32 (s + 1)) (cg_i υ 26 s x) Q := fun x hx => kk2 _ ⟨hf2.tr (Fr.i (by decide)), fun a ha => by
        rw [ri, if_pos rfl]
        by_cases e : a = s
        · rw [if_pos e, e]; exact hx
        · rw [if_neg e]; exact hP a (by omega)⟩
      refine v_X3_endSet_24 ?_
      rw [hC3.1.1]
      simp (disch := omega) only [n0, n1, n2, n3, n4, n5, n6, n7, n8, n9, n49, n97, n98, n114, n102, n115, n119, n109, n112, i32_add, i32_mul, i32_N, i32_le, i32_lt, i32_eq, vpi_iff]
      refine ⟨fun z => by omega, fun _ => ?_⟩
      refine c_holds hw (by omega) (fun hss => ⟨fun z => absurd z (by decide), fun _ => c_leadsWithin hC3 hW hs hw hss (fun x hx => ⟨by omega, ?_⟩)⟩) (fun hss => ⟨fun _ => ⟨by omega, ?_⟩, fun z => absurd rfl z⟩)
      · rintro _ rfl
        exact nxt x hx
      · rintro _ rfl
        exact nxt _ (mk_0 (fun t _ y => hss y.1))
    · rintro υ ⟨hf2, hP⟩
      have hC3 := hC.fr hf2 (by decide)
      refine v_X3_endSet_24 ?_
      rw [hC3.1.1]
      simp only [i32_s]
      refine ⟨fun _ => ?_, fun z => absurd ((i32_le (by omega) (by omega)).mpr (Nat.le_refl _)) z⟩
      refine c_join hC3 hW hP (fun τ3 r f3 hR hr => ?_)
      refine c_mutual (hC3.fr f3 (by decide)) hW hR hv (fun w' hw' => kk w' τ3 ⟨hf2.tr f3, mk_congr hw' (fun t ht => ⟨fun ⟨y1, y2, y3⟩ => ⟨y1, (hr v t hv).mp y2, (hr t v y1).mp y3⟩, fun ⟨y1, y2, y3⟩ => ⟨y1, (hr v t hv).mpr y2, (hr t v y1).mpr y3⟩⟩)⟩)
  · rintro w τ ⟨hf, hw⟩
    have hC2 := hC.fr hf (by decide)
    refine v_X3_endSet_10 ?_
    rw [hC2.1.1]
    simp (disch := omega) only [n0, n1, n2, n3, n4, n5, n6, n7, n8, n9, n49, n97, n98, n114, n102, n115, n119, n109, n112, i32_add, i32_mul, i32_N, i32_le, i32_lt, i32_eq, vpi_iff]
    exact ⟨fun _ => h τ w hf hw, fun z => absurd (Nat.lt_succ_self _) z⟩
end ENC
