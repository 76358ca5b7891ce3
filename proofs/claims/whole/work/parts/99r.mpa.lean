/-! CHAINS: closed sets with their lowest colour ('p'), the reference -/
section MPA
variable {σ : cg_S} {G : Gm} {p : Nat → Nat}
theorem RC_sy {s t : Nat} (hW : GW G) (hw : whole G) (hs : s < G 0 0) (hcl : isClo G s) : (s = t ∨ (RC G s t ∧ RC G t s)) ↔ RC G s t := by
  have hss : RC G s s := by
    obtain ⟨u, u1, u2⟩ := rch_some hW hw hs
    exact rch_tr u1 u2 (hcl u u2)
  refine ⟨fun h => ?_, fun h => Or.inr ⟨h, hcl t h⟩⟩
  rcases h with rfl | h
  · exact hss
  · exact h.1
theorem m_parities {Q : cg_S → Prop} (hW : GW G) (hw : whole G) (hpk : pkOk G p) (hpt : ∀ s, s < G 0 0 → mv p s = mv (G 10) s) (hp : MP σ p) (hG : MG σ G) (h : ∀ τ x, Fr [16, 17, 20] [0, 21, 22, 23] [] σ τ → SolR (G 0 0) (wtR G) (mv p) (EVN G) x → VX τ (G 0 0) x → Q τ) : M_X12_parities σ Q := by
  have hn := hW.1
  refine v_X12_parities (m_reaches hW hp hG (fun τ0 r f0 hX hr => ?_))
  have hr' : ∀ s t, s < G 0 0 → t < G 0 0 → (r s t ≠ 0 ↔ RC G s t) := fun s t hs ht => (hr s t hs ht).trans (rch_congr hpt hs)
  have hclo : ∀ s, s < G 0 0 → (isClo G s ↔ ((∀ t, t < G 0 0 → r s t ≠ 0 → r t s ≠ 0) ∧ r s s ≠ 0)) := fun s hs => by
    constructor
    · intro hc
      refine ⟨fun t ht h1 => (hr' t s ht hs).mpr (hc t ((hr' s t hs ht).mp h1)), (hr' s s hs hs).mpr ?_⟩
      exact (RC_sy hW hw hs hc).mp (Or.inl rfl)
    · rintro ⟨h1, h2⟩ t ht
      have htn : t < G 0 0 := rch_lt ht
      exact (hr' t s htn hs).mp (h1 t htn ((hr' s t hs htn).mpr ht))
  refine up (n := G 0 0) (fun k τ => Fr [17] [] [] τ0 τ ∧ ∀ s, s < k → τ.1 17 s = i32 (b01 (EVN G s))) (fun w τ => L_X12_parities_6 w τ Q) ?_ ?_ 0 τ0 (by omega) ⟨Fr.rf τ0, fun s hs => by omega⟩
  · rintro s τ hs ⟨hf, hP⟩ kk
    have hG2 := (hG.fr f0 (by decide)).fr hf (by decide)
    have hX2 : RX τ (G 0 0) r := fun a b ha hb => by rw [hf.1 20 (by decide)]; exact hX a b ha hb
    have nxt : ∀ x : Nat, x = b01 (EVN G s) → L_X12_parities_6 (i32 (s + 1)) (cg_i τ 17 s (i32 x)) Q := fun x hx => kk _ ⟨hf.tr (Fr.i (by decide)), fun a ha => by
      rw [ri, if_pos rfl]
      by_cases e : a = s
      · rw [if_pos e, e, hx]
      · rw [if_neg e]; exact hP a (by omega)⟩
    refine v_X12_parities_6 ?_
    rw [hG2.1.1]
    simp (disch := omega) only [n0, n1, n2, n3, n4, n5, n6, n7, n8, n9, n49, n97, n98, n114, n102, n115, n119, n109, n112, i32_add, i32_mul, i32_N, i32_le, i32_lt, i32_eq, vpi_iff]
    refine ⟨fun z => by omega, fun _ => ?_⟩
    refine up2 (n := G 0 0) (fun t (m : Nat) υ => υ = τ ∧ m ≤ 9 ∧ ((∃ u, u < t ∧ (s = u ∨ (RC G s u ∧ RC G u s)) ∧ G 2 u = m) ∨ m = 9) ∧ ∀ u, u < t → (s = u ∨ (RC G s u ∧ RC G u s)) → m ≤ G 2 u) (fun m v υ => L_X12_parities_19 (i32 s) (i32 m) v υ Q) ?_ ?_ 0 9 τ (by omega) ⟨rfl, by omega, Or.inr rfl, fun t ht => by omega⟩
    · rintro t m υ ht ⟨rfl, m9, h1, h2⟩ kk2
      have g2 := (hW.2.1 t (by omega)).2.1
      have e2 := (hG2.2.2.1 t (by omega)).1
      have tg : (s = t ∨ (r s t ≠ 0 ∧ r t s ≠ 0)) ↔ (s = t ∨ (RC G s t ∧ RC G t s)) := by rw [hr' s t hs ht, hr' t s ht hs]
      refine v_X12_parities_19 ?_
      rw [hG2.1.1]
      simp (disch := omega) only [n0, n1, n2, n3, n4, n5, n6, n7, n8, n9, n49, n97, n98, n114, n102, n115, n119, n109, n112, i32_add, i32_mul, i32_N, i32_le, i32_lt, i32_eq, vpi_iff]
      refine ⟨fun z => by omega, fun _ => m_together hn hX2 hs ht (fun y => ⟨fun z => absurd z (by decide), fun _ => ⟨by omega, ?_⟩⟩) (fun y => ⟨fun _ => kk2 m υ ⟨rfl, m9, h1.imp (fun ⟨u, q⟩ => ⟨u, by omega, q.2⟩) id, fun u hu hr2 => ?_⟩, fun z => absurd rfl z⟩)⟩
      · rw [e2, i32_le (by omega) (by omega)]
        refine ⟨fun c => kk2 m υ ⟨rfl, m9, h1.imp (fun ⟨u, q⟩ => ⟨u, by omega, q.2⟩) id, fun u hu hr2 => ?_⟩, fun c => ⟨by omega, ?_⟩⟩
        · by_cases e : u = t
          · rw [e]; exact c
          · exact h2 u (by omega) hr2
        · rintro _ rfl
          refine kk2 (G 2 t) υ ⟨rfl, by omega, Or.inl ⟨t, by omega, tg.mp y, rfl⟩, fun u hu hr2 => ?_⟩
          by_cases e : u = t
          · rw [e]; exact Nat.le_refl _
          · have := h2 u (by omega) hr2; omega
      · by_cases e : u = t
        · rw [e] at hr2; exact absurd (tg.mpr hr2) y
        · exact h2 u (by omega) hr2
    · rintro m υ ⟨rfl, m9, h1, h2⟩
      refine v_X12_parities_19 ?_
      rw [hG2.1.1]
      refine ⟨fun _ => ?_, fun z => absurd ((i32_le (by omega) (by omega)).mpr (Nat.le_refl _)) z⟩
      refine m_isClosed hn hG2.1.1 hX2 hs (fun c1 c2 => ⟨fun z => absurd z (by decide), fun _ => ?_⟩) (fun hc => ⟨fun _ => ?_, fun z => absurd rfl z⟩)
      · have hcl : isClo G s := (hclo s hs).mpr ⟨c1, c2⟩
        have hmc : MC G s m := by
          refine ⟨?_, fun u hu hr2 => h2 u hu ((RC_sy hW hw hs hcl).mpr hr2)⟩
          rcases h1 with ⟨u, q1, q2, q3⟩ | q
          · exact ⟨u, q1, (RC_sy hW hw hs hcl).mp q2, q3⟩
          · have a := h2 s hs (Or.inl rfl)
            have b := (hW.2.1 s (by omega)).2.1
            omega
        rw [show (2 : Int32) = i32 2 from rfl, show (0 : Int32) = i32 0 from rfl, show (1 : Int32) = i32 1 from rfl, par_f ⟨m, by omega⟩, i32_eq (by omega) (by omega), vn0, vn1, i32_N (by omega), i32_add]
        refine ⟨fun y => ⟨vpi (by omega) (by omega), ?_⟩, fun y => ⟨vpi (by omega) (by omega), ?_⟩⟩
        · rintro _ rfl
          exact nxt 0 (b01_0 (fun y2 => by
            obtain ⟨m', q1, q2⟩ := y2.2
            rw [MC_uq q1 hmc] at q2
            exact y q2)).symm
        · rintro _ rfl
          exact nxt 1 (b01_1 ⟨hcl, m, hmc, y⟩).symm
      · rw [show (0 : Int32) = i32 0 from rfl, show (1 : Int32) = i32 1 from rfl, vn0, i32_N (by omega), i32_add]
        refine ⟨vpi (by omega) (by omega), ?_⟩
        rintro _ rfl
        exact nxt 0 (b01_0 (fun y => hc ((hclo s hs).mp y.1))).symm
  · rintro τ ⟨hf, hP⟩
    have hGt := (hG.fr f0 (by decide)).fr hf (by decide)
    have f1 : Fr [16, 17, 20] [0, 21, 22, 23] [] σ τ := (f0.mo (by simp) (by simp) (fun _ z => z)).tr (hf.mo (by simp) (by simp) (fun _ z => z))
    refine v_X12_parities_6 ?_
    rw [hGt.1.1]
    refine ⟨fun _ => ?_, fun z => absurd ((i32_le (by omega) (by omega)).mpr (Nat.le_refl _)) z⟩
    refine up (n := G 0 0) (fun k υ => Fr [16] [] [] τ υ ∧ ∀ s, s < k → υ.1 16 s = i32 (b01 (EVN G s))) (fun w υ => L_X12_parities_96 w υ Q) ?_ ?_ 0 τ (by omega) ⟨Fr.rf τ, fun s hs => by omega⟩
    · rintro s υ hs ⟨hf2, hP2⟩ kk
      have hG3 := hGt.fr hf2 (by decide)
      refine v_X12_parities_96 ?_
      rw [hG3.1.1]
      simp (disch := omega) only [n0, n1, n2, n3, n4, n5, n6, n7, n8, n9, n49, n97, n98, n114, n102, n115, n119, n109, n112, i32_add, i32_mul, i32_N, i32_le, i32_lt, i32_eq, vpi_iff]
      rw [hf2.1 17 (by decide), hP s hs, vnb (b01_le _)]
      refine ⟨fun z => by omega, fun _ => ⟨by omega, by omega, ?_⟩⟩
      rintro _ rfl
      refine kk _ ⟨hf2.tr (Fr.i (by decide)), fun a ha => ?_⟩
      rw [ri, if_pos rfl]
      by_cases e : a = s
      · rw [if_pos e, e]
      · rw [if_neg e]; exact hP2 a (by omega)
    · rintro υ ⟨hf2, hP2⟩
      have hG3 := hGt.fr hf2 (by decide)
      have f2 : Fr [16, 17, 20] [0, 21, 22, 23] [] σ υ := f1.tr (hf2.mo (by simp) (by simp) (fun _ z => z))
      refine v_X12_parities_96 ?_
      rw [hG3.1.1]
      refine ⟨fun _ => ?_, fun z => absurd ((i32_le (by omega) (by omega)).mpr (Nat.le_refl _)) z⟩
      refine m_chances (tt := fun s => b01 (EVN G s)) hW hw hpk (hp.fr f2 (by decide)) hG3 (fun s hs => ⟨hP2 s hs, b01_le _⟩) (fun τ2 x f3 _ hS hv => ?_)
      have hn3 := (hG3.fr f3 (by decide)).1.1
      refine m_tellsAll hn hn3 hv (fun τ3 f4 _ hV => h τ3 x (f2.tr ((f3.mo (by simp) (by simp) (fun _ z => z)).tr (f4.mo (by simp) (by simp) (fun _ z => z)))) ?_ hV)
      have e : (fun s => b01 (EVN G s) ≠ 0) = EVN G := funext fun s => propext b01_ne
      rw [← e]
      exact hS
end MPA
