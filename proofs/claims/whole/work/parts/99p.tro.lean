/-! THE CALLS: traceLength, traceAt, traceAbove, traceBelow -/
section TRO
variable {G : Gm} {V : Nat → Rat} {L : Nat → Nat}
/-- the best of the traces from s -/
def TRB (G : Gm) (s K : Nat) (g : Nat → Nat) : Prop := trc G K g ∧ g 0 = s ∧ ∀ k f, trc G k f → f 0 = s → btt (tw G g (K - 1)) K (tw G f (k - 1)) k ∧ (tw G f (k - 1) = tw G g (K - 1) → k = K → lxl K g f)
theorem trb_lxb {s K : Nat} {g : Nat → Nat} (hW : GW G) (hw : whole G) (hO : OPT G V L) (h : TRB G s K g) : LXB G V L K g ∧ K = L s ∧ tw G g (K - 1) = V s ∧ L s ≠ 0 := by
  obtain ⟨h1, h2, h3⟩ := h
  have hs : s < G 0 0 := by rw [← h2]; exact h1.1.2.1 0 h1.1.1
  obtain ⟨a1, a2⟩ := opt_all hW hw hO K g h1.1
  rw [h2] at a1 a2
  obtain ⟨f, f1, f2, f3⟩ := hO.2.2 s hs a1
  obtain ⟨b1, b2⟩ := h3 (L s) f f1 f2
  rw [f3] at b1
  obtain ⟨c1, c2⟩ := btt_as b1 a2
  refine ⟨⟨⟨h1.1, by rw [h2]; exact c1, by rw [h2]; exact c2⟩, fun f' hf' e0 => ?_⟩, c2, c1, a1⟩
  have ht := bst_trc hW hw hO hf'
  refine (h3 K f' ht (by rw [e0, h2])).2 ?_ rfl
  rw [hf'.2.1, e0, h2, c1]
theorem trb_none {s : Nat} (hs : s < G 0 0) (hO : OPT G V L) (h : ∀ k f, trc G k f → f 0 ≠ s) : L s = 0 := Classical.byContradiction fun z => by
  obtain ⟨f, f1, f2, -⟩ := hO.2.2 s hs z
  exact h _ f f1 f2
theorem d_one (x : Int64) : x - x / 1 * 1 = 0 := by
  have h : x / 1 = x := by
    rw [← Int64.toInt_inj, Int64.toInt_div]
    have e : (1 : Int64).toInt = 1 := rfl
    rw [e, Int.tdiv_one]
    exact Int.bmod_eq_of_le (by have := x.le_toInt; omega) (by have := x.toInt_lt; omega)
  rw [h, Int64.mul_one, Int64.sub_self]
theorem m_lowers1 {x : Int64} {σ : cg_S} {Q : cg_S → Prop} (h : ∀ τ, Fr [] [0] [] σ τ → Q τ) : M_X12_lowers x 1 σ Q := by
  have div : ∀ y : Int64, ∀ R : Int64 → cg_S → Prop, R 1 σ → L_X12_divisor_12 1 y σ R := fun y R hR => by
    refine v_X12_divisor_12 ⟨fun _ => ?_, fun z => absurd (by decide) z⟩
    refine v_X12_divisor_28 ⟨fun z => absurd z (by decide), fun z => ⟨z, ?_⟩⟩
    rw [d_one]
    rintro _ rfl
    exact v_X12_divisor_28 ⟨fun _ => hR, fun z => absurd rfl z⟩
  have fin : L_X12_lowers_18 x 1 1 1 σ Q := by
    refine v_X12_lowers_18 ?_
    rintro _ rfl
    refine ⟨by decide, ?_⟩
    rintro _ rfl
    refine ⟨by decide, ?_⟩
    rintro _ rfl
    exact h _ ((Fr.l (by decide)).tr (Fr.l (by decide)))
  refine v_X12_lowers (v_X12_divisor ⟨fun _ => div _ _ ?_, fun _ => div _ _ ?_⟩)
  all_goals exact ⟨fun _ => fin, fun z => absurd (by decide) z⟩
theorem m_isTrace {v : Int32} {b : cg_S} {Q : Int32 → cg_S → Prop} (hR : RB b G) (hbad : ∀ e, why2 v G e → Q 0 (cg_i b 0 0 (i32 e))) (hok : ∀ s K g τ, s < G 0 0 → v = i32 s → whole G → RB τ G → τ.1 0 0 = i32 0 → τ.1 0 38 = i32 K → TRB G s K g → (∀ i, i < K → τ.1 14 i = i32 (g i)) → τ.2.1 0 40 = i64 (tw G g (K - 1)).num → τ.2.1 0 41 = i64 (((tw G g (K - 1)).den : Nat) : Int) → Q 1 τ) (hno : ∀ s τ, s < G 0 0 → v = i32 s → whole G → RB τ G → τ.1 0 0 = i32 3 → (∀ k f, trc G k f → f 0 ≠ s) → Q 0 τ) : M_X12_isTrace v b Q := by
  have hW := hR.1
  have hn := hW.1
  refine v_X12_isTrace (m_isGame hR (fun e he => ⟨fun z => absurd rfl z, fun _ => hbad e he⟩) (fun s hs e hw => ⟨fun _ => ?_, fun z => absurd z (by decide)⟩))
  have hR0 := hR.c0 (x := i32 0)
  have e00 : (cg_i b 0 0 (i32 0)).1 0 0 = i32 0 := by rw [ri, if_pos rfl, if_pos rfl]
  generalize cg_i b 0 0 (i32 0) = β at *
  obtain ⟨-, hG0, ⟨p0, hp0⟩, hK0⟩ := id hR0
  refine m_picksTold hW hp0 hG0 (fun τ1 f1 hp1 => ?_)
  have hR1 : RB τ1 G := ⟨hW, hG0.fr f1 (by decide), ⟨_, hp1⟩, hK0.fr f1 (by decide)⟩
  have e01 : τ1.1 0 0 = i32 0 := by rw [f1.1 0 (by decide)]; exact e00
  rintro _ rfl
  rw [e]
  rintro _ rfl
  -- from here on: only scratch is written
  have kp1 : KP τ1 (cg_i (cg_i τ1 0 38 0) 13 0 (i32 s)) := ⟨(Fr.i (by decide)).tr (Fr.i (by decide)), fun j hj => by rw [ri, if_neg (by decide), ri, if_pos rfl, if_neg hj]⟩
  have w0 : (cg_i (cg_i τ1 0 38 0) 13 0 (i32 s)).1 13 0 = i32 s := by rw [ri, if_pos rfl, if_pos rfl]
  have k0 : (cg_i (cg_i τ1 0 38 0) 13 0 (i32 s)).1 0 38 = i32 0 := by rw [ri, if_neg (by decide), ri, if_pos rfl, if_pos rfl]; rfl
  generalize cg_i (cg_i τ1 0 38 0) 13 0 (i32 s) = γ at *
  refine up (n := G 0 0) (fun t τ => KP τ1 τ ∧ τ.1 13 0 = i32 s ∧ τ.1 0 38 = i32 0 ∧ ∀ u, u < t → τ.1 18 u = i32 0) (fun w τ => L_X12_isTrace_28 w τ Q) ?_ ?_ 0 γ (by omega) ⟨kp1, w0, k0, fun u hu => by omega⟩
  · rintro t τ ht ⟨a1, a2, a3, a4⟩ kk
    have hG2 := hR1.2.1.kp a1
    have fr : Fr [18] [] [] τ (cg_i τ 18 t (i32 0)) := Fr.i (by decide)
    refine v_X12_isTrace_28 ?_
    rw [hG2.1.1]
    simp (disch := omega) only [n0, n1, n2, n3, n4, n5, n6, n7, n8, n9, n49, n97, n98, n114, n102, n115, n119, n109, n112, i32_add, i32_mul, i32_N, i32_le, i32_lt, i32_eq, vpi_iff, vn0]
    refine ⟨fun z => by omega, fun _ => ⟨by omega, ?_⟩⟩
    rintro _ rfl
    refine kk _ ⟨a1.tr ⟨fr.mo (by simp) (by simp) (fun _ z => z), fun j _ => by rw [fr.1 0 (by decide)]⟩, by rw [fr.1 13 (by decide)]; exact a2, by rw [fr.1 0 (by decide)]; exact a3, fun u hu => ?_⟩
    rw [ri, if_pos rfl]
    by_cases e2 : u = t
    · rw [if_pos e2]
    · rw [if_neg e2]; exact a4 u (by omega)
  · rintro τ ⟨a1, a2, a3, a4⟩
    have hG2 := hR1.2.1.kp a1
    have hp2 : MP τ (tp G p0) := hp1.fr a1.1 (by decide)
    refine v_X12_isTrace_28 ?_
    rw [hG2.1.1]
    refine ⟨fun _ => ?_, fun z => absurd ((i32_le (by omega) (by omega)).mpr (Nat.le_refl _)) z⟩
    have hPV : PV G 1 (fun _ => s) := ⟨Nat.le_refl 1, fun _ _ => hs, fun i j hi hj _ => by omega, fun i hi => by omega⟩
    have hBW : BW G τ (fun _ _ => False) := ⟨0, fun _ => 0, a3, by omega, fun _ _ _ y => y, fun y => absurd rfl y⟩
    refine m_walks (p := tp G p0) hW hw (fun s hs => tp_eq hs) 8 1 (fun _ => s) (fun _ _ => False) τ _ rfl hG2 hp2 hPV (fun i hi => ?_) (fun t ht => ?_) hBW (fun τ2 k2 _ _ b2 => ?_)
    · rw [show i = 0 by omega]; exact a2
    · rw [a4 t ht, b01_0 (fun ⟨i, hi, _⟩ => by omega)]
    · have kp2 := a1.tr k2
      have hRB : ∀ τ', (∀ j, j ≠ 38 → j ≠ 0 → τ'.1 0 j = τ1.1 0 j) → Fr [0, 13, 14, 18] [0] [] τ1 τ' → RB τ' G := fun τ' h0 hf => by
        obtain ⟨q1, q2, q3, q4⟩ := hR1
        obtain ⟨pp, hpp⟩ := q3
        refine ⟨q1, ?_, ⟨pp, hpp.fr hf (by decide)⟩, q4.fr hf (by decide)⟩
        obtain ⟨⟨c1, c2, c3, c4, c5⟩, d1, d2, d3, d4⟩ := q2
        have f := hf.1
        refine ⟨⟨?_, ?_, ?_, ?_, ?_⟩, ?_, ?_, ?_, ?_⟩
        · rw [h0 1 (by decide) (by decide)]; exact c1
        · rw [h0 2 (by decide) (by decide)]; exact c2
        · rw [h0 3 (by decide) (by decide)]; exact c3
        · rw [h0 4 (by decide) (by decide)]; exact c4
        · rw [h0 5 (by decide) (by decide)]; exact c5
        · rw [f 1 (by decide)]; exact d1
        · rw [f 2 (by decide), f 3 (by decide), f 15 (by decide), f 4 (by decide)]; exact d2
        · rw [f 7 (by decide), f 8 (by decide), f 9 (by decide)]; exact d3
        · rw [f 10 (by decide)]; exact d4
      obtain ⟨K, g, q1, q2, q3, q4⟩ := b2
      have z0 : (0 : Int32) = i32 0 := rfl
      rw [q1, z0, i32_eq (by omega) (by omega)]
      refine ⟨fun hK => ?_, fun hK => ?_⟩
      · obtain ⟨r1, r2, r3, r4, r5, r6⟩ := q4 hK
        have hg0 : g 0 = s := by
          rcases r2 with y | y
          · exact y.elim
          · exact y.2.2 0 (by omega)
        have hK1 := r1.1.1
        obtain ⟨u1, u2, u3, u4, u5⟩ := pUD hW hw r1.1 (K - 1) (by omega)
        refine v_X12_isTrace_69 ?_
        rintro _ rfl
        have fi : Fr [0] [] [] τ2 (cg_i τ2 0 0 (i32 0)) := Fr.i (by decide)
        have e38 : (cg_i τ2 0 0 (i32 0)).1 0 38 = i32 K := by rw [ri, if_pos rfl, if_neg (by decide)]; exact q1
        rw [e38, z0, i32_eq (by omega) (by omega)]
        refine ⟨fun _ => ?_, fun y => absurd y hK⟩
        rw [fi.2.1 0 (by simp), r4, r5]
        have h6 : 6 ^ (K - 1) ≤ 6 ^ 6 := Nat.pow_le_pow_right (by decide) (by omega)
        have e6 : (6 : Nat) ^ 6 = 46656 := by decide
        refine v_X12_isTrace_92 (m_lowers (by unfold zfit; omega) (by unfold zfit; omega) (by omega) (fun τ3 f3 _ g40 g41 => ?_))
        have h00 : τ3.1 0 = (cg_i τ2 0 0 (i32 0)).1 0 := f3.1 0 (by simp)
        have hR3 : RB τ3 G := hRB τ3 (fun j h1 h2 => by rw [h00, ri, if_pos rfl, if_neg h2, k2.2 j h1, a1.2 j h1]) (kp2.1.tr ((fi.mo (by simp) (by simp) (fun _ z => z)).tr (f3.mo (by simp) (fun _ z => z) (fun _ z => z))))
        have e3 : τ3.1 0 0 = i32 0 := by rw [h00, ri, if_pos rfl, if_pos rfl]
        rw [e3]
        have etw : (((pU G g (K - 1) : Nat) : Int) : Rat) / (((pD G g (K - 1) : Nat) : Int) : Rat) = tw G g (K - 1) := by
          rw [Rat.intCast_natCast, Rat.intCast_natCast, u5]
        rw [etw] at g40 g41
        refine ⟨fun y => absurd rfl y, fun _ => hok s K g τ3 hs e hw hR3 e3 (by rw [h00]; exact e38) ⟨r1, hg0, fun k f hf hf0 => r6 k f (Or.inr ⟨hf.1.1, hf, fun i hi => by rw [show i = 0 by omega]; exact hf0⟩)⟩ (fun i hi => ?_) g40 g41⟩
        rw [f3.1 14 (by simp), fi.1 14 (by decide)]
        exact r3 i hi
      · have hnone := q3 hK
        refine v_X12_isTrace_69 ?_
        rintro _ rfl
        have fi : Fr [0] [] [] τ2 (cg_i τ2 0 0 3) := Fr.i (by decide)
        have e38 : (cg_i τ2 0 0 3).1 0 38 = i32 K := by rw [ri, if_pos rfl, if_neg (by decide)]; exact q1
        rw [e38, z0, i32_eq (by omega) (by omega)]
        refine ⟨fun y => absurd hK y, fun _ => v_X12_isTrace_92 (m_lowers1 (fun τ3 f3 => ?_))⟩
        have h00 : τ3.1 0 = (cg_i τ2 0 0 3).1 0 := f3.1 0 (by simp)
        have hR3 : RB τ3 G := hRB τ3 (fun j h1 h2 => by rw [h00, ri, if_pos rfl, if_neg h2, k2.2 j h1, a1.2 j h1]) (kp2.1.tr ((fi.mo (by simp) (by simp) (fun _ z => z)).tr (f3.mo (by simp) (fun _ z => z) (fun _ z => z))))
        have e3 : τ3.1 0 0 = i32 3 := by rw [h00, ri, if_pos rfl, if_pos rfl]; rfl
        rw [e3]
        exact ⟨fun _ => hno s τ3 hs e hw hR3 e3 (fun k f hf hf0 => hnone k f (Or.inr ⟨hf.1.1, hf, fun i hi => by rw [show i = 0 by omega]; exact hf0⟩)), fun y => absurd y (by decide)⟩
end TRO

theorem m_thrownE {b : cg_S} {e : Nat} {P : Int32 → cg_S → Prop} (h0 : b.1 0 0 = i32 e) (h : P (i32 e) b) : M_X12_thrown b P := v_X12_thrown (by rw [h0]; exact h)
/-- the class finds the traces of a state -/
theorem c_findTrace {v1 : Int32} {a : cg_S} {G : Gm} {ch : Nat} {Q : cg_S → Prop} {X : String → cg_S → Prop} (hC : CG a G ch) (hW : GW G) (hy : ∀ s τ U D L, s < G 0 0 → v1 = i32 s → whole G → Fr [35] [74, 82] [] a τ → TS τ (G 0 0) U D L → TI G U D L → OPT G (VV U D) L → L s ≠ 0 → Q τ) (hno : ∀ s τ U D L, s < G 0 0 → v1 = i32 s → whole G → Fr [35] [74, 82] [] a τ → OPT G (VV U D) L → L s = 0 → X "java/util/NoSuchElementException" τ) (hx : ∀ e, why2 v1 G e → X (exn2 e) a) : M_X11_findTrace v1 a Q X := by
  refine v_X11_findTrace (c_needWholeFor hC hW (fun s hs e hw => ?_) hx)
  have hn := hW.1
  refine c_traces hC hW hw (fun τ U D L f1 hS hI hO => ?_)
  have k := hy s τ U D L hs e hw f1 hS hI hO
  have k2 := hno s τ U D L hs e hw f1 hO
  rw [e, i32_N (by omega), (hS s hs).1]
  have hb : L s ≤ 7 := by
    by_cases c : L s = 0
    · omega
    · obtain ⟨f, q1, -⟩ := hO.2.2 s hs c
      have := trc_len q1
      omega
  refine ⟨vpi (by omega) (by omega), ?_⟩
  rw [n0, i32_eq (by omega) (by omega)]
  exact ⟨fun z => k z, fun z => k2 z⟩
theorem least_ex {P : Nat → Prop} : ∀ t, P t → ∃ u, P u ∧ ∀ v, v < u → ¬ P v := by
  intro t
  induction t using Nat.strongRecOn with
  | ind t ih =>
    intro h
    by_cases c : ∃ v, v < t ∧ P v
    · obtain ⟨v, h1, h2⟩ := c
      exact ih v h1 h2
    · exact ⟨t, h, fun v hv hP => c ⟨v, hv, hP⟩⟩
theorem lxb_ex {G : Gm} {V : Nat → Rat} {L : Nat → Nat} (hW : GW G) (hw : whole G) (hO : OPT G V L) : ∀ k s, s < G 0 0 → L s = k + 1 → ∃ g, LXB G V L (k + 1) g ∧ g 0 = s := by
  have bex : ∀ s, s < G 0 0 → L s ≠ 0 → ∃ f, BST G V L (L s) f ∧ f 0 = s := fun s hs h => by
    obtain ⟨f, f1, f2, f3⟩ := hO.2.2 s hs h
    exact ⟨f, ⟨f1.1, by rw [f2]; exact f3, by rw [f2]⟩, f2⟩
  intro k
  induction k with
  | zero =>
    intro s hs hL
    obtain ⟨f, f1, f2⟩ := bex s hs (by omega)
    rw [hL] at f1
    refine ⟨f, ⟨f1, fun f' _ e0 i hi _ => ?_⟩, f2⟩
    have : i = 0 := by omega
    rw [this, e0]
    exact Nat.le_refl _
  | succ k ih =>
    intro s hs hL
    obtain ⟨f, f1, f2⟩ := bex s hs (by omega)
    rw [hL] at f1
    obtain ⟨a1, a2, a3, a4, a5⟩ := bst_tl hW hw hO f1 (by omega)
    have hf1 : f 1 < G 0 0 := f1.1.2.1 1 (by omega)
    rw [f2] at a2 a3 a4 a5
    obtain ⟨t, ⟨ht, t1, t2, t3, t4⟩, tl⟩ := least_ex (P := fun t => t < G 0 0 ∧ cnd G V L s t) (f 1) ⟨hf1, a3, by omega, a5, a4⟩
    obtain ⟨g, g1, g2⟩ := ih t ht (by omega)
    refine ⟨cns s g, ⟨bst_cns hs a2 (by rw [g2]; exact t1) (by rw [g2]; exact t4) (by rw [g2]; exact t3) g1.1, fun f' hf' e0 i hi hpre => ?_⟩, rfl⟩
    have es : f' 0 = s := e0
    obtain ⟨b1, b2, b3, b4, b5⟩ := bst_tl hW hw hO hf' (by omega)
    rw [es] at b3 b4 b5
    have h1 : t ≤ f' 1 := Nat.le_of_not_lt fun z => tl (f' 1) z ⟨hf'.1.2.1 1 (by omega), b3, by omega, b5, b4⟩
    have e : ∀ j, cns s g (j + 1) = g j := fun j => by unfold cns; rw [if_neg (by omega)]; rfl
    cases i with
    | zero => rw [es]; exact Nat.le_refl _
    | succ i =>
      rw [e]
      cases i with
      | zero => rw [g2]; exact h1
      | succ i =>
        have e1 := hpre 1 (by omega)
        rw [e 0, g2] at e1
        exact g1.2 (tlf f') b1 (by show f' 1 = g 0; rw [g2, e1]) (i + 1) (by omega) (fun j hj => by
          have := hpre (j + 1) (by omega)
          rw [e] at this
          exact this)
theorem lxb_uq {G : Gm} {V : Nat → Rat} {L : Nat → Nat} {k : Nat} {g f : Nat → Nat} (h1 : LXB G V L k g) (h2 : LXB G V L k f) (e : f 0 = g 0) : ∀ m, m ≤ k → ∀ i, i < m → g i = f i := by
  have a := h1.2 f h2.1 e
  have b := h2.2 g h1.1 e.symm
  intro m
  induction m with
  | zero => intro _ i hi; omega
  | succ m ih =>
    intro hm i hi
    by_cases c : i = m
    · subst c
      have x := a i (by omega) (fun j hj => ih (by omega) j hj)
      have y := b i (by omega) (fun j hj => (ih (by omega) j hj).symm)
      omega
    · exact ih (by omega) i (by omega)
section TR4
variable {n : Nat} {v1 : Int32} {a b : cg_S}
theorem tr_none {G : Gm} {ch : Nat} {τ : cg_S} {s : Nat} {V : Nat → Rat} {L : Nat → Nat} {M : Int32 → cg_S → cg_S → Prop} (hch : ch ≤ n) (hC : CG τ G ch) (hK : CK τ G ch) (hR : RB b G) (hs : s < G 0 0) (e : v1 = i32 s) (hw : whole G) (hO : OPT G V L) (hL : L s = 0) {R : Int32 → cg_S → Prop} (h : ∀ β, RB β G → β.1 0 0 = i32 3 → Inv (n + 1) τ β → R 0 β) : M_X12_isTrace v1 b R := by
  have hW := hR.1
  have hn := hW.1
  refine m_isTrace hR (fun e' he' => (why2_no he' hs e hw).elim) (fun s' K g β hs' e' _ hRb h0 hK hT _ _ _ => ?_) (fun s' β hs' e' _ hRb h3 _ => h β hRb h3 ⟨G, ch, by omega, hC, hK, hRb⟩)
  rw [e, i32_eq (by omega) (by omega)] at e'
  subst e'
  exact absurd hL (trb_lxb hW hw hO hT).2.2.2
theorem tr_some {G : Gm} {ch : Nat} {τ : cg_S} {s : Nat} {V : Nat → Rat} {L : Nat → Nat} (hch : ch ≤ n) (hC : CG τ G ch) (hK : CK τ G ch) (hR : RB b G) (hs : s < G 0 0) (e : v1 = i32 s) (hw : whole G) (hO : OPT G V L) (hL : L s ≠ 0) {R : Int32 → cg_S → Prop} (h : ∀ β g, RB β G → β.1 0 0 = i32 0 → Inv (n + 1) τ β → β.1 0 38 = i32 (L s) → LXB G V L (L s) g → g 0 = s → (∀ i, i < L s → β.1 14 i = i32 (g i)) → β.2.1 0 40 = i64 (V s).num → β.2.1 0 41 = i64 (((V s).den : Nat) : Int) → R 1 β) : M_X12_isTrace v1 b R := by
  have hW := hR.1
  have hn := hW.1
  refine m_isTrace hR (fun e' he' => (why2_no he' hs e hw).elim) (fun s' K g β hs' e' _ hRb h0 h38 hT h14 h40 h41 => ?_) (fun s' β hs' e' _ hRb h3 hnone => ?_)
  · rw [e, i32_eq (by omega) (by omega)] at e'
    subst e'
    obtain ⟨l1, l2, l3, -⟩ := trb_lxb hW hw hO hT
    rw [l3] at h40 h41
    subst l2
    exact h β g hRb h0 ⟨G, ch, by omega, hC, hK, hRb⟩ h38 l1 hT.2.1 h14 h40 h41
  · rw [e, i32_eq (by omega) (by omega)] at e'
    subst e'
    exact absurd (trb_none hs hO hnone) hL
theorem op_traceLength (h : Inv n a b) : OP_traceLength (Inv (n + 1)) v1 a b := by
  obtain ⟨G, ch, hch, hC, hK, hR⟩ := h
  have hW := hR.1
  have hn := hW.1
  refine v_X11_traceLength (c_findTrace hC hW (fun s τ U D L hs e hw f1 hS hI hO hL => ?_) (fun s τ U D L hs e hw f1 hO hL => Or.inr (Or.inr ⟨rfl, ?_⟩)) (fun e he => ?_))
  · have e1 : vp_in v1 7 := by rw [e]; exact vpi (by omega) (by omega)
    have e2 : τ.1 35 v1.toNatClampNeg = i32 (L s) := by rw [e, i32_N (by omega)]; exact (hS s hs).1
    rw [e2]
    refine ⟨e1, v_X12_traceLength (tr_some hch (hC.fr f1 (by decide)) (hK.fr f1 (by decide)) hR hs e hw hO hL (fun β g hRb h0 hinv h38 _ _ _ _ _ => ⟨fun z => absurd z (by decide), fun _ => ?_⟩))⟩
    rw [h38]
    exact m_thrown1 h0 ⟨rfl, rfl, hinv⟩
  · exact v_X12_traceLength (tr_none (M := fun _ _ _ => True) hch (hC.fr f1 (by decide)) (hK.fr f1 (by decide)) hR hs e hw hO hL (fun β hRb h3 hinv => ⟨fun _ => m_thrownE h3 ⟨rfl, hinv⟩, fun z => absurd rfl z⟩))
  · have fin : ∀ P : Int32 → cg_S → Prop, P (i32 e) (cg_i b 0 0 (i32 e)) → M_X12_traceLength v1 b (fun r2 b1 => M_X12_thrown b1 P) := fun P hP => v_X12_traceLength (m_isTrace hR (fun e' he' => by rw [why2_uniq he' he]; exact ⟨fun _ => m_thrown0 hP, fun z => absurd rfl z⟩) (fun s K g τ hs e1 hw _ _ _ _ _ _ _ => (why2_no he hs e1 hw).elim) (fun s τ hs e1 hw _ _ _ => (why2_no he hs e1 hw).elim))
    have hI : Inv (n + 1) a (cg_i b 0 0 (i32 e)) := Inv.up hch hC hK hR
    rcases (show e = 1 ∨ e = 2 by rcases he with ⟨z, -⟩ | ⟨z, -⟩ <;> omega) with rfl | rfl
    · exact Or.inl ⟨rfl, fin _ ⟨rfl, hI⟩⟩
    · exact Or.inr (Or.inl ⟨rfl, fin _ ⟨rfl, hI⟩⟩)
theorem op_traceAbove (h : Inv n a b) : OP_traceAbove (Inv (n + 1)) v1 a b := by
  obtain ⟨G, ch, hch, hC, hK, hR⟩ := h
  have hW := hR.1
  have hn := hW.1
  refine v_X11_traceAbove (c_findTrace hC hW (fun s τ U D L hs e hw f1 hS hI hO hL => ?_) (fun s τ U D L hs e hw f1 hO hL => Or.inr (Or.inr ⟨rfl, ?_⟩)) (fun e he => ?_))
  · have e1 : vp_in v1 7 := by rw [e]; exact vpi (by omega) (by omega)
    obtain ⟨b1, b2, b3, b4, b5⟩ := TI_b hW hw hI hs
    have e2 : τ.2.1 (18 + 56) v1.toNatClampNeg = i64 ((U s : Nat) : Int) := by rw [e, i32_N (by omega)]; exact (hS s hs).2.1
    have e3 : τ.2.1 (18 + 64) v1.toNatClampNeg = i64 ((D s : Nat) : Int) := by rw [e, i32_N (by omega)]; exact (hS s hs).2.2
    rw [e2, e3]
    refine ⟨e1, e1, (c_lowest (by omega) (by omega) (by omega)).1 ?_⟩
    refine v_X12_traceAbove (tr_some hch (hC.fr f1 (by decide)) (hK.fr f1 (by decide)) hR hs e hw hO hL (fun β g hRb h0 hinv _ _ _ _ h40 _ => ⟨fun z => absurd z (by decide), fun _ => ?_⟩))
    rw [h40]
    exact m_thrown1 h0 ⟨rfl, rfl, hinv⟩
  · exact v_X12_traceAbove (tr_none (M := fun _ _ _ => True) hch (hC.fr f1 (by decide)) (hK.fr f1 (by decide)) hR hs e hw hO hL (fun β hRb h3 hinv => ⟨fun _ => m_thrownE h3 ⟨rfl, hinv⟩, fun z => absurd rfl z⟩))
  · have fin : ∀ P : Int32 → cg_S → Prop, P (i32 e) (cg_i b 0 0 (i32 e)) → M_X12_traceAbove v1 b (fun r2 b1 => M_X12_thrown b1 P) := fun P hP => v_X12_traceAbove (m_isTrace hR (fun e' he' => by rw [why2_uniq he' he]; exact ⟨fun _ => m_thrown0 hP, fun z => absurd rfl z⟩) (fun s K g τ hs e1 hw _ _ _ _ _ _ _ => (why2_no he hs e1 hw).elim) (fun s τ hs e1 hw _ _ _ => (why2_no he hs e1 hw).elim))
    have hI : Inv (n + 1) a (cg_i b 0 0 (i32 e)) := Inv.up hch hC hK hR
    rcases (show e = 1 ∨ e = 2 by rcases he with ⟨z, -⟩ | ⟨z, -⟩ <;> omega) with rfl | rfl
    · exact Or.inl ⟨rfl, fin _ ⟨rfl, hI⟩⟩
    · exact Or.inr (Or.inl ⟨rfl, fin _ ⟨rfl, hI⟩⟩)
theorem op_traceBelow (h : Inv n a b) : OP_traceBelow (Inv (n + 1)) v1 a b := by
  obtain ⟨G, ch, hch, hC, hK, hR⟩ := h
  have hW := hR.1
  have hn := hW.1
  refine v_X11_traceBelow (c_findTrace hC hW (fun s τ U D L hs e hw f1 hS hI hO hL => ?_) (fun s τ U D L hs e hw f1 hO hL => Or.inr (Or.inr ⟨rfl, ?_⟩)) (fun e he => ?_))
  · have e1 : vp_in v1 7 := by rw [e]; exact vpi (by omega) (by omega)
    obtain ⟨b1, b2, b3, b4, b5⟩ := TI_b hW hw hI hs
    have e2 : τ.2.1 (18 + 56) v1.toNatClampNeg = i64 ((U s : Nat) : Int) := by rw [e, i32_N (by omega)]; exact (hS s hs).2.1
    have e3 : τ.2.1 (18 + 64) v1.toNatClampNeg = i64 ((D s : Nat) : Int) := by rw [e, i32_N (by omega)]; exact (hS s hs).2.2
    rw [e2, e3]
    refine ⟨e1, e1, (c_lowest (by omega) (by omega) (by omega)).2 ?_⟩
    refine v_X12_traceBelow (tr_some hch (hC.fr f1 (by decide)) (hK.fr f1 (by decide)) hR hs e hw hO hL (fun β g hRb h0 hinv _ _ _ _ _ h41 => ⟨fun z => absurd z (by decide), fun _ => ?_⟩))
    rw [h41]
    exact m_thrown1 h0 ⟨rfl, rfl, hinv⟩
  · exact v_X12_traceBelow (tr_none (M := fun _ _ _ => True) hch (hC.fr f1 (by decide)) (hK.fr f1 (by decide)) hR hs e hw hO hL (fun β hRb h3 hinv => ⟨fun _ => m_thrownE h3 ⟨rfl, hinv⟩, fun z => absurd rfl z⟩))
  · have fin : ∀ P : Int32 → cg_S → Prop, P (i32 e) (cg_i b 0 0 (i32 e)) → M_X12_traceBelow v1 b (fun r2 b1 => M_X12_thrown b1 P) := fun P hP => v_X12_traceBelow (m_isTrace hR (fun e' he' => by rw [why2_uniq he' he]; exact ⟨fun _ => m_thrown0 hP, fun z => absurd rfl z⟩) (fun s K g τ hs e1 hw _ _ _ _ _ _ _ => (why2_no he hs e1 hw).elim) (fun s τ hs e1 hw _ _ _ => (why2_no he hs e1 hw).elim))
    have hI : Inv (n + 1) a (cg_i b 0 0 (i32 e)) := Inv.up hch hC hK hR
    rcases (show e = 1 ∨ e = 2 by rcases he with ⟨z, -⟩ | ⟨z, -⟩ <;> omega) with rfl | rfl
    · exact Or.inl ⟨rfl, fin _ ⟨rfl, hI⟩⟩
    · exact Or.inr (Or.inl ⟨rfl, fin _ ⟨rfl, hI⟩⟩)
theorem op_traceAt {v2 : Int32} (h : Inv n a b) : OP_traceAt (Inv (n + 1)) v1 v2 a b := by
  obtain ⟨G, ch, hch, hC, hK, hR⟩ := h
  have hW := hR.1
  have hn := hW.1
  refine v_X11_traceAt (c_findTrace hC hW (fun s τ U D L hs e hw f1 hS hI hO hL => ?_) (fun s τ U D L hs e hw f1 hO hL => Or.inr (Or.inr ⟨rfl, ?_⟩)) (fun e he => ?_))
  · have e1 : vp_in v1 7 := by rw [e]; exact vpi (by omega) (by omega)
    have hC1 := hC.fr f1 (by decide)
    have hK1 := hK.fr f1 (by decide)
    obtain ⟨b1, b2, b3, b4, b5⟩ := TI_b hW hw hI hs
    have e2 : τ.1 35 v1.toNatClampNeg = i32 (L s) := by rw [e, i32_N (by omega)]; exact (hS s hs).1
    have a0 : (0 : Int32).toInt = 0 := rfl
    have pr : i32 (L s) - (1 : Int32) = i32 (L s - 1) := i32_pr ⟨L s, by omega⟩ hL
    have fails : (v2.toInt < 0 ∨ (L s : Int) ≤ v2.toInt) → M_X12_traceAt v1 v2 b (fun r2 b1 => M_X12_thrown b1 (fun t b2 => t = 3 ∧ Inv (n + 1) τ b2)) := fun hv => by
      refine v_X12_traceAt (tr_some hch hC1 hK1 hR hs e hw hO hL (fun β g hRb h0 hinv h38 _ _ _ _ _ => ⟨fun _ => v_X12_in ?_, fun z => absurd z (by decide)⟩))
      have f3 : M_X12_fails 3 β (fun r7 s8 => M_X12_thrown s8 (fun t b2 => t = 3 ∧ Inv (n + 1) τ b2)) := v_X12_fails (by
        rintro _ rfl
        exact m_thrown0 (e := 3) ⟨rfl, ⟨G, ch, by omega, hC1, hK1, hRb.c0⟩⟩)
      rw [h38, pr, Int32.lt_iff_toInt_lt, Int32.lt_iff_toInt_lt, a0, i32_toInt (by omega)]
      exact ⟨fun _ => ⟨fun _ => f3, fun z => absurd rfl z⟩, fun z => ⟨fun _ => ⟨fun _ => f3, fun z => absurd rfl z⟩, fun z2 => by omega⟩⟩
    rw [e2, Int32.lt_iff_toInt_lt, Int32.lt_iff_toInt_lt, a0, i32_toInt (by omega)]
    refine ⟨fun z => Or.inr (Or.inr ⟨rfl, fails (Or.inl z)⟩), fun z => ⟨e1, fun z2 => ?_, fun z2 => Or.inr (Or.inr ⟨rfl, fails (Or.inr (by omega))⟩)⟩⟩
    have hv2 : v2 = i32 v2.toInt.toNat := i32_nat (by omega)
    have hlt : v2.toInt.toNat < L s := by omega
    generalize v2.toInt.toNat = i at *
    -- what the reference has found
    have ref : ∀ R : Int32 → cg_S → Prop, (∀ β g, RB β G → β.1 0 0 = i32 0 → Inv (n + 1) τ β → LXB G (VV U D) L (L s) g → g 0 = s → R (i32 (g i)) β) → M_X12_traceAt v1 v2 b R := fun R hRr => by
      refine v_X12_traceAt (tr_some hch hC1 hK1 hR hs e hw hO hL (fun β g hRb h0 hinv h38 hl hg0 h14 _ _ => ⟨fun _ => v_X12_in ?_, fun z => absurd z (by decide)⟩))
      rw [h38, pr, Int32.lt_iff_toInt_lt, Int32.lt_iff_toInt_lt, a0, i32_toInt (by omega), hv2, i32_toInt (by omega)]
      refine ⟨fun y => by omega, fun _ => ⟨fun y => by omega, fun _ => ⟨fun y => absurd y (by decide), fun _ => ⟨vpi (by omega) (by omega), ?_⟩⟩⟩⟩
      rw [i32_N (by omega), h14 i hlt]
      exact hRr β g hRb h0 hinv hl hg0
    obtain ⟨g, g1, g2⟩ := lxb_ex hW hw hO (L s - 1) s hs (by omega)
    rw [show L s - 1 + 1 = L s by omega] at g1
    rw [show M_X9_stateAt v1 v2 19 τ = M_X9_stateAt (i32 s) (i32 i) 19 τ by rw [e, hv2]]
    refine c_stateAt hC1 hW hw hS hI hO g1 g2 hlt (ref _ (fun β g' hRb h0 hinv l1 l2 => m_thrown1 h0 ⟨rfl, ?_, hinv⟩))
    rw [lxb_uq g1 l1 (by rw [l2, g2]) (L s) (Nat.le_refl _) i hlt]
  · exact v_X12_traceAt (tr_none (M := fun _ _ _ => True) hch (hC.fr f1 (by decide)) (hK.fr f1 (by decide)) hR hs e hw hO hL (fun β hRb h3 hinv => ⟨fun z => absurd rfl z, fun _ => m_thrownE h3 ⟨rfl, hinv⟩⟩))
  · have fin : ∀ P : Int32 → cg_S → Prop, P (i32 e) (cg_i b 0 0 (i32 e)) → M_X12_traceAt v1 v2 b (fun r2 b1 => M_X12_thrown b1 P) := fun P hP => v_X12_traceAt (m_isTrace hR (fun e' he' => by rw [why2_uniq he' he]; exact ⟨fun z => absurd rfl z, fun _ => m_thrown0 hP⟩) (fun s K g τ hs e1 hw _ _ _ _ _ _ _ => (why2_no he hs e1 hw).elim) (fun s τ hs e1 hw _ _ _ => (why2_no he hs e1 hw).elim))
    have hI : Inv (n + 1) a (cg_i b 0 0 (i32 e)) := Inv.up hch hC hK hR
    rcases (show e = 1 ∨ e = 2 by rcases he with ⟨z, -⟩ | ⟨z, -⟩ <;> omega) with rfl | rfl
    · exact Or.inl ⟨rfl, fin _ ⟨rfl, hI⟩⟩
    · exact Or.inr (Or.inl ⟨rfl, fin _ ⟨rfl, hI⟩⟩)
end TR4
