/-! THE CALLS: traceLength, traceAt, traceAbove, traceBelow -/
section TRO
variable {G : Gm} {V : Nat → Rat} {L : Nat → Nat}
/-- the best of the traces from s -/
def TRB (G : Gm) (s K : Nat) (g : Nat → Nat) : Prop := trc G K g ∧ g 0 = s ∧ ∀ k f, trc G k f → f 0 = s → btt (tw G g (K - 1)) K (tw G f (k - 1)) k ∧ (tw G f (k - 1) = tw G g (K - 1) → k = K → lxl K g f)
theorem trb_lxb {s K : Nat} {g : Nat → Nat} (hW : GW G) (hw : whole G) (hO : OPT G V L) (h : TRB G s K g) : LXB G V L K g ∧ K = L s ∧ tw G g (K - 1) = V s ∧ L s ≠ 0 := by
  obtain ⟨h1, h2, h3⟩ := h
  have hs : s < G 0 0 := by rw [← h2]; exact h1.1.2.1 0 h1.1.1
  obtain ⟨a1, a2⟩ := opt_all hW hw hO K g h1.1
  rw [h2] at a1 a2
  obtain ⟨f, f1, f2, f3⟩ := hO.2.2 s hs a1
  obtain ⟨b1, b2⟩ := h3 (L s) f f1 f2
  rw [f3] at b1
  obtain ⟨c1, c2⟩ := btt_as b1 a2
  refine ⟨⟨⟨h1.1, by rw [h2]; exact c1, by rw [h2]; exact c2⟩, fun f' hf' e0 => ?_⟩, c2, c1, a1⟩
  have ht := bst_trc hW hw hO hf'
  refine (h3 K f' ht (by rw [e0, h2])).2 ?_ rfl
  rw [hf'.2.1, e0, h2, c1]
theorem trb_none {s : Nat} (hs : s < G 0 0) (hO : OPT G V L) (h : ∀ k f, trc G k f → f 0 ≠ s) : L s = 0 := Classical.byContradiction fun z => by
  obtain ⟨f, f1, f2, -⟩ := hO.2.2 s hs z
  exact h _ f f1 f2
theorem d_one (x : Int64) : x - x / 1 * 1 = 0 := by
  have h : x / 1 = x := by
    rw [← Int64.toInt_inj, Int64.toInt_div]
    have e : (1 : Int64).toInt = 1 := rfl
    rw [e, Int.tdiv_one]
    exact Int.bmod_eq_of_le (by have := x.le_toInt; omega) (by have := x.toInt_lt; omega)
  rw [h, Int64.mul_one, Int64.sub_self]
theorem m_lowers1 {x : Int64} {σ : cg_S} {Q : cg_S → Prop} (h : ∀ τ, Fr [] [0] [] σ τ → Q τ) : M_X12_lowers x 1 σ Q := by
  have div : ∀ y : Int64, ∀ R : Int64 → cg_S → Prop, R 1 σ → L_X12_divisor_12 1 y σ R := fun y R hR => by
    refine v_X12_divisor_12 ⟨fun _ => ?_, fun z => absurd (by decide) z⟩
    refine v_X12_divisor_28 ⟨fun z => absurd z (by decide), fun z => ⟨z, ?_⟩⟩
    rw [d_one]
    rintro _ rfl
    exact v_X12_divisor_28 ⟨fun _ => hR, fun z => absurd rfl z⟩
  have fin : L_X12_lowers_18 x 1 1 1 σ Q := by
    refine v_X12_lowers_18 ?_
    rintro _ rfl
    refine ⟨by decide, ?_⟩
    rintro _ rfl
    refine ⟨by decide, ?_⟩
    rintro _ rfl
    exact h _ ((Fr.l (by decide)).tr (Fr.l (by decide)))
  refine v_X12_lowers (v_X12_divisor ⟨fun _ => div _ _ ?_, fun _ => div _ _ ?_⟩)
  all_goals exact ⟨fun _ => fin, fun z => absurd (by decide) z⟩
theorem m_isTrace {v : Int32} {b : cg_S} {Q : Int32 → cg_S → Prop} (hR : RB b G) (hbad : ∀ e, why2 v G e → Q 0 (cg_i b 0 0 (i32 e))) (hok : ∀ s K g τ, s < G 0 0 → v = i32 s → whole G → RB τ G → τ.1 0 0 = i32 0 → τ.1 0 38 = i32 K → TRB G s K g → (∀ i, i < K → τ.1 14 i = i32 (g i)) → τ.2.1 0 40 = i64 (tw G g (K - 1)).num → τ.2.1 0 41 = i64 (((tw G g (K - 1)).den : Nat) : Int) → Q 1 τ) (hno : ∀ s τ, s < G 0 0 → v = i32 s → whole G → RB τ G → τ.1 0 0 = i32 3 → (∀ k f, trc G k f → f 0 ≠ s) → Q 0 τ) : M_X12_isTrace v b Q := by
  have hW := hR.1
  have hn := hW.1
  refine v_X12_isTrace (m_isGame hR (fun e he => ⟨fun z => absurd rfl z, fun _ => hbad e he⟩) (fun s hs e hw => ⟨fun _ => ?_, fun z => absurd z (by decide)⟩))
  have hR0 := hR.c0 (x := i32 0)
  have e00 : (cg_i b 0 0 (i32 0)).1 0 0 = i32 0 := by rw [ri, if_pos rfl, if_pos rfl]
  generalize cg_i b 0 0 (i32 0) = β at *
  obtain ⟨-, hG0, ⟨p0, hp0⟩, hK0⟩ := id hR0
  refine m_picksTold hW hp0 hG0 (fun τ1 f1 hp1 => ?_)
  have hR1 : RB τ1 G := ⟨hW, hG0.fr f1 (by decide), ⟨_, hp1⟩, hK0.fr f1 (by decide)⟩
  have e01 : τ1.1 0 0 = i32 0 := by rw [f1.1 0 (by decide)]; exact e00
  rintro _ rfl
  rw [e]
  rintro _ rfl
  -- from here on: only scratch is written
  have kp1 : KP τ1 (cg_i (cg_i τ1 0 38 0) 13 0 (i32 s)) := ⟨(Fr.i (by decide)).tr (Fr.i (by decide)), fun j hj => by rw [ri, if_neg (by decide), ri, if_pos rfl, if_neg hj]⟩
  have w0 : (cg_i (cg_i τ1 0 38 0) 13 0 (i32 s)).1 13 0 = i32 s := by rw [ri, if_pos rfl, if_pos rfl]
  have k0 : (cg_i (cg_i τ1 0 38 0) 13 0 (i32 s)).1 0 38 = i32 0 := by rw [ri, if_neg (by decide), ri, if_pos rfl, if_pos rfl]; rfl
  generalize cg_i (cg_i τ1 0 38 0) 13 0 (i32 s) = γ at *
  refine up (n := G 0 0) (fun t τ => KP τ1 τ ∧ τ.1 13 0 = i32 s ∧ τ.1 0 38 = i32 0 ∧ ∀ u, u < t → τ.1 18 u = i32 0) (fun w τ => L_X12_isTrace_28 w τ Q) ?_ ?_ 0 γ (by omega) ⟨kp1, w0, k0, fun u hu => by omega⟩
  · rintro t τ ht ⟨a1, a2, a3, a4⟩ kk
    have hG2 := hR1.2.1.kp a1
    have fr : Fr [18] [] [] τ (cg_i τ 18 t (i32 0)) := Fr.i (by decide)
    refine v_X12_isTrace_28 ?_
    rw [hG2.1.1]
    simp (disch := omega) only [n0, n1, n2, n3, n4, n5, n6, n7, n8, n9, n49, n97, n98, n114, n102, n115, n119, n109, n112, i32_add, i32_mul, i32_N, i32_le, i32_lt, i32_eq, vpi_iff, vn0]
    refine ⟨fun z => by omega, fun _ => ⟨by omega, ?_⟩⟩
    rintro _ rfl
    refine kk _ ⟨a1.tr ⟨fr.mo (by simp) (by simp) (fun _ z => z), fun j _ => by rw [fr.1 0 (by decide)]⟩, by rw [fr.1 13 (by decide)]; exact a2, by rw [fr.1 0 (by decide)]; exact a3, fun u hu => ?_⟩
    rw [ri, if_pos rfl]
    by_cases e2 : u = t
    · rw [if_pos e2]
    · rw [if_neg e2]; exact a4 u (by omega)
  · rintro τ ⟨a1, a2, a3, a4⟩
    have hG2 := hR1.2.1.kp a1
    have hp2 : MP τ (tp G p0) := hp1.fr a1.1 (by decide)
    refine v_X12_isTrace_28 ?_
    rw [hG2.1.1]
    refine ⟨fun _ => ?_, fun z => absurd ((i32_le (by omega) (by omega)).mpr (Nat.le_refl _)) z⟩
    have hPV : PV G 1 (fun _ => s) := ⟨Nat.le_refl 1, fun _ _ => hs, fun i j hi hj _ => by omega, fun i hi => by omega⟩
    have hBW : BW G τ (fun _ _ => False) := ⟨0, fun _ => 0, a3, by omega, fun _ _ _ y => y, fun y => absurd rfl y⟩
    refine m_walks (p := tp G p0) hW hw (fun s hs => tp_eq hs) 8 1 (fun _ => s) (fun _ _ => False) τ _ rfl hG2 hp2 hPV (fun i hi => ?_) (fun t ht => ?_) hBW (fun τ2 k2 _ _ b2 => ?_)
    · rw [show i = 0 by omega]; exact a2
    · rw [a4 t ht, b01_0 (fun ⟨i, hi, _⟩ => by omega)]
    · have kp2 := a1.tr k2
      have hRB : ∀ τ', (∀ j, j ≠ 38 → j ≠ 0 → τ'.1 0 j = τ1.1 0 j) → Fr [0, 13, 14, 18] [0] [] τ1 τ' → RB τ' G := fun τ' h0 hf => by
        obtain ⟨q1, q2, q3, q4⟩ := hR1
        obtain ⟨pp, hpp⟩ := q3
        refine ⟨q1, ?_, ⟨pp, hpp.fr hf (by decide)⟩, q4.fr hf (by decide)⟩
        obtain ⟨⟨c1, c2, c3, c4, c5⟩, d1, d2, d3, d4⟩ := q2
        have f := hf.1
        refine ⟨⟨?_, ?_, ?_, ?_, ?_⟩, ?_, ?_, ?_, ?_⟩
        · rw [h0 1 (by decide) (by decide)]; exact c1
        · rw [h0 2 (by decide) (by decide)]; exact c2
        · rw [h0 3 (by decide) (by decide)]; exact c3
        · rw [h0 4 (by decide) (by decide)]; exact c4
        · rw [h0 5 (by decide) (by decide)]; exact c5
        · rw [f 1 (by decide)]; exact d1
        · rw [f 2 (by decide), f 3 (by decide), f 15 (by decide), f 4 (by decide)]; exact d2
        · rw [f 7 (by decide), f 8 (by decide), f 9 (by decide)]; exact d3
        · rw [f 10 (by decide)]; exact d4
      obtain ⟨K, g, q1, q2, q3, q4⟩ := b2
      have z0 : (0 : Int32) = i32 0 := rfl
      rw [q1, z0, i32_eq (by omega) (by omega)]
      refine ⟨fun hK => ?_, fun hK => ?_⟩
      · obtain ⟨r1, r2, r3, r4, r5, r6⟩ := q4 hK
        have hg0 : g 0 = s := by
          rcases r2 with y | y
          · exact y.elim
          · exact y.2.2 0 (by omega)
        have hK1 := r1.1.1
        obtain ⟨u1, u2, u3, u4, u5⟩ := pUD hW hw r1.1 (K - 1) (by omega)
        refine v_X12_isTrace_69 ?_
        rintro _ rfl
        have fi : Fr [0] [] [] τ2 (cg_i τ2 0 0 (i32 0)) := Fr.i (by decide)
        have e38 : (cg_i τ2 0 0 (i32 0)).1 0 38 = i32 K := by rw [ri, if_pos rfl, if_neg (by decide)]; exact q1
        rw [e38, z0, i32_eq (by omega) (by omega)]
        refine ⟨fun _ => ?_, fun y => absurd y hK⟩
        rw [fi.2.1 0 (by simp), r4, r5]
        have h6 : 6 ^ (K - 1) ≤ 6 ^ 6 := Nat.pow_le_pow_right (by decide) (by omega)
        have e6 : (6 : Nat) ^ 6 = 46656 := by decide
        refine v_X12_isTrace_92 (m_lowers (by unfold zfit; omega) (by unfold zfit; omega) (by omega) (fun τ3 f3 _ g40 g41 => ?_))
        have h00 : τ3.1 0 = (cg_i τ2 0 0 (i32 0)).1 0 := f3.1 0 (by simp)
        have hR3 : RB τ3 G := hRB τ3 (fun j h1 h2 => by rw [h00, ri, if_pos rfl, if_neg h2, k2.2 j h1, a1.2 j h1]) (kp2.1.tr ((fi.mo (by simp) (by simp) (fun _ z => z)).tr (f3.mo (by simp) (fun _ z => z) (fun _ z => z))))
        have e3 : τ3.1 0 0 = i32 0 := by rw [h00, ri, if_pos rfl, if_pos rfl]
        rw [e3]
        have etw : (((pU G g (K - 1) : Nat) : Int) : Rat) / (((pD G g (K - 1) : Nat) : Int) : Rat) = tw G g (K - 1) := by
          rw [Rat.intCast_natCast, Rat.intCast_natCast, u5]
        rw [etw] at g40 g41
        refine ⟨fun y => absurd rfl y, fun _ => hok s K g τ3 hs e hw hR3 e3 (by rw [h00]; exact e38) ⟨r1, hg0, fun k f hf hf0 => r6 k f (Or.inr ⟨hf.1.1, hf, fun i hi => by rw [show i = 0 by omega]; exact hf0⟩)⟩ (fun i hi => ?_) g40 g41⟩
        rw [f3.1 14 (by simp), fi.1 14 (by decide)]
        exact r3 i hi
      · have hnone := q3 hK
        refine v_X12_isTrace_69 ?_
        rintro _ rfl
        have fi : Fr [0] [] [] τ2 (cg_i τ2 0 0 3) := Fr.i (by decide)
        have e38 : (cg_i τ2 0 0 3).1 0 38 = i32 K := by rw [ri, if_pos rfl, if_neg (by decide)]; exact q1
        rw [e38, z0, i32_eq (by omega) (by omega)]
        refine ⟨fun y => absurd hK y, fun _ => v_X12_isTrace_92 (m_lowers1 (fun τ3 f3 => ?_))⟩
        have h00 : τ3.1 0 = (cg_i τ2 0 0 3).1 0 := f3.1 0 (by simp)
        have hR3 : RB τ3 G := hRB τ3 (fun j h1 h2 => by rw [h00, ri, if_pos rfl, if_neg h2, k2.2 j h1, a1.2 j h1]) (kp2.1.tr ((fi.mo (by simp) (by simp) (fun _ z => z)).tr (f3.mo (by simp) (fun _ z => z) (fun _ z => z))))
        have e3 : τ3.1 0 0 = i32 3 := by rw [h00, ri, if_pos rfl, if_pos rfl]; rfl
        rw [e3]
        exact ⟨fun _ => hno s τ3 hs e hw hR3 e3 (fun k f hf hf0 => hnone k f (Or.inr ⟨hf.1.1, hf, fun i hi => by rw [show i = 0 by omega]; exact hf0⟩)), fun y => absurd y (by decide)⟩
end TRO

theorem m_thrownE {b : cg_S} {e : Nat} {P : Int32 → cg_S → Prop} (h0 : b.1 0 0 = i32 e) (h : P (i32 e) b) : M_X12_thrown b P := v_X12_thrown (by rw [h0]; exact h)
/-- the class finds the traces of a state -/
theorem c_findTrace {v1 : Int32} {a : cg_S} {G : Gm} {ch : Nat} {Q : cg_S → Prop} {X : String → cg_S → Prop} (hC : CG a G ch) (hW : GW G) (hy : ∀ s τ U D L, s < G 0 0 → v1 = i32 s → whole G → Fr [35] [74, 82] [] a τ → TS τ (G 0 0) U D L → TI G U D L → OPT G (VV U D) L → L s ≠ 0 → Q τ) (hno : ∀ s τ U D L, s < G 0 0 → v1 = i32 s → whole G → Fr [35] [74, 82] [] a τ → OPT G (VV U D) L → L s = 0 → X "java/util/NoSuchElementException" τ) (hx : ∀ e, why2 v1 G e → X (exn2 e) a) : M_X11_findTrace v1 a Q X := by
  sorry
