/-! THE CALLS: traceLength, traceAt, traceAbove, traceBelow -/
section TRO
variable {G : Gm} {V : Nat → Rat} {L : Nat → Nat}
/-- the best of the traces from s -/
def TRB (G : Gm) (s K : Nat) (g : Nat → Nat) : Prop := trc G K g ∧ g 0 = s ∧ ∀ k f, trc G k f → f 0 = s → btt (tw G g (K - 1)) K (tw G f (k - 1)) k ∧ (tw G f (k - 1) = tw G g (K - 1) → k = K → lxl K g f)
theorem trb_lxb {s K : Nat} {g : Nat → Nat} (hW : GW G) (hw : whole G) (hO : OPT G V L) (h : TRB G s K g) : LXB G V L K g ∧ K = L s ∧ tw G g (K - 1) = V s ∧ L s ≠ 0 := by
  obtain ⟨h1, h2, h3⟩ := h
  have hs : s < G 0 0 := by rw [← h2]; exact h1.1.2.1 0 h1.1.1
  obtain ⟨a1, a2⟩ := opt_all hW hw hO K g h1.1
  rw [h2] at a1 a2
  obtain ⟨f, f1, f2, f3⟩ := hO.2.2 s hs a1
  obtain ⟨b1, b2⟩ := h3 (L s) f f1 f2
  rw [f3] at b1
  obtain ⟨c1, c2⟩ := btt_as b1 a2
  refine ⟨⟨⟨h1.1, by rw [h2]; exact c1, by rw [h2]; exact c2⟩, fun f' hf' e0 => ?_⟩, c2, c1, a1⟩
  have ht := bst_trc hW hw hO hf'
  refine (h3 K f' ht (by rw [e0, h2])).2 ?_ rfl
  rw [hf'.2.1, e0, h2, c1]
theorem trb_none {s : Nat} (hs : s < G 0 0) (hO : OPT G V L) (h : ∀ k f, trc G k f → f 0 ≠ s) : L s = 0 := Classical.byContradiction fun z => by
  obtain ⟨f, f1, f2, -⟩ := hO.2.2 s hs z
  exact h _ f f1 f2
theorem d_one (x : Int64) : x - x / 1 * 1 = 0 := by
  have h : x / 1 = x := by
    rw [← Int64.toInt_inj, Int64.toInt_div]
    have e : (1 : Int64).toInt = 1 := rfl
    rw [e, Int.tdiv_one]
    exact Int.bmod_eq_of_le (by have := x.le_toInt; omega) (by have := x.toInt_lt; omega)
  rw [h, Int64.mul_one, Int64.sub_self]
end TRO

/-- the class finds the traces of a state -/
theorem c_findTrace {v1 : Int32} {a : cg_S} {G : Gm} {ch : Nat} {Q : cg_S → Prop} {X : String → cg_S → Prop} (hC : CG a G ch) (hW : GW G) (hy : ∀ s τ U D L, s < G 0 0 → v1 = i32 s → whole G → Fr [35] [74, 82] [] a τ → TS τ (G 0 0) U D L → TI G U D L → OPT G (VV U D) L → L s ≠ 0 → Q τ) (hno : ∀ s τ U D L, s < G 0 0 → v1 = i32 s → whole G → Fr [35] [74, 82] [] a τ → OPT G (VV U D) L → L s = 0 → X "java/util/NoSuchElementException" τ) (hx : ∀ e, why2 v1 G e → X (exn2 e) a) : M_X11_findTrace v1 a Q X := by
  refine v_X11_findTrace (c_needWholeFor hC hW (fun s hs e hw => ?_) hx)
  have hn := hW.1
  refine c_traces hC hW hw (fun τ U D L f1 hS hI hO => ?_)
  have k := hy s τ U D L hs e hw f1 hS hI hO
  have k2 := hno s τ U D L hs e hw f1 hO
  rw [e, i32_N (by omega), (hS s hs).1]
  have hb : L s ≤ 7 := by
    by_cases c : L s = 0
    · omega
    · obtain ⟨f, q1, -⟩ := hO.2.2 s hs c
      have := trc_len q1
      omega
  refine ⟨vpi (by omega) (by omega), ?_⟩
  rw [n0, i32_eq (by omega) (by omega)]
  exact ⟨fun z => k z, fun z => k2 z⟩
theorem least_ex {P : Nat → Prop} : ∀ t, P t → ∃ u, P u ∧ ∀ v, v < u → ¬ P v := by
  intro t
  induction t using Nat.strongRecOn with
  | ind t ih =>
    intro h
    by_cases c : ∃ v, v < t ∧ P v
    · obtain ⟨v, h1, h2⟩ := c
      exact ih v h1 h2
    · exact ⟨t, h, fun v hv hP => c ⟨v, hv, hP⟩⟩
theorem lxb_ex {G : Gm} {V : Nat → Rat} {L : Nat → Nat} (hW : GW G) (hw : whole G) (hO : OPT G V L) : ∀ k s, s < G 0 0 → L s = k + 1 → ∃ g, LXB G V L (k + 1) g ∧ g 0 = s := by
  have bex : ∀ s, s < G 0 0 → L s ≠ 0 → ∃ f, BST G V L (L s) f ∧ f 0 = s := fun s hs h => by
    obtain ⟨f, f1, f2, f3⟩ := hO.2.2 s hs h
    exact ⟨f, ⟨f1.1, by rw [f2]; exact f3, by rw [f2]⟩, f2⟩
  intro k
  induction k with
  | zero =>
    intro s hs hL
    obtain ⟨f, f1, f2⟩ := bex s hs (by omega)
    rw [hL] at f1
    refine ⟨f, ⟨f1, fun f' _ e0 i hi _ => ?_⟩, f2⟩
    have : i = 0 := by omega
    rw [this, e0]
    exact Nat.le_refl _
  | succ k ih =>
    intro s hs hL
    obtain ⟨f, f1, f2⟩ := bex s hs (by omega)
    rw [hL] at f1
    obtain ⟨a1, a2, a3, a4, a5⟩ := bst_tl hW hw hO f1 (by omega)
    have hf1 : f 1 < G 0 0 := f1.1.2.1 1 (by omega)
    rw [f2] at a2 a3 a4 a5
    obtain ⟨t, ⟨ht, t1, t2, t3, t4⟩, tl⟩ := least_ex (P := fun t => t < G 0 0 ∧ cnd G V L s t) (f 1) ⟨hf1, a3, by omega, a5, a4⟩
    obtain ⟨g, g1, g2⟩ := ih t ht (by omega)
    refine ⟨cns s g, ⟨bst_cns hs a2 (by rw [g2]; exact t1) (by rw [g2]; exact t4) (by rw [g2]; exact t3) g1.1, fun f' hf' e0 i hi hpre => ?_⟩, rfl⟩
    have es : f' 0 = s := e0
    obtain ⟨b1, b2, b3, b4, b5⟩ := bst_tl hW hw hO hf' (by omega)
    rw [es] at b3 b4 b5
    have h1 : t ≤ f' 1 := Nat.le_of_not_lt fun z => tl (f' 1) z ⟨hf'.1.2.1 1 (by omega), b3, by omega, b5, b4⟩
    have e : ∀ j, cns s g (j + 1) = g j := fun j => by unfold cns; rw [if_neg (by omega)]; rfl
    cases i with
    | zero => rw [es]; exact Nat.le_refl _
    | succ i =>
      rw [e]
      cases i with
      | zero => rw [g2]; exact h1
      | succ i =>
        have e1 := hpre 1 (by omega)
        rw [e 0, g2] at e1
        exact g1.2 (tlf f') b1 (by show f' 1 = g 0; rw [g2, e1]) (i + 1) (by omega) (fun j hj => by
          have := hpre (j + 1) (by omega)
          rw [e] at this
          exact this)
theorem lxb_uq {G : Gm} {V : Nat → Rat} {L : Nat → Nat} {k : Nat} {g f : Nat → Nat} (h1 : LXB G V L k g) (h2 : LXB G V L k f) (e : f 0 = g 0) : ∀ m, m ≤ k → ∀ i, i < m → g i = f i := by
  have a := h1.2 f h2.1 e
  have b := h2.2 g h1.1 e.symm
  intro m
  induction m with
  | zero => intro _ i hi; omega
  | succ m ih =>
    intro hm i hi
    by_cases c : i = m
    · subst c
      have x := a i (by omega) (fun j hj => ih (by omega) j hj)
      have y := b i (by omega) (fun j hj => (ih (by omega) j hj).symm)
      omega
    · exact ih (by omega) i (by omega)
section TR4
variable {n : Nat} {v1 : Int32} {a b : cg_S}
end TR4
