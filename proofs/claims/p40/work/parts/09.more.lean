def cg_qi (Q : Int32 → cg_S → Prop) : (Nat → Nat) → Option Value → cg_S → Prop := fun _ v τ => ∃ r, v = some (.int r) ∧ Q r τ
def cg_ql (Q : Int64 → cg_S → Prop) : (Nat → Nat) → Option Value → cg_S → Prop := fun _ v τ => ∃ r, v = some (.long r) ∧ Q r τ
def cg_qf (Q : UInt32 → cg_S → Prop) : (Nat → Nat) → Option Value → cg_S → Prop := fun _ v τ => ∃ r, v = some (.float r) ∧ Q r τ
def cg_qd (Q : UInt64 → cg_S → Prop) : (Nat → Nat) → Option Value → cg_S → Prop := fun _ v τ => ∃ r, v = some (.double r) ∧ Q r τ
def cg_qr (Q : Nat → cg_S → Prop) : (Nat → Nat) → Option Value → cg_S → Prop := fun ad v τ => ∃ k, v = some (.ref (ad k)) ∧ Q k τ
def cg_qv (Q : cg_S → Prop) : (Nat → Nat) → Option Value → cg_S → Prop := fun _ v τ => v = none ∧ Q τ
theorem cg_lt {i : Int32} {n : Nat} (h : vp_in i n) : i.toNatClampNeg < n := Nat.not_le.mp fun q => h (Or.inr q)
theorem cg_v14 {k : Nat} (h : k < 4) : 11 ≤ 14 + k ∧ 14 + k ≤ 18 := by omega
theorem cg_cmp_i {x y : Int64} : (lg_cmp x y < 0 ↔ x < y) ∧ (0 < lg_cmp x y ↔ y < x) ∧ (lg_cmp x y = 0 ↔ x = y) ∧ (0 ≤ lg_cmp x y ↔ y ≤ x) ∧ (lg_cmp x y ≤ 0 ↔ x ≤ y) := by
  unfold lg_cmp
  simp only [gt_iff_lt, Int64.lt_iff_toInt_lt, Int64.le_iff_toInt_le, ← Int64.toInt_inj]
  refine ⟨?_, ?_, ?_, ?_, ?_⟩
  all_goals repeat' split
  all_goals (constructor <;> intro hh <;> first | omega | decide | exact absurd hh (by decide))
theorem cg_cmp_lt {x y : Int64} : (lg_cmp x y < 0 → x < y) ∧ (¬ lg_cmp x y < 0 → ¬ x < y) := ⟨cg_cmp_i.1.mp, fun h q => h (cg_cmp_i.1.mpr q)⟩
theorem cg_cmp_gt {x y : Int64} : (0 < lg_cmp x y → y < x) ∧ (¬ 0 < lg_cmp x y → ¬ y < x) := ⟨cg_cmp_i.2.1.mp, fun h q => h (cg_cmp_i.2.1.mpr q)⟩
theorem cg_cmp_eq {x y : Int64} : (lg_cmp x y = 0 → x = y) ∧ (¬ lg_cmp x y = 0 → ¬ x = y) := ⟨cg_cmp_i.2.2.1.mp, fun h q => h (cg_cmp_i.2.2.1.mpr q)⟩
theorem cg_cmp_ne {x y : Int64} : (¬ lg_cmp x y = 0 → ¬ x = y) ∧ (lg_cmp x y = 0 → x = y) := ⟨cg_cmp_eq.2, cg_cmp_eq.1⟩
theorem cg_cmp_ge {x y : Int64} : (0 ≤ lg_cmp x y → y ≤ x) ∧ (¬ 0 ≤ lg_cmp x y → ¬ y ≤ x) := ⟨cg_cmp_i.2.2.2.1.mp, fun h q => h (cg_cmp_i.2.2.2.1.mpr q)⟩
theorem cg_cmp_le {x y : Int64} : (lg_cmp x y ≤ 0 → x ≤ y) ∧ (¬ lg_cmp x y ≤ 0 → ¬ x ≤ y) := ⟨cg_cmp_i.2.2.2.2.mp, fun h q => h (cg_cmp_i.2.2.2.2.mpr q)⟩
theorem cg_room {a b n : Nat} (h : a + 1 ≤ b) (hn : n ≤ 45) : (cg_R a).frames + 1 ≤ (cg_R b).frames ∧ 8 + (n + 11) + (cg_R a).locals ≤ (cg_R b).locals := ⟨h, by show 8 + (n + 11) + 64 * a ≤ 64 * b; omega⟩
section GC
variable {wd : cg_Wd} {own : String} {cc : ByteArray} {nL : Nat} {ret : Option FieldType} {p : Program} {l : Launch} {e : Env} {R : Room} {s : State} {m : MethodId} {args : Array Value} {below : List Frame} {meth : Method} {c : Code} {D : va_G} {cy : Nat → ClassId} {ad : Nat → Nat} {Z : State → Prop} {kc ks pc : Nat} {lv : List (Nat × Value)} {st : List Value} {σ : cg_S}
theorem ga_topi {x : Int32} (k : ∀ y : Int32, y = x → cg_G wd R p l e s m args below meth c D cy ad Z kc ks nL pc lv (.int y :: st) σ) : cg_G wd R p l e s m args below meth c D cy ad Z kc ks nL pc lv (.int x :: st) σ := k x rfl
theorem ga_topl {x : Int64} (k : ∀ y : Int64, y = x → cg_G wd R p l e s m args below meth c D cy ad Z kc ks nL pc lv (.long y :: st) σ) : cg_G wd R p l e s m args below meth c D cy ad Z kc ks nL pc lv (.long x :: st) σ := k x rfl
theorem ga_topf {x : UInt32} (k : ∀ y : UInt32, y = x → cg_G wd R p l e s m args below meth c D cy ad Z kc ks nL pc lv (.float y :: st) σ) : cg_G wd R p l e s m args below meth c D cy ad Z kc ks nL pc lv (.float x :: st) σ := k x rfl
theorem ga_topd {x : UInt64} (k : ∀ y : UInt64, y = x → cg_G wd R p l e s m args below meth c D cy ad Z kc ks nL pc lv (.double y :: st) σ) : cg_G wd R p l e s m args below meth c D cy ad Z kc ks nL pc lv (.double x :: st) σ := k x rfl
theorem ga_sig (k : ∀ τ : cg_S, τ = σ → cg_G wd R p l e s m args below meth c D cy ad Z kc ks nL pc lv st τ) : cg_G wd R p l e s m args below meth c D cy ad Z kc ks nL pc lv st σ := k σ rfl
theorem ga_iushr {x y : Int32} (hC : cg_X wd own cc nL ret p s m args meth c D cy ad) (hdg : decode cc pc = .ok (.iushr, 1)) (kk : cg_G wd R p l e s m args below meth c D cy ad Z kc ks nL (pc + 1) lv (.int ((x.toUInt32 >>> (y.toUInt32 &&& Int32.toUInt32 31)).toInt32) :: st) σ) : cg_G wd R p l e s m args below meth c D cy ad Z kc ks nL pc lv (.int y :: .int x :: st) σ := fun H locs ls h1 h2 h3 => lv_iushr hC.1 hC.2.1 hdg rfl (kk H locs ls h1 h2 h3)
theorem ga_ldcw {index : Nat} {v : Int32} (hC : cg_X wd own cc nL ret p s m args meth c D cy ad) (hw : Cond.constant own index v ∈ cg_T) (hdg : decode cc pc = .ok (.ldc_w index, 3)) (kk : cg_G wd R p l e s m args below meth c D cy ad Z kc ks nL (pc + 3) lv (.int v :: st) σ) : cg_G wd R p l e s m args below meth c D cy ad Z kc ks nL pc lv st σ := fun H locs ls h1 h2 h3 => lv_ldcw hC.1 hC.2.1 hC.2.2.2.2.1 (hC.2.2.2.2.2.1 _ hw) hdg (kk H locs ls h1 h2 h3)
theorem ga_ldcfw {index : Nat} {v : UInt32} (hC : cg_X wd own cc nL ret p s m args meth c D cy ad) (hw : Cond.constantFloat own index v ∈ cg_T) (hdg : decode cc pc = .ok (.ldc_w index, 3)) (kk : cg_G wd R p l e s m args below meth c D cy ad Z kc ks nL (pc + 3) lv (.float v :: st) σ) : cg_G wd R p l e s m args below meth c D cy ad Z kc ks nL pc lv st σ := by
  intro H locs ls h1 h2 h3 T hT X
  obtain ⟨t, a, b⟩ := kk H locs ls h1 h2 h3 T hT X
  obtain ⟨k, cf, hk, hcf, hcp⟩ := Cond.constantFloat_spec hC.2.2.2.2.1 (hC.2.2.2.2.2.1 _ hw)
  obtain ⟨k', hk', he⟩ := X.warmed.alike.2.2 _ _ hk
  have hd2 : decode c.code pc = .ok (.ldc_w index, 3) := by rw [hC.2.1]; exact hdg
  have hx := hC.1
  refine ⟨t, ?_, b⟩
  jvm_step X.here [hx, hd2, ldc_w.wp_float (s := T) (f := F0 m pc ls st) X.here.top hk' (by rw [he]; exact hcf) hcp]
  exact a
end GC
