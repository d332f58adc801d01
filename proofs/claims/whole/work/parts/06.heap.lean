/-! RULES of the heap, of branches, calls and ends -/
/-- a class of the world: its place in vwCl, name, fields, how many, types -/
def fm_cls (ci : Nat) (C : String) (T : u_T) (N : Nat) (ty : Nat → FieldType) : Prop :=
  vwCl[ci]? = some (C, T, N) ∧ ci < 8 ∧ (∀ w ∈ u_ws C T N, w ∈ lw_all) ∧ (∀ k, k < N → parseFieldDescriptor (T k).2.2.1 = some (ty k)) ∧ (∀ a, a < N → ∀ b, b < N → a ≠ b → (T a).2.1 ≠ (T b).2.1)
theorem fmc0 : fm_cls 0 RX0 TX0 4 tyX0 := ⟨rfl, by decide, uX0, tyX0_ok, nmX0⟩
theorem fmc1 : fm_cls 1 RX1 TX1 3 tyX1 := ⟨rfl, by decide, uX1, tyX1_ok, nmX1⟩
theorem fmc2 : fm_cls 2 RX2 TX2 5 tyX2 := ⟨rfl, by decide, uX2, tyX2_ok, nmX2⟩
theorem fmc3 : fm_cls 3 RX3 TX3 3 tyX3 := ⟨rfl, by decide, uX3, tyX3_ok, nmX3⟩
theorem fmc4 : fm_cls 4 RX4 TX4 1 tyX4 := ⟨rfl, by decide, uX4, tyX4_ok, nmX4⟩
theorem fmc5 : fm_cls 5 RX5 TX5 11 tyX5 := ⟨rfl, by decide, uX5, tyX5_ok, nmX5⟩
theorem fmc6 : fm_cls 6 RX6 TX6 7 tyX6 := ⟨rfl, by decide, uX6, tyX6_ok, nmX6⟩
theorem fmc7 : fm_cls 7 RX7 TX7 19 tyX7 := ⟨rfl, by decide, uX7, tyX7_ok, nmX7⟩
def fm_in (i : Int32) (n : Nat) : Bool := !(decide (i < 0)) && decide (i.toNatClampNeg < n)
theorem fm_in_vp {i : Int32} {n : Nat} (h : fm_in i n = true) : vp_in i n := by
  unfold fm_in at h
  rw [Bool.and_eq_true, Bool.not_eq_true', decide_eq_false_iff_not, decide_eq_true_eq] at h
  exact fun q => q.elim h.1 (fun q => absurd h.2 (Nat.not_lt.mpr q))
def fm_ck {ρ : Type} (b : Bool) (T : Option ρ) : Option ρ := bif b then T else none
theorem fm_ck_eq {ρ : Type} {b : Bool} {T : Option ρ} {r : ρ} (h : fm_ck b T = some r) : b = true ∧ T = some r := by
  cases b with
  | true => exact ⟨rfl, h⟩
  | false => cases h
def fm_bo (x : Int32) : Bool := decide (x = 0) || decide (x = 1)
theorem fm_bo_nar {x : Int32} (h : fm_bo x = true) : narrow .boolean (.int x) = .int x ∧ fits .boolean (.int x) = true := by
  unfold fm_bo at h
  rw [Bool.or_eq_true, decide_eq_true_eq, decide_eq_true_eq] at h
  rcases h with h | h <;> subst h <;> exact ⟨by decide +kernel, by decide +kernel⟩
def fm_f32 (r : UInt32) : Bool := decide (r &&& 0x7fffffff ≤ 0x7f800000)
def fm_f64 (r : UInt64) : Bool := decide (r &&& 0x7fffffffffffffff ≤ 0x7ff0000000000000)
theorem fm_f32_n {r : UInt32} (h : fm_f32 r = true) : vf_n32 r := of_decide_eq_true (p := r &&& 0x7fffffff ≤ 0x7f800000) h
theorem fm_f64_n {r : UInt64} (h : fm_f64 r = true) : vf_n64 r := of_decide_eq_true (p := r &&& 0x7fffffffffffffff ≤ 0x7ff0000000000000) h
section RULES2
variable {g : fm_G} {l : Launch} {z : fm_Y} {o : fm_O} {pc : Nat} {lv : List (Nat × Value)} {st rest : List Value} {μ : fm_St}
theorem fm_fld9 {g : fm_G} {a c : Nat} (h : fm_kd g a = c) (hc : c < 8) : fm_kd g a ≠ 9999 := by omega
/-- getfield: k the field's place; ref the class by which it is spelled -/
theorem Tr.get {a ci k idx N : Nat} {C : String} {T : u_T} {ty : Nat → FieldType} {x : Option Nat} (hc : fm_cls ci C T N ty) (hk : fm_kd g a = ci) (hl : fm_lk z.2.2.2.2.2.1 pc = some (.getfield idx, 3)) (hw : Cond.fieldLink z.2.1 idx (T k).1 (T k).2.1 (T k).2.2.1 ∈ lw_all) (hkN : k < N) (hx : (fm_fld ci)[k]? = some x)
    (kk : Tr g l z o (pc + 3) lv (fm_val a (μ.1 a) k x :: rest) μ) : Tr g l z o pc lv (.ref a :: rest) μ := by
  intro p e R s m args below meth c H locs ls hA hP hS hv
  obtain ⟨h1, h2, h3, -, -⟩ := hc
  exact va_get (D := g.2.1) hA.x hA.b hA.ts h3 hA.own hA.k hP (a - g.1) (by rw [fm_ws_at (fm_fld9 hk h2), fm_cell_obj hk h2]) h1 k hkN (hA.ts _ hw) (fun _ h => h) (fm_vals_at hx) (hA.dg hl) (kk p e R s m args below meth c H locs ls hA hP hS hv)
theorem Tr.getN {a ci k idx N : Nat} {C host : String} {T : u_T} {ty : Nat → FieldType} {x : Option Nat} (hc : fm_cls ci C T N ty) (hk : fm_kd g a = ci) (hl : fm_lk z.2.2.2.2.2.1 pc = some (.getfield idx, 3)) (hw : Cond.fieldLinkNest z.2.1 idx (T k).1 (T k).2.1 (T k).2.2.1 host ∈ lw_tbl) (hkN : k < N) (hx : (fm_fld ci)[k]? = some x)
    (kk : Tr g l z o (pc + 3) lv (fm_val a (μ.1 a) k x :: rest) μ) : Tr g l z o pc lv (.ref a :: rest) μ := by
  intro p e R s m args below meth c H locs ls hA hP hS hv
  obtain ⟨h1, h2, h3, -, -⟩ := hc
  exact va_getN (D := g.2.1) hA.x hA.b hA.ts h3 hA.own hA.k hP (a - g.1) (by rw [fm_ws_at (fm_fld9 hk h2), fm_cell_obj hk h2]) h1 k hkN (fm_nw_use rfl (hA.e.2.2.2.2.2.2 _ hw rfl)) (fun _ h => h) (fm_vals_at hx) (hA.dg hl) (kk p e R s m args below meth c H locs ls hA hP hS hv)
theorem fm_put_ws {a ci k : Nat} {v : Int32} (hk : fm_kd g a = ci) (h2 : ci < 8) (hx : (fm_fld ci)[k]? = some none) : (fm_ws g μ).set (a - g.1) (a, .inr (ci, (fm_vals a (μ.1 a) (fm_fld ci)).set k (.int v))) = fm_ws g (fm_up μ.1 a k v, μ.2) := by
  rw [fm_vals_set hx, ← fm_up_self]
  rw [← fm_ws_set (μ := μ) (ν := (fm_up μ.1 a k v, μ.2)) (fm_fld9 hk h2) (fun b hb => fm_cell_ne (fm_up_ne hb)), fm_cell_obj (μ := (fm_up μ.1 a k v, μ.2)) hk h2]
theorem Tr.put {a ci k idx N : Nat} {C : String} {T : u_T} {ty : Nat → FieldType} {v : Int32} (hc : fm_cls ci C T N ty) (hk : fm_kd g a = ci) (hl : fm_lk z.2.2.2.2.2.1 pc = some (.putfield idx, 3)) (hw : Cond.fieldLink z.2.1 idx (T k).1 (T k).2.1 (T k).2.2.1 ∈ lw_all) (hkN : k < N) (hx : (fm_fld ci)[k]? = some none) (hfin : (T k).2.2.2 = false)
    (hn : narrow (ty k) (.int v) = .int v ∧ fits (ty k) (.int v) = true) (kk : Tr g l z o (pc + 3) lv rest (fm_up μ.1 a k v, μ.2)) : Tr g l z o pc lv (.int v :: .ref a :: rest) μ := by
  intro p e R s m args below meth c H locs ls hA hP hS hv
  obtain ⟨h1, h2, h3, h4, h5⟩ := hc
  have hlen : k < (fm_vals a (μ.1 a) (fm_fld ci)).length := by rw [fm_vals_len]; exact (List.getElem?_eq_some_iff.mp hx).1
  refine va_put (D := g.2.1) hA.x hA.b hA.ts h3 ty h4 h5 hA.own hA.k hP (fm_D g μ) hS (a - g.1) (by rw [fm_ws_at (fm_fld9 hk h2), fm_cell_obj hk h2]) h1 k hkN (hA.ts _ hw) (fun _ h => h) hfin (h4 k hkN) hn.1 hn.2 hlen (hA.dg hl) (fun H1 locs1 hP1 hD1 hS1 => ?_)
  rw [fm_put_ws hk h2 hx] at hP1
  exact kk p e R s m args below meth c H1 locs1 ls hA hP1 hS1 hv
theorem Tr.putN {a ci k idx N : Nat} {C host : String} {T : u_T} {ty : Nat → FieldType} {v : Int32} (hc : fm_cls ci C T N ty) (hk : fm_kd g a = ci) (hl : fm_lk z.2.2.2.2.2.1 pc = some (.putfield idx, 3)) (hw : Cond.fieldLinkNest z.2.1 idx (T k).1 (T k).2.1 (T k).2.2.1 host ∈ lw_tbl) (hkN : k < N) (hx : (fm_fld ci)[k]? = some none) (hfin : (T k).2.2.2 = false)
    (hn : narrow (ty k) (.int v) = .int v ∧ fits (ty k) (.int v) = true) (kk : Tr g l z o (pc + 3) lv rest (fm_up μ.1 a k v, μ.2)) : Tr g l z o pc lv (.int v :: .ref a :: rest) μ := by
  intro p e R s m args below meth c H locs ls hA hP hS hv
  obtain ⟨h1, h2, h3, h4, h5⟩ := hc
  have hlen : k < (fm_vals a (μ.1 a) (fm_fld ci)).length := by rw [fm_vals_len]; exact (List.getElem?_eq_some_iff.mp hx).1
  refine va_putN (D := g.2.1) hA.x hA.b hA.ts h3 ty h4 h5 hA.own hA.k hP (fm_D g μ) hS (a - g.1) (by rw [fm_ws_at (fm_fld9 hk h2), fm_cell_obj hk h2]) h1 k hkN (fm_nw_use rfl (hA.e.2.2.2.2.2.2 _ hw rfl)) (fun _ h => h) hfin (h4 k hkN) hn.1 hn.2 hlen (hA.dg hl) (fun H1 locs1 hP1 hD1 hS1 => ?_)
  rw [fm_put_ws hk h2 hx] at hP1
  exact kk p e R s m args below meth c H1 locs1 ls hA hP1 hS1 hv
theorem fm_a9 {a n : Nat} (h : fm_kd g a = 100 + n) (hn : n < 9000) : fm_kd g a ≠ 9999 := by omega
theorem Tr.iald {a n : Nat} {i : Int32} (hk : fm_kd g a = 100 + n) (hn : n < 9000) (hi : fm_in i n = true) (hl : fm_lk z.2.2.2.2.2.1 pc = some (.iaload, 1)) (kk : Tr g l z o (pc + 1) lv (.int (μ.1 a i.toNatClampNeg) :: rest) μ) : Tr g l z o pc lv (.int i :: .ref a :: rest) μ := by
  intro p e R s m args below meth c H locs ls hA hP hS hv
  exact va_iald (D := g.2.1) hA.x hA.b hA.k hP (a - g.1) 0 (by rw [fm_ws_at (fm_a9 hk hn), fm_cell_int hk]) rfl (fm_in_vp hi) (hA.dg hl) (kk p e R s m args below meth c H locs ls hA hP hS hv)
theorem fm_ast_ws {a n j : Nat} {x : Int32} (hk : fm_kd g a = 100 + n) (hn : n < 9000) : (fm_ws g μ).set (a - g.1) (a, .inl (g.2.2.1.1, n, .inl (upd (μ.1 a) j x))) = fm_ws g (fm_up μ.1 a j x, μ.2) := by
  rw [← fm_up_self, ← fm_ws_set (μ := μ) (ν := (fm_up μ.1 a j x, μ.2)) (fm_a9 hk hn) (fun b hb => fm_cell_ne (fm_up_ne hb)), fm_cell_int (μ := (fm_up μ.1 a j x, μ.2)) hk]
theorem Tr.iast {a n : Nat} {i x : Int32} (hk : fm_kd g a = 100 + n) (hn : n < 9000) (hi : fm_in i n = true) (hl : fm_lk z.2.2.2.2.2.1 pc = some (.iastore, 1)) (kk : Tr g l z o (pc + 1) lv rest (fm_up μ.1 a i.toNatClampNeg x, μ.2)) : Tr g l z o pc lv (.int x :: .int i :: .ref a :: rest) μ := by
  intro p e R s m args below meth c H locs ls hA hP hS hv
  refine va_iast (D := g.2.1) hA.x hA.b hA.k hP (fm_D g μ) hS (a - g.1) 0 (by rw [fm_ws_at (fm_a9 hk hn), fm_cell_int hk]) rfl (fm_in_vp hi) (hA.dg hl) (fun H1 locs1 hP1 hD1 hS1 => ?_)
  rw [fm_ast_ws hk hn] at hP1
  exact kk p e R s m args below meth c H1 locs1 ls hA hP1 hS1 hv
theorem Tr.alen {a n : Nat} (hk : fm_kd g a = 100 + n) (hn : n < 9000) (hl : fm_lk z.2.2.2.2.2.1 pc = some (.arraylength, 1)) (kk : Tr g l z o (pc + 1) lv (.int (Int32.ofNat n) :: rest) μ) : Tr g l z o pc lv (.ref a :: rest) μ := by
  intro p e R s m args below meth c H locs ls hA hP hS hv
  exact va_alen (D := g.2.1) hA.x hA.b hA.k hP (a - g.1) 0 (by rw [fm_ws_at (fm_a9 hk hn), fm_cell_int hk]) rfl rfl (hA.dg hl) (kk p e R s m args below meth c H locs ls hA hP hS hv)
theorem Tr.alenP {a : Nat} (hk : fm_kd g a = 8) (hl : fm_lk z.2.2.2.2.2.1 pc = some (.arraylength, 1)) (kk : Tr g l z o (pc + 1) lv (.int 8 :: rest) μ) : Tr g l z o pc lv (.ref a :: rest) μ := by
  intro p e R s m args below meth c H locs ls hA hP hS hv
  exact va_alen (D := g.2.1) hA.x hA.b hA.k hP (a - g.1) 1 (by rw [fm_ws_at (by omega), fm_cell_ref hk]) rfl rfl (hA.dg hl) (kk p e R s m args below meth c H locs ls hA hP hS hv)
theorem Tr.aald {a : Nat} {i : Int32} (hk : fm_kd g a = 8) (hi : fm_in i 8 = true) (hl : fm_lk z.2.2.2.2.2.1 pc = some (.aaload, 1)) (kk : Tr g l z o (pc + 1) lv (.ref (a + 1 + 16 * i.toNatClampNeg) :: rest) μ) : Tr g l z o pc lv (.int i :: .ref a :: rest) μ := by
  intro p e R s m args below meth c H locs ls hA hP hS hv
  exact va_aldq (D := g.2.1) (f := fun j => some (a + 1 + 16 * j)) hA.x hA.b hA.k hP (a - g.1) 1 (by rw [fm_ws_at (by omega), fm_cell_ref hk]) rfl (fm_in_vp hi) (hA.dg hl) (kk p e R s m args below meth c H locs ls hA hP hS hv)
theorem Tr.idiv {x y : Int32} (hl : fm_lk z.2.2.2.2.2.1 pc = some (.idiv, 1)) (hne : ¬ y = 0) (kk : Tr g l z o (pc + 1) lv (.int (x / y) :: rest) μ) : Tr g l z o pc lv (.int y :: .int x :: rest) μ :=
  fun p e R s m args below meth c H locs ls hA hP hS hv => lv_idiv hA.x hA.b (hA.dg hl) hne (kk p e R s m args below meth c H locs ls hA hP hS hv)
theorem Tr.irem {x y : Int32} (hl : fm_lk z.2.2.2.2.2.1 pc = some (.irem, 1)) (hne : ¬ y = 0) (kk : Tr g l z o (pc + 1) lv (.int (x - x / y * y) :: rest) μ) : Tr g l z o pc lv (.int y :: .int x :: rest) μ :=
  fun p e R s m args below meth c H locs ls hA hP hS hv => lv_irem hA.x hA.b (hA.dg hl) hne (kk p e R s m args below meth c H locs ls hA hP hS hv)
theorem Tr.fdiv {x y : UInt32} (hl : fm_lk z.2.2.2.2.2.1 pc = some (.fdiv, 1)) (hne : fm_f32 (FP.fdiv x y) = true) (kk : Tr g l z o (pc + 1) lv (.float (FP.fdiv x y) :: rest) μ) : Tr g l z o pc lv (.float y :: .float x :: rest) μ :=
  fun p e R s m args below meth c H locs ls hA hP hS hv => lv_fdiv hA.x hA.b (hA.dg hl) (fm_f32_n hne) (kk p e R s m args below meth c H locs ls hA hP hS hv)
theorem Tr.fmul {x y : UInt32} (hl : fm_lk z.2.2.2.2.2.1 pc = some (.fmul, 1)) (hne : fm_f32 (FP.fmul x y) = true) (kk : Tr g l z o (pc + 1) lv (.float (FP.fmul x y) :: rest) μ) : Tr g l z o pc lv (.float y :: .float x :: rest) μ :=
  fun p e R s m args below meth c H locs ls hA hP hS hv => lv_fmul hA.x hA.b (hA.dg hl) (fm_f32_n hne) (kk p e R s m args below meth c H locs ls hA hP hS hv)
theorem Tr.fsub {x y : UInt32} (hl : fm_lk z.2.2.2.2.2.1 pc = some (.fsub, 1)) (hne : fm_f32 (FP.fsub x y) = true) (kk : Tr g l z o (pc + 1) lv (.float (FP.fsub x y) :: rest) μ) : Tr g l z o pc lv (.float y :: .float x :: rest) μ :=
  fun p e R s m args below meth c H locs ls hA hP hS hv => lv_fsub hA.x hA.b (hA.dg hl) (fm_f32_n hne) (kk p e R s m args below meth c H locs ls hA hP hS hv)
theorem Tr.ddiv {x y : UInt64} (hl : fm_lk z.2.2.2.2.2.1 pc = some (.ddiv, 1)) (hne : fm_f64 (FP.ddiv x y) = true) (kk : Tr g l z o (pc + 1) lv (.double (FP.ddiv x y) :: rest) μ) : Tr g l z o pc lv (.double y :: .double x :: rest) μ :=
  fun p e R s m args below meth c H locs ls hA hP hS hv => lv_ddiv hA.x hA.b (hA.dg hl) (fm_f64_n hne) (kk p e R s m args below meth c H locs ls hA hP hS hv)
theorem Tr.dmul {x y : UInt64} (hl : fm_lk z.2.2.2.2.2.1 pc = some (.dmul, 1)) (hne : fm_f64 (FP.dmul x y) = true) (kk : Tr g l z o (pc + 1) lv (.double (FP.dmul x y) :: rest) μ) : Tr g l z o pc lv (.double y :: .double x :: rest) μ :=
  fun p e R s m args below meth c H locs ls hA hP hS hv => lv_dmul hA.x hA.b (hA.dg hl) (fm_f64_n hne) (kk p e R s m args below meth c H locs ls hA hP hS hv)
theorem Tr.f2d {x : UInt32} (hl : fm_lk z.2.2.2.2.2.1 pc = some (.f2d, 1)) (hne : fm_f64 (FP.f2d x) = true) (kk : Tr g l z o (pc + 1) lv (.double (FP.f2d x) :: rest) μ) : Tr g l z o pc lv (.float x :: rest) μ :=
  fun p e R s m args below meth c H locs ls hA hP hS hv => lv_f2d hA.x hA.b (hA.dg hl) (fm_f64_n hne) (kk p e R s m args below meth c H locs ls hA hP hS hv)
theorem Tr.ldcI {idx : Nat} {v : Int32} (hl : fm_lk z.2.2.2.2.2.1 pc = some (.ldc idx, 2)) (hw : Cond.constant z.2.1 idx v ∈ lw_all) (kk : Tr g l z o (pc + 2) lv (.int v :: rest) μ) : Tr g l z o pc lv rest μ :=
  fun p e R s m args below meth c H locs ls hA hP hS hv => lv_ldc hA.x hA.b hA.own (hA.ts _ hw) (hA.dg hl) (kk p e R s m args below meth c H locs ls hA hP hS hv)
theorem Tr.ldcwI {idx : Nat} {v : Int32} (hl : fm_lk z.2.2.2.2.2.1 pc = some (.ldc_w idx, 3)) (hw : Cond.constant z.2.1 idx v ∈ lw_all) (kk : Tr g l z o (pc + 3) lv (.int v :: rest) μ) : Tr g l z o pc lv rest μ :=
  fun p e R s m args below meth c H locs ls hA hP hS hv => lv_ldcw hA.x hA.b hA.own (hA.ts _ hw) (hA.dg hl) (kk p e R s m args below meth c H locs ls hA hP hS hv)
theorem Tr.ldcL {idx : Nat} {v : Int64} (hl : fm_lk z.2.2.2.2.2.1 pc = some (.ldc2_w idx, 3)) (hw : Cond.constantLong z.2.1 idx v ∈ lw_all) (kk : Tr g l z o (pc + 3) lv (.long v :: rest) μ) : Tr g l z o pc lv rest μ :=
  fun p e R s m args below meth c H locs ls hA hP hS hv => lv_ldc2 hA.x hA.b hA.own (hA.ts _ hw) (hA.dg hl) (kk p e R s m args below meth c H locs ls hA hP hS hv)
theorem Tr.ldcD {idx : Nat} {v : UInt64} (hl : fm_lk z.2.2.2.2.2.1 pc = some (.ldc2_w idx, 3)) (hw : Cond.constantDouble z.2.1 idx v ∈ lw_all) (kk : Tr g l z o (pc + 3) lv (.double v :: rest) μ) : Tr g l z o pc lv rest μ :=
  fun p e R s m args below meth c H locs ls hA hP hS hv => lv_ldc2d hA.x hA.b hA.own (hA.ts _ hw) (hA.dg hl) (kk p e R s m args below meth c H locs ls hA hP hS hv)
theorem Tr.ldcF {idx : Nat} {v : UInt32} (hl : fm_lk z.2.2.2.2.2.1 pc = some (.ldc idx, 2)) (hw : Cond.constantFloat z.2.1 idx v ∈ lw_all) (kk : Tr g l z o (pc + 2) lv (.float v :: rest) μ) : Tr g l z o pc lv rest μ :=
  fun p e R s m args below meth c H locs ls hA hP hS hv => lv_ldcf hA.x hA.b hA.own (hA.ts _ hw) (hA.dg hl) (kk p e R s m args below meth c H locs ls hA hP hS hv)
theorem Tr.ldcS {idx i : Nat} {tx : String} (hl : fm_lk z.2.2.2.2.2.1 pc = some (.ldc idx, 2)) (hi : fm_strs[i]? = some (z.2.1, idx, tx)) (kk : Tr g l z o (pc + 2) lv (.ref (g.2.2.2.1 i) :: rest) μ) : Tr g l z o pc lv rest μ :=
  fun p e R s m args below meth c H locs ls hA hP hS hv => va_ldcS hA.x hA.b hA.own (hA.e.2.2.2.2.2.1 i _ hi) (hA.dg hl) (kk p e R s m args below meth c H locs ls hA hP hS hv)
theorem Tr.if_eq {x : Int32} {off : Int} {tgt : Nat} (hl : fm_lk z.2.2.2.2.2.1 pc = some (.ifCond .eq off, 3)) (ht : (pc : Int) + off = (tgt : Int)) (kt : x = 0 → Tr g l z o tgt lv rest μ) (kf : ¬ x = 0 → Tr g l z o (pc + 3) lv rest μ) : Tr g l z o pc lv (.int x :: rest) μ :=
  fun p e R s m args below meth c H locs ls hA hP hS hv => lv_if_eq hA.x hA.b (hA.dg hl) ht (fun q => kt q p e R s m args below meth c H locs ls hA hP hS hv) (fun q => kf q p e R s m args below meth c H locs ls hA hP hS hv)
theorem Tr.if_ne {x : Int32} {off : Int} {tgt : Nat} (hl : fm_lk z.2.2.2.2.2.1 pc = some (.ifCond .ne off, 3)) (ht : (pc : Int) + off = (tgt : Int)) (kt : ¬ x = 0 → Tr g l z o tgt lv rest μ) (kf : x = 0 → Tr g l z o (pc + 3) lv rest μ) : Tr g l z o pc lv (.int x :: rest) μ :=
  fun p e R s m args below meth c H locs ls hA hP hS hv => lv_if_ne hA.x hA.b (hA.dg hl) ht (fun q => kt q p e R s m args below meth c H locs ls hA hP hS hv) (fun q => kf q p e R s m args below meth c H locs ls hA hP hS hv)
theorem Tr.if_lt {x : Int32} {off : Int} {tgt : Nat} (hl : fm_lk z.2.2.2.2.2.1 pc = some (.ifCond .lt off, 3)) (ht : (pc : Int) + off = (tgt : Int)) (kt : x < 0 → Tr g l z o tgt lv rest μ) (kf : ¬ x < 0 → Tr g l z o (pc + 3) lv rest μ) : Tr g l z o pc lv (.int x :: rest) μ :=
  fun p e R s m args below meth c H locs ls hA hP hS hv => lv_if_lt hA.x hA.b (hA.dg hl) ht (fun q => kt q p e R s m args below meth c H locs ls hA hP hS hv) (fun q => kf q p e R s m args below meth c H locs ls hA hP hS hv)
theorem Tr.if_ge {x : Int32} {off : Int} {tgt : Nat} (hl : fm_lk z.2.2.2.2.2.1 pc = some (.ifCond .ge off, 3)) (ht : (pc : Int) + off = (tgt : Int)) (kt : 0 ≤ x → Tr g l z o tgt lv rest μ) (kf : ¬ 0 ≤ x → Tr g l z o (pc + 3) lv rest μ) : Tr g l z o pc lv (.int x :: rest) μ :=
  fun p e R s m args below meth c H locs ls hA hP hS hv => lv_if_ge hA.x hA.b (hA.dg hl) ht (fun q => kt q p e R s m args below meth c H locs ls hA hP hS hv) (fun q => kf q p e R s m args below meth c H locs ls hA hP hS hv)
theorem Tr.if_gt {x : Int32} {off : Int} {tgt : Nat} (hl : fm_lk z.2.2.2.2.2.1 pc = some (.ifCond .gt off, 3)) (ht : (pc : Int) + off = (tgt : Int)) (kt : 0 < x → Tr g l z o tgt lv rest μ) (kf : ¬ 0 < x → Tr g l z o (pc + 3) lv rest μ) : Tr g l z o pc lv (.int x :: rest) μ :=
  fun p e R s m args below meth c H locs ls hA hP hS hv => lv_if_gt hA.x hA.b (hA.dg hl) ht (fun q => kt q p e R s m args below meth c H locs ls hA hP hS hv) (fun q => kf q p e R s m args below meth c H locs ls hA hP hS hv)
theorem Tr.if_le {x : Int32} {off : Int} {tgt : Nat} (hl : fm_lk z.2.2.2.2.2.1 pc = some (.ifCond .le off, 3)) (ht : (pc : Int) + off = (tgt : Int)) (kt : x ≤ 0 → Tr g l z o tgt lv rest μ) (kf : ¬ x ≤ 0 → Tr g l z o (pc + 3) lv rest μ) : Tr g l z o pc lv (.int x :: rest) μ :=
  fun p e R s m args below meth c H locs ls hA hP hS hv => lv_if_le hA.x hA.b (hA.dg hl) ht (fun q => kt q p e R s m args below meth c H locs ls hA hP hS hv) (fun q => kf q p e R s m args below meth c H locs ls hA hP hS hv)
theorem Tr.ic_eq {x y : Int32} {off : Int} {tgt : Nat} (hl : fm_lk z.2.2.2.2.2.1 pc = some (.if_icmp .eq off, 3)) (ht : (pc : Int) + off = (tgt : Int)) (kt : x = y → Tr g l z o tgt lv rest μ) (kf : ¬ x = y → Tr g l z o (pc + 3) lv rest μ) : Tr g l z o pc lv (.int y :: .int x :: rest) μ :=
  fun p e R s m args below meth c H locs ls hA hP hS hv => lv_icmp_eq hA.x hA.b (hA.dg hl) ht (fun q => kt q p e R s m args below meth c H locs ls hA hP hS hv) (fun q => kf q p e R s m args below meth c H locs ls hA hP hS hv)
theorem Tr.ic_ne {x y : Int32} {off : Int} {tgt : Nat} (hl : fm_lk z.2.2.2.2.2.1 pc = some (.if_icmp .ne off, 3)) (ht : (pc : Int) + off = (tgt : Int)) (kt : ¬ x = y → Tr g l z o tgt lv rest μ) (kf : x = y → Tr g l z o (pc + 3) lv rest μ) : Tr g l z o pc lv (.int y :: .int x :: rest) μ :=
  fun p e R s m args below meth c H locs ls hA hP hS hv => lv_icmp_ne hA.x hA.b (hA.dg hl) ht (fun q => kt q p e R s m args below meth c H locs ls hA hP hS hv) (fun q => kf q p e R s m args below meth c H locs ls hA hP hS hv)
theorem Tr.ic_lt {x y : Int32} {off : Int} {tgt : Nat} (hl : fm_lk z.2.2.2.2.2.1 pc = some (.if_icmp .lt off, 3)) (ht : (pc : Int) + off = (tgt : Int)) (kt : x < y → Tr g l z o tgt lv rest μ) (kf : ¬ x < y → Tr g l z o (pc + 3) lv rest μ) : Tr g l z o pc lv (.int y :: .int x :: rest) μ :=
  fun p e R s m args below meth c H locs ls hA hP hS hv => lv_icmp_lt hA.x hA.b (hA.dg hl) ht (fun q => kt q p e R s m args below meth c H locs ls hA hP hS hv) (fun q => kf q p e R s m args below meth c H locs ls hA hP hS hv)
theorem Tr.ic_ge {x y : Int32} {off : Int} {tgt : Nat} (hl : fm_lk z.2.2.2.2.2.1 pc = some (.if_icmp .ge off, 3)) (ht : (pc : Int) + off = (tgt : Int)) (kt : y ≤ x → Tr g l z o tgt lv rest μ) (kf : ¬ y ≤ x → Tr g l z o (pc + 3) lv rest μ) : Tr g l z o pc lv (.int y :: .int x :: rest) μ :=
  fun p e R s m args below meth c H locs ls hA hP hS hv => lv_icmp_ge hA.x hA.b (hA.dg hl) ht (fun q => kt q p e R s m args below meth c H locs ls hA hP hS hv) (fun q => kf q p e R s m args below meth c H locs ls hA hP hS hv)
theorem Tr.ic_gt {x y : Int32} {off : Int} {tgt : Nat} (hl : fm_lk z.2.2.2.2.2.1 pc = some (.if_icmp .gt off, 3)) (ht : (pc : Int) + off = (tgt : Int)) (kt : y < x → Tr g l z o tgt lv rest μ) (kf : ¬ y < x → Tr g l z o (pc + 3) lv rest μ) : Tr g l z o pc lv (.int y :: .int x :: rest) μ :=
  fun p e R s m args below meth c H locs ls hA hP hS hv => lv_icmp_gt hA.x hA.b (hA.dg hl) ht (fun q => kt q p e R s m args below meth c H locs ls hA hP hS hv) (fun q => kf q p e R s m args below meth c H locs ls hA hP hS hv)
theorem Tr.ic_le {x y : Int32} {off : Int} {tgt : Nat} (hl : fm_lk z.2.2.2.2.2.1 pc = some (.if_icmp .le off, 3)) (ht : (pc : Int) + off = (tgt : Int)) (kt : x ≤ y → Tr g l z o tgt lv rest μ) (kf : ¬ x ≤ y → Tr g l z o (pc + 3) lv rest μ) : Tr g l z o pc lv (.int y :: .int x :: rest) μ :=
  fun p e R s m args below meth c H locs ls hA hP hS hv => lv_icmp_le hA.x hA.b (hA.dg hl) ht (fun q => kt q p e R s m args below meth c H locs ls hA hP hS hv) (fun q => kf q p e R s m args below meth c H locs ls hA hP hS hv)
end RULES2
