/-! PRIMITIVES: Math over ints and longs, arraycopy, the cells below a cell, switches -/
theorem fm_kd_sub (c d k : Nat) (h : (List.range 179).all (fun i => !(Nat.beq (fm_tab.getD i 9999) c) || Nat.beq (fm_tab.getD (i + d) 9999) k) = true) (hc : c < 9000) {g : fm_G} {a : Nat} (hk : fm_kd g a = c) : fm_kd g (a + d) = k := by
  obtain ⟨h1, h2⟩ := fm_kd_in (g := g) (a := a) (by omega)
  have h3 := List.all_eq_true.mp h (a - g.1) (List.mem_range.mpr h2)
  unfold fm_kd at hk ⊢
  rw [if_pos h1] at hk
  rw [if_pos (Nat.le_trans h1 (Nat.le_add_right a d)), show a + d - g.1 = a - g.1 + d by omega]
  rw [hk, Nat.beq_refl, Bool.not_true, Bool.false_or] at h3
  exact Nat.eq_of_beq_eq_true h3
theorem fmk_0_0 {g : fm_G} {a : Nat} (h : fm_kd g a = 0) : fm_kd g (a + 1) = 4 := fm_kd_sub 0 1 4 (by decide +kernel) (by decide) h
theorem fmn_0_0 {g : fm_G} {a : Nat} (h : fm_kd g a = 0) : fm_kd g (a + 1 + 1) = 100 + 20 := by have q := fm_kd_sub 0 2 120 (by decide +kernel) (by decide) h; exact q
theorem fmk_0_1 {g : fm_G} {a : Nat} (h : fm_kd g a = 0) : fm_kd g (a + 3) = 4 := fm_kd_sub 0 3 4 (by decide +kernel) (by decide) h
theorem fmn_0_1 {g : fm_G} {a : Nat} (h : fm_kd g a = 0) : fm_kd g (a + 3 + 1) = 100 + 20 := by have q := fm_kd_sub 0 4 120 (by decide +kernel) (by decide) h; exact q
theorem fmk_1_0 {g : fm_G} {a : Nat} (h : fm_kd g a = 1) : fm_kd g (a + 1) = 4 := fm_kd_sub 1 1 4 (by decide +kernel) (by decide) h
theorem fmn_1_0 {g : fm_G} {a : Nat} (h : fm_kd g a = 1) : fm_kd g (a + 1 + 1) = 100 + 35 := by have q := fm_kd_sub 1 2 135 (by decide +kernel) (by decide) h; exact q
theorem fmk_1_1 {g : fm_G} {a : Nat} (h : fm_kd g a = 1) : fm_kd g (a + 3) = 4 := fm_kd_sub 1 3 4 (by decide +kernel) (by decide) h
theorem fmn_1_1 {g : fm_G} {a : Nat} (h : fm_kd g a = 1) : fm_kd g (a + 3 + 1) = 100 + 400 := by have q := fm_kd_sub 1 4 500 (by decide +kernel) (by decide) h; exact q
theorem fmk_2_0 {g : fm_G} {a : Nat} (h : fm_kd g a = 2) : fm_kd g (a + 1) = 3 := fm_kd_sub 2 1 3 (by decide +kernel) (by decide) h
theorem fmk_2_1 {g : fm_G} {a : Nat} (h : fm_kd g a = 2) : fm_kd g (a + 6) = 1 := fm_kd_sub 2 6 1 (by decide +kernel) (by decide) h
theorem fmk_2_2 {g : fm_G} {a : Nat} (h : fm_kd g a = 2) : fm_kd g (a + 11) = 1 := fm_kd_sub 2 11 1 (by decide +kernel) (by decide) h
theorem fmk_3_0 {g : fm_G} {a : Nat} (h : fm_kd g a = 3) : fm_kd g (a + 1) = 4 := fm_kd_sub 3 1 4 (by decide +kernel) (by decide) h
theorem fmn_3_0 {g : fm_G} {a : Nat} (h : fm_kd g a = 3) : fm_kd g (a + 1 + 1) = 100 + 20 := by have q := fm_kd_sub 3 2 120 (by decide +kernel) (by decide) h; exact q
theorem fmk_3_1 {g : fm_G} {a : Nat} (h : fm_kd g a = 3) : fm_kd g (a + 3) = 4 := fm_kd_sub 3 3 4 (by decide +kernel) (by decide) h
theorem fmn_3_1 {g : fm_G} {a : Nat} (h : fm_kd g a = 3) : fm_kd g (a + 3 + 1) = 100 + 20 := by have q := fm_kd_sub 3 4 120 (by decide +kernel) (by decide) h; exact q
theorem fmk_5_0 {g : fm_G} {a : Nat} (h : fm_kd g a = 5) : fm_kd g (a + 1) = 4 := fm_kd_sub 5 1 4 (by decide +kernel) (by decide) h
theorem fmn_5_0 {g : fm_G} {a : Nat} (h : fm_kd g a = 5) : fm_kd g (a + 1 + 1) = 100 + 400 := by have q := fm_kd_sub 5 2 500 (by decide +kernel) (by decide) h; exact q
theorem fmk_5_1 {g : fm_G} {a : Nat} (h : fm_kd g a = 5) : fm_kd g (a + 3) = 2 := fm_kd_sub 5 3 2 (by decide +kernel) (by decide) h
theorem fmk_6_0 {g : fm_G} {a : Nat} (h : fm_kd g a = 6) : fm_kd g (a + 1) = 5 := fm_kd_sub 6 1 5 (by decide +kernel) (by decide) h
theorem fmk_6_1 {g : fm_G} {a : Nat} (h : fm_kd g a = 6) : fm_kd g (a + 20) = 2 := fm_kd_sub 6 20 2 (by decide +kernel) (by decide) h
theorem fmk_6_2 {g : fm_G} {a : Nat} (h : fm_kd g a = 6) : fm_kd g (a + 36) = 0 := fm_kd_sub 6 36 0 (by decide +kernel) (by decide) h
theorem fmk_6_3 {g : fm_G} {a : Nat} (h : fm_kd g a = 6) : fm_kd g (a + 41) = 8 := fm_kd_sub 6 41 8 (by decide +kernel) (by decide) h
theorem fmk_7_1 {g : fm_G} {a : Nat} (h : fm_kd g a = 7) : fm_kd g (a + 1) = 100 + 1800 := fm_kd_sub 7 1 1900 (by decide +kernel) (by decide) h
theorem fmk_7_2 {g : fm_G} {a : Nat} (h : fm_kd g a = 7) : fm_kd g (a + 2) = 100 + 200 := fm_kd_sub 7 2 300 (by decide +kernel) (by decide) h
theorem fmk_7_5 {g : fm_G} {a : Nat} (h : fm_kd g a = 7) : fm_kd g (a + 3) = 100 + 120 := fm_kd_sub 7 3 220 (by decide +kernel) (by decide) h
theorem fmk_7_6 {g : fm_G} {a : Nat} (h : fm_kd g a = 7) : fm_kd g (a + 4) = 100 + 120 := fm_kd_sub 7 4 220 (by decide +kernel) (by decide) h
theorem fmk_7_7 {g : fm_G} {a : Nat} (h : fm_kd g a = 7) : fm_kd g (a + 5) = 100 + 40 := fm_kd_sub 7 5 140 (by decide +kernel) (by decide) h
theorem fmk_7_10 {g : fm_G} {a : Nat} (h : fm_kd g a = 7) : fm_kd g (a + 6) = 100 + 400 := fm_kd_sub 7 6 500 (by decide +kernel) (by decide) h
theorem fmk_8 {g : fm_G} {a j : Nat} (h : fm_kd g a = 8) (hj : j < 8) : fm_kd g (a + 1 + 16 * j) = 2 := by
  rw [Nat.add_assoc]
  have hd : ∀ j, j < 8 → (List.range 179).all (fun i => !(Nat.beq (fm_tab.getD i 9999) 8) || Nat.beq (fm_tab.getD (i + (1 + 16 * j)) 9999) 2) = true := by decide +kernel
  exact fm_kd_sub 8 (1 + 16 * j) 2 (hd j hj) (by decide) h
theorem fm_in8 {i : Int32} (h : fm_in i 8 = true) : i.toNatClampNeg < 8 := by
  unfold fm_in at h
  rw [Bool.and_eq_true, decide_eq_true_eq] at h
  exact h.2
def fm_max (x y : Int32) : Int32 := if x < y then y else x
def fm_min (x y : Int32) : Int32 := if y < x then y else x
def fm_abs (x : Int32) : Int32 := if 0 ≤ x then x else 0 - x
def fm_absL (x : Int64) : Int64 := if 0 < x then x else -x
def fm_mth (own : String) (idx : Nat) (y : MethodName) (c : ByteArray) (n : Nat) (r : FieldType) : Prop := Cond.methodLink own idx y ∈ lw_all ∧ Cond.static y ∈ lw_all ∧ Cond.initialized "java/lang/Math" ∈ lw_all ∧ Cond.code y c n (some r) ∈ lw_all
section RULES5
variable {g : fm_G} {l : Launch} {z : fm_Y} {o : fm_O} {pc : Nat} {lv : List (Nat × Value)} {st rest : List Value} {μ : fm_St}
theorem Tr.max {x y : Int32} {idx : Nat} (hl : fm_lk z.2.2.2.2.2.1 pc = some (.invokestatic idx, 3)) (hw : fm_mth z.2.1 idx Lib.Math.max.name Lib.Math.max.code 2 .int) (hF : 1 ≤ z.2.2.2.2.2.2.1) (hLo : (rest.map fun v => v.category).sum + 13 ≤ z.2.2.2.2.2.2.2) (kk : Tr g l z o (pc + 3) lv (.int (fm_max x y) :: rest) μ) : Tr g l z o pc lv (.int y :: .int x :: rest) μ := by
  intro p e R s m args below meth c H locs ls hA hP hS hv
  have hR := hA.room
  subst hR
  exact va_mmax hA.x hA.b (hA.ml.trans hv.1.symm) hA.own (hA.ts _ hw.1) (hA.ts _ hw.2.1) (hA.ts _ hw.2.2.1) (hA.ts _ hw.2.2.2) hF hLo (Nat.zero_le _) (Nat.zero_le _) (hA.dg hl) (kk p e _ s m args below meth c H locs ls hA hP hS hv)
theorem Tr.min {x y : Int32} {idx : Nat} (hl : fm_lk z.2.2.2.2.2.1 pc = some (.invokestatic idx, 3)) (hw : fm_mth z.2.1 idx Lib.Math.min.name Lib.Math.min.code 2 .int) (hF : 1 ≤ z.2.2.2.2.2.2.1) (hLo : (rest.map fun v => v.category).sum + 13 ≤ z.2.2.2.2.2.2.2) (kk : Tr g l z o (pc + 3) lv (.int (fm_min x y) :: rest) μ) : Tr g l z o pc lv (.int y :: .int x :: rest) μ := by
  intro p e R s m args below meth c H locs ls hA hP hS hv
  have hR := hA.room
  subst hR
  exact va_mmin hA.x hA.b (hA.ml.trans hv.1.symm) hA.own (hA.ts _ hw.1) (hA.ts _ hw.2.1) (hA.ts _ hw.2.2.1) (hA.ts _ hw.2.2.2) hF hLo (Nat.zero_le _) (Nat.zero_le _) (hA.dg hl) (kk p e _ s m args below meth c H locs ls hA hP hS hv)
theorem Tr.abs {x : Int32} {idx : Nat} (hl : fm_lk z.2.2.2.2.2.1 pc = some (.invokestatic idx, 3)) (hw : fm_mth z.2.1 idx Lib.Math.abs.name Lib.Math.abs.code 1 .int) (hF : 1 ≤ z.2.2.2.2.2.2.1) (hLo : (rest.map fun v => v.category).sum + 13 ≤ z.2.2.2.2.2.2.2) (kk : Tr g l z o (pc + 3) lv (.int (fm_abs x) :: rest) μ) : Tr g l z o pc lv (.int x :: rest) μ := by
  intro p e R s m args below meth c H locs ls hA hP hS hv
  have hR := hA.room
  subst hR
  exact va_mabs hA.x hA.b (hA.ml.trans hv.1.symm) hA.own (hA.ts _ hw.1) (hA.ts _ hw.2.1) (hA.ts _ hw.2.2.1) (hA.ts _ hw.2.2.2) hF hLo (Nat.zero_le _) (Nat.zero_le _) (hA.dg hl) (kk p e _ s m args below meth c H locs ls hA hP hS hv)
theorem Tr.absL {x : Int64} {idx : Nat} (hl : fm_lk z.2.2.2.2.2.1 pc = some (.invokestatic idx, 3)) (hw : fm_mth z.2.1 idx Lib.MathLoose.abs_long.x Lib.MathLoose.abs_long.code 2 .long) (hF : 1 ≤ z.2.2.2.2.2.2.1) (hLo : (rest.map fun v => v.category).sum + 13 ≤ z.2.2.2.2.2.2.2) (kk : Tr g l z o (pc + 3) lv (.long (fm_absL x) :: rest) μ) : Tr g l z o pc lv (.long x :: rest) μ := by
  intro p e R s m args below meth c H locs ls hA hP hS hv
  have hR := hA.room
  subst hR
  exact va_mabs_long hA.x hA.b (hA.ml.trans hv.1.symm) hA.own (hA.ts _ hw.1) (hA.ts _ hw.2.1) (hA.ts _ hw.2.2.1) (hA.ts _ hw.2.2.2) hF hLo (Nat.zero_le _) (Nat.zero_le _) (hA.dg hl) (kk p e _ s m args below meth c H locs ls hA hP hS hv)
def fm_acw (own : String) (idx : Nat) : Prop := Cond.methodLink own idx arraycopyName ∈ lw_all ∧ Cond.native arraycopyName ∈ lw_all ∧ Cond.static arraycopyName ∈ lw_all ∧ Cond.initialized "java/lang/System" ∈ lw_all
def fm_cin (n : Int32) (a b : Nat) : Bool := !(decide (n < 0)) && (decide (n.toNatClampNeg ≤ a) && decide (n.toNatClampNeg ≤ b))
theorem Tr.acopy {a a0 n0 n1 idx : Nat} {n : Int32} (h0 : fm_kd g a0 = 100 + n0) (h1 : fm_kd g a = 100 + n1) (hn0 : n0 < 9000) (hn1 : n1 < 9000) (hl : fm_lk z.2.2.2.2.2.1 pc = some (.invokestatic idx, 3)) (hw : fm_acw z.2.1 idx) (hin : fm_cin n n0 n1 = true) (hF : 1 ≤ z.2.2.2.2.2.2.1) (hLo : (rest.map fun v => v.category).sum + (nativeFrameWords "java/lang/System" "arraycopy" 5 + 11) ≤ z.2.2.2.2.2.2.2)
    (kk : Tr g l z o (pc + 3) lv rest (fm_cp μ.1 a0 a n.toNatClampNeg, μ.2)) : Tr g l z o pc lv (.int n :: .int 0 :: .ref a :: .int 0 :: .ref a0 :: rest) μ := by
  intro p e R s m args below meth c H locs ls hA hP hS hv
  have hR := hA.room
  subst hR
  unfold fm_cin at hin
  rw [Bool.and_eq_true, Bool.and_eq_true, Bool.not_eq_true', decide_eq_false_iff_not, decide_eq_true_eq, decide_eq_true_eq] at hin
  obtain ⟨i1, i2, i3⟩ := hin
  refine va_copyi (D := g.2.1) hA.x hA.b (hA.ml.trans hv.1.symm) hA.own (hA.ts _ hw.1) (hA.ts _ hw.2.1) (hA.ts _ hw.2.2.1) (hA.ts _ hw.2.2.2) hA.k hP (fm_D g μ) hS (a0 - g.1) (a - g.1) 0 0 (by rw [fm_ws_at (fm_a9 h0 hn0), fm_cell_int h0]) (by rw [fm_ws_at (fm_a9 h1 hn1), fm_cell_int h1]) rfl rfl rfl
    (by decide) (by decide) i1 (by show 0 + _ ≤ _; omega) (by show 0 + _ ≤ _; omega) (fun i _ => rfl) hF hLo (hA.dg hl) (fun H1 locs1 hP1 hD1 hS1 => ?_)
  have hM : va_cpy (μ.1 a0) (μ.1 a) 0 0 n.toNatClampNeg = fm_cp μ.1 a0 a n.toNatClampNeg a := by
    funext j
    unfold va_cpy fm_cp
    by_cases hj : j < n.toNatClampNeg
    · rw [if_pos ⟨Nat.zero_le _, by omega⟩, if_pos ⟨rfl, hj⟩, Nat.zero_add, Nat.sub_zero]
    · rw [if_neg (fun q => hj (by omega)), if_neg (fun q => hj q.2)]
  have hw2 : (fm_ws g μ).set (a - g.1) (a, .inl (g.2.2.1.1, n1, .inl (va_cpy (μ.1 a0) (μ.1 a) 0 0 n.toNatClampNeg))) = fm_ws g (fm_cp μ.1 a0 a n.toNatClampNeg, μ.2) := by
    rw [hM, ← fm_ws_set (μ := μ) (ν := (fm_cp μ.1 a0 a n.toNatClampNeg, μ.2)) (fm_a9 h1 hn1) (fun b hb => fm_cell_ne (by funext j; unfold fm_cp; rw [if_neg (fun q => hb q.1)])), fm_cell_int (μ := (fm_cp μ.1 a0 a n.toNatClampNeg, μ.2)) h1]
  have hP2 : va_P g.2.1 vwCl ((fm_ws g μ).set (a - g.1) (a, .inl (g.2.2.1.1, n1, .inl (va_cpy (μ.1 a0) (μ.1 a) 0 0 n.toNatClampNeg)))) H1 := hP1
  rw [hw2] at hP2
  exact kk p e _ s m args below meth c H1 locs1 ls hA hP2 hS1 hv
theorem fm_swd {x : Int32} {n : Nat} (hn : n ≤ 1000) (h : ∀ j : Nat, j < n → ¬ x = Int32.ofNat j) : x.toInt < 0 ∨ ((n : Int) - 1) < x.toInt := by
  by_cases h0 : x.toInt < 0
  · exact Or.inl h0
  · refine Or.inr ?_
    by_cases h1 : (n : Int) - 1 < x.toInt
    · exact h1
    · exfalso
      refine h x.toInt.toNat (by omega) ?_
      apply Int32.toInt_inj.mp
      rw [Int32.toInt_ofNat_of_lt (by omega)]
      omega
theorem Tr.tsIn {d hi : Int} {offs : Array Int} {len k tgt : Nat} {off : Int} (hl : fm_lk z.2.2.2.2.2.1 pc = some (.tableswitch d 0 hi offs, len)) (h1 : ¬ (Int32.ofNat k).toInt < 0) (h2 : ¬ hi < (Int32.ofNat k).toInt) (ho : offs[((Int32.ofNat k).toInt - 0).toNat]? = some off) (ht : (pc : Int) + off = (tgt : Int)) {x : Int32} (hx : x = Int32.ofNat k) (kk : Tr g l z o tgt lv rest μ) : Tr g l z o pc lv (.int x :: rest) μ := by
  intro p e R s m args below meth c H locs ls hA hP hS hv
  subst hx
  exact lv_tableIn hA.x hA.b (hA.dg hl) h1 h2 ho ht (kk p e R s m args below meth c H locs ls hA hP hS hv)
theorem Tr.tsOut {d hi : Int} {offs : Array Int} {len tgt : Nat} {x : Int32} (hl : fm_lk z.2.2.2.2.2.1 pc = some (.tableswitch d 0 hi offs, len)) (h : x.toInt < 0 ∨ hi < x.toInt) (ht : (pc : Int) + d = (tgt : Int)) (kk : Tr g l z o tgt lv rest μ) : Tr g l z o pc lv (.int x :: rest) μ := by
  intro p e R s m args below meth c H locs ls hA hP hS hv
  exact lv_tableOut hA.x hA.b (hA.dg hl) h ht (kk p e R s m args below meth c H locs ls hA hP hS hv)
end RULES5
abbrev fm_W : Type := Int64 × UInt64
abbrev emI (M : fm_Mem) (w : fm_W) : Int32 → fm_O := fm_em (fun r => some (.int r)) (fun _ => (M, w))
abbrev emJ (M : fm_Mem) (w : fm_W) : Int64 → fm_O := fm_em (fun r => some (.long r)) (fun _ => (M, w))
abbrev emF (M : fm_Mem) (w : fm_W) : UInt32 → fm_O := fm_em (fun r => some (.float r)) (fun _ => (M, w))
abbrev emD (M : fm_Mem) (w : fm_W) : UInt64 → fm_O := fm_em (fun r => some (.double r)) (fun _ => (M, w))
abbrev emA (M : fm_Mem) (w : fm_W) : Nat → fm_O := fm_em (fun r => some (.ref r)) (fun _ => (M, w))
abbrev emV (M : fm_Mem) (w : fm_W) : Unit → fm_O := fm_em (fun _ => none) (fun _ => (M, w))
abbrev emIw (_ : fm_Mem) (w : fm_W) : Int32 × fm_Mem → fm_O := fm_em (fun r => some (.int r.1)) (fun r => (r.2, w))
abbrev emJw (_ : fm_Mem) (w : fm_W) : Int64 × fm_Mem → fm_O := fm_em (fun r => some (.long r.1)) (fun r => (r.2, w))
abbrev emFw (_ : fm_Mem) (w : fm_W) : UInt32 × fm_Mem → fm_O := fm_em (fun r => some (.float r.1)) (fun r => (r.2, w))
abbrev emDw (_ : fm_Mem) (w : fm_W) : UInt64 × fm_Mem → fm_O := fm_em (fun r => some (.double r.1)) (fun r => (r.2, w))
abbrev emVw (_ : fm_Mem) (w : fm_W) : fm_Mem → fm_O := fm_em (fun _ => none) (fun r => (r, w))
abbrev exI (M : fm_Mem) (w : fm_W) : Nat ⊕ Int32 → fm_O := fm_ex (M, w) (fun r => some (.int r)) (fun _ => (M, w))
abbrev exJ (M : fm_Mem) (w : fm_W) : Nat ⊕ Int64 → fm_O := fm_ex (M, w) (fun r => some (.long r)) (fun _ => (M, w))
abbrev exD (M : fm_Mem) (w : fm_W) : Nat ⊕ UInt64 → fm_O := fm_ex (M, w) (fun r => some (.double r)) (fun _ => (M, w))
abbrev exV (M : fm_Mem) (w : fm_W) : Nat ⊕ Unit → fm_O := fm_ex (M, w) (fun _ => none) (fun _ => (M, w))
abbrev exIw (M : fm_Mem) (w : fm_W) : Nat ⊕ (Int32 × fm_Mem) → fm_O := fm_ex (M, w) (fun r => some (.int r.1)) (fun r => (r.2, w))
def fm_nz (y : Int32) : Bool := !(decide (y = 0))
theorem fm_nz_ne {y : Int32} (h : fm_nz y = true) : ¬ y = 0 := by
  unfold fm_nz at h
  rw [Bool.not_eq_true', decide_eq_false_iff_not] at h
  exact h
def fm_rem (x y : Int32) : Int32 := x - x / y * y
section TT4
variable {ρ τ : Type} {g : fm_G} {l : Launch} {z y : fm_Y} {em : ρ → fm_O} {pc : Nat} {lv : List (Nat × Value)} {st rest As : List Value} {μ ν : fm_St} {o : fm_O} {f : Option τ} {k : τ → Option ρ} {vl : τ → Option Value} {mm : τ → fm_St}
theorem Tt.callVr {b idx ci N : Nat} {T : u_T} (hC : ∀ r, f = some r → fC g l y (.ref b :: As) μ (fm_em vl mm r)) (hkd : fm_kd g b = ci) (hci : ci < 8) (hc : vwCl[ci]? = some (y.1.cls, T, N)) (hl : fm_lk z.2.2.2.2.2.1 pc = some (.invokevirtual idx, 3)) (hw : fm_cwV y) (hln : Cond.methodLink z.2.1 idx y.1 ∈ lw_all)
    (hn : (parseMethodDescriptor y.1.desc).map (fun d => d.parameters.length) = some As.length) (hcat : (rest.map fun v => v.category).sum ≤ 8) (hF : y.2.2.2.2.2.2.1 + 1 ≤ z.2.2.2.2.2.2.1) (hLo : 8 + (y.2.2.2.1 + 11) + y.2.2.2.2.2.2.2 ≤ z.2.2.2.2.2.2.2) (hst : st = As.reverse ++ .ref b :: rest)
    (kk : ∀ r, f = some r → Tt g l z em (k r) (pc + 3) lv ((vl r).toList ++ rest) (mm r)) : Tt g l z em (f.bind k) pc lv st μ := by
  intro r hr
  cases hf : f with
  | none => rw [hf] at hr; cases hr
  | some x => rw [hf] at hr; exact Tr.callV (hC x hf) hkd hci hc hl hw hln hn hcat hF hLo hst (kk x hf r hr)
/-- a call on one of the texts -/
theorem Tr.callT {i idx : Nat} {v : Option Value} (hC : fC g l y (.ref (g.2.2.2.1 i) :: As) μ (.inr v, ν)) (hi : i < 6) (hcls : y.1.cls = "java/lang/String") (hl : fm_lk z.2.2.2.2.2.1 pc = some (.invokevirtual idx, 3)) (hw : fm_cwV y) (hln : Cond.methodLink z.2.1 idx y.1 ∈ lw_all)
    (hn : (parseMethodDescriptor y.1.desc).map (fun d => d.parameters.length) = some As.length) (hcat : (rest.map fun v => v.category).sum ≤ 8) (hF : y.2.2.2.2.2.2.1 + 1 ≤ z.2.2.2.2.2.2.1) (hLo : 8 + (y.2.2.2.1 + 11) + y.2.2.2.2.2.2.2 ≤ z.2.2.2.2.2.2.2) (hst : st = As.reverse ++ .ref (g.2.2.2.1 i) :: rest)
    (kk : Tr g l z o (pc + 3) lv (v.toList ++ rest) ν) : Tr g l z o pc lv st μ := by
  intro p e R s m args below meth c H locs ls hA hP hS hv
  have hR := hA.room
  have hcw : CallW R s args z.2.1 y.1.cls idx y.1 y.2.2.1 y.2.2.2.1 y.2.2.2.2.1 (fm_wl y) (fm_R y (.inr v, ν)) 0 0 As.length := by
    subst hR
    exact cwV As.length hA.ts (fm_gV hw hln) rfl rfl rfl ⟨rfl, hw.1.2.2.1, hw.1.2.2.2, hn⟩ ⟨hF, hLo⟩
  refine fm_done hA hS hv (va_runV ⟨hA.x, hA.b, hA.ml, hA.own, hA.ts⟩ hC hcw ⟨fm_blind _, by rw [hcls]; exact vk_recv (i := 0) (hA.e.2.2.2.2.1 i hi) (show 0 < 1 by decide) hS, fun U hU hW => ⟨rfl, fm_pre hP hA.k hA.e hS hU hW⟩⟩ rfl rfl hv.1 hst (lv_room hcat) (hA.dg hl) ⟨Nat.zero_le _, Nat.zero_le _⟩) kk
theorem Tt.callT {i idx : Nat} (hC : ∀ r, f = some r → fC g l y (.ref (g.2.2.2.1 i) :: As) μ (fm_em vl mm r)) (hi : i < 6) (hcls : y.1.cls = "java/lang/String") (hl : fm_lk z.2.2.2.2.2.1 pc = some (.invokevirtual idx, 3)) (hw : fm_cwV y) (hln : Cond.methodLink z.2.1 idx y.1 ∈ lw_all)
    (hn : (parseMethodDescriptor y.1.desc).map (fun d => d.parameters.length) = some As.length) (hcat : (rest.map fun v => v.category).sum ≤ 8) (hF : y.2.2.2.2.2.2.1 + 1 ≤ z.2.2.2.2.2.2.1) (hLo : 8 + (y.2.2.2.1 + 11) + y.2.2.2.2.2.2.2 ≤ z.2.2.2.2.2.2.2) (hst : st = As.reverse ++ .ref (g.2.2.2.1 i) :: rest)
    (kk : ∀ r, Tt g l z em (k r) (pc + 3) lv ((vl r).toList ++ rest) (mm r)) : Tt g l z em (f.bind k) pc lv st μ := by
  intro r hr
  cases hf : f with
  | none => rw [hf] at hr; cases hr
  | some x => rw [hf] at hr; exact Tr.callT (hC x hf) hi hcls hl hw hln hn hcat hF hLo hst (kk x r hr)
end TT4
