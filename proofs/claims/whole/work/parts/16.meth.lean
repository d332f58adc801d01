theorem fw453 : Cond.constantLong "CircleFlips" 242 (31 : Int64) ∈ lw_all := lw_in 453 (by decide +kernel) (by decide +kernel)
theorem fw454 : Cond.methodLink "CircleFlips" 244 ⟨"CircleFlips", "state", "(I)I"⟩ ∈ lw_all := lw_in 454 (by decide +kernel) (by decide +kernel)
theorem fw561 : Cond.methodLink "CircleFlips" 247 ⟨"CircleFlips", "point", "(II)I"⟩ ∈ lw_all := lw_in 561 (by decide +kernel) (by decide +kernel)
theorem fw601 : Cond.methodLink "CircleFlips" 250 ⟨"CircleFlips", "withTriangles", "(JZ)J"⟩ ∈ lw_all := lw_in 601 (by decide +kernel) (by decide +kernel)
theorem fw605 : Cond.methodLink "CircleFlips" 260 ⟨"CircleFlips", "triangle", "(IZI)I"⟩ ∈ lw_all := lw_in 605 (by decide +kernel) (by decide +kernel)
theorem fw625 : Cond.methodLink "CircleFlips" 254 ⟨"CircleFlips", "lift", "()J"⟩ ∈ lw_all := lw_in 625 (by decide +kernel) (by decide +kernel)
theorem fw626 : Cond.methodLink "CircleFlips" 257 ⟨"CircleFlips", "tree", "()J"⟩ ∈ lw_all := lw_in 626 (by decide +kernel) (by decide +kernel)
theorem fw934 : Cond.methodLink "CircleFlips" 200 ⟨"CircleFlips$Points", "distance", "(II)I"⟩ ∈ lw_all := lw_in 934 (by decide +kernel) (by decide +kernel)
theorem fw935 : Cond.methodLink "CircleFlips" 203 ⟨"CircleFlips", "bitsOf", "(F)I"⟩ ∈ lw_all := lw_in 935 (by decide +kernel) (by decide +kernel)
theorem fw938 : Cond.constant "CircleFlips" 275 (8388608 : Int32) ∈ lw_all := lw_in 938 (by decide +kernel) (by decide +kernel)
theorem fw939 : Cond.constantFloat "CircleFlips" 276 (1258291200 : UInt32) ∈ lw_all := lw_in 939 (by decide +kernel) (by decide +kernel)
theorem fw948 : Cond.methodLink "CircleFlips" 207 ⟨"CircleFlips", "needPlace", "(II)V"⟩ ∈ lw_all := lw_in 948 (by decide +kernel) (by decide +kernel)
theorem fw952 : Cond.methodLink "CircleFlips" 210 ⟨"CircleFlips$Points", "find", "(II)I"⟩ ∈ lw_all := lw_in 952 (by decide +kernel) (by decide +kernel)
theorem fw968 : Cond.methodLink "CircleFlips" 216 ⟨"CircleFlips$Points", "add", "(II)V"⟩ ∈ lw_all := lw_in 968 (by decide +kernel) (by decide +kernel)
theorem fw969 : Cond.methodLink "CircleFlips" 219 ⟨"CircleFlips", "pointsChanged", "()V"⟩ ∈ lw_all := lw_in 969 (by decide +kernel) (by decide +kernel)
theorem fw973 : Cond.methodLink "CircleFlips" 267 ⟨"CircleFlips$Plane", "renew", "()V"⟩ ∈ lw_all := lw_in 973 (by decide +kernel) (by decide +kernel)
theorem fw981 : Cond.methodLink "CircleFlips" 222 ⟨"CircleFlips$Points", "remove", "(I)V"⟩ ∈ lw_all := lw_in 981 (by decide +kernel) (by decide +kernel)
theorem fw994 : Cond.methodLink "CircleFlips" 225 ⟨"CircleFlips$Points", "set", "(III)V"⟩ ∈ lw_all := lw_in 994 (by decide +kernel) (by decide +kernel)
theorem fw995 : Cond.methodLink "CircleFlips" 236 ⟨"CircleFlips$Mesh", "trianglesBeyond", "(LCircleFlips$Mesh;)I"⟩ ∈ lw_all := lw_in 995 (by decide +kernel) (by decide +kernel)
theorem fw1010 : Cond.methodLink "CircleFlips" 239 ⟨"CircleFlips$Plane", "flipEdge", "(II)I"⟩ ∈ lw_all := lw_in 1010 (by decide +kernel) (by decide +kernel)
def k_X6_bitsOf : List (Nat × Instr × Nat) := [(0, .fload_n 0, 1), (1, .fstore_n 1, 1), (2, .bipush 127, 2), (4, .istore_n 2, 1), (5, .fload_n 1, 1), (6, .fconst 1, 1), (7, .fcmp .g, 1), (8, .ifCond .ge 18, 3), (11, .iload_n 2, 1), (12, .iconst 1, 1), (13, .if_icmp .le 13, 3), (16, .fload_n 1, 1), (17, .fconst 2, 1), (18, .fmul, 1), (19, .fstore_n 1, 1), (20, .iinc 2 (-1), 3), (23, .goto (-18), 3), (26, .iload_n 2, 1), (27, .ldc_w 275, 3), (30, .imul, 1), (31, .fload_n 1, 1), (32, .fconst 1, 1), (33, .fsub, 1), (34, .ldc_w 276, 3), (37, .fmul, 1), (38, .f2i, 1), (39, .iadd, 1), (40, .ireturn, 1)]
def z_X6_bitsOf : fm_Y := (yX6_bitsOf, RX6, cX6_bitsOf, 3, (some .int), k_X6_bitsOf, 0, 0)
theorem o_X6_bitsOf : fm_dec z_X6_bitsOf := (by decide +kernel : ∀ q ∈ k_X6_bitsOf, decode cX6_bitsOf q.1 = .ok q.2)
theorem cw_X6_bitsOf : fm_cwS z_X6_bitsOf := ⟨⟨lw_in 937 (by decide +kernel) (by decide +kernel), lw_in 91 (by decide +kernel) (by decide +kernel), by decide, by decide⟩, lw_in 936 (by decide +kernel) (by decide +kernel)⟩
theorem pn_X6_bitsOf : (parseMethodDescriptor z_X6_bitsOf.1.desc).map (fun d => d.parameters.length) = some 1 := by decide +kernel
def f_X6_bitsOf_26 (a0 : UInt32) (x1 : UInt32) (x2 : Int32) (M : fm_Mem) : Option (Int32) := fm_ck (fm_f32 (FP.fsub x1 FP.fconst1)) (fm_ck (fm_f32 (FP.fmul (FP.fsub x1 FP.fconst1) (1258291200 : UInt32))) (some (((x2 * (8388608 : Int32)) + (FP.f2i (FP.fmul (FP.fsub x1 FP.fconst1) (1258291200 : UInt32)))))))
set_option maxRecDepth 100000 in
set_option maxHeartbeats 4000000 in
theorem t_X6_bitsOf_26 (g : fm_G) (l : Launch) (hl : l.stackTraces = false) (a0 : UInt32)  (w : fm_W)  (x1 : UInt32) (x2 : Int32)  (M : fm_Mem) : Tt g l z_X6_bitsOf (emI M w) (f_X6_bitsOf_26 a0  x1 x2 M) 26 [(1, .float x1), (2, .int x2)] [] (M, w) := by
  rw [f_X6_bitsOf_26]
  refine Tt.go (fun _ => Tr.run 1 (pc' := 27) (lv' := [(1, .float x1), (2, .int x2)]) (st' := [.int x2]) rfl) ?_
  refine Tt.go (fun _ => Tr.ldcwI rfl fw938) (?_ : Tt g l z_X6_bitsOf (emI M w) _ 30 [(1, .float x1), (2, .int x2)] [.int (8388608 : Int32), .int x2] (M, w))
  refine Tt.go (fun _ => Tr.run 3 (pc' := 33) (lv' := [(1, .float x1), (2, .int x2)]) (st' := [.float FP.fconst1, .float x1, .int (x2 * (8388608 : Int32))]) rfl) ?_
  refine Tt.ck (fun hf_1 => ?_)
  refine Tt.go (fun _ => Tr.fsub rfl hf_1) (?_ : Tt g l z_X6_bitsOf (emI M w) _ 34 [(1, .float x1), (2, .int x2)] [.float (FP.fsub x1 FP.fconst1), .int (x2 * (8388608 : Int32))] (M, w))
  refine Tt.go (fun _ => Tr.ldcwF rfl fw939) (?_ : Tt g l z_X6_bitsOf (emI M w) _ 37 [(1, .float x1), (2, .int x2)] [.float (1258291200 : UInt32), .float (FP.fsub x1 FP.fconst1), .int (x2 * (8388608 : Int32))] (M, w))
  refine Tt.ck (fun hf_2 => ?_)
  refine Tt.go (fun _ => Tr.fmul rfl hf_2) (?_ : Tt g l z_X6_bitsOf (emI M w) _ 38 [(1, .float x1), (2, .int x2)] [.float (FP.fmul (FP.fsub x1 FP.fconst1) (1258291200 : UInt32)), .int (x2 * (8388608 : Int32))] (M, w))
  refine Tt.go (fun _ => Tr.run 2 (pc' := 40) (lv' := [(1, .float x1), (2, .int x2)]) (st' := [.int ((x2 * (8388608 : Int32)) + (FP.f2i (FP.fmul (FP.fsub x1 FP.fconst1) (1258291200 : UInt32))))]) rfl) ?_
  exact Tt.ret (Tr.iret rfl rfl)
def f_X6_bitsOf_5 (a0 : UInt32) : Nat → UInt32 → Int32 → fm_Mem → Option (Int32)
  | 0, _, _, _ => none
  | n + 1, x1, x2, M => if 0 ≤ (Op.cmpValue (FP.fcmp x1 FP.fconst1) .g) then (f_X6_bitsOf_26 a0 x1 x2 M) else (if x2 ≤ (1 : Int32) then (f_X6_bitsOf_26 a0 x1 x2 M) else (fm_ck (fm_f32 (FP.fmul x1 FP.fconst2)) (f_X6_bitsOf_5 a0 n (FP.fmul x1 FP.fconst2) (x2 + (-1 : Int32)) M)))
set_option maxRecDepth 100000 in
set_option maxHeartbeats 4000000 in
theorem t_X6_bitsOf_5 (g : fm_G) (l : Launch) (hl : l.stackTraces = false) (a0 : UInt32)  (w : fm_W)  : ∀ (n : Nat) (x1 : UInt32) (x2 : Int32)  (M : fm_Mem), Tt g l z_X6_bitsOf (emI M w) (f_X6_bitsOf_5 a0  n x1 x2 M) 5 [(1, .float x1), (2, .int x2)] [] (M, w) := by
  intro n
  induction n with
  | zero => intros; exact Tt.none
  | succ n ih =>
    intro x1 x2  M
    rw [f_X6_bitsOf_5]
    refine Tt.go (fun _ => Tr.run 3 (pc' := 8) (lv' := [(1, .float x1), (2, .int x2)]) (st' := [.int (Op.cmpValue (FP.fcmp x1 FP.fconst1) .g)]) rfl) ?_
    refine Tt.if_ge (tgt := 26) rfl (by decide) ?_ ?_
    · exact t_X6_bitsOf_26 g l hl a0 w x1 x2 M
    · refine Tt.go (fun _ => Tr.run 2 (pc' := 13) (lv' := [(1, .float x1), (2, .int x2)]) (st' := [.int (1 : Int32), .int x2]) rfl) ?_
      refine Tt.ic_le (tgt := 26) rfl (by decide) ?_ ?_
      · exact t_X6_bitsOf_26 g l hl a0 w x1 x2 M
      · refine Tt.go (fun _ => Tr.run 2 (pc' := 18) (lv' := [(1, .float x1), (2, .int x2)]) (st' := [.float FP.fconst2, .float x1]) rfl) ?_
        refine Tt.ck (fun hf_1 => ?_)
        refine Tt.go (fun _ => Tr.fmul rfl hf_1) (?_ : Tt g l z_X6_bitsOf (emI M w) _ 19 [(1, .float x1), (2, .int x2)] [.float (FP.fmul x1 FP.fconst2)] (M, w))
        refine Tt.go (fun _ => Tr.run 3 (pc' := 5) (lv' := [(2, .int (x2 + (-1 : Int32))), (1, .float (FP.fmul x1 FP.fconst2))]) (st' := []) rfl) ?_
        refine Tt.go (fun _ => Tr.sub (lv' := [(1, .float (FP.fmul x1 FP.fconst2)), (2, .int (x2 + (-1 : Int32)))]) [1, 0] rfl) ?_
        exact ih (FP.fmul x1 FP.fconst2) (x2 + (-1 : Int32)) M
def f_X6_bitsOf (a0 : UInt32) (M : fm_Mem) : Option (Int32) := (f_X6_bitsOf_5 a0 fm_fuel a0 (127 : Int32) M)
set_option maxRecDepth 100000 in
set_option maxHeartbeats 4000000 in
theorem t_X6_bitsOf (g : fm_G) (l : Launch) (hl : l.stackTraces = false) (a0 : UInt32)  (M : fm_Mem) (w : fm_W) : Tt g l z_X6_bitsOf (emI M w) (f_X6_bitsOf a0 M) 0 [(0, .float a0)] [] (M, w) := by
  rw [f_X6_bitsOf]
  refine Tt.go (fun _ => Tr.run 4 (pc' := 5) (lv' := [(2, .int (127 : Int32)), (1, .float a0), (0, .float a0)]) (st' := []) rfl) ?_
  refine Tt.go (fun _ => Tr.sub (lv' := [(1, .float a0), (2, .int (127 : Int32))]) [1, 0] rfl) ?_
  exact t_X6_bitsOf_5 g l hl a0 w fm_fuel a0 (127 : Int32) M
theorem c_X6_bitsOf (g : fm_G) (l : Launch) (hl : l.stackTraces = false) (a0 : UInt32)  (M : fm_Mem) (w : fm_W) : ∀ r, f_X6_bitsOf a0 M = some r → fC g l z_X6_bitsOf [.float a0] (M, w) (emI M w r) := fun r hr => fC.of (by decide) rfl o_X6_bitsOf hl (Nat.le_of_ble_eq_true rfl) (t_X6_bitsOf g l hl a0  M w r hr)
def k_X6_roundness : List (Nat × Instr × Nat) := [(0, .aload_n 0, 1), (1, .getfield 19, 3), (4, .getfield 75, 3), (7, .astore_n 2, 1), (8, .aload_n 0, 1), (9, .aload_n 2, 1), (10, .iload_n 1, 1), (11, .invokevirtual 136, 3), (14, .aload_n 0, 1), (15, .getfield 19, 3), (18, .getfield 64, 3), (21, .astore_n 3, 1), (22, .aload_n 2, 1), (23, .iload_n 1, 1), (24, .invokevirtual 140, 3), (27, .istore 4, 2), (29, .aload_n 2, 1), (30, .iload_n 1, 1), (31, .invokevirtual 143, 3), (34, .istore 5, 2), (36, .aload_n 2, 1), (37, .iload_n 1, 1), (38, .invokevirtual 146, 3), (41, .istore 6, 2), (43, .aload_n 3, 1), (44, .iload 4, 2), (46, .iload 5, 2), (48, .invokevirtual 200, 3), (51, .aload_n 3, 1), (52, .iload 5, 2), (54, .iload 6, 2), (56, .invokevirtual 200, 3), (59, .iadd, 1), (60, .aload_n 3, 1), (61, .iload 6, 2), (63, .iload 4, 2), (65, .invokevirtual 200, 3), (68, .iadd, 1), (69, .istore 7, 2), (71, .iload 7, 2), (73, .ifCond .ne 5, 3), (76, .iconst 0, 1), (77, .ireturn, 1), (78, .aload_n 3, 1), (79, .iload 4, 2), (81, .iload 5, 2), (83, .iload 6, 2), (85, .invokevirtual 149, 3), (88, .invokestatic 153, 3), (91, .i2f, 1), (92, .iload 7, 2), (94, .i2f, 1), (95, .fdiv, 1), (96, .invokestatic 203, 3), (99, .ireturn, 1)]
def z_X6_roundness : fm_Y := (yX6_roundness, RX6, cX6_roundness, 8, (some .int), k_X6_roundness, 7, 111)
theorem o_X6_roundness : fm_dec z_X6_roundness := (by decide +kernel : ∀ q ∈ k_X6_roundness, decode cX6_roundness q.1 = .ok q.2)
theorem cw_X6_roundness : fm_cwV z_X6_roundness := ⟨⟨lw_in 933 (by decide +kernel) (by decide +kernel), lw_in 91 (by decide +kernel) (by decide +kernel), by decide, by decide⟩, lw_in 931 (by decide +kernel) (by decide +kernel), lw_in 932 (by decide +kernel) (by decide +kernel)⟩
theorem pn_X6_roundness : (parseMethodDescriptor z_X6_roundness.1.desc).map (fun d => d.parameters.length) = some 1 := by decide +kernel
def f_X6_roundness (P : Nat) (a1 : Int32) (M : fm_Mem) : Option (Nat ⊕ Int32) := fm_bx (f_X6_needTriangle P (P + 20 + 6) a1 M) (fun v1 => Option.bind (f_X1_a (P + 20 + 6) a1 M) (fun v2 => Option.bind (f_X1_b (P + 20 + 6) a1 M) (fun v3 => Option.bind (f_X1_c (P + 20 + 6) a1 M) (fun v4 => Option.bind (f_X3_distance (P + 20 + 1) v2 v3 M) (fun v5 => Option.bind (f_X3_distance (P + 20 + 1) v3 v4 M) (fun v6 => Option.bind (f_X3_distance (P + 20 + 1) v4 v2 M) (fun v7 => if ((v5 + v6) + v7) = 0 then (some (.inr ((0 : Int32)))) else (Option.bind (f_X3_turn (P + 20 + 1) v2 v3 v4 M) (fun v8 => fm_ck (fm_f32 (FP.fdiv (FP.i2f (fm_abs v8)) (FP.i2f ((v5 + v6) + v7)))) (Option.bind (f_X6_bitsOf (FP.fdiv (FP.i2f (fm_abs v8)) (FP.i2f ((v5 + v6) + v7))) M) (fun v10 => some (.inr (v10)))))))))))))
set_option maxRecDepth 100000 in
set_option maxHeartbeats 4000000 in
theorem t_X6_roundness (g : fm_G) (l : Launch) (hl : l.stackTraces = false) (P : Nat) (a1 : Int32) (hP : fm_kd g P = 6) (M : fm_Mem) (w : fm_W) : Tt g l z_X6_roundness (exI M w) (f_X6_roundness P a1 M) 0 [(0, .ref P), (1, .int a1)] [] (M, w) := by
  rw [f_X6_roundness]
  refine Tt.go (fun _ => Tr.run 1 (pc' := 1) (lv' := [(0, .ref P), (1, .int a1)]) (st' := [.ref P]) rfl) ?_
  refine Tt.go (fun _ => Tr.get fmc6 hP rfl fw268 (k := 1) (by decide) rfl) (?_ : Tt g l z_X6_roundness (exI M w) _ 4 [(0, .ref P), (1, .int a1)] [.ref (P + 20)] (M, w))
  refine Tt.go (fun _ => Tr.getN fmc2 (fmk_6_1 hP) rfl nw189 (k := 1) (by decide) rfl) (?_ : Tt g l z_X6_roundness (exI M w) _ 7 [(0, .ref P), (1, .int a1)] [.ref (P + 20 + 6)] (M, w))
  refine Tt.go (fun _ => Tr.run 4 (pc' := 11) (lv' := [(2, .ref (P + 20 + 6)), (0, .ref P), (1, .int a1)]) (st' := [.int a1, .ref (P + 20 + 6), .ref P]) rfl) ?_
  refine Tt.callX (As := [.ref (P + 20 + 6), .int a1]) (rest := []) (c_X6_needTriangle g l hl P (P + 20 + 6) a1 hP (fmk_2_1 (fmk_6_1 hP)) M w) hP (by decide) rfl rfl cw_X6_needTriangle fw609 pn_X6_needTriangle (Nat.le_of_ble_eq_true rfl) (Nat.le_of_ble_eq_true rfl) (Nat.le_of_ble_eq_true rfl) rfl (fun v1 => (?_ : Tt g l z_X6_roundness (exI M w) _ 14 [(2, .ref (P + 20 + 6)), (0, .ref P), (1, .int a1)] [] (M, w)))
  refine Tt.go (fun _ => Tr.run 1 (pc' := 15) (lv' := [(2, .ref (P + 20 + 6)), (0, .ref P), (1, .int a1)]) (st' := [.ref P]) rfl) ?_
  refine Tt.go (fun _ => Tr.get fmc6 hP rfl fw268 (k := 1) (by decide) rfl) (?_ : Tt g l z_X6_roundness (exI M w) _ 18 [(2, .ref (P + 20 + 6)), (0, .ref P), (1, .int a1)] [.ref (P + 20)] (M, w))
  refine Tt.go (fun _ => Tr.getN fmc2 (fmk_6_1 hP) rfl nw186 (k := 0) (by decide) rfl) (?_ : Tt g l z_X6_roundness (exI M w) _ 21 [(2, .ref (P + 20 + 6)), (0, .ref P), (1, .int a1)] [.ref (P + 20 + 1)] (M, w))
  refine Tt.go (fun _ => Tr.run 3 (pc' := 24) (lv' := [(3, .ref (P + 20 + 1)), (2, .ref (P + 20 + 6)), (0, .ref P), (1, .int a1)]) (st' := [.int a1, .ref (P + 20 + 6)]) rfl) ?_
  refine Tt.callV (As := [.int a1]) (rest := []) (c_X1_a g l hl (P + 20 + 6) a1 (fmk_2_1 (fmk_6_1 hP)) M w) (fmk_2_1 (fmk_6_1 hP)) (by decide) rfl rfl cw_X1_a fw317 pn_X1_a (Nat.le_of_ble_eq_true rfl) (Nat.le_of_ble_eq_true rfl) (Nat.le_of_ble_eq_true rfl) rfl (fun v2 => (?_ : Tt g l z_X6_roundness (exI M w) _ 27 [(3, .ref (P + 20 + 1)), (2, .ref (P + 20 + 6)), (0, .ref P), (1, .int a1)] [.int v2] (M, w)))
  refine Tt.go (fun _ => Tr.run 3 (pc' := 31) (lv' := [(4, .int v2), (3, .ref (P + 20 + 1)), (2, .ref (P + 20 + 6)), (0, .ref P), (1, .int a1)]) (st' := [.int a1, .ref (P + 20 + 6)]) rfl) ?_
  refine Tt.callV (As := [.int a1]) (rest := []) (c_X1_b g l hl (P + 20 + 6) a1 (fmk_2_1 (fmk_6_1 hP)) M w) (fmk_2_1 (fmk_6_1 hP)) (by decide) rfl rfl cw_X1_b fw325 pn_X1_b (Nat.le_of_ble_eq_true rfl) (Nat.le_of_ble_eq_true rfl) (Nat.le_of_ble_eq_true rfl) rfl (fun v3 => (?_ : Tt g l z_X6_roundness (exI M w) _ 34 [(4, .int v2), (3, .ref (P + 20 + 1)), (2, .ref (P + 20 + 6)), (0, .ref P), (1, .int a1)] [.int v3] (M, w)))
  refine Tt.go (fun _ => Tr.run 3 (pc' := 38) (lv' := [(5, .int v3), (4, .int v2), (3, .ref (P + 20 + 1)), (2, .ref (P + 20 + 6)), (0, .ref P), (1, .int a1)]) (st' := [.int a1, .ref (P + 20 + 6)]) rfl) ?_
  refine Tt.callV (As := [.int a1]) (rest := []) (c_X1_c g l hl (P + 20 + 6) a1 (fmk_2_1 (fmk_6_1 hP)) M w) (fmk_2_1 (fmk_6_1 hP)) (by decide) rfl rfl cw_X1_c fw329 pn_X1_c (Nat.le_of_ble_eq_true rfl) (Nat.le_of_ble_eq_true rfl) (Nat.le_of_ble_eq_true rfl) rfl (fun v4 => (?_ : Tt g l z_X6_roundness (exI M w) _ 41 [(5, .int v3), (4, .int v2), (3, .ref (P + 20 + 1)), (2, .ref (P + 20 + 6)), (0, .ref P), (1, .int a1)] [.int v4] (M, w)))
  refine Tt.go (fun _ => Tr.run 4 (pc' := 48) (lv' := [(6, .int v4), (5, .int v3), (4, .int v2), (3, .ref (P + 20 + 1)), (2, .ref (P + 20 + 6)), (0, .ref P), (1, .int a1)]) (st' := [.int v3, .int v2, .ref (P + 20 + 1)]) rfl) ?_
  refine Tt.callV (As := [.int v2, .int v3]) (rest := []) (c_X3_distance g l hl (P + 20 + 1) v2 v3 (fmk_2_0 (fmk_6_1 hP)) M w) (fmk_2_0 (fmk_6_1 hP)) (by decide) rfl rfl cw_X3_distance fw934 pn_X3_distance (Nat.le_of_ble_eq_true rfl) (Nat.le_of_ble_eq_true rfl) (Nat.le_of_ble_eq_true rfl) rfl (fun v5 => (?_ : Tt g l z_X6_roundness (exI M w) _ 51 [(6, .int v4), (5, .int v3), (4, .int v2), (3, .ref (P + 20 + 1)), (2, .ref (P + 20 + 6)), (0, .ref P), (1, .int a1)] [.int v5] (M, w)))
  refine Tt.go (fun _ => Tr.run 3 (pc' := 56) (lv' := [(6, .int v4), (5, .int v3), (4, .int v2), (3, .ref (P + 20 + 1)), (2, .ref (P + 20 + 6)), (0, .ref P), (1, .int a1)]) (st' := [.int v4, .int v3, .ref (P + 20 + 1), .int v5]) rfl) ?_
  refine Tt.callV (As := [.int v3, .int v4]) (rest := [.int v5]) (c_X3_distance g l hl (P + 20 + 1) v3 v4 (fmk_2_0 (fmk_6_1 hP)) M w) (fmk_2_0 (fmk_6_1 hP)) (by decide) rfl rfl cw_X3_distance fw934 pn_X3_distance (Nat.le_of_ble_eq_true rfl) (Nat.le_of_ble_eq_true rfl) (Nat.le_of_ble_eq_true rfl) rfl (fun v6 => (?_ : Tt g l z_X6_roundness (exI M w) _ 59 [(6, .int v4), (5, .int v3), (4, .int v2), (3, .ref (P + 20 + 1)), (2, .ref (P + 20 + 6)), (0, .ref P), (1, .int a1)] [.int v6, .int v5] (M, w)))
  refine Tt.go (fun _ => Tr.run 4 (pc' := 65) (lv' := [(6, .int v4), (5, .int v3), (4, .int v2), (3, .ref (P + 20 + 1)), (2, .ref (P + 20 + 6)), (0, .ref P), (1, .int a1)]) (st' := [.int v2, .int v4, .ref (P + 20 + 1), .int (v5 + v6)]) rfl) ?_
  refine Tt.callV (As := [.int v4, .int v2]) (rest := [.int (v5 + v6)]) (c_X3_distance g l hl (P + 20 + 1) v4 v2 (fmk_2_0 (fmk_6_1 hP)) M w) (fmk_2_0 (fmk_6_1 hP)) (by decide) rfl rfl cw_X3_distance fw934 pn_X3_distance (Nat.le_of_ble_eq_true rfl) (Nat.le_of_ble_eq_true rfl) (Nat.le_of_ble_eq_true rfl) rfl (fun v7 => (?_ : Tt g l z_X6_roundness (exI M w) _ 68 [(6, .int v4), (5, .int v3), (4, .int v2), (3, .ref (P + 20 + 1)), (2, .ref (P + 20 + 6)), (0, .ref P), (1, .int a1)] [.int v7, .int (v5 + v6)] (M, w)))
  refine Tt.go (fun _ => Tr.run 3 (pc' := 73) (lv' := [(7, .int ((v5 + v6) + v7)), (6, .int v4), (5, .int v3), (4, .int v2), (3, .ref (P + 20 + 1)), (2, .ref (P + 20 + 6)), (0, .ref P), (1, .int a1)]) (st' := [.int ((v5 + v6) + v7)]) rfl) ?_
  refine Tt.if_ne (tgt := 78) rfl (by decide) ?_ ?_
  · refine Tt.go (fun _ => Tr.run 1 (pc' := 77) (lv' := [(7, .int ((v5 + v6) + v7)), (6, .int v4), (5, .int v3), (4, .int v2), (3, .ref (P + 20 + 1)), (2, .ref (P + 20 + 6)), (0, .ref P), (1, .int a1)]) (st' := [.int (0 : Int32)]) rfl) ?_
    exact Tt.ret (Tr.iret rfl rfl)
  · refine Tt.go (fun _ => Tr.run 4 (pc' := 85) (lv' := [(7, .int ((v5 + v6) + v7)), (6, .int v4), (5, .int v3), (4, .int v2), (3, .ref (P + 20 + 1)), (2, .ref (P + 20 + 6)), (0, .ref P), (1, .int a1)]) (st' := [.int v4, .int v3, .int v2, .ref (P + 20 + 1)]) rfl) ?_
    refine Tt.callV (As := [.int v2, .int v3, .int v4]) (rest := []) (c_X3_turn g l hl (P + 20 + 1) v2 v3 v4 (fmk_2_0 (fmk_6_1 hP)) M w) (fmk_2_0 (fmk_6_1 hP)) (by decide) rfl rfl cw_X3_turn fw338 pn_X3_turn (Nat.le_of_ble_eq_true rfl) (Nat.le_of_ble_eq_true rfl) (Nat.le_of_ble_eq_true rfl) rfl (fun v8 => (?_ : Tt g l z_X6_roundness (exI M w) _ 88 [(7, .int ((v5 + v6) + v7)), (6, .int v4), (5, .int v3), (4, .int v2), (3, .ref (P + 20 + 1)), (2, .ref (P + 20 + 6)), (0, .ref P), (1, .int a1)] [.int v8] (M, w)))
    refine Tt.go (fun _ => Tr.abs rfl ⟨fw345, fw346, fw94, fw347⟩ (Nat.le_of_ble_eq_true rfl) (Nat.le_of_ble_eq_true rfl)) (?_ : Tt g l z_X6_roundness (exI M w) _ 91 [(7, .int ((v5 + v6) + v7)), (6, .int v4), (5, .int v3), (4, .int v2), (3, .ref (P + 20 + 1)), (2, .ref (P + 20 + 6)), (0, .ref P), (1, .int a1)] [.int (fm_abs v8)] (M, w))
    refine Tt.go (fun _ => Tr.run 3 (pc' := 95) (lv' := [(7, .int ((v5 + v6) + v7)), (6, .int v4), (5, .int v3), (4, .int v2), (3, .ref (P + 20 + 1)), (2, .ref (P + 20 + 6)), (0, .ref P), (1, .int a1)]) (st' := [.float (FP.i2f ((v5 + v6) + v7)), .float (FP.i2f (fm_abs v8))]) rfl) ?_
    refine Tt.ck (fun hf_9 => ?_)
    refine Tt.go (fun _ => Tr.fdiv rfl hf_9) (?_ : Tt g l z_X6_roundness (exI M w) _ 96 [(7, .int ((v5 + v6) + v7)), (6, .int v4), (5, .int v3), (4, .int v2), (3, .ref (P + 20 + 1)), (2, .ref (P + 20 + 6)), (0, .ref P), (1, .int a1)] [.float (FP.fdiv (FP.i2f (fm_abs v8)) (FP.i2f ((v5 + v6) + v7)))] (M, w))
    refine Tt.callS (As := [.float (FP.fdiv (FP.i2f (fm_abs v8)) (FP.i2f ((v5 + v6) + v7)))]) (rest := []) (c_X6_bitsOf g l hl (FP.fdiv (FP.i2f (fm_abs v8)) (FP.i2f ((v5 + v6) + v7))) M w) rfl cw_X6_bitsOf fw935 pn_X6_bitsOf (Nat.le_of_ble_eq_true rfl) (Nat.le_of_ble_eq_true rfl) (Nat.le_of_ble_eq_true rfl) rfl (fun v10 => (?_ : Tt g l z_X6_roundness (exI M w) _ 99 [(7, .int ((v5 + v6) + v7)), (6, .int v4), (5, .int v3), (4, .int v2), (3, .ref (P + 20 + 1)), (2, .ref (P + 20 + 6)), (0, .ref P), (1, .int a1)] [.int v10] (M, w)))
    exact Tt.ret (Tr.iret rfl rfl)
theorem c_X6_roundness (g : fm_G) (l : Launch) (hl : l.stackTraces = false) (P : Nat) (a1 : Int32) (hP : fm_kd g P = 6) (M : fm_Mem) (w : fm_W) : ∀ r, f_X6_roundness P a1 M = some r → fC g l z_X6_roundness [.ref P, .int a1] (M, w) (exI M w r) := fun r hr => fC.of (by decide) rfl o_X6_roundness hl (Nat.le_of_ble_eq_true rfl) (t_X6_roundness g l hl P a1 hP M w r hr)
def k_X6_share : List (Nat × Instr × Nat) := [(0, .aload_n 0, 1), (1, .getfield 19, 3), (4, .getfield 64, 3), (7, .invokevirtual 72, 3), (10, .istore_n 1, 1), (11, .iload_n 1, 1), (12, .ifCond .ne 7, 3), (15, .fconst 0, 1), (16, .goto 17, 3), (19, .aload_n 0, 1), (20, .getfield 19, 3), (23, .getfield 75, 3), (26, .invokevirtual 82, 3), (29, .i2f, 1), (30, .iload_n 1, 1), (31, .i2f, 1), (32, .fdiv, 1), (33, .freturn, 1)]
def z_X6_share : fm_Y := (yX6_share, RX6, cX6_share, 2, (some .float), k_X6_share, 3, 64)
theorem o_X6_share : fm_dec z_X6_share := (by decide +kernel : ∀ q ∈ k_X6_share, decode cX6_share q.1 = .ok q.2)
theorem cw_X6_share : fm_cwV z_X6_share := ⟨⟨lw_in 367 (by decide +kernel) (by decide +kernel), lw_in 91 (by decide +kernel) (by decide +kernel), by decide, by decide⟩, lw_in 365 (by decide +kernel) (by decide +kernel), lw_in 366 (by decide +kernel) (by decide +kernel)⟩
theorem pn_X6_share : (parseMethodDescriptor z_X6_share.1.desc).map (fun d => d.parameters.length) = some 0 := by decide +kernel
def f_X6_share_33 (P : Nat) (s0 : UInt32) (M : fm_Mem) : Option (UInt32) := some (s0)
set_option maxRecDepth 100000 in
set_option maxHeartbeats 4000000 in
theorem t_X6_share_33 (g : fm_G) (l : Launch) (hl : l.stackTraces = false) (P : Nat) (hP : fm_kd g P = 6) (w : fm_W)  (s0 : UInt32)  (M : fm_Mem) : Tt g l z_X6_share (emF M w) (f_X6_share_33 P  s0 M) 33 [] [.float s0] (M, w) := by
  rw [f_X6_share_33]
  exact Tt.ret (Tr.fret rfl rfl)
def f_X6_share (P : Nat) (M : fm_Mem) : Option (UInt32) := Option.bind (f_X3_size (P + 20 + 1) M) (fun v1 => if v1 = 0 then (f_X6_share_33 P FP.fconst0 M) else (Option.bind (f_X1_edges (P + 20 + 6) M) (fun v2 => fm_ck (fm_f32 (FP.fdiv (FP.i2f v2) (FP.i2f v1))) (f_X6_share_33 P (FP.fdiv (FP.i2f v2) (FP.i2f v1)) M))))
set_option maxRecDepth 100000 in
set_option maxHeartbeats 4000000 in
theorem t_X6_share (g : fm_G) (l : Launch) (hl : l.stackTraces = false) (P : Nat) (hP : fm_kd g P = 6) (M : fm_Mem) (w : fm_W) : Tt g l z_X6_share (emF M w) (f_X6_share P M) 0 [(0, .ref P)] [] (M, w) := by
  rw [f_X6_share]
  refine Tt.go (fun _ => Tr.run 1 (pc' := 1) (lv' := [(0, .ref P)]) (st' := [.ref P]) rfl) ?_
  refine Tt.go (fun _ => Tr.get fmc6 hP rfl fw268 (k := 1) (by decide) rfl) (?_ : Tt g l z_X6_share (emF M w) _ 4 [(0, .ref P)] [.ref (P + 20)] (M, w))
  refine Tt.go (fun _ => Tr.getN fmc2 (fmk_6_1 hP) rfl nw186 (k := 0) (by decide) rfl) (?_ : Tt g l z_X6_share (emF M w) _ 7 [(0, .ref P)] [.ref (P + 20 + 1)] (M, w))
  refine Tt.callV (As := []) (rest := []) (c_X3_size g l hl (P + 20 + 1) (fmk_2_0 (fmk_6_1 hP)) M w) (fmk_2_0 (fmk_6_1 hP)) (by decide) rfl rfl cw_X3_size fw368 pn_X3_size (Nat.le_of_ble_eq_true rfl) (Nat.le_of_ble_eq_true rfl) (Nat.le_of_ble_eq_true rfl) rfl (fun v1 => (?_ : Tt g l z_X6_share (emF M w) _ 10 [(0, .ref P)] [.int v1] (M, w)))
  refine Tt.go (fun _ => Tr.run 2 (pc' := 12) (lv' := [(1, .int v1), (0, .ref P)]) (st' := [.int v1]) rfl) ?_
  refine Tt.if_ne (tgt := 19) rfl (by decide) ?_ ?_
  · refine Tt.go (fun _ => Tr.run 2 (pc' := 33) (lv' := [(1, .int v1), (0, .ref P)]) (st' := [.float FP.fconst0]) rfl) ?_
    refine Tt.go (fun _ => Tr.sub (lv' := []) [] rfl) ?_
    exact t_X6_share_33 g l hl P hP w FP.fconst0 M
  · refine Tt.go (fun _ => Tr.run 1 (pc' := 20) (lv' := [(1, .int v1), (0, .ref P)]) (st' := [.ref P]) rfl) ?_
    refine Tt.go (fun _ => Tr.get fmc6 hP rfl fw268 (k := 1) (by decide) rfl) (?_ : Tt g l z_X6_share (emF M w) _ 23 [(1, .int v1), (0, .ref P)] [.ref (P + 20)] (M, w))
    refine Tt.go (fun _ => Tr.getN fmc2 (fmk_6_1 hP) rfl nw189 (k := 1) (by decide) rfl) (?_ : Tt g l z_X6_share (emF M w) _ 26 [(1, .int v1), (0, .ref P)] [.ref (P + 20 + 6)] (M, w))
    refine Tt.callV (As := []) (rest := []) (c_X1_edges g l hl (P + 20 + 6) (fmk_2_1 (fmk_6_1 hP)) M w) (fmk_2_1 (fmk_6_1 hP)) (by decide) rfl rfl cw_X1_edges fw372 pn_X1_edges (Nat.le_of_ble_eq_true rfl) (Nat.le_of_ble_eq_true rfl) (Nat.le_of_ble_eq_true rfl) rfl (fun v2 => (?_ : Tt g l z_X6_share (emF M w) _ 29 [(1, .int v1), (0, .ref P)] [.int v2] (M, w)))
    refine Tt.go (fun _ => Tr.run 3 (pc' := 32) (lv' := [(1, .int v1), (0, .ref P)]) (st' := [.float (FP.i2f v1), .float (FP.i2f v2)]) rfl) ?_
    refine Tt.ck (fun hf_3 => ?_)
    refine Tt.go (fun _ => Tr.fdiv rfl hf_3) (?_ : Tt g l z_X6_share (emF M w) _ 33 [(1, .int v1), (0, .ref P)] [.float (FP.fdiv (FP.i2f v2) (FP.i2f v1))] (M, w))
    refine Tt.go (fun _ => Tr.sub (lv' := []) [] rfl) ?_
    exact t_X6_share_33 g l hl P hP w (FP.fdiv (FP.i2f v2) (FP.i2f v1)) M
theorem c_X6_share (g : fm_G) (l : Launch) (hl : l.stackTraces = false) (P : Nat) (hP : fm_kd g P = 6) (M : fm_Mem) (w : fm_W) : ∀ r, f_X6_share P M = some r → fC g l z_X6_share [.ref P] (M, w) (emF M w r) := fun r hr => fC.of (by decide) rfl o_X6_share hl (Nat.le_of_ble_eq_true rfl) (t_X6_share g l hl P hP M w r hr)
def k_X6_needPlace : List (Nat × Instr × Nat) := [(0, .iload_n 1, 1), (1, .ifCond .lt 21, 3), (4, .iload_n 1, 1), (5, .sipush 200, 3), (8, .if_icmp .gt 14, 3), (11, .iload_n 2, 1), (12, .ifCond .lt 10, 3), (15, .iload_n 2, 1), (16, .sipush 200, 3), (19, .if_icmp .le 11, 3), (22, .new 46, 3), (25, .dup, 1), (26, .invokespecial 48, 3), (29, .athrow, 1), (30, .return_, 1)]
def z_X6_needPlace : fm_Y := (yX6_needPlace, RX6, cX6_needPlace, 3, none, k_X6_needPlace, 6, 89)
theorem o_X6_needPlace : fm_dec z_X6_needPlace := (by decide +kernel : ∀ q ∈ k_X6_needPlace, decode cX6_needPlace q.1 = .ok q.2)
theorem cw_X6_needPlace : fm_cwV z_X6_needPlace := ⟨⟨lw_in 951 (by decide +kernel) (by decide +kernel), lw_in 91 (by decide +kernel) (by decide +kernel), by decide, by decide⟩, lw_in 950 (by decide +kernel) (by decide +kernel), lw_in 25 (by decide +kernel) (by decide +kernel)⟩
theorem pn_X6_needPlace : (parseMethodDescriptor z_X6_needPlace.1.desc).map (fun d => d.parameters.length) = some 2 := by decide +kernel
def f_X6_needPlace_22 (P : Nat) (a1 : Int32) (a2 : Int32)  (M : fm_Mem) : Option (Nat ⊕ Unit) := some (.inl 0)
set_option maxRecDepth 100000 in
set_option maxHeartbeats 4000000 in
theorem t_X6_needPlace_22 (g : fm_G) (l : Launch) (hl : l.stackTraces = false) (P : Nat) (a1 : Int32) (a2 : Int32) (hP : fm_kd g P = 6) (w : fm_W)    (M : fm_Mem) : Tt g l z_X6_needPlace (exV M w) (f_X6_needPlace_22 P a1 a2   M) 22 [] [] (M, w) := by
  rw [f_X6_needPlace_22]
  exact Tt.ret (Tr.thr (k := 0) fx0 rfl rfl rfl rfl (Nat.le_of_ble_eq_true rfl) (Nat.le_of_ble_eq_true rfl))
def f_X6_needPlace (P : Nat) (a1 : Int32) (a2 : Int32) (M : fm_Mem) : Option (Nat ⊕ Unit) := if a1 < 0 then (f_X6_needPlace_22 P a1 a2 M) else (if (200 : Int32) < a1 then (f_X6_needPlace_22 P a1 a2 M) else (if a2 < 0 then (f_X6_needPlace_22 P a1 a2 M) else (if a2 ≤ (200 : Int32) then (some (.inr (()))) else (f_X6_needPlace_22 P a1 a2 M))))
set_option maxRecDepth 100000 in
set_option maxHeartbeats 4000000 in
theorem t_X6_needPlace (g : fm_G) (l : Launch) (hl : l.stackTraces = false) (P : Nat) (a1 : Int32) (a2 : Int32) (hP : fm_kd g P = 6) (M : fm_Mem) (w : fm_W) : Tt g l z_X6_needPlace (exV M w) (f_X6_needPlace P a1 a2 M) 0 [(0, .ref P), (1, .int a1), (2, .int a2)] [] (M, w) := by
  rw [f_X6_needPlace]
  refine Tt.go (fun _ => Tr.run 1 (pc' := 1) (lv' := [(0, .ref P), (1, .int a1), (2, .int a2)]) (st' := [.int a1]) rfl) ?_
  refine Tt.if_lt (tgt := 22) rfl (by decide) ?_ ?_
  · refine Tt.go (fun _ => Tr.sub (lv' := []) [] rfl) ?_
    exact t_X6_needPlace_22 g l hl P a1 a2 hP w M
  · refine Tt.go (fun _ => Tr.run 2 (pc' := 8) (lv' := [(0, .ref P), (1, .int a1), (2, .int a2)]) (st' := [.int (200 : Int32), .int a1]) rfl) ?_
    refine Tt.ic_gt (tgt := 22) rfl (by decide) ?_ ?_
    · refine Tt.go (fun _ => Tr.sub (lv' := []) [] rfl) ?_
      exact t_X6_needPlace_22 g l hl P a1 a2 hP w M
    · refine Tt.go (fun _ => Tr.run 1 (pc' := 12) (lv' := [(0, .ref P), (1, .int a1), (2, .int a2)]) (st' := [.int a2]) rfl) ?_
      refine Tt.if_lt (tgt := 22) rfl (by decide) ?_ ?_
      · refine Tt.go (fun _ => Tr.sub (lv' := []) [] rfl) ?_
        exact t_X6_needPlace_22 g l hl P a1 a2 hP w M
      · refine Tt.go (fun _ => Tr.run 2 (pc' := 19) (lv' := [(0, .ref P), (1, .int a1), (2, .int a2)]) (st' := [.int (200 : Int32), .int a2]) rfl) ?_
        refine Tt.ic_le (tgt := 30) rfl (by decide) ?_ ?_
        · exact Tt.ret (Tr.vret rfl rfl)
        · refine Tt.go (fun _ => Tr.sub (lv' := []) [] rfl) ?_
          exact t_X6_needPlace_22 g l hl P a1 a2 hP w M
theorem c_X6_needPlace (g : fm_G) (l : Launch) (hl : l.stackTraces = false) (P : Nat) (a1 : Int32) (a2 : Int32) (hP : fm_kd g P = 6) (M : fm_Mem) (w : fm_W) : ∀ r, f_X6_needPlace P a1 a2 M = some r → fC g l z_X6_needPlace [.ref P, .int a1, .int a2] (M, w) (exV M w r) := fun r hr => fC.of (by decide) rfl o_X6_needPlace hl (Nat.le_of_ble_eq_true rfl) (t_X6_needPlace g l hl P a1 a2 hP M w r hr)
def k_X6_pointsChanged : List (Nat × Instr × Nat) := [(0, .aload_n 0, 1), (1, .getfield 19, 3), (4, .invokevirtual 267, 3), (7, .aload_n 0, 1), (8, .getfield 26, 3), (11, .aload_n 0, 1), (12, .getfield 19, 3), (15, .getfield 64, 3), (18, .invokevirtual 68, 3), (21, .return_, 1)]
def z_X6_pointsChanged : fm_Y := (yX6_pointsChanged, RX6, cX6_pointsChanged, 1, none, k_X6_pointsChanged, 5, 122)
theorem o_X6_pointsChanged : fm_dec z_X6_pointsChanged := (by decide +kernel : ∀ q ∈ k_X6_pointsChanged, decode cX6_pointsChanged q.1 = .ok q.2)
theorem cw_X6_pointsChanged : fm_cwV z_X6_pointsChanged := ⟨⟨lw_in 972 (by decide +kernel) (by decide +kernel), lw_in 91 (by decide +kernel) (by decide +kernel), by decide, by decide⟩, lw_in 971 (by decide +kernel) (by decide +kernel), lw_in 26 (by decide +kernel) (by decide +kernel)⟩
theorem pn_X6_pointsChanged : (parseMethodDescriptor z_X6_pointsChanged.1.desc).map (fun d => d.parameters.length) = some 0 := by decide +kernel
def f_X6_pointsChanged (P : Nat) (M : fm_Mem) : Option (fm_Mem) := Option.bind (f_X2_renew (P + 20) M) (fun v1 => Option.bind (f_X0_renew (P + 36) (P + 20 + 1) v1) (fun v2 => some (v2)))
set_option maxRecDepth 100000 in
set_option maxHeartbeats 4000000 in
theorem t_X6_pointsChanged (g : fm_G) (l : Launch) (hl : l.stackTraces = false) (P : Nat) (hP : fm_kd g P = 6) (M : fm_Mem) (w : fm_W) : Tt g l z_X6_pointsChanged (emVw M w) (f_X6_pointsChanged P M) 0 [(0, .ref P)] [] (M, w) := by
  rw [f_X6_pointsChanged]
  refine Tt.go (fun _ => Tr.run 1 (pc' := 1) (lv' := [(0, .ref P)]) (st' := [.ref P]) rfl) ?_
  refine Tt.go (fun _ => Tr.get fmc6 hP rfl fw268 (k := 1) (by decide) rfl) (?_ : Tt g l z_X6_pointsChanged (emVw M w) _ 4 [(0, .ref P)] [.ref (P + 20)] (M, w))
  refine Tt.callV (As := []) (rest := []) (c_X2_renew g l hl (P + 20) (fmk_6_1 hP) M w) (fmk_6_1 hP) (by decide) rfl rfl cw_X2_renew fw973 pn_X2_renew (Nat.le_of_ble_eq_true rfl) (Nat.le_of_ble_eq_true rfl) (Nat.le_of_ble_eq_true rfl) rfl (fun v1 => (?_ : Tt g l z_X6_pointsChanged (emVw M w) _ 7 [(0, .ref P)] [] (v1, w)))
  refine Tt.go (fun _ => Tr.run 1 (pc' := 8) (lv' := [(0, .ref P)]) (st' := [.ref P]) rfl) ?_
  refine Tt.go (fun _ => Tr.get fmc6 hP rfl fw269 (k := 2) (by decide) rfl) (?_ : Tt g l z_X6_pointsChanged (emVw M w) _ 11 [(0, .ref P)] [.ref (P + 36)] (v1, w))
  refine Tt.go (fun _ => Tr.run 1 (pc' := 12) (lv' := [(0, .ref P)]) (st' := [.ref P, .ref (P + 36)]) rfl) ?_
  refine Tt.go (fun _ => Tr.get fmc6 hP rfl fw268 (k := 1) (by decide) rfl) (?_ : Tt g l z_X6_pointsChanged (emVw M w) _ 15 [(0, .ref P)] [.ref (P + 20), .ref (P + 36)] (v1, w))
  refine Tt.go (fun _ => Tr.getN fmc2 (fmk_6_1 hP) rfl nw186 (k := 0) (by decide) rfl) (?_ : Tt g l z_X6_pointsChanged (emVw M w) _ 18 [(0, .ref P)] [.ref (P + 20 + 1), .ref (P + 36)] (v1, w))
  refine Tt.callV (As := [.ref (P + 20 + 1)]) (rest := []) (c_X0_renew g l hl (P + 36) (P + 20 + 1) (fmk_6_2 hP) (fmk_2_0 (fmk_6_1 hP)) v1 w) (fmk_6_2 hP) (by decide) rfl rfl cw_X0_renew fw420 pn_X0_renew (Nat.le_of_ble_eq_true rfl) (Nat.le_of_ble_eq_true rfl) (Nat.le_of_ble_eq_true rfl) rfl (fun v2 => (?_ : Tt g l z_X6_pointsChanged (emVw M w) _ 21 [(0, .ref P)] [] (v2, w)))
  exact Tt.ret (Tr.vret rfl rfl)
theorem c_X6_pointsChanged (g : fm_G) (l : Launch) (hl : l.stackTraces = false) (P : Nat) (hP : fm_kd g P = 6) (M : fm_Mem) (w : fm_W) : ∀ r, f_X6_pointsChanged P M = some r → fC g l z_X6_pointsChanged [.ref P] (M, w) (emVw M w r) := fun r hr => fC.of (by decide) rfl o_X6_pointsChanged hl (Nat.le_of_ble_eq_true rfl) (t_X6_pointsChanged g l hl P hP M w r hr)
def k_X6_put : List (Nat × Instr × Nat) := [(0, .aload_n 0, 1), (1, .iload_n 1, 1), (2, .iload_n 2, 1), (3, .invokevirtual 207, 3), (6, .aload_n 0, 1), (7, .getfield 19, 3), (10, .getfield 64, 3), (13, .astore_n 3, 1), (14, .aload_n 3, 1), (15, .invokevirtual 72, 3), (18, .bipush 20, 2), (20, .if_icmp .ge 12, 3), (23, .aload_n 3, 1), (24, .iload_n 1, 1), (25, .iload_n 2, 1), (26, .invokevirtual 210, 3), (29, .ifCond .lt 11, 3), (32, .new 213, 3), (35, .dup, 1), (36, .invokespecial 215, 3), (39, .athrow, 1), (40, .aload_n 0, 1), (41, .invokevirtual 56, 3), (44, .aload_n 3, 1), (45, .iload_n 1, 1), (46, .iload_n 2, 1), (47, .invokevirtual 216, 3), (50, .aload_n 0, 1), (51, .getfield 19, 3), (54, .dup, 1), (55, .getfield 110, 3), (58, .iconst 1, 1), (59, .iadd, 1), (60, .putfield 110, 3), (63, .aload_n 0, 1), (64, .invokevirtual 219, 3), (67, .aload_n 3, 1), (68, .invokevirtual 72, 3), (71, .iconst 1, 1), (72, .isub, 1), (73, .ireturn, 1)]
def z_X6_put : fm_Y := (yX6_put, RX6, cX6_put, 4, (some .int), k_X6_put, 7, 142)
theorem o_X6_put : fm_dec z_X6_put := (by decide +kernel : ∀ q ∈ k_X6_put, decode cX6_put q.1 = .ok q.2)
theorem cw_X6_put : fm_cwV z_X6_put := ⟨⟨lw_in 947 (by decide +kernel) (by decide +kernel), lw_in 91 (by decide +kernel) (by decide +kernel), by decide, by decide⟩, lw_in 945 (by decide +kernel) (by decide +kernel), lw_in 946 (by decide +kernel) (by decide +kernel)⟩
theorem pn_X6_put : (parseMethodDescriptor z_X6_put.1.desc).map (fun d => d.parameters.length) = some 2 := by decide +kernel
def f_X6_put_32 (P : Nat) (a1 : Int32) (a2 : Int32)  (M : fm_Mem) : Option (Nat ⊕ (Int32 × fm_Mem)) := some (.inl 1)
set_option maxRecDepth 100000 in
set_option maxHeartbeats 4000000 in
theorem t_X6_put_32 (g : fm_G) (l : Launch) (hl : l.stackTraces = false) (P : Nat) (a1 : Int32) (a2 : Int32) (hP : fm_kd g P = 6) (w : fm_W)    (M : fm_Mem) : Tt g l z_X6_put (exIw M w) (f_X6_put_32 P a1 a2   M) 32 [] [] (M, w) := by
  rw [f_X6_put_32]
  exact Tt.ret (Tr.thr (k := 1) fx1 rfl rfl rfl rfl (Nat.le_of_ble_eq_true rfl) (Nat.le_of_ble_eq_true rfl))
def f_X6_put (P : Nat) (a1 : Int32) (a2 : Int32) (M : fm_Mem) : Option (Nat ⊕ (Int32 × fm_Mem)) := fm_bx (f_X6_needPlace P a1 a2 M) (fun v1 => Option.bind (f_X3_size (P + 20 + 1) M) (fun v2 => if (20 : Int32) ≤ v2 then (f_X6_put_32 P a1 a2 M) else (Option.bind (f_X3_find (P + 20 + 1) a1 a2 M) (fun v3 => if v3 < 0 then (Option.bind (f_X6_remember P M) (fun v4 => Option.bind (f_X3_add (P + 20 + 1) a1 a2 v4) (fun v5 => Option.bind (f_X6_pointsChanged P (fm_up v5 (P + 20) 4 ((v5 (P + 20) 4) + (1 : Int32)))) (fun v6 => Option.bind (f_X3_size (P + 20 + 1) v6) (fun v7 => some (.inr (((v7 - (1 : Int32)), v6)))))))) else (f_X6_put_32 P a1 a2 M)))))
set_option maxRecDepth 100000 in
set_option maxHeartbeats 4000000 in
theorem t_X6_put (g : fm_G) (l : Launch) (hl : l.stackTraces = false) (P : Nat) (a1 : Int32) (a2 : Int32) (hP : fm_kd g P = 6) (M : fm_Mem) (w : fm_W) : Tt g l z_X6_put (exIw M w) (f_X6_put P a1 a2 M) 0 [(0, .ref P), (1, .int a1), (2, .int a2)] [] (M, w) := by
  rw [f_X6_put]
  refine Tt.go (fun _ => Tr.run 3 (pc' := 3) (lv' := [(0, .ref P), (1, .int a1), (2, .int a2)]) (st' := [.int a2, .int a1, .ref P]) rfl) ?_
  refine Tt.callX (As := [.int a1, .int a2]) (rest := []) (c_X6_needPlace g l hl P a1 a2 hP M w) hP (by decide) rfl rfl cw_X6_needPlace fw948 pn_X6_needPlace (Nat.le_of_ble_eq_true rfl) (Nat.le_of_ble_eq_true rfl) (Nat.le_of_ble_eq_true rfl) rfl (fun v1 => (?_ : Tt g l z_X6_put (exIw M w) _ 6 [(0, .ref P), (1, .int a1), (2, .int a2)] [] (M, w)))
  refine Tt.go (fun _ => Tr.run 1 (pc' := 7) (lv' := [(0, .ref P), (1, .int a1), (2, .int a2)]) (st' := [.ref P]) rfl) ?_
  refine Tt.go (fun _ => Tr.get fmc6 hP rfl fw268 (k := 1) (by decide) rfl) (?_ : Tt g l z_X6_put (exIw M w) _ 10 [(0, .ref P), (1, .int a1), (2, .int a2)] [.ref (P + 20)] (M, w))
  refine Tt.go (fun _ => Tr.getN fmc2 (fmk_6_1 hP) rfl nw186 (k := 0) (by decide) rfl) (?_ : Tt g l z_X6_put (exIw M w) _ 13 [(0, .ref P), (1, .int a1), (2, .int a2)] [.ref (P + 20 + 1)] (M, w))
  refine Tt.go (fun _ => Tr.run 2 (pc' := 15) (lv' := [(3, .ref (P + 20 + 1)), (0, .ref P), (1, .int a1), (2, .int a2)]) (st' := [.ref (P + 20 + 1)]) rfl) ?_
  refine Tt.callV (As := []) (rest := []) (c_X3_size g l hl (P + 20 + 1) (fmk_2_0 (fmk_6_1 hP)) M w) (fmk_2_0 (fmk_6_1 hP)) (by decide) rfl rfl cw_X3_size fw368 pn_X3_size (Nat.le_of_ble_eq_true rfl) (Nat.le_of_ble_eq_true rfl) (Nat.le_of_ble_eq_true rfl) rfl (fun v2 => (?_ : Tt g l z_X6_put (exIw M w) _ 18 [(3, .ref (P + 20 + 1)), (0, .ref P), (1, .int a1), (2, .int a2)] [.int v2] (M, w)))
  refine Tt.go (fun _ => Tr.run 1 (pc' := 20) (lv' := [(3, .ref (P + 20 + 1)), (0, .ref P), (1, .int a1), (2, .int a2)]) (st' := [.int (20 : Int32), .int v2]) rfl) ?_
  refine Tt.ic_ge (tgt := 32) rfl (by decide) ?_ ?_
  · refine Tt.go (fun _ => Tr.sub (lv' := []) [] rfl) ?_
    exact t_X6_put_32 g l hl P a1 a2 hP w M
  · refine Tt.go (fun _ => Tr.run 3 (pc' := 26) (lv' := [(3, .ref (P + 20 + 1)), (0, .ref P), (1, .int a1), (2, .int a2)]) (st' := [.int a2, .int a1, .ref (P + 20 + 1)]) rfl) ?_
    refine Tt.callV (As := [.int a1, .int a2]) (rest := []) (c_X3_find g l hl (P + 20 + 1) a1 a2 (fmk_2_0 (fmk_6_1 hP)) M w) (fmk_2_0 (fmk_6_1 hP)) (by decide) rfl rfl cw_X3_find fw952 pn_X3_find (Nat.le_of_ble_eq_true rfl) (Nat.le_of_ble_eq_true rfl) (Nat.le_of_ble_eq_true rfl) rfl (fun v3 => (?_ : Tt g l z_X6_put (exIw M w) _ 29 [(3, .ref (P + 20 + 1)), (0, .ref P), (1, .int a1), (2, .int a2)] [.int v3] (M, w)))
    refine Tt.if_lt (tgt := 40) rfl (by decide) ?_ ?_
    · refine Tt.go (fun _ => Tr.run 1 (pc' := 41) (lv' := [(3, .ref (P + 20 + 1)), (0, .ref P), (1, .int a1), (2, .int a2)]) (st' := [.ref P]) rfl) ?_
      refine Tt.callV (As := []) (rest := []) (c_X6_remember g l hl P hP M w) hP (by decide) rfl rfl cw_X6_remember fw820 pn_X6_remember (Nat.le_of_ble_eq_true rfl) (Nat.le_of_ble_eq_true rfl) (Nat.le_of_ble_eq_true rfl) rfl (fun v4 => (?_ : Tt g l z_X6_put (exIw M w) _ 44 [(3, .ref (P + 20 + 1)), (0, .ref P), (1, .int a1), (2, .int a2)] [] (v4, w)))
      refine Tt.go (fun _ => Tr.run 3 (pc' := 47) (lv' := [(3, .ref (P + 20 + 1)), (0, .ref P), (1, .int a1), (2, .int a2)]) (st' := [.int a2, .int a1, .ref (P + 20 + 1)]) rfl) ?_
      refine Tt.callV (As := [.int a1, .int a2]) (rest := []) (c_X3_add g l hl (P + 20 + 1) a1 a2 (fmk_2_0 (fmk_6_1 hP)) v4 w) (fmk_2_0 (fmk_6_1 hP)) (by decide) rfl rfl cw_X3_add fw968 pn_X3_add (Nat.le_of_ble_eq_true rfl) (Nat.le_of_ble_eq_true rfl) (Nat.le_of_ble_eq_true rfl) rfl (fun v5 => (?_ : Tt g l z_X6_put (exIw M w) _ 50 [(3, .ref (P + 20 + 1)), (0, .ref P), (1, .int a1), (2, .int a2)] [] (v5, w)))
      refine Tt.go (fun _ => Tr.run 1 (pc' := 51) (lv' := [(3, .ref (P + 20 + 1)), (0, .ref P), (1, .int a1), (2, .int a2)]) (st' := [.ref P]) rfl) ?_
      refine Tt.go (fun _ => Tr.get fmc6 hP rfl fw268 (k := 1) (by decide) rfl) (?_ : Tt g l z_X6_put (exIw M w) _ 54 [(3, .ref (P + 20 + 1)), (0, .ref P), (1, .int a1), (2, .int a2)] [.ref (P + 20)] (v5, w))
      refine Tt.go (fun _ => Tr.run 1 (pc' := 55) (lv' := [(3, .ref (P + 20 + 1)), (0, .ref P), (1, .int a1), (2, .int a2)]) (st' := [.ref (P + 20), .ref (P + 20)]) rfl) ?_
      refine Tt.go (fun _ => Tr.getN fmc2 (fmk_6_1 hP) rfl nw195 (k := 4) (by decide) rfl) (?_ : Tt g l z_X6_put (exIw M w) _ 58 [(3, .ref (P + 20 + 1)), (0, .ref P), (1, .int a1), (2, .int a2)] [.int (v5 (P + 20) 4), .ref (P + 20)] (v5, w))
      refine Tt.go (fun _ => Tr.run 2 (pc' := 60) (lv' := [(3, .ref (P + 20 + 1)), (0, .ref P), (1, .int a1), (2, .int a2)]) (st' := [.int ((v5 (P + 20) 4) + (1 : Int32)), .ref (P + 20)]) rfl) ?_
      refine Tt.go (fun _ => Tr.putN fmc2 (fmk_6_1 hP) rfl nw195 (k := 4) (by decide) rfl rfl ⟨rfl, rfl⟩) (?_ : Tt g l z_X6_put (exIw M w) _ 63 [(3, .ref (P + 20 + 1)), (0, .ref P), (1, .int a1), (2, .int a2)] [] ((fm_up v5 (P + 20) 4 ((v5 (P + 20) 4) + (1 : Int32))), w))
      refine Tt.go (fun _ => Tr.run 1 (pc' := 64) (lv' := [(3, .ref (P + 20 + 1)), (0, .ref P), (1, .int a1), (2, .int a2)]) (st' := [.ref P]) rfl) ?_
      refine Tt.callV (As := []) (rest := []) (c_X6_pointsChanged g l hl P hP (fm_up v5 (P + 20) 4 ((v5 (P + 20) 4) + (1 : Int32))) w) hP (by decide) rfl rfl cw_X6_pointsChanged fw969 pn_X6_pointsChanged (Nat.le_of_ble_eq_true rfl) (Nat.le_of_ble_eq_true rfl) (Nat.le_of_ble_eq_true rfl) rfl (fun v6 => (?_ : Tt g l z_X6_put (exIw M w) _ 67 [(3, .ref (P + 20 + 1)), (0, .ref P), (1, .int a1), (2, .int a2)] [] (v6, w)))
      refine Tt.go (fun _ => Tr.run 1 (pc' := 68) (lv' := [(3, .ref (P + 20 + 1)), (0, .ref P), (1, .int a1), (2, .int a2)]) (st' := [.ref (P + 20 + 1)]) rfl) ?_
      refine Tt.callV (As := []) (rest := []) (c_X3_size g l hl (P + 20 + 1) (fmk_2_0 (fmk_6_1 hP)) v6 w) (fmk_2_0 (fmk_6_1 hP)) (by decide) rfl rfl cw_X3_size fw368 pn_X3_size (Nat.le_of_ble_eq_true rfl) (Nat.le_of_ble_eq_true rfl) (Nat.le_of_ble_eq_true rfl) rfl (fun v7 => (?_ : Tt g l z_X6_put (exIw M w) _ 71 [(3, .ref (P + 20 + 1)), (0, .ref P), (1, .int a1), (2, .int a2)] [.int v7] (v6, w)))
      refine Tt.go (fun _ => Tr.run 2 (pc' := 73) (lv' := [(3, .ref (P + 20 + 1)), (0, .ref P), (1, .int a1), (2, .int a2)]) (st' := [.int (v7 - (1 : Int32))]) rfl) ?_
      exact Tt.ret (Tr.iret rfl rfl)
    · refine Tt.go (fun _ => Tr.sub (lv' := []) [] rfl) ?_
      exact t_X6_put_32 g l hl P a1 a2 hP w M
theorem c_X6_put (g : fm_G) (l : Launch) (hl : l.stackTraces = false) (P : Nat) (a1 : Int32) (a2 : Int32) (hP : fm_kd g P = 6) (M : fm_Mem) (w : fm_W) : ∀ r, f_X6_put P a1 a2 M = some r → fC g l z_X6_put [.ref P, .int a1, .int a2] (M, w) (exIw M w r) := fun r hr => fC.of (by decide) rfl o_X6_put hl (Nat.le_of_ble_eq_true rfl) (t_X6_put g l hl P a1 a2 hP M w r hr)
def k_X6_take : List (Nat × Instr × Nat) := [(0, .aload_n 0, 1), (1, .iload_n 1, 1), (2, .invokevirtual 113, 3), (5, .aload_n 0, 1), (6, .invokevirtual 56, 3), (9, .aload_n 0, 1), (10, .getfield 19, 3), (13, .getfield 64, 3), (16, .iload_n 1, 1), (17, .invokevirtual 222, 3), (20, .aload_n 0, 1), (21, .invokevirtual 219, 3), (24, .aload_n 0, 1), (25, .getfield 19, 3), (28, .getfield 91, 3), (31, .invokevirtual 79, 3), (34, .ireturn, 1)]
def z_X6_take : fm_Y := (yX6_take, RX6, cX6_take, 2, (some .int), k_X6_take, 7, 142)
theorem o_X6_take : fm_dec z_X6_take := (by decide +kernel : ∀ q ∈ k_X6_take, decode cX6_take q.1 = .ok q.2)
theorem cw_X6_take : fm_cwV z_X6_take := ⟨⟨lw_in 980 (by decide +kernel) (by decide +kernel), lw_in 91 (by decide +kernel) (by decide +kernel), by decide, by decide⟩, lw_in 978 (by decide +kernel) (by decide +kernel), lw_in 979 (by decide +kernel) (by decide +kernel)⟩
theorem pn_X6_take : (parseMethodDescriptor z_X6_take.1.desc).map (fun d => d.parameters.length) = some 1 := by decide +kernel
def f_X6_take (P : Nat) (a1 : Int32) (M : fm_Mem) : Option (Nat ⊕ (Int32 × fm_Mem)) := fm_bx (f_X6_needPoint P a1 M) (fun v1 => Option.bind (f_X6_remember P M) (fun v2 => Option.bind (f_X3_remove (P + 20 + 1) a1 v2) (fun v3 => Option.bind (f_X6_pointsChanged P v3) (fun v4 => Option.bind (f_X1_size (P + 20 + 11) v4) (fun v5 => some (.inr ((v5, v4))))))))
set_option maxRecDepth 100000 in
set_option maxHeartbeats 4000000 in
theorem t_X6_take (g : fm_G) (l : Launch) (hl : l.stackTraces = false) (P : Nat) (a1 : Int32) (hP : fm_kd g P = 6) (M : fm_Mem) (w : fm_W) : Tt g l z_X6_take (exIw M w) (f_X6_take P a1 M) 0 [(0, .ref P), (1, .int a1)] [] (M, w) := by
  rw [f_X6_take]
  refine Tt.go (fun _ => Tr.run 2 (pc' := 2) (lv' := [(0, .ref P), (1, .int a1)]) (st' := [.int a1, .ref P]) rfl) ?_
  refine Tt.callX (As := [.int a1]) (rest := []) (c_X6_needPoint g l hl P a1 hP M w) hP (by decide) rfl rfl cw_X6_needPoint fw565 pn_X6_needPoint (Nat.le_of_ble_eq_true rfl) (Nat.le_of_ble_eq_true rfl) (Nat.le_of_ble_eq_true rfl) rfl (fun v1 => (?_ : Tt g l z_X6_take (exIw M w) _ 5 [(0, .ref P), (1, .int a1)] [] (M, w)))
  refine Tt.go (fun _ => Tr.run 1 (pc' := 6) (lv' := [(0, .ref P), (1, .int a1)]) (st' := [.ref P]) rfl) ?_
  refine Tt.callV (As := []) (rest := []) (c_X6_remember g l hl P hP M w) hP (by decide) rfl rfl cw_X6_remember fw820 pn_X6_remember (Nat.le_of_ble_eq_true rfl) (Nat.le_of_ble_eq_true rfl) (Nat.le_of_ble_eq_true rfl) rfl (fun v2 => (?_ : Tt g l z_X6_take (exIw M w) _ 9 [(0, .ref P), (1, .int a1)] [] (v2, w)))
  refine Tt.go (fun _ => Tr.run 1 (pc' := 10) (lv' := [(0, .ref P), (1, .int a1)]) (st' := [.ref P]) rfl) ?_
  refine Tt.go (fun _ => Tr.get fmc6 hP rfl fw268 (k := 1) (by decide) rfl) (?_ : Tt g l z_X6_take (exIw M w) _ 13 [(0, .ref P), (1, .int a1)] [.ref (P + 20)] (v2, w))
  refine Tt.go (fun _ => Tr.getN fmc2 (fmk_6_1 hP) rfl nw186 (k := 0) (by decide) rfl) (?_ : Tt g l z_X6_take (exIw M w) _ 16 [(0, .ref P), (1, .int a1)] [.ref (P + 20 + 1)] (v2, w))
  refine Tt.go (fun _ => Tr.run 1 (pc' := 17) (lv' := [(0, .ref P), (1, .int a1)]) (st' := [.int a1, .ref (P + 20 + 1)]) rfl) ?_
  refine Tt.callV (As := [.int a1]) (rest := []) (c_X3_remove g l hl (P + 20 + 1) a1 (fmk_2_0 (fmk_6_1 hP)) v2 w) (fmk_2_0 (fmk_6_1 hP)) (by decide) rfl rfl cw_X3_remove fw981 pn_X3_remove (Nat.le_of_ble_eq_true rfl) (Nat.le_of_ble_eq_true rfl) (Nat.le_of_ble_eq_true rfl) rfl (fun v3 => (?_ : Tt g l z_X6_take (exIw M w) _ 20 [(0, .ref P), (1, .int a1)] [] (v3, w)))
  refine Tt.go (fun _ => Tr.run 1 (pc' := 21) (lv' := [(0, .ref P), (1, .int a1)]) (st' := [.ref P]) rfl) ?_
  refine Tt.callV (As := []) (rest := []) (c_X6_pointsChanged g l hl P hP v3 w) hP (by decide) rfl rfl cw_X6_pointsChanged fw969 pn_X6_pointsChanged (Nat.le_of_ble_eq_true rfl) (Nat.le_of_ble_eq_true rfl) (Nat.le_of_ble_eq_true rfl) rfl (fun v4 => (?_ : Tt g l z_X6_take (exIw M w) _ 24 [(0, .ref P), (1, .int a1)] [] (v4, w)))
  refine Tt.go (fun _ => Tr.run 1 (pc' := 25) (lv' := [(0, .ref P), (1, .int a1)]) (st' := [.ref P]) rfl) ?_
  refine Tt.go (fun _ => Tr.get fmc6 hP rfl fw268 (k := 1) (by decide) rfl) (?_ : Tt g l z_X6_take (exIw M w) _ 28 [(0, .ref P), (1, .int a1)] [.ref (P + 20)] (v4, w))
  refine Tt.go (fun _ => Tr.getN fmc2 (fmk_6_1 hP) rfl nw191 (k := 2) (by decide) rfl) (?_ : Tt g l z_X6_take (exIw M w) _ 31 [(0, .ref P), (1, .int a1)] [.ref (P + 20 + 11)] (v4, w))
  refine Tt.callV (As := []) (rest := []) (c_X1_size g l hl (P + 20 + 11) (fmk_2_2 (fmk_6_1 hP)) v4 w) (fmk_2_2 (fmk_6_1 hP)) (by decide) rfl rfl cw_X1_size fw313 pn_X1_size (Nat.le_of_ble_eq_true rfl) (Nat.le_of_ble_eq_true rfl) (Nat.le_of_ble_eq_true rfl) rfl (fun v5 => (?_ : Tt g l z_X6_take (exIw M w) _ 34 [(0, .ref P), (1, .int a1)] [.int v5] (v4, w)))
  exact Tt.ret (Tr.iret rfl rfl)
theorem c_X6_take (g : fm_G) (l : Launch) (hl : l.stackTraces = false) (P : Nat) (a1 : Int32) (hP : fm_kd g P = 6) (M : fm_Mem) (w : fm_W) : ∀ r, f_X6_take P a1 M = some r → fC g l z_X6_take [.ref P, .int a1] (M, w) (exIw M w r) := fun r hr => fC.of (by decide) rfl o_X6_take hl (Nat.le_of_ble_eq_true rfl) (t_X6_take g l hl P a1 hP M w r hr)
def k_X6_move : List (Nat × Instr × Nat) := [(0, .aload_n 0, 1), (1, .iload_n 1, 1), (2, .invokevirtual 113, 3), (5, .aload_n 0, 1), (6, .iload_n 2, 1), (7, .iload_n 3, 1), (8, .invokevirtual 207, 3), (11, .aload_n 0, 1), (12, .getfield 19, 3), (15, .getfield 64, 3), (18, .iload_n 2, 1), (19, .iload_n 3, 1), (20, .invokevirtual 210, 3), (23, .istore 4, 2), (25, .iload 4, 2), (27, .ifCond .lt 17, 3), (30, .iload 4, 2), (32, .iload_n 1, 1), (33, .if_icmp .eq 11, 3), (36, .new 213, 3), (39, .dup, 1), (40, .invokespecial 215, 3), (43, .athrow, 1), (44, .aload_n 0, 1), (45, .invokevirtual 56, 3), (48, .aload_n 0, 1), (49, .getfield 19, 3), (52, .getfield 64, 3), (55, .iload_n 1, 1), (56, .iload_n 2, 1), (57, .iload_n 3, 1), (58, .invokevirtual 225, 3), (61, .aload_n 0, 1), (62, .invokevirtual 219, 3), (65, .aload_n 0, 1), (66, .getfield 19, 3), (69, .getfield 91, 3), (72, .aload_n 0, 1), (73, .aload_n 0, 1), (74, .getfield 229, 3), (77, .iconst 1, 1), (78, .isub, 1), (79, .invokevirtual 232, 3), (82, .getfield 91, 3), (85, .invokevirtual 236, 3), (88, .ireturn, 1)]
def z_X6_move : fm_Y := (yX6_move, RX6, cX6_move, 5, (some .int), k_X6_move, 7, 142)
theorem o_X6_move : fm_dec z_X6_move := (by decide +kernel : ∀ q ∈ k_X6_move, decode cX6_move q.1 = .ok q.2)
theorem cw_X6_move : fm_cwV z_X6_move := ⟨⟨lw_in 993 (by decide +kernel) (by decide +kernel), lw_in 91 (by decide +kernel) (by decide +kernel), by decide, by decide⟩, lw_in 991 (by decide +kernel) (by decide +kernel), lw_in 992 (by decide +kernel) (by decide +kernel)⟩
theorem pn_X6_move : (parseMethodDescriptor z_X6_move.1.desc).map (fun d => d.parameters.length) = some 3 := by decide +kernel
def f_X6_move_44 (P : Nat) (a1 : Int32) (a2 : Int32) (a3 : Int32)  (M : fm_Mem) : Option (Nat ⊕ (Int32 × fm_Mem)) := Option.bind (f_X6_remember P M) (fun v1 => Option.bind (f_X3_set (P + 20 + 1) a1 a2 a3 v1) (fun v2 => Option.bind (f_X6_pointsChanged P v2) (fun v3 => Option.bind (f_X6_pastOf P ((v3 P 4) - (1 : Int32)) v3) (fun v4 => Option.bind (f_X1_trianglesBeyond (P + 20 + 11) (v4 + 11) v3) (fun v6 => some (.inr ((v6, v3))))))))
set_option maxRecDepth 100000 in
set_option maxHeartbeats 4000000 in
theorem t_X6_move_44 (g : fm_G) (l : Launch) (hl : l.stackTraces = false) (P : Nat) (a1 : Int32) (a2 : Int32) (a3 : Int32) (hP : fm_kd g P = 6) (w : fm_W)    (M : fm_Mem) : Tt g l z_X6_move (exIw M w) (f_X6_move_44 P a1 a2 a3   M) 44 [(0, .ref P), (1, .int a1), (2, .int a2), (3, .int a3)] [] (M, w) := by
  rw [f_X6_move_44]
  refine Tt.go (fun _ => Tr.run 1 (pc' := 45) (lv' := [(0, .ref P), (1, .int a1), (2, .int a2), (3, .int a3)]) (st' := [.ref P]) rfl) ?_
  refine Tt.callV (As := []) (rest := []) (c_X6_remember g l hl P hP M w) hP (by decide) rfl rfl cw_X6_remember fw820 pn_X6_remember (Nat.le_of_ble_eq_true rfl) (Nat.le_of_ble_eq_true rfl) (Nat.le_of_ble_eq_true rfl) rfl (fun v1 => (?_ : Tt g l z_X6_move (exIw M w) _ 48 [(0, .ref P), (1, .int a1), (2, .int a2), (3, .int a3)] [] (v1, w)))
  refine Tt.go (fun _ => Tr.run 1 (pc' := 49) (lv' := [(0, .ref P), (1, .int a1), (2, .int a2), (3, .int a3)]) (st' := [.ref P]) rfl) ?_
  refine Tt.go (fun _ => Tr.get fmc6 hP rfl fw268 (k := 1) (by decide) rfl) (?_ : Tt g l z_X6_move (exIw M w) _ 52 [(0, .ref P), (1, .int a1), (2, .int a2), (3, .int a3)] [.ref (P + 20)] (v1, w))
  refine Tt.go (fun _ => Tr.getN fmc2 (fmk_6_1 hP) rfl nw186 (k := 0) (by decide) rfl) (?_ : Tt g l z_X6_move (exIw M w) _ 55 [(0, .ref P), (1, .int a1), (2, .int a2), (3, .int a3)] [.ref (P + 20 + 1)] (v1, w))
  refine Tt.go (fun _ => Tr.run 3 (pc' := 58) (lv' := [(0, .ref P), (1, .int a1), (2, .int a2), (3, .int a3)]) (st' := [.int a3, .int a2, .int a1, .ref (P + 20 + 1)]) rfl) ?_
  refine Tt.callV (As := [.int a1, .int a2, .int a3]) (rest := []) (c_X3_set g l hl (P + 20 + 1) a1 a2 a3 (fmk_2_0 (fmk_6_1 hP)) v1 w) (fmk_2_0 (fmk_6_1 hP)) (by decide) rfl rfl cw_X3_set fw994 pn_X3_set (Nat.le_of_ble_eq_true rfl) (Nat.le_of_ble_eq_true rfl) (Nat.le_of_ble_eq_true rfl) rfl (fun v2 => (?_ : Tt g l z_X6_move (exIw M w) _ 61 [(0, .ref P), (1, .int a1), (2, .int a2), (3, .int a3)] [] (v2, w)))
  refine Tt.go (fun _ => Tr.run 1 (pc' := 62) (lv' := [(0, .ref P), (1, .int a1), (2, .int a2), (3, .int a3)]) (st' := [.ref P]) rfl) ?_
  refine Tt.callV (As := []) (rest := []) (c_X6_pointsChanged g l hl P hP v2 w) hP (by decide) rfl rfl cw_X6_pointsChanged fw969 pn_X6_pointsChanged (Nat.le_of_ble_eq_true rfl) (Nat.le_of_ble_eq_true rfl) (Nat.le_of_ble_eq_true rfl) rfl (fun v3 => (?_ : Tt g l z_X6_move (exIw M w) _ 65 [(0, .ref P), (1, .int a1), (2, .int a2), (3, .int a3)] [] (v3, w)))
  refine Tt.go (fun _ => Tr.run 1 (pc' := 66) (lv' := [(0, .ref P), (1, .int a1), (2, .int a2), (3, .int a3)]) (st' := [.ref P]) rfl) ?_
  refine Tt.go (fun _ => Tr.get fmc6 hP rfl fw268 (k := 1) (by decide) rfl) (?_ : Tt g l z_X6_move (exIw M w) _ 69 [(0, .ref P), (1, .int a1), (2, .int a2), (3, .int a3)] [.ref (P + 20)] (v3, w))
  refine Tt.go (fun _ => Tr.getN fmc2 (fmk_6_1 hP) rfl nw191 (k := 2) (by decide) rfl) (?_ : Tt g l z_X6_move (exIw M w) _ 72 [(0, .ref P), (1, .int a1), (2, .int a2), (3, .int a3)] [.ref (P + 20 + 11)] (v3, w))
  refine Tt.go (fun _ => Tr.run 2 (pc' := 74) (lv' := [(0, .ref P), (1, .int a1), (2, .int a2), (3, .int a3)]) (st' := [.ref P, .ref P, .ref (P + 20 + 11)]) rfl) ?_
  refine Tt.go (fun _ => Tr.get fmc6 hP rfl fw271 (k := 4) (by decide) rfl) (?_ : Tt g l z_X6_move (exIw M w) _ 77 [(0, .ref P), (1, .int a1), (2, .int a2), (3, .int a3)] [.int (v3 P 4), .ref P, .ref (P + 20 + 11)] (v3, w))
  refine Tt.go (fun _ => Tr.run 2 (pc' := 79) (lv' := [(0, .ref P), (1, .int a1), (2, .int a2), (3, .int a3)]) (st' := [.int ((v3 P 4) - (1 : Int32)), .ref P, .ref (P + 20 + 11)]) rfl) ?_
  refine Tt.callVr (As := [.int ((v3 P 4) - (1 : Int32))]) (rest := [.ref (P + 20 + 11)]) (c_X6_pastOf g l hl P ((v3 P 4) - (1 : Int32)) hP v3 w) hP (by decide) rfl rfl cw_X6_pastOf fw390 pn_X6_pastOf (Nat.le_of_ble_eq_true rfl) (Nat.le_of_ble_eq_true rfl) (Nat.le_of_ble_eq_true rfl) rfl (fun v4 hq_5 => (?_ : Tt g l z_X6_move (exIw M w) _ 82 [(0, .ref P), (1, .int a1), (2, .int a2), (3, .int a3)] [.ref v4, .ref (P + 20 + 11)] (v3, w)))
  refine Tt.go (fun _ => Tr.getN fmc2 (kd_X6_pastOf hP hq_5) rfl nw191 (k := 2) (by decide) rfl) (?_ : Tt g l z_X6_move (exIw M w) _ 85 [(0, .ref P), (1, .int a1), (2, .int a2), (3, .int a3)] [.ref (v4 + 11), .ref (P + 20 + 11)] (v3, w))
  refine Tt.callV (As := [.ref (v4 + 11)]) (rest := []) (c_X1_trianglesBeyond g l hl (P + 20 + 11) (v4 + 11) (fmk_2_2 (fmk_6_1 hP)) (fmk_2_2 (kd_X6_pastOf hP hq_5)) v3 w) (fmk_2_2 (fmk_6_1 hP)) (by decide) rfl rfl cw_X1_trianglesBeyond fw995 pn_X1_trianglesBeyond (Nat.le_of_ble_eq_true rfl) (Nat.le_of_ble_eq_true rfl) (Nat.le_of_ble_eq_true rfl) rfl (fun v6 => (?_ : Tt g l z_X6_move (exIw M w) _ 88 [(0, .ref P), (1, .int a1), (2, .int a2), (3, .int a3)] [.int v6] (v3, w)))
  exact Tt.ret (Tr.iret rfl rfl)
def f_X6_move (P : Nat) (a1 : Int32) (a2 : Int32) (a3 : Int32) (M : fm_Mem) : Option (Nat ⊕ (Int32 × fm_Mem)) := fm_bx (f_X6_needPoint P a1 M) (fun v1 => fm_bx (f_X6_needPlace P a2 a3 M) (fun v2 => Option.bind (f_X3_find (P + 20 + 1) a2 a3 M) (fun v3 => if v3 < 0 then (f_X6_move_44 P a1 a2 a3 M) else (if v3 = a1 then (f_X6_move_44 P a1 a2 a3 M) else (some (.inl 1))))))
set_option maxRecDepth 100000 in
set_option maxHeartbeats 4000000 in
theorem t_X6_move (g : fm_G) (l : Launch) (hl : l.stackTraces = false) (P : Nat) (a1 : Int32) (a2 : Int32) (a3 : Int32) (hP : fm_kd g P = 6) (M : fm_Mem) (w : fm_W) : Tt g l z_X6_move (exIw M w) (f_X6_move P a1 a2 a3 M) 0 [(0, .ref P), (1, .int a1), (2, .int a2), (3, .int a3)] [] (M, w) := by
  rw [f_X6_move]
  refine Tt.go (fun _ => Tr.run 2 (pc' := 2) (lv' := [(0, .ref P), (1, .int a1), (2, .int a2), (3, .int a3)]) (st' := [.int a1, .ref P]) rfl) ?_
  refine Tt.callX (As := [.int a1]) (rest := []) (c_X6_needPoint g l hl P a1 hP M w) hP (by decide) rfl rfl cw_X6_needPoint fw565 pn_X6_needPoint (Nat.le_of_ble_eq_true rfl) (Nat.le_of_ble_eq_true rfl) (Nat.le_of_ble_eq_true rfl) rfl (fun v1 => (?_ : Tt g l z_X6_move (exIw M w) _ 5 [(0, .ref P), (1, .int a1), (2, .int a2), (3, .int a3)] [] (M, w)))
  refine Tt.go (fun _ => Tr.run 3 (pc' := 8) (lv' := [(0, .ref P), (1, .int a1), (2, .int a2), (3, .int a3)]) (st' := [.int a3, .int a2, .ref P]) rfl) ?_
  refine Tt.callX (As := [.int a2, .int a3]) (rest := []) (c_X6_needPlace g l hl P a2 a3 hP M w) hP (by decide) rfl rfl cw_X6_needPlace fw948 pn_X6_needPlace (Nat.le_of_ble_eq_true rfl) (Nat.le_of_ble_eq_true rfl) (Nat.le_of_ble_eq_true rfl) rfl (fun v2 => (?_ : Tt g l z_X6_move (exIw M w) _ 11 [(0, .ref P), (1, .int a1), (2, .int a2), (3, .int a3)] [] (M, w)))
  refine Tt.go (fun _ => Tr.run 1 (pc' := 12) (lv' := [(0, .ref P), (1, .int a1), (2, .int a2), (3, .int a3)]) (st' := [.ref P]) rfl) ?_
  refine Tt.go (fun _ => Tr.get fmc6 hP rfl fw268 (k := 1) (by decide) rfl) (?_ : Tt g l z_X6_move (exIw M w) _ 15 [(0, .ref P), (1, .int a1), (2, .int a2), (3, .int a3)] [.ref (P + 20)] (M, w))
  refine Tt.go (fun _ => Tr.getN fmc2 (fmk_6_1 hP) rfl nw186 (k := 0) (by decide) rfl) (?_ : Tt g l z_X6_move (exIw M w) _ 18 [(0, .ref P), (1, .int a1), (2, .int a2), (3, .int a3)] [.ref (P + 20 + 1)] (M, w))
  refine Tt.go (fun _ => Tr.run 2 (pc' := 20) (lv' := [(0, .ref P), (1, .int a1), (2, .int a2), (3, .int a3)]) (st' := [.int a3, .int a2, .ref (P + 20 + 1)]) rfl) ?_
  refine Tt.callV (As := [.int a2, .int a3]) (rest := []) (c_X3_find g l hl (P + 20 + 1) a2 a3 (fmk_2_0 (fmk_6_1 hP)) M w) (fmk_2_0 (fmk_6_1 hP)) (by decide) rfl rfl cw_X3_find fw952 pn_X3_find (Nat.le_of_ble_eq_true rfl) (Nat.le_of_ble_eq_true rfl) (Nat.le_of_ble_eq_true rfl) rfl (fun v3 => (?_ : Tt g l z_X6_move (exIw M w) _ 23 [(0, .ref P), (1, .int a1), (2, .int a2), (3, .int a3)] [.int v3] (M, w)))
  refine Tt.go (fun _ => Tr.run 2 (pc' := 27) (lv' := [(4, .int v3), (0, .ref P), (1, .int a1), (2, .int a2), (3, .int a3)]) (st' := [.int v3]) rfl) ?_
  refine Tt.if_lt (tgt := 44) rfl (by decide) ?_ ?_
  · refine Tt.go (fun _ => Tr.sub (lv' := [(0, .ref P), (1, .int a1), (2, .int a2), (3, .int a3)]) [1, 2, 3, 4] rfl) ?_
    exact t_X6_move_44 g l hl P a1 a2 a3 hP w M
  · refine Tt.go (fun _ => Tr.run 2 (pc' := 33) (lv' := [(4, .int v3), (0, .ref P), (1, .int a1), (2, .int a2), (3, .int a3)]) (st' := [.int a1, .int v3]) rfl) ?_
    refine Tt.ic_eq (tgt := 44) rfl (by decide) ?_ ?_
    · refine Tt.go (fun _ => Tr.sub (lv' := [(0, .ref P), (1, .int a1), (2, .int a2), (3, .int a3)]) [1, 2, 3, 4] rfl) ?_
      exact t_X6_move_44 g l hl P a1 a2 a3 hP w M
    · exact Tt.ret (Tr.thr (k := 1) fx1 rfl rfl rfl rfl (Nat.le_of_ble_eq_true rfl) (Nat.le_of_ble_eq_true rfl))
theorem c_X6_move (g : fm_G) (l : Launch) (hl : l.stackTraces = false) (P : Nat) (a1 : Int32) (a2 : Int32) (a3 : Int32) (hP : fm_kd g P = 6) (M : fm_Mem) (w : fm_W) : ∀ r, f_X6_move P a1 a2 a3 M = some r → fC g l z_X6_move [.ref P, .int a1, .int a2, .int a3] (M, w) (exIw M w r) := fun r hr => fC.of (by decide) rfl o_X6_move hl (Nat.le_of_ble_eq_true rfl) (t_X6_move g l hl P a1 a2 a3 hP M w r hr)
def k_X6_flip : List (Nat × Instr × Nat) := [(0, .aload_n 0, 1), (1, .iload_n 1, 1), (2, .invokevirtual 113, 3), (5, .aload_n 0, 1), (6, .iload_n 2, 1), (7, .invokevirtual 113, 3), (10, .aload_n 0, 1), (11, .getfield 19, 3), (14, .iload_n 1, 1), (15, .iload_n 2, 1), (16, .invokevirtual 169, 3), (19, .ifCond .eq 11, 3), (22, .new 213, 3), (25, .dup, 1), (26, .invokespecial 215, 3), (29, .athrow, 1), (30, .aload_n 0, 1), (31, .invokevirtual 56, 3), (34, .aload_n 0, 1), (35, .getfield 19, 3), (38, .iload_n 1, 1), (39, .iload_n 2, 1), (40, .invokevirtual 239, 3), (43, .ireturn, 1)]
def z_X6_flip : fm_Y := (yX6_flip, RX6, cX6_flip, 3, (some .int), k_X6_flip, 7, 124)
theorem o_X6_flip : fm_dec z_X6_flip := (by decide +kernel : ∀ q ∈ k_X6_flip, decode cX6_flip q.1 = .ok q.2)
theorem cw_X6_flip : fm_cwV z_X6_flip := ⟨⟨lw_in 1009 (by decide +kernel) (by decide +kernel), lw_in 91 (by decide +kernel) (by decide +kernel), by decide, by decide⟩, lw_in 1007 (by decide +kernel) (by decide +kernel), lw_in 1008 (by decide +kernel) (by decide +kernel)⟩
theorem pn_X6_flip : (parseMethodDescriptor z_X6_flip.1.desc).map (fun d => d.parameters.length) = some 2 := by decide +kernel
def f_X6_flip (P : Nat) (a1 : Int32) (a2 : Int32) (M : fm_Mem) : Option (Nat ⊕ (Int32 × fm_Mem)) := fm_bx (f_X6_needPoint P a1 M) (fun v1 => fm_bx (f_X6_needPoint P a2 M) (fun v2 => Option.bind (f_X2_refusal (P + 20) a1 a2 M) (fun v3 => if v3 = 0 then (Option.bind (f_X6_remember P M) (fun v4 => Option.bind (f_X2_flipEdge (P + 20) a1 a2 v4) (fun v5 => some (.inr ((v5.1, v5.2)))))) else (some (.inl 1)))))
set_option maxRecDepth 100000 in
set_option maxHeartbeats 4000000 in
theorem t_X6_flip (g : fm_G) (l : Launch) (hl : l.stackTraces = false) (P : Nat) (a1 : Int32) (a2 : Int32) (hP : fm_kd g P = 6) (M : fm_Mem) (w : fm_W) : Tt g l z_X6_flip (exIw M w) (f_X6_flip P a1 a2 M) 0 [(0, .ref P), (1, .int a1), (2, .int a2)] [] (M, w) := by
  rw [f_X6_flip]
  refine Tt.go (fun _ => Tr.run 2 (pc' := 2) (lv' := [(0, .ref P), (1, .int a1), (2, .int a2)]) (st' := [.int a1, .ref P]) rfl) ?_
  refine Tt.callX (As := [.int a1]) (rest := []) (c_X6_needPoint g l hl P a1 hP M w) hP (by decide) rfl rfl cw_X6_needPoint fw565 pn_X6_needPoint (Nat.le_of_ble_eq_true rfl) (Nat.le_of_ble_eq_true rfl) (Nat.le_of_ble_eq_true rfl) rfl (fun v1 => (?_ : Tt g l z_X6_flip (exIw M w) _ 5 [(0, .ref P), (1, .int a1), (2, .int a2)] [] (M, w)))
  refine Tt.go (fun _ => Tr.run 2 (pc' := 7) (lv' := [(0, .ref P), (1, .int a1), (2, .int a2)]) (st' := [.int a2, .ref P]) rfl) ?_
  refine Tt.callX (As := [.int a2]) (rest := []) (c_X6_needPoint g l hl P a2 hP M w) hP (by decide) rfl rfl cw_X6_needPoint fw565 pn_X6_needPoint (Nat.le_of_ble_eq_true rfl) (Nat.le_of_ble_eq_true rfl) (Nat.le_of_ble_eq_true rfl) rfl (fun v2 => (?_ : Tt g l z_X6_flip (exIw M w) _ 10 [(0, .ref P), (1, .int a1), (2, .int a2)] [] (M, w)))
  refine Tt.go (fun _ => Tr.run 1 (pc' := 11) (lv' := [(0, .ref P), (1, .int a1), (2, .int a2)]) (st' := [.ref P]) rfl) ?_
  refine Tt.go (fun _ => Tr.get fmc6 hP rfl fw268 (k := 1) (by decide) rfl) (?_ : Tt g l z_X6_flip (exIw M w) _ 14 [(0, .ref P), (1, .int a1), (2, .int a2)] [.ref (P + 20)] (M, w))
  refine Tt.go (fun _ => Tr.run 2 (pc' := 16) (lv' := [(0, .ref P), (1, .int a1), (2, .int a2)]) (st' := [.int a2, .int a1, .ref (P + 20)]) rfl) ?_
  refine Tt.callV (As := [.int a1, .int a2]) (rest := []) (c_X2_refusal g l hl (P + 20) a1 a2 (fmk_6_1 hP) M w) (fmk_6_1 hP) (by decide) rfl rfl cw_X2_refusal fw854 pn_X2_refusal (Nat.le_of_ble_eq_true rfl) (Nat.le_of_ble_eq_true rfl) (Nat.le_of_ble_eq_true rfl) rfl (fun v3 => (?_ : Tt g l z_X6_flip (exIw M w) _ 19 [(0, .ref P), (1, .int a1), (2, .int a2)] [.int v3] (M, w)))
  refine Tt.if_eq (tgt := 30) rfl (by decide) ?_ ?_
  · refine Tt.go (fun _ => Tr.run 1 (pc' := 31) (lv' := [(0, .ref P), (1, .int a1), (2, .int a2)]) (st' := [.ref P]) rfl) ?_
    refine Tt.callV (As := []) (rest := []) (c_X6_remember g l hl P hP M w) hP (by decide) rfl rfl cw_X6_remember fw820 pn_X6_remember (Nat.le_of_ble_eq_true rfl) (Nat.le_of_ble_eq_true rfl) (Nat.le_of_ble_eq_true rfl) rfl (fun v4 => (?_ : Tt g l z_X6_flip (exIw M w) _ 34 [(0, .ref P), (1, .int a1), (2, .int a2)] [] (v4, w)))
    refine Tt.go (fun _ => Tr.run 1 (pc' := 35) (lv' := [(0, .ref P), (1, .int a1), (2, .int a2)]) (st' := [.ref P]) rfl) ?_
    refine Tt.go (fun _ => Tr.get fmc6 hP rfl fw268 (k := 1) (by decide) rfl) (?_ : Tt g l z_X6_flip (exIw M w) _ 38 [(0, .ref P), (1, .int a1), (2, .int a2)] [.ref (P + 20)] (v4, w))
    refine Tt.go (fun _ => Tr.run 2 (pc' := 40) (lv' := [(0, .ref P), (1, .int a1), (2, .int a2)]) (st' := [.int a2, .int a1, .ref (P + 20)]) rfl) ?_
    refine Tt.callV (As := [.int a1, .int a2]) (rest := []) (c_X2_flipEdge g l hl (P + 20) a1 a2 (fmk_6_1 hP) v4 w) (fmk_6_1 hP) (by decide) rfl rfl cw_X2_flipEdge fw1010 pn_X2_flipEdge (Nat.le_of_ble_eq_true rfl) (Nat.le_of_ble_eq_true rfl) (Nat.le_of_ble_eq_true rfl) rfl (fun v5 => (?_ : Tt g l z_X6_flip (exIw M w) _ 43 [(0, .ref P), (1, .int a1), (2, .int a2)] [.int v5.1] (v5.2, w)))
    exact Tt.ret (Tr.iret rfl rfl)
  · exact Tt.ret (Tr.thr (k := 1) fx1 rfl rfl rfl rfl (Nat.le_of_ble_eq_true rfl) (Nat.le_of_ble_eq_true rfl))
theorem c_X6_flip (g : fm_G) (l : Launch) (hl : l.stackTraces = false) (P : Nat) (a1 : Int32) (a2 : Int32) (hP : fm_kd g P = 6) (M : fm_Mem) (w : fm_W) : ∀ r, f_X6_flip P a1 a2 M = some r → fC g l z_X6_flip [.ref P, .int a1, .int a2] (M, w) (exIw M w r) := fun r hr => fC.of (by decide) rfl o_X6_flip hl (Nat.le_of_ble_eq_true rfl) (t_X6_flip g l hl P a1 a2 hP M w r hr)
def k_X6_mend : List (Nat × Instr × Nat) := [(0, .iload_n 1, 1), (1, .iconst 1, 1), (2, .if_icmp .lt 10, 3), (5, .iload_n 1, 1), (6, .sipush 500, 3), (9, .if_icmp .le 11, 3), (12, .new 46, 3), (15, .dup, 1), (16, .invokespecial 48, 3), (19, .athrow, 1), (20, .aload_n 0, 1), (21, .invokevirtual 56, 3), (24, .iconst 0, 1), (25, .istore_n 2, 1), (26, .aload_n 0, 1), (27, .getfield 19, 3), (30, .invokevirtual 173, 3), (33, .istore_n 3, 1), (34, .iload_n 2, 1), (35, .iload_n 1, 1), (36, .if_icmp .ge 37, 3), (39, .iload_n 3, 1), (40, .ifCond .lt 33, 3), (43, .aload_n 0, 1), (44, .getfield 19, 3), (47, .iload_n 3, 1), (48, .bipush 100, 2), (50, .idiv, 1), (51, .iload_n 3, 1), (52, .bipush 100, 2), (54, .irem, 1), (55, .invokevirtual 239, 3), (58, .pop, 1), (59, .iinc 2 1, 3), (62, .aload_n 0, 1), (63, .getfield 19, 3), (66, .invokevirtual 173, 3), (69, .istore_n 3, 1), (70, .goto (-36), 3), (73, .iload_n 2, 1), (74, .ireturn, 1)]
def z_X6_mend : fm_Y := (yX6_mend, RX6, cX6_mend, 4, (some .int), k_X6_mend, 6, 124)
theorem o_X6_mend : fm_dec z_X6_mend := (by decide +kernel : ∀ q ∈ k_X6_mend, decode cX6_mend q.1 = .ok q.2)
theorem cw_X6_mend : fm_cwV z_X6_mend := ⟨⟨lw_in 1017 (by decide +kernel) (by decide +kernel), lw_in 91 (by decide +kernel) (by decide +kernel), by decide, by decide⟩, lw_in 1015 (by decide +kernel) (by decide +kernel), lw_in 1016 (by decide +kernel) (by decide +kernel)⟩
theorem pn_X6_mend : (parseMethodDescriptor z_X6_mend.1.desc).map (fun d => d.parameters.length) = some 1 := by decide +kernel
def f_X6_mend_12 (P : Nat) (a1 : Int32)  (M : fm_Mem) : Option (Nat ⊕ (Int32 × fm_Mem)) := some (.inl 0)
set_option maxRecDepth 100000 in
set_option maxHeartbeats 4000000 in
theorem t_X6_mend_12 (g : fm_G) (l : Launch) (hl : l.stackTraces = false) (P : Nat) (a1 : Int32) (hP : fm_kd g P = 6) (w : fm_W)    (M : fm_Mem) : Tt g l z_X6_mend (exIw M w) (f_X6_mend_12 P a1   M) 12 [] [] (M, w) := by
  rw [f_X6_mend_12]
  exact Tt.ret (Tr.thr (k := 0) fx0 rfl rfl rfl rfl (Nat.le_of_ble_eq_true rfl) (Nat.le_of_ble_eq_true rfl))
def f_X6_mend_73 (P : Nat) (a1 : Int32) (x2 : Int32) (M : fm_Mem) : Option (Nat ⊕ (Int32 × fm_Mem)) := some (.inr ((x2, M)))
set_option maxRecDepth 100000 in
set_option maxHeartbeats 4000000 in
theorem t_X6_mend_73 (g : fm_G) (l : Launch) (hl : l.stackTraces = false) (P : Nat) (a1 : Int32) (hP : fm_kd g P = 6) (w : fm_W) (M0 : fm_Mem)  (x2 : Int32)  (M : fm_Mem) : Tt g l z_X6_mend (exIw M0 w) (f_X6_mend_73 P a1  x2 M) 73 [(2, .int x2)] [] (M, w) := by
  rw [f_X6_mend_73]
  refine Tt.go (fun _ => Tr.run 1 (pc' := 74) (lv' := [(2, .int x2)]) (st' := [.int x2]) rfl) ?_
  exact Tt.ret (Tr.iret rfl rfl)
def f_X6_mend_34 (P : Nat) (a1 : Int32) : Nat → Int32 → Int32 → fm_Mem → Option (Nat ⊕ (Int32 × fm_Mem))
  | 0, _, _, _ => none
  | n + 1, x2, x3, M => if a1 ≤ x2 then (f_X6_mend_73 P a1 x2 M) else (if x3 < 0 then (f_X6_mend_73 P a1 x2 M) else (Option.bind (f_X2_flipEdge (P + 20) (x3 / (100 : Int32)) (fm_rem x3 (100 : Int32)) M) (fun v1 => Option.bind (f_X2_firstBad (P + 20) v1.2) (fun v2 => (f_X6_mend_34 P a1 n (x2 + (1 : Int32)) v2 v1.2)))))
set_option maxRecDepth 100000 in
set_option maxHeartbeats 4000000 in
theorem t_X6_mend_34 (g : fm_G) (l : Launch) (hl : l.stackTraces = false) (P : Nat) (a1 : Int32) (hP : fm_kd g P = 6) (w : fm_W) (M0 : fm_Mem)  : ∀ (n : Nat) (x2 : Int32) (x3 : Int32)  (M : fm_Mem), Tt g l z_X6_mend (exIw M0 w) (f_X6_mend_34 P a1  n x2 x3 M) 34 [(0, .ref P), (1, .int a1), (2, .int x2), (3, .int x3)] [] (M, w) := by
  intro n
  induction n with
  | zero => intros; exact Tt.none
  | succ n ih =>
    intro x2 x3  M
    rw [f_X6_mend_34]
    refine Tt.go (fun _ => Tr.run 2 (pc' := 36) (lv' := [(0, .ref P), (1, .int a1), (2, .int x2), (3, .int x3)]) (st' := [.int a1, .int x2]) rfl) ?_
    refine Tt.ic_ge (tgt := 73) rfl (by decide) ?_ ?_
    · refine Tt.go (fun _ => Tr.sub (lv' := [(2, .int x2)]) [2] rfl) ?_
      exact t_X6_mend_73 g l hl P a1 hP w M0 x2 M
    · refine Tt.go (fun _ => Tr.run 1 (pc' := 40) (lv' := [(0, .ref P), (1, .int a1), (2, .int x2), (3, .int x3)]) (st' := [.int x3]) rfl) ?_
      refine Tt.if_lt (tgt := 73) rfl (by decide) ?_ ?_
      · refine Tt.go (fun _ => Tr.sub (lv' := [(2, .int x2)]) [2] rfl) ?_
        exact t_X6_mend_73 g l hl P a1 hP w M0 x2 M
      · refine Tt.go (fun _ => Tr.run 1 (pc' := 44) (lv' := [(0, .ref P), (1, .int a1), (2, .int x2), (3, .int x3)]) (st' := [.ref P]) rfl) ?_
        refine Tt.go (fun _ => Tr.get fmc6 hP rfl fw268 (k := 1) (by decide) rfl) (?_ : Tt g l z_X6_mend (exIw M0 w) _ 47 [(0, .ref P), (1, .int a1), (2, .int x2), (3, .int x3)] [.ref (P + 20)] (M, w))
        refine Tt.go (fun _ => Tr.run 2 (pc' := 50) (lv' := [(0, .ref P), (1, .int a1), (2, .int x2), (3, .int x3)]) (st' := [.int (100 : Int32), .int x3, .ref (P + 20)]) rfl) ?_
        refine Tt.go (fun _ => Tr.idiv rfl (by decide)) (?_ : Tt g l z_X6_mend (exIw M0 w) _ 51 [(0, .ref P), (1, .int a1), (2, .int x2), (3, .int x3)] [.int (x3 / (100 : Int32)), .ref (P + 20)] (M, w))
        refine Tt.go (fun _ => Tr.run 2 (pc' := 54) (lv' := [(0, .ref P), (1, .int a1), (2, .int x2), (3, .int x3)]) (st' := [.int (100 : Int32), .int x3, .int (x3 / (100 : Int32)), .ref (P + 20)]) rfl) ?_
        refine Tt.go (fun _ => Tr.irem rfl (by decide)) (?_ : Tt g l z_X6_mend (exIw M0 w) _ 55 [(0, .ref P), (1, .int a1), (2, .int x2), (3, .int x3)] [.int (fm_rem x3 (100 : Int32)), .int (x3 / (100 : Int32)), .ref (P + 20)] (M, w))
        refine Tt.callV (As := [.int (x3 / (100 : Int32)), .int (fm_rem x3 (100 : Int32))]) (rest := []) (c_X2_flipEdge g l hl (P + 20) (x3 / (100 : Int32)) (fm_rem x3 (100 : Int32)) (fmk_6_1 hP) M w) (fmk_6_1 hP) (by decide) rfl rfl cw_X2_flipEdge fw1010 pn_X2_flipEdge (Nat.le_of_ble_eq_true rfl) (Nat.le_of_ble_eq_true rfl) (Nat.le_of_ble_eq_true rfl) rfl (fun v1 => (?_ : Tt g l z_X6_mend (exIw M0 w) _ 58 [(0, .ref P), (1, .int a1), (2, .int x2), (3, .int x3)] [.int v1.1] (v1.2, w)))
        refine Tt.go (fun _ => Tr.run 3 (pc' := 63) (lv' := [(2, .int (x2 + (1 : Int32))), (0, .ref P), (1, .int a1), (3, .int x3)]) (st' := [.ref P]) rfl) ?_
        refine Tt.go (fun _ => Tr.get fmc6 hP rfl fw268 (k := 1) (by decide) rfl) (?_ : Tt g l z_X6_mend (exIw M0 w) _ 66 [(2, .int (x2 + (1 : Int32))), (0, .ref P), (1, .int a1), (3, .int x3)] [.ref (P + 20)] (v1.2, w))
        refine Tt.callV (As := []) (rest := []) (c_X2_firstBad g l hl (P + 20) (fmk_6_1 hP) v1.2 w) (fmk_6_1 hP) (by decide) rfl rfl cw_X2_firstBad fw863 pn_X2_firstBad (Nat.le_of_ble_eq_true rfl) (Nat.le_of_ble_eq_true rfl) (Nat.le_of_ble_eq_true rfl) rfl (fun v2 => (?_ : Tt g l z_X6_mend (exIw M0 w) _ 69 [(2, .int (x2 + (1 : Int32))), (0, .ref P), (1, .int a1), (3, .int x3)] [.int v2] (v1.2, w)))
        refine Tt.go (fun _ => Tr.run 2 (pc' := 34) (lv' := [(3, .int v2), (2, .int (x2 + (1 : Int32))), (0, .ref P), (1, .int a1)]) (st' := []) rfl) ?_
        refine Tt.go (fun _ => Tr.sub (lv' := [(0, .ref P), (1, .int a1), (2, .int (x2 + (1 : Int32))), (3, .int v2)]) [2, 3, 1, 0] rfl) ?_
        exact ih (x2 + (1 : Int32)) v2 v1.2
def f_X6_mend (P : Nat) (a1 : Int32) (M : fm_Mem) : Option (Nat ⊕ (Int32 × fm_Mem)) := if a1 < (1 : Int32) then (f_X6_mend_12 P a1 M) else (if a1 ≤ (500 : Int32) then (Option.bind (f_X6_remember P M) (fun v1 => Option.bind (f_X2_firstBad (P + 20) v1) (fun v2 => (f_X6_mend_34 P a1 fm_fuel (0 : Int32) v2 v1)))) else (f_X6_mend_12 P a1 M))
set_option maxRecDepth 100000 in
set_option maxHeartbeats 4000000 in
theorem t_X6_mend (g : fm_G) (l : Launch) (hl : l.stackTraces = false) (P : Nat) (a1 : Int32) (hP : fm_kd g P = 6) (M : fm_Mem) (w : fm_W) : Tt g l z_X6_mend (exIw M w) (f_X6_mend P a1 M) 0 [(0, .ref P), (1, .int a1)] [] (M, w) := by
  rw [f_X6_mend]
  refine Tt.go (fun _ => Tr.run 2 (pc' := 2) (lv' := [(0, .ref P), (1, .int a1)]) (st' := [.int (1 : Int32), .int a1]) rfl) ?_
  refine Tt.ic_lt (tgt := 12) rfl (by decide) ?_ ?_
  · refine Tt.go (fun _ => Tr.sub (lv' := []) [] rfl) ?_
    exact t_X6_mend_12 g l hl P a1 hP w M
  · refine Tt.go (fun _ => Tr.run 2 (pc' := 9) (lv' := [(0, .ref P), (1, .int a1)]) (st' := [.int (500 : Int32), .int a1]) rfl) ?_
    refine Tt.ic_le (tgt := 20) rfl (by decide) ?_ ?_
    · refine Tt.go (fun _ => Tr.run 1 (pc' := 21) (lv' := [(0, .ref P), (1, .int a1)]) (st' := [.ref P]) rfl) ?_
      refine Tt.callV (As := []) (rest := []) (c_X6_remember g l hl P hP M w) hP (by decide) rfl rfl cw_X6_remember fw820 pn_X6_remember (Nat.le_of_ble_eq_true rfl) (Nat.le_of_ble_eq_true rfl) (Nat.le_of_ble_eq_true rfl) rfl (fun v1 => (?_ : Tt g l z_X6_mend (exIw M w) _ 24 [(0, .ref P), (1, .int a1)] [] (v1, w)))
      refine Tt.go (fun _ => Tr.run 3 (pc' := 27) (lv' := [(2, .int (0 : Int32)), (0, .ref P), (1, .int a1)]) (st' := [.ref P]) rfl) ?_
      refine Tt.go (fun _ => Tr.get fmc6 hP rfl fw268 (k := 1) (by decide) rfl) (?_ : Tt g l z_X6_mend (exIw M w) _ 30 [(2, .int (0 : Int32)), (0, .ref P), (1, .int a1)] [.ref (P + 20)] (v1, w))
      refine Tt.callV (As := []) (rest := []) (c_X2_firstBad g l hl (P + 20) (fmk_6_1 hP) v1 w) (fmk_6_1 hP) (by decide) rfl rfl cw_X2_firstBad fw863 pn_X2_firstBad (Nat.le_of_ble_eq_true rfl) (Nat.le_of_ble_eq_true rfl) (Nat.le_of_ble_eq_true rfl) rfl (fun v2 => (?_ : Tt g l z_X6_mend (exIw M w) _ 33 [(2, .int (0 : Int32)), (0, .ref P), (1, .int a1)] [.int v2] (v1, w)))
      refine Tt.go (fun _ => Tr.run 1 (pc' := 34) (lv' := [(3, .int v2), (2, .int (0 : Int32)), (0, .ref P), (1, .int a1)]) (st' := []) rfl) ?_
      refine Tt.go (fun _ => Tr.sub (lv' := [(0, .ref P), (1, .int a1), (2, .int (0 : Int32)), (3, .int v2)]) [2, 3, 1, 0] rfl) ?_
      exact t_X6_mend_34 g l hl P a1 hP w M fm_fuel (0 : Int32) v2 v1
    · refine Tt.go (fun _ => Tr.sub (lv' := []) [] rfl) ?_
      exact t_X6_mend_12 g l hl P a1 hP w M
theorem c_X6_mend (g : fm_G) (l : Launch) (hl : l.stackTraces = false) (P : Nat) (a1 : Int32) (hP : fm_kd g P = 6) (M : fm_Mem) (w : fm_W) : ∀ r, f_X6_mend P a1 M = some r → fC g l z_X6_mend [.ref P, .int a1] (M, w) (exIw M w r) := fun r hr => fC.of (by decide) rfl o_X6_mend hl (Nat.le_of_ble_eq_true rfl) (t_X6_mend g l hl P a1 hP M w r hr)
def k_X6_undo : List (Nat × Instr × Nat) := [(0, .aload_n 0, 1), (1, .getfield 104, 3), (4, .ifCond .ne 5, 3), (7, .iconst (-1), 1), (8, .ireturn, 1), (9, .aload_n 0, 1), (10, .dup, 1), (11, .getfield 104, 3), (14, .iconst 1, 1), (15, .isub, 1), (16, .putfield 104, 3), (19, .aload_n 0, 1), (20, .dup, 1), (21, .getfield 229, 3), (24, .iconst 1, 1), (25, .isub, 1), (26, .putfield 229, 3), (29, .aload_n 0, 1), (30, .getfield 19, 3), (33, .aload_n 0, 1), (34, .aload_n 0, 1), (35, .getfield 229, 3), (38, .invokevirtual 232, 3), (41, .invokevirtual 60, 3), (44, .aload_n 0, 1), (45, .getfield 26, 3), (48, .aload_n 0, 1), (49, .getfield 19, 3), (52, .getfield 64, 3), (55, .invokevirtual 68, 3), (58, .aload_n 0, 1), (59, .getfield 104, 3), (62, .ireturn, 1)]
def z_X6_undo : fm_Y := (yX6_undo, RX6, cX6_undo, 1, (some .int), k_X6_undo, 5, 122)
theorem o_X6_undo : fm_dec z_X6_undo := (by decide +kernel : ∀ q ∈ k_X6_undo, decode cX6_undo q.1 = .ok q.2)
theorem cw_X6_undo : fm_cwV z_X6_undo := ⟨⟨lw_in 389 (by decide +kernel) (by decide +kernel), lw_in 91 (by decide +kernel) (by decide +kernel), by decide, by decide⟩, lw_in 387 (by decide +kernel) (by decide +kernel), lw_in 388 (by decide +kernel) (by decide +kernel)⟩
theorem pn_X6_undo : (parseMethodDescriptor z_X6_undo.1.desc).map (fun d => d.parameters.length) = some 0 := by decide +kernel
def f_X6_undo (P : Nat) (M : fm_Mem) : Option (Int32 × fm_Mem) := if (M P 5) = 0 then (some (((-1 : Int32), M))) else (Option.bind (f_X6_pastOf P ((fm_up (fm_up M P 5 ((M P 5) - (1 : Int32))) P 4 (((fm_up M P 5 ((M P 5) - (1 : Int32))) P 4) - (1 : Int32))) P 4) (fm_up (fm_up M P 5 ((M P 5) - (1 : Int32))) P 4 (((fm_up M P 5 ((M P 5) - (1 : Int32))) P 4) - (1 : Int32)))) (fun v1 => Option.bind (f_X2_copyFrom (P + 20) v1 (fm_up (fm_up M P 5 ((M P 5) - (1 : Int32))) P 4 (((fm_up M P 5 ((M P 5) - (1 : Int32))) P 4) - (1 : Int32)))) (fun v3 => Option.bind (f_X0_renew (P + 36) (P + 20 + 1) v3) (fun v4 => some (((v4 P 5), v4))))))
set_option maxRecDepth 100000 in
set_option maxHeartbeats 4000000 in
theorem t_X6_undo (g : fm_G) (l : Launch) (hl : l.stackTraces = false) (P : Nat) (hP : fm_kd g P = 6) (M : fm_Mem) (w : fm_W) : Tt g l z_X6_undo (emIw M w) (f_X6_undo P M) 0 [(0, .ref P)] [] (M, w) := by
  rw [f_X6_undo]
  refine Tt.go (fun _ => Tr.run 1 (pc' := 1) (lv' := [(0, .ref P)]) (st' := [.ref P]) rfl) ?_
  refine Tt.go (fun _ => Tr.get fmc6 hP rfl fw272 (k := 5) (by decide) rfl) (?_ : Tt g l z_X6_undo (emIw M w) _ 4 [(0, .ref P)] [.int (M P 5)] (M, w))
  refine Tt.if_ne (tgt := 9) rfl (by decide) ?_ ?_
  · refine Tt.go (fun _ => Tr.run 1 (pc' := 8) (lv' := [(0, .ref P)]) (st' := [.int (-1 : Int32)]) rfl) ?_
    exact Tt.ret (Tr.iret rfl rfl)
  · refine Tt.go (fun _ => Tr.run 2 (pc' := 11) (lv' := [(0, .ref P)]) (st' := [.ref P, .ref P]) rfl) ?_
    refine Tt.go (fun _ => Tr.get fmc6 hP rfl fw272 (k := 5) (by decide) rfl) (?_ : Tt g l z_X6_undo (emIw M w) _ 14 [(0, .ref P)] [.int (M P 5), .ref P] (M, w))
    refine Tt.go (fun _ => Tr.run 2 (pc' := 16) (lv' := [(0, .ref P)]) (st' := [.int ((M P 5) - (1 : Int32)), .ref P]) rfl) ?_
    refine Tt.go (fun _ => Tr.put fmc6 hP rfl fw272 (k := 5) (by decide) rfl rfl ⟨rfl, rfl⟩) (?_ : Tt g l z_X6_undo (emIw M w) _ 19 [(0, .ref P)] [] ((fm_up M P 5 ((M P 5) - (1 : Int32))), w))
    refine Tt.go (fun _ => Tr.run 2 (pc' := 21) (lv' := [(0, .ref P)]) (st' := [.ref P, .ref P]) rfl) ?_
    refine Tt.go (fun _ => Tr.get fmc6 hP rfl fw271 (k := 4) (by decide) rfl) (?_ : Tt g l z_X6_undo (emIw M w) _ 24 [(0, .ref P)] [.int ((fm_up M P 5 ((M P 5) - (1 : Int32))) P 4), .ref P] ((fm_up M P 5 ((M P 5) - (1 : Int32))), w))
    refine Tt.go (fun _ => Tr.run 2 (pc' := 26) (lv' := [(0, .ref P)]) (st' := [.int (((fm_up M P 5 ((M P 5) - (1 : Int32))) P 4) - (1 : Int32)), .ref P]) rfl) ?_
    refine Tt.go (fun _ => Tr.put fmc6 hP rfl fw271 (k := 4) (by decide) rfl rfl ⟨rfl, rfl⟩) (?_ : Tt g l z_X6_undo (emIw M w) _ 29 [(0, .ref P)] [] ((fm_up (fm_up M P 5 ((M P 5) - (1 : Int32))) P 4 (((fm_up M P 5 ((M P 5) - (1 : Int32))) P 4) - (1 : Int32))), w))
    refine Tt.go (fun _ => Tr.run 1 (pc' := 30) (lv' := [(0, .ref P)]) (st' := [.ref P]) rfl) ?_
    refine Tt.go (fun _ => Tr.get fmc6 hP rfl fw268 (k := 1) (by decide) rfl) (?_ : Tt g l z_X6_undo (emIw M w) _ 33 [(0, .ref P)] [.ref (P + 20)] ((fm_up (fm_up M P 5 ((M P 5) - (1 : Int32))) P 4 (((fm_up M P 5 ((M P 5) - (1 : Int32))) P 4) - (1 : Int32))), w))
    refine Tt.go (fun _ => Tr.run 2 (pc' := 35) (lv' := [(0, .ref P)]) (st' := [.ref P, .ref P, .ref (P + 20)]) rfl) ?_
    refine Tt.go (fun _ => Tr.get fmc6 hP rfl fw271 (k := 4) (by decide) rfl) (?_ : Tt g l z_X6_undo (emIw M w) _ 38 [(0, .ref P)] [.int ((fm_up (fm_up M P 5 ((M P 5) - (1 : Int32))) P 4 (((fm_up M P 5 ((M P 5) - (1 : Int32))) P 4) - (1 : Int32))) P 4), .ref P, .ref (P + 20)] ((fm_up (fm_up M P 5 ((M P 5) - (1 : Int32))) P 4 (((fm_up M P 5 ((M P 5) - (1 : Int32))) P 4) - (1 : Int32))), w))
    refine Tt.callVr (As := [.int ((fm_up (fm_up M P 5 ((M P 5) - (1 : Int32))) P 4 (((fm_up M P 5 ((M P 5) - (1 : Int32))) P 4) - (1 : Int32))) P 4)]) (rest := [.ref (P + 20)]) (c_X6_pastOf g l hl P ((fm_up (fm_up M P 5 ((M P 5) - (1 : Int32))) P 4 (((fm_up M P 5 ((M P 5) - (1 : Int32))) P 4) - (1 : Int32))) P 4) hP (fm_up (fm_up M P 5 ((M P 5) - (1 : Int32))) P 4 (((fm_up M P 5 ((M P 5) - (1 : Int32))) P 4) - (1 : Int32))) w) hP (by decide) rfl rfl cw_X6_pastOf fw390 pn_X6_pastOf (Nat.le_of_ble_eq_true rfl) (Nat.le_of_ble_eq_true rfl) (Nat.le_of_ble_eq_true rfl) rfl (fun v1 hq_2 => (?_ : Tt g l z_X6_undo (emIw M w) _ 41 [(0, .ref P)] [.ref v1, .ref (P + 20)] ((fm_up (fm_up M P 5 ((M P 5) - (1 : Int32))) P 4 (((fm_up M P 5 ((M P 5) - (1 : Int32))) P 4) - (1 : Int32))), w)))
    refine Tt.callV (As := [.ref v1]) (rest := []) (c_X2_copyFrom g l hl (P + 20) v1 (fmk_6_1 hP) (kd_X6_pastOf hP hq_2) (fm_up (fm_up M P 5 ((M P 5) - (1 : Int32))) P 4 (((fm_up M P 5 ((M P 5) - (1 : Int32))) P 4) - (1 : Int32))) w) (fmk_6_1 hP) (by decide) rfl rfl cw_X2_copyFrom fw397 pn_X2_copyFrom (Nat.le_of_ble_eq_true rfl) (Nat.le_of_ble_eq_true rfl) (Nat.le_of_ble_eq_true rfl) rfl (fun v3 => (?_ : Tt g l z_X6_undo (emIw M w) _ 44 [(0, .ref P)] [] (v3, w)))
    refine Tt.go (fun _ => Tr.run 1 (pc' := 45) (lv' := [(0, .ref P)]) (st' := [.ref P]) rfl) ?_
    refine Tt.go (fun _ => Tr.get fmc6 hP rfl fw269 (k := 2) (by decide) rfl) (?_ : Tt g l z_X6_undo (emIw M w) _ 48 [(0, .ref P)] [.ref (P + 36)] (v3, w))
    refine Tt.go (fun _ => Tr.run 1 (pc' := 49) (lv' := [(0, .ref P)]) (st' := [.ref P, .ref (P + 36)]) rfl) ?_
    refine Tt.go (fun _ => Tr.get fmc6 hP rfl fw268 (k := 1) (by decide) rfl) (?_ : Tt g l z_X6_undo (emIw M w) _ 52 [(0, .ref P)] [.ref (P + 20), .ref (P + 36)] (v3, w))
    refine Tt.go (fun _ => Tr.getN fmc2 (fmk_6_1 hP) rfl nw186 (k := 0) (by decide) rfl) (?_ : Tt g l z_X6_undo (emIw M w) _ 55 [(0, .ref P)] [.ref (P + 20 + 1), .ref (P + 36)] (v3, w))
    refine Tt.callV (As := [.ref (P + 20 + 1)]) (rest := []) (c_X0_renew g l hl (P + 36) (P + 20 + 1) (fmk_6_2 hP) (fmk_2_0 (fmk_6_1 hP)) v3 w) (fmk_6_2 hP) (by decide) rfl rfl cw_X0_renew fw420 pn_X0_renew (Nat.le_of_ble_eq_true rfl) (Nat.le_of_ble_eq_true rfl) (Nat.le_of_ble_eq_true rfl) rfl (fun v4 => (?_ : Tt g l z_X6_undo (emIw M w) _ 58 [(0, .ref P)] [] (v4, w)))
    refine Tt.go (fun _ => Tr.run 1 (pc' := 59) (lv' := [(0, .ref P)]) (st' := [.ref P]) rfl) ?_
    refine Tt.go (fun _ => Tr.get fmc6 hP rfl fw272 (k := 5) (by decide) rfl) (?_ : Tt g l z_X6_undo (emIw M w) _ 62 [(0, .ref P)] [.int (v4 P 5)] (v4, w))
    exact Tt.ret (Tr.iret rfl rfl)
theorem c_X6_undo (g : fm_G) (l : Launch) (hl : l.stackTraces = false) (P : Nat) (hP : fm_kd g P = 6) (M : fm_Mem) (w : fm_W) : ∀ r, f_X6_undo P M = some r → fC g l z_X6_undo [.ref P] (M, w) (emIw M w r) := fun r hr => fC.of (by decide) rfl o_X6_undo hl (Nat.le_of_ble_eq_true rfl) (t_X6_undo g l hl P hP M w r hr)
def k_X6_withTriangles : List (Nat × Instr × Nat) := [(0, .iload_n 3, 1), (1, .ifCond .eq 16, 3), (4, .aload_n 0, 1), (5, .getfield 19, 3), (8, .getfield 91, 3), (11, .invokevirtual 79, 3), (14, .goto 13, 3), (17, .aload_n 0, 1), (18, .getfield 19, 3), (21, .getfield 75, 3), (24, .invokevirtual 79, 3), (27, .istore 4, 2), (29, .lload_n 1, 1), (30, .lstore 5, 2), (32, .iconst 0, 1), (33, .istore 7, 2), (35, .iload 7, 2), (37, .iload 4, 2), (39, .if_icmp .ge 44, 3), (42, .iconst 0, 1), (43, .istore 8, 2), (45, .iload 8, 2), (47, .bipush 6, 2), (49, .if_icmp .gt 28, 3), (52, .ldc2_w 242, 3), (55, .lload 5, 2), (57, .lmul, 1), (58, .aload_n 0, 1), (59, .iload 7, 2), (61, .iload_n 3, 1), (62, .iload 8, 2), (64, .invokevirtual 260, 3), (67, .i2l, 1), (68, .ladd, 1), (69, .lstore 5, 2), (71, .iinc 8 1, 3), (74, .goto (-29), 3), (77, .iinc 7 1, 3), (80, .goto (-45), 3), (83, .lload 5, 2), (85, .lreturn, 1)]
def z_X6_withTriangles : fm_Y := (yX6_withTriangles, RX6, cX6_withTriangles, 9, (some .long), k_X6_withTriangles, 8, 138)
theorem o_X6_withTriangles : fm_dec z_X6_withTriangles := (by decide +kernel : ∀ q ∈ k_X6_withTriangles, decode cX6_withTriangles q.1 = .ok q.2)
theorem cw_X6_withTriangles : fm_cwV z_X6_withTriangles := ⟨⟨lw_in 604 (by decide +kernel) (by decide +kernel), lw_in 91 (by decide +kernel) (by decide +kernel), by decide, by decide⟩, lw_in 603 (by decide +kernel) (by decide +kernel), lw_in 6 (by decide +kernel) (by decide +kernel)⟩
theorem pn_X6_withTriangles : (parseMethodDescriptor z_X6_withTriangles.1.desc).map (fun d => d.parameters.length) = some 2 := by decide +kernel
def f_X6_withTriangles_45 (P : Nat) (a1 : Int64) (a3 : Int32) (k35 : Int32 → Int64 → Int32 → fm_Mem → Option (Nat ⊕ Int64)) : Nat → Int32 → Int64 → Int32 → Int32 → fm_Mem → Option (Nat ⊕ Int64)
  | 0, _, _, _, _, _ => none
  | n + 1, x4, x5, x7, x8, M => if (6 : Int32) < x8 then (k35 x4 x5 (x7 + (1 : Int32)) M) else (fm_bx (f_X6_triangle P x7 a3 x8 M) (fun v1 => (f_X6_withTriangles_45 P a1 a3 k35 n x4 (((31 : Int64) * x5) + (Int32.toInt64 v1)) x7 (x8 + (1 : Int32)) M)))
set_option maxRecDepth 100000 in
set_option maxHeartbeats 4000000 in
theorem t_X6_withTriangles_45 (g : fm_G) (l : Launch) (hl : l.stackTraces = false) (P : Nat) (a1 : Int64) (a3 : Int32) (hP : fm_kd g P = 6) (w : fm_W) (k35 : Int32 → Int64 → Int32 → fm_Mem → Option (Nat ⊕ Int64)) (hk35 : ∀ (x4 : Int32) (x5 : Int64) (x7 : Int32) (M : fm_Mem), Tt g l z_X6_withTriangles (exJ M w) (k35 x4 x5 x7 M) 35 [(0, .ref P), (3, .int a3), (4, .int x4), (5, .long x5), (7, .int x7)] [] (M, w)) : ∀ (n : Nat) (x4 : Int32) (x5 : Int64) (x7 : Int32) (x8 : Int32)  (M : fm_Mem), Tt g l z_X6_withTriangles (exJ M w) (f_X6_withTriangles_45 P a1 a3 k35 n x4 x5 x7 x8 M) 45 [(0, .ref P), (3, .int a3), (4, .int x4), (5, .long x5), (7, .int x7), (8, .int x8)] [] (M, w) := by
  intro n
  induction n with
  | zero => intros; exact Tt.none
  | succ n ih =>
    intro x4 x5 x7 x8  M
    rw [f_X6_withTriangles_45]
    refine Tt.go (fun _ => Tr.run 2 (pc' := 49) (lv' := [(0, .ref P), (3, .int a3), (4, .int x4), (5, .long x5), (7, .int x7), (8, .int x8)]) (st' := [.int (6 : Int32), .int x8]) rfl) ?_
    refine Tt.ic_gt (tgt := 77) rfl (by decide) ?_ ?_
    · refine Tt.go (fun _ => Tr.run 2 (pc' := 35) (lv' := [(7, .int (x7 + (1 : Int32))), (0, .ref P), (3, .int a3), (4, .int x4), (5, .long x5), (8, .int x8)]) (st' := []) rfl) ?_
      refine Tt.go (fun _ => Tr.sub (lv' := [(0, .ref P), (3, .int a3), (4, .int x4), (5, .long x5), (7, .int (x7 + (1 : Int32)))]) [1, 2, 3, 4, 0] rfl) ?_
      exact hk35 x4 x5 (x7 + (1 : Int32)) M
    · refine Tt.go (fun _ => Tr.ldcL rfl fw453) (?_ : Tt g l z_X6_withTriangles (exJ M w) _ 55 [(0, .ref P), (3, .int a3), (4, .int x4), (5, .long x5), (7, .int x7), (8, .int x8)] [.long (31 : Int64)] (M, w))
      refine Tt.go (fun _ => Tr.run 6 (pc' := 64) (lv' := [(0, .ref P), (3, .int a3), (4, .int x4), (5, .long x5), (7, .int x7), (8, .int x8)]) (st' := [.int x8, .int a3, .int x7, .ref P, .long ((31 : Int64) * x5)]) rfl) ?_
      refine Tt.callX (As := [.int x7, .int a3, .int x8]) (rest := [.long ((31 : Int64) * x5)]) (c_X6_triangle g l hl P x7 a3 x8 hP M w) hP (by decide) rfl rfl cw_X6_triangle fw605 pn_X6_triangle (Nat.le_of_ble_eq_true rfl) (Nat.le_of_ble_eq_true rfl) (Nat.le_of_ble_eq_true rfl) rfl (fun v1 => (?_ : Tt g l z_X6_withTriangles (exJ M w) _ 67 [(0, .ref P), (3, .int a3), (4, .int x4), (5, .long x5), (7, .int x7), (8, .int x8)] [.int v1, .long ((31 : Int64) * x5)] (M, w)))
      refine Tt.go (fun _ => Tr.run 5 (pc' := 45) (lv' := [(8, .int (x8 + (1 : Int32))), (5, .long (((31 : Int64) * x5) + (Int32.toInt64 v1))), (0, .ref P), (3, .int a3), (4, .int x4), (7, .int x7)]) (st' := []) rfl) ?_
      refine Tt.go (fun _ => Tr.sub (lv' := [(0, .ref P), (3, .int a3), (4, .int x4), (5, .long (((31 : Int64) * x5) + (Int32.toInt64 v1))), (7, .int x7), (8, .int (x8 + (1 : Int32)))]) [2, 3, 4, 1, 5, 0] rfl) ?_
      exact ih x4 (((31 : Int64) * x5) + (Int32.toInt64 v1)) x7 (x8 + (1 : Int32)) M
def f_X6_withTriangles_35 (P : Nat) (a1 : Int64) (a3 : Int32) : Nat → Int32 → Int64 → Int32 → fm_Mem → Option (Nat ⊕ Int64)
  | 0, _, _, _, _ => none
  | n + 1, x4, x5, x7, M => if x4 ≤ x7 then (some (.inr (x5))) else (f_X6_withTriangles_45 P a1 a3 (fun x4 x5 x7 M => f_X6_withTriangles_35 P a1 a3 n x4 x5 x7 M) fm_fuel x4 x5 x7 (0 : Int32) M)
set_option maxRecDepth 100000 in
set_option maxHeartbeats 4000000 in
theorem t_X6_withTriangles_35 (g : fm_G) (l : Launch) (hl : l.stackTraces = false) (P : Nat) (a1 : Int64) (a3 : Int32) (hP : fm_kd g P = 6) (w : fm_W)  : ∀ (n : Nat) (x4 : Int32) (x5 : Int64) (x7 : Int32)  (M : fm_Mem), Tt g l z_X6_withTriangles (exJ M w) (f_X6_withTriangles_35 P a1 a3  n x4 x5 x7 M) 35 [(0, .ref P), (3, .int a3), (4, .int x4), (5, .long x5), (7, .int x7)] [] (M, w) := by
  intro n
  induction n with
  | zero => intros; exact Tt.none
  | succ n ih =>
    intro x4 x5 x7  M
    rw [f_X6_withTriangles_35]
    refine Tt.go (fun _ => Tr.run 2 (pc' := 39) (lv' := [(0, .ref P), (3, .int a3), (4, .int x4), (5, .long x5), (7, .int x7)]) (st' := [.int x4, .int x7]) rfl) ?_
    refine Tt.ic_ge (tgt := 83) rfl (by decide) ?_ ?_
    · refine Tt.go (fun _ => Tr.run 1 (pc' := 85) (lv' := [(0, .ref P), (3, .int a3), (4, .int x4), (5, .long x5), (7, .int x7)]) (st' := [.long x5]) rfl) ?_
      exact Tt.ret (Tr.lret rfl rfl)
    · refine Tt.go (fun _ => Tr.run 2 (pc' := 45) (lv' := [(8, .int (0 : Int32)), (0, .ref P), (3, .int a3), (4, .int x4), (5, .long x5), (7, .int x7)]) (st' := []) rfl) ?_
      refine Tt.go (fun _ => Tr.sub (lv' := [(0, .ref P), (3, .int a3), (4, .int x4), (5, .long x5), (7, .int x7), (8, .int (0 : Int32))]) [1, 2, 3, 4, 5, 0] rfl) ?_
      exact t_X6_withTriangles_45 g l hl P a1 a3 hP w _ ih fm_fuel x4 x5 x7 (0 : Int32) M
def f_X6_withTriangles_27 (P : Nat) (a1 : Int64) (a3 : Int32) (s0 : Int32) (M : fm_Mem) : Option (Nat ⊕ Int64) := (f_X6_withTriangles_35 P a1 a3 fm_fuel s0 a1 (0 : Int32) M)
set_option maxRecDepth 100000 in
set_option maxHeartbeats 4000000 in
theorem t_X6_withTriangles_27 (g : fm_G) (l : Launch) (hl : l.stackTraces = false) (P : Nat) (a1 : Int64) (a3 : Int32) (hP : fm_kd g P = 6) (w : fm_W)  (s0 : Int32)  (M : fm_Mem) : Tt g l z_X6_withTriangles (exJ M w) (f_X6_withTriangles_27 P a1 a3  s0 M) 27 [(0, .ref P), (1, .long a1), (3, .int a3)] [.int s0] (M, w) := by
  rw [f_X6_withTriangles_27]
  refine Tt.go (fun _ => Tr.run 5 (pc' := 35) (lv' := [(7, .int (0 : Int32)), (5, .long a1), (4, .int s0), (0, .ref P), (1, .long a1), (3, .int a3)]) (st' := []) rfl) ?_
  refine Tt.go (fun _ => Tr.sub (lv' := [(0, .ref P), (3, .int a3), (4, .int s0), (5, .long a1), (7, .int (0 : Int32))]) [3, 5, 2, 1, 0] rfl) ?_
  exact t_X6_withTriangles_35 g l hl P a1 a3 hP w fm_fuel s0 a1 (0 : Int32) M
def f_X6_withTriangles (P : Nat) (a1 : Int64) (a3 : Int32) (M : fm_Mem) : Option (Nat ⊕ Int64) := if a3 = 0 then (Option.bind (f_X1_size (P + 20 + 6) M) (fun v1 => (f_X6_withTriangles_27 P a1 a3 v1 M))) else (Option.bind (f_X1_size (P + 20 + 11) M) (fun v2 => (f_X6_withTriangles_27 P a1 a3 v2 M)))
set_option maxRecDepth 100000 in
set_option maxHeartbeats 4000000 in
theorem t_X6_withTriangles (g : fm_G) (l : Launch) (hl : l.stackTraces = false) (P : Nat) (a1 : Int64) (a3 : Int32) (hP : fm_kd g P = 6) (M : fm_Mem) (w : fm_W) : Tt g l z_X6_withTriangles (exJ M w) (f_X6_withTriangles P a1 a3 M) 0 [(0, .ref P), (1, .long a1), (3, .int a3)] [] (M, w) := by
  rw [f_X6_withTriangles]
  refine Tt.go (fun _ => Tr.run 1 (pc' := 1) (lv' := [(0, .ref P), (1, .long a1), (3, .int a3)]) (st' := [.int a3]) rfl) ?_
  refine Tt.if_eq (tgt := 17) rfl (by decide) ?_ ?_
  · refine Tt.go (fun _ => Tr.run 1 (pc' := 18) (lv' := [(0, .ref P), (1, .long a1), (3, .int a3)]) (st' := [.ref P]) rfl) ?_
    refine Tt.go (fun _ => Tr.get fmc6 hP rfl fw268 (k := 1) (by decide) rfl) (?_ : Tt g l z_X6_withTriangles (exJ M w) _ 21 [(0, .ref P), (1, .long a1), (3, .int a3)] [.ref (P + 20)] (M, w))
    refine Tt.go (fun _ => Tr.getN fmc2 (fmk_6_1 hP) rfl nw189 (k := 1) (by decide) rfl) (?_ : Tt g l z_X6_withTriangles (exJ M w) _ 24 [(0, .ref P), (1, .long a1), (3, .int a3)] [.ref (P + 20 + 6)] (M, w))
    refine Tt.callV (As := []) (rest := []) (c_X1_size g l hl (P + 20 + 6) (fmk_2_1 (fmk_6_1 hP)) M w) (fmk_2_1 (fmk_6_1 hP)) (by decide) rfl rfl cw_X1_size fw313 pn_X1_size (Nat.le_of_ble_eq_true rfl) (Nat.le_of_ble_eq_true rfl) (Nat.le_of_ble_eq_true rfl) rfl (fun v1 => (?_ : Tt g l z_X6_withTriangles (exJ M w) _ 27 [(0, .ref P), (1, .long a1), (3, .int a3)] [.int v1] (M, w)))
    exact t_X6_withTriangles_27 g l hl P a1 a3 hP w v1 M
  · refine Tt.go (fun _ => Tr.run 1 (pc' := 5) (lv' := [(0, .ref P), (1, .long a1), (3, .int a3)]) (st' := [.ref P]) rfl) ?_
    refine Tt.go (fun _ => Tr.get fmc6 hP rfl fw268 (k := 1) (by decide) rfl) (?_ : Tt g l z_X6_withTriangles (exJ M w) _ 8 [(0, .ref P), (1, .long a1), (3, .int a3)] [.ref (P + 20)] (M, w))
    refine Tt.go (fun _ => Tr.getN fmc2 (fmk_6_1 hP) rfl nw191 (k := 2) (by decide) rfl) (?_ : Tt g l z_X6_withTriangles (exJ M w) _ 11 [(0, .ref P), (1, .long a1), (3, .int a3)] [.ref (P + 20 + 11)] (M, w))
    refine Tt.callV (As := []) (rest := []) (c_X1_size g l hl (P + 20 + 11) (fmk_2_2 (fmk_6_1 hP)) M w) (fmk_2_2 (fmk_6_1 hP)) (by decide) rfl rfl cw_X1_size fw313 pn_X1_size (Nat.le_of_ble_eq_true rfl) (Nat.le_of_ble_eq_true rfl) (Nat.le_of_ble_eq_true rfl) rfl (fun v2 => (?_ : Tt g l z_X6_withTriangles (exJ M w) _ 14 [(0, .ref P), (1, .long a1), (3, .int a3)] [.int v2] (M, w)))
    refine Tt.go (fun _ => Tr.run 1 (pc' := 27) (lv' := [(0, .ref P), (1, .long a1), (3, .int a3)]) (st' := [.int v2]) rfl) ?_
    exact t_X6_withTriangles_27 g l hl P a1 a3 hP w v2 M
theorem c_X6_withTriangles (g : fm_G) (l : Launch) (hl : l.stackTraces = false) (P : Nat) (a1 : Int64) (a3 : Int32) (hP : fm_kd g P = 6) (M : fm_Mem) (w : fm_W) : ∀ r, f_X6_withTriangles P a1 a3 M = some r → fC g l z_X6_withTriangles [.ref P, .long a1, .int a3] (M, w) (exJ M w r) := fun r hr => fC.of (by decide) rfl o_X6_withTriangles hl (Nat.le_of_ble_eq_true rfl) (t_X6_withTriangles g l hl P a1 a3 hP M w r hr)
def k_X6_checksum : List (Nat × Instr × Nat) := [(0, .lconst 0, 1), (1, .lstore_n 1, 1), (2, .iconst 0, 1), (3, .istore_n 3, 1), (4, .iload_n 3, 1), (5, .bipush 11, 2), (7, .if_icmp .gt 28, 3), (10, .iload_n 3, 1), (11, .bipush 9, 2), (13, .if_icmp .eq 16, 3), (16, .ldc2_w 242, 3), (19, .lload_n 1, 1), (20, .lmul, 1), (21, .aload_n 0, 1), (22, .iload_n 3, 1), (23, .invokevirtual 244, 3), (26, .i2l, 1), (27, .ladd, 1), (28, .lstore_n 1, 1), (29, .iinc 3 1, 3), (32, .goto (-28), 3), (35, .iconst 0, 1), (36, .istore_n 3, 1), (37, .iload_n 3, 1), (38, .aload_n 0, 1), (39, .getfield 19, 3), (42, .getfield 64, 3), (45, .invokevirtual 72, 3), (48, .if_icmp .ge 40, 3), (51, .iconst 0, 1), (52, .istore 4, 2), (54, .iload 4, 2), (56, .bipush 6, 2), (58, .if_icmp .gt 24, 3), (61, .ldc2_w 242, 3), (64, .lload_n 1, 1), (65, .lmul, 1), (66, .aload_n 0, 1), (67, .iload_n 3, 1), (68, .iload 4, 2), (70, .invokevirtual 247, 3), (73, .i2l, 1), (74, .ladd, 1), (75, .lstore_n 1, 1), (76, .iinc 4 1, 3), (79, .goto (-25), 3), (82, .iinc 3 1, 3), (85, .goto (-48), 3), (88, .aload_n 0, 1), (89, .lload_n 1, 1), (90, .iconst 0, 1), (91, .invokevirtual 250, 3), (94, .lstore_n 1, 1), (95, .aload_n 0, 1), (96, .lload_n 1, 1), (97, .iconst 1, 1), (98, .invokevirtual 250, 3), (101, .lstore_n 1, 1), (102, .ldc2_w 242, 3), (105, .lload_n 1, 1), (106, .lmul, 1), (107, .aload_n 0, 1), (108, .invokevirtual 254, 3), (111, .ladd, 1), (112, .lstore_n 1, 1), (113, .ldc2_w 242, 3), (116, .lload_n 1, 1), (117, .lmul, 1), (118, .aload_n 0, 1), (119, .invokevirtual 257, 3), (122, .ladd, 1), (123, .lreturn, 1)]
def z_X6_checksum : fm_Y := (yX6_checksum, RX6, cX6_checksum, 5, (some .long), k_X6_checksum, 9, 166)
theorem o_X6_checksum : fm_dec z_X6_checksum := (by decide +kernel : ∀ q ∈ k_X6_checksum, decode cX6_checksum q.1 = .ok q.2)
theorem cw_X6_checksum : fm_cwV z_X6_checksum := ⟨⟨lw_in 452 (by decide +kernel) (by decide +kernel), lw_in 91 (by decide +kernel) (by decide +kernel), by decide, by decide⟩, lw_in 450 (by decide +kernel) (by decide +kernel), lw_in 451 (by decide +kernel) (by decide +kernel)⟩
theorem pn_X6_checksum : (parseMethodDescriptor z_X6_checksum.1.desc).map (fun d => d.parameters.length) = some 0 := by decide +kernel
def f_X6_checksum_54 (P : Nat) (k37 : Int64 → Int32 → fm_Mem → Option (Nat ⊕ Int64)) : Nat → Int64 → Int32 → Int32 → fm_Mem → Option (Nat ⊕ Int64)
  | 0, _, _, _, _ => none
  | n + 1, x1, x3, x4, M => if (6 : Int32) < x4 then (k37 x1 (x3 + (1 : Int32)) M) else (fm_bx (f_X6_point P x3 x4 M) (fun v1 => (f_X6_checksum_54 P k37 n (((31 : Int64) * x1) + (Int32.toInt64 v1)) x3 (x4 + (1 : Int32)) M)))
set_option maxRecDepth 100000 in
set_option maxHeartbeats 4000000 in
theorem t_X6_checksum_54 (g : fm_G) (l : Launch) (hl : l.stackTraces = false) (P : Nat) (hP : fm_kd g P = 6) (w : fm_W) (k37 : Int64 → Int32 → fm_Mem → Option (Nat ⊕ Int64)) (hk37 : ∀ (x1 : Int64) (x3 : Int32) (M : fm_Mem), Tt g l z_X6_checksum (exJ M w) (k37 x1 x3 M) 37 [(0, .ref P), (1, .long x1), (3, .int x3)] [] (M, w)) : ∀ (n : Nat) (x1 : Int64) (x3 : Int32) (x4 : Int32)  (M : fm_Mem), Tt g l z_X6_checksum (exJ M w) (f_X6_checksum_54 P k37 n x1 x3 x4 M) 54 [(0, .ref P), (1, .long x1), (3, .int x3), (4, .int x4)] [] (M, w) := by
  intro n
  induction n with
  | zero => intros; exact Tt.none
  | succ n ih =>
    intro x1 x3 x4  M
    rw [f_X6_checksum_54]
    refine Tt.go (fun _ => Tr.run 2 (pc' := 58) (lv' := [(0, .ref P), (1, .long x1), (3, .int x3), (4, .int x4)]) (st' := [.int (6 : Int32), .int x4]) rfl) ?_
    refine Tt.ic_gt (tgt := 82) rfl (by decide) ?_ ?_
    · refine Tt.go (fun _ => Tr.run 2 (pc' := 37) (lv' := [(3, .int (x3 + (1 : Int32))), (0, .ref P), (1, .long x1), (4, .int x4)]) (st' := []) rfl) ?_
      refine Tt.go (fun _ => Tr.sub (lv' := [(0, .ref P), (1, .long x1), (3, .int (x3 + (1 : Int32)))]) [1, 2, 0] rfl) ?_
      exact hk37 x1 (x3 + (1 : Int32)) M
    · refine Tt.go (fun _ => Tr.ldcL rfl fw453) (?_ : Tt g l z_X6_checksum (exJ M w) _ 64 [(0, .ref P), (1, .long x1), (3, .int x3), (4, .int x4)] [.long (31 : Int64)] (M, w))
      refine Tt.go (fun _ => Tr.run 5 (pc' := 70) (lv' := [(0, .ref P), (1, .long x1), (3, .int x3), (4, .int x4)]) (st' := [.int x4, .int x3, .ref P, .long ((31 : Int64) * x1)]) rfl) ?_
      refine Tt.callX (As := [.int x3, .int x4]) (rest := [.long ((31 : Int64) * x1)]) (c_X6_point g l hl P x3 x4 hP M w) hP (by decide) rfl rfl cw_X6_point fw561 pn_X6_point (Nat.le_of_ble_eq_true rfl) (Nat.le_of_ble_eq_true rfl) (Nat.le_of_ble_eq_true rfl) rfl (fun v1 => (?_ : Tt g l z_X6_checksum (exJ M w) _ 73 [(0, .ref P), (1, .long x1), (3, .int x3), (4, .int x4)] [.int v1, .long ((31 : Int64) * x1)] (M, w)))
      refine Tt.go (fun _ => Tr.run 5 (pc' := 54) (lv' := [(4, .int (x4 + (1 : Int32))), (1, .long (((31 : Int64) * x1) + (Int32.toInt64 v1))), (0, .ref P), (3, .int x3)]) (st' := []) rfl) ?_
      refine Tt.go (fun _ => Tr.sub (lv' := [(0, .ref P), (1, .long (((31 : Int64) * x1) + (Int32.toInt64 v1))), (3, .int x3), (4, .int (x4 + (1 : Int32)))]) [2, 1, 3, 0] rfl) ?_
      exact ih (((31 : Int64) * x1) + (Int32.toInt64 v1)) x3 (x4 + (1 : Int32)) M
def f_X6_checksum_37 (P : Nat) : Nat → Int64 → Int32 → fm_Mem → Option (Nat ⊕ Int64)
  | 0, _, _, _ => none
  | n + 1, x1, x3, M => Option.bind (f_X3_size (P + 20 + 1) M) (fun v1 => if v1 ≤ x3 then (fm_bx (f_X6_withTriangles P x1 (0 : Int32) M) (fun v2 => fm_bx (f_X6_withTriangles P v2 (1 : Int32) M) (fun v3 => Option.bind (f_X6_lift P M) (fun v4 => Option.bind (f_X6_tree P M) (fun v5 => some (.inr ((((31 : Int64) * (((31 : Int64) * v3) + v4)) + v5)))))))) else (f_X6_checksum_54 P (fun x1 x3 M => f_X6_checksum_37 P n x1 x3 M) fm_fuel x1 x3 (0 : Int32) M))
set_option maxRecDepth 100000 in
set_option maxHeartbeats 4000000 in
theorem t_X6_checksum_37 (g : fm_G) (l : Launch) (hl : l.stackTraces = false) (P : Nat) (hP : fm_kd g P = 6) (w : fm_W)  : ∀ (n : Nat) (x1 : Int64) (x3 : Int32)  (M : fm_Mem), Tt g l z_X6_checksum (exJ M w) (f_X6_checksum_37 P  n x1 x3 M) 37 [(0, .ref P), (1, .long x1), (3, .int x3)] [] (M, w) := by
  intro n
  induction n with
  | zero => intros; exact Tt.none
  | succ n ih =>
    intro x1 x3  M
    rw [f_X6_checksum_37]
    refine Tt.go (fun _ => Tr.run 2 (pc' := 39) (lv' := [(0, .ref P), (1, .long x1), (3, .int x3)]) (st' := [.ref P, .int x3]) rfl) ?_
    refine Tt.go (fun _ => Tr.get fmc6 hP rfl fw268 (k := 1) (by decide) rfl) (?_ : Tt g l z_X6_checksum (exJ M w) _ 42 [(0, .ref P), (1, .long x1), (3, .int x3)] [.ref (P + 20), .int x3] (M, w))
    refine Tt.go (fun _ => Tr.getN fmc2 (fmk_6_1 hP) rfl nw186 (k := 0) (by decide) rfl) (?_ : Tt g l z_X6_checksum (exJ M w) _ 45 [(0, .ref P), (1, .long x1), (3, .int x3)] [.ref (P + 20 + 1), .int x3] (M, w))
    refine Tt.callV (As := []) (rest := [.int x3]) (c_X3_size g l hl (P + 20 + 1) (fmk_2_0 (fmk_6_1 hP)) M w) (fmk_2_0 (fmk_6_1 hP)) (by decide) rfl rfl cw_X3_size fw368 pn_X3_size (Nat.le_of_ble_eq_true rfl) (Nat.le_of_ble_eq_true rfl) (Nat.le_of_ble_eq_true rfl) rfl (fun v1 => (?_ : Tt g l z_X6_checksum (exJ M w) _ 48 [(0, .ref P), (1, .long x1), (3, .int x3)] [.int v1, .int x3] (M, w)))
    refine Tt.ic_ge (tgt := 88) rfl (by decide) ?_ ?_
    · refine Tt.go (fun _ => Tr.run 3 (pc' := 91) (lv' := [(0, .ref P), (1, .long x1), (3, .int x3)]) (st' := [.int (0 : Int32), .long x1, .ref P]) rfl) ?_
      refine Tt.callX (As := [.long x1, .int (0 : Int32)]) (rest := []) (c_X6_withTriangles g l hl P x1 (0 : Int32) hP M w) hP (by decide) rfl rfl cw_X6_withTriangles fw601 pn_X6_withTriangles (Nat.le_of_ble_eq_true rfl) (Nat.le_of_ble_eq_true rfl) (Nat.le_of_ble_eq_true rfl) rfl (fun v2 => (?_ : Tt g l z_X6_checksum (exJ M w) _ 94 [(0, .ref P), (1, .long x1), (3, .int x3)] [.long v2] (M, w)))
      refine Tt.go (fun _ => Tr.run 4 (pc' := 98) (lv' := [(1, .long v2), (0, .ref P), (3, .int x3)]) (st' := [.int (1 : Int32), .long v2, .ref P]) rfl) ?_
      refine Tt.callX (As := [.long v2, .int (1 : Int32)]) (rest := []) (c_X6_withTriangles g l hl P v2 (1 : Int32) hP M w) hP (by decide) rfl rfl cw_X6_withTriangles fw601 pn_X6_withTriangles (Nat.le_of_ble_eq_true rfl) (Nat.le_of_ble_eq_true rfl) (Nat.le_of_ble_eq_true rfl) rfl (fun v3 => (?_ : Tt g l z_X6_checksum (exJ M w) _ 101 [(1, .long v2), (0, .ref P), (3, .int x3)] [.long v3] (M, w)))
      refine Tt.go (fun _ => Tr.run 1 (pc' := 102) (lv' := [(1, .long v3), (0, .ref P), (3, .int x3)]) (st' := []) rfl) ?_
      refine Tt.go (fun _ => Tr.ldcL rfl fw453) (?_ : Tt g l z_X6_checksum (exJ M w) _ 105 [(1, .long v3), (0, .ref P), (3, .int x3)] [.long (31 : Int64)] (M, w))
      refine Tt.go (fun _ => Tr.run 3 (pc' := 108) (lv' := [(1, .long v3), (0, .ref P), (3, .int x3)]) (st' := [.ref P, .long ((31 : Int64) * v3)]) rfl) ?_
      refine Tt.callV (As := []) (rest := [.long ((31 : Int64) * v3)]) (c_X6_lift g l hl P hP M w) hP (by decide) rfl rfl cw_X6_lift fw625 pn_X6_lift (Nat.le_of_ble_eq_true rfl) (Nat.le_of_ble_eq_true rfl) (Nat.le_of_ble_eq_true rfl) rfl (fun v4 => (?_ : Tt g l z_X6_checksum (exJ M w) _ 111 [(1, .long v3), (0, .ref P), (3, .int x3)] [.long v4, .long ((31 : Int64) * v3)] (M, w)))
      refine Tt.go (fun _ => Tr.run 2 (pc' := 113) (lv' := [(1, .long (((31 : Int64) * v3) + v4)), (0, .ref P), (3, .int x3)]) (st' := []) rfl) ?_
      refine Tt.go (fun _ => Tr.ldcL rfl fw453) (?_ : Tt g l z_X6_checksum (exJ M w) _ 116 [(1, .long (((31 : Int64) * v3) + v4)), (0, .ref P), (3, .int x3)] [.long (31 : Int64)] (M, w))
      refine Tt.go (fun _ => Tr.run 3 (pc' := 119) (lv' := [(1, .long (((31 : Int64) * v3) + v4)), (0, .ref P), (3, .int x3)]) (st' := [.ref P, .long ((31 : Int64) * (((31 : Int64) * v3) + v4))]) rfl) ?_
      refine Tt.callV (As := []) (rest := [.long ((31 : Int64) * (((31 : Int64) * v3) + v4))]) (c_X6_tree g l hl P hP M w) hP (by decide) rfl rfl cw_X6_tree fw626 pn_X6_tree (Nat.le_of_ble_eq_true rfl) (Nat.le_of_ble_eq_true rfl) (Nat.le_of_ble_eq_true rfl) rfl (fun v5 => (?_ : Tt g l z_X6_checksum (exJ M w) _ 122 [(1, .long (((31 : Int64) * v3) + v4)), (0, .ref P), (3, .int x3)] [.long v5, .long ((31 : Int64) * (((31 : Int64) * v3) + v4))] (M, w)))
      refine Tt.go (fun _ => Tr.run 1 (pc' := 123) (lv' := [(1, .long (((31 : Int64) * v3) + v4)), (0, .ref P), (3, .int x3)]) (st' := [.long (((31 : Int64) * (((31 : Int64) * v3) + v4)) + v5)]) rfl) ?_
      exact Tt.ret (Tr.lret rfl rfl)
    · refine Tt.go (fun _ => Tr.run 2 (pc' := 54) (lv' := [(4, .int (0 : Int32)), (0, .ref P), (1, .long x1), (3, .int x3)]) (st' := []) rfl) ?_
      refine Tt.go (fun _ => Tr.sub (lv' := [(0, .ref P), (1, .long x1), (3, .int x3), (4, .int (0 : Int32))]) [1, 2, 3, 0] rfl) ?_
      exact t_X6_checksum_54 g l hl P hP w _ ih fm_fuel x1 x3 (0 : Int32) M
def f_X6_checksum_29 (P : Nat) (k4 : Int64 → Int32 → fm_Mem → Option (Nat ⊕ Int64)) (x1 : Int64) (x3 : Int32) (M : fm_Mem) : Option (Nat ⊕ Int64) := (k4 x1 (x3 + (1 : Int32)) M)
set_option maxRecDepth 100000 in
set_option maxHeartbeats 4000000 in
theorem t_X6_checksum_29 (g : fm_G) (l : Launch) (hl : l.stackTraces = false) (P : Nat) (hP : fm_kd g P = 6) (w : fm_W) (k4 : Int64 → Int32 → fm_Mem → Option (Nat ⊕ Int64)) (hk4 : ∀ (x1 : Int64) (x3 : Int32) (M : fm_Mem), Tt g l z_X6_checksum (exJ M w) (k4 x1 x3 M) 4 [(0, .ref P), (1, .long x1), (3, .int x3)] [] (M, w)) (x1 : Int64) (x3 : Int32)  (M : fm_Mem) : Tt g l z_X6_checksum (exJ M w) (f_X6_checksum_29 P k4 x1 x3 M) 29 [(0, .ref P), (1, .long x1), (3, .int x3)] [] (M, w) := by
  rw [f_X6_checksum_29]
  refine Tt.go (fun _ => Tr.run 2 (pc' := 4) (lv' := [(3, .int (x3 + (1 : Int32))), (0, .ref P), (1, .long x1)]) (st' := []) rfl) ?_
  refine Tt.go (fun _ => Tr.sub (lv' := [(0, .ref P), (1, .long x1), (3, .int (x3 + (1 : Int32)))]) [1, 2, 0] rfl) ?_
  exact hk4 x1 (x3 + (1 : Int32)) M
def f_X6_checksum_4 (P : Nat) : Nat → Int64 → Int32 → fm_Mem → Option (Nat ⊕ Int64)
  | 0, _, _, _ => none
  | n + 1, x1, x3, M => if (11 : Int32) < x3 then (f_X6_checksum_37 P fm_fuel x1 (0 : Int32) M) else (if x3 = (9 : Int32) then (f_X6_checksum_29 P (fun x1 x3 M => f_X6_checksum_4 P n x1 x3 M) x1 x3 M) else (fm_bx (f_X6_state P x3 M) (fun v1 => (f_X6_checksum_29 P (fun x1 x3 M => f_X6_checksum_4 P n x1 x3 M) (((31 : Int64) * x1) + (Int32.toInt64 v1)) x3 M))))
set_option maxRecDepth 100000 in
set_option maxHeartbeats 4000000 in
theorem t_X6_checksum_4 (g : fm_G) (l : Launch) (hl : l.stackTraces = false) (P : Nat) (hP : fm_kd g P = 6) (w : fm_W)  : ∀ (n : Nat) (x1 : Int64) (x3 : Int32)  (M : fm_Mem), Tt g l z_X6_checksum (exJ M w) (f_X6_checksum_4 P  n x1 x3 M) 4 [(0, .ref P), (1, .long x1), (3, .int x3)] [] (M, w) := by
  intro n
  induction n with
  | zero => intros; exact Tt.none
  | succ n ih =>
    intro x1 x3  M
    rw [f_X6_checksum_4]
    refine Tt.go (fun _ => Tr.run 2 (pc' := 7) (lv' := [(0, .ref P), (1, .long x1), (3, .int x3)]) (st' := [.int (11 : Int32), .int x3]) rfl) ?_
    refine Tt.ic_gt (tgt := 35) rfl (by decide) ?_ ?_
    · refine Tt.go (fun _ => Tr.run 2 (pc' := 37) (lv' := [(3, .int (0 : Int32)), (0, .ref P), (1, .long x1)]) (st' := []) rfl) ?_
      refine Tt.go (fun _ => Tr.sub (lv' := [(0, .ref P), (1, .long x1), (3, .int (0 : Int32))]) [1, 2, 0] rfl) ?_
      exact t_X6_checksum_37 g l hl P hP w fm_fuel x1 (0 : Int32) M
    · refine Tt.go (fun _ => Tr.run 2 (pc' := 13) (lv' := [(0, .ref P), (1, .long x1), (3, .int x3)]) (st' := [.int (9 : Int32), .int x3]) rfl) ?_
      refine Tt.ic_eq (tgt := 29) rfl (by decide) ?_ ?_
      · exact t_X6_checksum_29 g l hl P hP w _ ih x1 x3 M
      · refine Tt.go (fun _ => Tr.ldcL rfl fw453) (?_ : Tt g l z_X6_checksum (exJ M w) _ 19 [(0, .ref P), (1, .long x1), (3, .int x3)] [.long (31 : Int64)] (M, w))
        refine Tt.go (fun _ => Tr.run 4 (pc' := 23) (lv' := [(0, .ref P), (1, .long x1), (3, .int x3)]) (st' := [.int x3, .ref P, .long ((31 : Int64) * x1)]) rfl) ?_
        refine Tt.callX (As := [.int x3]) (rest := [.long ((31 : Int64) * x1)]) (c_X6_state g l hl P x3 hP M w) hP (by decide) rfl rfl cw_X6_state fw454 pn_X6_state (Nat.le_of_ble_eq_true rfl) (Nat.le_of_ble_eq_true rfl) (Nat.le_of_ble_eq_true rfl) rfl (fun v1 => (?_ : Tt g l z_X6_checksum (exJ M w) _ 26 [(0, .ref P), (1, .long x1), (3, .int x3)] [.int v1, .long ((31 : Int64) * x1)] (M, w)))
        refine Tt.go (fun _ => Tr.run 3 (pc' := 29) (lv' := [(1, .long (((31 : Int64) * x1) + (Int32.toInt64 v1))), (0, .ref P), (3, .int x3)]) (st' := []) rfl) ?_
        refine Tt.go (fun _ => Tr.sub (lv' := [(0, .ref P), (1, .long (((31 : Int64) * x1) + (Int32.toInt64 v1))), (3, .int x3)]) [1, 0, 2] rfl) ?_
        exact t_X6_checksum_29 g l hl P hP w _ ih (((31 : Int64) * x1) + (Int32.toInt64 v1)) x3 M
def f_X6_checksum (P : Nat) (M : fm_Mem) : Option (Nat ⊕ Int64) := (f_X6_checksum_4 P fm_fuel (0 : Int64) (0 : Int32) M)
set_option maxRecDepth 100000 in
set_option maxHeartbeats 4000000 in
theorem t_X6_checksum (g : fm_G) (l : Launch) (hl : l.stackTraces = false) (P : Nat) (hP : fm_kd g P = 6) (M : fm_Mem) (w : fm_W) : Tt g l z_X6_checksum (exJ M w) (f_X6_checksum P M) 0 [(0, .ref P)] [] (M, w) := by
  rw [f_X6_checksum]
  refine Tt.go (fun _ => Tr.run 4 (pc' := 4) (lv' := [(3, .int (0 : Int32)), (1, .long (0 : Int64)), (0, .ref P)]) (st' := []) rfl) ?_
  refine Tt.go (fun _ => Tr.sub (lv' := [(0, .ref P), (1, .long (0 : Int64)), (3, .int (0 : Int32))]) [2, 1, 0] rfl) ?_
  exact t_X6_checksum_4 g l hl P hP w fm_fuel (0 : Int64) (0 : Int32) M
theorem c_X6_checksum (g : fm_G) (l : Launch) (hl : l.stackTraces = false) (P : Nat) (hP : fm_kd g P = 6) (M : fm_Mem) (w : fm_W) : ∀ r, f_X6_checksum P M = some r → fC g l z_X6_checksum [.ref P] (M, w) (exJ M w r) := fun r hr => fC.of (by decide) rfl o_X6_checksum hl (Nat.le_of_ble_eq_true rfl) (t_X6_checksum g l hl P hP M w r hr)
