theorem fw207 : Cond.fieldLink "CircleFlips$Setup" 14 "CircleFlips$Setup" "text" "LCircleFlips$Row;" ∈ lw_all := lw_in 207 (by decide +kernel) (by decide +kernel)
theorem fw210 : Cond.fieldLink "CircleFlips$Setup" 27 "CircleFlips$Setup" "filled" "I" ∈ lw_all := lw_in 210 (by decide +kernel) (by decide +kernel)
theorem fw301 : Cond.methodLink "CircleFlips$Setup" 31 ⟨"CircleFlips$Row", "set", "(II)V"⟩ ∈ lw_all := lw_in 301 (by decide +kernel) (by decide +kernel)
theorem fw356 : Cond.methodLink "CircleFlips$Points" 69 ⟨"CircleFlips$Points", "gapTo", "(II)I"⟩ ∈ lw_all := lw_in 356 (by decide +kernel) (by decide +kernel)
theorem fw360 : Cond.methodLink "CircleFlips$Points" 66 ⟨"CircleFlips$Points", "distance", "(II)I"⟩ ∈ lw_all := lw_in 360 (by decide +kernel) (by decide +kernel)
theorem fw528 : Cond.methodLink "CircleFlips$Plane" 92 ⟨"CircleFlips$Plane", "isBad", "(II)Z"⟩ ∈ lw_all := lw_in 528 (by decide +kernel) (by decide +kernel)
theorem fw532 : Cond.methodLink "CircleFlips$Plane" 77 ⟨"CircleFlips$Mesh", "thirdsOf", "(II)I"⟩ ∈ lw_all := lw_in 532 (by decide +kernel) (by decide +kernel)
theorem fw538 : Cond.methodLink "CircleFlips$Plane" 81 ⟨"java/lang/Integer", "bitCount", "(I)I"⟩ ∈ lw_all := lw_in 538 (by decide +kernel) (by decide +kernel)
theorem nw539 : Cond.methodLinkNest "CircleFlips$Plane" 86 ⟨"CircleFlips", "lowest", "(I)I"⟩ "CircleFlips" ∈ lw_tbl := List.mem_of_getElem? (i := 539) (by decide +kernel)
theorem fw617 : Cond.methodLink "CircleFlips$Points" 59 ⟨"CircleFlips$Points", "circleSide", "(IIIII)I"⟩ ∈ lw_all := lw_in 617 (by decide +kernel) (by decide +kernel)
theorem fw759 : Cond.methodLink "CircleFlips$Points" 35 ⟨"CircleFlips$Points", "set", "(III)V"⟩ ∈ lw_all := lw_in 759 (by decide +kernel) (by decide +kernel)
theorem fw763 : Cond.methodLink "CircleFlips$Points" 39 ⟨"CircleFlips$Row", "set", "(II)V"⟩ ∈ lw_all := lw_in 763 (by decide +kernel) (by decide +kernel)
theorem fw812 : Cond.methodLink "CircleFlips$Plane" 89 ⟨"CircleFlips$Mesh", "remove", "(III)V"⟩ ∈ lw_all := lw_in 812 (by decide +kernel) (by decide +kernel)
theorem fw897 : Cond.methodLink "CircleFlips$Points" 63 ⟨"CircleFlips$Points", "turnTo", "(IIII)I"⟩ ∈ lw_all := lw_in 897 (by decide +kernel) (by decide +kernel)
theorem fw985 : Cond.methodLink "CircleFlips$Points" 42 ⟨"CircleFlips$Row", "remove", "(I)V"⟩ ∈ lw_all := lw_in 985 (by decide +kernel) (by decide +kernel)
theorem fw986 : Cond.methodLink "CircleFlips$Points" 45 ⟨"java/lang/Math", "max", "(II)I"⟩ ∈ lw_all := lw_in 986 (by decide +kernel) (by decide +kernel)
def k_X2_refusal : List (Nat × Instr × Nat) := [(0, .aload_n 0, 1), (1, .getfield 21, 3), (4, .iload_n 1, 1), (5, .iload_n 2, 1), (6, .invokevirtual 77, 3), (9, .istore_n 3, 1), (10, .iload_n 3, 1), (11, .ifCond .ne 5, 3), (14, .iconst 1, 1), (15, .ireturn, 1), (16, .iload_n 3, 1), (17, .invokestatic 81, 3), (20, .iconst 2, 1), (21, .if_icmp .eq 5, 3), (24, .iconst 2, 1), (25, .ireturn, 1), (26, .iload_n 3, 1), (27, .invokestatic 86, 3), (30, .istore 4, 2), (32, .iload_n 3, 1), (33, .iconst 1, 1), (34, .iload 4, 2), (36, .ishl, 1), (37, .iconst (-1), 1), (38, .ixor, 1), (39, .iand, 1), (40, .invokestatic 86, 3), (43, .istore 5, 2), (45, .aload_n 0, 1), (46, .getfield 12, 3), (49, .iload 4, 2), (51, .iload 5, 2), (53, .iload_n 1, 1), (54, .invokevirtual 58, 3), (57, .i2l, 1), (58, .invokestatic 62, 3), (61, .aload_n 0, 1), (62, .getfield 12, 3), (65, .iload 4, 2), (67, .iload 5, 2), (69, .iload_n 2, 1), (70, .invokevirtual 58, 3), (73, .i2l, 1), (74, .invokestatic 62, 3), (77, .imul, 1), (78, .ifCond .ge 7, 3), (81, .iconst 0, 1), (82, .goto 4, 3), (85, .iconst 3, 1), (86, .ireturn, 1)]
def z_X2_refusal : fm_Y := (yX2_refusal, RX2, cX2_refusal, 6, (some .int), k_X2_refusal, 2, 48)
theorem o_X2_refusal : fm_dec z_X2_refusal := (by decide +kernel : ∀ q ∈ k_X2_refusal, decode cX2_refusal q.1 = .ok q.2)
theorem cw_X2_refusal : fm_cwV z_X2_refusal := ⟨⟨lw_in 807 (by decide +kernel) (by decide +kernel), lw_in 95 (by decide +kernel) (by decide +kernel), by decide, by decide⟩, lw_in 805 (by decide +kernel) (by decide +kernel), lw_in 806 (by decide +kernel) (by decide +kernel)⟩
theorem pn_X2_refusal : (parseMethodDescriptor z_X2_refusal.1.desc).map (fun d => d.parameters.length) = some 2 := by decide +kernel
def f_X2_refusal_86 (P : Nat) (a1 : Int32) (a2 : Int32) (s0 : Int32) (M : fm_Mem) : Option (Int32) := some (s0)
set_option maxRecDepth 100000 in
set_option maxHeartbeats 4000000 in
theorem t_X2_refusal_86 (g : fm_G) (l : Launch) (hl : l.stackTraces = false) (P : Nat) (a1 : Int32) (a2 : Int32) (hP : fm_kd g P = 2) (w : fm_W)  (s0 : Int32)  (M : fm_Mem) : Tt g l z_X2_refusal (emI M w) (f_X2_refusal_86 P a1 a2  s0 M) 86 [] [.int s0] (M, w) := by
  rw [f_X2_refusal_86]
  exact Tt.ret (Tr.iret rfl rfl)
def f_X2_refusal (P : Nat) (a1 : Int32) (a2 : Int32) (M : fm_Mem) : Option (Int32) := Option.bind (f_X1_thirdsOf (P + 6) a1 a2 M) (fun v1 => if v1 = 0 then (some ((1 : Int32))) else (Option.bind (f_J6_bitCount_0f7a4 v1 M) (fun v2 => if v2 = (2 : Int32) then (Option.bind (f_X6_lowest v1 M) (fun v3 => Option.bind (f_X6_lowest (v1 &&& (((1 : Int32) <<< (v3 &&& 31)) ^^^ (-1 : Int32))) M) (fun v4 => Option.bind (f_X3_turn (P + 1) v3 v4 a1 M) (fun v5 => Option.bind (f_X6_sign (Int32.toInt64 v5) M) (fun v6 => Option.bind (f_X3_turn (P + 1) v3 v4 a2 M) (fun v7 => Option.bind (f_X6_sign (Int32.toInt64 v7) M) (fun v8 => if 0 ≤ (v6 * v8) then (f_X2_refusal_86 P a1 a2 (3 : Int32) M) else (f_X2_refusal_86 P a1 a2 (0 : Int32) M)))))))) else (some ((2 : Int32))))))
set_option maxRecDepth 100000 in
set_option maxHeartbeats 4000000 in
theorem t_X2_refusal (g : fm_G) (l : Launch) (hl : l.stackTraces = false) (P : Nat) (a1 : Int32) (a2 : Int32) (hP : fm_kd g P = 2) (M : fm_Mem) (w : fm_W) : Tt g l z_X2_refusal (emI M w) (f_X2_refusal P a1 a2 M) 0 [(0, .ref P), (1, .int a1), (2, .int a2)] [] (M, w) := by
  rw [f_X2_refusal]
  refine Tt.go (fun _ => Tr.run 1 (pc' := 1) (lv' := [(0, .ref P), (1, .int a1), (2, .int a2)]) (st' := [.ref P]) rfl) ?_
  refine Tt.go (fun _ => Tr.get fmc2 hP rfl fw188 (k := 1) (by decide) rfl) (?_ : Tt g l z_X2_refusal (emI M w) _ 4 [(0, .ref P), (1, .int a1), (2, .int a2)] [.ref (P + 6)] (M, w))
  refine Tt.go (fun _ => Tr.run 2 (pc' := 6) (lv' := [(0, .ref P), (1, .int a1), (2, .int a2)]) (st' := [.int a2, .int a1, .ref (P + 6)]) rfl) ?_
  refine Tt.callV (As := [.int a1, .int a2]) (rest := []) (c_X1_thirdsOf g l hl (P + 6) a1 a2 (fmk_2_1 hP) M w) (fmk_2_1 hP) (by decide) rfl rfl cw_X1_thirdsOf fw532 pn_X1_thirdsOf (Nat.le_of_ble_eq_true rfl) (Nat.le_of_ble_eq_true rfl) (Nat.le_of_ble_eq_true rfl) rfl (fun v1 => (?_ : Tt g l z_X2_refusal (emI M w) _ 9 [(0, .ref P), (1, .int a1), (2, .int a2)] [.int v1] (M, w)))
  refine Tt.go (fun _ => Tr.run 2 (pc' := 11) (lv' := [(3, .int v1), (0, .ref P), (1, .int a1), (2, .int a2)]) (st' := [.int v1]) rfl) ?_
  refine Tt.if_ne (tgt := 16) rfl (by decide) ?_ ?_
  · refine Tt.go (fun _ => Tr.run 1 (pc' := 15) (lv' := [(3, .int v1), (0, .ref P), (1, .int a1), (2, .int a2)]) (st' := [.int (1 : Int32)]) rfl) ?_
    exact Tt.ret (Tr.iret rfl rfl)
  · refine Tt.go (fun _ => Tr.run 1 (pc' := 17) (lv' := [(3, .int v1), (0, .ref P), (1, .int a1), (2, .int a2)]) (st' := [.int v1]) rfl) ?_
    refine Tt.callS (As := [.int v1]) (rest := []) (c_J6_bitCount_0f7a4 g l hl v1 M w) rfl cw_J6_bitCount_0f7a4 fw538 pn_J6_bitCount_0f7a4 (Nat.le_of_ble_eq_true rfl) (Nat.le_of_ble_eq_true rfl) (Nat.le_of_ble_eq_true rfl) rfl (fun v2 => (?_ : Tt g l z_X2_refusal (emI M w) _ 20 [(3, .int v1), (0, .ref P), (1, .int a1), (2, .int a2)] [.int v2] (M, w)))
    refine Tt.go (fun _ => Tr.run 1 (pc' := 21) (lv' := [(3, .int v1), (0, .ref P), (1, .int a1), (2, .int a2)]) (st' := [.int (2 : Int32), .int v2]) rfl) ?_
    refine Tt.ic_eq (tgt := 26) rfl (by decide) ?_ ?_
    · refine Tt.go (fun _ => Tr.run 1 (pc' := 27) (lv' := [(3, .int v1), (0, .ref P), (1, .int a1), (2, .int a2)]) (st' := [.int v1]) rfl) ?_
      refine Tt.callN (As := [.int v1]) (rest := []) (c_X6_lowest g l hl v1 M w) rfl cw_X6_lowest nw539 pn_X6_lowest (Nat.le_of_ble_eq_true rfl) (Nat.le_of_ble_eq_true rfl) (Nat.le_of_ble_eq_true rfl) rfl (fun v3 => (?_ : Tt g l z_X2_refusal (emI M w) _ 30 [(3, .int v1), (0, .ref P), (1, .int a1), (2, .int a2)] [.int v3] (M, w)))
      refine Tt.go (fun _ => Tr.run 8 (pc' := 40) (lv' := [(4, .int v3), (3, .int v1), (0, .ref P), (1, .int a1), (2, .int a2)]) (st' := [.int (v1 &&& (((1 : Int32) <<< (v3 &&& 31)) ^^^ (-1 : Int32)))]) rfl) ?_
      refine Tt.callN (As := [.int (v1 &&& (((1 : Int32) <<< (v3 &&& 31)) ^^^ (-1 : Int32)))]) (rest := []) (c_X6_lowest g l hl (v1 &&& (((1 : Int32) <<< (v3 &&& 31)) ^^^ (-1 : Int32))) M w) rfl cw_X6_lowest nw539 pn_X6_lowest (Nat.le_of_ble_eq_true rfl) (Nat.le_of_ble_eq_true rfl) (Nat.le_of_ble_eq_true rfl) rfl (fun v4 => (?_ : Tt g l z_X2_refusal (emI M w) _ 43 [(4, .int v3), (3, .int v1), (0, .ref P), (1, .int a1), (2, .int a2)] [.int v4] (M, w)))
      refine Tt.go (fun _ => Tr.run 2 (pc' := 46) (lv' := [(5, .int v4), (4, .int v3), (3, .int v1), (0, .ref P), (1, .int a1), (2, .int a2)]) (st' := [.ref P]) rfl) ?_
      refine Tt.go (fun _ => Tr.get fmc2 hP rfl fw185 (k := 0) (by decide) rfl) (?_ : Tt g l z_X2_refusal (emI M w) _ 49 [(5, .int v4), (4, .int v3), (3, .int v1), (0, .ref P), (1, .int a1), (2, .int a2)] [.ref (P + 1)] (M, w))
      refine Tt.go (fun _ => Tr.run 3 (pc' := 54) (lv' := [(5, .int v4), (4, .int v3), (3, .int v1), (0, .ref P), (1, .int a1), (2, .int a2)]) (st' := [.int a1, .int v4, .int v3, .ref (P + 1)]) rfl) ?_
      refine Tt.callV (As := [.int v3, .int v4, .int a1]) (rest := []) (c_X3_turn g l hl (P + 1) v3 v4 a1 (fmk_2_0 hP) M w) (fmk_2_0 hP) (by decide) rfl rfl cw_X3_turn fw776 pn_X3_turn (Nat.le_of_ble_eq_true rfl) (Nat.le_of_ble_eq_true rfl) (Nat.le_of_ble_eq_true rfl) rfl (fun v5 => (?_ : Tt g l z_X2_refusal (emI M w) _ 57 [(5, .int v4), (4, .int v3), (3, .int v1), (0, .ref P), (1, .int a1), (2, .int a2)] [.int v5] (M, w)))
      refine Tt.go (fun _ => Tr.run 1 (pc' := 58) (lv' := [(5, .int v4), (4, .int v3), (3, .int v1), (0, .ref P), (1, .int a1), (2, .int a2)]) (st' := [.long (Int32.toInt64 v5)]) rfl) ?_
      refine Tt.callN (As := [.long (Int32.toInt64 v5)]) (rest := []) (c_X6_sign g l hl (Int32.toInt64 v5) M w) rfl cw_X6_sign nw777 pn_X6_sign (Nat.le_of_ble_eq_true rfl) (Nat.le_of_ble_eq_true rfl) (Nat.le_of_ble_eq_true rfl) rfl (fun v6 => (?_ : Tt g l z_X2_refusal (emI M w) _ 61 [(5, .int v4), (4, .int v3), (3, .int v1), (0, .ref P), (1, .int a1), (2, .int a2)] [.int v6] (M, w)))
      refine Tt.go (fun _ => Tr.run 1 (pc' := 62) (lv' := [(5, .int v4), (4, .int v3), (3, .int v1), (0, .ref P), (1, .int a1), (2, .int a2)]) (st' := [.ref P, .int v6]) rfl) ?_
      refine Tt.go (fun _ => Tr.get fmc2 hP rfl fw185 (k := 0) (by decide) rfl) (?_ : Tt g l z_X2_refusal (emI M w) _ 65 [(5, .int v4), (4, .int v3), (3, .int v1), (0, .ref P), (1, .int a1), (2, .int a2)] [.ref (P + 1), .int v6] (M, w))
      refine Tt.go (fun _ => Tr.run 3 (pc' := 70) (lv' := [(5, .int v4), (4, .int v3), (3, .int v1), (0, .ref P), (1, .int a1), (2, .int a2)]) (st' := [.int a2, .int v4, .int v3, .ref (P + 1), .int v6]) rfl) ?_
      refine Tt.callV (As := [.int v3, .int v4, .int a2]) (rest := [.int v6]) (c_X3_turn g l hl (P + 1) v3 v4 a2 (fmk_2_0 hP) M w) (fmk_2_0 hP) (by decide) rfl rfl cw_X3_turn fw776 pn_X3_turn (Nat.le_of_ble_eq_true rfl) (Nat.le_of_ble_eq_true rfl) (Nat.le_of_ble_eq_true rfl) rfl (fun v7 => (?_ : Tt g l z_X2_refusal (emI M w) _ 73 [(5, .int v4), (4, .int v3), (3, .int v1), (0, .ref P), (1, .int a1), (2, .int a2)] [.int v7, .int v6] (M, w)))
      refine Tt.go (fun _ => Tr.run 1 (pc' := 74) (lv' := [(5, .int v4), (4, .int v3), (3, .int v1), (0, .ref P), (1, .int a1), (2, .int a2)]) (st' := [.long (Int32.toInt64 v7), .int v6]) rfl) ?_
      refine Tt.callN (As := [.long (Int32.toInt64 v7)]) (rest := [.int v6]) (c_X6_sign g l hl (Int32.toInt64 v7) M w) rfl cw_X6_sign nw777 pn_X6_sign (Nat.le_of_ble_eq_true rfl) (Nat.le_of_ble_eq_true rfl) (Nat.le_of_ble_eq_true rfl) rfl (fun v8 => (?_ : Tt g l z_X2_refusal (emI M w) _ 77 [(5, .int v4), (4, .int v3), (3, .int v1), (0, .ref P), (1, .int a1), (2, .int a2)] [.int v8, .int v6] (M, w)))
      refine Tt.go (fun _ => Tr.run 1 (pc' := 78) (lv' := [(5, .int v4), (4, .int v3), (3, .int v1), (0, .ref P), (1, .int a1), (2, .int a2)]) (st' := [.int (v6 * v8)]) rfl) ?_
      refine Tt.if_ge (tgt := 85) rfl (by decide) ?_ ?_
      · refine Tt.go (fun _ => Tr.run 1 (pc' := 86) (lv' := [(5, .int v4), (4, .int v3), (3, .int v1), (0, .ref P), (1, .int a1), (2, .int a2)]) (st' := [.int (3 : Int32)]) rfl) ?_
        refine Tt.go (fun _ => Tr.sub (lv' := []) [] rfl) ?_
        exact t_X2_refusal_86 g l hl P a1 a2 hP w (3 : Int32) M
      · refine Tt.go (fun _ => Tr.run 2 (pc' := 86) (lv' := [(5, .int v4), (4, .int v3), (3, .int v1), (0, .ref P), (1, .int a1), (2, .int a2)]) (st' := [.int (0 : Int32)]) rfl) ?_
        refine Tt.go (fun _ => Tr.sub (lv' := []) [] rfl) ?_
        exact t_X2_refusal_86 g l hl P a1 a2 hP w (0 : Int32) M
    · refine Tt.go (fun _ => Tr.run 1 (pc' := 25) (lv' := [(3, .int v1), (0, .ref P), (1, .int a1), (2, .int a2)]) (st' := [.int (2 : Int32)]) rfl) ?_
      exact Tt.ret (Tr.iret rfl rfl)
theorem c_X2_refusal (g : fm_G) (l : Launch) (hl : l.stackTraces = false) (P : Nat) (a1 : Int32) (a2 : Int32) (hP : fm_kd g P = 2) (M : fm_Mem) (w : fm_W) : ∀ r, f_X2_refusal P a1 a2 M = some r → fC g l z_X2_refusal [.ref P, .int a1, .int a2] (M, w) (emI M w r) := fun r hr => fC.of (by decide) rfl o_X2_refusal hl (Nat.le_of_ble_eq_true rfl) (t_X2_refusal g l hl P a1 a2 hP M w r hr)
def k_X2_flipEdge : List (Nat × Instr × Nat) := [(0, .aload_n 0, 1), (1, .getfield 21, 3), (4, .iload_n 1, 1), (5, .iload_n 2, 1), (6, .invokevirtual 77, 3), (9, .istore_n 3, 1), (10, .iload_n 3, 1), (11, .invokestatic 86, 3), (14, .istore 4, 2), (16, .iload_n 3, 1), (17, .iconst 1, 1), (18, .iload 4, 2), (20, .ishl, 1), (21, .iconst (-1), 1), (22, .ixor, 1), (23, .iand, 1), (24, .invokestatic 86, 3), (27, .istore 5, 2), (29, .aload_n 0, 1), (30, .getfield 21, 3), (33, .iload_n 1, 1), (34, .iload_n 2, 1), (35, .iload 4, 2), (37, .invokevirtual 89, 3), (40, .aload_n 0, 1), (41, .getfield 21, 3), (44, .iload_n 1, 1), (45, .iload_n 2, 1), (46, .iload 5, 2), (48, .invokevirtual 89, 3), (51, .aload_n 0, 1), (52, .getfield 21, 3), (55, .iload_n 1, 1), (56, .iload 4, 2), (58, .iload 5, 2), (60, .invokevirtual 54, 3), (63, .aload_n 0, 1), (64, .getfield 21, 3), (67, .iload_n 2, 1), (68, .iload 4, 2), (70, .iload 5, 2), (72, .invokevirtual 54, 3), (75, .aload_n 0, 1), (76, .dup, 1), (77, .getfield 32, 3), (80, .iconst 1, 1), (81, .iadd, 1), (82, .putfield 32, 3), (85, .bipush 100, 2), (87, .iload 4, 2), (89, .imul, 1), (90, .iload 5, 2), (92, .iadd, 1), (93, .ireturn, 1)]
def z_X2_flipEdge : fm_Y := (yX2_flipEdge, RX2, cX2_flipEdge, 6, (some .int), k_X2_flipEdge, 3, 71)
theorem o_X2_flipEdge : fm_dec z_X2_flipEdge := (by decide +kernel : ∀ q ∈ k_X2_flipEdge, decode cX2_flipEdge q.1 = .ok q.2)
theorem cw_X2_flipEdge : fm_cwV z_X2_flipEdge := ⟨⟨lw_in 811 (by decide +kernel) (by decide +kernel), lw_in 95 (by decide +kernel) (by decide +kernel), by decide, by decide⟩, lw_in 809 (by decide +kernel) (by decide +kernel), lw_in 810 (by decide +kernel) (by decide +kernel)⟩
theorem pn_X2_flipEdge : (parseMethodDescriptor z_X2_flipEdge.1.desc).map (fun d => d.parameters.length) = some 2 := by decide +kernel
def f_X2_flipEdge (P : Nat) (a1 : Int32) (a2 : Int32) (M : fm_Mem) : Option (Int32 × fm_Mem) := Option.bind (f_X1_thirdsOf (P + 6) a1 a2 M) (fun v1 => Option.bind (f_X6_lowest v1 M) (fun v2 => Option.bind (f_X6_lowest (v1 &&& (((1 : Int32) <<< (v2 &&& 31)) ^^^ (-1 : Int32))) M) (fun v3 => Option.bind (f_X1_remove (P + 6) a1 a2 v2 M) (fun v4 => Option.bind (f_X1_remove (P + 6) a1 a2 v3 v4) (fun v5 => Option.bind (f_X1_add (P + 6) a1 v2 v3 v5) (fun v6 => Option.bind (f_X1_add (P + 6) a2 v2 v3 v6) (fun v7 => some (((((100 : Int32) * v2) + v3), (fm_up v7 P 3 ((v7 P 3) + (1 : Int32))))))))))))
set_option maxRecDepth 100000 in
set_option maxHeartbeats 4000000 in
theorem t_X2_flipEdge (g : fm_G) (l : Launch) (hl : l.stackTraces = false) (P : Nat) (a1 : Int32) (a2 : Int32) (hP : fm_kd g P = 2) (M : fm_Mem) (w : fm_W) : Tt g l z_X2_flipEdge (emIw M w) (f_X2_flipEdge P a1 a2 M) 0 [(0, .ref P), (1, .int a1), (2, .int a2)] [] (M, w) := by
  rw [f_X2_flipEdge]
  refine Tt.go (fun _ => Tr.run 1 (pc' := 1) (lv' := [(0, .ref P), (1, .int a1), (2, .int a2)]) (st' := [.ref P]) rfl) ?_
  refine Tt.go (fun _ => Tr.get fmc2 hP rfl fw188 (k := 1) (by decide) rfl) (?_ : Tt g l z_X2_flipEdge (emIw M w) _ 4 [(0, .ref P), (1, .int a1), (2, .int a2)] [.ref (P + 6)] (M, w))
  refine Tt.go (fun _ => Tr.run 2 (pc' := 6) (lv' := [(0, .ref P), (1, .int a1), (2, .int a2)]) (st' := [.int a2, .int a1, .ref (P + 6)]) rfl) ?_
  refine Tt.callV (As := [.int a1, .int a2]) (rest := []) (c_X1_thirdsOf g l hl (P + 6) a1 a2 (fmk_2_1 hP) M w) (fmk_2_1 hP) (by decide) rfl rfl cw_X1_thirdsOf fw532 pn_X1_thirdsOf (Nat.le_of_ble_eq_true rfl) (Nat.le_of_ble_eq_true rfl) (Nat.le_of_ble_eq_true rfl) rfl (fun v1 => (?_ : Tt g l z_X2_flipEdge (emIw M w) _ 9 [(0, .ref P), (1, .int a1), (2, .int a2)] [.int v1] (M, w)))
  refine Tt.go (fun _ => Tr.run 2 (pc' := 11) (lv' := [(3, .int v1), (0, .ref P), (1, .int a1), (2, .int a2)]) (st' := [.int v1]) rfl) ?_
  refine Tt.callN (As := [.int v1]) (rest := []) (c_X6_lowest g l hl v1 M w) rfl cw_X6_lowest nw539 pn_X6_lowest (Nat.le_of_ble_eq_true rfl) (Nat.le_of_ble_eq_true rfl) (Nat.le_of_ble_eq_true rfl) rfl (fun v2 => (?_ : Tt g l z_X2_flipEdge (emIw M w) _ 14 [(3, .int v1), (0, .ref P), (1, .int a1), (2, .int a2)] [.int v2] (M, w)))
  refine Tt.go (fun _ => Tr.run 8 (pc' := 24) (lv' := [(4, .int v2), (3, .int v1), (0, .ref P), (1, .int a1), (2, .int a2)]) (st' := [.int (v1 &&& (((1 : Int32) <<< (v2 &&& 31)) ^^^ (-1 : Int32)))]) rfl) ?_
  refine Tt.callN (As := [.int (v1 &&& (((1 : Int32) <<< (v2 &&& 31)) ^^^ (-1 : Int32)))]) (rest := []) (c_X6_lowest g l hl (v1 &&& (((1 : Int32) <<< (v2 &&& 31)) ^^^ (-1 : Int32))) M w) rfl cw_X6_lowest nw539 pn_X6_lowest (Nat.le_of_ble_eq_true rfl) (Nat.le_of_ble_eq_true rfl) (Nat.le_of_ble_eq_true rfl) rfl (fun v3 => (?_ : Tt g l z_X2_flipEdge (emIw M w) _ 27 [(4, .int v2), (3, .int v1), (0, .ref P), (1, .int a1), (2, .int a2)] [.int v3] (M, w)))
  refine Tt.go (fun _ => Tr.run 2 (pc' := 30) (lv' := [(5, .int v3), (4, .int v2), (3, .int v1), (0, .ref P), (1, .int a1), (2, .int a2)]) (st' := [.ref P]) rfl) ?_
  refine Tt.go (fun _ => Tr.get fmc2 hP rfl fw188 (k := 1) (by decide) rfl) (?_ : Tt g l z_X2_flipEdge (emIw M w) _ 33 [(5, .int v3), (4, .int v2), (3, .int v1), (0, .ref P), (1, .int a1), (2, .int a2)] [.ref (P + 6)] (M, w))
  refine Tt.go (fun _ => Tr.run 3 (pc' := 37) (lv' := [(5, .int v3), (4, .int v2), (3, .int v1), (0, .ref P), (1, .int a1), (2, .int a2)]) (st' := [.int v2, .int a2, .int a1, .ref (P + 6)]) rfl) ?_
  refine Tt.callV (As := [.int a1, .int a2, .int v2]) (rest := []) (c_X1_remove g l hl (P + 6) a1 a2 v2 (fmk_2_1 hP) M w) (fmk_2_1 hP) (by decide) rfl rfl cw_X1_remove fw812 pn_X1_remove (Nat.le_of_ble_eq_true rfl) (Nat.le_of_ble_eq_true rfl) (Nat.le_of_ble_eq_true rfl) rfl (fun v4 => (?_ : Tt g l z_X2_flipEdge (emIw M w) _ 40 [(5, .int v3), (4, .int v2), (3, .int v1), (0, .ref P), (1, .int a1), (2, .int a2)] [] (v4, w)))
  refine Tt.go (fun _ => Tr.run 1 (pc' := 41) (lv' := [(5, .int v3), (4, .int v2), (3, .int v1), (0, .ref P), (1, .int a1), (2, .int a2)]) (st' := [.ref P]) rfl) ?_
  refine Tt.go (fun _ => Tr.get fmc2 hP rfl fw188 (k := 1) (by decide) rfl) (?_ : Tt g l z_X2_flipEdge (emIw M w) _ 44 [(5, .int v3), (4, .int v2), (3, .int v1), (0, .ref P), (1, .int a1), (2, .int a2)] [.ref (P + 6)] (v4, w))
  refine Tt.go (fun _ => Tr.run 3 (pc' := 48) (lv' := [(5, .int v3), (4, .int v2), (3, .int v1), (0, .ref P), (1, .int a1), (2, .int a2)]) (st' := [.int v3, .int a2, .int a1, .ref (P + 6)]) rfl) ?_
  refine Tt.callV (As := [.int a1, .int a2, .int v3]) (rest := []) (c_X1_remove g l hl (P + 6) a1 a2 v3 (fmk_2_1 hP) v4 w) (fmk_2_1 hP) (by decide) rfl rfl cw_X1_remove fw812 pn_X1_remove (Nat.le_of_ble_eq_true rfl) (Nat.le_of_ble_eq_true rfl) (Nat.le_of_ble_eq_true rfl) rfl (fun v5 => (?_ : Tt g l z_X2_flipEdge (emIw M w) _ 51 [(5, .int v3), (4, .int v2), (3, .int v1), (0, .ref P), (1, .int a1), (2, .int a2)] [] (v5, w)))
  refine Tt.go (fun _ => Tr.run 1 (pc' := 52) (lv' := [(5, .int v3), (4, .int v2), (3, .int v1), (0, .ref P), (1, .int a1), (2, .int a2)]) (st' := [.ref P]) rfl) ?_
  refine Tt.go (fun _ => Tr.get fmc2 hP rfl fw188 (k := 1) (by decide) rfl) (?_ : Tt g l z_X2_flipEdge (emIw M w) _ 55 [(5, .int v3), (4, .int v2), (3, .int v1), (0, .ref P), (1, .int a1), (2, .int a2)] [.ref (P + 6)] (v5, w))
  refine Tt.go (fun _ => Tr.run 3 (pc' := 60) (lv' := [(5, .int v3), (4, .int v2), (3, .int v1), (0, .ref P), (1, .int a1), (2, .int a2)]) (st' := [.int v3, .int v2, .int a1, .ref (P + 6)]) rfl) ?_
  refine Tt.callV (As := [.int a1, .int v2, .int v3]) (rest := []) (c_X1_add g l hl (P + 6) a1 v2 v3 (fmk_2_1 hP) v5 w) (fmk_2_1 hP) (by decide) rfl rfl cw_X1_add fw778 pn_X1_add (Nat.le_of_ble_eq_true rfl) (Nat.le_of_ble_eq_true rfl) (Nat.le_of_ble_eq_true rfl) rfl (fun v6 => (?_ : Tt g l z_X2_flipEdge (emIw M w) _ 63 [(5, .int v3), (4, .int v2), (3, .int v1), (0, .ref P), (1, .int a1), (2, .int a2)] [] (v6, w)))
  refine Tt.go (fun _ => Tr.run 1 (pc' := 64) (lv' := [(5, .int v3), (4, .int v2), (3, .int v1), (0, .ref P), (1, .int a1), (2, .int a2)]) (st' := [.ref P]) rfl) ?_
  refine Tt.go (fun _ => Tr.get fmc2 hP rfl fw188 (k := 1) (by decide) rfl) (?_ : Tt g l z_X2_flipEdge (emIw M w) _ 67 [(5, .int v3), (4, .int v2), (3, .int v1), (0, .ref P), (1, .int a1), (2, .int a2)] [.ref (P + 6)] (v6, w))
  refine Tt.go (fun _ => Tr.run 3 (pc' := 72) (lv' := [(5, .int v3), (4, .int v2), (3, .int v1), (0, .ref P), (1, .int a1), (2, .int a2)]) (st' := [.int v3, .int v2, .int a2, .ref (P + 6)]) rfl) ?_
  refine Tt.callV (As := [.int a2, .int v2, .int v3]) (rest := []) (c_X1_add g l hl (P + 6) a2 v2 v3 (fmk_2_1 hP) v6 w) (fmk_2_1 hP) (by decide) rfl rfl cw_X1_add fw778 pn_X1_add (Nat.le_of_ble_eq_true rfl) (Nat.le_of_ble_eq_true rfl) (Nat.le_of_ble_eq_true rfl) rfl (fun v7 => (?_ : Tt g l z_X2_flipEdge (emIw M w) _ 75 [(5, .int v3), (4, .int v2), (3, .int v1), (0, .ref P), (1, .int a1), (2, .int a2)] [] (v7, w)))
  refine Tt.go (fun _ => Tr.run 2 (pc' := 77) (lv' := [(5, .int v3), (4, .int v2), (3, .int v1), (0, .ref P), (1, .int a1), (2, .int a2)]) (st' := [.ref P, .ref P]) rfl) ?_
  refine Tt.go (fun _ => Tr.get fmc2 hP rfl fw192 (k := 3) (by decide) rfl) (?_ : Tt g l z_X2_flipEdge (emIw M w) _ 80 [(5, .int v3), (4, .int v2), (3, .int v1), (0, .ref P), (1, .int a1), (2, .int a2)] [.int (v7 P 3), .ref P] (v7, w))
  refine Tt.go (fun _ => Tr.run 2 (pc' := 82) (lv' := [(5, .int v3), (4, .int v2), (3, .int v1), (0, .ref P), (1, .int a1), (2, .int a2)]) (st' := [.int ((v7 P 3) + (1 : Int32)), .ref P]) rfl) ?_
  refine Tt.go (fun _ => Tr.put fmc2 hP rfl fw192 (k := 3) (by decide) rfl rfl ⟨rfl, rfl⟩) (?_ : Tt g l z_X2_flipEdge (emIw M w) _ 85 [(5, .int v3), (4, .int v2), (3, .int v1), (0, .ref P), (1, .int a1), (2, .int a2)] [] ((fm_up v7 P 3 ((v7 P 3) + (1 : Int32))), w))
  refine Tt.go (fun _ => Tr.run 5 (pc' := 93) (lv' := [(5, .int v3), (4, .int v2), (3, .int v1), (0, .ref P), (1, .int a1), (2, .int a2)]) (st' := [.int (((100 : Int32) * v2) + v3)]) rfl) ?_
  exact Tt.ret (Tr.iret rfl rfl)
theorem c_X2_flipEdge (g : fm_G) (l : Launch) (hl : l.stackTraces = false) (P : Nat) (a1 : Int32) (a2 : Int32) (hP : fm_kd g P = 2) (M : fm_Mem) (w : fm_W) : ∀ r, f_X2_flipEdge P a1 a2 M = some r → fC g l z_X2_flipEdge [.ref P, .int a1, .int a2] (M, w) (emIw M w r) := fun r hr => fC.of (by decide) rfl o_X2_flipEdge hl (Nat.le_of_ble_eq_true rfl) (t_X2_flipEdge g l hl P a1 a2 hP M w r hr)
def k_X2_isBad : List (Nat × Instr × Nat) := [(0, .aload_n 0, 1), (1, .getfield 21, 3), (4, .iload_n 1, 1), (5, .iload_n 2, 1), (6, .invokevirtual 77, 3), (9, .istore_n 3, 1), (10, .iload_n 3, 1), (11, .invokestatic 81, 3), (14, .iconst 2, 1), (15, .if_icmp .eq 5, 3), (18, .iconst 0, 1), (19, .ireturn, 1), (20, .iload_n 3, 1), (21, .invokestatic 86, 3), (24, .istore 4, 2), (26, .iload_n 3, 1), (27, .iconst 1, 1), (28, .iload 4, 2), (30, .ishl, 1), (31, .iconst (-1), 1), (32, .ixor, 1), (33, .iand, 1), (34, .invokestatic 86, 3), (37, .istore 5, 2), (39, .aload_n 0, 1), (40, .getfield 12, 3), (43, .iload_n 1, 1), (44, .iload_n 2, 1), (45, .iload 4, 2), (47, .aload_n 0, 1), (48, .getfield 12, 3), (51, .iload 5, 2), (53, .invokevirtual 66, 3), (56, .aload_n 0, 1), (57, .getfield 12, 3), (60, .iload 5, 2), (62, .invokevirtual 70, 3), (65, .invokevirtual 73, 3), (68, .ifCond .le 7, 3), (71, .iconst 1, 1), (72, .goto 4, 3), (75, .iconst 0, 1), (76, .ireturn, 1)]
def z_X2_isBad : fm_Y := (yX2_isBad, RX2, cX2_isBad, 6, (some .boolean), k_X2_isBad, 2, 68)
theorem o_X2_isBad : fm_dec z_X2_isBad := (by decide +kernel : ∀ q ∈ k_X2_isBad, decode cX2_isBad q.1 = .ok q.2)
theorem cw_X2_isBad : fm_cwV z_X2_isBad := ⟨⟨lw_in 531 (by decide +kernel) (by decide +kernel), lw_in 95 (by decide +kernel) (by decide +kernel), by decide, by decide⟩, lw_in 530 (by decide +kernel) (by decide +kernel), lw_in 4 (by decide +kernel) (by decide +kernel)⟩
theorem pn_X2_isBad : (parseMethodDescriptor z_X2_isBad.1.desc).map (fun d => d.parameters.length) = some 2 := by decide +kernel
def f_X2_isBad_76 (P : Nat) (a1 : Int32) (a2 : Int32) (s0 : Int32) (M : fm_Mem) : Option (Int32) := fm_ck (fm_bo s0) (some (s0))
set_option maxRecDepth 100000 in
set_option maxHeartbeats 4000000 in
theorem t_X2_isBad_76 (g : fm_G) (l : Launch) (hl : l.stackTraces = false) (P : Nat) (a1 : Int32) (a2 : Int32) (hP : fm_kd g P = 2) (w : fm_W)  (s0 : Int32)  (M : fm_Mem) : Tt g l z_X2_isBad (emI M w) (f_X2_isBad_76 P a1 a2  s0 M) 76 [] [.int s0] (M, w) := by
  rw [f_X2_isBad_76]
  exact Tt.ck (fun hb_1 => Tt.ret (Tr.zret rfl rfl hb_1))
def f_X2_isBad (P : Nat) (a1 : Int32) (a2 : Int32) (M : fm_Mem) : Option (Int32) := Option.bind (f_X1_thirdsOf (P + 6) a1 a2 M) (fun v1 => Option.bind (f_J6_bitCount_0f7a4 v1 M) (fun v2 => if v2 = (2 : Int32) then (Option.bind (f_X6_lowest v1 M) (fun v3 => Option.bind (f_X6_lowest (v1 &&& (((1 : Int32) <<< (v3 &&& 31)) ^^^ (-1 : Int32))) M) (fun v4 => Option.bind (f_X3_x (P + 1) v4 M) (fun v5 => Option.bind (f_X3_y (P + 1) v4 M) (fun v6 => Option.bind (f_X3_circleSide (P + 1) a1 a2 v3 v5 v6 M) (fun v7 => if v7 ≤ 0 then (f_X2_isBad_76 P a1 a2 (0 : Int32) M) else (f_X2_isBad_76 P a1 a2 (1 : Int32) M))))))) else (some ((0 : Int32)))))
set_option maxRecDepth 100000 in
set_option maxHeartbeats 4000000 in
theorem t_X2_isBad (g : fm_G) (l : Launch) (hl : l.stackTraces = false) (P : Nat) (a1 : Int32) (a2 : Int32) (hP : fm_kd g P = 2) (M : fm_Mem) (w : fm_W) : Tt g l z_X2_isBad (emI M w) (f_X2_isBad P a1 a2 M) 0 [(0, .ref P), (1, .int a1), (2, .int a2)] [] (M, w) := by
  rw [f_X2_isBad]
  refine Tt.go (fun _ => Tr.run 1 (pc' := 1) (lv' := [(0, .ref P), (1, .int a1), (2, .int a2)]) (st' := [.ref P]) rfl) ?_
  refine Tt.go (fun _ => Tr.get fmc2 hP rfl fw188 (k := 1) (by decide) rfl) (?_ : Tt g l z_X2_isBad (emI M w) _ 4 [(0, .ref P), (1, .int a1), (2, .int a2)] [.ref (P + 6)] (M, w))
  refine Tt.go (fun _ => Tr.run 2 (pc' := 6) (lv' := [(0, .ref P), (1, .int a1), (2, .int a2)]) (st' := [.int a2, .int a1, .ref (P + 6)]) rfl) ?_
  refine Tt.callV (As := [.int a1, .int a2]) (rest := []) (c_X1_thirdsOf g l hl (P + 6) a1 a2 (fmk_2_1 hP) M w) (fmk_2_1 hP) (by decide) rfl rfl cw_X1_thirdsOf fw532 pn_X1_thirdsOf (Nat.le_of_ble_eq_true rfl) (Nat.le_of_ble_eq_true rfl) (Nat.le_of_ble_eq_true rfl) rfl (fun v1 => (?_ : Tt g l z_X2_isBad (emI M w) _ 9 [(0, .ref P), (1, .int a1), (2, .int a2)] [.int v1] (M, w)))
  refine Tt.go (fun _ => Tr.run 2 (pc' := 11) (lv' := [(3, .int v1), (0, .ref P), (1, .int a1), (2, .int a2)]) (st' := [.int v1]) rfl) ?_
  refine Tt.callS (As := [.int v1]) (rest := []) (c_J6_bitCount_0f7a4 g l hl v1 M w) rfl cw_J6_bitCount_0f7a4 fw538 pn_J6_bitCount_0f7a4 (Nat.le_of_ble_eq_true rfl) (Nat.le_of_ble_eq_true rfl) (Nat.le_of_ble_eq_true rfl) rfl (fun v2 => (?_ : Tt g l z_X2_isBad (emI M w) _ 14 [(3, .int v1), (0, .ref P), (1, .int a1), (2, .int a2)] [.int v2] (M, w)))
  refine Tt.go (fun _ => Tr.run 1 (pc' := 15) (lv' := [(3, .int v1), (0, .ref P), (1, .int a1), (2, .int a2)]) (st' := [.int (2 : Int32), .int v2]) rfl) ?_
  refine Tt.ic_eq (tgt := 20) rfl (by decide) ?_ ?_
  · refine Tt.go (fun _ => Tr.run 1 (pc' := 21) (lv' := [(3, .int v1), (0, .ref P), (1, .int a1), (2, .int a2)]) (st' := [.int v1]) rfl) ?_
    refine Tt.callN (As := [.int v1]) (rest := []) (c_X6_lowest g l hl v1 M w) rfl cw_X6_lowest nw539 pn_X6_lowest (Nat.le_of_ble_eq_true rfl) (Nat.le_of_ble_eq_true rfl) (Nat.le_of_ble_eq_true rfl) rfl (fun v3 => (?_ : Tt g l z_X2_isBad (emI M w) _ 24 [(3, .int v1), (0, .ref P), (1, .int a1), (2, .int a2)] [.int v3] (M, w)))
    refine Tt.go (fun _ => Tr.run 8 (pc' := 34) (lv' := [(4, .int v3), (3, .int v1), (0, .ref P), (1, .int a1), (2, .int a2)]) (st' := [.int (v1 &&& (((1 : Int32) <<< (v3 &&& 31)) ^^^ (-1 : Int32)))]) rfl) ?_
    refine Tt.callN (As := [.int (v1 &&& (((1 : Int32) <<< (v3 &&& 31)) ^^^ (-1 : Int32)))]) (rest := []) (c_X6_lowest g l hl (v1 &&& (((1 : Int32) <<< (v3 &&& 31)) ^^^ (-1 : Int32))) M w) rfl cw_X6_lowest nw539 pn_X6_lowest (Nat.le_of_ble_eq_true rfl) (Nat.le_of_ble_eq_true rfl) (Nat.le_of_ble_eq_true rfl) rfl (fun v4 => (?_ : Tt g l z_X2_isBad (emI M w) _ 37 [(4, .int v3), (3, .int v1), (0, .ref P), (1, .int a1), (2, .int a2)] [.int v4] (M, w)))
    refine Tt.go (fun _ => Tr.run 2 (pc' := 40) (lv' := [(5, .int v4), (4, .int v3), (3, .int v1), (0, .ref P), (1, .int a1), (2, .int a2)]) (st' := [.ref P]) rfl) ?_
    refine Tt.go (fun _ => Tr.get fmc2 hP rfl fw185 (k := 0) (by decide) rfl) (?_ : Tt g l z_X2_isBad (emI M w) _ 43 [(5, .int v4), (4, .int v3), (3, .int v1), (0, .ref P), (1, .int a1), (2, .int a2)] [.ref (P + 1)] (M, w))
    refine Tt.go (fun _ => Tr.run 4 (pc' := 48) (lv' := [(5, .int v4), (4, .int v3), (3, .int v1), (0, .ref P), (1, .int a1), (2, .int a2)]) (st' := [.ref P, .int v3, .int a2, .int a1, .ref (P + 1)]) rfl) ?_
    refine Tt.go (fun _ => Tr.get fmc2 hP rfl fw185 (k := 0) (by decide) rfl) (?_ : Tt g l z_X2_isBad (emI M w) _ 51 [(5, .int v4), (4, .int v3), (3, .int v1), (0, .ref P), (1, .int a1), (2, .int a2)] [.ref (P + 1), .int v3, .int a2, .int a1, .ref (P + 1)] (M, w))
    refine Tt.go (fun _ => Tr.run 1 (pc' := 53) (lv' := [(5, .int v4), (4, .int v3), (3, .int v1), (0, .ref P), (1, .int a1), (2, .int a2)]) (st' := [.int v4, .ref (P + 1), .int v3, .int a2, .int a1, .ref (P + 1)]) rfl) ?_
    refine Tt.callV (As := [.int v4]) (rest := [.int v3, .int a2, .int a1, .ref (P + 1)]) (c_X3_x g l hl (P + 1) v4 (fmk_2_0 hP) M w) (fmk_2_0 hP) (by decide) rfl rfl cw_X3_x fw540 pn_X3_x (Nat.le_of_ble_eq_true rfl) (Nat.le_of_ble_eq_true rfl) (Nat.le_of_ble_eq_true rfl) rfl (fun v5 => (?_ : Tt g l z_X2_isBad (emI M w) _ 56 [(5, .int v4), (4, .int v3), (3, .int v1), (0, .ref P), (1, .int a1), (2, .int a2)] [.int v5, .int v3, .int a2, .int a1, .ref (P + 1)] (M, w)))
    refine Tt.go (fun _ => Tr.run 1 (pc' := 57) (lv' := [(5, .int v4), (4, .int v3), (3, .int v1), (0, .ref P), (1, .int a1), (2, .int a2)]) (st' := [.ref P, .int v5, .int v3, .int a2, .int a1, .ref (P + 1)]) rfl) ?_
    refine Tt.go (fun _ => Tr.get fmc2 hP rfl fw185 (k := 0) (by decide) rfl) (?_ : Tt g l z_X2_isBad (emI M w) _ 60 [(5, .int v4), (4, .int v3), (3, .int v1), (0, .ref P), (1, .int a1), (2, .int a2)] [.ref (P + 1), .int v5, .int v3, .int a2, .int a1, .ref (P + 1)] (M, w))
    refine Tt.go (fun _ => Tr.run 1 (pc' := 62) (lv' := [(5, .int v4), (4, .int v3), (3, .int v1), (0, .ref P), (1, .int a1), (2, .int a2)]) (st' := [.int v4, .ref (P + 1), .int v5, .int v3, .int a2, .int a1, .ref (P + 1)]) rfl) ?_
    refine Tt.callV (As := [.int v4]) (rest := [.int v5, .int v3, .int a2, .int a1, .ref (P + 1)]) (c_X3_y g l hl (P + 1) v4 (fmk_2_0 hP) M w) (fmk_2_0 hP) (by decide) rfl rfl cw_X3_y fw541 pn_X3_y (Nat.le_of_ble_eq_true rfl) (Nat.le_of_ble_eq_true rfl) (Nat.le_of_ble_eq_true rfl) rfl (fun v6 => (?_ : Tt g l z_X2_isBad (emI M w) _ 65 [(5, .int v4), (4, .int v3), (3, .int v1), (0, .ref P), (1, .int a1), (2, .int a2)] [.int v6, .int v5, .int v3, .int a2, .int a1, .ref (P + 1)] (M, w)))
    refine Tt.callV (As := [.int a1, .int a2, .int v3, .int v5, .int v6]) (rest := []) (c_X3_circleSide g l hl (P + 1) a1 a2 v3 v5 v6 (fmk_2_0 hP) M w) (fmk_2_0 hP) (by decide) rfl rfl cw_X3_circleSide fw542 pn_X3_circleSide (Nat.le_of_ble_eq_true rfl) (Nat.le_of_ble_eq_true rfl) (Nat.le_of_ble_eq_true rfl) rfl (fun v7 => (?_ : Tt g l z_X2_isBad (emI M w) _ 68 [(5, .int v4), (4, .int v3), (3, .int v1), (0, .ref P), (1, .int a1), (2, .int a2)] [.int v7] (M, w)))
    refine Tt.if_le (tgt := 75) rfl (by decide) ?_ ?_
    · refine Tt.go (fun _ => Tr.run 1 (pc' := 76) (lv' := [(5, .int v4), (4, .int v3), (3, .int v1), (0, .ref P), (1, .int a1), (2, .int a2)]) (st' := [.int (0 : Int32)]) rfl) ?_
      refine Tt.go (fun _ => Tr.sub (lv' := []) [] rfl) ?_
      exact t_X2_isBad_76 g l hl P a1 a2 hP w (0 : Int32) M
    · refine Tt.go (fun _ => Tr.run 2 (pc' := 76) (lv' := [(5, .int v4), (4, .int v3), (3, .int v1), (0, .ref P), (1, .int a1), (2, .int a2)]) (st' := [.int (1 : Int32)]) rfl) ?_
      refine Tt.go (fun _ => Tr.sub (lv' := []) [] rfl) ?_
      exact t_X2_isBad_76 g l hl P a1 a2 hP w (1 : Int32) M
  · refine Tt.go (fun _ => Tr.run 1 (pc' := 19) (lv' := [(3, .int v1), (0, .ref P), (1, .int a1), (2, .int a2)]) (st' := [.int (0 : Int32)]) rfl) ?_
    exact Tt.ret (Tr.zret rfl rfl fm_bo0)
theorem c_X2_isBad (g : fm_G) (l : Launch) (hl : l.stackTraces = false) (P : Nat) (a1 : Int32) (a2 : Int32) (hP : fm_kd g P = 2) (M : fm_Mem) (w : fm_W) : ∀ r, f_X2_isBad P a1 a2 M = some r → fC g l z_X2_isBad [.ref P, .int a1, .int a2] (M, w) (emI M w r) := fun r hr => fC.of (by decide) rfl o_X2_isBad hl (Nat.le_of_ble_eq_true rfl) (t_X2_isBad g l hl P a1 a2 hP M w r hr)
def k_X2_badEdges : List (Nat × Instr × Nat) := [(0, .iconst 0, 1), (1, .istore_n 1, 1), (2, .iconst 0, 1), (3, .istore_n 2, 1), (4, .iload_n 2, 1), (5, .aload_n 0, 1), (6, .getfield 12, 3), (9, .invokevirtual 46, 3), (12, .if_icmp .ge 42, 3), (15, .iload_n 2, 1), (16, .iconst 1, 1), (17, .iadd, 1), (18, .istore_n 3, 1), (19, .iload_n 3, 1), (20, .aload_n 0, 1), (21, .getfield 12, 3), (24, .invokevirtual 46, 3), (27, .if_icmp .ge 21, 3), (30, .aload_n 0, 1), (31, .iload_n 2, 1), (32, .iload_n 3, 1), (33, .invokevirtual 92, 3), (36, .ifCond .eq 6, 3), (39, .iinc 1 1, 3), (42, .iinc 3 1, 3), (45, .goto (-26), 3), (48, .iinc 2 1, 3), (51, .goto (-47), 3), (54, .iload_n 1, 1), (55, .ireturn, 1)]
def z_X2_badEdges : fm_Y := (yX2_badEdges, RX2, cX2_badEdges, 4, (some .int), k_X2_badEdges, 3, 93)
theorem o_X2_badEdges : fm_dec z_X2_badEdges := (by decide +kernel : ∀ q ∈ k_X2_badEdges, decode cX2_badEdges q.1 = .ok q.2)
theorem cw_X2_badEdges : fm_cwV z_X2_badEdges := ⟨⟨lw_in 526 (by decide +kernel) (by decide +kernel), lw_in 95 (by decide +kernel) (by decide +kernel), by decide, by decide⟩, lw_in 524 (by decide +kernel) (by decide +kernel), lw_in 525 (by decide +kernel) (by decide +kernel)⟩
theorem pn_X2_badEdges : (parseMethodDescriptor z_X2_badEdges.1.desc).map (fun d => d.parameters.length) = some 0 := by decide +kernel
def f_X2_badEdges_42 (P : Nat) (k4 : Int32 → Int32 → fm_Mem → Option (Int32)) (k19 : Int32 → Int32 → Int32 → fm_Mem → Option (Int32)) (x1 : Int32) (x2 : Int32) (x3 : Int32) (M : fm_Mem) : Option (Int32) := (k19 x1 x2 (x3 + (1 : Int32)) M)
set_option maxRecDepth 100000 in
set_option maxHeartbeats 4000000 in
theorem t_X2_badEdges_42 (g : fm_G) (l : Launch) (hl : l.stackTraces = false) (P : Nat) (hP : fm_kd g P = 2) (w : fm_W) (k4 : Int32 → Int32 → fm_Mem → Option (Int32)) (hk4 : ∀ (x1 : Int32) (x2 : Int32) (M : fm_Mem), Tt g l z_X2_badEdges (emI M w) (k4 x1 x2 M) 4 [(0, .ref P), (1, .int x1), (2, .int x2)] [] (M, w)) (k19 : Int32 → Int32 → Int32 → fm_Mem → Option (Int32)) (hk19 : ∀ (x1 : Int32) (x2 : Int32) (x3 : Int32) (M : fm_Mem), Tt g l z_X2_badEdges (emI M w) (k19 x1 x2 x3 M) 19 [(0, .ref P), (1, .int x1), (2, .int x2), (3, .int x3)] [] (M, w)) (x1 : Int32) (x2 : Int32) (x3 : Int32)  (M : fm_Mem) : Tt g l z_X2_badEdges (emI M w) (f_X2_badEdges_42 P k4 k19 x1 x2 x3 M) 42 [(0, .ref P), (1, .int x1), (2, .int x2), (3, .int x3)] [] (M, w) := by
  rw [f_X2_badEdges_42]
  refine Tt.go (fun _ => Tr.run 2 (pc' := 19) (lv' := [(3, .int (x3 + (1 : Int32))), (0, .ref P), (1, .int x1), (2, .int x2)]) (st' := []) rfl) ?_
  refine Tt.go (fun _ => Tr.sub (lv' := [(0, .ref P), (1, .int x1), (2, .int x2), (3, .int (x3 + (1 : Int32)))]) [1, 2, 3, 0] rfl) ?_
  exact hk19 x1 x2 (x3 + (1 : Int32)) M
def f_X2_badEdges_19 (P : Nat) (k4 : Int32 → Int32 → fm_Mem → Option (Int32)) : Nat → Int32 → Int32 → Int32 → fm_Mem → Option (Int32)
  | 0, _, _, _, _ => none
  | n + 1, x1, x2, x3, M => Option.bind (f_X3_size (P + 1) M) (fun v1 => if v1 ≤ x3 then (k4 x1 (x2 + (1 : Int32)) M) else (Option.bind (f_X2_isBad P x2 x3 M) (fun v2 => if v2 = 0 then (f_X2_badEdges_42 P k4 (fun x1 x2 x3 M => f_X2_badEdges_19 P k4 n x1 x2 x3 M) x1 x2 x3 M) else (f_X2_badEdges_42 P k4 (fun x1 x2 x3 M => f_X2_badEdges_19 P k4 n x1 x2 x3 M) (x1 + (1 : Int32)) x2 x3 M))))
set_option maxRecDepth 100000 in
set_option maxHeartbeats 4000000 in
theorem t_X2_badEdges_19 (g : fm_G) (l : Launch) (hl : l.stackTraces = false) (P : Nat) (hP : fm_kd g P = 2) (w : fm_W) (k4 : Int32 → Int32 → fm_Mem → Option (Int32)) (hk4 : ∀ (x1 : Int32) (x2 : Int32) (M : fm_Mem), Tt g l z_X2_badEdges (emI M w) (k4 x1 x2 M) 4 [(0, .ref P), (1, .int x1), (2, .int x2)] [] (M, w)) : ∀ (n : Nat) (x1 : Int32) (x2 : Int32) (x3 : Int32)  (M : fm_Mem), Tt g l z_X2_badEdges (emI M w) (f_X2_badEdges_19 P k4 n x1 x2 x3 M) 19 [(0, .ref P), (1, .int x1), (2, .int x2), (3, .int x3)] [] (M, w) := by
  intro n
  induction n with
  | zero => intros; exact Tt.none
  | succ n ih =>
    intro x1 x2 x3  M
    rw [f_X2_badEdges_19]
    refine Tt.go (fun _ => Tr.run 2 (pc' := 21) (lv' := [(0, .ref P), (1, .int x1), (2, .int x2), (3, .int x3)]) (st' := [.ref P, .int x3]) rfl) ?_
    refine Tt.go (fun _ => Tr.get fmc2 hP rfl fw185 (k := 0) (by decide) rfl) (?_ : Tt g l z_X2_badEdges (emI M w) _ 24 [(0, .ref P), (1, .int x1), (2, .int x2), (3, .int x3)] [.ref (P + 1), .int x3] (M, w))
    refine Tt.callV (As := []) (rest := [.int x3]) (c_X3_size g l hl (P + 1) (fmk_2_0 hP) M w) (fmk_2_0 hP) (by decide) rfl rfl cw_X3_size fw527 pn_X3_size (Nat.le_of_ble_eq_true rfl) (Nat.le_of_ble_eq_true rfl) (Nat.le_of_ble_eq_true rfl) rfl (fun v1 => (?_ : Tt g l z_X2_badEdges (emI M w) _ 27 [(0, .ref P), (1, .int x1), (2, .int x2), (3, .int x3)] [.int v1, .int x3] (M, w)))
    refine Tt.ic_ge (tgt := 48) rfl (by decide) ?_ ?_
    · refine Tt.go (fun _ => Tr.run 2 (pc' := 4) (lv' := [(2, .int (x2 + (1 : Int32))), (0, .ref P), (1, .int x1), (3, .int x3)]) (st' := []) rfl) ?_
      refine Tt.go (fun _ => Tr.sub (lv' := [(0, .ref P), (1, .int x1), (2, .int (x2 + (1 : Int32)))]) [1, 2, 0] rfl) ?_
      exact hk4 x1 (x2 + (1 : Int32)) M
    · refine Tt.go (fun _ => Tr.run 3 (pc' := 33) (lv' := [(0, .ref P), (1, .int x1), (2, .int x2), (3, .int x3)]) (st' := [.int x3, .int x2, .ref P]) rfl) ?_
      refine Tt.callV (As := [.int x2, .int x3]) (rest := []) (c_X2_isBad g l hl P x2 x3 hP M w) hP (by decide) rfl rfl cw_X2_isBad fw528 pn_X2_isBad (Nat.le_of_ble_eq_true rfl) (Nat.le_of_ble_eq_true rfl) (Nat.le_of_ble_eq_true rfl) rfl (fun v2 => (?_ : Tt g l z_X2_badEdges (emI M w) _ 36 [(0, .ref P), (1, .int x1), (2, .int x2), (3, .int x3)] [.int v2] (M, w)))
      refine Tt.if_eq (tgt := 42) rfl (by decide) ?_ ?_
      · exact t_X2_badEdges_42 g l hl P hP w k4 hk4 _ ih x1 x2 x3 M
      · refine Tt.go (fun _ => Tr.run 1 (pc' := 42) (lv' := [(1, .int (x1 + (1 : Int32))), (0, .ref P), (2, .int x2), (3, .int x3)]) (st' := []) rfl) ?_
        refine Tt.go (fun _ => Tr.sub (lv' := [(0, .ref P), (1, .int (x1 + (1 : Int32))), (2, .int x2), (3, .int x3)]) [1, 0, 2, 3] rfl) ?_
        exact t_X2_badEdges_42 g l hl P hP w k4 hk4 _ ih (x1 + (1 : Int32)) x2 x3 M
def f_X2_badEdges_4 (P : Nat) : Nat → Int32 → Int32 → fm_Mem → Option (Int32)
  | 0, _, _, _ => none
  | n + 1, x1, x2, M => Option.bind (f_X3_size (P + 1) M) (fun v1 => if v1 ≤ x2 then (some (x1)) else (f_X2_badEdges_19 P (fun x1 x2 M => f_X2_badEdges_4 P n x1 x2 M) fm_fuel x1 x2 (x2 + (1 : Int32)) M))
set_option maxRecDepth 100000 in
set_option maxHeartbeats 4000000 in
theorem t_X2_badEdges_4 (g : fm_G) (l : Launch) (hl : l.stackTraces = false) (P : Nat) (hP : fm_kd g P = 2) (w : fm_W)  : ∀ (n : Nat) (x1 : Int32) (x2 : Int32)  (M : fm_Mem), Tt g l z_X2_badEdges (emI M w) (f_X2_badEdges_4 P  n x1 x2 M) 4 [(0, .ref P), (1, .int x1), (2, .int x2)] [] (M, w) := by
  intro n
  induction n with
  | zero => intros; exact Tt.none
  | succ n ih =>
    intro x1 x2  M
    rw [f_X2_badEdges_4]
    refine Tt.go (fun _ => Tr.run 2 (pc' := 6) (lv' := [(0, .ref P), (1, .int x1), (2, .int x2)]) (st' := [.ref P, .int x2]) rfl) ?_
    refine Tt.go (fun _ => Tr.get fmc2 hP rfl fw185 (k := 0) (by decide) rfl) (?_ : Tt g l z_X2_badEdges (emI M w) _ 9 [(0, .ref P), (1, .int x1), (2, .int x2)] [.ref (P + 1), .int x2] (M, w))
    refine Tt.callV (As := []) (rest := [.int x2]) (c_X3_size g l hl (P + 1) (fmk_2_0 hP) M w) (fmk_2_0 hP) (by decide) rfl rfl cw_X3_size fw527 pn_X3_size (Nat.le_of_ble_eq_true rfl) (Nat.le_of_ble_eq_true rfl) (Nat.le_of_ble_eq_true rfl) rfl (fun v1 => (?_ : Tt g l z_X2_badEdges (emI M w) _ 12 [(0, .ref P), (1, .int x1), (2, .int x2)] [.int v1, .int x2] (M, w)))
    refine Tt.ic_ge (tgt := 54) rfl (by decide) ?_ ?_
    · refine Tt.go (fun _ => Tr.run 1 (pc' := 55) (lv' := [(0, .ref P), (1, .int x1), (2, .int x2)]) (st' := [.int x1]) rfl) ?_
      exact Tt.ret (Tr.iret rfl rfl)
    · refine Tt.go (fun _ => Tr.run 4 (pc' := 19) (lv' := [(3, .int (x2 + (1 : Int32))), (0, .ref P), (1, .int x1), (2, .int x2)]) (st' := []) rfl) ?_
      refine Tt.go (fun _ => Tr.sub (lv' := [(0, .ref P), (1, .int x1), (2, .int x2), (3, .int (x2 + (1 : Int32)))]) [1, 2, 3, 0] rfl) ?_
      exact t_X2_badEdges_19 g l hl P hP w _ ih fm_fuel x1 x2 (x2 + (1 : Int32)) M
def f_X2_badEdges (P : Nat) (M : fm_Mem) : Option (Int32) := (f_X2_badEdges_4 P fm_fuel (0 : Int32) (0 : Int32) M)
set_option maxRecDepth 100000 in
set_option maxHeartbeats 4000000 in
theorem t_X2_badEdges (g : fm_G) (l : Launch) (hl : l.stackTraces = false) (P : Nat) (hP : fm_kd g P = 2) (M : fm_Mem) (w : fm_W) : Tt g l z_X2_badEdges (emI M w) (f_X2_badEdges P M) 0 [(0, .ref P)] [] (M, w) := by
  rw [f_X2_badEdges]
  refine Tt.go (fun _ => Tr.run 4 (pc' := 4) (lv' := [(2, .int (0 : Int32)), (1, .int (0 : Int32)), (0, .ref P)]) (st' := []) rfl) ?_
  refine Tt.go (fun _ => Tr.sub (lv' := [(0, .ref P), (1, .int (0 : Int32)), (2, .int (0 : Int32))]) [2, 1, 0] rfl) ?_
  exact t_X2_badEdges_4 g l hl P hP w fm_fuel (0 : Int32) (0 : Int32) M
theorem c_X2_badEdges (g : fm_G) (l : Launch) (hl : l.stackTraces = false) (P : Nat) (hP : fm_kd g P = 2) (M : fm_Mem) (w : fm_W) : ∀ r, f_X2_badEdges P M = some r → fC g l z_X2_badEdges [.ref P] (M, w) (emI M w r) := fun r hr => fC.of (by decide) rfl o_X2_badEdges hl (Nat.le_of_ble_eq_true rfl) (t_X2_badEdges g l hl P hP M w r hr)
def k_X2_firstBad : List (Nat × Instr × Nat) := [(0, .iconst 0, 1), (1, .istore_n 1, 1), (2, .iload_n 1, 1), (3, .aload_n 0, 1), (4, .getfield 12, 3), (7, .invokevirtual 46, 3), (10, .if_icmp .ge 46, 3), (13, .iload_n 1, 1), (14, .iconst 1, 1), (15, .iadd, 1), (16, .istore_n 2, 1), (17, .iload_n 2, 1), (18, .aload_n 0, 1), (19, .getfield 12, 3), (22, .invokevirtual 46, 3), (25, .if_icmp .ge 25, 3), (28, .aload_n 0, 1), (29, .iload_n 1, 1), (30, .iload_n 2, 1), (31, .invokevirtual 92, 3), (34, .ifCond .eq 10, 3), (37, .bipush 100, 2), (39, .iload_n 1, 1), (40, .imul, 1), (41, .iload_n 2, 1), (42, .iadd, 1), (43, .ireturn, 1), (44, .iinc 2 1, 3), (47, .goto (-30), 3), (50, .iinc 1 1, 3), (53, .goto (-51), 3), (56, .iconst (-1), 1), (57, .ireturn, 1)]
def z_X2_firstBad : fm_Y := (yX2_firstBad, RX2, cX2_firstBad, 3, (some .int), k_X2_firstBad, 3, 93)
theorem o_X2_firstBad : fm_dec z_X2_firstBad := (by decide +kernel : ∀ q ∈ k_X2_firstBad, decode cX2_firstBad q.1 = .ok q.2)
theorem cw_X2_firstBad : fm_cwV z_X2_firstBad := ⟨⟨lw_in 866 (by decide +kernel) (by decide +kernel), lw_in 95 (by decide +kernel) (by decide +kernel), by decide, by decide⟩, lw_in 864 (by decide +kernel) (by decide +kernel), lw_in 865 (by decide +kernel) (by decide +kernel)⟩
theorem pn_X2_firstBad : (parseMethodDescriptor z_X2_firstBad.1.desc).map (fun d => d.parameters.length) = some 0 := by decide +kernel
def f_X2_firstBad_17 (P : Nat) (k2 : Int32 → fm_Mem → Option (Int32)) : Nat → Int32 → Int32 → fm_Mem → Option (Int32)
  | 0, _, _, _ => none
  | n + 1, x1, x2, M => Option.bind (f_X3_size (P + 1) M) (fun v1 => if v1 ≤ x2 then (k2 (x1 + (1 : Int32)) M) else (Option.bind (f_X2_isBad P x1 x2 M) (fun v2 => if v2 = 0 then (f_X2_firstBad_17 P k2 n x1 (x2 + (1 : Int32)) M) else (some ((((100 : Int32) * x1) + x2))))))
set_option maxRecDepth 100000 in
set_option maxHeartbeats 4000000 in
theorem t_X2_firstBad_17 (g : fm_G) (l : Launch) (hl : l.stackTraces = false) (P : Nat) (hP : fm_kd g P = 2) (w : fm_W) (k2 : Int32 → fm_Mem → Option (Int32)) (hk2 : ∀ (x1 : Int32) (M : fm_Mem), Tt g l z_X2_firstBad (emI M w) (k2 x1 M) 2 [(0, .ref P), (1, .int x1)] [] (M, w)) : ∀ (n : Nat) (x1 : Int32) (x2 : Int32)  (M : fm_Mem), Tt g l z_X2_firstBad (emI M w) (f_X2_firstBad_17 P k2 n x1 x2 M) 17 [(0, .ref P), (1, .int x1), (2, .int x2)] [] (M, w) := by
  intro n
  induction n with
  | zero => intros; exact Tt.none
  | succ n ih =>
    intro x1 x2  M
    rw [f_X2_firstBad_17]
    refine Tt.go (fun _ => Tr.run 2 (pc' := 19) (lv' := [(0, .ref P), (1, .int x1), (2, .int x2)]) (st' := [.ref P, .int x2]) rfl) ?_
    refine Tt.go (fun _ => Tr.get fmc2 hP rfl fw185 (k := 0) (by decide) rfl) (?_ : Tt g l z_X2_firstBad (emI M w) _ 22 [(0, .ref P), (1, .int x1), (2, .int x2)] [.ref (P + 1), .int x2] (M, w))
    refine Tt.callV (As := []) (rest := [.int x2]) (c_X3_size g l hl (P + 1) (fmk_2_0 hP) M w) (fmk_2_0 hP) (by decide) rfl rfl cw_X3_size fw527 pn_X3_size (Nat.le_of_ble_eq_true rfl) (Nat.le_of_ble_eq_true rfl) (Nat.le_of_ble_eq_true rfl) rfl (fun v1 => (?_ : Tt g l z_X2_firstBad (emI M w) _ 25 [(0, .ref P), (1, .int x1), (2, .int x2)] [.int v1, .int x2] (M, w)))
    refine Tt.ic_ge (tgt := 50) rfl (by decide) ?_ ?_
    · refine Tt.go (fun _ => Tr.run 2 (pc' := 2) (lv' := [(1, .int (x1 + (1 : Int32))), (0, .ref P), (2, .int x2)]) (st' := []) rfl) ?_
      refine Tt.go (fun _ => Tr.sub (lv' := [(0, .ref P), (1, .int (x1 + (1 : Int32)))]) [1, 0] rfl) ?_
      exact hk2 (x1 + (1 : Int32)) M
    · refine Tt.go (fun _ => Tr.run 3 (pc' := 31) (lv' := [(0, .ref P), (1, .int x1), (2, .int x2)]) (st' := [.int x2, .int x1, .ref P]) rfl) ?_
      refine Tt.callV (As := [.int x1, .int x2]) (rest := []) (c_X2_isBad g l hl P x1 x2 hP M w) hP (by decide) rfl rfl cw_X2_isBad fw528 pn_X2_isBad (Nat.le_of_ble_eq_true rfl) (Nat.le_of_ble_eq_true rfl) (Nat.le_of_ble_eq_true rfl) rfl (fun v2 => (?_ : Tt g l z_X2_firstBad (emI M w) _ 34 [(0, .ref P), (1, .int x1), (2, .int x2)] [.int v2] (M, w)))
      refine Tt.if_eq (tgt := 44) rfl (by decide) ?_ ?_
      · refine Tt.go (fun _ => Tr.run 2 (pc' := 17) (lv' := [(2, .int (x2 + (1 : Int32))), (0, .ref P), (1, .int x1)]) (st' := []) rfl) ?_
        refine Tt.go (fun _ => Tr.sub (lv' := [(0, .ref P), (1, .int x1), (2, .int (x2 + (1 : Int32)))]) [1, 2, 0] rfl) ?_
        exact ih x1 (x2 + (1 : Int32)) M
      · refine Tt.go (fun _ => Tr.run 5 (pc' := 43) (lv' := [(0, .ref P), (1, .int x1), (2, .int x2)]) (st' := [.int (((100 : Int32) * x1) + x2)]) rfl) ?_
        exact Tt.ret (Tr.iret rfl rfl)
def f_X2_firstBad_2 (P : Nat) : Nat → Int32 → fm_Mem → Option (Int32)
  | 0, _, _ => none
  | n + 1, x1, M => Option.bind (f_X3_size (P + 1) M) (fun v1 => if v1 ≤ x1 then (some ((-1 : Int32))) else (f_X2_firstBad_17 P (fun x1 M => f_X2_firstBad_2 P n x1 M) fm_fuel x1 (x1 + (1 : Int32)) M))
set_option maxRecDepth 100000 in
set_option maxHeartbeats 4000000 in
theorem t_X2_firstBad_2 (g : fm_G) (l : Launch) (hl : l.stackTraces = false) (P : Nat) (hP : fm_kd g P = 2) (w : fm_W)  : ∀ (n : Nat) (x1 : Int32)  (M : fm_Mem), Tt g l z_X2_firstBad (emI M w) (f_X2_firstBad_2 P  n x1 M) 2 [(0, .ref P), (1, .int x1)] [] (M, w) := by
  intro n
  induction n with
  | zero => intros; exact Tt.none
  | succ n ih =>
    intro x1  M
    rw [f_X2_firstBad_2]
    refine Tt.go (fun _ => Tr.run 2 (pc' := 4) (lv' := [(0, .ref P), (1, .int x1)]) (st' := [.ref P, .int x1]) rfl) ?_
    refine Tt.go (fun _ => Tr.get fmc2 hP rfl fw185 (k := 0) (by decide) rfl) (?_ : Tt g l z_X2_firstBad (emI M w) _ 7 [(0, .ref P), (1, .int x1)] [.ref (P + 1), .int x1] (M, w))
    refine Tt.callV (As := []) (rest := [.int x1]) (c_X3_size g l hl (P + 1) (fmk_2_0 hP) M w) (fmk_2_0 hP) (by decide) rfl rfl cw_X3_size fw527 pn_X3_size (Nat.le_of_ble_eq_true rfl) (Nat.le_of_ble_eq_true rfl) (Nat.le_of_ble_eq_true rfl) rfl (fun v1 => (?_ : Tt g l z_X2_firstBad (emI M w) _ 10 [(0, .ref P), (1, .int x1)] [.int v1, .int x1] (M, w)))
    refine Tt.ic_ge (tgt := 56) rfl (by decide) ?_ ?_
    · refine Tt.go (fun _ => Tr.run 1 (pc' := 57) (lv' := [(0, .ref P), (1, .int x1)]) (st' := [.int (-1 : Int32)]) rfl) ?_
      exact Tt.ret (Tr.iret rfl rfl)
    · refine Tt.go (fun _ => Tr.run 4 (pc' := 17) (lv' := [(2, .int (x1 + (1 : Int32))), (0, .ref P), (1, .int x1)]) (st' := []) rfl) ?_
      refine Tt.go (fun _ => Tr.sub (lv' := [(0, .ref P), (1, .int x1), (2, .int (x1 + (1 : Int32)))]) [1, 2, 0] rfl) ?_
      exact t_X2_firstBad_17 g l hl P hP w _ ih fm_fuel x1 (x1 + (1 : Int32)) M
def f_X2_firstBad (P : Nat) (M : fm_Mem) : Option (Int32) := (f_X2_firstBad_2 P fm_fuel (0 : Int32) M)
set_option maxRecDepth 100000 in
set_option maxHeartbeats 4000000 in
theorem t_X2_firstBad (g : fm_G) (l : Launch) (hl : l.stackTraces = false) (P : Nat) (hP : fm_kd g P = 2) (M : fm_Mem) (w : fm_W) : Tt g l z_X2_firstBad (emI M w) (f_X2_firstBad P M) 0 [(0, .ref P)] [] (M, w) := by
  rw [f_X2_firstBad]
  refine Tt.go (fun _ => Tr.run 2 (pc' := 2) (lv' := [(1, .int (0 : Int32)), (0, .ref P)]) (st' := []) rfl) ?_
  refine Tt.go (fun _ => Tr.sub (lv' := [(0, .ref P), (1, .int (0 : Int32))]) [1, 0] rfl) ?_
  exact t_X2_firstBad_2 g l hl P hP w fm_fuel (0 : Int32) M
theorem c_X2_firstBad (g : fm_G) (l : Launch) (hl : l.stackTraces = false) (P : Nat) (hP : fm_kd g P = 2) (M : fm_Mem) (w : fm_W) : ∀ r, f_X2_firstBad P M = some r → fC g l z_X2_firstBad [.ref P] (M, w) (emI M w r) := fun r hr => fC.of (by decide) rfl o_X2_firstBad hl (Nat.le_of_ble_eq_true rfl) (t_X2_firstBad g l hl P hP M w r hr)
def k_X3_set : List (Nat × Instr × Nat) := [(0, .aload_n 0, 1), (1, .getfield 14, 3), (4, .iload_n 1, 1), (5, .iload_n 2, 1), (6, .invokevirtual 39, 3), (9, .aload_n 0, 1), (10, .getfield 20, 3), (13, .iload_n 1, 1), (14, .iload_n 3, 1), (15, .invokevirtual 39, 3), (18, .return_, 1)]
def z_X3_set : fm_Y := (yX3_set, RX3, cX3_set, 4, none, k_X3_set, 1, 22)
theorem o_X3_set : fm_dec z_X3_set := (by decide +kernel : ∀ q ∈ k_X3_set, decode cX3_set q.1 = .ok q.2)
theorem cw_X3_set : fm_cwV z_X3_set := ⟨⟨lw_in 762 (by decide +kernel) (by decide +kernel), lw_in 96 (by decide +kernel) (by decide +kernel), by decide, by decide⟩, lw_in 760 (by decide +kernel) (by decide +kernel), lw_in 761 (by decide +kernel) (by decide +kernel)⟩
theorem pn_X3_set : (parseMethodDescriptor z_X3_set.1.desc).map (fun d => d.parameters.length) = some 3 := by decide +kernel
def f_X3_set (P : Nat) (a1 : Int32) (a2 : Int32) (a3 : Int32) (M : fm_Mem) : Option (fm_Mem) := Option.bind (f_X4_set (P + 1) 20 a1 a2 M) (fun v1 => Option.bind (f_X4_set (P + 3) 20 a1 a3 v1) (fun v2 => some (v2)))
set_option maxRecDepth 100000 in
set_option maxHeartbeats 4000000 in
theorem t_X3_set (g : fm_G) (l : Launch) (hl : l.stackTraces = false) (P : Nat) (a1 : Int32) (a2 : Int32) (a3 : Int32) (hP : fm_kd g P = 3) (M : fm_Mem) (w : fm_W) : Tt g l z_X3_set (emVw M w) (f_X3_set P a1 a2 a3 M) 0 [(0, .ref P), (1, .int a1), (2, .int a2), (3, .int a3)] [] (M, w) := by
  rw [f_X3_set]
  refine Tt.go (fun _ => Tr.run 1 (pc' := 1) (lv' := [(0, .ref P), (1, .int a1), (2, .int a2), (3, .int a3)]) (st' := [.ref P]) rfl) ?_
  refine Tt.go (fun _ => Tr.get fmc3 hP rfl fw157 (k := 0) (by decide) rfl) (?_ : Tt g l z_X3_set (emVw M w) _ 4 [(0, .ref P), (1, .int a1), (2, .int a2), (3, .int a3)] [.ref (P + 1)] (M, w))
  refine Tt.go (fun _ => Tr.run 2 (pc' := 6) (lv' := [(0, .ref P), (1, .int a1), (2, .int a2), (3, .int a3)]) (st' := [.int a2, .int a1, .ref (P + 1)]) rfl) ?_
  refine Tt.callV (As := [.int a1, .int a2]) (rest := []) (c_X4_set g l hl (P + 1) 20 a1 a2 (fmk_3_0 hP) (fmn_3_0 hP) (by decide) M w) (fmk_3_0 hP) (by decide) rfl rfl cw_X4_set fw763 pn_X4_set (Nat.le_of_ble_eq_true rfl) (Nat.le_of_ble_eq_true rfl) (Nat.le_of_ble_eq_true rfl) rfl (fun v1 => (?_ : Tt g l z_X3_set (emVw M w) _ 9 [(0, .ref P), (1, .int a1), (2, .int a2), (3, .int a3)] [] (v1, w)))
  refine Tt.go (fun _ => Tr.run 1 (pc' := 10) (lv' := [(0, .ref P), (1, .int a1), (2, .int a2), (3, .int a3)]) (st' := [.ref P]) rfl) ?_
  refine Tt.go (fun _ => Tr.get fmc3 hP rfl fw158 (k := 1) (by decide) rfl) (?_ : Tt g l z_X3_set (emVw M w) _ 13 [(0, .ref P), (1, .int a1), (2, .int a2), (3, .int a3)] [.ref (P + 3)] (v1, w))
  refine Tt.go (fun _ => Tr.run 2 (pc' := 15) (lv' := [(0, .ref P), (1, .int a1), (2, .int a2), (3, .int a3)]) (st' := [.int a3, .int a1, .ref (P + 3)]) rfl) ?_
  refine Tt.callV (As := [.int a1, .int a3]) (rest := []) (c_X4_set g l hl (P + 3) 20 a1 a3 (fmk_3_1 hP) (fmn_3_1 hP) (by decide) v1 w) (fmk_3_1 hP) (by decide) rfl rfl cw_X4_set fw763 pn_X4_set (Nat.le_of_ble_eq_true rfl) (Nat.le_of_ble_eq_true rfl) (Nat.le_of_ble_eq_true rfl) rfl (fun v2 => (?_ : Tt g l z_X3_set (emVw M w) _ 18 [(0, .ref P), (1, .int a1), (2, .int a2), (3, .int a3)] [] (v2, w)))
  exact Tt.ret (Tr.vret rfl rfl)
theorem c_X3_set (g : fm_G) (l : Launch) (hl : l.stackTraces = false) (P : Nat) (a1 : Int32) (a2 : Int32) (a3 : Int32) (hP : fm_kd g P = 3) (M : fm_Mem) (w : fm_W) : ∀ r, f_X3_set P a1 a2 a3 M = some r → fC g l z_X3_set [.ref P, .int a1, .int a2, .int a3] (M, w) (emVw M w r) := fun r hr => fC.of (by decide) rfl o_X3_set hl (Nat.le_of_ble_eq_true rfl) (t_X3_set g l hl P a1 a2 a3 hP M w r hr)
def k_X3_add : List (Nat × Instr × Nat) := [(0, .aload_n 0, 1), (1, .getfield 23, 3), (4, .bipush 20, 2), (6, .if_icmp .ge 23, 3), (9, .aload_n 0, 1), (10, .aload_n 0, 1), (11, .getfield 23, 3), (14, .iload_n 1, 1), (15, .iload_n 2, 1), (16, .invokevirtual 35, 3), (19, .aload_n 0, 1), (20, .dup, 1), (21, .getfield 23, 3), (24, .iconst 1, 1), (25, .iadd, 1), (26, .putfield 23, 3), (29, .return_, 1)]
def z_X3_add : fm_Y := (yX3_add, RX3, cX3_add, 3, none, k_X3_add, 2, 45)
theorem o_X3_add : fm_dec z_X3_add := (by decide +kernel : ∀ q ∈ k_X3_add, decode cX3_add q.1 = .ok q.2)
theorem cw_X3_add : fm_cwV z_X3_add := ⟨⟨lw_in 758 (by decide +kernel) (by decide +kernel), lw_in 96 (by decide +kernel) (by decide +kernel), by decide, by decide⟩, lw_in 756 (by decide +kernel) (by decide +kernel), lw_in 757 (by decide +kernel) (by decide +kernel)⟩
theorem pn_X3_add : (parseMethodDescriptor z_X3_add.1.desc).map (fun d => d.parameters.length) = some 2 := by decide +kernel
def f_X3_add_29 (P : Nat) (a1 : Int32) (a2 : Int32)  (M : fm_Mem) : Option (fm_Mem) := some (M)
set_option maxRecDepth 100000 in
set_option maxHeartbeats 4000000 in
theorem t_X3_add_29 (g : fm_G) (l : Launch) (hl : l.stackTraces = false) (P : Nat) (a1 : Int32) (a2 : Int32) (hP : fm_kd g P = 3) (w : fm_W) (M0 : fm_Mem)    (M : fm_Mem) : Tt g l z_X3_add (emVw M0 w) (f_X3_add_29 P a1 a2   M) 29 [] [] (M, w) := by
  rw [f_X3_add_29]
  exact Tt.ret (Tr.vret rfl rfl)
def f_X3_add (P : Nat) (a1 : Int32) (a2 : Int32) (M : fm_Mem) : Option (fm_Mem) := if (20 : Int32) ≤ (M P 2) then (f_X3_add_29 P a1 a2 M) else (Option.bind (f_X3_set P (M P 2) a1 a2 M) (fun v1 => (f_X3_add_29 P a1 a2 (fm_up v1 P 2 ((v1 P 2) + (1 : Int32))))))
set_option maxRecDepth 100000 in
set_option maxHeartbeats 4000000 in
theorem t_X3_add (g : fm_G) (l : Launch) (hl : l.stackTraces = false) (P : Nat) (a1 : Int32) (a2 : Int32) (hP : fm_kd g P = 3) (M : fm_Mem) (w : fm_W) : Tt g l z_X3_add (emVw M w) (f_X3_add P a1 a2 M) 0 [(0, .ref P), (1, .int a1), (2, .int a2)] [] (M, w) := by
  rw [f_X3_add]
  refine Tt.go (fun _ => Tr.run 1 (pc' := 1) (lv' := [(0, .ref P), (1, .int a1), (2, .int a2)]) (st' := [.ref P]) rfl) ?_
  refine Tt.go (fun _ => Tr.get fmc3 hP rfl fw159 (k := 2) (by decide) rfl) (?_ : Tt g l z_X3_add (emVw M w) _ 4 [(0, .ref P), (1, .int a1), (2, .int a2)] [.int (M P 2)] (M, w))
  refine Tt.go (fun _ => Tr.run 1 (pc' := 6) (lv' := [(0, .ref P), (1, .int a1), (2, .int a2)]) (st' := [.int (20 : Int32), .int (M P 2)]) rfl) ?_
  refine Tt.ic_ge (tgt := 29) rfl (by decide) ?_ ?_
  · refine Tt.go (fun _ => Tr.sub (lv' := []) [] rfl) ?_
    exact t_X3_add_29 g l hl P a1 a2 hP w M M
  · refine Tt.go (fun _ => Tr.run 2 (pc' := 11) (lv' := [(0, .ref P), (1, .int a1), (2, .int a2)]) (st' := [.ref P, .ref P]) rfl) ?_
    refine Tt.go (fun _ => Tr.get fmc3 hP rfl fw159 (k := 2) (by decide) rfl) (?_ : Tt g l z_X3_add (emVw M w) _ 14 [(0, .ref P), (1, .int a1), (2, .int a2)] [.int (M P 2), .ref P] (M, w))
    refine Tt.go (fun _ => Tr.run 2 (pc' := 16) (lv' := [(0, .ref P), (1, .int a1), (2, .int a2)]) (st' := [.int a2, .int a1, .int (M P 2), .ref P]) rfl) ?_
    refine Tt.callV (As := [.int (M P 2), .int a1, .int a2]) (rest := []) (c_X3_set g l hl P (M P 2) a1 a2 hP M w) hP (by decide) rfl rfl cw_X3_set fw759 pn_X3_set (Nat.le_of_ble_eq_true rfl) (Nat.le_of_ble_eq_true rfl) (Nat.le_of_ble_eq_true rfl) rfl (fun v1 => (?_ : Tt g l z_X3_add (emVw M w) _ 19 [(0, .ref P), (1, .int a1), (2, .int a2)] [] (v1, w)))
    refine Tt.go (fun _ => Tr.run 2 (pc' := 21) (lv' := [(0, .ref P), (1, .int a1), (2, .int a2)]) (st' := [.ref P, .ref P]) rfl) ?_
    refine Tt.go (fun _ => Tr.get fmc3 hP rfl fw159 (k := 2) (by decide) rfl) (?_ : Tt g l z_X3_add (emVw M w) _ 24 [(0, .ref P), (1, .int a1), (2, .int a2)] [.int (v1 P 2), .ref P] (v1, w))
    refine Tt.go (fun _ => Tr.run 2 (pc' := 26) (lv' := [(0, .ref P), (1, .int a1), (2, .int a2)]) (st' := [.int ((v1 P 2) + (1 : Int32)), .ref P]) rfl) ?_
    refine Tt.go (fun _ => Tr.put fmc3 hP rfl fw159 (k := 2) (by decide) rfl rfl ⟨rfl, rfl⟩) (?_ : Tt g l z_X3_add (emVw M w) _ 29 [(0, .ref P), (1, .int a1), (2, .int a2)] [] ((fm_up v1 P 2 ((v1 P 2) + (1 : Int32))), w))
    refine Tt.go (fun _ => Tr.sub (lv' := []) [] rfl) ?_
    exact t_X3_add_29 g l hl P a1 a2 hP w M (fm_up v1 P 2 ((v1 P 2) + (1 : Int32)))
theorem c_X3_add (g : fm_G) (l : Launch) (hl : l.stackTraces = false) (P : Nat) (a1 : Int32) (a2 : Int32) (hP : fm_kd g P = 3) (M : fm_Mem) (w : fm_W) : ∀ r, f_X3_add P a1 a2 M = some r → fC g l z_X3_add [.ref P, .int a1, .int a2] (M, w) (emVw M w r) := fun r hr => fC.of (by decide) rfl o_X3_add hl (Nat.le_of_ble_eq_true rfl) (t_X3_add g l hl P a1 a2 hP M w r hr)
def k_X3_remove : List (Nat × Instr × Nat) := [(0, .aload_n 0, 1), (1, .getfield 14, 3), (4, .iload_n 1, 1), (5, .invokevirtual 42, 3), (8, .aload_n 0, 1), (9, .getfield 20, 3), (12, .iload_n 1, 1), (13, .invokevirtual 42, 3), (16, .aload_n 0, 1), (17, .aload_n 0, 1), (18, .getfield 23, 3), (21, .iconst 1, 1), (22, .isub, 1), (23, .iconst 0, 1), (24, .invokestatic 45, 3), (27, .putfield 23, 3), (30, .return_, 1)]
def z_X3_remove : fm_Y := (yX3_remove, RX3, cX3_remove, 2, none, k_X3_remove, 2, 44)
theorem o_X3_remove : fm_dec z_X3_remove := (by decide +kernel : ∀ q ∈ k_X3_remove, decode cX3_remove q.1 = .ok q.2)
theorem cw_X3_remove : fm_cwV z_X3_remove := ⟨⟨lw_in 984 (by decide +kernel) (by decide +kernel), lw_in 96 (by decide +kernel) (by decide +kernel), by decide, by decide⟩, lw_in 982 (by decide +kernel) (by decide +kernel), lw_in 983 (by decide +kernel) (by decide +kernel)⟩
theorem pn_X3_remove : (parseMethodDescriptor z_X3_remove.1.desc).map (fun d => d.parameters.length) = some 1 := by decide +kernel
def f_X3_remove (P : Nat) (a1 : Int32) (M : fm_Mem) : Option (fm_Mem) := Option.bind (f_X4_remove (P + 1) 20 a1 M) (fun v1 => Option.bind (f_X4_remove (P + 3) 20 a1 v1) (fun v2 => some ((fm_up v2 P 2 (fm_max ((v2 P 2) - (1 : Int32)) (0 : Int32))))))
set_option maxRecDepth 100000 in
set_option maxHeartbeats 4000000 in
theorem t_X3_remove (g : fm_G) (l : Launch) (hl : l.stackTraces = false) (P : Nat) (a1 : Int32) (hP : fm_kd g P = 3) (M : fm_Mem) (w : fm_W) : Tt g l z_X3_remove (emVw M w) (f_X3_remove P a1 M) 0 [(0, .ref P), (1, .int a1)] [] (M, w) := by
  rw [f_X3_remove]
  refine Tt.go (fun _ => Tr.run 1 (pc' := 1) (lv' := [(0, .ref P), (1, .int a1)]) (st' := [.ref P]) rfl) ?_
  refine Tt.go (fun _ => Tr.get fmc3 hP rfl fw157 (k := 0) (by decide) rfl) (?_ : Tt g l z_X3_remove (emVw M w) _ 4 [(0, .ref P), (1, .int a1)] [.ref (P + 1)] (M, w))
  refine Tt.go (fun _ => Tr.run 1 (pc' := 5) (lv' := [(0, .ref P), (1, .int a1)]) (st' := [.int a1, .ref (P + 1)]) rfl) ?_
  refine Tt.callV (As := [.int a1]) (rest := []) (c_X4_remove g l hl (P + 1) 20 a1 (fmk_3_0 hP) (fmn_3_0 hP) (by decide) M w) (fmk_3_0 hP) (by decide) rfl rfl cw_X4_remove fw985 pn_X4_remove (Nat.le_of_ble_eq_true rfl) (Nat.le_of_ble_eq_true rfl) (Nat.le_of_ble_eq_true rfl) rfl (fun v1 => (?_ : Tt g l z_X3_remove (emVw M w) _ 8 [(0, .ref P), (1, .int a1)] [] (v1, w)))
  refine Tt.go (fun _ => Tr.run 1 (pc' := 9) (lv' := [(0, .ref P), (1, .int a1)]) (st' := [.ref P]) rfl) ?_
  refine Tt.go (fun _ => Tr.get fmc3 hP rfl fw158 (k := 1) (by decide) rfl) (?_ : Tt g l z_X3_remove (emVw M w) _ 12 [(0, .ref P), (1, .int a1)] [.ref (P + 3)] (v1, w))
  refine Tt.go (fun _ => Tr.run 1 (pc' := 13) (lv' := [(0, .ref P), (1, .int a1)]) (st' := [.int a1, .ref (P + 3)]) rfl) ?_
  refine Tt.callV (As := [.int a1]) (rest := []) (c_X4_remove g l hl (P + 3) 20 a1 (fmk_3_1 hP) (fmn_3_1 hP) (by decide) v1 w) (fmk_3_1 hP) (by decide) rfl rfl cw_X4_remove fw985 pn_X4_remove (Nat.le_of_ble_eq_true rfl) (Nat.le_of_ble_eq_true rfl) (Nat.le_of_ble_eq_true rfl) rfl (fun v2 => (?_ : Tt g l z_X3_remove (emVw M w) _ 16 [(0, .ref P), (1, .int a1)] [] (v2, w)))
  refine Tt.go (fun _ => Tr.run 2 (pc' := 18) (lv' := [(0, .ref P), (1, .int a1)]) (st' := [.ref P, .ref P]) rfl) ?_
  refine Tt.go (fun _ => Tr.get fmc3 hP rfl fw159 (k := 2) (by decide) rfl) (?_ : Tt g l z_X3_remove (emVw M w) _ 21 [(0, .ref P), (1, .int a1)] [.int (v2 P 2), .ref P] (v2, w))
  refine Tt.go (fun _ => Tr.run 3 (pc' := 24) (lv' := [(0, .ref P), (1, .int a1)]) (st' := [.int (0 : Int32), .int ((v2 P 2) - (1 : Int32)), .ref P]) rfl) ?_
  refine Tt.go (fun _ => Tr.max rfl ⟨fw986, fw136, fw94, fw137⟩ (Nat.le_of_ble_eq_true rfl) (Nat.le_of_ble_eq_true rfl)) (?_ : Tt g l z_X3_remove (emVw M w) _ 27 [(0, .ref P), (1, .int a1)] [.int (fm_max ((v2 P 2) - (1 : Int32)) (0 : Int32)), .ref P] (v2, w))
  refine Tt.go (fun _ => Tr.put fmc3 hP rfl fw159 (k := 2) (by decide) rfl rfl ⟨rfl, rfl⟩) (?_ : Tt g l z_X3_remove (emVw M w) _ 30 [(0, .ref P), (1, .int a1)] [] ((fm_up v2 P 2 (fm_max ((v2 P 2) - (1 : Int32)) (0 : Int32))), w))
  exact Tt.ret (Tr.vret rfl rfl)
theorem c_X3_remove (g : fm_G) (l : Launch) (hl : l.stackTraces = false) (P : Nat) (a1 : Int32) (hP : fm_kd g P = 3) (M : fm_Mem) (w : fm_W) : ∀ r, f_X3_remove P a1 M = some r → fC g l z_X3_remove [.ref P, .int a1] (M, w) (emVw M w r) := fun r hr => fC.of (by decide) rfl o_X3_remove hl (Nat.le_of_ble_eq_true rfl) (t_X3_remove g l hl P a1 hP M w r hr)
def k_X3_find : List (Nat × Instr × Nat) := [(0, .iconst 0, 1), (1, .istore_n 3, 1), (2, .iload_n 3, 1), (3, .aload_n 0, 1), (4, .getfield 23, 3), (7, .if_icmp .ge 35, 3), (10, .aload_n 0, 1), (11, .getfield 14, 3), (14, .iload_n 3, 1), (15, .invokevirtual 27, 3), (18, .iload_n 1, 1), (19, .if_icmp .ne 17, 3), (22, .aload_n 0, 1), (23, .getfield 20, 3), (26, .iload_n 3, 1), (27, .invokevirtual 27, 3), (30, .iload_n 2, 1), (31, .if_icmp .ne 5, 3), (34, .iload_n 3, 1), (35, .ireturn, 1), (36, .iinc 3 1, 3), (39, .goto (-37), 3), (42, .iconst (-1), 1), (43, .ireturn, 1)]
def z_X3_find : fm_Y := (yX3_find, RX3, cX3_find, 4, (some .int), k_X3_find, 1, 21)
theorem o_X3_find : fm_dec z_X3_find := (by decide +kernel : ∀ q ∈ k_X3_find, decode cX3_find q.1 = .ok q.2)
theorem cw_X3_find : fm_cwV z_X3_find := ⟨⟨lw_in 754 (by decide +kernel) (by decide +kernel), lw_in 96 (by decide +kernel) (by decide +kernel), by decide, by decide⟩, lw_in 752 (by decide +kernel) (by decide +kernel), lw_in 753 (by decide +kernel) (by decide +kernel)⟩
theorem pn_X3_find : (parseMethodDescriptor z_X3_find.1.desc).map (fun d => d.parameters.length) = some 2 := by decide +kernel
def f_X3_find_36 (P : Nat) (a1 : Int32) (a2 : Int32) (k2 : Int32 → fm_Mem → Option (Int32)) (x3 : Int32) (M : fm_Mem) : Option (Int32) := (k2 (x3 + (1 : Int32)) M)
set_option maxRecDepth 100000 in
set_option maxHeartbeats 4000000 in
theorem t_X3_find_36 (g : fm_G) (l : Launch) (hl : l.stackTraces = false) (P : Nat) (a1 : Int32) (a2 : Int32) (hP : fm_kd g P = 3) (w : fm_W) (k2 : Int32 → fm_Mem → Option (Int32)) (hk2 : ∀ (x3 : Int32) (M : fm_Mem), Tt g l z_X3_find (emI M w) (k2 x3 M) 2 [(0, .ref P), (1, .int a1), (2, .int a2), (3, .int x3)] [] (M, w)) (x3 : Int32)  (M : fm_Mem) : Tt g l z_X3_find (emI M w) (f_X3_find_36 P a1 a2 k2 x3 M) 36 [(0, .ref P), (1, .int a1), (2, .int a2), (3, .int x3)] [] (M, w) := by
  rw [f_X3_find_36]
  refine Tt.go (fun _ => Tr.run 2 (pc' := 2) (lv' := [(3, .int (x3 + (1 : Int32))), (0, .ref P), (1, .int a1), (2, .int a2)]) (st' := []) rfl) ?_
  refine Tt.go (fun _ => Tr.sub (lv' := [(0, .ref P), (1, .int a1), (2, .int a2), (3, .int (x3 + (1 : Int32)))]) [1, 2, 3, 0] rfl) ?_
  exact hk2 (x3 + (1 : Int32)) M
def f_X3_find_2 (P : Nat) (a1 : Int32) (a2 : Int32) : Nat → Int32 → fm_Mem → Option (Int32)
  | 0, _, _ => none
  | n + 1, x3, M => if (M P 2) ≤ x3 then (some ((-1 : Int32))) else (Option.bind (f_X4_get (P + 1) 20 x3 M) (fun v1 => if v1 = a1 then (Option.bind (f_X4_get (P + 3) 20 x3 M) (fun v2 => if v2 = a2 then (some (x3)) else (f_X3_find_36 P a1 a2 (fun x3 M => f_X3_find_2 P a1 a2 n x3 M) x3 M))) else (f_X3_find_36 P a1 a2 (fun x3 M => f_X3_find_2 P a1 a2 n x3 M) x3 M)))
set_option maxRecDepth 100000 in
set_option maxHeartbeats 4000000 in
theorem t_X3_find_2 (g : fm_G) (l : Launch) (hl : l.stackTraces = false) (P : Nat) (a1 : Int32) (a2 : Int32) (hP : fm_kd g P = 3) (w : fm_W)  : ∀ (n : Nat) (x3 : Int32)  (M : fm_Mem), Tt g l z_X3_find (emI M w) (f_X3_find_2 P a1 a2  n x3 M) 2 [(0, .ref P), (1, .int a1), (2, .int a2), (3, .int x3)] [] (M, w) := by
  intro n
  induction n with
  | zero => intros; exact Tt.none
  | succ n ih =>
    intro x3  M
    rw [f_X3_find_2]
    refine Tt.go (fun _ => Tr.run 2 (pc' := 4) (lv' := [(0, .ref P), (1, .int a1), (2, .int a2), (3, .int x3)]) (st' := [.ref P, .int x3]) rfl) ?_
    refine Tt.go (fun _ => Tr.get fmc3 hP rfl fw159 (k := 2) (by decide) rfl) (?_ : Tt g l z_X3_find (emI M w) _ 7 [(0, .ref P), (1, .int a1), (2, .int a2), (3, .int x3)] [.int (M P 2), .int x3] (M, w))
    refine Tt.ic_ge (tgt := 42) rfl (by decide) ?_ ?_
    · refine Tt.go (fun _ => Tr.run 1 (pc' := 43) (lv' := [(0, .ref P), (1, .int a1), (2, .int a2), (3, .int x3)]) (st' := [.int (-1 : Int32)]) rfl) ?_
      exact Tt.ret (Tr.iret rfl rfl)
    · refine Tt.go (fun _ => Tr.run 1 (pc' := 11) (lv' := [(0, .ref P), (1, .int a1), (2, .int a2), (3, .int x3)]) (st' := [.ref P]) rfl) ?_
      refine Tt.go (fun _ => Tr.get fmc3 hP rfl fw157 (k := 0) (by decide) rfl) (?_ : Tt g l z_X3_find (emI M w) _ 14 [(0, .ref P), (1, .int a1), (2, .int a2), (3, .int x3)] [.ref (P + 1)] (M, w))
      refine Tt.go (fun _ => Tr.run 1 (pc' := 15) (lv' := [(0, .ref P), (1, .int a1), (2, .int a2), (3, .int x3)]) (st' := [.int x3, .ref (P + 1)]) rfl) ?_
      refine Tt.callV (As := [.int x3]) (rest := []) (c_X4_get g l hl (P + 1) 20 x3 (fmk_3_0 hP) (fmn_3_0 hP) (by decide) M w) (fmk_3_0 hP) (by decide) rfl rfl cw_X4_get fw337 pn_X4_get (Nat.le_of_ble_eq_true rfl) (Nat.le_of_ble_eq_true rfl) (Nat.le_of_ble_eq_true rfl) rfl (fun v1 => (?_ : Tt g l z_X3_find (emI M w) _ 18 [(0, .ref P), (1, .int a1), (2, .int a2), (3, .int x3)] [.int v1] (M, w)))
      refine Tt.go (fun _ => Tr.run 1 (pc' := 19) (lv' := [(0, .ref P), (1, .int a1), (2, .int a2), (3, .int x3)]) (st' := [.int a1, .int v1]) rfl) ?_
      refine Tt.ic_ne (tgt := 36) rfl (by decide) ?_ ?_
      · refine Tt.go (fun _ => Tr.run 1 (pc' := 23) (lv' := [(0, .ref P), (1, .int a1), (2, .int a2), (3, .int x3)]) (st' := [.ref P]) rfl) ?_
        refine Tt.go (fun _ => Tr.get fmc3 hP rfl fw158 (k := 1) (by decide) rfl) (?_ : Tt g l z_X3_find (emI M w) _ 26 [(0, .ref P), (1, .int a1), (2, .int a2), (3, .int x3)] [.ref (P + 3)] (M, w))
        refine Tt.go (fun _ => Tr.run 1 (pc' := 27) (lv' := [(0, .ref P), (1, .int a1), (2, .int a2), (3, .int x3)]) (st' := [.int x3, .ref (P + 3)]) rfl) ?_
        refine Tt.callV (As := [.int x3]) (rest := []) (c_X4_get g l hl (P + 3) 20 x3 (fmk_3_1 hP) (fmn_3_1 hP) (by decide) M w) (fmk_3_1 hP) (by decide) rfl rfl cw_X4_get fw337 pn_X4_get (Nat.le_of_ble_eq_true rfl) (Nat.le_of_ble_eq_true rfl) (Nat.le_of_ble_eq_true rfl) rfl (fun v2 => (?_ : Tt g l z_X3_find (emI M w) _ 30 [(0, .ref P), (1, .int a1), (2, .int a2), (3, .int x3)] [.int v2] (M, w)))
        refine Tt.go (fun _ => Tr.run 1 (pc' := 31) (lv' := [(0, .ref P), (1, .int a1), (2, .int a2), (3, .int x3)]) (st' := [.int a2, .int v2]) rfl) ?_
        refine Tt.ic_ne (tgt := 36) rfl (by decide) ?_ ?_
        · refine Tt.go (fun _ => Tr.run 1 (pc' := 35) (lv' := [(0, .ref P), (1, .int a1), (2, .int a2), (3, .int x3)]) (st' := [.int x3]) rfl) ?_
          exact Tt.ret (Tr.iret rfl rfl)
        · exact t_X3_find_36 g l hl P a1 a2 hP w _ ih x3 M
      · exact t_X3_find_36 g l hl P a1 a2 hP w _ ih x3 M
def f_X3_find (P : Nat) (a1 : Int32) (a2 : Int32) (M : fm_Mem) : Option (Int32) := (f_X3_find_2 P a1 a2 fm_fuel (0 : Int32) M)
set_option maxRecDepth 100000 in
set_option maxHeartbeats 4000000 in
theorem t_X3_find (g : fm_G) (l : Launch) (hl : l.stackTraces = false) (P : Nat) (a1 : Int32) (a2 : Int32) (hP : fm_kd g P = 3) (M : fm_Mem) (w : fm_W) : Tt g l z_X3_find (emI M w) (f_X3_find P a1 a2 M) 0 [(0, .ref P), (1, .int a1), (2, .int a2)] [] (M, w) := by
  rw [f_X3_find]
  refine Tt.go (fun _ => Tr.run 2 (pc' := 2) (lv' := [(3, .int (0 : Int32)), (0, .ref P), (1, .int a1), (2, .int a2)]) (st' := []) rfl) ?_
  refine Tt.go (fun _ => Tr.sub (lv' := [(0, .ref P), (1, .int a1), (2, .int a2), (3, .int (0 : Int32))]) [1, 2, 3, 0] rfl) ?_
  exact t_X3_find_2 g l hl P a1 a2 hP w fm_fuel (0 : Int32) M
theorem c_X3_find (g : fm_G) (l : Launch) (hl : l.stackTraces = false) (P : Nat) (a1 : Int32) (a2 : Int32) (hP : fm_kd g P = 3) (M : fm_Mem) (w : fm_W) : ∀ r, f_X3_find P a1 a2 M = some r → fC g l z_X3_find [.ref P, .int a1, .int a2] (M, w) (emI M w r) := fun r hr => fC.of (by decide) rfl o_X3_find hl (Nat.le_of_ble_eq_true rfl) (t_X3_find g l hl P a1 a2 hP M w r hr)
def k_X3_turnTo : List (Nat × Instr × Nat) := [(0, .aload_n 0, 1), (1, .getfield 14, 3), (4, .iload_n 1, 1), (5, .invokevirtual 27, 3), (8, .istore 5, 2), (10, .aload_n 0, 1), (11, .getfield 20, 3), (14, .iload_n 1, 1), (15, .invokevirtual 27, 3), (18, .istore 6, 2), (20, .aload_n 0, 1), (21, .getfield 14, 3), (24, .iload_n 2, 1), (25, .invokevirtual 27, 3), (28, .iload 5, 2), (30, .isub, 1), (31, .aload_n 0, 1), (32, .getfield 20, 3), (35, .iload_n 2, 1), (36, .invokevirtual 27, 3), (39, .iload 6, 2), (41, .isub, 1), (42, .iload_n 3, 1), (43, .iload 5, 2), (45, .isub, 1), (46, .iload 4, 2), (48, .iload 6, 2), (50, .isub, 1), (51, .invokestatic 51, 3), (54, .ireturn, 1)]
def z_X3_turnTo : fm_Y := (yX3_turnTo, RX3, cX3_turnTo, 7, (some .int), k_X3_turnTo, 1, 23)
theorem o_X3_turnTo : fm_dec z_X3_turnTo := (by decide +kernel : ∀ q ∈ k_X3_turnTo, decode cX3_turnTo q.1 = .ok q.2)
theorem cw_X3_turnTo : fm_cwV z_X3_turnTo := ⟨⟨lw_in 900 (by decide +kernel) (by decide +kernel), lw_in 96 (by decide +kernel) (by decide +kernel), by decide, by decide⟩, lw_in 899 (by decide +kernel) (by decide +kernel), lw_in 24 (by decide +kernel) (by decide +kernel)⟩
theorem pn_X3_turnTo : (parseMethodDescriptor z_X3_turnTo.1.desc).map (fun d => d.parameters.length) = some 4 := by decide +kernel
def f_X3_turnTo (P : Nat) (a1 : Int32) (a2 : Int32) (a3 : Int32) (a4 : Int32) (M : fm_Mem) : Option (Int32) := Option.bind (f_X4_get (P + 1) 20 a1 M) (fun v1 => Option.bind (f_X4_get (P + 3) 20 a1 M) (fun v2 => Option.bind (f_X4_get (P + 1) 20 a2 M) (fun v3 => Option.bind (f_X4_get (P + 3) 20 a2 M) (fun v4 => Option.bind (f_X3_cross (v3 - v1) (v4 - v2) (a3 - v1) (a4 - v2) M) (fun v5 => some (v5))))))
set_option maxRecDepth 100000 in
set_option maxHeartbeats 4000000 in
theorem t_X3_turnTo (g : fm_G) (l : Launch) (hl : l.stackTraces = false) (P : Nat) (a1 : Int32) (a2 : Int32) (a3 : Int32) (a4 : Int32) (hP : fm_kd g P = 3) (M : fm_Mem) (w : fm_W) : Tt g l z_X3_turnTo (emI M w) (f_X3_turnTo P a1 a2 a3 a4 M) 0 [(0, .ref P), (1, .int a1), (2, .int a2), (3, .int a3), (4, .int a4)] [] (M, w) := by
  rw [f_X3_turnTo]
  refine Tt.go (fun _ => Tr.run 1 (pc' := 1) (lv' := [(0, .ref P), (1, .int a1), (2, .int a2), (3, .int a3), (4, .int a4)]) (st' := [.ref P]) rfl) ?_
  refine Tt.go (fun _ => Tr.get fmc3 hP rfl fw157 (k := 0) (by decide) rfl) (?_ : Tt g l z_X3_turnTo (emI M w) _ 4 [(0, .ref P), (1, .int a1), (2, .int a2), (3, .int a3), (4, .int a4)] [.ref (P + 1)] (M, w))
  refine Tt.go (fun _ => Tr.run 1 (pc' := 5) (lv' := [(0, .ref P), (1, .int a1), (2, .int a2), (3, .int a3), (4, .int a4)]) (st' := [.int a1, .ref (P + 1)]) rfl) ?_
  refine Tt.callV (As := [.int a1]) (rest := []) (c_X4_get g l hl (P + 1) 20 a1 (fmk_3_0 hP) (fmn_3_0 hP) (by decide) M w) (fmk_3_0 hP) (by decide) rfl rfl cw_X4_get fw337 pn_X4_get (Nat.le_of_ble_eq_true rfl) (Nat.le_of_ble_eq_true rfl) (Nat.le_of_ble_eq_true rfl) rfl (fun v1 => (?_ : Tt g l z_X3_turnTo (emI M w) _ 8 [(0, .ref P), (1, .int a1), (2, .int a2), (3, .int a3), (4, .int a4)] [.int v1] (M, w)))
  refine Tt.go (fun _ => Tr.run 2 (pc' := 11) (lv' := [(5, .int v1), (0, .ref P), (1, .int a1), (2, .int a2), (3, .int a3), (4, .int a4)]) (st' := [.ref P]) rfl) ?_
  refine Tt.go (fun _ => Tr.get fmc3 hP rfl fw158 (k := 1) (by decide) rfl) (?_ : Tt g l z_X3_turnTo (emI M w) _ 14 [(5, .int v1), (0, .ref P), (1, .int a1), (2, .int a2), (3, .int a3), (4, .int a4)] [.ref (P + 3)] (M, w))
  refine Tt.go (fun _ => Tr.run 1 (pc' := 15) (lv' := [(5, .int v1), (0, .ref P), (1, .int a1), (2, .int a2), (3, .int a3), (4, .int a4)]) (st' := [.int a1, .ref (P + 3)]) rfl) ?_
  refine Tt.callV (As := [.int a1]) (rest := []) (c_X4_get g l hl (P + 3) 20 a1 (fmk_3_1 hP) (fmn_3_1 hP) (by decide) M w) (fmk_3_1 hP) (by decide) rfl rfl cw_X4_get fw337 pn_X4_get (Nat.le_of_ble_eq_true rfl) (Nat.le_of_ble_eq_true rfl) (Nat.le_of_ble_eq_true rfl) rfl (fun v2 => (?_ : Tt g l z_X3_turnTo (emI M w) _ 18 [(5, .int v1), (0, .ref P), (1, .int a1), (2, .int a2), (3, .int a3), (4, .int a4)] [.int v2] (M, w)))
  refine Tt.go (fun _ => Tr.run 2 (pc' := 21) (lv' := [(6, .int v2), (5, .int v1), (0, .ref P), (1, .int a1), (2, .int a2), (3, .int a3), (4, .int a4)]) (st' := [.ref P]) rfl) ?_
  refine Tt.go (fun _ => Tr.get fmc3 hP rfl fw157 (k := 0) (by decide) rfl) (?_ : Tt g l z_X3_turnTo (emI M w) _ 24 [(6, .int v2), (5, .int v1), (0, .ref P), (1, .int a1), (2, .int a2), (3, .int a3), (4, .int a4)] [.ref (P + 1)] (M, w))
  refine Tt.go (fun _ => Tr.run 1 (pc' := 25) (lv' := [(6, .int v2), (5, .int v1), (0, .ref P), (1, .int a1), (2, .int a2), (3, .int a3), (4, .int a4)]) (st' := [.int a2, .ref (P + 1)]) rfl) ?_
  refine Tt.callV (As := [.int a2]) (rest := []) (c_X4_get g l hl (P + 1) 20 a2 (fmk_3_0 hP) (fmn_3_0 hP) (by decide) M w) (fmk_3_0 hP) (by decide) rfl rfl cw_X4_get fw337 pn_X4_get (Nat.le_of_ble_eq_true rfl) (Nat.le_of_ble_eq_true rfl) (Nat.le_of_ble_eq_true rfl) rfl (fun v3 => (?_ : Tt g l z_X3_turnTo (emI M w) _ 28 [(6, .int v2), (5, .int v1), (0, .ref P), (1, .int a1), (2, .int a2), (3, .int a3), (4, .int a4)] [.int v3] (M, w)))
  refine Tt.go (fun _ => Tr.run 3 (pc' := 32) (lv' := [(6, .int v2), (5, .int v1), (0, .ref P), (1, .int a1), (2, .int a2), (3, .int a3), (4, .int a4)]) (st' := [.ref P, .int (v3 - v1)]) rfl) ?_
  refine Tt.go (fun _ => Tr.get fmc3 hP rfl fw158 (k := 1) (by decide) rfl) (?_ : Tt g l z_X3_turnTo (emI M w) _ 35 [(6, .int v2), (5, .int v1), (0, .ref P), (1, .int a1), (2, .int a2), (3, .int a3), (4, .int a4)] [.ref (P + 3), .int (v3 - v1)] (M, w))
  refine Tt.go (fun _ => Tr.run 1 (pc' := 36) (lv' := [(6, .int v2), (5, .int v1), (0, .ref P), (1, .int a1), (2, .int a2), (3, .int a3), (4, .int a4)]) (st' := [.int a2, .ref (P + 3), .int (v3 - v1)]) rfl) ?_
  refine Tt.callV (As := [.int a2]) (rest := [.int (v3 - v1)]) (c_X4_get g l hl (P + 3) 20 a2 (fmk_3_1 hP) (fmn_3_1 hP) (by decide) M w) (fmk_3_1 hP) (by decide) rfl rfl cw_X4_get fw337 pn_X4_get (Nat.le_of_ble_eq_true rfl) (Nat.le_of_ble_eq_true rfl) (Nat.le_of_ble_eq_true rfl) rfl (fun v4 => (?_ : Tt g l z_X3_turnTo (emI M w) _ 39 [(6, .int v2), (5, .int v1), (0, .ref P), (1, .int a1), (2, .int a2), (3, .int a3), (4, .int a4)] [.int v4, .int (v3 - v1)] (M, w)))
  refine Tt.go (fun _ => Tr.run 8 (pc' := 51) (lv' := [(6, .int v2), (5, .int v1), (0, .ref P), (1, .int a1), (2, .int a2), (3, .int a3), (4, .int a4)]) (st' := [.int (a4 - v2), .int (a3 - v1), .int (v4 - v2), .int (v3 - v1)]) rfl) ?_
  refine Tt.callS (As := [.int (v3 - v1), .int (v4 - v2), .int (a3 - v1), .int (a4 - v2)]) (rest := []) (c_X3_cross g l hl (v3 - v1) (v4 - v2) (a3 - v1) (a4 - v2) M w) rfl cw_X3_cross fw342 pn_X3_cross (Nat.le_of_ble_eq_true rfl) (Nat.le_of_ble_eq_true rfl) (Nat.le_of_ble_eq_true rfl) rfl (fun v5 => (?_ : Tt g l z_X3_turnTo (emI M w) _ 54 [(6, .int v2), (5, .int v1), (0, .ref P), (1, .int a1), (2, .int a2), (3, .int a3), (4, .int a4)] [.int v5] (M, w)))
  exact Tt.ret (Tr.iret rfl rfl)
theorem c_X3_turnTo (g : fm_G) (l : Launch) (hl : l.stackTraces = false) (P : Nat) (a1 : Int32) (a2 : Int32) (a3 : Int32) (a4 : Int32) (hP : fm_kd g P = 3) (M : fm_Mem) (w : fm_W) : ∀ r, f_X3_turnTo P a1 a2 a3 a4 M = some r → fC g l z_X3_turnTo [.ref P, .int a1, .int a2, .int a3, .int a4] (M, w) (emI M w r) := fun r hr => fC.of (by decide) rfl o_X3_turnTo hl (Nat.le_of_ble_eq_true rfl) (t_X3_turnTo g l hl P a1 a2 a3 a4 hP M w r hr)
def k_X3_countCircle : List (Nat × Instr × Nat) := [(0, .iconst 0, 1), (1, .istore 5, 2), (3, .iconst 0, 1), (4, .istore 6, 2), (6, .iload 6, 2), (8, .aload_n 0, 1), (9, .getfield 23, 3), (12, .if_icmp .ge 60, 3), (15, .iload 6, 2), (17, .iload_n 1, 1), (18, .if_icmp .eq 48, 3), (21, .iload 6, 2), (23, .iload_n 2, 1), (24, .if_icmp .eq 42, 3), (27, .iload 6, 2), (29, .iload_n 3, 1), (30, .if_icmp .eq 36, 3), (33, .aload_n 0, 1), (34, .iload_n 1, 1), (35, .iload_n 2, 1), (36, .iload_n 3, 1), (37, .aload_n 0, 1), (38, .getfield 14, 3), (41, .iload 6, 2), (43, .invokevirtual 27, 3), (46, .aload_n 0, 1), (47, .getfield 20, 3), (50, .iload 6, 2), (52, .invokevirtual 27, 3), (55, .invokevirtual 59, 3), (58, .iload 4, 2), (60, .if_icmp .ne 6, 3), (63, .iinc 5 1, 3), (66, .iinc 6 1, 3), (69, .goto (-63), 3), (72, .iload 5, 2), (74, .ireturn, 1)]
def z_X3_countCircle : fm_Y := (yX3_countCircle, RX3, cX3_countCircle, 7, (some .int), k_X3_countCircle, 2, 68)
theorem o_X3_countCircle : fm_dec z_X3_countCircle := (by decide +kernel : ∀ q ∈ k_X3_countCircle, decode cX3_countCircle q.1 = .ok q.2)
theorem cw_X3_countCircle : fm_cwV z_X3_countCircle := ⟨⟨lw_in 616 (by decide +kernel) (by decide +kernel), lw_in 96 (by decide +kernel) (by decide +kernel), by decide, by decide⟩, lw_in 614 (by decide +kernel) (by decide +kernel), lw_in 615 (by decide +kernel) (by decide +kernel)⟩
theorem pn_X3_countCircle : (parseMethodDescriptor z_X3_countCircle.1.desc).map (fun d => d.parameters.length) = some 4 := by decide +kernel
def f_X3_countCircle_66 (P : Nat) (a1 : Int32) (a2 : Int32) (a3 : Int32) (a4 : Int32) (k6 : Int32 → Int32 → fm_Mem → Option (Int32)) (x5 : Int32) (x6 : Int32) (M : fm_Mem) : Option (Int32) := (k6 x5 (x6 + (1 : Int32)) M)
set_option maxRecDepth 100000 in
set_option maxHeartbeats 4000000 in
theorem t_X3_countCircle_66 (g : fm_G) (l : Launch) (hl : l.stackTraces = false) (P : Nat) (a1 : Int32) (a2 : Int32) (a3 : Int32) (a4 : Int32) (hP : fm_kd g P = 3) (w : fm_W) (k6 : Int32 → Int32 → fm_Mem → Option (Int32)) (hk6 : ∀ (x5 : Int32) (x6 : Int32) (M : fm_Mem), Tt g l z_X3_countCircle (emI M w) (k6 x5 x6 M) 6 [(0, .ref P), (1, .int a1), (2, .int a2), (3, .int a3), (4, .int a4), (5, .int x5), (6, .int x6)] [] (M, w)) (x5 : Int32) (x6 : Int32)  (M : fm_Mem) : Tt g l z_X3_countCircle (emI M w) (f_X3_countCircle_66 P a1 a2 a3 a4 k6 x5 x6 M) 66 [(0, .ref P), (1, .int a1), (2, .int a2), (3, .int a3), (4, .int a4), (5, .int x5), (6, .int x6)] [] (M, w) := by
  rw [f_X3_countCircle_66]
  refine Tt.go (fun _ => Tr.run 2 (pc' := 6) (lv' := [(6, .int (x6 + (1 : Int32))), (0, .ref P), (1, .int a1), (2, .int a2), (3, .int a3), (4, .int a4), (5, .int x5)]) (st' := []) rfl) ?_
  refine Tt.go (fun _ => Tr.sub (lv' := [(0, .ref P), (1, .int a1), (2, .int a2), (3, .int a3), (4, .int a4), (5, .int x5), (6, .int (x6 + (1 : Int32)))]) [1, 2, 3, 4, 5, 6, 0] rfl) ?_
  exact hk6 x5 (x6 + (1 : Int32)) M
def f_X3_countCircle_6 (P : Nat) (a1 : Int32) (a2 : Int32) (a3 : Int32) (a4 : Int32) : Nat → Int32 → Int32 → fm_Mem → Option (Int32)
  | 0, _, _, _ => none
  | n + 1, x5, x6, M => if (M P 2) ≤ x6 then (some (x5)) else (if x6 = a1 then (f_X3_countCircle_66 P a1 a2 a3 a4 (fun x5 x6 M => f_X3_countCircle_6 P a1 a2 a3 a4 n x5 x6 M) x5 x6 M) else (if x6 = a2 then (f_X3_countCircle_66 P a1 a2 a3 a4 (fun x5 x6 M => f_X3_countCircle_6 P a1 a2 a3 a4 n x5 x6 M) x5 x6 M) else (if x6 = a3 then (f_X3_countCircle_66 P a1 a2 a3 a4 (fun x5 x6 M => f_X3_countCircle_6 P a1 a2 a3 a4 n x5 x6 M) x5 x6 M) else (Option.bind (f_X4_get (P + 1) 20 x6 M) (fun v1 => Option.bind (f_X4_get (P + 3) 20 x6 M) (fun v2 => Option.bind (f_X3_circleSide P a1 a2 a3 v1 v2 M) (fun v3 => if v3 = a4 then (f_X3_countCircle_66 P a1 a2 a3 a4 (fun x5 x6 M => f_X3_countCircle_6 P a1 a2 a3 a4 n x5 x6 M) (x5 + (1 : Int32)) x6 M) else (f_X3_countCircle_66 P a1 a2 a3 a4 (fun x5 x6 M => f_X3_countCircle_6 P a1 a2 a3 a4 n x5 x6 M) x5 x6 M))))))))
set_option maxRecDepth 100000 in
set_option maxHeartbeats 4000000 in
theorem t_X3_countCircle_6 (g : fm_G) (l : Launch) (hl : l.stackTraces = false) (P : Nat) (a1 : Int32) (a2 : Int32) (a3 : Int32) (a4 : Int32) (hP : fm_kd g P = 3) (w : fm_W)  : ∀ (n : Nat) (x5 : Int32) (x6 : Int32)  (M : fm_Mem), Tt g l z_X3_countCircle (emI M w) (f_X3_countCircle_6 P a1 a2 a3 a4  n x5 x6 M) 6 [(0, .ref P), (1, .int a1), (2, .int a2), (3, .int a3), (4, .int a4), (5, .int x5), (6, .int x6)] [] (M, w) := by
  intro n
  induction n with
  | zero => intros; exact Tt.none
  | succ n ih =>
    intro x5 x6  M
    rw [f_X3_countCircle_6]
    refine Tt.go (fun _ => Tr.run 2 (pc' := 9) (lv' := [(0, .ref P), (1, .int a1), (2, .int a2), (3, .int a3), (4, .int a4), (5, .int x5), (6, .int x6)]) (st' := [.ref P, .int x6]) rfl) ?_
    refine Tt.go (fun _ => Tr.get fmc3 hP rfl fw159 (k := 2) (by decide) rfl) (?_ : Tt g l z_X3_countCircle (emI M w) _ 12 [(0, .ref P), (1, .int a1), (2, .int a2), (3, .int a3), (4, .int a4), (5, .int x5), (6, .int x6)] [.int (M P 2), .int x6] (M, w))
    refine Tt.ic_ge (tgt := 72) rfl (by decide) ?_ ?_
    · refine Tt.go (fun _ => Tr.run 1 (pc' := 74) (lv' := [(0, .ref P), (1, .int a1), (2, .int a2), (3, .int a3), (4, .int a4), (5, .int x5), (6, .int x6)]) (st' := [.int x5]) rfl) ?_
      exact Tt.ret (Tr.iret rfl rfl)
    · refine Tt.go (fun _ => Tr.run 2 (pc' := 18) (lv' := [(0, .ref P), (1, .int a1), (2, .int a2), (3, .int a3), (4, .int a4), (5, .int x5), (6, .int x6)]) (st' := [.int a1, .int x6]) rfl) ?_
      refine Tt.ic_eq (tgt := 66) rfl (by decide) ?_ ?_
      · exact t_X3_countCircle_66 g l hl P a1 a2 a3 a4 hP w _ ih x5 x6 M
      · refine Tt.go (fun _ => Tr.run 2 (pc' := 24) (lv' := [(0, .ref P), (1, .int a1), (2, .int a2), (3, .int a3), (4, .int a4), (5, .int x5), (6, .int x6)]) (st' := [.int a2, .int x6]) rfl) ?_
        refine Tt.ic_eq (tgt := 66) rfl (by decide) ?_ ?_
        · exact t_X3_countCircle_66 g l hl P a1 a2 a3 a4 hP w _ ih x5 x6 M
        · refine Tt.go (fun _ => Tr.run 2 (pc' := 30) (lv' := [(0, .ref P), (1, .int a1), (2, .int a2), (3, .int a3), (4, .int a4), (5, .int x5), (6, .int x6)]) (st' := [.int a3, .int x6]) rfl) ?_
          refine Tt.ic_eq (tgt := 66) rfl (by decide) ?_ ?_
          · exact t_X3_countCircle_66 g l hl P a1 a2 a3 a4 hP w _ ih x5 x6 M
          · refine Tt.go (fun _ => Tr.run 5 (pc' := 38) (lv' := [(0, .ref P), (1, .int a1), (2, .int a2), (3, .int a3), (4, .int a4), (5, .int x5), (6, .int x6)]) (st' := [.ref P, .int a3, .int a2, .int a1, .ref P]) rfl) ?_
            refine Tt.go (fun _ => Tr.get fmc3 hP rfl fw157 (k := 0) (by decide) rfl) (?_ : Tt g l z_X3_countCircle (emI M w) _ 41 [(0, .ref P), (1, .int a1), (2, .int a2), (3, .int a3), (4, .int a4), (5, .int x5), (6, .int x6)] [.ref (P + 1), .int a3, .int a2, .int a1, .ref P] (M, w))
            refine Tt.go (fun _ => Tr.run 1 (pc' := 43) (lv' := [(0, .ref P), (1, .int a1), (2, .int a2), (3, .int a3), (4, .int a4), (5, .int x5), (6, .int x6)]) (st' := [.int x6, .ref (P + 1), .int a3, .int a2, .int a1, .ref P]) rfl) ?_
            refine Tt.callV (As := [.int x6]) (rest := [.int a3, .int a2, .int a1, .ref P]) (c_X4_get g l hl (P + 1) 20 x6 (fmk_3_0 hP) (fmn_3_0 hP) (by decide) M w) (fmk_3_0 hP) (by decide) rfl rfl cw_X4_get fw337 pn_X4_get (Nat.le_of_ble_eq_true rfl) (Nat.le_of_ble_eq_true rfl) (Nat.le_of_ble_eq_true rfl) rfl (fun v1 => (?_ : Tt g l z_X3_countCircle (emI M w) _ 46 [(0, .ref P), (1, .int a1), (2, .int a2), (3, .int a3), (4, .int a4), (5, .int x5), (6, .int x6)] [.int v1, .int a3, .int a2, .int a1, .ref P] (M, w)))
            refine Tt.go (fun _ => Tr.run 1 (pc' := 47) (lv' := [(0, .ref P), (1, .int a1), (2, .int a2), (3, .int a3), (4, .int a4), (5, .int x5), (6, .int x6)]) (st' := [.ref P, .int v1, .int a3, .int a2, .int a1, .ref P]) rfl) ?_
            refine Tt.go (fun _ => Tr.get fmc3 hP rfl fw158 (k := 1) (by decide) rfl) (?_ : Tt g l z_X3_countCircle (emI M w) _ 50 [(0, .ref P), (1, .int a1), (2, .int a2), (3, .int a3), (4, .int a4), (5, .int x5), (6, .int x6)] [.ref (P + 3), .int v1, .int a3, .int a2, .int a1, .ref P] (M, w))
            refine Tt.go (fun _ => Tr.run 1 (pc' := 52) (lv' := [(0, .ref P), (1, .int a1), (2, .int a2), (3, .int a3), (4, .int a4), (5, .int x5), (6, .int x6)]) (st' := [.int x6, .ref (P + 3), .int v1, .int a3, .int a2, .int a1, .ref P]) rfl) ?_
            refine Tt.callV (As := [.int x6]) (rest := [.int v1, .int a3, .int a2, .int a1, .ref P]) (c_X4_get g l hl (P + 3) 20 x6 (fmk_3_1 hP) (fmn_3_1 hP) (by decide) M w) (fmk_3_1 hP) (by decide) rfl rfl cw_X4_get fw337 pn_X4_get (Nat.le_of_ble_eq_true rfl) (Nat.le_of_ble_eq_true rfl) (Nat.le_of_ble_eq_true rfl) rfl (fun v2 => (?_ : Tt g l z_X3_countCircle (emI M w) _ 55 [(0, .ref P), (1, .int a1), (2, .int a2), (3, .int a3), (4, .int a4), (5, .int x5), (6, .int x6)] [.int v2, .int v1, .int a3, .int a2, .int a1, .ref P] (M, w)))
            refine Tt.callV (As := [.int a1, .int a2, .int a3, .int v1, .int v2]) (rest := []) (c_X3_circleSide g l hl P a1 a2 a3 v1 v2 hP M w) hP (by decide) rfl rfl cw_X3_circleSide fw617 pn_X3_circleSide (Nat.le_of_ble_eq_true rfl) (Nat.le_of_ble_eq_true rfl) (Nat.le_of_ble_eq_true rfl) rfl (fun v3 => (?_ : Tt g l z_X3_countCircle (emI M w) _ 58 [(0, .ref P), (1, .int a1), (2, .int a2), (3, .int a3), (4, .int a4), (5, .int x5), (6, .int x6)] [.int v3] (M, w)))
            refine Tt.go (fun _ => Tr.run 1 (pc' := 60) (lv' := [(0, .ref P), (1, .int a1), (2, .int a2), (3, .int a3), (4, .int a4), (5, .int x5), (6, .int x6)]) (st' := [.int a4, .int v3]) rfl) ?_
            refine Tt.ic_ne (tgt := 66) rfl (by decide) ?_ ?_
            · refine Tt.go (fun _ => Tr.run 1 (pc' := 66) (lv' := [(5, .int (x5 + (1 : Int32))), (0, .ref P), (1, .int a1), (2, .int a2), (3, .int a3), (4, .int a4), (6, .int x6)]) (st' := []) rfl) ?_
              refine Tt.go (fun _ => Tr.sub (lv' := [(0, .ref P), (1, .int a1), (2, .int a2), (3, .int a3), (4, .int a4), (5, .int (x5 + (1 : Int32))), (6, .int x6)]) [1, 2, 3, 4, 5, 0, 6] rfl) ?_
              exact t_X3_countCircle_66 g l hl P a1 a2 a3 a4 hP w _ ih (x5 + (1 : Int32)) x6 M
            · exact t_X3_countCircle_66 g l hl P a1 a2 a3 a4 hP w _ ih x5 x6 M
def f_X3_countCircle (P : Nat) (a1 : Int32) (a2 : Int32) (a3 : Int32) (a4 : Int32) (M : fm_Mem) : Option (Int32) := (f_X3_countCircle_6 P a1 a2 a3 a4 fm_fuel (0 : Int32) (0 : Int32) M)
set_option maxRecDepth 100000 in
set_option maxHeartbeats 4000000 in
theorem t_X3_countCircle (g : fm_G) (l : Launch) (hl : l.stackTraces = false) (P : Nat) (a1 : Int32) (a2 : Int32) (a3 : Int32) (a4 : Int32) (hP : fm_kd g P = 3) (M : fm_Mem) (w : fm_W) : Tt g l z_X3_countCircle (emI M w) (f_X3_countCircle P a1 a2 a3 a4 M) 0 [(0, .ref P), (1, .int a1), (2, .int a2), (3, .int a3), (4, .int a4)] [] (M, w) := by
  rw [f_X3_countCircle]
  refine Tt.go (fun _ => Tr.run 4 (pc' := 6) (lv' := [(6, .int (0 : Int32)), (5, .int (0 : Int32)), (0, .ref P), (1, .int a1), (2, .int a2), (3, .int a3), (4, .int a4)]) (st' := []) rfl) ?_
  refine Tt.go (fun _ => Tr.sub (lv' := [(0, .ref P), (1, .int a1), (2, .int a2), (3, .int a3), (4, .int a4), (5, .int (0 : Int32)), (6, .int (0 : Int32))]) [2, 3, 4, 5, 6, 1, 0] rfl) ?_
  exact t_X3_countCircle_6 g l hl P a1 a2 a3 a4 hP w fm_fuel (0 : Int32) (0 : Int32) M
theorem c_X3_countCircle (g : fm_G) (l : Launch) (hl : l.stackTraces = false) (P : Nat) (a1 : Int32) (a2 : Int32) (a3 : Int32) (a4 : Int32) (hP : fm_kd g P = 3) (M : fm_Mem) (w : fm_W) : ∀ r, f_X3_countCircle P a1 a2 a3 a4 M = some r → fC g l z_X3_countCircle [.ref P, .int a1, .int a2, .int a3, .int a4] (M, w) (emI M w r) := fun r hr => fC.of (by decide) rfl o_X3_countCircle hl (Nat.le_of_ble_eq_true rfl) (t_X3_countCircle g l hl P a1 a2 a3 a4 hP M w r hr)
def k_X3_covers : List (Nat × Instr × Nat) := [(0, .aload_n 0, 1), (1, .iload_n 1, 1), (2, .iload_n 2, 1), (3, .iload 4, 2), (5, .iload 5, 2), (7, .invokevirtual 63, 3), (10, .istore 6, 2), (12, .aload_n 0, 1), (13, .iload_n 2, 1), (14, .iload_n 3, 1), (15, .iload 4, 2), (17, .iload 5, 2), (19, .invokevirtual 63, 3), (22, .istore 7, 2), (24, .aload_n 0, 1), (25, .iload_n 3, 1), (26, .iload_n 1, 1), (27, .iload 4, 2), (29, .iload 5, 2), (31, .invokevirtual 63, 3), (34, .istore 8, 2), (36, .iload 6, 2), (38, .ifCond .lt 13, 3), (41, .iload 7, 2), (43, .ifCond .lt 8, 3), (46, .iload 8, 2), (48, .ifCond .ge 18, 3), (51, .iload 6, 2), (53, .ifCond .gt 17, 3), (56, .iload 7, 2), (58, .ifCond .gt 12, 3), (61, .iload 8, 2), (63, .ifCond .gt 7, 3), (66, .iconst 1, 1), (67, .goto 4, 3), (70, .iconst 0, 1), (71, .ireturn, 1)]
def z_X3_covers : fm_Y := (yX3_covers, RX3, cX3_covers, 9, (some .boolean), k_X3_covers, 2, 49)
theorem o_X3_covers : fm_dec z_X3_covers := (by decide +kernel : ∀ q ∈ k_X3_covers, decode cX3_covers q.1 = .ok q.2)
theorem cw_X3_covers : fm_cwV z_X3_covers := ⟨⟨lw_in 896 (by decide +kernel) (by decide +kernel), lw_in 96 (by decide +kernel) (by decide +kernel), by decide, by decide⟩, lw_in 894 (by decide +kernel) (by decide +kernel), lw_in 895 (by decide +kernel) (by decide +kernel)⟩
theorem pn_X3_covers : (parseMethodDescriptor z_X3_covers.1.desc).map (fun d => d.parameters.length) = some 5 := by decide +kernel
def f_X3_covers_71 (P : Nat) (a1 : Int32) (a2 : Int32) (a3 : Int32) (a4 : Int32) (a5 : Int32) (s0 : Int32) (M : fm_Mem) : Option (Int32) := fm_ck (fm_bo s0) (some (s0))
set_option maxRecDepth 100000 in
set_option maxHeartbeats 4000000 in
theorem t_X3_covers_71 (g : fm_G) (l : Launch) (hl : l.stackTraces = false) (P : Nat) (a1 : Int32) (a2 : Int32) (a3 : Int32) (a4 : Int32) (a5 : Int32) (hP : fm_kd g P = 3) (w : fm_W)  (s0 : Int32)  (M : fm_Mem) : Tt g l z_X3_covers (emI M w) (f_X3_covers_71 P a1 a2 a3 a4 a5  s0 M) 71 [] [.int s0] (M, w) := by
  rw [f_X3_covers_71]
  exact Tt.ck (fun hb_1 => Tt.ret (Tr.zret rfl rfl hb_1))
def f_X3_covers_70 (P : Nat) (a1 : Int32) (a2 : Int32) (a3 : Int32) (a4 : Int32) (a5 : Int32)  (M : fm_Mem) : Option (Int32) := (f_X3_covers_71 P a1 a2 a3 a4 a5 (0 : Int32) M)
set_option maxRecDepth 100000 in
set_option maxHeartbeats 4000000 in
theorem t_X3_covers_70 (g : fm_G) (l : Launch) (hl : l.stackTraces = false) (P : Nat) (a1 : Int32) (a2 : Int32) (a3 : Int32) (a4 : Int32) (a5 : Int32) (hP : fm_kd g P = 3) (w : fm_W)    (M : fm_Mem) : Tt g l z_X3_covers (emI M w) (f_X3_covers_70 P a1 a2 a3 a4 a5   M) 70 [] [] (M, w) := by
  rw [f_X3_covers_70]
  refine Tt.go (fun _ => Tr.run 1 (pc' := 71) (lv' := []) (st' := [.int (0 : Int32)]) rfl) ?_
  exact t_X3_covers_71 g l hl P a1 a2 a3 a4 a5 hP w (0 : Int32) M
def f_X3_covers_66 (P : Nat) (a1 : Int32) (a2 : Int32) (a3 : Int32) (a4 : Int32) (a5 : Int32)  (M : fm_Mem) : Option (Int32) := (f_X3_covers_71 P a1 a2 a3 a4 a5 (1 : Int32) M)
set_option maxRecDepth 100000 in
set_option maxHeartbeats 4000000 in
theorem t_X3_covers_66 (g : fm_G) (l : Launch) (hl : l.stackTraces = false) (P : Nat) (a1 : Int32) (a2 : Int32) (a3 : Int32) (a4 : Int32) (a5 : Int32) (hP : fm_kd g P = 3) (w : fm_W)    (M : fm_Mem) : Tt g l z_X3_covers (emI M w) (f_X3_covers_66 P a1 a2 a3 a4 a5   M) 66 [] [] (M, w) := by
  rw [f_X3_covers_66]
  refine Tt.go (fun _ => Tr.run 2 (pc' := 71) (lv' := []) (st' := [.int (1 : Int32)]) rfl) ?_
  exact t_X3_covers_71 g l hl P a1 a2 a3 a4 a5 hP w (1 : Int32) M
def f_X3_covers_51 (P : Nat) (a1 : Int32) (a2 : Int32) (a3 : Int32) (a4 : Int32) (a5 : Int32) (x6 : Int32) (x7 : Int32) (x8 : Int32) (M : fm_Mem) : Option (Int32) := if 0 < x6 then (f_X3_covers_70 P a1 a2 a3 a4 a5 M) else (if 0 < x7 then (f_X3_covers_70 P a1 a2 a3 a4 a5 M) else (if 0 < x8 then (f_X3_covers_70 P a1 a2 a3 a4 a5 M) else (f_X3_covers_66 P a1 a2 a3 a4 a5 M)))
set_option maxRecDepth 100000 in
set_option maxHeartbeats 4000000 in
theorem t_X3_covers_51 (g : fm_G) (l : Launch) (hl : l.stackTraces = false) (P : Nat) (a1 : Int32) (a2 : Int32) (a3 : Int32) (a4 : Int32) (a5 : Int32) (hP : fm_kd g P = 3) (w : fm_W)  (x6 : Int32) (x7 : Int32) (x8 : Int32)  (M : fm_Mem) : Tt g l z_X3_covers (emI M w) (f_X3_covers_51 P a1 a2 a3 a4 a5  x6 x7 x8 M) 51 [(6, .int x6), (7, .int x7), (8, .int x8)] [] (M, w) := by
  rw [f_X3_covers_51]
  refine Tt.go (fun _ => Tr.run 1 (pc' := 53) (lv' := [(6, .int x6), (7, .int x7), (8, .int x8)]) (st' := [.int x6]) rfl) ?_
  refine Tt.if_gt (tgt := 70) rfl (by decide) ?_ ?_
  · refine Tt.go (fun _ => Tr.sub (lv' := []) [] rfl) ?_
    exact t_X3_covers_70 g l hl P a1 a2 a3 a4 a5 hP w M
  · refine Tt.go (fun _ => Tr.run 1 (pc' := 58) (lv' := [(6, .int x6), (7, .int x7), (8, .int x8)]) (st' := [.int x7]) rfl) ?_
    refine Tt.if_gt (tgt := 70) rfl (by decide) ?_ ?_
    · refine Tt.go (fun _ => Tr.sub (lv' := []) [] rfl) ?_
      exact t_X3_covers_70 g l hl P a1 a2 a3 a4 a5 hP w M
    · refine Tt.go (fun _ => Tr.run 1 (pc' := 63) (lv' := [(6, .int x6), (7, .int x7), (8, .int x8)]) (st' := [.int x8]) rfl) ?_
      refine Tt.if_gt (tgt := 70) rfl (by decide) ?_ ?_
      · refine Tt.go (fun _ => Tr.sub (lv' := []) [] rfl) ?_
        exact t_X3_covers_70 g l hl P a1 a2 a3 a4 a5 hP w M
      · refine Tt.go (fun _ => Tr.sub (lv' := []) [] rfl) ?_
        exact t_X3_covers_66 g l hl P a1 a2 a3 a4 a5 hP w M
def f_X3_covers (P : Nat) (a1 : Int32) (a2 : Int32) (a3 : Int32) (a4 : Int32) (a5 : Int32) (M : fm_Mem) : Option (Int32) := Option.bind (f_X3_turnTo P a1 a2 a4 a5 M) (fun v1 => Option.bind (f_X3_turnTo P a2 a3 a4 a5 M) (fun v2 => Option.bind (f_X3_turnTo P a3 a1 a4 a5 M) (fun v3 => if v1 < 0 then (f_X3_covers_51 P a1 a2 a3 a4 a5 v1 v2 v3 M) else (if v2 < 0 then (f_X3_covers_51 P a1 a2 a3 a4 a5 v1 v2 v3 M) else (if 0 ≤ v3 then (f_X3_covers_66 P a1 a2 a3 a4 a5 M) else (f_X3_covers_51 P a1 a2 a3 a4 a5 v1 v2 v3 M))))))
set_option maxRecDepth 100000 in
set_option maxHeartbeats 4000000 in
theorem t_X3_covers (g : fm_G) (l : Launch) (hl : l.stackTraces = false) (P : Nat) (a1 : Int32) (a2 : Int32) (a3 : Int32) (a4 : Int32) (a5 : Int32) (hP : fm_kd g P = 3) (M : fm_Mem) (w : fm_W) : Tt g l z_X3_covers (emI M w) (f_X3_covers P a1 a2 a3 a4 a5 M) 0 [(0, .ref P), (1, .int a1), (2, .int a2), (3, .int a3), (4, .int a4), (5, .int a5)] [] (M, w) := by
  rw [f_X3_covers]
  refine Tt.go (fun _ => Tr.run 5 (pc' := 7) (lv' := [(0, .ref P), (1, .int a1), (2, .int a2), (3, .int a3), (4, .int a4), (5, .int a5)]) (st' := [.int a5, .int a4, .int a2, .int a1, .ref P]) rfl) ?_
  refine Tt.callV (As := [.int a1, .int a2, .int a4, .int a5]) (rest := []) (c_X3_turnTo g l hl P a1 a2 a4 a5 hP M w) hP (by decide) rfl rfl cw_X3_turnTo fw897 pn_X3_turnTo (Nat.le_of_ble_eq_true rfl) (Nat.le_of_ble_eq_true rfl) (Nat.le_of_ble_eq_true rfl) rfl (fun v1 => (?_ : Tt g l z_X3_covers (emI M w) _ 10 [(0, .ref P), (1, .int a1), (2, .int a2), (3, .int a3), (4, .int a4), (5, .int a5)] [.int v1] (M, w)))
  refine Tt.go (fun _ => Tr.run 6 (pc' := 19) (lv' := [(6, .int v1), (0, .ref P), (1, .int a1), (2, .int a2), (3, .int a3), (4, .int a4), (5, .int a5)]) (st' := [.int a5, .int a4, .int a3, .int a2, .ref P]) rfl) ?_
  refine Tt.callV (As := [.int a2, .int a3, .int a4, .int a5]) (rest := []) (c_X3_turnTo g l hl P a2 a3 a4 a5 hP M w) hP (by decide) rfl rfl cw_X3_turnTo fw897 pn_X3_turnTo (Nat.le_of_ble_eq_true rfl) (Nat.le_of_ble_eq_true rfl) (Nat.le_of_ble_eq_true rfl) rfl (fun v2 => (?_ : Tt g l z_X3_covers (emI M w) _ 22 [(6, .int v1), (0, .ref P), (1, .int a1), (2, .int a2), (3, .int a3), (4, .int a4), (5, .int a5)] [.int v2] (M, w)))
  refine Tt.go (fun _ => Tr.run 6 (pc' := 31) (lv' := [(7, .int v2), (6, .int v1), (0, .ref P), (1, .int a1), (2, .int a2), (3, .int a3), (4, .int a4), (5, .int a5)]) (st' := [.int a5, .int a4, .int a1, .int a3, .ref P]) rfl) ?_
  refine Tt.callV (As := [.int a3, .int a1, .int a4, .int a5]) (rest := []) (c_X3_turnTo g l hl P a3 a1 a4 a5 hP M w) hP (by decide) rfl rfl cw_X3_turnTo fw897 pn_X3_turnTo (Nat.le_of_ble_eq_true rfl) (Nat.le_of_ble_eq_true rfl) (Nat.le_of_ble_eq_true rfl) rfl (fun v3 => (?_ : Tt g l z_X3_covers (emI M w) _ 34 [(7, .int v2), (6, .int v1), (0, .ref P), (1, .int a1), (2, .int a2), (3, .int a3), (4, .int a4), (5, .int a5)] [.int v3] (M, w)))
  refine Tt.go (fun _ => Tr.run 2 (pc' := 38) (lv' := [(8, .int v3), (7, .int v2), (6, .int v1), (0, .ref P), (1, .int a1), (2, .int a2), (3, .int a3), (4, .int a4), (5, .int a5)]) (st' := [.int v1]) rfl) ?_
  refine Tt.if_lt (tgt := 51) rfl (by decide) ?_ ?_
  · refine Tt.go (fun _ => Tr.sub (lv' := [(6, .int v1), (7, .int v2), (8, .int v3)]) [2, 1, 0] rfl) ?_
    exact t_X3_covers_51 g l hl P a1 a2 a3 a4 a5 hP w v1 v2 v3 M
  · refine Tt.go (fun _ => Tr.run 1 (pc' := 43) (lv' := [(8, .int v3), (7, .int v2), (6, .int v1), (0, .ref P), (1, .int a1), (2, .int a2), (3, .int a3), (4, .int a4), (5, .int a5)]) (st' := [.int v2]) rfl) ?_
    refine Tt.if_lt (tgt := 51) rfl (by decide) ?_ ?_
    · refine Tt.go (fun _ => Tr.sub (lv' := [(6, .int v1), (7, .int v2), (8, .int v3)]) [2, 1, 0] rfl) ?_
      exact t_X3_covers_51 g l hl P a1 a2 a3 a4 a5 hP w v1 v2 v3 M
    · refine Tt.go (fun _ => Tr.run 1 (pc' := 48) (lv' := [(8, .int v3), (7, .int v2), (6, .int v1), (0, .ref P), (1, .int a1), (2, .int a2), (3, .int a3), (4, .int a4), (5, .int a5)]) (st' := [.int v3]) rfl) ?_
      refine Tt.if_ge (tgt := 66) rfl (by decide) ?_ ?_
      · refine Tt.go (fun _ => Tr.sub (lv' := []) [] rfl) ?_
        exact t_X3_covers_66 g l hl P a1 a2 a3 a4 a5 hP w M
      · refine Tt.go (fun _ => Tr.sub (lv' := [(6, .int v1), (7, .int v2), (8, .int v3)]) [2, 1, 0] rfl) ?_
        exact t_X3_covers_51 g l hl P a1 a2 a3 a4 a5 hP w v1 v2 v3 M
theorem c_X3_covers (g : fm_G) (l : Launch) (hl : l.stackTraces = false) (P : Nat) (a1 : Int32) (a2 : Int32) (a3 : Int32) (a4 : Int32) (a5 : Int32) (hP : fm_kd g P = 3) (M : fm_Mem) (w : fm_W) : ∀ r, f_X3_covers P a1 a2 a3 a4 a5 M = some r → fC g l z_X3_covers [.ref P, .int a1, .int a2, .int a3, .int a4, .int a5] (M, w) (emI M w r) := fun r hr => fC.of (by decide) rfl o_X3_covers hl (Nat.le_of_ble_eq_true rfl) (t_X3_covers g l hl P a1 a2 a3 a4 a5 hP M w r hr)
def k_X3_square : List (Nat × Instr × Nat) := [(0, .aload_n 0, 1), (1, .getfield 14, 3), (4, .iload_n 1, 1), (5, .invokevirtual 27, 3), (8, .i2l, 1), (9, .lstore_n 2, 1), (10, .aload_n 0, 1), (11, .getfield 20, 3), (14, .iload_n 1, 1), (15, .invokevirtual 27, 3), (18, .i2l, 1), (19, .lstore 4, 2), (21, .lload_n 2, 1), (22, .lload_n 2, 1), (23, .lmul, 1), (24, .lload 4, 2), (26, .lload 4, 2), (28, .lmul, 1), (29, .ladd, 1), (30, .lreturn, 1)]
def z_X3_square : fm_Y := (yX3_square, RX3, cX3_square, 6, (some .long), k_X3_square, 1, 21)
theorem o_X3_square : fm_dec z_X3_square := (by decide +kernel : ∀ q ∈ k_X3_square, decode cX3_square q.1 = .ok q.2)
theorem cw_X3_square : fm_cwV z_X3_square := ⟨⟨lw_in 336 (by decide +kernel) (by decide +kernel), lw_in 96 (by decide +kernel) (by decide +kernel), by decide, by decide⟩, lw_in 334 (by decide +kernel) (by decide +kernel), lw_in 335 (by decide +kernel) (by decide +kernel)⟩
theorem pn_X3_square : (parseMethodDescriptor z_X3_square.1.desc).map (fun d => d.parameters.length) = some 1 := by decide +kernel
def f_X3_square (P : Nat) (a1 : Int32) (M : fm_Mem) : Option (Int64) := Option.bind (f_X4_get (P + 1) 20 a1 M) (fun v1 => Option.bind (f_X4_get (P + 3) 20 a1 M) (fun v2 => some ((((Int32.toInt64 v1) * (Int32.toInt64 v1)) + ((Int32.toInt64 v2) * (Int32.toInt64 v2))))))
set_option maxRecDepth 100000 in
set_option maxHeartbeats 4000000 in
theorem t_X3_square (g : fm_G) (l : Launch) (hl : l.stackTraces = false) (P : Nat) (a1 : Int32) (hP : fm_kd g P = 3) (M : fm_Mem) (w : fm_W) : Tt g l z_X3_square (emJ M w) (f_X3_square P a1 M) 0 [(0, .ref P), (1, .int a1)] [] (M, w) := by
  rw [f_X3_square]
  refine Tt.go (fun _ => Tr.run 1 (pc' := 1) (lv' := [(0, .ref P), (1, .int a1)]) (st' := [.ref P]) rfl) ?_
  refine Tt.go (fun _ => Tr.get fmc3 hP rfl fw157 (k := 0) (by decide) rfl) (?_ : Tt g l z_X3_square (emJ M w) _ 4 [(0, .ref P), (1, .int a1)] [.ref (P + 1)] (M, w))
  refine Tt.go (fun _ => Tr.run 1 (pc' := 5) (lv' := [(0, .ref P), (1, .int a1)]) (st' := [.int a1, .ref (P + 1)]) rfl) ?_
  refine Tt.callV (As := [.int a1]) (rest := []) (c_X4_get g l hl (P + 1) 20 a1 (fmk_3_0 hP) (fmn_3_0 hP) (by decide) M w) (fmk_3_0 hP) (by decide) rfl rfl cw_X4_get fw337 pn_X4_get (Nat.le_of_ble_eq_true rfl) (Nat.le_of_ble_eq_true rfl) (Nat.le_of_ble_eq_true rfl) rfl (fun v1 => (?_ : Tt g l z_X3_square (emJ M w) _ 8 [(0, .ref P), (1, .int a1)] [.int v1] (M, w)))
  refine Tt.go (fun _ => Tr.run 3 (pc' := 11) (lv' := [(2, .long (Int32.toInt64 v1)), (0, .ref P), (1, .int a1)]) (st' := [.ref P]) rfl) ?_
  refine Tt.go (fun _ => Tr.get fmc3 hP rfl fw158 (k := 1) (by decide) rfl) (?_ : Tt g l z_X3_square (emJ M w) _ 14 [(2, .long (Int32.toInt64 v1)), (0, .ref P), (1, .int a1)] [.ref (P + 3)] (M, w))
  refine Tt.go (fun _ => Tr.run 1 (pc' := 15) (lv' := [(2, .long (Int32.toInt64 v1)), (0, .ref P), (1, .int a1)]) (st' := [.int a1, .ref (P + 3)]) rfl) ?_
  refine Tt.callV (As := [.int a1]) (rest := []) (c_X4_get g l hl (P + 3) 20 a1 (fmk_3_1 hP) (fmn_3_1 hP) (by decide) M w) (fmk_3_1 hP) (by decide) rfl rfl cw_X4_get fw337 pn_X4_get (Nat.le_of_ble_eq_true rfl) (Nat.le_of_ble_eq_true rfl) (Nat.le_of_ble_eq_true rfl) rfl (fun v2 => (?_ : Tt g l z_X3_square (emJ M w) _ 18 [(2, .long (Int32.toInt64 v1)), (0, .ref P), (1, .int a1)] [.int v2] (M, w)))
  refine Tt.go (fun _ => Tr.run 9 (pc' := 30) (lv' := [(4, .long (Int32.toInt64 v2)), (2, .long (Int32.toInt64 v1)), (0, .ref P), (1, .int a1)]) (st' := [.long (((Int32.toInt64 v1) * (Int32.toInt64 v1)) + ((Int32.toInt64 v2) * (Int32.toInt64 v2)))]) rfl) ?_
  exact Tt.ret (Tr.lret rfl rfl)
theorem c_X3_square (g : fm_G) (l : Launch) (hl : l.stackTraces = false) (P : Nat) (a1 : Int32) (hP : fm_kd g P = 3) (M : fm_Mem) (w : fm_W) : ∀ r, f_X3_square P a1 M = some r → fC g l z_X3_square [.ref P, .int a1] (M, w) (emJ M w r) := fun r hr => fC.of (by decide) rfl o_X3_square hl (Nat.le_of_ble_eq_true rfl) (t_X3_square g l hl P a1 hP M w r hr)
def k_X3_nearest : List (Nat × Instr × Nat) := [(0, .iconst (-1), 1), (1, .istore_n 2, 1), (2, .iconst 0, 1), (3, .istore_n 3, 1), (4, .iload_n 3, 1), (5, .aload_n 0, 1), (6, .getfield 23, 3), (9, .if_icmp .ge 35, 3), (12, .iload_n 3, 1), (13, .iload_n 1, 1), (14, .if_icmp .eq 24, 3), (17, .iload_n 2, 1), (18, .ifCond .lt 18, 3), (21, .aload_n 0, 1), (22, .iload_n 1, 1), (23, .iload_n 3, 1), (24, .invokevirtual 66, 3), (27, .aload_n 0, 1), (28, .iload_n 1, 1), (29, .iload_n 2, 1), (30, .invokevirtual 66, 3), (33, .if_icmp .ge 5, 3), (36, .iload_n 3, 1), (37, .istore_n 2, 1), (38, .iinc 3 1, 3), (41, .goto (-37), 3), (44, .iload_n 2, 1), (45, .ireturn, 1)]
def z_X3_nearest : fm_Y := (yX3_nearest, RX3, cX3_nearest, 4, (some .int), k_X3_nearest, 2, 45)
theorem o_X3_nearest : fm_dec z_X3_nearest := (by decide +kernel : ∀ q ∈ k_X3_nearest, decode cX3_nearest q.1 = .ok q.2)
theorem cw_X3_nearest : fm_cwV z_X3_nearest := ⟨⟨lw_in 600 (by decide +kernel) (by decide +kernel), lw_in 96 (by decide +kernel) (by decide +kernel), by decide, by decide⟩, lw_in 598 (by decide +kernel) (by decide +kernel), lw_in 599 (by decide +kernel) (by decide +kernel)⟩
theorem pn_X3_nearest : (parseMethodDescriptor z_X3_nearest.1.desc).map (fun d => d.parameters.length) = some 1 := by decide +kernel
def f_X3_nearest_38 (P : Nat) (a1 : Int32) (k4 : Int32 → Int32 → fm_Mem → Option (Int32)) (x2 : Int32) (x3 : Int32) (M : fm_Mem) : Option (Int32) := (k4 x2 (x3 + (1 : Int32)) M)
set_option maxRecDepth 100000 in
set_option maxHeartbeats 4000000 in
theorem t_X3_nearest_38 (g : fm_G) (l : Launch) (hl : l.stackTraces = false) (P : Nat) (a1 : Int32) (hP : fm_kd g P = 3) (w : fm_W) (k4 : Int32 → Int32 → fm_Mem → Option (Int32)) (hk4 : ∀ (x2 : Int32) (x3 : Int32) (M : fm_Mem), Tt g l z_X3_nearest (emI M w) (k4 x2 x3 M) 4 [(0, .ref P), (1, .int a1), (2, .int x2), (3, .int x3)] [] (M, w)) (x2 : Int32) (x3 : Int32)  (M : fm_Mem) : Tt g l z_X3_nearest (emI M w) (f_X3_nearest_38 P a1 k4 x2 x3 M) 38 [(0, .ref P), (1, .int a1), (2, .int x2), (3, .int x3)] [] (M, w) := by
  rw [f_X3_nearest_38]
  refine Tt.go (fun _ => Tr.run 2 (pc' := 4) (lv' := [(3, .int (x3 + (1 : Int32))), (0, .ref P), (1, .int a1), (2, .int x2)]) (st' := []) rfl) ?_
  refine Tt.go (fun _ => Tr.sub (lv' := [(0, .ref P), (1, .int a1), (2, .int x2), (3, .int (x3 + (1 : Int32)))]) [1, 2, 3, 0] rfl) ?_
  exact hk4 x2 (x3 + (1 : Int32)) M
def f_X3_nearest_36 (P : Nat) (a1 : Int32) (k4 : Int32 → Int32 → fm_Mem → Option (Int32)) (x3 : Int32) (M : fm_Mem) : Option (Int32) := (f_X3_nearest_38 P a1 k4 x3 x3 M)
set_option maxRecDepth 100000 in
set_option maxHeartbeats 4000000 in
theorem t_X3_nearest_36 (g : fm_G) (l : Launch) (hl : l.stackTraces = false) (P : Nat) (a1 : Int32) (hP : fm_kd g P = 3) (w : fm_W) (k4 : Int32 → Int32 → fm_Mem → Option (Int32)) (hk4 : ∀ (x2 : Int32) (x3 : Int32) (M : fm_Mem), Tt g l z_X3_nearest (emI M w) (k4 x2 x3 M) 4 [(0, .ref P), (1, .int a1), (2, .int x2), (3, .int x3)] [] (M, w)) (x3 : Int32)  (M : fm_Mem) : Tt g l z_X3_nearest (emI M w) (f_X3_nearest_36 P a1 k4 x3 M) 36 [(0, .ref P), (1, .int a1), (3, .int x3)] [] (M, w) := by
  rw [f_X3_nearest_36]
  refine Tt.go (fun _ => Tr.run 2 (pc' := 38) (lv' := [(2, .int x3), (0, .ref P), (1, .int a1), (3, .int x3)]) (st' := []) rfl) ?_
  refine Tt.go (fun _ => Tr.sub (lv' := [(0, .ref P), (1, .int a1), (2, .int x3), (3, .int x3)]) [1, 2, 0, 3] rfl) ?_
  exact t_X3_nearest_38 g l hl P a1 hP w k4 hk4 x3 x3 M
def f_X3_nearest_4 (P : Nat) (a1 : Int32) : Nat → Int32 → Int32 → fm_Mem → Option (Int32)
  | 0, _, _, _ => none
  | n + 1, x2, x3, M => if (M P 2) ≤ x3 then (some (x2)) else (if x3 = a1 then (f_X3_nearest_38 P a1 (fun x2 x3 M => f_X3_nearest_4 P a1 n x2 x3 M) x2 x3 M) else (if x2 < 0 then (f_X3_nearest_36 P a1 (fun x2 x3 M => f_X3_nearest_4 P a1 n x2 x3 M) x3 M) else (Option.bind (f_X3_distance P a1 x3 M) (fun v1 => Option.bind (f_X3_distance P a1 x2 M) (fun v2 => if v2 ≤ v1 then (f_X3_nearest_38 P a1 (fun x2 x3 M => f_X3_nearest_4 P a1 n x2 x3 M) x2 x3 M) else (f_X3_nearest_36 P a1 (fun x2 x3 M => f_X3_nearest_4 P a1 n x2 x3 M) x3 M))))))
set_option maxRecDepth 100000 in
set_option maxHeartbeats 4000000 in
theorem t_X3_nearest_4 (g : fm_G) (l : Launch) (hl : l.stackTraces = false) (P : Nat) (a1 : Int32) (hP : fm_kd g P = 3) (w : fm_W)  : ∀ (n : Nat) (x2 : Int32) (x3 : Int32)  (M : fm_Mem), Tt g l z_X3_nearest (emI M w) (f_X3_nearest_4 P a1  n x2 x3 M) 4 [(0, .ref P), (1, .int a1), (2, .int x2), (3, .int x3)] [] (M, w) := by
  intro n
  induction n with
  | zero => intros; exact Tt.none
  | succ n ih =>
    intro x2 x3  M
    rw [f_X3_nearest_4]
    refine Tt.go (fun _ => Tr.run 2 (pc' := 6) (lv' := [(0, .ref P), (1, .int a1), (2, .int x2), (3, .int x3)]) (st' := [.ref P, .int x3]) rfl) ?_
    refine Tt.go (fun _ => Tr.get fmc3 hP rfl fw159 (k := 2) (by decide) rfl) (?_ : Tt g l z_X3_nearest (emI M w) _ 9 [(0, .ref P), (1, .int a1), (2, .int x2), (3, .int x3)] [.int (M P 2), .int x3] (M, w))
    refine Tt.ic_ge (tgt := 44) rfl (by decide) ?_ ?_
    · refine Tt.go (fun _ => Tr.run 1 (pc' := 45) (lv' := [(0, .ref P), (1, .int a1), (2, .int x2), (3, .int x3)]) (st' := [.int x2]) rfl) ?_
      exact Tt.ret (Tr.iret rfl rfl)
    · refine Tt.go (fun _ => Tr.run 2 (pc' := 14) (lv' := [(0, .ref P), (1, .int a1), (2, .int x2), (3, .int x3)]) (st' := [.int a1, .int x3]) rfl) ?_
      refine Tt.ic_eq (tgt := 38) rfl (by decide) ?_ ?_
      · exact t_X3_nearest_38 g l hl P a1 hP w _ ih x2 x3 M
      · refine Tt.go (fun _ => Tr.run 1 (pc' := 18) (lv' := [(0, .ref P), (1, .int a1), (2, .int x2), (3, .int x3)]) (st' := [.int x2]) rfl) ?_
        refine Tt.if_lt (tgt := 36) rfl (by decide) ?_ ?_
        · refine Tt.go (fun _ => Tr.sub (lv' := [(0, .ref P), (1, .int a1), (3, .int x3)]) [0, 1, 3] rfl) ?_
          exact t_X3_nearest_36 g l hl P a1 hP w _ ih x3 M
        · refine Tt.go (fun _ => Tr.run 3 (pc' := 24) (lv' := [(0, .ref P), (1, .int a1), (2, .int x2), (3, .int x3)]) (st' := [.int x3, .int a1, .ref P]) rfl) ?_
          refine Tt.callV (As := [.int a1, .int x3]) (rest := []) (c_X3_distance g l hl P a1 x3 hP M w) hP (by decide) rfl rfl cw_X3_distance fw360 pn_X3_distance (Nat.le_of_ble_eq_true rfl) (Nat.le_of_ble_eq_true rfl) (Nat.le_of_ble_eq_true rfl) rfl (fun v1 => (?_ : Tt g l z_X3_nearest (emI M w) _ 27 [(0, .ref P), (1, .int a1), (2, .int x2), (3, .int x3)] [.int v1] (M, w)))
          refine Tt.go (fun _ => Tr.run 3 (pc' := 30) (lv' := [(0, .ref P), (1, .int a1), (2, .int x2), (3, .int x3)]) (st' := [.int x2, .int a1, .ref P, .int v1]) rfl) ?_
          refine Tt.callV (As := [.int a1, .int x2]) (rest := [.int v1]) (c_X3_distance g l hl P a1 x2 hP M w) hP (by decide) rfl rfl cw_X3_distance fw360 pn_X3_distance (Nat.le_of_ble_eq_true rfl) (Nat.le_of_ble_eq_true rfl) (Nat.le_of_ble_eq_true rfl) rfl (fun v2 => (?_ : Tt g l z_X3_nearest (emI M w) _ 33 [(0, .ref P), (1, .int a1), (2, .int x2), (3, .int x3)] [.int v2, .int v1] (M, w)))
          refine Tt.ic_ge (tgt := 38) rfl (by decide) ?_ ?_
          · exact t_X3_nearest_38 g l hl P a1 hP w _ ih x2 x3 M
          · refine Tt.go (fun _ => Tr.sub (lv' := [(0, .ref P), (1, .int a1), (3, .int x3)]) [0, 1, 3] rfl) ?_
            exact t_X3_nearest_36 g l hl P a1 hP w _ ih x3 M
def f_X3_nearest (P : Nat) (a1 : Int32) (M : fm_Mem) : Option (Int32) := (f_X3_nearest_4 P a1 fm_fuel (-1 : Int32) (0 : Int32) M)
set_option maxRecDepth 100000 in
set_option maxHeartbeats 4000000 in
theorem t_X3_nearest (g : fm_G) (l : Launch) (hl : l.stackTraces = false) (P : Nat) (a1 : Int32) (hP : fm_kd g P = 3) (M : fm_Mem) (w : fm_W) : Tt g l z_X3_nearest (emI M w) (f_X3_nearest P a1 M) 0 [(0, .ref P), (1, .int a1)] [] (M, w) := by
  rw [f_X3_nearest]
  refine Tt.go (fun _ => Tr.run 4 (pc' := 4) (lv' := [(3, .int (0 : Int32)), (2, .int (-1 : Int32)), (0, .ref P), (1, .int a1)]) (st' := []) rfl) ?_
  refine Tt.go (fun _ => Tr.sub (lv' := [(0, .ref P), (1, .int a1), (2, .int (-1 : Int32)), (3, .int (0 : Int32))]) [2, 3, 1, 0] rfl) ?_
  exact t_X3_nearest_4 g l hl P a1 hP w fm_fuel (-1 : Int32) (0 : Int32) M
theorem c_X3_nearest (g : fm_G) (l : Launch) (hl : l.stackTraces = false) (P : Nat) (a1 : Int32) (hP : fm_kd g P = 3) (M : fm_Mem) (w : fm_W) : ∀ r, f_X3_nearest P a1 M = some r → fC g l z_X3_nearest [.ref P, .int a1] (M, w) (emI M w r) := fun r hr => fC.of (by decide) rfl o_X3_nearest hl (Nat.le_of_ble_eq_true rfl) (t_X3_nearest g l hl P a1 hP M w r hr)
def k_X3_gapTo : List (Nat × Instr × Nat) := [(0, .iconst (-1), 1), (1, .istore_n 3, 1), (2, .iconst 0, 1), (3, .istore 4, 2), (5, .iload 4, 2), (7, .aload_n 0, 1), (8, .getfield 23, 3), (11, .if_icmp .ge 41, 3), (14, .iload_n 1, 1), (15, .iload 4, 2), (17, .ishr, 1), (18, .iconst 1, 1), (19, .iand, 1), (20, .ifCond .eq 26, 3), (23, .iload_n 3, 1), (24, .ifCond .lt 14, 3), (27, .aload_n 0, 1), (28, .iload_n 2, 1), (29, .iload 4, 2), (31, .invokevirtual 66, 3), (34, .iload_n 3, 1), (35, .if_icmp .ge 11, 3), (38, .aload_n 0, 1), (39, .iload_n 2, 1), (40, .iload 4, 2), (42, .invokevirtual 66, 3), (45, .istore_n 3, 1), (46, .iinc 4 1, 3), (49, .goto (-44), 3), (52, .iload_n 3, 1), (53, .ireturn, 1)]
def z_X3_gapTo : fm_Y := (yX3_gapTo, RX3, cX3_gapTo, 5, (some .int), k_X3_gapTo, 2, 45)
theorem o_X3_gapTo : fm_dec z_X3_gapTo := (by decide +kernel : ∀ q ∈ k_X3_gapTo, decode cX3_gapTo q.1 = .ok q.2)
theorem cw_X3_gapTo : fm_cwV z_X3_gapTo := ⟨⟨lw_in 359 (by decide +kernel) (by decide +kernel), lw_in 96 (by decide +kernel) (by decide +kernel), by decide, by decide⟩, lw_in 358 (by decide +kernel) (by decide +kernel), lw_in 0 (by decide +kernel) (by decide +kernel)⟩
theorem pn_X3_gapTo : (parseMethodDescriptor z_X3_gapTo.1.desc).map (fun d => d.parameters.length) = some 2 := by decide +kernel
def f_X3_gapTo_46 (P : Nat) (a1 : Int32) (a2 : Int32) (k5 : Int32 → Int32 → fm_Mem → Option (Int32)) (x3 : Int32) (x4 : Int32) (M : fm_Mem) : Option (Int32) := (k5 x3 (x4 + (1 : Int32)) M)
set_option maxRecDepth 100000 in
set_option maxHeartbeats 4000000 in
theorem t_X3_gapTo_46 (g : fm_G) (l : Launch) (hl : l.stackTraces = false) (P : Nat) (a1 : Int32) (a2 : Int32) (hP : fm_kd g P = 3) (w : fm_W) (k5 : Int32 → Int32 → fm_Mem → Option (Int32)) (hk5 : ∀ (x3 : Int32) (x4 : Int32) (M : fm_Mem), Tt g l z_X3_gapTo (emI M w) (k5 x3 x4 M) 5 [(0, .ref P), (1, .int a1), (2, .int a2), (3, .int x3), (4, .int x4)] [] (M, w)) (x3 : Int32) (x4 : Int32)  (M : fm_Mem) : Tt g l z_X3_gapTo (emI M w) (f_X3_gapTo_46 P a1 a2 k5 x3 x4 M) 46 [(0, .ref P), (1, .int a1), (2, .int a2), (3, .int x3), (4, .int x4)] [] (M, w) := by
  rw [f_X3_gapTo_46]
  refine Tt.go (fun _ => Tr.run 2 (pc' := 5) (lv' := [(4, .int (x4 + (1 : Int32))), (0, .ref P), (1, .int a1), (2, .int a2), (3, .int x3)]) (st' := []) rfl) ?_
  refine Tt.go (fun _ => Tr.sub (lv' := [(0, .ref P), (1, .int a1), (2, .int a2), (3, .int x3), (4, .int (x4 + (1 : Int32)))]) [1, 2, 3, 4, 0] rfl) ?_
  exact hk5 x3 (x4 + (1 : Int32)) M
def f_X3_gapTo_38 (P : Nat) (a1 : Int32) (a2 : Int32) (k5 : Int32 → Int32 → fm_Mem → Option (Int32)) (x4 : Int32) (M : fm_Mem) : Option (Int32) := Option.bind (f_X3_distance P a2 x4 M) (fun v1 => (f_X3_gapTo_46 P a1 a2 k5 v1 x4 M))
set_option maxRecDepth 100000 in
set_option maxHeartbeats 4000000 in
theorem t_X3_gapTo_38 (g : fm_G) (l : Launch) (hl : l.stackTraces = false) (P : Nat) (a1 : Int32) (a2 : Int32) (hP : fm_kd g P = 3) (w : fm_W) (k5 : Int32 → Int32 → fm_Mem → Option (Int32)) (hk5 : ∀ (x3 : Int32) (x4 : Int32) (M : fm_Mem), Tt g l z_X3_gapTo (emI M w) (k5 x3 x4 M) 5 [(0, .ref P), (1, .int a1), (2, .int a2), (3, .int x3), (4, .int x4)] [] (M, w)) (x4 : Int32)  (M : fm_Mem) : Tt g l z_X3_gapTo (emI M w) (f_X3_gapTo_38 P a1 a2 k5 x4 M) 38 [(0, .ref P), (1, .int a1), (2, .int a2), (4, .int x4)] [] (M, w) := by
  rw [f_X3_gapTo_38]
  refine Tt.go (fun _ => Tr.run 3 (pc' := 42) (lv' := [(0, .ref P), (1, .int a1), (2, .int a2), (4, .int x4)]) (st' := [.int x4, .int a2, .ref P]) rfl) ?_
  refine Tt.callV (As := [.int a2, .int x4]) (rest := []) (c_X3_distance g l hl P a2 x4 hP M w) hP (by decide) rfl rfl cw_X3_distance fw360 pn_X3_distance (Nat.le_of_ble_eq_true rfl) (Nat.le_of_ble_eq_true rfl) (Nat.le_of_ble_eq_true rfl) rfl (fun v1 => (?_ : Tt g l z_X3_gapTo (emI M w) _ 45 [(0, .ref P), (1, .int a1), (2, .int a2), (4, .int x4)] [.int v1] (M, w)))
  refine Tt.go (fun _ => Tr.run 1 (pc' := 46) (lv' := [(3, .int v1), (0, .ref P), (1, .int a1), (2, .int a2), (4, .int x4)]) (st' := []) rfl) ?_
  refine Tt.go (fun _ => Tr.sub (lv' := [(0, .ref P), (1, .int a1), (2, .int a2), (3, .int v1), (4, .int x4)]) [1, 2, 3, 0, 4] rfl) ?_
  exact t_X3_gapTo_46 g l hl P a1 a2 hP w k5 hk5 v1 x4 M
def f_X3_gapTo_5 (P : Nat) (a1 : Int32) (a2 : Int32) : Nat → Int32 → Int32 → fm_Mem → Option (Int32)
  | 0, _, _, _ => none
  | n + 1, x3, x4, M => if (M P 2) ≤ x4 then (some (x3)) else (if ((a1 >>> (x4 &&& 31)) &&& (1 : Int32)) = 0 then (f_X3_gapTo_46 P a1 a2 (fun x3 x4 M => f_X3_gapTo_5 P a1 a2 n x3 x4 M) x3 x4 M) else (if x3 < 0 then (f_X3_gapTo_38 P a1 a2 (fun x3 x4 M => f_X3_gapTo_5 P a1 a2 n x3 x4 M) x4 M) else (Option.bind (f_X3_distance P a2 x4 M) (fun v1 => if x3 ≤ v1 then (f_X3_gapTo_46 P a1 a2 (fun x3 x4 M => f_X3_gapTo_5 P a1 a2 n x3 x4 M) x3 x4 M) else (f_X3_gapTo_38 P a1 a2 (fun x3 x4 M => f_X3_gapTo_5 P a1 a2 n x3 x4 M) x4 M)))))
set_option maxRecDepth 100000 in
set_option maxHeartbeats 4000000 in
theorem t_X3_gapTo_5 (g : fm_G) (l : Launch) (hl : l.stackTraces = false) (P : Nat) (a1 : Int32) (a2 : Int32) (hP : fm_kd g P = 3) (w : fm_W)  : ∀ (n : Nat) (x3 : Int32) (x4 : Int32)  (M : fm_Mem), Tt g l z_X3_gapTo (emI M w) (f_X3_gapTo_5 P a1 a2  n x3 x4 M) 5 [(0, .ref P), (1, .int a1), (2, .int a2), (3, .int x3), (4, .int x4)] [] (M, w) := by
  intro n
  induction n with
  | zero => intros; exact Tt.none
  | succ n ih =>
    intro x3 x4  M
    rw [f_X3_gapTo_5]
    refine Tt.go (fun _ => Tr.run 2 (pc' := 8) (lv' := [(0, .ref P), (1, .int a1), (2, .int a2), (3, .int x3), (4, .int x4)]) (st' := [.ref P, .int x4]) rfl) ?_
    refine Tt.go (fun _ => Tr.get fmc3 hP rfl fw159 (k := 2) (by decide) rfl) (?_ : Tt g l z_X3_gapTo (emI M w) _ 11 [(0, .ref P), (1, .int a1), (2, .int a2), (3, .int x3), (4, .int x4)] [.int (M P 2), .int x4] (M, w))
    refine Tt.ic_ge (tgt := 52) rfl (by decide) ?_ ?_
    · refine Tt.go (fun _ => Tr.run 1 (pc' := 53) (lv' := [(0, .ref P), (1, .int a1), (2, .int a2), (3, .int x3), (4, .int x4)]) (st' := [.int x3]) rfl) ?_
      exact Tt.ret (Tr.iret rfl rfl)
    · refine Tt.go (fun _ => Tr.run 5 (pc' := 20) (lv' := [(0, .ref P), (1, .int a1), (2, .int a2), (3, .int x3), (4, .int x4)]) (st' := [.int ((a1 >>> (x4 &&& 31)) &&& (1 : Int32))]) rfl) ?_
      refine Tt.if_eq (tgt := 46) rfl (by decide) ?_ ?_
      · exact t_X3_gapTo_46 g l hl P a1 a2 hP w _ ih x3 x4 M
      · refine Tt.go (fun _ => Tr.run 1 (pc' := 24) (lv' := [(0, .ref P), (1, .int a1), (2, .int a2), (3, .int x3), (4, .int x4)]) (st' := [.int x3]) rfl) ?_
        refine Tt.if_lt (tgt := 38) rfl (by decide) ?_ ?_
        · refine Tt.go (fun _ => Tr.sub (lv' := [(0, .ref P), (1, .int a1), (2, .int a2), (4, .int x4)]) [0, 1, 2, 4] rfl) ?_
          exact t_X3_gapTo_38 g l hl P a1 a2 hP w _ ih x4 M
        · refine Tt.go (fun _ => Tr.run 3 (pc' := 31) (lv' := [(0, .ref P), (1, .int a1), (2, .int a2), (3, .int x3), (4, .int x4)]) (st' := [.int x4, .int a2, .ref P]) rfl) ?_
          refine Tt.callV (As := [.int a2, .int x4]) (rest := []) (c_X3_distance g l hl P a2 x4 hP M w) hP (by decide) rfl rfl cw_X3_distance fw360 pn_X3_distance (Nat.le_of_ble_eq_true rfl) (Nat.le_of_ble_eq_true rfl) (Nat.le_of_ble_eq_true rfl) rfl (fun v1 => (?_ : Tt g l z_X3_gapTo (emI M w) _ 34 [(0, .ref P), (1, .int a1), (2, .int a2), (3, .int x3), (4, .int x4)] [.int v1] (M, w)))
          refine Tt.go (fun _ => Tr.run 1 (pc' := 35) (lv' := [(0, .ref P), (1, .int a1), (2, .int a2), (3, .int x3), (4, .int x4)]) (st' := [.int x3, .int v1]) rfl) ?_
          refine Tt.ic_ge (tgt := 46) rfl (by decide) ?_ ?_
          · exact t_X3_gapTo_46 g l hl P a1 a2 hP w _ ih x3 x4 M
          · refine Tt.go (fun _ => Tr.sub (lv' := [(0, .ref P), (1, .int a1), (2, .int a2), (4, .int x4)]) [0, 1, 2, 4] rfl) ?_
            exact t_X3_gapTo_38 g l hl P a1 a2 hP w _ ih x4 M
def f_X3_gapTo (P : Nat) (a1 : Int32) (a2 : Int32) (M : fm_Mem) : Option (Int32) := (f_X3_gapTo_5 P a1 a2 fm_fuel (-1 : Int32) (0 : Int32) M)
set_option maxRecDepth 100000 in
set_option maxHeartbeats 4000000 in
theorem t_X3_gapTo (g : fm_G) (l : Launch) (hl : l.stackTraces = false) (P : Nat) (a1 : Int32) (a2 : Int32) (hP : fm_kd g P = 3) (M : fm_Mem) (w : fm_W) : Tt g l z_X3_gapTo (emI M w) (f_X3_gapTo P a1 a2 M) 0 [(0, .ref P), (1, .int a1), (2, .int a2)] [] (M, w) := by
  rw [f_X3_gapTo]
  refine Tt.go (fun _ => Tr.run 4 (pc' := 5) (lv' := [(4, .int (0 : Int32)), (3, .int (-1 : Int32)), (0, .ref P), (1, .int a1), (2, .int a2)]) (st' := []) rfl) ?_
  refine Tt.go (fun _ => Tr.sub (lv' := [(0, .ref P), (1, .int a1), (2, .int a2), (3, .int (-1 : Int32)), (4, .int (0 : Int32))]) [2, 3, 4, 1, 0] rfl) ?_
  exact t_X3_gapTo_5 g l hl P a1 a2 hP w fm_fuel (-1 : Int32) (0 : Int32) M
theorem c_X3_gapTo (g : fm_G) (l : Launch) (hl : l.stackTraces = false) (P : Nat) (a1 : Int32) (a2 : Int32) (hP : fm_kd g P = 3) (M : fm_Mem) (w : fm_W) : ∀ r, f_X3_gapTo P a1 a2 M = some r → fC g l z_X3_gapTo [.ref P, .int a1, .int a2] (M, w) (emI M w r) := fun r hr => fC.of (by decide) rfl o_X3_gapTo hl (Nat.le_of_ble_eq_true rfl) (t_X3_gapTo g l hl P a1 a2 hP M w r hr)
def k_X3_leastTree : List (Nat × Instr × Nat) := [(0, .lconst 0, 1), (1, .lstore_n 1, 1), (2, .iconst 1, 1), (3, .istore_n 3, 1), (4, .iconst 1, 1), (5, .istore 4, 2), (7, .iload 4, 2), (9, .aload_n 0, 1), (10, .getfield 23, 3), (13, .if_icmp .ge 102, 3), (16, .iconst (-1), 1), (17, .istore 5, 2), (19, .iconst 0, 1), (20, .istore 6, 2), (22, .iconst 0, 1), (23, .istore 7, 2), (25, .iload 7, 2), (27, .aload_n 0, 1), (28, .getfield 23, 3), (31, .if_icmp .ge 56, 3), (34, .iload_n 3, 1), (35, .iload 7, 2), (37, .ishr, 1), (38, .iconst 1, 1), (39, .iand, 1), (40, .ifCond .eq 7, 3), (43, .iconst (-1), 1), (44, .goto 10, 3), (47, .aload_n 0, 1), (48, .iload_n 3, 1), (49, .iload 7, 2), (51, .invokevirtual 69, 3), (54, .istore 8, 2), (56, .iload 8, 2), (58, .ifCond .lt 23, 3), (61, .iload 5, 2), (63, .ifCond .lt 10, 3), (66, .iload 8, 2), (68, .iload 6, 2), (70, .if_icmp .ge 11, 3), (73, .iload 7, 2), (75, .istore 5, 2), (77, .iload 8, 2), (79, .istore 6, 2), (81, .iinc 7 1, 3), (84, .goto (-59), 3), (87, .iload_n 3, 1), (88, .iload 5, 2), (90, .ifCond .ge 7, 3), (93, .iconst 0, 1), (94, .goto 7, 3), (97, .iconst 1, 1), (98, .iload 5, 2), (100, .ishl, 1), (101, .ior, 1), (102, .istore_n 3, 1), (103, .lload_n 1, 1), (104, .iload 6, 2), (106, .i2l, 1), (107, .ladd, 1), (108, .lstore_n 1, 1), (109, .iinc 4 1, 3), (112, .goto (-105), 3), (115, .lload_n 1, 1), (116, .lreturn, 1)]
def z_X3_leastTree : fm_Y := (yX3_leastTree, RX3, cX3_leastTree, 9, (some .long), k_X3_leastTree, 3, 69)
theorem o_X3_leastTree : fm_dec z_X3_leastTree := (by decide +kernel : ∀ q ∈ k_X3_leastTree, decode cX3_leastTree q.1 = .ok q.2)
theorem cw_X3_leastTree : fm_cwV z_X3_leastTree := ⟨⟨lw_in 355 (by decide +kernel) (by decide +kernel), lw_in 96 (by decide +kernel) (by decide +kernel), by decide, by decide⟩, lw_in 353 (by decide +kernel) (by decide +kernel), lw_in 354 (by decide +kernel) (by decide +kernel)⟩
theorem pn_X3_leastTree : (parseMethodDescriptor z_X3_leastTree.1.desc).map (fun d => d.parameters.length) = some 0 := by decide +kernel
def f_X3_leastTree_101 (P : Nat) (k7 : Int64 → Int32 → Int32 → fm_Mem → Option (Int64)) (x1 : Int64) (x4 : Int32) (x6 : Int32) (s0 : Int32) (s1 : Int32) (M : fm_Mem) : Option (Int64) := (k7 (x1 + (Int32.toInt64 x6)) (s1 ||| s0) (x4 + (1 : Int32)) M)
set_option maxRecDepth 100000 in
set_option maxHeartbeats 4000000 in
theorem t_X3_leastTree_101 (g : fm_G) (l : Launch) (hl : l.stackTraces = false) (P : Nat) (hP : fm_kd g P = 3) (w : fm_W) (k7 : Int64 → Int32 → Int32 → fm_Mem → Option (Int64)) (hk7 : ∀ (x1 : Int64) (x3 : Int32) (x4 : Int32) (M : fm_Mem), Tt g l z_X3_leastTree (emJ M w) (k7 x1 x3 x4 M) 7 [(0, .ref P), (1, .long x1), (3, .int x3), (4, .int x4)] [] (M, w)) (x1 : Int64) (x4 : Int32) (x6 : Int32) (s0 : Int32) (s1 : Int32)  (M : fm_Mem) : Tt g l z_X3_leastTree (emJ M w) (f_X3_leastTree_101 P k7 x1 x4 x6 s0 s1 M) 101 [(0, .ref P), (1, .long x1), (4, .int x4), (6, .int x6)] [.int s0, .int s1] (M, w) := by
  rw [f_X3_leastTree_101]
  refine Tt.go (fun _ => Tr.run 9 (pc' := 7) (lv' := [(4, .int (x4 + (1 : Int32))), (1, .long (x1 + (Int32.toInt64 x6))), (3, .int (s1 ||| s0)), (0, .ref P), (6, .int x6)]) (st' := []) rfl) ?_
  refine Tt.go (fun _ => Tr.sub (lv' := [(0, .ref P), (1, .long (x1 + (Int32.toInt64 x6))), (3, .int (s1 ||| s0)), (4, .int (x4 + (1 : Int32)))]) [3, 1, 2, 0] rfl) ?_
  exact hk7 (x1 + (Int32.toInt64 x6)) (s1 ||| s0) (x4 + (1 : Int32)) M
def f_X3_leastTree_81 (P : Nat) (k7 : Int64 → Int32 → Int32 → fm_Mem → Option (Int64)) (k25 : Int64 → Int32 → Int32 → Int32 → Int32 → Int32 → fm_Mem → Option (Int64)) (x1 : Int64) (x3 : Int32) (x4 : Int32) (x5 : Int32) (x6 : Int32) (x7 : Int32) (M : fm_Mem) : Option (Int64) := (k25 x1 x3 x4 x5 x6 (x7 + (1 : Int32)) M)
set_option maxRecDepth 100000 in
set_option maxHeartbeats 4000000 in
theorem t_X3_leastTree_81 (g : fm_G) (l : Launch) (hl : l.stackTraces = false) (P : Nat) (hP : fm_kd g P = 3) (w : fm_W) (k7 : Int64 → Int32 → Int32 → fm_Mem → Option (Int64)) (hk7 : ∀ (x1 : Int64) (x3 : Int32) (x4 : Int32) (M : fm_Mem), Tt g l z_X3_leastTree (emJ M w) (k7 x1 x3 x4 M) 7 [(0, .ref P), (1, .long x1), (3, .int x3), (4, .int x4)] [] (M, w)) (k25 : Int64 → Int32 → Int32 → Int32 → Int32 → Int32 → fm_Mem → Option (Int64)) (hk25 : ∀ (x1 : Int64) (x3 : Int32) (x4 : Int32) (x5 : Int32) (x6 : Int32) (x7 : Int32) (M : fm_Mem), Tt g l z_X3_leastTree (emJ M w) (k25 x1 x3 x4 x5 x6 x7 M) 25 [(0, .ref P), (1, .long x1), (3, .int x3), (4, .int x4), (5, .int x5), (6, .int x6), (7, .int x7)] [] (M, w)) (x1 : Int64) (x3 : Int32) (x4 : Int32) (x5 : Int32) (x6 : Int32) (x7 : Int32)  (M : fm_Mem) : Tt g l z_X3_leastTree (emJ M w) (f_X3_leastTree_81 P k7 k25 x1 x3 x4 x5 x6 x7 M) 81 [(0, .ref P), (1, .long x1), (3, .int x3), (4, .int x4), (5, .int x5), (6, .int x6), (7, .int x7)] [] (M, w) := by
  rw [f_X3_leastTree_81]
  refine Tt.go (fun _ => Tr.run 2 (pc' := 25) (lv' := [(7, .int (x7 + (1 : Int32))), (0, .ref P), (1, .long x1), (3, .int x3), (4, .int x4), (5, .int x5), (6, .int x6)]) (st' := []) rfl) ?_
  refine Tt.go (fun _ => Tr.sub (lv' := [(0, .ref P), (1, .long x1), (3, .int x3), (4, .int x4), (5, .int x5), (6, .int x6), (7, .int (x7 + (1 : Int32)))]) [1, 2, 3, 4, 5, 6, 0] rfl) ?_
  exact hk25 x1 x3 x4 x5 x6 (x7 + (1 : Int32)) M
def f_X3_leastTree_73 (P : Nat) (k7 : Int64 → Int32 → Int32 → fm_Mem → Option (Int64)) (k25 : Int64 → Int32 → Int32 → Int32 → Int32 → Int32 → fm_Mem → Option (Int64)) (x1 : Int64) (x3 : Int32) (x4 : Int32) (x7 : Int32) (x8 : Int32) (M : fm_Mem) : Option (Int64) := (f_X3_leastTree_81 P k7 k25 x1 x3 x4 x7 x8 x7 M)
set_option maxRecDepth 100000 in
set_option maxHeartbeats 4000000 in
theorem t_X3_leastTree_73 (g : fm_G) (l : Launch) (hl : l.stackTraces = false) (P : Nat) (hP : fm_kd g P = 3) (w : fm_W) (k7 : Int64 → Int32 → Int32 → fm_Mem → Option (Int64)) (hk7 : ∀ (x1 : Int64) (x3 : Int32) (x4 : Int32) (M : fm_Mem), Tt g l z_X3_leastTree (emJ M w) (k7 x1 x3 x4 M) 7 [(0, .ref P), (1, .long x1), (3, .int x3), (4, .int x4)] [] (M, w)) (k25 : Int64 → Int32 → Int32 → Int32 → Int32 → Int32 → fm_Mem → Option (Int64)) (hk25 : ∀ (x1 : Int64) (x3 : Int32) (x4 : Int32) (x5 : Int32) (x6 : Int32) (x7 : Int32) (M : fm_Mem), Tt g l z_X3_leastTree (emJ M w) (k25 x1 x3 x4 x5 x6 x7 M) 25 [(0, .ref P), (1, .long x1), (3, .int x3), (4, .int x4), (5, .int x5), (6, .int x6), (7, .int x7)] [] (M, w)) (x1 : Int64) (x3 : Int32) (x4 : Int32) (x7 : Int32) (x8 : Int32)  (M : fm_Mem) : Tt g l z_X3_leastTree (emJ M w) (f_X3_leastTree_73 P k7 k25 x1 x3 x4 x7 x8 M) 73 [(0, .ref P), (1, .long x1), (3, .int x3), (4, .int x4), (7, .int x7), (8, .int x8)] [] (M, w) := by
  rw [f_X3_leastTree_73]
  refine Tt.go (fun _ => Tr.run 4 (pc' := 81) (lv' := [(6, .int x8), (5, .int x7), (0, .ref P), (1, .long x1), (3, .int x3), (4, .int x4), (7, .int x7), (8, .int x8)]) (st' := []) rfl) ?_
  refine Tt.go (fun _ => Tr.sub (lv' := [(0, .ref P), (1, .long x1), (3, .int x3), (4, .int x4), (5, .int x7), (6, .int x8), (7, .int x7)]) [2, 3, 4, 5, 1, 0, 6] rfl) ?_
  exact t_X3_leastTree_81 g l hl P hP w k7 hk7 k25 hk25 x1 x3 x4 x7 x8 x7 M
def f_X3_leastTree_54 (P : Nat) (k7 : Int64 → Int32 → Int32 → fm_Mem → Option (Int64)) (k25 : Int64 → Int32 → Int32 → Int32 → Int32 → Int32 → fm_Mem → Option (Int64)) (x1 : Int64) (x3 : Int32) (x4 : Int32) (x5 : Int32) (x6 : Int32) (x7 : Int32) (s0 : Int32) (M : fm_Mem) : Option (Int64) := if s0 < 0 then (f_X3_leastTree_81 P k7 k25 x1 x3 x4 x5 x6 x7 M) else (if x5 < 0 then (f_X3_leastTree_73 P k7 k25 x1 x3 x4 x7 s0 M) else (if x6 ≤ s0 then (f_X3_leastTree_81 P k7 k25 x1 x3 x4 x5 x6 x7 M) else (f_X3_leastTree_73 P k7 k25 x1 x3 x4 x7 s0 M)))
set_option maxRecDepth 100000 in
set_option maxHeartbeats 4000000 in
theorem t_X3_leastTree_54 (g : fm_G) (l : Launch) (hl : l.stackTraces = false) (P : Nat) (hP : fm_kd g P = 3) (w : fm_W) (k7 : Int64 → Int32 → Int32 → fm_Mem → Option (Int64)) (hk7 : ∀ (x1 : Int64) (x3 : Int32) (x4 : Int32) (M : fm_Mem), Tt g l z_X3_leastTree (emJ M w) (k7 x1 x3 x4 M) 7 [(0, .ref P), (1, .long x1), (3, .int x3), (4, .int x4)] [] (M, w)) (k25 : Int64 → Int32 → Int32 → Int32 → Int32 → Int32 → fm_Mem → Option (Int64)) (hk25 : ∀ (x1 : Int64) (x3 : Int32) (x4 : Int32) (x5 : Int32) (x6 : Int32) (x7 : Int32) (M : fm_Mem), Tt g l z_X3_leastTree (emJ M w) (k25 x1 x3 x4 x5 x6 x7 M) 25 [(0, .ref P), (1, .long x1), (3, .int x3), (4, .int x4), (5, .int x5), (6, .int x6), (7, .int x7)] [] (M, w)) (x1 : Int64) (x3 : Int32) (x4 : Int32) (x5 : Int32) (x6 : Int32) (x7 : Int32) (s0 : Int32)  (M : fm_Mem) : Tt g l z_X3_leastTree (emJ M w) (f_X3_leastTree_54 P k7 k25 x1 x3 x4 x5 x6 x7 s0 M) 54 [(0, .ref P), (1, .long x1), (3, .int x3), (4, .int x4), (5, .int x5), (6, .int x6), (7, .int x7)] [.int s0] (M, w) := by
  rw [f_X3_leastTree_54]
  refine Tt.go (fun _ => Tr.run 2 (pc' := 58) (lv' := [(8, .int s0), (0, .ref P), (1, .long x1), (3, .int x3), (4, .int x4), (5, .int x5), (6, .int x6), (7, .int x7)]) (st' := [.int s0]) rfl) ?_
  refine Tt.if_lt (tgt := 81) rfl (by decide) ?_ ?_
  · refine Tt.go (fun _ => Tr.sub (lv' := [(0, .ref P), (1, .long x1), (3, .int x3), (4, .int x4), (5, .int x5), (6, .int x6), (7, .int x7)]) [1, 2, 3, 4, 5, 6, 7] rfl) ?_
    exact t_X3_leastTree_81 g l hl P hP w k7 hk7 k25 hk25 x1 x3 x4 x5 x6 x7 M
  · refine Tt.go (fun _ => Tr.run 1 (pc' := 63) (lv' := [(8, .int s0), (0, .ref P), (1, .long x1), (3, .int x3), (4, .int x4), (5, .int x5), (6, .int x6), (7, .int x7)]) (st' := [.int x5]) rfl) ?_
    refine Tt.if_lt (tgt := 73) rfl (by decide) ?_ ?_
    · refine Tt.go (fun _ => Tr.sub (lv' := [(0, .ref P), (1, .long x1), (3, .int x3), (4, .int x4), (7, .int x7), (8, .int s0)]) [1, 2, 3, 4, 7, 0] rfl) ?_
      exact t_X3_leastTree_73 g l hl P hP w k7 hk7 k25 hk25 x1 x3 x4 x7 s0 M
    · refine Tt.go (fun _ => Tr.run 2 (pc' := 70) (lv' := [(8, .int s0), (0, .ref P), (1, .long x1), (3, .int x3), (4, .int x4), (5, .int x5), (6, .int x6), (7, .int x7)]) (st' := [.int x6, .int s0]) rfl) ?_
      refine Tt.ic_ge (tgt := 81) rfl (by decide) ?_ ?_
      · refine Tt.go (fun _ => Tr.sub (lv' := [(0, .ref P), (1, .long x1), (3, .int x3), (4, .int x4), (5, .int x5), (6, .int x6), (7, .int x7)]) [1, 2, 3, 4, 5, 6, 7] rfl) ?_
        exact t_X3_leastTree_81 g l hl P hP w k7 hk7 k25 hk25 x1 x3 x4 x5 x6 x7 M
      · refine Tt.go (fun _ => Tr.sub (lv' := [(0, .ref P), (1, .long x1), (3, .int x3), (4, .int x4), (7, .int x7), (8, .int s0)]) [1, 2, 3, 4, 7, 0] rfl) ?_
        exact t_X3_leastTree_73 g l hl P hP w k7 hk7 k25 hk25 x1 x3 x4 x7 s0 M
def f_X3_leastTree_25 (P : Nat) (k7 : Int64 → Int32 → Int32 → fm_Mem → Option (Int64)) : Nat → Int64 → Int32 → Int32 → Int32 → Int32 → Int32 → fm_Mem → Option (Int64)
  | 0, _, _, _, _, _, _, _ => none
  | n + 1, x1, x3, x4, x5, x6, x7, M => if (M P 2) ≤ x7 then (if 0 ≤ x5 then (f_X3_leastTree_101 P k7 x1 x4 x6 ((1 : Int32) <<< (x5 &&& 31)) x3 M) else (f_X3_leastTree_101 P k7 x1 x4 x6 (0 : Int32) x3 M)) else (if ((x3 >>> (x7 &&& 31)) &&& (1 : Int32)) = 0 then (Option.bind (f_X3_gapTo P x3 x7 M) (fun v1 => (f_X3_leastTree_54 P k7 (fun x1 x3 x4 x5 x6 x7 M => f_X3_leastTree_25 P k7 n x1 x3 x4 x5 x6 x7 M) x1 x3 x4 x5 x6 x7 v1 M))) else (f_X3_leastTree_54 P k7 (fun x1 x3 x4 x5 x6 x7 M => f_X3_leastTree_25 P k7 n x1 x3 x4 x5 x6 x7 M) x1 x3 x4 x5 x6 x7 (-1 : Int32) M))
set_option maxRecDepth 100000 in
set_option maxHeartbeats 4000000 in
theorem t_X3_leastTree_25 (g : fm_G) (l : Launch) (hl : l.stackTraces = false) (P : Nat) (hP : fm_kd g P = 3) (w : fm_W) (k7 : Int64 → Int32 → Int32 → fm_Mem → Option (Int64)) (hk7 : ∀ (x1 : Int64) (x3 : Int32) (x4 : Int32) (M : fm_Mem), Tt g l z_X3_leastTree (emJ M w) (k7 x1 x3 x4 M) 7 [(0, .ref P), (1, .long x1), (3, .int x3), (4, .int x4)] [] (M, w)) : ∀ (n : Nat) (x1 : Int64) (x3 : Int32) (x4 : Int32) (x5 : Int32) (x6 : Int32) (x7 : Int32)  (M : fm_Mem), Tt g l z_X3_leastTree (emJ M w) (f_X3_leastTree_25 P k7 n x1 x3 x4 x5 x6 x7 M) 25 [(0, .ref P), (1, .long x1), (3, .int x3), (4, .int x4), (5, .int x5), (6, .int x6), (7, .int x7)] [] (M, w) := by
  intro n
  induction n with
  | zero => intros; exact Tt.none
  | succ n ih =>
    intro x1 x3 x4 x5 x6 x7  M
    rw [f_X3_leastTree_25]
    refine Tt.go (fun _ => Tr.run 2 (pc' := 28) (lv' := [(0, .ref P), (1, .long x1), (3, .int x3), (4, .int x4), (5, .int x5), (6, .int x6), (7, .int x7)]) (st' := [.ref P, .int x7]) rfl) ?_
    refine Tt.go (fun _ => Tr.get fmc3 hP rfl fw159 (k := 2) (by decide) rfl) (?_ : Tt g l z_X3_leastTree (emJ M w) _ 31 [(0, .ref P), (1, .long x1), (3, .int x3), (4, .int x4), (5, .int x5), (6, .int x6), (7, .int x7)] [.int (M P 2), .int x7] (M, w))
    refine Tt.ic_ge (tgt := 87) rfl (by decide) ?_ ?_
    · refine Tt.go (fun _ => Tr.run 2 (pc' := 90) (lv' := [(0, .ref P), (1, .long x1), (3, .int x3), (4, .int x4), (5, .int x5), (6, .int x6), (7, .int x7)]) (st' := [.int x5, .int x3]) rfl) ?_
      refine Tt.if_ge (tgt := 97) rfl (by decide) ?_ ?_
      · refine Tt.go (fun _ => Tr.run 3 (pc' := 101) (lv' := [(0, .ref P), (1, .long x1), (3, .int x3), (4, .int x4), (5, .int x5), (6, .int x6), (7, .int x7)]) (st' := [.int ((1 : Int32) <<< (x5 &&& 31)), .int x3]) rfl) ?_
        refine Tt.go (fun _ => Tr.sub (lv' := [(0, .ref P), (1, .long x1), (4, .int x4), (6, .int x6)]) [0, 1, 3, 5] rfl) ?_
        exact t_X3_leastTree_101 g l hl P hP w k7 hk7 x1 x4 x6 ((1 : Int32) <<< (x5 &&& 31)) x3 M
      · refine Tt.go (fun _ => Tr.run 2 (pc' := 101) (lv' := [(0, .ref P), (1, .long x1), (3, .int x3), (4, .int x4), (5, .int x5), (6, .int x6), (7, .int x7)]) (st' := [.int (0 : Int32), .int x3]) rfl) ?_
        refine Tt.go (fun _ => Tr.sub (lv' := [(0, .ref P), (1, .long x1), (4, .int x4), (6, .int x6)]) [0, 1, 3, 5] rfl) ?_
        exact t_X3_leastTree_101 g l hl P hP w k7 hk7 x1 x4 x6 (0 : Int32) x3 M
    · refine Tt.go (fun _ => Tr.run 5 (pc' := 40) (lv' := [(0, .ref P), (1, .long x1), (3, .int x3), (4, .int x4), (5, .int x5), (6, .int x6), (7, .int x7)]) (st' := [.int ((x3 >>> (x7 &&& 31)) &&& (1 : Int32))]) rfl) ?_
      refine Tt.if_eq (tgt := 47) rfl (by decide) ?_ ?_
      · refine Tt.go (fun _ => Tr.run 3 (pc' := 51) (lv' := [(0, .ref P), (1, .long x1), (3, .int x3), (4, .int x4), (5, .int x5), (6, .int x6), (7, .int x7)]) (st' := [.int x7, .int x3, .ref P]) rfl) ?_
        refine Tt.callV (As := [.int x3, .int x7]) (rest := []) (c_X3_gapTo g l hl P x3 x7 hP M w) hP (by decide) rfl rfl cw_X3_gapTo fw356 pn_X3_gapTo (Nat.le_of_ble_eq_true rfl) (Nat.le_of_ble_eq_true rfl) (Nat.le_of_ble_eq_true rfl) rfl (fun v1 => (?_ : Tt g l z_X3_leastTree (emJ M w) _ 54 [(0, .ref P), (1, .long x1), (3, .int x3), (4, .int x4), (5, .int x5), (6, .int x6), (7, .int x7)] [.int v1] (M, w)))
        exact t_X3_leastTree_54 g l hl P hP w k7 hk7 _ ih x1 x3 x4 x5 x6 x7 v1 M
      · refine Tt.go (fun _ => Tr.run 2 (pc' := 54) (lv' := [(0, .ref P), (1, .long x1), (3, .int x3), (4, .int x4), (5, .int x5), (6, .int x6), (7, .int x7)]) (st' := [.int (-1 : Int32)]) rfl) ?_
        exact t_X3_leastTree_54 g l hl P hP w k7 hk7 _ ih x1 x3 x4 x5 x6 x7 (-1 : Int32) M
def f_X3_leastTree_7 (P : Nat) : Nat → Int64 → Int32 → Int32 → fm_Mem → Option (Int64)
  | 0, _, _, _, _ => none
  | n + 1, x1, x3, x4, M => if (M P 2) ≤ x4 then (some (x1)) else (f_X3_leastTree_25 P (fun x1 x3 x4 M => f_X3_leastTree_7 P n x1 x3 x4 M) fm_fuel x1 x3 x4 (-1 : Int32) (0 : Int32) (0 : Int32) M)
set_option maxRecDepth 100000 in
set_option maxHeartbeats 4000000 in
theorem t_X3_leastTree_7 (g : fm_G) (l : Launch) (hl : l.stackTraces = false) (P : Nat) (hP : fm_kd g P = 3) (w : fm_W)  : ∀ (n : Nat) (x1 : Int64) (x3 : Int32) (x4 : Int32)  (M : fm_Mem), Tt g l z_X3_leastTree (emJ M w) (f_X3_leastTree_7 P  n x1 x3 x4 M) 7 [(0, .ref P), (1, .long x1), (3, .int x3), (4, .int x4)] [] (M, w) := by
  intro n
  induction n with
  | zero => intros; exact Tt.none
  | succ n ih =>
    intro x1 x3 x4  M
    rw [f_X3_leastTree_7]
    refine Tt.go (fun _ => Tr.run 2 (pc' := 10) (lv' := [(0, .ref P), (1, .long x1), (3, .int x3), (4, .int x4)]) (st' := [.ref P, .int x4]) rfl) ?_
    refine Tt.go (fun _ => Tr.get fmc3 hP rfl fw159 (k := 2) (by decide) rfl) (?_ : Tt g l z_X3_leastTree (emJ M w) _ 13 [(0, .ref P), (1, .long x1), (3, .int x3), (4, .int x4)] [.int (M P 2), .int x4] (M, w))
    refine Tt.ic_ge (tgt := 115) rfl (by decide) ?_ ?_
    · refine Tt.go (fun _ => Tr.run 1 (pc' := 116) (lv' := [(0, .ref P), (1, .long x1), (3, .int x3), (4, .int x4)]) (st' := [.long x1]) rfl) ?_
      exact Tt.ret (Tr.lret rfl rfl)
    · refine Tt.go (fun _ => Tr.run 6 (pc' := 25) (lv' := [(7, .int (0 : Int32)), (6, .int (0 : Int32)), (5, .int (-1 : Int32)), (0, .ref P), (1, .long x1), (3, .int x3), (4, .int x4)]) (st' := []) rfl) ?_
      refine Tt.go (fun _ => Tr.sub (lv' := [(0, .ref P), (1, .long x1), (3, .int x3), (4, .int x4), (5, .int (-1 : Int32)), (6, .int (0 : Int32)), (7, .int (0 : Int32))]) [3, 4, 5, 6, 2, 1, 0] rfl) ?_
      exact t_X3_leastTree_25 g l hl P hP w _ ih fm_fuel x1 x3 x4 (-1 : Int32) (0 : Int32) (0 : Int32) M
def f_X3_leastTree (P : Nat) (M : fm_Mem) : Option (Int64) := (f_X3_leastTree_7 P fm_fuel (0 : Int64) (1 : Int32) (1 : Int32) M)
set_option maxRecDepth 100000 in
set_option maxHeartbeats 4000000 in
theorem t_X3_leastTree (g : fm_G) (l : Launch) (hl : l.stackTraces = false) (P : Nat) (hP : fm_kd g P = 3) (M : fm_Mem) (w : fm_W) : Tt g l z_X3_leastTree (emJ M w) (f_X3_leastTree P M) 0 [(0, .ref P)] [] (M, w) := by
  rw [f_X3_leastTree]
  refine Tt.go (fun _ => Tr.run 6 (pc' := 7) (lv' := [(4, .int (1 : Int32)), (3, .int (1 : Int32)), (1, .long (0 : Int64)), (0, .ref P)]) (st' := []) rfl) ?_
  refine Tt.go (fun _ => Tr.sub (lv' := [(0, .ref P), (1, .long (0 : Int64)), (3, .int (1 : Int32)), (4, .int (1 : Int32))]) [3, 2, 1, 0] rfl) ?_
  exact t_X3_leastTree_7 g l hl P hP w fm_fuel (0 : Int64) (1 : Int32) (1 : Int32) M
theorem c_X3_leastTree (g : fm_G) (l : Launch) (hl : l.stackTraces = false) (P : Nat) (hP : fm_kd g P = 3) (M : fm_Mem) (w : fm_W) : ∀ r, f_X3_leastTree P M = some r → fC g l z_X3_leastTree [.ref P] (M, w) (emJ M w r) := fun r hr => fC.of (by decide) rfl o_X3_leastTree hl (Nat.le_of_ble_eq_true rfl) (t_X3_leastTree g l hl P hP M w r hr)
def k_X5_size : List (Nat × Instr × Nat) := [(0, .aload_n 0, 1), (1, .getfield 27, 3), (4, .ireturn, 1)]
def z_X5_size : fm_Y := (yX5_size, RX5, cX5_size, 1, (some .int), k_X5_size, 0, 0)
theorem o_X5_size : fm_dec z_X5_size := (by decide +kernel : ∀ q ∈ k_X5_size, decode cX5_size q.1 = .ok q.2)
theorem cw_X5_size : fm_cwV z_X5_size := ⟨⟨lw_in 296 (by decide +kernel) (by decide +kernel), lw_in 92 (by decide +kernel) (by decide +kernel), by decide, by decide⟩, lw_in 294 (by decide +kernel) (by decide +kernel), lw_in 295 (by decide +kernel) (by decide +kernel)⟩
theorem pn_X5_size : (parseMethodDescriptor z_X5_size.1.desc).map (fun d => d.parameters.length) = some 0 := by decide +kernel
def f_X5_size (P : Nat) (M : fm_Mem) : Option (Int32) := some ((M P 2))
set_option maxRecDepth 100000 in
set_option maxHeartbeats 4000000 in
theorem t_X5_size (g : fm_G) (l : Launch) (hl : l.stackTraces = false) (P : Nat) (hP : fm_kd g P = 5) (M : fm_Mem) (w : fm_W) : Tt g l z_X5_size (emI M w) (f_X5_size P M) 0 [(0, .ref P)] [] (M, w) := by
  rw [f_X5_size]
  refine Tt.go (fun _ => Tr.run 1 (pc' := 1) (lv' := [(0, .ref P)]) (st' := [.ref P]) rfl) ?_
  refine Tt.go (fun _ => Tr.get fmc5 hP rfl fw210 (k := 2) (by decide) rfl) (?_ : Tt g l z_X5_size (emI M w) _ 4 [(0, .ref P)] [.int (M P 2)] (M, w))
  exact Tt.ret (Tr.iret rfl rfl)
theorem c_X5_size (g : fm_G) (l : Launch) (hl : l.stackTraces = false) (P : Nat) (hP : fm_kd g P = 5) (M : fm_Mem) (w : fm_W) : ∀ r, f_X5_size P M = some r → fC g l z_X5_size [.ref P] (M, w) (emI M w r) := fun r hr => fC.of (by decide) rfl o_X5_size hl (Nat.le_of_ble_eq_true rfl) (t_X5_size g l hl P hP M w r hr)
def k_X5_addWord : List (Nat × Instr × Nat) := [(0, .bipush 24, 2), (2, .istore_n 2, 1), (3, .iload_n 2, 1), (4, .ifCond .lt 37, 3), (7, .aload_n 0, 1), (8, .getfield 14, 3), (11, .aload_n 0, 1), (12, .getfield 27, 3), (15, .iload_n 1, 1), (16, .iload_n 2, 1), (17, .ishr, 1), (18, .sipush 255, 3), (21, .iand, 1), (22, .invokevirtual 31, 3), (25, .aload_n 0, 1), (26, .dup, 1), (27, .getfield 27, 3), (30, .iconst 1, 1), (31, .iadd, 1), (32, .putfield 27, 3), (35, .iinc 2 (-8), 3), (38, .goto (-35), 3), (41, .return_, 1)]
def z_X5_addWord : fm_Y := (yX5_addWord, RX5, cX5_addWord, 3, none, k_X5_addWord, 1, 22)
theorem o_X5_addWord : fm_dec z_X5_addWord := (by decide +kernel : ∀ q ∈ k_X5_addWord, decode cX5_addWord q.1 = .ok q.2)
theorem cw_X5_addWord : fm_cwV z_X5_addWord := ⟨⟨lw_in 300 (by decide +kernel) (by decide +kernel), lw_in 92 (by decide +kernel) (by decide +kernel), by decide, by decide⟩, lw_in 298 (by decide +kernel) (by decide +kernel), lw_in 299 (by decide +kernel) (by decide +kernel)⟩
theorem pn_X5_addWord : (parseMethodDescriptor z_X5_addWord.1.desc).map (fun d => d.parameters.length) = some 1 := by decide +kernel
def f_X5_addWord_3 (P : Nat) (a1 : Int32) : Nat → Int32 → fm_Mem → Option (fm_Mem)
  | 0, _, _ => none
  | n + 1, x2, M => if x2 < 0 then (some (M)) else (Option.bind (f_X4_set (P + 1) 400 (M P 2) ((a1 >>> (x2 &&& 31)) &&& (255 : Int32)) M) (fun v1 => (f_X5_addWord_3 P a1 n (x2 + (-8 : Int32)) (fm_up v1 P 2 ((v1 P 2) + (1 : Int32))))))
set_option maxRecDepth 100000 in
set_option maxHeartbeats 4000000 in
theorem t_X5_addWord_3 (g : fm_G) (l : Launch) (hl : l.stackTraces = false) (P : Nat) (a1 : Int32) (hP : fm_kd g P = 5) (w : fm_W) (M0 : fm_Mem)  : ∀ (n : Nat) (x2 : Int32)  (M : fm_Mem), Tt g l z_X5_addWord (emVw M0 w) (f_X5_addWord_3 P a1  n x2 M) 3 [(0, .ref P), (1, .int a1), (2, .int x2)] [] (M, w) := by
  intro n
  induction n with
  | zero => intros; exact Tt.none
  | succ n ih =>
    intro x2  M
    rw [f_X5_addWord_3]
    refine Tt.go (fun _ => Tr.run 1 (pc' := 4) (lv' := [(0, .ref P), (1, .int a1), (2, .int x2)]) (st' := [.int x2]) rfl) ?_
    refine Tt.if_lt (tgt := 41) rfl (by decide) ?_ ?_
    · exact Tt.ret (Tr.vret rfl rfl)
    · refine Tt.go (fun _ => Tr.run 1 (pc' := 8) (lv' := [(0, .ref P), (1, .int a1), (2, .int x2)]) (st' := [.ref P]) rfl) ?_
      refine Tt.go (fun _ => Tr.get fmc5 hP rfl fw207 (k := 0) (by decide) rfl) (?_ : Tt g l z_X5_addWord (emVw M0 w) _ 11 [(0, .ref P), (1, .int a1), (2, .int x2)] [.ref (P + 1)] (M, w))
      refine Tt.go (fun _ => Tr.run 1 (pc' := 12) (lv' := [(0, .ref P), (1, .int a1), (2, .int x2)]) (st' := [.ref P, .ref (P + 1)]) rfl) ?_
      refine Tt.go (fun _ => Tr.get fmc5 hP rfl fw210 (k := 2) (by decide) rfl) (?_ : Tt g l z_X5_addWord (emVw M0 w) _ 15 [(0, .ref P), (1, .int a1), (2, .int x2)] [.int (M P 2), .ref (P + 1)] (M, w))
      refine Tt.go (fun _ => Tr.run 5 (pc' := 22) (lv' := [(0, .ref P), (1, .int a1), (2, .int x2)]) (st' := [.int ((a1 >>> (x2 &&& 31)) &&& (255 : Int32)), .int (M P 2), .ref (P + 1)]) rfl) ?_
      refine Tt.callV (As := [.int (M P 2), .int ((a1 >>> (x2 &&& 31)) &&& (255 : Int32))]) (rest := []) (c_X4_set g l hl (P + 1) 400 (M P 2) ((a1 >>> (x2 &&& 31)) &&& (255 : Int32)) (fmk_5_0 hP) (fmn_5_0 hP) (by decide) M w) (fmk_5_0 hP) (by decide) rfl rfl cw_X4_set fw301 pn_X4_set (Nat.le_of_ble_eq_true rfl) (Nat.le_of_ble_eq_true rfl) (Nat.le_of_ble_eq_true rfl) rfl (fun v1 => (?_ : Tt g l z_X5_addWord (emVw M0 w) _ 25 [(0, .ref P), (1, .int a1), (2, .int x2)] [] (v1, w)))
      refine Tt.go (fun _ => Tr.run 2 (pc' := 27) (lv' := [(0, .ref P), (1, .int a1), (2, .int x2)]) (st' := [.ref P, .ref P]) rfl) ?_
      refine Tt.go (fun _ => Tr.get fmc5 hP rfl fw210 (k := 2) (by decide) rfl) (?_ : Tt g l z_X5_addWord (emVw M0 w) _ 30 [(0, .ref P), (1, .int a1), (2, .int x2)] [.int (v1 P 2), .ref P] (v1, w))
      refine Tt.go (fun _ => Tr.run 2 (pc' := 32) (lv' := [(0, .ref P), (1, .int a1), (2, .int x2)]) (st' := [.int ((v1 P 2) + (1 : Int32)), .ref P]) rfl) ?_
      refine Tt.go (fun _ => Tr.put fmc5 hP rfl fw210 (k := 2) (by decide) rfl rfl ⟨rfl, rfl⟩) (?_ : Tt g l z_X5_addWord (emVw M0 w) _ 35 [(0, .ref P), (1, .int a1), (2, .int x2)] [] ((fm_up v1 P 2 ((v1 P 2) + (1 : Int32))), w))
      refine Tt.go (fun _ => Tr.run 2 (pc' := 3) (lv' := [(2, .int (x2 + (-8 : Int32))), (0, .ref P), (1, .int a1)]) (st' := []) rfl) ?_
      refine Tt.go (fun _ => Tr.sub (lv' := [(0, .ref P), (1, .int a1), (2, .int (x2 + (-8 : Int32)))]) [1, 2, 0] rfl) ?_
      exact ih (x2 + (-8 : Int32)) (fm_up v1 P 2 ((v1 P 2) + (1 : Int32)))
def f_X5_addWord (P : Nat) (a1 : Int32) (M : fm_Mem) : Option (fm_Mem) := (f_X5_addWord_3 P a1 fm_fuel (24 : Int32) M)
set_option maxRecDepth 100000 in
set_option maxHeartbeats 4000000 in
theorem t_X5_addWord (g : fm_G) (l : Launch) (hl : l.stackTraces = false) (P : Nat) (a1 : Int32) (hP : fm_kd g P = 5) (M : fm_Mem) (w : fm_W) : Tt g l z_X5_addWord (emVw M w) (f_X5_addWord P a1 M) 0 [(0, .ref P), (1, .int a1)] [] (M, w) := by
  rw [f_X5_addWord]
  refine Tt.go (fun _ => Tr.run 2 (pc' := 3) (lv' := [(2, .int (24 : Int32)), (0, .ref P), (1, .int a1)]) (st' := []) rfl) ?_
  refine Tt.go (fun _ => Tr.sub (lv' := [(0, .ref P), (1, .int a1), (2, .int (24 : Int32))]) [1, 2, 0] rfl) ?_
  exact t_X5_addWord_3 g l hl P a1 hP w M fm_fuel (24 : Int32) M
theorem c_X5_addWord (g : fm_G) (l : Launch) (hl : l.stackTraces = false) (P : Nat) (a1 : Int32) (hP : fm_kd g P = 5) (M : fm_Mem) (w : fm_W) : ∀ r, f_X5_addWord P a1 M = some r → fC g l z_X5_addWord [.ref P, .int a1] (M, w) (emVw M w r) := fun r hr => fC.of (by decide) rfl o_X5_addWord hl (Nat.le_of_ble_eq_true rfl) (t_X5_addWord g l hl P a1 hP M w r hr)
