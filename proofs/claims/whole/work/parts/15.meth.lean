theorem nw189 : Cond.fieldLinkNest "CircleFlips" 75 "CircleFlips$Plane" "drawing" "LCircleFlips$Mesh;" "CircleFlips" ∈ lw_tbl := List.mem_of_getElem? (i := 189) (by decide +kernel)
theorem nw191 : Cond.fieldLinkNest "CircleFlips" 91 "CircleFlips$Plane" "due" "LCircleFlips$Mesh;" "CircleFlips" ∈ lw_tbl := List.mem_of_getElem? (i := 191) (by decide +kernel)
theorem nw193 : Cond.fieldLinkNest "CircleFlips" 107 "CircleFlips$Plane" "flips" "I" "CircleFlips" ∈ lw_tbl := List.mem_of_getElem? (i := 193) (by decide +kernel)
theorem nw195 : Cond.fieldLinkNest "CircleFlips" 110 "CircleFlips$Plane" "puts" "I" "CircleFlips" ∈ lw_tbl := List.mem_of_getElem? (i := 195) (by decide +kernel)
theorem fw313 : Cond.methodLink "CircleFlips" 79 ⟨"CircleFlips$Mesh", "size", "()I"⟩ ∈ lw_all := lw_in 313 (by decide +kernel) (by decide +kernel)
theorem fw317 : Cond.methodLink "CircleFlips" 140 ⟨"CircleFlips$Mesh", "a", "(I)I"⟩ ∈ lw_all := lw_in 317 (by decide +kernel) (by decide +kernel)
theorem fw325 : Cond.methodLink "CircleFlips" 143 ⟨"CircleFlips$Mesh", "b", "(I)I"⟩ ∈ lw_all := lw_in 325 (by decide +kernel) (by decide +kernel)
theorem fw329 : Cond.methodLink "CircleFlips" 146 ⟨"CircleFlips$Mesh", "c", "(I)I"⟩ ∈ lw_all := lw_in 329 (by decide +kernel) (by decide +kernel)
theorem fw333 : Cond.methodLink "CircleFlips" 190 ⟨"CircleFlips$Points", "square", "(I)J"⟩ ∈ lw_all := lw_in 333 (by decide +kernel) (by decide +kernel)
theorem fw338 : Cond.methodLink "CircleFlips" 149 ⟨"CircleFlips$Points", "turn", "(III)I"⟩ ∈ lw_all := lw_in 338 (by decide +kernel) (by decide +kernel)
theorem fw345 : Cond.methodLink "CircleFlips" 153 ⟨"java/lang/Math", "abs", "(I)I"⟩ ∈ lw_all := lw_in 345 (by decide +kernel) (by decide +kernel)
theorem fw346 : Cond.static ⟨"java/lang/Math", "abs", "(I)I"⟩ ∈ lw_all := lw_in 346 (by decide +kernel) (by decide +kernel)
theorem fw347 : Cond.code ⟨"java/lang/Math", "abs", "(I)I"⟩ prog_19_method_59_code 1 (some .int) ∈ lw_all := lw_in 347 (by decide +kernel) (by decide +kernel)
theorem fw352 : Cond.methodLink "CircleFlips" 194 ⟨"CircleFlips$Points", "leastTree", "()J"⟩ ∈ lw_all := lw_in 352 (by decide +kernel) (by decide +kernel)
theorem fw372 : Cond.methodLink "CircleFlips" 82 ⟨"CircleFlips$Mesh", "edges", "()I"⟩ ∈ lw_all := lw_in 372 (by decide +kernel) (by decide +kernel)
theorem fw522 : Cond.methodLink "CircleFlips" 85 ⟨"CircleFlips$Mesh", "edgesOf", "(I)I"⟩ ∈ lw_all := lw_in 522 (by decide +kernel) (by decide +kernel)
theorem fw523 : Cond.methodLink "CircleFlips" 88 ⟨"CircleFlips$Plane", "badEdges", "()I"⟩ ∈ lw_all := lw_in 523 (by decide +kernel) (by decide +kernel)
theorem fw549 : Cond.methodLink "CircleFlips" 94 ⟨"CircleFlips$Mesh", "edgesBeyond", "(LCircleFlips$Mesh;)I"⟩ ∈ lw_all := lw_in 549 (by decide +kernel) (by decide +kernel)
theorem fw553 : Cond.methodLink "CircleFlips" 98 ⟨"CircleFlips$Hull", "corners", "()I"⟩ ∈ lw_all := lw_in 553 (by decide +kernel) (by decide +kernel)
theorem fw557 : Cond.methodLink "CircleFlips" 101 ⟨"CircleFlips$Hull", "layers", "()I"⟩ ∈ lw_all := lw_in 557 (by decide +kernel) (by decide +kernel)
theorem fw565 : Cond.methodLink "CircleFlips" 113 ⟨"CircleFlips", "needPoint", "(I)V"⟩ ∈ lw_all := lw_in 565 (by decide +kernel) (by decide +kernel)
theorem fw584 : Cond.methodLink "CircleFlips" 116 ⟨"CircleFlips$Points", "x", "(I)I"⟩ ∈ lw_all := lw_in 584 (by decide +kernel) (by decide +kernel)
theorem fw585 : Cond.methodLink "CircleFlips" 119 ⟨"CircleFlips$Points", "y", "(I)I"⟩ ∈ lw_all := lw_in 585 (by decide +kernel) (by decide +kernel)
theorem fw586 : Cond.methodLink "CircleFlips" 122 ⟨"CircleFlips$Mesh", "joined", "(I)I"⟩ ∈ lw_all := lw_in 586 (by decide +kernel) (by decide +kernel)
theorem fw591 : Cond.methodLink "CircleFlips" 125 ⟨"java/lang/Integer", "bitCount", "(I)I"⟩ ∈ lw_all := lw_in 591 (by decide +kernel) (by decide +kernel)
theorem fw592 : Cond.methodLink "CircleFlips" 130 ⟨"CircleFlips$Hull", "layerOf", "(I)I"⟩ ∈ lw_all := lw_in 592 (by decide +kernel) (by decide +kernel)
theorem fw597 : Cond.methodLink "CircleFlips" 133 ⟨"CircleFlips$Points", "nearest", "(I)I"⟩ ∈ lw_all := lw_in 597 (by decide +kernel) (by decide +kernel)
theorem fw609 : Cond.methodLink "CircleFlips" 136 ⟨"CircleFlips", "needTriangle", "(LCircleFlips$Mesh;I)V"⟩ ∈ lw_all := lw_in 609 (by decide +kernel) (by decide +kernel)
theorem fw613 : Cond.methodLink "CircleFlips" 158 ⟨"CircleFlips$Points", "countCircle", "(IIII)I"⟩ ∈ lw_all := lw_in 613 (by decide +kernel) (by decide +kernel)
theorem fw618 : Cond.methodLink "CircleFlips" 162 ⟨"CircleFlips$Mesh", "beside", "(I)I"⟩ ∈ lw_all := lw_in 618 (by decide +kernel) (by decide +kernel)
theorem fw846 : Cond.methodLink "CircleFlips" 165 ⟨"CircleFlips$Points", "circleSide", "(IIIII)I"⟩ ∈ lw_all := lw_in 846 (by decide +kernel) (by decide +kernel)
theorem fw854 : Cond.methodLink "CircleFlips" 169 ⟨"CircleFlips$Plane", "refusal", "(II)I"⟩ ∈ lw_all := lw_in 854 (by decide +kernel) (by decide +kernel)
theorem fw863 : Cond.methodLink "CircleFlips" 173 ⟨"CircleFlips$Plane", "firstBad", "()I"⟩ ∈ lw_all := lw_in 863 (by decide +kernel) (by decide +kernel)
theorem fw889 : Cond.methodLink "CircleFlips" 179 ⟨"CircleFlips", "needAsked", "(II)V"⟩ ∈ lw_all := lw_in 889 (by decide +kernel) (by decide +kernel)
theorem fw893 : Cond.methodLink "CircleFlips" 183 ⟨"CircleFlips$Points", "covers", "(IIIII)Z"⟩ ∈ lw_all := lw_in 893 (by decide +kernel) (by decide +kernel)
theorem fw915 : Cond.methodLink "CircleFlips" 187 ⟨"CircleFlips$Hull", "cornerAt", "(I)I"⟩ ∈ lw_all := lw_in 915 (by decide +kernel) (by decide +kernel)
theorem fw926 : Cond.constantDouble "CircleFlips" 198 (4611686018427387904 : UInt64) ∈ lw_all := lw_in 926 (by decide +kernel) (by decide +kernel)
def k_X6_errorOffset : List (Nat × Instr × Nat) := [(0, .aload_n 0, 1), (1, .getfield 34, 3), (4, .ireturn, 1)]
def z_X6_errorOffset : fm_Y := (yX6_errorOffset, RX6, cX6_errorOffset, 1, (some .int), k_X6_errorOffset, 0, 0)
theorem o_X6_errorOffset : fm_dec z_X6_errorOffset := (by decide +kernel : ∀ q ∈ k_X6_errorOffset, decode cX6_errorOffset q.1 = .ok q.2)
theorem cw_X6_errorOffset : fm_cwV z_X6_errorOffset := ⟨⟨lw_in 308 (by decide +kernel) (by decide +kernel), lw_in 91 (by decide +kernel) (by decide +kernel), by decide, by decide⟩, lw_in 306 (by decide +kernel) (by decide +kernel), lw_in 307 (by decide +kernel) (by decide +kernel)⟩
theorem pn_X6_errorOffset : (parseMethodDescriptor z_X6_errorOffset.1.desc).map (fun d => d.parameters.length) = some 0 := by decide +kernel
def f_X6_errorOffset (P : Nat) (M : fm_Mem) : Option (Int32) := some ((M P 6))
set_option maxRecDepth 100000 in
set_option maxHeartbeats 4000000 in
theorem t_X6_errorOffset (g : fm_G) (l : Launch) (hl : l.stackTraces = false) (P : Nat) (hP : fm_kd g P = 6) (M : fm_Mem) (w : fm_W) : Tt g l z_X6_errorOffset (emI M w) (f_X6_errorOffset P M) 0 [(0, .ref P)] [] (M, w) := by
  rw [f_X6_errorOffset]
  refine Tt.go (fun _ => Tr.run 1 (pc' := 1) (lv' := [(0, .ref P)]) (st' := [.ref P]) rfl) ?_
  refine Tt.go (fun _ => Tr.get fmc6 hP rfl fw273 (k := 6) (by decide) rfl) (?_ : Tt g l z_X6_errorOffset (emI M w) _ 4 [(0, .ref P)] [.int (M P 6)] (M, w))
  exact Tt.ret (Tr.iret rfl rfl)
theorem c_X6_errorOffset (g : fm_G) (l : Launch) (hl : l.stackTraces = false) (P : Nat) (hP : fm_kd g P = 6) (M : fm_Mem) (w : fm_W) : ∀ r, f_X6_errorOffset P M = some r → fC g l z_X6_errorOffset [.ref P] (M, w) (emI M w r) := fun r hr => fC.of (by decide) rfl o_X6_errorOffset hl (Nat.le_of_ble_eq_true rfl) (t_X6_errorOffset g l hl P hP M w r hr)
def k_X6_state : List (Nat × Instr × Nat) := [(0, .iload_n 1, 1), (1, .ifCond .lt 9, 3), (4, .iload_n 1, 1), (5, .bipush 11, 2), (7, .if_icmp .le 11, 3), (10, .new 46, 3), (13, .dup, 1), (14, .invokespecial 48, 3), (17, .athrow, 1), (18, .iload_n 1, 1), (19, .tableswitch 168 0 10 #[57, 68, 79, 90, 102, 110, 121, 139, 147, 155, 160], 57), (76, .aload_n 0, 1), (77, .getfield 19, 3), (80, .getfield 64, 3), (83, .invokevirtual 72, 3), (86, .ireturn, 1), (87, .aload_n 0, 1), (88, .getfield 19, 3), (91, .getfield 75, 3), (94, .invokevirtual 79, 3), (97, .ireturn, 1), (98, .aload_n 0, 1), (99, .getfield 19, 3), (102, .getfield 75, 3), (105, .invokevirtual 82, 3), (108, .ireturn, 1), (109, .aload_n 0, 1), (110, .getfield 19, 3), (113, .getfield 75, 3), (116, .iconst 1, 1), (117, .invokevirtual 85, 3), (120, .ireturn, 1), (121, .aload_n 0, 1), (122, .getfield 19, 3), (125, .invokevirtual 88, 3), (128, .ireturn, 1), (129, .aload_n 0, 1), (130, .getfield 19, 3), (133, .getfield 91, 3), (136, .invokevirtual 79, 3), (139, .ireturn, 1), (140, .aload_n 0, 1), (141, .getfield 19, 3), (144, .getfield 75, 3), (147, .aload_n 0, 1), (148, .getfield 19, 3), (151, .getfield 91, 3), (154, .invokevirtual 94, 3), (157, .ireturn, 1), (158, .aload_n 0, 1), (159, .getfield 26, 3), (162, .invokevirtual 98, 3), (165, .ireturn, 1), (166, .aload_n 0, 1), (167, .getfield 26, 3), (170, .invokevirtual 101, 3), (173, .ireturn, 1), (174, .aload_n 0, 1), (175, .getfield 104, 3), (178, .ireturn, 1), (179, .aload_n 0, 1), (180, .getfield 19, 3), (183, .getfield 107, 3), (186, .ireturn, 1), (187, .aload_n 0, 1), (188, .getfield 19, 3), (191, .getfield 110, 3), (194, .ireturn, 1)]
def z_X6_state : fm_Y := (yX6_state, RX6, cX6_state, 2, (some .int), k_X6_state, 6, 116)
theorem o_X6_state : fm_dec z_X6_state := (by decide +kernel : ∀ q ∈ k_X6_state, decode cX6_state q.1 = .ok q.2)
theorem cw_X6_state : fm_cwV z_X6_state := ⟨⟨lw_in 457 (by decide +kernel) (by decide +kernel), lw_in 91 (by decide +kernel) (by decide +kernel), by decide, by decide⟩, lw_in 455 (by decide +kernel) (by decide +kernel), lw_in 456 (by decide +kernel) (by decide +kernel)⟩
theorem pn_X6_state : (parseMethodDescriptor z_X6_state.1.desc).map (fun d => d.parameters.length) = some 1 := by decide +kernel
def f_X6_state_10 (P : Nat) (a1 : Int32)  (M : fm_Mem) : Option (Nat ⊕ Int32) := some (.inl 0)
set_option maxRecDepth 100000 in
set_option maxHeartbeats 4000000 in
theorem t_X6_state_10 (g : fm_G) (l : Launch) (hl : l.stackTraces = false) (P : Nat) (a1 : Int32) (hP : fm_kd g P = 6) (w : fm_W)    (M : fm_Mem) : Tt g l z_X6_state (exI M w) (f_X6_state_10 P a1   M) 10 [] [] (M, w) := by
  rw [f_X6_state_10]
  exact Tt.ret (Tr.thr (k := 0) fx0 rfl rfl rfl rfl (Nat.le_of_ble_eq_true rfl) (Nat.le_of_ble_eq_true rfl))
def f_X6_state (P : Nat) (a1 : Int32) (M : fm_Mem) : Option (Nat ⊕ Int32) := if a1 < 0 then (f_X6_state_10 P a1 M) else (if a1 ≤ (11 : Int32) then (if a1 = (0 : Int32) then (Option.bind (f_X3_size (P + 20 + 1) M) (fun v12 => some (.inr (v12)))) else (if a1 = (1 : Int32) then (Option.bind (f_X1_size (P + 20 + 6) M) (fun v13 => some (.inr (v13)))) else (if a1 = (2 : Int32) then (Option.bind (f_X1_edges (P + 20 + 6) M) (fun v14 => some (.inr (v14)))) else (if a1 = (3 : Int32) then (Option.bind (f_X1_edgesOf (P + 20 + 6) (1 : Int32) M) (fun v15 => some (.inr (v15)))) else (if a1 = (4 : Int32) then (Option.bind (f_X2_badEdges (P + 20) M) (fun v16 => some (.inr (v16)))) else (if a1 = (5 : Int32) then (Option.bind (f_X1_size (P + 20 + 11) M) (fun v17 => some (.inr (v17)))) else (if a1 = (6 : Int32) then (Option.bind (f_X1_edgesBeyond (P + 20 + 6) (P + 20 + 11) M) (fun v18 => some (.inr (v18)))) else (if a1 = (7 : Int32) then (Option.bind (f_X0_corners (P + 36) M) (fun v19 => some (.inr (v19)))) else (if a1 = (8 : Int32) then (Option.bind (f_X0_layers (P + 36) M) (fun v20 => some (.inr (v20)))) else (if a1 = (9 : Int32) then (some (.inr ((M P 5)))) else (if a1 = (10 : Int32) then (some (.inr ((M (P + 20) 3)))) else (some (.inr ((M (P + 20) 4))))))))))))))) else (f_X6_state_10 P a1 M))
set_option maxRecDepth 100000 in
set_option maxHeartbeats 4000000 in
theorem t_X6_state (g : fm_G) (l : Launch) (hl : l.stackTraces = false) (P : Nat) (a1 : Int32) (hP : fm_kd g P = 6) (M : fm_Mem) (w : fm_W) : Tt g l z_X6_state (exI M w) (f_X6_state P a1 M) 0 [(0, .ref P), (1, .int a1)] [] (M, w) := by
  rw [f_X6_state]
  refine Tt.go (fun _ => Tr.run 1 (pc' := 1) (lv' := [(0, .ref P), (1, .int a1)]) (st' := [.int a1]) rfl) ?_
  refine Tt.if_lt (tgt := 10) rfl (by decide) ?_ ?_
  · refine Tt.go (fun _ => Tr.sub (lv' := []) [] rfl) ?_
    exact t_X6_state_10 g l hl P a1 hP w M
  · refine Tt.go (fun _ => Tr.run 2 (pc' := 7) (lv' := [(0, .ref P), (1, .int a1)]) (st' := [.int (11 : Int32), .int a1]) rfl) ?_
    refine Tt.ic_le (tgt := 18) rfl (by decide) ?_ ?_
    · refine Tt.go (fun _ => Tr.run 1 (pc' := 19) (lv' := [(0, .ref P), (1, .int a1)]) (st' := [.int a1]) rfl) ?_
      refine Tt.ite (fun hs_1 => ?_) (fun hs_1 => ?_)
      · refine Tt.go (fun _ => Tr.tsIn (k := 0) (off := 57) (tgt := 76) rfl (by decide) (by decide) rfl (by decide) hs_1) ?_
        refine Tt.go (fun _ => Tr.run 1 (pc' := 77) (lv' := [(0, .ref P), (1, .int a1)]) (st' := [.ref P]) rfl) ?_
        refine Tt.go (fun _ => Tr.get fmc6 hP rfl fw268 (k := 1) (by decide) rfl) (?_ : Tt g l z_X6_state (exI M w) _ 80 [(0, .ref P), (1, .int a1)] [.ref (P + 20)] (M, w))
        refine Tt.go (fun _ => Tr.getN fmc2 (fmk_6_1 hP) rfl nw186 (k := 0) (by decide) rfl) (?_ : Tt g l z_X6_state (exI M w) _ 83 [(0, .ref P), (1, .int a1)] [.ref (P + 20 + 1)] (M, w))
        refine Tt.callV (As := []) (rest := []) (c_X3_size g l hl (P + 20 + 1) (fmk_2_0 (fmk_6_1 hP)) M w) (fmk_2_0 (fmk_6_1 hP)) (by decide) rfl rfl cw_X3_size fw368 pn_X3_size (Nat.le_of_ble_eq_true rfl) (Nat.le_of_ble_eq_true rfl) (Nat.le_of_ble_eq_true rfl) rfl (fun v12 => (?_ : Tt g l z_X6_state (exI M w) _ 86 [(0, .ref P), (1, .int a1)] [.int v12] (M, w)))
        exact Tt.ret (Tr.iret rfl rfl)
      refine Tt.ite (fun hs_2 => ?_) (fun hs_2 => ?_)
      · refine Tt.go (fun _ => Tr.tsIn (k := 1) (off := 68) (tgt := 87) rfl (by decide) (by decide) rfl (by decide) hs_2) ?_
        refine Tt.go (fun _ => Tr.run 1 (pc' := 88) (lv' := [(0, .ref P), (1, .int a1)]) (st' := [.ref P]) rfl) ?_
        refine Tt.go (fun _ => Tr.get fmc6 hP rfl fw268 (k := 1) (by decide) rfl) (?_ : Tt g l z_X6_state (exI M w) _ 91 [(0, .ref P), (1, .int a1)] [.ref (P + 20)] (M, w))
        refine Tt.go (fun _ => Tr.getN fmc2 (fmk_6_1 hP) rfl nw189 (k := 1) (by decide) rfl) (?_ : Tt g l z_X6_state (exI M w) _ 94 [(0, .ref P), (1, .int a1)] [.ref (P + 20 + 6)] (M, w))
        refine Tt.callV (As := []) (rest := []) (c_X1_size g l hl (P + 20 + 6) (fmk_2_1 (fmk_6_1 hP)) M w) (fmk_2_1 (fmk_6_1 hP)) (by decide) rfl rfl cw_X1_size fw313 pn_X1_size (Nat.le_of_ble_eq_true rfl) (Nat.le_of_ble_eq_true rfl) (Nat.le_of_ble_eq_true rfl) rfl (fun v13 => (?_ : Tt g l z_X6_state (exI M w) _ 97 [(0, .ref P), (1, .int a1)] [.int v13] (M, w)))
        exact Tt.ret (Tr.iret rfl rfl)
      refine Tt.ite (fun hs_3 => ?_) (fun hs_3 => ?_)
      · refine Tt.go (fun _ => Tr.tsIn (k := 2) (off := 79) (tgt := 98) rfl (by decide) (by decide) rfl (by decide) hs_3) ?_
        refine Tt.go (fun _ => Tr.run 1 (pc' := 99) (lv' := [(0, .ref P), (1, .int a1)]) (st' := [.ref P]) rfl) ?_
        refine Tt.go (fun _ => Tr.get fmc6 hP rfl fw268 (k := 1) (by decide) rfl) (?_ : Tt g l z_X6_state (exI M w) _ 102 [(0, .ref P), (1, .int a1)] [.ref (P + 20)] (M, w))
        refine Tt.go (fun _ => Tr.getN fmc2 (fmk_6_1 hP) rfl nw189 (k := 1) (by decide) rfl) (?_ : Tt g l z_X6_state (exI M w) _ 105 [(0, .ref P), (1, .int a1)] [.ref (P + 20 + 6)] (M, w))
        refine Tt.callV (As := []) (rest := []) (c_X1_edges g l hl (P + 20 + 6) (fmk_2_1 (fmk_6_1 hP)) M w) (fmk_2_1 (fmk_6_1 hP)) (by decide) rfl rfl cw_X1_edges fw372 pn_X1_edges (Nat.le_of_ble_eq_true rfl) (Nat.le_of_ble_eq_true rfl) (Nat.le_of_ble_eq_true rfl) rfl (fun v14 => (?_ : Tt g l z_X6_state (exI M w) _ 108 [(0, .ref P), (1, .int a1)] [.int v14] (M, w)))
        exact Tt.ret (Tr.iret rfl rfl)
      refine Tt.ite (fun hs_4 => ?_) (fun hs_4 => ?_)
      · refine Tt.go (fun _ => Tr.tsIn (k := 3) (off := 90) (tgt := 109) rfl (by decide) (by decide) rfl (by decide) hs_4) ?_
        refine Tt.go (fun _ => Tr.run 1 (pc' := 110) (lv' := [(0, .ref P), (1, .int a1)]) (st' := [.ref P]) rfl) ?_
        refine Tt.go (fun _ => Tr.get fmc6 hP rfl fw268 (k := 1) (by decide) rfl) (?_ : Tt g l z_X6_state (exI M w) _ 113 [(0, .ref P), (1, .int a1)] [.ref (P + 20)] (M, w))
        refine Tt.go (fun _ => Tr.getN fmc2 (fmk_6_1 hP) rfl nw189 (k := 1) (by decide) rfl) (?_ : Tt g l z_X6_state (exI M w) _ 116 [(0, .ref P), (1, .int a1)] [.ref (P + 20 + 6)] (M, w))
        refine Tt.go (fun _ => Tr.run 1 (pc' := 117) (lv' := [(0, .ref P), (1, .int a1)]) (st' := [.int (1 : Int32), .ref (P + 20 + 6)]) rfl) ?_
        refine Tt.callV (As := [.int (1 : Int32)]) (rest := []) (c_X1_edgesOf g l hl (P + 20 + 6) (1 : Int32) (fmk_2_1 (fmk_6_1 hP)) M w) (fmk_2_1 (fmk_6_1 hP)) (by decide) rfl rfl cw_X1_edgesOf fw522 pn_X1_edgesOf (Nat.le_of_ble_eq_true rfl) (Nat.le_of_ble_eq_true rfl) (Nat.le_of_ble_eq_true rfl) rfl (fun v15 => (?_ : Tt g l z_X6_state (exI M w) _ 120 [(0, .ref P), (1, .int a1)] [.int v15] (M, w)))
        exact Tt.ret (Tr.iret rfl rfl)
      refine Tt.ite (fun hs_5 => ?_) (fun hs_5 => ?_)
      · refine Tt.go (fun _ => Tr.tsIn (k := 4) (off := 102) (tgt := 121) rfl (by decide) (by decide) rfl (by decide) hs_5) ?_
        refine Tt.go (fun _ => Tr.run 1 (pc' := 122) (lv' := [(0, .ref P), (1, .int a1)]) (st' := [.ref P]) rfl) ?_
        refine Tt.go (fun _ => Tr.get fmc6 hP rfl fw268 (k := 1) (by decide) rfl) (?_ : Tt g l z_X6_state (exI M w) _ 125 [(0, .ref P), (1, .int a1)] [.ref (P + 20)] (M, w))
        refine Tt.callV (As := []) (rest := []) (c_X2_badEdges g l hl (P + 20) (fmk_6_1 hP) M w) (fmk_6_1 hP) (by decide) rfl rfl cw_X2_badEdges fw523 pn_X2_badEdges (Nat.le_of_ble_eq_true rfl) (Nat.le_of_ble_eq_true rfl) (Nat.le_of_ble_eq_true rfl) rfl (fun v16 => (?_ : Tt g l z_X6_state (exI M w) _ 128 [(0, .ref P), (1, .int a1)] [.int v16] (M, w)))
        exact Tt.ret (Tr.iret rfl rfl)
      refine Tt.ite (fun hs_6 => ?_) (fun hs_6 => ?_)
      · refine Tt.go (fun _ => Tr.tsIn (k := 5) (off := 110) (tgt := 129) rfl (by decide) (by decide) rfl (by decide) hs_6) ?_
        refine Tt.go (fun _ => Tr.run 1 (pc' := 130) (lv' := [(0, .ref P), (1, .int a1)]) (st' := [.ref P]) rfl) ?_
        refine Tt.go (fun _ => Tr.get fmc6 hP rfl fw268 (k := 1) (by decide) rfl) (?_ : Tt g l z_X6_state (exI M w) _ 133 [(0, .ref P), (1, .int a1)] [.ref (P + 20)] (M, w))
        refine Tt.go (fun _ => Tr.getN fmc2 (fmk_6_1 hP) rfl nw191 (k := 2) (by decide) rfl) (?_ : Tt g l z_X6_state (exI M w) _ 136 [(0, .ref P), (1, .int a1)] [.ref (P + 20 + 11)] (M, w))
        refine Tt.callV (As := []) (rest := []) (c_X1_size g l hl (P + 20 + 11) (fmk_2_2 (fmk_6_1 hP)) M w) (fmk_2_2 (fmk_6_1 hP)) (by decide) rfl rfl cw_X1_size fw313 pn_X1_size (Nat.le_of_ble_eq_true rfl) (Nat.le_of_ble_eq_true rfl) (Nat.le_of_ble_eq_true rfl) rfl (fun v17 => (?_ : Tt g l z_X6_state (exI M w) _ 139 [(0, .ref P), (1, .int a1)] [.int v17] (M, w)))
        exact Tt.ret (Tr.iret rfl rfl)
      refine Tt.ite (fun hs_7 => ?_) (fun hs_7 => ?_)
      · refine Tt.go (fun _ => Tr.tsIn (k := 6) (off := 121) (tgt := 140) rfl (by decide) (by decide) rfl (by decide) hs_7) ?_
        refine Tt.go (fun _ => Tr.run 1 (pc' := 141) (lv' := [(0, .ref P), (1, .int a1)]) (st' := [.ref P]) rfl) ?_
        refine Tt.go (fun _ => Tr.get fmc6 hP rfl fw268 (k := 1) (by decide) rfl) (?_ : Tt g l z_X6_state (exI M w) _ 144 [(0, .ref P), (1, .int a1)] [.ref (P + 20)] (M, w))
        refine Tt.go (fun _ => Tr.getN fmc2 (fmk_6_1 hP) rfl nw189 (k := 1) (by decide) rfl) (?_ : Tt g l z_X6_state (exI M w) _ 147 [(0, .ref P), (1, .int a1)] [.ref (P + 20 + 6)] (M, w))
        refine Tt.go (fun _ => Tr.run 1 (pc' := 148) (lv' := [(0, .ref P), (1, .int a1)]) (st' := [.ref P, .ref (P + 20 + 6)]) rfl) ?_
        refine Tt.go (fun _ => Tr.get fmc6 hP rfl fw268 (k := 1) (by decide) rfl) (?_ : Tt g l z_X6_state (exI M w) _ 151 [(0, .ref P), (1, .int a1)] [.ref (P + 20), .ref (P + 20 + 6)] (M, w))
        refine Tt.go (fun _ => Tr.getN fmc2 (fmk_6_1 hP) rfl nw191 (k := 2) (by decide) rfl) (?_ : Tt g l z_X6_state (exI M w) _ 154 [(0, .ref P), (1, .int a1)] [.ref (P + 20 + 11), .ref (P + 20 + 6)] (M, w))
        refine Tt.callV (As := [.ref (P + 20 + 11)]) (rest := []) (c_X1_edgesBeyond g l hl (P + 20 + 6) (P + 20 + 11) (fmk_2_1 (fmk_6_1 hP)) (fmk_2_2 (fmk_6_1 hP)) M w) (fmk_2_1 (fmk_6_1 hP)) (by decide) rfl rfl cw_X1_edgesBeyond fw549 pn_X1_edgesBeyond (Nat.le_of_ble_eq_true rfl) (Nat.le_of_ble_eq_true rfl) (Nat.le_of_ble_eq_true rfl) rfl (fun v18 => (?_ : Tt g l z_X6_state (exI M w) _ 157 [(0, .ref P), (1, .int a1)] [.int v18] (M, w)))
        exact Tt.ret (Tr.iret rfl rfl)
      refine Tt.ite (fun hs_8 => ?_) (fun hs_8 => ?_)
      · refine Tt.go (fun _ => Tr.tsIn (k := 7) (off := 139) (tgt := 158) rfl (by decide) (by decide) rfl (by decide) hs_8) ?_
        refine Tt.go (fun _ => Tr.run 1 (pc' := 159) (lv' := [(0, .ref P), (1, .int a1)]) (st' := [.ref P]) rfl) ?_
        refine Tt.go (fun _ => Tr.get fmc6 hP rfl fw269 (k := 2) (by decide) rfl) (?_ : Tt g l z_X6_state (exI M w) _ 162 [(0, .ref P), (1, .int a1)] [.ref (P + 36)] (M, w))
        refine Tt.callV (As := []) (rest := []) (c_X0_corners g l hl (P + 36) (fmk_6_2 hP) M w) (fmk_6_2 hP) (by decide) rfl rfl cw_X0_corners fw553 pn_X0_corners (Nat.le_of_ble_eq_true rfl) (Nat.le_of_ble_eq_true rfl) (Nat.le_of_ble_eq_true rfl) rfl (fun v19 => (?_ : Tt g l z_X6_state (exI M w) _ 165 [(0, .ref P), (1, .int a1)] [.int v19] (M, w)))
        exact Tt.ret (Tr.iret rfl rfl)
      refine Tt.ite (fun hs_9 => ?_) (fun hs_9 => ?_)
      · refine Tt.go (fun _ => Tr.tsIn (k := 8) (off := 147) (tgt := 166) rfl (by decide) (by decide) rfl (by decide) hs_9) ?_
        refine Tt.go (fun _ => Tr.run 1 (pc' := 167) (lv' := [(0, .ref P), (1, .int a1)]) (st' := [.ref P]) rfl) ?_
        refine Tt.go (fun _ => Tr.get fmc6 hP rfl fw269 (k := 2) (by decide) rfl) (?_ : Tt g l z_X6_state (exI M w) _ 170 [(0, .ref P), (1, .int a1)] [.ref (P + 36)] (M, w))
        refine Tt.callV (As := []) (rest := []) (c_X0_layers g l hl (P + 36) (fmk_6_2 hP) M w) (fmk_6_2 hP) (by decide) rfl rfl cw_X0_layers fw557 pn_X0_layers (Nat.le_of_ble_eq_true rfl) (Nat.le_of_ble_eq_true rfl) (Nat.le_of_ble_eq_true rfl) rfl (fun v20 => (?_ : Tt g l z_X6_state (exI M w) _ 173 [(0, .ref P), (1, .int a1)] [.int v20] (M, w)))
        exact Tt.ret (Tr.iret rfl rfl)
      refine Tt.ite (fun hs_10 => ?_) (fun hs_10 => ?_)
      · refine Tt.go (fun _ => Tr.tsIn (k := 9) (off := 155) (tgt := 174) rfl (by decide) (by decide) rfl (by decide) hs_10) ?_
        refine Tt.go (fun _ => Tr.run 1 (pc' := 175) (lv' := [(0, .ref P), (1, .int a1)]) (st' := [.ref P]) rfl) ?_
        refine Tt.go (fun _ => Tr.get fmc6 hP rfl fw272 (k := 5) (by decide) rfl) (?_ : Tt g l z_X6_state (exI M w) _ 178 [(0, .ref P), (1, .int a1)] [.int (M P 5)] (M, w))
        exact Tt.ret (Tr.iret rfl rfl)
      refine Tt.ite (fun hs_11 => ?_) (fun hs_11 => ?_)
      · refine Tt.go (fun _ => Tr.tsIn (k := 10) (off := 160) (tgt := 179) rfl (by decide) (by decide) rfl (by decide) hs_11) ?_
        refine Tt.go (fun _ => Tr.run 1 (pc' := 180) (lv' := [(0, .ref P), (1, .int a1)]) (st' := [.ref P]) rfl) ?_
        refine Tt.go (fun _ => Tr.get fmc6 hP rfl fw268 (k := 1) (by decide) rfl) (?_ : Tt g l z_X6_state (exI M w) _ 183 [(0, .ref P), (1, .int a1)] [.ref (P + 20)] (M, w))
        refine Tt.go (fun _ => Tr.getN fmc2 (fmk_6_1 hP) rfl nw193 (k := 3) (by decide) rfl) (?_ : Tt g l z_X6_state (exI M w) _ 186 [(0, .ref P), (1, .int a1)] [.int (M (P + 20) 3)] (M, w))
        exact Tt.ret (Tr.iret rfl rfl)
      refine Tt.go (fun _ => Tr.tsOut (tgt := 187) rfl (fm_swd (n := 11) (by decide) (fun j hj => match j, hj with | 0, _ => hs_1 | 1, _ => hs_2 | 2, _ => hs_3 | 3, _ => hs_4 | 4, _ => hs_5 | 5, _ => hs_6 | 6, _ => hs_7 | 7, _ => hs_8 | 8, _ => hs_9 | 9, _ => hs_10 | 10, _ => hs_11 | j + 11, hj => absurd hj (by omega))) (by decide)) ?_
      refine Tt.go (fun _ => Tr.run 1 (pc' := 188) (lv' := [(0, .ref P), (1, .int a1)]) (st' := [.ref P]) rfl) ?_
      refine Tt.go (fun _ => Tr.get fmc6 hP rfl fw268 (k := 1) (by decide) rfl) (?_ : Tt g l z_X6_state (exI M w) _ 191 [(0, .ref P), (1, .int a1)] [.ref (P + 20)] (M, w))
      refine Tt.go (fun _ => Tr.getN fmc2 (fmk_6_1 hP) rfl nw195 (k := 4) (by decide) rfl) (?_ : Tt g l z_X6_state (exI M w) _ 194 [(0, .ref P), (1, .int a1)] [.int (M (P + 20) 4)] (M, w))
      exact Tt.ret (Tr.iret rfl rfl)
    · refine Tt.go (fun _ => Tr.sub (lv' := []) [] rfl) ?_
      exact t_X6_state_10 g l hl P a1 hP w M
theorem c_X6_state (g : fm_G) (l : Launch) (hl : l.stackTraces = false) (P : Nat) (a1 : Int32) (hP : fm_kd g P = 6) (M : fm_Mem) (w : fm_W) : ∀ r, f_X6_state P a1 M = some r → fC g l z_X6_state [.ref P, .int a1] (M, w) (exI M w r) := fun r hr => fC.of (by decide) rfl o_X6_state hl (Nat.le_of_ble_eq_true rfl) (t_X6_state g l hl P a1 hP M w r hr)
def k_X6_needPoint : List (Nat × Instr × Nat) := [(0, .iload_n 1, 1), (1, .ifCond .lt 17, 3), (4, .iload_n 1, 1), (5, .aload_n 0, 1), (6, .getfield 19, 3), (9, .getfield 64, 3), (12, .invokevirtual 72, 3), (15, .if_icmp .lt 11, 3), (18, .new 264, 3), (21, .dup, 1), (22, .invokespecial 266, 3), (25, .athrow, 1), (26, .return_, 1)]
def z_X6_needPoint : fm_Y := (yX6_needPoint, RX6, cX6_needPoint, 2, none, k_X6_needPoint, 6, 89)
theorem o_X6_needPoint : fm_dec z_X6_needPoint := (by decide +kernel : ∀ q ∈ k_X6_needPoint, decode cX6_needPoint q.1 = .ok q.2)
theorem cw_X6_needPoint : fm_cwV z_X6_needPoint := ⟨⟨lw_in 568 (by decide +kernel) (by decide +kernel), lw_in 91 (by decide +kernel) (by decide +kernel), by decide, by decide⟩, lw_in 567 (by decide +kernel) (by decide +kernel), lw_in 5 (by decide +kernel) (by decide +kernel)⟩
theorem pn_X6_needPoint : (parseMethodDescriptor z_X6_needPoint.1.desc).map (fun d => d.parameters.length) = some 1 := by decide +kernel
def f_X6_needPoint_18 (P : Nat) (a1 : Int32)  (M : fm_Mem) : Option (Nat ⊕ Unit) := some (.inl 2)
set_option maxRecDepth 100000 in
set_option maxHeartbeats 4000000 in
theorem t_X6_needPoint_18 (g : fm_G) (l : Launch) (hl : l.stackTraces = false) (P : Nat) (a1 : Int32) (hP : fm_kd g P = 6) (w : fm_W)    (M : fm_Mem) : Tt g l z_X6_needPoint (exV M w) (f_X6_needPoint_18 P a1   M) 18 [] [] (M, w) := by
  rw [f_X6_needPoint_18]
  exact Tt.ret (Tr.thr (k := 2) fx2 rfl rfl rfl rfl (Nat.le_of_ble_eq_true rfl) (Nat.le_of_ble_eq_true rfl))
def f_X6_needPoint (P : Nat) (a1 : Int32) (M : fm_Mem) : Option (Nat ⊕ Unit) := if a1 < 0 then (f_X6_needPoint_18 P a1 M) else (Option.bind (f_X3_size (P + 20 + 1) M) (fun v1 => if a1 < v1 then (some (.inr (()))) else (f_X6_needPoint_18 P a1 M)))
set_option maxRecDepth 100000 in
set_option maxHeartbeats 4000000 in
theorem t_X6_needPoint (g : fm_G) (l : Launch) (hl : l.stackTraces = false) (P : Nat) (a1 : Int32) (hP : fm_kd g P = 6) (M : fm_Mem) (w : fm_W) : Tt g l z_X6_needPoint (exV M w) (f_X6_needPoint P a1 M) 0 [(0, .ref P), (1, .int a1)] [] (M, w) := by
  rw [f_X6_needPoint]
  refine Tt.go (fun _ => Tr.run 1 (pc' := 1) (lv' := [(0, .ref P), (1, .int a1)]) (st' := [.int a1]) rfl) ?_
  refine Tt.if_lt (tgt := 18) rfl (by decide) ?_ ?_
  · refine Tt.go (fun _ => Tr.sub (lv' := []) [] rfl) ?_
    exact t_X6_needPoint_18 g l hl P a1 hP w M
  · refine Tt.go (fun _ => Tr.run 2 (pc' := 6) (lv' := [(0, .ref P), (1, .int a1)]) (st' := [.ref P, .int a1]) rfl) ?_
    refine Tt.go (fun _ => Tr.get fmc6 hP rfl fw268 (k := 1) (by decide) rfl) (?_ : Tt g l z_X6_needPoint (exV M w) _ 9 [(0, .ref P), (1, .int a1)] [.ref (P + 20), .int a1] (M, w))
    refine Tt.go (fun _ => Tr.getN fmc2 (fmk_6_1 hP) rfl nw186 (k := 0) (by decide) rfl) (?_ : Tt g l z_X6_needPoint (exV M w) _ 12 [(0, .ref P), (1, .int a1)] [.ref (P + 20 + 1), .int a1] (M, w))
    refine Tt.callV (As := []) (rest := [.int a1]) (c_X3_size g l hl (P + 20 + 1) (fmk_2_0 (fmk_6_1 hP)) M w) (fmk_2_0 (fmk_6_1 hP)) (by decide) rfl rfl cw_X3_size fw368 pn_X3_size (Nat.le_of_ble_eq_true rfl) (Nat.le_of_ble_eq_true rfl) (Nat.le_of_ble_eq_true rfl) rfl (fun v1 => (?_ : Tt g l z_X6_needPoint (exV M w) _ 15 [(0, .ref P), (1, .int a1)] [.int v1, .int a1] (M, w)))
    refine Tt.ic_lt (tgt := 26) rfl (by decide) ?_ ?_
    · exact Tt.ret (Tr.vret rfl rfl)
    · refine Tt.go (fun _ => Tr.sub (lv' := []) [] rfl) ?_
      exact t_X6_needPoint_18 g l hl P a1 hP w M
theorem c_X6_needPoint (g : fm_G) (l : Launch) (hl : l.stackTraces = false) (P : Nat) (a1 : Int32) (hP : fm_kd g P = 6) (M : fm_Mem) (w : fm_W) : ∀ r, f_X6_needPoint P a1 M = some r → fC g l z_X6_needPoint [.ref P, .int a1] (M, w) (exV M w r) := fun r hr => fC.of (by decide) rfl o_X6_needPoint hl (Nat.le_of_ble_eq_true rfl) (t_X6_needPoint g l hl P a1 hP M w r hr)
def k_X6_point : List (Nat × Instr × Nat) := [(0, .aload_n 0, 1), (1, .iload_n 1, 1), (2, .invokevirtual 113, 3), (5, .iload_n 2, 1), (6, .ifCond .lt 9, 3), (9, .iload_n 2, 1), (10, .bipush 6, 2), (12, .if_icmp .le 11, 3), (15, .new 46, 3), (18, .dup, 1), (19, .invokespecial 48, 3), (22, .athrow, 1), (23, .iload_n 2, 1), (24, .tableswitch 115 0 5 #[40, 52, 64, 79, 94, 103], 40), (64, .aload_n 0, 1), (65, .getfield 19, 3), (68, .getfield 64, 3), (71, .iload_n 1, 1), (72, .invokevirtual 116, 3), (75, .ireturn, 1), (76, .aload_n 0, 1), (77, .getfield 19, 3), (80, .getfield 64, 3), (83, .iload_n 1, 1), (84, .invokevirtual 119, 3), (87, .ireturn, 1), (88, .aload_n 0, 1), (89, .getfield 19, 3), (92, .getfield 75, 3), (95, .iload_n 1, 1), (96, .invokevirtual 122, 3), (99, .invokestatic 125, 3), (102, .ireturn, 1), (103, .aload_n 0, 1), (104, .getfield 19, 3), (107, .getfield 91, 3), (110, .iload_n 1, 1), (111, .invokevirtual 122, 3), (114, .invokestatic 125, 3), (117, .ireturn, 1), (118, .aload_n 0, 1), (119, .getfield 26, 3), (122, .iload_n 1, 1), (123, .invokevirtual 130, 3), (126, .ireturn, 1), (127, .aload_n 0, 1), (128, .getfield 19, 3), (131, .getfield 75, 3), (134, .iload_n 1, 1), (135, .invokevirtual 122, 3), (138, .ireturn, 1), (139, .aload_n 0, 1), (140, .getfield 19, 3), (143, .getfield 64, 3), (146, .iload_n 1, 1), (147, .invokevirtual 133, 3), (150, .ireturn, 1)]
def z_X6_point : fm_Y := (yX6_point, RX6, cX6_point, 3, (some .int), k_X6_point, 7, 110)
theorem o_X6_point : fm_dec z_X6_point := (by decide +kernel : ∀ q ∈ k_X6_point, decode cX6_point q.1 = .ok q.2)
theorem cw_X6_point : fm_cwV z_X6_point := ⟨⟨lw_in 564 (by decide +kernel) (by decide +kernel), lw_in 91 (by decide +kernel) (by decide +kernel), by decide, by decide⟩, lw_in 562 (by decide +kernel) (by decide +kernel), lw_in 563 (by decide +kernel) (by decide +kernel)⟩
theorem pn_X6_point : (parseMethodDescriptor z_X6_point.1.desc).map (fun d => d.parameters.length) = some 2 := by decide +kernel
def f_X6_point_15 (P : Nat) (a1 : Int32) (a2 : Int32)  (M : fm_Mem) : Option (Nat ⊕ Int32) := some (.inl 0)
set_option maxRecDepth 100000 in
set_option maxHeartbeats 4000000 in
theorem t_X6_point_15 (g : fm_G) (l : Launch) (hl : l.stackTraces = false) (P : Nat) (a1 : Int32) (a2 : Int32) (hP : fm_kd g P = 6) (w : fm_W)    (M : fm_Mem) : Tt g l z_X6_point (exI M w) (f_X6_point_15 P a1 a2   M) 15 [] [] (M, w) := by
  rw [f_X6_point_15]
  exact Tt.ret (Tr.thr (k := 0) fx0 rfl rfl rfl rfl (Nat.le_of_ble_eq_true rfl) (Nat.le_of_ble_eq_true rfl))
def f_X6_point (P : Nat) (a1 : Int32) (a2 : Int32) (M : fm_Mem) : Option (Nat ⊕ Int32) := fm_bx (f_X6_needPoint P a1 M) (fun v1 => if a2 < 0 then (f_X6_point_15 P a1 a2 M) else (if a2 ≤ (6 : Int32) then (if a2 = (0 : Int32) then (Option.bind (f_X3_x (P + 20 + 1) a1 M) (fun v8 => some (.inr (v8)))) else (if a2 = (1 : Int32) then (Option.bind (f_X3_y (P + 20 + 1) a1 M) (fun v9 => some (.inr (v9)))) else (if a2 = (2 : Int32) then (Option.bind (f_X1_joined (P + 20 + 6) a1 M) (fun v10 => Option.bind (f_J6_bitCount_0f7a4 v10 M) (fun v11 => some (.inr (v11))))) else (if a2 = (3 : Int32) then (Option.bind (f_X1_joined (P + 20 + 11) a1 M) (fun v12 => Option.bind (f_J6_bitCount_0f7a4 v12 M) (fun v13 => some (.inr (v13))))) else (if a2 = (4 : Int32) then (Option.bind (f_X0_layerOf (P + 36) a1 M) (fun v14 => some (.inr (v14)))) else (if a2 = (5 : Int32) then (Option.bind (f_X1_joined (P + 20 + 6) a1 M) (fun v15 => some (.inr (v15)))) else (Option.bind (f_X3_nearest (P + 20 + 1) a1 M) (fun v16 => some (.inr (v16)))))))))) else (f_X6_point_15 P a1 a2 M)))
set_option maxRecDepth 100000 in
set_option maxHeartbeats 4000000 in
theorem t_X6_point (g : fm_G) (l : Launch) (hl : l.stackTraces = false) (P : Nat) (a1 : Int32) (a2 : Int32) (hP : fm_kd g P = 6) (M : fm_Mem) (w : fm_W) : Tt g l z_X6_point (exI M w) (f_X6_point P a1 a2 M) 0 [(0, .ref P), (1, .int a1), (2, .int a2)] [] (M, w) := by
  rw [f_X6_point]
  refine Tt.go (fun _ => Tr.run 2 (pc' := 2) (lv' := [(0, .ref P), (1, .int a1), (2, .int a2)]) (st' := [.int a1, .ref P]) rfl) ?_
  refine Tt.callX (As := [.int a1]) (rest := []) (c_X6_needPoint g l hl P a1 hP M w) hP (by decide) rfl rfl cw_X6_needPoint fw565 pn_X6_needPoint (Nat.le_of_ble_eq_true rfl) (Nat.le_of_ble_eq_true rfl) (Nat.le_of_ble_eq_true rfl) rfl (fun v1 => (?_ : Tt g l z_X6_point (exI M w) _ 5 [(0, .ref P), (1, .int a1), (2, .int a2)] [] (M, w)))
  refine Tt.go (fun _ => Tr.run 1 (pc' := 6) (lv' := [(0, .ref P), (1, .int a1), (2, .int a2)]) (st' := [.int a2]) rfl) ?_
  refine Tt.if_lt (tgt := 15) rfl (by decide) ?_ ?_
  · refine Tt.go (fun _ => Tr.sub (lv' := []) [] rfl) ?_
    exact t_X6_point_15 g l hl P a1 a2 hP w M
  · refine Tt.go (fun _ => Tr.run 2 (pc' := 12) (lv' := [(0, .ref P), (1, .int a1), (2, .int a2)]) (st' := [.int (6 : Int32), .int a2]) rfl) ?_
    refine Tt.ic_le (tgt := 23) rfl (by decide) ?_ ?_
    · refine Tt.go (fun _ => Tr.run 1 (pc' := 24) (lv' := [(0, .ref P), (1, .int a1), (2, .int a2)]) (st' := [.int a2]) rfl) ?_
      refine Tt.ite (fun hs_2 => ?_) (fun hs_2 => ?_)
      · refine Tt.go (fun _ => Tr.tsIn (k := 0) (off := 40) (tgt := 64) rfl (by decide) (by decide) rfl (by decide) hs_2) ?_
        refine Tt.go (fun _ => Tr.run 1 (pc' := 65) (lv' := [(0, .ref P), (1, .int a1), (2, .int a2)]) (st' := [.ref P]) rfl) ?_
        refine Tt.go (fun _ => Tr.get fmc6 hP rfl fw268 (k := 1) (by decide) rfl) (?_ : Tt g l z_X6_point (exI M w) _ 68 [(0, .ref P), (1, .int a1), (2, .int a2)] [.ref (P + 20)] (M, w))
        refine Tt.go (fun _ => Tr.getN fmc2 (fmk_6_1 hP) rfl nw186 (k := 0) (by decide) rfl) (?_ : Tt g l z_X6_point (exI M w) _ 71 [(0, .ref P), (1, .int a1), (2, .int a2)] [.ref (P + 20 + 1)] (M, w))
        refine Tt.go (fun _ => Tr.run 1 (pc' := 72) (lv' := [(0, .ref P), (1, .int a1), (2, .int a2)]) (st' := [.int a1, .ref (P + 20 + 1)]) rfl) ?_
        refine Tt.callV (As := [.int a1]) (rest := []) (c_X3_x g l hl (P + 20 + 1) a1 (fmk_2_0 (fmk_6_1 hP)) M w) (fmk_2_0 (fmk_6_1 hP)) (by decide) rfl rfl cw_X3_x fw584 pn_X3_x (Nat.le_of_ble_eq_true rfl) (Nat.le_of_ble_eq_true rfl) (Nat.le_of_ble_eq_true rfl) rfl (fun v8 => (?_ : Tt g l z_X6_point (exI M w) _ 75 [(0, .ref P), (1, .int a1), (2, .int a2)] [.int v8] (M, w)))
        exact Tt.ret (Tr.iret rfl rfl)
      refine Tt.ite (fun hs_3 => ?_) (fun hs_3 => ?_)
      · refine Tt.go (fun _ => Tr.tsIn (k := 1) (off := 52) (tgt := 76) rfl (by decide) (by decide) rfl (by decide) hs_3) ?_
        refine Tt.go (fun _ => Tr.run 1 (pc' := 77) (lv' := [(0, .ref P), (1, .int a1), (2, .int a2)]) (st' := [.ref P]) rfl) ?_
        refine Tt.go (fun _ => Tr.get fmc6 hP rfl fw268 (k := 1) (by decide) rfl) (?_ : Tt g l z_X6_point (exI M w) _ 80 [(0, .ref P), (1, .int a1), (2, .int a2)] [.ref (P + 20)] (M, w))
        refine Tt.go (fun _ => Tr.getN fmc2 (fmk_6_1 hP) rfl nw186 (k := 0) (by decide) rfl) (?_ : Tt g l z_X6_point (exI M w) _ 83 [(0, .ref P), (1, .int a1), (2, .int a2)] [.ref (P + 20 + 1)] (M, w))
        refine Tt.go (fun _ => Tr.run 1 (pc' := 84) (lv' := [(0, .ref P), (1, .int a1), (2, .int a2)]) (st' := [.int a1, .ref (P + 20 + 1)]) rfl) ?_
        refine Tt.callV (As := [.int a1]) (rest := []) (c_X3_y g l hl (P + 20 + 1) a1 (fmk_2_0 (fmk_6_1 hP)) M w) (fmk_2_0 (fmk_6_1 hP)) (by decide) rfl rfl cw_X3_y fw585 pn_X3_y (Nat.le_of_ble_eq_true rfl) (Nat.le_of_ble_eq_true rfl) (Nat.le_of_ble_eq_true rfl) rfl (fun v9 => (?_ : Tt g l z_X6_point (exI M w) _ 87 [(0, .ref P), (1, .int a1), (2, .int a2)] [.int v9] (M, w)))
        exact Tt.ret (Tr.iret rfl rfl)
      refine Tt.ite (fun hs_4 => ?_) (fun hs_4 => ?_)
      · refine Tt.go (fun _ => Tr.tsIn (k := 2) (off := 64) (tgt := 88) rfl (by decide) (by decide) rfl (by decide) hs_4) ?_
        refine Tt.go (fun _ => Tr.run 1 (pc' := 89) (lv' := [(0, .ref P), (1, .int a1), (2, .int a2)]) (st' := [.ref P]) rfl) ?_
        refine Tt.go (fun _ => Tr.get fmc6 hP rfl fw268 (k := 1) (by decide) rfl) (?_ : Tt g l z_X6_point (exI M w) _ 92 [(0, .ref P), (1, .int a1), (2, .int a2)] [.ref (P + 20)] (M, w))
        refine Tt.go (fun _ => Tr.getN fmc2 (fmk_6_1 hP) rfl nw189 (k := 1) (by decide) rfl) (?_ : Tt g l z_X6_point (exI M w) _ 95 [(0, .ref P), (1, .int a1), (2, .int a2)] [.ref (P + 20 + 6)] (M, w))
        refine Tt.go (fun _ => Tr.run 1 (pc' := 96) (lv' := [(0, .ref P), (1, .int a1), (2, .int a2)]) (st' := [.int a1, .ref (P + 20 + 6)]) rfl) ?_
        refine Tt.callV (As := [.int a1]) (rest := []) (c_X1_joined g l hl (P + 20 + 6) a1 (fmk_2_1 (fmk_6_1 hP)) M w) (fmk_2_1 (fmk_6_1 hP)) (by decide) rfl rfl cw_X1_joined fw586 pn_X1_joined (Nat.le_of_ble_eq_true rfl) (Nat.le_of_ble_eq_true rfl) (Nat.le_of_ble_eq_true rfl) rfl (fun v10 => (?_ : Tt g l z_X6_point (exI M w) _ 99 [(0, .ref P), (1, .int a1), (2, .int a2)] [.int v10] (M, w)))
        refine Tt.callS (As := [.int v10]) (rest := []) (c_J6_bitCount_0f7a4 g l hl v10 M w) rfl cw_J6_bitCount_0f7a4 fw591 pn_J6_bitCount_0f7a4 (Nat.le_of_ble_eq_true rfl) (Nat.le_of_ble_eq_true rfl) (Nat.le_of_ble_eq_true rfl) rfl (fun v11 => (?_ : Tt g l z_X6_point (exI M w) _ 102 [(0, .ref P), (1, .int a1), (2, .int a2)] [.int v11] (M, w)))
        exact Tt.ret (Tr.iret rfl rfl)
      refine Tt.ite (fun hs_5 => ?_) (fun hs_5 => ?_)
      · refine Tt.go (fun _ => Tr.tsIn (k := 3) (off := 79) (tgt := 103) rfl (by decide) (by decide) rfl (by decide) hs_5) ?_
        refine Tt.go (fun _ => Tr.run 1 (pc' := 104) (lv' := [(0, .ref P), (1, .int a1), (2, .int a2)]) (st' := [.ref P]) rfl) ?_
        refine Tt.go (fun _ => Tr.get fmc6 hP rfl fw268 (k := 1) (by decide) rfl) (?_ : Tt g l z_X6_point (exI M w) _ 107 [(0, .ref P), (1, .int a1), (2, .int a2)] [.ref (P + 20)] (M, w))
        refine Tt.go (fun _ => Tr.getN fmc2 (fmk_6_1 hP) rfl nw191 (k := 2) (by decide) rfl) (?_ : Tt g l z_X6_point (exI M w) _ 110 [(0, .ref P), (1, .int a1), (2, .int a2)] [.ref (P + 20 + 11)] (M, w))
        refine Tt.go (fun _ => Tr.run 1 (pc' := 111) (lv' := [(0, .ref P), (1, .int a1), (2, .int a2)]) (st' := [.int a1, .ref (P + 20 + 11)]) rfl) ?_
        refine Tt.callV (As := [.int a1]) (rest := []) (c_X1_joined g l hl (P + 20 + 11) a1 (fmk_2_2 (fmk_6_1 hP)) M w) (fmk_2_2 (fmk_6_1 hP)) (by decide) rfl rfl cw_X1_joined fw586 pn_X1_joined (Nat.le_of_ble_eq_true rfl) (Nat.le_of_ble_eq_true rfl) (Nat.le_of_ble_eq_true rfl) rfl (fun v12 => (?_ : Tt g l z_X6_point (exI M w) _ 114 [(0, .ref P), (1, .int a1), (2, .int a2)] [.int v12] (M, w)))
        refine Tt.callS (As := [.int v12]) (rest := []) (c_J6_bitCount_0f7a4 g l hl v12 M w) rfl cw_J6_bitCount_0f7a4 fw591 pn_J6_bitCount_0f7a4 (Nat.le_of_ble_eq_true rfl) (Nat.le_of_ble_eq_true rfl) (Nat.le_of_ble_eq_true rfl) rfl (fun v13 => (?_ : Tt g l z_X6_point (exI M w) _ 117 [(0, .ref P), (1, .int a1), (2, .int a2)] [.int v13] (M, w)))
        exact Tt.ret (Tr.iret rfl rfl)
      refine Tt.ite (fun hs_6 => ?_) (fun hs_6 => ?_)
      · refine Tt.go (fun _ => Tr.tsIn (k := 4) (off := 94) (tgt := 118) rfl (by decide) (by decide) rfl (by decide) hs_6) ?_
        refine Tt.go (fun _ => Tr.run 1 (pc' := 119) (lv' := [(0, .ref P), (1, .int a1), (2, .int a2)]) (st' := [.ref P]) rfl) ?_
        refine Tt.go (fun _ => Tr.get fmc6 hP rfl fw269 (k := 2) (by decide) rfl) (?_ : Tt g l z_X6_point (exI M w) _ 122 [(0, .ref P), (1, .int a1), (2, .int a2)] [.ref (P + 36)] (M, w))
        refine Tt.go (fun _ => Tr.run 1 (pc' := 123) (lv' := [(0, .ref P), (1, .int a1), (2, .int a2)]) (st' := [.int a1, .ref (P + 36)]) rfl) ?_
        refine Tt.callV (As := [.int a1]) (rest := []) (c_X0_layerOf g l hl (P + 36) a1 (fmk_6_2 hP) M w) (fmk_6_2 hP) (by decide) rfl rfl cw_X0_layerOf fw592 pn_X0_layerOf (Nat.le_of_ble_eq_true rfl) (Nat.le_of_ble_eq_true rfl) (Nat.le_of_ble_eq_true rfl) rfl (fun v14 => (?_ : Tt g l z_X6_point (exI M w) _ 126 [(0, .ref P), (1, .int a1), (2, .int a2)] [.int v14] (M, w)))
        exact Tt.ret (Tr.iret rfl rfl)
      refine Tt.ite (fun hs_7 => ?_) (fun hs_7 => ?_)
      · refine Tt.go (fun _ => Tr.tsIn (k := 5) (off := 103) (tgt := 127) rfl (by decide) (by decide) rfl (by decide) hs_7) ?_
        refine Tt.go (fun _ => Tr.run 1 (pc' := 128) (lv' := [(0, .ref P), (1, .int a1), (2, .int a2)]) (st' := [.ref P]) rfl) ?_
        refine Tt.go (fun _ => Tr.get fmc6 hP rfl fw268 (k := 1) (by decide) rfl) (?_ : Tt g l z_X6_point (exI M w) _ 131 [(0, .ref P), (1, .int a1), (2, .int a2)] [.ref (P + 20)] (M, w))
        refine Tt.go (fun _ => Tr.getN fmc2 (fmk_6_1 hP) rfl nw189 (k := 1) (by decide) rfl) (?_ : Tt g l z_X6_point (exI M w) _ 134 [(0, .ref P), (1, .int a1), (2, .int a2)] [.ref (P + 20 + 6)] (M, w))
        refine Tt.go (fun _ => Tr.run 1 (pc' := 135) (lv' := [(0, .ref P), (1, .int a1), (2, .int a2)]) (st' := [.int a1, .ref (P + 20 + 6)]) rfl) ?_
        refine Tt.callV (As := [.int a1]) (rest := []) (c_X1_joined g l hl (P + 20 + 6) a1 (fmk_2_1 (fmk_6_1 hP)) M w) (fmk_2_1 (fmk_6_1 hP)) (by decide) rfl rfl cw_X1_joined fw586 pn_X1_joined (Nat.le_of_ble_eq_true rfl) (Nat.le_of_ble_eq_true rfl) (Nat.le_of_ble_eq_true rfl) rfl (fun v15 => (?_ : Tt g l z_X6_point (exI M w) _ 138 [(0, .ref P), (1, .int a1), (2, .int a2)] [.int v15] (M, w)))
        exact Tt.ret (Tr.iret rfl rfl)
      refine Tt.go (fun _ => Tr.tsOut (tgt := 139) rfl (fm_swd (n := 6) (by decide) (fun j hj => match j, hj with | 0, _ => hs_2 | 1, _ => hs_3 | 2, _ => hs_4 | 3, _ => hs_5 | 4, _ => hs_6 | 5, _ => hs_7 | j + 6, hj => absurd hj (by omega))) (by decide)) ?_
      refine Tt.go (fun _ => Tr.run 1 (pc' := 140) (lv' := [(0, .ref P), (1, .int a1), (2, .int a2)]) (st' := [.ref P]) rfl) ?_
      refine Tt.go (fun _ => Tr.get fmc6 hP rfl fw268 (k := 1) (by decide) rfl) (?_ : Tt g l z_X6_point (exI M w) _ 143 [(0, .ref P), (1, .int a1), (2, .int a2)] [.ref (P + 20)] (M, w))
      refine Tt.go (fun _ => Tr.getN fmc2 (fmk_6_1 hP) rfl nw186 (k := 0) (by decide) rfl) (?_ : Tt g l z_X6_point (exI M w) _ 146 [(0, .ref P), (1, .int a1), (2, .int a2)] [.ref (P + 20 + 1)] (M, w))
      refine Tt.go (fun _ => Tr.run 1 (pc' := 147) (lv' := [(0, .ref P), (1, .int a1), (2, .int a2)]) (st' := [.int a1, .ref (P + 20 + 1)]) rfl) ?_
      refine Tt.callV (As := [.int a1]) (rest := []) (c_X3_nearest g l hl (P + 20 + 1) a1 (fmk_2_0 (fmk_6_1 hP)) M w) (fmk_2_0 (fmk_6_1 hP)) (by decide) rfl rfl cw_X3_nearest fw597 pn_X3_nearest (Nat.le_of_ble_eq_true rfl) (Nat.le_of_ble_eq_true rfl) (Nat.le_of_ble_eq_true rfl) rfl (fun v16 => (?_ : Tt g l z_X6_point (exI M w) _ 150 [(0, .ref P), (1, .int a1), (2, .int a2)] [.int v16] (M, w)))
      exact Tt.ret (Tr.iret rfl rfl)
    · refine Tt.go (fun _ => Tr.sub (lv' := []) [] rfl) ?_
      exact t_X6_point_15 g l hl P a1 a2 hP w M
theorem c_X6_point (g : fm_G) (l : Launch) (hl : l.stackTraces = false) (P : Nat) (a1 : Int32) (a2 : Int32) (hP : fm_kd g P = 6) (M : fm_Mem) (w : fm_W) : ∀ r, f_X6_point P a1 a2 M = some r → fC g l z_X6_point [.ref P, .int a1, .int a2] (M, w) (exI M w r) := fun r hr => fC.of (by decide) rfl o_X6_point hl (Nat.le_of_ble_eq_true rfl) (t_X6_point g l hl P a1 a2 hP M w r hr)
def k_X6_needTriangle : List (Nat × Instr × Nat) := [(0, .iload_n 2, 1), (1, .ifCond .lt 11, 3), (4, .iload_n 2, 1), (5, .aload_n 1, 1), (6, .invokevirtual 79, 3), (9, .if_icmp .lt 11, 3), (12, .new 264, 3), (15, .dup, 1), (16, .invokespecial 266, 3), (19, .athrow, 1), (20, .return_, 1)]
def z_X6_needTriangle : fm_Y := (yX6_needTriangle, RX6, cX6_needTriangle, 3, none, k_X6_needTriangle, 6, 89)
theorem o_X6_needTriangle : fm_dec z_X6_needTriangle := (by decide +kernel : ∀ q ∈ k_X6_needTriangle, decode cX6_needTriangle q.1 = .ok q.2)
theorem cw_X6_needTriangle : fm_cwV z_X6_needTriangle := ⟨⟨lw_in 612 (by decide +kernel) (by decide +kernel), lw_in 91 (by decide +kernel) (by decide +kernel), by decide, by decide⟩, lw_in 611 (by decide +kernel) (by decide +kernel), lw_in 7 (by decide +kernel) (by decide +kernel)⟩
theorem pn_X6_needTriangle : (parseMethodDescriptor z_X6_needTriangle.1.desc).map (fun d => d.parameters.length) = some 2 := by decide +kernel
def f_X6_needTriangle_12 (P : Nat) (r1 : Nat) (a2 : Int32)  (M : fm_Mem) : Option (Nat ⊕ Unit) := some (.inl 2)
set_option maxRecDepth 100000 in
set_option maxHeartbeats 4000000 in
theorem t_X6_needTriangle_12 (g : fm_G) (l : Launch) (hl : l.stackTraces = false) (P : Nat) (r1 : Nat) (a2 : Int32) (hP : fm_kd g P = 6) (hr1 : fm_kd g r1 = 1) (w : fm_W)    (M : fm_Mem) : Tt g l z_X6_needTriangle (exV M w) (f_X6_needTriangle_12 P r1 a2   M) 12 [] [] (M, w) := by
  rw [f_X6_needTriangle_12]
  exact Tt.ret (Tr.thr (k := 2) fx2 rfl rfl rfl rfl (Nat.le_of_ble_eq_true rfl) (Nat.le_of_ble_eq_true rfl))
def f_X6_needTriangle (P : Nat) (r1 : Nat) (a2 : Int32) (M : fm_Mem) : Option (Nat ⊕ Unit) := if a2 < 0 then (f_X6_needTriangle_12 P r1 a2 M) else (Option.bind (f_X1_size r1 M) (fun v1 => if a2 < v1 then (some (.inr (()))) else (f_X6_needTriangle_12 P r1 a2 M)))
set_option maxRecDepth 100000 in
set_option maxHeartbeats 4000000 in
theorem t_X6_needTriangle (g : fm_G) (l : Launch) (hl : l.stackTraces = false) (P : Nat) (r1 : Nat) (a2 : Int32) (hP : fm_kd g P = 6) (hr1 : fm_kd g r1 = 1) (M : fm_Mem) (w : fm_W) : Tt g l z_X6_needTriangle (exV M w) (f_X6_needTriangle P r1 a2 M) 0 [(0, .ref P), (1, .ref r1), (2, .int a2)] [] (M, w) := by
  rw [f_X6_needTriangle]
  refine Tt.go (fun _ => Tr.run 1 (pc' := 1) (lv' := [(0, .ref P), (1, .ref r1), (2, .int a2)]) (st' := [.int a2]) rfl) ?_
  refine Tt.if_lt (tgt := 12) rfl (by decide) ?_ ?_
  · refine Tt.go (fun _ => Tr.sub (lv' := []) [] rfl) ?_
    exact t_X6_needTriangle_12 g l hl P r1 a2 hP hr1 w M
  · refine Tt.go (fun _ => Tr.run 2 (pc' := 6) (lv' := [(0, .ref P), (1, .ref r1), (2, .int a2)]) (st' := [.ref r1, .int a2]) rfl) ?_
    refine Tt.callV (As := []) (rest := [.int a2]) (c_X1_size g l hl r1 hr1 M w) hr1 (by decide) rfl rfl cw_X1_size fw313 pn_X1_size (Nat.le_of_ble_eq_true rfl) (Nat.le_of_ble_eq_true rfl) (Nat.le_of_ble_eq_true rfl) rfl (fun v1 => (?_ : Tt g l z_X6_needTriangle (exV M w) _ 9 [(0, .ref P), (1, .ref r1), (2, .int a2)] [.int v1, .int a2] (M, w)))
    refine Tt.ic_lt (tgt := 20) rfl (by decide) ?_ ?_
    · exact Tt.ret (Tr.vret rfl rfl)
    · refine Tt.go (fun _ => Tr.sub (lv' := []) [] rfl) ?_
      exact t_X6_needTriangle_12 g l hl P r1 a2 hP hr1 w M
theorem c_X6_needTriangle (g : fm_G) (l : Launch) (hl : l.stackTraces = false) (P : Nat) (r1 : Nat) (a2 : Int32) (hP : fm_kd g P = 6) (hr1 : fm_kd g r1 = 1) (M : fm_Mem) (w : fm_W) : ∀ r, f_X6_needTriangle P r1 a2 M = some r → fC g l z_X6_needTriangle [.ref P, .ref r1, .int a2] (M, w) (exV M w r) := fun r hr => fC.of (by decide) rfl o_X6_needTriangle hl (Nat.le_of_ble_eq_true rfl) (t_X6_needTriangle g l hl P r1 a2 hP hr1 M w r hr)
def k_X6_triangle : List (Nat × Instr × Nat) := [(0, .iload_n 2, 1), (1, .ifCond .eq 13, 3), (4, .aload_n 0, 1), (5, .getfield 19, 3), (8, .getfield 91, 3), (11, .goto 10, 3), (14, .aload_n 0, 1), (15, .getfield 19, 3), (18, .getfield 75, 3), (21, .astore 4, 2), (23, .aload_n 0, 1), (24, .aload 4, 2), (26, .iload_n 1, 1), (27, .invokevirtual 136, 3), (30, .iload_n 3, 1), (31, .ifCond .lt 9, 3), (34, .iload_n 3, 1), (35, .bipush 6, 2), (37, .if_icmp .le 11, 3), (40, .new 46, 3), (43, .dup, 1), (44, .invokespecial 48, 3), (47, .athrow, 1), (48, .aload 4, 2), (50, .iload_n 1, 1), (51, .invokevirtual 140, 3), (54, .istore 5, 2), (56, .aload 4, 2), (58, .iload_n 1, 1), (59, .invokevirtual 143, 3), (62, .istore 6, 2), (64, .aload 4, 2), (66, .iload_n 1, 1), (67, .invokevirtual 146, 3), (70, .istore 7, 2), (72, .iload_n 3, 1), (73, .tableswitch 104 0 5 #[39, 42, 45, 48, 68, 86], 39), (112, .iload 5, 2), (114, .ireturn, 1), (115, .iload 6, 2), (117, .ireturn, 1), (118, .iload 7, 2), (120, .ireturn, 1), (121, .aload_n 0, 1), (122, .getfield 19, 3), (125, .getfield 64, 3), (128, .iload 5, 2), (130, .iload 6, 2), (132, .iload 7, 2), (134, .invokevirtual 149, 3), (137, .invokestatic 153, 3), (140, .ireturn, 1), (141, .aload_n 0, 1), (142, .getfield 19, 3), (145, .getfield 64, 3), (148, .iload 5, 2), (150, .iload 6, 2), (152, .iload 7, 2), (154, .iconst 1, 1), (155, .invokevirtual 158, 3), (158, .ireturn, 1), (159, .aload_n 0, 1), (160, .getfield 19, 3), (163, .getfield 64, 3), (166, .iload 5, 2), (168, .iload 6, 2), (170, .iload 7, 2), (172, .iconst 0, 1), (173, .invokevirtual 158, 3), (176, .ireturn, 1), (177, .aload 4, 2), (179, .iload_n 1, 1), (180, .invokevirtual 162, 3), (183, .ireturn, 1)]
def z_X6_triangle : fm_Y := (yX6_triangle, RX6, cX6_triangle, 8, (some .int), k_X6_triangle, 7, 111)
theorem o_X6_triangle : fm_dec z_X6_triangle := (by decide +kernel : ∀ q ∈ k_X6_triangle, decode cX6_triangle q.1 = .ok q.2)
theorem cw_X6_triangle : fm_cwV z_X6_triangle := ⟨⟨lw_in 608 (by decide +kernel) (by decide +kernel), lw_in 91 (by decide +kernel) (by decide +kernel), by decide, by decide⟩, lw_in 606 (by decide +kernel) (by decide +kernel), lw_in 607 (by decide +kernel) (by decide +kernel)⟩
theorem pn_X6_triangle : (parseMethodDescriptor z_X6_triangle.1.desc).map (fun d => d.parameters.length) = some 3 := by decide +kernel
def f_X6_triangle_40 (P : Nat) (a1 : Int32) (a2 : Int32) (a3 : Int32)  (M : fm_Mem) : Option (Nat ⊕ Int32) := some (.inl 0)
set_option maxRecDepth 100000 in
set_option maxHeartbeats 4000000 in
theorem t_X6_triangle_40 (g : fm_G) (l : Launch) (hl : l.stackTraces = false) (P : Nat) (a1 : Int32) (a2 : Int32) (a3 : Int32) (hP : fm_kd g P = 6) (w : fm_W)    (M : fm_Mem) : Tt g l z_X6_triangle (exI M w) (f_X6_triangle_40 P a1 a2 a3   M) 40 [] [] (M, w) := by
  rw [f_X6_triangle_40]
  exact Tt.ret (Tr.thr (k := 0) fx0 rfl rfl rfl rfl (Nat.le_of_ble_eq_true rfl) (Nat.le_of_ble_eq_true rfl))
def f_X6_triangle_21 (P : Nat) (a1 : Int32) (a2 : Int32) (a3 : Int32) (s0 : Nat) (M : fm_Mem) : Option (Nat ⊕ Int32) := fm_bx (f_X6_needTriangle P s0 a1 M) (fun v1 => if a3 < 0 then (f_X6_triangle_40 P a1 a2 a3 M) else (if a3 ≤ (6 : Int32) then (Option.bind (f_X1_a s0 a1 M) (fun v2 => Option.bind (f_X1_b s0 a1 M) (fun v3 => Option.bind (f_X1_c s0 a1 M) (fun v4 => (if a3 = (0 : Int32) then (some (.inr (v2))) else (if a3 = (1 : Int32) then (some (.inr (v3))) else (if a3 = (2 : Int32) then (some (.inr (v4))) else (if a3 = (3 : Int32) then (Option.bind (f_X3_turn (P + 20 + 1) v2 v3 v4 M) (fun v11 => some (.inr ((fm_abs v11))))) else (if a3 = (4 : Int32) then (Option.bind (f_X3_countCircle (P + 20 + 1) v2 v3 v4 (1 : Int32) M) (fun v12 => some (.inr (v12)))) else (if a3 = (5 : Int32) then (Option.bind (f_X3_countCircle (P + 20 + 1) v2 v3 v4 (0 : Int32) M) (fun v13 => some (.inr (v13)))) else (Option.bind (f_X1_beside s0 a1 M) (fun v14 => some (.inr (v14)))))))))))))) else (f_X6_triangle_40 P a1 a2 a3 M)))
set_option maxRecDepth 100000 in
set_option maxHeartbeats 4000000 in
theorem t_X6_triangle_21 (g : fm_G) (l : Launch) (hl : l.stackTraces = false) (P : Nat) (a1 : Int32) (a2 : Int32) (a3 : Int32) (hP : fm_kd g P = 6) (w : fm_W)  (s0 : Nat) (hs0 : fm_kd g s0 = 1) (M : fm_Mem) : Tt g l z_X6_triangle (exI M w) (f_X6_triangle_21 P a1 a2 a3  s0 M) 21 [(0, .ref P), (1, .int a1), (3, .int a3)] [.ref s0] (M, w) := by
  rw [f_X6_triangle_21]
  refine Tt.go (fun _ => Tr.run 4 (pc' := 27) (lv' := [(4, .ref s0), (0, .ref P), (1, .int a1), (3, .int a3)]) (st' := [.int a1, .ref s0, .ref P]) rfl) ?_
  refine Tt.callX (As := [.ref s0, .int a1]) (rest := []) (c_X6_needTriangle g l hl P s0 a1 hP hs0 M w) hP (by decide) rfl rfl cw_X6_needTriangle fw609 pn_X6_needTriangle (Nat.le_of_ble_eq_true rfl) (Nat.le_of_ble_eq_true rfl) (Nat.le_of_ble_eq_true rfl) rfl (fun v1 => (?_ : Tt g l z_X6_triangle (exI M w) _ 30 [(4, .ref s0), (0, .ref P), (1, .int a1), (3, .int a3)] [] (M, w)))
  refine Tt.go (fun _ => Tr.run 1 (pc' := 31) (lv' := [(4, .ref s0), (0, .ref P), (1, .int a1), (3, .int a3)]) (st' := [.int a3]) rfl) ?_
  refine Tt.if_lt (tgt := 40) rfl (by decide) ?_ ?_
  · refine Tt.go (fun _ => Tr.sub (lv' := []) [] rfl) ?_
    exact t_X6_triangle_40 g l hl P a1 a2 a3 hP w M
  · refine Tt.go (fun _ => Tr.run 2 (pc' := 37) (lv' := [(4, .ref s0), (0, .ref P), (1, .int a1), (3, .int a3)]) (st' := [.int (6 : Int32), .int a3]) rfl) ?_
    refine Tt.ic_le (tgt := 48) rfl (by decide) ?_ ?_
    · refine Tt.go (fun _ => Tr.run 2 (pc' := 51) (lv' := [(4, .ref s0), (0, .ref P), (1, .int a1), (3, .int a3)]) (st' := [.int a1, .ref s0]) rfl) ?_
      refine Tt.callV (As := [.int a1]) (rest := []) (c_X1_a g l hl s0 a1 hs0 M w) hs0 (by decide) rfl rfl cw_X1_a fw317 pn_X1_a (Nat.le_of_ble_eq_true rfl) (Nat.le_of_ble_eq_true rfl) (Nat.le_of_ble_eq_true rfl) rfl (fun v2 => (?_ : Tt g l z_X6_triangle (exI M w) _ 54 [(4, .ref s0), (0, .ref P), (1, .int a1), (3, .int a3)] [.int v2] (M, w)))
      refine Tt.go (fun _ => Tr.run 3 (pc' := 59) (lv' := [(5, .int v2), (4, .ref s0), (0, .ref P), (1, .int a1), (3, .int a3)]) (st' := [.int a1, .ref s0]) rfl) ?_
      refine Tt.callV (As := [.int a1]) (rest := []) (c_X1_b g l hl s0 a1 hs0 M w) hs0 (by decide) rfl rfl cw_X1_b fw325 pn_X1_b (Nat.le_of_ble_eq_true rfl) (Nat.le_of_ble_eq_true rfl) (Nat.le_of_ble_eq_true rfl) rfl (fun v3 => (?_ : Tt g l z_X6_triangle (exI M w) _ 62 [(5, .int v2), (4, .ref s0), (0, .ref P), (1, .int a1), (3, .int a3)] [.int v3] (M, w)))
      refine Tt.go (fun _ => Tr.run 3 (pc' := 67) (lv' := [(6, .int v3), (5, .int v2), (4, .ref s0), (0, .ref P), (1, .int a1), (3, .int a3)]) (st' := [.int a1, .ref s0]) rfl) ?_
      refine Tt.callV (As := [.int a1]) (rest := []) (c_X1_c g l hl s0 a1 hs0 M w) hs0 (by decide) rfl rfl cw_X1_c fw329 pn_X1_c (Nat.le_of_ble_eq_true rfl) (Nat.le_of_ble_eq_true rfl) (Nat.le_of_ble_eq_true rfl) rfl (fun v4 => (?_ : Tt g l z_X6_triangle (exI M w) _ 70 [(6, .int v3), (5, .int v2), (4, .ref s0), (0, .ref P), (1, .int a1), (3, .int a3)] [.int v4] (M, w)))
      refine Tt.go (fun _ => Tr.run 2 (pc' := 73) (lv' := [(7, .int v4), (6, .int v3), (5, .int v2), (4, .ref s0), (0, .ref P), (1, .int a1), (3, .int a3)]) (st' := [.int a3]) rfl) ?_
      refine Tt.ite (fun hs_5 => ?_) (fun hs_5 => ?_)
      · refine Tt.go (fun _ => Tr.tsIn (k := 0) (off := 39) (tgt := 112) rfl (by decide) (by decide) rfl (by decide) hs_5) ?_
        refine Tt.go (fun _ => Tr.run 1 (pc' := 114) (lv' := [(7, .int v4), (6, .int v3), (5, .int v2), (4, .ref s0), (0, .ref P), (1, .int a1), (3, .int a3)]) (st' := [.int v2]) rfl) ?_
        exact Tt.ret (Tr.iret rfl rfl)
      refine Tt.ite (fun hs_6 => ?_) (fun hs_6 => ?_)
      · refine Tt.go (fun _ => Tr.tsIn (k := 1) (off := 42) (tgt := 115) rfl (by decide) (by decide) rfl (by decide) hs_6) ?_
        refine Tt.go (fun _ => Tr.run 1 (pc' := 117) (lv' := [(7, .int v4), (6, .int v3), (5, .int v2), (4, .ref s0), (0, .ref P), (1, .int a1), (3, .int a3)]) (st' := [.int v3]) rfl) ?_
        exact Tt.ret (Tr.iret rfl rfl)
      refine Tt.ite (fun hs_7 => ?_) (fun hs_7 => ?_)
      · refine Tt.go (fun _ => Tr.tsIn (k := 2) (off := 45) (tgt := 118) rfl (by decide) (by decide) rfl (by decide) hs_7) ?_
        refine Tt.go (fun _ => Tr.run 1 (pc' := 120) (lv' := [(7, .int v4), (6, .int v3), (5, .int v2), (4, .ref s0), (0, .ref P), (1, .int a1), (3, .int a3)]) (st' := [.int v4]) rfl) ?_
        exact Tt.ret (Tr.iret rfl rfl)
      refine Tt.ite (fun hs_8 => ?_) (fun hs_8 => ?_)
      · refine Tt.go (fun _ => Tr.tsIn (k := 3) (off := 48) (tgt := 121) rfl (by decide) (by decide) rfl (by decide) hs_8) ?_
        refine Tt.go (fun _ => Tr.run 1 (pc' := 122) (lv' := [(7, .int v4), (6, .int v3), (5, .int v2), (4, .ref s0), (0, .ref P), (1, .int a1), (3, .int a3)]) (st' := [.ref P]) rfl) ?_
        refine Tt.go (fun _ => Tr.get fmc6 hP rfl fw268 (k := 1) (by decide) rfl) (?_ : Tt g l z_X6_triangle (exI M w) _ 125 [(7, .int v4), (6, .int v3), (5, .int v2), (4, .ref s0), (0, .ref P), (1, .int a1), (3, .int a3)] [.ref (P + 20)] (M, w))
        refine Tt.go (fun _ => Tr.getN fmc2 (fmk_6_1 hP) rfl nw186 (k := 0) (by decide) rfl) (?_ : Tt g l z_X6_triangle (exI M w) _ 128 [(7, .int v4), (6, .int v3), (5, .int v2), (4, .ref s0), (0, .ref P), (1, .int a1), (3, .int a3)] [.ref (P + 20 + 1)] (M, w))
        refine Tt.go (fun _ => Tr.run 3 (pc' := 134) (lv' := [(7, .int v4), (6, .int v3), (5, .int v2), (4, .ref s0), (0, .ref P), (1, .int a1), (3, .int a3)]) (st' := [.int v4, .int v3, .int v2, .ref (P + 20 + 1)]) rfl) ?_
        refine Tt.callV (As := [.int v2, .int v3, .int v4]) (rest := []) (c_X3_turn g l hl (P + 20 + 1) v2 v3 v4 (fmk_2_0 (fmk_6_1 hP)) M w) (fmk_2_0 (fmk_6_1 hP)) (by decide) rfl rfl cw_X3_turn fw338 pn_X3_turn (Nat.le_of_ble_eq_true rfl) (Nat.le_of_ble_eq_true rfl) (Nat.le_of_ble_eq_true rfl) rfl (fun v11 => (?_ : Tt g l z_X6_triangle (exI M w) _ 137 [(7, .int v4), (6, .int v3), (5, .int v2), (4, .ref s0), (0, .ref P), (1, .int a1), (3, .int a3)] [.int v11] (M, w)))
        refine Tt.go (fun _ => Tr.abs rfl ⟨fw345, fw346, fw94, fw347⟩ (Nat.le_of_ble_eq_true rfl) (Nat.le_of_ble_eq_true rfl)) (?_ : Tt g l z_X6_triangle (exI M w) _ 140 [(7, .int v4), (6, .int v3), (5, .int v2), (4, .ref s0), (0, .ref P), (1, .int a1), (3, .int a3)] [.int (fm_abs v11)] (M, w))
        exact Tt.ret (Tr.iret rfl rfl)
      refine Tt.ite (fun hs_9 => ?_) (fun hs_9 => ?_)
      · refine Tt.go (fun _ => Tr.tsIn (k := 4) (off := 68) (tgt := 141) rfl (by decide) (by decide) rfl (by decide) hs_9) ?_
        refine Tt.go (fun _ => Tr.run 1 (pc' := 142) (lv' := [(7, .int v4), (6, .int v3), (5, .int v2), (4, .ref s0), (0, .ref P), (1, .int a1), (3, .int a3)]) (st' := [.ref P]) rfl) ?_
        refine Tt.go (fun _ => Tr.get fmc6 hP rfl fw268 (k := 1) (by decide) rfl) (?_ : Tt g l z_X6_triangle (exI M w) _ 145 [(7, .int v4), (6, .int v3), (5, .int v2), (4, .ref s0), (0, .ref P), (1, .int a1), (3, .int a3)] [.ref (P + 20)] (M, w))
        refine Tt.go (fun _ => Tr.getN fmc2 (fmk_6_1 hP) rfl nw186 (k := 0) (by decide) rfl) (?_ : Tt g l z_X6_triangle (exI M w) _ 148 [(7, .int v4), (6, .int v3), (5, .int v2), (4, .ref s0), (0, .ref P), (1, .int a1), (3, .int a3)] [.ref (P + 20 + 1)] (M, w))
        refine Tt.go (fun _ => Tr.run 4 (pc' := 155) (lv' := [(7, .int v4), (6, .int v3), (5, .int v2), (4, .ref s0), (0, .ref P), (1, .int a1), (3, .int a3)]) (st' := [.int (1 : Int32), .int v4, .int v3, .int v2, .ref (P + 20 + 1)]) rfl) ?_
        refine Tt.callV (As := [.int v2, .int v3, .int v4, .int (1 : Int32)]) (rest := []) (c_X3_countCircle g l hl (P + 20 + 1) v2 v3 v4 (1 : Int32) (fmk_2_0 (fmk_6_1 hP)) M w) (fmk_2_0 (fmk_6_1 hP)) (by decide) rfl rfl cw_X3_countCircle fw613 pn_X3_countCircle (Nat.le_of_ble_eq_true rfl) (Nat.le_of_ble_eq_true rfl) (Nat.le_of_ble_eq_true rfl) rfl (fun v12 => (?_ : Tt g l z_X6_triangle (exI M w) _ 158 [(7, .int v4), (6, .int v3), (5, .int v2), (4, .ref s0), (0, .ref P), (1, .int a1), (3, .int a3)] [.int v12] (M, w)))
        exact Tt.ret (Tr.iret rfl rfl)
      refine Tt.ite (fun hs_10 => ?_) (fun hs_10 => ?_)
      · refine Tt.go (fun _ => Tr.tsIn (k := 5) (off := 86) (tgt := 159) rfl (by decide) (by decide) rfl (by decide) hs_10) ?_
        refine Tt.go (fun _ => Tr.run 1 (pc' := 160) (lv' := [(7, .int v4), (6, .int v3), (5, .int v2), (4, .ref s0), (0, .ref P), (1, .int a1), (3, .int a3)]) (st' := [.ref P]) rfl) ?_
        refine Tt.go (fun _ => Tr.get fmc6 hP rfl fw268 (k := 1) (by decide) rfl) (?_ : Tt g l z_X6_triangle (exI M w) _ 163 [(7, .int v4), (6, .int v3), (5, .int v2), (4, .ref s0), (0, .ref P), (1, .int a1), (3, .int a3)] [.ref (P + 20)] (M, w))
        refine Tt.go (fun _ => Tr.getN fmc2 (fmk_6_1 hP) rfl nw186 (k := 0) (by decide) rfl) (?_ : Tt g l z_X6_triangle (exI M w) _ 166 [(7, .int v4), (6, .int v3), (5, .int v2), (4, .ref s0), (0, .ref P), (1, .int a1), (3, .int a3)] [.ref (P + 20 + 1)] (M, w))
        refine Tt.go (fun _ => Tr.run 4 (pc' := 173) (lv' := [(7, .int v4), (6, .int v3), (5, .int v2), (4, .ref s0), (0, .ref P), (1, .int a1), (3, .int a3)]) (st' := [.int (0 : Int32), .int v4, .int v3, .int v2, .ref (P + 20 + 1)]) rfl) ?_
        refine Tt.callV (As := [.int v2, .int v3, .int v4, .int (0 : Int32)]) (rest := []) (c_X3_countCircle g l hl (P + 20 + 1) v2 v3 v4 (0 : Int32) (fmk_2_0 (fmk_6_1 hP)) M w) (fmk_2_0 (fmk_6_1 hP)) (by decide) rfl rfl cw_X3_countCircle fw613 pn_X3_countCircle (Nat.le_of_ble_eq_true rfl) (Nat.le_of_ble_eq_true rfl) (Nat.le_of_ble_eq_true rfl) rfl (fun v13 => (?_ : Tt g l z_X6_triangle (exI M w) _ 176 [(7, .int v4), (6, .int v3), (5, .int v2), (4, .ref s0), (0, .ref P), (1, .int a1), (3, .int a3)] [.int v13] (M, w)))
        exact Tt.ret (Tr.iret rfl rfl)
      refine Tt.go (fun _ => Tr.tsOut (tgt := 177) rfl (fm_swd (n := 6) (by decide) (fun j hj => match j, hj with | 0, _ => hs_5 | 1, _ => hs_6 | 2, _ => hs_7 | 3, _ => hs_8 | 4, _ => hs_9 | 5, _ => hs_10 | j + 6, hj => absurd hj (by omega))) (by decide)) ?_
      refine Tt.go (fun _ => Tr.run 2 (pc' := 180) (lv' := [(7, .int v4), (6, .int v3), (5, .int v2), (4, .ref s0), (0, .ref P), (1, .int a1), (3, .int a3)]) (st' := [.int a1, .ref s0]) rfl) ?_
      refine Tt.callV (As := [.int a1]) (rest := []) (c_X1_beside g l hl s0 a1 hs0 M w) hs0 (by decide) rfl rfl cw_X1_beside fw618 pn_X1_beside (Nat.le_of_ble_eq_true rfl) (Nat.le_of_ble_eq_true rfl) (Nat.le_of_ble_eq_true rfl) rfl (fun v14 => (?_ : Tt g l z_X6_triangle (exI M w) _ 183 [(7, .int v4), (6, .int v3), (5, .int v2), (4, .ref s0), (0, .ref P), (1, .int a1), (3, .int a3)] [.int v14] (M, w)))
      exact Tt.ret (Tr.iret rfl rfl)
    · refine Tt.go (fun _ => Tr.sub (lv' := []) [] rfl) ?_
      exact t_X6_triangle_40 g l hl P a1 a2 a3 hP w M
def f_X6_triangle (P : Nat) (a1 : Int32) (a2 : Int32) (a3 : Int32) (M : fm_Mem) : Option (Nat ⊕ Int32) := if a2 = 0 then (f_X6_triangle_21 P a1 a2 a3 (P + 20 + 6) M) else (f_X6_triangle_21 P a1 a2 a3 (P + 20 + 11) M)
set_option maxRecDepth 100000 in
set_option maxHeartbeats 4000000 in
theorem t_X6_triangle (g : fm_G) (l : Launch) (hl : l.stackTraces = false) (P : Nat) (a1 : Int32) (a2 : Int32) (a3 : Int32) (hP : fm_kd g P = 6) (M : fm_Mem) (w : fm_W) : Tt g l z_X6_triangle (exI M w) (f_X6_triangle P a1 a2 a3 M) 0 [(0, .ref P), (1, .int a1), (2, .int a2), (3, .int a3)] [] (M, w) := by
  rw [f_X6_triangle]
  refine Tt.go (fun _ => Tr.run 1 (pc' := 1) (lv' := [(0, .ref P), (1, .int a1), (2, .int a2), (3, .int a3)]) (st' := [.int a2]) rfl) ?_
  refine Tt.if_eq (tgt := 14) rfl (by decide) ?_ ?_
  · refine Tt.go (fun _ => Tr.run 1 (pc' := 15) (lv' := [(0, .ref P), (1, .int a1), (2, .int a2), (3, .int a3)]) (st' := [.ref P]) rfl) ?_
    refine Tt.go (fun _ => Tr.get fmc6 hP rfl fw268 (k := 1) (by decide) rfl) (?_ : Tt g l z_X6_triangle (exI M w) _ 18 [(0, .ref P), (1, .int a1), (2, .int a2), (3, .int a3)] [.ref (P + 20)] (M, w))
    refine Tt.go (fun _ => Tr.getN fmc2 (fmk_6_1 hP) rfl nw189 (k := 1) (by decide) rfl) (?_ : Tt g l z_X6_triangle (exI M w) _ 21 [(0, .ref P), (1, .int a1), (2, .int a2), (3, .int a3)] [.ref (P + 20 + 6)] (M, w))
    refine Tt.go (fun _ => Tr.sub (lv' := [(0, .ref P), (1, .int a1), (3, .int a3)]) [0, 1, 3] rfl) ?_
    exact t_X6_triangle_21 g l hl P a1 a2 a3 hP w (P + 20 + 6) (fmk_2_1 (fmk_6_1 hP)) M
  · refine Tt.go (fun _ => Tr.run 1 (pc' := 5) (lv' := [(0, .ref P), (1, .int a1), (2, .int a2), (3, .int a3)]) (st' := [.ref P]) rfl) ?_
    refine Tt.go (fun _ => Tr.get fmc6 hP rfl fw268 (k := 1) (by decide) rfl) (?_ : Tt g l z_X6_triangle (exI M w) _ 8 [(0, .ref P), (1, .int a1), (2, .int a2), (3, .int a3)] [.ref (P + 20)] (M, w))
    refine Tt.go (fun _ => Tr.getN fmc2 (fmk_6_1 hP) rfl nw191 (k := 2) (by decide) rfl) (?_ : Tt g l z_X6_triangle (exI M w) _ 11 [(0, .ref P), (1, .int a1), (2, .int a2), (3, .int a3)] [.ref (P + 20 + 11)] (M, w))
    refine Tt.go (fun _ => Tr.run 1 (pc' := 21) (lv' := [(0, .ref P), (1, .int a1), (2, .int a2), (3, .int a3)]) (st' := [.ref (P + 20 + 11)]) rfl) ?_
    refine Tt.go (fun _ => Tr.sub (lv' := [(0, .ref P), (1, .int a1), (3, .int a3)]) [0, 1, 3] rfl) ?_
    exact t_X6_triangle_21 g l hl P a1 a2 a3 hP w (P + 20 + 11) (fmk_2_2 (fmk_6_1 hP)) M
theorem c_X6_triangle (g : fm_G) (l : Launch) (hl : l.stackTraces = false) (P : Nat) (a1 : Int32) (a2 : Int32) (a3 : Int32) (hP : fm_kd g P = 6) (M : fm_Mem) (w : fm_W) : ∀ r, f_X6_triangle P a1 a2 a3 M = some r → fC g l z_X6_triangle [.ref P, .int a1, .int a2, .int a3] (M, w) (exI M w r) := fun r hr => fC.of (by decide) rfl o_X6_triangle hl (Nat.le_of_ble_eq_true rfl) (t_X6_triangle g l hl P a1 a2 a3 hP M w r hr)
def k_X6_circle : List (Nat × Instr × Nat) := [(0, .aload_n 0, 1), (1, .iload_n 1, 1), (2, .invokevirtual 113, 3), (5, .aload_n 0, 1), (6, .iload_n 2, 1), (7, .invokevirtual 113, 3), (10, .aload_n 0, 1), (11, .iload_n 3, 1), (12, .invokevirtual 113, 3), (15, .aload_n 0, 1), (16, .iload 4, 2), (18, .invokevirtual 113, 3), (21, .aload_n 0, 1), (22, .getfield 19, 3), (25, .getfield 64, 3), (28, .astore 5, 2), (30, .aload 5, 2), (32, .iload_n 1, 1), (33, .iload_n 2, 1), (34, .iload_n 3, 1), (35, .invokevirtual 149, 3), (38, .ifCond .ne 5, 3), (41, .iconst 2, 1), (42, .ireturn, 1), (43, .aload 5, 2), (45, .iload_n 1, 1), (46, .iload_n 2, 1), (47, .iload_n 3, 1), (48, .aload 5, 2), (50, .iload 4, 2), (52, .invokevirtual 116, 3), (55, .aload 5, 2), (57, .iload 4, 2), (59, .invokevirtual 119, 3), (62, .invokevirtual 165, 3), (65, .ireturn, 1)]
def z_X6_circle : fm_Y := (yX6_circle, RX6, cX6_circle, 6, (some .int), k_X6_circle, 7, 110)
theorem o_X6_circle : fm_dec z_X6_circle := (by decide +kernel : ∀ q ∈ k_X6_circle, decode cX6_circle q.1 = .ok q.2)
theorem cw_X6_circle : fm_cwV z_X6_circle := ⟨⟨lw_in 845 (by decide +kernel) (by decide +kernel), lw_in 91 (by decide +kernel) (by decide +kernel), by decide, by decide⟩, lw_in 843 (by decide +kernel) (by decide +kernel), lw_in 844 (by decide +kernel) (by decide +kernel)⟩
theorem pn_X6_circle : (parseMethodDescriptor z_X6_circle.1.desc).map (fun d => d.parameters.length) = some 4 := by decide +kernel
def f_X6_circle (P : Nat) (a1 : Int32) (a2 : Int32) (a3 : Int32) (a4 : Int32) (M : fm_Mem) : Option (Nat ⊕ Int32) := fm_bx (f_X6_needPoint P a1 M) (fun v1 => fm_bx (f_X6_needPoint P a2 M) (fun v2 => fm_bx (f_X6_needPoint P a3 M) (fun v3 => fm_bx (f_X6_needPoint P a4 M) (fun v4 => Option.bind (f_X3_turn (P + 20 + 1) a1 a2 a3 M) (fun v5 => if v5 = 0 then (some (.inr ((2 : Int32)))) else (Option.bind (f_X3_x (P + 20 + 1) a4 M) (fun v6 => Option.bind (f_X3_y (P + 20 + 1) a4 M) (fun v7 => Option.bind (f_X3_circleSide (P + 20 + 1) a1 a2 a3 v6 v7 M) (fun v8 => some (.inr (v8)))))))))))
set_option maxRecDepth 100000 in
set_option maxHeartbeats 4000000 in
theorem t_X6_circle (g : fm_G) (l : Launch) (hl : l.stackTraces = false) (P : Nat) (a1 : Int32) (a2 : Int32) (a3 : Int32) (a4 : Int32) (hP : fm_kd g P = 6) (M : fm_Mem) (w : fm_W) : Tt g l z_X6_circle (exI M w) (f_X6_circle P a1 a2 a3 a4 M) 0 [(0, .ref P), (1, .int a1), (2, .int a2), (3, .int a3), (4, .int a4)] [] (M, w) := by
  rw [f_X6_circle]
  refine Tt.go (fun _ => Tr.run 2 (pc' := 2) (lv' := [(0, .ref P), (1, .int a1), (2, .int a2), (3, .int a3), (4, .int a4)]) (st' := [.int a1, .ref P]) rfl) ?_
  refine Tt.callX (As := [.int a1]) (rest := []) (c_X6_needPoint g l hl P a1 hP M w) hP (by decide) rfl rfl cw_X6_needPoint fw565 pn_X6_needPoint (Nat.le_of_ble_eq_true rfl) (Nat.le_of_ble_eq_true rfl) (Nat.le_of_ble_eq_true rfl) rfl (fun v1 => (?_ : Tt g l z_X6_circle (exI M w) _ 5 [(0, .ref P), (1, .int a1), (2, .int a2), (3, .int a3), (4, .int a4)] [] (M, w)))
  refine Tt.go (fun _ => Tr.run 2 (pc' := 7) (lv' := [(0, .ref P), (1, .int a1), (2, .int a2), (3, .int a3), (4, .int a4)]) (st' := [.int a2, .ref P]) rfl) ?_
  refine Tt.callX (As := [.int a2]) (rest := []) (c_X6_needPoint g l hl P a2 hP M w) hP (by decide) rfl rfl cw_X6_needPoint fw565 pn_X6_needPoint (Nat.le_of_ble_eq_true rfl) (Nat.le_of_ble_eq_true rfl) (Nat.le_of_ble_eq_true rfl) rfl (fun v2 => (?_ : Tt g l z_X6_circle (exI M w) _ 10 [(0, .ref P), (1, .int a1), (2, .int a2), (3, .int a3), (4, .int a4)] [] (M, w)))
  refine Tt.go (fun _ => Tr.run 2 (pc' := 12) (lv' := [(0, .ref P), (1, .int a1), (2, .int a2), (3, .int a3), (4, .int a4)]) (st' := [.int a3, .ref P]) rfl) ?_
  refine Tt.callX (As := [.int a3]) (rest := []) (c_X6_needPoint g l hl P a3 hP M w) hP (by decide) rfl rfl cw_X6_needPoint fw565 pn_X6_needPoint (Nat.le_of_ble_eq_true rfl) (Nat.le_of_ble_eq_true rfl) (Nat.le_of_ble_eq_true rfl) rfl (fun v3 => (?_ : Tt g l z_X6_circle (exI M w) _ 15 [(0, .ref P), (1, .int a1), (2, .int a2), (3, .int a3), (4, .int a4)] [] (M, w)))
  refine Tt.go (fun _ => Tr.run 2 (pc' := 18) (lv' := [(0, .ref P), (1, .int a1), (2, .int a2), (3, .int a3), (4, .int a4)]) (st' := [.int a4, .ref P]) rfl) ?_
  refine Tt.callX (As := [.int a4]) (rest := []) (c_X6_needPoint g l hl P a4 hP M w) hP (by decide) rfl rfl cw_X6_needPoint fw565 pn_X6_needPoint (Nat.le_of_ble_eq_true rfl) (Nat.le_of_ble_eq_true rfl) (Nat.le_of_ble_eq_true rfl) rfl (fun v4 => (?_ : Tt g l z_X6_circle (exI M w) _ 21 [(0, .ref P), (1, .int a1), (2, .int a2), (3, .int a3), (4, .int a4)] [] (M, w)))
  refine Tt.go (fun _ => Tr.run 1 (pc' := 22) (lv' := [(0, .ref P), (1, .int a1), (2, .int a2), (3, .int a3), (4, .int a4)]) (st' := [.ref P]) rfl) ?_
  refine Tt.go (fun _ => Tr.get fmc6 hP rfl fw268 (k := 1) (by decide) rfl) (?_ : Tt g l z_X6_circle (exI M w) _ 25 [(0, .ref P), (1, .int a1), (2, .int a2), (3, .int a3), (4, .int a4)] [.ref (P + 20)] (M, w))
  refine Tt.go (fun _ => Tr.getN fmc2 (fmk_6_1 hP) rfl nw186 (k := 0) (by decide) rfl) (?_ : Tt g l z_X6_circle (exI M w) _ 28 [(0, .ref P), (1, .int a1), (2, .int a2), (3, .int a3), (4, .int a4)] [.ref (P + 20 + 1)] (M, w))
  refine Tt.go (fun _ => Tr.run 5 (pc' := 35) (lv' := [(5, .ref (P + 20 + 1)), (0, .ref P), (1, .int a1), (2, .int a2), (3, .int a3), (4, .int a4)]) (st' := [.int a3, .int a2, .int a1, .ref (P + 20 + 1)]) rfl) ?_
  refine Tt.callV (As := [.int a1, .int a2, .int a3]) (rest := []) (c_X3_turn g l hl (P + 20 + 1) a1 a2 a3 (fmk_2_0 (fmk_6_1 hP)) M w) (fmk_2_0 (fmk_6_1 hP)) (by decide) rfl rfl cw_X3_turn fw338 pn_X3_turn (Nat.le_of_ble_eq_true rfl) (Nat.le_of_ble_eq_true rfl) (Nat.le_of_ble_eq_true rfl) rfl (fun v5 => (?_ : Tt g l z_X6_circle (exI M w) _ 38 [(5, .ref (P + 20 + 1)), (0, .ref P), (1, .int a1), (2, .int a2), (3, .int a3), (4, .int a4)] [.int v5] (M, w)))
  refine Tt.if_ne (tgt := 43) rfl (by decide) ?_ ?_
  · refine Tt.go (fun _ => Tr.run 1 (pc' := 42) (lv' := [(5, .ref (P + 20 + 1)), (0, .ref P), (1, .int a1), (2, .int a2), (3, .int a3), (4, .int a4)]) (st' := [.int (2 : Int32)]) rfl) ?_
    exact Tt.ret (Tr.iret rfl rfl)
  · refine Tt.go (fun _ => Tr.run 6 (pc' := 52) (lv' := [(5, .ref (P + 20 + 1)), (0, .ref P), (1, .int a1), (2, .int a2), (3, .int a3), (4, .int a4)]) (st' := [.int a4, .ref (P + 20 + 1), .int a3, .int a2, .int a1, .ref (P + 20 + 1)]) rfl) ?_
    refine Tt.callV (As := [.int a4]) (rest := [.int a3, .int a2, .int a1, .ref (P + 20 + 1)]) (c_X3_x g l hl (P + 20 + 1) a4 (fmk_2_0 (fmk_6_1 hP)) M w) (fmk_2_0 (fmk_6_1 hP)) (by decide) rfl rfl cw_X3_x fw584 pn_X3_x (Nat.le_of_ble_eq_true rfl) (Nat.le_of_ble_eq_true rfl) (Nat.le_of_ble_eq_true rfl) rfl (fun v6 => (?_ : Tt g l z_X6_circle (exI M w) _ 55 [(5, .ref (P + 20 + 1)), (0, .ref P), (1, .int a1), (2, .int a2), (3, .int a3), (4, .int a4)] [.int v6, .int a3, .int a2, .int a1, .ref (P + 20 + 1)] (M, w)))
    refine Tt.go (fun _ => Tr.run 2 (pc' := 59) (lv' := [(5, .ref (P + 20 + 1)), (0, .ref P), (1, .int a1), (2, .int a2), (3, .int a3), (4, .int a4)]) (st' := [.int a4, .ref (P + 20 + 1), .int v6, .int a3, .int a2, .int a1, .ref (P + 20 + 1)]) rfl) ?_
    refine Tt.callV (As := [.int a4]) (rest := [.int v6, .int a3, .int a2, .int a1, .ref (P + 20 + 1)]) (c_X3_y g l hl (P + 20 + 1) a4 (fmk_2_0 (fmk_6_1 hP)) M w) (fmk_2_0 (fmk_6_1 hP)) (by decide) rfl rfl cw_X3_y fw585 pn_X3_y (Nat.le_of_ble_eq_true rfl) (Nat.le_of_ble_eq_true rfl) (Nat.le_of_ble_eq_true rfl) rfl (fun v7 => (?_ : Tt g l z_X6_circle (exI M w) _ 62 [(5, .ref (P + 20 + 1)), (0, .ref P), (1, .int a1), (2, .int a2), (3, .int a3), (4, .int a4)] [.int v7, .int v6, .int a3, .int a2, .int a1, .ref (P + 20 + 1)] (M, w)))
    refine Tt.callV (As := [.int a1, .int a2, .int a3, .int v6, .int v7]) (rest := []) (c_X3_circleSide g l hl (P + 20 + 1) a1 a2 a3 v6 v7 (fmk_2_0 (fmk_6_1 hP)) M w) (fmk_2_0 (fmk_6_1 hP)) (by decide) rfl rfl cw_X3_circleSide fw846 pn_X3_circleSide (Nat.le_of_ble_eq_true rfl) (Nat.le_of_ble_eq_true rfl) (Nat.le_of_ble_eq_true rfl) rfl (fun v8 => (?_ : Tt g l z_X6_circle (exI M w) _ 65 [(5, .ref (P + 20 + 1)), (0, .ref P), (1, .int a1), (2, .int a2), (3, .int a3), (4, .int a4)] [.int v8] (M, w)))
    exact Tt.ret (Tr.iret rfl rfl)
theorem c_X6_circle (g : fm_G) (l : Launch) (hl : l.stackTraces = false) (P : Nat) (a1 : Int32) (a2 : Int32) (a3 : Int32) (a4 : Int32) (hP : fm_kd g P = 6) (M : fm_Mem) (w : fm_W) : ∀ r, f_X6_circle P a1 a2 a3 a4 M = some r → fC g l z_X6_circle [.ref P, .int a1, .int a2, .int a3, .int a4] (M, w) (exI M w r) := fun r hr => fC.of (by decide) rfl o_X6_circle hl (Nat.le_of_ble_eq_true rfl) (t_X6_circle g l hl P a1 a2 a3 a4 hP M w r hr)
def k_X6_why : List (Nat × Instr × Nat) := [(0, .aload_n 0, 1), (1, .iload_n 1, 1), (2, .invokevirtual 113, 3), (5, .aload_n 0, 1), (6, .iload_n 2, 1), (7, .invokevirtual 113, 3), (10, .aload_n 0, 1), (11, .getfield 19, 3), (14, .iload_n 1, 1), (15, .iload_n 2, 1), (16, .invokevirtual 169, 3), (19, .ireturn, 1)]
def z_X6_why : fm_Y := (yX6_why, RX6, cX6_why, 3, (some .int), k_X6_why, 7, 110)
theorem o_X6_why : fm_dec z_X6_why := (by decide +kernel : ∀ q ∈ k_X6_why, decode cX6_why q.1 = .ok q.2)
theorem cw_X6_why : fm_cwV z_X6_why := ⟨⟨lw_in 853 (by decide +kernel) (by decide +kernel), lw_in 91 (by decide +kernel) (by decide +kernel), by decide, by decide⟩, lw_in 851 (by decide +kernel) (by decide +kernel), lw_in 852 (by decide +kernel) (by decide +kernel)⟩
theorem pn_X6_why : (parseMethodDescriptor z_X6_why.1.desc).map (fun d => d.parameters.length) = some 2 := by decide +kernel
def f_X6_why (P : Nat) (a1 : Int32) (a2 : Int32) (M : fm_Mem) : Option (Nat ⊕ Int32) := fm_bx (f_X6_needPoint P a1 M) (fun v1 => fm_bx (f_X6_needPoint P a2 M) (fun v2 => Option.bind (f_X2_refusal (P + 20) a1 a2 M) (fun v3 => some (.inr (v3)))))
set_option maxRecDepth 100000 in
set_option maxHeartbeats 4000000 in
theorem t_X6_why (g : fm_G) (l : Launch) (hl : l.stackTraces = false) (P : Nat) (a1 : Int32) (a2 : Int32) (hP : fm_kd g P = 6) (M : fm_Mem) (w : fm_W) : Tt g l z_X6_why (exI M w) (f_X6_why P a1 a2 M) 0 [(0, .ref P), (1, .int a1), (2, .int a2)] [] (M, w) := by
  rw [f_X6_why]
  refine Tt.go (fun _ => Tr.run 2 (pc' := 2) (lv' := [(0, .ref P), (1, .int a1), (2, .int a2)]) (st' := [.int a1, .ref P]) rfl) ?_
  refine Tt.callX (As := [.int a1]) (rest := []) (c_X6_needPoint g l hl P a1 hP M w) hP (by decide) rfl rfl cw_X6_needPoint fw565 pn_X6_needPoint (Nat.le_of_ble_eq_true rfl) (Nat.le_of_ble_eq_true rfl) (Nat.le_of_ble_eq_true rfl) rfl (fun v1 => (?_ : Tt g l z_X6_why (exI M w) _ 5 [(0, .ref P), (1, .int a1), (2, .int a2)] [] (M, w)))
  refine Tt.go (fun _ => Tr.run 2 (pc' := 7) (lv' := [(0, .ref P), (1, .int a1), (2, .int a2)]) (st' := [.int a2, .ref P]) rfl) ?_
  refine Tt.callX (As := [.int a2]) (rest := []) (c_X6_needPoint g l hl P a2 hP M w) hP (by decide) rfl rfl cw_X6_needPoint fw565 pn_X6_needPoint (Nat.le_of_ble_eq_true rfl) (Nat.le_of_ble_eq_true rfl) (Nat.le_of_ble_eq_true rfl) rfl (fun v2 => (?_ : Tt g l z_X6_why (exI M w) _ 10 [(0, .ref P), (1, .int a1), (2, .int a2)] [] (M, w)))
  refine Tt.go (fun _ => Tr.run 1 (pc' := 11) (lv' := [(0, .ref P), (1, .int a1), (2, .int a2)]) (st' := [.ref P]) rfl) ?_
  refine Tt.go (fun _ => Tr.get fmc6 hP rfl fw268 (k := 1) (by decide) rfl) (?_ : Tt g l z_X6_why (exI M w) _ 14 [(0, .ref P), (1, .int a1), (2, .int a2)] [.ref (P + 20)] (M, w))
  refine Tt.go (fun _ => Tr.run 2 (pc' := 16) (lv' := [(0, .ref P), (1, .int a1), (2, .int a2)]) (st' := [.int a2, .int a1, .ref (P + 20)]) rfl) ?_
  refine Tt.callV (As := [.int a1, .int a2]) (rest := []) (c_X2_refusal g l hl (P + 20) a1 a2 (fmk_6_1 hP) M w) (fmk_6_1 hP) (by decide) rfl rfl cw_X2_refusal fw854 pn_X2_refusal (Nat.le_of_ble_eq_true rfl) (Nat.le_of_ble_eq_true rfl) (Nat.le_of_ble_eq_true rfl) rfl (fun v3 => (?_ : Tt g l z_X6_why (exI M w) _ 19 [(0, .ref P), (1, .int a1), (2, .int a2)] [.int v3] (M, w)))
  exact Tt.ret (Tr.iret rfl rfl)
theorem c_X6_why (g : fm_G) (l : Launch) (hl : l.stackTraces = false) (P : Nat) (a1 : Int32) (a2 : Int32) (hP : fm_kd g P = 6) (M : fm_Mem) (w : fm_W) : ∀ r, f_X6_why P a1 a2 M = some r → fC g l z_X6_why [.ref P, .int a1, .int a2] (M, w) (exI M w r) := fun r hr => fC.of (by decide) rfl o_X6_why hl (Nat.le_of_ble_eq_true rfl) (t_X6_why g l hl P a1 a2 hP M w r hr)
def k_X6_badEdge : List (Nat × Instr × Nat) := [(0, .aload_n 0, 1), (1, .getfield 19, 3), (4, .invokevirtual 173, 3), (7, .istore_n 1, 1), (8, .iload_n 1, 1), (9, .ifCond .ge 11, 3), (12, .new 176, 3), (15, .dup, 1), (16, .invokespecial 178, 3), (19, .athrow, 1), (20, .iload_n 1, 1), (21, .ireturn, 1)]
def z_X6_badEdge : fm_Y := (yX6_badEdge, RX6, cX6_badEdge, 2, (some .int), k_X6_badEdge, 6, 115)
theorem o_X6_badEdge : fm_dec z_X6_badEdge := (by decide +kernel : ∀ q ∈ k_X6_badEdge, decode cX6_badEdge q.1 = .ok q.2)
theorem cw_X6_badEdge : fm_cwV z_X6_badEdge := ⟨⟨lw_in 862 (by decide +kernel) (by decide +kernel), lw_in 91 (by decide +kernel) (by decide +kernel), by decide, by decide⟩, lw_in 860 (by decide +kernel) (by decide +kernel), lw_in 861 (by decide +kernel) (by decide +kernel)⟩
theorem pn_X6_badEdge : (parseMethodDescriptor z_X6_badEdge.1.desc).map (fun d => d.parameters.length) = some 0 := by decide +kernel
def f_X6_badEdge (P : Nat) (M : fm_Mem) : Option (Nat ⊕ Int32) := Option.bind (f_X2_firstBad (P + 20) M) (fun v1 => if 0 ≤ v1 then (some (.inr (v1))) else (some (.inl 3)))
set_option maxRecDepth 100000 in
set_option maxHeartbeats 4000000 in
theorem t_X6_badEdge (g : fm_G) (l : Launch) (hl : l.stackTraces = false) (P : Nat) (hP : fm_kd g P = 6) (M : fm_Mem) (w : fm_W) : Tt g l z_X6_badEdge (exI M w) (f_X6_badEdge P M) 0 [(0, .ref P)] [] (M, w) := by
  rw [f_X6_badEdge]
  refine Tt.go (fun _ => Tr.run 1 (pc' := 1) (lv' := [(0, .ref P)]) (st' := [.ref P]) rfl) ?_
  refine Tt.go (fun _ => Tr.get fmc6 hP rfl fw268 (k := 1) (by decide) rfl) (?_ : Tt g l z_X6_badEdge (exI M w) _ 4 [(0, .ref P)] [.ref (P + 20)] (M, w))
  refine Tt.callV (As := []) (rest := []) (c_X2_firstBad g l hl (P + 20) (fmk_6_1 hP) M w) (fmk_6_1 hP) (by decide) rfl rfl cw_X2_firstBad fw863 pn_X2_firstBad (Nat.le_of_ble_eq_true rfl) (Nat.le_of_ble_eq_true rfl) (Nat.le_of_ble_eq_true rfl) rfl (fun v1 => (?_ : Tt g l z_X6_badEdge (exI M w) _ 7 [(0, .ref P)] [.int v1] (M, w)))
  refine Tt.go (fun _ => Tr.run 2 (pc' := 9) (lv' := [(1, .int v1), (0, .ref P)]) (st' := [.int v1]) rfl) ?_
  refine Tt.if_ge (tgt := 20) rfl (by decide) ?_ ?_
  · refine Tt.go (fun _ => Tr.run 1 (pc' := 21) (lv' := [(1, .int v1), (0, .ref P)]) (st' := [.int v1]) rfl) ?_
    exact Tt.ret (Tr.iret rfl rfl)
  · exact Tt.ret (Tr.thr (k := 3) fx3 rfl rfl rfl rfl (Nat.le_of_ble_eq_true rfl) (Nat.le_of_ble_eq_true rfl))
theorem c_X6_badEdge (g : fm_G) (l : Launch) (hl : l.stackTraces = false) (P : Nat) (hP : fm_kd g P = 6) (M : fm_Mem) (w : fm_W) : ∀ r, f_X6_badEdge P M = some r → fC g l z_X6_badEdge [.ref P] (M, w) (exI M w r) := fun r hr => fC.of (by decide) rfl o_X6_badEdge hl (Nat.le_of_ble_eq_true rfl) (t_X6_badEdge g l hl P hP M w r hr)
def k_X6_needAsked : List (Nat × Instr × Nat) := [(0, .iload_n 1, 1), (1, .sipush (-1000), 3), (4, .if_icmp .lt 24, 3), (7, .iload_n 1, 1), (8, .sipush 1000, 3), (11, .if_icmp .gt 17, 3), (14, .iload_n 2, 1), (15, .sipush (-1000), 3), (18, .if_icmp .lt 10, 3), (21, .iload_n 2, 1), (22, .sipush 1000, 3), (25, .if_icmp .le 11, 3), (28, .new 46, 3), (31, .dup, 1), (32, .invokespecial 48, 3), (35, .athrow, 1), (36, .return_, 1)]
def z_X6_needAsked : fm_Y := (yX6_needAsked, RX6, cX6_needAsked, 3, none, k_X6_needAsked, 6, 89)
theorem o_X6_needAsked : fm_dec z_X6_needAsked := (by decide +kernel : ∀ q ∈ k_X6_needAsked, decode cX6_needAsked q.1 = .ok q.2)
theorem cw_X6_needAsked : fm_cwV z_X6_needAsked := ⟨⟨lw_in 892 (by decide +kernel) (by decide +kernel), lw_in 91 (by decide +kernel) (by decide +kernel), by decide, by decide⟩, lw_in 891 (by decide +kernel) (by decide +kernel), lw_in 23 (by decide +kernel) (by decide +kernel)⟩
theorem pn_X6_needAsked : (parseMethodDescriptor z_X6_needAsked.1.desc).map (fun d => d.parameters.length) = some 2 := by decide +kernel
def f_X6_needAsked_28 (P : Nat) (a1 : Int32) (a2 : Int32)  (M : fm_Mem) : Option (Nat ⊕ Unit) := some (.inl 0)
set_option maxRecDepth 100000 in
set_option maxHeartbeats 4000000 in
theorem t_X6_needAsked_28 (g : fm_G) (l : Launch) (hl : l.stackTraces = false) (P : Nat) (a1 : Int32) (a2 : Int32) (hP : fm_kd g P = 6) (w : fm_W)    (M : fm_Mem) : Tt g l z_X6_needAsked (exV M w) (f_X6_needAsked_28 P a1 a2   M) 28 [] [] (M, w) := by
  rw [f_X6_needAsked_28]
  exact Tt.ret (Tr.thr (k := 0) fx0 rfl rfl rfl rfl (Nat.le_of_ble_eq_true rfl) (Nat.le_of_ble_eq_true rfl))
def f_X6_needAsked (P : Nat) (a1 : Int32) (a2 : Int32) (M : fm_Mem) : Option (Nat ⊕ Unit) := if a1 < (-1000 : Int32) then (f_X6_needAsked_28 P a1 a2 M) else (if (1000 : Int32) < a1 then (f_X6_needAsked_28 P a1 a2 M) else (if a2 < (-1000 : Int32) then (f_X6_needAsked_28 P a1 a2 M) else (if a2 ≤ (1000 : Int32) then (some (.inr (()))) else (f_X6_needAsked_28 P a1 a2 M))))
set_option maxRecDepth 100000 in
set_option maxHeartbeats 4000000 in
theorem t_X6_needAsked (g : fm_G) (l : Launch) (hl : l.stackTraces = false) (P : Nat) (a1 : Int32) (a2 : Int32) (hP : fm_kd g P = 6) (M : fm_Mem) (w : fm_W) : Tt g l z_X6_needAsked (exV M w) (f_X6_needAsked P a1 a2 M) 0 [(0, .ref P), (1, .int a1), (2, .int a2)] [] (M, w) := by
  rw [f_X6_needAsked]
  refine Tt.go (fun _ => Tr.run 2 (pc' := 4) (lv' := [(0, .ref P), (1, .int a1), (2, .int a2)]) (st' := [.int (-1000 : Int32), .int a1]) rfl) ?_
  refine Tt.ic_lt (tgt := 28) rfl (by decide) ?_ ?_
  · refine Tt.go (fun _ => Tr.sub (lv' := []) [] rfl) ?_
    exact t_X6_needAsked_28 g l hl P a1 a2 hP w M
  · refine Tt.go (fun _ => Tr.run 2 (pc' := 11) (lv' := [(0, .ref P), (1, .int a1), (2, .int a2)]) (st' := [.int (1000 : Int32), .int a1]) rfl) ?_
    refine Tt.ic_gt (tgt := 28) rfl (by decide) ?_ ?_
    · refine Tt.go (fun _ => Tr.sub (lv' := []) [] rfl) ?_
      exact t_X6_needAsked_28 g l hl P a1 a2 hP w M
    · refine Tt.go (fun _ => Tr.run 2 (pc' := 18) (lv' := [(0, .ref P), (1, .int a1), (2, .int a2)]) (st' := [.int (-1000 : Int32), .int a2]) rfl) ?_
      refine Tt.ic_lt (tgt := 28) rfl (by decide) ?_ ?_
      · refine Tt.go (fun _ => Tr.sub (lv' := []) [] rfl) ?_
        exact t_X6_needAsked_28 g l hl P a1 a2 hP w M
      · refine Tt.go (fun _ => Tr.run 2 (pc' := 25) (lv' := [(0, .ref P), (1, .int a1), (2, .int a2)]) (st' := [.int (1000 : Int32), .int a2]) rfl) ?_
        refine Tt.ic_le (tgt := 36) rfl (by decide) ?_ ?_
        · exact Tt.ret (Tr.vret rfl rfl)
        · refine Tt.go (fun _ => Tr.sub (lv' := []) [] rfl) ?_
          exact t_X6_needAsked_28 g l hl P a1 a2 hP w M
theorem c_X6_needAsked (g : fm_G) (l : Launch) (hl : l.stackTraces = false) (P : Nat) (a1 : Int32) (a2 : Int32) (hP : fm_kd g P = 6) (M : fm_Mem) (w : fm_W) : ∀ r, f_X6_needAsked P a1 a2 M = some r → fC g l z_X6_needAsked [.ref P, .int a1, .int a2] (M, w) (exV M w r) := fun r hr => fC.of (by decide) rfl o_X6_needAsked hl (Nat.le_of_ble_eq_true rfl) (t_X6_needAsked g l hl P a1 a2 hP M w r hr)
def k_X6_at : List (Nat × Instr × Nat) := [(0, .aload_n 0, 1), (1, .iload_n 1, 1), (2, .iload_n 2, 1), (3, .invokevirtual 179, 3), (6, .aload_n 0, 1), (7, .getfield 19, 3), (10, .getfield 75, 3), (13, .astore_n 3, 1), (14, .iconst 0, 1), (15, .istore 4, 2), (17, .iload 4, 2), (19, .aload_n 3, 1), (20, .invokevirtual 79, 3), (23, .if_icmp .ge 45, 3), (26, .aload_n 0, 1), (27, .getfield 19, 3), (30, .getfield 64, 3), (33, .aload_n 3, 1), (34, .iload 4, 2), (36, .invokevirtual 140, 3), (39, .aload_n 3, 1), (40, .iload 4, 2), (42, .invokevirtual 143, 3), (45, .aload_n 3, 1), (46, .iload 4, 2), (48, .invokevirtual 146, 3), (51, .iload_n 1, 1), (52, .iload_n 2, 1), (53, .invokevirtual 183, 3), (56, .ifCond .eq 6, 3), (59, .iload 4, 2), (61, .ireturn, 1), (62, .iinc 4 1, 3), (65, .goto (-48), 3), (68, .iconst (-1), 1), (69, .ireturn, 1)]
def z_X6_at : fm_Y := (yX6_at, RX6, cX6_at, 5, (some .int), k_X6_at, 7, 111)
theorem o_X6_at : fm_dec z_X6_at := (by decide +kernel : ∀ q ∈ k_X6_at, decode cX6_at q.1 = .ok q.2)
theorem cw_X6_at : fm_cwV z_X6_at := ⟨⟨lw_in 888 (by decide +kernel) (by decide +kernel), lw_in 91 (by decide +kernel) (by decide +kernel), by decide, by decide⟩, lw_in 886 (by decide +kernel) (by decide +kernel), lw_in 887 (by decide +kernel) (by decide +kernel)⟩
theorem pn_X6_at : (parseMethodDescriptor z_X6_at.1.desc).map (fun d => d.parameters.length) = some 2 := by decide +kernel
def f_X6_at_17 (P : Nat) (a1 : Int32) (a2 : Int32) : Nat → Int32 → fm_Mem → Option (Nat ⊕ Int32)
  | 0, _, _ => none
  | n + 1, x4, M => Option.bind (f_X1_size (P + 20 + 6) M) (fun v1 => if v1 ≤ x4 then (some (.inr ((-1 : Int32)))) else (Option.bind (f_X1_a (P + 20 + 6) x4 M) (fun v2 => Option.bind (f_X1_b (P + 20 + 6) x4 M) (fun v3 => Option.bind (f_X1_c (P + 20 + 6) x4 M) (fun v4 => Option.bind (f_X3_covers (P + 20 + 1) v2 v3 v4 a1 a2 M) (fun v5 => if v5 = 0 then (f_X6_at_17 P a1 a2 n (x4 + (1 : Int32)) M) else (some (.inr (x4)))))))))
set_option maxRecDepth 100000 in
set_option maxHeartbeats 4000000 in
theorem t_X6_at_17 (g : fm_G) (l : Launch) (hl : l.stackTraces = false) (P : Nat) (a1 : Int32) (a2 : Int32) (hP : fm_kd g P = 6) (w : fm_W)  : ∀ (n : Nat) (x4 : Int32)  (M : fm_Mem), Tt g l z_X6_at (exI M w) (f_X6_at_17 P a1 a2  n x4 M) 17 [(0, .ref P), (1, .int a1), (2, .int a2), (3, .ref (P + 20 + 6)), (4, .int x4)] [] (M, w) := by
  intro n
  induction n with
  | zero => intros; exact Tt.none
  | succ n ih =>
    intro x4  M
    rw [f_X6_at_17]
    refine Tt.go (fun _ => Tr.run 2 (pc' := 20) (lv' := [(0, .ref P), (1, .int a1), (2, .int a2), (3, .ref (P + 20 + 6)), (4, .int x4)]) (st' := [.ref (P + 20 + 6), .int x4]) rfl) ?_
    refine Tt.callV (As := []) (rest := [.int x4]) (c_X1_size g l hl (P + 20 + 6) (fmk_2_1 (fmk_6_1 hP)) M w) (fmk_2_1 (fmk_6_1 hP)) (by decide) rfl rfl cw_X1_size fw313 pn_X1_size (Nat.le_of_ble_eq_true rfl) (Nat.le_of_ble_eq_true rfl) (Nat.le_of_ble_eq_true rfl) rfl (fun v1 => (?_ : Tt g l z_X6_at (exI M w) _ 23 [(0, .ref P), (1, .int a1), (2, .int a2), (3, .ref (P + 20 + 6)), (4, .int x4)] [.int v1, .int x4] (M, w)))
    refine Tt.ic_ge (tgt := 68) rfl (by decide) ?_ ?_
    · refine Tt.go (fun _ => Tr.run 1 (pc' := 69) (lv' := [(0, .ref P), (1, .int a1), (2, .int a2), (3, .ref (P + 20 + 6)), (4, .int x4)]) (st' := [.int (-1 : Int32)]) rfl) ?_
      exact Tt.ret (Tr.iret rfl rfl)
    · refine Tt.go (fun _ => Tr.run 1 (pc' := 27) (lv' := [(0, .ref P), (1, .int a1), (2, .int a2), (3, .ref (P + 20 + 6)), (4, .int x4)]) (st' := [.ref P]) rfl) ?_
      refine Tt.go (fun _ => Tr.get fmc6 hP rfl fw268 (k := 1) (by decide) rfl) (?_ : Tt g l z_X6_at (exI M w) _ 30 [(0, .ref P), (1, .int a1), (2, .int a2), (3, .ref (P + 20 + 6)), (4, .int x4)] [.ref (P + 20)] (M, w))
      refine Tt.go (fun _ => Tr.getN fmc2 (fmk_6_1 hP) rfl nw186 (k := 0) (by decide) rfl) (?_ : Tt g l z_X6_at (exI M w) _ 33 [(0, .ref P), (1, .int a1), (2, .int a2), (3, .ref (P + 20 + 6)), (4, .int x4)] [.ref (P + 20 + 1)] (M, w))
      refine Tt.go (fun _ => Tr.run 2 (pc' := 36) (lv' := [(0, .ref P), (1, .int a1), (2, .int a2), (3, .ref (P + 20 + 6)), (4, .int x4)]) (st' := [.int x4, .ref (P + 20 + 6), .ref (P + 20 + 1)]) rfl) ?_
      refine Tt.callV (As := [.int x4]) (rest := [.ref (P + 20 + 1)]) (c_X1_a g l hl (P + 20 + 6) x4 (fmk_2_1 (fmk_6_1 hP)) M w) (fmk_2_1 (fmk_6_1 hP)) (by decide) rfl rfl cw_X1_a fw317 pn_X1_a (Nat.le_of_ble_eq_true rfl) (Nat.le_of_ble_eq_true rfl) (Nat.le_of_ble_eq_true rfl) rfl (fun v2 => (?_ : Tt g l z_X6_at (exI M w) _ 39 [(0, .ref P), (1, .int a1), (2, .int a2), (3, .ref (P + 20 + 6)), (4, .int x4)] [.int v2, .ref (P + 20 + 1)] (M, w)))
      refine Tt.go (fun _ => Tr.run 2 (pc' := 42) (lv' := [(0, .ref P), (1, .int a1), (2, .int a2), (3, .ref (P + 20 + 6)), (4, .int x4)]) (st' := [.int x4, .ref (P + 20 + 6), .int v2, .ref (P + 20 + 1)]) rfl) ?_
      refine Tt.callV (As := [.int x4]) (rest := [.int v2, .ref (P + 20 + 1)]) (c_X1_b g l hl (P + 20 + 6) x4 (fmk_2_1 (fmk_6_1 hP)) M w) (fmk_2_1 (fmk_6_1 hP)) (by decide) rfl rfl cw_X1_b fw325 pn_X1_b (Nat.le_of_ble_eq_true rfl) (Nat.le_of_ble_eq_true rfl) (Nat.le_of_ble_eq_true rfl) rfl (fun v3 => (?_ : Tt g l z_X6_at (exI M w) _ 45 [(0, .ref P), (1, .int a1), (2, .int a2), (3, .ref (P + 20 + 6)), (4, .int x4)] [.int v3, .int v2, .ref (P + 20 + 1)] (M, w)))
      refine Tt.go (fun _ => Tr.run 2 (pc' := 48) (lv' := [(0, .ref P), (1, .int a1), (2, .int a2), (3, .ref (P + 20 + 6)), (4, .int x4)]) (st' := [.int x4, .ref (P + 20 + 6), .int v3, .int v2, .ref (P + 20 + 1)]) rfl) ?_
      refine Tt.callV (As := [.int x4]) (rest := [.int v3, .int v2, .ref (P + 20 + 1)]) (c_X1_c g l hl (P + 20 + 6) x4 (fmk_2_1 (fmk_6_1 hP)) M w) (fmk_2_1 (fmk_6_1 hP)) (by decide) rfl rfl cw_X1_c fw329 pn_X1_c (Nat.le_of_ble_eq_true rfl) (Nat.le_of_ble_eq_true rfl) (Nat.le_of_ble_eq_true rfl) rfl (fun v4 => (?_ : Tt g l z_X6_at (exI M w) _ 51 [(0, .ref P), (1, .int a1), (2, .int a2), (3, .ref (P + 20 + 6)), (4, .int x4)] [.int v4, .int v3, .int v2, .ref (P + 20 + 1)] (M, w)))
      refine Tt.go (fun _ => Tr.run 2 (pc' := 53) (lv' := [(0, .ref P), (1, .int a1), (2, .int a2), (3, .ref (P + 20 + 6)), (4, .int x4)]) (st' := [.int a2, .int a1, .int v4, .int v3, .int v2, .ref (P + 20 + 1)]) rfl) ?_
      refine Tt.callV (As := [.int v2, .int v3, .int v4, .int a1, .int a2]) (rest := []) (c_X3_covers g l hl (P + 20 + 1) v2 v3 v4 a1 a2 (fmk_2_0 (fmk_6_1 hP)) M w) (fmk_2_0 (fmk_6_1 hP)) (by decide) rfl rfl cw_X3_covers fw893 pn_X3_covers (Nat.le_of_ble_eq_true rfl) (Nat.le_of_ble_eq_true rfl) (Nat.le_of_ble_eq_true rfl) rfl (fun v5 => (?_ : Tt g l z_X6_at (exI M w) _ 56 [(0, .ref P), (1, .int a1), (2, .int a2), (3, .ref (P + 20 + 6)), (4, .int x4)] [.int v5] (M, w)))
      refine Tt.if_eq (tgt := 62) rfl (by decide) ?_ ?_
      · refine Tt.go (fun _ => Tr.run 2 (pc' := 17) (lv' := [(4, .int (x4 + (1 : Int32))), (0, .ref P), (1, .int a1), (2, .int a2), (3, .ref (P + 20 + 6))]) (st' := []) rfl) ?_
        refine Tt.go (fun _ => Tr.sub (lv' := [(0, .ref P), (1, .int a1), (2, .int a2), (3, .ref (P + 20 + 6)), (4, .int (x4 + (1 : Int32)))]) [1, 2, 3, 4, 0] rfl) ?_
        exact ih (x4 + (1 : Int32)) M
      · refine Tt.go (fun _ => Tr.run 1 (pc' := 61) (lv' := [(0, .ref P), (1, .int a1), (2, .int a2), (3, .ref (P + 20 + 6)), (4, .int x4)]) (st' := [.int x4]) rfl) ?_
        exact Tt.ret (Tr.iret rfl rfl)
def f_X6_at (P : Nat) (a1 : Int32) (a2 : Int32) (M : fm_Mem) : Option (Nat ⊕ Int32) := fm_bx (f_X6_needAsked P a1 a2 M) (fun v1 => (f_X6_at_17 P a1 a2 fm_fuel (0 : Int32) M))
set_option maxRecDepth 100000 in
set_option maxHeartbeats 4000000 in
theorem t_X6_at (g : fm_G) (l : Launch) (hl : l.stackTraces = false) (P : Nat) (a1 : Int32) (a2 : Int32) (hP : fm_kd g P = 6) (M : fm_Mem) (w : fm_W) : Tt g l z_X6_at (exI M w) (f_X6_at P a1 a2 M) 0 [(0, .ref P), (1, .int a1), (2, .int a2)] [] (M, w) := by
  rw [f_X6_at]
  refine Tt.go (fun _ => Tr.run 3 (pc' := 3) (lv' := [(0, .ref P), (1, .int a1), (2, .int a2)]) (st' := [.int a2, .int a1, .ref P]) rfl) ?_
  refine Tt.callX (As := [.int a1, .int a2]) (rest := []) (c_X6_needAsked g l hl P a1 a2 hP M w) hP (by decide) rfl rfl cw_X6_needAsked fw889 pn_X6_needAsked (Nat.le_of_ble_eq_true rfl) (Nat.le_of_ble_eq_true rfl) (Nat.le_of_ble_eq_true rfl) rfl (fun v1 => (?_ : Tt g l z_X6_at (exI M w) _ 6 [(0, .ref P), (1, .int a1), (2, .int a2)] [] (M, w)))
  refine Tt.go (fun _ => Tr.run 1 (pc' := 7) (lv' := [(0, .ref P), (1, .int a1), (2, .int a2)]) (st' := [.ref P]) rfl) ?_
  refine Tt.go (fun _ => Tr.get fmc6 hP rfl fw268 (k := 1) (by decide) rfl) (?_ : Tt g l z_X6_at (exI M w) _ 10 [(0, .ref P), (1, .int a1), (2, .int a2)] [.ref (P + 20)] (M, w))
  refine Tt.go (fun _ => Tr.getN fmc2 (fmk_6_1 hP) rfl nw189 (k := 1) (by decide) rfl) (?_ : Tt g l z_X6_at (exI M w) _ 13 [(0, .ref P), (1, .int a1), (2, .int a2)] [.ref (P + 20 + 6)] (M, w))
  refine Tt.go (fun _ => Tr.run 3 (pc' := 17) (lv' := [(4, .int (0 : Int32)), (3, .ref (P + 20 + 6)), (0, .ref P), (1, .int a1), (2, .int a2)]) (st' := []) rfl) ?_
  refine Tt.go (fun _ => Tr.sub (lv' := [(0, .ref P), (1, .int a1), (2, .int a2), (3, .ref (P + 20 + 6)), (4, .int (0 : Int32))]) [2, 3, 4, 1, 0] rfl) ?_
  exact t_X6_at_17 g l hl P a1 a2 hP w fm_fuel (0 : Int32) M
theorem c_X6_at (g : fm_G) (l : Launch) (hl : l.stackTraces = false) (P : Nat) (a1 : Int32) (a2 : Int32) (hP : fm_kd g P = 6) (M : fm_Mem) (w : fm_W) : ∀ r, f_X6_at P a1 a2 M = some r → fC g l z_X6_at [.ref P, .int a1, .int a2] (M, w) (exI M w r) := fun r hr => fC.of (by decide) rfl o_X6_at hl (Nat.le_of_ble_eq_true rfl) (t_X6_at g l hl P a1 a2 hP M w r hr)
def k_X6_hit : List (Nat × Instr × Nat) := [(0, .aload_n 0, 1), (1, .iload_n 1, 1), (2, .iload_n 2, 1), (3, .invokevirtual 179, 3), (6, .aload_n 0, 1), (7, .getfield 19, 3), (10, .getfield 91, 3), (13, .astore_n 3, 1), (14, .iconst 0, 1), (15, .istore 4, 2), (17, .iconst 0, 1), (18, .istore 5, 2), (20, .iload 5, 2), (22, .aload_n 3, 1), (23, .invokevirtual 79, 3), (26, .if_icmp .ge 45, 3), (29, .aload_n 0, 1), (30, .getfield 19, 3), (33, .getfield 64, 3), (36, .aload_n 3, 1), (37, .iload 5, 2), (39, .invokevirtual 140, 3), (42, .aload_n 3, 1), (43, .iload 5, 2), (45, .invokevirtual 143, 3), (48, .aload_n 3, 1), (49, .iload 5, 2), (51, .invokevirtual 146, 3), (54, .iload_n 1, 1), (55, .iload_n 2, 1), (56, .invokevirtual 165, 3), (59, .ifCond .le 6, 3), (62, .iinc 4 1, 3), (65, .iinc 5 1, 3), (68, .goto (-48), 3), (71, .iload 4, 2), (73, .ireturn, 1)]
def z_X6_hit : fm_Y := (yX6_hit, RX6, cX6_hit, 6, (some .int), k_X6_hit, 7, 111)
theorem o_X6_hit : fm_dec z_X6_hit := (by decide +kernel : ∀ q ∈ k_X6_hit, decode cX6_hit q.1 = .ok q.2)
theorem cw_X6_hit : fm_cwV z_X6_hit := ⟨⟨lw_in 907 (by decide +kernel) (by decide +kernel), lw_in 91 (by decide +kernel) (by decide +kernel), by decide, by decide⟩, lw_in 905 (by decide +kernel) (by decide +kernel), lw_in 906 (by decide +kernel) (by decide +kernel)⟩
theorem pn_X6_hit : (parseMethodDescriptor z_X6_hit.1.desc).map (fun d => d.parameters.length) = some 2 := by decide +kernel
def f_X6_hit_65 (P : Nat) (a1 : Int32) (a2 : Int32) (k20 : Int32 → Int32 → fm_Mem → Option (Nat ⊕ Int32)) (x4 : Int32) (x5 : Int32) (M : fm_Mem) : Option (Nat ⊕ Int32) := (k20 x4 (x5 + (1 : Int32)) M)
set_option maxRecDepth 100000 in
set_option maxHeartbeats 4000000 in
theorem t_X6_hit_65 (g : fm_G) (l : Launch) (hl : l.stackTraces = false) (P : Nat) (a1 : Int32) (a2 : Int32) (hP : fm_kd g P = 6) (w : fm_W) (k20 : Int32 → Int32 → fm_Mem → Option (Nat ⊕ Int32)) (hk20 : ∀ (x4 : Int32) (x5 : Int32) (M : fm_Mem), Tt g l z_X6_hit (exI M w) (k20 x4 x5 M) 20 [(0, .ref P), (1, .int a1), (2, .int a2), (3, .ref (P + 20 + 11)), (4, .int x4), (5, .int x5)] [] (M, w)) (x4 : Int32) (x5 : Int32)  (M : fm_Mem) : Tt g l z_X6_hit (exI M w) (f_X6_hit_65 P a1 a2 k20 x4 x5 M) 65 [(0, .ref P), (1, .int a1), (2, .int a2), (3, .ref (P + 20 + 11)), (4, .int x4), (5, .int x5)] [] (M, w) := by
  rw [f_X6_hit_65]
  refine Tt.go (fun _ => Tr.run 2 (pc' := 20) (lv' := [(5, .int (x5 + (1 : Int32))), (0, .ref P), (1, .int a1), (2, .int a2), (3, .ref (P + 20 + 11)), (4, .int x4)]) (st' := []) rfl) ?_
  refine Tt.go (fun _ => Tr.sub (lv' := [(0, .ref P), (1, .int a1), (2, .int a2), (3, .ref (P + 20 + 11)), (4, .int x4), (5, .int (x5 + (1 : Int32)))]) [1, 2, 3, 4, 5, 0] rfl) ?_
  exact hk20 x4 (x5 + (1 : Int32)) M
def f_X6_hit_20 (P : Nat) (a1 : Int32) (a2 : Int32) : Nat → Int32 → Int32 → fm_Mem → Option (Nat ⊕ Int32)
  | 0, _, _, _ => none
  | n + 1, x4, x5, M => Option.bind (f_X1_size (P + 20 + 11) M) (fun v1 => if v1 ≤ x5 then (some (.inr (x4))) else (Option.bind (f_X1_a (P + 20 + 11) x5 M) (fun v2 => Option.bind (f_X1_b (P + 20 + 11) x5 M) (fun v3 => Option.bind (f_X1_c (P + 20 + 11) x5 M) (fun v4 => Option.bind (f_X3_circleSide (P + 20 + 1) v2 v3 v4 a1 a2 M) (fun v5 => if v5 ≤ 0 then (f_X6_hit_65 P a1 a2 (fun x4 x5 M => f_X6_hit_20 P a1 a2 n x4 x5 M) x4 x5 M) else (f_X6_hit_65 P a1 a2 (fun x4 x5 M => f_X6_hit_20 P a1 a2 n x4 x5 M) (x4 + (1 : Int32)) x5 M)))))))
set_option maxRecDepth 100000 in
set_option maxHeartbeats 4000000 in
theorem t_X6_hit_20 (g : fm_G) (l : Launch) (hl : l.stackTraces = false) (P : Nat) (a1 : Int32) (a2 : Int32) (hP : fm_kd g P = 6) (w : fm_W)  : ∀ (n : Nat) (x4 : Int32) (x5 : Int32)  (M : fm_Mem), Tt g l z_X6_hit (exI M w) (f_X6_hit_20 P a1 a2  n x4 x5 M) 20 [(0, .ref P), (1, .int a1), (2, .int a2), (3, .ref (P + 20 + 11)), (4, .int x4), (5, .int x5)] [] (M, w) := by
  intro n
  induction n with
  | zero => intros; exact Tt.none
  | succ n ih =>
    intro x4 x5  M
    rw [f_X6_hit_20]
    refine Tt.go (fun _ => Tr.run 2 (pc' := 23) (lv' := [(0, .ref P), (1, .int a1), (2, .int a2), (3, .ref (P + 20 + 11)), (4, .int x4), (5, .int x5)]) (st' := [.ref (P + 20 + 11), .int x5]) rfl) ?_
    refine Tt.callV (As := []) (rest := [.int x5]) (c_X1_size g l hl (P + 20 + 11) (fmk_2_2 (fmk_6_1 hP)) M w) (fmk_2_2 (fmk_6_1 hP)) (by decide) rfl rfl cw_X1_size fw313 pn_X1_size (Nat.le_of_ble_eq_true rfl) (Nat.le_of_ble_eq_true rfl) (Nat.le_of_ble_eq_true rfl) rfl (fun v1 => (?_ : Tt g l z_X6_hit (exI M w) _ 26 [(0, .ref P), (1, .int a1), (2, .int a2), (3, .ref (P + 20 + 11)), (4, .int x4), (5, .int x5)] [.int v1, .int x5] (M, w)))
    refine Tt.ic_ge (tgt := 71) rfl (by decide) ?_ ?_
    · refine Tt.go (fun _ => Tr.run 1 (pc' := 73) (lv' := [(0, .ref P), (1, .int a1), (2, .int a2), (3, .ref (P + 20 + 11)), (4, .int x4), (5, .int x5)]) (st' := [.int x4]) rfl) ?_
      exact Tt.ret (Tr.iret rfl rfl)
    · refine Tt.go (fun _ => Tr.run 1 (pc' := 30) (lv' := [(0, .ref P), (1, .int a1), (2, .int a2), (3, .ref (P + 20 + 11)), (4, .int x4), (5, .int x5)]) (st' := [.ref P]) rfl) ?_
      refine Tt.go (fun _ => Tr.get fmc6 hP rfl fw268 (k := 1) (by decide) rfl) (?_ : Tt g l z_X6_hit (exI M w) _ 33 [(0, .ref P), (1, .int a1), (2, .int a2), (3, .ref (P + 20 + 11)), (4, .int x4), (5, .int x5)] [.ref (P + 20)] (M, w))
      refine Tt.go (fun _ => Tr.getN fmc2 (fmk_6_1 hP) rfl nw186 (k := 0) (by decide) rfl) (?_ : Tt g l z_X6_hit (exI M w) _ 36 [(0, .ref P), (1, .int a1), (2, .int a2), (3, .ref (P + 20 + 11)), (4, .int x4), (5, .int x5)] [.ref (P + 20 + 1)] (M, w))
      refine Tt.go (fun _ => Tr.run 2 (pc' := 39) (lv' := [(0, .ref P), (1, .int a1), (2, .int a2), (3, .ref (P + 20 + 11)), (4, .int x4), (5, .int x5)]) (st' := [.int x5, .ref (P + 20 + 11), .ref (P + 20 + 1)]) rfl) ?_
      refine Tt.callV (As := [.int x5]) (rest := [.ref (P + 20 + 1)]) (c_X1_a g l hl (P + 20 + 11) x5 (fmk_2_2 (fmk_6_1 hP)) M w) (fmk_2_2 (fmk_6_1 hP)) (by decide) rfl rfl cw_X1_a fw317 pn_X1_a (Nat.le_of_ble_eq_true rfl) (Nat.le_of_ble_eq_true rfl) (Nat.le_of_ble_eq_true rfl) rfl (fun v2 => (?_ : Tt g l z_X6_hit (exI M w) _ 42 [(0, .ref P), (1, .int a1), (2, .int a2), (3, .ref (P + 20 + 11)), (4, .int x4), (5, .int x5)] [.int v2, .ref (P + 20 + 1)] (M, w)))
      refine Tt.go (fun _ => Tr.run 2 (pc' := 45) (lv' := [(0, .ref P), (1, .int a1), (2, .int a2), (3, .ref (P + 20 + 11)), (4, .int x4), (5, .int x5)]) (st' := [.int x5, .ref (P + 20 + 11), .int v2, .ref (P + 20 + 1)]) rfl) ?_
      refine Tt.callV (As := [.int x5]) (rest := [.int v2, .ref (P + 20 + 1)]) (c_X1_b g l hl (P + 20 + 11) x5 (fmk_2_2 (fmk_6_1 hP)) M w) (fmk_2_2 (fmk_6_1 hP)) (by decide) rfl rfl cw_X1_b fw325 pn_X1_b (Nat.le_of_ble_eq_true rfl) (Nat.le_of_ble_eq_true rfl) (Nat.le_of_ble_eq_true rfl) rfl (fun v3 => (?_ : Tt g l z_X6_hit (exI M w) _ 48 [(0, .ref P), (1, .int a1), (2, .int a2), (3, .ref (P + 20 + 11)), (4, .int x4), (5, .int x5)] [.int v3, .int v2, .ref (P + 20 + 1)] (M, w)))
      refine Tt.go (fun _ => Tr.run 2 (pc' := 51) (lv' := [(0, .ref P), (1, .int a1), (2, .int a2), (3, .ref (P + 20 + 11)), (4, .int x4), (5, .int x5)]) (st' := [.int x5, .ref (P + 20 + 11), .int v3, .int v2, .ref (P + 20 + 1)]) rfl) ?_
      refine Tt.callV (As := [.int x5]) (rest := [.int v3, .int v2, .ref (P + 20 + 1)]) (c_X1_c g l hl (P + 20 + 11) x5 (fmk_2_2 (fmk_6_1 hP)) M w) (fmk_2_2 (fmk_6_1 hP)) (by decide) rfl rfl cw_X1_c fw329 pn_X1_c (Nat.le_of_ble_eq_true rfl) (Nat.le_of_ble_eq_true rfl) (Nat.le_of_ble_eq_true rfl) rfl (fun v4 => (?_ : Tt g l z_X6_hit (exI M w) _ 54 [(0, .ref P), (1, .int a1), (2, .int a2), (3, .ref (P + 20 + 11)), (4, .int x4), (5, .int x5)] [.int v4, .int v3, .int v2, .ref (P + 20 + 1)] (M, w)))
      refine Tt.go (fun _ => Tr.run 2 (pc' := 56) (lv' := [(0, .ref P), (1, .int a1), (2, .int a2), (3, .ref (P + 20 + 11)), (4, .int x4), (5, .int x5)]) (st' := [.int a2, .int a1, .int v4, .int v3, .int v2, .ref (P + 20 + 1)]) rfl) ?_
      refine Tt.callV (As := [.int v2, .int v3, .int v4, .int a1, .int a2]) (rest := []) (c_X3_circleSide g l hl (P + 20 + 1) v2 v3 v4 a1 a2 (fmk_2_0 (fmk_6_1 hP)) M w) (fmk_2_0 (fmk_6_1 hP)) (by decide) rfl rfl cw_X3_circleSide fw846 pn_X3_circleSide (Nat.le_of_ble_eq_true rfl) (Nat.le_of_ble_eq_true rfl) (Nat.le_of_ble_eq_true rfl) rfl (fun v5 => (?_ : Tt g l z_X6_hit (exI M w) _ 59 [(0, .ref P), (1, .int a1), (2, .int a2), (3, .ref (P + 20 + 11)), (4, .int x4), (5, .int x5)] [.int v5] (M, w)))
      refine Tt.if_le (tgt := 65) rfl (by decide) ?_ ?_
      · exact t_X6_hit_65 g l hl P a1 a2 hP w _ ih x4 x5 M
      · refine Tt.go (fun _ => Tr.run 1 (pc' := 65) (lv' := [(4, .int (x4 + (1 : Int32))), (0, .ref P), (1, .int a1), (2, .int a2), (3, .ref (P + 20 + 11)), (5, .int x5)]) (st' := []) rfl) ?_
        refine Tt.go (fun _ => Tr.sub (lv' := [(0, .ref P), (1, .int a1), (2, .int a2), (3, .ref (P + 20 + 11)), (4, .int (x4 + (1 : Int32))), (5, .int x5)]) [1, 2, 3, 4, 0, 5] rfl) ?_
        exact t_X6_hit_65 g l hl P a1 a2 hP w _ ih (x4 + (1 : Int32)) x5 M
def f_X6_hit (P : Nat) (a1 : Int32) (a2 : Int32) (M : fm_Mem) : Option (Nat ⊕ Int32) := fm_bx (f_X6_needAsked P a1 a2 M) (fun v1 => (f_X6_hit_20 P a1 a2 fm_fuel (0 : Int32) (0 : Int32) M))
set_option maxRecDepth 100000 in
set_option maxHeartbeats 4000000 in
theorem t_X6_hit (g : fm_G) (l : Launch) (hl : l.stackTraces = false) (P : Nat) (a1 : Int32) (a2 : Int32) (hP : fm_kd g P = 6) (M : fm_Mem) (w : fm_W) : Tt g l z_X6_hit (exI M w) (f_X6_hit P a1 a2 M) 0 [(0, .ref P), (1, .int a1), (2, .int a2)] [] (M, w) := by
  rw [f_X6_hit]
  refine Tt.go (fun _ => Tr.run 3 (pc' := 3) (lv' := [(0, .ref P), (1, .int a1), (2, .int a2)]) (st' := [.int a2, .int a1, .ref P]) rfl) ?_
  refine Tt.callX (As := [.int a1, .int a2]) (rest := []) (c_X6_needAsked g l hl P a1 a2 hP M w) hP (by decide) rfl rfl cw_X6_needAsked fw889 pn_X6_needAsked (Nat.le_of_ble_eq_true rfl) (Nat.le_of_ble_eq_true rfl) (Nat.le_of_ble_eq_true rfl) rfl (fun v1 => (?_ : Tt g l z_X6_hit (exI M w) _ 6 [(0, .ref P), (1, .int a1), (2, .int a2)] [] (M, w)))
  refine Tt.go (fun _ => Tr.run 1 (pc' := 7) (lv' := [(0, .ref P), (1, .int a1), (2, .int a2)]) (st' := [.ref P]) rfl) ?_
  refine Tt.go (fun _ => Tr.get fmc6 hP rfl fw268 (k := 1) (by decide) rfl) (?_ : Tt g l z_X6_hit (exI M w) _ 10 [(0, .ref P), (1, .int a1), (2, .int a2)] [.ref (P + 20)] (M, w))
  refine Tt.go (fun _ => Tr.getN fmc2 (fmk_6_1 hP) rfl nw191 (k := 2) (by decide) rfl) (?_ : Tt g l z_X6_hit (exI M w) _ 13 [(0, .ref P), (1, .int a1), (2, .int a2)] [.ref (P + 20 + 11)] (M, w))
  refine Tt.go (fun _ => Tr.run 5 (pc' := 20) (lv' := [(5, .int (0 : Int32)), (4, .int (0 : Int32)), (3, .ref (P + 20 + 11)), (0, .ref P), (1, .int a1), (2, .int a2)]) (st' := []) rfl) ?_
  refine Tt.go (fun _ => Tr.sub (lv' := [(0, .ref P), (1, .int a1), (2, .int a2), (3, .ref (P + 20 + 11)), (4, .int (0 : Int32)), (5, .int (0 : Int32))]) [3, 4, 5, 2, 1, 0] rfl) ?_
  exact t_X6_hit_20 g l hl P a1 a2 hP w fm_fuel (0 : Int32) (0 : Int32) M
theorem c_X6_hit (g : fm_G) (l : Launch) (hl : l.stackTraces = false) (P : Nat) (a1 : Int32) (a2 : Int32) (hP : fm_kd g P = 6) (M : fm_Mem) (w : fm_W) : ∀ r, f_X6_hit P a1 a2 M = some r → fC g l z_X6_hit [.ref P, .int a1, .int a2] (M, w) (exI M w r) := fun r hr => fC.of (by decide) rfl o_X6_hit hl (Nat.le_of_ble_eq_true rfl) (t_X6_hit g l hl P a1 a2 hP M w r hr)
def k_X6_corner : List (Nat × Instr × Nat) := [(0, .iload_n 1, 1), (1, .ifCond .lt 14, 3), (4, .iload_n 1, 1), (5, .aload_n 0, 1), (6, .getfield 26, 3), (9, .invokevirtual 98, 3), (12, .if_icmp .lt 11, 3), (15, .new 176, 3), (18, .dup, 1), (19, .invokespecial 178, 3), (22, .athrow, 1), (23, .aload_n 0, 1), (24, .getfield 26, 3), (27, .iload_n 1, 1), (28, .invokevirtual 187, 3), (31, .ireturn, 1)]
def z_X6_corner : fm_Y := (yX6_corner, RX6, cX6_corner, 2, (some .int), k_X6_corner, 6, 89)
theorem o_X6_corner : fm_dec z_X6_corner := (by decide +kernel : ∀ q ∈ k_X6_corner, decode cX6_corner q.1 = .ok q.2)
theorem cw_X6_corner : fm_cwV z_X6_corner := ⟨⟨lw_in 914 (by decide +kernel) (by decide +kernel), lw_in 91 (by decide +kernel) (by decide +kernel), by decide, by decide⟩, lw_in 912 (by decide +kernel) (by decide +kernel), lw_in 913 (by decide +kernel) (by decide +kernel)⟩
theorem pn_X6_corner : (parseMethodDescriptor z_X6_corner.1.desc).map (fun d => d.parameters.length) = some 1 := by decide +kernel
def f_X6_corner_15 (P : Nat) (a1 : Int32)  (M : fm_Mem) : Option (Nat ⊕ Int32) := some (.inl 3)
set_option maxRecDepth 100000 in
set_option maxHeartbeats 4000000 in
theorem t_X6_corner_15 (g : fm_G) (l : Launch) (hl : l.stackTraces = false) (P : Nat) (a1 : Int32) (hP : fm_kd g P = 6) (w : fm_W)    (M : fm_Mem) : Tt g l z_X6_corner (exI M w) (f_X6_corner_15 P a1   M) 15 [] [] (M, w) := by
  rw [f_X6_corner_15]
  exact Tt.ret (Tr.thr (k := 3) fx3 rfl rfl rfl rfl (Nat.le_of_ble_eq_true rfl) (Nat.le_of_ble_eq_true rfl))
def f_X6_corner (P : Nat) (a1 : Int32) (M : fm_Mem) : Option (Nat ⊕ Int32) := if a1 < 0 then (f_X6_corner_15 P a1 M) else (Option.bind (f_X0_corners (P + 36) M) (fun v1 => if a1 < v1 then (Option.bind (f_X0_cornerAt (P + 36) a1 M) (fun v2 => some (.inr (v2)))) else (f_X6_corner_15 P a1 M)))
set_option maxRecDepth 100000 in
set_option maxHeartbeats 4000000 in
theorem t_X6_corner (g : fm_G) (l : Launch) (hl : l.stackTraces = false) (P : Nat) (a1 : Int32) (hP : fm_kd g P = 6) (M : fm_Mem) (w : fm_W) : Tt g l z_X6_corner (exI M w) (f_X6_corner P a1 M) 0 [(0, .ref P), (1, .int a1)] [] (M, w) := by
  rw [f_X6_corner]
  refine Tt.go (fun _ => Tr.run 1 (pc' := 1) (lv' := [(0, .ref P), (1, .int a1)]) (st' := [.int a1]) rfl) ?_
  refine Tt.if_lt (tgt := 15) rfl (by decide) ?_ ?_
  · refine Tt.go (fun _ => Tr.sub (lv' := []) [] rfl) ?_
    exact t_X6_corner_15 g l hl P a1 hP w M
  · refine Tt.go (fun _ => Tr.run 2 (pc' := 6) (lv' := [(0, .ref P), (1, .int a1)]) (st' := [.ref P, .int a1]) rfl) ?_
    refine Tt.go (fun _ => Tr.get fmc6 hP rfl fw269 (k := 2) (by decide) rfl) (?_ : Tt g l z_X6_corner (exI M w) _ 9 [(0, .ref P), (1, .int a1)] [.ref (P + 36), .int a1] (M, w))
    refine Tt.callV (As := []) (rest := [.int a1]) (c_X0_corners g l hl (P + 36) (fmk_6_2 hP) M w) (fmk_6_2 hP) (by decide) rfl rfl cw_X0_corners fw553 pn_X0_corners (Nat.le_of_ble_eq_true rfl) (Nat.le_of_ble_eq_true rfl) (Nat.le_of_ble_eq_true rfl) rfl (fun v1 => (?_ : Tt g l z_X6_corner (exI M w) _ 12 [(0, .ref P), (1, .int a1)] [.int v1, .int a1] (M, w)))
    refine Tt.ic_lt (tgt := 23) rfl (by decide) ?_ ?_
    · refine Tt.go (fun _ => Tr.run 1 (pc' := 24) (lv' := [(0, .ref P), (1, .int a1)]) (st' := [.ref P]) rfl) ?_
      refine Tt.go (fun _ => Tr.get fmc6 hP rfl fw269 (k := 2) (by decide) rfl) (?_ : Tt g l z_X6_corner (exI M w) _ 27 [(0, .ref P), (1, .int a1)] [.ref (P + 36)] (M, w))
      refine Tt.go (fun _ => Tr.run 1 (pc' := 28) (lv' := [(0, .ref P), (1, .int a1)]) (st' := [.int a1, .ref (P + 36)]) rfl) ?_
      refine Tt.callV (As := [.int a1]) (rest := []) (c_X0_cornerAt g l hl (P + 36) a1 (fmk_6_2 hP) M w) (fmk_6_2 hP) (by decide) rfl rfl cw_X0_cornerAt fw915 pn_X0_cornerAt (Nat.le_of_ble_eq_true rfl) (Nat.le_of_ble_eq_true rfl) (Nat.le_of_ble_eq_true rfl) rfl (fun v2 => (?_ : Tt g l z_X6_corner (exI M w) _ 31 [(0, .ref P), (1, .int a1)] [.int v2] (M, w)))
      exact Tt.ret (Tr.iret rfl rfl)
    · refine Tt.go (fun _ => Tr.sub (lv' := []) [] rfl) ?_
      exact t_X6_corner_15 g l hl P a1 hP w M
theorem c_X6_corner (g : fm_G) (l : Launch) (hl : l.stackTraces = false) (P : Nat) (a1 : Int32) (hP : fm_kd g P = 6) (M : fm_Mem) (w : fm_W) : ∀ r, f_X6_corner P a1 M = some r → fC g l z_X6_corner [.ref P, .int a1] (M, w) (exI M w r) := fun r hr => fC.of (by decide) rfl o_X6_corner hl (Nat.le_of_ble_eq_true rfl) (t_X6_corner g l hl P a1 hP M w r hr)
def k_X6_lift : List (Nat × Instr × Nat) := [(0, .aload_n 0, 1), (1, .getfield 19, 3), (4, .getfield 75, 3), (7, .astore_n 1, 1), (8, .aload_n 0, 1), (9, .getfield 19, 3), (12, .getfield 64, 3), (15, .astore_n 2, 1), (16, .lconst 0, 1), (17, .lstore_n 3, 1), (18, .iconst 0, 1), (19, .istore 5, 2), (21, .iload 5, 2), (23, .aload_n 1, 1), (24, .invokevirtual 79, 3), (27, .if_icmp .ge 75, 3), (30, .aload_n 1, 1), (31, .iload 5, 2), (33, .invokevirtual 140, 3), (36, .istore 6, 2), (38, .aload_n 1, 1), (39, .iload 5, 2), (41, .invokevirtual 143, 3), (44, .istore 7, 2), (46, .aload_n 1, 1), (47, .iload 5, 2), (49, .invokevirtual 146, 3), (52, .istore 8, 2), (54, .aload_n 2, 1), (55, .iload 6, 2), (57, .invokevirtual 190, 3), (60, .aload_n 2, 1), (61, .iload 7, 2), (63, .invokevirtual 190, 3), (66, .ladd, 1), (67, .aload_n 2, 1), (68, .iload 8, 2), (70, .invokevirtual 190, 3), (73, .ladd, 1), (74, .lstore 9, 2), (76, .lload_n 3, 1), (77, .aload_n 2, 1), (78, .iload 6, 2), (80, .iload 7, 2), (82, .iload 8, 2), (84, .invokevirtual 149, 3), (87, .invokestatic 153, 3), (90, .i2l, 1), (91, .lload 9, 2), (93, .lmul, 1), (94, .ladd, 1), (95, .lstore_n 3, 1), (96, .iinc 5 1, 3), (99, .goto (-78), 3), (102, .lload_n 3, 1), (103, .lreturn, 1)]
def z_X6_lift : fm_Y := (yX6_lift, RX6, cX6_lift, 11, (some .long), k_X6_lift, 2, 48)
theorem o_X6_lift : fm_dec z_X6_lift := (by decide +kernel : ∀ q ∈ k_X6_lift, decode cX6_lift q.1 = .ok q.2)
theorem cw_X6_lift : fm_cwV z_X6_lift := ⟨⟨lw_in 312 (by decide +kernel) (by decide +kernel), lw_in 91 (by decide +kernel) (by decide +kernel), by decide, by decide⟩, lw_in 310 (by decide +kernel) (by decide +kernel), lw_in 311 (by decide +kernel) (by decide +kernel)⟩
theorem pn_X6_lift : (parseMethodDescriptor z_X6_lift.1.desc).map (fun d => d.parameters.length) = some 0 := by decide +kernel
def f_X6_lift_21 (P : Nat) : Nat → Int64 → Int32 → fm_Mem → Option (Int64)
  | 0, _, _, _ => none
  | n + 1, x3, x5, M => Option.bind (f_X1_size (P + 20 + 6) M) (fun v1 => if v1 ≤ x5 then (some (x3)) else (Option.bind (f_X1_a (P + 20 + 6) x5 M) (fun v2 => Option.bind (f_X1_b (P + 20 + 6) x5 M) (fun v3 => Option.bind (f_X1_c (P + 20 + 6) x5 M) (fun v4 => Option.bind (f_X3_square (P + 20 + 1) v2 M) (fun v5 => Option.bind (f_X3_square (P + 20 + 1) v3 M) (fun v6 => Option.bind (f_X3_square (P + 20 + 1) v4 M) (fun v7 => Option.bind (f_X3_turn (P + 20 + 1) v2 v3 v4 M) (fun v8 => (f_X6_lift_21 P n (x3 + ((Int32.toInt64 (fm_abs v8)) * ((v5 + v6) + v7))) (x5 + (1 : Int32)) M))))))))))
set_option maxRecDepth 100000 in
set_option maxHeartbeats 4000000 in
theorem t_X6_lift_21 (g : fm_G) (l : Launch) (hl : l.stackTraces = false) (P : Nat) (hP : fm_kd g P = 6) (w : fm_W)  : ∀ (n : Nat) (x3 : Int64) (x5 : Int32)  (M : fm_Mem), Tt g l z_X6_lift (emJ M w) (f_X6_lift_21 P  n x3 x5 M) 21 [(1, .ref (P + 20 + 6)), (2, .ref (P + 20 + 1)), (3, .long x3), (5, .int x5)] [] (M, w) := by
  intro n
  induction n with
  | zero => intros; exact Tt.none
  | succ n ih =>
    intro x3 x5  M
    rw [f_X6_lift_21]
    refine Tt.go (fun _ => Tr.run 2 (pc' := 24) (lv' := [(1, .ref (P + 20 + 6)), (2, .ref (P + 20 + 1)), (3, .long x3), (5, .int x5)]) (st' := [.ref (P + 20 + 6), .int x5]) rfl) ?_
    refine Tt.callV (As := []) (rest := [.int x5]) (c_X1_size g l hl (P + 20 + 6) (fmk_2_1 (fmk_6_1 hP)) M w) (fmk_2_1 (fmk_6_1 hP)) (by decide) rfl rfl cw_X1_size fw313 pn_X1_size (Nat.le_of_ble_eq_true rfl) (Nat.le_of_ble_eq_true rfl) (Nat.le_of_ble_eq_true rfl) rfl (fun v1 => (?_ : Tt g l z_X6_lift (emJ M w) _ 27 [(1, .ref (P + 20 + 6)), (2, .ref (P + 20 + 1)), (3, .long x3), (5, .int x5)] [.int v1, .int x5] (M, w)))
    refine Tt.ic_ge (tgt := 102) rfl (by decide) ?_ ?_
    · refine Tt.go (fun _ => Tr.run 1 (pc' := 103) (lv' := [(1, .ref (P + 20 + 6)), (2, .ref (P + 20 + 1)), (3, .long x3), (5, .int x5)]) (st' := [.long x3]) rfl) ?_
      exact Tt.ret (Tr.lret rfl rfl)
    · refine Tt.go (fun _ => Tr.run 2 (pc' := 33) (lv' := [(1, .ref (P + 20 + 6)), (2, .ref (P + 20 + 1)), (3, .long x3), (5, .int x5)]) (st' := [.int x5, .ref (P + 20 + 6)]) rfl) ?_
      refine Tt.callV (As := [.int x5]) (rest := []) (c_X1_a g l hl (P + 20 + 6) x5 (fmk_2_1 (fmk_6_1 hP)) M w) (fmk_2_1 (fmk_6_1 hP)) (by decide) rfl rfl cw_X1_a fw317 pn_X1_a (Nat.le_of_ble_eq_true rfl) (Nat.le_of_ble_eq_true rfl) (Nat.le_of_ble_eq_true rfl) rfl (fun v2 => (?_ : Tt g l z_X6_lift (emJ M w) _ 36 [(1, .ref (P + 20 + 6)), (2, .ref (P + 20 + 1)), (3, .long x3), (5, .int x5)] [.int v2] (M, w)))
      refine Tt.go (fun _ => Tr.run 3 (pc' := 41) (lv' := [(6, .int v2), (1, .ref (P + 20 + 6)), (2, .ref (P + 20 + 1)), (3, .long x3), (5, .int x5)]) (st' := [.int x5, .ref (P + 20 + 6)]) rfl) ?_
      refine Tt.callV (As := [.int x5]) (rest := []) (c_X1_b g l hl (P + 20 + 6) x5 (fmk_2_1 (fmk_6_1 hP)) M w) (fmk_2_1 (fmk_6_1 hP)) (by decide) rfl rfl cw_X1_b fw325 pn_X1_b (Nat.le_of_ble_eq_true rfl) (Nat.le_of_ble_eq_true rfl) (Nat.le_of_ble_eq_true rfl) rfl (fun v3 => (?_ : Tt g l z_X6_lift (emJ M w) _ 44 [(6, .int v2), (1, .ref (P + 20 + 6)), (2, .ref (P + 20 + 1)), (3, .long x3), (5, .int x5)] [.int v3] (M, w)))
      refine Tt.go (fun _ => Tr.run 3 (pc' := 49) (lv' := [(7, .int v3), (6, .int v2), (1, .ref (P + 20 + 6)), (2, .ref (P + 20 + 1)), (3, .long x3), (5, .int x5)]) (st' := [.int x5, .ref (P + 20 + 6)]) rfl) ?_
      refine Tt.callV (As := [.int x5]) (rest := []) (c_X1_c g l hl (P + 20 + 6) x5 (fmk_2_1 (fmk_6_1 hP)) M w) (fmk_2_1 (fmk_6_1 hP)) (by decide) rfl rfl cw_X1_c fw329 pn_X1_c (Nat.le_of_ble_eq_true rfl) (Nat.le_of_ble_eq_true rfl) (Nat.le_of_ble_eq_true rfl) rfl (fun v4 => (?_ : Tt g l z_X6_lift (emJ M w) _ 52 [(7, .int v3), (6, .int v2), (1, .ref (P + 20 + 6)), (2, .ref (P + 20 + 1)), (3, .long x3), (5, .int x5)] [.int v4] (M, w)))
      refine Tt.go (fun _ => Tr.run 3 (pc' := 57) (lv' := [(8, .int v4), (7, .int v3), (6, .int v2), (1, .ref (P + 20 + 6)), (2, .ref (P + 20 + 1)), (3, .long x3), (5, .int x5)]) (st' := [.int v2, .ref (P + 20 + 1)]) rfl) ?_
      refine Tt.callV (As := [.int v2]) (rest := []) (c_X3_square g l hl (P + 20 + 1) v2 (fmk_2_0 (fmk_6_1 hP)) M w) (fmk_2_0 (fmk_6_1 hP)) (by decide) rfl rfl cw_X3_square fw333 pn_X3_square (Nat.le_of_ble_eq_true rfl) (Nat.le_of_ble_eq_true rfl) (Nat.le_of_ble_eq_true rfl) rfl (fun v5 => (?_ : Tt g l z_X6_lift (emJ M w) _ 60 [(8, .int v4), (7, .int v3), (6, .int v2), (1, .ref (P + 20 + 6)), (2, .ref (P + 20 + 1)), (3, .long x3), (5, .int x5)] [.long v5] (M, w)))
      refine Tt.go (fun _ => Tr.run 2 (pc' := 63) (lv' := [(8, .int v4), (7, .int v3), (6, .int v2), (1, .ref (P + 20 + 6)), (2, .ref (P + 20 + 1)), (3, .long x3), (5, .int x5)]) (st' := [.int v3, .ref (P + 20 + 1), .long v5]) rfl) ?_
      refine Tt.callV (As := [.int v3]) (rest := [.long v5]) (c_X3_square g l hl (P + 20 + 1) v3 (fmk_2_0 (fmk_6_1 hP)) M w) (fmk_2_0 (fmk_6_1 hP)) (by decide) rfl rfl cw_X3_square fw333 pn_X3_square (Nat.le_of_ble_eq_true rfl) (Nat.le_of_ble_eq_true rfl) (Nat.le_of_ble_eq_true rfl) rfl (fun v6 => (?_ : Tt g l z_X6_lift (emJ M w) _ 66 [(8, .int v4), (7, .int v3), (6, .int v2), (1, .ref (P + 20 + 6)), (2, .ref (P + 20 + 1)), (3, .long x3), (5, .int x5)] [.long v6, .long v5] (M, w)))
      refine Tt.go (fun _ => Tr.run 3 (pc' := 70) (lv' := [(8, .int v4), (7, .int v3), (6, .int v2), (1, .ref (P + 20 + 6)), (2, .ref (P + 20 + 1)), (3, .long x3), (5, .int x5)]) (st' := [.int v4, .ref (P + 20 + 1), .long (v5 + v6)]) rfl) ?_
      refine Tt.callV (As := [.int v4]) (rest := [.long (v5 + v6)]) (c_X3_square g l hl (P + 20 + 1) v4 (fmk_2_0 (fmk_6_1 hP)) M w) (fmk_2_0 (fmk_6_1 hP)) (by decide) rfl rfl cw_X3_square fw333 pn_X3_square (Nat.le_of_ble_eq_true rfl) (Nat.le_of_ble_eq_true rfl) (Nat.le_of_ble_eq_true rfl) rfl (fun v7 => (?_ : Tt g l z_X6_lift (emJ M w) _ 73 [(8, .int v4), (7, .int v3), (6, .int v2), (1, .ref (P + 20 + 6)), (2, .ref (P + 20 + 1)), (3, .long x3), (5, .int x5)] [.long v7, .long (v5 + v6)] (M, w)))
      refine Tt.go (fun _ => Tr.run 7 (pc' := 84) (lv' := [(9, .long ((v5 + v6) + v7)), (8, .int v4), (7, .int v3), (6, .int v2), (1, .ref (P + 20 + 6)), (2, .ref (P + 20 + 1)), (3, .long x3), (5, .int x5)]) (st' := [.int v4, .int v3, .int v2, .ref (P + 20 + 1), .long x3]) rfl) ?_
      refine Tt.callV (As := [.int v2, .int v3, .int v4]) (rest := [.long x3]) (c_X3_turn g l hl (P + 20 + 1) v2 v3 v4 (fmk_2_0 (fmk_6_1 hP)) M w) (fmk_2_0 (fmk_6_1 hP)) (by decide) rfl rfl cw_X3_turn fw338 pn_X3_turn (Nat.le_of_ble_eq_true rfl) (Nat.le_of_ble_eq_true rfl) (Nat.le_of_ble_eq_true rfl) rfl (fun v8 => (?_ : Tt g l z_X6_lift (emJ M w) _ 87 [(9, .long ((v5 + v6) + v7)), (8, .int v4), (7, .int v3), (6, .int v2), (1, .ref (P + 20 + 6)), (2, .ref (P + 20 + 1)), (3, .long x3), (5, .int x5)] [.int v8, .long x3] (M, w)))
      refine Tt.go (fun _ => Tr.abs rfl ⟨fw345, fw346, fw94, fw347⟩ (Nat.le_of_ble_eq_true rfl) (Nat.le_of_ble_eq_true rfl)) (?_ : Tt g l z_X6_lift (emJ M w) _ 90 [(9, .long ((v5 + v6) + v7)), (8, .int v4), (7, .int v3), (6, .int v2), (1, .ref (P + 20 + 6)), (2, .ref (P + 20 + 1)), (3, .long x3), (5, .int x5)] [.int (fm_abs v8), .long x3] (M, w))
      refine Tt.go (fun _ => Tr.run 7 (pc' := 21) (lv' := [(5, .int (x5 + (1 : Int32))), (3, .long (x3 + ((Int32.toInt64 (fm_abs v8)) * ((v5 + v6) + v7)))), (9, .long ((v5 + v6) + v7)), (8, .int v4), (7, .int v3), (6, .int v2), (1, .ref (P + 20 + 6)), (2, .ref (P + 20 + 1))]) (st' := []) rfl) ?_
      refine Tt.go (fun _ => Tr.sub (lv' := [(1, .ref (P + 20 + 6)), (2, .ref (P + 20 + 1)), (3, .long (x3 + ((Int32.toInt64 (fm_abs v8)) * ((v5 + v6) + v7)))), (5, .int (x5 + (1 : Int32)))]) [6, 7, 1, 0] rfl) ?_
      exact ih (x3 + ((Int32.toInt64 (fm_abs v8)) * ((v5 + v6) + v7))) (x5 + (1 : Int32)) M
def f_X6_lift (P : Nat) (M : fm_Mem) : Option (Int64) := (f_X6_lift_21 P fm_fuel (0 : Int64) (0 : Int32) M)
set_option maxRecDepth 100000 in
set_option maxHeartbeats 4000000 in
theorem t_X6_lift (g : fm_G) (l : Launch) (hl : l.stackTraces = false) (P : Nat) (hP : fm_kd g P = 6) (M : fm_Mem) (w : fm_W) : Tt g l z_X6_lift (emJ M w) (f_X6_lift P M) 0 [(0, .ref P)] [] (M, w) := by
  rw [f_X6_lift]
  refine Tt.go (fun _ => Tr.run 1 (pc' := 1) (lv' := [(0, .ref P)]) (st' := [.ref P]) rfl) ?_
  refine Tt.go (fun _ => Tr.get fmc6 hP rfl fw268 (k := 1) (by decide) rfl) (?_ : Tt g l z_X6_lift (emJ M w) _ 4 [(0, .ref P)] [.ref (P + 20)] (M, w))
  refine Tt.go (fun _ => Tr.getN fmc2 (fmk_6_1 hP) rfl nw189 (k := 1) (by decide) rfl) (?_ : Tt g l z_X6_lift (emJ M w) _ 7 [(0, .ref P)] [.ref (P + 20 + 6)] (M, w))
  refine Tt.go (fun _ => Tr.run 2 (pc' := 9) (lv' := [(1, .ref (P + 20 + 6)), (0, .ref P)]) (st' := [.ref P]) rfl) ?_
  refine Tt.go (fun _ => Tr.get fmc6 hP rfl fw268 (k := 1) (by decide) rfl) (?_ : Tt g l z_X6_lift (emJ M w) _ 12 [(1, .ref (P + 20 + 6)), (0, .ref P)] [.ref (P + 20)] (M, w))
  refine Tt.go (fun _ => Tr.getN fmc2 (fmk_6_1 hP) rfl nw186 (k := 0) (by decide) rfl) (?_ : Tt g l z_X6_lift (emJ M w) _ 15 [(1, .ref (P + 20 + 6)), (0, .ref P)] [.ref (P + 20 + 1)] (M, w))
  refine Tt.go (fun _ => Tr.run 5 (pc' := 21) (lv' := [(5, .int (0 : Int32)), (3, .long (0 : Int64)), (2, .ref (P + 20 + 1)), (1, .ref (P + 20 + 6)), (0, .ref P)]) (st' := []) rfl) ?_
  refine Tt.go (fun _ => Tr.sub (lv' := [(1, .ref (P + 20 + 6)), (2, .ref (P + 20 + 1)), (3, .long (0 : Int64)), (5, .int (0 : Int32))]) [3, 2, 1, 0] rfl) ?_
  exact t_X6_lift_21 g l hl P hP w fm_fuel (0 : Int64) (0 : Int32) M
theorem c_X6_lift (g : fm_G) (l : Launch) (hl : l.stackTraces = false) (P : Nat) (hP : fm_kd g P = 6) (M : fm_Mem) (w : fm_W) : ∀ r, f_X6_lift P M = some r → fC g l z_X6_lift [.ref P] (M, w) (emJ M w r) := fun r hr => fC.of (by decide) rfl o_X6_lift hl (Nat.le_of_ble_eq_true rfl) (t_X6_lift g l hl P hP M w r hr)
def k_X6_tree : List (Nat × Instr × Nat) := [(0, .aload_n 0, 1), (1, .getfield 19, 3), (4, .getfield 64, 3), (7, .invokevirtual 194, 3), (10, .lreturn, 1)]
def z_X6_tree : fm_Y := (yX6_tree, RX6, cX6_tree, 1, (some .long), k_X6_tree, 4, 97)
theorem o_X6_tree : fm_dec z_X6_tree := (by decide +kernel : ∀ q ∈ k_X6_tree, decode cX6_tree q.1 = .ok q.2)
theorem cw_X6_tree : fm_cwV z_X6_tree := ⟨⟨lw_in 351 (by decide +kernel) (by decide +kernel), lw_in 91 (by decide +kernel) (by decide +kernel), by decide, by decide⟩, lw_in 349 (by decide +kernel) (by decide +kernel), lw_in 350 (by decide +kernel) (by decide +kernel)⟩
theorem pn_X6_tree : (parseMethodDescriptor z_X6_tree.1.desc).map (fun d => d.parameters.length) = some 0 := by decide +kernel
def f_X6_tree (P : Nat) (M : fm_Mem) : Option (Int64) := Option.bind (f_X3_leastTree (P + 20 + 1) M) (fun v1 => some (v1))
set_option maxRecDepth 100000 in
set_option maxHeartbeats 4000000 in
theorem t_X6_tree (g : fm_G) (l : Launch) (hl : l.stackTraces = false) (P : Nat) (hP : fm_kd g P = 6) (M : fm_Mem) (w : fm_W) : Tt g l z_X6_tree (emJ M w) (f_X6_tree P M) 0 [(0, .ref P)] [] (M, w) := by
  rw [f_X6_tree]
  refine Tt.go (fun _ => Tr.run 1 (pc' := 1) (lv' := [(0, .ref P)]) (st' := [.ref P]) rfl) ?_
  refine Tt.go (fun _ => Tr.get fmc6 hP rfl fw268 (k := 1) (by decide) rfl) (?_ : Tt g l z_X6_tree (emJ M w) _ 4 [(0, .ref P)] [.ref (P + 20)] (M, w))
  refine Tt.go (fun _ => Tr.getN fmc2 (fmk_6_1 hP) rfl nw186 (k := 0) (by decide) rfl) (?_ : Tt g l z_X6_tree (emJ M w) _ 7 [(0, .ref P)] [.ref (P + 20 + 1)] (M, w))
  refine Tt.callV (As := []) (rest := []) (c_X3_leastTree g l hl (P + 20 + 1) (fmk_2_0 (fmk_6_1 hP)) M w) (fmk_2_0 (fmk_6_1 hP)) (by decide) rfl rfl cw_X3_leastTree fw352 pn_X3_leastTree (Nat.le_of_ble_eq_true rfl) (Nat.le_of_ble_eq_true rfl) (Nat.le_of_ble_eq_true rfl) rfl (fun v1 => (?_ : Tt g l z_X6_tree (emJ M w) _ 10 [(0, .ref P)] [.long v1] (M, w)))
  exact Tt.ret (Tr.lret rfl rfl)
theorem c_X6_tree (g : fm_G) (l : Launch) (hl : l.stackTraces = false) (P : Nat) (hP : fm_kd g P = 6) (M : fm_Mem) (w : fm_W) : ∀ r, f_X6_tree P M = some r → fC g l z_X6_tree [.ref P] (M, w) (emJ M w r) := fun r hr => fC.of (by decide) rfl o_X6_tree hl (Nat.le_of_ble_eq_true rfl) (t_X6_tree g l hl P hP M w r hr)
def k_X6_centre : List (Nat × Instr × Nat) := [(0, .aload_n 0, 1), (1, .getfield 19, 3), (4, .getfield 91, 3), (7, .astore_n 3, 1), (8, .aload_n 0, 1), (9, .aload_n 3, 1), (10, .iload_n 1, 1), (11, .invokevirtual 136, 3), (14, .aload_n 0, 1), (15, .getfield 19, 3), (18, .getfield 64, 3), (21, .astore 4, 2), (23, .aload_n 3, 1), (24, .iload_n 1, 1), (25, .invokevirtual 140, 3), (28, .istore 5, 2), (30, .aload_n 3, 1), (31, .iload_n 1, 1), (32, .invokevirtual 143, 3), (35, .istore 6, 2), (37, .aload_n 3, 1), (38, .iload_n 1, 1), (39, .invokevirtual 146, 3), (42, .istore 7, 2), (44, .aload 4, 2), (46, .iload 5, 2), (48, .invokevirtual 190, 3), (51, .lstore 8, 2), (53, .aload 4, 2), (55, .iload 6, 2), (57, .invokevirtual 190, 3), (60, .lstore 10, 2), (62, .aload 4, 2), (64, .iload 7, 2), (66, .invokevirtual 190, 3), (69, .lstore 12, 2), (71, .iload_n 2, 1), (72, .ifCond .eq 67, 3), (75, .lload 8, 2), (77, .aload 4, 2), (79, .iload 6, 2), (81, .invokevirtual 119, 3), (84, .aload 4, 2), (86, .iload 7, 2), (88, .invokevirtual 119, 3), (91, .isub, 1), (92, .i2l, 1), (93, .lmul, 1), (94, .lload 10, 2), (96, .aload 4, 2), (98, .iload 7, 2), (100, .invokevirtual 119, 3), (103, .aload 4, 2), (105, .iload 5, 2), (107, .invokevirtual 119, 3), (110, .isub, 1), (111, .i2l, 1), (112, .lmul, 1), (113, .ladd, 1), (114, .lload 12, 2), (116, .aload 4, 2), (118, .iload 5, 2), (120, .invokevirtual 119, 3), (123, .aload 4, 2), (125, .iload 6, 2), (127, .invokevirtual 119, 3), (130, .isub, 1), (131, .i2l, 1), (132, .lmul, 1), (133, .ladd, 1), (134, .lstore 14, 2), (136, .goto 64, 3), (139, .lload 8, 2), (141, .aload 4, 2), (143, .iload 7, 2), (145, .invokevirtual 116, 3), (148, .aload 4, 2), (150, .iload 6, 2), (152, .invokevirtual 116, 3), (155, .isub, 1), (156, .i2l, 1), (157, .lmul, 1), (158, .lload 10, 2), (160, .aload 4, 2), (162, .iload 5, 2), (164, .invokevirtual 116, 3), (167, .aload 4, 2), (169, .iload 7, 2), (171, .invokevirtual 116, 3), (174, .isub, 1), (175, .i2l, 1), (176, .lmul, 1), (177, .ladd, 1), (178, .lload 12, 2), (180, .aload 4, 2), (182, .iload 6, 2), (184, .invokevirtual 116, 3), (187, .aload 4, 2), (189, .iload 5, 2), (191, .invokevirtual 116, 3), (194, .isub, 1), (195, .i2l, 1), (196, .lmul, 1), (197, .ladd, 1), (198, .lstore 14, 2), (200, .ldc2_w 198, 3), (203, .aload 4, 2), (205, .iload 5, 2), (207, .iload 6, 2), (209, .iload 7, 2), (211, .invokevirtual 149, 3), (214, .i2d, 1), (215, .dmul, 1), (216, .dstore 16, 2), (218, .dload 16, 2), (220, .dconst 0, 1), (221, .dcmp .l, 1), (222, .ifCond .ne 7, 3), (225, .dconst 0, 1), (226, .goto 9, 3), (229, .lload 14, 2), (231, .l2d, 1), (232, .dload 16, 2), (234, .ddiv, 1), (235, .dreturn, 1)]
def z_X6_centre : fm_Y := (yX6_centre, RX6, cX6_centre, 18, (some .double), k_X6_centre, 7, 111)
theorem o_X6_centre : fm_dec z_X6_centre := (by decide +kernel : ∀ q ∈ k_X6_centre, decode cX6_centre q.1 = .ok q.2)
theorem cw_X6_centre : fm_cwV z_X6_centre := ⟨⟨lw_in 925 (by decide +kernel) (by decide +kernel), lw_in 91 (by decide +kernel) (by decide +kernel), by decide, by decide⟩, lw_in 923 (by decide +kernel) (by decide +kernel), lw_in 924 (by decide +kernel) (by decide +kernel)⟩
theorem pn_X6_centre : (parseMethodDescriptor z_X6_centre.1.desc).map (fun d => d.parameters.length) = some 2 := by decide +kernel
def f_X6_centre_235 (P : Nat) (a1 : Int32) (a2 : Int32) (s0 : UInt64) (M : fm_Mem) : Option (Nat ⊕ UInt64) := some (.inr (s0))
set_option maxRecDepth 100000 in
set_option maxHeartbeats 4000000 in
theorem t_X6_centre_235 (g : fm_G) (l : Launch) (hl : l.stackTraces = false) (P : Nat) (a1 : Int32) (a2 : Int32) (hP : fm_kd g P = 6) (w : fm_W)  (s0 : UInt64)  (M : fm_Mem) : Tt g l z_X6_centre (exD M w) (f_X6_centre_235 P a1 a2  s0 M) 235 [] [.double s0] (M, w) := by
  rw [f_X6_centre_235]
  exact Tt.ret (Tr.dret rfl rfl)
def f_X6_centre_200 (P : Nat) (a1 : Int32) (a2 : Int32) (x5 : Int32) (x6 : Int32) (x7 : Int32) (x14 : Int64) (M : fm_Mem) : Option (Nat ⊕ UInt64) := Option.bind (f_X3_turn (P + 20 + 1) x5 x6 x7 M) (fun v1 => fm_ck (fm_f64 (FP.dmul (4611686018427387904 : UInt64) (FP.i2d v1))) (if (Op.cmpValue (FP.dcmp (FP.dmul (4611686018427387904 : UInt64) (FP.i2d v1)) FP.dconst0) .l) = 0 then (f_X6_centre_235 P a1 a2 FP.dconst0 M) else (fm_ck (fm_f64 (FP.ddiv (FP.l2d x14) (FP.dmul (4611686018427387904 : UInt64) (FP.i2d v1)))) (f_X6_centre_235 P a1 a2 (FP.ddiv (FP.l2d x14) (FP.dmul (4611686018427387904 : UInt64) (FP.i2d v1))) M))))
set_option maxRecDepth 100000 in
set_option maxHeartbeats 4000000 in
theorem t_X6_centre_200 (g : fm_G) (l : Launch) (hl : l.stackTraces = false) (P : Nat) (a1 : Int32) (a2 : Int32) (hP : fm_kd g P = 6) (w : fm_W)  (x5 : Int32) (x6 : Int32) (x7 : Int32) (x14 : Int64)  (M : fm_Mem) : Tt g l z_X6_centre (exD M w) (f_X6_centre_200 P a1 a2  x5 x6 x7 x14 M) 200 [(4, .ref (P + 20 + 1)), (5, .int x5), (6, .int x6), (7, .int x7), (14, .long x14)] [] (M, w) := by
  rw [f_X6_centre_200]
  refine Tt.go (fun _ => Tr.ldcD rfl fw926) (?_ : Tt g l z_X6_centre (exD M w) _ 203 [(4, .ref (P + 20 + 1)), (5, .int x5), (6, .int x6), (7, .int x7), (14, .long x14)] [.double (4611686018427387904 : UInt64)] (M, w))
  refine Tt.go (fun _ => Tr.run 4 (pc' := 211) (lv' := [(4, .ref (P + 20 + 1)), (5, .int x5), (6, .int x6), (7, .int x7), (14, .long x14)]) (st' := [.int x7, .int x6, .int x5, .ref (P + 20 + 1), .double (4611686018427387904 : UInt64)]) rfl) ?_
  refine Tt.callV (As := [.int x5, .int x6, .int x7]) (rest := [.double (4611686018427387904 : UInt64)]) (c_X3_turn g l hl (P + 20 + 1) x5 x6 x7 (fmk_2_0 (fmk_6_1 hP)) M w) (fmk_2_0 (fmk_6_1 hP)) (by decide) rfl rfl cw_X3_turn fw338 pn_X3_turn (Nat.le_of_ble_eq_true rfl) (Nat.le_of_ble_eq_true rfl) (Nat.le_of_ble_eq_true rfl) rfl (fun v1 => (?_ : Tt g l z_X6_centre (exD M w) _ 214 [(4, .ref (P + 20 + 1)), (5, .int x5), (6, .int x6), (7, .int x7), (14, .long x14)] [.int v1, .double (4611686018427387904 : UInt64)] (M, w)))
  refine Tt.go (fun _ => Tr.run 1 (pc' := 215) (lv' := [(4, .ref (P + 20 + 1)), (5, .int x5), (6, .int x6), (7, .int x7), (14, .long x14)]) (st' := [.double (FP.i2d v1), .double (4611686018427387904 : UInt64)]) rfl) ?_
  refine Tt.ck (fun hf_2 => ?_)
  refine Tt.go (fun _ => Tr.dmul rfl hf_2) (?_ : Tt g l z_X6_centre (exD M w) _ 216 [(4, .ref (P + 20 + 1)), (5, .int x5), (6, .int x6), (7, .int x7), (14, .long x14)] [.double (FP.dmul (4611686018427387904 : UInt64) (FP.i2d v1))] (M, w))
  refine Tt.go (fun _ => Tr.run 4 (pc' := 222) (lv' := [(16, .double (FP.dmul (4611686018427387904 : UInt64) (FP.i2d v1))), (4, .ref (P + 20 + 1)), (5, .int x5), (6, .int x6), (7, .int x7), (14, .long x14)]) (st' := [.int (Op.cmpValue (FP.dcmp (FP.dmul (4611686018427387904 : UInt64) (FP.i2d v1)) FP.dconst0) .l)]) rfl) ?_
  refine Tt.if_ne (tgt := 229) rfl (by decide) ?_ ?_
  · refine Tt.go (fun _ => Tr.run 2 (pc' := 235) (lv' := [(16, .double (FP.dmul (4611686018427387904 : UInt64) (FP.i2d v1))), (4, .ref (P + 20 + 1)), (5, .int x5), (6, .int x6), (7, .int x7), (14, .long x14)]) (st' := [.double FP.dconst0]) rfl) ?_
    refine Tt.go (fun _ => Tr.sub (lv' := []) [] rfl) ?_
    exact t_X6_centre_235 g l hl P a1 a2 hP w FP.dconst0 M
  · refine Tt.go (fun _ => Tr.run 3 (pc' := 234) (lv' := [(16, .double (FP.dmul (4611686018427387904 : UInt64) (FP.i2d v1))), (4, .ref (P + 20 + 1)), (5, .int x5), (6, .int x6), (7, .int x7), (14, .long x14)]) (st' := [.double (FP.dmul (4611686018427387904 : UInt64) (FP.i2d v1)), .double (FP.l2d x14)]) rfl) ?_
    refine Tt.ck (fun hf_3 => ?_)
    refine Tt.go (fun _ => Tr.ddiv rfl hf_3) (?_ : Tt g l z_X6_centre (exD M w) _ 235 [(16, .double (FP.dmul (4611686018427387904 : UInt64) (FP.i2d v1))), (4, .ref (P + 20 + 1)), (5, .int x5), (6, .int x6), (7, .int x7), (14, .long x14)] [.double (FP.ddiv (FP.l2d x14) (FP.dmul (4611686018427387904 : UInt64) (FP.i2d v1)))] (M, w))
    refine Tt.go (fun _ => Tr.sub (lv' := []) [] rfl) ?_
    exact t_X6_centre_235 g l hl P a1 a2 hP w (FP.ddiv (FP.l2d x14) (FP.dmul (4611686018427387904 : UInt64) (FP.i2d v1))) M
def f_X6_centre (P : Nat) (a1 : Int32) (a2 : Int32) (M : fm_Mem) : Option (Nat ⊕ UInt64) := fm_bx (f_X6_needTriangle P (P + 20 + 11) a1 M) (fun v1 => Option.bind (f_X1_a (P + 20 + 11) a1 M) (fun v2 => Option.bind (f_X1_b (P + 20 + 11) a1 M) (fun v3 => Option.bind (f_X1_c (P + 20 + 11) a1 M) (fun v4 => Option.bind (f_X3_square (P + 20 + 1) v2 M) (fun v5 => Option.bind (f_X3_square (P + 20 + 1) v3 M) (fun v6 => Option.bind (f_X3_square (P + 20 + 1) v4 M) (fun v7 => if a2 = 0 then (Option.bind (f_X3_x (P + 20 + 1) v4 M) (fun v8 => Option.bind (f_X3_x (P + 20 + 1) v3 M) (fun v9 => Option.bind (f_X3_x (P + 20 + 1) v2 M) (fun v10 => Option.bind (f_X3_x (P + 20 + 1) v4 M) (fun v11 => Option.bind (f_X3_x (P + 20 + 1) v3 M) (fun v12 => Option.bind (f_X3_x (P + 20 + 1) v2 M) (fun v13 => (f_X6_centre_200 P a1 a2 v2 v3 v4 (((v5 * (Int32.toInt64 (v8 - v9))) + (v6 * (Int32.toInt64 (v10 - v11)))) + (v7 * (Int32.toInt64 (v12 - v13)))) M)))))))) else (Option.bind (f_X3_y (P + 20 + 1) v3 M) (fun v14 => Option.bind (f_X3_y (P + 20 + 1) v4 M) (fun v15 => Option.bind (f_X3_y (P + 20 + 1) v4 M) (fun v16 => Option.bind (f_X3_y (P + 20 + 1) v2 M) (fun v17 => Option.bind (f_X3_y (P + 20 + 1) v2 M) (fun v18 => Option.bind (f_X3_y (P + 20 + 1) v3 M) (fun v19 => (f_X6_centre_200 P a1 a2 v2 v3 v4 (((v5 * (Int32.toInt64 (v14 - v15))) + (v6 * (Int32.toInt64 (v16 - v17)))) + (v7 * (Int32.toInt64 (v18 - v19)))) M)))))))))))))))
set_option maxRecDepth 100000 in
set_option maxHeartbeats 4000000 in
theorem t_X6_centre (g : fm_G) (l : Launch) (hl : l.stackTraces = false) (P : Nat) (a1 : Int32) (a2 : Int32) (hP : fm_kd g P = 6) (M : fm_Mem) (w : fm_W) : Tt g l z_X6_centre (exD M w) (f_X6_centre P a1 a2 M) 0 [(0, .ref P), (1, .int a1), (2, .int a2)] [] (M, w) := by
  rw [f_X6_centre]
  refine Tt.go (fun _ => Tr.run 1 (pc' := 1) (lv' := [(0, .ref P), (1, .int a1), (2, .int a2)]) (st' := [.ref P]) rfl) ?_
  refine Tt.go (fun _ => Tr.get fmc6 hP rfl fw268 (k := 1) (by decide) rfl) (?_ : Tt g l z_X6_centre (exD M w) _ 4 [(0, .ref P), (1, .int a1), (2, .int a2)] [.ref (P + 20)] (M, w))
  refine Tt.go (fun _ => Tr.getN fmc2 (fmk_6_1 hP) rfl nw191 (k := 2) (by decide) rfl) (?_ : Tt g l z_X6_centre (exD M w) _ 7 [(0, .ref P), (1, .int a1), (2, .int a2)] [.ref (P + 20 + 11)] (M, w))
  refine Tt.go (fun _ => Tr.run 4 (pc' := 11) (lv' := [(3, .ref (P + 20 + 11)), (0, .ref P), (1, .int a1), (2, .int a2)]) (st' := [.int a1, .ref (P + 20 + 11), .ref P]) rfl) ?_
  refine Tt.callX (As := [.ref (P + 20 + 11), .int a1]) (rest := []) (c_X6_needTriangle g l hl P (P + 20 + 11) a1 hP (fmk_2_2 (fmk_6_1 hP)) M w) hP (by decide) rfl rfl cw_X6_needTriangle fw609 pn_X6_needTriangle (Nat.le_of_ble_eq_true rfl) (Nat.le_of_ble_eq_true rfl) (Nat.le_of_ble_eq_true rfl) rfl (fun v1 => (?_ : Tt g l z_X6_centre (exD M w) _ 14 [(3, .ref (P + 20 + 11)), (0, .ref P), (1, .int a1), (2, .int a2)] [] (M, w)))
  refine Tt.go (fun _ => Tr.run 1 (pc' := 15) (lv' := [(3, .ref (P + 20 + 11)), (0, .ref P), (1, .int a1), (2, .int a2)]) (st' := [.ref P]) rfl) ?_
  refine Tt.go (fun _ => Tr.get fmc6 hP rfl fw268 (k := 1) (by decide) rfl) (?_ : Tt g l z_X6_centre (exD M w) _ 18 [(3, .ref (P + 20 + 11)), (0, .ref P), (1, .int a1), (2, .int a2)] [.ref (P + 20)] (M, w))
  refine Tt.go (fun _ => Tr.getN fmc2 (fmk_6_1 hP) rfl nw186 (k := 0) (by decide) rfl) (?_ : Tt g l z_X6_centre (exD M w) _ 21 [(3, .ref (P + 20 + 11)), (0, .ref P), (1, .int a1), (2, .int a2)] [.ref (P + 20 + 1)] (M, w))
  refine Tt.go (fun _ => Tr.run 3 (pc' := 25) (lv' := [(4, .ref (P + 20 + 1)), (3, .ref (P + 20 + 11)), (0, .ref P), (1, .int a1), (2, .int a2)]) (st' := [.int a1, .ref (P + 20 + 11)]) rfl) ?_
  refine Tt.callV (As := [.int a1]) (rest := []) (c_X1_a g l hl (P + 20 + 11) a1 (fmk_2_2 (fmk_6_1 hP)) M w) (fmk_2_2 (fmk_6_1 hP)) (by decide) rfl rfl cw_X1_a fw317 pn_X1_a (Nat.le_of_ble_eq_true rfl) (Nat.le_of_ble_eq_true rfl) (Nat.le_of_ble_eq_true rfl) rfl (fun v2 => (?_ : Tt g l z_X6_centre (exD M w) _ 28 [(4, .ref (P + 20 + 1)), (3, .ref (P + 20 + 11)), (0, .ref P), (1, .int a1), (2, .int a2)] [.int v2] (M, w)))
  refine Tt.go (fun _ => Tr.run 3 (pc' := 32) (lv' := [(5, .int v2), (4, .ref (P + 20 + 1)), (3, .ref (P + 20 + 11)), (0, .ref P), (1, .int a1), (2, .int a2)]) (st' := [.int a1, .ref (P + 20 + 11)]) rfl) ?_
  refine Tt.callV (As := [.int a1]) (rest := []) (c_X1_b g l hl (P + 20 + 11) a1 (fmk_2_2 (fmk_6_1 hP)) M w) (fmk_2_2 (fmk_6_1 hP)) (by decide) rfl rfl cw_X1_b fw325 pn_X1_b (Nat.le_of_ble_eq_true rfl) (Nat.le_of_ble_eq_true rfl) (Nat.le_of_ble_eq_true rfl) rfl (fun v3 => (?_ : Tt g l z_X6_centre (exD M w) _ 35 [(5, .int v2), (4, .ref (P + 20 + 1)), (3, .ref (P + 20 + 11)), (0, .ref P), (1, .int a1), (2, .int a2)] [.int v3] (M, w)))
  refine Tt.go (fun _ => Tr.run 3 (pc' := 39) (lv' := [(6, .int v3), (5, .int v2), (4, .ref (P + 20 + 1)), (3, .ref (P + 20 + 11)), (0, .ref P), (1, .int a1), (2, .int a2)]) (st' := [.int a1, .ref (P + 20 + 11)]) rfl) ?_
  refine Tt.callV (As := [.int a1]) (rest := []) (c_X1_c g l hl (P + 20 + 11) a1 (fmk_2_2 (fmk_6_1 hP)) M w) (fmk_2_2 (fmk_6_1 hP)) (by decide) rfl rfl cw_X1_c fw329 pn_X1_c (Nat.le_of_ble_eq_true rfl) (Nat.le_of_ble_eq_true rfl) (Nat.le_of_ble_eq_true rfl) rfl (fun v4 => (?_ : Tt g l z_X6_centre (exD M w) _ 42 [(6, .int v3), (5, .int v2), (4, .ref (P + 20 + 1)), (3, .ref (P + 20 + 11)), (0, .ref P), (1, .int a1), (2, .int a2)] [.int v4] (M, w)))
  refine Tt.go (fun _ => Tr.run 3 (pc' := 48) (lv' := [(7, .int v4), (6, .int v3), (5, .int v2), (4, .ref (P + 20 + 1)), (3, .ref (P + 20 + 11)), (0, .ref P), (1, .int a1), (2, .int a2)]) (st' := [.int v2, .ref (P + 20 + 1)]) rfl) ?_
  refine Tt.callV (As := [.int v2]) (rest := []) (c_X3_square g l hl (P + 20 + 1) v2 (fmk_2_0 (fmk_6_1 hP)) M w) (fmk_2_0 (fmk_6_1 hP)) (by decide) rfl rfl cw_X3_square fw333 pn_X3_square (Nat.le_of_ble_eq_true rfl) (Nat.le_of_ble_eq_true rfl) (Nat.le_of_ble_eq_true rfl) rfl (fun v5 => (?_ : Tt g l z_X6_centre (exD M w) _ 51 [(7, .int v4), (6, .int v3), (5, .int v2), (4, .ref (P + 20 + 1)), (3, .ref (P + 20 + 11)), (0, .ref P), (1, .int a1), (2, .int a2)] [.long v5] (M, w)))
  refine Tt.go (fun _ => Tr.run 3 (pc' := 57) (lv' := [(8, .long v5), (7, .int v4), (6, .int v3), (5, .int v2), (4, .ref (P + 20 + 1)), (3, .ref (P + 20 + 11)), (0, .ref P), (1, .int a1), (2, .int a2)]) (st' := [.int v3, .ref (P + 20 + 1)]) rfl) ?_
  refine Tt.callV (As := [.int v3]) (rest := []) (c_X3_square g l hl (P + 20 + 1) v3 (fmk_2_0 (fmk_6_1 hP)) M w) (fmk_2_0 (fmk_6_1 hP)) (by decide) rfl rfl cw_X3_square fw333 pn_X3_square (Nat.le_of_ble_eq_true rfl) (Nat.le_of_ble_eq_true rfl) (Nat.le_of_ble_eq_true rfl) rfl (fun v6 => (?_ : Tt g l z_X6_centre (exD M w) _ 60 [(8, .long v5), (7, .int v4), (6, .int v3), (5, .int v2), (4, .ref (P + 20 + 1)), (3, .ref (P + 20 + 11)), (0, .ref P), (1, .int a1), (2, .int a2)] [.long v6] (M, w)))
  refine Tt.go (fun _ => Tr.run 3 (pc' := 66) (lv' := [(10, .long v6), (8, .long v5), (7, .int v4), (6, .int v3), (5, .int v2), (4, .ref (P + 20 + 1)), (3, .ref (P + 20 + 11)), (0, .ref P), (1, .int a1), (2, .int a2)]) (st' := [.int v4, .ref (P + 20 + 1)]) rfl) ?_
  refine Tt.callV (As := [.int v4]) (rest := []) (c_X3_square g l hl (P + 20 + 1) v4 (fmk_2_0 (fmk_6_1 hP)) M w) (fmk_2_0 (fmk_6_1 hP)) (by decide) rfl rfl cw_X3_square fw333 pn_X3_square (Nat.le_of_ble_eq_true rfl) (Nat.le_of_ble_eq_true rfl) (Nat.le_of_ble_eq_true rfl) rfl (fun v7 => (?_ : Tt g l z_X6_centre (exD M w) _ 69 [(10, .long v6), (8, .long v5), (7, .int v4), (6, .int v3), (5, .int v2), (4, .ref (P + 20 + 1)), (3, .ref (P + 20 + 11)), (0, .ref P), (1, .int a1), (2, .int a2)] [.long v7] (M, w)))
  refine Tt.go (fun _ => Tr.run 2 (pc' := 72) (lv' := [(12, .long v7), (10, .long v6), (8, .long v5), (7, .int v4), (6, .int v3), (5, .int v2), (4, .ref (P + 20 + 1)), (3, .ref (P + 20 + 11)), (0, .ref P), (1, .int a1), (2, .int a2)]) (st' := [.int a2]) rfl) ?_
  refine Tt.if_eq (tgt := 139) rfl (by decide) ?_ ?_
  · refine Tt.go (fun _ => Tr.run 3 (pc' := 145) (lv' := [(12, .long v7), (10, .long v6), (8, .long v5), (7, .int v4), (6, .int v3), (5, .int v2), (4, .ref (P + 20 + 1)), (3, .ref (P + 20 + 11)), (0, .ref P), (1, .int a1), (2, .int a2)]) (st' := [.int v4, .ref (P + 20 + 1), .long v5]) rfl) ?_
    refine Tt.callV (As := [.int v4]) (rest := [.long v5]) (c_X3_x g l hl (P + 20 + 1) v4 (fmk_2_0 (fmk_6_1 hP)) M w) (fmk_2_0 (fmk_6_1 hP)) (by decide) rfl rfl cw_X3_x fw584 pn_X3_x (Nat.le_of_ble_eq_true rfl) (Nat.le_of_ble_eq_true rfl) (Nat.le_of_ble_eq_true rfl) rfl (fun v8 => (?_ : Tt g l z_X6_centre (exD M w) _ 148 [(12, .long v7), (10, .long v6), (8, .long v5), (7, .int v4), (6, .int v3), (5, .int v2), (4, .ref (P + 20 + 1)), (3, .ref (P + 20 + 11)), (0, .ref P), (1, .int a1), (2, .int a2)] [.int v8, .long v5] (M, w)))
    refine Tt.go (fun _ => Tr.run 2 (pc' := 152) (lv' := [(12, .long v7), (10, .long v6), (8, .long v5), (7, .int v4), (6, .int v3), (5, .int v2), (4, .ref (P + 20 + 1)), (3, .ref (P + 20 + 11)), (0, .ref P), (1, .int a1), (2, .int a2)]) (st' := [.int v3, .ref (P + 20 + 1), .int v8, .long v5]) rfl) ?_
    refine Tt.callV (As := [.int v3]) (rest := [.int v8, .long v5]) (c_X3_x g l hl (P + 20 + 1) v3 (fmk_2_0 (fmk_6_1 hP)) M w) (fmk_2_0 (fmk_6_1 hP)) (by decide) rfl rfl cw_X3_x fw584 pn_X3_x (Nat.le_of_ble_eq_true rfl) (Nat.le_of_ble_eq_true rfl) (Nat.le_of_ble_eq_true rfl) rfl (fun v9 => (?_ : Tt g l z_X6_centre (exD M w) _ 155 [(12, .long v7), (10, .long v6), (8, .long v5), (7, .int v4), (6, .int v3), (5, .int v2), (4, .ref (P + 20 + 1)), (3, .ref (P + 20 + 11)), (0, .ref P), (1, .int a1), (2, .int a2)] [.int v9, .int v8, .long v5] (M, w)))
    refine Tt.go (fun _ => Tr.run 6 (pc' := 164) (lv' := [(12, .long v7), (10, .long v6), (8, .long v5), (7, .int v4), (6, .int v3), (5, .int v2), (4, .ref (P + 20 + 1)), (3, .ref (P + 20 + 11)), (0, .ref P), (1, .int a1), (2, .int a2)]) (st' := [.int v2, .ref (P + 20 + 1), .long v6, .long (v5 * (Int32.toInt64 (v8 - v9)))]) rfl) ?_
    refine Tt.callV (As := [.int v2]) (rest := [.long v6, .long (v5 * (Int32.toInt64 (v8 - v9)))]) (c_X3_x g l hl (P + 20 + 1) v2 (fmk_2_0 (fmk_6_1 hP)) M w) (fmk_2_0 (fmk_6_1 hP)) (by decide) rfl rfl cw_X3_x fw584 pn_X3_x (Nat.le_of_ble_eq_true rfl) (Nat.le_of_ble_eq_true rfl) (Nat.le_of_ble_eq_true rfl) rfl (fun v10 => (?_ : Tt g l z_X6_centre (exD M w) _ 167 [(12, .long v7), (10, .long v6), (8, .long v5), (7, .int v4), (6, .int v3), (5, .int v2), (4, .ref (P + 20 + 1)), (3, .ref (P + 20 + 11)), (0, .ref P), (1, .int a1), (2, .int a2)] [.int v10, .long v6, .long (v5 * (Int32.toInt64 (v8 - v9)))] (M, w)))
    refine Tt.go (fun _ => Tr.run 2 (pc' := 171) (lv' := [(12, .long v7), (10, .long v6), (8, .long v5), (7, .int v4), (6, .int v3), (5, .int v2), (4, .ref (P + 20 + 1)), (3, .ref (P + 20 + 11)), (0, .ref P), (1, .int a1), (2, .int a2)]) (st' := [.int v4, .ref (P + 20 + 1), .int v10, .long v6, .long (v5 * (Int32.toInt64 (v8 - v9)))]) rfl) ?_
    refine Tt.callV (As := [.int v4]) (rest := [.int v10, .long v6, .long (v5 * (Int32.toInt64 (v8 - v9)))]) (c_X3_x g l hl (P + 20 + 1) v4 (fmk_2_0 (fmk_6_1 hP)) M w) (fmk_2_0 (fmk_6_1 hP)) (by decide) rfl rfl cw_X3_x fw584 pn_X3_x (Nat.le_of_ble_eq_true rfl) (Nat.le_of_ble_eq_true rfl) (Nat.le_of_ble_eq_true rfl) rfl (fun v11 => (?_ : Tt g l z_X6_centre (exD M w) _ 174 [(12, .long v7), (10, .long v6), (8, .long v5), (7, .int v4), (6, .int v3), (5, .int v2), (4, .ref (P + 20 + 1)), (3, .ref (P + 20 + 11)), (0, .ref P), (1, .int a1), (2, .int a2)] [.int v11, .int v10, .long v6, .long (v5 * (Int32.toInt64 (v8 - v9)))] (M, w)))
    refine Tt.go (fun _ => Tr.run 7 (pc' := 184) (lv' := [(12, .long v7), (10, .long v6), (8, .long v5), (7, .int v4), (6, .int v3), (5, .int v2), (4, .ref (P + 20 + 1)), (3, .ref (P + 20 + 11)), (0, .ref P), (1, .int a1), (2, .int a2)]) (st' := [.int v3, .ref (P + 20 + 1), .long v7, .long ((v5 * (Int32.toInt64 (v8 - v9))) + (v6 * (Int32.toInt64 (v10 - v11))))]) rfl) ?_
    refine Tt.callV (As := [.int v3]) (rest := [.long v7, .long ((v5 * (Int32.toInt64 (v8 - v9))) + (v6 * (Int32.toInt64 (v10 - v11))))]) (c_X3_x g l hl (P + 20 + 1) v3 (fmk_2_0 (fmk_6_1 hP)) M w) (fmk_2_0 (fmk_6_1 hP)) (by decide) rfl rfl cw_X3_x fw584 pn_X3_x (Nat.le_of_ble_eq_true rfl) (Nat.le_of_ble_eq_true rfl) (Nat.le_of_ble_eq_true rfl) rfl (fun v12 => (?_ : Tt g l z_X6_centre (exD M w) _ 187 [(12, .long v7), (10, .long v6), (8, .long v5), (7, .int v4), (6, .int v3), (5, .int v2), (4, .ref (P + 20 + 1)), (3, .ref (P + 20 + 11)), (0, .ref P), (1, .int a1), (2, .int a2)] [.int v12, .long v7, .long ((v5 * (Int32.toInt64 (v8 - v9))) + (v6 * (Int32.toInt64 (v10 - v11))))] (M, w)))
    refine Tt.go (fun _ => Tr.run 2 (pc' := 191) (lv' := [(12, .long v7), (10, .long v6), (8, .long v5), (7, .int v4), (6, .int v3), (5, .int v2), (4, .ref (P + 20 + 1)), (3, .ref (P + 20 + 11)), (0, .ref P), (1, .int a1), (2, .int a2)]) (st' := [.int v2, .ref (P + 20 + 1), .int v12, .long v7, .long ((v5 * (Int32.toInt64 (v8 - v9))) + (v6 * (Int32.toInt64 (v10 - v11))))]) rfl) ?_
    refine Tt.callV (As := [.int v2]) (rest := [.int v12, .long v7, .long ((v5 * (Int32.toInt64 (v8 - v9))) + (v6 * (Int32.toInt64 (v10 - v11))))]) (c_X3_x g l hl (P + 20 + 1) v2 (fmk_2_0 (fmk_6_1 hP)) M w) (fmk_2_0 (fmk_6_1 hP)) (by decide) rfl rfl cw_X3_x fw584 pn_X3_x (Nat.le_of_ble_eq_true rfl) (Nat.le_of_ble_eq_true rfl) (Nat.le_of_ble_eq_true rfl) rfl (fun v13 => (?_ : Tt g l z_X6_centre (exD M w) _ 194 [(12, .long v7), (10, .long v6), (8, .long v5), (7, .int v4), (6, .int v3), (5, .int v2), (4, .ref (P + 20 + 1)), (3, .ref (P + 20 + 11)), (0, .ref P), (1, .int a1), (2, .int a2)] [.int v13, .int v12, .long v7, .long ((v5 * (Int32.toInt64 (v8 - v9))) + (v6 * (Int32.toInt64 (v10 - v11))))] (M, w)))
    refine Tt.go (fun _ => Tr.run 5 (pc' := 200) (lv' := [(14, .long (((v5 * (Int32.toInt64 (v8 - v9))) + (v6 * (Int32.toInt64 (v10 - v11)))) + (v7 * (Int32.toInt64 (v12 - v13))))), (12, .long v7), (10, .long v6), (8, .long v5), (7, .int v4), (6, .int v3), (5, .int v2), (4, .ref (P + 20 + 1)), (3, .ref (P + 20 + 11)), (0, .ref P), (1, .int a1), (2, .int a2)]) (st' := []) rfl) ?_
    refine Tt.go (fun _ => Tr.sub (lv' := [(4, .ref (P + 20 + 1)), (5, .int v2), (6, .int v3), (7, .int v4), (14, .long (((v5 * (Int32.toInt64 (v8 - v9))) + (v6 * (Int32.toInt64 (v10 - v11)))) + (v7 * (Int32.toInt64 (v12 - v13)))))]) [7, 6, 5, 4, 0] rfl) ?_
    exact t_X6_centre_200 g l hl P a1 a2 hP w v2 v3 v4 (((v5 * (Int32.toInt64 (v8 - v9))) + (v6 * (Int32.toInt64 (v10 - v11)))) + (v7 * (Int32.toInt64 (v12 - v13)))) M
  · refine Tt.go (fun _ => Tr.run 3 (pc' := 81) (lv' := [(12, .long v7), (10, .long v6), (8, .long v5), (7, .int v4), (6, .int v3), (5, .int v2), (4, .ref (P + 20 + 1)), (3, .ref (P + 20 + 11)), (0, .ref P), (1, .int a1), (2, .int a2)]) (st' := [.int v3, .ref (P + 20 + 1), .long v5]) rfl) ?_
    refine Tt.callV (As := [.int v3]) (rest := [.long v5]) (c_X3_y g l hl (P + 20 + 1) v3 (fmk_2_0 (fmk_6_1 hP)) M w) (fmk_2_0 (fmk_6_1 hP)) (by decide) rfl rfl cw_X3_y fw585 pn_X3_y (Nat.le_of_ble_eq_true rfl) (Nat.le_of_ble_eq_true rfl) (Nat.le_of_ble_eq_true rfl) rfl (fun v14 => (?_ : Tt g l z_X6_centre (exD M w) _ 84 [(12, .long v7), (10, .long v6), (8, .long v5), (7, .int v4), (6, .int v3), (5, .int v2), (4, .ref (P + 20 + 1)), (3, .ref (P + 20 + 11)), (0, .ref P), (1, .int a1), (2, .int a2)] [.int v14, .long v5] (M, w)))
    refine Tt.go (fun _ => Tr.run 2 (pc' := 88) (lv' := [(12, .long v7), (10, .long v6), (8, .long v5), (7, .int v4), (6, .int v3), (5, .int v2), (4, .ref (P + 20 + 1)), (3, .ref (P + 20 + 11)), (0, .ref P), (1, .int a1), (2, .int a2)]) (st' := [.int v4, .ref (P + 20 + 1), .int v14, .long v5]) rfl) ?_
    refine Tt.callV (As := [.int v4]) (rest := [.int v14, .long v5]) (c_X3_y g l hl (P + 20 + 1) v4 (fmk_2_0 (fmk_6_1 hP)) M w) (fmk_2_0 (fmk_6_1 hP)) (by decide) rfl rfl cw_X3_y fw585 pn_X3_y (Nat.le_of_ble_eq_true rfl) (Nat.le_of_ble_eq_true rfl) (Nat.le_of_ble_eq_true rfl) rfl (fun v15 => (?_ : Tt g l z_X6_centre (exD M w) _ 91 [(12, .long v7), (10, .long v6), (8, .long v5), (7, .int v4), (6, .int v3), (5, .int v2), (4, .ref (P + 20 + 1)), (3, .ref (P + 20 + 11)), (0, .ref P), (1, .int a1), (2, .int a2)] [.int v15, .int v14, .long v5] (M, w)))
    refine Tt.go (fun _ => Tr.run 6 (pc' := 100) (lv' := [(12, .long v7), (10, .long v6), (8, .long v5), (7, .int v4), (6, .int v3), (5, .int v2), (4, .ref (P + 20 + 1)), (3, .ref (P + 20 + 11)), (0, .ref P), (1, .int a1), (2, .int a2)]) (st' := [.int v4, .ref (P + 20 + 1), .long v6, .long (v5 * (Int32.toInt64 (v14 - v15)))]) rfl) ?_
    refine Tt.callV (As := [.int v4]) (rest := [.long v6, .long (v5 * (Int32.toInt64 (v14 - v15)))]) (c_X3_y g l hl (P + 20 + 1) v4 (fmk_2_0 (fmk_6_1 hP)) M w) (fmk_2_0 (fmk_6_1 hP)) (by decide) rfl rfl cw_X3_y fw585 pn_X3_y (Nat.le_of_ble_eq_true rfl) (Nat.le_of_ble_eq_true rfl) (Nat.le_of_ble_eq_true rfl) rfl (fun v16 => (?_ : Tt g l z_X6_centre (exD M w) _ 103 [(12, .long v7), (10, .long v6), (8, .long v5), (7, .int v4), (6, .int v3), (5, .int v2), (4, .ref (P + 20 + 1)), (3, .ref (P + 20 + 11)), (0, .ref P), (1, .int a1), (2, .int a2)] [.int v16, .long v6, .long (v5 * (Int32.toInt64 (v14 - v15)))] (M, w)))
    refine Tt.go (fun _ => Tr.run 2 (pc' := 107) (lv' := [(12, .long v7), (10, .long v6), (8, .long v5), (7, .int v4), (6, .int v3), (5, .int v2), (4, .ref (P + 20 + 1)), (3, .ref (P + 20 + 11)), (0, .ref P), (1, .int a1), (2, .int a2)]) (st' := [.int v2, .ref (P + 20 + 1), .int v16, .long v6, .long (v5 * (Int32.toInt64 (v14 - v15)))]) rfl) ?_
    refine Tt.callV (As := [.int v2]) (rest := [.int v16, .long v6, .long (v5 * (Int32.toInt64 (v14 - v15)))]) (c_X3_y g l hl (P + 20 + 1) v2 (fmk_2_0 (fmk_6_1 hP)) M w) (fmk_2_0 (fmk_6_1 hP)) (by decide) rfl rfl cw_X3_y fw585 pn_X3_y (Nat.le_of_ble_eq_true rfl) (Nat.le_of_ble_eq_true rfl) (Nat.le_of_ble_eq_true rfl) rfl (fun v17 => (?_ : Tt g l z_X6_centre (exD M w) _ 110 [(12, .long v7), (10, .long v6), (8, .long v5), (7, .int v4), (6, .int v3), (5, .int v2), (4, .ref (P + 20 + 1)), (3, .ref (P + 20 + 11)), (0, .ref P), (1, .int a1), (2, .int a2)] [.int v17, .int v16, .long v6, .long (v5 * (Int32.toInt64 (v14 - v15)))] (M, w)))
    refine Tt.go (fun _ => Tr.run 7 (pc' := 120) (lv' := [(12, .long v7), (10, .long v6), (8, .long v5), (7, .int v4), (6, .int v3), (5, .int v2), (4, .ref (P + 20 + 1)), (3, .ref (P + 20 + 11)), (0, .ref P), (1, .int a1), (2, .int a2)]) (st' := [.int v2, .ref (P + 20 + 1), .long v7, .long ((v5 * (Int32.toInt64 (v14 - v15))) + (v6 * (Int32.toInt64 (v16 - v17))))]) rfl) ?_
    refine Tt.callV (As := [.int v2]) (rest := [.long v7, .long ((v5 * (Int32.toInt64 (v14 - v15))) + (v6 * (Int32.toInt64 (v16 - v17))))]) (c_X3_y g l hl (P + 20 + 1) v2 (fmk_2_0 (fmk_6_1 hP)) M w) (fmk_2_0 (fmk_6_1 hP)) (by decide) rfl rfl cw_X3_y fw585 pn_X3_y (Nat.le_of_ble_eq_true rfl) (Nat.le_of_ble_eq_true rfl) (Nat.le_of_ble_eq_true rfl) rfl (fun v18 => (?_ : Tt g l z_X6_centre (exD M w) _ 123 [(12, .long v7), (10, .long v6), (8, .long v5), (7, .int v4), (6, .int v3), (5, .int v2), (4, .ref (P + 20 + 1)), (3, .ref (P + 20 + 11)), (0, .ref P), (1, .int a1), (2, .int a2)] [.int v18, .long v7, .long ((v5 * (Int32.toInt64 (v14 - v15))) + (v6 * (Int32.toInt64 (v16 - v17))))] (M, w)))
    refine Tt.go (fun _ => Tr.run 2 (pc' := 127) (lv' := [(12, .long v7), (10, .long v6), (8, .long v5), (7, .int v4), (6, .int v3), (5, .int v2), (4, .ref (P + 20 + 1)), (3, .ref (P + 20 + 11)), (0, .ref P), (1, .int a1), (2, .int a2)]) (st' := [.int v3, .ref (P + 20 + 1), .int v18, .long v7, .long ((v5 * (Int32.toInt64 (v14 - v15))) + (v6 * (Int32.toInt64 (v16 - v17))))]) rfl) ?_
    refine Tt.callV (As := [.int v3]) (rest := [.int v18, .long v7, .long ((v5 * (Int32.toInt64 (v14 - v15))) + (v6 * (Int32.toInt64 (v16 - v17))))]) (c_X3_y g l hl (P + 20 + 1) v3 (fmk_2_0 (fmk_6_1 hP)) M w) (fmk_2_0 (fmk_6_1 hP)) (by decide) rfl rfl cw_X3_y fw585 pn_X3_y (Nat.le_of_ble_eq_true rfl) (Nat.le_of_ble_eq_true rfl) (Nat.le_of_ble_eq_true rfl) rfl (fun v19 => (?_ : Tt g l z_X6_centre (exD M w) _ 130 [(12, .long v7), (10, .long v6), (8, .long v5), (7, .int v4), (6, .int v3), (5, .int v2), (4, .ref (P + 20 + 1)), (3, .ref (P + 20 + 11)), (0, .ref P), (1, .int a1), (2, .int a2)] [.int v19, .int v18, .long v7, .long ((v5 * (Int32.toInt64 (v14 - v15))) + (v6 * (Int32.toInt64 (v16 - v17))))] (M, w)))
    refine Tt.go (fun _ => Tr.run 6 (pc' := 200) (lv' := [(14, .long (((v5 * (Int32.toInt64 (v14 - v15))) + (v6 * (Int32.toInt64 (v16 - v17)))) + (v7 * (Int32.toInt64 (v18 - v19))))), (12, .long v7), (10, .long v6), (8, .long v5), (7, .int v4), (6, .int v3), (5, .int v2), (4, .ref (P + 20 + 1)), (3, .ref (P + 20 + 11)), (0, .ref P), (1, .int a1), (2, .int a2)]) (st' := []) rfl) ?_
    refine Tt.go (fun _ => Tr.sub (lv' := [(4, .ref (P + 20 + 1)), (5, .int v2), (6, .int v3), (7, .int v4), (14, .long (((v5 * (Int32.toInt64 (v14 - v15))) + (v6 * (Int32.toInt64 (v16 - v17)))) + (v7 * (Int32.toInt64 (v18 - v19)))))]) [7, 6, 5, 4, 0] rfl) ?_
    exact t_X6_centre_200 g l hl P a1 a2 hP w v2 v3 v4 (((v5 * (Int32.toInt64 (v14 - v15))) + (v6 * (Int32.toInt64 (v16 - v17)))) + (v7 * (Int32.toInt64 (v18 - v19)))) M
theorem c_X6_centre (g : fm_G) (l : Launch) (hl : l.stackTraces = false) (P : Nat) (a1 : Int32) (a2 : Int32) (hP : fm_kd g P = 6) (M : fm_Mem) (w : fm_W) : ∀ r, f_X6_centre P a1 a2 M = some r → fC g l z_X6_centre [.ref P, .int a1, .int a2] (M, w) (exD M w r) := fun r hr => fC.of (by decide) rfl o_X6_centre hl (Nat.le_of_ble_eq_true rfl) (t_X6_centre g l hl P a1 a2 hP M w r hr)
