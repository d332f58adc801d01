theorem fw94 : Cond.initialized "java/lang/Math" ∈ lw_all := lw_in 94 (by decide +kernel) (by decide +kernel)
theorem fw108 : Cond.initialized "java/lang/System" ∈ lw_all := lw_in 108 (by decide +kernel) (by decide +kernel)
theorem fw136 : Cond.static ⟨"java/lang/Math", "max", "(II)I"⟩ ∈ lw_all := lw_in 136 (by decide +kernel) (by decide +kernel)
theorem fw137 : Cond.code ⟨"java/lang/Math", "max", "(II)I"⟩ prog_19_method_65_code 2 (some .int) ∈ lw_all := lw_in 137 (by decide +kernel) (by decide +kernel)
theorem fw138 : Cond.fieldLink "CircleFlips$Row" 13 "CircleFlips$Row" "numbers" "[I" ∈ lw_all := lw_in 138 (by decide +kernel) (by decide +kernel)
theorem fw157 : Cond.fieldLink "CircleFlips$Points" 14 "CircleFlips$Points" "xs" "LCircleFlips$Row;" ∈ lw_all := lw_in 157 (by decide +kernel) (by decide +kernel)
theorem fw158 : Cond.fieldLink "CircleFlips$Points" 20 "CircleFlips$Points" "ys" "LCircleFlips$Row;" ∈ lw_all := lw_in 158 (by decide +kernel) (by decide +kernel)
theorem fw159 : Cond.fieldLink "CircleFlips$Points" 23 "CircleFlips$Points" "count" "I" ∈ lw_all := lw_in 159 (by decide +kernel) (by decide +kernel)
theorem fw175 : Cond.fieldLink "CircleFlips$Mesh" 14 "CircleFlips$Mesh" "codes" "LCircleFlips$Row;" ∈ lw_all := lw_in 175 (by decide +kernel) (by decide +kernel)
theorem fw176 : Cond.fieldLink "CircleFlips$Mesh" 20 "CircleFlips$Mesh" "thirds" "LCircleFlips$Row;" ∈ lw_all := lw_in 176 (by decide +kernel) (by decide +kernel)
theorem fw177 : Cond.fieldLink "CircleFlips$Mesh" 23 "CircleFlips$Mesh" "count" "I" ∈ lw_all := lw_in 177 (by decide +kernel) (by decide +kernel)
theorem fw253 : Cond.fieldLink "CircleFlips$Hull" 14 "CircleFlips$Hull" "layerRow" "LCircleFlips$Row;" ∈ lw_all := lw_in 253 (by decide +kernel) (by decide +kernel)
theorem fw254 : Cond.fieldLink "CircleFlips$Hull" 20 "CircleFlips$Hull" "ring" "LCircleFlips$Row;" ∈ lw_all := lw_in 254 (by decide +kernel) (by decide +kernel)
theorem fw255 : Cond.fieldLink "CircleFlips$Hull" 23 "CircleFlips$Hull" "ringSize" "I" ∈ lw_all := lw_in 255 (by decide +kernel) (by decide +kernel)
theorem fw256 : Cond.fieldLink "CircleFlips$Hull" 27 "CircleFlips$Hull" "layerCount" "I" ∈ lw_all := lw_in 256 (by decide +kernel) (by decide +kernel)
theorem fw321 : Cond.methodLink "CircleFlips$Mesh" 27 ⟨"CircleFlips$Row", "get", "(I)I"⟩ ∈ lw_all := lw_in 321 (by decide +kernel) (by decide +kernel)
theorem fw337 : Cond.methodLink "CircleFlips$Points" 27 ⟨"CircleFlips$Row", "get", "(I)I"⟩ ∈ lw_all := lw_in 337 (by decide +kernel) (by decide +kernel)
theorem fw342 : Cond.methodLink "CircleFlips$Points" 51 ⟨"CircleFlips$Points", "cross", "(IIII)I"⟩ ∈ lw_all := lw_in 342 (by decide +kernel) (by decide +kernel)
theorem fw409 : Cond.methodLink "CircleFlips$Row" 19 ⟨"java/lang/Math", "min", "(II)I"⟩ ∈ lw_all := lw_in 409 (by decide +kernel) (by decide +kernel)
theorem fw410 : Cond.static ⟨"java/lang/Math", "min", "(II)I"⟩ ∈ lw_all := lw_in 410 (by decide +kernel) (by decide +kernel)
theorem fw411 : Cond.code ⟨"java/lang/Math", "min", "(II)I"⟩ prog_19_method_69_code 2 (some .int) ∈ lw_all := lw_in 411 (by decide +kernel) (by decide +kernel)
theorem fw412 : Cond.methodLink "CircleFlips$Row" 22 ⟨"java/lang/System", "arraycopy", "(Ljava/lang/Object;ILjava/lang/Object;II)V"⟩ ∈ lw_all := lw_in 412 (by decide +kernel) (by decide +kernel)
theorem fw413 : Cond.static ⟨"java/lang/System", "arraycopy", "(Ljava/lang/Object;ILjava/lang/Object;II)V"⟩ ∈ lw_all := lw_in 413 (by decide +kernel) (by decide +kernel)
theorem fw414 : Cond.native ⟨"java/lang/System", "arraycopy", "(Ljava/lang/Object;ILjava/lang/Object;II)V"⟩ ∈ lw_all := lw_in 414 (by decide +kernel) (by decide +kernel)
theorem fw419 : Cond.methodLink "CircleFlips$Mesh" 34 ⟨"CircleFlips$Row", "copyFrom", "(LCircleFlips$Row;)V"⟩ ∈ lw_all := lw_in 419 (by decide +kernel) (by decide +kernel)
theorem fw424 : Cond.methodLink "CircleFlips$Hull" 34 ⟨"CircleFlips$Points", "size", "()I"⟩ ∈ lw_all := lw_in 424 (by decide +kernel) (by decide +kernel)
theorem fw425 : Cond.methodLink "CircleFlips$Hull" 40 ⟨"CircleFlips$Hull", "peel", "(LCircleFlips$Points;I)I"⟩ ∈ lw_all := lw_in 425 (by decide +kernel) (by decide +kernel)
theorem fw429 : Cond.methodLink "CircleFlips$Hull" 44 ⟨"CircleFlips$Hull", "leftmost", "(LCircleFlips$Points;I)I"⟩ ∈ lw_all := lw_in 429 (by decide +kernel) (by decide +kernel)
theorem nw432 : Cond.methodLinkNest "CircleFlips$Hull" 55 ⟨"CircleFlips", "lowest", "(I)I"⟩ "CircleFlips" ∈ lw_tbl := List.mem_of_getElem? (i := 432) (by decide +kernel)
theorem fw435 : Cond.methodLink "CircleFlips$Hull" 58 ⟨"CircleFlips$Points", "x", "(I)I"⟩ ∈ lw_all := lw_in 435 (by decide +kernel) (by decide +kernel)
theorem fw439 : Cond.methodLink "CircleFlips$Hull" 61 ⟨"CircleFlips$Points", "y", "(I)I"⟩ ∈ lw_all := lw_in 439 (by decide +kernel) (by decide +kernel)
theorem fw443 : Cond.methodLink "CircleFlips$Hull" 47 ⟨"CircleFlips$Row", "set", "(II)V"⟩ ∈ lw_all := lw_in 443 (by decide +kernel) (by decide +kernel)
theorem fw444 : Cond.methodLink "CircleFlips$Hull" 51 ⟨"CircleFlips$Hull", "nextCorner", "(LCircleFlips$Points;II)I"⟩ ∈ lw_all := lw_in 444 (by decide +kernel) (by decide +kernel)
theorem fw447 : Cond.methodLink "CircleFlips$Hull" 64 ⟨"CircleFlips$Points", "turn", "(III)I"⟩ ∈ lw_all := lw_in 447 (by decide +kernel) (by decide +kernel)
theorem fw448 : Cond.methodLink "CircleFlips$Hull" 68 ⟨"CircleFlips$Points", "distance", "(II)I"⟩ ∈ lw_all := lw_in 448 (by decide +kernel) (by decide +kernel)
theorem fw536 : Cond.methodLink "CircleFlips$Mesh" 55 ⟨"java/lang/Math", "min", "(II)I"⟩ ∈ lw_all := lw_in 536 (by decide +kernel) (by decide +kernel)
theorem fw537 : Cond.methodLink "CircleFlips$Mesh" 61 ⟨"java/lang/Math", "max", "(II)I"⟩ ∈ lw_all := lw_in 537 (by decide +kernel) (by decide +kernel)
theorem fw596 : Cond.methodLink "CircleFlips$Hull" 30 ⟨"CircleFlips$Row", "get", "(I)I"⟩ ∈ lw_all := lw_in 596 (by decide +kernel) (by decide +kernel)
theorem fw655 : Cond.methodLink "CircleFlips$Mesh" 31 ⟨"CircleFlips$Row", "clear", "()V"⟩ ∈ lw_all := lw_in 655 (by decide +kernel) (by decide +kernel)
theorem fw782 : Cond.methodLink "CircleFlips$Mesh" 38 ⟨"CircleFlips$Mesh", "codeOf", "(III)I"⟩ ∈ lw_all := lw_in 782 (by decide +kernel) (by decide +kernel)
theorem fw785 : Cond.methodLink "CircleFlips$Mesh" 42 ⟨"CircleFlips$Mesh", "placeOf", "(I)I"⟩ ∈ lw_all := lw_in 785 (by decide +kernel) (by decide +kernel)
theorem fw789 : Cond.methodLink "CircleFlips$Mesh" 45 ⟨"CircleFlips$Row", "insert", "(III)V"⟩ ∈ lw_all := lw_in 789 (by decide +kernel) (by decide +kernel)
theorem fw793 : Cond.methodLink "CircleFlips$Row" 28 ⟨"CircleFlips$Row", "get", "(I)I"⟩ ∈ lw_all := lw_in 793 (by decide +kernel) (by decide +kernel)
theorem fw794 : Cond.methodLink "CircleFlips$Row" 32 ⟨"CircleFlips$Row", "set", "(II)V"⟩ ∈ lw_all := lw_in 794 (by decide +kernel) (by decide +kernel)
theorem fw795 : Cond.methodLink "CircleFlips$Mesh" 49 ⟨"CircleFlips$Mesh", "changeEdge", "(III)V"⟩ ∈ lw_all := lw_in 795 (by decide +kernel) (by decide +kernel)
theorem fw799 : Cond.methodLink "CircleFlips$Mesh" 64 ⟨"CircleFlips$Row", "set", "(II)V"⟩ ∈ lw_all := lw_in 799 (by decide +kernel) (by decide +kernel)
def k_X0_corners : List (Nat × Instr × Nat) := [(0, .aload_n 0, 1), (1, .getfield 23, 3), (4, .ireturn, 1)]
def z_X0_corners : fm_Y := (yX0_corners, RX0, cX0_corners, 1, (some .int), k_X0_corners, 0, 0)
theorem o_X0_corners : fm_dec z_X0_corners := (by decide +kernel : ∀ q ∈ k_X0_corners, decode cX0_corners q.1 = .ok q.2)
theorem cw_X0_corners : fm_cwV z_X0_corners := ⟨⟨lw_in 556 (by decide +kernel) (by decide +kernel), lw_in 98 (by decide +kernel) (by decide +kernel), by decide, by decide⟩, lw_in 554 (by decide +kernel) (by decide +kernel), lw_in 555 (by decide +kernel) (by decide +kernel)⟩
theorem pn_X0_corners : (parseMethodDescriptor z_X0_corners.1.desc).map (fun d => d.parameters.length) = some 0 := by decide +kernel
def f_X0_corners (P : Nat) (M : fm_Mem) : Option (Int32) := some ((M P 2))
set_option maxRecDepth 100000 in
set_option maxHeartbeats 4000000 in
theorem t_X0_corners (g : fm_G) (l : Launch) (hl : l.stackTraces = false) (P : Nat) (hP : fm_kd g P = 0) (M : fm_Mem) (w : fm_W) : Tt g l z_X0_corners (emI M w) (f_X0_corners P M) 0 [(0, .ref P)] [] (M, w) := by
  rw [f_X0_corners]
  refine Tt.go (fun _ => Tr.run 1 (pc' := 1) (lv' := [(0, .ref P)]) (st' := [.ref P]) rfl) ?_
  refine Tt.go (fun _ => Tr.get fmc0 hP rfl fw255 (k := 2) (by decide) rfl) (?_ : Tt g l z_X0_corners (emI M w) _ 4 [(0, .ref P)] [.int (M P 2)] (M, w))
  exact Tt.ret (Tr.iret rfl rfl)
theorem c_X0_corners (g : fm_G) (l : Launch) (hl : l.stackTraces = false) (P : Nat) (hP : fm_kd g P = 0) (M : fm_Mem) (w : fm_W) : ∀ r, f_X0_corners P M = some r → fC g l z_X0_corners [.ref P] (M, w) (emI M w r) := fun r hr => fC.of (by decide) rfl o_X0_corners hl (Nat.le_of_ble_eq_true rfl) (t_X0_corners g l hl P hP M w r hr)
def k_X0_layers : List (Nat × Instr × Nat) := [(0, .aload_n 0, 1), (1, .getfield 27, 3), (4, .ireturn, 1)]
def z_X0_layers : fm_Y := (yX0_layers, RX0, cX0_layers, 1, (some .int), k_X0_layers, 0, 0)
theorem o_X0_layers : fm_dec z_X0_layers := (by decide +kernel : ∀ q ∈ k_X0_layers, decode cX0_layers q.1 = .ok q.2)
theorem cw_X0_layers : fm_cwV z_X0_layers := ⟨⟨lw_in 560 (by decide +kernel) (by decide +kernel), lw_in 98 (by decide +kernel) (by decide +kernel), by decide, by decide⟩, lw_in 558 (by decide +kernel) (by decide +kernel), lw_in 559 (by decide +kernel) (by decide +kernel)⟩
theorem pn_X0_layers : (parseMethodDescriptor z_X0_layers.1.desc).map (fun d => d.parameters.length) = some 0 := by decide +kernel
def f_X0_layers (P : Nat) (M : fm_Mem) : Option (Int32) := some ((M P 3))
set_option maxRecDepth 100000 in
set_option maxHeartbeats 4000000 in
theorem t_X0_layers (g : fm_G) (l : Launch) (hl : l.stackTraces = false) (P : Nat) (hP : fm_kd g P = 0) (M : fm_Mem) (w : fm_W) : Tt g l z_X0_layers (emI M w) (f_X0_layers P M) 0 [(0, .ref P)] [] (M, w) := by
  rw [f_X0_layers]
  refine Tt.go (fun _ => Tr.run 1 (pc' := 1) (lv' := [(0, .ref P)]) (st' := [.ref P]) rfl) ?_
  refine Tt.go (fun _ => Tr.get fmc0 hP rfl fw256 (k := 3) (by decide) rfl) (?_ : Tt g l z_X0_layers (emI M w) _ 4 [(0, .ref P)] [.int (M P 3)] (M, w))
  exact Tt.ret (Tr.iret rfl rfl)
theorem c_X0_layers (g : fm_G) (l : Launch) (hl : l.stackTraces = false) (P : Nat) (hP : fm_kd g P = 0) (M : fm_Mem) (w : fm_W) : ∀ r, f_X0_layers P M = some r → fC g l z_X0_layers [.ref P] (M, w) (emI M w r) := fun r hr => fC.of (by decide) rfl o_X0_layers hl (Nat.le_of_ble_eq_true rfl) (t_X0_layers g l hl P hP M w r hr)
def k_X4_get : List (Nat × Instr × Nat) := [(0, .iload_n 1, 1), (1, .ifCond .lt 21, 3), (4, .iload_n 1, 1), (5, .aload_n 0, 1), (6, .getfield 13, 3), (9, .arraylength, 1), (10, .if_icmp .ge 12, 3), (13, .aload_n 0, 1), (14, .getfield 13, 3), (17, .iload_n 1, 1), (18, .iaload, 1), (19, .goto 4, 3), (22, .iconst 0, 1), (23, .ireturn, 1)]
def z_X4_get : fm_Y := (yX4_get, RX4, cX4_get, 2, (some .int), k_X4_get, 0, 0)
theorem o_X4_get : fm_dec z_X4_get := (by decide +kernel : ∀ q ∈ k_X4_get, decode cX4_get q.1 = .ok q.2)
theorem cw_X4_get : fm_cwV z_X4_get := ⟨⟨lw_in 324 (by decide +kernel) (by decide +kernel), lw_in 93 (by decide +kernel) (by decide +kernel), by decide, by decide⟩, lw_in 322 (by decide +kernel) (by decide +kernel), lw_in 323 (by decide +kernel) (by decide +kernel)⟩
theorem pn_X4_get : (parseMethodDescriptor z_X4_get.1.desc).map (fun d => d.parameters.length) = some 1 := by decide +kernel
def f_X4_get_23 (P : Nat) (nP : Nat) (a1 : Int32) (s0 : Int32) (M : fm_Mem) : Option (Int32) := some (s0)
set_option maxRecDepth 100000 in
set_option maxHeartbeats 4000000 in
theorem t_X4_get_23 (g : fm_G) (l : Launch) (hl : l.stackTraces = false) (P : Nat) (nP : Nat) (a1 : Int32) (hP : fm_kd g P = 4) (hP1 : fm_kd g (P + 1) = 100 + nP) (hP9 : nP < 9000) (w : fm_W)  (s0 : Int32)  (M : fm_Mem) : Tt g l z_X4_get (emI M w) (f_X4_get_23 P nP a1  s0 M) 23 [] [.int s0] (M, w) := by
  rw [f_X4_get_23]
  exact Tt.ret (Tr.iret rfl rfl)
def f_X4_get_22 (P : Nat) (nP : Nat) (a1 : Int32)  (M : fm_Mem) : Option (Int32) := (f_X4_get_23 P nP a1 (0 : Int32) M)
set_option maxRecDepth 100000 in
set_option maxHeartbeats 4000000 in
theorem t_X4_get_22 (g : fm_G) (l : Launch) (hl : l.stackTraces = false) (P : Nat) (nP : Nat) (a1 : Int32) (hP : fm_kd g P = 4) (hP1 : fm_kd g (P + 1) = 100 + nP) (hP9 : nP < 9000) (w : fm_W)    (M : fm_Mem) : Tt g l z_X4_get (emI M w) (f_X4_get_22 P nP a1   M) 22 [] [] (M, w) := by
  rw [f_X4_get_22]
  refine Tt.go (fun _ => Tr.run 1 (pc' := 23) (lv' := []) (st' := [.int (0 : Int32)]) rfl) ?_
  exact t_X4_get_23 g l hl P nP a1 hP hP1 hP9 w (0 : Int32) M
def f_X4_get (P : Nat) (nP : Nat) (a1 : Int32) (M : fm_Mem) : Option (Int32) := if a1 < 0 then (f_X4_get_22 P nP a1 M) else (if (Int32.ofNat nP) ≤ a1 then (f_X4_get_22 P nP a1 M) else (fm_ck (fm_in a1 nP) (f_X4_get_23 P nP a1 (M (P + 1) (Int32.toNatClampNeg a1)) M)))
set_option maxRecDepth 100000 in
set_option maxHeartbeats 4000000 in
theorem t_X4_get (g : fm_G) (l : Launch) (hl : l.stackTraces = false) (P : Nat) (nP : Nat) (a1 : Int32) (hP : fm_kd g P = 4) (hP1 : fm_kd g (P + 1) = 100 + nP) (hP9 : nP < 9000) (M : fm_Mem) (w : fm_W) : Tt g l z_X4_get (emI M w) (f_X4_get P nP a1 M) 0 [(0, .ref P), (1, .int a1)] [] (M, w) := by
  rw [f_X4_get]
  refine Tt.go (fun _ => Tr.run 1 (pc' := 1) (lv' := [(0, .ref P), (1, .int a1)]) (st' := [.int a1]) rfl) ?_
  refine Tt.if_lt (tgt := 22) rfl (by decide) ?_ ?_
  · refine Tt.go (fun _ => Tr.sub (lv' := []) [] rfl) ?_
    exact t_X4_get_22 g l hl P nP a1 hP hP1 hP9 w M
  · refine Tt.go (fun _ => Tr.run 2 (pc' := 6) (lv' := [(0, .ref P), (1, .int a1)]) (st' := [.ref P, .int a1]) rfl) ?_
    refine Tt.go (fun _ => Tr.get fmc4 hP rfl fw138 (k := 0) (by decide) rfl) (?_ : Tt g l z_X4_get (emI M w) _ 9 [(0, .ref P), (1, .int a1)] [.ref (P + 1), .int a1] (M, w))
    refine Tt.go (fun _ => Tr.alen hP1 hP9 rfl) (?_ : Tt g l z_X4_get (emI M w) _ 10 [(0, .ref P), (1, .int a1)] [.int (Int32.ofNat nP), .int a1] (M, w))
    refine Tt.ic_ge (tgt := 22) rfl (by decide) ?_ ?_
    · refine Tt.go (fun _ => Tr.sub (lv' := []) [] rfl) ?_
      exact t_X4_get_22 g l hl P nP a1 hP hP1 hP9 w M
    · refine Tt.go (fun _ => Tr.run 1 (pc' := 14) (lv' := [(0, .ref P), (1, .int a1)]) (st' := [.ref P]) rfl) ?_
      refine Tt.go (fun _ => Tr.get fmc4 hP rfl fw138 (k := 0) (by decide) rfl) (?_ : Tt g l z_X4_get (emI M w) _ 17 [(0, .ref P), (1, .int a1)] [.ref (P + 1)] (M, w))
      refine Tt.go (fun _ => Tr.run 1 (pc' := 18) (lv' := [(0, .ref P), (1, .int a1)]) (st' := [.int a1, .ref (P + 1)]) rfl) ?_
      refine Tt.ck (fun hi_1 => ?_)
      refine Tt.go (fun _ => Tr.iald hP1 hP9 hi_1 rfl) (?_ : Tt g l z_X4_get (emI M w) _ 19 [(0, .ref P), (1, .int a1)] [.int (M (P + 1) (Int32.toNatClampNeg a1))] (M, w))
      refine Tt.go (fun _ => Tr.run 1 (pc' := 23) (lv' := [(0, .ref P), (1, .int a1)]) (st' := [.int (M (P + 1) (Int32.toNatClampNeg a1))]) rfl) ?_
      refine Tt.go (fun _ => Tr.sub (lv' := []) [] rfl) ?_
      exact t_X4_get_23 g l hl P nP a1 hP hP1 hP9 w (M (P + 1) (Int32.toNatClampNeg a1)) M
theorem c_X4_get (g : fm_G) (l : Launch) (hl : l.stackTraces = false) (P : Nat) (nP : Nat) (a1 : Int32) (hP : fm_kd g P = 4) (hP1 : fm_kd g (P + 1) = 100 + nP) (hP9 : nP < 9000) (M : fm_Mem) (w : fm_W) : ∀ r, f_X4_get P nP a1 M = some r → fC g l z_X4_get [.ref P, .int a1] (M, w) (emI M w r) := fun r hr => fC.of (by decide) rfl o_X4_get hl (Nat.le_of_ble_eq_true rfl) (t_X4_get g l hl P nP a1 hP hP1 hP9 M w r hr)
def k_X0_layerOf : List (Nat × Instr × Nat) := [(0, .aload_n 0, 1), (1, .getfield 14, 3), (4, .iload_n 1, 1), (5, .invokevirtual 30, 3), (8, .ireturn, 1)]
def z_X0_layerOf : fm_Y := (yX0_layerOf, RX0, cX0_layerOf, 2, (some .int), k_X0_layerOf, 1, 21)
theorem o_X0_layerOf : fm_dec z_X0_layerOf := (by decide +kernel : ∀ q ∈ k_X0_layerOf, decode cX0_layerOf q.1 = .ok q.2)
theorem cw_X0_layerOf : fm_cwV z_X0_layerOf := ⟨⟨lw_in 595 (by decide +kernel) (by decide +kernel), lw_in 98 (by decide +kernel) (by decide +kernel), by decide, by decide⟩, lw_in 593 (by decide +kernel) (by decide +kernel), lw_in 594 (by decide +kernel) (by decide +kernel)⟩
theorem pn_X0_layerOf : (parseMethodDescriptor z_X0_layerOf.1.desc).map (fun d => d.parameters.length) = some 1 := by decide +kernel
def f_X0_layerOf (P : Nat) (a1 : Int32) (M : fm_Mem) : Option (Int32) := Option.bind (f_X4_get (P + 1) 20 a1 M) (fun v1 => some (v1))
set_option maxRecDepth 100000 in
set_option maxHeartbeats 4000000 in
theorem t_X0_layerOf (g : fm_G) (l : Launch) (hl : l.stackTraces = false) (P : Nat) (a1 : Int32) (hP : fm_kd g P = 0) (M : fm_Mem) (w : fm_W) : Tt g l z_X0_layerOf (emI M w) (f_X0_layerOf P a1 M) 0 [(0, .ref P), (1, .int a1)] [] (M, w) := by
  rw [f_X0_layerOf]
  refine Tt.go (fun _ => Tr.run 1 (pc' := 1) (lv' := [(0, .ref P), (1, .int a1)]) (st' := [.ref P]) rfl) ?_
  refine Tt.go (fun _ => Tr.get fmc0 hP rfl fw253 (k := 0) (by decide) rfl) (?_ : Tt g l z_X0_layerOf (emI M w) _ 4 [(0, .ref P), (1, .int a1)] [.ref (P + 1)] (M, w))
  refine Tt.go (fun _ => Tr.run 1 (pc' := 5) (lv' := [(0, .ref P), (1, .int a1)]) (st' := [.int a1, .ref (P + 1)]) rfl) ?_
  refine Tt.callV (As := [.int a1]) (rest := []) (c_X4_get g l hl (P + 1) 20 a1 (fmk_0_0 hP) (fmn_0_0 hP) (by decide) M w) (fmk_0_0 hP) (by decide) rfl rfl cw_X4_get fw596 pn_X4_get (Nat.le_of_ble_eq_true rfl) (Nat.le_of_ble_eq_true rfl) (Nat.le_of_ble_eq_true rfl) rfl (fun v1 => (?_ : Tt g l z_X0_layerOf (emI M w) _ 8 [(0, .ref P), (1, .int a1)] [.int v1] (M, w)))
  exact Tt.ret (Tr.iret rfl rfl)
theorem c_X0_layerOf (g : fm_G) (l : Launch) (hl : l.stackTraces = false) (P : Nat) (a1 : Int32) (hP : fm_kd g P = 0) (M : fm_Mem) (w : fm_W) : ∀ r, f_X0_layerOf P a1 M = some r → fC g l z_X0_layerOf [.ref P, .int a1] (M, w) (emI M w r) := fun r hr => fC.of (by decide) rfl o_X0_layerOf hl (Nat.le_of_ble_eq_true rfl) (t_X0_layerOf g l hl P a1 hP M w r hr)
def k_X0_cornerAt : List (Nat × Instr × Nat) := [(0, .iconst 0, 1), (1, .istore_n 2, 1), (2, .iconst 1, 1), (3, .istore_n 3, 1), (4, .iload_n 3, 1), (5, .aload_n 0, 1), (6, .getfield 23, 3), (9, .if_icmp .ge 30, 3), (12, .aload_n 0, 1), (13, .getfield 20, 3), (16, .iload_n 3, 1), (17, .invokevirtual 30, 3), (20, .aload_n 0, 1), (21, .getfield 20, 3), (24, .iload_n 2, 1), (25, .invokevirtual 30, 3), (28, .if_icmp .ge 5, 3), (31, .iload_n 3, 1), (32, .istore_n 2, 1), (33, .iinc 3 1, 3), (36, .goto (-32), 3), (39, .aload_n 0, 1), (40, .getfield 23, 3), (43, .ifCond .ne 7, 3), (46, .iconst (-1), 1), (47, .goto 18, 3), (50, .aload_n 0, 1), (51, .getfield 20, 3), (54, .iload_n 2, 1), (55, .iload_n 1, 1), (56, .iadd, 1), (57, .aload_n 0, 1), (58, .getfield 23, 3), (61, .irem, 1), (62, .invokevirtual 30, 3), (65, .ireturn, 1)]
def z_X0_cornerAt : fm_Y := (yX0_cornerAt, RX0, cX0_cornerAt, 4, (some .int), k_X0_cornerAt, 1, 21)
theorem o_X0_cornerAt : fm_dec z_X0_cornerAt := (by decide +kernel : ∀ q ∈ k_X0_cornerAt, decode cX0_cornerAt q.1 = .ok q.2)
theorem cw_X0_cornerAt : fm_cwV z_X0_cornerAt := ⟨⟨lw_in 918 (by decide +kernel) (by decide +kernel), lw_in 98 (by decide +kernel) (by decide +kernel), by decide, by decide⟩, lw_in 916 (by decide +kernel) (by decide +kernel), lw_in 917 (by decide +kernel) (by decide +kernel)⟩
theorem pn_X0_cornerAt : (parseMethodDescriptor z_X0_cornerAt.1.desc).map (fun d => d.parameters.length) = some 1 := by decide +kernel
def f_X0_cornerAt_65 (P : Nat) (a1 : Int32) (s0 : Int32) (M : fm_Mem) : Option (Int32) := some (s0)
set_option maxRecDepth 100000 in
set_option maxHeartbeats 4000000 in
theorem t_X0_cornerAt_65 (g : fm_G) (l : Launch) (hl : l.stackTraces = false) (P : Nat) (a1 : Int32) (hP : fm_kd g P = 0) (w : fm_W)  (s0 : Int32)  (M : fm_Mem) : Tt g l z_X0_cornerAt (emI M w) (f_X0_cornerAt_65 P a1  s0 M) 65 [] [.int s0] (M, w) := by
  rw [f_X0_cornerAt_65]
  exact Tt.ret (Tr.iret rfl rfl)
def f_X0_cornerAt_33 (P : Nat) (a1 : Int32) (k4 : Int32 → Int32 → fm_Mem → Option (Int32)) (x2 : Int32) (x3 : Int32) (M : fm_Mem) : Option (Int32) := (k4 x2 (x3 + (1 : Int32)) M)
set_option maxRecDepth 100000 in
set_option maxHeartbeats 4000000 in
theorem t_X0_cornerAt_33 (g : fm_G) (l : Launch) (hl : l.stackTraces = false) (P : Nat) (a1 : Int32) (hP : fm_kd g P = 0) (w : fm_W) (k4 : Int32 → Int32 → fm_Mem → Option (Int32)) (hk4 : ∀ (x2 : Int32) (x3 : Int32) (M : fm_Mem), Tt g l z_X0_cornerAt (emI M w) (k4 x2 x3 M) 4 [(0, .ref P), (1, .int a1), (2, .int x2), (3, .int x3)] [] (M, w)) (x2 : Int32) (x3 : Int32)  (M : fm_Mem) : Tt g l z_X0_cornerAt (emI M w) (f_X0_cornerAt_33 P a1 k4 x2 x3 M) 33 [(0, .ref P), (1, .int a1), (2, .int x2), (3, .int x3)] [] (M, w) := by
  rw [f_X0_cornerAt_33]
  refine Tt.go (fun _ => Tr.run 2 (pc' := 4) (lv' := [(3, .int (x3 + (1 : Int32))), (0, .ref P), (1, .int a1), (2, .int x2)]) (st' := []) rfl) ?_
  refine Tt.go (fun _ => Tr.sub (lv' := [(0, .ref P), (1, .int a1), (2, .int x2), (3, .int (x3 + (1 : Int32)))]) [1, 2, 3, 0] rfl) ?_
  exact hk4 x2 (x3 + (1 : Int32)) M
def f_X0_cornerAt_4 (P : Nat) (a1 : Int32) : Nat → Int32 → Int32 → fm_Mem → Option (Int32)
  | 0, _, _, _ => none
  | n + 1, x2, x3, M => if (M P 2) ≤ x3 then (if (M P 2) = 0 then (f_X0_cornerAt_65 P a1 (-1 : Int32) M) else (fm_ck (fm_nz (M P 2)) (Option.bind (f_X4_get (P + 3) 20 (fm_rem (x2 + a1) (M P 2)) M) (fun v2 => (f_X0_cornerAt_65 P a1 v2 M))))) else (Option.bind (f_X4_get (P + 3) 20 x3 M) (fun v3 => Option.bind (f_X4_get (P + 3) 20 x2 M) (fun v4 => if v4 ≤ v3 then (f_X0_cornerAt_33 P a1 (fun x2 x3 M => f_X0_cornerAt_4 P a1 n x2 x3 M) x2 x3 M) else (f_X0_cornerAt_33 P a1 (fun x2 x3 M => f_X0_cornerAt_4 P a1 n x2 x3 M) x3 x3 M))))
set_option maxRecDepth 100000 in
set_option maxHeartbeats 4000000 in
theorem t_X0_cornerAt_4 (g : fm_G) (l : Launch) (hl : l.stackTraces = false) (P : Nat) (a1 : Int32) (hP : fm_kd g P = 0) (w : fm_W)  : ∀ (n : Nat) (x2 : Int32) (x3 : Int32)  (M : fm_Mem), Tt g l z_X0_cornerAt (emI M w) (f_X0_cornerAt_4 P a1  n x2 x3 M) 4 [(0, .ref P), (1, .int a1), (2, .int x2), (3, .int x3)] [] (M, w) := by
  intro n
  induction n with
  | zero => intros; exact Tt.none
  | succ n ih =>
    intro x2 x3  M
    rw [f_X0_cornerAt_4]
    refine Tt.go (fun _ => Tr.run 2 (pc' := 6) (lv' := [(0, .ref P), (1, .int a1), (2, .int x2), (3, .int x3)]) (st' := [.ref P, .int x3]) rfl) ?_
    refine Tt.go (fun _ => Tr.get fmc0 hP rfl fw255 (k := 2) (by decide) rfl) (?_ : Tt g l z_X0_cornerAt (emI M w) _ 9 [(0, .ref P), (1, .int a1), (2, .int x2), (3, .int x3)] [.int (M P 2), .int x3] (M, w))
    refine Tt.ic_ge (tgt := 39) rfl (by decide) ?_ ?_
    · refine Tt.go (fun _ => Tr.run 1 (pc' := 40) (lv' := [(0, .ref P), (1, .int a1), (2, .int x2), (3, .int x3)]) (st' := [.ref P]) rfl) ?_
      refine Tt.go (fun _ => Tr.get fmc0 hP rfl fw255 (k := 2) (by decide) rfl) (?_ : Tt g l z_X0_cornerAt (emI M w) _ 43 [(0, .ref P), (1, .int a1), (2, .int x2), (3, .int x3)] [.int (M P 2)] (M, w))
      refine Tt.if_ne (tgt := 50) rfl (by decide) ?_ ?_
      · refine Tt.go (fun _ => Tr.run 2 (pc' := 65) (lv' := [(0, .ref P), (1, .int a1), (2, .int x2), (3, .int x3)]) (st' := [.int (-1 : Int32)]) rfl) ?_
        refine Tt.go (fun _ => Tr.sub (lv' := []) [] rfl) ?_
        exact t_X0_cornerAt_65 g l hl P a1 hP w (-1 : Int32) M
      · refine Tt.go (fun _ => Tr.run 1 (pc' := 51) (lv' := [(0, .ref P), (1, .int a1), (2, .int x2), (3, .int x3)]) (st' := [.ref P]) rfl) ?_
        refine Tt.go (fun _ => Tr.get fmc0 hP rfl fw254 (k := 1) (by decide) rfl) (?_ : Tt g l z_X0_cornerAt (emI M w) _ 54 [(0, .ref P), (1, .int a1), (2, .int x2), (3, .int x3)] [.ref (P + 3)] (M, w))
        refine Tt.go (fun _ => Tr.run 4 (pc' := 58) (lv' := [(0, .ref P), (1, .int a1), (2, .int x2), (3, .int x3)]) (st' := [.ref P, .int (x2 + a1), .ref (P + 3)]) rfl) ?_
        refine Tt.go (fun _ => Tr.get fmc0 hP rfl fw255 (k := 2) (by decide) rfl) (?_ : Tt g l z_X0_cornerAt (emI M w) _ 61 [(0, .ref P), (1, .int a1), (2, .int x2), (3, .int x3)] [.int (M P 2), .int (x2 + a1), .ref (P + 3)] (M, w))
        refine Tt.ck (fun hz_1 => ?_)
        refine Tt.go (fun _ => Tr.irem rfl (fm_nz_ne hz_1)) (?_ : Tt g l z_X0_cornerAt (emI M w) _ 62 [(0, .ref P), (1, .int a1), (2, .int x2), (3, .int x3)] [.int (fm_rem (x2 + a1) (M P 2)), .ref (P + 3)] (M, w))
        refine Tt.callV (As := [.int (fm_rem (x2 + a1) (M P 2))]) (rest := []) (c_X4_get g l hl (P + 3) 20 (fm_rem (x2 + a1) (M P 2)) (fmk_0_1 hP) (fmn_0_1 hP) (by decide) M w) (fmk_0_1 hP) (by decide) rfl rfl cw_X4_get fw596 pn_X4_get (Nat.le_of_ble_eq_true rfl) (Nat.le_of_ble_eq_true rfl) (Nat.le_of_ble_eq_true rfl) rfl (fun v2 => (?_ : Tt g l z_X0_cornerAt (emI M w) _ 65 [(0, .ref P), (1, .int a1), (2, .int x2), (3, .int x3)] [.int v2] (M, w)))
        refine Tt.go (fun _ => Tr.sub (lv' := []) [] rfl) ?_
        exact t_X0_cornerAt_65 g l hl P a1 hP w v2 M
    · refine Tt.go (fun _ => Tr.run 1 (pc' := 13) (lv' := [(0, .ref P), (1, .int a1), (2, .int x2), (3, .int x3)]) (st' := [.ref P]) rfl) ?_
      refine Tt.go (fun _ => Tr.get fmc0 hP rfl fw254 (k := 1) (by decide) rfl) (?_ : Tt g l z_X0_cornerAt (emI M w) _ 16 [(0, .ref P), (1, .int a1), (2, .int x2), (3, .int x3)] [.ref (P + 3)] (M, w))
      refine Tt.go (fun _ => Tr.run 1 (pc' := 17) (lv' := [(0, .ref P), (1, .int a1), (2, .int x2), (3, .int x3)]) (st' := [.int x3, .ref (P + 3)]) rfl) ?_
      refine Tt.callV (As := [.int x3]) (rest := []) (c_X4_get g l hl (P + 3) 20 x3 (fmk_0_1 hP) (fmn_0_1 hP) (by decide) M w) (fmk_0_1 hP) (by decide) rfl rfl cw_X4_get fw596 pn_X4_get (Nat.le_of_ble_eq_true rfl) (Nat.le_of_ble_eq_true rfl) (Nat.le_of_ble_eq_true rfl) rfl (fun v3 => (?_ : Tt g l z_X0_cornerAt (emI M w) _ 20 [(0, .ref P), (1, .int a1), (2, .int x2), (3, .int x3)] [.int v3] (M, w)))
      refine Tt.go (fun _ => Tr.run 1 (pc' := 21) (lv' := [(0, .ref P), (1, .int a1), (2, .int x2), (3, .int x3)]) (st' := [.ref P, .int v3]) rfl) ?_
      refine Tt.go (fun _ => Tr.get fmc0 hP rfl fw254 (k := 1) (by decide) rfl) (?_ : Tt g l z_X0_cornerAt (emI M w) _ 24 [(0, .ref P), (1, .int a1), (2, .int x2), (3, .int x3)] [.ref (P + 3), .int v3] (M, w))
      refine Tt.go (fun _ => Tr.run 1 (pc' := 25) (lv' := [(0, .ref P), (1, .int a1), (2, .int x2), (3, .int x3)]) (st' := [.int x2, .ref (P + 3), .int v3]) rfl) ?_
      refine Tt.callV (As := [.int x2]) (rest := [.int v3]) (c_X4_get g l hl (P + 3) 20 x2 (fmk_0_1 hP) (fmn_0_1 hP) (by decide) M w) (fmk_0_1 hP) (by decide) rfl rfl cw_X4_get fw596 pn_X4_get (Nat.le_of_ble_eq_true rfl) (Nat.le_of_ble_eq_true rfl) (Nat.le_of_ble_eq_true rfl) rfl (fun v4 => (?_ : Tt g l z_X0_cornerAt (emI M w) _ 28 [(0, .ref P), (1, .int a1), (2, .int x2), (3, .int x3)] [.int v4, .int v3] (M, w)))
      refine Tt.ic_ge (tgt := 33) rfl (by decide) ?_ ?_
      · exact t_X0_cornerAt_33 g l hl P a1 hP w _ ih x2 x3 M
      · refine Tt.go (fun _ => Tr.run 2 (pc' := 33) (lv' := [(2, .int x3), (0, .ref P), (1, .int a1), (3, .int x3)]) (st' := []) rfl) ?_
        refine Tt.go (fun _ => Tr.sub (lv' := [(0, .ref P), (1, .int a1), (2, .int x3), (3, .int x3)]) [1, 2, 0, 3] rfl) ?_
        exact t_X0_cornerAt_33 g l hl P a1 hP w _ ih x3 x3 M
def f_X0_cornerAt (P : Nat) (a1 : Int32) (M : fm_Mem) : Option (Int32) := (f_X0_cornerAt_4 P a1 fm_fuel (0 : Int32) (1 : Int32) M)
set_option maxRecDepth 100000 in
set_option maxHeartbeats 4000000 in
theorem t_X0_cornerAt (g : fm_G) (l : Launch) (hl : l.stackTraces = false) (P : Nat) (a1 : Int32) (hP : fm_kd g P = 0) (M : fm_Mem) (w : fm_W) : Tt g l z_X0_cornerAt (emI M w) (f_X0_cornerAt P a1 M) 0 [(0, .ref P), (1, .int a1)] [] (M, w) := by
  rw [f_X0_cornerAt]
  refine Tt.go (fun _ => Tr.run 4 (pc' := 4) (lv' := [(3, .int (1 : Int32)), (2, .int (0 : Int32)), (0, .ref P), (1, .int a1)]) (st' := []) rfl) ?_
  refine Tt.go (fun _ => Tr.sub (lv' := [(0, .ref P), (1, .int a1), (2, .int (0 : Int32)), (3, .int (1 : Int32))]) [2, 3, 1, 0] rfl) ?_
  exact t_X0_cornerAt_4 g l hl P a1 hP w fm_fuel (0 : Int32) (1 : Int32) M
theorem c_X0_cornerAt (g : fm_G) (l : Launch) (hl : l.stackTraces = false) (P : Nat) (a1 : Int32) (hP : fm_kd g P = 0) (M : fm_Mem) (w : fm_W) : ∀ r, f_X0_cornerAt P a1 M = some r → fC g l z_X0_cornerAt [.ref P, .int a1] (M, w) (emI M w r) := fun r hr => fC.of (by decide) rfl o_X0_cornerAt hl (Nat.le_of_ble_eq_true rfl) (t_X0_cornerAt g l hl P a1 hP M w r hr)
def k_X3_size : List (Nat × Instr × Nat) := [(0, .aload_n 0, 1), (1, .getfield 23, 3), (4, .ireturn, 1)]
def z_X3_size : fm_Y := (yX3_size, RX3, cX3_size, 1, (some .int), k_X3_size, 0, 0)
theorem o_X3_size : fm_dec z_X3_size := (by decide +kernel : ∀ q ∈ k_X3_size, decode cX3_size q.1 = .ok q.2)
theorem cw_X3_size : fm_cwV z_X3_size := ⟨⟨lw_in 371 (by decide +kernel) (by decide +kernel), lw_in 96 (by decide +kernel) (by decide +kernel), by decide, by decide⟩, lw_in 369 (by decide +kernel) (by decide +kernel), lw_in 370 (by decide +kernel) (by decide +kernel)⟩
theorem pn_X3_size : (parseMethodDescriptor z_X3_size.1.desc).map (fun d => d.parameters.length) = some 0 := by decide +kernel
def f_X3_size (P : Nat) (M : fm_Mem) : Option (Int32) := some ((M P 2))
set_option maxRecDepth 100000 in
set_option maxHeartbeats 4000000 in
theorem t_X3_size (g : fm_G) (l : Launch) (hl : l.stackTraces = false) (P : Nat) (hP : fm_kd g P = 3) (M : fm_Mem) (w : fm_W) : Tt g l z_X3_size (emI M w) (f_X3_size P M) 0 [(0, .ref P)] [] (M, w) := by
  rw [f_X3_size]
  refine Tt.go (fun _ => Tr.run 1 (pc' := 1) (lv' := [(0, .ref P)]) (st' := [.ref P]) rfl) ?_
  refine Tt.go (fun _ => Tr.get fmc3 hP rfl fw159 (k := 2) (by decide) rfl) (?_ : Tt g l z_X3_size (emI M w) _ 4 [(0, .ref P)] [.int (M P 2)] (M, w))
  exact Tt.ret (Tr.iret rfl rfl)
theorem c_X3_size (g : fm_G) (l : Launch) (hl : l.stackTraces = false) (P : Nat) (hP : fm_kd g P = 3) (M : fm_Mem) (w : fm_W) : ∀ r, f_X3_size P M = some r → fC g l z_X3_size [.ref P] (M, w) (emI M w r) := fun r hr => fC.of (by decide) rfl o_X3_size hl (Nat.le_of_ble_eq_true rfl) (t_X3_size g l hl P hP M w r hr)
def k_X6_lowest : List (Nat × Instr × Nat) := [(0, .iconst 0, 1), (1, .istore_n 1, 1), (2, .iload_n 1, 1), (3, .bipush 20, 2), (5, .if_icmp .ge 19, 3), (8, .iload_n 0, 1), (9, .iload_n 1, 1), (10, .ishr, 1), (11, .iconst 1, 1), (12, .iand, 1), (13, .ifCond .eq 5, 3), (16, .iload_n 1, 1), (17, .ireturn, 1), (18, .iinc 1 1, 3), (21, .goto (-19), 3), (24, .bipush 20, 2), (26, .ireturn, 1)]
def z_X6_lowest : fm_Y := (yX6_lowest, RX6, cX6_lowest, 2, (some .int), k_X6_lowest, 0, 0)
theorem o_X6_lowest : fm_dec z_X6_lowest := (by decide +kernel : ∀ q ∈ k_X6_lowest, decode cX6_lowest q.1 = .ok q.2)
theorem cw_X6_lowest : fm_cwS z_X6_lowest := ⟨⟨lw_in 434 (by decide +kernel) (by decide +kernel), lw_in 91 (by decide +kernel) (by decide +kernel), by decide, by decide⟩, lw_in 433 (by decide +kernel) (by decide +kernel)⟩
theorem pn_X6_lowest : (parseMethodDescriptor z_X6_lowest.1.desc).map (fun d => d.parameters.length) = some 1 := by decide +kernel
def f_X6_lowest_2 (a0 : Int32) : Nat → Int32 → fm_Mem → Option (Int32)
  | 0, _, _ => none
  | n + 1, x1, M => if (20 : Int32) ≤ x1 then (some ((20 : Int32))) else (if ((a0 >>> (x1 &&& 31)) &&& (1 : Int32)) = 0 then (f_X6_lowest_2 a0 n (x1 + (1 : Int32)) M) else (some (x1)))
set_option maxRecDepth 100000 in
set_option maxHeartbeats 4000000 in
theorem t_X6_lowest_2 (g : fm_G) (l : Launch) (hl : l.stackTraces = false) (a0 : Int32)  (w : fm_W)  : ∀ (n : Nat) (x1 : Int32)  (M : fm_Mem), Tt g l z_X6_lowest (emI M w) (f_X6_lowest_2 a0  n x1 M) 2 [(0, .int a0), (1, .int x1)] [] (M, w) := by
  intro n
  induction n with
  | zero => intros; exact Tt.none
  | succ n ih =>
    intro x1  M
    rw [f_X6_lowest_2]
    refine Tt.go (fun _ => Tr.run 2 (pc' := 5) (lv' := [(0, .int a0), (1, .int x1)]) (st' := [.int (20 : Int32), .int x1]) rfl) ?_
    refine Tt.ic_ge (tgt := 24) rfl (by decide) ?_ ?_
    · refine Tt.go (fun _ => Tr.run 1 (pc' := 26) (lv' := [(0, .int a0), (1, .int x1)]) (st' := [.int (20 : Int32)]) rfl) ?_
      exact Tt.ret (Tr.iret rfl rfl)
    · refine Tt.go (fun _ => Tr.run 5 (pc' := 13) (lv' := [(0, .int a0), (1, .int x1)]) (st' := [.int ((a0 >>> (x1 &&& 31)) &&& (1 : Int32))]) rfl) ?_
      refine Tt.if_eq (tgt := 18) rfl (by decide) ?_ ?_
      · refine Tt.go (fun _ => Tr.run 2 (pc' := 2) (lv' := [(1, .int (x1 + (1 : Int32))), (0, .int a0)]) (st' := []) rfl) ?_
        refine Tt.go (fun _ => Tr.sub (lv' := [(0, .int a0), (1, .int (x1 + (1 : Int32)))]) [1, 0] rfl) ?_
        exact ih (x1 + (1 : Int32)) M
      · refine Tt.go (fun _ => Tr.run 1 (pc' := 17) (lv' := [(0, .int a0), (1, .int x1)]) (st' := [.int x1]) rfl) ?_
        exact Tt.ret (Tr.iret rfl rfl)
def f_X6_lowest (a0 : Int32) (M : fm_Mem) : Option (Int32) := (f_X6_lowest_2 a0 fm_fuel (0 : Int32) M)
set_option maxRecDepth 100000 in
set_option maxHeartbeats 4000000 in
theorem t_X6_lowest (g : fm_G) (l : Launch) (hl : l.stackTraces = false) (a0 : Int32)  (M : fm_Mem) (w : fm_W) : Tt g l z_X6_lowest (emI M w) (f_X6_lowest a0 M) 0 [(0, .int a0)] [] (M, w) := by
  rw [f_X6_lowest]
  refine Tt.go (fun _ => Tr.run 2 (pc' := 2) (lv' := [(1, .int (0 : Int32)), (0, .int a0)]) (st' := []) rfl) ?_
  refine Tt.go (fun _ => Tr.sub (lv' := [(0, .int a0), (1, .int (0 : Int32))]) [1, 0] rfl) ?_
  exact t_X6_lowest_2 g l hl a0 w fm_fuel (0 : Int32) M
theorem c_X6_lowest (g : fm_G) (l : Launch) (hl : l.stackTraces = false) (a0 : Int32)  (M : fm_Mem) (w : fm_W) : ∀ r, f_X6_lowest a0 M = some r → fC g l z_X6_lowest [.int a0] (M, w) (emI M w r) := fun r hr => fC.of (by decide) rfl o_X6_lowest hl (Nat.le_of_ble_eq_true rfl) (t_X6_lowest g l hl a0  M w r hr)
def k_X3_x : List (Nat × Instr × Nat) := [(0, .aload_n 0, 1), (1, .getfield 14, 3), (4, .iload_n 1, 1), (5, .invokevirtual 27, 3), (8, .ireturn, 1)]
def z_X3_x : fm_Y := (yX3_x, RX3, cX3_x, 2, (some .int), k_X3_x, 1, 21)
theorem o_X3_x : fm_dec z_X3_x := (by decide +kernel : ∀ q ∈ k_X3_x, decode cX3_x q.1 = .ok q.2)
theorem cw_X3_x : fm_cwV z_X3_x := ⟨⟨lw_in 438 (by decide +kernel) (by decide +kernel), lw_in 96 (by decide +kernel) (by decide +kernel), by decide, by decide⟩, lw_in 436 (by decide +kernel) (by decide +kernel), lw_in 437 (by decide +kernel) (by decide +kernel)⟩
theorem pn_X3_x : (parseMethodDescriptor z_X3_x.1.desc).map (fun d => d.parameters.length) = some 1 := by decide +kernel
def f_X3_x (P : Nat) (a1 : Int32) (M : fm_Mem) : Option (Int32) := Option.bind (f_X4_get (P + 1) 20 a1 M) (fun v1 => some (v1))
set_option maxRecDepth 100000 in
set_option maxHeartbeats 4000000 in
theorem t_X3_x (g : fm_G) (l : Launch) (hl : l.stackTraces = false) (P : Nat) (a1 : Int32) (hP : fm_kd g P = 3) (M : fm_Mem) (w : fm_W) : Tt g l z_X3_x (emI M w) (f_X3_x P a1 M) 0 [(0, .ref P), (1, .int a1)] [] (M, w) := by
  rw [f_X3_x]
  refine Tt.go (fun _ => Tr.run 1 (pc' := 1) (lv' := [(0, .ref P), (1, .int a1)]) (st' := [.ref P]) rfl) ?_
  refine Tt.go (fun _ => Tr.get fmc3 hP rfl fw157 (k := 0) (by decide) rfl) (?_ : Tt g l z_X3_x (emI M w) _ 4 [(0, .ref P), (1, .int a1)] [.ref (P + 1)] (M, w))
  refine Tt.go (fun _ => Tr.run 1 (pc' := 5) (lv' := [(0, .ref P), (1, .int a1)]) (st' := [.int a1, .ref (P + 1)]) rfl) ?_
  refine Tt.callV (As := [.int a1]) (rest := []) (c_X4_get g l hl (P + 1) 20 a1 (fmk_3_0 hP) (fmn_3_0 hP) (by decide) M w) (fmk_3_0 hP) (by decide) rfl rfl cw_X4_get fw337 pn_X4_get (Nat.le_of_ble_eq_true rfl) (Nat.le_of_ble_eq_true rfl) (Nat.le_of_ble_eq_true rfl) rfl (fun v1 => (?_ : Tt g l z_X3_x (emI M w) _ 8 [(0, .ref P), (1, .int a1)] [.int v1] (M, w)))
  exact Tt.ret (Tr.iret rfl rfl)
theorem c_X3_x (g : fm_G) (l : Launch) (hl : l.stackTraces = false) (P : Nat) (a1 : Int32) (hP : fm_kd g P = 3) (M : fm_Mem) (w : fm_W) : ∀ r, f_X3_x P a1 M = some r → fC g l z_X3_x [.ref P, .int a1] (M, w) (emI M w r) := fun r hr => fC.of (by decide) rfl o_X3_x hl (Nat.le_of_ble_eq_true rfl) (t_X3_x g l hl P a1 hP M w r hr)
def k_X3_y : List (Nat × Instr × Nat) := [(0, .aload_n 0, 1), (1, .getfield 20, 3), (4, .iload_n 1, 1), (5, .invokevirtual 27, 3), (8, .ireturn, 1)]
def z_X3_y : fm_Y := (yX3_y, RX3, cX3_y, 2, (some .int), k_X3_y, 1, 21)
theorem o_X3_y : fm_dec z_X3_y := (by decide +kernel : ∀ q ∈ k_X3_y, decode cX3_y q.1 = .ok q.2)
theorem cw_X3_y : fm_cwV z_X3_y := ⟨⟨lw_in 442 (by decide +kernel) (by decide +kernel), lw_in 96 (by decide +kernel) (by decide +kernel), by decide, by decide⟩, lw_in 440 (by decide +kernel) (by decide +kernel), lw_in 441 (by decide +kernel) (by decide +kernel)⟩
theorem pn_X3_y : (parseMethodDescriptor z_X3_y.1.desc).map (fun d => d.parameters.length) = some 1 := by decide +kernel
def f_X3_y (P : Nat) (a1 : Int32) (M : fm_Mem) : Option (Int32) := Option.bind (f_X4_get (P + 3) 20 a1 M) (fun v1 => some (v1))
set_option maxRecDepth 100000 in
set_option maxHeartbeats 4000000 in
theorem t_X3_y (g : fm_G) (l : Launch) (hl : l.stackTraces = false) (P : Nat) (a1 : Int32) (hP : fm_kd g P = 3) (M : fm_Mem) (w : fm_W) : Tt g l z_X3_y (emI M w) (f_X3_y P a1 M) 0 [(0, .ref P), (1, .int a1)] [] (M, w) := by
  rw [f_X3_y]
  refine Tt.go (fun _ => Tr.run 1 (pc' := 1) (lv' := [(0, .ref P), (1, .int a1)]) (st' := [.ref P]) rfl) ?_
  refine Tt.go (fun _ => Tr.get fmc3 hP rfl fw158 (k := 1) (by decide) rfl) (?_ : Tt g l z_X3_y (emI M w) _ 4 [(0, .ref P), (1, .int a1)] [.ref (P + 3)] (M, w))
  refine Tt.go (fun _ => Tr.run 1 (pc' := 5) (lv' := [(0, .ref P), (1, .int a1)]) (st' := [.int a1, .ref (P + 3)]) rfl) ?_
  refine Tt.callV (As := [.int a1]) (rest := []) (c_X4_get g l hl (P + 3) 20 a1 (fmk_3_1 hP) (fmn_3_1 hP) (by decide) M w) (fmk_3_1 hP) (by decide) rfl rfl cw_X4_get fw337 pn_X4_get (Nat.le_of_ble_eq_true rfl) (Nat.le_of_ble_eq_true rfl) (Nat.le_of_ble_eq_true rfl) rfl (fun v1 => (?_ : Tt g l z_X3_y (emI M w) _ 8 [(0, .ref P), (1, .int a1)] [.int v1] (M, w)))
  exact Tt.ret (Tr.iret rfl rfl)
theorem c_X3_y (g : fm_G) (l : Launch) (hl : l.stackTraces = false) (P : Nat) (a1 : Int32) (hP : fm_kd g P = 3) (M : fm_Mem) (w : fm_W) : ∀ r, f_X3_y P a1 M = some r → fC g l z_X3_y [.ref P, .int a1] (M, w) (emI M w r) := fun r hr => fC.of (by decide) rfl o_X3_y hl (Nat.le_of_ble_eq_true rfl) (t_X3_y g l hl P a1 hP M w r hr)
def k_X0_leftmost : List (Nat × Instr × Nat) := [(0, .iload_n 1, 1), (1, .invokestatic 55, 3), (4, .istore_n 2, 1), (5, .iload_n 2, 1), (6, .iconst 1, 1), (7, .iadd, 1), (8, .istore_n 3, 1), (9, .iload_n 3, 1), (10, .aload_n 0, 1), (11, .invokevirtual 34, 3), (14, .if_icmp .ge 55, 3), (17, .aload_n 0, 1), (18, .iload_n 3, 1), (19, .invokevirtual 58, 3), (22, .aload_n 0, 1), (23, .iload_n 2, 1), (24, .invokevirtual 58, 3), (27, .isub, 1), (28, .istore 4, 2), (30, .iload_n 1, 1), (31, .iload_n 3, 1), (32, .ishr, 1), (33, .iconst 1, 1), (34, .iand, 1), (35, .ifCond .eq 28, 3), (38, .iload 4, 2), (40, .ifCond .lt 21, 3), (43, .iload 4, 2), (45, .ifCond .ne 18, 3), (48, .aload_n 0, 1), (49, .iload_n 3, 1), (50, .invokevirtual 61, 3), (53, .aload_n 0, 1), (54, .iload_n 2, 1), (55, .invokevirtual 61, 3), (58, .if_icmp .ge 5, 3), (61, .iload_n 3, 1), (62, .istore_n 2, 1), (63, .iinc 3 1, 3), (66, .goto (-57), 3), (69, .iload_n 2, 1), (70, .ireturn, 1)]
def z_X0_leftmost : fm_Y := (yX0_leftmost, RX0, cX0_leftmost, 5, (some .int), k_X0_leftmost, 2, 42)
theorem o_X0_leftmost : fm_dec z_X0_leftmost := (by decide +kernel : ∀ q ∈ k_X0_leftmost, decode cX0_leftmost q.1 = .ok q.2)
theorem cw_X0_leftmost : fm_cwS z_X0_leftmost := ⟨⟨lw_in 431 (by decide +kernel) (by decide +kernel), lw_in 98 (by decide +kernel) (by decide +kernel), by decide, by decide⟩, lw_in 430 (by decide +kernel) (by decide +kernel)⟩
theorem pn_X0_leftmost : (parseMethodDescriptor z_X0_leftmost.1.desc).map (fun d => d.parameters.length) = some 2 := by decide +kernel
def f_X0_leftmost_63 (r0 : Nat) (a1 : Int32) (k9 : Int32 → Int32 → fm_Mem → Option (Int32)) (x2 : Int32) (x3 : Int32) (M : fm_Mem) : Option (Int32) := (k9 x2 (x3 + (1 : Int32)) M)
set_option maxRecDepth 100000 in
set_option maxHeartbeats 4000000 in
theorem t_X0_leftmost_63 (g : fm_G) (l : Launch) (hl : l.stackTraces = false) (r0 : Nat) (a1 : Int32) (hr0 : fm_kd g r0 = 3) (w : fm_W) (k9 : Int32 → Int32 → fm_Mem → Option (Int32)) (hk9 : ∀ (x2 : Int32) (x3 : Int32) (M : fm_Mem), Tt g l z_X0_leftmost (emI M w) (k9 x2 x3 M) 9 [(0, .ref r0), (1, .int a1), (2, .int x2), (3, .int x3)] [] (M, w)) (x2 : Int32) (x3 : Int32)  (M : fm_Mem) : Tt g l z_X0_leftmost (emI M w) (f_X0_leftmost_63 r0 a1 k9 x2 x3 M) 63 [(0, .ref r0), (1, .int a1), (2, .int x2), (3, .int x3)] [] (M, w) := by
  rw [f_X0_leftmost_63]
  refine Tt.go (fun _ => Tr.run 2 (pc' := 9) (lv' := [(3, .int (x3 + (1 : Int32))), (0, .ref r0), (1, .int a1), (2, .int x2)]) (st' := []) rfl) ?_
  refine Tt.go (fun _ => Tr.sub (lv' := [(0, .ref r0), (1, .int a1), (2, .int x2), (3, .int (x3 + (1 : Int32)))]) [1, 2, 3, 0] rfl) ?_
  exact hk9 x2 (x3 + (1 : Int32)) M
def f_X0_leftmost_61 (r0 : Nat) (a1 : Int32) (k9 : Int32 → Int32 → fm_Mem → Option (Int32)) (x3 : Int32) (M : fm_Mem) : Option (Int32) := (f_X0_leftmost_63 r0 a1 k9 x3 x3 M)
set_option maxRecDepth 100000 in
set_option maxHeartbeats 4000000 in
theorem t_X0_leftmost_61 (g : fm_G) (l : Launch) (hl : l.stackTraces = false) (r0 : Nat) (a1 : Int32) (hr0 : fm_kd g r0 = 3) (w : fm_W) (k9 : Int32 → Int32 → fm_Mem → Option (Int32)) (hk9 : ∀ (x2 : Int32) (x3 : Int32) (M : fm_Mem), Tt g l z_X0_leftmost (emI M w) (k9 x2 x3 M) 9 [(0, .ref r0), (1, .int a1), (2, .int x2), (3, .int x3)] [] (M, w)) (x3 : Int32)  (M : fm_Mem) : Tt g l z_X0_leftmost (emI M w) (f_X0_leftmost_61 r0 a1 k9 x3 M) 61 [(0, .ref r0), (1, .int a1), (3, .int x3)] [] (M, w) := by
  rw [f_X0_leftmost_61]
  refine Tt.go (fun _ => Tr.run 2 (pc' := 63) (lv' := [(2, .int x3), (0, .ref r0), (1, .int a1), (3, .int x3)]) (st' := []) rfl) ?_
  refine Tt.go (fun _ => Tr.sub (lv' := [(0, .ref r0), (1, .int a1), (2, .int x3), (3, .int x3)]) [1, 2, 0, 3] rfl) ?_
  exact t_X0_leftmost_63 g l hl r0 a1 hr0 w k9 hk9 x3 x3 M
def f_X0_leftmost_9 (r0 : Nat) (a1 : Int32) : Nat → Int32 → Int32 → fm_Mem → Option (Int32)
  | 0, _, _, _ => none
  | n + 1, x2, x3, M => Option.bind (f_X3_size r0 M) (fun v1 => if v1 ≤ x3 then (some (x2)) else (Option.bind (f_X3_x r0 x3 M) (fun v2 => Option.bind (f_X3_x r0 x2 M) (fun v3 => if ((a1 >>> (x3 &&& 31)) &&& (1 : Int32)) = 0 then (f_X0_leftmost_63 r0 a1 (fun x2 x3 M => f_X0_leftmost_9 r0 a1 n x2 x3 M) x2 x3 M) else (if (v2 - v3) < 0 then (f_X0_leftmost_61 r0 a1 (fun x2 x3 M => f_X0_leftmost_9 r0 a1 n x2 x3 M) x3 M) else (if (v2 - v3) = 0 then (Option.bind (f_X3_y r0 x3 M) (fun v4 => Option.bind (f_X3_y r0 x2 M) (fun v5 => if v5 ≤ v4 then (f_X0_leftmost_63 r0 a1 (fun x2 x3 M => f_X0_leftmost_9 r0 a1 n x2 x3 M) x2 x3 M) else (f_X0_leftmost_61 r0 a1 (fun x2 x3 M => f_X0_leftmost_9 r0 a1 n x2 x3 M) x3 M)))) else (f_X0_leftmost_63 r0 a1 (fun x2 x3 M => f_X0_leftmost_9 r0 a1 n x2 x3 M) x2 x3 M)))))))
set_option maxRecDepth 100000 in
set_option maxHeartbeats 4000000 in
theorem t_X0_leftmost_9 (g : fm_G) (l : Launch) (hl : l.stackTraces = false) (r0 : Nat) (a1 : Int32) (hr0 : fm_kd g r0 = 3) (w : fm_W)  : ∀ (n : Nat) (x2 : Int32) (x3 : Int32)  (M : fm_Mem), Tt g l z_X0_leftmost (emI M w) (f_X0_leftmost_9 r0 a1  n x2 x3 M) 9 [(0, .ref r0), (1, .int a1), (2, .int x2), (3, .int x3)] [] (M, w) := by
  intro n
  induction n with
  | zero => intros; exact Tt.none
  | succ n ih =>
    intro x2 x3  M
    rw [f_X0_leftmost_9]
    refine Tt.go (fun _ => Tr.run 2 (pc' := 11) (lv' := [(0, .ref r0), (1, .int a1), (2, .int x2), (3, .int x3)]) (st' := [.ref r0, .int x3]) rfl) ?_
    refine Tt.callV (As := []) (rest := [.int x3]) (c_X3_size g l hl r0 hr0 M w) hr0 (by decide) rfl rfl cw_X3_size fw424 pn_X3_size (Nat.le_of_ble_eq_true rfl) (Nat.le_of_ble_eq_true rfl) (Nat.le_of_ble_eq_true rfl) rfl (fun v1 => (?_ : Tt g l z_X0_leftmost (emI M w) _ 14 [(0, .ref r0), (1, .int a1), (2, .int x2), (3, .int x3)] [.int v1, .int x3] (M, w)))
    refine Tt.ic_ge (tgt := 69) rfl (by decide) ?_ ?_
    · refine Tt.go (fun _ => Tr.run 1 (pc' := 70) (lv' := [(0, .ref r0), (1, .int a1), (2, .int x2), (3, .int x3)]) (st' := [.int x2]) rfl) ?_
      exact Tt.ret (Tr.iret rfl rfl)
    · refine Tt.go (fun _ => Tr.run 2 (pc' := 19) (lv' := [(0, .ref r0), (1, .int a1), (2, .int x2), (3, .int x3)]) (st' := [.int x3, .ref r0]) rfl) ?_
      refine Tt.callV (As := [.int x3]) (rest := []) (c_X3_x g l hl r0 x3 hr0 M w) hr0 (by decide) rfl rfl cw_X3_x fw435 pn_X3_x (Nat.le_of_ble_eq_true rfl) (Nat.le_of_ble_eq_true rfl) (Nat.le_of_ble_eq_true rfl) rfl (fun v2 => (?_ : Tt g l z_X0_leftmost (emI M w) _ 22 [(0, .ref r0), (1, .int a1), (2, .int x2), (3, .int x3)] [.int v2] (M, w)))
      refine Tt.go (fun _ => Tr.run 2 (pc' := 24) (lv' := [(0, .ref r0), (1, .int a1), (2, .int x2), (3, .int x3)]) (st' := [.int x2, .ref r0, .int v2]) rfl) ?_
      refine Tt.callV (As := [.int x2]) (rest := [.int v2]) (c_X3_x g l hl r0 x2 hr0 M w) hr0 (by decide) rfl rfl cw_X3_x fw435 pn_X3_x (Nat.le_of_ble_eq_true rfl) (Nat.le_of_ble_eq_true rfl) (Nat.le_of_ble_eq_true rfl) rfl (fun v3 => (?_ : Tt g l z_X0_leftmost (emI M w) _ 27 [(0, .ref r0), (1, .int a1), (2, .int x2), (3, .int x3)] [.int v3, .int v2] (M, w)))
      refine Tt.go (fun _ => Tr.run 7 (pc' := 35) (lv' := [(4, .int (v2 - v3)), (0, .ref r0), (1, .int a1), (2, .int x2), (3, .int x3)]) (st' := [.int ((a1 >>> (x3 &&& 31)) &&& (1 : Int32))]) rfl) ?_
      refine Tt.if_eq (tgt := 63) rfl (by decide) ?_ ?_
      · refine Tt.go (fun _ => Tr.sub (lv' := [(0, .ref r0), (1, .int a1), (2, .int x2), (3, .int x3)]) [1, 2, 3, 4] rfl) ?_
        exact t_X0_leftmost_63 g l hl r0 a1 hr0 w _ ih x2 x3 M
      · refine Tt.go (fun _ => Tr.run 1 (pc' := 40) (lv' := [(4, .int (v2 - v3)), (0, .ref r0), (1, .int a1), (2, .int x2), (3, .int x3)]) (st' := [.int (v2 - v3)]) rfl) ?_
        refine Tt.if_lt (tgt := 61) rfl (by decide) ?_ ?_
        · refine Tt.go (fun _ => Tr.sub (lv' := [(0, .ref r0), (1, .int a1), (3, .int x3)]) [1, 2, 4] rfl) ?_
          exact t_X0_leftmost_61 g l hl r0 a1 hr0 w _ ih x3 M
        · refine Tt.go (fun _ => Tr.run 1 (pc' := 45) (lv' := [(4, .int (v2 - v3)), (0, .ref r0), (1, .int a1), (2, .int x2), (3, .int x3)]) (st' := [.int (v2 - v3)]) rfl) ?_
          refine Tt.if_ne (tgt := 63) rfl (by decide) ?_ ?_
          · refine Tt.go (fun _ => Tr.run 2 (pc' := 50) (lv' := [(4, .int (v2 - v3)), (0, .ref r0), (1, .int a1), (2, .int x2), (3, .int x3)]) (st' := [.int x3, .ref r0]) rfl) ?_
            refine Tt.callV (As := [.int x3]) (rest := []) (c_X3_y g l hl r0 x3 hr0 M w) hr0 (by decide) rfl rfl cw_X3_y fw439 pn_X3_y (Nat.le_of_ble_eq_true rfl) (Nat.le_of_ble_eq_true rfl) (Nat.le_of_ble_eq_true rfl) rfl (fun v4 => (?_ : Tt g l z_X0_leftmost (emI M w) _ 53 [(4, .int (v2 - v3)), (0, .ref r0), (1, .int a1), (2, .int x2), (3, .int x3)] [.int v4] (M, w)))
            refine Tt.go (fun _ => Tr.run 2 (pc' := 55) (lv' := [(4, .int (v2 - v3)), (0, .ref r0), (1, .int a1), (2, .int x2), (3, .int x3)]) (st' := [.int x2, .ref r0, .int v4]) rfl) ?_
            refine Tt.callV (As := [.int x2]) (rest := [.int v4]) (c_X3_y g l hl r0 x2 hr0 M w) hr0 (by decide) rfl rfl cw_X3_y fw439 pn_X3_y (Nat.le_of_ble_eq_true rfl) (Nat.le_of_ble_eq_true rfl) (Nat.le_of_ble_eq_true rfl) rfl (fun v5 => (?_ : Tt g l z_X0_leftmost (emI M w) _ 58 [(4, .int (v2 - v3)), (0, .ref r0), (1, .int a1), (2, .int x2), (3, .int x3)] [.int v5, .int v4] (M, w)))
            refine Tt.ic_ge (tgt := 63) rfl (by decide) ?_ ?_
            · refine Tt.go (fun _ => Tr.sub (lv' := [(0, .ref r0), (1, .int a1), (2, .int x2), (3, .int x3)]) [1, 2, 3, 4] rfl) ?_
              exact t_X0_leftmost_63 g l hl r0 a1 hr0 w _ ih x2 x3 M
            · refine Tt.go (fun _ => Tr.sub (lv' := [(0, .ref r0), (1, .int a1), (3, .int x3)]) [1, 2, 4] rfl) ?_
              exact t_X0_leftmost_61 g l hl r0 a1 hr0 w _ ih x3 M
          · refine Tt.go (fun _ => Tr.sub (lv' := [(0, .ref r0), (1, .int a1), (2, .int x2), (3, .int x3)]) [1, 2, 3, 4] rfl) ?_
            exact t_X0_leftmost_63 g l hl r0 a1 hr0 w _ ih x2 x3 M
def f_X0_leftmost (r0 : Nat) (a1 : Int32) (M : fm_Mem) : Option (Int32) := Option.bind (f_X6_lowest a1 M) (fun v1 => (f_X0_leftmost_9 r0 a1 fm_fuel v1 (v1 + (1 : Int32)) M))
set_option maxRecDepth 100000 in
set_option maxHeartbeats 4000000 in
theorem t_X0_leftmost (g : fm_G) (l : Launch) (hl : l.stackTraces = false) (r0 : Nat) (a1 : Int32) (hr0 : fm_kd g r0 = 3) (M : fm_Mem) (w : fm_W) : Tt g l z_X0_leftmost (emI M w) (f_X0_leftmost r0 a1 M) 0 [(0, .ref r0), (1, .int a1)] [] (M, w) := by
  rw [f_X0_leftmost]
  refine Tt.go (fun _ => Tr.run 1 (pc' := 1) (lv' := [(0, .ref r0), (1, .int a1)]) (st' := [.int a1]) rfl) ?_
  refine Tt.callN (As := [.int a1]) (rest := []) (c_X6_lowest g l hl a1 M w) rfl cw_X6_lowest nw432 pn_X6_lowest (Nat.le_of_ble_eq_true rfl) (Nat.le_of_ble_eq_true rfl) (Nat.le_of_ble_eq_true rfl) rfl (fun v1 => (?_ : Tt g l z_X0_leftmost (emI M w) _ 4 [(0, .ref r0), (1, .int a1)] [.int v1] (M, w)))
  refine Tt.go (fun _ => Tr.run 5 (pc' := 9) (lv' := [(3, .int (v1 + (1 : Int32))), (2, .int v1), (0, .ref r0), (1, .int a1)]) (st' := []) rfl) ?_
  refine Tt.go (fun _ => Tr.sub (lv' := [(0, .ref r0), (1, .int a1), (2, .int v1), (3, .int (v1 + (1 : Int32)))]) [2, 3, 1, 0] rfl) ?_
  exact t_X0_leftmost_9 g l hl r0 a1 hr0 w fm_fuel v1 (v1 + (1 : Int32)) M
theorem c_X0_leftmost (g : fm_G) (l : Launch) (hl : l.stackTraces = false) (r0 : Nat) (a1 : Int32) (hr0 : fm_kd g r0 = 3) (M : fm_Mem) (w : fm_W) : ∀ r, f_X0_leftmost r0 a1 M = some r → fC g l z_X0_leftmost [.ref r0, .int a1] (M, w) (emI M w r) := fun r hr => fC.of (by decide) rfl o_X0_leftmost hl (Nat.le_of_ble_eq_true rfl) (t_X0_leftmost g l hl r0 a1 hr0 M w r hr)
def k_X4_set : List (Nat × Instr × Nat) := [(0, .iload_n 1, 1), (1, .ifCond .lt 19, 3), (4, .iload_n 1, 1), (5, .aload_n 0, 1), (6, .getfield 13, 3), (9, .arraylength, 1), (10, .if_icmp .ge 10, 3), (13, .aload_n 0, 1), (14, .getfield 13, 3), (17, .iload_n 1, 1), (18, .iload_n 2, 1), (19, .iastore, 1), (20, .return_, 1)]
def z_X4_set : fm_Y := (yX4_set, RX4, cX4_set, 3, none, k_X4_set, 0, 0)
theorem o_X4_set : fm_dec z_X4_set := (by decide +kernel : ∀ q ∈ k_X4_set, decode cX4_set q.1 = .ok q.2)
theorem cw_X4_set : fm_cwV z_X4_set := ⟨⟨lw_in 304 (by decide +kernel) (by decide +kernel), lw_in 93 (by decide +kernel) (by decide +kernel), by decide, by decide⟩, lw_in 302 (by decide +kernel) (by decide +kernel), lw_in 303 (by decide +kernel) (by decide +kernel)⟩
theorem pn_X4_set : (parseMethodDescriptor z_X4_set.1.desc).map (fun d => d.parameters.length) = some 2 := by decide +kernel
def f_X4_set_20 (P : Nat) (nP : Nat) (a1 : Int32) (a2 : Int32)  (M : fm_Mem) : Option (fm_Mem) := some (M)
set_option maxRecDepth 100000 in
set_option maxHeartbeats 4000000 in
theorem t_X4_set_20 (g : fm_G) (l : Launch) (hl : l.stackTraces = false) (P : Nat) (nP : Nat) (a1 : Int32) (a2 : Int32) (hP : fm_kd g P = 4) (hP1 : fm_kd g (P + 1) = 100 + nP) (hP9 : nP < 9000) (w : fm_W) (M0 : fm_Mem)    (M : fm_Mem) : Tt g l z_X4_set (emVw M0 w) (f_X4_set_20 P nP a1 a2   M) 20 [] [] (M, w) := by
  rw [f_X4_set_20]
  exact Tt.ret (Tr.vret rfl rfl)
def f_X4_set (P : Nat) (nP : Nat) (a1 : Int32) (a2 : Int32) (M : fm_Mem) : Option (fm_Mem) := if a1 < 0 then (f_X4_set_20 P nP a1 a2 M) else (if (Int32.ofNat nP) ≤ a1 then (f_X4_set_20 P nP a1 a2 M) else (fm_ck (fm_in a1 nP) (f_X4_set_20 P nP a1 a2 (fm_up M (P + 1) (Int32.toNatClampNeg a1) a2))))
set_option maxRecDepth 100000 in
set_option maxHeartbeats 4000000 in
theorem t_X4_set (g : fm_G) (l : Launch) (hl : l.stackTraces = false) (P : Nat) (nP : Nat) (a1 : Int32) (a2 : Int32) (hP : fm_kd g P = 4) (hP1 : fm_kd g (P + 1) = 100 + nP) (hP9 : nP < 9000) (M : fm_Mem) (w : fm_W) : Tt g l z_X4_set (emVw M w) (f_X4_set P nP a1 a2 M) 0 [(0, .ref P), (1, .int a1), (2, .int a2)] [] (M, w) := by
  rw [f_X4_set]
  refine Tt.go (fun _ => Tr.run 1 (pc' := 1) (lv' := [(0, .ref P), (1, .int a1), (2, .int a2)]) (st' := [.int a1]) rfl) ?_
  refine Tt.if_lt (tgt := 20) rfl (by decide) ?_ ?_
  · refine Tt.go (fun _ => Tr.sub (lv' := []) [] rfl) ?_
    exact t_X4_set_20 g l hl P nP a1 a2 hP hP1 hP9 w M M
  · refine Tt.go (fun _ => Tr.run 2 (pc' := 6) (lv' := [(0, .ref P), (1, .int a1), (2, .int a2)]) (st' := [.ref P, .int a1]) rfl) ?_
    refine Tt.go (fun _ => Tr.get fmc4 hP rfl fw138 (k := 0) (by decide) rfl) (?_ : Tt g l z_X4_set (emVw M w) _ 9 [(0, .ref P), (1, .int a1), (2, .int a2)] [.ref (P + 1), .int a1] (M, w))
    refine Tt.go (fun _ => Tr.alen hP1 hP9 rfl) (?_ : Tt g l z_X4_set (emVw M w) _ 10 [(0, .ref P), (1, .int a1), (2, .int a2)] [.int (Int32.ofNat nP), .int a1] (M, w))
    refine Tt.ic_ge (tgt := 20) rfl (by decide) ?_ ?_
    · refine Tt.go (fun _ => Tr.sub (lv' := []) [] rfl) ?_
      exact t_X4_set_20 g l hl P nP a1 a2 hP hP1 hP9 w M M
    · refine Tt.go (fun _ => Tr.run 1 (pc' := 14) (lv' := [(0, .ref P), (1, .int a1), (2, .int a2)]) (st' := [.ref P]) rfl) ?_
      refine Tt.go (fun _ => Tr.get fmc4 hP rfl fw138 (k := 0) (by decide) rfl) (?_ : Tt g l z_X4_set (emVw M w) _ 17 [(0, .ref P), (1, .int a1), (2, .int a2)] [.ref (P + 1)] (M, w))
      refine Tt.go (fun _ => Tr.run 2 (pc' := 19) (lv' := [(0, .ref P), (1, .int a1), (2, .int a2)]) (st' := [.int a2, .int a1, .ref (P + 1)]) rfl) ?_
      refine Tt.ck (fun hi_1 => ?_)
      refine Tt.go (fun _ => Tr.iast hP1 hP9 hi_1 rfl) (?_ : Tt g l z_X4_set (emVw M w) _ 20 [(0, .ref P), (1, .int a1), (2, .int a2)] [] ((fm_up M (P + 1) (Int32.toNatClampNeg a1) a2), w))
      refine Tt.go (fun _ => Tr.sub (lv' := []) [] rfl) ?_
      exact t_X4_set_20 g l hl P nP a1 a2 hP hP1 hP9 w M (fm_up M (P + 1) (Int32.toNatClampNeg a1) a2)
theorem c_X4_set (g : fm_G) (l : Launch) (hl : l.stackTraces = false) (P : Nat) (nP : Nat) (a1 : Int32) (a2 : Int32) (hP : fm_kd g P = 4) (hP1 : fm_kd g (P + 1) = 100 + nP) (hP9 : nP < 9000) (M : fm_Mem) (w : fm_W) : ∀ r, f_X4_set P nP a1 a2 M = some r → fC g l z_X4_set [.ref P, .int a1, .int a2] (M, w) (emVw M w r) := fun r hr => fC.of (by decide) rfl o_X4_set hl (Nat.le_of_ble_eq_true rfl) (t_X4_set g l hl P nP a1 a2 hP hP1 hP9 M w r hr)
def k_X3_cross : List (Nat × Instr × Nat) := [(0, .iload_n 0, 1), (1, .iload_n 3, 1), (2, .imul, 1), (3, .iload_n 1, 1), (4, .iload_n 2, 1), (5, .imul, 1), (6, .isub, 1), (7, .ireturn, 1)]
def z_X3_cross : fm_Y := (yX3_cross, RX3, cX3_cross, 4, (some .int), k_X3_cross, 0, 0)
theorem o_X3_cross : fm_dec z_X3_cross := (by decide +kernel : ∀ q ∈ k_X3_cross, decode cX3_cross q.1 = .ok q.2)
theorem cw_X3_cross : fm_cwS z_X3_cross := ⟨⟨lw_in 344 (by decide +kernel) (by decide +kernel), lw_in 96 (by decide +kernel) (by decide +kernel), by decide, by decide⟩, lw_in 343 (by decide +kernel) (by decide +kernel)⟩
theorem pn_X3_cross : (parseMethodDescriptor z_X3_cross.1.desc).map (fun d => d.parameters.length) = some 4 := by decide +kernel
def f_X3_cross (a0 : Int32) (a1 : Int32) (a2 : Int32) (a3 : Int32) (M : fm_Mem) : Option (Int32) := some (((a0 * a3) - (a1 * a2)))
set_option maxRecDepth 100000 in
set_option maxHeartbeats 4000000 in
theorem t_X3_cross (g : fm_G) (l : Launch) (hl : l.stackTraces = false) (a0 : Int32) (a1 : Int32) (a2 : Int32) (a3 : Int32)  (M : fm_Mem) (w : fm_W) : Tt g l z_X3_cross (emI M w) (f_X3_cross a0 a1 a2 a3 M) 0 [(0, .int a0), (1, .int a1), (2, .int a2), (3, .int a3)] [] (M, w) := by
  rw [f_X3_cross]
  refine Tt.go (fun _ => Tr.run 7 (pc' := 7) (lv' := [(0, .int a0), (1, .int a1), (2, .int a2), (3, .int a3)]) (st' := [.int ((a0 * a3) - (a1 * a2))]) rfl) ?_
  exact Tt.ret (Tr.iret rfl rfl)
theorem c_X3_cross (g : fm_G) (l : Launch) (hl : l.stackTraces = false) (a0 : Int32) (a1 : Int32) (a2 : Int32) (a3 : Int32)  (M : fm_Mem) (w : fm_W) : ∀ r, f_X3_cross a0 a1 a2 a3 M = some r → fC g l z_X3_cross [.int a0, .int a1, .int a2, .int a3] (M, w) (emI M w r) := fun r hr => fC.of (by decide) rfl o_X3_cross hl (Nat.le_of_ble_eq_true rfl) (t_X3_cross g l hl a0 a1 a2 a3  M w r hr)
def k_X3_turn : List (Nat × Instr × Nat) := [(0, .aload_n 0, 1), (1, .getfield 14, 3), (4, .iload_n 1, 1), (5, .invokevirtual 27, 3), (8, .istore 4, 2), (10, .aload_n 0, 1), (11, .getfield 20, 3), (14, .iload_n 1, 1), (15, .invokevirtual 27, 3), (18, .istore 5, 2), (20, .aload_n 0, 1), (21, .getfield 14, 3), (24, .iload_n 2, 1), (25, .invokevirtual 27, 3), (28, .iload 4, 2), (30, .isub, 1), (31, .aload_n 0, 1), (32, .getfield 20, 3), (35, .iload_n 2, 1), (36, .invokevirtual 27, 3), (39, .iload 5, 2), (41, .isub, 1), (42, .aload_n 0, 1), (43, .getfield 14, 3), (46, .iload_n 3, 1), (47, .invokevirtual 27, 3), (50, .iload 4, 2), (52, .isub, 1), (53, .aload_n 0, 1), (54, .getfield 20, 3), (57, .iload_n 3, 1), (58, .invokevirtual 27, 3), (61, .iload 5, 2), (63, .isub, 1), (64, .invokestatic 51, 3), (67, .ireturn, 1)]
def z_X3_turn : fm_Y := (yX3_turn, RX3, cX3_turn, 6, (some .int), k_X3_turn, 1, 23)
theorem o_X3_turn : fm_dec z_X3_turn := (by decide +kernel : ∀ q ∈ k_X3_turn, decode cX3_turn q.1 = .ok q.2)
theorem cw_X3_turn : fm_cwV z_X3_turn := ⟨⟨lw_in 341 (by decide +kernel) (by decide +kernel), lw_in 96 (by decide +kernel) (by decide +kernel), by decide, by decide⟩, lw_in 339 (by decide +kernel) (by decide +kernel), lw_in 340 (by decide +kernel) (by decide +kernel)⟩
theorem pn_X3_turn : (parseMethodDescriptor z_X3_turn.1.desc).map (fun d => d.parameters.length) = some 3 := by decide +kernel
def f_X3_turn (P : Nat) (a1 : Int32) (a2 : Int32) (a3 : Int32) (M : fm_Mem) : Option (Int32) := Option.bind (f_X4_get (P + 1) 20 a1 M) (fun v1 => Option.bind (f_X4_get (P + 3) 20 a1 M) (fun v2 => Option.bind (f_X4_get (P + 1) 20 a2 M) (fun v3 => Option.bind (f_X4_get (P + 3) 20 a2 M) (fun v4 => Option.bind (f_X4_get (P + 1) 20 a3 M) (fun v5 => Option.bind (f_X4_get (P + 3) 20 a3 M) (fun v6 => Option.bind (f_X3_cross (v3 - v1) (v4 - v2) (v5 - v1) (v6 - v2) M) (fun v7 => some (v7))))))))
set_option maxRecDepth 100000 in
set_option maxHeartbeats 4000000 in
theorem t_X3_turn (g : fm_G) (l : Launch) (hl : l.stackTraces = false) (P : Nat) (a1 : Int32) (a2 : Int32) (a3 : Int32) (hP : fm_kd g P = 3) (M : fm_Mem) (w : fm_W) : Tt g l z_X3_turn (emI M w) (f_X3_turn P a1 a2 a3 M) 0 [(0, .ref P), (1, .int a1), (2, .int a2), (3, .int a3)] [] (M, w) := by
  rw [f_X3_turn]
  refine Tt.go (fun _ => Tr.run 1 (pc' := 1) (lv' := [(0, .ref P), (1, .int a1), (2, .int a2), (3, .int a3)]) (st' := [.ref P]) rfl) ?_
  refine Tt.go (fun _ => Tr.get fmc3 hP rfl fw157 (k := 0) (by decide) rfl) (?_ : Tt g l z_X3_turn (emI M w) _ 4 [(0, .ref P), (1, .int a1), (2, .int a2), (3, .int a3)] [.ref (P + 1)] (M, w))
  refine Tt.go (fun _ => Tr.run 1 (pc' := 5) (lv' := [(0, .ref P), (1, .int a1), (2, .int a2), (3, .int a3)]) (st' := [.int a1, .ref (P + 1)]) rfl) ?_
  refine Tt.callV (As := [.int a1]) (rest := []) (c_X4_get g l hl (P + 1) 20 a1 (fmk_3_0 hP) (fmn_3_0 hP) (by decide) M w) (fmk_3_0 hP) (by decide) rfl rfl cw_X4_get fw337 pn_X4_get (Nat.le_of_ble_eq_true rfl) (Nat.le_of_ble_eq_true rfl) (Nat.le_of_ble_eq_true rfl) rfl (fun v1 => (?_ : Tt g l z_X3_turn (emI M w) _ 8 [(0, .ref P), (1, .int a1), (2, .int a2), (3, .int a3)] [.int v1] (M, w)))
  refine Tt.go (fun _ => Tr.run 2 (pc' := 11) (lv' := [(4, .int v1), (0, .ref P), (1, .int a1), (2, .int a2), (3, .int a3)]) (st' := [.ref P]) rfl) ?_
  refine Tt.go (fun _ => Tr.get fmc3 hP rfl fw158 (k := 1) (by decide) rfl) (?_ : Tt g l z_X3_turn (emI M w) _ 14 [(4, .int v1), (0, .ref P), (1, .int a1), (2, .int a2), (3, .int a3)] [.ref (P + 3)] (M, w))
  refine Tt.go (fun _ => Tr.run 1 (pc' := 15) (lv' := [(4, .int v1), (0, .ref P), (1, .int a1), (2, .int a2), (3, .int a3)]) (st' := [.int a1, .ref (P + 3)]) rfl) ?_
  refine Tt.callV (As := [.int a1]) (rest := []) (c_X4_get g l hl (P + 3) 20 a1 (fmk_3_1 hP) (fmn_3_1 hP) (by decide) M w) (fmk_3_1 hP) (by decide) rfl rfl cw_X4_get fw337 pn_X4_get (Nat.le_of_ble_eq_true rfl) (Nat.le_of_ble_eq_true rfl) (Nat.le_of_ble_eq_true rfl) rfl (fun v2 => (?_ : Tt g l z_X3_turn (emI M w) _ 18 [(4, .int v1), (0, .ref P), (1, .int a1), (2, .int a2), (3, .int a3)] [.int v2] (M, w)))
  refine Tt.go (fun _ => Tr.run 2 (pc' := 21) (lv' := [(5, .int v2), (4, .int v1), (0, .ref P), (1, .int a1), (2, .int a2), (3, .int a3)]) (st' := [.ref P]) rfl) ?_
  refine Tt.go (fun _ => Tr.get fmc3 hP rfl fw157 (k := 0) (by decide) rfl) (?_ : Tt g l z_X3_turn (emI M w) _ 24 [(5, .int v2), (4, .int v1), (0, .ref P), (1, .int a1), (2, .int a2), (3, .int a3)] [.ref (P + 1)] (M, w))
  refine Tt.go (fun _ => Tr.run 1 (pc' := 25) (lv' := [(5, .int v2), (4, .int v1), (0, .ref P), (1, .int a1), (2, .int a2), (3, .int a3)]) (st' := [.int a2, .ref (P + 1)]) rfl) ?_
  refine Tt.callV (As := [.int a2]) (rest := []) (c_X4_get g l hl (P + 1) 20 a2 (fmk_3_0 hP) (fmn_3_0 hP) (by decide) M w) (fmk_3_0 hP) (by decide) rfl rfl cw_X4_get fw337 pn_X4_get (Nat.le_of_ble_eq_true rfl) (Nat.le_of_ble_eq_true rfl) (Nat.le_of_ble_eq_true rfl) rfl (fun v3 => (?_ : Tt g l z_X3_turn (emI M w) _ 28 [(5, .int v2), (4, .int v1), (0, .ref P), (1, .int a1), (2, .int a2), (3, .int a3)] [.int v3] (M, w)))
  refine Tt.go (fun _ => Tr.run 3 (pc' := 32) (lv' := [(5, .int v2), (4, .int v1), (0, .ref P), (1, .int a1), (2, .int a2), (3, .int a3)]) (st' := [.ref P, .int (v3 - v1)]) rfl) ?_
  refine Tt.go (fun _ => Tr.get fmc3 hP rfl fw158 (k := 1) (by decide) rfl) (?_ : Tt g l z_X3_turn (emI M w) _ 35 [(5, .int v2), (4, .int v1), (0, .ref P), (1, .int a1), (2, .int a2), (3, .int a3)] [.ref (P + 3), .int (v3 - v1)] (M, w))
  refine Tt.go (fun _ => Tr.run 1 (pc' := 36) (lv' := [(5, .int v2), (4, .int v1), (0, .ref P), (1, .int a1), (2, .int a2), (3, .int a3)]) (st' := [.int a2, .ref (P + 3), .int (v3 - v1)]) rfl) ?_
  refine Tt.callV (As := [.int a2]) (rest := [.int (v3 - v1)]) (c_X4_get g l hl (P + 3) 20 a2 (fmk_3_1 hP) (fmn_3_1 hP) (by decide) M w) (fmk_3_1 hP) (by decide) rfl rfl cw_X4_get fw337 pn_X4_get (Nat.le_of_ble_eq_true rfl) (Nat.le_of_ble_eq_true rfl) (Nat.le_of_ble_eq_true rfl) rfl (fun v4 => (?_ : Tt g l z_X3_turn (emI M w) _ 39 [(5, .int v2), (4, .int v1), (0, .ref P), (1, .int a1), (2, .int a2), (3, .int a3)] [.int v4, .int (v3 - v1)] (M, w)))
  refine Tt.go (fun _ => Tr.run 3 (pc' := 43) (lv' := [(5, .int v2), (4, .int v1), (0, .ref P), (1, .int a1), (2, .int a2), (3, .int a3)]) (st' := [.ref P, .int (v4 - v2), .int (v3 - v1)]) rfl) ?_
  refine Tt.go (fun _ => Tr.get fmc3 hP rfl fw157 (k := 0) (by decide) rfl) (?_ : Tt g l z_X3_turn (emI M w) _ 46 [(5, .int v2), (4, .int v1), (0, .ref P), (1, .int a1), (2, .int a2), (3, .int a3)] [.ref (P + 1), .int (v4 - v2), .int (v3 - v1)] (M, w))
  refine Tt.go (fun _ => Tr.run 1 (pc' := 47) (lv' := [(5, .int v2), (4, .int v1), (0, .ref P), (1, .int a1), (2, .int a2), (3, .int a3)]) (st' := [.int a3, .ref (P + 1), .int (v4 - v2), .int (v3 - v1)]) rfl) ?_
  refine Tt.callV (As := [.int a3]) (rest := [.int (v4 - v2), .int (v3 - v1)]) (c_X4_get g l hl (P + 1) 20 a3 (fmk_3_0 hP) (fmn_3_0 hP) (by decide) M w) (fmk_3_0 hP) (by decide) rfl rfl cw_X4_get fw337 pn_X4_get (Nat.le_of_ble_eq_true rfl) (Nat.le_of_ble_eq_true rfl) (Nat.le_of_ble_eq_true rfl) rfl (fun v5 => (?_ : Tt g l z_X3_turn (emI M w) _ 50 [(5, .int v2), (4, .int v1), (0, .ref P), (1, .int a1), (2, .int a2), (3, .int a3)] [.int v5, .int (v4 - v2), .int (v3 - v1)] (M, w)))
  refine Tt.go (fun _ => Tr.run 3 (pc' := 54) (lv' := [(5, .int v2), (4, .int v1), (0, .ref P), (1, .int a1), (2, .int a2), (3, .int a3)]) (st' := [.ref P, .int (v5 - v1), .int (v4 - v2), .int (v3 - v1)]) rfl) ?_
  refine Tt.go (fun _ => Tr.get fmc3 hP rfl fw158 (k := 1) (by decide) rfl) (?_ : Tt g l z_X3_turn (emI M w) _ 57 [(5, .int v2), (4, .int v1), (0, .ref P), (1, .int a1), (2, .int a2), (3, .int a3)] [.ref (P + 3), .int (v5 - v1), .int (v4 - v2), .int (v3 - v1)] (M, w))
  refine Tt.go (fun _ => Tr.run 1 (pc' := 58) (lv' := [(5, .int v2), (4, .int v1), (0, .ref P), (1, .int a1), (2, .int a2), (3, .int a3)]) (st' := [.int a3, .ref (P + 3), .int (v5 - v1), .int (v4 - v2), .int (v3 - v1)]) rfl) ?_
  refine Tt.callV (As := [.int a3]) (rest := [.int (v5 - v1), .int (v4 - v2), .int (v3 - v1)]) (c_X4_get g l hl (P + 3) 20 a3 (fmk_3_1 hP) (fmn_3_1 hP) (by decide) M w) (fmk_3_1 hP) (by decide) rfl rfl cw_X4_get fw337 pn_X4_get (Nat.le_of_ble_eq_true rfl) (Nat.le_of_ble_eq_true rfl) (Nat.le_of_ble_eq_true rfl) rfl (fun v6 => (?_ : Tt g l z_X3_turn (emI M w) _ 61 [(5, .int v2), (4, .int v1), (0, .ref P), (1, .int a1), (2, .int a2), (3, .int a3)] [.int v6, .int (v5 - v1), .int (v4 - v2), .int (v3 - v1)] (M, w)))
  refine Tt.go (fun _ => Tr.run 2 (pc' := 64) (lv' := [(5, .int v2), (4, .int v1), (0, .ref P), (1, .int a1), (2, .int a2), (3, .int a3)]) (st' := [.int (v6 - v2), .int (v5 - v1), .int (v4 - v2), .int (v3 - v1)]) rfl) ?_
  refine Tt.callS (As := [.int (v3 - v1), .int (v4 - v2), .int (v5 - v1), .int (v6 - v2)]) (rest := []) (c_X3_cross g l hl (v3 - v1) (v4 - v2) (v5 - v1) (v6 - v2) M w) rfl cw_X3_cross fw342 pn_X3_cross (Nat.le_of_ble_eq_true rfl) (Nat.le_of_ble_eq_true rfl) (Nat.le_of_ble_eq_true rfl) rfl (fun v7 => (?_ : Tt g l z_X3_turn (emI M w) _ 67 [(5, .int v2), (4, .int v1), (0, .ref P), (1, .int a1), (2, .int a2), (3, .int a3)] [.int v7] (M, w)))
  exact Tt.ret (Tr.iret rfl rfl)
theorem c_X3_turn (g : fm_G) (l : Launch) (hl : l.stackTraces = false) (P : Nat) (a1 : Int32) (a2 : Int32) (a3 : Int32) (hP : fm_kd g P = 3) (M : fm_Mem) (w : fm_W) : ∀ r, f_X3_turn P a1 a2 a3 M = some r → fC g l z_X3_turn [.ref P, .int a1, .int a2, .int a3] (M, w) (emI M w r) := fun r hr => fC.of (by decide) rfl o_X3_turn hl (Nat.le_of_ble_eq_true rfl) (t_X3_turn g l hl P a1 a2 a3 hP M w r hr)
def k_X3_distance : List (Nat × Instr × Nat) := [(0, .aload_n 0, 1), (1, .getfield 14, 3), (4, .iload_n 1, 1), (5, .invokevirtual 27, 3), (8, .aload_n 0, 1), (9, .getfield 14, 3), (12, .iload_n 2, 1), (13, .invokevirtual 27, 3), (16, .isub, 1), (17, .istore_n 3, 1), (18, .aload_n 0, 1), (19, .getfield 20, 3), (22, .iload_n 1, 1), (23, .invokevirtual 27, 3), (26, .aload_n 0, 1), (27, .getfield 20, 3), (30, .iload_n 2, 1), (31, .invokevirtual 27, 3), (34, .isub, 1), (35, .istore 4, 2), (37, .iload_n 3, 1), (38, .iload_n 3, 1), (39, .imul, 1), (40, .iload 4, 2), (42, .iload 4, 2), (44, .imul, 1), (45, .iadd, 1), (46, .ireturn, 1)]
def z_X3_distance : fm_Y := (yX3_distance, RX3, cX3_distance, 5, (some .int), k_X3_distance, 1, 21)
theorem o_X3_distance : fm_dec z_X3_distance := (by decide +kernel : ∀ q ∈ k_X3_distance, decode cX3_distance q.1 = .ok q.2)
theorem cw_X3_distance : fm_cwV z_X3_distance := ⟨⟨lw_in 363 (by decide +kernel) (by decide +kernel), lw_in 96 (by decide +kernel) (by decide +kernel), by decide, by decide⟩, lw_in 361 (by decide +kernel) (by decide +kernel), lw_in 362 (by decide +kernel) (by decide +kernel)⟩
theorem pn_X3_distance : (parseMethodDescriptor z_X3_distance.1.desc).map (fun d => d.parameters.length) = some 2 := by decide +kernel
def f_X3_distance (P : Nat) (a1 : Int32) (a2 : Int32) (M : fm_Mem) : Option (Int32) := Option.bind (f_X4_get (P + 1) 20 a1 M) (fun v1 => Option.bind (f_X4_get (P + 1) 20 a2 M) (fun v2 => Option.bind (f_X4_get (P + 3) 20 a1 M) (fun v3 => Option.bind (f_X4_get (P + 3) 20 a2 M) (fun v4 => some ((((v1 - v2) * (v1 - v2)) + ((v3 - v4) * (v3 - v4))))))))
set_option maxRecDepth 100000 in
set_option maxHeartbeats 4000000 in
theorem t_X3_distance (g : fm_G) (l : Launch) (hl : l.stackTraces = false) (P : Nat) (a1 : Int32) (a2 : Int32) (hP : fm_kd g P = 3) (M : fm_Mem) (w : fm_W) : Tt g l z_X3_distance (emI M w) (f_X3_distance P a1 a2 M) 0 [(0, .ref P), (1, .int a1), (2, .int a2)] [] (M, w) := by
  rw [f_X3_distance]
  refine Tt.go (fun _ => Tr.run 1 (pc' := 1) (lv' := [(0, .ref P), (1, .int a1), (2, .int a2)]) (st' := [.ref P]) rfl) ?_
  refine Tt.go (fun _ => Tr.get fmc3 hP rfl fw157 (k := 0) (by decide) rfl) (?_ : Tt g l z_X3_distance (emI M w) _ 4 [(0, .ref P), (1, .int a1), (2, .int a2)] [.ref (P + 1)] (M, w))
  refine Tt.go (fun _ => Tr.run 1 (pc' := 5) (lv' := [(0, .ref P), (1, .int a1), (2, .int a2)]) (st' := [.int a1, .ref (P + 1)]) rfl) ?_
  refine Tt.callV (As := [.int a1]) (rest := []) (c_X4_get g l hl (P + 1) 20 a1 (fmk_3_0 hP) (fmn_3_0 hP) (by decide) M w) (fmk_3_0 hP) (by decide) rfl rfl cw_X4_get fw337 pn_X4_get (Nat.le_of_ble_eq_true rfl) (Nat.le_of_ble_eq_true rfl) (Nat.le_of_ble_eq_true rfl) rfl (fun v1 => (?_ : Tt g l z_X3_distance (emI M w) _ 8 [(0, .ref P), (1, .int a1), (2, .int a2)] [.int v1] (M, w)))
  refine Tt.go (fun _ => Tr.run 1 (pc' := 9) (lv' := [(0, .ref P), (1, .int a1), (2, .int a2)]) (st' := [.ref P, .int v1]) rfl) ?_
  refine Tt.go (fun _ => Tr.get fmc3 hP rfl fw157 (k := 0) (by decide) rfl) (?_ : Tt g l z_X3_distance (emI M w) _ 12 [(0, .ref P), (1, .int a1), (2, .int a2)] [.ref (P + 1), .int v1] (M, w))
  refine Tt.go (fun _ => Tr.run 1 (pc' := 13) (lv' := [(0, .ref P), (1, .int a1), (2, .int a2)]) (st' := [.int a2, .ref (P + 1), .int v1]) rfl) ?_
  refine Tt.callV (As := [.int a2]) (rest := [.int v1]) (c_X4_get g l hl (P + 1) 20 a2 (fmk_3_0 hP) (fmn_3_0 hP) (by decide) M w) (fmk_3_0 hP) (by decide) rfl rfl cw_X4_get fw337 pn_X4_get (Nat.le_of_ble_eq_true rfl) (Nat.le_of_ble_eq_true rfl) (Nat.le_of_ble_eq_true rfl) rfl (fun v2 => (?_ : Tt g l z_X3_distance (emI M w) _ 16 [(0, .ref P), (1, .int a1), (2, .int a2)] [.int v2, .int v1] (M, w)))
  refine Tt.go (fun _ => Tr.run 3 (pc' := 19) (lv' := [(3, .int (v1 - v2)), (0, .ref P), (1, .int a1), (2, .int a2)]) (st' := [.ref P]) rfl) ?_
  refine Tt.go (fun _ => Tr.get fmc3 hP rfl fw158 (k := 1) (by decide) rfl) (?_ : Tt g l z_X3_distance (emI M w) _ 22 [(3, .int (v1 - v2)), (0, .ref P), (1, .int a1), (2, .int a2)] [.ref (P + 3)] (M, w))
  refine Tt.go (fun _ => Tr.run 1 (pc' := 23) (lv' := [(3, .int (v1 - v2)), (0, .ref P), (1, .int a1), (2, .int a2)]) (st' := [.int a1, .ref (P + 3)]) rfl) ?_
  refine Tt.callV (As := [.int a1]) (rest := []) (c_X4_get g l hl (P + 3) 20 a1 (fmk_3_1 hP) (fmn_3_1 hP) (by decide) M w) (fmk_3_1 hP) (by decide) rfl rfl cw_X4_get fw337 pn_X4_get (Nat.le_of_ble_eq_true rfl) (Nat.le_of_ble_eq_true rfl) (Nat.le_of_ble_eq_true rfl) rfl (fun v3 => (?_ : Tt g l z_X3_distance (emI M w) _ 26 [(3, .int (v1 - v2)), (0, .ref P), (1, .int a1), (2, .int a2)] [.int v3] (M, w)))
  refine Tt.go (fun _ => Tr.run 1 (pc' := 27) (lv' := [(3, .int (v1 - v2)), (0, .ref P), (1, .int a1), (2, .int a2)]) (st' := [.ref P, .int v3]) rfl) ?_
  refine Tt.go (fun _ => Tr.get fmc3 hP rfl fw158 (k := 1) (by decide) rfl) (?_ : Tt g l z_X3_distance (emI M w) _ 30 [(3, .int (v1 - v2)), (0, .ref P), (1, .int a1), (2, .int a2)] [.ref (P + 3), .int v3] (M, w))
  refine Tt.go (fun _ => Tr.run 1 (pc' := 31) (lv' := [(3, .int (v1 - v2)), (0, .ref P), (1, .int a1), (2, .int a2)]) (st' := [.int a2, .ref (P + 3), .int v3]) rfl) ?_
  refine Tt.callV (As := [.int a2]) (rest := [.int v3]) (c_X4_get g l hl (P + 3) 20 a2 (fmk_3_1 hP) (fmn_3_1 hP) (by decide) M w) (fmk_3_1 hP) (by decide) rfl rfl cw_X4_get fw337 pn_X4_get (Nat.le_of_ble_eq_true rfl) (Nat.le_of_ble_eq_true rfl) (Nat.le_of_ble_eq_true rfl) rfl (fun v4 => (?_ : Tt g l z_X3_distance (emI M w) _ 34 [(3, .int (v1 - v2)), (0, .ref P), (1, .int a1), (2, .int a2)] [.int v4, .int v3] (M, w)))
  refine Tt.go (fun _ => Tr.run 9 (pc' := 46) (lv' := [(4, .int (v3 - v4)), (3, .int (v1 - v2)), (0, .ref P), (1, .int a1), (2, .int a2)]) (st' := [.int (((v1 - v2) * (v1 - v2)) + ((v3 - v4) * (v3 - v4)))]) rfl) ?_
  exact Tt.ret (Tr.iret rfl rfl)
theorem c_X3_distance (g : fm_G) (l : Launch) (hl : l.stackTraces = false) (P : Nat) (a1 : Int32) (a2 : Int32) (hP : fm_kd g P = 3) (M : fm_Mem) (w : fm_W) : ∀ r, f_X3_distance P a1 a2 M = some r → fC g l z_X3_distance [.ref P, .int a1, .int a2] (M, w) (emI M w r) := fun r hr => fC.of (by decide) rfl o_X3_distance hl (Nat.le_of_ble_eq_true rfl) (t_X3_distance g l hl P a1 a2 hP M w r hr)
def k_X0_nextCorner : List (Nat × Instr × Nat) := [(0, .iload_n 2, 1), (1, .istore_n 3, 1), (2, .iconst 0, 1), (3, .istore 4, 2), (5, .iload 4, 2), (7, .aload_n 0, 1), (8, .invokevirtual 34, 3), (11, .if_icmp .ge 75, 3), (14, .iload_n 1, 1), (15, .iload 4, 2), (17, .ishr, 1), (18, .iconst 1, 1), (19, .iand, 1), (20, .ifCond .eq 60, 3), (23, .iload 4, 2), (25, .iload_n 2, 1), (26, .if_icmp .eq 54, 3), (29, .aload_n 0, 1), (30, .iload_n 2, 1), (31, .iload_n 3, 1), (32, .iload 4, 2), (34, .invokevirtual 64, 3), (37, .istore 5, 2), (39, .aload_n 0, 1), (40, .iload_n 2, 1), (41, .iload 4, 2), (43, .invokevirtual 68, 3), (46, .aload_n 0, 1), (47, .iload_n 2, 1), (48, .iload_n 3, 1), (49, .invokevirtual 68, 3), (52, .if_icmp .le 7, 3), (55, .iconst 1, 1), (56, .goto 4, 3), (59, .iconst 0, 1), (60, .istore 6, 2), (62, .iload 5, 2), (64, .ifCond .lt 13, 3), (67, .iload 5, 2), (69, .ifCond .ne 11, 3), (72, .iload 6, 2), (74, .ifCond .eq 6, 3), (77, .iload 4, 2), (79, .istore_n 3, 1), (80, .iinc 4 1, 3), (83, .goto (-78), 3), (86, .iload_n 3, 1), (87, .ireturn, 1)]
def z_X0_nextCorner : fm_Y := (yX0_nextCorner, RX0, cX0_nextCorner, 7, (some .int), k_X0_nextCorner, 2, 48)
theorem o_X0_nextCorner : fm_dec z_X0_nextCorner := (by decide +kernel : ∀ q ∈ k_X0_nextCorner, decode cX0_nextCorner q.1 = .ok q.2)
theorem cw_X0_nextCorner : fm_cwS z_X0_nextCorner := ⟨⟨lw_in 446 (by decide +kernel) (by decide +kernel), lw_in 98 (by decide +kernel) (by decide +kernel), by decide, by decide⟩, lw_in 445 (by decide +kernel) (by decide +kernel)⟩
theorem pn_X0_nextCorner : (parseMethodDescriptor z_X0_nextCorner.1.desc).map (fun d => d.parameters.length) = some 3 := by decide +kernel
def f_X0_nextCorner_80 (r0 : Nat) (a1 : Int32) (a2 : Int32) (k5 : Int32 → Int32 → fm_Mem → Option (Int32)) (x3 : Int32) (x4 : Int32) (M : fm_Mem) : Option (Int32) := (k5 x3 (x4 + (1 : Int32)) M)
set_option maxRecDepth 100000 in
set_option maxHeartbeats 4000000 in
theorem t_X0_nextCorner_80 (g : fm_G) (l : Launch) (hl : l.stackTraces = false) (r0 : Nat) (a1 : Int32) (a2 : Int32) (hr0 : fm_kd g r0 = 3) (w : fm_W) (k5 : Int32 → Int32 → fm_Mem → Option (Int32)) (hk5 : ∀ (x3 : Int32) (x4 : Int32) (M : fm_Mem), Tt g l z_X0_nextCorner (emI M w) (k5 x3 x4 M) 5 [(0, .ref r0), (1, .int a1), (2, .int a2), (3, .int x3), (4, .int x4)] [] (M, w)) (x3 : Int32) (x4 : Int32)  (M : fm_Mem) : Tt g l z_X0_nextCorner (emI M w) (f_X0_nextCorner_80 r0 a1 a2 k5 x3 x4 M) 80 [(0, .ref r0), (1, .int a1), (2, .int a2), (3, .int x3), (4, .int x4)] [] (M, w) := by
  rw [f_X0_nextCorner_80]
  refine Tt.go (fun _ => Tr.run 2 (pc' := 5) (lv' := [(4, .int (x4 + (1 : Int32))), (0, .ref r0), (1, .int a1), (2, .int a2), (3, .int x3)]) (st' := []) rfl) ?_
  refine Tt.go (fun _ => Tr.sub (lv' := [(0, .ref r0), (1, .int a1), (2, .int a2), (3, .int x3), (4, .int (x4 + (1 : Int32)))]) [1, 2, 3, 4, 0] rfl) ?_
  exact hk5 x3 (x4 + (1 : Int32)) M
def f_X0_nextCorner_77 (r0 : Nat) (a1 : Int32) (a2 : Int32) (k5 : Int32 → Int32 → fm_Mem → Option (Int32)) (x4 : Int32) (M : fm_Mem) : Option (Int32) := (f_X0_nextCorner_80 r0 a1 a2 k5 x4 x4 M)
set_option maxRecDepth 100000 in
set_option maxHeartbeats 4000000 in
theorem t_X0_nextCorner_77 (g : fm_G) (l : Launch) (hl : l.stackTraces = false) (r0 : Nat) (a1 : Int32) (a2 : Int32) (hr0 : fm_kd g r0 = 3) (w : fm_W) (k5 : Int32 → Int32 → fm_Mem → Option (Int32)) (hk5 : ∀ (x3 : Int32) (x4 : Int32) (M : fm_Mem), Tt g l z_X0_nextCorner (emI M w) (k5 x3 x4 M) 5 [(0, .ref r0), (1, .int a1), (2, .int a2), (3, .int x3), (4, .int x4)] [] (M, w)) (x4 : Int32)  (M : fm_Mem) : Tt g l z_X0_nextCorner (emI M w) (f_X0_nextCorner_77 r0 a1 a2 k5 x4 M) 77 [(0, .ref r0), (1, .int a1), (2, .int a2), (4, .int x4)] [] (M, w) := by
  rw [f_X0_nextCorner_77]
  refine Tt.go (fun _ => Tr.run 2 (pc' := 80) (lv' := [(3, .int x4), (0, .ref r0), (1, .int a1), (2, .int a2), (4, .int x4)]) (st' := []) rfl) ?_
  refine Tt.go (fun _ => Tr.sub (lv' := [(0, .ref r0), (1, .int a1), (2, .int a2), (3, .int x4), (4, .int x4)]) [1, 2, 3, 0, 4] rfl) ?_
  exact t_X0_nextCorner_80 g l hl r0 a1 a2 hr0 w k5 hk5 x4 x4 M
def f_X0_nextCorner_60 (r0 : Nat) (a1 : Int32) (a2 : Int32) (k5 : Int32 → Int32 → fm_Mem → Option (Int32)) (x3 : Int32) (x4 : Int32) (x5 : Int32) (s0 : Int32) (M : fm_Mem) : Option (Int32) := if x5 < 0 then (f_X0_nextCorner_77 r0 a1 a2 k5 x4 M) else (if x5 = 0 then (if s0 = 0 then (f_X0_nextCorner_80 r0 a1 a2 k5 x3 x4 M) else (f_X0_nextCorner_77 r0 a1 a2 k5 x4 M)) else (f_X0_nextCorner_80 r0 a1 a2 k5 x3 x4 M))
set_option maxRecDepth 100000 in
set_option maxHeartbeats 4000000 in
theorem t_X0_nextCorner_60 (g : fm_G) (l : Launch) (hl : l.stackTraces = false) (r0 : Nat) (a1 : Int32) (a2 : Int32) (hr0 : fm_kd g r0 = 3) (w : fm_W) (k5 : Int32 → Int32 → fm_Mem → Option (Int32)) (hk5 : ∀ (x3 : Int32) (x4 : Int32) (M : fm_Mem), Tt g l z_X0_nextCorner (emI M w) (k5 x3 x4 M) 5 [(0, .ref r0), (1, .int a1), (2, .int a2), (3, .int x3), (4, .int x4)] [] (M, w)) (x3 : Int32) (x4 : Int32) (x5 : Int32) (s0 : Int32)  (M : fm_Mem) : Tt g l z_X0_nextCorner (emI M w) (f_X0_nextCorner_60 r0 a1 a2 k5 x3 x4 x5 s0 M) 60 [(0, .ref r0), (1, .int a1), (2, .int a2), (3, .int x3), (4, .int x4), (5, .int x5)] [.int s0] (M, w) := by
  rw [f_X0_nextCorner_60]
  refine Tt.go (fun _ => Tr.run 2 (pc' := 64) (lv' := [(6, .int s0), (0, .ref r0), (1, .int a1), (2, .int a2), (3, .int x3), (4, .int x4), (5, .int x5)]) (st' := [.int x5]) rfl) ?_
  refine Tt.if_lt (tgt := 77) rfl (by decide) ?_ ?_
  · refine Tt.go (fun _ => Tr.sub (lv' := [(0, .ref r0), (1, .int a1), (2, .int a2), (4, .int x4)]) [1, 2, 3, 5] rfl) ?_
    exact t_X0_nextCorner_77 g l hl r0 a1 a2 hr0 w k5 hk5 x4 M
  · refine Tt.go (fun _ => Tr.run 1 (pc' := 69) (lv' := [(6, .int s0), (0, .ref r0), (1, .int a1), (2, .int a2), (3, .int x3), (4, .int x4), (5, .int x5)]) (st' := [.int x5]) rfl) ?_
    refine Tt.if_ne (tgt := 80) rfl (by decide) ?_ ?_
    · refine Tt.go (fun _ => Tr.run 1 (pc' := 74) (lv' := [(6, .int s0), (0, .ref r0), (1, .int a1), (2, .int a2), (3, .int x3), (4, .int x4), (5, .int x5)]) (st' := [.int s0]) rfl) ?_
      refine Tt.if_eq (tgt := 80) rfl (by decide) ?_ ?_
      · refine Tt.go (fun _ => Tr.sub (lv' := [(0, .ref r0), (1, .int a1), (2, .int a2), (3, .int x3), (4, .int x4)]) [1, 2, 3, 4, 5] rfl) ?_
        exact t_X0_nextCorner_80 g l hl r0 a1 a2 hr0 w k5 hk5 x3 x4 M
      · refine Tt.go (fun _ => Tr.sub (lv' := [(0, .ref r0), (1, .int a1), (2, .int a2), (4, .int x4)]) [1, 2, 3, 5] rfl) ?_
        exact t_X0_nextCorner_77 g l hl r0 a1 a2 hr0 w k5 hk5 x4 M
    · refine Tt.go (fun _ => Tr.sub (lv' := [(0, .ref r0), (1, .int a1), (2, .int a2), (3, .int x3), (4, .int x4)]) [1, 2, 3, 4, 5] rfl) ?_
      exact t_X0_nextCorner_80 g l hl r0 a1 a2 hr0 w k5 hk5 x3 x4 M
def f_X0_nextCorner_5 (r0 : Nat) (a1 : Int32) (a2 : Int32) : Nat → Int32 → Int32 → fm_Mem → Option (Int32)
  | 0, _, _, _ => none
  | n + 1, x3, x4, M => Option.bind (f_X3_size r0 M) (fun v1 => if v1 ≤ x4 then (some (x3)) else (if ((a1 >>> (x4 &&& 31)) &&& (1 : Int32)) = 0 then (f_X0_nextCorner_80 r0 a1 a2 (fun x3 x4 M => f_X0_nextCorner_5 r0 a1 a2 n x3 x4 M) x3 x4 M) else (if x4 = a2 then (f_X0_nextCorner_80 r0 a1 a2 (fun x3 x4 M => f_X0_nextCorner_5 r0 a1 a2 n x3 x4 M) x3 x4 M) else (Option.bind (f_X3_turn r0 a2 x3 x4 M) (fun v2 => Option.bind (f_X3_distance r0 a2 x4 M) (fun v3 => Option.bind (f_X3_distance r0 a2 x3 M) (fun v4 => if v3 ≤ v4 then (f_X0_nextCorner_60 r0 a1 a2 (fun x3 x4 M => f_X0_nextCorner_5 r0 a1 a2 n x3 x4 M) x3 x4 v2 (0 : Int32) M) else (f_X0_nextCorner_60 r0 a1 a2 (fun x3 x4 M => f_X0_nextCorner_5 r0 a1 a2 n x3 x4 M) x3 x4 v2 (1 : Int32) M))))))))
set_option maxRecDepth 100000 in
set_option maxHeartbeats 4000000 in
theorem t_X0_nextCorner_5 (g : fm_G) (l : Launch) (hl : l.stackTraces = false) (r0 : Nat) (a1 : Int32) (a2 : Int32) (hr0 : fm_kd g r0 = 3) (w : fm_W)  : ∀ (n : Nat) (x3 : Int32) (x4 : Int32)  (M : fm_Mem), Tt g l z_X0_nextCorner (emI M w) (f_X0_nextCorner_5 r0 a1 a2  n x3 x4 M) 5 [(0, .ref r0), (1, .int a1), (2, .int a2), (3, .int x3), (4, .int x4)] [] (M, w) := by
  intro n
  induction n with
  | zero => intros; exact Tt.none
  | succ n ih =>
    intro x3 x4  M
    rw [f_X0_nextCorner_5]
    refine Tt.go (fun _ => Tr.run 2 (pc' := 8) (lv' := [(0, .ref r0), (1, .int a1), (2, .int a2), (3, .int x3), (4, .int x4)]) (st' := [.ref r0, .int x4]) rfl) ?_
    refine Tt.callV (As := []) (rest := [.int x4]) (c_X3_size g l hl r0 hr0 M w) hr0 (by decide) rfl rfl cw_X3_size fw424 pn_X3_size (Nat.le_of_ble_eq_true rfl) (Nat.le_of_ble_eq_true rfl) (Nat.le_of_ble_eq_true rfl) rfl (fun v1 => (?_ : Tt g l z_X0_nextCorner (emI M w) _ 11 [(0, .ref r0), (1, .int a1), (2, .int a2), (3, .int x3), (4, .int x4)] [.int v1, .int x4] (M, w)))
    refine Tt.ic_ge (tgt := 86) rfl (by decide) ?_ ?_
    · refine Tt.go (fun _ => Tr.run 1 (pc' := 87) (lv' := [(0, .ref r0), (1, .int a1), (2, .int a2), (3, .int x3), (4, .int x4)]) (st' := [.int x3]) rfl) ?_
      exact Tt.ret (Tr.iret rfl rfl)
    · refine Tt.go (fun _ => Tr.run 5 (pc' := 20) (lv' := [(0, .ref r0), (1, .int a1), (2, .int a2), (3, .int x3), (4, .int x4)]) (st' := [.int ((a1 >>> (x4 &&& 31)) &&& (1 : Int32))]) rfl) ?_
      refine Tt.if_eq (tgt := 80) rfl (by decide) ?_ ?_
      · exact t_X0_nextCorner_80 g l hl r0 a1 a2 hr0 w _ ih x3 x4 M
      · refine Tt.go (fun _ => Tr.run 2 (pc' := 26) (lv' := [(0, .ref r0), (1, .int a1), (2, .int a2), (3, .int x3), (4, .int x4)]) (st' := [.int a2, .int x4]) rfl) ?_
        refine Tt.ic_eq (tgt := 80) rfl (by decide) ?_ ?_
        · exact t_X0_nextCorner_80 g l hl r0 a1 a2 hr0 w _ ih x3 x4 M
        · refine Tt.go (fun _ => Tr.run 4 (pc' := 34) (lv' := [(0, .ref r0), (1, .int a1), (2, .int a2), (3, .int x3), (4, .int x4)]) (st' := [.int x4, .int x3, .int a2, .ref r0]) rfl) ?_
          refine Tt.callV (As := [.int a2, .int x3, .int x4]) (rest := []) (c_X3_turn g l hl r0 a2 x3 x4 hr0 M w) hr0 (by decide) rfl rfl cw_X3_turn fw447 pn_X3_turn (Nat.le_of_ble_eq_true rfl) (Nat.le_of_ble_eq_true rfl) (Nat.le_of_ble_eq_true rfl) rfl (fun v2 => (?_ : Tt g l z_X0_nextCorner (emI M w) _ 37 [(0, .ref r0), (1, .int a1), (2, .int a2), (3, .int x3), (4, .int x4)] [.int v2] (M, w)))
          refine Tt.go (fun _ => Tr.run 4 (pc' := 43) (lv' := [(5, .int v2), (0, .ref r0), (1, .int a1), (2, .int a2), (3, .int x3), (4, .int x4)]) (st' := [.int x4, .int a2, .ref r0]) rfl) ?_
          refine Tt.callV (As := [.int a2, .int x4]) (rest := []) (c_X3_distance g l hl r0 a2 x4 hr0 M w) hr0 (by decide) rfl rfl cw_X3_distance fw448 pn_X3_distance (Nat.le_of_ble_eq_true rfl) (Nat.le_of_ble_eq_true rfl) (Nat.le_of_ble_eq_true rfl) rfl (fun v3 => (?_ : Tt g l z_X0_nextCorner (emI M w) _ 46 [(5, .int v2), (0, .ref r0), (1, .int a1), (2, .int a2), (3, .int x3), (4, .int x4)] [.int v3] (M, w)))
          refine Tt.go (fun _ => Tr.run 3 (pc' := 49) (lv' := [(5, .int v2), (0, .ref r0), (1, .int a1), (2, .int a2), (3, .int x3), (4, .int x4)]) (st' := [.int x3, .int a2, .ref r0, .int v3]) rfl) ?_
          refine Tt.callV (As := [.int a2, .int x3]) (rest := [.int v3]) (c_X3_distance g l hl r0 a2 x3 hr0 M w) hr0 (by decide) rfl rfl cw_X3_distance fw448 pn_X3_distance (Nat.le_of_ble_eq_true rfl) (Nat.le_of_ble_eq_true rfl) (Nat.le_of_ble_eq_true rfl) rfl (fun v4 => (?_ : Tt g l z_X0_nextCorner (emI M w) _ 52 [(5, .int v2), (0, .ref r0), (1, .int a1), (2, .int a2), (3, .int x3), (4, .int x4)] [.int v4, .int v3] (M, w)))
          refine Tt.ic_le (tgt := 59) rfl (by decide) ?_ ?_
          · refine Tt.go (fun _ => Tr.run 1 (pc' := 60) (lv' := [(5, .int v2), (0, .ref r0), (1, .int a1), (2, .int a2), (3, .int x3), (4, .int x4)]) (st' := [.int (0 : Int32)]) rfl) ?_
            refine Tt.go (fun _ => Tr.sub (lv' := [(0, .ref r0), (1, .int a1), (2, .int a2), (3, .int x3), (4, .int x4), (5, .int v2)]) [1, 2, 3, 4, 5, 0] rfl) ?_
            exact t_X0_nextCorner_60 g l hl r0 a1 a2 hr0 w _ ih x3 x4 v2 (0 : Int32) M
          · refine Tt.go (fun _ => Tr.run 2 (pc' := 60) (lv' := [(5, .int v2), (0, .ref r0), (1, .int a1), (2, .int a2), (3, .int x3), (4, .int x4)]) (st' := [.int (1 : Int32)]) rfl) ?_
            refine Tt.go (fun _ => Tr.sub (lv' := [(0, .ref r0), (1, .int a1), (2, .int a2), (3, .int x3), (4, .int x4), (5, .int v2)]) [1, 2, 3, 4, 5, 0] rfl) ?_
            exact t_X0_nextCorner_60 g l hl r0 a1 a2 hr0 w _ ih x3 x4 v2 (1 : Int32) M
def f_X0_nextCorner (r0 : Nat) (a1 : Int32) (a2 : Int32) (M : fm_Mem) : Option (Int32) := (f_X0_nextCorner_5 r0 a1 a2 fm_fuel a2 (0 : Int32) M)
set_option maxRecDepth 100000 in
set_option maxHeartbeats 4000000 in
theorem t_X0_nextCorner (g : fm_G) (l : Launch) (hl : l.stackTraces = false) (r0 : Nat) (a1 : Int32) (a2 : Int32) (hr0 : fm_kd g r0 = 3) (M : fm_Mem) (w : fm_W) : Tt g l z_X0_nextCorner (emI M w) (f_X0_nextCorner r0 a1 a2 M) 0 [(0, .ref r0), (1, .int a1), (2, .int a2)] [] (M, w) := by
  rw [f_X0_nextCorner]
  refine Tt.go (fun _ => Tr.run 4 (pc' := 5) (lv' := [(4, .int (0 : Int32)), (3, .int a2), (0, .ref r0), (1, .int a1), (2, .int a2)]) (st' := []) rfl) ?_
  refine Tt.go (fun _ => Tr.sub (lv' := [(0, .ref r0), (1, .int a1), (2, .int a2), (3, .int a2), (4, .int (0 : Int32))]) [2, 3, 4, 1, 0] rfl) ?_
  exact t_X0_nextCorner_5 g l hl r0 a1 a2 hr0 w fm_fuel a2 (0 : Int32) M
theorem c_X0_nextCorner (g : fm_G) (l : Launch) (hl : l.stackTraces = false) (r0 : Nat) (a1 : Int32) (a2 : Int32) (hr0 : fm_kd g r0 = 3) (M : fm_Mem) (w : fm_W) : ∀ r, f_X0_nextCorner r0 a1 a2 M = some r → fC g l z_X0_nextCorner [.ref r0, .int a1, .int a2] (M, w) (emI M w r) := fun r hr => fC.of (by decide) rfl o_X0_nextCorner hl (Nat.le_of_ble_eq_true rfl) (t_X0_nextCorner g l hl r0 a1 a2 hr0 M w r hr)
def k_X0_peel : List (Nat × Instr × Nat) := [(0, .aload_n 1, 1), (1, .iload_n 2, 1), (2, .invokestatic 44, 3), (5, .istore_n 3, 1), (6, .iload_n 3, 1), (7, .istore 4, 2), (9, .iconst 0, 1), (10, .istore 5, 2), (12, .iconst 0, 1), (13, .istore 6, 2), (15, .iload 6, 2), (17, .aload_n 1, 1), (18, .invokevirtual 34, 3), (21, .if_icmp .ge 79, 3), (24, .iload 5, 2), (26, .iconst 1, 1), (27, .iload 4, 2), (29, .ishl, 1), (30, .ior, 1), (31, .istore 5, 2), (33, .aload_n 0, 1), (34, .getfield 14, 3), (37, .iload 4, 2), (39, .aload_n 0, 1), (40, .getfield 27, 3), (43, .invokevirtual 47, 3), (46, .aload_n 0, 1), (47, .getfield 27, 3), (50, .ifCond .ne 26, 3), (53, .aload_n 0, 1), (54, .getfield 20, 3), (57, .aload_n 0, 1), (58, .getfield 23, 3), (61, .iload 4, 2), (63, .invokevirtual 47, 3), (66, .aload_n 0, 1), (67, .dup, 1), (68, .getfield 23, 3), (71, .iconst 1, 1), (72, .iadd, 1), (73, .putfield 23, 3), (76, .aload_n 1, 1), (77, .iload_n 2, 1), (78, .iload 4, 2), (80, .invokestatic 51, 3), (83, .istore 4, 2), (85, .iload 4, 2), (87, .iload_n 3, 1), (88, .if_icmp .ne 6, 3), (91, .goto 9, 3), (94, .iinc 6 1, 3), (97, .goto (-82), 3), (100, .iload 5, 2), (102, .ireturn, 1)]
def z_X0_peel : fm_Y := (yX0_peel, RX0, cX0_peel, 7, (some .int), k_X0_peel, 3, 74)
theorem o_X0_peel : fm_dec z_X0_peel := (by decide +kernel : ∀ q ∈ k_X0_peel, decode cX0_peel q.1 = .ok q.2)
theorem cw_X0_peel : fm_cwV z_X0_peel := ⟨⟨lw_in 428 (by decide +kernel) (by decide +kernel), lw_in 98 (by decide +kernel) (by decide +kernel), by decide, by decide⟩, lw_in 427 (by decide +kernel) (by decide +kernel), lw_in 2 (by decide +kernel) (by decide +kernel)⟩
theorem pn_X0_peel : (parseMethodDescriptor z_X0_peel.1.desc).map (fun d => d.parameters.length) = some 2 := by decide +kernel
def f_X0_peel_100 (P : Nat) (r1 : Nat) (a2 : Int32) (x5 : Int32) (M : fm_Mem) : Option (Int32 × fm_Mem) := some ((x5, M))
set_option maxRecDepth 100000 in
set_option maxHeartbeats 4000000 in
theorem t_X0_peel_100 (g : fm_G) (l : Launch) (hl : l.stackTraces = false) (P : Nat) (r1 : Nat) (a2 : Int32) (hP : fm_kd g P = 0) (hr1 : fm_kd g r1 = 3) (w : fm_W) (M0 : fm_Mem)  (x5 : Int32)  (M : fm_Mem) : Tt g l z_X0_peel (emIw M0 w) (f_X0_peel_100 P r1 a2  x5 M) 100 [(5, .int x5)] [] (M, w) := by
  rw [f_X0_peel_100]
  refine Tt.go (fun _ => Tr.run 1 (pc' := 102) (lv' := [(5, .int x5)]) (st' := [.int x5]) rfl) ?_
  exact Tt.ret (Tr.iret rfl rfl)
def f_X0_peel_76 (P : Nat) (r1 : Nat) (a2 : Int32) (k15 : Int32 → Int32 → Int32 → Int32 → fm_Mem → Option (Int32 × fm_Mem)) (x3 : Int32) (x4 : Int32) (x5 : Int32) (x6 : Int32) (M : fm_Mem) : Option (Int32 × fm_Mem) := Option.bind (f_X0_nextCorner r1 a2 x4 M) (fun v1 => if v1 = x3 then (f_X0_peel_100 P r1 a2 x5 M) else (k15 x3 v1 x5 (x6 + (1 : Int32)) M))
set_option maxRecDepth 100000 in
set_option maxHeartbeats 4000000 in
theorem t_X0_peel_76 (g : fm_G) (l : Launch) (hl : l.stackTraces = false) (P : Nat) (r1 : Nat) (a2 : Int32) (hP : fm_kd g P = 0) (hr1 : fm_kd g r1 = 3) (w : fm_W) (M0 : fm_Mem) (k15 : Int32 → Int32 → Int32 → Int32 → fm_Mem → Option (Int32 × fm_Mem)) (hk15 : ∀ (x3 : Int32) (x4 : Int32) (x5 : Int32) (x6 : Int32) (M : fm_Mem), Tt g l z_X0_peel (emIw M0 w) (k15 x3 x4 x5 x6 M) 15 [(0, .ref P), (1, .ref r1), (2, .int a2), (3, .int x3), (4, .int x4), (5, .int x5), (6, .int x6)] [] (M, w)) (x3 : Int32) (x4 : Int32) (x5 : Int32) (x6 : Int32)  (M : fm_Mem) : Tt g l z_X0_peel (emIw M0 w) (f_X0_peel_76 P r1 a2 k15 x3 x4 x5 x6 M) 76 [(0, .ref P), (1, .ref r1), (2, .int a2), (3, .int x3), (4, .int x4), (5, .int x5), (6, .int x6)] [] (M, w) := by
  rw [f_X0_peel_76]
  refine Tt.go (fun _ => Tr.run 3 (pc' := 80) (lv' := [(0, .ref P), (1, .ref r1), (2, .int a2), (3, .int x3), (4, .int x4), (5, .int x5), (6, .int x6)]) (st' := [.int x4, .int a2, .ref r1]) rfl) ?_
  refine Tt.callS (As := [.ref r1, .int a2, .int x4]) (rest := []) (c_X0_nextCorner g l hl r1 a2 x4 hr1 M w) rfl cw_X0_nextCorner fw444 pn_X0_nextCorner (Nat.le_of_ble_eq_true rfl) (Nat.le_of_ble_eq_true rfl) (Nat.le_of_ble_eq_true rfl) rfl (fun v1 => (?_ : Tt g l z_X0_peel (emIw M0 w) _ 83 [(0, .ref P), (1, .ref r1), (2, .int a2), (3, .int x3), (4, .int x4), (5, .int x5), (6, .int x6)] [.int v1] (M, w)))
  refine Tt.go (fun _ => Tr.run 3 (pc' := 88) (lv' := [(4, .int v1), (0, .ref P), (1, .ref r1), (2, .int a2), (3, .int x3), (5, .int x5), (6, .int x6)]) (st' := [.int x3, .int v1]) rfl) ?_
  refine Tt.ic_ne (tgt := 94) rfl (by decide) ?_ ?_
  · refine Tt.go (fun _ => Tr.run 1 (pc' := 100) (lv' := [(4, .int v1), (0, .ref P), (1, .ref r1), (2, .int a2), (3, .int x3), (5, .int x5), (6, .int x6)]) (st' := []) rfl) ?_
    refine Tt.go (fun _ => Tr.sub (lv' := [(5, .int x5)]) [5] rfl) ?_
    exact t_X0_peel_100 g l hl P r1 a2 hP hr1 w M0 x5 M
  · refine Tt.go (fun _ => Tr.run 2 (pc' := 15) (lv' := [(6, .int (x6 + (1 : Int32))), (4, .int v1), (0, .ref P), (1, .ref r1), (2, .int a2), (3, .int x3), (5, .int x5)]) (st' := []) rfl) ?_
    refine Tt.go (fun _ => Tr.sub (lv' := [(0, .ref P), (1, .ref r1), (2, .int a2), (3, .int x3), (4, .int v1), (5, .int x5), (6, .int (x6 + (1 : Int32)))]) [2, 3, 4, 5, 1, 6, 0] rfl) ?_
    exact hk15 x3 v1 x5 (x6 + (1 : Int32)) M
def f_X0_peel_15 (P : Nat) (r1 : Nat) (a2 : Int32) : Nat → Int32 → Int32 → Int32 → Int32 → fm_Mem → Option (Int32 × fm_Mem)
  | 0, _, _, _, _, _ => none
  | n + 1, x3, x4, x5, x6, M => Option.bind (f_X3_size r1 M) (fun v1 => if v1 ≤ x6 then (f_X0_peel_100 P r1 a2 x5 M) else (Option.bind (f_X4_set (P + 1) 20 x4 (M P 3) M) (fun v2 => if (v2 P 3) = 0 then (Option.bind (f_X4_set (P + 3) 20 (v2 P 2) x4 v2) (fun v3 => (f_X0_peel_76 P r1 a2 (fun x3 x4 x5 x6 M => f_X0_peel_15 P r1 a2 n x3 x4 x5 x6 M) x3 x4 (x5 ||| ((1 : Int32) <<< (x4 &&& 31))) x6 (fm_up v3 P 2 ((v3 P 2) + (1 : Int32)))))) else (f_X0_peel_76 P r1 a2 (fun x3 x4 x5 x6 M => f_X0_peel_15 P r1 a2 n x3 x4 x5 x6 M) x3 x4 (x5 ||| ((1 : Int32) <<< (x4 &&& 31))) x6 v2))))
set_option maxRecDepth 100000 in
set_option maxHeartbeats 4000000 in
theorem t_X0_peel_15 (g : fm_G) (l : Launch) (hl : l.stackTraces = false) (P : Nat) (r1 : Nat) (a2 : Int32) (hP : fm_kd g P = 0) (hr1 : fm_kd g r1 = 3) (w : fm_W) (M0 : fm_Mem)  : ∀ (n : Nat) (x3 : Int32) (x4 : Int32) (x5 : Int32) (x6 : Int32)  (M : fm_Mem), Tt g l z_X0_peel (emIw M0 w) (f_X0_peel_15 P r1 a2  n x3 x4 x5 x6 M) 15 [(0, .ref P), (1, .ref r1), (2, .int a2), (3, .int x3), (4, .int x4), (5, .int x5), (6, .int x6)] [] (M, w) := by
  intro n
  induction n with
  | zero => intros; exact Tt.none
  | succ n ih =>
    intro x3 x4 x5 x6  M
    rw [f_X0_peel_15]
    refine Tt.go (fun _ => Tr.run 2 (pc' := 18) (lv' := [(0, .ref P), (1, .ref r1), (2, .int a2), (3, .int x3), (4, .int x4), (5, .int x5), (6, .int x6)]) (st' := [.ref r1, .int x6]) rfl) ?_
    refine Tt.callV (As := []) (rest := [.int x6]) (c_X3_size g l hl r1 hr1 M w) hr1 (by decide) rfl rfl cw_X3_size fw424 pn_X3_size (Nat.le_of_ble_eq_true rfl) (Nat.le_of_ble_eq_true rfl) (Nat.le_of_ble_eq_true rfl) rfl (fun v1 => (?_ : Tt g l z_X0_peel (emIw M0 w) _ 21 [(0, .ref P), (1, .ref r1), (2, .int a2), (3, .int x3), (4, .int x4), (5, .int x5), (6, .int x6)] [.int v1, .int x6] (M, w)))
    refine Tt.ic_ge (tgt := 100) rfl (by decide) ?_ ?_
    · refine Tt.go (fun _ => Tr.sub (lv' := [(5, .int x5)]) [5] rfl) ?_
      exact t_X0_peel_100 g l hl P r1 a2 hP hr1 w M0 x5 M
    · refine Tt.go (fun _ => Tr.run 7 (pc' := 34) (lv' := [(5, .int (x5 ||| ((1 : Int32) <<< (x4 &&& 31)))), (0, .ref P), (1, .ref r1), (2, .int a2), (3, .int x3), (4, .int x4), (6, .int x6)]) (st' := [.ref P]) rfl) ?_
      refine Tt.go (fun _ => Tr.get fmc0 hP rfl fw253 (k := 0) (by decide) rfl) (?_ : Tt g l z_X0_peel (emIw M0 w) _ 37 [(5, .int (x5 ||| ((1 : Int32) <<< (x4 &&& 31)))), (0, .ref P), (1, .ref r1), (2, .int a2), (3, .int x3), (4, .int x4), (6, .int x6)] [.ref (P + 1)] (M, w))
      refine Tt.go (fun _ => Tr.run 2 (pc' := 40) (lv' := [(5, .int (x5 ||| ((1 : Int32) <<< (x4 &&& 31)))), (0, .ref P), (1, .ref r1), (2, .int a2), (3, .int x3), (4, .int x4), (6, .int x6)]) (st' := [.ref P, .int x4, .ref (P + 1)]) rfl) ?_
      refine Tt.go (fun _ => Tr.get fmc0 hP rfl fw256 (k := 3) (by decide) rfl) (?_ : Tt g l z_X0_peel (emIw M0 w) _ 43 [(5, .int (x5 ||| ((1 : Int32) <<< (x4 &&& 31)))), (0, .ref P), (1, .ref r1), (2, .int a2), (3, .int x3), (4, .int x4), (6, .int x6)] [.int (M P 3), .int x4, .ref (P + 1)] (M, w))
      refine Tt.callV (As := [.int x4, .int (M P 3)]) (rest := []) (c_X4_set g l hl (P + 1) 20 x4 (M P 3) (fmk_0_0 hP) (fmn_0_0 hP) (by decide) M w) (fmk_0_0 hP) (by decide) rfl rfl cw_X4_set fw443 pn_X4_set (Nat.le_of_ble_eq_true rfl) (Nat.le_of_ble_eq_true rfl) (Nat.le_of_ble_eq_true rfl) rfl (fun v2 => (?_ : Tt g l z_X0_peel (emIw M0 w) _ 46 [(5, .int (x5 ||| ((1 : Int32) <<< (x4 &&& 31)))), (0, .ref P), (1, .ref r1), (2, .int a2), (3, .int x3), (4, .int x4), (6, .int x6)] [] (v2, w)))
      refine Tt.go (fun _ => Tr.run 1 (pc' := 47) (lv' := [(5, .int (x5 ||| ((1 : Int32) <<< (x4 &&& 31)))), (0, .ref P), (1, .ref r1), (2, .int a2), (3, .int x3), (4, .int x4), (6, .int x6)]) (st' := [.ref P]) rfl) ?_
      refine Tt.go (fun _ => Tr.get fmc0 hP rfl fw256 (k := 3) (by decide) rfl) (?_ : Tt g l z_X0_peel (emIw M0 w) _ 50 [(5, .int (x5 ||| ((1 : Int32) <<< (x4 &&& 31)))), (0, .ref P), (1, .ref r1), (2, .int a2), (3, .int x3), (4, .int x4), (6, .int x6)] [.int (v2 P 3)] (v2, w))
      refine Tt.if_ne (tgt := 76) rfl (by decide) ?_ ?_
      · refine Tt.go (fun _ => Tr.run 1 (pc' := 54) (lv' := [(5, .int (x5 ||| ((1 : Int32) <<< (x4 &&& 31)))), (0, .ref P), (1, .ref r1), (2, .int a2), (3, .int x3), (4, .int x4), (6, .int x6)]) (st' := [.ref P]) rfl) ?_
        refine Tt.go (fun _ => Tr.get fmc0 hP rfl fw254 (k := 1) (by decide) rfl) (?_ : Tt g l z_X0_peel (emIw M0 w) _ 57 [(5, .int (x5 ||| ((1 : Int32) <<< (x4 &&& 31)))), (0, .ref P), (1, .ref r1), (2, .int a2), (3, .int x3), (4, .int x4), (6, .int x6)] [.ref (P + 3)] (v2, w))
        refine Tt.go (fun _ => Tr.run 1 (pc' := 58) (lv' := [(5, .int (x5 ||| ((1 : Int32) <<< (x4 &&& 31)))), (0, .ref P), (1, .ref r1), (2, .int a2), (3, .int x3), (4, .int x4), (6, .int x6)]) (st' := [.ref P, .ref (P + 3)]) rfl) ?_
        refine Tt.go (fun _ => Tr.get fmc0 hP rfl fw255 (k := 2) (by decide) rfl) (?_ : Tt g l z_X0_peel (emIw M0 w) _ 61 [(5, .int (x5 ||| ((1 : Int32) <<< (x4 &&& 31)))), (0, .ref P), (1, .ref r1), (2, .int a2), (3, .int x3), (4, .int x4), (6, .int x6)] [.int (v2 P 2), .ref (P + 3)] (v2, w))
        refine Tt.go (fun _ => Tr.run 1 (pc' := 63) (lv' := [(5, .int (x5 ||| ((1 : Int32) <<< (x4 &&& 31)))), (0, .ref P), (1, .ref r1), (2, .int a2), (3, .int x3), (4, .int x4), (6, .int x6)]) (st' := [.int x4, .int (v2 P 2), .ref (P + 3)]) rfl) ?_
        refine Tt.callV (As := [.int (v2 P 2), .int x4]) (rest := []) (c_X4_set g l hl (P + 3) 20 (v2 P 2) x4 (fmk_0_1 hP) (fmn_0_1 hP) (by decide) v2 w) (fmk_0_1 hP) (by decide) rfl rfl cw_X4_set fw443 pn_X4_set (Nat.le_of_ble_eq_true rfl) (Nat.le_of_ble_eq_true rfl) (Nat.le_of_ble_eq_true rfl) rfl (fun v3 => (?_ : Tt g l z_X0_peel (emIw M0 w) _ 66 [(5, .int (x5 ||| ((1 : Int32) <<< (x4 &&& 31)))), (0, .ref P), (1, .ref r1), (2, .int a2), (3, .int x3), (4, .int x4), (6, .int x6)] [] (v3, w)))
        refine Tt.go (fun _ => Tr.run 2 (pc' := 68) (lv' := [(5, .int (x5 ||| ((1 : Int32) <<< (x4 &&& 31)))), (0, .ref P), (1, .ref r1), (2, .int a2), (3, .int x3), (4, .int x4), (6, .int x6)]) (st' := [.ref P, .ref P]) rfl) ?_
        refine Tt.go (fun _ => Tr.get fmc0 hP rfl fw255 (k := 2) (by decide) rfl) (?_ : Tt g l z_X0_peel (emIw M0 w) _ 71 [(5, .int (x5 ||| ((1 : Int32) <<< (x4 &&& 31)))), (0, .ref P), (1, .ref r1), (2, .int a2), (3, .int x3), (4, .int x4), (6, .int x6)] [.int (v3 P 2), .ref P] (v3, w))
        refine Tt.go (fun _ => Tr.run 2 (pc' := 73) (lv' := [(5, .int (x5 ||| ((1 : Int32) <<< (x4 &&& 31)))), (0, .ref P), (1, .ref r1), (2, .int a2), (3, .int x3), (4, .int x4), (6, .int x6)]) (st' := [.int ((v3 P 2) + (1 : Int32)), .ref P]) rfl) ?_
        refine Tt.go (fun _ => Tr.put fmc0 hP rfl fw255 (k := 2) (by decide) rfl rfl ⟨rfl, rfl⟩) (?_ : Tt g l z_X0_peel (emIw M0 w) _ 76 [(5, .int (x5 ||| ((1 : Int32) <<< (x4 &&& 31)))), (0, .ref P), (1, .ref r1), (2, .int a2), (3, .int x3), (4, .int x4), (6, .int x6)] [] ((fm_up v3 P 2 ((v3 P 2) + (1 : Int32))), w))
        refine Tt.go (fun _ => Tr.sub (lv' := [(0, .ref P), (1, .ref r1), (2, .int a2), (3, .int x3), (4, .int x4), (5, .int (x5 ||| ((1 : Int32) <<< (x4 &&& 31)))), (6, .int x6)]) [1, 2, 3, 4, 5, 0, 6] rfl) ?_
        exact t_X0_peel_76 g l hl P r1 a2 hP hr1 w M0 _ ih x3 x4 (x5 ||| ((1 : Int32) <<< (x4 &&& 31))) x6 (fm_up v3 P 2 ((v3 P 2) + (1 : Int32)))
      · refine Tt.go (fun _ => Tr.sub (lv' := [(0, .ref P), (1, .ref r1), (2, .int a2), (3, .int x3), (4, .int x4), (5, .int (x5 ||| ((1 : Int32) <<< (x4 &&& 31)))), (6, .int x6)]) [1, 2, 3, 4, 5, 0, 6] rfl) ?_
        exact t_X0_peel_76 g l hl P r1 a2 hP hr1 w M0 _ ih x3 x4 (x5 ||| ((1 : Int32) <<< (x4 &&& 31))) x6 v2
def f_X0_peel (P : Nat) (r1 : Nat) (a2 : Int32) (M : fm_Mem) : Option (Int32 × fm_Mem) := Option.bind (f_X0_leftmost r1 a2 M) (fun v1 => (f_X0_peel_15 P r1 a2 fm_fuel v1 v1 (0 : Int32) (0 : Int32) M))
set_option maxRecDepth 100000 in
set_option maxHeartbeats 4000000 in
theorem t_X0_peel (g : fm_G) (l : Launch) (hl : l.stackTraces = false) (P : Nat) (r1 : Nat) (a2 : Int32) (hP : fm_kd g P = 0) (hr1 : fm_kd g r1 = 3) (M : fm_Mem) (w : fm_W) : Tt g l z_X0_peel (emIw M w) (f_X0_peel P r1 a2 M) 0 [(0, .ref P), (1, .ref r1), (2, .int a2)] [] (M, w) := by
  rw [f_X0_peel]
  refine Tt.go (fun _ => Tr.run 2 (pc' := 2) (lv' := [(0, .ref P), (1, .ref r1), (2, .int a2)]) (st' := [.int a2, .ref r1]) rfl) ?_
  refine Tt.callS (As := [.ref r1, .int a2]) (rest := []) (c_X0_leftmost g l hl r1 a2 hr1 M w) rfl cw_X0_leftmost fw429 pn_X0_leftmost (Nat.le_of_ble_eq_true rfl) (Nat.le_of_ble_eq_true rfl) (Nat.le_of_ble_eq_true rfl) rfl (fun v1 => (?_ : Tt g l z_X0_peel (emIw M w) _ 5 [(0, .ref P), (1, .ref r1), (2, .int a2)] [.int v1] (M, w)))
  refine Tt.go (fun _ => Tr.run 7 (pc' := 15) (lv' := [(6, .int (0 : Int32)), (5, .int (0 : Int32)), (4, .int v1), (3, .int v1), (0, .ref P), (1, .ref r1), (2, .int a2)]) (st' := []) rfl) ?_
  refine Tt.go (fun _ => Tr.sub (lv' := [(0, .ref P), (1, .ref r1), (2, .int a2), (3, .int v1), (4, .int v1), (5, .int (0 : Int32)), (6, .int (0 : Int32))]) [4, 5, 6, 3, 2, 1, 0] rfl) ?_
  exact t_X0_peel_15 g l hl P r1 a2 hP hr1 w M fm_fuel v1 v1 (0 : Int32) (0 : Int32) M
theorem c_X0_peel (g : fm_G) (l : Launch) (hl : l.stackTraces = false) (P : Nat) (r1 : Nat) (a2 : Int32) (hP : fm_kd g P = 0) (hr1 : fm_kd g r1 = 3) (M : fm_Mem) (w : fm_W) : ∀ r, f_X0_peel P r1 a2 M = some r → fC g l z_X0_peel [.ref P, .ref r1, .int a2] (M, w) (emIw M w r) := fun r hr => fC.of (by decide) rfl o_X0_peel hl (Nat.le_of_ble_eq_true rfl) (t_X0_peel g l hl P r1 a2 hP hr1 M w r hr)
def k_X0_renew : List (Nat × Instr × Nat) := [(0, .iconst 1, 1), (1, .aload_n 1, 1), (2, .invokevirtual 34, 3), (5, .ishl, 1), (6, .iconst 1, 1), (7, .isub, 1), (8, .istore_n 2, 1), (9, .aload_n 0, 1), (10, .iconst 0, 1), (11, .putfield 23, 3), (14, .aload_n 0, 1), (15, .iconst 0, 1), (16, .putfield 27, 3), (19, .iload_n 2, 1), (20, .ifCond .eq 36, 3), (23, .aload_n 0, 1), (24, .getfield 27, 3), (27, .bipush 20, 2), (29, .if_icmp .ge 27, 3), (32, .iload_n 2, 1), (33, .aload_n 0, 1), (34, .aload_n 1, 1), (35, .iload_n 2, 1), (36, .invokevirtual 40, 3), (39, .iconst (-1), 1), (40, .ixor, 1), (41, .iand, 1), (42, .istore_n 2, 1), (43, .aload_n 0, 1), (44, .dup, 1), (45, .getfield 27, 3), (48, .iconst 1, 1), (49, .iadd, 1), (50, .putfield 27, 3), (53, .goto (-34), 3), (56, .return_, 1)]
def z_X0_renew : fm_Y := (yX0_renew, RX0, cX0_renew, 3, none, k_X0_renew, 4, 100)
theorem o_X0_renew : fm_dec z_X0_renew := (by decide +kernel : ∀ q ∈ k_X0_renew, decode cX0_renew q.1 = .ok q.2)
theorem cw_X0_renew : fm_cwV z_X0_renew := ⟨⟨lw_in 423 (by decide +kernel) (by decide +kernel), lw_in 98 (by decide +kernel) (by decide +kernel), by decide, by decide⟩, lw_in 421 (by decide +kernel) (by decide +kernel), lw_in 422 (by decide +kernel) (by decide +kernel)⟩
theorem pn_X0_renew : (parseMethodDescriptor z_X0_renew.1.desc).map (fun d => d.parameters.length) = some 1 := by decide +kernel
def f_X0_renew_56 (P : Nat) (r1 : Nat)  (M : fm_Mem) : Option (fm_Mem) := some (M)
set_option maxRecDepth 100000 in
set_option maxHeartbeats 4000000 in
theorem t_X0_renew_56 (g : fm_G) (l : Launch) (hl : l.stackTraces = false) (P : Nat) (r1 : Nat) (hP : fm_kd g P = 0) (hr1 : fm_kd g r1 = 3) (w : fm_W) (M0 : fm_Mem)    (M : fm_Mem) : Tt g l z_X0_renew (emVw M0 w) (f_X0_renew_56 P r1   M) 56 [] [] (M, w) := by
  rw [f_X0_renew_56]
  exact Tt.ret (Tr.vret rfl rfl)
def f_X0_renew_19 (P : Nat) (r1 : Nat) : Nat → Int32 → fm_Mem → Option (fm_Mem)
  | 0, _, _ => none
  | n + 1, x2, M => if x2 = 0 then (f_X0_renew_56 P r1 M) else (if (20 : Int32) ≤ (M P 3) then (f_X0_renew_56 P r1 M) else (Option.bind (f_X0_peel P r1 x2 M) (fun v1 => (f_X0_renew_19 P r1 n (x2 &&& (v1.1 ^^^ (-1 : Int32))) (fm_up v1.2 P 3 ((v1.2 P 3) + (1 : Int32)))))))
set_option maxRecDepth 100000 in
set_option maxHeartbeats 4000000 in
theorem t_X0_renew_19 (g : fm_G) (l : Launch) (hl : l.stackTraces = false) (P : Nat) (r1 : Nat) (hP : fm_kd g P = 0) (hr1 : fm_kd g r1 = 3) (w : fm_W) (M0 : fm_Mem)  : ∀ (n : Nat) (x2 : Int32)  (M : fm_Mem), Tt g l z_X0_renew (emVw M0 w) (f_X0_renew_19 P r1  n x2 M) 19 [(0, .ref P), (1, .ref r1), (2, .int x2)] [] (M, w) := by
  intro n
  induction n with
  | zero => intros; exact Tt.none
  | succ n ih =>
    intro x2  M
    rw [f_X0_renew_19]
    refine Tt.go (fun _ => Tr.run 1 (pc' := 20) (lv' := [(0, .ref P), (1, .ref r1), (2, .int x2)]) (st' := [.int x2]) rfl) ?_
    refine Tt.if_eq (tgt := 56) rfl (by decide) ?_ ?_
    · refine Tt.go (fun _ => Tr.sub (lv' := []) [] rfl) ?_
      exact t_X0_renew_56 g l hl P r1 hP hr1 w M0 M
    · refine Tt.go (fun _ => Tr.run 1 (pc' := 24) (lv' := [(0, .ref P), (1, .ref r1), (2, .int x2)]) (st' := [.ref P]) rfl) ?_
      refine Tt.go (fun _ => Tr.get fmc0 hP rfl fw256 (k := 3) (by decide) rfl) (?_ : Tt g l z_X0_renew (emVw M0 w) _ 27 [(0, .ref P), (1, .ref r1), (2, .int x2)] [.int (M P 3)] (M, w))
      refine Tt.go (fun _ => Tr.run 1 (pc' := 29) (lv' := [(0, .ref P), (1, .ref r1), (2, .int x2)]) (st' := [.int (20 : Int32), .int (M P 3)]) rfl) ?_
      refine Tt.ic_ge (tgt := 56) rfl (by decide) ?_ ?_
      · refine Tt.go (fun _ => Tr.sub (lv' := []) [] rfl) ?_
        exact t_X0_renew_56 g l hl P r1 hP hr1 w M0 M
      · refine Tt.go (fun _ => Tr.run 4 (pc' := 36) (lv' := [(0, .ref P), (1, .ref r1), (2, .int x2)]) (st' := [.int x2, .ref r1, .ref P, .int x2]) rfl) ?_
        refine Tt.callV (As := [.ref r1, .int x2]) (rest := [.int x2]) (c_X0_peel g l hl P r1 x2 hP hr1 M w) hP (by decide) rfl rfl cw_X0_peel fw425 pn_X0_peel (Nat.le_of_ble_eq_true rfl) (Nat.le_of_ble_eq_true rfl) (Nat.le_of_ble_eq_true rfl) rfl (fun v1 => (?_ : Tt g l z_X0_renew (emVw M0 w) _ 39 [(0, .ref P), (1, .ref r1), (2, .int x2)] [.int v1.1, .int x2] (v1.2, w)))
        refine Tt.go (fun _ => Tr.run 6 (pc' := 45) (lv' := [(2, .int (x2 &&& (v1.1 ^^^ (-1 : Int32)))), (0, .ref P), (1, .ref r1)]) (st' := [.ref P, .ref P]) rfl) ?_
        refine Tt.go (fun _ => Tr.get fmc0 hP rfl fw256 (k := 3) (by decide) rfl) (?_ : Tt g l z_X0_renew (emVw M0 w) _ 48 [(2, .int (x2 &&& (v1.1 ^^^ (-1 : Int32)))), (0, .ref P), (1, .ref r1)] [.int (v1.2 P 3), .ref P] (v1.2, w))
        refine Tt.go (fun _ => Tr.run 2 (pc' := 50) (lv' := [(2, .int (x2 &&& (v1.1 ^^^ (-1 : Int32)))), (0, .ref P), (1, .ref r1)]) (st' := [.int ((v1.2 P 3) + (1 : Int32)), .ref P]) rfl) ?_
        refine Tt.go (fun _ => Tr.put fmc0 hP rfl fw256 (k := 3) (by decide) rfl rfl ⟨rfl, rfl⟩) (?_ : Tt g l z_X0_renew (emVw M0 w) _ 53 [(2, .int (x2 &&& (v1.1 ^^^ (-1 : Int32)))), (0, .ref P), (1, .ref r1)] [] ((fm_up v1.2 P 3 ((v1.2 P 3) + (1 : Int32))), w))
        refine Tt.go (fun _ => Tr.run 1 (pc' := 19) (lv' := [(2, .int (x2 &&& (v1.1 ^^^ (-1 : Int32)))), (0, .ref P), (1, .ref r1)]) (st' := []) rfl) ?_
        refine Tt.go (fun _ => Tr.sub (lv' := [(0, .ref P), (1, .ref r1), (2, .int (x2 &&& (v1.1 ^^^ (-1 : Int32))))]) [1, 2, 0] rfl) ?_
        exact ih (x2 &&& (v1.1 ^^^ (-1 : Int32))) (fm_up v1.2 P 3 ((v1.2 P 3) + (1 : Int32)))
def f_X0_renew (P : Nat) (r1 : Nat) (M : fm_Mem) : Option (fm_Mem) := Option.bind (f_X3_size r1 M) (fun v1 => (f_X0_renew_19 P r1 fm_fuel (((1 : Int32) <<< (v1 &&& 31)) - (1 : Int32)) (fm_up (fm_up M P 2 (0 : Int32)) P 3 (0 : Int32))))
set_option maxRecDepth 100000 in
set_option maxHeartbeats 4000000 in
theorem t_X0_renew (g : fm_G) (l : Launch) (hl : l.stackTraces = false) (P : Nat) (r1 : Nat) (hP : fm_kd g P = 0) (hr1 : fm_kd g r1 = 3) (M : fm_Mem) (w : fm_W) : Tt g l z_X0_renew (emVw M w) (f_X0_renew P r1 M) 0 [(0, .ref P), (1, .ref r1)] [] (M, w) := by
  rw [f_X0_renew]
  refine Tt.go (fun _ => Tr.run 2 (pc' := 2) (lv' := [(0, .ref P), (1, .ref r1)]) (st' := [.ref r1, .int (1 : Int32)]) rfl) ?_
  refine Tt.callV (As := []) (rest := [.int (1 : Int32)]) (c_X3_size g l hl r1 hr1 M w) hr1 (by decide) rfl rfl cw_X3_size fw424 pn_X3_size (Nat.le_of_ble_eq_true rfl) (Nat.le_of_ble_eq_true rfl) (Nat.le_of_ble_eq_true rfl) rfl (fun v1 => (?_ : Tt g l z_X0_renew (emVw M w) _ 5 [(0, .ref P), (1, .ref r1)] [.int v1, .int (1 : Int32)] (M, w)))
  refine Tt.go (fun _ => Tr.run 6 (pc' := 11) (lv' := [(2, .int (((1 : Int32) <<< (v1 &&& 31)) - (1 : Int32))), (0, .ref P), (1, .ref r1)]) (st' := [.int (0 : Int32), .ref P]) rfl) ?_
  refine Tt.go (fun _ => Tr.put fmc0 hP rfl fw255 (k := 2) (by decide) rfl rfl ⟨rfl, rfl⟩) (?_ : Tt g l z_X0_renew (emVw M w) _ 14 [(2, .int (((1 : Int32) <<< (v1 &&& 31)) - (1 : Int32))), (0, .ref P), (1, .ref r1)] [] ((fm_up M P 2 (0 : Int32)), w))
  refine Tt.go (fun _ => Tr.run 2 (pc' := 16) (lv' := [(2, .int (((1 : Int32) <<< (v1 &&& 31)) - (1 : Int32))), (0, .ref P), (1, .ref r1)]) (st' := [.int (0 : Int32), .ref P]) rfl) ?_
  refine Tt.go (fun _ => Tr.put fmc0 hP rfl fw256 (k := 3) (by decide) rfl rfl ⟨rfl, rfl⟩) (?_ : Tt g l z_X0_renew (emVw M w) _ 19 [(2, .int (((1 : Int32) <<< (v1 &&& 31)) - (1 : Int32))), (0, .ref P), (1, .ref r1)] [] ((fm_up (fm_up M P 2 (0 : Int32)) P 3 (0 : Int32)), w))
  refine Tt.go (fun _ => Tr.sub (lv' := [(0, .ref P), (1, .ref r1), (2, .int (((1 : Int32) <<< (v1 &&& 31)) - (1 : Int32)))]) [1, 2, 0] rfl) ?_
  exact t_X0_renew_19 g l hl P r1 hP hr1 w M fm_fuel (((1 : Int32) <<< (v1 &&& 31)) - (1 : Int32)) (fm_up (fm_up M P 2 (0 : Int32)) P 3 (0 : Int32))
theorem c_X0_renew (g : fm_G) (l : Launch) (hl : l.stackTraces = false) (P : Nat) (r1 : Nat) (hP : fm_kd g P = 0) (hr1 : fm_kd g r1 = 3) (M : fm_Mem) (w : fm_W) : ∀ r, f_X0_renew P r1 M = some r → fC g l z_X0_renew [.ref P, .ref r1] (M, w) (emVw M w r) := fun r hr => fC.of (by decide) rfl o_X0_renew hl (Nat.le_of_ble_eq_true rfl) (t_X0_renew g l hl P r1 hP hr1 M w r hr)
def k_X1_size : List (Nat × Instr × Nat) := [(0, .aload_n 0, 1), (1, .getfield 23, 3), (4, .ireturn, 1)]
def z_X1_size : fm_Y := (yX1_size, RX1, cX1_size, 1, (some .int), k_X1_size, 0, 0)
theorem o_X1_size : fm_dec z_X1_size := (by decide +kernel : ∀ q ∈ k_X1_size, decode cX1_size q.1 = .ok q.2)
theorem cw_X1_size : fm_cwV z_X1_size := ⟨⟨lw_in 316 (by decide +kernel) (by decide +kernel), lw_in 97 (by decide +kernel) (by decide +kernel), by decide, by decide⟩, lw_in 314 (by decide +kernel) (by decide +kernel), lw_in 315 (by decide +kernel) (by decide +kernel)⟩
theorem pn_X1_size : (parseMethodDescriptor z_X1_size.1.desc).map (fun d => d.parameters.length) = some 0 := by decide +kernel
def f_X1_size (P : Nat) (M : fm_Mem) : Option (Int32) := some ((M P 2))
set_option maxRecDepth 100000 in
set_option maxHeartbeats 4000000 in
theorem t_X1_size (g : fm_G) (l : Launch) (hl : l.stackTraces = false) (P : Nat) (hP : fm_kd g P = 1) (M : fm_Mem) (w : fm_W) : Tt g l z_X1_size (emI M w) (f_X1_size P M) 0 [(0, .ref P)] [] (M, w) := by
  rw [f_X1_size]
  refine Tt.go (fun _ => Tr.run 1 (pc' := 1) (lv' := [(0, .ref P)]) (st' := [.ref P]) rfl) ?_
  refine Tt.go (fun _ => Tr.get fmc1 hP rfl fw177 (k := 2) (by decide) rfl) (?_ : Tt g l z_X1_size (emI M w) _ 4 [(0, .ref P)] [.int (M P 2)] (M, w))
  exact Tt.ret (Tr.iret rfl rfl)
theorem c_X1_size (g : fm_G) (l : Launch) (hl : l.stackTraces = false) (P : Nat) (hP : fm_kd g P = 1) (M : fm_Mem) (w : fm_W) : ∀ r, f_X1_size P M = some r → fC g l z_X1_size [.ref P] (M, w) (emI M w r) := fun r hr => fC.of (by decide) rfl o_X1_size hl (Nat.le_of_ble_eq_true rfl) (t_X1_size g l hl P hP M w r hr)
def k_X1_a : List (Nat × Instr × Nat) := [(0, .aload_n 0, 1), (1, .getfield 14, 3), (4, .iload_n 1, 1), (5, .invokevirtual 27, 3), (8, .sipush 400, 3), (11, .idiv, 1), (12, .ireturn, 1)]
def z_X1_a : fm_Y := (yX1_a, RX1, cX1_a, 2, (some .int), k_X1_a, 1, 21)
theorem o_X1_a : fm_dec z_X1_a := (by decide +kernel : ∀ q ∈ k_X1_a, decode cX1_a q.1 = .ok q.2)
theorem cw_X1_a : fm_cwV z_X1_a := ⟨⟨lw_in 320 (by decide +kernel) (by decide +kernel), lw_in 97 (by decide +kernel) (by decide +kernel), by decide, by decide⟩, lw_in 318 (by decide +kernel) (by decide +kernel), lw_in 319 (by decide +kernel) (by decide +kernel)⟩
theorem pn_X1_a : (parseMethodDescriptor z_X1_a.1.desc).map (fun d => d.parameters.length) = some 1 := by decide +kernel
def f_X1_a (P : Nat) (a1 : Int32) (M : fm_Mem) : Option (Int32) := Option.bind (f_X4_get (P + 1) 35 a1 M) (fun v1 => some ((v1 / (400 : Int32))))
set_option maxRecDepth 100000 in
set_option maxHeartbeats 4000000 in
theorem t_X1_a (g : fm_G) (l : Launch) (hl : l.stackTraces = false) (P : Nat) (a1 : Int32) (hP : fm_kd g P = 1) (M : fm_Mem) (w : fm_W) : Tt g l z_X1_a (emI M w) (f_X1_a P a1 M) 0 [(0, .ref P), (1, .int a1)] [] (M, w) := by
  rw [f_X1_a]
  refine Tt.go (fun _ => Tr.run 1 (pc' := 1) (lv' := [(0, .ref P), (1, .int a1)]) (st' := [.ref P]) rfl) ?_
  refine Tt.go (fun _ => Tr.get fmc1 hP rfl fw175 (k := 0) (by decide) rfl) (?_ : Tt g l z_X1_a (emI M w) _ 4 [(0, .ref P), (1, .int a1)] [.ref (P + 1)] (M, w))
  refine Tt.go (fun _ => Tr.run 1 (pc' := 5) (lv' := [(0, .ref P), (1, .int a1)]) (st' := [.int a1, .ref (P + 1)]) rfl) ?_
  refine Tt.callV (As := [.int a1]) (rest := []) (c_X4_get g l hl (P + 1) 35 a1 (fmk_1_0 hP) (fmn_1_0 hP) (by decide) M w) (fmk_1_0 hP) (by decide) rfl rfl cw_X4_get fw321 pn_X4_get (Nat.le_of_ble_eq_true rfl) (Nat.le_of_ble_eq_true rfl) (Nat.le_of_ble_eq_true rfl) rfl (fun v1 => (?_ : Tt g l z_X1_a (emI M w) _ 8 [(0, .ref P), (1, .int a1)] [.int v1] (M, w)))
  refine Tt.go (fun _ => Tr.run 1 (pc' := 11) (lv' := [(0, .ref P), (1, .int a1)]) (st' := [.int (400 : Int32), .int v1]) rfl) ?_
  refine Tt.go (fun _ => Tr.idiv rfl (by decide)) (?_ : Tt g l z_X1_a (emI M w) _ 12 [(0, .ref P), (1, .int a1)] [.int (v1 / (400 : Int32))] (M, w))
  exact Tt.ret (Tr.iret rfl rfl)
theorem c_X1_a (g : fm_G) (l : Launch) (hl : l.stackTraces = false) (P : Nat) (a1 : Int32) (hP : fm_kd g P = 1) (M : fm_Mem) (w : fm_W) : ∀ r, f_X1_a P a1 M = some r → fC g l z_X1_a [.ref P, .int a1] (M, w) (emI M w r) := fun r hr => fC.of (by decide) rfl o_X1_a hl (Nat.le_of_ble_eq_true rfl) (t_X1_a g l hl P a1 hP M w r hr)
def k_X1_b : List (Nat × Instr × Nat) := [(0, .aload_n 0, 1), (1, .getfield 14, 3), (4, .iload_n 1, 1), (5, .invokevirtual 27, 3), (8, .bipush 20, 2), (10, .idiv, 1), (11, .bipush 20, 2), (13, .irem, 1), (14, .ireturn, 1)]
def z_X1_b : fm_Y := (yX1_b, RX1, cX1_b, 2, (some .int), k_X1_b, 1, 21)
theorem o_X1_b : fm_dec z_X1_b := (by decide +kernel : ∀ q ∈ k_X1_b, decode cX1_b q.1 = .ok q.2)
theorem cw_X1_b : fm_cwV z_X1_b := ⟨⟨lw_in 328 (by decide +kernel) (by decide +kernel), lw_in 97 (by decide +kernel) (by decide +kernel), by decide, by decide⟩, lw_in 326 (by decide +kernel) (by decide +kernel), lw_in 327 (by decide +kernel) (by decide +kernel)⟩
theorem pn_X1_b : (parseMethodDescriptor z_X1_b.1.desc).map (fun d => d.parameters.length) = some 1 := by decide +kernel
def f_X1_b (P : Nat) (a1 : Int32) (M : fm_Mem) : Option (Int32) := Option.bind (f_X4_get (P + 1) 35 a1 M) (fun v1 => some ((fm_rem (v1 / (20 : Int32)) (20 : Int32))))
set_option maxRecDepth 100000 in
set_option maxHeartbeats 4000000 in
theorem t_X1_b (g : fm_G) (l : Launch) (hl : l.stackTraces = false) (P : Nat) (a1 : Int32) (hP : fm_kd g P = 1) (M : fm_Mem) (w : fm_W) : Tt g l z_X1_b (emI M w) (f_X1_b P a1 M) 0 [(0, .ref P), (1, .int a1)] [] (M, w) := by
  rw [f_X1_b]
  refine Tt.go (fun _ => Tr.run 1 (pc' := 1) (lv' := [(0, .ref P), (1, .int a1)]) (st' := [.ref P]) rfl) ?_
  refine Tt.go (fun _ => Tr.get fmc1 hP rfl fw175 (k := 0) (by decide) rfl) (?_ : Tt g l z_X1_b (emI M w) _ 4 [(0, .ref P), (1, .int a1)] [.ref (P + 1)] (M, w))
  refine Tt.go (fun _ => Tr.run 1 (pc' := 5) (lv' := [(0, .ref P), (1, .int a1)]) (st' := [.int a1, .ref (P + 1)]) rfl) ?_
  refine Tt.callV (As := [.int a1]) (rest := []) (c_X4_get g l hl (P + 1) 35 a1 (fmk_1_0 hP) (fmn_1_0 hP) (by decide) M w) (fmk_1_0 hP) (by decide) rfl rfl cw_X4_get fw321 pn_X4_get (Nat.le_of_ble_eq_true rfl) (Nat.le_of_ble_eq_true rfl) (Nat.le_of_ble_eq_true rfl) rfl (fun v1 => (?_ : Tt g l z_X1_b (emI M w) _ 8 [(0, .ref P), (1, .int a1)] [.int v1] (M, w)))
  refine Tt.go (fun _ => Tr.run 1 (pc' := 10) (lv' := [(0, .ref P), (1, .int a1)]) (st' := [.int (20 : Int32), .int v1]) rfl) ?_
  refine Tt.go (fun _ => Tr.idiv rfl (by decide)) (?_ : Tt g l z_X1_b (emI M w) _ 11 [(0, .ref P), (1, .int a1)] [.int (v1 / (20 : Int32))] (M, w))
  refine Tt.go (fun _ => Tr.run 1 (pc' := 13) (lv' := [(0, .ref P), (1, .int a1)]) (st' := [.int (20 : Int32), .int (v1 / (20 : Int32))]) rfl) ?_
  refine Tt.go (fun _ => Tr.irem rfl (by decide)) (?_ : Tt g l z_X1_b (emI M w) _ 14 [(0, .ref P), (1, .int a1)] [.int (fm_rem (v1 / (20 : Int32)) (20 : Int32))] (M, w))
  exact Tt.ret (Tr.iret rfl rfl)
theorem c_X1_b (g : fm_G) (l : Launch) (hl : l.stackTraces = false) (P : Nat) (a1 : Int32) (hP : fm_kd g P = 1) (M : fm_Mem) (w : fm_W) : ∀ r, f_X1_b P a1 M = some r → fC g l z_X1_b [.ref P, .int a1] (M, w) (emI M w r) := fun r hr => fC.of (by decide) rfl o_X1_b hl (Nat.le_of_ble_eq_true rfl) (t_X1_b g l hl P a1 hP M w r hr)
def k_X1_c : List (Nat × Instr × Nat) := [(0, .aload_n 0, 1), (1, .getfield 14, 3), (4, .iload_n 1, 1), (5, .invokevirtual 27, 3), (8, .bipush 20, 2), (10, .irem, 1), (11, .ireturn, 1)]
def z_X1_c : fm_Y := (yX1_c, RX1, cX1_c, 2, (some .int), k_X1_c, 1, 21)
theorem o_X1_c : fm_dec z_X1_c := (by decide +kernel : ∀ q ∈ k_X1_c, decode cX1_c q.1 = .ok q.2)
theorem cw_X1_c : fm_cwV z_X1_c := ⟨⟨lw_in 332 (by decide +kernel) (by decide +kernel), lw_in 97 (by decide +kernel) (by decide +kernel), by decide, by decide⟩, lw_in 330 (by decide +kernel) (by decide +kernel), lw_in 331 (by decide +kernel) (by decide +kernel)⟩
theorem pn_X1_c : (parseMethodDescriptor z_X1_c.1.desc).map (fun d => d.parameters.length) = some 1 := by decide +kernel
def f_X1_c (P : Nat) (a1 : Int32) (M : fm_Mem) : Option (Int32) := Option.bind (f_X4_get (P + 1) 35 a1 M) (fun v1 => some ((fm_rem v1 (20 : Int32))))
set_option maxRecDepth 100000 in
set_option maxHeartbeats 4000000 in
theorem t_X1_c (g : fm_G) (l : Launch) (hl : l.stackTraces = false) (P : Nat) (a1 : Int32) (hP : fm_kd g P = 1) (M : fm_Mem) (w : fm_W) : Tt g l z_X1_c (emI M w) (f_X1_c P a1 M) 0 [(0, .ref P), (1, .int a1)] [] (M, w) := by
  rw [f_X1_c]
  refine Tt.go (fun _ => Tr.run 1 (pc' := 1) (lv' := [(0, .ref P), (1, .int a1)]) (st' := [.ref P]) rfl) ?_
  refine Tt.go (fun _ => Tr.get fmc1 hP rfl fw175 (k := 0) (by decide) rfl) (?_ : Tt g l z_X1_c (emI M w) _ 4 [(0, .ref P), (1, .int a1)] [.ref (P + 1)] (M, w))
  refine Tt.go (fun _ => Tr.run 1 (pc' := 5) (lv' := [(0, .ref P), (1, .int a1)]) (st' := [.int a1, .ref (P + 1)]) rfl) ?_
  refine Tt.callV (As := [.int a1]) (rest := []) (c_X4_get g l hl (P + 1) 35 a1 (fmk_1_0 hP) (fmn_1_0 hP) (by decide) M w) (fmk_1_0 hP) (by decide) rfl rfl cw_X4_get fw321 pn_X4_get (Nat.le_of_ble_eq_true rfl) (Nat.le_of_ble_eq_true rfl) (Nat.le_of_ble_eq_true rfl) rfl (fun v1 => (?_ : Tt g l z_X1_c (emI M w) _ 8 [(0, .ref P), (1, .int a1)] [.int v1] (M, w)))
  refine Tt.go (fun _ => Tr.run 1 (pc' := 10) (lv' := [(0, .ref P), (1, .int a1)]) (st' := [.int (20 : Int32), .int v1]) rfl) ?_
  refine Tt.go (fun _ => Tr.irem rfl (by decide)) (?_ : Tt g l z_X1_c (emI M w) _ 11 [(0, .ref P), (1, .int a1)] [.int (fm_rem v1 (20 : Int32))] (M, w))
  exact Tt.ret (Tr.iret rfl rfl)
theorem c_X1_c (g : fm_G) (l : Launch) (hl : l.stackTraces = false) (P : Nat) (a1 : Int32) (hP : fm_kd g P = 1) (M : fm_Mem) (w : fm_W) : ∀ r, f_X1_c P a1 M = some r → fC g l z_X1_c [.ref P, .int a1] (M, w) (emI M w r) := fun r hr => fC.of (by decide) rfl o_X1_c hl (Nat.le_of_ble_eq_true rfl) (t_X1_c g l hl P a1 hP M w r hr)
def k_X4_clear : List (Nat × Instr × Nat) := [(0, .iconst 0, 1), (1, .istore_n 1, 1), (2, .iload_n 1, 1), (3, .aload_n 0, 1), (4, .getfield 13, 3), (7, .arraylength, 1), (8, .if_icmp .ge 16, 3), (11, .aload_n 0, 1), (12, .getfield 13, 3), (15, .iload_n 1, 1), (16, .iconst 0, 1), (17, .iastore, 1), (18, .iinc 1 1, 3), (21, .goto (-19), 3), (24, .return_, 1)]
def z_X4_clear : fm_Y := (yX4_clear, RX4, cX4_clear, 2, none, k_X4_clear, 0, 0)
theorem o_X4_clear : fm_dec z_X4_clear := (by decide +kernel : ∀ q ∈ k_X4_clear, decode cX4_clear q.1 = .ok q.2)
theorem cw_X4_clear : fm_cwV z_X4_clear := ⟨⟨lw_in 658 (by decide +kernel) (by decide +kernel), lw_in 93 (by decide +kernel) (by decide +kernel), by decide, by decide⟩, lw_in 656 (by decide +kernel) (by decide +kernel), lw_in 657 (by decide +kernel) (by decide +kernel)⟩
theorem pn_X4_clear : (parseMethodDescriptor z_X4_clear.1.desc).map (fun d => d.parameters.length) = some 0 := by decide +kernel
def f_X4_clear_2 (P : Nat) (nP : Nat) : Nat → Int32 → fm_Mem → Option (fm_Mem)
  | 0, _, _ => none
  | n + 1, x1, M => if (Int32.ofNat nP) ≤ x1 then (some (M)) else (fm_ck (fm_in x1 nP) (f_X4_clear_2 P nP n (x1 + (1 : Int32)) (fm_up M (P + 1) (Int32.toNatClampNeg x1) (0 : Int32))))
set_option maxRecDepth 100000 in
set_option maxHeartbeats 4000000 in
theorem t_X4_clear_2 (g : fm_G) (l : Launch) (hl : l.stackTraces = false) (P : Nat) (nP : Nat) (hP : fm_kd g P = 4) (hP1 : fm_kd g (P + 1) = 100 + nP) (hP9 : nP < 9000) (w : fm_W) (M0 : fm_Mem)  : ∀ (n : Nat) (x1 : Int32)  (M : fm_Mem), Tt g l z_X4_clear (emVw M0 w) (f_X4_clear_2 P nP  n x1 M) 2 [(0, .ref P), (1, .int x1)] [] (M, w) := by
  intro n
  induction n with
  | zero => intros; exact Tt.none
  | succ n ih =>
    intro x1  M
    rw [f_X4_clear_2]
    refine Tt.go (fun _ => Tr.run 2 (pc' := 4) (lv' := [(0, .ref P), (1, .int x1)]) (st' := [.ref P, .int x1]) rfl) ?_
    refine Tt.go (fun _ => Tr.get fmc4 hP rfl fw138 (k := 0) (by decide) rfl) (?_ : Tt g l z_X4_clear (emVw M0 w) _ 7 [(0, .ref P), (1, .int x1)] [.ref (P + 1), .int x1] (M, w))
    refine Tt.go (fun _ => Tr.alen hP1 hP9 rfl) (?_ : Tt g l z_X4_clear (emVw M0 w) _ 8 [(0, .ref P), (1, .int x1)] [.int (Int32.ofNat nP), .int x1] (M, w))
    refine Tt.ic_ge (tgt := 24) rfl (by decide) ?_ ?_
    · exact Tt.ret (Tr.vret rfl rfl)
    · refine Tt.go (fun _ => Tr.run 1 (pc' := 12) (lv' := [(0, .ref P), (1, .int x1)]) (st' := [.ref P]) rfl) ?_
      refine Tt.go (fun _ => Tr.get fmc4 hP rfl fw138 (k := 0) (by decide) rfl) (?_ : Tt g l z_X4_clear (emVw M0 w) _ 15 [(0, .ref P), (1, .int x1)] [.ref (P + 1)] (M, w))
      refine Tt.go (fun _ => Tr.run 2 (pc' := 17) (lv' := [(0, .ref P), (1, .int x1)]) (st' := [.int (0 : Int32), .int x1, .ref (P + 1)]) rfl) ?_
      refine Tt.ck (fun hi_1 => ?_)
      refine Tt.go (fun _ => Tr.iast hP1 hP9 hi_1 rfl) (?_ : Tt g l z_X4_clear (emVw M0 w) _ 18 [(0, .ref P), (1, .int x1)] [] ((fm_up M (P + 1) (Int32.toNatClampNeg x1) (0 : Int32)), w))
      refine Tt.go (fun _ => Tr.run 2 (pc' := 2) (lv' := [(1, .int (x1 + (1 : Int32))), (0, .ref P)]) (st' := []) rfl) ?_
      refine Tt.go (fun _ => Tr.sub (lv' := [(0, .ref P), (1, .int (x1 + (1 : Int32)))]) [1, 0] rfl) ?_
      exact ih (x1 + (1 : Int32)) (fm_up M (P + 1) (Int32.toNatClampNeg x1) (0 : Int32))
def f_X4_clear (P : Nat) (nP : Nat) (M : fm_Mem) : Option (fm_Mem) := (f_X4_clear_2 P nP fm_fuel (0 : Int32) M)
set_option maxRecDepth 100000 in
set_option maxHeartbeats 4000000 in
theorem t_X4_clear (g : fm_G) (l : Launch) (hl : l.stackTraces = false) (P : Nat) (nP : Nat) (hP : fm_kd g P = 4) (hP1 : fm_kd g (P + 1) = 100 + nP) (hP9 : nP < 9000) (M : fm_Mem) (w : fm_W) : Tt g l z_X4_clear (emVw M w) (f_X4_clear P nP M) 0 [(0, .ref P)] [] (M, w) := by
  rw [f_X4_clear]
  refine Tt.go (fun _ => Tr.run 2 (pc' := 2) (lv' := [(1, .int (0 : Int32)), (0, .ref P)]) (st' := []) rfl) ?_
  refine Tt.go (fun _ => Tr.sub (lv' := [(0, .ref P), (1, .int (0 : Int32))]) [1, 0] rfl) ?_
  exact t_X4_clear_2 g l hl P nP hP hP1 hP9 w M fm_fuel (0 : Int32) M
theorem c_X4_clear (g : fm_G) (l : Launch) (hl : l.stackTraces = false) (P : Nat) (nP : Nat) (hP : fm_kd g P = 4) (hP1 : fm_kd g (P + 1) = 100 + nP) (hP9 : nP < 9000) (M : fm_Mem) (w : fm_W) : ∀ r, f_X4_clear P nP M = some r → fC g l z_X4_clear [.ref P] (M, w) (emVw M w r) := fun r hr => fC.of (by decide) rfl o_X4_clear hl (Nat.le_of_ble_eq_true rfl) (t_X4_clear g l hl P nP hP hP1 hP9 M w r hr)
def k_X1_clear : List (Nat × Instr × Nat) := [(0, .aload_n 0, 1), (1, .iconst 0, 1), (2, .putfield 23, 3), (5, .aload_n 0, 1), (6, .getfield 20, 3), (9, .invokevirtual 31, 3), (12, .return_, 1)]
def z_X1_clear : fm_Y := (yX1_clear, RX1, cX1_clear, 1, none, k_X1_clear, 1, 21)
theorem o_X1_clear : fm_dec z_X1_clear := (by decide +kernel : ∀ q ∈ k_X1_clear, decode cX1_clear q.1 = .ok q.2)
theorem cw_X1_clear : fm_cwV z_X1_clear := ⟨⟨lw_in 654 (by decide +kernel) (by decide +kernel), lw_in 97 (by decide +kernel) (by decide +kernel), by decide, by decide⟩, lw_in 652 (by decide +kernel) (by decide +kernel), lw_in 653 (by decide +kernel) (by decide +kernel)⟩
theorem pn_X1_clear : (parseMethodDescriptor z_X1_clear.1.desc).map (fun d => d.parameters.length) = some 0 := by decide +kernel
def f_X1_clear (P : Nat) (M : fm_Mem) : Option (fm_Mem) := Option.bind (f_X4_clear (P + 3) 400 (fm_up M P 2 (0 : Int32))) (fun v1 => some (v1))
set_option maxRecDepth 100000 in
set_option maxHeartbeats 4000000 in
theorem t_X1_clear (g : fm_G) (l : Launch) (hl : l.stackTraces = false) (P : Nat) (hP : fm_kd g P = 1) (M : fm_Mem) (w : fm_W) : Tt g l z_X1_clear (emVw M w) (f_X1_clear P M) 0 [(0, .ref P)] [] (M, w) := by
  rw [f_X1_clear]
  refine Tt.go (fun _ => Tr.run 2 (pc' := 2) (lv' := [(0, .ref P)]) (st' := [.int (0 : Int32), .ref P]) rfl) ?_
  refine Tt.go (fun _ => Tr.put fmc1 hP rfl fw177 (k := 2) (by decide) rfl rfl ⟨rfl, rfl⟩) (?_ : Tt g l z_X1_clear (emVw M w) _ 5 [(0, .ref P)] [] ((fm_up M P 2 (0 : Int32)), w))
  refine Tt.go (fun _ => Tr.run 1 (pc' := 6) (lv' := [(0, .ref P)]) (st' := [.ref P]) rfl) ?_
  refine Tt.go (fun _ => Tr.get fmc1 hP rfl fw176 (k := 1) (by decide) rfl) (?_ : Tt g l z_X1_clear (emVw M w) _ 9 [(0, .ref P)] [.ref (P + 3)] ((fm_up M P 2 (0 : Int32)), w))
  refine Tt.callV (As := []) (rest := []) (c_X4_clear g l hl (P + 3) 400 (fmk_1_1 hP) (fmn_1_1 hP) (by decide) (fm_up M P 2 (0 : Int32)) w) (fmk_1_1 hP) (by decide) rfl rfl cw_X4_clear fw655 pn_X4_clear (Nat.le_of_ble_eq_true rfl) (Nat.le_of_ble_eq_true rfl) (Nat.le_of_ble_eq_true rfl) rfl (fun v1 => (?_ : Tt g l z_X1_clear (emVw M w) _ 12 [(0, .ref P)] [] (v1, w)))
  exact Tt.ret (Tr.vret rfl rfl)
theorem c_X1_clear (g : fm_G) (l : Launch) (hl : l.stackTraces = false) (P : Nat) (hP : fm_kd g P = 1) (M : fm_Mem) (w : fm_W) : ∀ r, f_X1_clear P M = some r → fC g l z_X1_clear [.ref P] (M, w) (emVw M w r) := fun r hr => fC.of (by decide) rfl o_X1_clear hl (Nat.le_of_ble_eq_true rfl) (t_X1_clear g l hl P hP M w r hr)
def k_X4_copyFrom : List (Nat × Instr × Nat) := [(0, .aload_n 0, 1), (1, .getfield 13, 3), (4, .arraylength, 1), (5, .aload_n 1, 1), (6, .getfield 13, 3), (9, .arraylength, 1), (10, .invokestatic 19, 3), (13, .istore_n 2, 1), (14, .aload_n 1, 1), (15, .getfield 13, 3), (18, .iconst 0, 1), (19, .aload_n 0, 1), (20, .getfield 13, 3), (23, .iconst 0, 1), (24, .iload_n 2, 1), (25, .invokestatic 22, 3), (28, .return_, 1)]
def z_X4_copyFrom : fm_Y := (yX4_copyFrom, RX4, cX4_copyFrom, 3, none, k_X4_copyFrom, 1, 40)
theorem o_X4_copyFrom : fm_dec z_X4_copyFrom := (by decide +kernel : ∀ q ∈ k_X4_copyFrom, decode cX4_copyFrom q.1 = .ok q.2)
theorem cw_X4_copyFrom : fm_cwV z_X4_copyFrom := ⟨⟨lw_in 408 (by decide +kernel) (by decide +kernel), lw_in 93 (by decide +kernel) (by decide +kernel), by decide, by decide⟩, lw_in 406 (by decide +kernel) (by decide +kernel), lw_in 407 (by decide +kernel) (by decide +kernel)⟩
theorem pn_X4_copyFrom : (parseMethodDescriptor z_X4_copyFrom.1.desc).map (fun d => d.parameters.length) = some 1 := by decide +kernel
def f_X4_copyFrom (P : Nat) (nP : Nat) (r1 : Nat) (nr1 : Nat) (M : fm_Mem) : Option (fm_Mem) := fm_ck (fm_cin (fm_min (Int32.ofNat nP) (Int32.ofNat nr1)) nr1 nP) (some ((fm_cp M (r1 + 1) (P + 1) (Int32.toNatClampNeg (fm_min (Int32.ofNat nP) (Int32.ofNat nr1))))))
set_option maxRecDepth 100000 in
set_option maxHeartbeats 4000000 in
theorem t_X4_copyFrom (g : fm_G) (l : Launch) (hl : l.stackTraces = false) (P : Nat) (nP : Nat) (r1 : Nat) (nr1 : Nat) (hP : fm_kd g P = 4) (hP1 : fm_kd g (P + 1) = 100 + nP) (hP9 : nP < 9000) (hr1 : fm_kd g r1 = 4) (hr11 : fm_kd g (r1 + 1) = 100 + nr1) (hr19 : nr1 < 9000) (M : fm_Mem) (w : fm_W) : Tt g l z_X4_copyFrom (emVw M w) (f_X4_copyFrom P nP r1 nr1 M) 0 [(0, .ref P), (1, .ref r1)] [] (M, w) := by
  rw [f_X4_copyFrom]
  refine Tt.go (fun _ => Tr.run 1 (pc' := 1) (lv' := [(0, .ref P), (1, .ref r1)]) (st' := [.ref P]) rfl) ?_
  refine Tt.go (fun _ => Tr.get fmc4 hP rfl fw138 (k := 0) (by decide) rfl) (?_ : Tt g l z_X4_copyFrom (emVw M w) _ 4 [(0, .ref P), (1, .ref r1)] [.ref (P + 1)] (M, w))
  refine Tt.go (fun _ => Tr.alen hP1 hP9 rfl) (?_ : Tt g l z_X4_copyFrom (emVw M w) _ 5 [(0, .ref P), (1, .ref r1)] [.int (Int32.ofNat nP)] (M, w))
  refine Tt.go (fun _ => Tr.run 1 (pc' := 6) (lv' := [(0, .ref P), (1, .ref r1)]) (st' := [.ref r1, .int (Int32.ofNat nP)]) rfl) ?_
  refine Tt.go (fun _ => Tr.get fmc4 hr1 rfl fw138 (k := 0) (by decide) rfl) (?_ : Tt g l z_X4_copyFrom (emVw M w) _ 9 [(0, .ref P), (1, .ref r1)] [.ref (r1 + 1), .int (Int32.ofNat nP)] (M, w))
  refine Tt.go (fun _ => Tr.alen hr11 hr19 rfl) (?_ : Tt g l z_X4_copyFrom (emVw M w) _ 10 [(0, .ref P), (1, .ref r1)] [.int (Int32.ofNat nr1), .int (Int32.ofNat nP)] (M, w))
  refine Tt.go (fun _ => Tr.min rfl ⟨fw409, fw410, fw94, fw411⟩ (Nat.le_of_ble_eq_true rfl) (Nat.le_of_ble_eq_true rfl)) (?_ : Tt g l z_X4_copyFrom (emVw M w) _ 13 [(0, .ref P), (1, .ref r1)] [.int (fm_min (Int32.ofNat nP) (Int32.ofNat nr1))] (M, w))
  refine Tt.go (fun _ => Tr.run 2 (pc' := 15) (lv' := [(2, .int (fm_min (Int32.ofNat nP) (Int32.ofNat nr1))), (0, .ref P), (1, .ref r1)]) (st' := [.ref r1]) rfl) ?_
  refine Tt.go (fun _ => Tr.get fmc4 hr1 rfl fw138 (k := 0) (by decide) rfl) (?_ : Tt g l z_X4_copyFrom (emVw M w) _ 18 [(2, .int (fm_min (Int32.ofNat nP) (Int32.ofNat nr1))), (0, .ref P), (1, .ref r1)] [.ref (r1 + 1)] (M, w))
  refine Tt.go (fun _ => Tr.run 2 (pc' := 20) (lv' := [(2, .int (fm_min (Int32.ofNat nP) (Int32.ofNat nr1))), (0, .ref P), (1, .ref r1)]) (st' := [.ref P, .int (0 : Int32), .ref (r1 + 1)]) rfl) ?_
  refine Tt.go (fun _ => Tr.get fmc4 hP rfl fw138 (k := 0) (by decide) rfl) (?_ : Tt g l z_X4_copyFrom (emVw M w) _ 23 [(2, .int (fm_min (Int32.ofNat nP) (Int32.ofNat nr1))), (0, .ref P), (1, .ref r1)] [.ref (P + 1), .int (0 : Int32), .ref (r1 + 1)] (M, w))
  refine Tt.go (fun _ => Tr.run 2 (pc' := 25) (lv' := [(2, .int (fm_min (Int32.ofNat nP) (Int32.ofNat nr1))), (0, .ref P), (1, .ref r1)]) (st' := [.int (fm_min (Int32.ofNat nP) (Int32.ofNat nr1)), .int (0 : Int32), .ref (P + 1), .int (0 : Int32), .ref (r1 + 1)]) rfl) ?_
  refine Tt.ck (fun hc_1 => ?_)
  refine Tt.go (fun _ => Tr.acopy hr11 hP1 hr19 hP9 rfl ⟨fw412, fw414, fw413, fw108⟩ hc_1 (Nat.le_of_ble_eq_true rfl) (Nat.le_of_ble_eq_true rfl)) (?_ : Tt g l z_X4_copyFrom (emVw M w) _ 28 [(2, .int (fm_min (Int32.ofNat nP) (Int32.ofNat nr1))), (0, .ref P), (1, .ref r1)] [] ((fm_cp M (r1 + 1) (P + 1) (Int32.toNatClampNeg (fm_min (Int32.ofNat nP) (Int32.ofNat nr1)))), w))
  exact Tt.ret (Tr.vret rfl rfl)
theorem c_X4_copyFrom (g : fm_G) (l : Launch) (hl : l.stackTraces = false) (P : Nat) (nP : Nat) (r1 : Nat) (nr1 : Nat) (hP : fm_kd g P = 4) (hP1 : fm_kd g (P + 1) = 100 + nP) (hP9 : nP < 9000) (hr1 : fm_kd g r1 = 4) (hr11 : fm_kd g (r1 + 1) = 100 + nr1) (hr19 : nr1 < 9000) (M : fm_Mem) (w : fm_W) : ∀ r, f_X4_copyFrom P nP r1 nr1 M = some r → fC g l z_X4_copyFrom [.ref P, .ref r1] (M, w) (emVw M w r) := fun r hr => fC.of (by decide) rfl o_X4_copyFrom hl (Nat.le_of_ble_eq_true rfl) (t_X4_copyFrom g l hl P nP r1 nr1 hP hP1 hP9 hr1 hr11 hr19 M w r hr)
def k_X1_copyFrom : List (Nat × Instr × Nat) := [(0, .aload_n 0, 1), (1, .getfield 14, 3), (4, .aload_n 1, 1), (5, .getfield 14, 3), (8, .invokevirtual 34, 3), (11, .aload_n 0, 1), (12, .getfield 20, 3), (15, .aload_n 1, 1), (16, .getfield 20, 3), (19, .invokevirtual 34, 3), (22, .aload_n 0, 1), (23, .aload_n 1, 1), (24, .getfield 23, 3), (27, .putfield 23, 3), (30, .return_, 1)]
def z_X1_copyFrom : fm_Y := (yX1_copyFrom, RX1, cX1_copyFrom, 2, none, k_X1_copyFrom, 2, 62)
theorem o_X1_copyFrom : fm_dec z_X1_copyFrom := (by decide +kernel : ∀ q ∈ k_X1_copyFrom, decode cX1_copyFrom q.1 = .ok q.2)
theorem cw_X1_copyFrom : fm_cwV z_X1_copyFrom := ⟨⟨lw_in 418 (by decide +kernel) (by decide +kernel), lw_in 97 (by decide +kernel) (by decide +kernel), by decide, by decide⟩, lw_in 416 (by decide +kernel) (by decide +kernel), lw_in 417 (by decide +kernel) (by decide +kernel)⟩
theorem pn_X1_copyFrom : (parseMethodDescriptor z_X1_copyFrom.1.desc).map (fun d => d.parameters.length) = some 1 := by decide +kernel
def f_X1_copyFrom (P : Nat) (r1 : Nat) (M : fm_Mem) : Option (fm_Mem) := Option.bind (f_X4_copyFrom (P + 1) 35 (r1 + 1) 35 M) (fun v1 => Option.bind (f_X4_copyFrom (P + 3) 400 (r1 + 3) 400 v1) (fun v2 => some ((fm_up v2 P 2 (v2 r1 2)))))
set_option maxRecDepth 100000 in
set_option maxHeartbeats 4000000 in
theorem t_X1_copyFrom (g : fm_G) (l : Launch) (hl : l.stackTraces = false) (P : Nat) (r1 : Nat) (hP : fm_kd g P = 1) (hr1 : fm_kd g r1 = 1) (M : fm_Mem) (w : fm_W) : Tt g l z_X1_copyFrom (emVw M w) (f_X1_copyFrom P r1 M) 0 [(0, .ref P), (1, .ref r1)] [] (M, w) := by
  rw [f_X1_copyFrom]
  refine Tt.go (fun _ => Tr.run 1 (pc' := 1) (lv' := [(0, .ref P), (1, .ref r1)]) (st' := [.ref P]) rfl) ?_
  refine Tt.go (fun _ => Tr.get fmc1 hP rfl fw175 (k := 0) (by decide) rfl) (?_ : Tt g l z_X1_copyFrom (emVw M w) _ 4 [(0, .ref P), (1, .ref r1)] [.ref (P + 1)] (M, w))
  refine Tt.go (fun _ => Tr.run 1 (pc' := 5) (lv' := [(0, .ref P), (1, .ref r1)]) (st' := [.ref r1, .ref (P + 1)]) rfl) ?_
  refine Tt.go (fun _ => Tr.get fmc1 hr1 rfl fw175 (k := 0) (by decide) rfl) (?_ : Tt g l z_X1_copyFrom (emVw M w) _ 8 [(0, .ref P), (1, .ref r1)] [.ref (r1 + 1), .ref (P + 1)] (M, w))
  refine Tt.callV (As := [.ref (r1 + 1)]) (rest := []) (c_X4_copyFrom g l hl (P + 1) 35 (r1 + 1) 35 (fmk_1_0 hP) (fmn_1_0 hP) (by decide) (fmk_1_0 hr1) (fmn_1_0 hr1) (by decide) M w) (fmk_1_0 hP) (by decide) rfl rfl cw_X4_copyFrom fw419 pn_X4_copyFrom (Nat.le_of_ble_eq_true rfl) (Nat.le_of_ble_eq_true rfl) (Nat.le_of_ble_eq_true rfl) rfl (fun v1 => (?_ : Tt g l z_X1_copyFrom (emVw M w) _ 11 [(0, .ref P), (1, .ref r1)] [] (v1, w)))
  refine Tt.go (fun _ => Tr.run 1 (pc' := 12) (lv' := [(0, .ref P), (1, .ref r1)]) (st' := [.ref P]) rfl) ?_
  refine Tt.go (fun _ => Tr.get fmc1 hP rfl fw176 (k := 1) (by decide) rfl) (?_ : Tt g l z_X1_copyFrom (emVw M w) _ 15 [(0, .ref P), (1, .ref r1)] [.ref (P + 3)] (v1, w))
  refine Tt.go (fun _ => Tr.run 1 (pc' := 16) (lv' := [(0, .ref P), (1, .ref r1)]) (st' := [.ref r1, .ref (P + 3)]) rfl) ?_
  refine Tt.go (fun _ => Tr.get fmc1 hr1 rfl fw176 (k := 1) (by decide) rfl) (?_ : Tt g l z_X1_copyFrom (emVw M w) _ 19 [(0, .ref P), (1, .ref r1)] [.ref (r1 + 3), .ref (P + 3)] (v1, w))
  refine Tt.callV (As := [.ref (r1 + 3)]) (rest := []) (c_X4_copyFrom g l hl (P + 3) 400 (r1 + 3) 400 (fmk_1_1 hP) (fmn_1_1 hP) (by decide) (fmk_1_1 hr1) (fmn_1_1 hr1) (by decide) v1 w) (fmk_1_1 hP) (by decide) rfl rfl cw_X4_copyFrom fw419 pn_X4_copyFrom (Nat.le_of_ble_eq_true rfl) (Nat.le_of_ble_eq_true rfl) (Nat.le_of_ble_eq_true rfl) rfl (fun v2 => (?_ : Tt g l z_X1_copyFrom (emVw M w) _ 22 [(0, .ref P), (1, .ref r1)] [] (v2, w)))
  refine Tt.go (fun _ => Tr.run 2 (pc' := 24) (lv' := [(0, .ref P), (1, .ref r1)]) (st' := [.ref r1, .ref P]) rfl) ?_
  refine Tt.go (fun _ => Tr.get fmc1 hr1 rfl fw177 (k := 2) (by decide) rfl) (?_ : Tt g l z_X1_copyFrom (emVw M w) _ 27 [(0, .ref P), (1, .ref r1)] [.int (v2 r1 2), .ref P] (v2, w))
  refine Tt.go (fun _ => Tr.put fmc1 hP rfl fw177 (k := 2) (by decide) rfl rfl ⟨rfl, rfl⟩) (?_ : Tt g l z_X1_copyFrom (emVw M w) _ 30 [(0, .ref P), (1, .ref r1)] [] ((fm_up v2 P 2 (v2 r1 2)), w))
  exact Tt.ret (Tr.vret rfl rfl)
theorem c_X1_copyFrom (g : fm_G) (l : Launch) (hl : l.stackTraces = false) (P : Nat) (r1 : Nat) (hP : fm_kd g P = 1) (hr1 : fm_kd g r1 = 1) (M : fm_Mem) (w : fm_W) : ∀ r, f_X1_copyFrom P r1 M = some r → fC g l z_X1_copyFrom [.ref P, .ref r1] (M, w) (emVw M w r) := fun r hr => fC.of (by decide) rfl o_X1_copyFrom hl (Nat.le_of_ble_eq_true rfl) (t_X1_copyFrom g l hl P r1 hP hr1 M w r hr)
def k_X1_codeOf : List (Nat × Instr × Nat) := [(0, .iload_n 0, 1), (1, .iload_n 1, 1), (2, .iload_n 2, 1), (3, .invokestatic 55, 3), (6, .invokestatic 55, 3), (9, .istore_n 3, 1), (10, .iload_n 0, 1), (11, .iload_n 1, 1), (12, .iload_n 2, 1), (13, .invokestatic 61, 3), (16, .invokestatic 61, 3), (19, .istore 4, 2), (21, .iload_n 0, 1), (22, .iload_n 1, 1), (23, .iadd, 1), (24, .iload_n 2, 1), (25, .iadd, 1), (26, .iload_n 3, 1), (27, .isub, 1), (28, .iload 4, 2), (30, .isub, 1), (31, .istore 5, 2), (33, .iload_n 3, 1), (34, .bipush 20, 2), (36, .imul, 1), (37, .iload 5, 2), (39, .iadd, 1), (40, .bipush 20, 2), (42, .imul, 1), (43, .iload 4, 2), (45, .iadd, 1), (46, .ireturn, 1)]
def z_X1_codeOf : fm_Y := (yX1_codeOf, RX1, cX1_codeOf, 6, (some .int), k_X1_codeOf, 1, 21)
theorem o_X1_codeOf : fm_dec z_X1_codeOf := (by decide +kernel : ∀ q ∈ k_X1_codeOf, decode cX1_codeOf q.1 = .ok q.2)
theorem cw_X1_codeOf : fm_cwS z_X1_codeOf := ⟨⟨lw_in 784 (by decide +kernel) (by decide +kernel), lw_in 97 (by decide +kernel) (by decide +kernel), by decide, by decide⟩, lw_in 783 (by decide +kernel) (by decide +kernel)⟩
theorem pn_X1_codeOf : (parseMethodDescriptor z_X1_codeOf.1.desc).map (fun d => d.parameters.length) = some 3 := by decide +kernel
def f_X1_codeOf (a0 : Int32) (a1 : Int32) (a2 : Int32) (M : fm_Mem) : Option (Int32) := some ((((((fm_min a0 (fm_min a1 a2)) * (20 : Int32)) + ((((a0 + a1) + a2) - (fm_min a0 (fm_min a1 a2))) - (fm_max a0 (fm_max a1 a2)))) * (20 : Int32)) + (fm_max a0 (fm_max a1 a2))))
set_option maxRecDepth 100000 in
set_option maxHeartbeats 4000000 in
theorem t_X1_codeOf (g : fm_G) (l : Launch) (hl : l.stackTraces = false) (a0 : Int32) (a1 : Int32) (a2 : Int32)  (M : fm_Mem) (w : fm_W) : Tt g l z_X1_codeOf (emI M w) (f_X1_codeOf a0 a1 a2 M) 0 [(0, .int a0), (1, .int a1), (2, .int a2)] [] (M, w) := by
  rw [f_X1_codeOf]
  refine Tt.go (fun _ => Tr.run 3 (pc' := 3) (lv' := [(0, .int a0), (1, .int a1), (2, .int a2)]) (st' := [.int a2, .int a1, .int a0]) rfl) ?_
  refine Tt.go (fun _ => Tr.min rfl ⟨fw536, fw410, fw94, fw411⟩ (Nat.le_of_ble_eq_true rfl) (Nat.le_of_ble_eq_true rfl)) (?_ : Tt g l z_X1_codeOf (emI M w) _ 6 [(0, .int a0), (1, .int a1), (2, .int a2)] [.int (fm_min a1 a2), .int a0] (M, w))
  refine Tt.go (fun _ => Tr.min rfl ⟨fw536, fw410, fw94, fw411⟩ (Nat.le_of_ble_eq_true rfl) (Nat.le_of_ble_eq_true rfl)) (?_ : Tt g l z_X1_codeOf (emI M w) _ 9 [(0, .int a0), (1, .int a1), (2, .int a2)] [.int (fm_min a0 (fm_min a1 a2))] (M, w))
  refine Tt.go (fun _ => Tr.run 4 (pc' := 13) (lv' := [(3, .int (fm_min a0 (fm_min a1 a2))), (0, .int a0), (1, .int a1), (2, .int a2)]) (st' := [.int a2, .int a1, .int a0]) rfl) ?_
  refine Tt.go (fun _ => Tr.max rfl ⟨fw537, fw136, fw94, fw137⟩ (Nat.le_of_ble_eq_true rfl) (Nat.le_of_ble_eq_true rfl)) (?_ : Tt g l z_X1_codeOf (emI M w) _ 16 [(3, .int (fm_min a0 (fm_min a1 a2))), (0, .int a0), (1, .int a1), (2, .int a2)] [.int (fm_max a1 a2), .int a0] (M, w))
  refine Tt.go (fun _ => Tr.max rfl ⟨fw537, fw136, fw94, fw137⟩ (Nat.le_of_ble_eq_true rfl) (Nat.le_of_ble_eq_true rfl)) (?_ : Tt g l z_X1_codeOf (emI M w) _ 19 [(3, .int (fm_min a0 (fm_min a1 a2))), (0, .int a0), (1, .int a1), (2, .int a2)] [.int (fm_max a0 (fm_max a1 a2))] (M, w))
  refine Tt.go (fun _ => Tr.run 20 (pc' := 46) (lv' := [(5, .int ((((a0 + a1) + a2) - (fm_min a0 (fm_min a1 a2))) - (fm_max a0 (fm_max a1 a2)))), (4, .int (fm_max a0 (fm_max a1 a2))), (3, .int (fm_min a0 (fm_min a1 a2))), (0, .int a0), (1, .int a1), (2, .int a2)]) (st' := [.int (((((fm_min a0 (fm_min a1 a2)) * (20 : Int32)) + ((((a0 + a1) + a2) - (fm_min a0 (fm_min a1 a2))) - (fm_max a0 (fm_max a1 a2)))) * (20 : Int32)) + (fm_max a0 (fm_max a1 a2)))]) rfl) ?_
  exact Tt.ret (Tr.iret rfl rfl)
theorem c_X1_codeOf (g : fm_G) (l : Launch) (hl : l.stackTraces = false) (a0 : Int32) (a1 : Int32) (a2 : Int32)  (M : fm_Mem) (w : fm_W) : ∀ r, f_X1_codeOf a0 a1 a2 M = some r → fC g l z_X1_codeOf [.int a0, .int a1, .int a2] (M, w) (emI M w r) := fun r hr => fC.of (by decide) rfl o_X1_codeOf hl (Nat.le_of_ble_eq_true rfl) (t_X1_codeOf g l hl a0 a1 a2  M w r hr)
def k_X1_placeOf : List (Nat × Instr × Nat) := [(0, .iconst 0, 1), (1, .istore_n 2, 1), (2, .iload_n 2, 1), (3, .aload_n 0, 1), (4, .getfield 23, 3), (7, .if_icmp .ge 21, 3), (10, .aload_n 0, 1), (11, .getfield 14, 3), (14, .iload_n 2, 1), (15, .invokevirtual 27, 3), (18, .iload_n 1, 1), (19, .if_icmp .ge 9, 3), (22, .iinc 2 1, 3), (25, .goto (-23), 3), (28, .iload_n 2, 1), (29, .ireturn, 1)]
def z_X1_placeOf : fm_Y := (yX1_placeOf, RX1, cX1_placeOf, 3, (some .int), k_X1_placeOf, 1, 21)
theorem o_X1_placeOf : fm_dec z_X1_placeOf := (by decide +kernel : ∀ q ∈ k_X1_placeOf, decode cX1_placeOf q.1 = .ok q.2)
theorem cw_X1_placeOf : fm_cwV z_X1_placeOf := ⟨⟨lw_in 788 (by decide +kernel) (by decide +kernel), lw_in 97 (by decide +kernel) (by decide +kernel), by decide, by decide⟩, lw_in 787 (by decide +kernel) (by decide +kernel), lw_in 19 (by decide +kernel) (by decide +kernel)⟩
theorem pn_X1_placeOf : (parseMethodDescriptor z_X1_placeOf.1.desc).map (fun d => d.parameters.length) = some 1 := by decide +kernel
def f_X1_placeOf_28 (P : Nat) (a1 : Int32) (x2 : Int32) (M : fm_Mem) : Option (Int32) := some (x2)
set_option maxRecDepth 100000 in
set_option maxHeartbeats 4000000 in
theorem t_X1_placeOf_28 (g : fm_G) (l : Launch) (hl : l.stackTraces = false) (P : Nat) (a1 : Int32) (hP : fm_kd g P = 1) (w : fm_W)  (x2 : Int32)  (M : fm_Mem) : Tt g l z_X1_placeOf (emI M w) (f_X1_placeOf_28 P a1  x2 M) 28 [(2, .int x2)] [] (M, w) := by
  rw [f_X1_placeOf_28]
  refine Tt.go (fun _ => Tr.run 1 (pc' := 29) (lv' := [(2, .int x2)]) (st' := [.int x2]) rfl) ?_
  exact Tt.ret (Tr.iret rfl rfl)
def f_X1_placeOf_2 (P : Nat) (a1 : Int32) : Nat → Int32 → fm_Mem → Option (Int32)
  | 0, _, _ => none
  | n + 1, x2, M => if (M P 2) ≤ x2 then (f_X1_placeOf_28 P a1 x2 M) else (Option.bind (f_X4_get (P + 1) 35 x2 M) (fun v1 => if a1 ≤ v1 then (f_X1_placeOf_28 P a1 x2 M) else (f_X1_placeOf_2 P a1 n (x2 + (1 : Int32)) M)))
set_option maxRecDepth 100000 in
set_option maxHeartbeats 4000000 in
theorem t_X1_placeOf_2 (g : fm_G) (l : Launch) (hl : l.stackTraces = false) (P : Nat) (a1 : Int32) (hP : fm_kd g P = 1) (w : fm_W)  : ∀ (n : Nat) (x2 : Int32)  (M : fm_Mem), Tt g l z_X1_placeOf (emI M w) (f_X1_placeOf_2 P a1  n x2 M) 2 [(0, .ref P), (1, .int a1), (2, .int x2)] [] (M, w) := by
  intro n
  induction n with
  | zero => intros; exact Tt.none
  | succ n ih =>
    intro x2  M
    rw [f_X1_placeOf_2]
    refine Tt.go (fun _ => Tr.run 2 (pc' := 4) (lv' := [(0, .ref P), (1, .int a1), (2, .int x2)]) (st' := [.ref P, .int x2]) rfl) ?_
    refine Tt.go (fun _ => Tr.get fmc1 hP rfl fw177 (k := 2) (by decide) rfl) (?_ : Tt g l z_X1_placeOf (emI M w) _ 7 [(0, .ref P), (1, .int a1), (2, .int x2)] [.int (M P 2), .int x2] (M, w))
    refine Tt.ic_ge (tgt := 28) rfl (by decide) ?_ ?_
    · refine Tt.go (fun _ => Tr.sub (lv' := [(2, .int x2)]) [2] rfl) ?_
      exact t_X1_placeOf_28 g l hl P a1 hP w x2 M
    · refine Tt.go (fun _ => Tr.run 1 (pc' := 11) (lv' := [(0, .ref P), (1, .int a1), (2, .int x2)]) (st' := [.ref P]) rfl) ?_
      refine Tt.go (fun _ => Tr.get fmc1 hP rfl fw175 (k := 0) (by decide) rfl) (?_ : Tt g l z_X1_placeOf (emI M w) _ 14 [(0, .ref P), (1, .int a1), (2, .int x2)] [.ref (P + 1)] (M, w))
      refine Tt.go (fun _ => Tr.run 1 (pc' := 15) (lv' := [(0, .ref P), (1, .int a1), (2, .int x2)]) (st' := [.int x2, .ref (P + 1)]) rfl) ?_
      refine Tt.callV (As := [.int x2]) (rest := []) (c_X4_get g l hl (P + 1) 35 x2 (fmk_1_0 hP) (fmn_1_0 hP) (by decide) M w) (fmk_1_0 hP) (by decide) rfl rfl cw_X4_get fw321 pn_X4_get (Nat.le_of_ble_eq_true rfl) (Nat.le_of_ble_eq_true rfl) (Nat.le_of_ble_eq_true rfl) rfl (fun v1 => (?_ : Tt g l z_X1_placeOf (emI M w) _ 18 [(0, .ref P), (1, .int a1), (2, .int x2)] [.int v1] (M, w)))
      refine Tt.go (fun _ => Tr.run 1 (pc' := 19) (lv' := [(0, .ref P), (1, .int a1), (2, .int x2)]) (st' := [.int a1, .int v1]) rfl) ?_
      refine Tt.ic_ge (tgt := 28) rfl (by decide) ?_ ?_
      · refine Tt.go (fun _ => Tr.sub (lv' := [(2, .int x2)]) [2] rfl) ?_
        exact t_X1_placeOf_28 g l hl P a1 hP w x2 M
      · refine Tt.go (fun _ => Tr.run 2 (pc' := 2) (lv' := [(2, .int (x2 + (1 : Int32))), (0, .ref P), (1, .int a1)]) (st' := []) rfl) ?_
        refine Tt.go (fun _ => Tr.sub (lv' := [(0, .ref P), (1, .int a1), (2, .int (x2 + (1 : Int32)))]) [1, 2, 0] rfl) ?_
        exact ih (x2 + (1 : Int32)) M
def f_X1_placeOf (P : Nat) (a1 : Int32) (M : fm_Mem) : Option (Int32) := (f_X1_placeOf_2 P a1 fm_fuel (0 : Int32) M)
set_option maxRecDepth 100000 in
set_option maxHeartbeats 4000000 in
theorem t_X1_placeOf (g : fm_G) (l : Launch) (hl : l.stackTraces = false) (P : Nat) (a1 : Int32) (hP : fm_kd g P = 1) (M : fm_Mem) (w : fm_W) : Tt g l z_X1_placeOf (emI M w) (f_X1_placeOf P a1 M) 0 [(0, .ref P), (1, .int a1)] [] (M, w) := by
  rw [f_X1_placeOf]
  refine Tt.go (fun _ => Tr.run 2 (pc' := 2) (lv' := [(2, .int (0 : Int32)), (0, .ref P), (1, .int a1)]) (st' := []) rfl) ?_
  refine Tt.go (fun _ => Tr.sub (lv' := [(0, .ref P), (1, .int a1), (2, .int (0 : Int32))]) [1, 2, 0] rfl) ?_
  exact t_X1_placeOf_2 g l hl P a1 hP w fm_fuel (0 : Int32) M
theorem c_X1_placeOf (g : fm_G) (l : Launch) (hl : l.stackTraces = false) (P : Nat) (a1 : Int32) (hP : fm_kd g P = 1) (M : fm_Mem) (w : fm_W) : ∀ r, f_X1_placeOf P a1 M = some r → fC g l z_X1_placeOf [.ref P, .int a1] (M, w) (emI M w r) := fun r hr => fC.of (by decide) rfl o_X1_placeOf hl (Nat.le_of_ble_eq_true rfl) (t_X1_placeOf g l hl P a1 hP M w r hr)
def k_X4_insert : List (Nat × Instr × Nat) := [(0, .iload_n 2, 1), (1, .aload_n 0, 1), (2, .getfield 13, 3), (5, .arraylength, 1), (6, .iconst 1, 1), (7, .isub, 1), (8, .invokestatic 19, 3), (11, .istore 4, 2), (13, .iload 4, 2), (15, .iload_n 1, 1), (16, .if_icmp .le 23, 3), (19, .aload_n 0, 1), (20, .iload 4, 2), (22, .aload_n 0, 1), (23, .iload 4, 2), (25, .iconst 1, 1), (26, .isub, 1), (27, .invokevirtual 28, 3), (30, .invokevirtual 32, 3), (33, .iinc 4 (-1), 3), (36, .goto (-23), 3), (39, .aload_n 0, 1), (40, .iload_n 1, 1), (41, .iload_n 3, 1), (42, .invokevirtual 32, 3), (45, .return_, 1)]
def z_X4_insert : fm_Y := (yX4_insert, RX4, cX4_insert, 5, none, k_X4_insert, 1, 22)
theorem o_X4_insert : fm_dec z_X4_insert := (by decide +kernel : ∀ q ∈ k_X4_insert, decode cX4_insert q.1 = .ok q.2)
theorem cw_X4_insert : fm_cwV z_X4_insert := ⟨⟨lw_in 792 (by decide +kernel) (by decide +kernel), lw_in 93 (by decide +kernel) (by decide +kernel), by decide, by decide⟩, lw_in 790 (by decide +kernel) (by decide +kernel), lw_in 791 (by decide +kernel) (by decide +kernel)⟩
theorem pn_X4_insert : (parseMethodDescriptor z_X4_insert.1.desc).map (fun d => d.parameters.length) = some 3 := by decide +kernel
def f_X4_insert_13 (P : Nat) (nP : Nat) (a1 : Int32) (a2 : Int32) (a3 : Int32) : Nat → Int32 → fm_Mem → Option (fm_Mem)
  | 0, _, _ => none
  | n + 1, x4, M => if x4 ≤ a1 then (Option.bind (f_X4_set P nP a1 a3 M) (fun v1 => some (v1))) else (Option.bind (f_X4_get P nP (x4 - (1 : Int32)) M) (fun v2 => Option.bind (f_X4_set P nP x4 v2 M) (fun v3 => (f_X4_insert_13 P nP a1 a2 a3 n (x4 + (-1 : Int32)) v3))))
set_option maxRecDepth 100000 in
set_option maxHeartbeats 4000000 in
theorem t_X4_insert_13 (g : fm_G) (l : Launch) (hl : l.stackTraces = false) (P : Nat) (nP : Nat) (a1 : Int32) (a2 : Int32) (a3 : Int32) (hP : fm_kd g P = 4) (hP1 : fm_kd g (P + 1) = 100 + nP) (hP9 : nP < 9000) (w : fm_W) (M0 : fm_Mem)  : ∀ (n : Nat) (x4 : Int32)  (M : fm_Mem), Tt g l z_X4_insert (emVw M0 w) (f_X4_insert_13 P nP a1 a2 a3  n x4 M) 13 [(0, .ref P), (1, .int a1), (3, .int a3), (4, .int x4)] [] (M, w) := by
  intro n
  induction n with
  | zero => intros; exact Tt.none
  | succ n ih =>
    intro x4  M
    rw [f_X4_insert_13]
    refine Tt.go (fun _ => Tr.run 2 (pc' := 16) (lv' := [(0, .ref P), (1, .int a1), (3, .int a3), (4, .int x4)]) (st' := [.int a1, .int x4]) rfl) ?_
    refine Tt.ic_le (tgt := 39) rfl (by decide) ?_ ?_
    · refine Tt.go (fun _ => Tr.run 3 (pc' := 42) (lv' := [(0, .ref P), (1, .int a1), (3, .int a3), (4, .int x4)]) (st' := [.int a3, .int a1, .ref P]) rfl) ?_
      refine Tt.callV (As := [.int a1, .int a3]) (rest := []) (c_X4_set g l hl P nP a1 a3 hP hP1 hP9 M w) hP (by decide) rfl rfl cw_X4_set fw794 pn_X4_set (Nat.le_of_ble_eq_true rfl) (Nat.le_of_ble_eq_true rfl) (Nat.le_of_ble_eq_true rfl) rfl (fun v1 => (?_ : Tt g l z_X4_insert (emVw M0 w) _ 45 [(0, .ref P), (1, .int a1), (3, .int a3), (4, .int x4)] [] (v1, w)))
      exact Tt.ret (Tr.vret rfl rfl)
    · refine Tt.go (fun _ => Tr.run 6 (pc' := 27) (lv' := [(0, .ref P), (1, .int a1), (3, .int a3), (4, .int x4)]) (st' := [.int (x4 - (1 : Int32)), .ref P, .int x4, .ref P]) rfl) ?_
      refine Tt.callV (As := [.int (x4 - (1 : Int32))]) (rest := [.int x4, .ref P]) (c_X4_get g l hl P nP (x4 - (1 : Int32)) hP hP1 hP9 M w) hP (by decide) rfl rfl cw_X4_get fw793 pn_X4_get (Nat.le_of_ble_eq_true rfl) (Nat.le_of_ble_eq_true rfl) (Nat.le_of_ble_eq_true rfl) rfl (fun v2 => (?_ : Tt g l z_X4_insert (emVw M0 w) _ 30 [(0, .ref P), (1, .int a1), (3, .int a3), (4, .int x4)] [.int v2, .int x4, .ref P] (M, w)))
      refine Tt.callV (As := [.int x4, .int v2]) (rest := []) (c_X4_set g l hl P nP x4 v2 hP hP1 hP9 M w) hP (by decide) rfl rfl cw_X4_set fw794 pn_X4_set (Nat.le_of_ble_eq_true rfl) (Nat.le_of_ble_eq_true rfl) (Nat.le_of_ble_eq_true rfl) rfl (fun v3 => (?_ : Tt g l z_X4_insert (emVw M0 w) _ 33 [(0, .ref P), (1, .int a1), (3, .int a3), (4, .int x4)] [] (v3, w)))
      refine Tt.go (fun _ => Tr.run 2 (pc' := 13) (lv' := [(4, .int (x4 + (-1 : Int32))), (0, .ref P), (1, .int a1), (3, .int a3)]) (st' := []) rfl) ?_
      refine Tt.go (fun _ => Tr.sub (lv' := [(0, .ref P), (1, .int a1), (3, .int a3), (4, .int (x4 + (-1 : Int32)))]) [1, 2, 3, 0] rfl) ?_
      exact ih (x4 + (-1 : Int32)) v3
def f_X4_insert (P : Nat) (nP : Nat) (a1 : Int32) (a2 : Int32) (a3 : Int32) (M : fm_Mem) : Option (fm_Mem) := (f_X4_insert_13 P nP a1 a2 a3 fm_fuel (fm_min a2 ((Int32.ofNat nP) - (1 : Int32))) M)
set_option maxRecDepth 100000 in
set_option maxHeartbeats 4000000 in
theorem t_X4_insert (g : fm_G) (l : Launch) (hl : l.stackTraces = false) (P : Nat) (nP : Nat) (a1 : Int32) (a2 : Int32) (a3 : Int32) (hP : fm_kd g P = 4) (hP1 : fm_kd g (P + 1) = 100 + nP) (hP9 : nP < 9000) (M : fm_Mem) (w : fm_W) : Tt g l z_X4_insert (emVw M w) (f_X4_insert P nP a1 a2 a3 M) 0 [(0, .ref P), (1, .int a1), (2, .int a2), (3, .int a3)] [] (M, w) := by
  rw [f_X4_insert]
  refine Tt.go (fun _ => Tr.run 2 (pc' := 2) (lv' := [(0, .ref P), (1, .int a1), (2, .int a2), (3, .int a3)]) (st' := [.ref P, .int a2]) rfl) ?_
  refine Tt.go (fun _ => Tr.get fmc4 hP rfl fw138 (k := 0) (by decide) rfl) (?_ : Tt g l z_X4_insert (emVw M w) _ 5 [(0, .ref P), (1, .int a1), (2, .int a2), (3, .int a3)] [.ref (P + 1), .int a2] (M, w))
  refine Tt.go (fun _ => Tr.alen hP1 hP9 rfl) (?_ : Tt g l z_X4_insert (emVw M w) _ 6 [(0, .ref P), (1, .int a1), (2, .int a2), (3, .int a3)] [.int (Int32.ofNat nP), .int a2] (M, w))
  refine Tt.go (fun _ => Tr.run 2 (pc' := 8) (lv' := [(0, .ref P), (1, .int a1), (2, .int a2), (3, .int a3)]) (st' := [.int ((Int32.ofNat nP) - (1 : Int32)), .int a2]) rfl) ?_
  refine Tt.go (fun _ => Tr.min rfl ⟨fw409, fw410, fw94, fw411⟩ (Nat.le_of_ble_eq_true rfl) (Nat.le_of_ble_eq_true rfl)) (?_ : Tt g l z_X4_insert (emVw M w) _ 11 [(0, .ref P), (1, .int a1), (2, .int a2), (3, .int a3)] [.int (fm_min a2 ((Int32.ofNat nP) - (1 : Int32)))] (M, w))
  refine Tt.go (fun _ => Tr.run 1 (pc' := 13) (lv' := [(4, .int (fm_min a2 ((Int32.ofNat nP) - (1 : Int32)))), (0, .ref P), (1, .int a1), (2, .int a2), (3, .int a3)]) (st' := []) rfl) ?_
  refine Tt.go (fun _ => Tr.sub (lv' := [(0, .ref P), (1, .int a1), (3, .int a3), (4, .int (fm_min a2 ((Int32.ofNat nP) - (1 : Int32))))]) [1, 2, 4, 0] rfl) ?_
  exact t_X4_insert_13 g l hl P nP a1 a2 a3 hP hP1 hP9 w M fm_fuel (fm_min a2 ((Int32.ofNat nP) - (1 : Int32))) M
theorem c_X4_insert (g : fm_G) (l : Launch) (hl : l.stackTraces = false) (P : Nat) (nP : Nat) (a1 : Int32) (a2 : Int32) (a3 : Int32) (hP : fm_kd g P = 4) (hP1 : fm_kd g (P + 1) = 100 + nP) (hP9 : nP < 9000) (M : fm_Mem) (w : fm_W) : ∀ r, f_X4_insert P nP a1 a2 a3 M = some r → fC g l z_X4_insert [.ref P, .int a1, .int a2, .int a3] (M, w) (emVw M w r) := fun r hr => fC.of (by decide) rfl o_X4_insert hl (Nat.le_of_ble_eq_true rfl) (t_X4_insert g l hl P nP a1 a2 a3 hP hP1 hP9 M w r hr)
def k_X1_changeEdge : List (Nat × Instr × Nat) := [(0, .iload_n 1, 1), (1, .iload_n 2, 1), (2, .invokestatic 55, 3), (5, .bipush 20, 2), (7, .imul, 1), (8, .iload_n 1, 1), (9, .iload_n 2, 1), (10, .invokestatic 61, 3), (13, .iadd, 1), (14, .istore 4, 2), (16, .aload_n 0, 1), (17, .getfield 20, 3), (20, .iload 4, 2), (22, .aload_n 0, 1), (23, .getfield 20, 3), (26, .iload 4, 2), (28, .invokevirtual 27, 3), (31, .iconst 1, 1), (32, .iload_n 3, 1), (33, .ishl, 1), (34, .ixor, 1), (35, .invokevirtual 64, 3), (38, .return_, 1)]
def z_X1_changeEdge : fm_Y := (yX1_changeEdge, RX1, cX1_changeEdge, 5, none, k_X1_changeEdge, 1, 22)
theorem o_X1_changeEdge : fm_dec z_X1_changeEdge := (by decide +kernel : ∀ q ∈ k_X1_changeEdge, decode cX1_changeEdge q.1 = .ok q.2)
theorem cw_X1_changeEdge : fm_cwV z_X1_changeEdge := ⟨⟨lw_in 798 (by decide +kernel) (by decide +kernel), lw_in 97 (by decide +kernel) (by decide +kernel), by decide, by decide⟩, lw_in 797 (by decide +kernel) (by decide +kernel), lw_in 20 (by decide +kernel) (by decide +kernel)⟩
theorem pn_X1_changeEdge : (parseMethodDescriptor z_X1_changeEdge.1.desc).map (fun d => d.parameters.length) = some 3 := by decide +kernel
def f_X1_changeEdge (P : Nat) (a1 : Int32) (a2 : Int32) (a3 : Int32) (M : fm_Mem) : Option (fm_Mem) := Option.bind (f_X4_get (P + 3) 400 (((fm_min a1 a2) * (20 : Int32)) + (fm_max a1 a2)) M) (fun v1 => Option.bind (f_X4_set (P + 3) 400 (((fm_min a1 a2) * (20 : Int32)) + (fm_max a1 a2)) (v1 ^^^ ((1 : Int32) <<< (a3 &&& 31))) M) (fun v2 => some (v2)))
set_option maxRecDepth 100000 in
set_option maxHeartbeats 4000000 in
theorem t_X1_changeEdge (g : fm_G) (l : Launch) (hl : l.stackTraces = false) (P : Nat) (a1 : Int32) (a2 : Int32) (a3 : Int32) (hP : fm_kd g P = 1) (M : fm_Mem) (w : fm_W) : Tt g l z_X1_changeEdge (emVw M w) (f_X1_changeEdge P a1 a2 a3 M) 0 [(0, .ref P), (1, .int a1), (2, .int a2), (3, .int a3)] [] (M, w) := by
  rw [f_X1_changeEdge]
  refine Tt.go (fun _ => Tr.run 2 (pc' := 2) (lv' := [(0, .ref P), (1, .int a1), (2, .int a2), (3, .int a3)]) (st' := [.int a2, .int a1]) rfl) ?_
  refine Tt.go (fun _ => Tr.min rfl ⟨fw536, fw410, fw94, fw411⟩ (Nat.le_of_ble_eq_true rfl) (Nat.le_of_ble_eq_true rfl)) (?_ : Tt g l z_X1_changeEdge (emVw M w) _ 5 [(0, .ref P), (1, .int a1), (2, .int a2), (3, .int a3)] [.int (fm_min a1 a2)] (M, w))
  refine Tt.go (fun _ => Tr.run 4 (pc' := 10) (lv' := [(0, .ref P), (1, .int a1), (2, .int a2), (3, .int a3)]) (st' := [.int a2, .int a1, .int ((fm_min a1 a2) * (20 : Int32))]) rfl) ?_
  refine Tt.go (fun _ => Tr.max rfl ⟨fw537, fw136, fw94, fw137⟩ (Nat.le_of_ble_eq_true rfl) (Nat.le_of_ble_eq_true rfl)) (?_ : Tt g l z_X1_changeEdge (emVw M w) _ 13 [(0, .ref P), (1, .int a1), (2, .int a2), (3, .int a3)] [.int (fm_max a1 a2), .int ((fm_min a1 a2) * (20 : Int32))] (M, w))
  refine Tt.go (fun _ => Tr.run 3 (pc' := 17) (lv' := [(4, .int (((fm_min a1 a2) * (20 : Int32)) + (fm_max a1 a2))), (0, .ref P), (1, .int a1), (2, .int a2), (3, .int a3)]) (st' := [.ref P]) rfl) ?_
  refine Tt.go (fun _ => Tr.get fmc1 hP rfl fw176 (k := 1) (by decide) rfl) (?_ : Tt g l z_X1_changeEdge (emVw M w) _ 20 [(4, .int (((fm_min a1 a2) * (20 : Int32)) + (fm_max a1 a2))), (0, .ref P), (1, .int a1), (2, .int a2), (3, .int a3)] [.ref (P + 3)] (M, w))
  refine Tt.go (fun _ => Tr.run 2 (pc' := 23) (lv' := [(4, .int (((fm_min a1 a2) * (20 : Int32)) + (fm_max a1 a2))), (0, .ref P), (1, .int a1), (2, .int a2), (3, .int a3)]) (st' := [.ref P, .int (((fm_min a1 a2) * (20 : Int32)) + (fm_max a1 a2)), .ref (P + 3)]) rfl) ?_
  refine Tt.go (fun _ => Tr.get fmc1 hP rfl fw176 (k := 1) (by decide) rfl) (?_ : Tt g l z_X1_changeEdge (emVw M w) _ 26 [(4, .int (((fm_min a1 a2) * (20 : Int32)) + (fm_max a1 a2))), (0, .ref P), (1, .int a1), (2, .int a2), (3, .int a3)] [.ref (P + 3), .int (((fm_min a1 a2) * (20 : Int32)) + (fm_max a1 a2)), .ref (P + 3)] (M, w))
  refine Tt.go (fun _ => Tr.run 1 (pc' := 28) (lv' := [(4, .int (((fm_min a1 a2) * (20 : Int32)) + (fm_max a1 a2))), (0, .ref P), (1, .int a1), (2, .int a2), (3, .int a3)]) (st' := [.int (((fm_min a1 a2) * (20 : Int32)) + (fm_max a1 a2)), .ref (P + 3), .int (((fm_min a1 a2) * (20 : Int32)) + (fm_max a1 a2)), .ref (P + 3)]) rfl) ?_
  refine Tt.callV (As := [.int (((fm_min a1 a2) * (20 : Int32)) + (fm_max a1 a2))]) (rest := [.int (((fm_min a1 a2) * (20 : Int32)) + (fm_max a1 a2)), .ref (P + 3)]) (c_X4_get g l hl (P + 3) 400 (((fm_min a1 a2) * (20 : Int32)) + (fm_max a1 a2)) (fmk_1_1 hP) (fmn_1_1 hP) (by decide) M w) (fmk_1_1 hP) (by decide) rfl rfl cw_X4_get fw321 pn_X4_get (Nat.le_of_ble_eq_true rfl) (Nat.le_of_ble_eq_true rfl) (Nat.le_of_ble_eq_true rfl) rfl (fun v1 => (?_ : Tt g l z_X1_changeEdge (emVw M w) _ 31 [(4, .int (((fm_min a1 a2) * (20 : Int32)) + (fm_max a1 a2))), (0, .ref P), (1, .int a1), (2, .int a2), (3, .int a3)] [.int v1, .int (((fm_min a1 a2) * (20 : Int32)) + (fm_max a1 a2)), .ref (P + 3)] (M, w)))
  refine Tt.go (fun _ => Tr.run 4 (pc' := 35) (lv' := [(4, .int (((fm_min a1 a2) * (20 : Int32)) + (fm_max a1 a2))), (0, .ref P), (1, .int a1), (2, .int a2), (3, .int a3)]) (st' := [.int (v1 ^^^ ((1 : Int32) <<< (a3 &&& 31))), .int (((fm_min a1 a2) * (20 : Int32)) + (fm_max a1 a2)), .ref (P + 3)]) rfl) ?_
  refine Tt.callV (As := [.int (((fm_min a1 a2) * (20 : Int32)) + (fm_max a1 a2)), .int (v1 ^^^ ((1 : Int32) <<< (a3 &&& 31)))]) (rest := []) (c_X4_set g l hl (P + 3) 400 (((fm_min a1 a2) * (20 : Int32)) + (fm_max a1 a2)) (v1 ^^^ ((1 : Int32) <<< (a3 &&& 31))) (fmk_1_1 hP) (fmn_1_1 hP) (by decide) M w) (fmk_1_1 hP) (by decide) rfl rfl cw_X4_set fw799 pn_X4_set (Nat.le_of_ble_eq_true rfl) (Nat.le_of_ble_eq_true rfl) (Nat.le_of_ble_eq_true rfl) rfl (fun v2 => (?_ : Tt g l z_X1_changeEdge (emVw M w) _ 38 [(4, .int (((fm_min a1 a2) * (20 : Int32)) + (fm_max a1 a2))), (0, .ref P), (1, .int a1), (2, .int a2), (3, .int a3)] [] (v2, w)))
  exact Tt.ret (Tr.vret rfl rfl)
theorem c_X1_changeEdge (g : fm_G) (l : Launch) (hl : l.stackTraces = false) (P : Nat) (a1 : Int32) (a2 : Int32) (a3 : Int32) (hP : fm_kd g P = 1) (M : fm_Mem) (w : fm_W) : ∀ r, f_X1_changeEdge P a1 a2 a3 M = some r → fC g l z_X1_changeEdge [.ref P, .int a1, .int a2, .int a3] (M, w) (emVw M w r) := fun r hr => fC.of (by decide) rfl o_X1_changeEdge hl (Nat.le_of_ble_eq_true rfl) (t_X1_changeEdge g l hl P a1 a2 a3 hP M w r hr)
def k_X1_add : List (Nat × Instr × Nat) := [(0, .iload_n 1, 1), (1, .iload_n 2, 1), (2, .iload_n 3, 1), (3, .invokestatic 38, 3), (6, .istore 4, 2), (8, .aload_n 0, 1), (9, .getfield 23, 3), (12, .bipush 35, 2), (14, .if_icmp .ge 53, 3), (17, .aload_n 0, 1), (18, .getfield 14, 3), (21, .aload_n 0, 1), (22, .iload 4, 2), (24, .invokevirtual 42, 3), (27, .aload_n 0, 1), (28, .getfield 23, 3), (31, .iload 4, 2), (33, .invokevirtual 45, 3), (36, .aload_n 0, 1), (37, .dup, 1), (38, .getfield 23, 3), (41, .iconst 1, 1), (42, .iadd, 1), (43, .putfield 23, 3), (46, .aload_n 0, 1), (47, .iload_n 1, 1), (48, .iload_n 2, 1), (49, .iload_n 3, 1), (50, .invokevirtual 49, 3), (53, .aload_n 0, 1), (54, .iload_n 2, 1), (55, .iload_n 3, 1), (56, .iload_n 1, 1), (57, .invokevirtual 49, 3), (60, .aload_n 0, 1), (61, .iload_n 3, 1), (62, .iload_n 1, 1), (63, .iload_n 2, 1), (64, .invokevirtual 49, 3), (67, .return_, 1)]
def z_X1_add : fm_Y := (yX1_add, RX1, cX1_add, 5, none, k_X1_add, 2, 46)
theorem o_X1_add : fm_dec z_X1_add := (by decide +kernel : ∀ q ∈ k_X1_add, decode cX1_add q.1 = .ok q.2)
theorem cw_X1_add : fm_cwV z_X1_add := ⟨⟨lw_in 781 (by decide +kernel) (by decide +kernel), lw_in 97 (by decide +kernel) (by decide +kernel), by decide, by decide⟩, lw_in 779 (by decide +kernel) (by decide +kernel), lw_in 780 (by decide +kernel) (by decide +kernel)⟩
theorem pn_X1_add : (parseMethodDescriptor z_X1_add.1.desc).map (fun d => d.parameters.length) = some 3 := by decide +kernel
def f_X1_add_67 (P : Nat) (a1 : Int32) (a2 : Int32) (a3 : Int32)  (M : fm_Mem) : Option (fm_Mem) := some (M)
set_option maxRecDepth 100000 in
set_option maxHeartbeats 4000000 in
theorem t_X1_add_67 (g : fm_G) (l : Launch) (hl : l.stackTraces = false) (P : Nat) (a1 : Int32) (a2 : Int32) (a3 : Int32) (hP : fm_kd g P = 1) (w : fm_W) (M0 : fm_Mem)    (M : fm_Mem) : Tt g l z_X1_add (emVw M0 w) (f_X1_add_67 P a1 a2 a3   M) 67 [] [] (M, w) := by
  rw [f_X1_add_67]
  exact Tt.ret (Tr.vret rfl rfl)
def f_X1_add (P : Nat) (a1 : Int32) (a2 : Int32) (a3 : Int32) (M : fm_Mem) : Option (fm_Mem) := Option.bind (f_X1_codeOf a1 a2 a3 M) (fun v1 => if (35 : Int32) ≤ (M P 2) then (f_X1_add_67 P a1 a2 a3 M) else (Option.bind (f_X1_placeOf P v1 M) (fun v2 => Option.bind (f_X4_insert (P + 1) 35 v2 (M P 2) v1 M) (fun v3 => Option.bind (f_X1_changeEdge P a1 a2 a3 (fm_up v3 P 2 ((v3 P 2) + (1 : Int32)))) (fun v4 => Option.bind (f_X1_changeEdge P a2 a3 a1 v4) (fun v5 => Option.bind (f_X1_changeEdge P a3 a1 a2 v5) (fun v6 => (f_X1_add_67 P a1 a2 a3 v6))))))))
set_option maxRecDepth 100000 in
set_option maxHeartbeats 4000000 in
theorem t_X1_add (g : fm_G) (l : Launch) (hl : l.stackTraces = false) (P : Nat) (a1 : Int32) (a2 : Int32) (a3 : Int32) (hP : fm_kd g P = 1) (M : fm_Mem) (w : fm_W) : Tt g l z_X1_add (emVw M w) (f_X1_add P a1 a2 a3 M) 0 [(0, .ref P), (1, .int a1), (2, .int a2), (3, .int a3)] [] (M, w) := by
  rw [f_X1_add]
  refine Tt.go (fun _ => Tr.run 3 (pc' := 3) (lv' := [(0, .ref P), (1, .int a1), (2, .int a2), (3, .int a3)]) (st' := [.int a3, .int a2, .int a1]) rfl) ?_
  refine Tt.callS (As := [.int a1, .int a2, .int a3]) (rest := []) (c_X1_codeOf g l hl a1 a2 a3 M w) rfl cw_X1_codeOf fw782 pn_X1_codeOf (Nat.le_of_ble_eq_true rfl) (Nat.le_of_ble_eq_true rfl) (Nat.le_of_ble_eq_true rfl) rfl (fun v1 => (?_ : Tt g l z_X1_add (emVw M w) _ 6 [(0, .ref P), (1, .int a1), (2, .int a2), (3, .int a3)] [.int v1] (M, w)))
  refine Tt.go (fun _ => Tr.run 2 (pc' := 9) (lv' := [(4, .int v1), (0, .ref P), (1, .int a1), (2, .int a2), (3, .int a3)]) (st' := [.ref P]) rfl) ?_
  refine Tt.go (fun _ => Tr.get fmc1 hP rfl fw177 (k := 2) (by decide) rfl) (?_ : Tt g l z_X1_add (emVw M w) _ 12 [(4, .int v1), (0, .ref P), (1, .int a1), (2, .int a2), (3, .int a3)] [.int (M P 2)] (M, w))
  refine Tt.go (fun _ => Tr.run 1 (pc' := 14) (lv' := [(4, .int v1), (0, .ref P), (1, .int a1), (2, .int a2), (3, .int a3)]) (st' := [.int (35 : Int32), .int (M P 2)]) rfl) ?_
  refine Tt.ic_ge (tgt := 67) rfl (by decide) ?_ ?_
  · refine Tt.go (fun _ => Tr.sub (lv' := []) [] rfl) ?_
    exact t_X1_add_67 g l hl P a1 a2 a3 hP w M M
  · refine Tt.go (fun _ => Tr.run 1 (pc' := 18) (lv' := [(4, .int v1), (0, .ref P), (1, .int a1), (2, .int a2), (3, .int a3)]) (st' := [.ref P]) rfl) ?_
    refine Tt.go (fun _ => Tr.get fmc1 hP rfl fw175 (k := 0) (by decide) rfl) (?_ : Tt g l z_X1_add (emVw M w) _ 21 [(4, .int v1), (0, .ref P), (1, .int a1), (2, .int a2), (3, .int a3)] [.ref (P + 1)] (M, w))
    refine Tt.go (fun _ => Tr.run 2 (pc' := 24) (lv' := [(4, .int v1), (0, .ref P), (1, .int a1), (2, .int a2), (3, .int a3)]) (st' := [.int v1, .ref P, .ref (P + 1)]) rfl) ?_
    refine Tt.callV (As := [.int v1]) (rest := [.ref (P + 1)]) (c_X1_placeOf g l hl P v1 hP M w) hP (by decide) rfl rfl cw_X1_placeOf fw785 pn_X1_placeOf (Nat.le_of_ble_eq_true rfl) (Nat.le_of_ble_eq_true rfl) (Nat.le_of_ble_eq_true rfl) rfl (fun v2 => (?_ : Tt g l z_X1_add (emVw M w) _ 27 [(4, .int v1), (0, .ref P), (1, .int a1), (2, .int a2), (3, .int a3)] [.int v2, .ref (P + 1)] (M, w)))
    refine Tt.go (fun _ => Tr.run 1 (pc' := 28) (lv' := [(4, .int v1), (0, .ref P), (1, .int a1), (2, .int a2), (3, .int a3)]) (st' := [.ref P, .int v2, .ref (P + 1)]) rfl) ?_
    refine Tt.go (fun _ => Tr.get fmc1 hP rfl fw177 (k := 2) (by decide) rfl) (?_ : Tt g l z_X1_add (emVw M w) _ 31 [(4, .int v1), (0, .ref P), (1, .int a1), (2, .int a2), (3, .int a3)] [.int (M P 2), .int v2, .ref (P + 1)] (M, w))
    refine Tt.go (fun _ => Tr.run 1 (pc' := 33) (lv' := [(4, .int v1), (0, .ref P), (1, .int a1), (2, .int a2), (3, .int a3)]) (st' := [.int v1, .int (M P 2), .int v2, .ref (P + 1)]) rfl) ?_
    refine Tt.callV (As := [.int v2, .int (M P 2), .int v1]) (rest := []) (c_X4_insert g l hl (P + 1) 35 v2 (M P 2) v1 (fmk_1_0 hP) (fmn_1_0 hP) (by decide) M w) (fmk_1_0 hP) (by decide) rfl rfl cw_X4_insert fw789 pn_X4_insert (Nat.le_of_ble_eq_true rfl) (Nat.le_of_ble_eq_true rfl) (Nat.le_of_ble_eq_true rfl) rfl (fun v3 => (?_ : Tt g l z_X1_add (emVw M w) _ 36 [(4, .int v1), (0, .ref P), (1, .int a1), (2, .int a2), (3, .int a3)] [] (v3, w)))
    refine Tt.go (fun _ => Tr.run 2 (pc' := 38) (lv' := [(4, .int v1), (0, .ref P), (1, .int a1), (2, .int a2), (3, .int a3)]) (st' := [.ref P, .ref P]) rfl) ?_
    refine Tt.go (fun _ => Tr.get fmc1 hP rfl fw177 (k := 2) (by decide) rfl) (?_ : Tt g l z_X1_add (emVw M w) _ 41 [(4, .int v1), (0, .ref P), (1, .int a1), (2, .int a2), (3, .int a3)] [.int (v3 P 2), .ref P] (v3, w))
    refine Tt.go (fun _ => Tr.run 2 (pc' := 43) (lv' := [(4, .int v1), (0, .ref P), (1, .int a1), (2, .int a2), (3, .int a3)]) (st' := [.int ((v3 P 2) + (1 : Int32)), .ref P]) rfl) ?_
    refine Tt.go (fun _ => Tr.put fmc1 hP rfl fw177 (k := 2) (by decide) rfl rfl ⟨rfl, rfl⟩) (?_ : Tt g l z_X1_add (emVw M w) _ 46 [(4, .int v1), (0, .ref P), (1, .int a1), (2, .int a2), (3, .int a3)] [] ((fm_up v3 P 2 ((v3 P 2) + (1 : Int32))), w))
    refine Tt.go (fun _ => Tr.run 4 (pc' := 50) (lv' := [(4, .int v1), (0, .ref P), (1, .int a1), (2, .int a2), (3, .int a3)]) (st' := [.int a3, .int a2, .int a1, .ref P]) rfl) ?_
    refine Tt.callV (As := [.int a1, .int a2, .int a3]) (rest := []) (c_X1_changeEdge g l hl P a1 a2 a3 hP (fm_up v3 P 2 ((v3 P 2) + (1 : Int32))) w) hP (by decide) rfl rfl cw_X1_changeEdge fw795 pn_X1_changeEdge (Nat.le_of_ble_eq_true rfl) (Nat.le_of_ble_eq_true rfl) (Nat.le_of_ble_eq_true rfl) rfl (fun v4 => (?_ : Tt g l z_X1_add (emVw M w) _ 53 [(4, .int v1), (0, .ref P), (1, .int a1), (2, .int a2), (3, .int a3)] [] (v4, w)))
    refine Tt.go (fun _ => Tr.run 4 (pc' := 57) (lv' := [(4, .int v1), (0, .ref P), (1, .int a1), (2, .int a2), (3, .int a3)]) (st' := [.int a1, .int a3, .int a2, .ref P]) rfl) ?_
    refine Tt.callV (As := [.int a2, .int a3, .int a1]) (rest := []) (c_X1_changeEdge g l hl P a2 a3 a1 hP v4 w) hP (by decide) rfl rfl cw_X1_changeEdge fw795 pn_X1_changeEdge (Nat.le_of_ble_eq_true rfl) (Nat.le_of_ble_eq_true rfl) (Nat.le_of_ble_eq_true rfl) rfl (fun v5 => (?_ : Tt g l z_X1_add (emVw M w) _ 60 [(4, .int v1), (0, .ref P), (1, .int a1), (2, .int a2), (3, .int a3)] [] (v5, w)))
    refine Tt.go (fun _ => Tr.run 4 (pc' := 64) (lv' := [(4, .int v1), (0, .ref P), (1, .int a1), (2, .int a2), (3, .int a3)]) (st' := [.int a2, .int a1, .int a3, .ref P]) rfl) ?_
    refine Tt.callV (As := [.int a3, .int a1, .int a2]) (rest := []) (c_X1_changeEdge g l hl P a3 a1 a2 hP v5 w) hP (by decide) rfl rfl cw_X1_changeEdge fw795 pn_X1_changeEdge (Nat.le_of_ble_eq_true rfl) (Nat.le_of_ble_eq_true rfl) (Nat.le_of_ble_eq_true rfl) rfl (fun v6 => (?_ : Tt g l z_X1_add (emVw M w) _ 67 [(4, .int v1), (0, .ref P), (1, .int a1), (2, .int a2), (3, .int a3)] [] (v6, w)))
    refine Tt.go (fun _ => Tr.sub (lv' := []) [] rfl) ?_
    exact t_X1_add_67 g l hl P a1 a2 a3 hP w M v6
theorem c_X1_add (g : fm_G) (l : Launch) (hl : l.stackTraces = false) (P : Nat) (a1 : Int32) (a2 : Int32) (a3 : Int32) (hP : fm_kd g P = 1) (M : fm_Mem) (w : fm_W) : ∀ r, f_X1_add P a1 a2 a3 M = some r → fC g l z_X1_add [.ref P, .int a1, .int a2, .int a3] (M, w) (emVw M w r) := fun r hr => fC.of (by decide) rfl o_X1_add hl (Nat.le_of_ble_eq_true rfl) (t_X1_add g l hl P a1 a2 a3 hP M w r hr)
