theorem fw135 : Cond.methodLink "CircleFlips$Row" 7 ⟨"java/lang/Math", "max", "(II)I"⟩ ∈ lw_all := lw_in 135 (by decide +kernel) (by decide +kernel)
theorem fw185 : Cond.fieldLink "CircleFlips$Plane" 12 "CircleFlips$Plane" "points" "LCircleFlips$Points;" ∈ lw_all := lw_in 185 (by decide +kernel) (by decide +kernel)
theorem fw188 : Cond.fieldLink "CircleFlips$Plane" 21 "CircleFlips$Plane" "drawing" "LCircleFlips$Mesh;" ∈ lw_all := lw_in 188 (by decide +kernel) (by decide +kernel)
theorem fw190 : Cond.fieldLink "CircleFlips$Plane" 25 "CircleFlips$Plane" "due" "LCircleFlips$Mesh;" ∈ lw_all := lw_in 190 (by decide +kernel) (by decide +kernel)
theorem fw192 : Cond.fieldLink "CircleFlips$Plane" 32 "CircleFlips$Plane" "flips" "I" ∈ lw_all := lw_in 192 (by decide +kernel) (by decide +kernel)
theorem fw194 : Cond.fieldLink "CircleFlips$Plane" 36 "CircleFlips$Plane" "puts" "I" ∈ lw_all := lw_in 194 (by decide +kernel) (by decide +kernel)
theorem fw376 : Cond.methodLink "CircleFlips$Mesh" 71 ⟨"CircleFlips$Mesh", "edgesOf", "(I)I"⟩ ∈ lw_all := lw_in 376 (by decide +kernel) (by decide +kernel)
theorem fw380 : Cond.methodLink "CircleFlips$Mesh" 74 ⟨"java/lang/Integer", "bitCount", "(I)I"⟩ ∈ lw_all := lw_in 380 (by decide +kernel) (by decide +kernel)
theorem fw383 : Cond.constant "java/lang/Integer" 265 (1431655765 : Int32) ∈ lw_all := lw_in 383 (by decide +kernel) (by decide +kernel)
theorem fw384 : Cond.constant "java/lang/Integer" 266 (858993459 : Int32) ∈ lw_all := lw_in 384 (by decide +kernel) (by decide +kernel)
theorem fw385 : Cond.constant "java/lang/Integer" 267 (252645135 : Int32) ∈ lw_all := lw_in 385 (by decide +kernel) (by decide +kernel)
theorem fw401 : Cond.methodLink "CircleFlips$Plane" 39 ⟨"CircleFlips$Points", "copyFrom", "(LCircleFlips$Points;)V"⟩ ∈ lw_all := lw_in 401 (by decide +kernel) (by decide +kernel)
theorem fw405 : Cond.methodLink "CircleFlips$Points" 31 ⟨"CircleFlips$Row", "copyFrom", "(LCircleFlips$Row;)V"⟩ ∈ lw_all := lw_in 405 (by decide +kernel) (by decide +kernel)
theorem fw415 : Cond.methodLink "CircleFlips$Plane" 43 ⟨"CircleFlips$Mesh", "copyFrom", "(LCircleFlips$Mesh;)V"⟩ ∈ lw_all := lw_in 415 (by decide +kernel) (by decide +kernel)
theorem fw527 : Cond.methodLink "CircleFlips$Plane" 46 ⟨"CircleFlips$Points", "size", "()I"⟩ ∈ lw_all := lw_in 527 (by decide +kernel) (by decide +kernel)
theorem fw540 : Cond.methodLink "CircleFlips$Plane" 66 ⟨"CircleFlips$Points", "x", "(I)I"⟩ ∈ lw_all := lw_in 540 (by decide +kernel) (by decide +kernel)
theorem fw541 : Cond.methodLink "CircleFlips$Plane" 70 ⟨"CircleFlips$Points", "y", "(I)I"⟩ ∈ lw_all := lw_in 541 (by decide +kernel) (by decide +kernel)
theorem fw542 : Cond.methodLink "CircleFlips$Plane" 73 ⟨"CircleFlips$Points", "circleSide", "(IIIII)I"⟩ ∈ lw_all := lw_in 542 (by decide +kernel) (by decide +kernel)
theorem nw546 : Cond.methodLinkNest "CircleFlips$Points" 55 ⟨"CircleFlips", "sign", "(J)I"⟩ "CircleFlips" ∈ lw_tbl := List.mem_of_getElem? (i := 546) (by decide +kernel)
theorem fw590 : Cond.methodLink "CircleFlips$Mesh" 68 ⟨"CircleFlips$Mesh", "thirdsOf", "(II)I"⟩ ∈ lw_all := lw_in 590 (by decide +kernel) (by decide +kernel)
theorem fw622 : Cond.methodLink "CircleFlips$Mesh" 83 ⟨"CircleFlips$Mesh", "a", "(I)I"⟩ ∈ lw_all := lw_in 622 (by decide +kernel) (by decide +kernel)
theorem fw623 : Cond.methodLink "CircleFlips$Mesh" 86 ⟨"CircleFlips$Mesh", "b", "(I)I"⟩ ∈ lw_all := lw_in 623 (by decide +kernel) (by decide +kernel)
theorem fw624 : Cond.methodLink "CircleFlips$Mesh" 89 ⟨"CircleFlips$Mesh", "c", "(I)I"⟩ ∈ lw_all := lw_in 624 (by decide +kernel) (by decide +kernel)
theorem fw647 : Cond.methodLink "CircleFlips$Plane" 28 ⟨"CircleFlips$Points", "clear", "()V"⟩ ∈ lw_all := lw_in 647 (by decide +kernel) (by decide +kernel)
theorem fw651 : Cond.methodLink "CircleFlips$Plane" 31 ⟨"CircleFlips$Mesh", "clear", "()V"⟩ ∈ lw_all := lw_in 651 (by decide +kernel) (by decide +kernel)
theorem fw772 : Cond.methodLink "CircleFlips$Plane" 50 ⟨"CircleFlips$Plane", "isDue", "(III)Z"⟩ ∈ lw_all := lw_in 772 (by decide +kernel) (by decide +kernel)
theorem fw776 : Cond.methodLink "CircleFlips$Plane" 58 ⟨"CircleFlips$Points", "turn", "(III)I"⟩ ∈ lw_all := lw_in 776 (by decide +kernel) (by decide +kernel)
theorem nw777 : Cond.methodLinkNest "CircleFlips$Plane" 62 ⟨"CircleFlips", "sign", "(J)I"⟩ "CircleFlips" ∈ lw_tbl := List.mem_of_getElem? (i := 777) (by decide +kernel)
theorem fw778 : Cond.methodLink "CircleFlips$Plane" 54 ⟨"CircleFlips$Mesh", "add", "(III)V"⟩ ∈ lw_all := lw_in 778 (by decide +kernel) (by decide +kernel)
theorem fw816 : Cond.methodLink "CircleFlips$Mesh" 52 ⟨"CircleFlips$Row", "remove", "(I)V"⟩ ∈ lw_all := lw_in 816 (by decide +kernel) (by decide +kernel)
theorem fw999 : Cond.methodLink "CircleFlips$Mesh" 79 ⟨"CircleFlips$Mesh", "holds", "(I)Z"⟩ ∈ lw_all := lw_in 999 (by decide +kernel) (by decide +kernel)
def k_X4_remove : List (Nat × Instr × Nat) := [(0, .iload_n 1, 1), (1, .iconst 0, 1), (2, .invokestatic 7, 3), (5, .istore_n 2, 1), (6, .iload_n 2, 1), (7, .iconst 1, 1), (8, .iadd, 1), (9, .aload_n 0, 1), (10, .getfield 13, 3), (13, .arraylength, 1), (14, .if_icmp .ge 21, 3), (17, .aload_n 0, 1), (18, .iload_n 2, 1), (19, .aload_n 0, 1), (20, .iload_n 2, 1), (21, .iconst 1, 1), (22, .iadd, 1), (23, .invokevirtual 28, 3), (26, .invokevirtual 32, 3), (29, .iinc 2 1, 3), (32, .goto (-26), 3), (35, .return_, 1)]
def z_X4_remove : fm_Y := (yX4_remove, RX4, cX4_remove, 3, none, k_X4_remove, 1, 22)
theorem o_X4_remove : fm_dec z_X4_remove := (by decide +kernel : ∀ q ∈ k_X4_remove, decode cX4_remove q.1 = .ok q.2)
theorem cw_X4_remove : fm_cwV z_X4_remove := ⟨⟨lw_in 819 (by decide +kernel) (by decide +kernel), lw_in 93 (by decide +kernel) (by decide +kernel), by decide, by decide⟩, lw_in 817 (by decide +kernel) (by decide +kernel), lw_in 818 (by decide +kernel) (by decide +kernel)⟩
theorem pn_X4_remove : (parseMethodDescriptor z_X4_remove.1.desc).map (fun d => d.parameters.length) = some 1 := by decide +kernel
def f_X4_remove_6 (P : Nat) (nP : Nat) (a1 : Int32) : Nat → Int32 → fm_Mem → Option (fm_Mem)
  | 0, _, _ => none
  | n + 1, x2, M => if (Int32.ofNat nP) ≤ (x2 + (1 : Int32)) then (some (M)) else (Option.bind (f_X4_get P nP (x2 + (1 : Int32)) M) (fun v1 => Option.bind (f_X4_set P nP x2 v1 M) (fun v2 => (f_X4_remove_6 P nP a1 n (x2 + (1 : Int32)) v2))))
set_option maxRecDepth 100000 in
set_option maxHeartbeats 4000000 in
theorem t_X4_remove_6 (g : fm_G) (l : Launch) (hl : l.stackTraces = false) (P : Nat) (nP : Nat) (a1 : Int32) (hP : fm_kd g P = 4) (hP1 : fm_kd g (P + 1) = 100 + nP) (hP9 : nP < 9000) (w : fm_W) (M0 : fm_Mem)  : ∀ (n : Nat) (x2 : Int32)  (M : fm_Mem), Tt g l z_X4_remove (emVw M0 w) (f_X4_remove_6 P nP a1  n x2 M) 6 [(0, .ref P), (2, .int x2)] [] (M, w) := by
  intro n
  induction n with
  | zero => intros; exact Tt.none
  | succ n ih =>
    intro x2  M
    rw [f_X4_remove_6]
    refine Tt.go (fun _ => Tr.run 4 (pc' := 10) (lv' := [(0, .ref P), (2, .int x2)]) (st' := [.ref P, .int (x2 + (1 : Int32))]) rfl) ?_
    refine Tt.go (fun _ => Tr.get fmc4 hP rfl fw138 (k := 0) (by decide) rfl) (?_ : Tt g l z_X4_remove (emVw M0 w) _ 13 [(0, .ref P), (2, .int x2)] [.ref (P + 1), .int (x2 + (1 : Int32))] (M, w))
    refine Tt.go (fun _ => Tr.alen hP1 hP9 rfl) (?_ : Tt g l z_X4_remove (emVw M0 w) _ 14 [(0, .ref P), (2, .int x2)] [.int (Int32.ofNat nP), .int (x2 + (1 : Int32))] (M, w))
    refine Tt.ic_ge (tgt := 35) rfl (by decide) ?_ ?_
    · exact Tt.ret (Tr.vret rfl rfl)
    · refine Tt.go (fun _ => Tr.run 6 (pc' := 23) (lv' := [(0, .ref P), (2, .int x2)]) (st' := [.int (x2 + (1 : Int32)), .ref P, .int x2, .ref P]) rfl) ?_
      refine Tt.callV (As := [.int (x2 + (1 : Int32))]) (rest := [.int x2, .ref P]) (c_X4_get g l hl P nP (x2 + (1 : Int32)) hP hP1 hP9 M w) hP (by decide) rfl rfl cw_X4_get fw793 pn_X4_get (Nat.le_of_ble_eq_true rfl) (Nat.le_of_ble_eq_true rfl) (Nat.le_of_ble_eq_true rfl) rfl (fun v1 => (?_ : Tt g l z_X4_remove (emVw M0 w) _ 26 [(0, .ref P), (2, .int x2)] [.int v1, .int x2, .ref P] (M, w)))
      refine Tt.callV (As := [.int x2, .int v1]) (rest := []) (c_X4_set g l hl P nP x2 v1 hP hP1 hP9 M w) hP (by decide) rfl rfl cw_X4_set fw794 pn_X4_set (Nat.le_of_ble_eq_true rfl) (Nat.le_of_ble_eq_true rfl) (Nat.le_of_ble_eq_true rfl) rfl (fun v2 => (?_ : Tt g l z_X4_remove (emVw M0 w) _ 29 [(0, .ref P), (2, .int x2)] [] (v2, w)))
      refine Tt.go (fun _ => Tr.run 2 (pc' := 6) (lv' := [(2, .int (x2 + (1 : Int32))), (0, .ref P)]) (st' := []) rfl) ?_
      refine Tt.go (fun _ => Tr.sub (lv' := [(0, .ref P), (2, .int (x2 + (1 : Int32)))]) [1, 0] rfl) ?_
      exact ih (x2 + (1 : Int32)) v2
def f_X4_remove (P : Nat) (nP : Nat) (a1 : Int32) (M : fm_Mem) : Option (fm_Mem) := (f_X4_remove_6 P nP a1 fm_fuel (fm_max a1 (0 : Int32)) M)
set_option maxRecDepth 100000 in
set_option maxHeartbeats 4000000 in
theorem t_X4_remove (g : fm_G) (l : Launch) (hl : l.stackTraces = false) (P : Nat) (nP : Nat) (a1 : Int32) (hP : fm_kd g P = 4) (hP1 : fm_kd g (P + 1) = 100 + nP) (hP9 : nP < 9000) (M : fm_Mem) (w : fm_W) : Tt g l z_X4_remove (emVw M w) (f_X4_remove P nP a1 M) 0 [(0, .ref P), (1, .int a1)] [] (M, w) := by
  rw [f_X4_remove]
  refine Tt.go (fun _ => Tr.run 2 (pc' := 2) (lv' := [(0, .ref P), (1, .int a1)]) (st' := [.int (0 : Int32), .int a1]) rfl) ?_
  refine Tt.go (fun _ => Tr.max rfl ⟨fw135, fw136, fw94, fw137⟩ (Nat.le_of_ble_eq_true rfl) (Nat.le_of_ble_eq_true rfl)) (?_ : Tt g l z_X4_remove (emVw M w) _ 5 [(0, .ref P), (1, .int a1)] [.int (fm_max a1 (0 : Int32))] (M, w))
  refine Tt.go (fun _ => Tr.run 1 (pc' := 6) (lv' := [(2, .int (fm_max a1 (0 : Int32))), (0, .ref P), (1, .int a1)]) (st' := []) rfl) ?_
  refine Tt.go (fun _ => Tr.sub (lv' := [(0, .ref P), (2, .int (fm_max a1 (0 : Int32)))]) [1, 0] rfl) ?_
  exact t_X4_remove_6 g l hl P nP a1 hP hP1 hP9 w M fm_fuel (fm_max a1 (0 : Int32)) M
theorem c_X4_remove (g : fm_G) (l : Launch) (hl : l.stackTraces = false) (P : Nat) (nP : Nat) (a1 : Int32) (hP : fm_kd g P = 4) (hP1 : fm_kd g (P + 1) = 100 + nP) (hP9 : nP < 9000) (M : fm_Mem) (w : fm_W) : ∀ r, f_X4_remove P nP a1 M = some r → fC g l z_X4_remove [.ref P, .int a1] (M, w) (emVw M w r) := fun r hr => fC.of (by decide) rfl o_X4_remove hl (Nat.le_of_ble_eq_true rfl) (t_X4_remove g l hl P nP a1 hP hP1 hP9 M w r hr)
def k_X1_remove : List (Nat × Instr × Nat) := [(0, .iload_n 1, 1), (1, .iload_n 2, 1), (2, .iload_n 3, 1), (3, .invokestatic 38, 3), (6, .istore 4, 2), (8, .aload_n 0, 1), (9, .iload 4, 2), (11, .invokevirtual 42, 3), (14, .istore 5, 2), (16, .iload 5, 2), (18, .aload_n 0, 1), (19, .getfield 23, 3), (22, .if_icmp .ge 57, 3), (25, .aload_n 0, 1), (26, .getfield 14, 3), (29, .iload 5, 2), (31, .invokevirtual 27, 3), (34, .iload 4, 2), (36, .if_icmp .ne 43, 3), (39, .aload_n 0, 1), (40, .getfield 14, 3), (43, .iload 5, 2), (45, .invokevirtual 52, 3), (48, .aload_n 0, 1), (49, .dup, 1), (50, .getfield 23, 3), (53, .iconst 1, 1), (54, .isub, 1), (55, .putfield 23, 3), (58, .aload_n 0, 1), (59, .iload_n 1, 1), (60, .iload_n 2, 1), (61, .iload_n 3, 1), (62, .invokevirtual 49, 3), (65, .aload_n 0, 1), (66, .iload_n 2, 1), (67, .iload_n 3, 1), (68, .iload_n 1, 1), (69, .invokevirtual 49, 3), (72, .aload_n 0, 1), (73, .iload_n 3, 1), (74, .iload_n 1, 1), (75, .iload_n 2, 1), (76, .invokevirtual 49, 3), (79, .return_, 1)]
def z_X1_remove : fm_Y := (yX1_remove, RX1, cX1_remove, 6, none, k_X1_remove, 2, 46)
theorem o_X1_remove : fm_dec z_X1_remove := (by decide +kernel : ∀ q ∈ k_X1_remove, decode cX1_remove q.1 = .ok q.2)
theorem cw_X1_remove : fm_cwV z_X1_remove := ⟨⟨lw_in 815 (by decide +kernel) (by decide +kernel), lw_in 97 (by decide +kernel) (by decide +kernel), by decide, by decide⟩, lw_in 813 (by decide +kernel) (by decide +kernel), lw_in 814 (by decide +kernel) (by decide +kernel)⟩
theorem pn_X1_remove : (parseMethodDescriptor z_X1_remove.1.desc).map (fun d => d.parameters.length) = some 3 := by decide +kernel
def f_X1_remove_79 (P : Nat) (a1 : Int32) (a2 : Int32) (a3 : Int32)  (M : fm_Mem) : Option (fm_Mem) := some (M)
set_option maxRecDepth 100000 in
set_option maxHeartbeats 4000000 in
theorem t_X1_remove_79 (g : fm_G) (l : Launch) (hl : l.stackTraces = false) (P : Nat) (a1 : Int32) (a2 : Int32) (a3 : Int32) (hP : fm_kd g P = 1) (w : fm_W) (M0 : fm_Mem)    (M : fm_Mem) : Tt g l z_X1_remove (emVw M0 w) (f_X1_remove_79 P a1 a2 a3   M) 79 [] [] (M, w) := by
  rw [f_X1_remove_79]
  exact Tt.ret (Tr.vret rfl rfl)
def f_X1_remove (P : Nat) (a1 : Int32) (a2 : Int32) (a3 : Int32) (M : fm_Mem) : Option (fm_Mem) := Option.bind (f_X1_codeOf a1 a2 a3 M) (fun v1 => Option.bind (f_X1_placeOf P v1 M) (fun v2 => if (M P 2) ≤ v2 then (f_X1_remove_79 P a1 a2 a3 M) else (Option.bind (f_X4_get (P + 1) 35 v2 M) (fun v3 => if v3 = v1 then (Option.bind (f_X4_remove (P + 1) 35 v2 M) (fun v4 => Option.bind (f_X1_changeEdge P a1 a2 a3 (fm_up v4 P 2 ((v4 P 2) - (1 : Int32)))) (fun v5 => Option.bind (f_X1_changeEdge P a2 a3 a1 v5) (fun v6 => Option.bind (f_X1_changeEdge P a3 a1 a2 v6) (fun v7 => (f_X1_remove_79 P a1 a2 a3 v7)))))) else (f_X1_remove_79 P a1 a2 a3 M)))))
set_option maxRecDepth 100000 in
set_option maxHeartbeats 4000000 in
theorem t_X1_remove (g : fm_G) (l : Launch) (hl : l.stackTraces = false) (P : Nat) (a1 : Int32) (a2 : Int32) (a3 : Int32) (hP : fm_kd g P = 1) (M : fm_Mem) (w : fm_W) : Tt g l z_X1_remove (emVw M w) (f_X1_remove P a1 a2 a3 M) 0 [(0, .ref P), (1, .int a1), (2, .int a2), (3, .int a3)] [] (M, w) := by
  rw [f_X1_remove]
  refine Tt.go (fun _ => Tr.run 3 (pc' := 3) (lv' := [(0, .ref P), (1, .int a1), (2, .int a2), (3, .int a3)]) (st' := [.int a3, .int a2, .int a1]) rfl) ?_
  refine Tt.callS (As := [.int a1, .int a2, .int a3]) (rest := []) (c_X1_codeOf g l hl a1 a2 a3 M w) rfl cw_X1_codeOf fw782 pn_X1_codeOf (Nat.le_of_ble_eq_true rfl) (Nat.le_of_ble_eq_true rfl) (Nat.le_of_ble_eq_true rfl) rfl (fun v1 => (?_ : Tt g l z_X1_remove (emVw M w) _ 6 [(0, .ref P), (1, .int a1), (2, .int a2), (3, .int a3)] [.int v1] (M, w)))
  refine Tt.go (fun _ => Tr.run 3 (pc' := 11) (lv' := [(4, .int v1), (0, .ref P), (1, .int a1), (2, .int a2), (3, .int a3)]) (st' := [.int v1, .ref P]) rfl) ?_
  refine Tt.callV (As := [.int v1]) (rest := []) (c_X1_placeOf g l hl P v1 hP M w) hP (by decide) rfl rfl cw_X1_placeOf fw785 pn_X1_placeOf (Nat.le_of_ble_eq_true rfl) (Nat.le_of_ble_eq_true rfl) (Nat.le_of_ble_eq_true rfl) rfl (fun v2 => (?_ : Tt g l z_X1_remove (emVw M w) _ 14 [(4, .int v1), (0, .ref P), (1, .int a1), (2, .int a2), (3, .int a3)] [.int v2] (M, w)))
  refine Tt.go (fun _ => Tr.run 3 (pc' := 19) (lv' := [(5, .int v2), (4, .int v1), (0, .ref P), (1, .int a1), (2, .int a2), (3, .int a3)]) (st' := [.ref P, .int v2]) rfl) ?_
  refine Tt.go (fun _ => Tr.get fmc1 hP rfl fw177 (k := 2) (by decide) rfl) (?_ : Tt g l z_X1_remove (emVw M w) _ 22 [(5, .int v2), (4, .int v1), (0, .ref P), (1, .int a1), (2, .int a2), (3, .int a3)] [.int (M P 2), .int v2] (M, w))
  refine Tt.ic_ge (tgt := 79) rfl (by decide) ?_ ?_
  · refine Tt.go (fun _ => Tr.sub (lv' := []) [] rfl) ?_
    exact t_X1_remove_79 g l hl P a1 a2 a3 hP w M M
  · refine Tt.go (fun _ => Tr.run 1 (pc' := 26) (lv' := [(5, .int v2), (4, .int v1), (0, .ref P), (1, .int a1), (2, .int a2), (3, .int a3)]) (st' := [.ref P]) rfl) ?_
    refine Tt.go (fun _ => Tr.get fmc1 hP rfl fw175 (k := 0) (by decide) rfl) (?_ : Tt g l z_X1_remove (emVw M w) _ 29 [(5, .int v2), (4, .int v1), (0, .ref P), (1, .int a1), (2, .int a2), (3, .int a3)] [.ref (P + 1)] (M, w))
    refine Tt.go (fun _ => Tr.run 1 (pc' := 31) (lv' := [(5, .int v2), (4, .int v1), (0, .ref P), (1, .int a1), (2, .int a2), (3, .int a3)]) (st' := [.int v2, .ref (P + 1)]) rfl) ?_
    refine Tt.callV (As := [.int v2]) (rest := []) (c_X4_get g l hl (P + 1) 35 v2 (fmk_1_0 hP) (fmn_1_0 hP) (by decide) M w) (fmk_1_0 hP) (by decide) rfl rfl cw_X4_get fw321 pn_X4_get (Nat.le_of_ble_eq_true rfl) (Nat.le_of_ble_eq_true rfl) (Nat.le_of_ble_eq_true rfl) rfl (fun v3 => (?_ : Tt g l z_X1_remove (emVw M w) _ 34 [(5, .int v2), (4, .int v1), (0, .ref P), (1, .int a1), (2, .int a2), (3, .int a3)] [.int v3] (M, w)))
    refine Tt.go (fun _ => Tr.run 1 (pc' := 36) (lv' := [(5, .int v2), (4, .int v1), (0, .ref P), (1, .int a1), (2, .int a2), (3, .int a3)]) (st' := [.int v1, .int v3]) rfl) ?_
    refine Tt.ic_ne (tgt := 79) rfl (by decide) ?_ ?_
    · refine Tt.go (fun _ => Tr.run 1 (pc' := 40) (lv' := [(5, .int v2), (4, .int v1), (0, .ref P), (1, .int a1), (2, .int a2), (3, .int a3)]) (st' := [.ref P]) rfl) ?_
      refine Tt.go (fun _ => Tr.get fmc1 hP rfl fw175 (k := 0) (by decide) rfl) (?_ : Tt g l z_X1_remove (emVw M w) _ 43 [(5, .int v2), (4, .int v1), (0, .ref P), (1, .int a1), (2, .int a2), (3, .int a3)] [.ref (P + 1)] (M, w))
      refine Tt.go (fun _ => Tr.run 1 (pc' := 45) (lv' := [(5, .int v2), (4, .int v1), (0, .ref P), (1, .int a1), (2, .int a2), (3, .int a3)]) (st' := [.int v2, .ref (P + 1)]) rfl) ?_
      refine Tt.callV (As := [.int v2]) (rest := []) (c_X4_remove g l hl (P + 1) 35 v2 (fmk_1_0 hP) (fmn_1_0 hP) (by decide) M w) (fmk_1_0 hP) (by decide) rfl rfl cw_X4_remove fw816 pn_X4_remove (Nat.le_of_ble_eq_true rfl) (Nat.le_of_ble_eq_true rfl) (Nat.le_of_ble_eq_true rfl) rfl (fun v4 => (?_ : Tt g l z_X1_remove (emVw M w) _ 48 [(5, .int v2), (4, .int v1), (0, .ref P), (1, .int a1), (2, .int a2), (3, .int a3)] [] (v4, w)))
      refine Tt.go (fun _ => Tr.run 2 (pc' := 50) (lv' := [(5, .int v2), (4, .int v1), (0, .ref P), (1, .int a1), (2, .int a2), (3, .int a3)]) (st' := [.ref P, .ref P]) rfl) ?_
      refine Tt.go (fun _ => Tr.get fmc1 hP rfl fw177 (k := 2) (by decide) rfl) (?_ : Tt g l z_X1_remove (emVw M w) _ 53 [(5, .int v2), (4, .int v1), (0, .ref P), (1, .int a1), (2, .int a2), (3, .int a3)] [.int (v4 P 2), .ref P] (v4, w))
      refine Tt.go (fun _ => Tr.run 2 (pc' := 55) (lv' := [(5, .int v2), (4, .int v1), (0, .ref P), (1, .int a1), (2, .int a2), (3, .int a3)]) (st' := [.int ((v4 P 2) - (1 : Int32)), .ref P]) rfl) ?_
      refine Tt.go (fun _ => Tr.put fmc1 hP rfl fw177 (k := 2) (by decide) rfl rfl ⟨rfl, rfl⟩) (?_ : Tt g l z_X1_remove (emVw M w) _ 58 [(5, .int v2), (4, .int v1), (0, .ref P), (1, .int a1), (2, .int a2), (3, .int a3)] [] ((fm_up v4 P 2 ((v4 P 2) - (1 : Int32))), w))
      refine Tt.go (fun _ => Tr.run 4 (pc' := 62) (lv' := [(5, .int v2), (4, .int v1), (0, .ref P), (1, .int a1), (2, .int a2), (3, .int a3)]) (st' := [.int a3, .int a2, .int a1, .ref P]) rfl) ?_
      refine Tt.callV (As := [.int a1, .int a2, .int a3]) (rest := []) (c_X1_changeEdge g l hl P a1 a2 a3 hP (fm_up v4 P 2 ((v4 P 2) - (1 : Int32))) w) hP (by decide) rfl rfl cw_X1_changeEdge fw795 pn_X1_changeEdge (Nat.le_of_ble_eq_true rfl) (Nat.le_of_ble_eq_true rfl) (Nat.le_of_ble_eq_true rfl) rfl (fun v5 => (?_ : Tt g l z_X1_remove (emVw M w) _ 65 [(5, .int v2), (4, .int v1), (0, .ref P), (1, .int a1), (2, .int a2), (3, .int a3)] [] (v5, w)))
      refine Tt.go (fun _ => Tr.run 4 (pc' := 69) (lv' := [(5, .int v2), (4, .int v1), (0, .ref P), (1, .int a1), (2, .int a2), (3, .int a3)]) (st' := [.int a1, .int a3, .int a2, .ref P]) rfl) ?_
      refine Tt.callV (As := [.int a2, .int a3, .int a1]) (rest := []) (c_X1_changeEdge g l hl P a2 a3 a1 hP v5 w) hP (by decide) rfl rfl cw_X1_changeEdge fw795 pn_X1_changeEdge (Nat.le_of_ble_eq_true rfl) (Nat.le_of_ble_eq_true rfl) (Nat.le_of_ble_eq_true rfl) rfl (fun v6 => (?_ : Tt g l z_X1_remove (emVw M w) _ 72 [(5, .int v2), (4, .int v1), (0, .ref P), (1, .int a1), (2, .int a2), (3, .int a3)] [] (v6, w)))
      refine Tt.go (fun _ => Tr.run 4 (pc' := 76) (lv' := [(5, .int v2), (4, .int v1), (0, .ref P), (1, .int a1), (2, .int a2), (3, .int a3)]) (st' := [.int a2, .int a1, .int a3, .ref P]) rfl) ?_
      refine Tt.callV (As := [.int a3, .int a1, .int a2]) (rest := []) (c_X1_changeEdge g l hl P a3 a1 a2 hP v6 w) hP (by decide) rfl rfl cw_X1_changeEdge fw795 pn_X1_changeEdge (Nat.le_of_ble_eq_true rfl) (Nat.le_of_ble_eq_true rfl) (Nat.le_of_ble_eq_true rfl) rfl (fun v7 => (?_ : Tt g l z_X1_remove (emVw M w) _ 79 [(5, .int v2), (4, .int v1), (0, .ref P), (1, .int a1), (2, .int a2), (3, .int a3)] [] (v7, w)))
      refine Tt.go (fun _ => Tr.sub (lv' := []) [] rfl) ?_
      exact t_X1_remove_79 g l hl P a1 a2 a3 hP w M v7
    · refine Tt.go (fun _ => Tr.sub (lv' := []) [] rfl) ?_
      exact t_X1_remove_79 g l hl P a1 a2 a3 hP w M M
theorem c_X1_remove (g : fm_G) (l : Launch) (hl : l.stackTraces = false) (P : Nat) (a1 : Int32) (a2 : Int32) (a3 : Int32) (hP : fm_kd g P = 1) (M : fm_Mem) (w : fm_W) : ∀ r, f_X1_remove P a1 a2 a3 M = some r → fC g l z_X1_remove [.ref P, .int a1, .int a2, .int a3] (M, w) (emVw M w r) := fun r hr => fC.of (by decide) rfl o_X1_remove hl (Nat.le_of_ble_eq_true rfl) (t_X1_remove g l hl P a1 a2 a3 hP M w r hr)
def k_X1_holds : List (Nat × Instr × Nat) := [(0, .aload_n 0, 1), (1, .iload_n 1, 1), (2, .invokevirtual 42, 3), (5, .istore_n 2, 1), (6, .iload_n 2, 1), (7, .aload_n 0, 1), (8, .getfield 23, 3), (11, .if_icmp .ge 19, 3), (14, .aload_n 0, 1), (15, .getfield 14, 3), (18, .iload_n 2, 1), (19, .invokevirtual 27, 3), (22, .iload_n 1, 1), (23, .if_icmp .ne 7, 3), (26, .iconst 1, 1), (27, .goto 4, 3), (30, .iconst 0, 1), (31, .ireturn, 1)]
def z_X1_holds : fm_Y := (yX1_holds, RX1, cX1_holds, 3, (some .boolean), k_X1_holds, 2, 43)
theorem o_X1_holds : fm_dec z_X1_holds := (by decide +kernel : ∀ q ∈ k_X1_holds, decode cX1_holds q.1 = .ok q.2)
theorem cw_X1_holds : fm_cwV z_X1_holds := ⟨⟨lw_in 1002 (by decide +kernel) (by decide +kernel), lw_in 97 (by decide +kernel) (by decide +kernel), by decide, by decide⟩, lw_in 1001 (by decide +kernel) (by decide +kernel), lw_in 27 (by decide +kernel) (by decide +kernel)⟩
theorem pn_X1_holds : (parseMethodDescriptor z_X1_holds.1.desc).map (fun d => d.parameters.length) = some 1 := by decide +kernel
def f_X1_holds_31 (P : Nat) (a1 : Int32) (s0 : Int32) (M : fm_Mem) : Option (Int32) := fm_ck (fm_bo s0) (some (s0))
set_option maxRecDepth 100000 in
set_option maxHeartbeats 4000000 in
theorem t_X1_holds_31 (g : fm_G) (l : Launch) (hl : l.stackTraces = false) (P : Nat) (a1 : Int32) (hP : fm_kd g P = 1) (w : fm_W)  (s0 : Int32)  (M : fm_Mem) : Tt g l z_X1_holds (emI M w) (f_X1_holds_31 P a1  s0 M) 31 [] [.int s0] (M, w) := by
  rw [f_X1_holds_31]
  exact Tt.ck (fun hb_1 => Tt.ret (Tr.zret rfl rfl hb_1))
def f_X1_holds_30 (P : Nat) (a1 : Int32)  (M : fm_Mem) : Option (Int32) := (f_X1_holds_31 P a1 (0 : Int32) M)
set_option maxRecDepth 100000 in
set_option maxHeartbeats 4000000 in
theorem t_X1_holds_30 (g : fm_G) (l : Launch) (hl : l.stackTraces = false) (P : Nat) (a1 : Int32) (hP : fm_kd g P = 1) (w : fm_W)    (M : fm_Mem) : Tt g l z_X1_holds (emI M w) (f_X1_holds_30 P a1   M) 30 [] [] (M, w) := by
  rw [f_X1_holds_30]
  refine Tt.go (fun _ => Tr.run 1 (pc' := 31) (lv' := []) (st' := [.int (0 : Int32)]) rfl) ?_
  exact t_X1_holds_31 g l hl P a1 hP w (0 : Int32) M
def f_X1_holds (P : Nat) (a1 : Int32) (M : fm_Mem) : Option (Int32) := Option.bind (f_X1_placeOf P a1 M) (fun v1 => if (M P 2) ≤ v1 then (f_X1_holds_30 P a1 M) else (Option.bind (f_X4_get (P + 1) 35 v1 M) (fun v2 => if v2 = a1 then (f_X1_holds_31 P a1 (1 : Int32) M) else (f_X1_holds_30 P a1 M))))
set_option maxRecDepth 100000 in
set_option maxHeartbeats 4000000 in
theorem t_X1_holds (g : fm_G) (l : Launch) (hl : l.stackTraces = false) (P : Nat) (a1 : Int32) (hP : fm_kd g P = 1) (M : fm_Mem) (w : fm_W) : Tt g l z_X1_holds (emI M w) (f_X1_holds P a1 M) 0 [(0, .ref P), (1, .int a1)] [] (M, w) := by
  rw [f_X1_holds]
  refine Tt.go (fun _ => Tr.run 2 (pc' := 2) (lv' := [(0, .ref P), (1, .int a1)]) (st' := [.int a1, .ref P]) rfl) ?_
  refine Tt.callV (As := [.int a1]) (rest := []) (c_X1_placeOf g l hl P a1 hP M w) hP (by decide) rfl rfl cw_X1_placeOf fw785 pn_X1_placeOf (Nat.le_of_ble_eq_true rfl) (Nat.le_of_ble_eq_true rfl) (Nat.le_of_ble_eq_true rfl) rfl (fun v1 => (?_ : Tt g l z_X1_holds (emI M w) _ 5 [(0, .ref P), (1, .int a1)] [.int v1] (M, w)))
  refine Tt.go (fun _ => Tr.run 3 (pc' := 8) (lv' := [(2, .int v1), (0, .ref P), (1, .int a1)]) (st' := [.ref P, .int v1]) rfl) ?_
  refine Tt.go (fun _ => Tr.get fmc1 hP rfl fw177 (k := 2) (by decide) rfl) (?_ : Tt g l z_X1_holds (emI M w) _ 11 [(2, .int v1), (0, .ref P), (1, .int a1)] [.int (M P 2), .int v1] (M, w))
  refine Tt.ic_ge (tgt := 30) rfl (by decide) ?_ ?_
  · refine Tt.go (fun _ => Tr.sub (lv' := []) [] rfl) ?_
    exact t_X1_holds_30 g l hl P a1 hP w M
  · refine Tt.go (fun _ => Tr.run 1 (pc' := 15) (lv' := [(2, .int v1), (0, .ref P), (1, .int a1)]) (st' := [.ref P]) rfl) ?_
    refine Tt.go (fun _ => Tr.get fmc1 hP rfl fw175 (k := 0) (by decide) rfl) (?_ : Tt g l z_X1_holds (emI M w) _ 18 [(2, .int v1), (0, .ref P), (1, .int a1)] [.ref (P + 1)] (M, w))
    refine Tt.go (fun _ => Tr.run 1 (pc' := 19) (lv' := [(2, .int v1), (0, .ref P), (1, .int a1)]) (st' := [.int v1, .ref (P + 1)]) rfl) ?_
    refine Tt.callV (As := [.int v1]) (rest := []) (c_X4_get g l hl (P + 1) 35 v1 (fmk_1_0 hP) (fmn_1_0 hP) (by decide) M w) (fmk_1_0 hP) (by decide) rfl rfl cw_X4_get fw321 pn_X4_get (Nat.le_of_ble_eq_true rfl) (Nat.le_of_ble_eq_true rfl) (Nat.le_of_ble_eq_true rfl) rfl (fun v2 => (?_ : Tt g l z_X1_holds (emI M w) _ 22 [(2, .int v1), (0, .ref P), (1, .int a1)] [.int v2] (M, w)))
    refine Tt.go (fun _ => Tr.run 1 (pc' := 23) (lv' := [(2, .int v1), (0, .ref P), (1, .int a1)]) (st' := [.int a1, .int v2]) rfl) ?_
    refine Tt.ic_ne (tgt := 30) rfl (by decide) ?_ ?_
    · refine Tt.go (fun _ => Tr.run 2 (pc' := 31) (lv' := [(2, .int v1), (0, .ref P), (1, .int a1)]) (st' := [.int (1 : Int32)]) rfl) ?_
      refine Tt.go (fun _ => Tr.sub (lv' := []) [] rfl) ?_
      exact t_X1_holds_31 g l hl P a1 hP w (1 : Int32) M
    · refine Tt.go (fun _ => Tr.sub (lv' := []) [] rfl) ?_
      exact t_X1_holds_30 g l hl P a1 hP w M
theorem c_X1_holds (g : fm_G) (l : Launch) (hl : l.stackTraces = false) (P : Nat) (a1 : Int32) (hP : fm_kd g P = 1) (M : fm_Mem) (w : fm_W) : ∀ r, f_X1_holds P a1 M = some r → fC g l z_X1_holds [.ref P, .int a1] (M, w) (emI M w r) := fun r hr => fC.of (by decide) rfl o_X1_holds hl (Nat.le_of_ble_eq_true rfl) (t_X1_holds g l hl P a1 hP M w r hr)
def k_X1_thirdsOf : List (Nat × Instr × Nat) := [(0, .aload_n 0, 1), (1, .getfield 20, 3), (4, .iload_n 1, 1), (5, .iload_n 2, 1), (6, .invokestatic 55, 3), (9, .bipush 20, 2), (11, .imul, 1), (12, .iload_n 1, 1), (13, .iload_n 2, 1), (14, .invokestatic 61, 3), (17, .iadd, 1), (18, .invokevirtual 27, 3), (21, .ireturn, 1)]
def z_X1_thirdsOf : fm_Y := (yX1_thirdsOf, RX1, cX1_thirdsOf, 3, (some .int), k_X1_thirdsOf, 1, 21)
theorem o_X1_thirdsOf : fm_dec z_X1_thirdsOf := (by decide +kernel : ∀ q ∈ k_X1_thirdsOf, decode cX1_thirdsOf q.1 = .ok q.2)
theorem cw_X1_thirdsOf : fm_cwV z_X1_thirdsOf := ⟨⟨lw_in 535 (by decide +kernel) (by decide +kernel), lw_in 97 (by decide +kernel) (by decide +kernel), by decide, by decide⟩, lw_in 533 (by decide +kernel) (by decide +kernel), lw_in 534 (by decide +kernel) (by decide +kernel)⟩
theorem pn_X1_thirdsOf : (parseMethodDescriptor z_X1_thirdsOf.1.desc).map (fun d => d.parameters.length) = some 2 := by decide +kernel
def f_X1_thirdsOf (P : Nat) (a1 : Int32) (a2 : Int32) (M : fm_Mem) : Option (Int32) := Option.bind (f_X4_get (P + 3) 400 (((fm_min a1 a2) * (20 : Int32)) + (fm_max a1 a2)) M) (fun v1 => some (v1))
set_option maxRecDepth 100000 in
set_option maxHeartbeats 4000000 in
theorem t_X1_thirdsOf (g : fm_G) (l : Launch) (hl : l.stackTraces = false) (P : Nat) (a1 : Int32) (a2 : Int32) (hP : fm_kd g P = 1) (M : fm_Mem) (w : fm_W) : Tt g l z_X1_thirdsOf (emI M w) (f_X1_thirdsOf P a1 a2 M) 0 [(0, .ref P), (1, .int a1), (2, .int a2)] [] (M, w) := by
  rw [f_X1_thirdsOf]
  refine Tt.go (fun _ => Tr.run 1 (pc' := 1) (lv' := [(0, .ref P), (1, .int a1), (2, .int a2)]) (st' := [.ref P]) rfl) ?_
  refine Tt.go (fun _ => Tr.get fmc1 hP rfl fw176 (k := 1) (by decide) rfl) (?_ : Tt g l z_X1_thirdsOf (emI M w) _ 4 [(0, .ref P), (1, .int a1), (2, .int a2)] [.ref (P + 3)] (M, w))
  refine Tt.go (fun _ => Tr.run 2 (pc' := 6) (lv' := [(0, .ref P), (1, .int a1), (2, .int a2)]) (st' := [.int a2, .int a1, .ref (P + 3)]) rfl) ?_
  refine Tt.go (fun _ => Tr.min rfl ⟨fw536, fw410, fw94, fw411⟩ (Nat.le_of_ble_eq_true rfl) (Nat.le_of_ble_eq_true rfl)) (?_ : Tt g l z_X1_thirdsOf (emI M w) _ 9 [(0, .ref P), (1, .int a1), (2, .int a2)] [.int (fm_min a1 a2), .ref (P + 3)] (M, w))
  refine Tt.go (fun _ => Tr.run 4 (pc' := 14) (lv' := [(0, .ref P), (1, .int a1), (2, .int a2)]) (st' := [.int a2, .int a1, .int ((fm_min a1 a2) * (20 : Int32)), .ref (P + 3)]) rfl) ?_
  refine Tt.go (fun _ => Tr.max rfl ⟨fw537, fw136, fw94, fw137⟩ (Nat.le_of_ble_eq_true rfl) (Nat.le_of_ble_eq_true rfl)) (?_ : Tt g l z_X1_thirdsOf (emI M w) _ 17 [(0, .ref P), (1, .int a1), (2, .int a2)] [.int (fm_max a1 a2), .int ((fm_min a1 a2) * (20 : Int32)), .ref (P + 3)] (M, w))
  refine Tt.go (fun _ => Tr.run 1 (pc' := 18) (lv' := [(0, .ref P), (1, .int a1), (2, .int a2)]) (st' := [.int (((fm_min a1 a2) * (20 : Int32)) + (fm_max a1 a2)), .ref (P + 3)]) rfl) ?_
  refine Tt.callV (As := [.int (((fm_min a1 a2) * (20 : Int32)) + (fm_max a1 a2))]) (rest := []) (c_X4_get g l hl (P + 3) 400 (((fm_min a1 a2) * (20 : Int32)) + (fm_max a1 a2)) (fmk_1_1 hP) (fmn_1_1 hP) (by decide) M w) (fmk_1_1 hP) (by decide) rfl rfl cw_X4_get fw321 pn_X4_get (Nat.le_of_ble_eq_true rfl) (Nat.le_of_ble_eq_true rfl) (Nat.le_of_ble_eq_true rfl) rfl (fun v1 => (?_ : Tt g l z_X1_thirdsOf (emI M w) _ 21 [(0, .ref P), (1, .int a1), (2, .int a2)] [.int v1] (M, w)))
  exact Tt.ret (Tr.iret rfl rfl)
theorem c_X1_thirdsOf (g : fm_G) (l : Launch) (hl : l.stackTraces = false) (P : Nat) (a1 : Int32) (a2 : Int32) (hP : fm_kd g P = 1) (M : fm_Mem) (w : fm_W) : ∀ r, f_X1_thirdsOf P a1 a2 M = some r → fC g l z_X1_thirdsOf [.ref P, .int a1, .int a2] (M, w) (emI M w r) := fun r hr => fC.of (by decide) rfl o_X1_thirdsOf hl (Nat.le_of_ble_eq_true rfl) (t_X1_thirdsOf g l hl P a1 a2 hP M w r hr)
def k_X1_joined : List (Nat × Instr × Nat) := [(0, .iconst 0, 1), (1, .istore_n 2, 1), (2, .iconst 0, 1), (3, .istore_n 3, 1), (4, .iload_n 3, 1), (5, .bipush 20, 2), (7, .if_icmp .ge 24, 3), (10, .aload_n 0, 1), (11, .iload_n 1, 1), (12, .iload_n 3, 1), (13, .invokevirtual 68, 3), (16, .ifCond .eq 9, 3), (19, .iload_n 2, 1), (20, .iconst 1, 1), (21, .iload_n 3, 1), (22, .ishl, 1), (23, .ior, 1), (24, .istore_n 2, 1), (25, .iinc 3 1, 3), (28, .goto (-24), 3), (31, .iload_n 2, 1), (32, .ireturn, 1)]
def z_X1_joined : fm_Y := (yX1_joined, RX1, cX1_joined, 4, (some .int), k_X1_joined, 2, 43)
theorem o_X1_joined : fm_dec z_X1_joined := (by decide +kernel : ∀ q ∈ k_X1_joined, decode cX1_joined q.1 = .ok q.2)
theorem cw_X1_joined : fm_cwV z_X1_joined := ⟨⟨lw_in 589 (by decide +kernel) (by decide +kernel), lw_in 97 (by decide +kernel) (by decide +kernel), by decide, by decide⟩, lw_in 587 (by decide +kernel) (by decide +kernel), lw_in 588 (by decide +kernel) (by decide +kernel)⟩
theorem pn_X1_joined : (parseMethodDescriptor z_X1_joined.1.desc).map (fun d => d.parameters.length) = some 1 := by decide +kernel
def f_X1_joined_25 (P : Nat) (a1 : Int32) (k4 : Int32 → Int32 → fm_Mem → Option (Int32)) (x2 : Int32) (x3 : Int32) (M : fm_Mem) : Option (Int32) := (k4 x2 (x3 + (1 : Int32)) M)
set_option maxRecDepth 100000 in
set_option maxHeartbeats 4000000 in
theorem t_X1_joined_25 (g : fm_G) (l : Launch) (hl : l.stackTraces = false) (P : Nat) (a1 : Int32) (hP : fm_kd g P = 1) (w : fm_W) (k4 : Int32 → Int32 → fm_Mem → Option (Int32)) (hk4 : ∀ (x2 : Int32) (x3 : Int32) (M : fm_Mem), Tt g l z_X1_joined (emI M w) (k4 x2 x3 M) 4 [(0, .ref P), (1, .int a1), (2, .int x2), (3, .int x3)] [] (M, w)) (x2 : Int32) (x3 : Int32)  (M : fm_Mem) : Tt g l z_X1_joined (emI M w) (f_X1_joined_25 P a1 k4 x2 x3 M) 25 [(0, .ref P), (1, .int a1), (2, .int x2), (3, .int x3)] [] (M, w) := by
  rw [f_X1_joined_25]
  refine Tt.go (fun _ => Tr.run 2 (pc' := 4) (lv' := [(3, .int (x3 + (1 : Int32))), (0, .ref P), (1, .int a1), (2, .int x2)]) (st' := []) rfl) ?_
  refine Tt.go (fun _ => Tr.sub (lv' := [(0, .ref P), (1, .int a1), (2, .int x2), (3, .int (x3 + (1 : Int32)))]) [1, 2, 3, 0] rfl) ?_
  exact hk4 x2 (x3 + (1 : Int32)) M
def f_X1_joined_4 (P : Nat) (a1 : Int32) : Nat → Int32 → Int32 → fm_Mem → Option (Int32)
  | 0, _, _, _ => none
  | n + 1, x2, x3, M => if (20 : Int32) ≤ x3 then (some (x2)) else (Option.bind (f_X1_thirdsOf P a1 x3 M) (fun v1 => if v1 = 0 then (f_X1_joined_25 P a1 (fun x2 x3 M => f_X1_joined_4 P a1 n x2 x3 M) x2 x3 M) else (f_X1_joined_25 P a1 (fun x2 x3 M => f_X1_joined_4 P a1 n x2 x3 M) (x2 ||| ((1 : Int32) <<< (x3 &&& 31))) x3 M)))
set_option maxRecDepth 100000 in
set_option maxHeartbeats 4000000 in
theorem t_X1_joined_4 (g : fm_G) (l : Launch) (hl : l.stackTraces = false) (P : Nat) (a1 : Int32) (hP : fm_kd g P = 1) (w : fm_W)  : ∀ (n : Nat) (x2 : Int32) (x3 : Int32)  (M : fm_Mem), Tt g l z_X1_joined (emI M w) (f_X1_joined_4 P a1  n x2 x3 M) 4 [(0, .ref P), (1, .int a1), (2, .int x2), (3, .int x3)] [] (M, w) := by
  intro n
  induction n with
  | zero => intros; exact Tt.none
  | succ n ih =>
    intro x2 x3  M
    rw [f_X1_joined_4]
    refine Tt.go (fun _ => Tr.run 2 (pc' := 7) (lv' := [(0, .ref P), (1, .int a1), (2, .int x2), (3, .int x3)]) (st' := [.int (20 : Int32), .int x3]) rfl) ?_
    refine Tt.ic_ge (tgt := 31) rfl (by decide) ?_ ?_
    · refine Tt.go (fun _ => Tr.run 1 (pc' := 32) (lv' := [(0, .ref P), (1, .int a1), (2, .int x2), (3, .int x3)]) (st' := [.int x2]) rfl) ?_
      exact Tt.ret (Tr.iret rfl rfl)
    · refine Tt.go (fun _ => Tr.run 3 (pc' := 13) (lv' := [(0, .ref P), (1, .int a1), (2, .int x2), (3, .int x3)]) (st' := [.int x3, .int a1, .ref P]) rfl) ?_
      refine Tt.callV (As := [.int a1, .int x3]) (rest := []) (c_X1_thirdsOf g l hl P a1 x3 hP M w) hP (by decide) rfl rfl cw_X1_thirdsOf fw590 pn_X1_thirdsOf (Nat.le_of_ble_eq_true rfl) (Nat.le_of_ble_eq_true rfl) (Nat.le_of_ble_eq_true rfl) rfl (fun v1 => (?_ : Tt g l z_X1_joined (emI M w) _ 16 [(0, .ref P), (1, .int a1), (2, .int x2), (3, .int x3)] [.int v1] (M, w)))
      refine Tt.if_eq (tgt := 25) rfl (by decide) ?_ ?_
      · exact t_X1_joined_25 g l hl P a1 hP w _ ih x2 x3 M
      · refine Tt.go (fun _ => Tr.run 6 (pc' := 25) (lv' := [(2, .int (x2 ||| ((1 : Int32) <<< (x3 &&& 31)))), (0, .ref P), (1, .int a1), (3, .int x3)]) (st' := []) rfl) ?_
        refine Tt.go (fun _ => Tr.sub (lv' := [(0, .ref P), (1, .int a1), (2, .int (x2 ||| ((1 : Int32) <<< (x3 &&& 31)))), (3, .int x3)]) [1, 2, 0, 3] rfl) ?_
        exact t_X1_joined_25 g l hl P a1 hP w _ ih (x2 ||| ((1 : Int32) <<< (x3 &&& 31))) x3 M
def f_X1_joined (P : Nat) (a1 : Int32) (M : fm_Mem) : Option (Int32) := (f_X1_joined_4 P a1 fm_fuel (0 : Int32) (0 : Int32) M)
set_option maxRecDepth 100000 in
set_option maxHeartbeats 4000000 in
theorem t_X1_joined (g : fm_G) (l : Launch) (hl : l.stackTraces = false) (P : Nat) (a1 : Int32) (hP : fm_kd g P = 1) (M : fm_Mem) (w : fm_W) : Tt g l z_X1_joined (emI M w) (f_X1_joined P a1 M) 0 [(0, .ref P), (1, .int a1)] [] (M, w) := by
  rw [f_X1_joined]
  refine Tt.go (fun _ => Tr.run 4 (pc' := 4) (lv' := [(3, .int (0 : Int32)), (2, .int (0 : Int32)), (0, .ref P), (1, .int a1)]) (st' := []) rfl) ?_
  refine Tt.go (fun _ => Tr.sub (lv' := [(0, .ref P), (1, .int a1), (2, .int (0 : Int32)), (3, .int (0 : Int32))]) [2, 3, 1, 0] rfl) ?_
  exact t_X1_joined_4 g l hl P a1 hP w fm_fuel (0 : Int32) (0 : Int32) M
theorem c_X1_joined (g : fm_G) (l : Launch) (hl : l.stackTraces = false) (P : Nat) (a1 : Int32) (hP : fm_kd g P = 1) (M : fm_Mem) (w : fm_W) : ∀ r, f_X1_joined P a1 M = some r → fC g l z_X1_joined [.ref P, .int a1] (M, w) (emI M w r) := fun r hr => fC.of (by decide) rfl o_X1_joined hl (Nat.le_of_ble_eq_true rfl) (t_X1_joined g l hl P a1 hP M w r hr)
def k_J6_bitCount_0f7a4 : List (Nat × Instr × Nat) := [(0, .iload_n 0, 1), (1, .iload_n 0, 1), (2, .iconst 1, 1), (3, .iushr, 1), (4, .ldc_w 265, 3), (7, .iand, 1), (8, .isub, 1), (9, .istore_n 0, 1), (10, .iload_n 0, 1), (11, .ldc_w 266, 3), (14, .iand, 1), (15, .iload_n 0, 1), (16, .iconst 2, 1), (17, .iushr, 1), (18, .ldc_w 266, 3), (21, .iand, 1), (22, .iadd, 1), (23, .istore_n 0, 1), (24, .iload_n 0, 1), (25, .iload_n 0, 1), (26, .iconst 4, 1), (27, .iushr, 1), (28, .iadd, 1), (29, .ldc_w 267, 3), (32, .iand, 1), (33, .istore_n 0, 1), (34, .iload_n 0, 1), (35, .iload_n 0, 1), (36, .bipush 8, 2), (38, .iushr, 1), (39, .iadd, 1), (40, .istore_n 0, 1), (41, .iload_n 0, 1), (42, .iload_n 0, 1), (43, .bipush 16, 2), (45, .iushr, 1), (46, .iadd, 1), (47, .istore_n 0, 1), (48, .iload_n 0, 1), (49, .bipush 63, 2), (51, .iand, 1), (52, .ireturn, 1)]
def z_J6_bitCount_0f7a4 : fm_Y := (yJ6_bitCount_0f7a4, RJ6, cJ6_bitCount_0f7a4, 1, (some .int), k_J6_bitCount_0f7a4, 0, 0)
theorem o_J6_bitCount_0f7a4 : fm_dec z_J6_bitCount_0f7a4 := (by decide +kernel : ∀ q ∈ k_J6_bitCount_0f7a4, decode cJ6_bitCount_0f7a4 q.1 = .ok q.2)
theorem cw_J6_bitCount_0f7a4 : fm_cwS z_J6_bitCount_0f7a4 := ⟨⟨lw_in 382 (by decide +kernel) (by decide +kernel), lw_in 110 (by decide +kernel) (by decide +kernel), by decide, by decide⟩, lw_in 381 (by decide +kernel) (by decide +kernel)⟩
theorem pn_J6_bitCount_0f7a4 : (parseMethodDescriptor z_J6_bitCount_0f7a4.1.desc).map (fun d => d.parameters.length) = some 1 := by decide +kernel
def f_J6_bitCount_0f7a4 (a0 : Int32) (M : fm_Mem) : Option (Int32) := some (((((((((a0 - (((Int32.toUInt32 a0 >>> (Int32.toUInt32 (1 : Int32) &&& Int32.toUInt32 31)).toInt32) &&& (1431655765 : Int32))) &&& (858993459 : Int32)) + (((Int32.toUInt32 (a0 - (((Int32.toUInt32 a0 >>> (Int32.toUInt32 (1 : Int32) &&& Int32.toUInt32 31)).toInt32) &&& (1431655765 : Int32))) >>> (Int32.toUInt32 (2 : Int32) &&& Int32.toUInt32 31)).toInt32) &&& (858993459 : Int32))) + ((Int32.toUInt32 (((a0 - (((Int32.toUInt32 a0 >>> (Int32.toUInt32 (1 : Int32) &&& Int32.toUInt32 31)).toInt32) &&& (1431655765 : Int32))) &&& (858993459 : Int32)) + (((Int32.toUInt32 (a0 - (((Int32.toUInt32 a0 >>> (Int32.toUInt32 (1 : Int32) &&& Int32.toUInt32 31)).toInt32) &&& (1431655765 : Int32))) >>> (Int32.toUInt32 (2 : Int32) &&& Int32.toUInt32 31)).toInt32) &&& (858993459 : Int32))) >>> (Int32.toUInt32 (4 : Int32) &&& Int32.toUInt32 31)).toInt32)) &&& (252645135 : Int32)) + ((Int32.toUInt32 (((((a0 - (((Int32.toUInt32 a0 >>> (Int32.toUInt32 (1 : Int32) &&& Int32.toUInt32 31)).toInt32) &&& (1431655765 : Int32))) &&& (858993459 : Int32)) + (((Int32.toUInt32 (a0 - (((Int32.toUInt32 a0 >>> (Int32.toUInt32 (1 : Int32) &&& Int32.toUInt32 31)).toInt32) &&& (1431655765 : Int32))) >>> (Int32.toUInt32 (2 : Int32) &&& Int32.toUInt32 31)).toInt32) &&& (858993459 : Int32))) + ((Int32.toUInt32 (((a0 - (((Int32.toUInt32 a0 >>> (Int32.toUInt32 (1 : Int32) &&& Int32.toUInt32 31)).toInt32) &&& (1431655765 : Int32))) &&& (858993459 : Int32)) + (((Int32.toUInt32 (a0 - (((Int32.toUInt32 a0 >>> (Int32.toUInt32 (1 : Int32) &&& Int32.toUInt32 31)).toInt32) &&& (1431655765 : Int32))) >>> (Int32.toUInt32 (2 : Int32) &&& Int32.toUInt32 31)).toInt32) &&& (858993459 : Int32))) >>> (Int32.toUInt32 (4 : Int32) &&& Int32.toUInt32 31)).toInt32)) &&& (252645135 : Int32)) >>> (Int32.toUInt32 (8 : Int32) &&& Int32.toUInt32 31)).toInt32)) + ((Int32.toUInt32 ((((((a0 - (((Int32.toUInt32 a0 >>> (Int32.toUInt32 (1 : Int32) &&& Int32.toUInt32 31)).toInt32) &&& (1431655765 : Int32))) &&& (858993459 : Int32)) + (((Int32.toUInt32 (a0 - (((Int32.toUInt32 a0 >>> (Int32.toUInt32 (1 : Int32) &&& Int32.toUInt32 31)).toInt32) &&& (1431655765 : Int32))) >>> (Int32.toUInt32 (2 : Int32) &&& Int32.toUInt32 31)).toInt32) &&& (858993459 : Int32))) + ((Int32.toUInt32 (((a0 - (((Int32.toUInt32 a0 >>> (Int32.toUInt32 (1 : Int32) &&& Int32.toUInt32 31)).toInt32) &&& (1431655765 : Int32))) &&& (858993459 : Int32)) + (((Int32.toUInt32 (a0 - (((Int32.toUInt32 a0 >>> (Int32.toUInt32 (1 : Int32) &&& Int32.toUInt32 31)).toInt32) &&& (1431655765 : Int32))) >>> (Int32.toUInt32 (2 : Int32) &&& Int32.toUInt32 31)).toInt32) &&& (858993459 : Int32))) >>> (Int32.toUInt32 (4 : Int32) &&& Int32.toUInt32 31)).toInt32)) &&& (252645135 : Int32)) + ((Int32.toUInt32 (((((a0 - (((Int32.toUInt32 a0 >>> (Int32.toUInt32 (1 : Int32) &&& Int32.toUInt32 31)).toInt32) &&& (1431655765 : Int32))) &&& (858993459 : Int32)) + (((Int32.toUInt32 (a0 - (((Int32.toUInt32 a0 >>> (Int32.toUInt32 (1 : Int32) &&& Int32.toUInt32 31)).toInt32) &&& (1431655765 : Int32))) >>> (Int32.toUInt32 (2 : Int32) &&& Int32.toUInt32 31)).toInt32) &&& (858993459 : Int32))) + ((Int32.toUInt32 (((a0 - (((Int32.toUInt32 a0 >>> (Int32.toUInt32 (1 : Int32) &&& Int32.toUInt32 31)).toInt32) &&& (1431655765 : Int32))) &&& (858993459 : Int32)) + (((Int32.toUInt32 (a0 - (((Int32.toUInt32 a0 >>> (Int32.toUInt32 (1 : Int32) &&& Int32.toUInt32 31)).toInt32) &&& (1431655765 : Int32))) >>> (Int32.toUInt32 (2 : Int32) &&& Int32.toUInt32 31)).toInt32) &&& (858993459 : Int32))) >>> (Int32.toUInt32 (4 : Int32) &&& Int32.toUInt32 31)).toInt32)) &&& (252645135 : Int32)) >>> (Int32.toUInt32 (8 : Int32) &&& Int32.toUInt32 31)).toInt32)) >>> (Int32.toUInt32 (16 : Int32) &&& Int32.toUInt32 31)).toInt32)) &&& (63 : Int32)))
set_option maxRecDepth 100000 in
set_option maxHeartbeats 4000000 in
theorem t_J6_bitCount_0f7a4 (g : fm_G) (l : Launch) (hl : l.stackTraces = false) (a0 : Int32)  (M : fm_Mem) (w : fm_W) : Tt g l z_J6_bitCount_0f7a4 (emI M w) (f_J6_bitCount_0f7a4 a0 M) 0 [(0, .int a0)] [] (M, w) := by
  rw [f_J6_bitCount_0f7a4]
  refine Tt.go (fun _ => Tr.run 4 (pc' := 4) (lv' := [(0, .int a0)]) (st' := [.int ((Int32.toUInt32 a0 >>> (Int32.toUInt32 (1 : Int32) &&& Int32.toUInt32 31)).toInt32), .int a0]) rfl) ?_
  refine Tt.go (fun _ => Tr.ldcwI rfl fw383) (?_ : Tt g l z_J6_bitCount_0f7a4 (emI M w) _ 7 [(0, .int a0)] [.int (1431655765 : Int32), .int ((Int32.toUInt32 a0 >>> (Int32.toUInt32 (1 : Int32) &&& Int32.toUInt32 31)).toInt32), .int a0] (M, w))
  refine Tt.go (fun _ => Tr.run 4 (pc' := 11) (lv' := [(0, .int (a0 - (((Int32.toUInt32 a0 >>> (Int32.toUInt32 (1 : Int32) &&& Int32.toUInt32 31)).toInt32) &&& (1431655765 : Int32))))]) (st' := [.int (a0 - (((Int32.toUInt32 a0 >>> (Int32.toUInt32 (1 : Int32) &&& Int32.toUInt32 31)).toInt32) &&& (1431655765 : Int32)))]) rfl) ?_
  refine Tt.go (fun _ => Tr.ldcwI rfl fw384) (?_ : Tt g l z_J6_bitCount_0f7a4 (emI M w) _ 14 [(0, .int (a0 - (((Int32.toUInt32 a0 >>> (Int32.toUInt32 (1 : Int32) &&& Int32.toUInt32 31)).toInt32) &&& (1431655765 : Int32))))] [.int (858993459 : Int32), .int (a0 - (((Int32.toUInt32 a0 >>> (Int32.toUInt32 (1 : Int32) &&& Int32.toUInt32 31)).toInt32) &&& (1431655765 : Int32)))] (M, w))
  refine Tt.go (fun _ => Tr.run 4 (pc' := 18) (lv' := [(0, .int (a0 - (((Int32.toUInt32 a0 >>> (Int32.toUInt32 (1 : Int32) &&& Int32.toUInt32 31)).toInt32) &&& (1431655765 : Int32))))]) (st' := [.int ((Int32.toUInt32 (a0 - (((Int32.toUInt32 a0 >>> (Int32.toUInt32 (1 : Int32) &&& Int32.toUInt32 31)).toInt32) &&& (1431655765 : Int32))) >>> (Int32.toUInt32 (2 : Int32) &&& Int32.toUInt32 31)).toInt32), .int ((a0 - (((Int32.toUInt32 a0 >>> (Int32.toUInt32 (1 : Int32) &&& Int32.toUInt32 31)).toInt32) &&& (1431655765 : Int32))) &&& (858993459 : Int32))]) rfl) ?_
  refine Tt.go (fun _ => Tr.ldcwI rfl fw384) (?_ : Tt g l z_J6_bitCount_0f7a4 (emI M w) _ 21 [(0, .int (a0 - (((Int32.toUInt32 a0 >>> (Int32.toUInt32 (1 : Int32) &&& Int32.toUInt32 31)).toInt32) &&& (1431655765 : Int32))))] [.int (858993459 : Int32), .int ((Int32.toUInt32 (a0 - (((Int32.toUInt32 a0 >>> (Int32.toUInt32 (1 : Int32) &&& Int32.toUInt32 31)).toInt32) &&& (1431655765 : Int32))) >>> (Int32.toUInt32 (2 : Int32) &&& Int32.toUInt32 31)).toInt32), .int ((a0 - (((Int32.toUInt32 a0 >>> (Int32.toUInt32 (1 : Int32) &&& Int32.toUInt32 31)).toInt32) &&& (1431655765 : Int32))) &&& (858993459 : Int32))] (M, w))
  refine Tt.go (fun _ => Tr.run 8 (pc' := 29) (lv' := [(0, .int (((a0 - (((Int32.toUInt32 a0 >>> (Int32.toUInt32 (1 : Int32) &&& Int32.toUInt32 31)).toInt32) &&& (1431655765 : Int32))) &&& (858993459 : Int32)) + (((Int32.toUInt32 (a0 - (((Int32.toUInt32 a0 >>> (Int32.toUInt32 (1 : Int32) &&& Int32.toUInt32 31)).toInt32) &&& (1431655765 : Int32))) >>> (Int32.toUInt32 (2 : Int32) &&& Int32.toUInt32 31)).toInt32) &&& (858993459 : Int32))))]) (st' := [.int ((((a0 - (((Int32.toUInt32 a0 >>> (Int32.toUInt32 (1 : Int32) &&& Int32.toUInt32 31)).toInt32) &&& (1431655765 : Int32))) &&& (858993459 : Int32)) + (((Int32.toUInt32 (a0 - (((Int32.toUInt32 a0 >>> (Int32.toUInt32 (1 : Int32) &&& Int32.toUInt32 31)).toInt32) &&& (1431655765 : Int32))) >>> (Int32.toUInt32 (2 : Int32) &&& Int32.toUInt32 31)).toInt32) &&& (858993459 : Int32))) + ((Int32.toUInt32 (((a0 - (((Int32.toUInt32 a0 >>> (Int32.toUInt32 (1 : Int32) &&& Int32.toUInt32 31)).toInt32) &&& (1431655765 : Int32))) &&& (858993459 : Int32)) + (((Int32.toUInt32 (a0 - (((Int32.toUInt32 a0 >>> (Int32.toUInt32 (1 : Int32) &&& Int32.toUInt32 31)).toInt32) &&& (1431655765 : Int32))) >>> (Int32.toUInt32 (2 : Int32) &&& Int32.toUInt32 31)).toInt32) &&& (858993459 : Int32))) >>> (Int32.toUInt32 (4 : Int32) &&& Int32.toUInt32 31)).toInt32))]) rfl) ?_
  refine Tt.go (fun _ => Tr.ldcwI rfl fw385) (?_ : Tt g l z_J6_bitCount_0f7a4 (emI M w) _ 32 [(0, .int (((a0 - (((Int32.toUInt32 a0 >>> (Int32.toUInt32 (1 : Int32) &&& Int32.toUInt32 31)).toInt32) &&& (1431655765 : Int32))) &&& (858993459 : Int32)) + (((Int32.toUInt32 (a0 - (((Int32.toUInt32 a0 >>> (Int32.toUInt32 (1 : Int32) &&& Int32.toUInt32 31)).toInt32) &&& (1431655765 : Int32))) >>> (Int32.toUInt32 (2 : Int32) &&& Int32.toUInt32 31)).toInt32) &&& (858993459 : Int32))))] [.int (252645135 : Int32), .int ((((a0 - (((Int32.toUInt32 a0 >>> (Int32.toUInt32 (1 : Int32) &&& Int32.toUInt32 31)).toInt32) &&& (1431655765 : Int32))) &&& (858993459 : Int32)) + (((Int32.toUInt32 (a0 - (((Int32.toUInt32 a0 >>> (Int32.toUInt32 (1 : Int32) &&& Int32.toUInt32 31)).toInt32) &&& (1431655765 : Int32))) >>> (Int32.toUInt32 (2 : Int32) &&& Int32.toUInt32 31)).toInt32) &&& (858993459 : Int32))) + ((Int32.toUInt32 (((a0 - (((Int32.toUInt32 a0 >>> (Int32.toUInt32 (1 : Int32) &&& Int32.toUInt32 31)).toInt32) &&& (1431655765 : Int32))) &&& (858993459 : Int32)) + (((Int32.toUInt32 (a0 - (((Int32.toUInt32 a0 >>> (Int32.toUInt32 (1 : Int32) &&& Int32.toUInt32 31)).toInt32) &&& (1431655765 : Int32))) >>> (Int32.toUInt32 (2 : Int32) &&& Int32.toUInt32 31)).toInt32) &&& (858993459 : Int32))) >>> (Int32.toUInt32 (4 : Int32) &&& Int32.toUInt32 31)).toInt32))] (M, w))
  refine Tt.go (fun _ => Tr.run 17 (pc' := 52) (lv' := [(0, .int (((((((a0 - (((Int32.toUInt32 a0 >>> (Int32.toUInt32 (1 : Int32) &&& Int32.toUInt32 31)).toInt32) &&& (1431655765 : Int32))) &&& (858993459 : Int32)) + (((Int32.toUInt32 (a0 - (((Int32.toUInt32 a0 >>> (Int32.toUInt32 (1 : Int32) &&& Int32.toUInt32 31)).toInt32) &&& (1431655765 : Int32))) >>> (Int32.toUInt32 (2 : Int32) &&& Int32.toUInt32 31)).toInt32) &&& (858993459 : Int32))) + ((Int32.toUInt32 (((a0 - (((Int32.toUInt32 a0 >>> (Int32.toUInt32 (1 : Int32) &&& Int32.toUInt32 31)).toInt32) &&& (1431655765 : Int32))) &&& (858993459 : Int32)) + (((Int32.toUInt32 (a0 - (((Int32.toUInt32 a0 >>> (Int32.toUInt32 (1 : Int32) &&& Int32.toUInt32 31)).toInt32) &&& (1431655765 : Int32))) >>> (Int32.toUInt32 (2 : Int32) &&& Int32.toUInt32 31)).toInt32) &&& (858993459 : Int32))) >>> (Int32.toUInt32 (4 : Int32) &&& Int32.toUInt32 31)).toInt32)) &&& (252645135 : Int32)) + ((Int32.toUInt32 (((((a0 - (((Int32.toUInt32 a0 >>> (Int32.toUInt32 (1 : Int32) &&& Int32.toUInt32 31)).toInt32) &&& (1431655765 : Int32))) &&& (858993459 : Int32)) + (((Int32.toUInt32 (a0 - (((Int32.toUInt32 a0 >>> (Int32.toUInt32 (1 : Int32) &&& Int32.toUInt32 31)).toInt32) &&& (1431655765 : Int32))) >>> (Int32.toUInt32 (2 : Int32) &&& Int32.toUInt32 31)).toInt32) &&& (858993459 : Int32))) + ((Int32.toUInt32 (((a0 - (((Int32.toUInt32 a0 >>> (Int32.toUInt32 (1 : Int32) &&& Int32.toUInt32 31)).toInt32) &&& (1431655765 : Int32))) &&& (858993459 : Int32)) + (((Int32.toUInt32 (a0 - (((Int32.toUInt32 a0 >>> (Int32.toUInt32 (1 : Int32) &&& Int32.toUInt32 31)).toInt32) &&& (1431655765 : Int32))) >>> (Int32.toUInt32 (2 : Int32) &&& Int32.toUInt32 31)).toInt32) &&& (858993459 : Int32))) >>> (Int32.toUInt32 (4 : Int32) &&& Int32.toUInt32 31)).toInt32)) &&& (252645135 : Int32)) >>> (Int32.toUInt32 (8 : Int32) &&& Int32.toUInt32 31)).toInt32)) + ((Int32.toUInt32 ((((((a0 - (((Int32.toUInt32 a0 >>> (Int32.toUInt32 (1 : Int32) &&& Int32.toUInt32 31)).toInt32) &&& (1431655765 : Int32))) &&& (858993459 : Int32)) + (((Int32.toUInt32 (a0 - (((Int32.toUInt32 a0 >>> (Int32.toUInt32 (1 : Int32) &&& Int32.toUInt32 31)).toInt32) &&& (1431655765 : Int32))) >>> (Int32.toUInt32 (2 : Int32) &&& Int32.toUInt32 31)).toInt32) &&& (858993459 : Int32))) + ((Int32.toUInt32 (((a0 - (((Int32.toUInt32 a0 >>> (Int32.toUInt32 (1 : Int32) &&& Int32.toUInt32 31)).toInt32) &&& (1431655765 : Int32))) &&& (858993459 : Int32)) + (((Int32.toUInt32 (a0 - (((Int32.toUInt32 a0 >>> (Int32.toUInt32 (1 : Int32) &&& Int32.toUInt32 31)).toInt32) &&& (1431655765 : Int32))) >>> (Int32.toUInt32 (2 : Int32) &&& Int32.toUInt32 31)).toInt32) &&& (858993459 : Int32))) >>> (Int32.toUInt32 (4 : Int32) &&& Int32.toUInt32 31)).toInt32)) &&& (252645135 : Int32)) + ((Int32.toUInt32 (((((a0 - (((Int32.toUInt32 a0 >>> (Int32.toUInt32 (1 : Int32) &&& Int32.toUInt32 31)).toInt32) &&& (1431655765 : Int32))) &&& (858993459 : Int32)) + (((Int32.toUInt32 (a0 - (((Int32.toUInt32 a0 >>> (Int32.toUInt32 (1 : Int32) &&& Int32.toUInt32 31)).toInt32) &&& (1431655765 : Int32))) >>> (Int32.toUInt32 (2 : Int32) &&& Int32.toUInt32 31)).toInt32) &&& (858993459 : Int32))) + ((Int32.toUInt32 (((a0 - (((Int32.toUInt32 a0 >>> (Int32.toUInt32 (1 : Int32) &&& Int32.toUInt32 31)).toInt32) &&& (1431655765 : Int32))) &&& (858993459 : Int32)) + (((Int32.toUInt32 (a0 - (((Int32.toUInt32 a0 >>> (Int32.toUInt32 (1 : Int32) &&& Int32.toUInt32 31)).toInt32) &&& (1431655765 : Int32))) >>> (Int32.toUInt32 (2 : Int32) &&& Int32.toUInt32 31)).toInt32) &&& (858993459 : Int32))) >>> (Int32.toUInt32 (4 : Int32) &&& Int32.toUInt32 31)).toInt32)) &&& (252645135 : Int32)) >>> (Int32.toUInt32 (8 : Int32) &&& Int32.toUInt32 31)).toInt32)) >>> (Int32.toUInt32 (16 : Int32) &&& Int32.toUInt32 31)).toInt32)))]) (st' := [.int ((((((((a0 - (((Int32.toUInt32 a0 >>> (Int32.toUInt32 (1 : Int32) &&& Int32.toUInt32 31)).toInt32) &&& (1431655765 : Int32))) &&& (858993459 : Int32)) + (((Int32.toUInt32 (a0 - (((Int32.toUInt32 a0 >>> (Int32.toUInt32 (1 : Int32) &&& Int32.toUInt32 31)).toInt32) &&& (1431655765 : Int32))) >>> (Int32.toUInt32 (2 : Int32) &&& Int32.toUInt32 31)).toInt32) &&& (858993459 : Int32))) + ((Int32.toUInt32 (((a0 - (((Int32.toUInt32 a0 >>> (Int32.toUInt32 (1 : Int32) &&& Int32.toUInt32 31)).toInt32) &&& (1431655765 : Int32))) &&& (858993459 : Int32)) + (((Int32.toUInt32 (a0 - (((Int32.toUInt32 a0 >>> (Int32.toUInt32 (1 : Int32) &&& Int32.toUInt32 31)).toInt32) &&& (1431655765 : Int32))) >>> (Int32.toUInt32 (2 : Int32) &&& Int32.toUInt32 31)).toInt32) &&& (858993459 : Int32))) >>> (Int32.toUInt32 (4 : Int32) &&& Int32.toUInt32 31)).toInt32)) &&& (252645135 : Int32)) + ((Int32.toUInt32 (((((a0 - (((Int32.toUInt32 a0 >>> (Int32.toUInt32 (1 : Int32) &&& Int32.toUInt32 31)).toInt32) &&& (1431655765 : Int32))) &&& (858993459 : Int32)) + (((Int32.toUInt32 (a0 - (((Int32.toUInt32 a0 >>> (Int32.toUInt32 (1 : Int32) &&& Int32.toUInt32 31)).toInt32) &&& (1431655765 : Int32))) >>> (Int32.toUInt32 (2 : Int32) &&& Int32.toUInt32 31)).toInt32) &&& (858993459 : Int32))) + ((Int32.toUInt32 (((a0 - (((Int32.toUInt32 a0 >>> (Int32.toUInt32 (1 : Int32) &&& Int32.toUInt32 31)).toInt32) &&& (1431655765 : Int32))) &&& (858993459 : Int32)) + (((Int32.toUInt32 (a0 - (((Int32.toUInt32 a0 >>> (Int32.toUInt32 (1 : Int32) &&& Int32.toUInt32 31)).toInt32) &&& (1431655765 : Int32))) >>> (Int32.toUInt32 (2 : Int32) &&& Int32.toUInt32 31)).toInt32) &&& (858993459 : Int32))) >>> (Int32.toUInt32 (4 : Int32) &&& Int32.toUInt32 31)).toInt32)) &&& (252645135 : Int32)) >>> (Int32.toUInt32 (8 : Int32) &&& Int32.toUInt32 31)).toInt32)) + ((Int32.toUInt32 ((((((a0 - (((Int32.toUInt32 a0 >>> (Int32.toUInt32 (1 : Int32) &&& Int32.toUInt32 31)).toInt32) &&& (1431655765 : Int32))) &&& (858993459 : Int32)) + (((Int32.toUInt32 (a0 - (((Int32.toUInt32 a0 >>> (Int32.toUInt32 (1 : Int32) &&& Int32.toUInt32 31)).toInt32) &&& (1431655765 : Int32))) >>> (Int32.toUInt32 (2 : Int32) &&& Int32.toUInt32 31)).toInt32) &&& (858993459 : Int32))) + ((Int32.toUInt32 (((a0 - (((Int32.toUInt32 a0 >>> (Int32.toUInt32 (1 : Int32) &&& Int32.toUInt32 31)).toInt32) &&& (1431655765 : Int32))) &&& (858993459 : Int32)) + (((Int32.toUInt32 (a0 - (((Int32.toUInt32 a0 >>> (Int32.toUInt32 (1 : Int32) &&& Int32.toUInt32 31)).toInt32) &&& (1431655765 : Int32))) >>> (Int32.toUInt32 (2 : Int32) &&& Int32.toUInt32 31)).toInt32) &&& (858993459 : Int32))) >>> (Int32.toUInt32 (4 : Int32) &&& Int32.toUInt32 31)).toInt32)) &&& (252645135 : Int32)) + ((Int32.toUInt32 (((((a0 - (((Int32.toUInt32 a0 >>> (Int32.toUInt32 (1 : Int32) &&& Int32.toUInt32 31)).toInt32) &&& (1431655765 : Int32))) &&& (858993459 : Int32)) + (((Int32.toUInt32 (a0 - (((Int32.toUInt32 a0 >>> (Int32.toUInt32 (1 : Int32) &&& Int32.toUInt32 31)).toInt32) &&& (1431655765 : Int32))) >>> (Int32.toUInt32 (2 : Int32) &&& Int32.toUInt32 31)).toInt32) &&& (858993459 : Int32))) + ((Int32.toUInt32 (((a0 - (((Int32.toUInt32 a0 >>> (Int32.toUInt32 (1 : Int32) &&& Int32.toUInt32 31)).toInt32) &&& (1431655765 : Int32))) &&& (858993459 : Int32)) + (((Int32.toUInt32 (a0 - (((Int32.toUInt32 a0 >>> (Int32.toUInt32 (1 : Int32) &&& Int32.toUInt32 31)).toInt32) &&& (1431655765 : Int32))) >>> (Int32.toUInt32 (2 : Int32) &&& Int32.toUInt32 31)).toInt32) &&& (858993459 : Int32))) >>> (Int32.toUInt32 (4 : Int32) &&& Int32.toUInt32 31)).toInt32)) &&& (252645135 : Int32)) >>> (Int32.toUInt32 (8 : Int32) &&& Int32.toUInt32 31)).toInt32)) >>> (Int32.toUInt32 (16 : Int32) &&& Int32.toUInt32 31)).toInt32)) &&& (63 : Int32))]) rfl) ?_
  exact Tt.ret (Tr.iret rfl rfl)
theorem c_J6_bitCount_0f7a4 (g : fm_G) (l : Launch) (hl : l.stackTraces = false) (a0 : Int32)  (M : fm_Mem) (w : fm_W) : ∀ r, f_J6_bitCount_0f7a4 a0 M = some r → fC g l z_J6_bitCount_0f7a4 [.int a0] (M, w) (emI M w r) := fun r hr => fC.of (by decide) rfl o_J6_bitCount_0f7a4 hl (Nat.le_of_ble_eq_true rfl) (t_J6_bitCount_0f7a4 g l hl a0  M w r hr)
def k_X1_edgesOf : List (Nat × Instr × Nat) := [(0, .iconst 0, 1), (1, .istore_n 2, 1), (2, .iconst 0, 1), (3, .istore_n 3, 1), (4, .iload_n 3, 1), (5, .sipush 400, 3), (8, .if_icmp .ge 27, 3), (11, .aload_n 0, 1), (12, .getfield 20, 3), (15, .iload_n 3, 1), (16, .invokevirtual 27, 3), (19, .invokestatic 74, 3), (22, .iload_n 1, 1), (23, .if_icmp .ne 6, 3), (26, .iinc 2 1, 3), (29, .iinc 3 1, 3), (32, .goto (-28), 3), (35, .iload_n 2, 1), (36, .ireturn, 1)]
def z_X1_edgesOf : fm_Y := (yX1_edgesOf, RX1, cX1_edgesOf, 4, (some .int), k_X1_edgesOf, 1, 21)
theorem o_X1_edgesOf : fm_dec z_X1_edgesOf := (by decide +kernel : ∀ q ∈ k_X1_edgesOf, decode cX1_edgesOf q.1 = .ok q.2)
theorem cw_X1_edgesOf : fm_cwV z_X1_edgesOf := ⟨⟨lw_in 379 (by decide +kernel) (by decide +kernel), lw_in 97 (by decide +kernel) (by decide +kernel), by decide, by decide⟩, lw_in 377 (by decide +kernel) (by decide +kernel), lw_in 378 (by decide +kernel) (by decide +kernel)⟩
theorem pn_X1_edgesOf : (parseMethodDescriptor z_X1_edgesOf.1.desc).map (fun d => d.parameters.length) = some 1 := by decide +kernel
def f_X1_edgesOf_29 (P : Nat) (a1 : Int32) (k4 : Int32 → Int32 → fm_Mem → Option (Int32)) (x2 : Int32) (x3 : Int32) (M : fm_Mem) : Option (Int32) := (k4 x2 (x3 + (1 : Int32)) M)
set_option maxRecDepth 100000 in
set_option maxHeartbeats 4000000 in
theorem t_X1_edgesOf_29 (g : fm_G) (l : Launch) (hl : l.stackTraces = false) (P : Nat) (a1 : Int32) (hP : fm_kd g P = 1) (w : fm_W) (k4 : Int32 → Int32 → fm_Mem → Option (Int32)) (hk4 : ∀ (x2 : Int32) (x3 : Int32) (M : fm_Mem), Tt g l z_X1_edgesOf (emI M w) (k4 x2 x3 M) 4 [(0, .ref P), (1, .int a1), (2, .int x2), (3, .int x3)] [] (M, w)) (x2 : Int32) (x3 : Int32)  (M : fm_Mem) : Tt g l z_X1_edgesOf (emI M w) (f_X1_edgesOf_29 P a1 k4 x2 x3 M) 29 [(0, .ref P), (1, .int a1), (2, .int x2), (3, .int x3)] [] (M, w) := by
  rw [f_X1_edgesOf_29]
  refine Tt.go (fun _ => Tr.run 2 (pc' := 4) (lv' := [(3, .int (x3 + (1 : Int32))), (0, .ref P), (1, .int a1), (2, .int x2)]) (st' := []) rfl) ?_
  refine Tt.go (fun _ => Tr.sub (lv' := [(0, .ref P), (1, .int a1), (2, .int x2), (3, .int (x3 + (1 : Int32)))]) [1, 2, 3, 0] rfl) ?_
  exact hk4 x2 (x3 + (1 : Int32)) M
def f_X1_edgesOf_4 (P : Nat) (a1 : Int32) : Nat → Int32 → Int32 → fm_Mem → Option (Int32)
  | 0, _, _, _ => none
  | n + 1, x2, x3, M => if (400 : Int32) ≤ x3 then (some (x2)) else (Option.bind (f_X4_get (P + 3) 400 x3 M) (fun v1 => Option.bind (f_J6_bitCount_0f7a4 v1 M) (fun v2 => if v2 = a1 then (f_X1_edgesOf_29 P a1 (fun x2 x3 M => f_X1_edgesOf_4 P a1 n x2 x3 M) (x2 + (1 : Int32)) x3 M) else (f_X1_edgesOf_29 P a1 (fun x2 x3 M => f_X1_edgesOf_4 P a1 n x2 x3 M) x2 x3 M))))
set_option maxRecDepth 100000 in
set_option maxHeartbeats 4000000 in
theorem t_X1_edgesOf_4 (g : fm_G) (l : Launch) (hl : l.stackTraces = false) (P : Nat) (a1 : Int32) (hP : fm_kd g P = 1) (w : fm_W)  : ∀ (n : Nat) (x2 : Int32) (x3 : Int32)  (M : fm_Mem), Tt g l z_X1_edgesOf (emI M w) (f_X1_edgesOf_4 P a1  n x2 x3 M) 4 [(0, .ref P), (1, .int a1), (2, .int x2), (3, .int x3)] [] (M, w) := by
  intro n
  induction n with
  | zero => intros; exact Tt.none
  | succ n ih =>
    intro x2 x3  M
    rw [f_X1_edgesOf_4]
    refine Tt.go (fun _ => Tr.run 2 (pc' := 8) (lv' := [(0, .ref P), (1, .int a1), (2, .int x2), (3, .int x3)]) (st' := [.int (400 : Int32), .int x3]) rfl) ?_
    refine Tt.ic_ge (tgt := 35) rfl (by decide) ?_ ?_
    · refine Tt.go (fun _ => Tr.run 1 (pc' := 36) (lv' := [(0, .ref P), (1, .int a1), (2, .int x2), (3, .int x3)]) (st' := [.int x2]) rfl) ?_
      exact Tt.ret (Tr.iret rfl rfl)
    · refine Tt.go (fun _ => Tr.run 1 (pc' := 12) (lv' := [(0, .ref P), (1, .int a1), (2, .int x2), (3, .int x3)]) (st' := [.ref P]) rfl) ?_
      refine Tt.go (fun _ => Tr.get fmc1 hP rfl fw176 (k := 1) (by decide) rfl) (?_ : Tt g l z_X1_edgesOf (emI M w) _ 15 [(0, .ref P), (1, .int a1), (2, .int x2), (3, .int x3)] [.ref (P + 3)] (M, w))
      refine Tt.go (fun _ => Tr.run 1 (pc' := 16) (lv' := [(0, .ref P), (1, .int a1), (2, .int x2), (3, .int x3)]) (st' := [.int x3, .ref (P + 3)]) rfl) ?_
      refine Tt.callV (As := [.int x3]) (rest := []) (c_X4_get g l hl (P + 3) 400 x3 (fmk_1_1 hP) (fmn_1_1 hP) (by decide) M w) (fmk_1_1 hP) (by decide) rfl rfl cw_X4_get fw321 pn_X4_get (Nat.le_of_ble_eq_true rfl) (Nat.le_of_ble_eq_true rfl) (Nat.le_of_ble_eq_true rfl) rfl (fun v1 => (?_ : Tt g l z_X1_edgesOf (emI M w) _ 19 [(0, .ref P), (1, .int a1), (2, .int x2), (3, .int x3)] [.int v1] (M, w)))
      refine Tt.callS (As := [.int v1]) (rest := []) (c_J6_bitCount_0f7a4 g l hl v1 M w) rfl cw_J6_bitCount_0f7a4 fw380 pn_J6_bitCount_0f7a4 (Nat.le_of_ble_eq_true rfl) (Nat.le_of_ble_eq_true rfl) (Nat.le_of_ble_eq_true rfl) rfl (fun v2 => (?_ : Tt g l z_X1_edgesOf (emI M w) _ 22 [(0, .ref P), (1, .int a1), (2, .int x2), (3, .int x3)] [.int v2] (M, w)))
      refine Tt.go (fun _ => Tr.run 1 (pc' := 23) (lv' := [(0, .ref P), (1, .int a1), (2, .int x2), (3, .int x3)]) (st' := [.int a1, .int v2]) rfl) ?_
      refine Tt.ic_ne (tgt := 29) rfl (by decide) ?_ ?_
      · refine Tt.go (fun _ => Tr.run 1 (pc' := 29) (lv' := [(2, .int (x2 + (1 : Int32))), (0, .ref P), (1, .int a1), (3, .int x3)]) (st' := []) rfl) ?_
        refine Tt.go (fun _ => Tr.sub (lv' := [(0, .ref P), (1, .int a1), (2, .int (x2 + (1 : Int32))), (3, .int x3)]) [1, 2, 0, 3] rfl) ?_
        exact t_X1_edgesOf_29 g l hl P a1 hP w _ ih (x2 + (1 : Int32)) x3 M
      · exact t_X1_edgesOf_29 g l hl P a1 hP w _ ih x2 x3 M
def f_X1_edgesOf (P : Nat) (a1 : Int32) (M : fm_Mem) : Option (Int32) := (f_X1_edgesOf_4 P a1 fm_fuel (0 : Int32) (0 : Int32) M)
set_option maxRecDepth 100000 in
set_option maxHeartbeats 4000000 in
theorem t_X1_edgesOf (g : fm_G) (l : Launch) (hl : l.stackTraces = false) (P : Nat) (a1 : Int32) (hP : fm_kd g P = 1) (M : fm_Mem) (w : fm_W) : Tt g l z_X1_edgesOf (emI M w) (f_X1_edgesOf P a1 M) 0 [(0, .ref P), (1, .int a1)] [] (M, w) := by
  rw [f_X1_edgesOf]
  refine Tt.go (fun _ => Tr.run 4 (pc' := 4) (lv' := [(3, .int (0 : Int32)), (2, .int (0 : Int32)), (0, .ref P), (1, .int a1)]) (st' := []) rfl) ?_
  refine Tt.go (fun _ => Tr.sub (lv' := [(0, .ref P), (1, .int a1), (2, .int (0 : Int32)), (3, .int (0 : Int32))]) [2, 3, 1, 0] rfl) ?_
  exact t_X1_edgesOf_4 g l hl P a1 hP w fm_fuel (0 : Int32) (0 : Int32) M
theorem c_X1_edgesOf (g : fm_G) (l : Launch) (hl : l.stackTraces = false) (P : Nat) (a1 : Int32) (hP : fm_kd g P = 1) (M : fm_Mem) (w : fm_W) : ∀ r, f_X1_edgesOf P a1 M = some r → fC g l z_X1_edgesOf [.ref P, .int a1] (M, w) (emI M w r) := fun r hr => fC.of (by decide) rfl o_X1_edgesOf hl (Nat.le_of_ble_eq_true rfl) (t_X1_edgesOf g l hl P a1 hP M w r hr)
def k_X1_edges : List (Nat × Instr × Nat) := [(0, .aload_n 0, 1), (1, .iconst 1, 1), (2, .invokevirtual 71, 3), (5, .aload_n 0, 1), (6, .iconst 2, 1), (7, .invokevirtual 71, 3), (10, .iadd, 1), (11, .ireturn, 1)]
def z_X1_edges : fm_Y := (yX1_edges, RX1, cX1_edges, 1, (some .int), k_X1_edges, 2, 44)
theorem o_X1_edges : fm_dec z_X1_edges := (by decide +kernel : ∀ q ∈ k_X1_edges, decode cX1_edges q.1 = .ok q.2)
theorem cw_X1_edges : fm_cwV z_X1_edges := ⟨⟨lw_in 375 (by decide +kernel) (by decide +kernel), lw_in 97 (by decide +kernel) (by decide +kernel), by decide, by decide⟩, lw_in 373 (by decide +kernel) (by decide +kernel), lw_in 374 (by decide +kernel) (by decide +kernel)⟩
theorem pn_X1_edges : (parseMethodDescriptor z_X1_edges.1.desc).map (fun d => d.parameters.length) = some 0 := by decide +kernel
def f_X1_edges (P : Nat) (M : fm_Mem) : Option (Int32) := Option.bind (f_X1_edgesOf P (1 : Int32) M) (fun v1 => Option.bind (f_X1_edgesOf P (2 : Int32) M) (fun v2 => some ((v1 + v2))))
set_option maxRecDepth 100000 in
set_option maxHeartbeats 4000000 in
theorem t_X1_edges (g : fm_G) (l : Launch) (hl : l.stackTraces = false) (P : Nat) (hP : fm_kd g P = 1) (M : fm_Mem) (w : fm_W) : Tt g l z_X1_edges (emI M w) (f_X1_edges P M) 0 [(0, .ref P)] [] (M, w) := by
  rw [f_X1_edges]
  refine Tt.go (fun _ => Tr.run 2 (pc' := 2) (lv' := [(0, .ref P)]) (st' := [.int (1 : Int32), .ref P]) rfl) ?_
  refine Tt.callV (As := [.int (1 : Int32)]) (rest := []) (c_X1_edgesOf g l hl P (1 : Int32) hP M w) hP (by decide) rfl rfl cw_X1_edgesOf fw376 pn_X1_edgesOf (Nat.le_of_ble_eq_true rfl) (Nat.le_of_ble_eq_true rfl) (Nat.le_of_ble_eq_true rfl) rfl (fun v1 => (?_ : Tt g l z_X1_edges (emI M w) _ 5 [(0, .ref P)] [.int v1] (M, w)))
  refine Tt.go (fun _ => Tr.run 2 (pc' := 7) (lv' := [(0, .ref P)]) (st' := [.int (2 : Int32), .ref P, .int v1]) rfl) ?_
  refine Tt.callV (As := [.int (2 : Int32)]) (rest := [.int v1]) (c_X1_edgesOf g l hl P (2 : Int32) hP M w) hP (by decide) rfl rfl cw_X1_edgesOf fw376 pn_X1_edgesOf (Nat.le_of_ble_eq_true rfl) (Nat.le_of_ble_eq_true rfl) (Nat.le_of_ble_eq_true rfl) rfl (fun v2 => (?_ : Tt g l z_X1_edges (emI M w) _ 10 [(0, .ref P)] [.int v2, .int v1] (M, w)))
  refine Tt.go (fun _ => Tr.run 1 (pc' := 11) (lv' := [(0, .ref P)]) (st' := [.int (v1 + v2)]) rfl) ?_
  exact Tt.ret (Tr.iret rfl rfl)
theorem c_X1_edges (g : fm_G) (l : Launch) (hl : l.stackTraces = false) (P : Nat) (hP : fm_kd g P = 1) (M : fm_Mem) (w : fm_W) : ∀ r, f_X1_edges P M = some r → fC g l z_X1_edges [.ref P] (M, w) (emI M w r) := fun r hr => fC.of (by decide) rfl o_X1_edges hl (Nat.le_of_ble_eq_true rfl) (t_X1_edges g l hl P hP M w r hr)
def k_X1_edgesBeyond : List (Nat × Instr × Nat) := [(0, .iconst 0, 1), (1, .istore_n 2, 1), (2, .iconst 0, 1), (3, .istore_n 3, 1), (4, .iload_n 3, 1), (5, .sipush 400, 3), (8, .if_icmp .ge 34, 3), (11, .aload_n 0, 1), (12, .getfield 20, 3), (15, .iload_n 3, 1), (16, .invokevirtual 27, 3), (19, .ifCond .eq 17, 3), (22, .aload_n 1, 1), (23, .getfield 20, 3), (26, .iload_n 3, 1), (27, .invokevirtual 27, 3), (30, .ifCond .ne 6, 3), (33, .iinc 2 1, 3), (36, .iinc 3 1, 3), (39, .goto (-35), 3), (42, .iload_n 2, 1), (43, .ireturn, 1)]
def z_X1_edgesBeyond : fm_Y := (yX1_edgesBeyond, RX1, cX1_edgesBeyond, 4, (some .int), k_X1_edgesBeyond, 1, 21)
theorem o_X1_edgesBeyond : fm_dec z_X1_edgesBeyond := (by decide +kernel : ∀ q ∈ k_X1_edgesBeyond, decode cX1_edgesBeyond q.1 = .ok q.2)
theorem cw_X1_edgesBeyond : fm_cwV z_X1_edgesBeyond := ⟨⟨lw_in 552 (by decide +kernel) (by decide +kernel), lw_in 97 (by decide +kernel) (by decide +kernel), by decide, by decide⟩, lw_in 550 (by decide +kernel) (by decide +kernel), lw_in 551 (by decide +kernel) (by decide +kernel)⟩
theorem pn_X1_edgesBeyond : (parseMethodDescriptor z_X1_edgesBeyond.1.desc).map (fun d => d.parameters.length) = some 1 := by decide +kernel
def f_X1_edgesBeyond_36 (P : Nat) (r1 : Nat) (k4 : Int32 → Int32 → fm_Mem → Option (Int32)) (x2 : Int32) (x3 : Int32) (M : fm_Mem) : Option (Int32) := (k4 x2 (x3 + (1 : Int32)) M)
set_option maxRecDepth 100000 in
set_option maxHeartbeats 4000000 in
theorem t_X1_edgesBeyond_36 (g : fm_G) (l : Launch) (hl : l.stackTraces = false) (P : Nat) (r1 : Nat) (hP : fm_kd g P = 1) (hr1 : fm_kd g r1 = 1) (w : fm_W) (k4 : Int32 → Int32 → fm_Mem → Option (Int32)) (hk4 : ∀ (x2 : Int32) (x3 : Int32) (M : fm_Mem), Tt g l z_X1_edgesBeyond (emI M w) (k4 x2 x3 M) 4 [(0, .ref P), (1, .ref r1), (2, .int x2), (3, .int x3)] [] (M, w)) (x2 : Int32) (x3 : Int32)  (M : fm_Mem) : Tt g l z_X1_edgesBeyond (emI M w) (f_X1_edgesBeyond_36 P r1 k4 x2 x3 M) 36 [(0, .ref P), (1, .ref r1), (2, .int x2), (3, .int x3)] [] (M, w) := by
  rw [f_X1_edgesBeyond_36]
  refine Tt.go (fun _ => Tr.run 2 (pc' := 4) (lv' := [(3, .int (x3 + (1 : Int32))), (0, .ref P), (1, .ref r1), (2, .int x2)]) (st' := []) rfl) ?_
  refine Tt.go (fun _ => Tr.sub (lv' := [(0, .ref P), (1, .ref r1), (2, .int x2), (3, .int (x3 + (1 : Int32)))]) [1, 2, 3, 0] rfl) ?_
  exact hk4 x2 (x3 + (1 : Int32)) M
def f_X1_edgesBeyond_4 (P : Nat) (r1 : Nat) : Nat → Int32 → Int32 → fm_Mem → Option (Int32)
  | 0, _, _, _ => none
  | n + 1, x2, x3, M => if (400 : Int32) ≤ x3 then (some (x2)) else (Option.bind (f_X4_get (P + 3) 400 x3 M) (fun v1 => if v1 = 0 then (f_X1_edgesBeyond_36 P r1 (fun x2 x3 M => f_X1_edgesBeyond_4 P r1 n x2 x3 M) x2 x3 M) else (Option.bind (f_X4_get (r1 + 3) 400 x3 M) (fun v2 => if v2 = 0 then (f_X1_edgesBeyond_36 P r1 (fun x2 x3 M => f_X1_edgesBeyond_4 P r1 n x2 x3 M) (x2 + (1 : Int32)) x3 M) else (f_X1_edgesBeyond_36 P r1 (fun x2 x3 M => f_X1_edgesBeyond_4 P r1 n x2 x3 M) x2 x3 M)))))
set_option maxRecDepth 100000 in
set_option maxHeartbeats 4000000 in
theorem t_X1_edgesBeyond_4 (g : fm_G) (l : Launch) (hl : l.stackTraces = false) (P : Nat) (r1 : Nat) (hP : fm_kd g P = 1) (hr1 : fm_kd g r1 = 1) (w : fm_W)  : ∀ (n : Nat) (x2 : Int32) (x3 : Int32)  (M : fm_Mem), Tt g l z_X1_edgesBeyond (emI M w) (f_X1_edgesBeyond_4 P r1  n x2 x3 M) 4 [(0, .ref P), (1, .ref r1), (2, .int x2), (3, .int x3)] [] (M, w) := by
  intro n
  induction n with
  | zero => intros; exact Tt.none
  | succ n ih =>
    intro x2 x3  M
    rw [f_X1_edgesBeyond_4]
    refine Tt.go (fun _ => Tr.run 2 (pc' := 8) (lv' := [(0, .ref P), (1, .ref r1), (2, .int x2), (3, .int x3)]) (st' := [.int (400 : Int32), .int x3]) rfl) ?_
    refine Tt.ic_ge (tgt := 42) rfl (by decide) ?_ ?_
    · refine Tt.go (fun _ => Tr.run 1 (pc' := 43) (lv' := [(0, .ref P), (1, .ref r1), (2, .int x2), (3, .int x3)]) (st' := [.int x2]) rfl) ?_
      exact Tt.ret (Tr.iret rfl rfl)
    · refine Tt.go (fun _ => Tr.run 1 (pc' := 12) (lv' := [(0, .ref P), (1, .ref r1), (2, .int x2), (3, .int x3)]) (st' := [.ref P]) rfl) ?_
      refine Tt.go (fun _ => Tr.get fmc1 hP rfl fw176 (k := 1) (by decide) rfl) (?_ : Tt g l z_X1_edgesBeyond (emI M w) _ 15 [(0, .ref P), (1, .ref r1), (2, .int x2), (3, .int x3)] [.ref (P + 3)] (M, w))
      refine Tt.go (fun _ => Tr.run 1 (pc' := 16) (lv' := [(0, .ref P), (1, .ref r1), (2, .int x2), (3, .int x3)]) (st' := [.int x3, .ref (P + 3)]) rfl) ?_
      refine Tt.callV (As := [.int x3]) (rest := []) (c_X4_get g l hl (P + 3) 400 x3 (fmk_1_1 hP) (fmn_1_1 hP) (by decide) M w) (fmk_1_1 hP) (by decide) rfl rfl cw_X4_get fw321 pn_X4_get (Nat.le_of_ble_eq_true rfl) (Nat.le_of_ble_eq_true rfl) (Nat.le_of_ble_eq_true rfl) rfl (fun v1 => (?_ : Tt g l z_X1_edgesBeyond (emI M w) _ 19 [(0, .ref P), (1, .ref r1), (2, .int x2), (3, .int x3)] [.int v1] (M, w)))
      refine Tt.if_eq (tgt := 36) rfl (by decide) ?_ ?_
      · exact t_X1_edgesBeyond_36 g l hl P r1 hP hr1 w _ ih x2 x3 M
      · refine Tt.go (fun _ => Tr.run 1 (pc' := 23) (lv' := [(0, .ref P), (1, .ref r1), (2, .int x2), (3, .int x3)]) (st' := [.ref r1]) rfl) ?_
        refine Tt.go (fun _ => Tr.get fmc1 hr1 rfl fw176 (k := 1) (by decide) rfl) (?_ : Tt g l z_X1_edgesBeyond (emI M w) _ 26 [(0, .ref P), (1, .ref r1), (2, .int x2), (3, .int x3)] [.ref (r1 + 3)] (M, w))
        refine Tt.go (fun _ => Tr.run 1 (pc' := 27) (lv' := [(0, .ref P), (1, .ref r1), (2, .int x2), (3, .int x3)]) (st' := [.int x3, .ref (r1 + 3)]) rfl) ?_
        refine Tt.callV (As := [.int x3]) (rest := []) (c_X4_get g l hl (r1 + 3) 400 x3 (fmk_1_1 hr1) (fmn_1_1 hr1) (by decide) M w) (fmk_1_1 hr1) (by decide) rfl rfl cw_X4_get fw321 pn_X4_get (Nat.le_of_ble_eq_true rfl) (Nat.le_of_ble_eq_true rfl) (Nat.le_of_ble_eq_true rfl) rfl (fun v2 => (?_ : Tt g l z_X1_edgesBeyond (emI M w) _ 30 [(0, .ref P), (1, .ref r1), (2, .int x2), (3, .int x3)] [.int v2] (M, w)))
        refine Tt.if_ne (tgt := 36) rfl (by decide) ?_ ?_
        · refine Tt.go (fun _ => Tr.run 1 (pc' := 36) (lv' := [(2, .int (x2 + (1 : Int32))), (0, .ref P), (1, .ref r1), (3, .int x3)]) (st' := []) rfl) ?_
          refine Tt.go (fun _ => Tr.sub (lv' := [(0, .ref P), (1, .ref r1), (2, .int (x2 + (1 : Int32))), (3, .int x3)]) [1, 2, 0, 3] rfl) ?_
          exact t_X1_edgesBeyond_36 g l hl P r1 hP hr1 w _ ih (x2 + (1 : Int32)) x3 M
        · exact t_X1_edgesBeyond_36 g l hl P r1 hP hr1 w _ ih x2 x3 M
def f_X1_edgesBeyond (P : Nat) (r1 : Nat) (M : fm_Mem) : Option (Int32) := (f_X1_edgesBeyond_4 P r1 fm_fuel (0 : Int32) (0 : Int32) M)
set_option maxRecDepth 100000 in
set_option maxHeartbeats 4000000 in
theorem t_X1_edgesBeyond (g : fm_G) (l : Launch) (hl : l.stackTraces = false) (P : Nat) (r1 : Nat) (hP : fm_kd g P = 1) (hr1 : fm_kd g r1 = 1) (M : fm_Mem) (w : fm_W) : Tt g l z_X1_edgesBeyond (emI M w) (f_X1_edgesBeyond P r1 M) 0 [(0, .ref P), (1, .ref r1)] [] (M, w) := by
  rw [f_X1_edgesBeyond]
  refine Tt.go (fun _ => Tr.run 4 (pc' := 4) (lv' := [(3, .int (0 : Int32)), (2, .int (0 : Int32)), (0, .ref P), (1, .ref r1)]) (st' := []) rfl) ?_
  refine Tt.go (fun _ => Tr.sub (lv' := [(0, .ref P), (1, .ref r1), (2, .int (0 : Int32)), (3, .int (0 : Int32))]) [2, 3, 1, 0] rfl) ?_
  exact t_X1_edgesBeyond_4 g l hl P r1 hP hr1 w fm_fuel (0 : Int32) (0 : Int32) M
theorem c_X1_edgesBeyond (g : fm_G) (l : Launch) (hl : l.stackTraces = false) (P : Nat) (r1 : Nat) (hP : fm_kd g P = 1) (hr1 : fm_kd g r1 = 1) (M : fm_Mem) (w : fm_W) : ∀ r, f_X1_edgesBeyond P r1 M = some r → fC g l z_X1_edgesBeyond [.ref P, .ref r1] (M, w) (emI M w r) := fun r hr => fC.of (by decide) rfl o_X1_edgesBeyond hl (Nat.le_of_ble_eq_true rfl) (t_X1_edgesBeyond g l hl P r1 hP hr1 M w r hr)
def k_X1_trianglesBeyond : List (Nat × Instr × Nat) := [(0, .iconst 0, 1), (1, .istore_n 2, 1), (2, .iconst 0, 1), (3, .istore_n 3, 1), (4, .iload_n 3, 1), (5, .aload_n 0, 1), (6, .getfield 23, 3), (9, .if_icmp .ge 27, 3), (12, .aload_n 1, 1), (13, .aload_n 0, 1), (14, .getfield 14, 3), (17, .iload_n 3, 1), (18, .invokevirtual 27, 3), (21, .invokevirtual 79, 3), (24, .ifCond .ne 6, 3), (27, .iinc 2 1, 3), (30, .iinc 3 1, 3), (33, .goto (-29), 3), (36, .iload_n 2, 1), (37, .ireturn, 1)]
def z_X1_trianglesBeyond : fm_Y := (yX1_trianglesBeyond, RX1, cX1_trianglesBeyond, 4, (some .int), k_X1_trianglesBeyond, 3, 65)
theorem o_X1_trianglesBeyond : fm_dec z_X1_trianglesBeyond := (by decide +kernel : ∀ q ∈ k_X1_trianglesBeyond, decode cX1_trianglesBeyond q.1 = .ok q.2)
theorem cw_X1_trianglesBeyond : fm_cwV z_X1_trianglesBeyond := ⟨⟨lw_in 998 (by decide +kernel) (by decide +kernel), lw_in 97 (by decide +kernel) (by decide +kernel), by decide, by decide⟩, lw_in 996 (by decide +kernel) (by decide +kernel), lw_in 997 (by decide +kernel) (by decide +kernel)⟩
theorem pn_X1_trianglesBeyond : (parseMethodDescriptor z_X1_trianglesBeyond.1.desc).map (fun d => d.parameters.length) = some 1 := by decide +kernel
def f_X1_trianglesBeyond_30 (P : Nat) (r1 : Nat) (k4 : Int32 → Int32 → fm_Mem → Option (Int32)) (x2 : Int32) (x3 : Int32) (M : fm_Mem) : Option (Int32) := (k4 x2 (x3 + (1 : Int32)) M)
set_option maxRecDepth 100000 in
set_option maxHeartbeats 4000000 in
theorem t_X1_trianglesBeyond_30 (g : fm_G) (l : Launch) (hl : l.stackTraces = false) (P : Nat) (r1 : Nat) (hP : fm_kd g P = 1) (hr1 : fm_kd g r1 = 1) (w : fm_W) (k4 : Int32 → Int32 → fm_Mem → Option (Int32)) (hk4 : ∀ (x2 : Int32) (x3 : Int32) (M : fm_Mem), Tt g l z_X1_trianglesBeyond (emI M w) (k4 x2 x3 M) 4 [(0, .ref P), (1, .ref r1), (2, .int x2), (3, .int x3)] [] (M, w)) (x2 : Int32) (x3 : Int32)  (M : fm_Mem) : Tt g l z_X1_trianglesBeyond (emI M w) (f_X1_trianglesBeyond_30 P r1 k4 x2 x3 M) 30 [(0, .ref P), (1, .ref r1), (2, .int x2), (3, .int x3)] [] (M, w) := by
  rw [f_X1_trianglesBeyond_30]
  refine Tt.go (fun _ => Tr.run 2 (pc' := 4) (lv' := [(3, .int (x3 + (1 : Int32))), (0, .ref P), (1, .ref r1), (2, .int x2)]) (st' := []) rfl) ?_
  refine Tt.go (fun _ => Tr.sub (lv' := [(0, .ref P), (1, .ref r1), (2, .int x2), (3, .int (x3 + (1 : Int32)))]) [1, 2, 3, 0] rfl) ?_
  exact hk4 x2 (x3 + (1 : Int32)) M
def f_X1_trianglesBeyond_4 (P : Nat) (r1 : Nat) : Nat → Int32 → Int32 → fm_Mem → Option (Int32)
  | 0, _, _, _ => none
  | n + 1, x2, x3, M => if (M P 2) ≤ x3 then (some (x2)) else (Option.bind (f_X4_get (P + 1) 35 x3 M) (fun v1 => Option.bind (f_X1_holds r1 v1 M) (fun v2 => if v2 = 0 then (f_X1_trianglesBeyond_30 P r1 (fun x2 x3 M => f_X1_trianglesBeyond_4 P r1 n x2 x3 M) (x2 + (1 : Int32)) x3 M) else (f_X1_trianglesBeyond_30 P r1 (fun x2 x3 M => f_X1_trianglesBeyond_4 P r1 n x2 x3 M) x2 x3 M))))
set_option maxRecDepth 100000 in
set_option maxHeartbeats 4000000 in
theorem t_X1_trianglesBeyond_4 (g : fm_G) (l : Launch) (hl : l.stackTraces = false) (P : Nat) (r1 : Nat) (hP : fm_kd g P = 1) (hr1 : fm_kd g r1 = 1) (w : fm_W)  : ∀ (n : Nat) (x2 : Int32) (x3 : Int32)  (M : fm_Mem), Tt g l z_X1_trianglesBeyond (emI M w) (f_X1_trianglesBeyond_4 P r1  n x2 x3 M) 4 [(0, .ref P), (1, .ref r1), (2, .int x2), (3, .int x3)] [] (M, w) := by
  intro n
  induction n with
  | zero => intros; exact Tt.none
  | succ n ih =>
    intro x2 x3  M
    rw [f_X1_trianglesBeyond_4]
    refine Tt.go (fun _ => Tr.run 2 (pc' := 6) (lv' := [(0, .ref P), (1, .ref r1), (2, .int x2), (3, .int x3)]) (st' := [.ref P, .int x3]) rfl) ?_
    refine Tt.go (fun _ => Tr.get fmc1 hP rfl fw177 (k := 2) (by decide) rfl) (?_ : Tt g l z_X1_trianglesBeyond (emI M w) _ 9 [(0, .ref P), (1, .ref r1), (2, .int x2), (3, .int x3)] [.int (M P 2), .int x3] (M, w))
    refine Tt.ic_ge (tgt := 36) rfl (by decide) ?_ ?_
    · refine Tt.go (fun _ => Tr.run 1 (pc' := 37) (lv' := [(0, .ref P), (1, .ref r1), (2, .int x2), (3, .int x3)]) (st' := [.int x2]) rfl) ?_
      exact Tt.ret (Tr.iret rfl rfl)
    · refine Tt.go (fun _ => Tr.run 2 (pc' := 14) (lv' := [(0, .ref P), (1, .ref r1), (2, .int x2), (3, .int x3)]) (st' := [.ref P, .ref r1]) rfl) ?_
      refine Tt.go (fun _ => Tr.get fmc1 hP rfl fw175 (k := 0) (by decide) rfl) (?_ : Tt g l z_X1_trianglesBeyond (emI M w) _ 17 [(0, .ref P), (1, .ref r1), (2, .int x2), (3, .int x3)] [.ref (P + 1), .ref r1] (M, w))
      refine Tt.go (fun _ => Tr.run 1 (pc' := 18) (lv' := [(0, .ref P), (1, .ref r1), (2, .int x2), (3, .int x3)]) (st' := [.int x3, .ref (P + 1), .ref r1]) rfl) ?_
      refine Tt.callV (As := [.int x3]) (rest := [.ref r1]) (c_X4_get g l hl (P + 1) 35 x3 (fmk_1_0 hP) (fmn_1_0 hP) (by decide) M w) (fmk_1_0 hP) (by decide) rfl rfl cw_X4_get fw321 pn_X4_get (Nat.le_of_ble_eq_true rfl) (Nat.le_of_ble_eq_true rfl) (Nat.le_of_ble_eq_true rfl) rfl (fun v1 => (?_ : Tt g l z_X1_trianglesBeyond (emI M w) _ 21 [(0, .ref P), (1, .ref r1), (2, .int x2), (3, .int x3)] [.int v1, .ref r1] (M, w)))
      refine Tt.callV (As := [.int v1]) (rest := []) (c_X1_holds g l hl r1 v1 hr1 M w) hr1 (by decide) rfl rfl cw_X1_holds fw999 pn_X1_holds (Nat.le_of_ble_eq_true rfl) (Nat.le_of_ble_eq_true rfl) (Nat.le_of_ble_eq_true rfl) rfl (fun v2 => (?_ : Tt g l z_X1_trianglesBeyond (emI M w) _ 24 [(0, .ref P), (1, .ref r1), (2, .int x2), (3, .int x3)] [.int v2] (M, w)))
      refine Tt.if_ne (tgt := 30) rfl (by decide) ?_ ?_
      · refine Tt.go (fun _ => Tr.run 1 (pc' := 30) (lv' := [(2, .int (x2 + (1 : Int32))), (0, .ref P), (1, .ref r1), (3, .int x3)]) (st' := []) rfl) ?_
        refine Tt.go (fun _ => Tr.sub (lv' := [(0, .ref P), (1, .ref r1), (2, .int (x2 + (1 : Int32))), (3, .int x3)]) [1, 2, 0, 3] rfl) ?_
        exact t_X1_trianglesBeyond_30 g l hl P r1 hP hr1 w _ ih (x2 + (1 : Int32)) x3 M
      · exact t_X1_trianglesBeyond_30 g l hl P r1 hP hr1 w _ ih x2 x3 M
def f_X1_trianglesBeyond (P : Nat) (r1 : Nat) (M : fm_Mem) : Option (Int32) := (f_X1_trianglesBeyond_4 P r1 fm_fuel (0 : Int32) (0 : Int32) M)
set_option maxRecDepth 100000 in
set_option maxHeartbeats 4000000 in
theorem t_X1_trianglesBeyond (g : fm_G) (l : Launch) (hl : l.stackTraces = false) (P : Nat) (r1 : Nat) (hP : fm_kd g P = 1) (hr1 : fm_kd g r1 = 1) (M : fm_Mem) (w : fm_W) : Tt g l z_X1_trianglesBeyond (emI M w) (f_X1_trianglesBeyond P r1 M) 0 [(0, .ref P), (1, .ref r1)] [] (M, w) := by
  rw [f_X1_trianglesBeyond]
  refine Tt.go (fun _ => Tr.run 4 (pc' := 4) (lv' := [(3, .int (0 : Int32)), (2, .int (0 : Int32)), (0, .ref P), (1, .ref r1)]) (st' := []) rfl) ?_
  refine Tt.go (fun _ => Tr.sub (lv' := [(0, .ref P), (1, .ref r1), (2, .int (0 : Int32)), (3, .int (0 : Int32))]) [2, 3, 1, 0] rfl) ?_
  exact t_X1_trianglesBeyond_4 g l hl P r1 hP hr1 w fm_fuel (0 : Int32) (0 : Int32) M
theorem c_X1_trianglesBeyond (g : fm_G) (l : Launch) (hl : l.stackTraces = false) (P : Nat) (r1 : Nat) (hP : fm_kd g P = 1) (hr1 : fm_kd g r1 = 1) (M : fm_Mem) (w : fm_W) : ∀ r, f_X1_trianglesBeyond P r1 M = some r → fC g l z_X1_trianglesBeyond [.ref P, .ref r1] (M, w) (emI M w r) := fun r hr => fC.of (by decide) rfl o_X1_trianglesBeyond hl (Nat.le_of_ble_eq_true rfl) (t_X1_trianglesBeyond g l hl P r1 hP hr1 M w r hr)
def k_X1_beside : List (Nat × Instr × Nat) := [(0, .aload_n 0, 1), (1, .iload_n 1, 1), (2, .invokevirtual 83, 3), (5, .istore_n 2, 1), (6, .aload_n 0, 1), (7, .iload_n 1, 1), (8, .invokevirtual 86, 3), (11, .istore_n 3, 1), (12, .aload_n 0, 1), (13, .iload_n 1, 1), (14, .invokevirtual 89, 3), (17, .istore 4, 2), (19, .aload_n 0, 1), (20, .iload_n 2, 1), (21, .iload_n 3, 1), (22, .invokevirtual 68, 3), (25, .invokestatic 74, 3), (28, .aload_n 0, 1), (29, .iload_n 3, 1), (30, .iload 4, 2), (32, .invokevirtual 68, 3), (35, .invokestatic 74, 3), (38, .iadd, 1), (39, .aload_n 0, 1), (40, .iload_n 2, 1), (41, .iload 4, 2), (43, .invokevirtual 68, 3), (46, .invokestatic 74, 3), (49, .iadd, 1), (50, .istore 5, 2), (52, .iload 5, 2), (54, .iconst 3, 1), (55, .isub, 1), (56, .ireturn, 1)]
def z_X1_beside : fm_Y := (yX1_beside, RX1, cX1_beside, 6, (some .int), k_X1_beside, 2, 43)
theorem o_X1_beside : fm_dec z_X1_beside := (by decide +kernel : ∀ q ∈ k_X1_beside, decode cX1_beside q.1 = .ok q.2)
theorem cw_X1_beside : fm_cwV z_X1_beside := ⟨⟨lw_in 621 (by decide +kernel) (by decide +kernel), lw_in 97 (by decide +kernel) (by decide +kernel), by decide, by decide⟩, lw_in 619 (by decide +kernel) (by decide +kernel), lw_in 620 (by decide +kernel) (by decide +kernel)⟩
theorem pn_X1_beside : (parseMethodDescriptor z_X1_beside.1.desc).map (fun d => d.parameters.length) = some 1 := by decide +kernel
def f_X1_beside (P : Nat) (a1 : Int32) (M : fm_Mem) : Option (Int32) := Option.bind (f_X1_a P a1 M) (fun v1 => Option.bind (f_X1_b P a1 M) (fun v2 => Option.bind (f_X1_c P a1 M) (fun v3 => Option.bind (f_X1_thirdsOf P v1 v2 M) (fun v4 => Option.bind (f_J6_bitCount_0f7a4 v4 M) (fun v5 => Option.bind (f_X1_thirdsOf P v2 v3 M) (fun v6 => Option.bind (f_J6_bitCount_0f7a4 v6 M) (fun v7 => Option.bind (f_X1_thirdsOf P v1 v3 M) (fun v8 => Option.bind (f_J6_bitCount_0f7a4 v8 M) (fun v9 => some ((((v5 + v7) + v9) - (3 : Int32))))))))))))
set_option maxRecDepth 100000 in
set_option maxHeartbeats 4000000 in
theorem t_X1_beside (g : fm_G) (l : Launch) (hl : l.stackTraces = false) (P : Nat) (a1 : Int32) (hP : fm_kd g P = 1) (M : fm_Mem) (w : fm_W) : Tt g l z_X1_beside (emI M w) (f_X1_beside P a1 M) 0 [(0, .ref P), (1, .int a1)] [] (M, w) := by
  rw [f_X1_beside]
  refine Tt.go (fun _ => Tr.run 2 (pc' := 2) (lv' := [(0, .ref P), (1, .int a1)]) (st' := [.int a1, .ref P]) rfl) ?_
  refine Tt.callV (As := [.int a1]) (rest := []) (c_X1_a g l hl P a1 hP M w) hP (by decide) rfl rfl cw_X1_a fw622 pn_X1_a (Nat.le_of_ble_eq_true rfl) (Nat.le_of_ble_eq_true rfl) (Nat.le_of_ble_eq_true rfl) rfl (fun v1 => (?_ : Tt g l z_X1_beside (emI M w) _ 5 [(0, .ref P), (1, .int a1)] [.int v1] (M, w)))
  refine Tt.go (fun _ => Tr.run 3 (pc' := 8) (lv' := [(2, .int v1), (0, .ref P), (1, .int a1)]) (st' := [.int a1, .ref P]) rfl) ?_
  refine Tt.callV (As := [.int a1]) (rest := []) (c_X1_b g l hl P a1 hP M w) hP (by decide) rfl rfl cw_X1_b fw623 pn_X1_b (Nat.le_of_ble_eq_true rfl) (Nat.le_of_ble_eq_true rfl) (Nat.le_of_ble_eq_true rfl) rfl (fun v2 => (?_ : Tt g l z_X1_beside (emI M w) _ 11 [(2, .int v1), (0, .ref P), (1, .int a1)] [.int v2] (M, w)))
  refine Tt.go (fun _ => Tr.run 3 (pc' := 14) (lv' := [(3, .int v2), (2, .int v1), (0, .ref P), (1, .int a1)]) (st' := [.int a1, .ref P]) rfl) ?_
  refine Tt.callV (As := [.int a1]) (rest := []) (c_X1_c g l hl P a1 hP M w) hP (by decide) rfl rfl cw_X1_c fw624 pn_X1_c (Nat.le_of_ble_eq_true rfl) (Nat.le_of_ble_eq_true rfl) (Nat.le_of_ble_eq_true rfl) rfl (fun v3 => (?_ : Tt g l z_X1_beside (emI M w) _ 17 [(3, .int v2), (2, .int v1), (0, .ref P), (1, .int a1)] [.int v3] (M, w)))
  refine Tt.go (fun _ => Tr.run 4 (pc' := 22) (lv' := [(4, .int v3), (3, .int v2), (2, .int v1), (0, .ref P), (1, .int a1)]) (st' := [.int v2, .int v1, .ref P]) rfl) ?_
  refine Tt.callV (As := [.int v1, .int v2]) (rest := []) (c_X1_thirdsOf g l hl P v1 v2 hP M w) hP (by decide) rfl rfl cw_X1_thirdsOf fw590 pn_X1_thirdsOf (Nat.le_of_ble_eq_true rfl) (Nat.le_of_ble_eq_true rfl) (Nat.le_of_ble_eq_true rfl) rfl (fun v4 => (?_ : Tt g l z_X1_beside (emI M w) _ 25 [(4, .int v3), (3, .int v2), (2, .int v1), (0, .ref P), (1, .int a1)] [.int v4] (M, w)))
  refine Tt.callS (As := [.int v4]) (rest := []) (c_J6_bitCount_0f7a4 g l hl v4 M w) rfl cw_J6_bitCount_0f7a4 fw380 pn_J6_bitCount_0f7a4 (Nat.le_of_ble_eq_true rfl) (Nat.le_of_ble_eq_true rfl) (Nat.le_of_ble_eq_true rfl) rfl (fun v5 => (?_ : Tt g l z_X1_beside (emI M w) _ 28 [(4, .int v3), (3, .int v2), (2, .int v1), (0, .ref P), (1, .int a1)] [.int v5] (M, w)))
  refine Tt.go (fun _ => Tr.run 3 (pc' := 32) (lv' := [(4, .int v3), (3, .int v2), (2, .int v1), (0, .ref P), (1, .int a1)]) (st' := [.int v3, .int v2, .ref P, .int v5]) rfl) ?_
  refine Tt.callV (As := [.int v2, .int v3]) (rest := [.int v5]) (c_X1_thirdsOf g l hl P v2 v3 hP M w) hP (by decide) rfl rfl cw_X1_thirdsOf fw590 pn_X1_thirdsOf (Nat.le_of_ble_eq_true rfl) (Nat.le_of_ble_eq_true rfl) (Nat.le_of_ble_eq_true rfl) rfl (fun v6 => (?_ : Tt g l z_X1_beside (emI M w) _ 35 [(4, .int v3), (3, .int v2), (2, .int v1), (0, .ref P), (1, .int a1)] [.int v6, .int v5] (M, w)))
  refine Tt.callS (As := [.int v6]) (rest := [.int v5]) (c_J6_bitCount_0f7a4 g l hl v6 M w) rfl cw_J6_bitCount_0f7a4 fw380 pn_J6_bitCount_0f7a4 (Nat.le_of_ble_eq_true rfl) (Nat.le_of_ble_eq_true rfl) (Nat.le_of_ble_eq_true rfl) rfl (fun v7 => (?_ : Tt g l z_X1_beside (emI M w) _ 38 [(4, .int v3), (3, .int v2), (2, .int v1), (0, .ref P), (1, .int a1)] [.int v7, .int v5] (M, w)))
  refine Tt.go (fun _ => Tr.run 4 (pc' := 43) (lv' := [(4, .int v3), (3, .int v2), (2, .int v1), (0, .ref P), (1, .int a1)]) (st' := [.int v3, .int v1, .ref P, .int (v5 + v7)]) rfl) ?_
  refine Tt.callV (As := [.int v1, .int v3]) (rest := [.int (v5 + v7)]) (c_X1_thirdsOf g l hl P v1 v3 hP M w) hP (by decide) rfl rfl cw_X1_thirdsOf fw590 pn_X1_thirdsOf (Nat.le_of_ble_eq_true rfl) (Nat.le_of_ble_eq_true rfl) (Nat.le_of_ble_eq_true rfl) rfl (fun v8 => (?_ : Tt g l z_X1_beside (emI M w) _ 46 [(4, .int v3), (3, .int v2), (2, .int v1), (0, .ref P), (1, .int a1)] [.int v8, .int (v5 + v7)] (M, w)))
  refine Tt.callS (As := [.int v8]) (rest := [.int (v5 + v7)]) (c_J6_bitCount_0f7a4 g l hl v8 M w) rfl cw_J6_bitCount_0f7a4 fw380 pn_J6_bitCount_0f7a4 (Nat.le_of_ble_eq_true rfl) (Nat.le_of_ble_eq_true rfl) (Nat.le_of_ble_eq_true rfl) rfl (fun v9 => (?_ : Tt g l z_X1_beside (emI M w) _ 49 [(4, .int v3), (3, .int v2), (2, .int v1), (0, .ref P), (1, .int a1)] [.int v9, .int (v5 + v7)] (M, w)))
  refine Tt.go (fun _ => Tr.run 5 (pc' := 56) (lv' := [(5, .int ((v5 + v7) + v9)), (4, .int v3), (3, .int v2), (2, .int v1), (0, .ref P), (1, .int a1)]) (st' := [.int (((v5 + v7) + v9) - (3 : Int32))]) rfl) ?_
  exact Tt.ret (Tr.iret rfl rfl)
theorem c_X1_beside (g : fm_G) (l : Launch) (hl : l.stackTraces = false) (P : Nat) (a1 : Int32) (hP : fm_kd g P = 1) (M : fm_Mem) (w : fm_W) : ∀ r, f_X1_beside P a1 M = some r → fC g l z_X1_beside [.ref P, .int a1] (M, w) (emI M w r) := fun r hr => fC.of (by decide) rfl o_X1_beside hl (Nat.le_of_ble_eq_true rfl) (t_X1_beside g l hl P a1 hP M w r hr)
def k_X3_clear : List (Nat × Instr × Nat) := [(0, .aload_n 0, 1), (1, .iconst 0, 1), (2, .putfield 23, 3), (5, .return_, 1)]
def z_X3_clear : fm_Y := (yX3_clear, RX3, cX3_clear, 1, none, k_X3_clear, 0, 0)
theorem o_X3_clear : fm_dec z_X3_clear := (by decide +kernel : ∀ q ∈ k_X3_clear, decode cX3_clear q.1 = .ok q.2)
theorem cw_X3_clear : fm_cwV z_X3_clear := ⟨⟨lw_in 650 (by decide +kernel) (by decide +kernel), lw_in 96 (by decide +kernel) (by decide +kernel), by decide, by decide⟩, lw_in 648 (by decide +kernel) (by decide +kernel), lw_in 649 (by decide +kernel) (by decide +kernel)⟩
theorem pn_X3_clear : (parseMethodDescriptor z_X3_clear.1.desc).map (fun d => d.parameters.length) = some 0 := by decide +kernel
def f_X3_clear (P : Nat) (M : fm_Mem) : Option (fm_Mem) := some ((fm_up M P 2 (0 : Int32)))
set_option maxRecDepth 100000 in
set_option maxHeartbeats 4000000 in
theorem t_X3_clear (g : fm_G) (l : Launch) (hl : l.stackTraces = false) (P : Nat) (hP : fm_kd g P = 3) (M : fm_Mem) (w : fm_W) : Tt g l z_X3_clear (emVw M w) (f_X3_clear P M) 0 [(0, .ref P)] [] (M, w) := by
  rw [f_X3_clear]
  refine Tt.go (fun _ => Tr.run 2 (pc' := 2) (lv' := [(0, .ref P)]) (st' := [.int (0 : Int32), .ref P]) rfl) ?_
  refine Tt.go (fun _ => Tr.put fmc3 hP rfl fw159 (k := 2) (by decide) rfl rfl ⟨rfl, rfl⟩) (?_ : Tt g l z_X3_clear (emVw M w) _ 5 [(0, .ref P)] [] ((fm_up M P 2 (0 : Int32)), w))
  exact Tt.ret (Tr.vret rfl rfl)
theorem c_X3_clear (g : fm_G) (l : Launch) (hl : l.stackTraces = false) (P : Nat) (hP : fm_kd g P = 3) (M : fm_Mem) (w : fm_W) : ∀ r, f_X3_clear P M = some r → fC g l z_X3_clear [.ref P] (M, w) (emVw M w r) := fun r hr => fC.of (by decide) rfl o_X3_clear hl (Nat.le_of_ble_eq_true rfl) (t_X3_clear g l hl P hP M w r hr)
def k_X2_clear : List (Nat × Instr × Nat) := [(0, .aload_n 0, 1), (1, .getfield 12, 3), (4, .invokevirtual 28, 3), (7, .aload_n 0, 1), (8, .getfield 21, 3), (11, .invokevirtual 31, 3), (14, .aload_n 0, 1), (15, .getfield 25, 3), (18, .invokevirtual 31, 3), (21, .aload_n 0, 1), (22, .iconst 0, 1), (23, .putfield 32, 3), (26, .aload_n 0, 1), (27, .iconst 0, 1), (28, .putfield 36, 3), (31, .return_, 1)]
def z_X2_clear : fm_Y := (yX2_clear, RX2, cX2_clear, 1, none, k_X2_clear, 2, 41)
theorem o_X2_clear : fm_dec z_X2_clear := (by decide +kernel : ∀ q ∈ k_X2_clear, decode cX2_clear q.1 = .ok q.2)
theorem cw_X2_clear : fm_cwV z_X2_clear := ⟨⟨lw_in 646 (by decide +kernel) (by decide +kernel), lw_in 95 (by decide +kernel) (by decide +kernel), by decide, by decide⟩, lw_in 644 (by decide +kernel) (by decide +kernel), lw_in 645 (by decide +kernel) (by decide +kernel)⟩
theorem pn_X2_clear : (parseMethodDescriptor z_X2_clear.1.desc).map (fun d => d.parameters.length) = some 0 := by decide +kernel
def f_X2_clear (P : Nat) (M : fm_Mem) : Option (fm_Mem) := Option.bind (f_X3_clear (P + 1) M) (fun v1 => Option.bind (f_X1_clear (P + 6) v1) (fun v2 => Option.bind (f_X1_clear (P + 11) v2) (fun v3 => some ((fm_up (fm_up v3 P 3 (0 : Int32)) P 4 (0 : Int32))))))
set_option maxRecDepth 100000 in
set_option maxHeartbeats 4000000 in
theorem t_X2_clear (g : fm_G) (l : Launch) (hl : l.stackTraces = false) (P : Nat) (hP : fm_kd g P = 2) (M : fm_Mem) (w : fm_W) : Tt g l z_X2_clear (emVw M w) (f_X2_clear P M) 0 [(0, .ref P)] [] (M, w) := by
  rw [f_X2_clear]
  refine Tt.go (fun _ => Tr.run 1 (pc' := 1) (lv' := [(0, .ref P)]) (st' := [.ref P]) rfl) ?_
  refine Tt.go (fun _ => Tr.get fmc2 hP rfl fw185 (k := 0) (by decide) rfl) (?_ : Tt g l z_X2_clear (emVw M w) _ 4 [(0, .ref P)] [.ref (P + 1)] (M, w))
  refine Tt.callV (As := []) (rest := []) (c_X3_clear g l hl (P + 1) (fmk_2_0 hP) M w) (fmk_2_0 hP) (by decide) rfl rfl cw_X3_clear fw647 pn_X3_clear (Nat.le_of_ble_eq_true rfl) (Nat.le_of_ble_eq_true rfl) (Nat.le_of_ble_eq_true rfl) rfl (fun v1 => (?_ : Tt g l z_X2_clear (emVw M w) _ 7 [(0, .ref P)] [] (v1, w)))
  refine Tt.go (fun _ => Tr.run 1 (pc' := 8) (lv' := [(0, .ref P)]) (st' := [.ref P]) rfl) ?_
  refine Tt.go (fun _ => Tr.get fmc2 hP rfl fw188 (k := 1) (by decide) rfl) (?_ : Tt g l z_X2_clear (emVw M w) _ 11 [(0, .ref P)] [.ref (P + 6)] (v1, w))
  refine Tt.callV (As := []) (rest := []) (c_X1_clear g l hl (P + 6) (fmk_2_1 hP) v1 w) (fmk_2_1 hP) (by decide) rfl rfl cw_X1_clear fw651 pn_X1_clear (Nat.le_of_ble_eq_true rfl) (Nat.le_of_ble_eq_true rfl) (Nat.le_of_ble_eq_true rfl) rfl (fun v2 => (?_ : Tt g l z_X2_clear (emVw M w) _ 14 [(0, .ref P)] [] (v2, w)))
  refine Tt.go (fun _ => Tr.run 1 (pc' := 15) (lv' := [(0, .ref P)]) (st' := [.ref P]) rfl) ?_
  refine Tt.go (fun _ => Tr.get fmc2 hP rfl fw190 (k := 2) (by decide) rfl) (?_ : Tt g l z_X2_clear (emVw M w) _ 18 [(0, .ref P)] [.ref (P + 11)] (v2, w))
  refine Tt.callV (As := []) (rest := []) (c_X1_clear g l hl (P + 11) (fmk_2_2 hP) v2 w) (fmk_2_2 hP) (by decide) rfl rfl cw_X1_clear fw651 pn_X1_clear (Nat.le_of_ble_eq_true rfl) (Nat.le_of_ble_eq_true rfl) (Nat.le_of_ble_eq_true rfl) rfl (fun v3 => (?_ : Tt g l z_X2_clear (emVw M w) _ 21 [(0, .ref P)] [] (v3, w)))
  refine Tt.go (fun _ => Tr.run 2 (pc' := 23) (lv' := [(0, .ref P)]) (st' := [.int (0 : Int32), .ref P]) rfl) ?_
  refine Tt.go (fun _ => Tr.put fmc2 hP rfl fw192 (k := 3) (by decide) rfl rfl ⟨rfl, rfl⟩) (?_ : Tt g l z_X2_clear (emVw M w) _ 26 [(0, .ref P)] [] ((fm_up v3 P 3 (0 : Int32)), w))
  refine Tt.go (fun _ => Tr.run 2 (pc' := 28) (lv' := [(0, .ref P)]) (st' := [.int (0 : Int32), .ref P]) rfl) ?_
  refine Tt.go (fun _ => Tr.put fmc2 hP rfl fw194 (k := 4) (by decide) rfl rfl ⟨rfl, rfl⟩) (?_ : Tt g l z_X2_clear (emVw M w) _ 31 [(0, .ref P)] [] ((fm_up (fm_up v3 P 3 (0 : Int32)) P 4 (0 : Int32)), w))
  exact Tt.ret (Tr.vret rfl rfl)
theorem c_X2_clear (g : fm_G) (l : Launch) (hl : l.stackTraces = false) (P : Nat) (hP : fm_kd g P = 2) (M : fm_Mem) (w : fm_W) : ∀ r, f_X2_clear P M = some r → fC g l z_X2_clear [.ref P] (M, w) (emVw M w r) := fun r hr => fC.of (by decide) rfl o_X2_clear hl (Nat.le_of_ble_eq_true rfl) (t_X2_clear g l hl P hP M w r hr)
def k_X3_copyFrom : List (Nat × Instr × Nat) := [(0, .aload_n 0, 1), (1, .getfield 14, 3), (4, .aload_n 1, 1), (5, .getfield 14, 3), (8, .invokevirtual 31, 3), (11, .aload_n 0, 1), (12, .getfield 20, 3), (15, .aload_n 1, 1), (16, .getfield 20, 3), (19, .invokevirtual 31, 3), (22, .aload_n 0, 1), (23, .aload_n 1, 1), (24, .getfield 23, 3), (27, .putfield 23, 3), (30, .return_, 1)]
def z_X3_copyFrom : fm_Y := (yX3_copyFrom, RX3, cX3_copyFrom, 2, none, k_X3_copyFrom, 2, 62)
theorem o_X3_copyFrom : fm_dec z_X3_copyFrom := (by decide +kernel : ∀ q ∈ k_X3_copyFrom, decode cX3_copyFrom q.1 = .ok q.2)
theorem cw_X3_copyFrom : fm_cwV z_X3_copyFrom := ⟨⟨lw_in 404 (by decide +kernel) (by decide +kernel), lw_in 96 (by decide +kernel) (by decide +kernel), by decide, by decide⟩, lw_in 402 (by decide +kernel) (by decide +kernel), lw_in 403 (by decide +kernel) (by decide +kernel)⟩
theorem pn_X3_copyFrom : (parseMethodDescriptor z_X3_copyFrom.1.desc).map (fun d => d.parameters.length) = some 1 := by decide +kernel
def f_X3_copyFrom (P : Nat) (r1 : Nat) (M : fm_Mem) : Option (fm_Mem) := Option.bind (f_X4_copyFrom (P + 1) 20 (r1 + 1) 20 M) (fun v1 => Option.bind (f_X4_copyFrom (P + 3) 20 (r1 + 3) 20 v1) (fun v2 => some ((fm_up v2 P 2 (v2 r1 2)))))
set_option maxRecDepth 100000 in
set_option maxHeartbeats 4000000 in
theorem t_X3_copyFrom (g : fm_G) (l : Launch) (hl : l.stackTraces = false) (P : Nat) (r1 : Nat) (hP : fm_kd g P = 3) (hr1 : fm_kd g r1 = 3) (M : fm_Mem) (w : fm_W) : Tt g l z_X3_copyFrom (emVw M w) (f_X3_copyFrom P r1 M) 0 [(0, .ref P), (1, .ref r1)] [] (M, w) := by
  rw [f_X3_copyFrom]
  refine Tt.go (fun _ => Tr.run 1 (pc' := 1) (lv' := [(0, .ref P), (1, .ref r1)]) (st' := [.ref P]) rfl) ?_
  refine Tt.go (fun _ => Tr.get fmc3 hP rfl fw157 (k := 0) (by decide) rfl) (?_ : Tt g l z_X3_copyFrom (emVw M w) _ 4 [(0, .ref P), (1, .ref r1)] [.ref (P + 1)] (M, w))
  refine Tt.go (fun _ => Tr.run 1 (pc' := 5) (lv' := [(0, .ref P), (1, .ref r1)]) (st' := [.ref r1, .ref (P + 1)]) rfl) ?_
  refine Tt.go (fun _ => Tr.get fmc3 hr1 rfl fw157 (k := 0) (by decide) rfl) (?_ : Tt g l z_X3_copyFrom (emVw M w) _ 8 [(0, .ref P), (1, .ref r1)] [.ref (r1 + 1), .ref (P + 1)] (M, w))
  refine Tt.callV (As := [.ref (r1 + 1)]) (rest := []) (c_X4_copyFrom g l hl (P + 1) 20 (r1 + 1) 20 (fmk_3_0 hP) (fmn_3_0 hP) (by decide) (fmk_3_0 hr1) (fmn_3_0 hr1) (by decide) M w) (fmk_3_0 hP) (by decide) rfl rfl cw_X4_copyFrom fw405 pn_X4_copyFrom (Nat.le_of_ble_eq_true rfl) (Nat.le_of_ble_eq_true rfl) (Nat.le_of_ble_eq_true rfl) rfl (fun v1 => (?_ : Tt g l z_X3_copyFrom (emVw M w) _ 11 [(0, .ref P), (1, .ref r1)] [] (v1, w)))
  refine Tt.go (fun _ => Tr.run 1 (pc' := 12) (lv' := [(0, .ref P), (1, .ref r1)]) (st' := [.ref P]) rfl) ?_
  refine Tt.go (fun _ => Tr.get fmc3 hP rfl fw158 (k := 1) (by decide) rfl) (?_ : Tt g l z_X3_copyFrom (emVw M w) _ 15 [(0, .ref P), (1, .ref r1)] [.ref (P + 3)] (v1, w))
  refine Tt.go (fun _ => Tr.run 1 (pc' := 16) (lv' := [(0, .ref P), (1, .ref r1)]) (st' := [.ref r1, .ref (P + 3)]) rfl) ?_
  refine Tt.go (fun _ => Tr.get fmc3 hr1 rfl fw158 (k := 1) (by decide) rfl) (?_ : Tt g l z_X3_copyFrom (emVw M w) _ 19 [(0, .ref P), (1, .ref r1)] [.ref (r1 + 3), .ref (P + 3)] (v1, w))
  refine Tt.callV (As := [.ref (r1 + 3)]) (rest := []) (c_X4_copyFrom g l hl (P + 3) 20 (r1 + 3) 20 (fmk_3_1 hP) (fmn_3_1 hP) (by decide) (fmk_3_1 hr1) (fmn_3_1 hr1) (by decide) v1 w) (fmk_3_1 hP) (by decide) rfl rfl cw_X4_copyFrom fw405 pn_X4_copyFrom (Nat.le_of_ble_eq_true rfl) (Nat.le_of_ble_eq_true rfl) (Nat.le_of_ble_eq_true rfl) rfl (fun v2 => (?_ : Tt g l z_X3_copyFrom (emVw M w) _ 22 [(0, .ref P), (1, .ref r1)] [] (v2, w)))
  refine Tt.go (fun _ => Tr.run 2 (pc' := 24) (lv' := [(0, .ref P), (1, .ref r1)]) (st' := [.ref r1, .ref P]) rfl) ?_
  refine Tt.go (fun _ => Tr.get fmc3 hr1 rfl fw159 (k := 2) (by decide) rfl) (?_ : Tt g l z_X3_copyFrom (emVw M w) _ 27 [(0, .ref P), (1, .ref r1)] [.int (v2 r1 2), .ref P] (v2, w))
  refine Tt.go (fun _ => Tr.put fmc3 hP rfl fw159 (k := 2) (by decide) rfl rfl ⟨rfl, rfl⟩) (?_ : Tt g l z_X3_copyFrom (emVw M w) _ 30 [(0, .ref P), (1, .ref r1)] [] ((fm_up v2 P 2 (v2 r1 2)), w))
  exact Tt.ret (Tr.vret rfl rfl)
theorem c_X3_copyFrom (g : fm_G) (l : Launch) (hl : l.stackTraces = false) (P : Nat) (r1 : Nat) (hP : fm_kd g P = 3) (hr1 : fm_kd g r1 = 3) (M : fm_Mem) (w : fm_W) : ∀ r, f_X3_copyFrom P r1 M = some r → fC g l z_X3_copyFrom [.ref P, .ref r1] (M, w) (emVw M w r) := fun r hr => fC.of (by decide) rfl o_X3_copyFrom hl (Nat.le_of_ble_eq_true rfl) (t_X3_copyFrom g l hl P r1 hP hr1 M w r hr)
def k_X2_copyFrom : List (Nat × Instr × Nat) := [(0, .aload_n 0, 1), (1, .getfield 12, 3), (4, .aload_n 1, 1), (5, .getfield 12, 3), (8, .invokevirtual 39, 3), (11, .aload_n 0, 1), (12, .getfield 21, 3), (15, .aload_n 1, 1), (16, .getfield 21, 3), (19, .invokevirtual 43, 3), (22, .aload_n 0, 1), (23, .getfield 25, 3), (26, .aload_n 1, 1), (27, .getfield 25, 3), (30, .invokevirtual 43, 3), (33, .aload_n 0, 1), (34, .aload_n 1, 1), (35, .getfield 32, 3), (38, .putfield 32, 3), (41, .aload_n 0, 1), (42, .aload_n 1, 1), (43, .getfield 36, 3), (46, .putfield 36, 3), (49, .return_, 1)]
def z_X2_copyFrom : fm_Y := (yX2_copyFrom, RX2, cX2_copyFrom, 2, none, k_X2_copyFrom, 3, 83)
theorem o_X2_copyFrom : fm_dec z_X2_copyFrom := (by decide +kernel : ∀ q ∈ k_X2_copyFrom, decode cX2_copyFrom q.1 = .ok q.2)
theorem cw_X2_copyFrom : fm_cwV z_X2_copyFrom := ⟨⟨lw_in 400 (by decide +kernel) (by decide +kernel), lw_in 95 (by decide +kernel) (by decide +kernel), by decide, by decide⟩, lw_in 398 (by decide +kernel) (by decide +kernel), lw_in 399 (by decide +kernel) (by decide +kernel)⟩
theorem pn_X2_copyFrom : (parseMethodDescriptor z_X2_copyFrom.1.desc).map (fun d => d.parameters.length) = some 1 := by decide +kernel
def f_X2_copyFrom (P : Nat) (r1 : Nat) (M : fm_Mem) : Option (fm_Mem) := Option.bind (f_X3_copyFrom (P + 1) (r1 + 1) M) (fun v1 => Option.bind (f_X1_copyFrom (P + 6) (r1 + 6) v1) (fun v2 => Option.bind (f_X1_copyFrom (P + 11) (r1 + 11) v2) (fun v3 => some ((fm_up (fm_up v3 P 3 (v3 r1 3)) P 4 ((fm_up v3 P 3 (v3 r1 3)) r1 4))))))
set_option maxRecDepth 100000 in
set_option maxHeartbeats 4000000 in
theorem t_X2_copyFrom (g : fm_G) (l : Launch) (hl : l.stackTraces = false) (P : Nat) (r1 : Nat) (hP : fm_kd g P = 2) (hr1 : fm_kd g r1 = 2) (M : fm_Mem) (w : fm_W) : Tt g l z_X2_copyFrom (emVw M w) (f_X2_copyFrom P r1 M) 0 [(0, .ref P), (1, .ref r1)] [] (M, w) := by
  rw [f_X2_copyFrom]
  refine Tt.go (fun _ => Tr.run 1 (pc' := 1) (lv' := [(0, .ref P), (1, .ref r1)]) (st' := [.ref P]) rfl) ?_
  refine Tt.go (fun _ => Tr.get fmc2 hP rfl fw185 (k := 0) (by decide) rfl) (?_ : Tt g l z_X2_copyFrom (emVw M w) _ 4 [(0, .ref P), (1, .ref r1)] [.ref (P + 1)] (M, w))
  refine Tt.go (fun _ => Tr.run 1 (pc' := 5) (lv' := [(0, .ref P), (1, .ref r1)]) (st' := [.ref r1, .ref (P + 1)]) rfl) ?_
  refine Tt.go (fun _ => Tr.get fmc2 hr1 rfl fw185 (k := 0) (by decide) rfl) (?_ : Tt g l z_X2_copyFrom (emVw M w) _ 8 [(0, .ref P), (1, .ref r1)] [.ref (r1 + 1), .ref (P + 1)] (M, w))
  refine Tt.callV (As := [.ref (r1 + 1)]) (rest := []) (c_X3_copyFrom g l hl (P + 1) (r1 + 1) (fmk_2_0 hP) (fmk_2_0 hr1) M w) (fmk_2_0 hP) (by decide) rfl rfl cw_X3_copyFrom fw401 pn_X3_copyFrom (Nat.le_of_ble_eq_true rfl) (Nat.le_of_ble_eq_true rfl) (Nat.le_of_ble_eq_true rfl) rfl (fun v1 => (?_ : Tt g l z_X2_copyFrom (emVw M w) _ 11 [(0, .ref P), (1, .ref r1)] [] (v1, w)))
  refine Tt.go (fun _ => Tr.run 1 (pc' := 12) (lv' := [(0, .ref P), (1, .ref r1)]) (st' := [.ref P]) rfl) ?_
  refine Tt.go (fun _ => Tr.get fmc2 hP rfl fw188 (k := 1) (by decide) rfl) (?_ : Tt g l z_X2_copyFrom (emVw M w) _ 15 [(0, .ref P), (1, .ref r1)] [.ref (P + 6)] (v1, w))
  refine Tt.go (fun _ => Tr.run 1 (pc' := 16) (lv' := [(0, .ref P), (1, .ref r1)]) (st' := [.ref r1, .ref (P + 6)]) rfl) ?_
  refine Tt.go (fun _ => Tr.get fmc2 hr1 rfl fw188 (k := 1) (by decide) rfl) (?_ : Tt g l z_X2_copyFrom (emVw M w) _ 19 [(0, .ref P), (1, .ref r1)] [.ref (r1 + 6), .ref (P + 6)] (v1, w))
  refine Tt.callV (As := [.ref (r1 + 6)]) (rest := []) (c_X1_copyFrom g l hl (P + 6) (r1 + 6) (fmk_2_1 hP) (fmk_2_1 hr1) v1 w) (fmk_2_1 hP) (by decide) rfl rfl cw_X1_copyFrom fw415 pn_X1_copyFrom (Nat.le_of_ble_eq_true rfl) (Nat.le_of_ble_eq_true rfl) (Nat.le_of_ble_eq_true rfl) rfl (fun v2 => (?_ : Tt g l z_X2_copyFrom (emVw M w) _ 22 [(0, .ref P), (1, .ref r1)] [] (v2, w)))
  refine Tt.go (fun _ => Tr.run 1 (pc' := 23) (lv' := [(0, .ref P), (1, .ref r1)]) (st' := [.ref P]) rfl) ?_
  refine Tt.go (fun _ => Tr.get fmc2 hP rfl fw190 (k := 2) (by decide) rfl) (?_ : Tt g l z_X2_copyFrom (emVw M w) _ 26 [(0, .ref P), (1, .ref r1)] [.ref (P + 11)] (v2, w))
  refine Tt.go (fun _ => Tr.run 1 (pc' := 27) (lv' := [(0, .ref P), (1, .ref r1)]) (st' := [.ref r1, .ref (P + 11)]) rfl) ?_
  refine Tt.go (fun _ => Tr.get fmc2 hr1 rfl fw190 (k := 2) (by decide) rfl) (?_ : Tt g l z_X2_copyFrom (emVw M w) _ 30 [(0, .ref P), (1, .ref r1)] [.ref (r1 + 11), .ref (P + 11)] (v2, w))
  refine Tt.callV (As := [.ref (r1 + 11)]) (rest := []) (c_X1_copyFrom g l hl (P + 11) (r1 + 11) (fmk_2_2 hP) (fmk_2_2 hr1) v2 w) (fmk_2_2 hP) (by decide) rfl rfl cw_X1_copyFrom fw415 pn_X1_copyFrom (Nat.le_of_ble_eq_true rfl) (Nat.le_of_ble_eq_true rfl) (Nat.le_of_ble_eq_true rfl) rfl (fun v3 => (?_ : Tt g l z_X2_copyFrom (emVw M w) _ 33 [(0, .ref P), (1, .ref r1)] [] (v3, w)))
  refine Tt.go (fun _ => Tr.run 2 (pc' := 35) (lv' := [(0, .ref P), (1, .ref r1)]) (st' := [.ref r1, .ref P]) rfl) ?_
  refine Tt.go (fun _ => Tr.get fmc2 hr1 rfl fw192 (k := 3) (by decide) rfl) (?_ : Tt g l z_X2_copyFrom (emVw M w) _ 38 [(0, .ref P), (1, .ref r1)] [.int (v3 r1 3), .ref P] (v3, w))
  refine Tt.go (fun _ => Tr.put fmc2 hP rfl fw192 (k := 3) (by decide) rfl rfl ⟨rfl, rfl⟩) (?_ : Tt g l z_X2_copyFrom (emVw M w) _ 41 [(0, .ref P), (1, .ref r1)] [] ((fm_up v3 P 3 (v3 r1 3)), w))
  refine Tt.go (fun _ => Tr.run 2 (pc' := 43) (lv' := [(0, .ref P), (1, .ref r1)]) (st' := [.ref r1, .ref P]) rfl) ?_
  refine Tt.go (fun _ => Tr.get fmc2 hr1 rfl fw194 (k := 4) (by decide) rfl) (?_ : Tt g l z_X2_copyFrom (emVw M w) _ 46 [(0, .ref P), (1, .ref r1)] [.int ((fm_up v3 P 3 (v3 r1 3)) r1 4), .ref P] ((fm_up v3 P 3 (v3 r1 3)), w))
  refine Tt.go (fun _ => Tr.put fmc2 hP rfl fw194 (k := 4) (by decide) rfl rfl ⟨rfl, rfl⟩) (?_ : Tt g l z_X2_copyFrom (emVw M w) _ 49 [(0, .ref P), (1, .ref r1)] [] ((fm_up (fm_up v3 P 3 (v3 r1 3)) P 4 ((fm_up v3 P 3 (v3 r1 3)) r1 4)), w))
  exact Tt.ret (Tr.vret rfl rfl)
theorem c_X2_copyFrom (g : fm_G) (l : Launch) (hl : l.stackTraces = false) (P : Nat) (r1 : Nat) (hP : fm_kd g P = 2) (hr1 : fm_kd g r1 = 2) (M : fm_Mem) (w : fm_W) : ∀ r, f_X2_copyFrom P r1 M = some r → fC g l z_X2_copyFrom [.ref P, .ref r1] (M, w) (emVw M w r) := fun r hr => fC.of (by decide) rfl o_X2_copyFrom hl (Nat.le_of_ble_eq_true rfl) (t_X2_copyFrom g l hl P r1 hP hr1 M w r hr)
def k_X6_sign : List (Nat × Instr × Nat) := [(0, .lload_n 0, 1), (1, .lconst 0, 1), (2, .lcmp, 1), (3, .ifCond .le 7, 3), (6, .iconst 1, 1), (7, .goto 14, 3), (10, .lload_n 0, 1), (11, .lconst 0, 1), (12, .lcmp, 1), (13, .ifCond .ge 7, 3), (16, .iconst (-1), 1), (17, .goto 4, 3), (20, .iconst 0, 1), (21, .ireturn, 1)]
def z_X6_sign : fm_Y := (yX6_sign, RX6, cX6_sign, 2, (some .int), k_X6_sign, 0, 0)
theorem o_X6_sign : fm_dec z_X6_sign := (by decide +kernel : ∀ q ∈ k_X6_sign, decode cX6_sign q.1 = .ok q.2)
theorem cw_X6_sign : fm_cwS z_X6_sign := ⟨⟨lw_in 548 (by decide +kernel) (by decide +kernel), lw_in 91 (by decide +kernel) (by decide +kernel), by decide, by decide⟩, lw_in 547 (by decide +kernel) (by decide +kernel)⟩
theorem pn_X6_sign : (parseMethodDescriptor z_X6_sign.1.desc).map (fun d => d.parameters.length) = some 1 := by decide +kernel
def f_X6_sign_21 (a0 : Int64) (s0 : Int32) (M : fm_Mem) : Option (Int32) := some (s0)
set_option maxRecDepth 100000 in
set_option maxHeartbeats 4000000 in
theorem t_X6_sign_21 (g : fm_G) (l : Launch) (hl : l.stackTraces = false) (a0 : Int64)  (w : fm_W)  (s0 : Int32)  (M : fm_Mem) : Tt g l z_X6_sign (emI M w) (f_X6_sign_21 a0  s0 M) 21 [] [.int s0] (M, w) := by
  rw [f_X6_sign_21]
  exact Tt.ret (Tr.iret rfl rfl)
def f_X6_sign (a0 : Int64) (M : fm_Mem) : Option (Int32) := if (lg_cmp a0 (0 : Int64)) ≤ 0 then (if 0 ≤ (lg_cmp a0 (0 : Int64)) then (f_X6_sign_21 a0 (0 : Int32) M) else (f_X6_sign_21 a0 (-1 : Int32) M)) else (f_X6_sign_21 a0 (1 : Int32) M)
set_option maxRecDepth 100000 in
set_option maxHeartbeats 4000000 in
theorem t_X6_sign (g : fm_G) (l : Launch) (hl : l.stackTraces = false) (a0 : Int64)  (M : fm_Mem) (w : fm_W) : Tt g l z_X6_sign (emI M w) (f_X6_sign a0 M) 0 [(0, .long a0)] [] (M, w) := by
  rw [f_X6_sign]
  refine Tt.go (fun _ => Tr.run 3 (pc' := 3) (lv' := [(0, .long a0)]) (st' := [.int (lg_cmp a0 (0 : Int64))]) rfl) ?_
  refine Tt.if_le (tgt := 10) rfl (by decide) ?_ ?_
  · refine Tt.go (fun _ => Tr.run 3 (pc' := 13) (lv' := [(0, .long a0)]) (st' := [.int (lg_cmp a0 (0 : Int64))]) rfl) ?_
    refine Tt.if_ge (tgt := 20) rfl (by decide) ?_ ?_
    · refine Tt.go (fun _ => Tr.run 1 (pc' := 21) (lv' := [(0, .long a0)]) (st' := [.int (0 : Int32)]) rfl) ?_
      refine Tt.go (fun _ => Tr.sub (lv' := []) [] rfl) ?_
      exact t_X6_sign_21 g l hl a0 w (0 : Int32) M
    · refine Tt.go (fun _ => Tr.run 2 (pc' := 21) (lv' := [(0, .long a0)]) (st' := [.int (-1 : Int32)]) rfl) ?_
      refine Tt.go (fun _ => Tr.sub (lv' := []) [] rfl) ?_
      exact t_X6_sign_21 g l hl a0 w (-1 : Int32) M
  · refine Tt.go (fun _ => Tr.run 2 (pc' := 21) (lv' := [(0, .long a0)]) (st' := [.int (1 : Int32)]) rfl) ?_
    refine Tt.go (fun _ => Tr.sub (lv' := []) [] rfl) ?_
    exact t_X6_sign_21 g l hl a0 w (1 : Int32) M
theorem c_X6_sign (g : fm_G) (l : Launch) (hl : l.stackTraces = false) (a0 : Int64)  (M : fm_Mem) (w : fm_W) : ∀ r, f_X6_sign a0 M = some r → fC g l z_X6_sign [.long a0] (M, w) (emI M w r) := fun r hr => fC.of (by decide) rfl o_X6_sign hl (Nat.le_of_ble_eq_true rfl) (t_X6_sign g l hl a0  M w r hr)
def k_X3_circleSide : List (Nat × Instr × Nat) := [(0, .aload_n 0, 1), (1, .getfield 14, 3), (4, .iload_n 1, 1), (5, .invokevirtual 27, 3), (8, .iload 4, 2), (10, .isub, 1), (11, .i2l, 1), (12, .lstore 6, 2), (14, .aload_n 0, 1), (15, .getfield 20, 3), (18, .iload_n 1, 1), (19, .invokevirtual 27, 3), (22, .iload 5, 2), (24, .isub, 1), (25, .i2l, 1), (26, .lstore 8, 2), (28, .aload_n 0, 1), (29, .getfield 14, 3), (32, .iload_n 2, 1), (33, .invokevirtual 27, 3), (36, .iload 4, 2), (38, .isub, 1), (39, .i2l, 1), (40, .lstore 10, 2), (42, .aload_n 0, 1), (43, .getfield 20, 3), (46, .iload_n 2, 1), (47, .invokevirtual 27, 3), (50, .iload 5, 2), (52, .isub, 1), (53, .i2l, 1), (54, .lstore 12, 2), (56, .aload_n 0, 1), (57, .getfield 14, 3), (60, .iload_n 3, 1), (61, .invokevirtual 27, 3), (64, .iload 4, 2), (66, .isub, 1), (67, .i2l, 1), (68, .lstore 14, 2), (70, .aload_n 0, 1), (71, .getfield 20, 3), (74, .iload_n 3, 1), (75, .invokevirtual 27, 3), (78, .iload 5, 2), (80, .isub, 1), (81, .i2l, 1), (82, .lstore 16, 2), (84, .lload 6, 2), (86, .lload 6, 2), (88, .lmul, 1), (89, .lload 8, 2), (91, .lload 8, 2), (93, .lmul, 1), (94, .ladd, 1), (95, .lstore 18, 2), (97, .lload 10, 2), (99, .lload 10, 2), (101, .lmul, 1), (102, .lload 12, 2), (104, .lload 12, 2), (106, .lmul, 1), (107, .ladd, 1), (108, .lstore 20, 2), (110, .lload 14, 2), (112, .lload 14, 2), (114, .lmul, 1), (115, .lload 16, 2), (117, .lload 16, 2), (119, .lmul, 1), (120, .ladd, 1), (121, .lstore 22, 2), (123, .lload 18, 2), (125, .lload 10, 2), (127, .lload 16, 2), (129, .lmul, 1), (130, .lload 12, 2), (132, .lload 14, 2), (134, .lmul, 1), (135, .lsub, 1), (136, .lmul, 1), (137, .lload 20, 2), (139, .lload 6, 2), (141, .lload 16, 2), (143, .lmul, 1), (144, .lload 8, 2), (146, .lload 14, 2), (148, .lmul, 1), (149, .lsub, 1), (150, .lmul, 1), (151, .lsub, 1), (152, .lload 22, 2), (154, .lload 6, 2), (156, .lload 12, 2), (158, .lmul, 1), (159, .lload 8, 2), (161, .lload 10, 2), (163, .lmul, 1), (164, .lsub, 1), (165, .lmul, 1), (166, .ladd, 1), (167, .lstore 24, 2), (169, .lload 10, 2), (171, .lload 6, 2), (173, .lsub, 1), (174, .lload 16, 2), (176, .lload 8, 2), (178, .lsub, 1), (179, .lmul, 1), (180, .lload 12, 2), (182, .lload 8, 2), (184, .lsub, 1), (185, .lload 14, 2), (187, .lload 6, 2), (189, .lsub, 1), (190, .lmul, 1), (191, .lsub, 1), (192, .lstore 26, 2), (194, .lload 24, 2), (196, .lload 26, 2), (198, .lmul, 1), (199, .invokestatic 55, 3), (202, .ireturn, 1)]
def z_X3_circleSide : fm_Y := (yX3_circleSide, RX3, cX3_circleSide, 28, (some .int), k_X3_circleSide, 1, 21)
theorem o_X3_circleSide : fm_dec z_X3_circleSide := (by decide +kernel : ∀ q ∈ k_X3_circleSide, decode cX3_circleSide q.1 = .ok q.2)
theorem cw_X3_circleSide : fm_cwV z_X3_circleSide := ⟨⟨lw_in 545 (by decide +kernel) (by decide +kernel), lw_in 96 (by decide +kernel) (by decide +kernel), by decide, by decide⟩, lw_in 543 (by decide +kernel) (by decide +kernel), lw_in 544 (by decide +kernel) (by decide +kernel)⟩
theorem pn_X3_circleSide : (parseMethodDescriptor z_X3_circleSide.1.desc).map (fun d => d.parameters.length) = some 5 := by decide +kernel
def f_X3_circleSide (P : Nat) (a1 : Int32) (a2 : Int32) (a3 : Int32) (a4 : Int32) (a5 : Int32) (M : fm_Mem) : Option (Int32) := Option.bind (f_X4_get (P + 1) 20 a1 M) (fun v1 => Option.bind (f_X4_get (P + 3) 20 a1 M) (fun v2 => Option.bind (f_X4_get (P + 1) 20 a2 M) (fun v3 => Option.bind (f_X4_get (P + 3) 20 a2 M) (fun v4 => Option.bind (f_X4_get (P + 1) 20 a3 M) (fun v5 => Option.bind (f_X4_get (P + 3) 20 a3 M) (fun v6 => Option.bind (f_X6_sign (((((((Int32.toInt64 (v1 - a4)) * (Int32.toInt64 (v1 - a4))) + ((Int32.toInt64 (v2 - a5)) * (Int32.toInt64 (v2 - a5)))) * (((Int32.toInt64 (v3 - a4)) * (Int32.toInt64 (v6 - a5))) - ((Int32.toInt64 (v4 - a5)) * (Int32.toInt64 (v5 - a4))))) - ((((Int32.toInt64 (v3 - a4)) * (Int32.toInt64 (v3 - a4))) + ((Int32.toInt64 (v4 - a5)) * (Int32.toInt64 (v4 - a5)))) * (((Int32.toInt64 (v1 - a4)) * (Int32.toInt64 (v6 - a5))) - ((Int32.toInt64 (v2 - a5)) * (Int32.toInt64 (v5 - a4)))))) + ((((Int32.toInt64 (v5 - a4)) * (Int32.toInt64 (v5 - a4))) + ((Int32.toInt64 (v6 - a5)) * (Int32.toInt64 (v6 - a5)))) * (((Int32.toInt64 (v1 - a4)) * (Int32.toInt64 (v4 - a5))) - ((Int32.toInt64 (v2 - a5)) * (Int32.toInt64 (v3 - a4)))))) * ((((Int32.toInt64 (v3 - a4)) - (Int32.toInt64 (v1 - a4))) * ((Int32.toInt64 (v6 - a5)) - (Int32.toInt64 (v2 - a5)))) - (((Int32.toInt64 (v4 - a5)) - (Int32.toInt64 (v2 - a5))) * ((Int32.toInt64 (v5 - a4)) - (Int32.toInt64 (v1 - a4)))))) M) (fun v7 => some (v7))))))))
set_option maxRecDepth 100000 in
set_option maxHeartbeats 4000000 in
theorem t_X3_circleSide (g : fm_G) (l : Launch) (hl : l.stackTraces = false) (P : Nat) (a1 : Int32) (a2 : Int32) (a3 : Int32) (a4 : Int32) (a5 : Int32) (hP : fm_kd g P = 3) (M : fm_Mem) (w : fm_W) : Tt g l z_X3_circleSide (emI M w) (f_X3_circleSide P a1 a2 a3 a4 a5 M) 0 [(0, .ref P), (1, .int a1), (2, .int a2), (3, .int a3), (4, .int a4), (5, .int a5)] [] (M, w) := by
  rw [f_X3_circleSide]
  refine Tt.go (fun _ => Tr.run 1 (pc' := 1) (lv' := [(0, .ref P), (1, .int a1), (2, .int a2), (3, .int a3), (4, .int a4), (5, .int a5)]) (st' := [.ref P]) rfl) ?_
  refine Tt.go (fun _ => Tr.get fmc3 hP rfl fw157 (k := 0) (by decide) rfl) (?_ : Tt g l z_X3_circleSide (emI M w) _ 4 [(0, .ref P), (1, .int a1), (2, .int a2), (3, .int a3), (4, .int a4), (5, .int a5)] [.ref (P + 1)] (M, w))
  refine Tt.go (fun _ => Tr.run 1 (pc' := 5) (lv' := [(0, .ref P), (1, .int a1), (2, .int a2), (3, .int a3), (4, .int a4), (5, .int a5)]) (st' := [.int a1, .ref (P + 1)]) rfl) ?_
  refine Tt.callV (As := [.int a1]) (rest := []) (c_X4_get g l hl (P + 1) 20 a1 (fmk_3_0 hP) (fmn_3_0 hP) (by decide) M w) (fmk_3_0 hP) (by decide) rfl rfl cw_X4_get fw337 pn_X4_get (Nat.le_of_ble_eq_true rfl) (Nat.le_of_ble_eq_true rfl) (Nat.le_of_ble_eq_true rfl) rfl (fun v1 => (?_ : Tt g l z_X3_circleSide (emI M w) _ 8 [(0, .ref P), (1, .int a1), (2, .int a2), (3, .int a3), (4, .int a4), (5, .int a5)] [.int v1] (M, w)))
  refine Tt.go (fun _ => Tr.run 5 (pc' := 15) (lv' := [(6, .long (Int32.toInt64 (v1 - a4))), (0, .ref P), (1, .int a1), (2, .int a2), (3, .int a3), (4, .int a4), (5, .int a5)]) (st' := [.ref P]) rfl) ?_
  refine Tt.go (fun _ => Tr.get fmc3 hP rfl fw158 (k := 1) (by decide) rfl) (?_ : Tt g l z_X3_circleSide (emI M w) _ 18 [(6, .long (Int32.toInt64 (v1 - a4))), (0, .ref P), (1, .int a1), (2, .int a2), (3, .int a3), (4, .int a4), (5, .int a5)] [.ref (P + 3)] (M, w))
  refine Tt.go (fun _ => Tr.run 1 (pc' := 19) (lv' := [(6, .long (Int32.toInt64 (v1 - a4))), (0, .ref P), (1, .int a1), (2, .int a2), (3, .int a3), (4, .int a4), (5, .int a5)]) (st' := [.int a1, .ref (P + 3)]) rfl) ?_
  refine Tt.callV (As := [.int a1]) (rest := []) (c_X4_get g l hl (P + 3) 20 a1 (fmk_3_1 hP) (fmn_3_1 hP) (by decide) M w) (fmk_3_1 hP) (by decide) rfl rfl cw_X4_get fw337 pn_X4_get (Nat.le_of_ble_eq_true rfl) (Nat.le_of_ble_eq_true rfl) (Nat.le_of_ble_eq_true rfl) rfl (fun v2 => (?_ : Tt g l z_X3_circleSide (emI M w) _ 22 [(6, .long (Int32.toInt64 (v1 - a4))), (0, .ref P), (1, .int a1), (2, .int a2), (3, .int a3), (4, .int a4), (5, .int a5)] [.int v2] (M, w)))
  refine Tt.go (fun _ => Tr.run 5 (pc' := 29) (lv' := [(8, .long (Int32.toInt64 (v2 - a5))), (6, .long (Int32.toInt64 (v1 - a4))), (0, .ref P), (1, .int a1), (2, .int a2), (3, .int a3), (4, .int a4), (5, .int a5)]) (st' := [.ref P]) rfl) ?_
  refine Tt.go (fun _ => Tr.get fmc3 hP rfl fw157 (k := 0) (by decide) rfl) (?_ : Tt g l z_X3_circleSide (emI M w) _ 32 [(8, .long (Int32.toInt64 (v2 - a5))), (6, .long (Int32.toInt64 (v1 - a4))), (0, .ref P), (1, .int a1), (2, .int a2), (3, .int a3), (4, .int a4), (5, .int a5)] [.ref (P + 1)] (M, w))
  refine Tt.go (fun _ => Tr.run 1 (pc' := 33) (lv' := [(8, .long (Int32.toInt64 (v2 - a5))), (6, .long (Int32.toInt64 (v1 - a4))), (0, .ref P), (1, .int a1), (2, .int a2), (3, .int a3), (4, .int a4), (5, .int a5)]) (st' := [.int a2, .ref (P + 1)]) rfl) ?_
  refine Tt.callV (As := [.int a2]) (rest := []) (c_X4_get g l hl (P + 1) 20 a2 (fmk_3_0 hP) (fmn_3_0 hP) (by decide) M w) (fmk_3_0 hP) (by decide) rfl rfl cw_X4_get fw337 pn_X4_get (Nat.le_of_ble_eq_true rfl) (Nat.le_of_ble_eq_true rfl) (Nat.le_of_ble_eq_true rfl) rfl (fun v3 => (?_ : Tt g l z_X3_circleSide (emI M w) _ 36 [(8, .long (Int32.toInt64 (v2 - a5))), (6, .long (Int32.toInt64 (v1 - a4))), (0, .ref P), (1, .int a1), (2, .int a2), (3, .int a3), (4, .int a4), (5, .int a5)] [.int v3] (M, w)))
  refine Tt.go (fun _ => Tr.run 5 (pc' := 43) (lv' := [(10, .long (Int32.toInt64 (v3 - a4))), (8, .long (Int32.toInt64 (v2 - a5))), (6, .long (Int32.toInt64 (v1 - a4))), (0, .ref P), (1, .int a1), (2, .int a2), (3, .int a3), (4, .int a4), (5, .int a5)]) (st' := [.ref P]) rfl) ?_
  refine Tt.go (fun _ => Tr.get fmc3 hP rfl fw158 (k := 1) (by decide) rfl) (?_ : Tt g l z_X3_circleSide (emI M w) _ 46 [(10, .long (Int32.toInt64 (v3 - a4))), (8, .long (Int32.toInt64 (v2 - a5))), (6, .long (Int32.toInt64 (v1 - a4))), (0, .ref P), (1, .int a1), (2, .int a2), (3, .int a3), (4, .int a4), (5, .int a5)] [.ref (P + 3)] (M, w))
  refine Tt.go (fun _ => Tr.run 1 (pc' := 47) (lv' := [(10, .long (Int32.toInt64 (v3 - a4))), (8, .long (Int32.toInt64 (v2 - a5))), (6, .long (Int32.toInt64 (v1 - a4))), (0, .ref P), (1, .int a1), (2, .int a2), (3, .int a3), (4, .int a4), (5, .int a5)]) (st' := [.int a2, .ref (P + 3)]) rfl) ?_
  refine Tt.callV (As := [.int a2]) (rest := []) (c_X4_get g l hl (P + 3) 20 a2 (fmk_3_1 hP) (fmn_3_1 hP) (by decide) M w) (fmk_3_1 hP) (by decide) rfl rfl cw_X4_get fw337 pn_X4_get (Nat.le_of_ble_eq_true rfl) (Nat.le_of_ble_eq_true rfl) (Nat.le_of_ble_eq_true rfl) rfl (fun v4 => (?_ : Tt g l z_X3_circleSide (emI M w) _ 50 [(10, .long (Int32.toInt64 (v3 - a4))), (8, .long (Int32.toInt64 (v2 - a5))), (6, .long (Int32.toInt64 (v1 - a4))), (0, .ref P), (1, .int a1), (2, .int a2), (3, .int a3), (4, .int a4), (5, .int a5)] [.int v4] (M, w)))
  refine Tt.go (fun _ => Tr.run 5 (pc' := 57) (lv' := [(12, .long (Int32.toInt64 (v4 - a5))), (10, .long (Int32.toInt64 (v3 - a4))), (8, .long (Int32.toInt64 (v2 - a5))), (6, .long (Int32.toInt64 (v1 - a4))), (0, .ref P), (1, .int a1), (2, .int a2), (3, .int a3), (4, .int a4), (5, .int a5)]) (st' := [.ref P]) rfl) ?_
  refine Tt.go (fun _ => Tr.get fmc3 hP rfl fw157 (k := 0) (by decide) rfl) (?_ : Tt g l z_X3_circleSide (emI M w) _ 60 [(12, .long (Int32.toInt64 (v4 - a5))), (10, .long (Int32.toInt64 (v3 - a4))), (8, .long (Int32.toInt64 (v2 - a5))), (6, .long (Int32.toInt64 (v1 - a4))), (0, .ref P), (1, .int a1), (2, .int a2), (3, .int a3), (4, .int a4), (5, .int a5)] [.ref (P + 1)] (M, w))
  refine Tt.go (fun _ => Tr.run 1 (pc' := 61) (lv' := [(12, .long (Int32.toInt64 (v4 - a5))), (10, .long (Int32.toInt64 (v3 - a4))), (8, .long (Int32.toInt64 (v2 - a5))), (6, .long (Int32.toInt64 (v1 - a4))), (0, .ref P), (1, .int a1), (2, .int a2), (3, .int a3), (4, .int a4), (5, .int a5)]) (st' := [.int a3, .ref (P + 1)]) rfl) ?_
  refine Tt.callV (As := [.int a3]) (rest := []) (c_X4_get g l hl (P + 1) 20 a3 (fmk_3_0 hP) (fmn_3_0 hP) (by decide) M w) (fmk_3_0 hP) (by decide) rfl rfl cw_X4_get fw337 pn_X4_get (Nat.le_of_ble_eq_true rfl) (Nat.le_of_ble_eq_true rfl) (Nat.le_of_ble_eq_true rfl) rfl (fun v5 => (?_ : Tt g l z_X3_circleSide (emI M w) _ 64 [(12, .long (Int32.toInt64 (v4 - a5))), (10, .long (Int32.toInt64 (v3 - a4))), (8, .long (Int32.toInt64 (v2 - a5))), (6, .long (Int32.toInt64 (v1 - a4))), (0, .ref P), (1, .int a1), (2, .int a2), (3, .int a3), (4, .int a4), (5, .int a5)] [.int v5] (M, w)))
  refine Tt.go (fun _ => Tr.run 5 (pc' := 71) (lv' := [(14, .long (Int32.toInt64 (v5 - a4))), (12, .long (Int32.toInt64 (v4 - a5))), (10, .long (Int32.toInt64 (v3 - a4))), (8, .long (Int32.toInt64 (v2 - a5))), (6, .long (Int32.toInt64 (v1 - a4))), (0, .ref P), (1, .int a1), (2, .int a2), (3, .int a3), (4, .int a4), (5, .int a5)]) (st' := [.ref P]) rfl) ?_
  refine Tt.go (fun _ => Tr.get fmc3 hP rfl fw158 (k := 1) (by decide) rfl) (?_ : Tt g l z_X3_circleSide (emI M w) _ 74 [(14, .long (Int32.toInt64 (v5 - a4))), (12, .long (Int32.toInt64 (v4 - a5))), (10, .long (Int32.toInt64 (v3 - a4))), (8, .long (Int32.toInt64 (v2 - a5))), (6, .long (Int32.toInt64 (v1 - a4))), (0, .ref P), (1, .int a1), (2, .int a2), (3, .int a3), (4, .int a4), (5, .int a5)] [.ref (P + 3)] (M, w))
  refine Tt.go (fun _ => Tr.run 1 (pc' := 75) (lv' := [(14, .long (Int32.toInt64 (v5 - a4))), (12, .long (Int32.toInt64 (v4 - a5))), (10, .long (Int32.toInt64 (v3 - a4))), (8, .long (Int32.toInt64 (v2 - a5))), (6, .long (Int32.toInt64 (v1 - a4))), (0, .ref P), (1, .int a1), (2, .int a2), (3, .int a3), (4, .int a4), (5, .int a5)]) (st' := [.int a3, .ref (P + 3)]) rfl) ?_
  refine Tt.callV (As := [.int a3]) (rest := []) (c_X4_get g l hl (P + 3) 20 a3 (fmk_3_1 hP) (fmn_3_1 hP) (by decide) M w) (fmk_3_1 hP) (by decide) rfl rfl cw_X4_get fw337 pn_X4_get (Nat.le_of_ble_eq_true rfl) (Nat.le_of_ble_eq_true rfl) (Nat.le_of_ble_eq_true rfl) rfl (fun v6 => (?_ : Tt g l z_X3_circleSide (emI M w) _ 78 [(14, .long (Int32.toInt64 (v5 - a4))), (12, .long (Int32.toInt64 (v4 - a5))), (10, .long (Int32.toInt64 (v3 - a4))), (8, .long (Int32.toInt64 (v2 - a5))), (6, .long (Int32.toInt64 (v1 - a4))), (0, .ref P), (1, .int a1), (2, .int a2), (3, .int a3), (4, .int a4), (5, .int a5)] [.int v6] (M, w)))
  refine Tt.go (fun _ => Tr.run 20 (pc' := 110) (lv' := [(20, .long (((Int32.toInt64 (v3 - a4)) * (Int32.toInt64 (v3 - a4))) + ((Int32.toInt64 (v4 - a5)) * (Int32.toInt64 (v4 - a5))))), (18, .long (((Int32.toInt64 (v1 - a4)) * (Int32.toInt64 (v1 - a4))) + ((Int32.toInt64 (v2 - a5)) * (Int32.toInt64 (v2 - a5))))), (16, .long (Int32.toInt64 (v6 - a5))), (14, .long (Int32.toInt64 (v5 - a4))), (12, .long (Int32.toInt64 (v4 - a5))), (10, .long (Int32.toInt64 (v3 - a4))), (8, .long (Int32.toInt64 (v2 - a5))), (6, .long (Int32.toInt64 (v1 - a4))), (0, .ref P), (1, .int a1), (2, .int a2), (3, .int a3), (4, .int a4), (5, .int a5)]) (st' := []) rfl) ?_
  refine Tt.go (fun _ => Tr.run 20 (pc' := 143) (lv' := [(22, .long (((Int32.toInt64 (v5 - a4)) * (Int32.toInt64 (v5 - a4))) + ((Int32.toInt64 (v6 - a5)) * (Int32.toInt64 (v6 - a5))))), (20, .long (((Int32.toInt64 (v3 - a4)) * (Int32.toInt64 (v3 - a4))) + ((Int32.toInt64 (v4 - a5)) * (Int32.toInt64 (v4 - a5))))), (18, .long (((Int32.toInt64 (v1 - a4)) * (Int32.toInt64 (v1 - a4))) + ((Int32.toInt64 (v2 - a5)) * (Int32.toInt64 (v2 - a5))))), (16, .long (Int32.toInt64 (v6 - a5))), (14, .long (Int32.toInt64 (v5 - a4))), (12, .long (Int32.toInt64 (v4 - a5))), (10, .long (Int32.toInt64 (v3 - a4))), (8, .long (Int32.toInt64 (v2 - a5))), (6, .long (Int32.toInt64 (v1 - a4))), (0, .ref P), (1, .int a1), (2, .int a2), (3, .int a3), (4, .int a4), (5, .int a5)]) (st' := [.long (Int32.toInt64 (v6 - a5)), .long (Int32.toInt64 (v1 - a4)), .long (((Int32.toInt64 (v3 - a4)) * (Int32.toInt64 (v3 - a4))) + ((Int32.toInt64 (v4 - a5)) * (Int32.toInt64 (v4 - a5)))), .long ((((Int32.toInt64 (v1 - a4)) * (Int32.toInt64 (v1 - a4))) + ((Int32.toInt64 (v2 - a5)) * (Int32.toInt64 (v2 - a5)))) * (((Int32.toInt64 (v3 - a4)) * (Int32.toInt64 (v6 - a5))) - ((Int32.toInt64 (v4 - a5)) * (Int32.toInt64 (v5 - a4)))))]) rfl) ?_
  refine Tt.go (fun _ => Tr.run 20 (pc' := 173) (lv' := [(24, .long ((((((Int32.toInt64 (v1 - a4)) * (Int32.toInt64 (v1 - a4))) + ((Int32.toInt64 (v2 - a5)) * (Int32.toInt64 (v2 - a5)))) * (((Int32.toInt64 (v3 - a4)) * (Int32.toInt64 (v6 - a5))) - ((Int32.toInt64 (v4 - a5)) * (Int32.toInt64 (v5 - a4))))) - ((((Int32.toInt64 (v3 - a4)) * (Int32.toInt64 (v3 - a4))) + ((Int32.toInt64 (v4 - a5)) * (Int32.toInt64 (v4 - a5)))) * (((Int32.toInt64 (v1 - a4)) * (Int32.toInt64 (v6 - a5))) - ((Int32.toInt64 (v2 - a5)) * (Int32.toInt64 (v5 - a4)))))) + ((((Int32.toInt64 (v5 - a4)) * (Int32.toInt64 (v5 - a4))) + ((Int32.toInt64 (v6 - a5)) * (Int32.toInt64 (v6 - a5)))) * (((Int32.toInt64 (v1 - a4)) * (Int32.toInt64 (v4 - a5))) - ((Int32.toInt64 (v2 - a5)) * (Int32.toInt64 (v3 - a4))))))), (22, .long (((Int32.toInt64 (v5 - a4)) * (Int32.toInt64 (v5 - a4))) + ((Int32.toInt64 (v6 - a5)) * (Int32.toInt64 (v6 - a5))))), (20, .long (((Int32.toInt64 (v3 - a4)) * (Int32.toInt64 (v3 - a4))) + ((Int32.toInt64 (v4 - a5)) * (Int32.toInt64 (v4 - a5))))), (18, .long (((Int32.toInt64 (v1 - a4)) * (Int32.toInt64 (v1 - a4))) + ((Int32.toInt64 (v2 - a5)) * (Int32.toInt64 (v2 - a5))))), (16, .long (Int32.toInt64 (v6 - a5))), (14, .long (Int32.toInt64 (v5 - a4))), (12, .long (Int32.toInt64 (v4 - a5))), (10, .long (Int32.toInt64 (v3 - a4))), (8, .long (Int32.toInt64 (v2 - a5))), (6, .long (Int32.toInt64 (v1 - a4))), (0, .ref P), (1, .int a1), (2, .int a2), (3, .int a3), (4, .int a4), (5, .int a5)]) (st' := [.long (Int32.toInt64 (v1 - a4)), .long (Int32.toInt64 (v3 - a4))]) rfl) ?_
  refine Tt.go (fun _ => Tr.run 17 (pc' := 199) (lv' := [(26, .long ((((Int32.toInt64 (v3 - a4)) - (Int32.toInt64 (v1 - a4))) * ((Int32.toInt64 (v6 - a5)) - (Int32.toInt64 (v2 - a5)))) - (((Int32.toInt64 (v4 - a5)) - (Int32.toInt64 (v2 - a5))) * ((Int32.toInt64 (v5 - a4)) - (Int32.toInt64 (v1 - a4)))))), (24, .long ((((((Int32.toInt64 (v1 - a4)) * (Int32.toInt64 (v1 - a4))) + ((Int32.toInt64 (v2 - a5)) * (Int32.toInt64 (v2 - a5)))) * (((Int32.toInt64 (v3 - a4)) * (Int32.toInt64 (v6 - a5))) - ((Int32.toInt64 (v4 - a5)) * (Int32.toInt64 (v5 - a4))))) - ((((Int32.toInt64 (v3 - a4)) * (Int32.toInt64 (v3 - a4))) + ((Int32.toInt64 (v4 - a5)) * (Int32.toInt64 (v4 - a5)))) * (((Int32.toInt64 (v1 - a4)) * (Int32.toInt64 (v6 - a5))) - ((Int32.toInt64 (v2 - a5)) * (Int32.toInt64 (v5 - a4)))))) + ((((Int32.toInt64 (v5 - a4)) * (Int32.toInt64 (v5 - a4))) + ((Int32.toInt64 (v6 - a5)) * (Int32.toInt64 (v6 - a5)))) * (((Int32.toInt64 (v1 - a4)) * (Int32.toInt64 (v4 - a5))) - ((Int32.toInt64 (v2 - a5)) * (Int32.toInt64 (v3 - a4))))))), (22, .long (((Int32.toInt64 (v5 - a4)) * (Int32.toInt64 (v5 - a4))) + ((Int32.toInt64 (v6 - a5)) * (Int32.toInt64 (v6 - a5))))), (20, .long (((Int32.toInt64 (v3 - a4)) * (Int32.toInt64 (v3 - a4))) + ((Int32.toInt64 (v4 - a5)) * (Int32.toInt64 (v4 - a5))))), (18, .long (((Int32.toInt64 (v1 - a4)) * (Int32.toInt64 (v1 - a4))) + ((Int32.toInt64 (v2 - a5)) * (Int32.toInt64 (v2 - a5))))), (16, .long (Int32.toInt64 (v6 - a5))), (14, .long (Int32.toInt64 (v5 - a4))), (12, .long (Int32.toInt64 (v4 - a5))), (10, .long (Int32.toInt64 (v3 - a4))), (8, .long (Int32.toInt64 (v2 - a5))), (6, .long (Int32.toInt64 (v1 - a4))), (0, .ref P), (1, .int a1), (2, .int a2), (3, .int a3), (4, .int a4), (5, .int a5)]) (st' := [.long (((((((Int32.toInt64 (v1 - a4)) * (Int32.toInt64 (v1 - a4))) + ((Int32.toInt64 (v2 - a5)) * (Int32.toInt64 (v2 - a5)))) * (((Int32.toInt64 (v3 - a4)) * (Int32.toInt64 (v6 - a5))) - ((Int32.toInt64 (v4 - a5)) * (Int32.toInt64 (v5 - a4))))) - ((((Int32.toInt64 (v3 - a4)) * (Int32.toInt64 (v3 - a4))) + ((Int32.toInt64 (v4 - a5)) * (Int32.toInt64 (v4 - a5)))) * (((Int32.toInt64 (v1 - a4)) * (Int32.toInt64 (v6 - a5))) - ((Int32.toInt64 (v2 - a5)) * (Int32.toInt64 (v5 - a4)))))) + ((((Int32.toInt64 (v5 - a4)) * (Int32.toInt64 (v5 - a4))) + ((Int32.toInt64 (v6 - a5)) * (Int32.toInt64 (v6 - a5)))) * (((Int32.toInt64 (v1 - a4)) * (Int32.toInt64 (v4 - a5))) - ((Int32.toInt64 (v2 - a5)) * (Int32.toInt64 (v3 - a4)))))) * ((((Int32.toInt64 (v3 - a4)) - (Int32.toInt64 (v1 - a4))) * ((Int32.toInt64 (v6 - a5)) - (Int32.toInt64 (v2 - a5)))) - (((Int32.toInt64 (v4 - a5)) - (Int32.toInt64 (v2 - a5))) * ((Int32.toInt64 (v5 - a4)) - (Int32.toInt64 (v1 - a4))))))]) rfl) ?_
  refine Tt.callN (As := [.long (((((((Int32.toInt64 (v1 - a4)) * (Int32.toInt64 (v1 - a4))) + ((Int32.toInt64 (v2 - a5)) * (Int32.toInt64 (v2 - a5)))) * (((Int32.toInt64 (v3 - a4)) * (Int32.toInt64 (v6 - a5))) - ((Int32.toInt64 (v4 - a5)) * (Int32.toInt64 (v5 - a4))))) - ((((Int32.toInt64 (v3 - a4)) * (Int32.toInt64 (v3 - a4))) + ((Int32.toInt64 (v4 - a5)) * (Int32.toInt64 (v4 - a5)))) * (((Int32.toInt64 (v1 - a4)) * (Int32.toInt64 (v6 - a5))) - ((Int32.toInt64 (v2 - a5)) * (Int32.toInt64 (v5 - a4)))))) + ((((Int32.toInt64 (v5 - a4)) * (Int32.toInt64 (v5 - a4))) + ((Int32.toInt64 (v6 - a5)) * (Int32.toInt64 (v6 - a5)))) * (((Int32.toInt64 (v1 - a4)) * (Int32.toInt64 (v4 - a5))) - ((Int32.toInt64 (v2 - a5)) * (Int32.toInt64 (v3 - a4)))))) * ((((Int32.toInt64 (v3 - a4)) - (Int32.toInt64 (v1 - a4))) * ((Int32.toInt64 (v6 - a5)) - (Int32.toInt64 (v2 - a5)))) - (((Int32.toInt64 (v4 - a5)) - (Int32.toInt64 (v2 - a5))) * ((Int32.toInt64 (v5 - a4)) - (Int32.toInt64 (v1 - a4))))))]) (rest := []) (c_X6_sign g l hl (((((((Int32.toInt64 (v1 - a4)) * (Int32.toInt64 (v1 - a4))) + ((Int32.toInt64 (v2 - a5)) * (Int32.toInt64 (v2 - a5)))) * (((Int32.toInt64 (v3 - a4)) * (Int32.toInt64 (v6 - a5))) - ((Int32.toInt64 (v4 - a5)) * (Int32.toInt64 (v5 - a4))))) - ((((Int32.toInt64 (v3 - a4)) * (Int32.toInt64 (v3 - a4))) + ((Int32.toInt64 (v4 - a5)) * (Int32.toInt64 (v4 - a5)))) * (((Int32.toInt64 (v1 - a4)) * (Int32.toInt64 (v6 - a5))) - ((Int32.toInt64 (v2 - a5)) * (Int32.toInt64 (v5 - a4)))))) + ((((Int32.toInt64 (v5 - a4)) * (Int32.toInt64 (v5 - a4))) + ((Int32.toInt64 (v6 - a5)) * (Int32.toInt64 (v6 - a5)))) * (((Int32.toInt64 (v1 - a4)) * (Int32.toInt64 (v4 - a5))) - ((Int32.toInt64 (v2 - a5)) * (Int32.toInt64 (v3 - a4)))))) * ((((Int32.toInt64 (v3 - a4)) - (Int32.toInt64 (v1 - a4))) * ((Int32.toInt64 (v6 - a5)) - (Int32.toInt64 (v2 - a5)))) - (((Int32.toInt64 (v4 - a5)) - (Int32.toInt64 (v2 - a5))) * ((Int32.toInt64 (v5 - a4)) - (Int32.toInt64 (v1 - a4)))))) M w) rfl cw_X6_sign nw546 pn_X6_sign (Nat.le_of_ble_eq_true rfl) (Nat.le_of_ble_eq_true rfl) (Nat.le_of_ble_eq_true rfl) rfl (fun v7 => (?_ : Tt g l z_X3_circleSide (emI M w) _ 202 [(26, .long ((((Int32.toInt64 (v3 - a4)) - (Int32.toInt64 (v1 - a4))) * ((Int32.toInt64 (v6 - a5)) - (Int32.toInt64 (v2 - a5)))) - (((Int32.toInt64 (v4 - a5)) - (Int32.toInt64 (v2 - a5))) * ((Int32.toInt64 (v5 - a4)) - (Int32.toInt64 (v1 - a4)))))), (24, .long ((((((Int32.toInt64 (v1 - a4)) * (Int32.toInt64 (v1 - a4))) + ((Int32.toInt64 (v2 - a5)) * (Int32.toInt64 (v2 - a5)))) * (((Int32.toInt64 (v3 - a4)) * (Int32.toInt64 (v6 - a5))) - ((Int32.toInt64 (v4 - a5)) * (Int32.toInt64 (v5 - a4))))) - ((((Int32.toInt64 (v3 - a4)) * (Int32.toInt64 (v3 - a4))) + ((Int32.toInt64 (v4 - a5)) * (Int32.toInt64 (v4 - a5)))) * (((Int32.toInt64 (v1 - a4)) * (Int32.toInt64 (v6 - a5))) - ((Int32.toInt64 (v2 - a5)) * (Int32.toInt64 (v5 - a4)))))) + ((((Int32.toInt64 (v5 - a4)) * (Int32.toInt64 (v5 - a4))) + ((Int32.toInt64 (v6 - a5)) * (Int32.toInt64 (v6 - a5)))) * (((Int32.toInt64 (v1 - a4)) * (Int32.toInt64 (v4 - a5))) - ((Int32.toInt64 (v2 - a5)) * (Int32.toInt64 (v3 - a4))))))), (22, .long (((Int32.toInt64 (v5 - a4)) * (Int32.toInt64 (v5 - a4))) + ((Int32.toInt64 (v6 - a5)) * (Int32.toInt64 (v6 - a5))))), (20, .long (((Int32.toInt64 (v3 - a4)) * (Int32.toInt64 (v3 - a4))) + ((Int32.toInt64 (v4 - a5)) * (Int32.toInt64 (v4 - a5))))), (18, .long (((Int32.toInt64 (v1 - a4)) * (Int32.toInt64 (v1 - a4))) + ((Int32.toInt64 (v2 - a5)) * (Int32.toInt64 (v2 - a5))))), (16, .long (Int32.toInt64 (v6 - a5))), (14, .long (Int32.toInt64 (v5 - a4))), (12, .long (Int32.toInt64 (v4 - a5))), (10, .long (Int32.toInt64 (v3 - a4))), (8, .long (Int32.toInt64 (v2 - a5))), (6, .long (Int32.toInt64 (v1 - a4))), (0, .ref P), (1, .int a1), (2, .int a2), (3, .int a3), (4, .int a4), (5, .int a5)] [.int v7] (M, w)))
  exact Tt.ret (Tr.iret rfl rfl)
theorem c_X3_circleSide (g : fm_G) (l : Launch) (hl : l.stackTraces = false) (P : Nat) (a1 : Int32) (a2 : Int32) (a3 : Int32) (a4 : Int32) (a5 : Int32) (hP : fm_kd g P = 3) (M : fm_Mem) (w : fm_W) : ∀ r, f_X3_circleSide P a1 a2 a3 a4 a5 M = some r → fC g l z_X3_circleSide [.ref P, .int a1, .int a2, .int a3, .int a4, .int a5] (M, w) (emI M w r) := fun r hr => fC.of (by decide) rfl o_X3_circleSide hl (Nat.le_of_ble_eq_true rfl) (t_X3_circleSide g l hl P a1 a2 a3 a4 a5 hP M w r hr)
def k_X2_isDue : List (Nat × Instr × Nat) := [(0, .aload_n 0, 1), (1, .getfield 12, 3), (4, .iload_n 2, 1), (5, .iload_n 3, 1), (6, .iload_n 1, 1), (7, .invokevirtual 58, 3), (10, .i2l, 1), (11, .invokestatic 62, 3), (14, .istore 4, 2), (16, .iload 4, 2), (18, .ifCond .ne 5, 3), (21, .iconst 0, 1), (22, .ireturn, 1), (23, .iconst 0, 1), (24, .istore 5, 2), (26, .iload 5, 2), (28, .aload_n 0, 1), (29, .getfield 12, 3), (32, .invokevirtual 46, 3), (35, .if_icmp .ge 109, 3), (38, .aload_n 0, 1), (39, .getfield 12, 3), (42, .iload_n 1, 1), (43, .iload_n 2, 1), (44, .iload_n 3, 1), (45, .aload_n 0, 1), (46, .getfield 12, 3), (49, .iload 5, 2), (51, .invokevirtual 66, 3), (54, .aload_n 0, 1), (55, .getfield 12, 3), (58, .iload 5, 2), (60, .invokevirtual 70, 3), (63, .invokevirtual 73, 3), (66, .istore 6, 2), (68, .iload 6, 2), (70, .ifCond .le 5, 3), (73, .iconst 0, 1), (74, .ireturn, 1), (75, .iload 6, 2), (77, .ifCond .ne 25, 3), (80, .iload 5, 2), (82, .iload_n 1, 1), (83, .if_icmp .eq 19, 3), (86, .iload 5, 2), (88, .iload_n 2, 1), (89, .if_icmp .eq 13, 3), (92, .iload 5, 2), (94, .iload_n 3, 1), (95, .if_icmp .eq 7, 3), (98, .iconst 1, 1), (99, .goto 4, 3), (102, .iconst 0, 1), (103, .istore 7, 2), (105, .iload 7, 2), (107, .ifCond .eq 31, 3), (110, .iload 5, 2), (112, .iload_n 1, 1), (113, .if_icmp .lt 23, 3), (116, .aload_n 0, 1), (117, .getfield 12, 3), (120, .iload_n 2, 1), (121, .iload_n 3, 1), (122, .iload 5, 2), (124, .invokevirtual 58, 3), (127, .i2l, 1), (128, .invokestatic 62, 3), (131, .iload 4, 2), (133, .if_icmp .eq 5, 3), (136, .iconst 0, 1), (137, .ireturn, 1), (138, .iinc 5 1, 3), (141, .goto (-115), 3), (144, .iconst 1, 1), (145, .ireturn, 1)]
def z_X2_isDue : fm_Y := (yX2_isDue, RX2, cX2_isDue, 8, (some .boolean), k_X2_isDue, 2, 68)
theorem o_X2_isDue : fm_dec z_X2_isDue := (by decide +kernel : ∀ q ∈ k_X2_isDue, decode cX2_isDue q.1 = .ok q.2)
theorem cw_X2_isDue : fm_cwV z_X2_isDue := ⟨⟨lw_in 775 (by decide +kernel) (by decide +kernel), lw_in 95 (by decide +kernel) (by decide +kernel), by decide, by decide⟩, lw_in 774 (by decide +kernel) (by decide +kernel), lw_in 18 (by decide +kernel) (by decide +kernel)⟩
theorem pn_X2_isDue : (parseMethodDescriptor z_X2_isDue.1.desc).map (fun d => d.parameters.length) = some 3 := by decide +kernel
def f_X2_isDue_138 (P : Nat) (a1 : Int32) (a2 : Int32) (a3 : Int32) (k26 : Int32 → Int32 → fm_Mem → Option (Int32)) (x4 : Int32) (x5 : Int32) (M : fm_Mem) : Option (Int32) := (k26 x4 (x5 + (1 : Int32)) M)
set_option maxRecDepth 100000 in
set_option maxHeartbeats 4000000 in
theorem t_X2_isDue_138 (g : fm_G) (l : Launch) (hl : l.stackTraces = false) (P : Nat) (a1 : Int32) (a2 : Int32) (a3 : Int32) (hP : fm_kd g P = 2) (w : fm_W) (k26 : Int32 → Int32 → fm_Mem → Option (Int32)) (hk26 : ∀ (x4 : Int32) (x5 : Int32) (M : fm_Mem), Tt g l z_X2_isDue (emI M w) (k26 x4 x5 M) 26 [(0, .ref P), (1, .int a1), (2, .int a2), (3, .int a3), (4, .int x4), (5, .int x5)] [] (M, w)) (x4 : Int32) (x5 : Int32)  (M : fm_Mem) : Tt g l z_X2_isDue (emI M w) (f_X2_isDue_138 P a1 a2 a3 k26 x4 x5 M) 138 [(0, .ref P), (1, .int a1), (2, .int a2), (3, .int a3), (4, .int x4), (5, .int x5)] [] (M, w) := by
  rw [f_X2_isDue_138]
  refine Tt.go (fun _ => Tr.run 2 (pc' := 26) (lv' := [(5, .int (x5 + (1 : Int32))), (0, .ref P), (1, .int a1), (2, .int a2), (3, .int a3), (4, .int x4)]) (st' := []) rfl) ?_
  refine Tt.go (fun _ => Tr.sub (lv' := [(0, .ref P), (1, .int a1), (2, .int a2), (3, .int a3), (4, .int x4), (5, .int (x5 + (1 : Int32)))]) [1, 2, 3, 4, 5, 0] rfl) ?_
  exact hk26 x4 (x5 + (1 : Int32)) M
def f_X2_isDue_136 (P : Nat) (a1 : Int32) (a2 : Int32) (a3 : Int32)  (M : fm_Mem) : Option (Int32) := some ((0 : Int32))
set_option maxRecDepth 100000 in
set_option maxHeartbeats 4000000 in
theorem t_X2_isDue_136 (g : fm_G) (l : Launch) (hl : l.stackTraces = false) (P : Nat) (a1 : Int32) (a2 : Int32) (a3 : Int32) (hP : fm_kd g P = 2) (w : fm_W)    (M : fm_Mem) : Tt g l z_X2_isDue (emI M w) (f_X2_isDue_136 P a1 a2 a3   M) 136 [] [] (M, w) := by
  rw [f_X2_isDue_136]
  refine Tt.go (fun _ => Tr.run 1 (pc' := 137) (lv' := []) (st' := [.int (0 : Int32)]) rfl) ?_
  exact Tt.ret (Tr.zret rfl rfl fm_bo0)
def f_X2_isDue_103 (P : Nat) (a1 : Int32) (a2 : Int32) (a3 : Int32) (k26 : Int32 → Int32 → fm_Mem → Option (Int32)) (x4 : Int32) (x5 : Int32) (s0 : Int32) (M : fm_Mem) : Option (Int32) := if s0 = 0 then (f_X2_isDue_138 P a1 a2 a3 k26 x4 x5 M) else (if x5 < a1 then (f_X2_isDue_136 P a1 a2 a3 M) else (Option.bind (f_X3_turn (P + 1) a2 a3 x5 M) (fun v1 => Option.bind (f_X6_sign (Int32.toInt64 v1) M) (fun v2 => if v2 = x4 then (f_X2_isDue_138 P a1 a2 a3 k26 x4 x5 M) else (f_X2_isDue_136 P a1 a2 a3 M)))))
set_option maxRecDepth 100000 in
set_option maxHeartbeats 4000000 in
theorem t_X2_isDue_103 (g : fm_G) (l : Launch) (hl : l.stackTraces = false) (P : Nat) (a1 : Int32) (a2 : Int32) (a3 : Int32) (hP : fm_kd g P = 2) (w : fm_W) (k26 : Int32 → Int32 → fm_Mem → Option (Int32)) (hk26 : ∀ (x4 : Int32) (x5 : Int32) (M : fm_Mem), Tt g l z_X2_isDue (emI M w) (k26 x4 x5 M) 26 [(0, .ref P), (1, .int a1), (2, .int a2), (3, .int a3), (4, .int x4), (5, .int x5)] [] (M, w)) (x4 : Int32) (x5 : Int32) (s0 : Int32)  (M : fm_Mem) : Tt g l z_X2_isDue (emI M w) (f_X2_isDue_103 P a1 a2 a3 k26 x4 x5 s0 M) 103 [(0, .ref P), (1, .int a1), (2, .int a2), (3, .int a3), (4, .int x4), (5, .int x5)] [.int s0] (M, w) := by
  rw [f_X2_isDue_103]
  refine Tt.go (fun _ => Tr.run 2 (pc' := 107) (lv' := [(7, .int s0), (0, .ref P), (1, .int a1), (2, .int a2), (3, .int a3), (4, .int x4), (5, .int x5)]) (st' := [.int s0]) rfl) ?_
  refine Tt.if_eq (tgt := 138) rfl (by decide) ?_ ?_
  · refine Tt.go (fun _ => Tr.sub (lv' := [(0, .ref P), (1, .int a1), (2, .int a2), (3, .int a3), (4, .int x4), (5, .int x5)]) [1, 2, 3, 4, 5, 6] rfl) ?_
    exact t_X2_isDue_138 g l hl P a1 a2 a3 hP w k26 hk26 x4 x5 M
  · refine Tt.go (fun _ => Tr.run 2 (pc' := 113) (lv' := [(7, .int s0), (0, .ref P), (1, .int a1), (2, .int a2), (3, .int a3), (4, .int x4), (5, .int x5)]) (st' := [.int a1, .int x5]) rfl) ?_
    refine Tt.ic_lt (tgt := 136) rfl (by decide) ?_ ?_
    · refine Tt.go (fun _ => Tr.sub (lv' := []) [] rfl) ?_
      exact t_X2_isDue_136 g l hl P a1 a2 a3 hP w M
    · refine Tt.go (fun _ => Tr.run 1 (pc' := 117) (lv' := [(7, .int s0), (0, .ref P), (1, .int a1), (2, .int a2), (3, .int a3), (4, .int x4), (5, .int x5)]) (st' := [.ref P]) rfl) ?_
      refine Tt.go (fun _ => Tr.get fmc2 hP rfl fw185 (k := 0) (by decide) rfl) (?_ : Tt g l z_X2_isDue (emI M w) _ 120 [(7, .int s0), (0, .ref P), (1, .int a1), (2, .int a2), (3, .int a3), (4, .int x4), (5, .int x5)] [.ref (P + 1)] (M, w))
      refine Tt.go (fun _ => Tr.run 3 (pc' := 124) (lv' := [(7, .int s0), (0, .ref P), (1, .int a1), (2, .int a2), (3, .int a3), (4, .int x4), (5, .int x5)]) (st' := [.int x5, .int a3, .int a2, .ref (P + 1)]) rfl) ?_
      refine Tt.callV (As := [.int a2, .int a3, .int x5]) (rest := []) (c_X3_turn g l hl (P + 1) a2 a3 x5 (fmk_2_0 hP) M w) (fmk_2_0 hP) (by decide) rfl rfl cw_X3_turn fw776 pn_X3_turn (Nat.le_of_ble_eq_true rfl) (Nat.le_of_ble_eq_true rfl) (Nat.le_of_ble_eq_true rfl) rfl (fun v1 => (?_ : Tt g l z_X2_isDue (emI M w) _ 127 [(7, .int s0), (0, .ref P), (1, .int a1), (2, .int a2), (3, .int a3), (4, .int x4), (5, .int x5)] [.int v1] (M, w)))
      refine Tt.go (fun _ => Tr.run 1 (pc' := 128) (lv' := [(7, .int s0), (0, .ref P), (1, .int a1), (2, .int a2), (3, .int a3), (4, .int x4), (5, .int x5)]) (st' := [.long (Int32.toInt64 v1)]) rfl) ?_
      refine Tt.callN (As := [.long (Int32.toInt64 v1)]) (rest := []) (c_X6_sign g l hl (Int32.toInt64 v1) M w) rfl cw_X6_sign nw777 pn_X6_sign (Nat.le_of_ble_eq_true rfl) (Nat.le_of_ble_eq_true rfl) (Nat.le_of_ble_eq_true rfl) rfl (fun v2 => (?_ : Tt g l z_X2_isDue (emI M w) _ 131 [(7, .int s0), (0, .ref P), (1, .int a1), (2, .int a2), (3, .int a3), (4, .int x4), (5, .int x5)] [.int v2] (M, w)))
      refine Tt.go (fun _ => Tr.run 1 (pc' := 133) (lv' := [(7, .int s0), (0, .ref P), (1, .int a1), (2, .int a2), (3, .int a3), (4, .int x4), (5, .int x5)]) (st' := [.int x4, .int v2]) rfl) ?_
      refine Tt.ic_eq (tgt := 138) rfl (by decide) ?_ ?_
      · refine Tt.go (fun _ => Tr.sub (lv' := [(0, .ref P), (1, .int a1), (2, .int a2), (3, .int a3), (4, .int x4), (5, .int x5)]) [1, 2, 3, 4, 5, 6] rfl) ?_
        exact t_X2_isDue_138 g l hl P a1 a2 a3 hP w k26 hk26 x4 x5 M
      · refine Tt.go (fun _ => Tr.sub (lv' := []) [] rfl) ?_
        exact t_X2_isDue_136 g l hl P a1 a2 a3 hP w M
def f_X2_isDue_102 (P : Nat) (a1 : Int32) (a2 : Int32) (a3 : Int32) (k26 : Int32 → Int32 → fm_Mem → Option (Int32)) (x4 : Int32) (x5 : Int32) (M : fm_Mem) : Option (Int32) := (f_X2_isDue_103 P a1 a2 a3 k26 x4 x5 (0 : Int32) M)
set_option maxRecDepth 100000 in
set_option maxHeartbeats 4000000 in
theorem t_X2_isDue_102 (g : fm_G) (l : Launch) (hl : l.stackTraces = false) (P : Nat) (a1 : Int32) (a2 : Int32) (a3 : Int32) (hP : fm_kd g P = 2) (w : fm_W) (k26 : Int32 → Int32 → fm_Mem → Option (Int32)) (hk26 : ∀ (x4 : Int32) (x5 : Int32) (M : fm_Mem), Tt g l z_X2_isDue (emI M w) (k26 x4 x5 M) 26 [(0, .ref P), (1, .int a1), (2, .int a2), (3, .int a3), (4, .int x4), (5, .int x5)] [] (M, w)) (x4 : Int32) (x5 : Int32)  (M : fm_Mem) : Tt g l z_X2_isDue (emI M w) (f_X2_isDue_102 P a1 a2 a3 k26 x4 x5 M) 102 [(0, .ref P), (1, .int a1), (2, .int a2), (3, .int a3), (4, .int x4), (5, .int x5)] [] (M, w) := by
  rw [f_X2_isDue_102]
  refine Tt.go (fun _ => Tr.run 1 (pc' := 103) (lv' := [(0, .ref P), (1, .int a1), (2, .int a2), (3, .int a3), (4, .int x4), (5, .int x5)]) (st' := [.int (0 : Int32)]) rfl) ?_
  exact t_X2_isDue_103 g l hl P a1 a2 a3 hP w k26 hk26 x4 x5 (0 : Int32) M
def f_X2_isDue_26 (P : Nat) (a1 : Int32) (a2 : Int32) (a3 : Int32) : Nat → Int32 → Int32 → fm_Mem → Option (Int32)
  | 0, _, _, _ => none
  | n + 1, x4, x5, M => Option.bind (f_X3_size (P + 1) M) (fun v1 => if v1 ≤ x5 then (some ((1 : Int32))) else (Option.bind (f_X3_x (P + 1) x5 M) (fun v2 => Option.bind (f_X3_y (P + 1) x5 M) (fun v3 => Option.bind (f_X3_circleSide (P + 1) a1 a2 a3 v2 v3 M) (fun v4 => if v4 ≤ 0 then (if v4 = 0 then (if x5 = a1 then (f_X2_isDue_102 P a1 a2 a3 (fun x4 x5 M => f_X2_isDue_26 P a1 a2 a3 n x4 x5 M) x4 x5 M) else (if x5 = a2 then (f_X2_isDue_102 P a1 a2 a3 (fun x4 x5 M => f_X2_isDue_26 P a1 a2 a3 n x4 x5 M) x4 x5 M) else (if x5 = a3 then (f_X2_isDue_102 P a1 a2 a3 (fun x4 x5 M => f_X2_isDue_26 P a1 a2 a3 n x4 x5 M) x4 x5 M) else (f_X2_isDue_103 P a1 a2 a3 (fun x4 x5 M => f_X2_isDue_26 P a1 a2 a3 n x4 x5 M) x4 x5 (1 : Int32) M)))) else (f_X2_isDue_102 P a1 a2 a3 (fun x4 x5 M => f_X2_isDue_26 P a1 a2 a3 n x4 x5 M) x4 x5 M)) else (some ((0 : Int32))))))))
set_option maxRecDepth 100000 in
set_option maxHeartbeats 4000000 in
theorem t_X2_isDue_26 (g : fm_G) (l : Launch) (hl : l.stackTraces = false) (P : Nat) (a1 : Int32) (a2 : Int32) (a3 : Int32) (hP : fm_kd g P = 2) (w : fm_W)  : ∀ (n : Nat) (x4 : Int32) (x5 : Int32)  (M : fm_Mem), Tt g l z_X2_isDue (emI M w) (f_X2_isDue_26 P a1 a2 a3  n x4 x5 M) 26 [(0, .ref P), (1, .int a1), (2, .int a2), (3, .int a3), (4, .int x4), (5, .int x5)] [] (M, w) := by
  intro n
  induction n with
  | zero => intros; exact Tt.none
  | succ n ih =>
    intro x4 x5  M
    rw [f_X2_isDue_26]
    refine Tt.go (fun _ => Tr.run 2 (pc' := 29) (lv' := [(0, .ref P), (1, .int a1), (2, .int a2), (3, .int a3), (4, .int x4), (5, .int x5)]) (st' := [.ref P, .int x5]) rfl) ?_
    refine Tt.go (fun _ => Tr.get fmc2 hP rfl fw185 (k := 0) (by decide) rfl) (?_ : Tt g l z_X2_isDue (emI M w) _ 32 [(0, .ref P), (1, .int a1), (2, .int a2), (3, .int a3), (4, .int x4), (5, .int x5)] [.ref (P + 1), .int x5] (M, w))
    refine Tt.callV (As := []) (rest := [.int x5]) (c_X3_size g l hl (P + 1) (fmk_2_0 hP) M w) (fmk_2_0 hP) (by decide) rfl rfl cw_X3_size fw527 pn_X3_size (Nat.le_of_ble_eq_true rfl) (Nat.le_of_ble_eq_true rfl) (Nat.le_of_ble_eq_true rfl) rfl (fun v1 => (?_ : Tt g l z_X2_isDue (emI M w) _ 35 [(0, .ref P), (1, .int a1), (2, .int a2), (3, .int a3), (4, .int x4), (5, .int x5)] [.int v1, .int x5] (M, w)))
    refine Tt.ic_ge (tgt := 144) rfl (by decide) ?_ ?_
    · refine Tt.go (fun _ => Tr.run 1 (pc' := 145) (lv' := [(0, .ref P), (1, .int a1), (2, .int a2), (3, .int a3), (4, .int x4), (5, .int x5)]) (st' := [.int (1 : Int32)]) rfl) ?_
      exact Tt.ret (Tr.zret rfl rfl fm_bo1)
    · refine Tt.go (fun _ => Tr.run 1 (pc' := 39) (lv' := [(0, .ref P), (1, .int a1), (2, .int a2), (3, .int a3), (4, .int x4), (5, .int x5)]) (st' := [.ref P]) rfl) ?_
      refine Tt.go (fun _ => Tr.get fmc2 hP rfl fw185 (k := 0) (by decide) rfl) (?_ : Tt g l z_X2_isDue (emI M w) _ 42 [(0, .ref P), (1, .int a1), (2, .int a2), (3, .int a3), (4, .int x4), (5, .int x5)] [.ref (P + 1)] (M, w))
      refine Tt.go (fun _ => Tr.run 4 (pc' := 46) (lv' := [(0, .ref P), (1, .int a1), (2, .int a2), (3, .int a3), (4, .int x4), (5, .int x5)]) (st' := [.ref P, .int a3, .int a2, .int a1, .ref (P + 1)]) rfl) ?_
      refine Tt.go (fun _ => Tr.get fmc2 hP rfl fw185 (k := 0) (by decide) rfl) (?_ : Tt g l z_X2_isDue (emI M w) _ 49 [(0, .ref P), (1, .int a1), (2, .int a2), (3, .int a3), (4, .int x4), (5, .int x5)] [.ref (P + 1), .int a3, .int a2, .int a1, .ref (P + 1)] (M, w))
      refine Tt.go (fun _ => Tr.run 1 (pc' := 51) (lv' := [(0, .ref P), (1, .int a1), (2, .int a2), (3, .int a3), (4, .int x4), (5, .int x5)]) (st' := [.int x5, .ref (P + 1), .int a3, .int a2, .int a1, .ref (P + 1)]) rfl) ?_
      refine Tt.callV (As := [.int x5]) (rest := [.int a3, .int a2, .int a1, .ref (P + 1)]) (c_X3_x g l hl (P + 1) x5 (fmk_2_0 hP) M w) (fmk_2_0 hP) (by decide) rfl rfl cw_X3_x fw540 pn_X3_x (Nat.le_of_ble_eq_true rfl) (Nat.le_of_ble_eq_true rfl) (Nat.le_of_ble_eq_true rfl) rfl (fun v2 => (?_ : Tt g l z_X2_isDue (emI M w) _ 54 [(0, .ref P), (1, .int a1), (2, .int a2), (3, .int a3), (4, .int x4), (5, .int x5)] [.int v2, .int a3, .int a2, .int a1, .ref (P + 1)] (M, w)))
      refine Tt.go (fun _ => Tr.run 1 (pc' := 55) (lv' := [(0, .ref P), (1, .int a1), (2, .int a2), (3, .int a3), (4, .int x4), (5, .int x5)]) (st' := [.ref P, .int v2, .int a3, .int a2, .int a1, .ref (P + 1)]) rfl) ?_
      refine Tt.go (fun _ => Tr.get fmc2 hP rfl fw185 (k := 0) (by decide) rfl) (?_ : Tt g l z_X2_isDue (emI M w) _ 58 [(0, .ref P), (1, .int a1), (2, .int a2), (3, .int a3), (4, .int x4), (5, .int x5)] [.ref (P + 1), .int v2, .int a3, .int a2, .int a1, .ref (P + 1)] (M, w))
      refine Tt.go (fun _ => Tr.run 1 (pc' := 60) (lv' := [(0, .ref P), (1, .int a1), (2, .int a2), (3, .int a3), (4, .int x4), (5, .int x5)]) (st' := [.int x5, .ref (P + 1), .int v2, .int a3, .int a2, .int a1, .ref (P + 1)]) rfl) ?_
      refine Tt.callV (As := [.int x5]) (rest := [.int v2, .int a3, .int a2, .int a1, .ref (P + 1)]) (c_X3_y g l hl (P + 1) x5 (fmk_2_0 hP) M w) (fmk_2_0 hP) (by decide) rfl rfl cw_X3_y fw541 pn_X3_y (Nat.le_of_ble_eq_true rfl) (Nat.le_of_ble_eq_true rfl) (Nat.le_of_ble_eq_true rfl) rfl (fun v3 => (?_ : Tt g l z_X2_isDue (emI M w) _ 63 [(0, .ref P), (1, .int a1), (2, .int a2), (3, .int a3), (4, .int x4), (5, .int x5)] [.int v3, .int v2, .int a3, .int a2, .int a1, .ref (P + 1)] (M, w)))
      refine Tt.callV (As := [.int a1, .int a2, .int a3, .int v2, .int v3]) (rest := []) (c_X3_circleSide g l hl (P + 1) a1 a2 a3 v2 v3 (fmk_2_0 hP) M w) (fmk_2_0 hP) (by decide) rfl rfl cw_X3_circleSide fw542 pn_X3_circleSide (Nat.le_of_ble_eq_true rfl) (Nat.le_of_ble_eq_true rfl) (Nat.le_of_ble_eq_true rfl) rfl (fun v4 => (?_ : Tt g l z_X2_isDue (emI M w) _ 66 [(0, .ref P), (1, .int a1), (2, .int a2), (3, .int a3), (4, .int x4), (5, .int x5)] [.int v4] (M, w)))
      refine Tt.go (fun _ => Tr.run 2 (pc' := 70) (lv' := [(6, .int v4), (0, .ref P), (1, .int a1), (2, .int a2), (3, .int a3), (4, .int x4), (5, .int x5)]) (st' := [.int v4]) rfl) ?_
      refine Tt.if_le (tgt := 75) rfl (by decide) ?_ ?_
      · refine Tt.go (fun _ => Tr.run 1 (pc' := 77) (lv' := [(6, .int v4), (0, .ref P), (1, .int a1), (2, .int a2), (3, .int a3), (4, .int x4), (5, .int x5)]) (st' := [.int v4]) rfl) ?_
        refine Tt.if_ne (tgt := 102) rfl (by decide) ?_ ?_
        · refine Tt.go (fun _ => Tr.run 2 (pc' := 83) (lv' := [(6, .int v4), (0, .ref P), (1, .int a1), (2, .int a2), (3, .int a3), (4, .int x4), (5, .int x5)]) (st' := [.int a1, .int x5]) rfl) ?_
          refine Tt.ic_eq (tgt := 102) rfl (by decide) ?_ ?_
          · refine Tt.go (fun _ => Tr.sub (lv' := [(0, .ref P), (1, .int a1), (2, .int a2), (3, .int a3), (4, .int x4), (5, .int x5)]) [1, 2, 3, 4, 5, 6] rfl) ?_
            exact t_X2_isDue_102 g l hl P a1 a2 a3 hP w _ ih x4 x5 M
          · refine Tt.go (fun _ => Tr.run 2 (pc' := 89) (lv' := [(6, .int v4), (0, .ref P), (1, .int a1), (2, .int a2), (3, .int a3), (4, .int x4), (5, .int x5)]) (st' := [.int a2, .int x5]) rfl) ?_
            refine Tt.ic_eq (tgt := 102) rfl (by decide) ?_ ?_
            · refine Tt.go (fun _ => Tr.sub (lv' := [(0, .ref P), (1, .int a1), (2, .int a2), (3, .int a3), (4, .int x4), (5, .int x5)]) [1, 2, 3, 4, 5, 6] rfl) ?_
              exact t_X2_isDue_102 g l hl P a1 a2 a3 hP w _ ih x4 x5 M
            · refine Tt.go (fun _ => Tr.run 2 (pc' := 95) (lv' := [(6, .int v4), (0, .ref P), (1, .int a1), (2, .int a2), (3, .int a3), (4, .int x4), (5, .int x5)]) (st' := [.int a3, .int x5]) rfl) ?_
              refine Tt.ic_eq (tgt := 102) rfl (by decide) ?_ ?_
              · refine Tt.go (fun _ => Tr.sub (lv' := [(0, .ref P), (1, .int a1), (2, .int a2), (3, .int a3), (4, .int x4), (5, .int x5)]) [1, 2, 3, 4, 5, 6] rfl) ?_
                exact t_X2_isDue_102 g l hl P a1 a2 a3 hP w _ ih x4 x5 M
              · refine Tt.go (fun _ => Tr.run 2 (pc' := 103) (lv' := [(6, .int v4), (0, .ref P), (1, .int a1), (2, .int a2), (3, .int a3), (4, .int x4), (5, .int x5)]) (st' := [.int (1 : Int32)]) rfl) ?_
                refine Tt.go (fun _ => Tr.sub (lv' := [(0, .ref P), (1, .int a1), (2, .int a2), (3, .int a3), (4, .int x4), (5, .int x5)]) [1, 2, 3, 4, 5, 6] rfl) ?_
                exact t_X2_isDue_103 g l hl P a1 a2 a3 hP w _ ih x4 x5 (1 : Int32) M
        · refine Tt.go (fun _ => Tr.sub (lv' := [(0, .ref P), (1, .int a1), (2, .int a2), (3, .int a3), (4, .int x4), (5, .int x5)]) [1, 2, 3, 4, 5, 6] rfl) ?_
          exact t_X2_isDue_102 g l hl P a1 a2 a3 hP w _ ih x4 x5 M
      · refine Tt.go (fun _ => Tr.run 1 (pc' := 74) (lv' := [(6, .int v4), (0, .ref P), (1, .int a1), (2, .int a2), (3, .int a3), (4, .int x4), (5, .int x5)]) (st' := [.int (0 : Int32)]) rfl) ?_
        exact Tt.ret (Tr.zret rfl rfl fm_bo0)
def f_X2_isDue (P : Nat) (a1 : Int32) (a2 : Int32) (a3 : Int32) (M : fm_Mem) : Option (Int32) := Option.bind (f_X3_turn (P + 1) a2 a3 a1 M) (fun v1 => Option.bind (f_X6_sign (Int32.toInt64 v1) M) (fun v2 => if v2 = 0 then (some ((0 : Int32))) else (f_X2_isDue_26 P a1 a2 a3 fm_fuel v2 (0 : Int32) M)))
set_option maxRecDepth 100000 in
set_option maxHeartbeats 4000000 in
theorem t_X2_isDue (g : fm_G) (l : Launch) (hl : l.stackTraces = false) (P : Nat) (a1 : Int32) (a2 : Int32) (a3 : Int32) (hP : fm_kd g P = 2) (M : fm_Mem) (w : fm_W) : Tt g l z_X2_isDue (emI M w) (f_X2_isDue P a1 a2 a3 M) 0 [(0, .ref P), (1, .int a1), (2, .int a2), (3, .int a3)] [] (M, w) := by
  rw [f_X2_isDue]
  refine Tt.go (fun _ => Tr.run 1 (pc' := 1) (lv' := [(0, .ref P), (1, .int a1), (2, .int a2), (3, .int a3)]) (st' := [.ref P]) rfl) ?_
  refine Tt.go (fun _ => Tr.get fmc2 hP rfl fw185 (k := 0) (by decide) rfl) (?_ : Tt g l z_X2_isDue (emI M w) _ 4 [(0, .ref P), (1, .int a1), (2, .int a2), (3, .int a3)] [.ref (P + 1)] (M, w))
  refine Tt.go (fun _ => Tr.run 3 (pc' := 7) (lv' := [(0, .ref P), (1, .int a1), (2, .int a2), (3, .int a3)]) (st' := [.int a1, .int a3, .int a2, .ref (P + 1)]) rfl) ?_
  refine Tt.callV (As := [.int a2, .int a3, .int a1]) (rest := []) (c_X3_turn g l hl (P + 1) a2 a3 a1 (fmk_2_0 hP) M w) (fmk_2_0 hP) (by decide) rfl rfl cw_X3_turn fw776 pn_X3_turn (Nat.le_of_ble_eq_true rfl) (Nat.le_of_ble_eq_true rfl) (Nat.le_of_ble_eq_true rfl) rfl (fun v1 => (?_ : Tt g l z_X2_isDue (emI M w) _ 10 [(0, .ref P), (1, .int a1), (2, .int a2), (3, .int a3)] [.int v1] (M, w)))
  refine Tt.go (fun _ => Tr.run 1 (pc' := 11) (lv' := [(0, .ref P), (1, .int a1), (2, .int a2), (3, .int a3)]) (st' := [.long (Int32.toInt64 v1)]) rfl) ?_
  refine Tt.callN (As := [.long (Int32.toInt64 v1)]) (rest := []) (c_X6_sign g l hl (Int32.toInt64 v1) M w) rfl cw_X6_sign nw777 pn_X6_sign (Nat.le_of_ble_eq_true rfl) (Nat.le_of_ble_eq_true rfl) (Nat.le_of_ble_eq_true rfl) rfl (fun v2 => (?_ : Tt g l z_X2_isDue (emI M w) _ 14 [(0, .ref P), (1, .int a1), (2, .int a2), (3, .int a3)] [.int v2] (M, w)))
  refine Tt.go (fun _ => Tr.run 2 (pc' := 18) (lv' := [(4, .int v2), (0, .ref P), (1, .int a1), (2, .int a2), (3, .int a3)]) (st' := [.int v2]) rfl) ?_
  refine Tt.if_ne (tgt := 23) rfl (by decide) ?_ ?_
  · refine Tt.go (fun _ => Tr.run 1 (pc' := 22) (lv' := [(4, .int v2), (0, .ref P), (1, .int a1), (2, .int a2), (3, .int a3)]) (st' := [.int (0 : Int32)]) rfl) ?_
    exact Tt.ret (Tr.zret rfl rfl fm_bo0)
  · refine Tt.go (fun _ => Tr.run 2 (pc' := 26) (lv' := [(5, .int (0 : Int32)), (4, .int v2), (0, .ref P), (1, .int a1), (2, .int a2), (3, .int a3)]) (st' := []) rfl) ?_
    refine Tt.go (fun _ => Tr.sub (lv' := [(0, .ref P), (1, .int a1), (2, .int a2), (3, .int a3), (4, .int v2), (5, .int (0 : Int32))]) [2, 3, 4, 5, 1, 0] rfl) ?_
    exact t_X2_isDue_26 g l hl P a1 a2 a3 hP w fm_fuel v2 (0 : Int32) M
theorem c_X2_isDue (g : fm_G) (l : Launch) (hl : l.stackTraces = false) (P : Nat) (a1 : Int32) (a2 : Int32) (a3 : Int32) (hP : fm_kd g P = 2) (M : fm_Mem) (w : fm_W) : ∀ r, f_X2_isDue P a1 a2 a3 M = some r → fC g l z_X2_isDue [.ref P, .int a1, .int a2, .int a3] (M, w) (emI M w r) := fun r hr => fC.of (by decide) rfl o_X2_isDue hl (Nat.le_of_ble_eq_true rfl) (t_X2_isDue g l hl P a1 a2 a3 hP M w r hr)
def k_X2_renew : List (Nat × Instr × Nat) := [(0, .aload_n 0, 1), (1, .getfield 25, 3), (4, .invokevirtual 31, 3), (7, .iconst 0, 1), (8, .istore_n 1, 1), (9, .iload_n 1, 1), (10, .aload_n 0, 1), (11, .getfield 12, 3), (14, .invokevirtual 46, 3), (17, .if_icmp .ge 71, 3), (20, .iload_n 1, 1), (21, .iconst 1, 1), (22, .iadd, 1), (23, .istore_n 2, 1), (24, .iload_n 2, 1), (25, .aload_n 0, 1), (26, .getfield 12, 3), (29, .invokevirtual 46, 3), (32, .if_icmp .ge 50, 3), (35, .iload_n 2, 1), (36, .iconst 1, 1), (37, .iadd, 1), (38, .istore_n 3, 1), (39, .iload_n 3, 1), (40, .aload_n 0, 1), (41, .getfield 12, 3), (44, .invokevirtual 46, 3), (47, .if_icmp .ge 29, 3), (50, .aload_n 0, 1), (51, .iload_n 1, 1), (52, .iload_n 2, 1), (53, .iload_n 3, 1), (54, .invokevirtual 50, 3), (57, .ifCond .eq 13, 3), (60, .aload_n 0, 1), (61, .getfield 25, 3), (64, .iload_n 1, 1), (65, .iload_n 2, 1), (66, .iload_n 3, 1), (67, .invokevirtual 54, 3), (70, .iinc 3 1, 3), (73, .goto (-34), 3), (76, .iinc 2 1, 3), (79, .goto (-55), 3), (82, .iinc 1 1, 3), (85, .goto (-76), 3), (88, .aload_n 0, 1), (89, .getfield 21, 3), (92, .aload_n 0, 1), (93, .getfield 25, 3), (96, .invokevirtual 43, 3), (99, .return_, 1)]
def z_X2_renew : fm_Y := (yX2_renew, RX2, cX2_renew, 4, none, k_X2_renew, 3, 95)
theorem o_X2_renew : fm_dec z_X2_renew := (by decide +kernel : ∀ q ∈ k_X2_renew, decode cX2_renew q.1 = .ok q.2)
theorem cw_X2_renew : fm_cwV z_X2_renew := ⟨⟨lw_in 771 (by decide +kernel) (by decide +kernel), lw_in 95 (by decide +kernel) (by decide +kernel), by decide, by decide⟩, lw_in 769 (by decide +kernel) (by decide +kernel), lw_in 770 (by decide +kernel) (by decide +kernel)⟩
theorem pn_X2_renew : (parseMethodDescriptor z_X2_renew.1.desc).map (fun d => d.parameters.length) = some 0 := by decide +kernel
def f_X2_renew_70 (P : Nat) (k9 : Int32 → fm_Mem → Option (fm_Mem)) (k24 : Int32 → Int32 → fm_Mem → Option (fm_Mem)) (k39 : Int32 → Int32 → Int32 → fm_Mem → Option (fm_Mem)) (x1 : Int32) (x2 : Int32) (x3 : Int32) (M : fm_Mem) : Option (fm_Mem) := (k39 x1 x2 (x3 + (1 : Int32)) M)
set_option maxRecDepth 100000 in
set_option maxHeartbeats 4000000 in
theorem t_X2_renew_70 (g : fm_G) (l : Launch) (hl : l.stackTraces = false) (P : Nat) (hP : fm_kd g P = 2) (w : fm_W) (M0 : fm_Mem) (k9 : Int32 → fm_Mem → Option (fm_Mem)) (hk9 : ∀ (x1 : Int32) (M : fm_Mem), Tt g l z_X2_renew (emVw M0 w) (k9 x1 M) 9 [(0, .ref P), (1, .int x1)] [] (M, w)) (k24 : Int32 → Int32 → fm_Mem → Option (fm_Mem)) (hk24 : ∀ (x1 : Int32) (x2 : Int32) (M : fm_Mem), Tt g l z_X2_renew (emVw M0 w) (k24 x1 x2 M) 24 [(0, .ref P), (1, .int x1), (2, .int x2)] [] (M, w)) (k39 : Int32 → Int32 → Int32 → fm_Mem → Option (fm_Mem)) (hk39 : ∀ (x1 : Int32) (x2 : Int32) (x3 : Int32) (M : fm_Mem), Tt g l z_X2_renew (emVw M0 w) (k39 x1 x2 x3 M) 39 [(0, .ref P), (1, .int x1), (2, .int x2), (3, .int x3)] [] (M, w)) (x1 : Int32) (x2 : Int32) (x3 : Int32)  (M : fm_Mem) : Tt g l z_X2_renew (emVw M0 w) (f_X2_renew_70 P k9 k24 k39 x1 x2 x3 M) 70 [(0, .ref P), (1, .int x1), (2, .int x2), (3, .int x3)] [] (M, w) := by
  rw [f_X2_renew_70]
  refine Tt.go (fun _ => Tr.run 2 (pc' := 39) (lv' := [(3, .int (x3 + (1 : Int32))), (0, .ref P), (1, .int x1), (2, .int x2)]) (st' := []) rfl) ?_
  refine Tt.go (fun _ => Tr.sub (lv' := [(0, .ref P), (1, .int x1), (2, .int x2), (3, .int (x3 + (1 : Int32)))]) [1, 2, 3, 0] rfl) ?_
  exact hk39 x1 x2 (x3 + (1 : Int32)) M
def f_X2_renew_39 (P : Nat) (k9 : Int32 → fm_Mem → Option (fm_Mem)) (k24 : Int32 → Int32 → fm_Mem → Option (fm_Mem)) : Nat → Int32 → Int32 → Int32 → fm_Mem → Option (fm_Mem)
  | 0, _, _, _, _ => none
  | n + 1, x1, x2, x3, M => Option.bind (f_X3_size (P + 1) M) (fun v1 => if v1 ≤ x3 then (k24 x1 (x2 + (1 : Int32)) M) else (Option.bind (f_X2_isDue P x1 x2 x3 M) (fun v2 => if v2 = 0 then (f_X2_renew_70 P k9 k24 (fun x1 x2 x3 M => f_X2_renew_39 P k9 k24 n x1 x2 x3 M) x1 x2 x3 M) else (Option.bind (f_X1_add (P + 11) x1 x2 x3 M) (fun v3 => (f_X2_renew_70 P k9 k24 (fun x1 x2 x3 M => f_X2_renew_39 P k9 k24 n x1 x2 x3 M) x1 x2 x3 v3))))))
set_option maxRecDepth 100000 in
set_option maxHeartbeats 4000000 in
theorem t_X2_renew_39 (g : fm_G) (l : Launch) (hl : l.stackTraces = false) (P : Nat) (hP : fm_kd g P = 2) (w : fm_W) (M0 : fm_Mem) (k9 : Int32 → fm_Mem → Option (fm_Mem)) (hk9 : ∀ (x1 : Int32) (M : fm_Mem), Tt g l z_X2_renew (emVw M0 w) (k9 x1 M) 9 [(0, .ref P), (1, .int x1)] [] (M, w)) (k24 : Int32 → Int32 → fm_Mem → Option (fm_Mem)) (hk24 : ∀ (x1 : Int32) (x2 : Int32) (M : fm_Mem), Tt g l z_X2_renew (emVw M0 w) (k24 x1 x2 M) 24 [(0, .ref P), (1, .int x1), (2, .int x2)] [] (M, w)) : ∀ (n : Nat) (x1 : Int32) (x2 : Int32) (x3 : Int32)  (M : fm_Mem), Tt g l z_X2_renew (emVw M0 w) (f_X2_renew_39 P k9 k24 n x1 x2 x3 M) 39 [(0, .ref P), (1, .int x1), (2, .int x2), (3, .int x3)] [] (M, w) := by
  intro n
  induction n with
  | zero => intros; exact Tt.none
  | succ n ih =>
    intro x1 x2 x3  M
    rw [f_X2_renew_39]
    refine Tt.go (fun _ => Tr.run 2 (pc' := 41) (lv' := [(0, .ref P), (1, .int x1), (2, .int x2), (3, .int x3)]) (st' := [.ref P, .int x3]) rfl) ?_
    refine Tt.go (fun _ => Tr.get fmc2 hP rfl fw185 (k := 0) (by decide) rfl) (?_ : Tt g l z_X2_renew (emVw M0 w) _ 44 [(0, .ref P), (1, .int x1), (2, .int x2), (3, .int x3)] [.ref (P + 1), .int x3] (M, w))
    refine Tt.callV (As := []) (rest := [.int x3]) (c_X3_size g l hl (P + 1) (fmk_2_0 hP) M w) (fmk_2_0 hP) (by decide) rfl rfl cw_X3_size fw527 pn_X3_size (Nat.le_of_ble_eq_true rfl) (Nat.le_of_ble_eq_true rfl) (Nat.le_of_ble_eq_true rfl) rfl (fun v1 => (?_ : Tt g l z_X2_renew (emVw M0 w) _ 47 [(0, .ref P), (1, .int x1), (2, .int x2), (3, .int x3)] [.int v1, .int x3] (M, w)))
    refine Tt.ic_ge (tgt := 76) rfl (by decide) ?_ ?_
    · refine Tt.go (fun _ => Tr.run 2 (pc' := 24) (lv' := [(2, .int (x2 + (1 : Int32))), (0, .ref P), (1, .int x1), (3, .int x3)]) (st' := []) rfl) ?_
      refine Tt.go (fun _ => Tr.sub (lv' := [(0, .ref P), (1, .int x1), (2, .int (x2 + (1 : Int32)))]) [1, 2, 0] rfl) ?_
      exact hk24 x1 (x2 + (1 : Int32)) M
    · refine Tt.go (fun _ => Tr.run 4 (pc' := 54) (lv' := [(0, .ref P), (1, .int x1), (2, .int x2), (3, .int x3)]) (st' := [.int x3, .int x2, .int x1, .ref P]) rfl) ?_
      refine Tt.callV (As := [.int x1, .int x2, .int x3]) (rest := []) (c_X2_isDue g l hl P x1 x2 x3 hP M w) hP (by decide) rfl rfl cw_X2_isDue fw772 pn_X2_isDue (Nat.le_of_ble_eq_true rfl) (Nat.le_of_ble_eq_true rfl) (Nat.le_of_ble_eq_true rfl) rfl (fun v2 => (?_ : Tt g l z_X2_renew (emVw M0 w) _ 57 [(0, .ref P), (1, .int x1), (2, .int x2), (3, .int x3)] [.int v2] (M, w)))
      refine Tt.if_eq (tgt := 70) rfl (by decide) ?_ ?_
      · exact t_X2_renew_70 g l hl P hP w M0 k9 hk9 k24 hk24 _ ih x1 x2 x3 M
      · refine Tt.go (fun _ => Tr.run 1 (pc' := 61) (lv' := [(0, .ref P), (1, .int x1), (2, .int x2), (3, .int x3)]) (st' := [.ref P]) rfl) ?_
        refine Tt.go (fun _ => Tr.get fmc2 hP rfl fw190 (k := 2) (by decide) rfl) (?_ : Tt g l z_X2_renew (emVw M0 w) _ 64 [(0, .ref P), (1, .int x1), (2, .int x2), (3, .int x3)] [.ref (P + 11)] (M, w))
        refine Tt.go (fun _ => Tr.run 3 (pc' := 67) (lv' := [(0, .ref P), (1, .int x1), (2, .int x2), (3, .int x3)]) (st' := [.int x3, .int x2, .int x1, .ref (P + 11)]) rfl) ?_
        refine Tt.callV (As := [.int x1, .int x2, .int x3]) (rest := []) (c_X1_add g l hl (P + 11) x1 x2 x3 (fmk_2_2 hP) M w) (fmk_2_2 hP) (by decide) rfl rfl cw_X1_add fw778 pn_X1_add (Nat.le_of_ble_eq_true rfl) (Nat.le_of_ble_eq_true rfl) (Nat.le_of_ble_eq_true rfl) rfl (fun v3 => (?_ : Tt g l z_X2_renew (emVw M0 w) _ 70 [(0, .ref P), (1, .int x1), (2, .int x2), (3, .int x3)] [] (v3, w)))
        exact t_X2_renew_70 g l hl P hP w M0 k9 hk9 k24 hk24 _ ih x1 x2 x3 v3
def f_X2_renew_24 (P : Nat) (k9 : Int32 → fm_Mem → Option (fm_Mem)) : Nat → Int32 → Int32 → fm_Mem → Option (fm_Mem)
  | 0, _, _, _ => none
  | n + 1, x1, x2, M => Option.bind (f_X3_size (P + 1) M) (fun v1 => if v1 ≤ x2 then (k9 (x1 + (1 : Int32)) M) else (f_X2_renew_39 P k9 (fun x1 x2 M => f_X2_renew_24 P k9 n x1 x2 M) fm_fuel x1 x2 (x2 + (1 : Int32)) M))
set_option maxRecDepth 100000 in
set_option maxHeartbeats 4000000 in
theorem t_X2_renew_24 (g : fm_G) (l : Launch) (hl : l.stackTraces = false) (P : Nat) (hP : fm_kd g P = 2) (w : fm_W) (M0 : fm_Mem) (k9 : Int32 → fm_Mem → Option (fm_Mem)) (hk9 : ∀ (x1 : Int32) (M : fm_Mem), Tt g l z_X2_renew (emVw M0 w) (k9 x1 M) 9 [(0, .ref P), (1, .int x1)] [] (M, w)) : ∀ (n : Nat) (x1 : Int32) (x2 : Int32)  (M : fm_Mem), Tt g l z_X2_renew (emVw M0 w) (f_X2_renew_24 P k9 n x1 x2 M) 24 [(0, .ref P), (1, .int x1), (2, .int x2)] [] (M, w) := by
  intro n
  induction n with
  | zero => intros; exact Tt.none
  | succ n ih =>
    intro x1 x2  M
    rw [f_X2_renew_24]
    refine Tt.go (fun _ => Tr.run 2 (pc' := 26) (lv' := [(0, .ref P), (1, .int x1), (2, .int x2)]) (st' := [.ref P, .int x2]) rfl) ?_
    refine Tt.go (fun _ => Tr.get fmc2 hP rfl fw185 (k := 0) (by decide) rfl) (?_ : Tt g l z_X2_renew (emVw M0 w) _ 29 [(0, .ref P), (1, .int x1), (2, .int x2)] [.ref (P + 1), .int x2] (M, w))
    refine Tt.callV (As := []) (rest := [.int x2]) (c_X3_size g l hl (P + 1) (fmk_2_0 hP) M w) (fmk_2_0 hP) (by decide) rfl rfl cw_X3_size fw527 pn_X3_size (Nat.le_of_ble_eq_true rfl) (Nat.le_of_ble_eq_true rfl) (Nat.le_of_ble_eq_true rfl) rfl (fun v1 => (?_ : Tt g l z_X2_renew (emVw M0 w) _ 32 [(0, .ref P), (1, .int x1), (2, .int x2)] [.int v1, .int x2] (M, w)))
    refine Tt.ic_ge (tgt := 82) rfl (by decide) ?_ ?_
    · refine Tt.go (fun _ => Tr.run 2 (pc' := 9) (lv' := [(1, .int (x1 + (1 : Int32))), (0, .ref P), (2, .int x2)]) (st' := []) rfl) ?_
      refine Tt.go (fun _ => Tr.sub (lv' := [(0, .ref P), (1, .int (x1 + (1 : Int32)))]) [1, 0] rfl) ?_
      exact hk9 (x1 + (1 : Int32)) M
    · refine Tt.go (fun _ => Tr.run 4 (pc' := 39) (lv' := [(3, .int (x2 + (1 : Int32))), (0, .ref P), (1, .int x1), (2, .int x2)]) (st' := []) rfl) ?_
      refine Tt.go (fun _ => Tr.sub (lv' := [(0, .ref P), (1, .int x1), (2, .int x2), (3, .int (x2 + (1 : Int32)))]) [1, 2, 3, 0] rfl) ?_
      exact t_X2_renew_39 g l hl P hP w M0 k9 hk9 _ ih fm_fuel x1 x2 (x2 + (1 : Int32)) M
def f_X2_renew_9 (P : Nat) : Nat → Int32 → fm_Mem → Option (fm_Mem)
  | 0, _, _ => none
  | n + 1, x1, M => Option.bind (f_X3_size (P + 1) M) (fun v1 => if v1 ≤ x1 then (Option.bind (f_X1_copyFrom (P + 6) (P + 11) M) (fun v2 => some (v2))) else (f_X2_renew_24 P (fun x1 M => f_X2_renew_9 P n x1 M) fm_fuel x1 (x1 + (1 : Int32)) M))
set_option maxRecDepth 100000 in
set_option maxHeartbeats 4000000 in
theorem t_X2_renew_9 (g : fm_G) (l : Launch) (hl : l.stackTraces = false) (P : Nat) (hP : fm_kd g P = 2) (w : fm_W) (M0 : fm_Mem)  : ∀ (n : Nat) (x1 : Int32)  (M : fm_Mem), Tt g l z_X2_renew (emVw M0 w) (f_X2_renew_9 P  n x1 M) 9 [(0, .ref P), (1, .int x1)] [] (M, w) := by
  intro n
  induction n with
  | zero => intros; exact Tt.none
  | succ n ih =>
    intro x1  M
    rw [f_X2_renew_9]
    refine Tt.go (fun _ => Tr.run 2 (pc' := 11) (lv' := [(0, .ref P), (1, .int x1)]) (st' := [.ref P, .int x1]) rfl) ?_
    refine Tt.go (fun _ => Tr.get fmc2 hP rfl fw185 (k := 0) (by decide) rfl) (?_ : Tt g l z_X2_renew (emVw M0 w) _ 14 [(0, .ref P), (1, .int x1)] [.ref (P + 1), .int x1] (M, w))
    refine Tt.callV (As := []) (rest := [.int x1]) (c_X3_size g l hl (P + 1) (fmk_2_0 hP) M w) (fmk_2_0 hP) (by decide) rfl rfl cw_X3_size fw527 pn_X3_size (Nat.le_of_ble_eq_true rfl) (Nat.le_of_ble_eq_true rfl) (Nat.le_of_ble_eq_true rfl) rfl (fun v1 => (?_ : Tt g l z_X2_renew (emVw M0 w) _ 17 [(0, .ref P), (1, .int x1)] [.int v1, .int x1] (M, w)))
    refine Tt.ic_ge (tgt := 88) rfl (by decide) ?_ ?_
    · refine Tt.go (fun _ => Tr.run 1 (pc' := 89) (lv' := [(0, .ref P), (1, .int x1)]) (st' := [.ref P]) rfl) ?_
      refine Tt.go (fun _ => Tr.get fmc2 hP rfl fw188 (k := 1) (by decide) rfl) (?_ : Tt g l z_X2_renew (emVw M0 w) _ 92 [(0, .ref P), (1, .int x1)] [.ref (P + 6)] (M, w))
      refine Tt.go (fun _ => Tr.run 1 (pc' := 93) (lv' := [(0, .ref P), (1, .int x1)]) (st' := [.ref P, .ref (P + 6)]) rfl) ?_
      refine Tt.go (fun _ => Tr.get fmc2 hP rfl fw190 (k := 2) (by decide) rfl) (?_ : Tt g l z_X2_renew (emVw M0 w) _ 96 [(0, .ref P), (1, .int x1)] [.ref (P + 11), .ref (P + 6)] (M, w))
      refine Tt.callV (As := [.ref (P + 11)]) (rest := []) (c_X1_copyFrom g l hl (P + 6) (P + 11) (fmk_2_1 hP) (fmk_2_2 hP) M w) (fmk_2_1 hP) (by decide) rfl rfl cw_X1_copyFrom fw415 pn_X1_copyFrom (Nat.le_of_ble_eq_true rfl) (Nat.le_of_ble_eq_true rfl) (Nat.le_of_ble_eq_true rfl) rfl (fun v2 => (?_ : Tt g l z_X2_renew (emVw M0 w) _ 99 [(0, .ref P), (1, .int x1)] [] (v2, w)))
      exact Tt.ret (Tr.vret rfl rfl)
    · refine Tt.go (fun _ => Tr.run 4 (pc' := 24) (lv' := [(2, .int (x1 + (1 : Int32))), (0, .ref P), (1, .int x1)]) (st' := []) rfl) ?_
      refine Tt.go (fun _ => Tr.sub (lv' := [(0, .ref P), (1, .int x1), (2, .int (x1 + (1 : Int32)))]) [1, 2, 0] rfl) ?_
      exact t_X2_renew_24 g l hl P hP w M0 _ ih fm_fuel x1 (x1 + (1 : Int32)) M
def f_X2_renew (P : Nat) (M : fm_Mem) : Option (fm_Mem) := Option.bind (f_X1_clear (P + 11) M) (fun v1 => (f_X2_renew_9 P fm_fuel (0 : Int32) v1))
set_option maxRecDepth 100000 in
set_option maxHeartbeats 4000000 in
theorem t_X2_renew (g : fm_G) (l : Launch) (hl : l.stackTraces = false) (P : Nat) (hP : fm_kd g P = 2) (M : fm_Mem) (w : fm_W) : Tt g l z_X2_renew (emVw M w) (f_X2_renew P M) 0 [(0, .ref P)] [] (M, w) := by
  rw [f_X2_renew]
  refine Tt.go (fun _ => Tr.run 1 (pc' := 1) (lv' := [(0, .ref P)]) (st' := [.ref P]) rfl) ?_
  refine Tt.go (fun _ => Tr.get fmc2 hP rfl fw190 (k := 2) (by decide) rfl) (?_ : Tt g l z_X2_renew (emVw M w) _ 4 [(0, .ref P)] [.ref (P + 11)] (M, w))
  refine Tt.callV (As := []) (rest := []) (c_X1_clear g l hl (P + 11) (fmk_2_2 hP) M w) (fmk_2_2 hP) (by decide) rfl rfl cw_X1_clear fw651 pn_X1_clear (Nat.le_of_ble_eq_true rfl) (Nat.le_of_ble_eq_true rfl) (Nat.le_of_ble_eq_true rfl) rfl (fun v1 => (?_ : Tt g l z_X2_renew (emVw M w) _ 7 [(0, .ref P)] [] (v1, w)))
  refine Tt.go (fun _ => Tr.run 2 (pc' := 9) (lv' := [(1, .int (0 : Int32)), (0, .ref P)]) (st' := []) rfl) ?_
  refine Tt.go (fun _ => Tr.sub (lv' := [(0, .ref P), (1, .int (0 : Int32))]) [1, 0] rfl) ?_
  exact t_X2_renew_9 g l hl P hP w M fm_fuel (0 : Int32) v1
theorem c_X2_renew (g : fm_G) (l : Launch) (hl : l.stackTraces = false) (P : Nat) (hP : fm_kd g P = 2) (M : fm_Mem) (w : fm_W) : ∀ r, f_X2_renew P M = some r → fC g l z_X2_renew [.ref P] (M, w) (emVw M w r) := fun r hr => fC.of (by decide) rfl o_X2_renew hl (Nat.le_of_ble_eq_true rfl) (t_X2_renew g l hl P hP M w r hr)
