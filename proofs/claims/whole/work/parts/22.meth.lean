theorem fw1030 : Cond.fieldLink "CircleFlipsModel" 19 "CircleFlipsModel" "before" "[I" ∈ lw_all := lw_in 1030 (by decide +kernel) (by decide +kernel)
theorem fw1423 : Cond.methodLink "CircleFlipsModel" 329 ⟨"java/lang/Float", "floatToIntBits", "(F)I"⟩ ∈ lw_all := lw_in 1423 (by decide +kernel) (by decide +kernel)
theorem fw1441 : Cond.methodLink "CircleFlipsModel" 335 ⟨"CircleFlipsModel", "change", "()V"⟩ ∈ lw_all := lw_in 1441 (by decide +kernel) (by decide +kernel)
theorem fw1453 : Cond.methodLink "CircleFlipsModel" 338 ⟨"CircleFlipsModel", "unlike", "(I)I"⟩ ∈ lw_all := lw_in 1453 (by decide +kernel) (by decide +kernel)
theorem fw1473 : Cond.methodLink "CircleFlipsModel" 343 ⟨"CircleFlipsModel", "joins", "(JJ)J"⟩ ∈ lw_all := lw_in 1473 (by decide +kernel) (by decide +kernel)
theorem fw1476 : Cond.constantLong "CircleFlipsModel" 341 (31 : Int64) ∈ lw_all := lw_in 1476 (by decide +kernel) (by decide +kernel)
def k_X7_roundness : List (Nat × Instr × Nat) := [(0, .aload_n 0, 1), (1, .iconst 0, 1), (2, .putfield 35, 3), (5, .aload_n 0, 1), (6, .aload_n 0, 1), (7, .iload_n 1, 1), (8, .iconst 0, 1), (9, .invokevirtual 299, 3), (12, .iconst 1, 1), (13, .invokevirtual 252, 3), (16, .ifCond .ne 5, 3), (19, .iconst 0, 1), (20, .ireturn, 1), (21, .aload_n 0, 1), (22, .iconst 0, 1), (23, .iload_n 1, 1), (24, .iconst 0, 1), (25, .invokevirtual 103, 3), (28, .istore_n 2, 1), (29, .aload_n 0, 1), (30, .iconst 0, 1), (31, .iload_n 1, 1), (32, .iconst 1, 1), (33, .invokevirtual 103, 3), (36, .istore_n 3, 1), (37, .aload_n 0, 1), (38, .iconst 0, 1), (39, .iload_n 1, 1), (40, .iconst 2, 1), (41, .invokevirtual 103, 3), (44, .istore 4, 2), (46, .aload_n 0, 1), (47, .iload_n 2, 1), (48, .iload_n 3, 1), (49, .iload 4, 2), (51, .invokevirtual 70, 3), (54, .invokestatic 279, 3), (57, .l2f, 1), (58, .aload_n 0, 1), (59, .iload_n 2, 1), (60, .iload_n 3, 1), (61, .invokevirtual 268, 3), (64, .aload_n 0, 1), (65, .iload_n 3, 1), (66, .iload 4, 2), (68, .invokevirtual 268, 3), (71, .ladd, 1), (72, .aload_n 0, 1), (73, .iload 4, 2), (75, .iload_n 2, 1), (76, .invokevirtual 268, 3), (79, .ladd, 1), (80, .l2f, 1), (81, .fdiv, 1), (82, .invokestatic 329, 3), (85, .ireturn, 1)]
def z_X7_roundness : fm_Y := (yX7_roundness, RX7, cX7_roundness, 5, (some .int), k_X7_roundness, 9, 229)
theorem o_X7_roundness : fm_dec z_X7_roundness := (by decide +kernel : ∀ q ∈ k_X7_roundness, decode cX7_roundness q.1 = .ok q.2)
theorem cw_X7_roundness : fm_cwV z_X7_roundness := ⟨⟨lw_in 1422 (by decide +kernel) (by decide +kernel), lw_in 99 (by decide +kernel) (by decide +kernel), by decide, by decide⟩, lw_in 1420 (by decide +kernel) (by decide +kernel), lw_in 1421 (by decide +kernel) (by decide +kernel)⟩
theorem pn_X7_roundness : (parseMethodDescriptor z_X7_roundness.1.desc).map (fun d => d.parameters.length) = some 1 := by decide +kernel
def f_X7_roundness (P : Nat) (a1 : Int32) (M : fm_Mem) : Option (Int32 × fm_Mem) := Option.bind (f_X7_isTriangle P a1 (0 : Int32) (fm_up M P 0 (0 : Int32))) (fun v1 => Option.bind (f_X7_right P v1.1 (1 : Int32) v1.2) (fun v2 => if v2.1 = 0 then (some (((0 : Int32), v2.2))) else (Option.bind (f_X7_endOf P (0 : Int32) a1 (0 : Int32) v2.2) (fun v3 => Option.bind (f_X7_endOf P (0 : Int32) a1 (1 : Int32) v2.2) (fun v4 => Option.bind (f_X7_endOf P (0 : Int32) a1 (2 : Int32) v2.2) (fun v5 => Option.bind (f_X7_turn P v3 v4 v5 v2.2) (fun v6 => Option.bind (f_X7_apart P v3 v4 v2.2) (fun v7 => Option.bind (f_X7_apart P v4 v5 v2.2) (fun v8 => Option.bind (f_X7_apart P v5 v3 v2.2) (fun v9 => fm_ck (fm_f32 (FP.fdiv (FP.l2f (fm_absL v6)) (FP.l2f ((v7 + v8) + v9)))) (Option.bind (f_S_floatToIntBits (FP.fdiv (FP.l2f (fm_absL v6)) (FP.l2f ((v7 + v8) + v9)))) (fun v11 => some ((v11, v2.2))))))))))))))
set_option maxRecDepth 100000 in
set_option maxHeartbeats 4000000 in
theorem t_X7_roundness (g : fm_G) (l : Launch) (hl : l.stackTraces = false) (P : Nat) (a1 : Int32) (hP : fm_kd g P = 7) (M : fm_Mem) (w : fm_W) : Tt g l z_X7_roundness (emIw M w) (f_X7_roundness P a1 M) 0 [(0, .ref P), (1, .int a1)] [] (M, w) := by
  rw [f_X7_roundness]
  refine Tt.go (fun _ => Tr.run 2 (pc' := 2) (lv' := [(0, .ref P), (1, .int a1)]) (st' := [.int (0 : Int32), .ref P]) rfl) ?_
  refine Tt.go (fun _ => Tr.put fmc7 hP rfl fw1024 (k := 0) (by decide) rfl rfl ⟨rfl, rfl⟩) (?_ : Tt g l z_X7_roundness (emIw M w) _ 5 [(0, .ref P), (1, .int a1)] [] ((fm_up M P 0 (0 : Int32)), w))
  refine Tt.go (fun _ => Tr.run 4 (pc' := 9) (lv' := [(0, .ref P), (1, .int a1)]) (st' := [.int (0 : Int32), .int a1, .ref P, .ref P]) rfl) ?_
  refine Tt.callV (As := [.int a1, .int (0 : Int32)]) (rest := [.ref P]) (c_X7_isTriangle g l hl P a1 (0 : Int32) hP (fm_up M P 0 (0 : Int32)) w) hP (by decide) rfl rfl cw_X7_isTriangle fw1339 pn_X7_isTriangle (Nat.le_of_ble_eq_true rfl) (Nat.le_of_ble_eq_true rfl) (Nat.le_of_ble_eq_true rfl) rfl (fun v1 => (?_ : Tt g l z_X7_roundness (emIw M w) _ 12 [(0, .ref P), (1, .int a1)] [.int v1.1, .ref P] (v1.2, w)))
  refine Tt.go (fun _ => Tr.run 1 (pc' := 13) (lv' := [(0, .ref P), (1, .int a1)]) (st' := [.int (1 : Int32), .int v1.1, .ref P]) rfl) ?_
  refine Tt.callV (As := [.int v1.1, .int (1 : Int32)]) (rest := []) (c_X7_right g l hl P v1.1 (1 : Int32) hP v1.2 w) hP (by decide) rfl rfl cw_X7_right fw1105 pn_X7_right (Nat.le_of_ble_eq_true rfl) (Nat.le_of_ble_eq_true rfl) (Nat.le_of_ble_eq_true rfl) rfl (fun v2 => (?_ : Tt g l z_X7_roundness (emIw M w) _ 16 [(0, .ref P), (1, .int a1)] [.int v2.1] (v2.2, w)))
  refine Tt.if_ne (tgt := 21) rfl (by decide) ?_ ?_
  · refine Tt.go (fun _ => Tr.run 1 (pc' := 20) (lv' := [(0, .ref P), (1, .int a1)]) (st' := [.int (0 : Int32)]) rfl) ?_
    exact Tt.ret (Tr.iret rfl rfl)
  · refine Tt.go (fun _ => Tr.run 4 (pc' := 25) (lv' := [(0, .ref P), (1, .int a1)]) (st' := [.int (0 : Int32), .int a1, .int (0 : Int32), .ref P]) rfl) ?_
    refine Tt.callV (As := [.int (0 : Int32), .int a1, .int (0 : Int32)]) (rest := []) (c_X7_endOf g l hl P (0 : Int32) a1 (0 : Int32) hP v2.2 w) hP (by decide) rfl rfl cw_X7_endOf fw1231 pn_X7_endOf (Nat.le_of_ble_eq_true rfl) (Nat.le_of_ble_eq_true rfl) (Nat.le_of_ble_eq_true rfl) rfl (fun v3 => (?_ : Tt g l z_X7_roundness (emIw M w) _ 28 [(0, .ref P), (1, .int a1)] [.int v3] (v2.2, w)))
    refine Tt.go (fun _ => Tr.run 5 (pc' := 33) (lv' := [(2, .int v3), (0, .ref P), (1, .int a1)]) (st' := [.int (1 : Int32), .int a1, .int (0 : Int32), .ref P]) rfl) ?_
    refine Tt.callV (As := [.int (0 : Int32), .int a1, .int (1 : Int32)]) (rest := []) (c_X7_endOf g l hl P (0 : Int32) a1 (1 : Int32) hP v2.2 w) hP (by decide) rfl rfl cw_X7_endOf fw1231 pn_X7_endOf (Nat.le_of_ble_eq_true rfl) (Nat.le_of_ble_eq_true rfl) (Nat.le_of_ble_eq_true rfl) rfl (fun v4 => (?_ : Tt g l z_X7_roundness (emIw M w) _ 36 [(2, .int v3), (0, .ref P), (1, .int a1)] [.int v4] (v2.2, w)))
    refine Tt.go (fun _ => Tr.run 5 (pc' := 41) (lv' := [(3, .int v4), (2, .int v3), (0, .ref P), (1, .int a1)]) (st' := [.int (2 : Int32), .int a1, .int (0 : Int32), .ref P]) rfl) ?_
    refine Tt.callV (As := [.int (0 : Int32), .int a1, .int (2 : Int32)]) (rest := []) (c_X7_endOf g l hl P (0 : Int32) a1 (2 : Int32) hP v2.2 w) hP (by decide) rfl rfl cw_X7_endOf fw1231 pn_X7_endOf (Nat.le_of_ble_eq_true rfl) (Nat.le_of_ble_eq_true rfl) (Nat.le_of_ble_eq_true rfl) rfl (fun v5 => (?_ : Tt g l z_X7_roundness (emIw M w) _ 44 [(3, .int v4), (2, .int v3), (0, .ref P), (1, .int a1)] [.int v5] (v2.2, w)))
    refine Tt.go (fun _ => Tr.run 5 (pc' := 51) (lv' := [(4, .int v5), (3, .int v4), (2, .int v3), (0, .ref P), (1, .int a1)]) (st' := [.int v5, .int v4, .int v3, .ref P]) rfl) ?_
    refine Tt.callV (As := [.int v3, .int v4, .int v5]) (rest := []) (c_X7_turn g l hl P v3 v4 v5 hP v2.2 w) hP (by decide) rfl rfl cw_X7_turn fw1193 pn_X7_turn (Nat.le_of_ble_eq_true rfl) (Nat.le_of_ble_eq_true rfl) (Nat.le_of_ble_eq_true rfl) rfl (fun v6 => (?_ : Tt g l z_X7_roundness (emIw M w) _ 54 [(4, .int v5), (3, .int v4), (2, .int v3), (0, .ref P), (1, .int a1)] [.long v6] (v2.2, w)))
    refine Tt.go (fun _ => Tr.absL rfl ⟨fw1347, fw1348, fw94, fw1349⟩ (Nat.le_of_ble_eq_true rfl) (Nat.le_of_ble_eq_true rfl)) (?_ : Tt g l z_X7_roundness (emIw M w) _ 57 [(4, .int v5), (3, .int v4), (2, .int v3), (0, .ref P), (1, .int a1)] [.long (fm_absL v6)] (v2.2, w))
    refine Tt.go (fun _ => Tr.run 4 (pc' := 61) (lv' := [(4, .int v5), (3, .int v4), (2, .int v3), (0, .ref P), (1, .int a1)]) (st' := [.int v4, .int v3, .ref P, .float (FP.l2f (fm_absL v6))]) rfl) ?_
    refine Tt.callV (As := [.int v3, .int v4]) (rest := [.float (FP.l2f (fm_absL v6))]) (c_X7_apart g l hl P v3 v4 hP v2.2 w) hP (by decide) rfl rfl cw_X7_apart fw1331 pn_X7_apart (Nat.le_of_ble_eq_true rfl) (Nat.le_of_ble_eq_true rfl) (Nat.le_of_ble_eq_true rfl) rfl (fun v7 => (?_ : Tt g l z_X7_roundness (emIw M w) _ 64 [(4, .int v5), (3, .int v4), (2, .int v3), (0, .ref P), (1, .int a1)] [.long v7, .float (FP.l2f (fm_absL v6))] (v2.2, w)))
    refine Tt.go (fun _ => Tr.run 3 (pc' := 68) (lv' := [(4, .int v5), (3, .int v4), (2, .int v3), (0, .ref P), (1, .int a1)]) (st' := [.int v5, .int v4, .ref P, .long v7, .float (FP.l2f (fm_absL v6))]) rfl) ?_
    refine Tt.callV (As := [.int v4, .int v5]) (rest := [.long v7, .float (FP.l2f (fm_absL v6))]) (c_X7_apart g l hl P v4 v5 hP v2.2 w) hP (by decide) rfl rfl cw_X7_apart fw1331 pn_X7_apart (Nat.le_of_ble_eq_true rfl) (Nat.le_of_ble_eq_true rfl) (Nat.le_of_ble_eq_true rfl) rfl (fun v8 => (?_ : Tt g l z_X7_roundness (emIw M w) _ 71 [(4, .int v5), (3, .int v4), (2, .int v3), (0, .ref P), (1, .int a1)] [.long v8, .long v7, .float (FP.l2f (fm_absL v6))] (v2.2, w)))
    refine Tt.go (fun _ => Tr.run 4 (pc' := 76) (lv' := [(4, .int v5), (3, .int v4), (2, .int v3), (0, .ref P), (1, .int a1)]) (st' := [.int v3, .int v5, .ref P, .long (v7 + v8), .float (FP.l2f (fm_absL v6))]) rfl) ?_
    refine Tt.callV (As := [.int v5, .int v3]) (rest := [.long (v7 + v8), .float (FP.l2f (fm_absL v6))]) (c_X7_apart g l hl P v5 v3 hP v2.2 w) hP (by decide) rfl rfl cw_X7_apart fw1331 pn_X7_apart (Nat.le_of_ble_eq_true rfl) (Nat.le_of_ble_eq_true rfl) (Nat.le_of_ble_eq_true rfl) rfl (fun v9 => (?_ : Tt g l z_X7_roundness (emIw M w) _ 79 [(4, .int v5), (3, .int v4), (2, .int v3), (0, .ref P), (1, .int a1)] [.long v9, .long (v7 + v8), .float (FP.l2f (fm_absL v6))] (v2.2, w)))
    refine Tt.go (fun _ => Tr.run 2 (pc' := 81) (lv' := [(4, .int v5), (3, .int v4), (2, .int v3), (0, .ref P), (1, .int a1)]) (st' := [.float (FP.l2f ((v7 + v8) + v9)), .float (FP.l2f (fm_absL v6))]) rfl) ?_
    refine Tt.ck (fun hf10 => ?_)
    refine Tt.go (fun _ => Tr.fdiv rfl hf10) (?_ : Tt g l z_X7_roundness (emIw M w) _ 82 [(4, .int v5), (3, .int v4), (2, .int v3), (0, .ref P), (1, .int a1)] [.float (FP.fdiv (FP.l2f (fm_absL v6)) (FP.l2f ((v7 + v8) + v9)))] (v2.2, w))
    refine Tt.callS (As := [.float (FP.fdiv (FP.l2f (fm_absL v6)) (FP.l2f ((v7 + v8) + v9)))]) (rest := []) (c_S_floatToIntBits g l hl (FP.fdiv (FP.l2f (fm_absL v6)) (FP.l2f ((v7 + v8) + v9))) v2.2 w) rfl cw_S_floatToIntBits fw1423 pn_S_floatToIntBits (Nat.le_of_ble_eq_true rfl) (Nat.le_of_ble_eq_true rfl) (Nat.le_of_ble_eq_true rfl) rfl (fun v11 => (?_ : Tt g l z_X7_roundness (emIw M w) _ 85 [(4, .int v5), (3, .int v4), (2, .int v3), (0, .ref P), (1, .int a1)] [.int v11] (v2.2, w)))
    exact Tt.ret (Tr.iret rfl rfl)
theorem c_X7_roundness (g : fm_G) (l : Launch) (hl : l.stackTraces = false) (P : Nat) (a1 : Int32) (hP : fm_kd g P = 7) (M : fm_Mem) (w : fm_W) : ∀ r, f_X7_roundness P a1 M = some r → fC g l z_X7_roundness [.ref P, .int a1] (M, w) (emIw M w r) := fun r hr => fC.of (by decide) rfl o_X7_roundness hl (Nat.le_of_ble_eq_true rfl) (t_X7_roundness g l hl P a1 hP M w r hr)
def k_X7_share : List (Nat × Instr × Nat) := [(0, .aload_n 0, 1), (1, .iconst 0, 1), (2, .putfield 35, 3), (5, .aload_n 0, 1), (6, .invokevirtual 48, 3), (9, .ifCond .ne 7, 3), (12, .fconst 0, 1), (13, .goto 15, 3), (16, .aload_n 0, 1), (17, .iconst 0, 1), (18, .invokevirtual 259, 3), (21, .i2f, 1), (22, .aload_n 0, 1), (23, .invokevirtual 48, 3), (26, .i2f, 1), (27, .fdiv, 1), (28, .freturn, 1)]
def z_X7_share : fm_Y := (yX7_share, RX7, cX7_share, 1, (some .float), k_X7_share, 11, 279)
theorem o_X7_share : fm_dec z_X7_share := (by decide +kernel : ∀ q ∈ k_X7_share, decode cX7_share q.1 = .ok q.2)
theorem cw_X7_share : fm_cwV z_X7_share := ⟨⟨lw_in 1436 (by decide +kernel) (by decide +kernel), lw_in 99 (by decide +kernel) (by decide +kernel), by decide, by decide⟩, lw_in 1434 (by decide +kernel) (by decide +kernel), lw_in 1435 (by decide +kernel) (by decide +kernel)⟩
theorem pn_X7_share : (parseMethodDescriptor z_X7_share.1.desc).map (fun d => d.parameters.length) = some 0 := by decide +kernel
def f_X7_share_28 (P : Nat) (s0 : UInt32) (M : fm_Mem) : Option (UInt32 × fm_Mem) := some ((s0, M))
set_option maxRecDepth 100000 in
set_option maxHeartbeats 4000000 in
theorem t_X7_share_28 (g : fm_G) (l : Launch) (hl : l.stackTraces = false) (P : Nat) (hP : fm_kd g P = 7) (w : fm_W) (M0 : fm_Mem)  (s0 : UInt32)  (M : fm_Mem) : Tt g l z_X7_share (emFw M0 w) (f_X7_share_28 P  s0 M) 28 [] [.float s0] (M, w) := by
  rw [f_X7_share_28]
  exact Tt.ret (Tr.fret rfl rfl)
def f_X7_share (P : Nat) (M : fm_Mem) : Option (UInt32 × fm_Mem) := Option.bind (f_X7_points P (fm_up M P 0 (0 : Int32))) (fun v1 => if v1 = 0 then (f_X7_share_28 P FP.fconst0 (fm_up M P 0 (0 : Int32))) else (Option.bind (f_X7_edges P (0 : Int32) (fm_up M P 0 (0 : Int32))) (fun v2 => Option.bind (f_X7_points P v2.2) (fun v3 => fm_ck (fm_f32 (FP.fdiv (FP.i2f v2.1) (FP.i2f v3))) (f_X7_share_28 P (FP.fdiv (FP.i2f v2.1) (FP.i2f v3)) v2.2)))))
set_option maxRecDepth 100000 in
set_option maxHeartbeats 4000000 in
theorem t_X7_share (g : fm_G) (l : Launch) (hl : l.stackTraces = false) (P : Nat) (hP : fm_kd g P = 7) (M : fm_Mem) (w : fm_W) : Tt g l z_X7_share (emFw M w) (f_X7_share P M) 0 [(0, .ref P)] [] (M, w) := by
  rw [f_X7_share]
  refine Tt.go (fun _ => Tr.run 2 (pc' := 2) (lv' := [(0, .ref P)]) (st' := [.int (0 : Int32), .ref P]) rfl) ?_
  refine Tt.go (fun _ => Tr.put fmc7 hP rfl fw1024 (k := 0) (by decide) rfl rfl ⟨rfl, rfl⟩) (?_ : Tt g l z_X7_share (emFw M w) _ 5 [(0, .ref P)] [] ((fm_up M P 0 (0 : Int32)), w))
  refine Tt.go (fun _ => Tr.run 1 (pc' := 6) (lv' := [(0, .ref P)]) (st' := [.ref P]) rfl) ?_
  refine Tt.callV (As := []) (rest := []) (c_X7_points g l hl P hP (fm_up M P 0 (0 : Int32)) w) hP (by decide) rfl rfl cw_X7_points fw1156 pn_X7_points (Nat.le_of_ble_eq_true rfl) (Nat.le_of_ble_eq_true rfl) (Nat.le_of_ble_eq_true rfl) rfl (fun v1 => (?_ : Tt g l z_X7_share (emFw M w) _ 9 [(0, .ref P)] [.int v1] ((fm_up M P 0 (0 : Int32)), w)))
  refine Tt.if_ne (tgt := 16) rfl (by decide) ?_ ?_
  · refine Tt.go (fun _ => Tr.run 2 (pc' := 28) (lv' := [(0, .ref P)]) (st' := [.float FP.fconst0]) rfl) ?_
    refine Tt.go (fun _ => Tr.sub (lv' := []) [] rfl) ?_
    exact t_X7_share_28 g l hl P hP w M FP.fconst0 (fm_up M P 0 (0 : Int32))
  · refine Tt.go (fun _ => Tr.run 2 (pc' := 18) (lv' := [(0, .ref P)]) (st' := [.int (0 : Int32), .ref P]) rfl) ?_
    refine Tt.callV (As := [.int (0 : Int32)]) (rest := []) (c_X7_edges g l hl P (0 : Int32) hP (fm_up M P 0 (0 : Int32)) w) hP (by decide) rfl rfl cw_X7_edges fw1277 pn_X7_edges (Nat.le_of_ble_eq_true rfl) (Nat.le_of_ble_eq_true rfl) (Nat.le_of_ble_eq_true rfl) rfl (fun v2 => (?_ : Tt g l z_X7_share (emFw M w) _ 21 [(0, .ref P)] [.int v2.1] (v2.2, w)))
    refine Tt.go (fun _ => Tr.run 2 (pc' := 23) (lv' := [(0, .ref P)]) (st' := [.ref P, .float (FP.i2f v2.1)]) rfl) ?_
    refine Tt.callV (As := []) (rest := [.float (FP.i2f v2.1)]) (c_X7_points g l hl P hP v2.2 w) hP (by decide) rfl rfl cw_X7_points fw1156 pn_X7_points (Nat.le_of_ble_eq_true rfl) (Nat.le_of_ble_eq_true rfl) (Nat.le_of_ble_eq_true rfl) rfl (fun v3 => (?_ : Tt g l z_X7_share (emFw M w) _ 26 [(0, .ref P)] [.int v3, .float (FP.i2f v2.1)] (v2.2, w)))
    refine Tt.go (fun _ => Tr.run 1 (pc' := 27) (lv' := [(0, .ref P)]) (st' := [.float (FP.i2f v3), .float (FP.i2f v2.1)]) rfl) ?_
    refine Tt.ck (fun hf4 => ?_)
    refine Tt.go (fun _ => Tr.fdiv rfl hf4) (?_ : Tt g l z_X7_share (emFw M w) _ 28 [(0, .ref P)] [.float (FP.fdiv (FP.i2f v2.1) (FP.i2f v3))] (v2.2, w))
    refine Tt.go (fun _ => Tr.sub (lv' := []) [] rfl) ?_
    exact t_X7_share_28 g l hl P hP w M (FP.fdiv (FP.i2f v2.1) (FP.i2f v3)) v2.2
theorem c_X7_share (g : fm_G) (l : Launch) (hl : l.stackTraces = false) (P : Nat) (hP : fm_kd g P = 7) (M : fm_Mem) (w : fm_W) : ∀ r, f_X7_share P M = some r → fC g l z_X7_share [.ref P] (M, w) (emFw M w r) := fun r hr => fC.of (by decide) rfl o_X7_share hl (Nat.le_of_ble_eq_true rfl) (t_X7_share g l hl P hP M w r hr)
def k_X7_put : List (Nat × Instr × Nat) := [(0, .aload_n 0, 1), (1, .iconst 0, 1), (2, .putfield 35, 3), (5, .aload_n 0, 1), (6, .iload_n 1, 1), (7, .iconst 0, 1), (8, .sipush 200, 3), (11, .invokestatic 52, 3), (14, .ifCond .eq 18, 3), (17, .iload_n 2, 1), (18, .iconst 0, 1), (19, .sipush 200, 3), (22, .invokestatic 52, 3), (25, .ifCond .eq 7, 3), (28, .iconst 1, 1), (29, .goto 4, 3), (32, .iconst 0, 1), (33, .iconst 1, 1), (34, .invokevirtual 252, 3), (37, .ifCond .eq 35, 3), (40, .aload_n 0, 1), (41, .aload_n 0, 1), (42, .invokevirtual 48, 3), (45, .bipush 20, 2), (47, .if_icmp .ge 17, 3), (50, .aload_n 0, 1), (51, .iload_n 1, 1), (52, .iload_n 2, 1), (53, .invokevirtual 221, 3), (56, .iconst (-1), 1), (57, .if_icmp .ne 7, 3), (60, .iconst 1, 1), (61, .goto 4, 3), (64, .iconst 0, 1), (65, .iconst 2, 1), (66, .invokevirtual 252, 3), (69, .ifCond .ne 5, 3), (72, .iconst 0, 1), (73, .ireturn, 1), (74, .aload_n 0, 1), (75, .invokevirtual 335, 3), (78, .aload_n 0, 1), (79, .invokevirtual 48, 3), (82, .istore_n 3, 1), (83, .aload_n 0, 1), (84, .bipush 10, 2), (86, .iconst 2, 1), (87, .iload_n 3, 1), (88, .imul, 1), (89, .iadd, 1), (90, .iload_n 1, 1), (91, .invokevirtual 99, 3), (94, .aload_n 0, 1), (95, .bipush 10, 2), (97, .iconst 2, 1), (98, .iload_n 3, 1), (99, .imul, 1), (100, .iadd, 1), (101, .iconst 1, 1), (102, .iadd, 1), (103, .iload_n 2, 1), (104, .invokevirtual 99, 3), (107, .aload_n 0, 1), (108, .iconst 0, 1), (109, .iload_n 3, 1), (110, .iconst 1, 1), (111, .iadd, 1), (112, .invokevirtual 99, 3), (115, .aload_n 0, 1), (116, .iconst 3, 1), (117, .aload_n 0, 1), (118, .iconst 3, 1), (119, .invokevirtual 41, 3), (122, .iconst 1, 1), (123, .iadd, 1), (124, .invokevirtual 99, 3), (127, .aload_n 0, 1), (128, .invokevirtual 224, 3), (131, .iload_n 3, 1), (132, .ireturn, 1)]
def z_X7_put : fm_Y := (yX7_put, RX7, cX7_put, 4, (some .int), k_X7_put, 8, 207)
theorem o_X7_put : fm_dec z_X7_put := (by decide +kernel : ∀ q ∈ k_X7_put, decode cX7_put q.1 = .ok q.2)
theorem cw_X7_put : fm_cwV z_X7_put := ⟨⟨lw_in 1440 (by decide +kernel) (by decide +kernel), lw_in 99 (by decide +kernel) (by decide +kernel), by decide, by decide⟩, lw_in 1438 (by decide +kernel) (by decide +kernel), lw_in 1439 (by decide +kernel) (by decide +kernel)⟩
theorem pn_X7_put : (parseMethodDescriptor z_X7_put.1.desc).map (fun d => d.parameters.length) = some 2 := by decide +kernel
def f_X7_put_72 (P : Nat) (a1 : Int32) (a2 : Int32)  (M : fm_Mem) : Option (Int32 × fm_Mem) := some (((0 : Int32), M))
set_option maxRecDepth 100000 in
set_option maxHeartbeats 4000000 in
theorem t_X7_put_72 (g : fm_G) (l : Launch) (hl : l.stackTraces = false) (P : Nat) (a1 : Int32) (a2 : Int32) (hP : fm_kd g P = 7) (w : fm_W) (M0 : fm_Mem)    (M : fm_Mem) : Tt g l z_X7_put (emIw M0 w) (f_X7_put_72 P a1 a2   M) 72 [] [] (M, w) := by
  rw [f_X7_put_72]
  refine Tt.go (fun _ => Tr.run 1 (pc' := 73) (lv' := []) (st' := [.int (0 : Int32)]) rfl) ?_
  exact Tt.ret (Tr.iret rfl rfl)
def f_X7_put_65 (P : Nat) (a1 : Int32) (a2 : Int32) (s0 : Int32) (M : fm_Mem) : Option (Int32 × fm_Mem) := Option.bind (f_X7_right P s0 (2 : Int32) M) (fun v1 => if v1.1 = 0 then (f_X7_put_72 P a1 a2 v1.2) else (Option.bind (f_X7_change P v1.2) (fun v2 => Option.bind (f_X7_points P v2) (fun v3 => Option.bind (f_X7_put0 P ((10 : Int32) + ((2 : Int32) * v3)) a1 v2) (fun v4 => Option.bind (f_X7_put0 P (((10 : Int32) + ((2 : Int32) * v3)) + (1 : Int32)) a2 v4) (fun v5 => Option.bind (f_X7_put0 P (0 : Int32) (v3 + (1 : Int32)) v5) (fun v6 => Option.bind (f_X7_get P (3 : Int32) v6) (fun v7 => Option.bind (f_X7_put0 P (3 : Int32) (v7 + (1 : Int32)) v6) (fun v8 => Option.bind (f_X7_drawsAnew P v8) (fun v9 => some ((v3, v9))))))))))))
set_option maxRecDepth 100000 in
set_option maxHeartbeats 4000000 in
theorem t_X7_put_65 (g : fm_G) (l : Launch) (hl : l.stackTraces = false) (P : Nat) (a1 : Int32) (a2 : Int32) (hP : fm_kd g P = 7) (w : fm_W) (M0 : fm_Mem)  (s0 : Int32)  (M : fm_Mem) : Tt g l z_X7_put (emIw M0 w) (f_X7_put_65 P a1 a2  s0 M) 65 [(0, .ref P), (1, .int a1), (2, .int a2)] [.int s0, .ref P] (M, w) := by
  rw [f_X7_put_65]
  refine Tt.go (fun _ => Tr.run 1 (pc' := 66) (lv' := [(0, .ref P), (1, .int a1), (2, .int a2)]) (st' := [.int (2 : Int32), .int s0, .ref P]) rfl) ?_
  refine Tt.callV (As := [.int s0, .int (2 : Int32)]) (rest := []) (c_X7_right g l hl P s0 (2 : Int32) hP M w) hP (by decide) rfl rfl cw_X7_right fw1105 pn_X7_right (Nat.le_of_ble_eq_true rfl) (Nat.le_of_ble_eq_true rfl) (Nat.le_of_ble_eq_true rfl) rfl (fun v1 => (?_ : Tt g l z_X7_put (emIw M0 w) _ 69 [(0, .ref P), (1, .int a1), (2, .int a2)] [.int v1.1] (v1.2, w)))
  refine Tt.if_ne (tgt := 74) rfl (by decide) ?_ ?_
  · refine Tt.go (fun _ => Tr.sub (lv' := []) [] rfl) ?_
    exact t_X7_put_72 g l hl P a1 a2 hP w M0 v1.2
  · refine Tt.go (fun _ => Tr.run 1 (pc' := 75) (lv' := [(0, .ref P), (1, .int a1), (2, .int a2)]) (st' := [.ref P]) rfl) ?_
    refine Tt.callV (As := []) (rest := []) (c_X7_change g l hl P hP v1.2 w) hP (by decide) rfl rfl cw_X7_change fw1441 pn_X7_change (Nat.le_of_ble_eq_true rfl) (Nat.le_of_ble_eq_true rfl) (Nat.le_of_ble_eq_true rfl) rfl (fun v2 => (?_ : Tt g l z_X7_put (emIw M0 w) _ 78 [(0, .ref P), (1, .int a1), (2, .int a2)] [] (v2, w)))
    refine Tt.go (fun _ => Tr.run 1 (pc' := 79) (lv' := [(0, .ref P), (1, .int a1), (2, .int a2)]) (st' := [.ref P]) rfl) ?_
    refine Tt.callV (As := []) (rest := []) (c_X7_points g l hl P hP v2 w) hP (by decide) rfl rfl cw_X7_points fw1156 pn_X7_points (Nat.le_of_ble_eq_true rfl) (Nat.le_of_ble_eq_true rfl) (Nat.le_of_ble_eq_true rfl) rfl (fun v3 => (?_ : Tt g l z_X7_put (emIw M0 w) _ 82 [(0, .ref P), (1, .int a1), (2, .int a2)] [.int v3] (v2, w)))
    refine Tt.go (fun _ => Tr.run 8 (pc' := 91) (lv' := [(3, .int v3), (0, .ref P), (1, .int a1), (2, .int a2)]) (st' := [.int a1, .int ((10 : Int32) + ((2 : Int32) * v3)), .ref P]) rfl) ?_
    refine Tt.callV (As := [.int ((10 : Int32) + ((2 : Int32) * v3)), .int a1]) (rest := []) (c_X7_put0 g l hl P ((10 : Int32) + ((2 : Int32) * v3)) a1 hP v2 w) hP (by decide) rfl rfl cw_X7_put0 fw1135 pn_X7_put0 (Nat.le_of_ble_eq_true rfl) (Nat.le_of_ble_eq_true rfl) (Nat.le_of_ble_eq_true rfl) rfl (fun v4 => (?_ : Tt g l z_X7_put (emIw M0 w) _ 94 [(3, .int v3), (0, .ref P), (1, .int a1), (2, .int a2)] [] (v4, w)))
    refine Tt.go (fun _ => Tr.run 9 (pc' := 104) (lv' := [(3, .int v3), (0, .ref P), (1, .int a1), (2, .int a2)]) (st' := [.int a2, .int (((10 : Int32) + ((2 : Int32) * v3)) + (1 : Int32)), .ref P]) rfl) ?_
    refine Tt.callV (As := [.int (((10 : Int32) + ((2 : Int32) * v3)) + (1 : Int32)), .int a2]) (rest := []) (c_X7_put0 g l hl P (((10 : Int32) + ((2 : Int32) * v3)) + (1 : Int32)) a2 hP v4 w) hP (by decide) rfl rfl cw_X7_put0 fw1135 pn_X7_put0 (Nat.le_of_ble_eq_true rfl) (Nat.le_of_ble_eq_true rfl) (Nat.le_of_ble_eq_true rfl) rfl (fun v5 => (?_ : Tt g l z_X7_put (emIw M0 w) _ 107 [(3, .int v3), (0, .ref P), (1, .int a1), (2, .int a2)] [] (v5, w)))
    refine Tt.go (fun _ => Tr.run 5 (pc' := 112) (lv' := [(3, .int v3), (0, .ref P), (1, .int a1), (2, .int a2)]) (st' := [.int (v3 + (1 : Int32)), .int (0 : Int32), .ref P]) rfl) ?_
    refine Tt.callV (As := [.int (0 : Int32), .int (v3 + (1 : Int32))]) (rest := []) (c_X7_put0 g l hl P (0 : Int32) (v3 + (1 : Int32)) hP v5 w) hP (by decide) rfl rfl cw_X7_put0 fw1135 pn_X7_put0 (Nat.le_of_ble_eq_true rfl) (Nat.le_of_ble_eq_true rfl) (Nat.le_of_ble_eq_true rfl) rfl (fun v6 => (?_ : Tt g l z_X7_put (emIw M0 w) _ 115 [(3, .int v3), (0, .ref P), (1, .int a1), (2, .int a2)] [] (v6, w)))
    refine Tt.go (fun _ => Tr.run 4 (pc' := 119) (lv' := [(3, .int v3), (0, .ref P), (1, .int a1), (2, .int a2)]) (st' := [.int (3 : Int32), .ref P, .int (3 : Int32), .ref P]) rfl) ?_
    refine Tt.callV (As := [.int (3 : Int32)]) (rest := [.int (3 : Int32), .ref P]) (c_X7_get g l hl P (3 : Int32) hP v6 w) hP (by decide) rfl rfl cw_X7_get fw1109 pn_X7_get (Nat.le_of_ble_eq_true rfl) (Nat.le_of_ble_eq_true rfl) (Nat.le_of_ble_eq_true rfl) rfl (fun v7 => (?_ : Tt g l z_X7_put (emIw M0 w) _ 122 [(3, .int v3), (0, .ref P), (1, .int a1), (2, .int a2)] [.int v7, .int (3 : Int32), .ref P] (v6, w)))
    refine Tt.go (fun _ => Tr.run 2 (pc' := 124) (lv' := [(3, .int v3), (0, .ref P), (1, .int a1), (2, .int a2)]) (st' := [.int (v7 + (1 : Int32)), .int (3 : Int32), .ref P]) rfl) ?_
    refine Tt.callV (As := [.int (3 : Int32), .int (v7 + (1 : Int32))]) (rest := []) (c_X7_put0 g l hl P (3 : Int32) (v7 + (1 : Int32)) hP v6 w) hP (by decide) rfl rfl cw_X7_put0 fw1135 pn_X7_put0 (Nat.le_of_ble_eq_true rfl) (Nat.le_of_ble_eq_true rfl) (Nat.le_of_ble_eq_true rfl) rfl (fun v8 => (?_ : Tt g l z_X7_put (emIw M0 w) _ 127 [(3, .int v3), (0, .ref P), (1, .int a1), (2, .int a2)] [] (v8, w)))
    refine Tt.go (fun _ => Tr.run 1 (pc' := 128) (lv' := [(3, .int v3), (0, .ref P), (1, .int a1), (2, .int a2)]) (st' := [.ref P]) rfl) ?_
    refine Tt.callV (As := []) (rest := []) (c_X7_drawsAnew g l hl P hP v8 w) hP (by decide) rfl rfl cw_X7_drawsAnew fw1177 pn_X7_drawsAnew (Nat.le_of_ble_eq_true rfl) (Nat.le_of_ble_eq_true rfl) (Nat.le_of_ble_eq_true rfl) rfl (fun v9 => (?_ : Tt g l z_X7_put (emIw M0 w) _ 131 [(3, .int v3), (0, .ref P), (1, .int a1), (2, .int a2)] [] (v9, w)))
    refine Tt.go (fun _ => Tr.run 1 (pc' := 132) (lv' := [(3, .int v3), (0, .ref P), (1, .int a1), (2, .int a2)]) (st' := [.int v3]) rfl) ?_
    exact Tt.ret (Tr.iret rfl rfl)
def f_X7_put_64 (P : Nat) (a1 : Int32) (a2 : Int32)  (M : fm_Mem) : Option (Int32 × fm_Mem) := (f_X7_put_65 P a1 a2 (0 : Int32) M)
set_option maxRecDepth 100000 in
set_option maxHeartbeats 4000000 in
theorem t_X7_put_64 (g : fm_G) (l : Launch) (hl : l.stackTraces = false) (P : Nat) (a1 : Int32) (a2 : Int32) (hP : fm_kd g P = 7) (w : fm_W) (M0 : fm_Mem)    (M : fm_Mem) : Tt g l z_X7_put (emIw M0 w) (f_X7_put_64 P a1 a2   M) 64 [(0, .ref P), (1, .int a1), (2, .int a2)] [.ref P] (M, w) := by
  rw [f_X7_put_64]
  refine Tt.go (fun _ => Tr.run 1 (pc' := 65) (lv' := [(0, .ref P), (1, .int a1), (2, .int a2)]) (st' := [.int (0 : Int32), .ref P]) rfl) ?_
  exact t_X7_put_65 g l hl P a1 a2 hP w M0 (0 : Int32) M
def f_X7_put_33 (P : Nat) (a1 : Int32) (a2 : Int32) (s0 : Int32) (M : fm_Mem) : Option (Int32 × fm_Mem) := Option.bind (f_X7_right P s0 (1 : Int32) M) (fun v1 => if v1.1 = 0 then (f_X7_put_72 P a1 a2 v1.2) else (Option.bind (f_X7_points P v1.2) (fun v2 => if (20 : Int32) ≤ v2 then (f_X7_put_64 P a1 a2 v1.2) else (Option.bind (f_X7_pointAt P a1 a2 v1.2) (fun v3 => if v3 = (-1 : Int32) then (f_X7_put_65 P a1 a2 (1 : Int32) v1.2) else (f_X7_put_64 P a1 a2 v1.2))))))
set_option maxRecDepth 100000 in
set_option maxHeartbeats 4000000 in
theorem t_X7_put_33 (g : fm_G) (l : Launch) (hl : l.stackTraces = false) (P : Nat) (a1 : Int32) (a2 : Int32) (hP : fm_kd g P = 7) (w : fm_W) (M0 : fm_Mem)  (s0 : Int32)  (M : fm_Mem) : Tt g l z_X7_put (emIw M0 w) (f_X7_put_33 P a1 a2  s0 M) 33 [(0, .ref P), (1, .int a1), (2, .int a2)] [.int s0, .ref P] (M, w) := by
  rw [f_X7_put_33]
  refine Tt.go (fun _ => Tr.run 1 (pc' := 34) (lv' := [(0, .ref P), (1, .int a1), (2, .int a2)]) (st' := [.int (1 : Int32), .int s0, .ref P]) rfl) ?_
  refine Tt.callV (As := [.int s0, .int (1 : Int32)]) (rest := []) (c_X7_right g l hl P s0 (1 : Int32) hP M w) hP (by decide) rfl rfl cw_X7_right fw1105 pn_X7_right (Nat.le_of_ble_eq_true rfl) (Nat.le_of_ble_eq_true rfl) (Nat.le_of_ble_eq_true rfl) rfl (fun v1 => (?_ : Tt g l z_X7_put (emIw M0 w) _ 37 [(0, .ref P), (1, .int a1), (2, .int a2)] [.int v1.1] (v1.2, w)))
  refine Tt.if_eq (tgt := 72) rfl (by decide) ?_ ?_
  · refine Tt.go (fun _ => Tr.sub (lv' := []) [] rfl) ?_
    exact t_X7_put_72 g l hl P a1 a2 hP w M0 v1.2
  · refine Tt.go (fun _ => Tr.run 2 (pc' := 42) (lv' := [(0, .ref P), (1, .int a1), (2, .int a2)]) (st' := [.ref P, .ref P]) rfl) ?_
    refine Tt.callV (As := []) (rest := [.ref P]) (c_X7_points g l hl P hP v1.2 w) hP (by decide) rfl rfl cw_X7_points fw1156 pn_X7_points (Nat.le_of_ble_eq_true rfl) (Nat.le_of_ble_eq_true rfl) (Nat.le_of_ble_eq_true rfl) rfl (fun v2 => (?_ : Tt g l z_X7_put (emIw M0 w) _ 45 [(0, .ref P), (1, .int a1), (2, .int a2)] [.int v2, .ref P] (v1.2, w)))
    refine Tt.go (fun _ => Tr.run 1 (pc' := 47) (lv' := [(0, .ref P), (1, .int a1), (2, .int a2)]) (st' := [.int (20 : Int32), .int v2, .ref P]) rfl) ?_
    refine Tt.ic_ge (tgt := 64) rfl (by decide) ?_ ?_
    · exact t_X7_put_64 g l hl P a1 a2 hP w M0 v1.2
    · refine Tt.go (fun _ => Tr.run 3 (pc' := 53) (lv' := [(0, .ref P), (1, .int a1), (2, .int a2)]) (st' := [.int a2, .int a1, .ref P, .ref P]) rfl) ?_
      refine Tt.callV (As := [.int a1, .int a2]) (rest := [.ref P]) (c_X7_pointAt g l hl P a1 a2 hP v1.2 w) hP (by decide) rfl rfl cw_X7_pointAt fw1160 pn_X7_pointAt (Nat.le_of_ble_eq_true rfl) (Nat.le_of_ble_eq_true rfl) (Nat.le_of_ble_eq_true rfl) rfl (fun v3 => (?_ : Tt g l z_X7_put (emIw M0 w) _ 56 [(0, .ref P), (1, .int a1), (2, .int a2)] [.int v3, .ref P] (v1.2, w)))
      refine Tt.go (fun _ => Tr.run 1 (pc' := 57) (lv' := [(0, .ref P), (1, .int a1), (2, .int a2)]) (st' := [.int (-1 : Int32), .int v3, .ref P]) rfl) ?_
      refine Tt.ic_ne (tgt := 64) rfl (by decide) ?_ ?_
      · refine Tt.go (fun _ => Tr.run 2 (pc' := 65) (lv' := [(0, .ref P), (1, .int a1), (2, .int a2)]) (st' := [.int (1 : Int32), .ref P]) rfl) ?_
        exact t_X7_put_65 g l hl P a1 a2 hP w M0 (1 : Int32) v1.2
      · exact t_X7_put_64 g l hl P a1 a2 hP w M0 v1.2
def f_X7_put_32 (P : Nat) (a1 : Int32) (a2 : Int32)  (M : fm_Mem) : Option (Int32 × fm_Mem) := (f_X7_put_33 P a1 a2 (0 : Int32) M)
set_option maxRecDepth 100000 in
set_option maxHeartbeats 4000000 in
theorem t_X7_put_32 (g : fm_G) (l : Launch) (hl : l.stackTraces = false) (P : Nat) (a1 : Int32) (a2 : Int32) (hP : fm_kd g P = 7) (w : fm_W) (M0 : fm_Mem)    (M : fm_Mem) : Tt g l z_X7_put (emIw M0 w) (f_X7_put_32 P a1 a2   M) 32 [(0, .ref P), (1, .int a1), (2, .int a2)] [.ref P] (M, w) := by
  rw [f_X7_put_32]
  refine Tt.go (fun _ => Tr.run 1 (pc' := 33) (lv' := [(0, .ref P), (1, .int a1), (2, .int a2)]) (st' := [.int (0 : Int32), .ref P]) rfl) ?_
  exact t_X7_put_33 g l hl P a1 a2 hP w M0 (0 : Int32) M
def f_X7_put (P : Nat) (a1 : Int32) (a2 : Int32) (M : fm_Mem) : Option (Int32 × fm_Mem) := Option.bind (f_X7_isIn a1 (0 : Int32) (200 : Int32) (fm_up M P 0 (0 : Int32))) (fun v1 => if v1 = 0 then (f_X7_put_32 P a1 a2 (fm_up M P 0 (0 : Int32))) else (Option.bind (f_X7_isIn a2 (0 : Int32) (200 : Int32) (fm_up M P 0 (0 : Int32))) (fun v2 => if v2 = 0 then (f_X7_put_32 P a1 a2 (fm_up M P 0 (0 : Int32))) else (f_X7_put_33 P a1 a2 (1 : Int32) (fm_up M P 0 (0 : Int32))))))
set_option maxRecDepth 100000 in
set_option maxHeartbeats 4000000 in
theorem t_X7_put (g : fm_G) (l : Launch) (hl : l.stackTraces = false) (P : Nat) (a1 : Int32) (a2 : Int32) (hP : fm_kd g P = 7) (M : fm_Mem) (w : fm_W) : Tt g l z_X7_put (emIw M w) (f_X7_put P a1 a2 M) 0 [(0, .ref P), (1, .int a1), (2, .int a2)] [] (M, w) := by
  rw [f_X7_put]
  refine Tt.go (fun _ => Tr.run 2 (pc' := 2) (lv' := [(0, .ref P), (1, .int a1), (2, .int a2)]) (st' := [.int (0 : Int32), .ref P]) rfl) ?_
  refine Tt.go (fun _ => Tr.put fmc7 hP rfl fw1024 (k := 0) (by decide) rfl rfl ⟨rfl, rfl⟩) (?_ : Tt g l z_X7_put (emIw M w) _ 5 [(0, .ref P), (1, .int a1), (2, .int a2)] [] ((fm_up M P 0 (0 : Int32)), w))
  refine Tt.go (fun _ => Tr.run 4 (pc' := 11) (lv' := [(0, .ref P), (1, .int a1), (2, .int a2)]) (st' := [.int (200 : Int32), .int (0 : Int32), .int a1, .ref P]) rfl) ?_
  refine Tt.callS (As := [.int a1, .int (0 : Int32), .int (200 : Int32)]) (rest := [.ref P]) (c_X7_isIn g l hl a1 (0 : Int32) (200 : Int32) (fm_up M P 0 (0 : Int32)) w) rfl cw_X7_isIn fw1102 pn_X7_isIn (Nat.le_of_ble_eq_true rfl) (Nat.le_of_ble_eq_true rfl) (Nat.le_of_ble_eq_true rfl) rfl (fun v1 => (?_ : Tt g l z_X7_put (emIw M w) _ 14 [(0, .ref P), (1, .int a1), (2, .int a2)] [.int v1, .ref P] ((fm_up M P 0 (0 : Int32)), w)))
  refine Tt.if_eq (tgt := 32) rfl (by decide) ?_ ?_
  · exact t_X7_put_32 g l hl P a1 a2 hP w M (fm_up M P 0 (0 : Int32))
  · refine Tt.go (fun _ => Tr.run 3 (pc' := 22) (lv' := [(0, .ref P), (1, .int a1), (2, .int a2)]) (st' := [.int (200 : Int32), .int (0 : Int32), .int a2, .ref P]) rfl) ?_
    refine Tt.callS (As := [.int a2, .int (0 : Int32), .int (200 : Int32)]) (rest := [.ref P]) (c_X7_isIn g l hl a2 (0 : Int32) (200 : Int32) (fm_up M P 0 (0 : Int32)) w) rfl cw_X7_isIn fw1102 pn_X7_isIn (Nat.le_of_ble_eq_true rfl) (Nat.le_of_ble_eq_true rfl) (Nat.le_of_ble_eq_true rfl) rfl (fun v2 => (?_ : Tt g l z_X7_put (emIw M w) _ 25 [(0, .ref P), (1, .int a1), (2, .int a2)] [.int v2, .ref P] ((fm_up M P 0 (0 : Int32)), w)))
    refine Tt.if_eq (tgt := 32) rfl (by decide) ?_ ?_
    · exact t_X7_put_32 g l hl P a1 a2 hP w M (fm_up M P 0 (0 : Int32))
    · refine Tt.go (fun _ => Tr.run 2 (pc' := 33) (lv' := [(0, .ref P), (1, .int a1), (2, .int a2)]) (st' := [.int (1 : Int32), .ref P]) rfl) ?_
      exact t_X7_put_33 g l hl P a1 a2 hP w M (1 : Int32) (fm_up M P 0 (0 : Int32))
theorem c_X7_put (g : fm_G) (l : Launch) (hl : l.stackTraces = false) (P : Nat) (a1 : Int32) (a2 : Int32) (hP : fm_kd g P = 7) (M : fm_Mem) (w : fm_W) : ∀ r, f_X7_put P a1 a2 M = some r → fC g l z_X7_put [.ref P, .int a1, .int a2] (M, w) (emIw M w r) := fun r hr => fC.of (by decide) rfl o_X7_put hl (Nat.le_of_ble_eq_true rfl) (t_X7_put g l hl P a1 a2 hP M w r hr)
def k_X7_take : List (Nat × Instr × Nat) := [(0, .aload_n 0, 1), (1, .iconst 0, 1), (2, .putfield 35, 3), (5, .aload_n 0, 1), (6, .aload_n 0, 1), (7, .iload_n 1, 1), (8, .invokevirtual 293, 3), (11, .iconst 1, 1), (12, .invokevirtual 252, 3), (15, .ifCond .ne 5, 3), (18, .iconst 0, 1), (19, .ireturn, 1), (20, .aload_n 0, 1), (21, .invokevirtual 335, 3), (24, .iconst 2, 1), (25, .iload_n 1, 1), (26, .imul, 1), (27, .istore_n 2, 1), (28, .iload_n 2, 1), (29, .iconst 2, 1), (30, .iadd, 1), (31, .iconst 2, 1), (32, .aload_n 0, 1), (33, .invokevirtual 48, 3), (36, .imul, 1), (37, .if_icmp .ge 27, 3), (40, .aload_n 0, 1), (41, .bipush 10, 2), (43, .iload_n 2, 1), (44, .iadd, 1), (45, .aload_n 0, 1), (46, .bipush 10, 2), (48, .iload_n 2, 1), (49, .iadd, 1), (50, .iconst 2, 1), (51, .iadd, 1), (52, .invokevirtual 41, 3), (55, .invokevirtual 99, 3), (58, .iinc 2 1, 3), (61, .goto (-33), 3), (64, .aload_n 0, 1), (65, .iconst 0, 1), (66, .aload_n 0, 1), (67, .invokevirtual 48, 3), (70, .iconst 1, 1), (71, .isub, 1), (72, .invokevirtual 99, 3), (75, .aload_n 0, 1), (76, .invokevirtual 224, 3), (79, .aload_n 0, 1), (80, .getfield 86, 3), (83, .ireturn, 1)]
def z_X7_take : fm_Y := (yX7_take, RX7, cX7_take, 3, (some .int), k_X7_take, 8, 207)
theorem o_X7_take : fm_dec z_X7_take := (by decide +kernel : ∀ q ∈ k_X7_take, decode cX7_take q.1 = .ok q.2)
theorem cw_X7_take : fm_cwV z_X7_take := ⟨⟨lw_in 1448 (by decide +kernel) (by decide +kernel), lw_in 99 (by decide +kernel) (by decide +kernel), by decide, by decide⟩, lw_in 1446 (by decide +kernel) (by decide +kernel), lw_in 1447 (by decide +kernel) (by decide +kernel)⟩
theorem pn_X7_take : (parseMethodDescriptor z_X7_take.1.desc).map (fun d => d.parameters.length) = some 1 := by decide +kernel
def f_X7_take_28 (P : Nat) (a1 : Int32) : Nat → Int32 → fm_Mem → Option (Int32 × fm_Mem)
  | 0, _, _ => none
  | n + 1, x2, M => Option.bind (f_X7_points P M) (fun v1 => if ((2 : Int32) * v1) ≤ (x2 + (2 : Int32)) then (Option.bind (f_X7_points P M) (fun v2 => Option.bind (f_X7_put0 P (0 : Int32) (v2 - (1 : Int32)) M) (fun v3 => Option.bind (f_X7_drawsAnew P v3) (fun v4 => some (((v4 P 8), v4)))))) else (Option.bind (f_X7_get P (((10 : Int32) + x2) + (2 : Int32)) M) (fun v5 => Option.bind (f_X7_put0 P ((10 : Int32) + x2) v5 M) (fun v6 => (f_X7_take_28 P a1 n (x2 + (1 : Int32)) v6)))))
set_option maxRecDepth 100000 in
set_option maxHeartbeats 4000000 in
theorem t_X7_take_28 (g : fm_G) (l : Launch) (hl : l.stackTraces = false) (P : Nat) (a1 : Int32) (hP : fm_kd g P = 7) (w : fm_W) (M0 : fm_Mem)  : ∀ (n : Nat) (x2 : Int32)  (M : fm_Mem), Tt g l z_X7_take (emIw M0 w) (f_X7_take_28 P a1  n x2 M) 28 [(0, .ref P), (2, .int x2)] [] (M, w) := by
  intro n
  induction n with
  | zero => intros; exact Tt.none
  | succ n ih =>
    intro x2  M
    rw [f_X7_take_28]
    refine Tt.go (fun _ => Tr.run 5 (pc' := 33) (lv' := [(0, .ref P), (2, .int x2)]) (st' := [.ref P, .int (2 : Int32), .int (x2 + (2 : Int32))]) rfl) ?_
    refine Tt.callV (As := []) (rest := [.int (2 : Int32), .int (x2 + (2 : Int32))]) (c_X7_points g l hl P hP M w) hP (by decide) rfl rfl cw_X7_points fw1156 pn_X7_points (Nat.le_of_ble_eq_true rfl) (Nat.le_of_ble_eq_true rfl) (Nat.le_of_ble_eq_true rfl) rfl (fun v1 => (?_ : Tt g l z_X7_take (emIw M0 w) _ 36 [(0, .ref P), (2, .int x2)] [.int v1, .int (2 : Int32), .int (x2 + (2 : Int32))] (M, w)))
    refine Tt.go (fun _ => Tr.run 1 (pc' := 37) (lv' := [(0, .ref P), (2, .int x2)]) (st' := [.int ((2 : Int32) * v1), .int (x2 + (2 : Int32))]) rfl) ?_
    refine Tt.ic_ge (tgt := 64) rfl (by decide) ?_ ?_
    · refine Tt.go (fun _ => Tr.run 3 (pc' := 67) (lv' := [(0, .ref P), (2, .int x2)]) (st' := [.ref P, .int (0 : Int32), .ref P]) rfl) ?_
      refine Tt.callV (As := []) (rest := [.int (0 : Int32), .ref P]) (c_X7_points g l hl P hP M w) hP (by decide) rfl rfl cw_X7_points fw1156 pn_X7_points (Nat.le_of_ble_eq_true rfl) (Nat.le_of_ble_eq_true rfl) (Nat.le_of_ble_eq_true rfl) rfl (fun v2 => (?_ : Tt g l z_X7_take (emIw M0 w) _ 70 [(0, .ref P), (2, .int x2)] [.int v2, .int (0 : Int32), .ref P] (M, w)))
      refine Tt.go (fun _ => Tr.run 2 (pc' := 72) (lv' := [(0, .ref P), (2, .int x2)]) (st' := [.int (v2 - (1 : Int32)), .int (0 : Int32), .ref P]) rfl) ?_
      refine Tt.callV (As := [.int (0 : Int32), .int (v2 - (1 : Int32))]) (rest := []) (c_X7_put0 g l hl P (0 : Int32) (v2 - (1 : Int32)) hP M w) hP (by decide) rfl rfl cw_X7_put0 fw1135 pn_X7_put0 (Nat.le_of_ble_eq_true rfl) (Nat.le_of_ble_eq_true rfl) (Nat.le_of_ble_eq_true rfl) rfl (fun v3 => (?_ : Tt g l z_X7_take (emIw M0 w) _ 75 [(0, .ref P), (2, .int x2)] [] (v3, w)))
      refine Tt.go (fun _ => Tr.run 1 (pc' := 76) (lv' := [(0, .ref P), (2, .int x2)]) (st' := [.ref P]) rfl) ?_
      refine Tt.callV (As := []) (rest := []) (c_X7_drawsAnew g l hl P hP v3 w) hP (by decide) rfl rfl cw_X7_drawsAnew fw1177 pn_X7_drawsAnew (Nat.le_of_ble_eq_true rfl) (Nat.le_of_ble_eq_true rfl) (Nat.le_of_ble_eq_true rfl) rfl (fun v4 => (?_ : Tt g l z_X7_take (emIw M0 w) _ 79 [(0, .ref P), (2, .int x2)] [] (v4, w)))
      refine Tt.go (fun _ => Tr.run 1 (pc' := 80) (lv' := [(0, .ref P), (2, .int x2)]) (st' := [.ref P]) rfl) ?_
      refine Tt.go (fun _ => Tr.get fmc7 hP rfl fw1032 (k := 8) (by decide) rfl) (?_ : Tt g l z_X7_take (emIw M0 w) _ 83 [(0, .ref P), (2, .int x2)] [.int (v4 P 8)] (v4, w))
      exact Tt.ret (Tr.iret rfl rfl)
    · refine Tt.go (fun _ => Tr.run 10 (pc' := 52) (lv' := [(0, .ref P), (2, .int x2)]) (st' := [.int (((10 : Int32) + x2) + (2 : Int32)), .ref P, .int ((10 : Int32) + x2), .ref P]) rfl) ?_
      refine Tt.callV (As := [.int (((10 : Int32) + x2) + (2 : Int32))]) (rest := [.int ((10 : Int32) + x2), .ref P]) (c_X7_get g l hl P (((10 : Int32) + x2) + (2 : Int32)) hP M w) hP (by decide) rfl rfl cw_X7_get fw1109 pn_X7_get (Nat.le_of_ble_eq_true rfl) (Nat.le_of_ble_eq_true rfl) (Nat.le_of_ble_eq_true rfl) rfl (fun v5 => (?_ : Tt g l z_X7_take (emIw M0 w) _ 55 [(0, .ref P), (2, .int x2)] [.int v5, .int ((10 : Int32) + x2), .ref P] (M, w)))
      refine Tt.callV (As := [.int ((10 : Int32) + x2), .int v5]) (rest := []) (c_X7_put0 g l hl P ((10 : Int32) + x2) v5 hP M w) hP (by decide) rfl rfl cw_X7_put0 fw1135 pn_X7_put0 (Nat.le_of_ble_eq_true rfl) (Nat.le_of_ble_eq_true rfl) (Nat.le_of_ble_eq_true rfl) rfl (fun v6 => (?_ : Tt g l z_X7_take (emIw M0 w) _ 58 [(0, .ref P), (2, .int x2)] [] (v6, w)))
      refine Tt.go (fun _ => Tr.run 2 (pc' := 28) (lv' := [(2, .int (x2 + (1 : Int32))), (0, .ref P)]) (st' := []) rfl) ?_
      refine Tt.go (fun _ => Tr.sub (lv' := [(0, .ref P), (2, .int (x2 + (1 : Int32)))]) [1, 0] rfl) ?_
      exact ih (x2 + (1 : Int32)) v6
def f_X7_take (P : Nat) (a1 : Int32) (M : fm_Mem) : Option (Int32 × fm_Mem) := Option.bind (f_X7_isPoint P a1 (fm_up M P 0 (0 : Int32))) (fun v1 => Option.bind (f_X7_right P v1 (1 : Int32) (fm_up M P 0 (0 : Int32))) (fun v2 => if v2.1 = 0 then (some (((0 : Int32), v2.2))) else (Option.bind (f_X7_change P v2.2) (fun v3 => (f_X7_take_28 P a1 fm_fuel ((2 : Int32) * a1) v3)))))
set_option maxRecDepth 100000 in
set_option maxHeartbeats 4000000 in
theorem t_X7_take (g : fm_G) (l : Launch) (hl : l.stackTraces = false) (P : Nat) (a1 : Int32) (hP : fm_kd g P = 7) (M : fm_Mem) (w : fm_W) : Tt g l z_X7_take (emIw M w) (f_X7_take P a1 M) 0 [(0, .ref P), (1, .int a1)] [] (M, w) := by
  rw [f_X7_take]
  refine Tt.go (fun _ => Tr.run 2 (pc' := 2) (lv' := [(0, .ref P), (1, .int a1)]) (st' := [.int (0 : Int32), .ref P]) rfl) ?_
  refine Tt.go (fun _ => Tr.put fmc7 hP rfl fw1024 (k := 0) (by decide) rfl rfl ⟨rfl, rfl⟩) (?_ : Tt g l z_X7_take (emIw M w) _ 5 [(0, .ref P), (1, .int a1)] [] ((fm_up M P 0 (0 : Int32)), w))
  refine Tt.go (fun _ => Tr.run 3 (pc' := 8) (lv' := [(0, .ref P), (1, .int a1)]) (st' := [.int a1, .ref P, .ref P]) rfl) ?_
  refine Tt.callV (As := [.int a1]) (rest := [.ref P]) (c_X7_isPoint g l hl P a1 hP (fm_up M P 0 (0 : Int32)) w) hP (by decide) rfl rfl cw_X7_isPoint fw1315 pn_X7_isPoint (Nat.le_of_ble_eq_true rfl) (Nat.le_of_ble_eq_true rfl) (Nat.le_of_ble_eq_true rfl) rfl (fun v1 => (?_ : Tt g l z_X7_take (emIw M w) _ 11 [(0, .ref P), (1, .int a1)] [.int v1, .ref P] ((fm_up M P 0 (0 : Int32)), w)))
  refine Tt.go (fun _ => Tr.run 1 (pc' := 12) (lv' := [(0, .ref P), (1, .int a1)]) (st' := [.int (1 : Int32), .int v1, .ref P]) rfl) ?_
  refine Tt.callV (As := [.int v1, .int (1 : Int32)]) (rest := []) (c_X7_right g l hl P v1 (1 : Int32) hP (fm_up M P 0 (0 : Int32)) w) hP (by decide) rfl rfl cw_X7_right fw1105 pn_X7_right (Nat.le_of_ble_eq_true rfl) (Nat.le_of_ble_eq_true rfl) (Nat.le_of_ble_eq_true rfl) rfl (fun v2 => (?_ : Tt g l z_X7_take (emIw M w) _ 15 [(0, .ref P), (1, .int a1)] [.int v2.1] (v2.2, w)))
  refine Tt.if_ne (tgt := 20) rfl (by decide) ?_ ?_
  · refine Tt.go (fun _ => Tr.run 1 (pc' := 19) (lv' := [(0, .ref P), (1, .int a1)]) (st' := [.int (0 : Int32)]) rfl) ?_
    exact Tt.ret (Tr.iret rfl rfl)
  · refine Tt.go (fun _ => Tr.run 1 (pc' := 21) (lv' := [(0, .ref P), (1, .int a1)]) (st' := [.ref P]) rfl) ?_
    refine Tt.callV (As := []) (rest := []) (c_X7_change g l hl P hP v2.2 w) hP (by decide) rfl rfl cw_X7_change fw1441 pn_X7_change (Nat.le_of_ble_eq_true rfl) (Nat.le_of_ble_eq_true rfl) (Nat.le_of_ble_eq_true rfl) rfl (fun v3 => (?_ : Tt g l z_X7_take (emIw M w) _ 24 [(0, .ref P), (1, .int a1)] [] (v3, w)))
    refine Tt.go (fun _ => Tr.run 4 (pc' := 28) (lv' := [(2, .int ((2 : Int32) * a1)), (0, .ref P), (1, .int a1)]) (st' := []) rfl) ?_
    refine Tt.go (fun _ => Tr.sub (lv' := [(0, .ref P), (2, .int ((2 : Int32) * a1))]) [1, 0] rfl) ?_
    exact t_X7_take_28 g l hl P a1 hP w M fm_fuel ((2 : Int32) * a1) v3
theorem c_X7_take (g : fm_G) (l : Launch) (hl : l.stackTraces = false) (P : Nat) (a1 : Int32) (hP : fm_kd g P = 7) (M : fm_Mem) (w : fm_W) : ∀ r, f_X7_take P a1 M = some r → fC g l z_X7_take [.ref P, .int a1] (M, w) (emIw M w r) := fun r hr => fC.of (by decide) rfl o_X7_take hl (Nat.le_of_ble_eq_true rfl) (t_X7_take g l hl P a1 hP M w r hr)
def k_X7_unlike : List (Nat × Instr × Nat) := [(0, .iconst 0, 1), (1, .istore_n 2, 1), (2, .iconst 0, 1), (3, .istore_n 3, 1), (4, .iload_n 3, 1), (5, .aload_n 0, 1), (6, .getfield 86, 3), (9, .if_icmp .ge 120, 3), (12, .iconst 1, 1), (13, .istore 4, 2), (15, .iconst 0, 1), (16, .istore 5, 2), (18, .iload 5, 2), (20, .iload_n 1, 1), (21, .if_icmp .ge 89, 3), (24, .iload 4, 2), (26, .ifCond .eq 75, 3), (29, .aload_n 0, 1), (30, .getfield 19, 3), (33, .iconst 3, 1), (34, .iload 5, 2), (36, .imul, 1), (37, .iaload, 1), (38, .aload_n 0, 1), (39, .getfield 16, 3), (42, .iconst 3, 1), (43, .iload_n 3, 1), (44, .imul, 1), (45, .iaload, 1), (46, .if_icmp .ne 51, 3), (49, .aload_n 0, 1), (50, .getfield 19, 3), (53, .iconst 3, 1), (54, .iload 5, 2), (56, .imul, 1), (57, .iconst 1, 1), (58, .iadd, 1), (59, .iaload, 1), (60, .aload_n 0, 1), (61, .getfield 16, 3), (64, .iconst 3, 1), (65, .iload_n 3, 1), (66, .imul, 1), (67, .iconst 1, 1), (68, .iadd, 1), (69, .iaload, 1), (70, .if_icmp .ne 27, 3), (73, .aload_n 0, 1), (74, .getfield 19, 3), (77, .iconst 3, 1), (78, .iload 5, 2), (80, .imul, 1), (81, .iconst 2, 1), (82, .iadd, 1), (83, .iaload, 1), (84, .aload_n 0, 1), (85, .getfield 16, 3), (88, .iconst 3, 1), (89, .iload_n 3, 1), (90, .imul, 1), (91, .iconst 2, 1), (92, .iadd, 1), (93, .iaload, 1), (94, .if_icmp .eq 7, 3), (97, .iconst 1, 1), (98, .goto 4, 3), (101, .iconst 0, 1), (102, .istore 4, 2), (104, .iinc 5 1, 3), (107, .goto (-89), 3), (110, .iload_n 2, 1), (111, .iload 4, 2), (113, .ifCond .eq 7, 3), (116, .iconst 1, 1), (117, .goto 4, 3), (120, .iconst 0, 1), (121, .iadd, 1), (122, .istore_n 2, 1), (123, .iinc 3 1, 3), (126, .goto (-122), 3), (129, .iload_n 2, 1), (130, .ireturn, 1)]
def z_X7_unlike : fm_Y := (yX7_unlike, RX7, cX7_unlike, 6, (some .int), k_X7_unlike, 0, 0)
theorem o_X7_unlike : fm_dec z_X7_unlike := (by decide +kernel : ∀ q ∈ k_X7_unlike, decode cX7_unlike q.1 = .ok q.2)
theorem cw_X7_unlike : fm_cwV z_X7_unlike := ⟨⟨lw_in 1456 (by decide +kernel) (by decide +kernel), lw_in 99 (by decide +kernel) (by decide +kernel), by decide, by decide⟩, lw_in 1455 (by decide +kernel) (by decide +kernel), lw_in 89 (by decide +kernel) (by decide +kernel)⟩
theorem pn_X7_unlike : (parseMethodDescriptor z_X7_unlike.1.desc).map (fun d => d.parameters.length) = some 1 := by decide +kernel
def f_X7_unlike_121 (P : Nat) (a1 : Int32) (k4 : Int32 → Int32 → fm_Mem → Option (Int32)) (x3 : Int32) (s0 : Int32) (s1 : Int32) (M : fm_Mem) : Option (Int32) := (k4 (s1 + s0) (x3 + (1 : Int32)) M)
set_option maxRecDepth 100000 in
set_option maxHeartbeats 4000000 in
theorem t_X7_unlike_121 (g : fm_G) (l : Launch) (hl : l.stackTraces = false) (P : Nat) (a1 : Int32) (hP : fm_kd g P = 7) (w : fm_W) (k4 : Int32 → Int32 → fm_Mem → Option (Int32)) (hk4 : ∀ (x2 : Int32) (x3 : Int32) (M : fm_Mem), Tt g l z_X7_unlike (emI M w) (k4 x2 x3 M) 4 [(0, .ref P), (1, .int a1), (2, .int x2), (3, .int x3)] [] (M, w)) (x3 : Int32) (s0 : Int32) (s1 : Int32)  (M : fm_Mem) : Tt g l z_X7_unlike (emI M w) (f_X7_unlike_121 P a1 k4 x3 s0 s1 M) 121 [(0, .ref P), (1, .int a1), (3, .int x3)] [.int s0, .int s1] (M, w) := by
  rw [f_X7_unlike_121]
  refine Tt.go (fun _ => Tr.run 4 (pc' := 4) (lv' := [(3, .int (x3 + (1 : Int32))), (2, .int (s1 + s0)), (0, .ref P), (1, .int a1)]) (st' := []) rfl) ?_
  refine Tt.go (fun _ => Tr.sub (lv' := [(0, .ref P), (1, .int a1), (2, .int (s1 + s0)), (3, .int (x3 + (1 : Int32)))]) [2, 3, 1, 0] rfl) ?_
  exact hk4 (s1 + s0) (x3 + (1 : Int32)) M
def f_X7_unlike_102 (P : Nat) (a1 : Int32) (k4 : Int32 → Int32 → fm_Mem → Option (Int32)) (k18 : Int32 → Int32 → Int32 → Int32 → fm_Mem → Option (Int32)) (x2 : Int32) (x3 : Int32) (x5 : Int32) (s0 : Int32) (M : fm_Mem) : Option (Int32) := (k18 x2 x3 s0 (x5 + (1 : Int32)) M)
set_option maxRecDepth 100000 in
set_option maxHeartbeats 4000000 in
theorem t_X7_unlike_102 (g : fm_G) (l : Launch) (hl : l.stackTraces = false) (P : Nat) (a1 : Int32) (hP : fm_kd g P = 7) (w : fm_W) (k4 : Int32 → Int32 → fm_Mem → Option (Int32)) (hk4 : ∀ (x2 : Int32) (x3 : Int32) (M : fm_Mem), Tt g l z_X7_unlike (emI M w) (k4 x2 x3 M) 4 [(0, .ref P), (1, .int a1), (2, .int x2), (3, .int x3)] [] (M, w)) (k18 : Int32 → Int32 → Int32 → Int32 → fm_Mem → Option (Int32)) (hk18 : ∀ (x2 : Int32) (x3 : Int32) (x4 : Int32) (x5 : Int32) (M : fm_Mem), Tt g l z_X7_unlike (emI M w) (k18 x2 x3 x4 x5 M) 18 [(0, .ref P), (1, .int a1), (2, .int x2), (3, .int x3), (4, .int x4), (5, .int x5)] [] (M, w)) (x2 : Int32) (x3 : Int32) (x5 : Int32) (s0 : Int32)  (M : fm_Mem) : Tt g l z_X7_unlike (emI M w) (f_X7_unlike_102 P a1 k4 k18 x2 x3 x5 s0 M) 102 [(0, .ref P), (1, .int a1), (2, .int x2), (3, .int x3), (5, .int x5)] [.int s0] (M, w) := by
  rw [f_X7_unlike_102]
  refine Tt.go (fun _ => Tr.run 3 (pc' := 18) (lv' := [(5, .int (x5 + (1 : Int32))), (4, .int s0), (0, .ref P), (1, .int a1), (2, .int x2), (3, .int x3)]) (st' := []) rfl) ?_
  refine Tt.go (fun _ => Tr.sub (lv' := [(0, .ref P), (1, .int a1), (2, .int x2), (3, .int x3), (4, .int s0), (5, .int (x5 + (1 : Int32)))]) [2, 3, 4, 5, 1, 0] rfl) ?_
  exact hk18 x2 x3 s0 (x5 + (1 : Int32)) M
def f_X7_unlike_101 (P : Nat) (a1 : Int32) (k4 : Int32 → Int32 → fm_Mem → Option (Int32)) (k18 : Int32 → Int32 → Int32 → Int32 → fm_Mem → Option (Int32)) (x2 : Int32) (x3 : Int32) (x5 : Int32) (M : fm_Mem) : Option (Int32) := (f_X7_unlike_102 P a1 k4 k18 x2 x3 x5 (0 : Int32) M)
set_option maxRecDepth 100000 in
set_option maxHeartbeats 4000000 in
theorem t_X7_unlike_101 (g : fm_G) (l : Launch) (hl : l.stackTraces = false) (P : Nat) (a1 : Int32) (hP : fm_kd g P = 7) (w : fm_W) (k4 : Int32 → Int32 → fm_Mem → Option (Int32)) (hk4 : ∀ (x2 : Int32) (x3 : Int32) (M : fm_Mem), Tt g l z_X7_unlike (emI M w) (k4 x2 x3 M) 4 [(0, .ref P), (1, .int a1), (2, .int x2), (3, .int x3)] [] (M, w)) (k18 : Int32 → Int32 → Int32 → Int32 → fm_Mem → Option (Int32)) (hk18 : ∀ (x2 : Int32) (x3 : Int32) (x4 : Int32) (x5 : Int32) (M : fm_Mem), Tt g l z_X7_unlike (emI M w) (k18 x2 x3 x4 x5 M) 18 [(0, .ref P), (1, .int a1), (2, .int x2), (3, .int x3), (4, .int x4), (5, .int x5)] [] (M, w)) (x2 : Int32) (x3 : Int32) (x5 : Int32)  (M : fm_Mem) : Tt g l z_X7_unlike (emI M w) (f_X7_unlike_101 P a1 k4 k18 x2 x3 x5 M) 101 [(0, .ref P), (1, .int a1), (2, .int x2), (3, .int x3), (5, .int x5)] [] (M, w) := by
  rw [f_X7_unlike_101]
  refine Tt.go (fun _ => Tr.run 1 (pc' := 102) (lv' := [(0, .ref P), (1, .int a1), (2, .int x2), (3, .int x3), (5, .int x5)]) (st' := [.int (0 : Int32)]) rfl) ?_
  exact t_X7_unlike_102 g l hl P a1 hP w k4 hk4 k18 hk18 x2 x3 x5 (0 : Int32) M
def f_X7_unlike_97 (P : Nat) (a1 : Int32) (k4 : Int32 → Int32 → fm_Mem → Option (Int32)) (k18 : Int32 → Int32 → Int32 → Int32 → fm_Mem → Option (Int32)) (x2 : Int32) (x3 : Int32) (x5 : Int32) (M : fm_Mem) : Option (Int32) := (f_X7_unlike_102 P a1 k4 k18 x2 x3 x5 (1 : Int32) M)
set_option maxRecDepth 100000 in
set_option maxHeartbeats 4000000 in
theorem t_X7_unlike_97 (g : fm_G) (l : Launch) (hl : l.stackTraces = false) (P : Nat) (a1 : Int32) (hP : fm_kd g P = 7) (w : fm_W) (k4 : Int32 → Int32 → fm_Mem → Option (Int32)) (hk4 : ∀ (x2 : Int32) (x3 : Int32) (M : fm_Mem), Tt g l z_X7_unlike (emI M w) (k4 x2 x3 M) 4 [(0, .ref P), (1, .int a1), (2, .int x2), (3, .int x3)] [] (M, w)) (k18 : Int32 → Int32 → Int32 → Int32 → fm_Mem → Option (Int32)) (hk18 : ∀ (x2 : Int32) (x3 : Int32) (x4 : Int32) (x5 : Int32) (M : fm_Mem), Tt g l z_X7_unlike (emI M w) (k18 x2 x3 x4 x5 M) 18 [(0, .ref P), (1, .int a1), (2, .int x2), (3, .int x3), (4, .int x4), (5, .int x5)] [] (M, w)) (x2 : Int32) (x3 : Int32) (x5 : Int32)  (M : fm_Mem) : Tt g l z_X7_unlike (emI M w) (f_X7_unlike_97 P a1 k4 k18 x2 x3 x5 M) 97 [(0, .ref P), (1, .int a1), (2, .int x2), (3, .int x3), (5, .int x5)] [] (M, w) := by
  rw [f_X7_unlike_97]
  refine Tt.go (fun _ => Tr.run 2 (pc' := 102) (lv' := [(0, .ref P), (1, .int a1), (2, .int x2), (3, .int x3), (5, .int x5)]) (st' := [.int (1 : Int32)]) rfl) ?_
  exact t_X7_unlike_102 g l hl P a1 hP w k4 hk4 k18 hk18 x2 x3 x5 (1 : Int32) M
def f_X7_unlike_18 (P : Nat) (a1 : Int32) (k4 : Int32 → Int32 → fm_Mem → Option (Int32)) : Nat → Int32 → Int32 → Int32 → Int32 → fm_Mem → Option (Int32)
  | 0, _, _, _, _, _ => none
  | n + 1, x2, x3, x4, x5, M => if a1 ≤ x5 then (if x4 = 0 then (f_X7_unlike_121 P a1 k4 x3 (0 : Int32) x2 M) else (f_X7_unlike_121 P a1 k4 x3 (1 : Int32) x2 M)) else (if x4 = 0 then (f_X7_unlike_101 P a1 k4 (fun x2 x3 x4 x5 M => f_X7_unlike_18 P a1 k4 n x2 x3 x4 x5 M) x2 x3 x5 M) else (fm_ck (fm_in ((3 : Int32) * x5) 120) (fm_ck (fm_in ((3 : Int32) * x3) 120) (if (M (P + 4) (Int32.toNatClampNeg ((3 : Int32) * x5))) = (M (P + 3) (Int32.toNatClampNeg ((3 : Int32) * x3))) then (fm_ck (fm_in (((3 : Int32) * x5) + (1 : Int32)) 120) (fm_ck (fm_in (((3 : Int32) * x3) + (1 : Int32)) 120) (if (M (P + 4) (Int32.toNatClampNeg (((3 : Int32) * x5) + (1 : Int32)))) = (M (P + 3) (Int32.toNatClampNeg (((3 : Int32) * x3) + (1 : Int32)))) then (fm_ck (fm_in (((3 : Int32) * x5) + (2 : Int32)) 120) (fm_ck (fm_in (((3 : Int32) * x3) + (2 : Int32)) 120) (if (M (P + 4) (Int32.toNatClampNeg (((3 : Int32) * x5) + (2 : Int32)))) = (M (P + 3) (Int32.toNatClampNeg (((3 : Int32) * x3) + (2 : Int32)))) then (f_X7_unlike_101 P a1 k4 (fun x2 x3 x4 x5 M => f_X7_unlike_18 P a1 k4 n x2 x3 x4 x5 M) x2 x3 x5 M) else (f_X7_unlike_97 P a1 k4 (fun x2 x3 x4 x5 M => f_X7_unlike_18 P a1 k4 n x2 x3 x4 x5 M) x2 x3 x5 M)))) else (f_X7_unlike_97 P a1 k4 (fun x2 x3 x4 x5 M => f_X7_unlike_18 P a1 k4 n x2 x3 x4 x5 M) x2 x3 x5 M)))) else (f_X7_unlike_97 P a1 k4 (fun x2 x3 x4 x5 M => f_X7_unlike_18 P a1 k4 n x2 x3 x4 x5 M) x2 x3 x5 M)))))
set_option maxRecDepth 100000 in
set_option maxHeartbeats 4000000 in
theorem t_X7_unlike_18 (g : fm_G) (l : Launch) (hl : l.stackTraces = false) (P : Nat) (a1 : Int32) (hP : fm_kd g P = 7) (w : fm_W) (k4 : Int32 → Int32 → fm_Mem → Option (Int32)) (hk4 : ∀ (x2 : Int32) (x3 : Int32) (M : fm_Mem), Tt g l z_X7_unlike (emI M w) (k4 x2 x3 M) 4 [(0, .ref P), (1, .int a1), (2, .int x2), (3, .int x3)] [] (M, w)) : ∀ (n : Nat) (x2 : Int32) (x3 : Int32) (x4 : Int32) (x5 : Int32)  (M : fm_Mem), Tt g l z_X7_unlike (emI M w) (f_X7_unlike_18 P a1 k4 n x2 x3 x4 x5 M) 18 [(0, .ref P), (1, .int a1), (2, .int x2), (3, .int x3), (4, .int x4), (5, .int x5)] [] (M, w) := by
  intro n
  induction n with
  | zero => intros; exact Tt.none
  | succ n ih =>
    intro x2 x3 x4 x5  M
    rw [f_X7_unlike_18]
    refine Tt.go (fun _ => Tr.run 2 (pc' := 21) (lv' := [(0, .ref P), (1, .int a1), (2, .int x2), (3, .int x3), (4, .int x4), (5, .int x5)]) (st' := [.int a1, .int x5]) rfl) ?_
    refine Tt.ic_ge (tgt := 110) rfl (by decide) ?_ ?_
    · refine Tt.go (fun _ => Tr.run 2 (pc' := 113) (lv' := [(0, .ref P), (1, .int a1), (2, .int x2), (3, .int x3), (4, .int x4), (5, .int x5)]) (st' := [.int x4, .int x2]) rfl) ?_
      refine Tt.if_eq (tgt := 120) rfl (by decide) ?_ ?_
      · refine Tt.go (fun _ => Tr.run 1 (pc' := 121) (lv' := [(0, .ref P), (1, .int a1), (2, .int x2), (3, .int x3), (4, .int x4), (5, .int x5)]) (st' := [.int (0 : Int32), .int x2]) rfl) ?_
        refine Tt.go (fun _ => Tr.sub (lv' := [(0, .ref P), (1, .int a1), (3, .int x3)]) [0, 1, 3] rfl) ?_
        exact t_X7_unlike_121 g l hl P a1 hP w k4 hk4 x3 (0 : Int32) x2 M
      · refine Tt.go (fun _ => Tr.run 2 (pc' := 121) (lv' := [(0, .ref P), (1, .int a1), (2, .int x2), (3, .int x3), (4, .int x4), (5, .int x5)]) (st' := [.int (1 : Int32), .int x2]) rfl) ?_
        refine Tt.go (fun _ => Tr.sub (lv' := [(0, .ref P), (1, .int a1), (3, .int x3)]) [0, 1, 3] rfl) ?_
        exact t_X7_unlike_121 g l hl P a1 hP w k4 hk4 x3 (1 : Int32) x2 M
    · refine Tt.go (fun _ => Tr.run 1 (pc' := 26) (lv' := [(0, .ref P), (1, .int a1), (2, .int x2), (3, .int x3), (4, .int x4), (5, .int x5)]) (st' := [.int x4]) rfl) ?_
      refine Tt.if_eq (tgt := 101) rfl (by decide) ?_ ?_
      · refine Tt.go (fun _ => Tr.sub (lv' := [(0, .ref P), (1, .int a1), (2, .int x2), (3, .int x3), (5, .int x5)]) [0, 1, 2, 3, 5] rfl) ?_
        exact t_X7_unlike_101 g l hl P a1 hP w k4 hk4 _ ih x2 x3 x5 M
      · refine Tt.go (fun _ => Tr.run 1 (pc' := 30) (lv' := [(0, .ref P), (1, .int a1), (2, .int x2), (3, .int x3), (4, .int x4), (5, .int x5)]) (st' := [.ref P]) rfl) ?_
        refine Tt.go (fun _ => Tr.get fmc7 hP rfl fw1030 (k := 6) (by decide) rfl) (?_ : Tt g l z_X7_unlike (emI M w) _ 33 [(0, .ref P), (1, .int a1), (2, .int x2), (3, .int x3), (4, .int x4), (5, .int x5)] [.ref (P + 4)] (M, w))
        refine Tt.go (fun _ => Tr.run 3 (pc' := 37) (lv' := [(0, .ref P), (1, .int a1), (2, .int x2), (3, .int x3), (4, .int x4), (5, .int x5)]) (st' := [.int ((3 : Int32) * x5), .ref (P + 4)]) rfl) ?_
        refine Tt.ck (fun hi1 => ?_)
        refine Tt.go (fun _ => Tr.iald (fmk_7_6 hP) (by decide) hi1 rfl) (?_ : Tt g l z_X7_unlike (emI M w) _ 38 [(0, .ref P), (1, .int a1), (2, .int x2), (3, .int x3), (4, .int x4), (5, .int x5)] [.int (M (P + 4) (Int32.toNatClampNeg ((3 : Int32) * x5)))] (M, w))
        refine Tt.go (fun _ => Tr.run 1 (pc' := 39) (lv' := [(0, .ref P), (1, .int a1), (2, .int x2), (3, .int x3), (4, .int x4), (5, .int x5)]) (st' := [.ref P, .int (M (P + 4) (Int32.toNatClampNeg ((3 : Int32) * x5)))]) rfl) ?_
        refine Tt.go (fun _ => Tr.get fmc7 hP rfl fw1029 (k := 5) (by decide) rfl) (?_ : Tt g l z_X7_unlike (emI M w) _ 42 [(0, .ref P), (1, .int a1), (2, .int x2), (3, .int x3), (4, .int x4), (5, .int x5)] [.ref (P + 3), .int (M (P + 4) (Int32.toNatClampNeg ((3 : Int32) * x5)))] (M, w))
        refine Tt.go (fun _ => Tr.run 3 (pc' := 45) (lv' := [(0, .ref P), (1, .int a1), (2, .int x2), (3, .int x3), (4, .int x4), (5, .int x5)]) (st' := [.int ((3 : Int32) * x3), .ref (P + 3), .int (M (P + 4) (Int32.toNatClampNeg ((3 : Int32) * x5)))]) rfl) ?_
        refine Tt.ck (fun hi2 => ?_)
        refine Tt.go (fun _ => Tr.iald (fmk_7_5 hP) (by decide) hi2 rfl) (?_ : Tt g l z_X7_unlike (emI M w) _ 46 [(0, .ref P), (1, .int a1), (2, .int x2), (3, .int x3), (4, .int x4), (5, .int x5)] [.int (M (P + 3) (Int32.toNatClampNeg ((3 : Int32) * x3))), .int (M (P + 4) (Int32.toNatClampNeg ((3 : Int32) * x5)))] (M, w))
        refine Tt.ic_ne (tgt := 97) rfl (by decide) ?_ ?_
        · refine Tt.go (fun _ => Tr.run 1 (pc' := 50) (lv' := [(0, .ref P), (1, .int a1), (2, .int x2), (3, .int x3), (4, .int x4), (5, .int x5)]) (st' := [.ref P]) rfl) ?_
          refine Tt.go (fun _ => Tr.get fmc7 hP rfl fw1030 (k := 6) (by decide) rfl) (?_ : Tt g l z_X7_unlike (emI M w) _ 53 [(0, .ref P), (1, .int a1), (2, .int x2), (3, .int x3), (4, .int x4), (5, .int x5)] [.ref (P + 4)] (M, w))
          refine Tt.go (fun _ => Tr.run 5 (pc' := 59) (lv' := [(0, .ref P), (1, .int a1), (2, .int x2), (3, .int x3), (4, .int x4), (5, .int x5)]) (st' := [.int (((3 : Int32) * x5) + (1 : Int32)), .ref (P + 4)]) rfl) ?_
          refine Tt.ck (fun hi3 => ?_)
          refine Tt.go (fun _ => Tr.iald (fmk_7_6 hP) (by decide) hi3 rfl) (?_ : Tt g l z_X7_unlike (emI M w) _ 60 [(0, .ref P), (1, .int a1), (2, .int x2), (3, .int x3), (4, .int x4), (5, .int x5)] [.int (M (P + 4) (Int32.toNatClampNeg (((3 : Int32) * x5) + (1 : Int32))))] (M, w))
          refine Tt.go (fun _ => Tr.run 1 (pc' := 61) (lv' := [(0, .ref P), (1, .int a1), (2, .int x2), (3, .int x3), (4, .int x4), (5, .int x5)]) (st' := [.ref P, .int (M (P + 4) (Int32.toNatClampNeg (((3 : Int32) * x5) + (1 : Int32))))]) rfl) ?_
          refine Tt.go (fun _ => Tr.get fmc7 hP rfl fw1029 (k := 5) (by decide) rfl) (?_ : Tt g l z_X7_unlike (emI M w) _ 64 [(0, .ref P), (1, .int a1), (2, .int x2), (3, .int x3), (4, .int x4), (5, .int x5)] [.ref (P + 3), .int (M (P + 4) (Int32.toNatClampNeg (((3 : Int32) * x5) + (1 : Int32))))] (M, w))
          refine Tt.go (fun _ => Tr.run 5 (pc' := 69) (lv' := [(0, .ref P), (1, .int a1), (2, .int x2), (3, .int x3), (4, .int x4), (5, .int x5)]) (st' := [.int (((3 : Int32) * x3) + (1 : Int32)), .ref (P + 3), .int (M (P + 4) (Int32.toNatClampNeg (((3 : Int32) * x5) + (1 : Int32))))]) rfl) ?_
          refine Tt.ck (fun hi4 => ?_)
          refine Tt.go (fun _ => Tr.iald (fmk_7_5 hP) (by decide) hi4 rfl) (?_ : Tt g l z_X7_unlike (emI M w) _ 70 [(0, .ref P), (1, .int a1), (2, .int x2), (3, .int x3), (4, .int x4), (5, .int x5)] [.int (M (P + 3) (Int32.toNatClampNeg (((3 : Int32) * x3) + (1 : Int32)))), .int (M (P + 4) (Int32.toNatClampNeg (((3 : Int32) * x5) + (1 : Int32))))] (M, w))
          refine Tt.ic_ne (tgt := 97) rfl (by decide) ?_ ?_
          · refine Tt.go (fun _ => Tr.run 1 (pc' := 74) (lv' := [(0, .ref P), (1, .int a1), (2, .int x2), (3, .int x3), (4, .int x4), (5, .int x5)]) (st' := [.ref P]) rfl) ?_
            refine Tt.go (fun _ => Tr.get fmc7 hP rfl fw1030 (k := 6) (by decide) rfl) (?_ : Tt g l z_X7_unlike (emI M w) _ 77 [(0, .ref P), (1, .int a1), (2, .int x2), (3, .int x3), (4, .int x4), (5, .int x5)] [.ref (P + 4)] (M, w))
            refine Tt.go (fun _ => Tr.run 5 (pc' := 83) (lv' := [(0, .ref P), (1, .int a1), (2, .int x2), (3, .int x3), (4, .int x4), (5, .int x5)]) (st' := [.int (((3 : Int32) * x5) + (2 : Int32)), .ref (P + 4)]) rfl) ?_
            refine Tt.ck (fun hi5 => ?_)
            refine Tt.go (fun _ => Tr.iald (fmk_7_6 hP) (by decide) hi5 rfl) (?_ : Tt g l z_X7_unlike (emI M w) _ 84 [(0, .ref P), (1, .int a1), (2, .int x2), (3, .int x3), (4, .int x4), (5, .int x5)] [.int (M (P + 4) (Int32.toNatClampNeg (((3 : Int32) * x5) + (2 : Int32))))] (M, w))
            refine Tt.go (fun _ => Tr.run 1 (pc' := 85) (lv' := [(0, .ref P), (1, .int a1), (2, .int x2), (3, .int x3), (4, .int x4), (5, .int x5)]) (st' := [.ref P, .int (M (P + 4) (Int32.toNatClampNeg (((3 : Int32) * x5) + (2 : Int32))))]) rfl) ?_
            refine Tt.go (fun _ => Tr.get fmc7 hP rfl fw1029 (k := 5) (by decide) rfl) (?_ : Tt g l z_X7_unlike (emI M w) _ 88 [(0, .ref P), (1, .int a1), (2, .int x2), (3, .int x3), (4, .int x4), (5, .int x5)] [.ref (P + 3), .int (M (P + 4) (Int32.toNatClampNeg (((3 : Int32) * x5) + (2 : Int32))))] (M, w))
            refine Tt.go (fun _ => Tr.run 5 (pc' := 93) (lv' := [(0, .ref P), (1, .int a1), (2, .int x2), (3, .int x3), (4, .int x4), (5, .int x5)]) (st' := [.int (((3 : Int32) * x3) + (2 : Int32)), .ref (P + 3), .int (M (P + 4) (Int32.toNatClampNeg (((3 : Int32) * x5) + (2 : Int32))))]) rfl) ?_
            refine Tt.ck (fun hi6 => ?_)
            refine Tt.go (fun _ => Tr.iald (fmk_7_5 hP) (by decide) hi6 rfl) (?_ : Tt g l z_X7_unlike (emI M w) _ 94 [(0, .ref P), (1, .int a1), (2, .int x2), (3, .int x3), (4, .int x4), (5, .int x5)] [.int (M (P + 3) (Int32.toNatClampNeg (((3 : Int32) * x3) + (2 : Int32)))), .int (M (P + 4) (Int32.toNatClampNeg (((3 : Int32) * x5) + (2 : Int32))))] (M, w))
            refine Tt.ic_eq (tgt := 101) rfl (by decide) ?_ ?_
            · refine Tt.go (fun _ => Tr.sub (lv' := [(0, .ref P), (1, .int a1), (2, .int x2), (3, .int x3), (5, .int x5)]) [0, 1, 2, 3, 5] rfl) ?_
              exact t_X7_unlike_101 g l hl P a1 hP w k4 hk4 _ ih x2 x3 x5 M
            · refine Tt.go (fun _ => Tr.sub (lv' := [(0, .ref P), (1, .int a1), (2, .int x2), (3, .int x3), (5, .int x5)]) [0, 1, 2, 3, 5] rfl) ?_
              exact t_X7_unlike_97 g l hl P a1 hP w k4 hk4 _ ih x2 x3 x5 M
          · refine Tt.go (fun _ => Tr.sub (lv' := [(0, .ref P), (1, .int a1), (2, .int x2), (3, .int x3), (5, .int x5)]) [0, 1, 2, 3, 5] rfl) ?_
            exact t_X7_unlike_97 g l hl P a1 hP w k4 hk4 _ ih x2 x3 x5 M
        · refine Tt.go (fun _ => Tr.sub (lv' := [(0, .ref P), (1, .int a1), (2, .int x2), (3, .int x3), (5, .int x5)]) [0, 1, 2, 3, 5] rfl) ?_
          exact t_X7_unlike_97 g l hl P a1 hP w k4 hk4 _ ih x2 x3 x5 M
def f_X7_unlike_4 (P : Nat) (a1 : Int32) : Nat → Int32 → Int32 → fm_Mem → Option (Int32)
  | 0, _, _, _ => none
  | n + 1, x2, x3, M => if (M P 8) ≤ x3 then (some (x2)) else (f_X7_unlike_18 P a1 (fun x2 x3 M => f_X7_unlike_4 P a1 n x2 x3 M) fm_fuel x2 x3 (1 : Int32) (0 : Int32) M)
set_option maxRecDepth 100000 in
set_option maxHeartbeats 4000000 in
theorem t_X7_unlike_4 (g : fm_G) (l : Launch) (hl : l.stackTraces = false) (P : Nat) (a1 : Int32) (hP : fm_kd g P = 7) (w : fm_W)  : ∀ (n : Nat) (x2 : Int32) (x3 : Int32)  (M : fm_Mem), Tt g l z_X7_unlike (emI M w) (f_X7_unlike_4 P a1  n x2 x3 M) 4 [(0, .ref P), (1, .int a1), (2, .int x2), (3, .int x3)] [] (M, w) := by
  intro n
  induction n with
  | zero => intros; exact Tt.none
  | succ n ih =>
    intro x2 x3  M
    rw [f_X7_unlike_4]
    refine Tt.go (fun _ => Tr.run 2 (pc' := 6) (lv' := [(0, .ref P), (1, .int a1), (2, .int x2), (3, .int x3)]) (st' := [.ref P, .int x3]) rfl) ?_
    refine Tt.go (fun _ => Tr.get fmc7 hP rfl fw1032 (k := 8) (by decide) rfl) (?_ : Tt g l z_X7_unlike (emI M w) _ 9 [(0, .ref P), (1, .int a1), (2, .int x2), (3, .int x3)] [.int (M P 8), .int x3] (M, w))
    refine Tt.ic_ge (tgt := 129) rfl (by decide) ?_ ?_
    · refine Tt.go (fun _ => Tr.run 1 (pc' := 130) (lv' := [(0, .ref P), (1, .int a1), (2, .int x2), (3, .int x3)]) (st' := [.int x2]) rfl) ?_
      exact Tt.ret (Tr.iret rfl rfl)
    · refine Tt.go (fun _ => Tr.run 4 (pc' := 18) (lv' := [(5, .int (0 : Int32)), (4, .int (1 : Int32)), (0, .ref P), (1, .int a1), (2, .int x2), (3, .int x3)]) (st' := []) rfl) ?_
      refine Tt.go (fun _ => Tr.sub (lv' := [(0, .ref P), (1, .int a1), (2, .int x2), (3, .int x3), (4, .int (1 : Int32)), (5, .int (0 : Int32))]) [2, 3, 4, 5, 1, 0] rfl) ?_
      exact t_X7_unlike_18 g l hl P a1 hP w _ ih fm_fuel x2 x3 (1 : Int32) (0 : Int32) M
def f_X7_unlike (P : Nat) (a1 : Int32) (M : fm_Mem) : Option (Int32) := (f_X7_unlike_4 P a1 fm_fuel (0 : Int32) (0 : Int32) M)
set_option maxRecDepth 100000 in
set_option maxHeartbeats 4000000 in
theorem t_X7_unlike (g : fm_G) (l : Launch) (hl : l.stackTraces = false) (P : Nat) (a1 : Int32) (hP : fm_kd g P = 7) (M : fm_Mem) (w : fm_W) : Tt g l z_X7_unlike (emI M w) (f_X7_unlike P a1 M) 0 [(0, .ref P), (1, .int a1)] [] (M, w) := by
  rw [f_X7_unlike]
  refine Tt.go (fun _ => Tr.run 4 (pc' := 4) (lv' := [(3, .int (0 : Int32)), (2, .int (0 : Int32)), (0, .ref P), (1, .int a1)]) (st' := []) rfl) ?_
  refine Tt.go (fun _ => Tr.sub (lv' := [(0, .ref P), (1, .int a1), (2, .int (0 : Int32)), (3, .int (0 : Int32))]) [2, 3, 1, 0] rfl) ?_
  exact t_X7_unlike_4 g l hl P a1 hP w fm_fuel (0 : Int32) (0 : Int32) M
theorem c_X7_unlike (g : fm_G) (l : Launch) (hl : l.stackTraces = false) (P : Nat) (a1 : Int32) (hP : fm_kd g P = 7) (M : fm_Mem) (w : fm_W) : ∀ r, f_X7_unlike P a1 M = some r → fC g l z_X7_unlike [.ref P, .int a1] (M, w) (emI M w r) := fun r hr => fC.of (by decide) rfl o_X7_unlike hl (Nat.le_of_ble_eq_true rfl) (t_X7_unlike g l hl P a1 hP M w r hr)
def k_X7_move : List (Nat × Instr × Nat) := [(0, .aload_n 0, 1), (1, .iconst 0, 1), (2, .putfield 35, 3), (5, .aload_n 0, 1), (6, .aload_n 0, 1), (7, .iload_n 1, 1), (8, .invokevirtual 293, 3), (11, .iconst 1, 1), (12, .invokevirtual 252, 3), (15, .ifCond .eq 38, 3), (18, .aload_n 0, 1), (19, .iload_n 2, 1), (20, .iconst 0, 1), (21, .sipush 200, 3), (24, .invokestatic 52, 3), (27, .ifCond .eq 18, 3), (30, .iload_n 3, 1), (31, .iconst 0, 1), (32, .sipush 200, 3), (35, .invokestatic 52, 3), (38, .ifCond .eq 7, 3), (41, .iconst 1, 1), (42, .goto 4, 3), (45, .iconst 0, 1), (46, .iconst 2, 1), (47, .invokevirtual 252, 3), (50, .ifCond .ne 5, 3), (53, .iconst 0, 1), (54, .ireturn, 1), (55, .aload_n 0, 1), (56, .iload_n 2, 1), (57, .iload_n 3, 1), (58, .invokevirtual 221, 3), (61, .istore 4, 2), (63, .aload_n 0, 1), (64, .iload 4, 2), (66, .iconst (-1), 1), (67, .if_icmp .eq 9, 3), (70, .iload 4, 2), (72, .iload_n 1, 1), (73, .if_icmp .ne 7, 3), (76, .iconst 1, 1), (77, .goto 4, 3), (80, .iconst 0, 1), (81, .iconst 3, 1), (82, .invokevirtual 252, 3), (85, .ifCond .ne 5, 3), (88, .iconst 0, 1), (89, .ireturn, 1), (90, .aload_n 0, 1), (91, .invokevirtual 335, 3), (94, .aload_n 0, 1), (95, .invokevirtual 96, 3), (98, .aload_n 0, 1), (99, .getfield 86, 3), (102, .istore 5, 2), (104, .iconst 0, 1), (105, .istore 6, 2), (107, .iload 6, 2), (109, .iconst 3, 1), (110, .iload 5, 2), (112, .imul, 1), (113, .if_icmp .ge 23, 3), (116, .aload_n 0, 1), (117, .getfield 19, 3), (120, .iload 6, 2), (122, .aload_n 0, 1), (123, .getfield 16, 3), (126, .iload 6, 2), (128, .iaload, 1), (129, .iastore, 1), (130, .iinc 6 1, 3), (133, .goto (-26), 3), (136, .aload_n 0, 1), (137, .bipush 10, 2), (139, .iconst 2, 1), (140, .iload_n 1, 1), (141, .imul, 1), (142, .iadd, 1), (143, .iload_n 2, 1), (144, .invokevirtual 99, 3), (147, .aload_n 0, 1), (148, .bipush 10, 2), (150, .iconst 2, 1), (151, .iload_n 1, 1), (152, .imul, 1), (153, .iadd, 1), (154, .iconst 1, 1), (155, .iadd, 1), (156, .iload_n 3, 1), (157, .invokevirtual 99, 3), (160, .aload_n 0, 1), (161, .invokevirtual 224, 3), (164, .aload_n 0, 1), (165, .iload 5, 2), (167, .invokevirtual 338, 3), (170, .ireturn, 1)]
def z_X7_move : fm_Y := (yX7_move, RX7, cX7_move, 7, (some .int), k_X7_move, 8, 207)
theorem o_X7_move : fm_dec z_X7_move := (by decide +kernel : ∀ q ∈ k_X7_move, decode cX7_move q.1 = .ok q.2)
theorem cw_X7_move : fm_cwV z_X7_move := ⟨⟨lw_in 1452 (by decide +kernel) (by decide +kernel), lw_in 99 (by decide +kernel) (by decide +kernel), by decide, by decide⟩, lw_in 1450 (by decide +kernel) (by decide +kernel), lw_in 1451 (by decide +kernel) (by decide +kernel)⟩
theorem pn_X7_move : (parseMethodDescriptor z_X7_move.1.desc).map (fun d => d.parameters.length) = some 3 := by decide +kernel
def f_X7_move_53 (P : Nat) (a1 : Int32) (a2 : Int32) (a3 : Int32)  (M : fm_Mem) : Option (Int32 × fm_Mem) := some (((0 : Int32), M))
set_option maxRecDepth 100000 in
set_option maxHeartbeats 4000000 in
theorem t_X7_move_53 (g : fm_G) (l : Launch) (hl : l.stackTraces = false) (P : Nat) (a1 : Int32) (a2 : Int32) (a3 : Int32) (hP : fm_kd g P = 7) (w : fm_W) (M0 : fm_Mem)    (M : fm_Mem) : Tt g l z_X7_move (emIw M0 w) (f_X7_move_53 P a1 a2 a3   M) 53 [] [] (M, w) := by
  rw [f_X7_move_53]
  refine Tt.go (fun _ => Tr.run 1 (pc' := 54) (lv' := []) (st' := [.int (0 : Int32)]) rfl) ?_
  exact Tt.ret (Tr.iret rfl rfl)
def f_X7_move_107 (P : Nat) (a1 : Int32) (a2 : Int32) (a3 : Int32) : Nat → Int32 → Int32 → fm_Mem → Option (Int32 × fm_Mem)
  | 0, _, _, _ => none
  | n + 1, x5, x6, M => if ((3 : Int32) * x5) ≤ x6 then (Option.bind (f_X7_put0 P ((10 : Int32) + ((2 : Int32) * a1)) a2 M) (fun v1 => Option.bind (f_X7_put0 P (((10 : Int32) + ((2 : Int32) * a1)) + (1 : Int32)) a3 v1) (fun v2 => Option.bind (f_X7_drawsAnew P v2) (fun v3 => Option.bind (f_X7_unlike P x5 v3) (fun v4 => some ((v4, v3))))))) else (fm_ck (fm_in x6 120) (fm_ck (fm_in x6 120) (f_X7_move_107 P a1 a2 a3 n x5 (x6 + (1 : Int32)) (fm_up M (P + 4) (Int32.toNatClampNeg x6) (M (P + 3) (Int32.toNatClampNeg x6))))))
set_option maxRecDepth 100000 in
set_option maxHeartbeats 4000000 in
theorem t_X7_move_107 (g : fm_G) (l : Launch) (hl : l.stackTraces = false) (P : Nat) (a1 : Int32) (a2 : Int32) (a3 : Int32) (hP : fm_kd g P = 7) (w : fm_W) (M0 : fm_Mem)  : ∀ (n : Nat) (x5 : Int32) (x6 : Int32)  (M : fm_Mem), Tt g l z_X7_move (emIw M0 w) (f_X7_move_107 P a1 a2 a3  n x5 x6 M) 107 [(0, .ref P), (1, .int a1), (2, .int a2), (3, .int a3), (5, .int x5), (6, .int x6)] [] (M, w) := by
  intro n
  induction n with
  | zero => intros; exact Tt.none
  | succ n ih =>
    intro x5 x6  M
    rw [f_X7_move_107]
    refine Tt.go (fun _ => Tr.run 4 (pc' := 113) (lv' := [(0, .ref P), (1, .int a1), (2, .int a2), (3, .int a3), (5, .int x5), (6, .int x6)]) (st' := [.int ((3 : Int32) * x5), .int x6]) rfl) ?_
    refine Tt.ic_ge (tgt := 136) rfl (by decide) ?_ ?_
    · refine Tt.go (fun _ => Tr.run 7 (pc' := 144) (lv' := [(0, .ref P), (1, .int a1), (2, .int a2), (3, .int a3), (5, .int x5), (6, .int x6)]) (st' := [.int a2, .int ((10 : Int32) + ((2 : Int32) * a1)), .ref P]) rfl) ?_
      refine Tt.callV (As := [.int ((10 : Int32) + ((2 : Int32) * a1)), .int a2]) (rest := []) (c_X7_put0 g l hl P ((10 : Int32) + ((2 : Int32) * a1)) a2 hP M w) hP (by decide) rfl rfl cw_X7_put0 fw1135 pn_X7_put0 (Nat.le_of_ble_eq_true rfl) (Nat.le_of_ble_eq_true rfl) (Nat.le_of_ble_eq_true rfl) rfl (fun v1 => (?_ : Tt g l z_X7_move (emIw M0 w) _ 147 [(0, .ref P), (1, .int a1), (2, .int a2), (3, .int a3), (5, .int x5), (6, .int x6)] [] (v1, w)))
      refine Tt.go (fun _ => Tr.run 9 (pc' := 157) (lv' := [(0, .ref P), (1, .int a1), (2, .int a2), (3, .int a3), (5, .int x5), (6, .int x6)]) (st' := [.int a3, .int (((10 : Int32) + ((2 : Int32) * a1)) + (1 : Int32)), .ref P]) rfl) ?_
      refine Tt.callV (As := [.int (((10 : Int32) + ((2 : Int32) * a1)) + (1 : Int32)), .int a3]) (rest := []) (c_X7_put0 g l hl P (((10 : Int32) + ((2 : Int32) * a1)) + (1 : Int32)) a3 hP v1 w) hP (by decide) rfl rfl cw_X7_put0 fw1135 pn_X7_put0 (Nat.le_of_ble_eq_true rfl) (Nat.le_of_ble_eq_true rfl) (Nat.le_of_ble_eq_true rfl) rfl (fun v2 => (?_ : Tt g l z_X7_move (emIw M0 w) _ 160 [(0, .ref P), (1, .int a1), (2, .int a2), (3, .int a3), (5, .int x5), (6, .int x6)] [] (v2, w)))
      refine Tt.go (fun _ => Tr.run 1 (pc' := 161) (lv' := [(0, .ref P), (1, .int a1), (2, .int a2), (3, .int a3), (5, .int x5), (6, .int x6)]) (st' := [.ref P]) rfl) ?_
      refine Tt.callV (As := []) (rest := []) (c_X7_drawsAnew g l hl P hP v2 w) hP (by decide) rfl rfl cw_X7_drawsAnew fw1177 pn_X7_drawsAnew (Nat.le_of_ble_eq_true rfl) (Nat.le_of_ble_eq_true rfl) (Nat.le_of_ble_eq_true rfl) rfl (fun v3 => (?_ : Tt g l z_X7_move (emIw M0 w) _ 164 [(0, .ref P), (1, .int a1), (2, .int a2), (3, .int a3), (5, .int x5), (6, .int x6)] [] (v3, w)))
      refine Tt.go (fun _ => Tr.run 2 (pc' := 167) (lv' := [(0, .ref P), (1, .int a1), (2, .int a2), (3, .int a3), (5, .int x5), (6, .int x6)]) (st' := [.int x5, .ref P]) rfl) ?_
      refine Tt.callV (As := [.int x5]) (rest := []) (c_X7_unlike g l hl P x5 hP v3 w) hP (by decide) rfl rfl cw_X7_unlike fw1453 pn_X7_unlike (Nat.le_of_ble_eq_true rfl) (Nat.le_of_ble_eq_true rfl) (Nat.le_of_ble_eq_true rfl) rfl (fun v4 => (?_ : Tt g l z_X7_move (emIw M0 w) _ 170 [(0, .ref P), (1, .int a1), (2, .int a2), (3, .int a3), (5, .int x5), (6, .int x6)] [.int v4] (v3, w)))
      exact Tt.ret (Tr.iret rfl rfl)
    · refine Tt.go (fun _ => Tr.run 1 (pc' := 117) (lv' := [(0, .ref P), (1, .int a1), (2, .int a2), (3, .int a3), (5, .int x5), (6, .int x6)]) (st' := [.ref P]) rfl) ?_
      refine Tt.go (fun _ => Tr.get fmc7 hP rfl fw1030 (k := 6) (by decide) rfl) (?_ : Tt g l z_X7_move (emIw M0 w) _ 120 [(0, .ref P), (1, .int a1), (2, .int a2), (3, .int a3), (5, .int x5), (6, .int x6)] [.ref (P + 4)] (M, w))
      refine Tt.go (fun _ => Tr.run 2 (pc' := 123) (lv' := [(0, .ref P), (1, .int a1), (2, .int a2), (3, .int a3), (5, .int x5), (6, .int x6)]) (st' := [.ref P, .int x6, .ref (P + 4)]) rfl) ?_
      refine Tt.go (fun _ => Tr.get fmc7 hP rfl fw1029 (k := 5) (by decide) rfl) (?_ : Tt g l z_X7_move (emIw M0 w) _ 126 [(0, .ref P), (1, .int a1), (2, .int a2), (3, .int a3), (5, .int x5), (6, .int x6)] [.ref (P + 3), .int x6, .ref (P + 4)] (M, w))
      refine Tt.go (fun _ => Tr.run 1 (pc' := 128) (lv' := [(0, .ref P), (1, .int a1), (2, .int a2), (3, .int a3), (5, .int x5), (6, .int x6)]) (st' := [.int x6, .ref (P + 3), .int x6, .ref (P + 4)]) rfl) ?_
      refine Tt.ck (fun hi5 => ?_)
      refine Tt.go (fun _ => Tr.iald (fmk_7_5 hP) (by decide) hi5 rfl) (?_ : Tt g l z_X7_move (emIw M0 w) _ 129 [(0, .ref P), (1, .int a1), (2, .int a2), (3, .int a3), (5, .int x5), (6, .int x6)] [.int (M (P + 3) (Int32.toNatClampNeg x6)), .int x6, .ref (P + 4)] (M, w))
      refine Tt.ck (fun hi6 => ?_)
      refine Tt.go (fun _ => Tr.iast (fmk_7_6 hP) (by decide) hi6 rfl) (?_ : Tt g l z_X7_move (emIw M0 w) _ 130 [(0, .ref P), (1, .int a1), (2, .int a2), (3, .int a3), (5, .int x5), (6, .int x6)] [] ((fm_up M (P + 4) (Int32.toNatClampNeg x6) (M (P + 3) (Int32.toNatClampNeg x6))), w))
      refine Tt.go (fun _ => Tr.run 2 (pc' := 107) (lv' := [(6, .int (x6 + (1 : Int32))), (0, .ref P), (1, .int a1), (2, .int a2), (3, .int a3), (5, .int x5)]) (st' := []) rfl) ?_
      refine Tt.go (fun _ => Tr.sub (lv' := [(0, .ref P), (1, .int a1), (2, .int a2), (3, .int a3), (5, .int x5), (6, .int (x6 + (1 : Int32)))]) [1, 2, 3, 4, 5, 0] rfl) ?_
      exact ih x5 (x6 + (1 : Int32)) (fm_up M (P + 4) (Int32.toNatClampNeg x6) (M (P + 3) (Int32.toNatClampNeg x6)))
def f_X7_move_81 (P : Nat) (a1 : Int32) (a2 : Int32) (a3 : Int32) (s0 : Int32) (M : fm_Mem) : Option (Int32 × fm_Mem) := Option.bind (f_X7_right P s0 (3 : Int32) M) (fun v1 => if v1.1 = 0 then (some (((0 : Int32), v1.2))) else (Option.bind (f_X7_change P v1.2) (fun v2 => Option.bind (f_X7_laysDue P v2) (fun v3 => (f_X7_move_107 P a1 a2 a3 fm_fuel (v3 P 8) (0 : Int32) v3)))))
set_option maxRecDepth 100000 in
set_option maxHeartbeats 4000000 in
theorem t_X7_move_81 (g : fm_G) (l : Launch) (hl : l.stackTraces = false) (P : Nat) (a1 : Int32) (a2 : Int32) (a3 : Int32) (hP : fm_kd g P = 7) (w : fm_W) (M0 : fm_Mem)  (s0 : Int32)  (M : fm_Mem) : Tt g l z_X7_move (emIw M0 w) (f_X7_move_81 P a1 a2 a3  s0 M) 81 [(0, .ref P), (1, .int a1), (2, .int a2), (3, .int a3)] [.int s0, .ref P] (M, w) := by
  rw [f_X7_move_81]
  refine Tt.go (fun _ => Tr.run 1 (pc' := 82) (lv' := [(0, .ref P), (1, .int a1), (2, .int a2), (3, .int a3)]) (st' := [.int (3 : Int32), .int s0, .ref P]) rfl) ?_
  refine Tt.callV (As := [.int s0, .int (3 : Int32)]) (rest := []) (c_X7_right g l hl P s0 (3 : Int32) hP M w) hP (by decide) rfl rfl cw_X7_right fw1105 pn_X7_right (Nat.le_of_ble_eq_true rfl) (Nat.le_of_ble_eq_true rfl) (Nat.le_of_ble_eq_true rfl) rfl (fun v1 => (?_ : Tt g l z_X7_move (emIw M0 w) _ 85 [(0, .ref P), (1, .int a1), (2, .int a2), (3, .int a3)] [.int v1.1] (v1.2, w)))
  refine Tt.if_ne (tgt := 90) rfl (by decide) ?_ ?_
  · refine Tt.go (fun _ => Tr.run 1 (pc' := 89) (lv' := [(0, .ref P), (1, .int a1), (2, .int a2), (3, .int a3)]) (st' := [.int (0 : Int32)]) rfl) ?_
    exact Tt.ret (Tr.iret rfl rfl)
  · refine Tt.go (fun _ => Tr.run 1 (pc' := 91) (lv' := [(0, .ref P), (1, .int a1), (2, .int a2), (3, .int a3)]) (st' := [.ref P]) rfl) ?_
    refine Tt.callV (As := []) (rest := []) (c_X7_change g l hl P hP v1.2 w) hP (by decide) rfl rfl cw_X7_change fw1441 pn_X7_change (Nat.le_of_ble_eq_true rfl) (Nat.le_of_ble_eq_true rfl) (Nat.le_of_ble_eq_true rfl) rfl (fun v2 => (?_ : Tt g l z_X7_move (emIw M0 w) _ 94 [(0, .ref P), (1, .int a1), (2, .int a2), (3, .int a3)] [] (v2, w)))
    refine Tt.go (fun _ => Tr.run 1 (pc' := 95) (lv' := [(0, .ref P), (1, .int a1), (2, .int a2), (3, .int a3)]) (st' := [.ref P]) rfl) ?_
    refine Tt.callV (As := []) (rest := []) (c_X7_laysDue g l hl P hP v2 w) hP (by decide) rfl rfl cw_X7_laysDue fw1181 pn_X7_laysDue (Nat.le_of_ble_eq_true rfl) (Nat.le_of_ble_eq_true rfl) (Nat.le_of_ble_eq_true rfl) rfl (fun v3 => (?_ : Tt g l z_X7_move (emIw M0 w) _ 98 [(0, .ref P), (1, .int a1), (2, .int a2), (3, .int a3)] [] (v3, w)))
    refine Tt.go (fun _ => Tr.run 1 (pc' := 99) (lv' := [(0, .ref P), (1, .int a1), (2, .int a2), (3, .int a3)]) (st' := [.ref P]) rfl) ?_
    refine Tt.go (fun _ => Tr.get fmc7 hP rfl fw1032 (k := 8) (by decide) rfl) (?_ : Tt g l z_X7_move (emIw M0 w) _ 102 [(0, .ref P), (1, .int a1), (2, .int a2), (3, .int a3)] [.int (v3 P 8)] (v3, w))
    refine Tt.go (fun _ => Tr.run 3 (pc' := 107) (lv' := [(6, .int (0 : Int32)), (5, .int (v3 P 8)), (0, .ref P), (1, .int a1), (2, .int a2), (3, .int a3)]) (st' := []) rfl) ?_
    refine Tt.go (fun _ => Tr.sub (lv' := [(0, .ref P), (1, .int a1), (2, .int a2), (3, .int a3), (5, .int (v3 P 8)), (6, .int (0 : Int32))]) [2, 3, 4, 5, 1, 0] rfl) ?_
    exact t_X7_move_107 g l hl P a1 a2 a3 hP w M0 fm_fuel (v3 P 8) (0 : Int32) v3
def f_X7_move_76 (P : Nat) (a1 : Int32) (a2 : Int32) (a3 : Int32)  (M : fm_Mem) : Option (Int32 × fm_Mem) := (f_X7_move_81 P a1 a2 a3 (1 : Int32) M)
set_option maxRecDepth 100000 in
set_option maxHeartbeats 4000000 in
theorem t_X7_move_76 (g : fm_G) (l : Launch) (hl : l.stackTraces = false) (P : Nat) (a1 : Int32) (a2 : Int32) (a3 : Int32) (hP : fm_kd g P = 7) (w : fm_W) (M0 : fm_Mem)    (M : fm_Mem) : Tt g l z_X7_move (emIw M0 w) (f_X7_move_76 P a1 a2 a3   M) 76 [(0, .ref P), (1, .int a1), (2, .int a2), (3, .int a3)] [.ref P] (M, w) := by
  rw [f_X7_move_76]
  refine Tt.go (fun _ => Tr.run 2 (pc' := 81) (lv' := [(0, .ref P), (1, .int a1), (2, .int a2), (3, .int a3)]) (st' := [.int (1 : Int32), .ref P]) rfl) ?_
  exact t_X7_move_81 g l hl P a1 a2 a3 hP w M0 (1 : Int32) M
def f_X7_move_46 (P : Nat) (a1 : Int32) (a2 : Int32) (a3 : Int32) (s0 : Int32) (M : fm_Mem) : Option (Int32 × fm_Mem) := Option.bind (f_X7_right P s0 (2 : Int32) M) (fun v1 => if v1.1 = 0 then (f_X7_move_53 P a1 a2 a3 v1.2) else (Option.bind (f_X7_pointAt P a2 a3 v1.2) (fun v2 => if v2 = (-1 : Int32) then (f_X7_move_76 P a1 a2 a3 v1.2) else (if v2 = a1 then (f_X7_move_76 P a1 a2 a3 v1.2) else (f_X7_move_81 P a1 a2 a3 (0 : Int32) v1.2)))))
set_option maxRecDepth 100000 in
set_option maxHeartbeats 4000000 in
theorem t_X7_move_46 (g : fm_G) (l : Launch) (hl : l.stackTraces = false) (P : Nat) (a1 : Int32) (a2 : Int32) (a3 : Int32) (hP : fm_kd g P = 7) (w : fm_W) (M0 : fm_Mem)  (s0 : Int32)  (M : fm_Mem) : Tt g l z_X7_move (emIw M0 w) (f_X7_move_46 P a1 a2 a3  s0 M) 46 [(0, .ref P), (1, .int a1), (2, .int a2), (3, .int a3)] [.int s0, .ref P] (M, w) := by
  rw [f_X7_move_46]
  refine Tt.go (fun _ => Tr.run 1 (pc' := 47) (lv' := [(0, .ref P), (1, .int a1), (2, .int a2), (3, .int a3)]) (st' := [.int (2 : Int32), .int s0, .ref P]) rfl) ?_
  refine Tt.callV (As := [.int s0, .int (2 : Int32)]) (rest := []) (c_X7_right g l hl P s0 (2 : Int32) hP M w) hP (by decide) rfl rfl cw_X7_right fw1105 pn_X7_right (Nat.le_of_ble_eq_true rfl) (Nat.le_of_ble_eq_true rfl) (Nat.le_of_ble_eq_true rfl) rfl (fun v1 => (?_ : Tt g l z_X7_move (emIw M0 w) _ 50 [(0, .ref P), (1, .int a1), (2, .int a2), (3, .int a3)] [.int v1.1] (v1.2, w)))
  refine Tt.if_ne (tgt := 55) rfl (by decide) ?_ ?_
  · refine Tt.go (fun _ => Tr.sub (lv' := []) [] rfl) ?_
    exact t_X7_move_53 g l hl P a1 a2 a3 hP w M0 v1.2
  · refine Tt.go (fun _ => Tr.run 3 (pc' := 58) (lv' := [(0, .ref P), (1, .int a1), (2, .int a2), (3, .int a3)]) (st' := [.int a3, .int a2, .ref P]) rfl) ?_
    refine Tt.callV (As := [.int a2, .int a3]) (rest := []) (c_X7_pointAt g l hl P a2 a3 hP v1.2 w) hP (by decide) rfl rfl cw_X7_pointAt fw1160 pn_X7_pointAt (Nat.le_of_ble_eq_true rfl) (Nat.le_of_ble_eq_true rfl) (Nat.le_of_ble_eq_true rfl) rfl (fun v2 => (?_ : Tt g l z_X7_move (emIw M0 w) _ 61 [(0, .ref P), (1, .int a1), (2, .int a2), (3, .int a3)] [.int v2] (v1.2, w)))
    refine Tt.go (fun _ => Tr.run 4 (pc' := 67) (lv' := [(4, .int v2), (0, .ref P), (1, .int a1), (2, .int a2), (3, .int a3)]) (st' := [.int (-1 : Int32), .int v2, .ref P]) rfl) ?_
    refine Tt.ic_eq (tgt := 76) rfl (by decide) ?_ ?_
    · refine Tt.go (fun _ => Tr.sub (lv' := [(0, .ref P), (1, .int a1), (2, .int a2), (3, .int a3)]) [1, 2, 3, 4] rfl) ?_
      exact t_X7_move_76 g l hl P a1 a2 a3 hP w M0 v1.2
    · refine Tt.go (fun _ => Tr.run 2 (pc' := 73) (lv' := [(4, .int v2), (0, .ref P), (1, .int a1), (2, .int a2), (3, .int a3)]) (st' := [.int a1, .int v2, .ref P]) rfl) ?_
      refine Tt.ic_ne (tgt := 80) rfl (by decide) ?_ ?_
      · refine Tt.go (fun _ => Tr.sub (lv' := [(0, .ref P), (1, .int a1), (2, .int a2), (3, .int a3)]) [1, 2, 3, 4] rfl) ?_
        exact t_X7_move_76 g l hl P a1 a2 a3 hP w M0 v1.2
      · refine Tt.go (fun _ => Tr.run 1 (pc' := 81) (lv' := [(4, .int v2), (0, .ref P), (1, .int a1), (2, .int a2), (3, .int a3)]) (st' := [.int (0 : Int32), .ref P]) rfl) ?_
        refine Tt.go (fun _ => Tr.sub (lv' := [(0, .ref P), (1, .int a1), (2, .int a2), (3, .int a3)]) [1, 2, 3, 4] rfl) ?_
        exact t_X7_move_81 g l hl P a1 a2 a3 hP w M0 (0 : Int32) v1.2
def f_X7_move_45 (P : Nat) (a1 : Int32) (a2 : Int32) (a3 : Int32)  (M : fm_Mem) : Option (Int32 × fm_Mem) := (f_X7_move_46 P a1 a2 a3 (0 : Int32) M)
set_option maxRecDepth 100000 in
set_option maxHeartbeats 4000000 in
theorem t_X7_move_45 (g : fm_G) (l : Launch) (hl : l.stackTraces = false) (P : Nat) (a1 : Int32) (a2 : Int32) (a3 : Int32) (hP : fm_kd g P = 7) (w : fm_W) (M0 : fm_Mem)    (M : fm_Mem) : Tt g l z_X7_move (emIw M0 w) (f_X7_move_45 P a1 a2 a3   M) 45 [(0, .ref P), (1, .int a1), (2, .int a2), (3, .int a3)] [.ref P] (M, w) := by
  rw [f_X7_move_45]
  refine Tt.go (fun _ => Tr.run 1 (pc' := 46) (lv' := [(0, .ref P), (1, .int a1), (2, .int a2), (3, .int a3)]) (st' := [.int (0 : Int32), .ref P]) rfl) ?_
  exact t_X7_move_46 g l hl P a1 a2 a3 hP w M0 (0 : Int32) M
def f_X7_move (P : Nat) (a1 : Int32) (a2 : Int32) (a3 : Int32) (M : fm_Mem) : Option (Int32 × fm_Mem) := Option.bind (f_X7_isPoint P a1 (fm_up M P 0 (0 : Int32))) (fun v1 => Option.bind (f_X7_right P v1 (1 : Int32) (fm_up M P 0 (0 : Int32))) (fun v2 => if v2.1 = 0 then (f_X7_move_53 P a1 a2 a3 v2.2) else (Option.bind (f_X7_isIn a2 (0 : Int32) (200 : Int32) v2.2) (fun v3 => if v3 = 0 then (f_X7_move_45 P a1 a2 a3 v2.2) else (Option.bind (f_X7_isIn a3 (0 : Int32) (200 : Int32) v2.2) (fun v4 => if v4 = 0 then (f_X7_move_45 P a1 a2 a3 v2.2) else (f_X7_move_46 P a1 a2 a3 (1 : Int32) v2.2)))))))
set_option maxRecDepth 100000 in
set_option maxHeartbeats 4000000 in
theorem t_X7_move (g : fm_G) (l : Launch) (hl : l.stackTraces = false) (P : Nat) (a1 : Int32) (a2 : Int32) (a3 : Int32) (hP : fm_kd g P = 7) (M : fm_Mem) (w : fm_W) : Tt g l z_X7_move (emIw M w) (f_X7_move P a1 a2 a3 M) 0 [(0, .ref P), (1, .int a1), (2, .int a2), (3, .int a3)] [] (M, w) := by
  rw [f_X7_move]
  refine Tt.go (fun _ => Tr.run 2 (pc' := 2) (lv' := [(0, .ref P), (1, .int a1), (2, .int a2), (3, .int a3)]) (st' := [.int (0 : Int32), .ref P]) rfl) ?_
  refine Tt.go (fun _ => Tr.put fmc7 hP rfl fw1024 (k := 0) (by decide) rfl rfl ⟨rfl, rfl⟩) (?_ : Tt g l z_X7_move (emIw M w) _ 5 [(0, .ref P), (1, .int a1), (2, .int a2), (3, .int a3)] [] ((fm_up M P 0 (0 : Int32)), w))
  refine Tt.go (fun _ => Tr.run 3 (pc' := 8) (lv' := [(0, .ref P), (1, .int a1), (2, .int a2), (3, .int a3)]) (st' := [.int a1, .ref P, .ref P]) rfl) ?_
  refine Tt.callV (As := [.int a1]) (rest := [.ref P]) (c_X7_isPoint g l hl P a1 hP (fm_up M P 0 (0 : Int32)) w) hP (by decide) rfl rfl cw_X7_isPoint fw1315 pn_X7_isPoint (Nat.le_of_ble_eq_true rfl) (Nat.le_of_ble_eq_true rfl) (Nat.le_of_ble_eq_true rfl) rfl (fun v1 => (?_ : Tt g l z_X7_move (emIw M w) _ 11 [(0, .ref P), (1, .int a1), (2, .int a2), (3, .int a3)] [.int v1, .ref P] ((fm_up M P 0 (0 : Int32)), w)))
  refine Tt.go (fun _ => Tr.run 1 (pc' := 12) (lv' := [(0, .ref P), (1, .int a1), (2, .int a2), (3, .int a3)]) (st' := [.int (1 : Int32), .int v1, .ref P]) rfl) ?_
  refine Tt.callV (As := [.int v1, .int (1 : Int32)]) (rest := []) (c_X7_right g l hl P v1 (1 : Int32) hP (fm_up M P 0 (0 : Int32)) w) hP (by decide) rfl rfl cw_X7_right fw1105 pn_X7_right (Nat.le_of_ble_eq_true rfl) (Nat.le_of_ble_eq_true rfl) (Nat.le_of_ble_eq_true rfl) rfl (fun v2 => (?_ : Tt g l z_X7_move (emIw M w) _ 15 [(0, .ref P), (1, .int a1), (2, .int a2), (3, .int a3)] [.int v2.1] (v2.2, w)))
  refine Tt.if_eq (tgt := 53) rfl (by decide) ?_ ?_
  · refine Tt.go (fun _ => Tr.sub (lv' := []) [] rfl) ?_
    exact t_X7_move_53 g l hl P a1 a2 a3 hP w M v2.2
  · refine Tt.go (fun _ => Tr.run 4 (pc' := 24) (lv' := [(0, .ref P), (1, .int a1), (2, .int a2), (3, .int a3)]) (st' := [.int (200 : Int32), .int (0 : Int32), .int a2, .ref P]) rfl) ?_
    refine Tt.callS (As := [.int a2, .int (0 : Int32), .int (200 : Int32)]) (rest := [.ref P]) (c_X7_isIn g l hl a2 (0 : Int32) (200 : Int32) v2.2 w) rfl cw_X7_isIn fw1102 pn_X7_isIn (Nat.le_of_ble_eq_true rfl) (Nat.le_of_ble_eq_true rfl) (Nat.le_of_ble_eq_true rfl) rfl (fun v3 => (?_ : Tt g l z_X7_move (emIw M w) _ 27 [(0, .ref P), (1, .int a1), (2, .int a2), (3, .int a3)] [.int v3, .ref P] (v2.2, w)))
    refine Tt.if_eq (tgt := 45) rfl (by decide) ?_ ?_
    · exact t_X7_move_45 g l hl P a1 a2 a3 hP w M v2.2
    · refine Tt.go (fun _ => Tr.run 3 (pc' := 35) (lv' := [(0, .ref P), (1, .int a1), (2, .int a2), (3, .int a3)]) (st' := [.int (200 : Int32), .int (0 : Int32), .int a3, .ref P]) rfl) ?_
      refine Tt.callS (As := [.int a3, .int (0 : Int32), .int (200 : Int32)]) (rest := [.ref P]) (c_X7_isIn g l hl a3 (0 : Int32) (200 : Int32) v2.2 w) rfl cw_X7_isIn fw1102 pn_X7_isIn (Nat.le_of_ble_eq_true rfl) (Nat.le_of_ble_eq_true rfl) (Nat.le_of_ble_eq_true rfl) rfl (fun v4 => (?_ : Tt g l z_X7_move (emIw M w) _ 38 [(0, .ref P), (1, .int a1), (2, .int a2), (3, .int a3)] [.int v4, .ref P] (v2.2, w)))
      refine Tt.if_eq (tgt := 45) rfl (by decide) ?_ ?_
      · exact t_X7_move_45 g l hl P a1 a2 a3 hP w M v2.2
      · refine Tt.go (fun _ => Tr.run 2 (pc' := 46) (lv' := [(0, .ref P), (1, .int a1), (2, .int a2), (3, .int a3)]) (st' := [.int (1 : Int32), .ref P]) rfl) ?_
        exact t_X7_move_46 g l hl P a1 a2 a3 hP w M (1 : Int32) v2.2
theorem c_X7_move (g : fm_G) (l : Launch) (hl : l.stackTraces = false) (P : Nat) (a1 : Int32) (a2 : Int32) (a3 : Int32) (hP : fm_kd g P = 7) (M : fm_Mem) (w : fm_W) : ∀ r, f_X7_move P a1 a2 a3 M = some r → fC g l z_X7_move [.ref P, .int a1, .int a2, .int a3] (M, w) (emIw M w r) := fun r hr => fC.of (by decide) rfl o_X7_move hl (Nat.le_of_ble_eq_true rfl) (t_X7_move g l hl P a1 a2 a3 hP M w r hr)
def k_X7_flip : List (Nat × Instr × Nat) := [(0, .aload_n 0, 1), (1, .iconst 0, 1), (2, .putfield 35, 3), (5, .aload_n 0, 1), (6, .aload_n 0, 1), (7, .iload_n 1, 1), (8, .invokevirtual 293, 3), (11, .ifCond .eq 15, 3), (14, .aload_n 0, 1), (15, .iload_n 2, 1), (16, .invokevirtual 293, 3), (19, .ifCond .eq 7, 3), (22, .iconst 1, 1), (23, .goto 4, 3), (26, .iconst 0, 1), (27, .iconst 1, 1), (28, .invokevirtual 252, 3), (31, .ifCond .eq 25, 3), (34, .aload_n 0, 1), (35, .aload_n 0, 1), (36, .iload_n 1, 1), (37, .iload_n 2, 1), (38, .invokevirtual 227, 3), (41, .ifCond .ne 7, 3), (44, .iconst 1, 1), (45, .goto 4, 3), (48, .iconst 0, 1), (49, .iconst 2, 1), (50, .invokevirtual 252, 3), (53, .ifCond .ne 5, 3), (56, .iconst 0, 1), (57, .ireturn, 1), (58, .aload_n 0, 1), (59, .invokevirtual 335, 3), (62, .aload_n 0, 1), (63, .iload_n 1, 1), (64, .iload_n 2, 1), (65, .invokevirtual 230, 3), (68, .ireturn, 1)]
def z_X7_flip : fm_Y := (yX7_flip, RX7, cX7_flip, 3, (some .int), k_X7_flip, 10, 257)
theorem o_X7_flip : fm_dec z_X7_flip := (by decide +kernel : ∀ q ∈ k_X7_flip, decode cX7_flip q.1 = .ok q.2)
theorem cw_X7_flip : fm_cwV z_X7_flip := ⟨⟨lw_in 1460 (by decide +kernel) (by decide +kernel), lw_in 99 (by decide +kernel) (by decide +kernel), by decide, by decide⟩, lw_in 1458 (by decide +kernel) (by decide +kernel), lw_in 1459 (by decide +kernel) (by decide +kernel)⟩
theorem pn_X7_flip : (parseMethodDescriptor z_X7_flip.1.desc).map (fun d => d.parameters.length) = some 2 := by decide +kernel
def f_X7_flip_56 (P : Nat) (a1 : Int32) (a2 : Int32)  (M : fm_Mem) : Option (Int32 × fm_Mem) := some (((0 : Int32), M))
set_option maxRecDepth 100000 in
set_option maxHeartbeats 4000000 in
theorem t_X7_flip_56 (g : fm_G) (l : Launch) (hl : l.stackTraces = false) (P : Nat) (a1 : Int32) (a2 : Int32) (hP : fm_kd g P = 7) (w : fm_W) (M0 : fm_Mem)    (M : fm_Mem) : Tt g l z_X7_flip (emIw M0 w) (f_X7_flip_56 P a1 a2   M) 56 [] [] (M, w) := by
  rw [f_X7_flip_56]
  refine Tt.go (fun _ => Tr.run 1 (pc' := 57) (lv' := []) (st' := [.int (0 : Int32)]) rfl) ?_
  exact Tt.ret (Tr.iret rfl rfl)
def f_X7_flip_49 (P : Nat) (a1 : Int32) (a2 : Int32) (s0 : Int32) (M : fm_Mem) : Option (Int32 × fm_Mem) := Option.bind (f_X7_right P s0 (2 : Int32) M) (fun v1 => if v1.1 = 0 then (f_X7_flip_56 P a1 a2 v1.2) else (Option.bind (f_X7_change P v1.2) (fun v2 => Option.bind (f_X7_flips P a1 a2 v2) (fun v3 => some ((v3.1, v3.2))))))
set_option maxRecDepth 100000 in
set_option maxHeartbeats 4000000 in
theorem t_X7_flip_49 (g : fm_G) (l : Launch) (hl : l.stackTraces = false) (P : Nat) (a1 : Int32) (a2 : Int32) (hP : fm_kd g P = 7) (w : fm_W) (M0 : fm_Mem)  (s0 : Int32)  (M : fm_Mem) : Tt g l z_X7_flip (emIw M0 w) (f_X7_flip_49 P a1 a2  s0 M) 49 [(0, .ref P), (1, .int a1), (2, .int a2)] [.int s0, .ref P] (M, w) := by
  rw [f_X7_flip_49]
  refine Tt.go (fun _ => Tr.run 1 (pc' := 50) (lv' := [(0, .ref P), (1, .int a1), (2, .int a2)]) (st' := [.int (2 : Int32), .int s0, .ref P]) rfl) ?_
  refine Tt.callV (As := [.int s0, .int (2 : Int32)]) (rest := []) (c_X7_right g l hl P s0 (2 : Int32) hP M w) hP (by decide) rfl rfl cw_X7_right fw1105 pn_X7_right (Nat.le_of_ble_eq_true rfl) (Nat.le_of_ble_eq_true rfl) (Nat.le_of_ble_eq_true rfl) rfl (fun v1 => (?_ : Tt g l z_X7_flip (emIw M0 w) _ 53 [(0, .ref P), (1, .int a1), (2, .int a2)] [.int v1.1] (v1.2, w)))
  refine Tt.if_ne (tgt := 58) rfl (by decide) ?_ ?_
  · refine Tt.go (fun _ => Tr.sub (lv' := []) [] rfl) ?_
    exact t_X7_flip_56 g l hl P a1 a2 hP w M0 v1.2
  · refine Tt.go (fun _ => Tr.run 1 (pc' := 59) (lv' := [(0, .ref P), (1, .int a1), (2, .int a2)]) (st' := [.ref P]) rfl) ?_
    refine Tt.callV (As := []) (rest := []) (c_X7_change g l hl P hP v1.2 w) hP (by decide) rfl rfl cw_X7_change fw1441 pn_X7_change (Nat.le_of_ble_eq_true rfl) (Nat.le_of_ble_eq_true rfl) (Nat.le_of_ble_eq_true rfl) rfl (fun v2 => (?_ : Tt g l z_X7_flip (emIw M0 w) _ 62 [(0, .ref P), (1, .int a1), (2, .int a2)] [] (v2, w)))
    refine Tt.go (fun _ => Tr.run 3 (pc' := 65) (lv' := [(0, .ref P), (1, .int a1), (2, .int a2)]) (st' := [.int a2, .int a1, .ref P]) rfl) ?_
    refine Tt.callV (As := [.int a1, .int a2]) (rest := []) (c_X7_flips g l hl P a1 a2 hP v2 w) hP (by decide) rfl rfl cw_X7_flips fw1239 pn_X7_flips (Nat.le_of_ble_eq_true rfl) (Nat.le_of_ble_eq_true rfl) (Nat.le_of_ble_eq_true rfl) rfl (fun v3 => (?_ : Tt g l z_X7_flip (emIw M0 w) _ 68 [(0, .ref P), (1, .int a1), (2, .int a2)] [.int v3.1] (v3.2, w)))
    exact Tt.ret (Tr.iret rfl rfl)
def f_X7_flip_27 (P : Nat) (a1 : Int32) (a2 : Int32) (s0 : Int32) (M : fm_Mem) : Option (Int32 × fm_Mem) := Option.bind (f_X7_right P s0 (1 : Int32) M) (fun v1 => if v1.1 = 0 then (f_X7_flip_56 P a1 a2 v1.2) else (Option.bind (f_X7_whyNot P a1 a2 v1.2) (fun v2 => if v2.1 = 0 then (f_X7_flip_49 P a1 a2 (1 : Int32) v2.2) else (f_X7_flip_49 P a1 a2 (0 : Int32) v2.2))))
set_option maxRecDepth 100000 in
set_option maxHeartbeats 4000000 in
theorem t_X7_flip_27 (g : fm_G) (l : Launch) (hl : l.stackTraces = false) (P : Nat) (a1 : Int32) (a2 : Int32) (hP : fm_kd g P = 7) (w : fm_W) (M0 : fm_Mem)  (s0 : Int32)  (M : fm_Mem) : Tt g l z_X7_flip (emIw M0 w) (f_X7_flip_27 P a1 a2  s0 M) 27 [(0, .ref P), (1, .int a1), (2, .int a2)] [.int s0, .ref P] (M, w) := by
  rw [f_X7_flip_27]
  refine Tt.go (fun _ => Tr.run 1 (pc' := 28) (lv' := [(0, .ref P), (1, .int a1), (2, .int a2)]) (st' := [.int (1 : Int32), .int s0, .ref P]) rfl) ?_
  refine Tt.callV (As := [.int s0, .int (1 : Int32)]) (rest := []) (c_X7_right g l hl P s0 (1 : Int32) hP M w) hP (by decide) rfl rfl cw_X7_right fw1105 pn_X7_right (Nat.le_of_ble_eq_true rfl) (Nat.le_of_ble_eq_true rfl) (Nat.le_of_ble_eq_true rfl) rfl (fun v1 => (?_ : Tt g l z_X7_flip (emIw M0 w) _ 31 [(0, .ref P), (1, .int a1), (2, .int a2)] [.int v1.1] (v1.2, w)))
  refine Tt.if_eq (tgt := 56) rfl (by decide) ?_ ?_
  · refine Tt.go (fun _ => Tr.sub (lv' := []) [] rfl) ?_
    exact t_X7_flip_56 g l hl P a1 a2 hP w M0 v1.2
  · refine Tt.go (fun _ => Tr.run 4 (pc' := 38) (lv' := [(0, .ref P), (1, .int a1), (2, .int a2)]) (st' := [.int a2, .int a1, .ref P, .ref P]) rfl) ?_
    refine Tt.callV (As := [.int a1, .int a2]) (rest := [.ref P]) (c_X7_whyNot g l hl P a1 a2 hP v1.2 w) hP (by decide) rfl rfl cw_X7_whyNot fw1215 pn_X7_whyNot (Nat.le_of_ble_eq_true rfl) (Nat.le_of_ble_eq_true rfl) (Nat.le_of_ble_eq_true rfl) rfl (fun v2 => (?_ : Tt g l z_X7_flip (emIw M0 w) _ 41 [(0, .ref P), (1, .int a1), (2, .int a2)] [.int v2.1, .ref P] (v2.2, w)))
    refine Tt.if_ne (tgt := 48) rfl (by decide) ?_ ?_
    · refine Tt.go (fun _ => Tr.run 2 (pc' := 49) (lv' := [(0, .ref P), (1, .int a1), (2, .int a2)]) (st' := [.int (1 : Int32), .ref P]) rfl) ?_
      exact t_X7_flip_49 g l hl P a1 a2 hP w M0 (1 : Int32) v2.2
    · refine Tt.go (fun _ => Tr.run 1 (pc' := 49) (lv' := [(0, .ref P), (1, .int a1), (2, .int a2)]) (st' := [.int (0 : Int32), .ref P]) rfl) ?_
      exact t_X7_flip_49 g l hl P a1 a2 hP w M0 (0 : Int32) v2.2
def f_X7_flip_26 (P : Nat) (a1 : Int32) (a2 : Int32)  (M : fm_Mem) : Option (Int32 × fm_Mem) := (f_X7_flip_27 P a1 a2 (0 : Int32) M)
set_option maxRecDepth 100000 in
set_option maxHeartbeats 4000000 in
theorem t_X7_flip_26 (g : fm_G) (l : Launch) (hl : l.stackTraces = false) (P : Nat) (a1 : Int32) (a2 : Int32) (hP : fm_kd g P = 7) (w : fm_W) (M0 : fm_Mem)    (M : fm_Mem) : Tt g l z_X7_flip (emIw M0 w) (f_X7_flip_26 P a1 a2   M) 26 [(0, .ref P), (1, .int a1), (2, .int a2)] [.ref P] (M, w) := by
  rw [f_X7_flip_26]
  refine Tt.go (fun _ => Tr.run 1 (pc' := 27) (lv' := [(0, .ref P), (1, .int a1), (2, .int a2)]) (st' := [.int (0 : Int32), .ref P]) rfl) ?_
  exact t_X7_flip_27 g l hl P a1 a2 hP w M0 (0 : Int32) M
def f_X7_flip (P : Nat) (a1 : Int32) (a2 : Int32) (M : fm_Mem) : Option (Int32 × fm_Mem) := Option.bind (f_X7_isPoint P a1 (fm_up M P 0 (0 : Int32))) (fun v1 => if v1 = 0 then (f_X7_flip_26 P a1 a2 (fm_up M P 0 (0 : Int32))) else (Option.bind (f_X7_isPoint P a2 (fm_up M P 0 (0 : Int32))) (fun v2 => if v2 = 0 then (f_X7_flip_26 P a1 a2 (fm_up M P 0 (0 : Int32))) else (f_X7_flip_27 P a1 a2 (1 : Int32) (fm_up M P 0 (0 : Int32))))))
set_option maxRecDepth 100000 in
set_option maxHeartbeats 4000000 in
theorem t_X7_flip (g : fm_G) (l : Launch) (hl : l.stackTraces = false) (P : Nat) (a1 : Int32) (a2 : Int32) (hP : fm_kd g P = 7) (M : fm_Mem) (w : fm_W) : Tt g l z_X7_flip (emIw M w) (f_X7_flip P a1 a2 M) 0 [(0, .ref P), (1, .int a1), (2, .int a2)] [] (M, w) := by
  rw [f_X7_flip]
  refine Tt.go (fun _ => Tr.run 2 (pc' := 2) (lv' := [(0, .ref P), (1, .int a1), (2, .int a2)]) (st' := [.int (0 : Int32), .ref P]) rfl) ?_
  refine Tt.go (fun _ => Tr.put fmc7 hP rfl fw1024 (k := 0) (by decide) rfl rfl ⟨rfl, rfl⟩) (?_ : Tt g l z_X7_flip (emIw M w) _ 5 [(0, .ref P), (1, .int a1), (2, .int a2)] [] ((fm_up M P 0 (0 : Int32)), w))
  refine Tt.go (fun _ => Tr.run 3 (pc' := 8) (lv' := [(0, .ref P), (1, .int a1), (2, .int a2)]) (st' := [.int a1, .ref P, .ref P]) rfl) ?_
  refine Tt.callV (As := [.int a1]) (rest := [.ref P]) (c_X7_isPoint g l hl P a1 hP (fm_up M P 0 (0 : Int32)) w) hP (by decide) rfl rfl cw_X7_isPoint fw1315 pn_X7_isPoint (Nat.le_of_ble_eq_true rfl) (Nat.le_of_ble_eq_true rfl) (Nat.le_of_ble_eq_true rfl) rfl (fun v1 => (?_ : Tt g l z_X7_flip (emIw M w) _ 11 [(0, .ref P), (1, .int a1), (2, .int a2)] [.int v1, .ref P] ((fm_up M P 0 (0 : Int32)), w)))
  refine Tt.if_eq (tgt := 26) rfl (by decide) ?_ ?_
  · exact t_X7_flip_26 g l hl P a1 a2 hP w M (fm_up M P 0 (0 : Int32))
  · refine Tt.go (fun _ => Tr.run 2 (pc' := 16) (lv' := [(0, .ref P), (1, .int a1), (2, .int a2)]) (st' := [.int a2, .ref P, .ref P]) rfl) ?_
    refine Tt.callV (As := [.int a2]) (rest := [.ref P]) (c_X7_isPoint g l hl P a2 hP (fm_up M P 0 (0 : Int32)) w) hP (by decide) rfl rfl cw_X7_isPoint fw1315 pn_X7_isPoint (Nat.le_of_ble_eq_true rfl) (Nat.le_of_ble_eq_true rfl) (Nat.le_of_ble_eq_true rfl) rfl (fun v2 => (?_ : Tt g l z_X7_flip (emIw M w) _ 19 [(0, .ref P), (1, .int a1), (2, .int a2)] [.int v2, .ref P] ((fm_up M P 0 (0 : Int32)), w)))
    refine Tt.if_eq (tgt := 26) rfl (by decide) ?_ ?_
    · exact t_X7_flip_26 g l hl P a1 a2 hP w M (fm_up M P 0 (0 : Int32))
    · refine Tt.go (fun _ => Tr.run 2 (pc' := 27) (lv' := [(0, .ref P), (1, .int a1), (2, .int a2)]) (st' := [.int (1 : Int32), .ref P]) rfl) ?_
      exact t_X7_flip_27 g l hl P a1 a2 hP w M (1 : Int32) (fm_up M P 0 (0 : Int32))
theorem c_X7_flip (g : fm_G) (l : Launch) (hl : l.stackTraces = false) (P : Nat) (a1 : Int32) (a2 : Int32) (hP : fm_kd g P = 7) (M : fm_Mem) (w : fm_W) : ∀ r, f_X7_flip P a1 a2 M = some r → fC g l z_X7_flip [.ref P, .int a1, .int a2] (M, w) (emIw M w r) := fun r hr => fC.of (by decide) rfl o_X7_flip hl (Nat.le_of_ble_eq_true rfl) (t_X7_flip g l hl P a1 a2 hP M w r hr)
def k_X7_mend : List (Nat × Instr × Nat) := [(0, .aload_n 0, 1), (1, .iconst 0, 1), (2, .putfield 35, 3), (5, .aload_n 0, 1), (6, .iload_n 1, 1), (7, .iconst 1, 1), (8, .sipush 500, 3), (11, .invokestatic 52, 3), (14, .iconst 1, 1), (15, .invokevirtual 252, 3), (18, .ifCond .ne 5, 3), (21, .iconst 0, 1), (22, .ireturn, 1), (23, .aload_n 0, 1), (24, .invokevirtual 335, 3), (27, .iconst 0, 1), (28, .istore_n 2, 1), (29, .aload_n 0, 1), (30, .invokevirtual 307, 3), (33, .istore_n 3, 1), (34, .iload_n 2, 1), (35, .iload_n 1, 1), (36, .if_icmp .ge 42, 3), (39, .iload_n 3, 1), (40, .iconst (-1), 1), (41, .if_icmp .eq 37, 3), (44, .aload_n 0, 1), (45, .iload_n 3, 1), (46, .bipush 100, 2), (48, .idiv, 1), (49, .iload_n 3, 1), (50, .bipush 100, 2), (52, .irem, 1), (53, .invokevirtual 230, 3), (56, .istore 4, 2), (58, .iload 4, 2), (60, .ifCond .lt 10, 3), (63, .aload_n 0, 1), (64, .invokevirtual 307, 3), (67, .goto 4, 3), (70, .iconst (-1), 1), (71, .istore_n 3, 1), (72, .iinc 2 1, 3), (75, .goto (-41), 3), (78, .iload_n 2, 1), (79, .ireturn, 1)]
def z_X7_mend : fm_Y := (yX7_mend, RX7, cX7_mend, 5, (some .int), k_X7_mend, 11, 276)
theorem o_X7_mend : fm_dec z_X7_mend := (by decide +kernel : ∀ q ∈ k_X7_mend, decode cX7_mend q.1 = .ok q.2)
theorem cw_X7_mend : fm_cwV z_X7_mend := ⟨⟨lw_in 1464 (by decide +kernel) (by decide +kernel), lw_in 99 (by decide +kernel) (by decide +kernel), by decide, by decide⟩, lw_in 1462 (by decide +kernel) (by decide +kernel), lw_in 1463 (by decide +kernel) (by decide +kernel)⟩
theorem pn_X7_mend : (parseMethodDescriptor z_X7_mend.1.desc).map (fun d => d.parameters.length) = some 1 := by decide +kernel
def f_X7_mend_78 (P : Nat) (a1 : Int32) (x2 : Int32) (M : fm_Mem) : Option (Int32 × fm_Mem) := some ((x2, M))
set_option maxRecDepth 100000 in
set_option maxHeartbeats 4000000 in
theorem t_X7_mend_78 (g : fm_G) (l : Launch) (hl : l.stackTraces = false) (P : Nat) (a1 : Int32) (hP : fm_kd g P = 7) (w : fm_W) (M0 : fm_Mem)  (x2 : Int32)  (M : fm_Mem) : Tt g l z_X7_mend (emIw M0 w) (f_X7_mend_78 P a1  x2 M) 78 [(2, .int x2)] [] (M, w) := by
  rw [f_X7_mend_78]
  refine Tt.go (fun _ => Tr.run 1 (pc' := 79) (lv' := [(2, .int x2)]) (st' := [.int x2]) rfl) ?_
  exact Tt.ret (Tr.iret rfl rfl)
def f_X7_mend_71 (P : Nat) (a1 : Int32) (k34 : Int32 → Int32 → fm_Mem → Option (Int32 × fm_Mem)) (x2 : Int32) (s0 : Int32) (M : fm_Mem) : Option (Int32 × fm_Mem) := (k34 (x2 + (1 : Int32)) s0 M)
set_option maxRecDepth 100000 in
set_option maxHeartbeats 4000000 in
theorem t_X7_mend_71 (g : fm_G) (l : Launch) (hl : l.stackTraces = false) (P : Nat) (a1 : Int32) (hP : fm_kd g P = 7) (w : fm_W) (M0 : fm_Mem) (k34 : Int32 → Int32 → fm_Mem → Option (Int32 × fm_Mem)) (hk34 : ∀ (x2 : Int32) (x3 : Int32) (M : fm_Mem), Tt g l z_X7_mend (emIw M0 w) (k34 x2 x3 M) 34 [(0, .ref P), (1, .int a1), (2, .int x2), (3, .int x3)] [] (M, w)) (x2 : Int32) (s0 : Int32)  (M : fm_Mem) : Tt g l z_X7_mend (emIw M0 w) (f_X7_mend_71 P a1 k34 x2 s0 M) 71 [(0, .ref P), (1, .int a1), (2, .int x2)] [.int s0] (M, w) := by
  rw [f_X7_mend_71]
  refine Tt.go (fun _ => Tr.run 3 (pc' := 34) (lv' := [(2, .int (x2 + (1 : Int32))), (3, .int s0), (0, .ref P), (1, .int a1)]) (st' := []) rfl) ?_
  refine Tt.go (fun _ => Tr.sub (lv' := [(0, .ref P), (1, .int a1), (2, .int (x2 + (1 : Int32))), (3, .int s0)]) [2, 3, 0, 1] rfl) ?_
  exact hk34 (x2 + (1 : Int32)) s0 M
def f_X7_mend_34 (P : Nat) (a1 : Int32) : Nat → Int32 → Int32 → fm_Mem → Option (Int32 × fm_Mem)
  | 0, _, _, _ => none
  | n + 1, x2, x3, M => if a1 ≤ x2 then (f_X7_mend_78 P a1 x2 M) else (if x3 = (-1 : Int32) then (f_X7_mend_78 P a1 x2 M) else (Option.bind (f_X7_flips P (x3 / (100 : Int32)) (fm_rem x3 (100 : Int32)) M) (fun v1 => if v1.1 < 0 then (f_X7_mend_71 P a1 (fun x2 x3 M => f_X7_mend_34 P a1 n x2 x3 M) x2 (-1 : Int32) v1.2) else (Option.bind (f_X7_firstBad P v1.2) (fun v2 => (f_X7_mend_71 P a1 (fun x2 x3 M => f_X7_mend_34 P a1 n x2 x3 M) x2 v2.1 v2.2))))))
set_option maxRecDepth 100000 in
set_option maxHeartbeats 4000000 in
theorem t_X7_mend_34 (g : fm_G) (l : Launch) (hl : l.stackTraces = false) (P : Nat) (a1 : Int32) (hP : fm_kd g P = 7) (w : fm_W) (M0 : fm_Mem)  : ∀ (n : Nat) (x2 : Int32) (x3 : Int32)  (M : fm_Mem), Tt g l z_X7_mend (emIw M0 w) (f_X7_mend_34 P a1  n x2 x3 M) 34 [(0, .ref P), (1, .int a1), (2, .int x2), (3, .int x3)] [] (M, w) := by
  intro n
  induction n with
  | zero => intros; exact Tt.none
  | succ n ih =>
    intro x2 x3  M
    rw [f_X7_mend_34]
    refine Tt.go (fun _ => Tr.run 2 (pc' := 36) (lv' := [(0, .ref P), (1, .int a1), (2, .int x2), (3, .int x3)]) (st' := [.int a1, .int x2]) rfl) ?_
    refine Tt.ic_ge (tgt := 78) rfl (by decide) ?_ ?_
    · refine Tt.go (fun _ => Tr.sub (lv' := [(2, .int x2)]) [2] rfl) ?_
      exact t_X7_mend_78 g l hl P a1 hP w M0 x2 M
    · refine Tt.go (fun _ => Tr.run 2 (pc' := 41) (lv' := [(0, .ref P), (1, .int a1), (2, .int x2), (3, .int x3)]) (st' := [.int (-1 : Int32), .int x3]) rfl) ?_
      refine Tt.ic_eq (tgt := 78) rfl (by decide) ?_ ?_
      · refine Tt.go (fun _ => Tr.sub (lv' := [(2, .int x2)]) [2] rfl) ?_
        exact t_X7_mend_78 g l hl P a1 hP w M0 x2 M
      · refine Tt.go (fun _ => Tr.run 3 (pc' := 48) (lv' := [(0, .ref P), (1, .int a1), (2, .int x2), (3, .int x3)]) (st' := [.int (100 : Int32), .int x3, .ref P]) rfl) ?_
        refine Tt.go (fun _ => Tr.idiv rfl (by decide)) (?_ : Tt g l z_X7_mend (emIw M0 w) _ 49 [(0, .ref P), (1, .int a1), (2, .int x2), (3, .int x3)] [.int (x3 / (100 : Int32)), .ref P] (M, w))
        refine Tt.go (fun _ => Tr.run 2 (pc' := 52) (lv' := [(0, .ref P), (1, .int a1), (2, .int x2), (3, .int x3)]) (st' := [.int (100 : Int32), .int x3, .int (x3 / (100 : Int32)), .ref P]) rfl) ?_
        refine Tt.go (fun _ => Tr.irem rfl (by decide)) (?_ : Tt g l z_X7_mend (emIw M0 w) _ 53 [(0, .ref P), (1, .int a1), (2, .int x2), (3, .int x3)] [.int (fm_rem x3 (100 : Int32)), .int (x3 / (100 : Int32)), .ref P] (M, w))
        refine Tt.callV (As := [.int (x3 / (100 : Int32)), .int (fm_rem x3 (100 : Int32))]) (rest := []) (c_X7_flips g l hl P (x3 / (100 : Int32)) (fm_rem x3 (100 : Int32)) hP M w) hP (by decide) rfl rfl cw_X7_flips fw1239 pn_X7_flips (Nat.le_of_ble_eq_true rfl) (Nat.le_of_ble_eq_true rfl) (Nat.le_of_ble_eq_true rfl) rfl (fun v1 => (?_ : Tt g l z_X7_mend (emIw M0 w) _ 56 [(0, .ref P), (1, .int a1), (2, .int x2), (3, .int x3)] [.int v1.1] (v1.2, w)))
        refine Tt.go (fun _ => Tr.run 2 (pc' := 60) (lv' := [(4, .int v1.1), (0, .ref P), (1, .int a1), (2, .int x2), (3, .int x3)]) (st' := [.int v1.1]) rfl) ?_
        refine Tt.if_lt (tgt := 70) rfl (by decide) ?_ ?_
        · refine Tt.go (fun _ => Tr.run 1 (pc' := 71) (lv' := [(4, .int v1.1), (0, .ref P), (1, .int a1), (2, .int x2), (3, .int x3)]) (st' := [.int (-1 : Int32)]) rfl) ?_
          refine Tt.go (fun _ => Tr.sub (lv' := [(0, .ref P), (1, .int a1), (2, .int x2)]) [1, 2, 3] rfl) ?_
          exact t_X7_mend_71 g l hl P a1 hP w M0 _ ih x2 (-1 : Int32) v1.2
        · refine Tt.go (fun _ => Tr.run 1 (pc' := 64) (lv' := [(4, .int v1.1), (0, .ref P), (1, .int a1), (2, .int x2), (3, .int x3)]) (st' := [.ref P]) rfl) ?_
          refine Tt.callV (As := []) (rest := []) (c_X7_firstBad g l hl P hP v1.2 w) hP (by decide) rfl rfl cw_X7_firstBad fw1370 pn_X7_firstBad (Nat.le_of_ble_eq_true rfl) (Nat.le_of_ble_eq_true rfl) (Nat.le_of_ble_eq_true rfl) rfl (fun v2 => (?_ : Tt g l z_X7_mend (emIw M0 w) _ 67 [(4, .int v1.1), (0, .ref P), (1, .int a1), (2, .int x2), (3, .int x3)] [.int v2.1] (v2.2, w)))
          refine Tt.go (fun _ => Tr.run 1 (pc' := 71) (lv' := [(4, .int v1.1), (0, .ref P), (1, .int a1), (2, .int x2), (3, .int x3)]) (st' := [.int v2.1]) rfl) ?_
          refine Tt.go (fun _ => Tr.sub (lv' := [(0, .ref P), (1, .int a1), (2, .int x2)]) [1, 2, 3] rfl) ?_
          exact t_X7_mend_71 g l hl P a1 hP w M0 _ ih x2 v2.1 v2.2
def f_X7_mend (P : Nat) (a1 : Int32) (M : fm_Mem) : Option (Int32 × fm_Mem) := Option.bind (f_X7_isIn a1 (1 : Int32) (500 : Int32) (fm_up M P 0 (0 : Int32))) (fun v1 => Option.bind (f_X7_right P v1 (1 : Int32) (fm_up M P 0 (0 : Int32))) (fun v2 => if v2.1 = 0 then (some (((0 : Int32), v2.2))) else (Option.bind (f_X7_change P v2.2) (fun v3 => Option.bind (f_X7_firstBad P v3) (fun v4 => (f_X7_mend_34 P a1 fm_fuel (0 : Int32) v4.1 v4.2))))))
set_option maxRecDepth 100000 in
set_option maxHeartbeats 4000000 in
theorem t_X7_mend (g : fm_G) (l : Launch) (hl : l.stackTraces = false) (P : Nat) (a1 : Int32) (hP : fm_kd g P = 7) (M : fm_Mem) (w : fm_W) : Tt g l z_X7_mend (emIw M w) (f_X7_mend P a1 M) 0 [(0, .ref P), (1, .int a1)] [] (M, w) := by
  rw [f_X7_mend]
  refine Tt.go (fun _ => Tr.run 2 (pc' := 2) (lv' := [(0, .ref P), (1, .int a1)]) (st' := [.int (0 : Int32), .ref P]) rfl) ?_
  refine Tt.go (fun _ => Tr.put fmc7 hP rfl fw1024 (k := 0) (by decide) rfl rfl ⟨rfl, rfl⟩) (?_ : Tt g l z_X7_mend (emIw M w) _ 5 [(0, .ref P), (1, .int a1)] [] ((fm_up M P 0 (0 : Int32)), w))
  refine Tt.go (fun _ => Tr.run 4 (pc' := 11) (lv' := [(0, .ref P), (1, .int a1)]) (st' := [.int (500 : Int32), .int (1 : Int32), .int a1, .ref P]) rfl) ?_
  refine Tt.callS (As := [.int a1, .int (1 : Int32), .int (500 : Int32)]) (rest := [.ref P]) (c_X7_isIn g l hl a1 (1 : Int32) (500 : Int32) (fm_up M P 0 (0 : Int32)) w) rfl cw_X7_isIn fw1102 pn_X7_isIn (Nat.le_of_ble_eq_true rfl) (Nat.le_of_ble_eq_true rfl) (Nat.le_of_ble_eq_true rfl) rfl (fun v1 => (?_ : Tt g l z_X7_mend (emIw M w) _ 14 [(0, .ref P), (1, .int a1)] [.int v1, .ref P] ((fm_up M P 0 (0 : Int32)), w)))
  refine Tt.go (fun _ => Tr.run 1 (pc' := 15) (lv' := [(0, .ref P), (1, .int a1)]) (st' := [.int (1 : Int32), .int v1, .ref P]) rfl) ?_
  refine Tt.callV (As := [.int v1, .int (1 : Int32)]) (rest := []) (c_X7_right g l hl P v1 (1 : Int32) hP (fm_up M P 0 (0 : Int32)) w) hP (by decide) rfl rfl cw_X7_right fw1105 pn_X7_right (Nat.le_of_ble_eq_true rfl) (Nat.le_of_ble_eq_true rfl) (Nat.le_of_ble_eq_true rfl) rfl (fun v2 => (?_ : Tt g l z_X7_mend (emIw M w) _ 18 [(0, .ref P), (1, .int a1)] [.int v2.1] (v2.2, w)))
  refine Tt.if_ne (tgt := 23) rfl (by decide) ?_ ?_
  · refine Tt.go (fun _ => Tr.run 1 (pc' := 22) (lv' := [(0, .ref P), (1, .int a1)]) (st' := [.int (0 : Int32)]) rfl) ?_
    exact Tt.ret (Tr.iret rfl rfl)
  · refine Tt.go (fun _ => Tr.run 1 (pc' := 24) (lv' := [(0, .ref P), (1, .int a1)]) (st' := [.ref P]) rfl) ?_
    refine Tt.callV (As := []) (rest := []) (c_X7_change g l hl P hP v2.2 w) hP (by decide) rfl rfl cw_X7_change fw1441 pn_X7_change (Nat.le_of_ble_eq_true rfl) (Nat.le_of_ble_eq_true rfl) (Nat.le_of_ble_eq_true rfl) rfl (fun v3 => (?_ : Tt g l z_X7_mend (emIw M w) _ 27 [(0, .ref P), (1, .int a1)] [] (v3, w)))
    refine Tt.go (fun _ => Tr.run 3 (pc' := 30) (lv' := [(2, .int (0 : Int32)), (0, .ref P), (1, .int a1)]) (st' := [.ref P]) rfl) ?_
    refine Tt.callV (As := []) (rest := []) (c_X7_firstBad g l hl P hP v3 w) hP (by decide) rfl rfl cw_X7_firstBad fw1370 pn_X7_firstBad (Nat.le_of_ble_eq_true rfl) (Nat.le_of_ble_eq_true rfl) (Nat.le_of_ble_eq_true rfl) rfl (fun v4 => (?_ : Tt g l z_X7_mend (emIw M w) _ 33 [(2, .int (0 : Int32)), (0, .ref P), (1, .int a1)] [.int v4.1] (v4.2, w)))
    refine Tt.go (fun _ => Tr.run 1 (pc' := 34) (lv' := [(3, .int v4.1), (2, .int (0 : Int32)), (0, .ref P), (1, .int a1)]) (st' := []) rfl) ?_
    refine Tt.go (fun _ => Tr.sub (lv' := [(0, .ref P), (1, .int a1), (2, .int (0 : Int32)), (3, .int v4.1)]) [2, 3, 1, 0] rfl) ?_
    exact t_X7_mend_34 g l hl P a1 hP w M fm_fuel (0 : Int32) v4.1 v4.2
theorem c_X7_mend (g : fm_G) (l : Launch) (hl : l.stackTraces = false) (P : Nat) (a1 : Int32) (hP : fm_kd g P = 7) (M : fm_Mem) (w : fm_W) : ∀ r, f_X7_mend P a1 M = some r → fC g l z_X7_mend [.ref P, .int a1] (M, w) (emIw M w r) := fun r hr => fC.of (by decide) rfl o_X7_mend hl (Nat.le_of_ble_eq_true rfl) (t_X7_mend g l hl P a1 hP M w r hr)
def k_X7_undo : List (Nat × Instr × Nat) := [(0, .aload_n 0, 1), (1, .iconst 0, 1), (2, .putfield 35, 3), (5, .aload_n 0, 1), (6, .getfield 45, 3), (9, .ifCond .ne 5, 3), (12, .iconst (-1), 1), (13, .ireturn, 1), (14, .aload_n 0, 1), (15, .dup, 1), (16, .getfield 45, 3), (19, .iconst 1, 1), (20, .isub, 1), (21, .putfield 45, 3), (24, .aload_n 0, 1), (25, .aload_n 0, 1), (26, .getfield 38, 3), (29, .bipush 9, 2), (31, .iadd, 1), (32, .iconst 1, 1), (33, .isub, 1), (34, .bipush 9, 2), (36, .irem, 1), (37, .putfield 38, 3), (40, .aload_n 0, 1), (41, .getfield 45, 3), (44, .ireturn, 1)]
def z_X7_undo : fm_Y := (yX7_undo, RX7, cX7_undo, 1, (some .int), k_X7_undo, 0, 0)
theorem o_X7_undo : fm_dec z_X7_undo := (by decide +kernel : ∀ q ∈ k_X7_undo, decode cX7_undo q.1 = .ok q.2)
theorem cw_X7_undo : fm_cwV z_X7_undo := ⟨⟨lw_in 1468 (by decide +kernel) (by decide +kernel), lw_in 99 (by decide +kernel) (by decide +kernel), by decide, by decide⟩, lw_in 1466 (by decide +kernel) (by decide +kernel), lw_in 1467 (by decide +kernel) (by decide +kernel)⟩
theorem pn_X7_undo : (parseMethodDescriptor z_X7_undo.1.desc).map (fun d => d.parameters.length) = some 0 := by decide +kernel
def f_X7_undo (P : Nat) (M : fm_Mem) : Option (Int32 × fm_Mem) := if ((fm_up M P 0 (0 : Int32)) P 4) = 0 then (some (((-1 : Int32), (fm_up M P 0 (0 : Int32))))) else (some ((((fm_up (fm_up (fm_up M P 0 (0 : Int32)) P 4 (((fm_up M P 0 (0 : Int32)) P 4) - (1 : Int32))) P 3 (fm_rem ((((fm_up (fm_up M P 0 (0 : Int32)) P 4 (((fm_up M P 0 (0 : Int32)) P 4) - (1 : Int32))) P 3) + (9 : Int32)) - (1 : Int32)) (9 : Int32))) P 4), (fm_up (fm_up (fm_up M P 0 (0 : Int32)) P 4 (((fm_up M P 0 (0 : Int32)) P 4) - (1 : Int32))) P 3 (fm_rem ((((fm_up (fm_up M P 0 (0 : Int32)) P 4 (((fm_up M P 0 (0 : Int32)) P 4) - (1 : Int32))) P 3) + (9 : Int32)) - (1 : Int32)) (9 : Int32))))))
set_option maxRecDepth 100000 in
set_option maxHeartbeats 4000000 in
theorem t_X7_undo (g : fm_G) (l : Launch) (hl : l.stackTraces = false) (P : Nat) (hP : fm_kd g P = 7) (M : fm_Mem) (w : fm_W) : Tt g l z_X7_undo (emIw M w) (f_X7_undo P M) 0 [(0, .ref P)] [] (M, w) := by
  rw [f_X7_undo]
  refine Tt.go (fun _ => Tr.run 2 (pc' := 2) (lv' := [(0, .ref P)]) (st' := [.int (0 : Int32), .ref P]) rfl) ?_
  refine Tt.go (fun _ => Tr.put fmc7 hP rfl fw1024 (k := 0) (by decide) rfl rfl ⟨rfl, rfl⟩) (?_ : Tt g l z_X7_undo (emIw M w) _ 5 [(0, .ref P)] [] ((fm_up M P 0 (0 : Int32)), w))
  refine Tt.go (fun _ => Tr.run 1 (pc' := 6) (lv' := [(0, .ref P)]) (st' := [.ref P]) rfl) ?_
  refine Tt.go (fun _ => Tr.get fmc7 hP rfl fw1028 (k := 4) (by decide) rfl) (?_ : Tt g l z_X7_undo (emIw M w) _ 9 [(0, .ref P)] [.int ((fm_up M P 0 (0 : Int32)) P 4)] ((fm_up M P 0 (0 : Int32)), w))
  refine Tt.if_ne (tgt := 14) rfl (by decide) ?_ ?_
  · refine Tt.go (fun _ => Tr.run 1 (pc' := 13) (lv' := [(0, .ref P)]) (st' := [.int (-1 : Int32)]) rfl) ?_
    exact Tt.ret (Tr.iret rfl rfl)
  · refine Tt.go (fun _ => Tr.run 2 (pc' := 16) (lv' := [(0, .ref P)]) (st' := [.ref P, .ref P]) rfl) ?_
    refine Tt.go (fun _ => Tr.get fmc7 hP rfl fw1028 (k := 4) (by decide) rfl) (?_ : Tt g l z_X7_undo (emIw M w) _ 19 [(0, .ref P)] [.int ((fm_up M P 0 (0 : Int32)) P 4), .ref P] ((fm_up M P 0 (0 : Int32)), w))
    refine Tt.go (fun _ => Tr.run 2 (pc' := 21) (lv' := [(0, .ref P)]) (st' := [.int (((fm_up M P 0 (0 : Int32)) P 4) - (1 : Int32)), .ref P]) rfl) ?_
    refine Tt.go (fun _ => Tr.put fmc7 hP rfl fw1028 (k := 4) (by decide) rfl rfl ⟨rfl, rfl⟩) (?_ : Tt g l z_X7_undo (emIw M w) _ 24 [(0, .ref P)] [] ((fm_up (fm_up M P 0 (0 : Int32)) P 4 (((fm_up M P 0 (0 : Int32)) P 4) - (1 : Int32))), w))
    refine Tt.go (fun _ => Tr.run 2 (pc' := 26) (lv' := [(0, .ref P)]) (st' := [.ref P, .ref P]) rfl) ?_
    refine Tt.go (fun _ => Tr.get fmc7 hP rfl fw1027 (k := 3) (by decide) rfl) (?_ : Tt g l z_X7_undo (emIw M w) _ 29 [(0, .ref P)] [.int ((fm_up (fm_up M P 0 (0 : Int32)) P 4 (((fm_up M P 0 (0 : Int32)) P 4) - (1 : Int32))) P 3), .ref P] ((fm_up (fm_up M P 0 (0 : Int32)) P 4 (((fm_up M P 0 (0 : Int32)) P 4) - (1 : Int32))), w))
    refine Tt.go (fun _ => Tr.run 5 (pc' := 36) (lv' := [(0, .ref P)]) (st' := [.int (9 : Int32), .int ((((fm_up (fm_up M P 0 (0 : Int32)) P 4 (((fm_up M P 0 (0 : Int32)) P 4) - (1 : Int32))) P 3) + (9 : Int32)) - (1 : Int32)), .ref P]) rfl) ?_
    refine Tt.go (fun _ => Tr.irem rfl (by decide)) (?_ : Tt g l z_X7_undo (emIw M w) _ 37 [(0, .ref P)] [.int (fm_rem ((((fm_up (fm_up M P 0 (0 : Int32)) P 4 (((fm_up M P 0 (0 : Int32)) P 4) - (1 : Int32))) P 3) + (9 : Int32)) - (1 : Int32)) (9 : Int32)), .ref P] ((fm_up (fm_up M P 0 (0 : Int32)) P 4 (((fm_up M P 0 (0 : Int32)) P 4) - (1 : Int32))), w))
    refine Tt.go (fun _ => Tr.put fmc7 hP rfl fw1027 (k := 3) (by decide) rfl rfl ⟨rfl, rfl⟩) (?_ : Tt g l z_X7_undo (emIw M w) _ 40 [(0, .ref P)] [] ((fm_up (fm_up (fm_up M P 0 (0 : Int32)) P 4 (((fm_up M P 0 (0 : Int32)) P 4) - (1 : Int32))) P 3 (fm_rem ((((fm_up (fm_up M P 0 (0 : Int32)) P 4 (((fm_up M P 0 (0 : Int32)) P 4) - (1 : Int32))) P 3) + (9 : Int32)) - (1 : Int32)) (9 : Int32))), w))
    refine Tt.go (fun _ => Tr.run 1 (pc' := 41) (lv' := [(0, .ref P)]) (st' := [.ref P]) rfl) ?_
    refine Tt.go (fun _ => Tr.get fmc7 hP rfl fw1028 (k := 4) (by decide) rfl) (?_ : Tt g l z_X7_undo (emIw M w) _ 44 [(0, .ref P)] [.int ((fm_up (fm_up (fm_up M P 0 (0 : Int32)) P 4 (((fm_up M P 0 (0 : Int32)) P 4) - (1 : Int32))) P 3 (fm_rem ((((fm_up (fm_up M P 0 (0 : Int32)) P 4 (((fm_up M P 0 (0 : Int32)) P 4) - (1 : Int32))) P 3) + (9 : Int32)) - (1 : Int32)) (9 : Int32))) P 4)] ((fm_up (fm_up (fm_up M P 0 (0 : Int32)) P 4 (((fm_up M P 0 (0 : Int32)) P 4) - (1 : Int32))) P 3 (fm_rem ((((fm_up (fm_up M P 0 (0 : Int32)) P 4 (((fm_up M P 0 (0 : Int32)) P 4) - (1 : Int32))) P 3) + (9 : Int32)) - (1 : Int32)) (9 : Int32))), w))
    exact Tt.ret (Tr.iret rfl rfl)
theorem c_X7_undo (g : fm_G) (l : Launch) (hl : l.stackTraces = false) (P : Nat) (hP : fm_kd g P = 7) (M : fm_Mem) (w : fm_W) : ∀ r, f_X7_undo P M = some r → fC g l z_X7_undo [.ref P] (M, w) (emIw M w r) := fun r hr => fC.of (by decide) rfl o_X7_undo hl (Nat.le_of_ble_eq_true rfl) (t_X7_undo g l hl P hP M w r hr)
def k_X7_joins : List (Nat × Instr × Nat) := [(0, .ldc2_w 341, 3), (3, .lload_n 0, 1), (4, .lmul, 1), (5, .lload_n 2, 1), (6, .ladd, 1), (7, .lreturn, 1)]
def z_X7_joins : fm_Y := (yX7_joins, RX7, cX7_joins, 4, (some .long), k_X7_joins, 0, 0)
theorem o_X7_joins : fm_dec z_X7_joins := (by decide +kernel : ∀ q ∈ k_X7_joins, decode cX7_joins q.1 = .ok q.2)
theorem cw_X7_joins : fm_cwS z_X7_joins := ⟨⟨lw_in 1475 (by decide +kernel) (by decide +kernel), lw_in 99 (by decide +kernel) (by decide +kernel), by decide, by decide⟩, lw_in 1474 (by decide +kernel) (by decide +kernel)⟩
theorem pn_X7_joins : (parseMethodDescriptor z_X7_joins.1.desc).map (fun d => d.parameters.length) = some 2 := by decide +kernel
def f_X7_joins (a0 : Int64) (a2 : Int64) (M : fm_Mem) : Option (Int64) := some ((((31 : Int64) * a0) + a2))
set_option maxRecDepth 100000 in
set_option maxHeartbeats 4000000 in
theorem t_X7_joins (g : fm_G) (l : Launch) (hl : l.stackTraces = false) (a0 : Int64) (a2 : Int64)  (M : fm_Mem) (w : fm_W) : Tt g l z_X7_joins (emJ M w) (f_X7_joins a0 a2 M) 0 [(0, .long a0), (2, .long a2)] [] (M, w) := by
  rw [f_X7_joins]
  refine Tt.go (fun _ => Tr.ldcL rfl fw1476) (?_ : Tt g l z_X7_joins (emJ M w) _ 3 [(0, .long a0), (2, .long a2)] [.long (31 : Int64)] (M, w))
  refine Tt.go (fun _ => Tr.run 4 (pc' := 7) (lv' := [(0, .long a0), (2, .long a2)]) (st' := [.long (((31 : Int64) * a0) + a2)]) rfl) ?_
  exact Tt.ret (Tr.lret rfl rfl)
theorem c_X7_joins (g : fm_G) (l : Launch) (hl : l.stackTraces = false) (a0 : Int64) (a2 : Int64)  (M : fm_Mem) (w : fm_W) : ∀ r, f_X7_joins a0 a2 M = some r → fC g l z_X7_joins [.long a0, .long a2] (M, w) (emJ M w r) := fun r hr => fC.of (by decide) rfl o_X7_joins hl (Nat.le_of_ble_eq_true rfl) (t_X7_joins g l hl a0 a2  M w r hr)
def k_X7_checksum : List (Nat × Instr × Nat) := [(0, .aload_n 0, 1), (1, .iconst 0, 1), (2, .putfield 35, 3), (5, .lconst 0, 1), (6, .lstore_n 1, 1), (7, .iconst 0, 1), (8, .istore_n 3, 1), (9, .iload_n 3, 1), (10, .bipush 12, 2), (12, .if_icmp .ge 30, 3), (15, .iload_n 3, 1), (16, .bipush 9, 2), (18, .if_icmp .ne 7, 3), (21, .lload_n 1, 1), (22, .goto 13, 3), (25, .lload_n 1, 1), (26, .aload_n 0, 1), (27, .iload_n 3, 1), (28, .invokevirtual 290, 3), (31, .i2l, 1), (32, .invokestatic 343, 3), (35, .lstore_n 1, 1), (36, .iinc 3 1, 3), (39, .goto (-30), 3), (42, .iconst 0, 1), (43, .istore_n 3, 1), (44, .iload_n 3, 1), (45, .aload_n 0, 1), (46, .invokevirtual 48, 3), (49, .if_icmp .ge 38, 3), (52, .iconst 0, 1), (53, .istore 4, 2), (55, .iload 4, 2), (57, .bipush 7, 2), (59, .if_icmp .ge 22, 3), (62, .lload_n 1, 1), (63, .aload_n 0, 1), (64, .iload_n 3, 1), (65, .iload 4, 2), (67, .invokevirtual 296, 3), (70, .i2l, 1), (71, .invokestatic 343, 3), (74, .lstore_n 1, 1), (75, .iinc 4 1, 3), (78, .goto (-23), 3), (81, .iinc 3 1, 3), (84, .goto (-40), 3), (87, .iconst 0, 1), (88, .istore_n 3, 1), (89, .iload_n 3, 1), (90, .iconst 2, 1), (91, .if_icmp .ge 77, 3), (94, .iconst 0, 1), (95, .istore 4, 2), (97, .iload 4, 2), (99, .aload_n 0, 1), (100, .iload_n 3, 1), (101, .iconst 1, 1), (102, .if_icmp .ne 7, 3), (105, .iconst 1, 1), (106, .goto 4, 3), (109, .iconst 0, 1), (110, .invokevirtual 107, 3), (113, .if_icmp .ge 49, 3), (116, .iconst 0, 1), (117, .istore 5, 2), (119, .iload 5, 2), (121, .bipush 7, 2), (123, .if_icmp .ge 33, 3), (126, .lload_n 1, 1), (127, .aload_n 0, 1), (128, .iload 4, 2), (130, .iload_n 3, 1), (131, .iconst 1, 1), (132, .if_icmp .ne 7, 3), (135, .iconst 1, 1), (136, .goto 4, 3), (139, .iconst 0, 1), (140, .iload 5, 2), (142, .invokevirtual 303, 3), (145, .i2l, 1), (146, .invokestatic 343, 3), (149, .lstore_n 1, 1), (150, .iinc 5 1, 3), (153, .goto (-34), 3), (156, .iinc 4 1, 3), (159, .goto (-62), 3), (162, .iinc 3 1, 3), (165, .goto (-76), 3), (168, .lload_n 1, 1), (169, .aload_n 0, 1), (170, .invokevirtual 320, 3), (173, .invokestatic 343, 3), (176, .aload_n 0, 1), (177, .invokevirtual 324, 3), (180, .invokestatic 343, 3), (183, .lreturn, 1)]
def z_X7_checksum : fm_Y := (yX7_checksum, RX7, cX7_checksum, 6, (some .long), k_X7_checksum, 12, 300)
theorem o_X7_checksum : fm_dec z_X7_checksum := (by decide +kernel : ∀ q ∈ k_X7_checksum, decode cX7_checksum q.1 = .ok q.2)
theorem cw_X7_checksum : fm_cwV z_X7_checksum := ⟨⟨lw_in 1472 (by decide +kernel) (by decide +kernel), lw_in 99 (by decide +kernel) (by decide +kernel), by decide, by decide⟩, lw_in 1470 (by decide +kernel) (by decide +kernel), lw_in 1471 (by decide +kernel) (by decide +kernel)⟩
theorem pn_X7_checksum : (parseMethodDescriptor z_X7_checksum.1.desc).map (fun d => d.parameters.length) = some 0 := by decide +kernel
def f_X7_checksum_140 (P : Nat) (k89 : Int64 → Int32 → fm_Mem → Option (Int64 × fm_Mem)) (k97 : Int64 → Int32 → Int32 → fm_Mem → Option (Int64 × fm_Mem)) (k119 : Int64 → Int32 → Int32 → Int32 → fm_Mem → Option (Int64 × fm_Mem)) (x3 : Int32) (x4 : Int32) (x5 : Int32) (s0 : Int32) (s1 : Int32) (s3 : Int64) (M : fm_Mem) : Option (Int64 × fm_Mem) := Option.bind (f_X7_toldOfTriangle P s1 s0 x5 M) (fun v1 => Option.bind (f_X7_joins s3 (Int32.toInt64 v1.1) v1.2) (fun v2 => (k119 v2 x3 x4 (x5 + (1 : Int32)) v1.2)))
set_option maxRecDepth 100000 in
set_option maxHeartbeats 4000000 in
theorem t_X7_checksum_140 (g : fm_G) (l : Launch) (hl : l.stackTraces = false) (P : Nat) (hP : fm_kd g P = 7) (w : fm_W) (M0 : fm_Mem) (k89 : Int64 → Int32 → fm_Mem → Option (Int64 × fm_Mem)) (hk89 : ∀ (x1 : Int64) (x3 : Int32) (M : fm_Mem), Tt g l z_X7_checksum (emJw M0 w) (k89 x1 x3 M) 89 [(0, .ref P), (1, .long x1), (3, .int x3)] [] (M, w)) (k97 : Int64 → Int32 → Int32 → fm_Mem → Option (Int64 × fm_Mem)) (hk97 : ∀ (x1 : Int64) (x3 : Int32) (x4 : Int32) (M : fm_Mem), Tt g l z_X7_checksum (emJw M0 w) (k97 x1 x3 x4 M) 97 [(0, .ref P), (1, .long x1), (3, .int x3), (4, .int x4)] [] (M, w)) (k119 : Int64 → Int32 → Int32 → Int32 → fm_Mem → Option (Int64 × fm_Mem)) (hk119 : ∀ (x1 : Int64) (x3 : Int32) (x4 : Int32) (x5 : Int32) (M : fm_Mem), Tt g l z_X7_checksum (emJw M0 w) (k119 x1 x3 x4 x5 M) 119 [(0, .ref P), (1, .long x1), (3, .int x3), (4, .int x4), (5, .int x5)] [] (M, w)) (x3 : Int32) (x4 : Int32) (x5 : Int32) (s0 : Int32) (s1 : Int32) (s3 : Int64)  (M : fm_Mem) : Tt g l z_X7_checksum (emJw M0 w) (f_X7_checksum_140 P k89 k97 k119 x3 x4 x5 s0 s1 s3 M) 140 [(0, .ref P), (3, .int x3), (4, .int x4), (5, .int x5)] [.int s0, .int s1, .ref P, .long s3] (M, w) := by
  rw [f_X7_checksum_140]
  refine Tt.go (fun _ => Tr.run 1 (pc' := 142) (lv' := [(0, .ref P), (3, .int x3), (4, .int x4), (5, .int x5)]) (st' := [.int x5, .int s0, .int s1, .ref P, .long s3]) rfl) ?_
  refine Tt.callV (As := [.int s1, .int s0, .int x5]) (rest := [.long s3]) (c_X7_toldOfTriangle g l hl P s1 s0 x5 hP M w) hP (by decide) rfl rfl cw_X7_toldOfTriangle fw1343 pn_X7_toldOfTriangle (Nat.le_of_ble_eq_true rfl) (Nat.le_of_ble_eq_true rfl) (Nat.le_of_ble_eq_true rfl) rfl (fun v1 => (?_ : Tt g l z_X7_checksum (emJw M0 w) _ 145 [(0, .ref P), (3, .int x3), (4, .int x4), (5, .int x5)] [.int v1.1, .long s3] (v1.2, w)))
  refine Tt.go (fun _ => Tr.run 1 (pc' := 146) (lv' := [(0, .ref P), (3, .int x3), (4, .int x4), (5, .int x5)]) (st' := [.long (Int32.toInt64 v1.1), .long s3]) rfl) ?_
  refine Tt.callS (As := [.long s3, .long (Int32.toInt64 v1.1)]) (rest := []) (c_X7_joins g l hl s3 (Int32.toInt64 v1.1) v1.2 w) rfl cw_X7_joins fw1473 pn_X7_joins (Nat.le_of_ble_eq_true rfl) (Nat.le_of_ble_eq_true rfl) (Nat.le_of_ble_eq_true rfl) rfl (fun v2 => (?_ : Tt g l z_X7_checksum (emJw M0 w) _ 149 [(0, .ref P), (3, .int x3), (4, .int x4), (5, .int x5)] [.long v2] (v1.2, w)))
  refine Tt.go (fun _ => Tr.run 3 (pc' := 119) (lv' := [(5, .int (x5 + (1 : Int32))), (1, .long v2), (0, .ref P), (3, .int x3), (4, .int x4)]) (st' := []) rfl) ?_
  refine Tt.go (fun _ => Tr.sub (lv' := [(0, .ref P), (1, .long v2), (3, .int x3), (4, .int x4), (5, .int (x5 + (1 : Int32)))]) [2, 1, 3, 4, 0] rfl) ?_
  exact hk119 v2 x3 x4 (x5 + (1 : Int32)) v1.2
def f_X7_checksum_119 (P : Nat) (k89 : Int64 → Int32 → fm_Mem → Option (Int64 × fm_Mem)) (k97 : Int64 → Int32 → Int32 → fm_Mem → Option (Int64 × fm_Mem)) : Nat → Int64 → Int32 → Int32 → Int32 → fm_Mem → Option (Int64 × fm_Mem)
  | 0, _, _, _, _, _ => none
  | n + 1, x1, x3, x4, x5, M => if (7 : Int32) ≤ x5 then (k97 x1 x3 (x4 + (1 : Int32)) M) else (if x3 = (1 : Int32) then (f_X7_checksum_140 P k89 k97 (fun x1 x3 x4 x5 M => f_X7_checksum_119 P k89 k97 n x1 x3 x4 x5 M) x3 x4 x5 (1 : Int32) x4 x1 M) else (f_X7_checksum_140 P k89 k97 (fun x1 x3 x4 x5 M => f_X7_checksum_119 P k89 k97 n x1 x3 x4 x5 M) x3 x4 x5 (0 : Int32) x4 x1 M))
set_option maxRecDepth 100000 in
set_option maxHeartbeats 4000000 in
theorem t_X7_checksum_119 (g : fm_G) (l : Launch) (hl : l.stackTraces = false) (P : Nat) (hP : fm_kd g P = 7) (w : fm_W) (M0 : fm_Mem) (k89 : Int64 → Int32 → fm_Mem → Option (Int64 × fm_Mem)) (hk89 : ∀ (x1 : Int64) (x3 : Int32) (M : fm_Mem), Tt g l z_X7_checksum (emJw M0 w) (k89 x1 x3 M) 89 [(0, .ref P), (1, .long x1), (3, .int x3)] [] (M, w)) (k97 : Int64 → Int32 → Int32 → fm_Mem → Option (Int64 × fm_Mem)) (hk97 : ∀ (x1 : Int64) (x3 : Int32) (x4 : Int32) (M : fm_Mem), Tt g l z_X7_checksum (emJw M0 w) (k97 x1 x3 x4 M) 97 [(0, .ref P), (1, .long x1), (3, .int x3), (4, .int x4)] [] (M, w)) : ∀ (n : Nat) (x1 : Int64) (x3 : Int32) (x4 : Int32) (x5 : Int32)  (M : fm_Mem), Tt g l z_X7_checksum (emJw M0 w) (f_X7_checksum_119 P k89 k97 n x1 x3 x4 x5 M) 119 [(0, .ref P), (1, .long x1), (3, .int x3), (4, .int x4), (5, .int x5)] [] (M, w) := by
  intro n
  induction n with
  | zero => intros; exact Tt.none
  | succ n ih =>
    intro x1 x3 x4 x5  M
    rw [f_X7_checksum_119]
    refine Tt.go (fun _ => Tr.run 2 (pc' := 123) (lv' := [(0, .ref P), (1, .long x1), (3, .int x3), (4, .int x4), (5, .int x5)]) (st' := [.int (7 : Int32), .int x5]) rfl) ?_
    refine Tt.ic_ge (tgt := 156) rfl (by decide) ?_ ?_
    · refine Tt.go (fun _ => Tr.run 2 (pc' := 97) (lv' := [(4, .int (x4 + (1 : Int32))), (0, .ref P), (1, .long x1), (3, .int x3), (5, .int x5)]) (st' := []) rfl) ?_
      refine Tt.go (fun _ => Tr.sub (lv' := [(0, .ref P), (1, .long x1), (3, .int x3), (4, .int (x4 + (1 : Int32)))]) [1, 2, 3, 0] rfl) ?_
      exact hk97 x1 x3 (x4 + (1 : Int32)) M
    · refine Tt.go (fun _ => Tr.run 5 (pc' := 132) (lv' := [(0, .ref P), (1, .long x1), (3, .int x3), (4, .int x4), (5, .int x5)]) (st' := [.int (1 : Int32), .int x3, .int x4, .ref P, .long x1]) rfl) ?_
      refine Tt.ic_ne (tgt := 139) rfl (by decide) ?_ ?_
      · refine Tt.go (fun _ => Tr.run 2 (pc' := 140) (lv' := [(0, .ref P), (1, .long x1), (3, .int x3), (4, .int x4), (5, .int x5)]) (st' := [.int (1 : Int32), .int x4, .ref P, .long x1]) rfl) ?_
        refine Tt.go (fun _ => Tr.sub (lv' := [(0, .ref P), (3, .int x3), (4, .int x4), (5, .int x5)]) [0, 2, 3, 4] rfl) ?_
        exact t_X7_checksum_140 g l hl P hP w M0 k89 hk89 k97 hk97 _ ih x3 x4 x5 (1 : Int32) x4 x1 M
      · refine Tt.go (fun _ => Tr.run 1 (pc' := 140) (lv' := [(0, .ref P), (1, .long x1), (3, .int x3), (4, .int x4), (5, .int x5)]) (st' := [.int (0 : Int32), .int x4, .ref P, .long x1]) rfl) ?_
        refine Tt.go (fun _ => Tr.sub (lv' := [(0, .ref P), (3, .int x3), (4, .int x4), (5, .int x5)]) [0, 2, 3, 4] rfl) ?_
        exact t_X7_checksum_140 g l hl P hP w M0 k89 hk89 k97 hk97 _ ih x3 x4 x5 (0 : Int32) x4 x1 M
def f_X7_checksum_110 (P : Nat) (k89 : Int64 → Int32 → fm_Mem → Option (Int64 × fm_Mem)) (k97 : Int64 → Int32 → Int32 → fm_Mem → Option (Int64 × fm_Mem)) (x1 : Int64) (x3 : Int32) (x4 : Int32) (s0 : Int32) (s2 : Int32) (M : fm_Mem) : Option (Int64 × fm_Mem) := Option.bind (f_X7_many P s0 M) (fun v1 => if v1.1 ≤ s2 then (k89 x1 (x3 + (1 : Int32)) v1.2) else (f_X7_checksum_119 P k89 k97 fm_fuel x1 x3 x4 (0 : Int32) v1.2))
set_option maxRecDepth 100000 in
set_option maxHeartbeats 4000000 in
theorem t_X7_checksum_110 (g : fm_G) (l : Launch) (hl : l.stackTraces = false) (P : Nat) (hP : fm_kd g P = 7) (w : fm_W) (M0 : fm_Mem) (k89 : Int64 → Int32 → fm_Mem → Option (Int64 × fm_Mem)) (hk89 : ∀ (x1 : Int64) (x3 : Int32) (M : fm_Mem), Tt g l z_X7_checksum (emJw M0 w) (k89 x1 x3 M) 89 [(0, .ref P), (1, .long x1), (3, .int x3)] [] (M, w)) (k97 : Int64 → Int32 → Int32 → fm_Mem → Option (Int64 × fm_Mem)) (hk97 : ∀ (x1 : Int64) (x3 : Int32) (x4 : Int32) (M : fm_Mem), Tt g l z_X7_checksum (emJw M0 w) (k97 x1 x3 x4 M) 97 [(0, .ref P), (1, .long x1), (3, .int x3), (4, .int x4)] [] (M, w)) (x1 : Int64) (x3 : Int32) (x4 : Int32) (s0 : Int32) (s2 : Int32)  (M : fm_Mem) : Tt g l z_X7_checksum (emJw M0 w) (f_X7_checksum_110 P k89 k97 x1 x3 x4 s0 s2 M) 110 [(0, .ref P), (1, .long x1), (3, .int x3), (4, .int x4)] [.int s0, .ref P, .int s2] (M, w) := by
  rw [f_X7_checksum_110]
  refine Tt.callV (As := [.int s0]) (rest := [.int s2]) (c_X7_many g l hl P s0 hP M w) hP (by decide) rfl rfl cw_X7_many fw1223 pn_X7_many (Nat.le_of_ble_eq_true rfl) (Nat.le_of_ble_eq_true rfl) (Nat.le_of_ble_eq_true rfl) rfl (fun v1 => (?_ : Tt g l z_X7_checksum (emJw M0 w) _ 113 [(0, .ref P), (1, .long x1), (3, .int x3), (4, .int x4)] [.int v1.1, .int s2] (v1.2, w)))
  refine Tt.ic_ge (tgt := 162) rfl (by decide) ?_ ?_
  · refine Tt.go (fun _ => Tr.run 2 (pc' := 89) (lv' := [(3, .int (x3 + (1 : Int32))), (0, .ref P), (1, .long x1), (4, .int x4)]) (st' := []) rfl) ?_
    refine Tt.go (fun _ => Tr.sub (lv' := [(0, .ref P), (1, .long x1), (3, .int (x3 + (1 : Int32)))]) [1, 2, 0] rfl) ?_
    exact hk89 x1 (x3 + (1 : Int32)) v1.2
  · refine Tt.go (fun _ => Tr.run 2 (pc' := 119) (lv' := [(5, .int (0 : Int32)), (0, .ref P), (1, .long x1), (3, .int x3), (4, .int x4)]) (st' := []) rfl) ?_
    refine Tt.go (fun _ => Tr.sub (lv' := [(0, .ref P), (1, .long x1), (3, .int x3), (4, .int x4), (5, .int (0 : Int32))]) [1, 2, 3, 4, 0] rfl) ?_
    exact t_X7_checksum_119 g l hl P hP w M0 k89 hk89 k97 hk97 fm_fuel x1 x3 x4 (0 : Int32) v1.2
def f_X7_checksum_97 (P : Nat) (k89 : Int64 → Int32 → fm_Mem → Option (Int64 × fm_Mem)) : Nat → Int64 → Int32 → Int32 → fm_Mem → Option (Int64 × fm_Mem)
  | 0, _, _, _, _ => none
  | n + 1, x1, x3, x4, M => if x3 = (1 : Int32) then (f_X7_checksum_110 P k89 (fun x1 x3 x4 M => f_X7_checksum_97 P k89 n x1 x3 x4 M) x1 x3 x4 (1 : Int32) x4 M) else (f_X7_checksum_110 P k89 (fun x1 x3 x4 M => f_X7_checksum_97 P k89 n x1 x3 x4 M) x1 x3 x4 (0 : Int32) x4 M)
set_option maxRecDepth 100000 in
set_option maxHeartbeats 4000000 in
theorem t_X7_checksum_97 (g : fm_G) (l : Launch) (hl : l.stackTraces = false) (P : Nat) (hP : fm_kd g P = 7) (w : fm_W) (M0 : fm_Mem) (k89 : Int64 → Int32 → fm_Mem → Option (Int64 × fm_Mem)) (hk89 : ∀ (x1 : Int64) (x3 : Int32) (M : fm_Mem), Tt g l z_X7_checksum (emJw M0 w) (k89 x1 x3 M) 89 [(0, .ref P), (1, .long x1), (3, .int x3)] [] (M, w)) : ∀ (n : Nat) (x1 : Int64) (x3 : Int32) (x4 : Int32)  (M : fm_Mem), Tt g l z_X7_checksum (emJw M0 w) (f_X7_checksum_97 P k89 n x1 x3 x4 M) 97 [(0, .ref P), (1, .long x1), (3, .int x3), (4, .int x4)] [] (M, w) := by
  intro n
  induction n with
  | zero => intros; exact Tt.none
  | succ n ih =>
    intro x1 x3 x4  M
    rw [f_X7_checksum_97]
    refine Tt.go (fun _ => Tr.run 4 (pc' := 102) (lv' := [(0, .ref P), (1, .long x1), (3, .int x3), (4, .int x4)]) (st' := [.int (1 : Int32), .int x3, .ref P, .int x4]) rfl) ?_
    refine Tt.ic_ne (tgt := 109) rfl (by decide) ?_ ?_
    · refine Tt.go (fun _ => Tr.run 2 (pc' := 110) (lv' := [(0, .ref P), (1, .long x1), (3, .int x3), (4, .int x4)]) (st' := [.int (1 : Int32), .ref P, .int x4]) rfl) ?_
      exact t_X7_checksum_110 g l hl P hP w M0 k89 hk89 _ ih x1 x3 x4 (1 : Int32) x4 M
    · refine Tt.go (fun _ => Tr.run 1 (pc' := 110) (lv' := [(0, .ref P), (1, .long x1), (3, .int x3), (4, .int x4)]) (st' := [.int (0 : Int32), .ref P, .int x4]) rfl) ?_
      exact t_X7_checksum_110 g l hl P hP w M0 k89 hk89 _ ih x1 x3 x4 (0 : Int32) x4 M
def f_X7_checksum_89 (P : Nat) : Nat → Int64 → Int32 → fm_Mem → Option (Int64 × fm_Mem)
  | 0, _, _, _ => none
  | n + 1, x1, x3, M => if (2 : Int32) ≤ x3 then (Option.bind (f_X7_liftOf P M) (fun v1 => Option.bind (f_X7_joins x1 v1 M) (fun v2 => Option.bind (f_X7_treeOf P M) (fun v3 => Option.bind (f_X7_joins v2 v3 M) (fun v4 => some ((v4, M))))))) else (f_X7_checksum_97 P (fun x1 x3 M => f_X7_checksum_89 P n x1 x3 M) fm_fuel x1 x3 (0 : Int32) M)
set_option maxRecDepth 100000 in
set_option maxHeartbeats 4000000 in
theorem t_X7_checksum_89 (g : fm_G) (l : Launch) (hl : l.stackTraces = false) (P : Nat) (hP : fm_kd g P = 7) (w : fm_W) (M0 : fm_Mem)  : ∀ (n : Nat) (x1 : Int64) (x3 : Int32)  (M : fm_Mem), Tt g l z_X7_checksum (emJw M0 w) (f_X7_checksum_89 P  n x1 x3 M) 89 [(0, .ref P), (1, .long x1), (3, .int x3)] [] (M, w) := by
  intro n
  induction n with
  | zero => intros; exact Tt.none
  | succ n ih =>
    intro x1 x3  M
    rw [f_X7_checksum_89]
    refine Tt.go (fun _ => Tr.run 2 (pc' := 91) (lv' := [(0, .ref P), (1, .long x1), (3, .int x3)]) (st' := [.int (2 : Int32), .int x3]) rfl) ?_
    refine Tt.ic_ge (tgt := 168) rfl (by decide) ?_ ?_
    · refine Tt.go (fun _ => Tr.run 2 (pc' := 170) (lv' := [(0, .ref P), (1, .long x1), (3, .int x3)]) (st' := [.ref P, .long x1]) rfl) ?_
      refine Tt.callV (As := []) (rest := [.long x1]) (c_X7_liftOf g l hl P hP M w) hP (by decide) rfl rfl cw_X7_liftOf fw1398 pn_X7_liftOf (Nat.le_of_ble_eq_true rfl) (Nat.le_of_ble_eq_true rfl) (Nat.le_of_ble_eq_true rfl) rfl (fun v1 => (?_ : Tt g l z_X7_checksum (emJw M0 w) _ 173 [(0, .ref P), (1, .long x1), (3, .int x3)] [.long v1, .long x1] (M, w)))
      refine Tt.callS (As := [.long x1, .long v1]) (rest := []) (c_X7_joins g l hl x1 v1 M w) rfl cw_X7_joins fw1473 pn_X7_joins (Nat.le_of_ble_eq_true rfl) (Nat.le_of_ble_eq_true rfl) (Nat.le_of_ble_eq_true rfl) rfl (fun v2 => (?_ : Tt g l z_X7_checksum (emJw M0 w) _ 176 [(0, .ref P), (1, .long x1), (3, .int x3)] [.long v2] (M, w)))
      refine Tt.go (fun _ => Tr.run 1 (pc' := 177) (lv' := [(0, .ref P), (1, .long x1), (3, .int x3)]) (st' := [.ref P, .long v2]) rfl) ?_
      refine Tt.callV (As := []) (rest := [.long v2]) (c_X7_treeOf g l hl P hP M w) hP (by decide) rfl rfl cw_X7_treeOf fw1410 pn_X7_treeOf (Nat.le_of_ble_eq_true rfl) (Nat.le_of_ble_eq_true rfl) (Nat.le_of_ble_eq_true rfl) rfl (fun v3 => (?_ : Tt g l z_X7_checksum (emJw M0 w) _ 180 [(0, .ref P), (1, .long x1), (3, .int x3)] [.long v3, .long v2] (M, w)))
      refine Tt.callS (As := [.long v2, .long v3]) (rest := []) (c_X7_joins g l hl v2 v3 M w) rfl cw_X7_joins fw1473 pn_X7_joins (Nat.le_of_ble_eq_true rfl) (Nat.le_of_ble_eq_true rfl) (Nat.le_of_ble_eq_true rfl) rfl (fun v4 => (?_ : Tt g l z_X7_checksum (emJw M0 w) _ 183 [(0, .ref P), (1, .long x1), (3, .int x3)] [.long v4] (M, w)))
      exact Tt.ret (Tr.lret rfl rfl)
    · refine Tt.go (fun _ => Tr.run 2 (pc' := 97) (lv' := [(4, .int (0 : Int32)), (0, .ref P), (1, .long x1), (3, .int x3)]) (st' := []) rfl) ?_
      refine Tt.go (fun _ => Tr.sub (lv' := [(0, .ref P), (1, .long x1), (3, .int x3), (4, .int (0 : Int32))]) [1, 2, 3, 0] rfl) ?_
      exact t_X7_checksum_97 g l hl P hP w M0 _ ih fm_fuel x1 x3 (0 : Int32) M
def f_X7_checksum_55 (P : Nat) (k44 : Int64 → Int32 → fm_Mem → Option (Int64 × fm_Mem)) : Nat → Int64 → Int32 → Int32 → fm_Mem → Option (Int64 × fm_Mem)
  | 0, _, _, _, _ => none
  | n + 1, x1, x3, x4, M => if (7 : Int32) ≤ x4 then (k44 x1 (x3 + (1 : Int32)) M) else (Option.bind (f_X7_toldOfPoint P x3 x4 M) (fun v1 => Option.bind (f_X7_joins x1 (Int32.toInt64 v1.1) v1.2) (fun v2 => (f_X7_checksum_55 P k44 n v2 x3 (x4 + (1 : Int32)) v1.2))))
set_option maxRecDepth 100000 in
set_option maxHeartbeats 4000000 in
theorem t_X7_checksum_55 (g : fm_G) (l : Launch) (hl : l.stackTraces = false) (P : Nat) (hP : fm_kd g P = 7) (w : fm_W) (M0 : fm_Mem) (k44 : Int64 → Int32 → fm_Mem → Option (Int64 × fm_Mem)) (hk44 : ∀ (x1 : Int64) (x3 : Int32) (M : fm_Mem), Tt g l z_X7_checksum (emJw M0 w) (k44 x1 x3 M) 44 [(0, .ref P), (1, .long x1), (3, .int x3)] [] (M, w)) : ∀ (n : Nat) (x1 : Int64) (x3 : Int32) (x4 : Int32)  (M : fm_Mem), Tt g l z_X7_checksum (emJw M0 w) (f_X7_checksum_55 P k44 n x1 x3 x4 M) 55 [(0, .ref P), (1, .long x1), (3, .int x3), (4, .int x4)] [] (M, w) := by
  intro n
  induction n with
  | zero => intros; exact Tt.none
  | succ n ih =>
    intro x1 x3 x4  M
    rw [f_X7_checksum_55]
    refine Tt.go (fun _ => Tr.run 2 (pc' := 59) (lv' := [(0, .ref P), (1, .long x1), (3, .int x3), (4, .int x4)]) (st' := [.int (7 : Int32), .int x4]) rfl) ?_
    refine Tt.ic_ge (tgt := 81) rfl (by decide) ?_ ?_
    · refine Tt.go (fun _ => Tr.run 2 (pc' := 44) (lv' := [(3, .int (x3 + (1 : Int32))), (0, .ref P), (1, .long x1), (4, .int x4)]) (st' := []) rfl) ?_
      refine Tt.go (fun _ => Tr.sub (lv' := [(0, .ref P), (1, .long x1), (3, .int (x3 + (1 : Int32)))]) [1, 2, 0] rfl) ?_
      exact hk44 x1 (x3 + (1 : Int32)) M
    · refine Tt.go (fun _ => Tr.run 4 (pc' := 67) (lv' := [(0, .ref P), (1, .long x1), (3, .int x3), (4, .int x4)]) (st' := [.int x4, .int x3, .ref P, .long x1]) rfl) ?_
      refine Tt.callV (As := [.int x3, .int x4]) (rest := [.long x1]) (c_X7_toldOfPoint g l hl P x3 x4 hP M w) hP (by decide) rfl rfl cw_X7_toldOfPoint fw1319 pn_X7_toldOfPoint (Nat.le_of_ble_eq_true rfl) (Nat.le_of_ble_eq_true rfl) (Nat.le_of_ble_eq_true rfl) rfl (fun v1 => (?_ : Tt g l z_X7_checksum (emJw M0 w) _ 70 [(0, .ref P), (1, .long x1), (3, .int x3), (4, .int x4)] [.int v1.1, .long x1] (v1.2, w)))
      refine Tt.go (fun _ => Tr.run 1 (pc' := 71) (lv' := [(0, .ref P), (1, .long x1), (3, .int x3), (4, .int x4)]) (st' := [.long (Int32.toInt64 v1.1), .long x1]) rfl) ?_
      refine Tt.callS (As := [.long x1, .long (Int32.toInt64 v1.1)]) (rest := []) (c_X7_joins g l hl x1 (Int32.toInt64 v1.1) v1.2 w) rfl cw_X7_joins fw1473 pn_X7_joins (Nat.le_of_ble_eq_true rfl) (Nat.le_of_ble_eq_true rfl) (Nat.le_of_ble_eq_true rfl) rfl (fun v2 => (?_ : Tt g l z_X7_checksum (emJw M0 w) _ 74 [(0, .ref P), (1, .long x1), (3, .int x3), (4, .int x4)] [.long v2] (v1.2, w)))
      refine Tt.go (fun _ => Tr.run 3 (pc' := 55) (lv' := [(4, .int (x4 + (1 : Int32))), (1, .long v2), (0, .ref P), (3, .int x3)]) (st' := []) rfl) ?_
      refine Tt.go (fun _ => Tr.sub (lv' := [(0, .ref P), (1, .long v2), (3, .int x3), (4, .int (x4 + (1 : Int32)))]) [2, 1, 3, 0] rfl) ?_
      exact ih v2 x3 (x4 + (1 : Int32)) v1.2
def f_X7_checksum_44 (P : Nat) : Nat → Int64 → Int32 → fm_Mem → Option (Int64 × fm_Mem)
  | 0, _, _, _ => none
  | n + 1, x1, x3, M => Option.bind (f_X7_points P M) (fun v1 => if v1 ≤ x3 then (f_X7_checksum_89 P fm_fuel x1 (0 : Int32) M) else (f_X7_checksum_55 P (fun x1 x3 M => f_X7_checksum_44 P n x1 x3 M) fm_fuel x1 x3 (0 : Int32) M))
set_option maxRecDepth 100000 in
set_option maxHeartbeats 4000000 in
theorem t_X7_checksum_44 (g : fm_G) (l : Launch) (hl : l.stackTraces = false) (P : Nat) (hP : fm_kd g P = 7) (w : fm_W) (M0 : fm_Mem)  : ∀ (n : Nat) (x1 : Int64) (x3 : Int32)  (M : fm_Mem), Tt g l z_X7_checksum (emJw M0 w) (f_X7_checksum_44 P  n x1 x3 M) 44 [(0, .ref P), (1, .long x1), (3, .int x3)] [] (M, w) := by
  intro n
  induction n with
  | zero => intros; exact Tt.none
  | succ n ih =>
    intro x1 x3  M
    rw [f_X7_checksum_44]
    refine Tt.go (fun _ => Tr.run 2 (pc' := 46) (lv' := [(0, .ref P), (1, .long x1), (3, .int x3)]) (st' := [.ref P, .int x3]) rfl) ?_
    refine Tt.callV (As := []) (rest := [.int x3]) (c_X7_points g l hl P hP M w) hP (by decide) rfl rfl cw_X7_points fw1156 pn_X7_points (Nat.le_of_ble_eq_true rfl) (Nat.le_of_ble_eq_true rfl) (Nat.le_of_ble_eq_true rfl) rfl (fun v1 => (?_ : Tt g l z_X7_checksum (emJw M0 w) _ 49 [(0, .ref P), (1, .long x1), (3, .int x3)] [.int v1, .int x3] (M, w)))
    refine Tt.ic_ge (tgt := 87) rfl (by decide) ?_ ?_
    · refine Tt.go (fun _ => Tr.run 2 (pc' := 89) (lv' := [(3, .int (0 : Int32)), (0, .ref P), (1, .long x1)]) (st' := []) rfl) ?_
      refine Tt.go (fun _ => Tr.sub (lv' := [(0, .ref P), (1, .long x1), (3, .int (0 : Int32))]) [1, 2, 0] rfl) ?_
      exact t_X7_checksum_89 g l hl P hP w M0 fm_fuel x1 (0 : Int32) M
    · refine Tt.go (fun _ => Tr.run 2 (pc' := 55) (lv' := [(4, .int (0 : Int32)), (0, .ref P), (1, .long x1), (3, .int x3)]) (st' := []) rfl) ?_
      refine Tt.go (fun _ => Tr.sub (lv' := [(0, .ref P), (1, .long x1), (3, .int x3), (4, .int (0 : Int32))]) [1, 2, 3, 0] rfl) ?_
      exact t_X7_checksum_55 g l hl P hP w M0 _ ih fm_fuel x1 x3 (0 : Int32) M
def f_X7_checksum_35 (P : Nat) (k9 : Int64 → Int32 → fm_Mem → Option (Int64 × fm_Mem)) (x3 : Int32) (s0 : Int64) (M : fm_Mem) : Option (Int64 × fm_Mem) := (k9 s0 (x3 + (1 : Int32)) M)
set_option maxRecDepth 100000 in
set_option maxHeartbeats 4000000 in
theorem t_X7_checksum_35 (g : fm_G) (l : Launch) (hl : l.stackTraces = false) (P : Nat) (hP : fm_kd g P = 7) (w : fm_W) (M0 : fm_Mem) (k9 : Int64 → Int32 → fm_Mem → Option (Int64 × fm_Mem)) (hk9 : ∀ (x1 : Int64) (x3 : Int32) (M : fm_Mem), Tt g l z_X7_checksum (emJw M0 w) (k9 x1 x3 M) 9 [(0, .ref P), (1, .long x1), (3, .int x3)] [] (M, w)) (x3 : Int32) (s0 : Int64)  (M : fm_Mem) : Tt g l z_X7_checksum (emJw M0 w) (f_X7_checksum_35 P k9 x3 s0 M) 35 [(0, .ref P), (3, .int x3)] [.long s0] (M, w) := by
  rw [f_X7_checksum_35]
  refine Tt.go (fun _ => Tr.run 3 (pc' := 9) (lv' := [(3, .int (x3 + (1 : Int32))), (1, .long s0), (0, .ref P)]) (st' := []) rfl) ?_
  refine Tt.go (fun _ => Tr.sub (lv' := [(0, .ref P), (1, .long s0), (3, .int (x3 + (1 : Int32)))]) [2, 1, 0] rfl) ?_
  exact hk9 s0 (x3 + (1 : Int32)) M
def f_X7_checksum_9 (P : Nat) : Nat → Int64 → Int32 → fm_Mem → Option (Int64 × fm_Mem)
  | 0, _, _, _ => none
  | n + 1, x1, x3, M => if (12 : Int32) ≤ x3 then (f_X7_checksum_44 P fm_fuel x1 (0 : Int32) M) else (if x3 = (9 : Int32) then (f_X7_checksum_35 P (fun x1 x3 M => f_X7_checksum_9 P n x1 x3 M) x3 x1 M) else (Option.bind (f_X7_toldOf P x3 M) (fun v1 => Option.bind (f_X7_joins x1 (Int32.toInt64 v1.1) v1.2) (fun v2 => (f_X7_checksum_35 P (fun x1 x3 M => f_X7_checksum_9 P n x1 x3 M) x3 v2 v1.2)))))
set_option maxRecDepth 100000 in
set_option maxHeartbeats 4000000 in
theorem t_X7_checksum_9 (g : fm_G) (l : Launch) (hl : l.stackTraces = false) (P : Nat) (hP : fm_kd g P = 7) (w : fm_W) (M0 : fm_Mem)  : ∀ (n : Nat) (x1 : Int64) (x3 : Int32)  (M : fm_Mem), Tt g l z_X7_checksum (emJw M0 w) (f_X7_checksum_9 P  n x1 x3 M) 9 [(0, .ref P), (1, .long x1), (3, .int x3)] [] (M, w) := by
  intro n
  induction n with
  | zero => intros; exact Tt.none
  | succ n ih =>
    intro x1 x3  M
    rw [f_X7_checksum_9]
    refine Tt.go (fun _ => Tr.run 2 (pc' := 12) (lv' := [(0, .ref P), (1, .long x1), (3, .int x3)]) (st' := [.int (12 : Int32), .int x3]) rfl) ?_
    refine Tt.ic_ge (tgt := 42) rfl (by decide) ?_ ?_
    · refine Tt.go (fun _ => Tr.run 2 (pc' := 44) (lv' := [(3, .int (0 : Int32)), (0, .ref P), (1, .long x1)]) (st' := []) rfl) ?_
      refine Tt.go (fun _ => Tr.sub (lv' := [(0, .ref P), (1, .long x1), (3, .int (0 : Int32))]) [1, 2, 0] rfl) ?_
      exact t_X7_checksum_44 g l hl P hP w M0 fm_fuel x1 (0 : Int32) M
    · refine Tt.go (fun _ => Tr.run 2 (pc' := 18) (lv' := [(0, .ref P), (1, .long x1), (3, .int x3)]) (st' := [.int (9 : Int32), .int x3]) rfl) ?_
      refine Tt.ic_ne (tgt := 25) rfl (by decide) ?_ ?_
      · refine Tt.go (fun _ => Tr.run 2 (pc' := 35) (lv' := [(0, .ref P), (1, .long x1), (3, .int x3)]) (st' := [.long x1]) rfl) ?_
        refine Tt.go (fun _ => Tr.sub (lv' := [(0, .ref P), (3, .int x3)]) [0, 2] rfl) ?_
        exact t_X7_checksum_35 g l hl P hP w M0 _ ih x3 x1 M
      · refine Tt.go (fun _ => Tr.run 3 (pc' := 28) (lv' := [(0, .ref P), (1, .long x1), (3, .int x3)]) (st' := [.int x3, .ref P, .long x1]) rfl) ?_
        refine Tt.callV (As := [.int x3]) (rest := [.long x1]) (c_X7_toldOf g l hl P x3 hP M w) hP (by decide) rfl rfl cw_X7_toldOf fw1273 pn_X7_toldOf (Nat.le_of_ble_eq_true rfl) (Nat.le_of_ble_eq_true rfl) (Nat.le_of_ble_eq_true rfl) rfl (fun v1 => (?_ : Tt g l z_X7_checksum (emJw M0 w) _ 31 [(0, .ref P), (1, .long x1), (3, .int x3)] [.int v1.1, .long x1] (v1.2, w)))
        refine Tt.go (fun _ => Tr.run 1 (pc' := 32) (lv' := [(0, .ref P), (1, .long x1), (3, .int x3)]) (st' := [.long (Int32.toInt64 v1.1), .long x1]) rfl) ?_
        refine Tt.callS (As := [.long x1, .long (Int32.toInt64 v1.1)]) (rest := []) (c_X7_joins g l hl x1 (Int32.toInt64 v1.1) v1.2 w) rfl cw_X7_joins fw1473 pn_X7_joins (Nat.le_of_ble_eq_true rfl) (Nat.le_of_ble_eq_true rfl) (Nat.le_of_ble_eq_true rfl) rfl (fun v2 => (?_ : Tt g l z_X7_checksum (emJw M0 w) _ 35 [(0, .ref P), (1, .long x1), (3, .int x3)] [.long v2] (v1.2, w)))
        refine Tt.go (fun _ => Tr.sub (lv' := [(0, .ref P), (3, .int x3)]) [0, 2] rfl) ?_
        exact t_X7_checksum_35 g l hl P hP w M0 _ ih x3 v2 v1.2
def f_X7_checksum (P : Nat) (M : fm_Mem) : Option (Int64 × fm_Mem) := (f_X7_checksum_9 P fm_fuel (0 : Int64) (0 : Int32) (fm_up M P 0 (0 : Int32)))
set_option maxRecDepth 100000 in
set_option maxHeartbeats 4000000 in
theorem t_X7_checksum (g : fm_G) (l : Launch) (hl : l.stackTraces = false) (P : Nat) (hP : fm_kd g P = 7) (M : fm_Mem) (w : fm_W) : Tt g l z_X7_checksum (emJw M w) (f_X7_checksum P M) 0 [(0, .ref P)] [] (M, w) := by
  rw [f_X7_checksum]
  refine Tt.go (fun _ => Tr.run 2 (pc' := 2) (lv' := [(0, .ref P)]) (st' := [.int (0 : Int32), .ref P]) rfl) ?_
  refine Tt.go (fun _ => Tr.put fmc7 hP rfl fw1024 (k := 0) (by decide) rfl rfl ⟨rfl, rfl⟩) (?_ : Tt g l z_X7_checksum (emJw M w) _ 5 [(0, .ref P)] [] ((fm_up M P 0 (0 : Int32)), w))
  refine Tt.go (fun _ => Tr.run 4 (pc' := 9) (lv' := [(3, .int (0 : Int32)), (1, .long (0 : Int64)), (0, .ref P)]) (st' := []) rfl) ?_
  refine Tt.go (fun _ => Tr.sub (lv' := [(0, .ref P), (1, .long (0 : Int64)), (3, .int (0 : Int32))]) [2, 1, 0] rfl) ?_
  exact t_X7_checksum_9 g l hl P hP w M fm_fuel (0 : Int64) (0 : Int32) (fm_up M P 0 (0 : Int32))
theorem c_X7_checksum (g : fm_G) (l : Launch) (hl : l.stackTraces = false) (P : Nat) (hP : fm_kd g P = 7) (M : fm_Mem) (w : fm_W) : ∀ r, f_X7_checksum P M = some r → fC g l z_X7_checksum [.ref P] (M, w) (emJw M w r) := fun r hr => fC.of (by decide) rfl o_X7_checksum hl (Nat.le_of_ble_eq_true rfl) (t_X7_checksum g l hl P hP M w r hr)
