theorem fw1024 : Cond.fieldLink "CircleFlipsModel" 35 "CircleFlipsModel" "thrown" "I" ∈ lw_all := lw_in 1024 (by decide +kernel) (by decide +kernel)
theorem fw1025 : Cond.fieldLink "CircleFlipsModel" 7 "CircleFlipsModel" "rows" "[I" ∈ lw_all := lw_in 1025 (by decide +kernel) (by decide +kernel)
theorem fw1027 : Cond.fieldLink "CircleFlipsModel" 38 "CircleFlipsModel" "now" "I" ∈ lw_all := lw_in 1027 (by decide +kernel) (by decide +kernel)
theorem fw1028 : Cond.fieldLink "CircleFlipsModel" 45 "CircleFlipsModel" "undoable" "I" ∈ lw_all := lw_in 1028 (by decide +kernel) (by decide +kernel)
theorem fw1029 : Cond.fieldLink "CircleFlipsModel" 16 "CircleFlipsModel" "due" "[I" ∈ lw_all := lw_in 1029 (by decide +kernel) (by decide +kernel)
theorem fw1031 : Cond.fieldLink "CircleFlipsModel" 22 "CircleFlipsModel" "laid" "[I" ∈ lw_all := lw_in 1031 (by decide +kernel) (by decide +kernel)
theorem fw1032 : Cond.fieldLink "CircleFlipsModel" 86 "CircleFlipsModel" "dueMany" "I" ∈ lw_all := lw_in 1032 (by decide +kernel) (by decide +kernel)
theorem fw1033 : Cond.fieldLink "CircleFlipsModel" 25 "CircleFlipsModel" "laidMany" "I" ∈ lw_all := lw_in 1033 (by decide +kernel) (by decide +kernel)
theorem fw1102 : Cond.methodLink "CircleFlipsModel" 52 ⟨"CircleFlipsModel", "isIn", "(III)Z"⟩ ∈ lw_all := lw_in 1102 (by decide +kernel) (by decide +kernel)
theorem fw1109 : Cond.methodLink "CircleFlipsModel" 41 ⟨"CircleFlipsModel", "get", "(I)I"⟩ ∈ lw_all := lw_in 1109 (by decide +kernel) (by decide +kernel)
theorem fw1156 : Cond.methodLink "CircleFlipsModel" 48 ⟨"CircleFlipsModel", "points", "()I"⟩ ∈ lw_all := lw_in 1156 (by decide +kernel) (by decide +kernel)
theorem fw1164 : Cond.methodLink "CircleFlipsModel" 56 ⟨"CircleFlipsModel", "x", "(I)I"⟩ ∈ lw_all := lw_in 1164 (by decide +kernel) (by decide +kernel)
theorem fw1168 : Cond.methodLink "CircleFlipsModel" 59 ⟨"CircleFlipsModel", "y", "(I)I"⟩ ∈ lw_all := lw_in 1168 (by decide +kernel) (by decide +kernel)
theorem fw1185 : Cond.methodLink "CircleFlipsModel" 82 ⟨"CircleFlipsModel", "isLaid", "()Z"⟩ ∈ lw_all := lw_in 1185 (by decide +kernel) (by decide +kernel)
theorem fw1189 : Cond.methodLink "CircleFlipsModel" 89 ⟨"CircleFlipsModel", "isDue", "(III)Z"⟩ ∈ lw_all := lw_in 1189 (by decide +kernel) (by decide +kernel)
theorem fw1193 : Cond.methodLink "CircleFlipsModel" 70 ⟨"CircleFlipsModel", "turn", "(III)J"⟩ ∈ lw_all := lw_in 1193 (by decide +kernel) (by decide +kernel)
theorem fw1197 : Cond.methodLink "CircleFlipsModel" 62 ⟨"CircleFlipsModel", "turnOf", "(JJJJJJ)J"⟩ ∈ lw_all := lw_in 1197 (by decide +kernel) (by decide +kernel)
theorem fw1200 : Cond.methodLink "CircleFlipsModel" 78 ⟨"CircleFlipsModel", "circleBy", "(IIII)I"⟩ ∈ lw_all := lw_in 1200 (by decide +kernel) (by decide +kernel)
theorem fw1204 : Cond.methodLink "CircleFlipsModel" 74 ⟨"CircleFlipsModel", "circleOf", "(IIIJJ)I"⟩ ∈ lw_all := lw_in 1204 (by decide +kernel) (by decide +kernel)
theorem fw1208 : Cond.methodLink "CircleFlipsModel" 66 ⟨"CircleFlipsModel", "signOf", "(J)I"⟩ ∈ lw_all := lw_in 1208 (by decide +kernel) (by decide +kernel)
theorem fw1211 : Cond.methodLink "CircleFlipsModel" 92 ⟨"CircleFlipsModel", "adds", "(III)V"⟩ ∈ lw_all := lw_in 1211 (by decide +kernel) (by decide +kernel)
def k_X7_thrown : List (Nat × Instr × Nat) := [(0, .aload_n 0, 1), (1, .getfield 35, 3), (4, .ireturn, 1)]
def z_X7_thrown : fm_Y := (yX7_thrown, RX7, cX7_thrown, 1, (some .int), k_X7_thrown, 0, 0)
theorem o_X7_thrown : fm_dec z_X7_thrown := (by decide +kernel : ∀ q ∈ k_X7_thrown, decode cX7_thrown q.1 = .ok q.2)
theorem cw_X7_thrown : fm_cwV z_X7_thrown := ⟨⟨lw_in 1085 (by decide +kernel) (by decide +kernel), lw_in 99 (by decide +kernel) (by decide +kernel), by decide, by decide⟩, lw_in 1083 (by decide +kernel) (by decide +kernel), lw_in 1084 (by decide +kernel) (by decide +kernel)⟩
theorem pn_X7_thrown : (parseMethodDescriptor z_X7_thrown.1.desc).map (fun d => d.parameters.length) = some 0 := by decide +kernel
def f_X7_thrown (P : Nat) (M : fm_Mem) : Option (Int32) := some ((M P 0))
set_option maxRecDepth 100000 in
set_option maxHeartbeats 4000000 in
theorem t_X7_thrown (g : fm_G) (l : Launch) (hl : l.stackTraces = false) (P : Nat) (hP : fm_kd g P = 7) (M : fm_Mem) (w : fm_W) : Tt g l z_X7_thrown (emI M w) (f_X7_thrown P M) 0 [(0, .ref P)] [] (M, w) := by
  rw [f_X7_thrown]
  refine Tt.go (fun _ => Tr.run 1 (pc' := 1) (lv' := [(0, .ref P)]) (st' := [.ref P]) rfl) ?_
  refine Tt.go (fun _ => Tr.get fmc7 hP rfl fw1024 (k := 0) (by decide) rfl) (?_ : Tt g l z_X7_thrown (emI M w) _ 4 [(0, .ref P)] [.int (M P 0)] (M, w))
  exact Tt.ret (Tr.iret rfl rfl)
theorem c_X7_thrown (g : fm_G) (l : Launch) (hl : l.stackTraces = false) (P : Nat) (hP : fm_kd g P = 7) (M : fm_Mem) (w : fm_W) : ∀ r, f_X7_thrown P M = some r → fC g l z_X7_thrown [.ref P] (M, w) (emI M w r) := fun r hr => fC.of (by decide) rfl o_X7_thrown hl (Nat.le_of_ble_eq_true rfl) (t_X7_thrown g l hl P hP M w r hr)
def k_X7_isIn : List (Nat × Instr × Nat) := [(0, .iload_n 0, 1), (1, .iload_n 1, 1), (2, .if_icmp .lt 12, 3), (5, .iload_n 0, 1), (6, .iload_n 2, 1), (7, .if_icmp .gt 7, 3), (10, .iconst 1, 1), (11, .goto 4, 3), (14, .iconst 0, 1), (15, .ireturn, 1)]
def z_X7_isIn : fm_Y := (yX7_isIn, RX7, cX7_isIn, 3, (some .boolean), k_X7_isIn, 0, 0)
theorem o_X7_isIn : fm_dec z_X7_isIn := (by decide +kernel : ∀ q ∈ k_X7_isIn, decode cX7_isIn q.1 = .ok q.2)
theorem cw_X7_isIn : fm_cwS z_X7_isIn := ⟨⟨lw_in 1104 (by decide +kernel) (by decide +kernel), lw_in 99 (by decide +kernel) (by decide +kernel), by decide, by decide⟩, lw_in 1103 (by decide +kernel) (by decide +kernel)⟩
theorem pn_X7_isIn : (parseMethodDescriptor z_X7_isIn.1.desc).map (fun d => d.parameters.length) = some 3 := by decide +kernel
def f_X7_isIn_15 (a0 : Int32) (a1 : Int32) (a2 : Int32) (s0 : Int32) (M : fm_Mem) : Option (Int32) := fm_ck (fm_bo s0) (some (s0))
set_option maxRecDepth 100000 in
set_option maxHeartbeats 4000000 in
theorem t_X7_isIn_15 (g : fm_G) (l : Launch) (hl : l.stackTraces = false) (a0 : Int32) (a1 : Int32) (a2 : Int32)  (w : fm_W)  (s0 : Int32)  (M : fm_Mem) : Tt g l z_X7_isIn (emI M w) (f_X7_isIn_15 a0 a1 a2  s0 M) 15 [] [.int s0] (M, w) := by
  rw [f_X7_isIn_15]
  exact Tt.ck (fun hb_1 => Tt.ret (Tr.zret rfl rfl hb_1))
def f_X7_isIn_14 (a0 : Int32) (a1 : Int32) (a2 : Int32)  (M : fm_Mem) : Option (Int32) := (f_X7_isIn_15 a0 a1 a2 (0 : Int32) M)
set_option maxRecDepth 100000 in
set_option maxHeartbeats 4000000 in
theorem t_X7_isIn_14 (g : fm_G) (l : Launch) (hl : l.stackTraces = false) (a0 : Int32) (a1 : Int32) (a2 : Int32)  (w : fm_W)    (M : fm_Mem) : Tt g l z_X7_isIn (emI M w) (f_X7_isIn_14 a0 a1 a2   M) 14 [] [] (M, w) := by
  rw [f_X7_isIn_14]
  refine Tt.go (fun _ => Tr.run 1 (pc' := 15) (lv' := []) (st' := [.int (0 : Int32)]) rfl) ?_
  exact t_X7_isIn_15 g l hl a0 a1 a2 w (0 : Int32) M
def f_X7_isIn (a0 : Int32) (a1 : Int32) (a2 : Int32) (M : fm_Mem) : Option (Int32) := if a0 < a1 then (f_X7_isIn_14 a0 a1 a2 M) else (if a2 < a0 then (f_X7_isIn_14 a0 a1 a2 M) else (f_X7_isIn_15 a0 a1 a2 (1 : Int32) M))
set_option maxRecDepth 100000 in
set_option maxHeartbeats 4000000 in
theorem t_X7_isIn (g : fm_G) (l : Launch) (hl : l.stackTraces = false) (a0 : Int32) (a1 : Int32) (a2 : Int32)  (M : fm_Mem) (w : fm_W) : Tt g l z_X7_isIn (emI M w) (f_X7_isIn a0 a1 a2 M) 0 [(0, .int a0), (1, .int a1), (2, .int a2)] [] (M, w) := by
  rw [f_X7_isIn]
  refine Tt.go (fun _ => Tr.run 2 (pc' := 2) (lv' := [(0, .int a0), (1, .int a1), (2, .int a2)]) (st' := [.int a1, .int a0]) rfl) ?_
  refine Tt.ic_lt (tgt := 14) rfl (by decide) ?_ ?_
  · refine Tt.go (fun _ => Tr.sub (lv' := []) [] rfl) ?_
    exact t_X7_isIn_14 g l hl a0 a1 a2 w M
  · refine Tt.go (fun _ => Tr.run 2 (pc' := 7) (lv' := [(0, .int a0), (1, .int a1), (2, .int a2)]) (st' := [.int a2, .int a0]) rfl) ?_
    refine Tt.ic_gt (tgt := 14) rfl (by decide) ?_ ?_
    · refine Tt.go (fun _ => Tr.sub (lv' := []) [] rfl) ?_
      exact t_X7_isIn_14 g l hl a0 a1 a2 w M
    · refine Tt.go (fun _ => Tr.run 2 (pc' := 15) (lv' := [(0, .int a0), (1, .int a1), (2, .int a2)]) (st' := [.int (1 : Int32)]) rfl) ?_
      refine Tt.go (fun _ => Tr.sub (lv' := []) [] rfl) ?_
      exact t_X7_isIn_15 g l hl a0 a1 a2 w (1 : Int32) M
theorem c_X7_isIn (g : fm_G) (l : Launch) (hl : l.stackTraces = false) (a0 : Int32) (a1 : Int32) (a2 : Int32)  (M : fm_Mem) (w : fm_W) : ∀ r, f_X7_isIn a0 a1 a2 M = some r → fC g l z_X7_isIn [.int a0, .int a1, .int a2] (M, w) (emI M w r) := fun r hr => fC.of (by decide) rfl o_X7_isIn hl (Nat.le_of_ble_eq_true rfl) (t_X7_isIn g l hl a0 a1 a2  M w r hr)
def k_X7_get : List (Nat × Instr × Nat) := [(0, .aload_n 0, 1), (1, .getfield 7, 3), (4, .sipush 200, 3), (7, .aload_n 0, 1), (8, .getfield 38, 3), (11, .imul, 1), (12, .iload_n 1, 1), (13, .iadd, 1), (14, .iaload, 1), (15, .ireturn, 1)]
def z_X7_get : fm_Y := (yX7_get, RX7, cX7_get, 2, (some .int), k_X7_get, 0, 0)
theorem o_X7_get : fm_dec z_X7_get := (by decide +kernel : ∀ q ∈ k_X7_get, decode cX7_get q.1 = .ok q.2)
theorem cw_X7_get : fm_cwV z_X7_get := ⟨⟨lw_in 1112 (by decide +kernel) (by decide +kernel), lw_in 99 (by decide +kernel) (by decide +kernel), by decide, by decide⟩, lw_in 1111 (by decide +kernel) (by decide +kernel), lw_in 30 (by decide +kernel) (by decide +kernel)⟩
theorem pn_X7_get : (parseMethodDescriptor z_X7_get.1.desc).map (fun d => d.parameters.length) = some 1 := by decide +kernel
def f_X7_get (P : Nat) (a1 : Int32) (M : fm_Mem) : Option (Int32) := fm_ck (fm_in (((200 : Int32) * (M P 3)) + a1) 1800) (some ((M (P + 1) (Int32.toNatClampNeg (((200 : Int32) * (M P 3)) + a1)))))
set_option maxRecDepth 100000 in
set_option maxHeartbeats 4000000 in
theorem t_X7_get (g : fm_G) (l : Launch) (hl : l.stackTraces = false) (P : Nat) (a1 : Int32) (hP : fm_kd g P = 7) (M : fm_Mem) (w : fm_W) : Tt g l z_X7_get (emI M w) (f_X7_get P a1 M) 0 [(0, .ref P), (1, .int a1)] [] (M, w) := by
  rw [f_X7_get]
  refine Tt.go (fun _ => Tr.run 1 (pc' := 1) (lv' := [(0, .ref P), (1, .int a1)]) (st' := [.ref P]) rfl) ?_
  refine Tt.go (fun _ => Tr.get fmc7 hP rfl fw1025 (k := 1) (by decide) rfl) (?_ : Tt g l z_X7_get (emI M w) _ 4 [(0, .ref P), (1, .int a1)] [.ref (P + 1)] (M, w))
  refine Tt.go (fun _ => Tr.run 2 (pc' := 8) (lv' := [(0, .ref P), (1, .int a1)]) (st' := [.ref P, .int (200 : Int32), .ref (P + 1)]) rfl) ?_
  refine Tt.go (fun _ => Tr.get fmc7 hP rfl fw1027 (k := 3) (by decide) rfl) (?_ : Tt g l z_X7_get (emI M w) _ 11 [(0, .ref P), (1, .int a1)] [.int (M P 3), .int (200 : Int32), .ref (P + 1)] (M, w))
  refine Tt.go (fun _ => Tr.run 3 (pc' := 14) (lv' := [(0, .ref P), (1, .int a1)]) (st' := [.int (((200 : Int32) * (M P 3)) + a1), .ref (P + 1)]) rfl) ?_
  refine Tt.ck (fun hi_1 => ?_)
  refine Tt.go (fun _ => Tr.iald (fmk_7_1 hP) (by decide) hi_1 rfl) (?_ : Tt g l z_X7_get (emI M w) _ 15 [(0, .ref P), (1, .int a1)] [.int (M (P + 1) (Int32.toNatClampNeg (((200 : Int32) * (M P 3)) + a1)))] (M, w))
  exact Tt.ret (Tr.iret rfl rfl)
theorem c_X7_get (g : fm_G) (l : Launch) (hl : l.stackTraces = false) (P : Nat) (a1 : Int32) (hP : fm_kd g P = 7) (M : fm_Mem) (w : fm_W) : ∀ r, f_X7_get P a1 M = some r → fC g l z_X7_get [.ref P, .int a1] (M, w) (emI M w r) := fun r hr => fC.of (by decide) rfl o_X7_get hl (Nat.le_of_ble_eq_true rfl) (t_X7_get g l hl P a1 hP M w r hr)
def k_X7_put0 : List (Nat × Instr × Nat) := [(0, .aload_n 0, 1), (1, .getfield 7, 3), (4, .sipush 200, 3), (7, .aload_n 0, 1), (8, .getfield 38, 3), (11, .imul, 1), (12, .iload_n 1, 1), (13, .iadd, 1), (14, .iload_n 2, 1), (15, .iastore, 1), (16, .return_, 1)]
def z_X7_put0 : fm_Y := (yX7_put0, RX7, cX7_put0, 3, none, k_X7_put0, 0, 0)
theorem o_X7_put0 : fm_dec z_X7_put0 := (by decide +kernel : ∀ q ∈ k_X7_put0, decode cX7_put0 q.1 = .ok q.2)
theorem cw_X7_put0 : fm_cwV z_X7_put0 := ⟨⟨lw_in 1138 (by decide +kernel) (by decide +kernel), lw_in 99 (by decide +kernel) (by decide +kernel), by decide, by decide⟩, lw_in 1137 (by decide +kernel) (by decide +kernel), lw_in 35 (by decide +kernel) (by decide +kernel)⟩
theorem pn_X7_put0 : (parseMethodDescriptor z_X7_put0.1.desc).map (fun d => d.parameters.length) = some 2 := by decide +kernel
def f_X7_put0 (P : Nat) (a1 : Int32) (a2 : Int32) (M : fm_Mem) : Option (fm_Mem) := fm_ck (fm_in (((200 : Int32) * (M P 3)) + a1) 1800) (some ((fm_up M (P + 1) (Int32.toNatClampNeg (((200 : Int32) * (M P 3)) + a1)) a2)))
set_option maxRecDepth 100000 in
set_option maxHeartbeats 4000000 in
theorem t_X7_put0 (g : fm_G) (l : Launch) (hl : l.stackTraces = false) (P : Nat) (a1 : Int32) (a2 : Int32) (hP : fm_kd g P = 7) (M : fm_Mem) (w : fm_W) : Tt g l z_X7_put0 (emVw M w) (f_X7_put0 P a1 a2 M) 0 [(0, .ref P), (1, .int a1), (2, .int a2)] [] (M, w) := by
  rw [f_X7_put0]
  refine Tt.go (fun _ => Tr.run 1 (pc' := 1) (lv' := [(0, .ref P), (1, .int a1), (2, .int a2)]) (st' := [.ref P]) rfl) ?_
  refine Tt.go (fun _ => Tr.get fmc7 hP rfl fw1025 (k := 1) (by decide) rfl) (?_ : Tt g l z_X7_put0 (emVw M w) _ 4 [(0, .ref P), (1, .int a1), (2, .int a2)] [.ref (P + 1)] (M, w))
  refine Tt.go (fun _ => Tr.run 2 (pc' := 8) (lv' := [(0, .ref P), (1, .int a1), (2, .int a2)]) (st' := [.ref P, .int (200 : Int32), .ref (P + 1)]) rfl) ?_
  refine Tt.go (fun _ => Tr.get fmc7 hP rfl fw1027 (k := 3) (by decide) rfl) (?_ : Tt g l z_X7_put0 (emVw M w) _ 11 [(0, .ref P), (1, .int a1), (2, .int a2)] [.int (M P 3), .int (200 : Int32), .ref (P + 1)] (M, w))
  refine Tt.go (fun _ => Tr.run 4 (pc' := 15) (lv' := [(0, .ref P), (1, .int a1), (2, .int a2)]) (st' := [.int a2, .int (((200 : Int32) * (M P 3)) + a1), .ref (P + 1)]) rfl) ?_
  refine Tt.ck (fun hi_1 => ?_)
  refine Tt.go (fun _ => Tr.iast (fmk_7_1 hP) (by decide) hi_1 rfl) (?_ : Tt g l z_X7_put0 (emVw M w) _ 16 [(0, .ref P), (1, .int a1), (2, .int a2)] [] ((fm_up M (P + 1) (Int32.toNatClampNeg (((200 : Int32) * (M P 3)) + a1)) a2), w))
  exact Tt.ret (Tr.vret rfl rfl)
theorem c_X7_put0 (g : fm_G) (l : Launch) (hl : l.stackTraces = false) (P : Nat) (a1 : Int32) (a2 : Int32) (hP : fm_kd g P = 7) (M : fm_Mem) (w : fm_W) : ∀ r, f_X7_put0 P a1 a2 M = some r → fC g l z_X7_put0 [.ref P, .int a1, .int a2] (M, w) (emVw M w r) := fun r hr => fC.of (by decide) rfl o_X7_put0 hl (Nat.le_of_ble_eq_true rfl) (t_X7_put0 g l hl P a1 a2 hP M w r hr)
def k_X7_change : List (Nat × Instr × Nat) := [(0, .aload_n 0, 1), (1, .getfield 38, 3), (4, .iconst 1, 1), (5, .iadd, 1), (6, .bipush 9, 2), (8, .irem, 1), (9, .istore_n 1, 1), (10, .iconst 0, 1), (11, .istore_n 2, 1), (12, .iload_n 2, 1), (13, .sipush 200, 3), (16, .if_icmp .ge 26, 3), (19, .aload_n 0, 1), (20, .getfield 7, 3), (23, .sipush 200, 3), (26, .iload_n 1, 1), (27, .imul, 1), (28, .iload_n 2, 1), (29, .iadd, 1), (30, .aload_n 0, 1), (31, .iload_n 2, 1), (32, .invokevirtual 41, 3), (35, .iastore, 1), (36, .iinc 2 1, 3), (39, .goto (-27), 3), (42, .aload_n 0, 1), (43, .iload_n 1, 1), (44, .putfield 38, 3), (47, .aload_n 0, 1), (48, .aload_n 0, 1), (49, .getfield 45, 3), (52, .bipush 8, 2), (54, .if_icmp .ge 12, 3), (57, .aload_n 0, 1), (58, .getfield 45, 3), (61, .iconst 1, 1), (62, .iadd, 1), (63, .goto 7, 3), (66, .aload_n 0, 1), (67, .getfield 45, 3), (70, .putfield 45, 3), (73, .return_, 1)]
def z_X7_change : fm_Y := (yX7_change, RX7, cX7_change, 3, none, k_X7_change, 1, 21)
theorem o_X7_change : fm_dec z_X7_change := (by decide +kernel : ∀ q ∈ k_X7_change, decode cX7_change q.1 = .ok q.2)
theorem cw_X7_change : fm_cwV z_X7_change := ⟨⟨lw_in 1444 (by decide +kernel) (by decide +kernel), lw_in 99 (by decide +kernel) (by decide +kernel), by decide, by decide⟩, lw_in 1443 (by decide +kernel) (by decide +kernel), lw_in 88 (by decide +kernel) (by decide +kernel)⟩
theorem pn_X7_change : (parseMethodDescriptor z_X7_change.1.desc).map (fun d => d.parameters.length) = some 0 := by decide +kernel
def f_X7_change_70 (P : Nat) (s0 : Int32) (M : fm_Mem) : Option (fm_Mem) := some ((fm_up M P 4 s0))
set_option maxRecDepth 100000 in
set_option maxHeartbeats 4000000 in
theorem t_X7_change_70 (g : fm_G) (l : Launch) (hl : l.stackTraces = false) (P : Nat) (hP : fm_kd g P = 7) (w : fm_W) (M0 : fm_Mem)  (s0 : Int32)  (M : fm_Mem) : Tt g l z_X7_change (emVw M0 w) (f_X7_change_70 P  s0 M) 70 [] [.int s0, .ref P] (M, w) := by
  rw [f_X7_change_70]
  refine Tt.go (fun _ => Tr.put fmc7 hP rfl fw1028 (k := 4) (by decide) rfl rfl ⟨rfl, rfl⟩) (?_ : Tt g l z_X7_change (emVw M0 w) _ 73 [] [] ((fm_up M P 4 s0), w))
  exact Tt.ret (Tr.vret rfl rfl)
def f_X7_change_12 (P : Nat) : Nat → Int32 → Int32 → fm_Mem → Option (fm_Mem)
  | 0, _, _, _ => none
  | n + 1, x1, x2, M => if (200 : Int32) ≤ x2 then (if (8 : Int32) ≤ ((fm_up M P 3 x1) P 4) then (f_X7_change_70 P ((fm_up M P 3 x1) P 4) (fm_up M P 3 x1)) else (f_X7_change_70 P (((fm_up M P 3 x1) P 4) + (1 : Int32)) (fm_up M P 3 x1))) else (Option.bind (f_X7_get P x2 M) (fun v1 => fm_ck (fm_in (((200 : Int32) * x1) + x2) 1800) (f_X7_change_12 P n x1 (x2 + (1 : Int32)) (fm_up M (P + 1) (Int32.toNatClampNeg (((200 : Int32) * x1) + x2)) v1))))
set_option maxRecDepth 100000 in
set_option maxHeartbeats 4000000 in
theorem t_X7_change_12 (g : fm_G) (l : Launch) (hl : l.stackTraces = false) (P : Nat) (hP : fm_kd g P = 7) (w : fm_W) (M0 : fm_Mem)  : ∀ (n : Nat) (x1 : Int32) (x2 : Int32)  (M : fm_Mem), Tt g l z_X7_change (emVw M0 w) (f_X7_change_12 P  n x1 x2 M) 12 [(0, .ref P), (1, .int x1), (2, .int x2)] [] (M, w) := by
  intro n
  induction n with
  | zero => intros; exact Tt.none
  | succ n ih =>
    intro x1 x2  M
    rw [f_X7_change_12]
    refine Tt.go (fun _ => Tr.run 2 (pc' := 16) (lv' := [(0, .ref P), (1, .int x1), (2, .int x2)]) (st' := [.int (200 : Int32), .int x2]) rfl) ?_
    refine Tt.ic_ge (tgt := 42) rfl (by decide) ?_ ?_
    · refine Tt.go (fun _ => Tr.run 2 (pc' := 44) (lv' := [(0, .ref P), (1, .int x1), (2, .int x2)]) (st' := [.int x1, .ref P]) rfl) ?_
      refine Tt.go (fun _ => Tr.put fmc7 hP rfl fw1027 (k := 3) (by decide) rfl rfl ⟨rfl, rfl⟩) (?_ : Tt g l z_X7_change (emVw M0 w) _ 47 [(0, .ref P), (1, .int x1), (2, .int x2)] [] ((fm_up M P 3 x1), w))
      refine Tt.go (fun _ => Tr.run 2 (pc' := 49) (lv' := [(0, .ref P), (1, .int x1), (2, .int x2)]) (st' := [.ref P, .ref P]) rfl) ?_
      refine Tt.go (fun _ => Tr.get fmc7 hP rfl fw1028 (k := 4) (by decide) rfl) (?_ : Tt g l z_X7_change (emVw M0 w) _ 52 [(0, .ref P), (1, .int x1), (2, .int x2)] [.int ((fm_up M P 3 x1) P 4), .ref P] ((fm_up M P 3 x1), w))
      refine Tt.go (fun _ => Tr.run 1 (pc' := 54) (lv' := [(0, .ref P), (1, .int x1), (2, .int x2)]) (st' := [.int (8 : Int32), .int ((fm_up M P 3 x1) P 4), .ref P]) rfl) ?_
      refine Tt.ic_ge (tgt := 66) rfl (by decide) ?_ ?_
      · refine Tt.go (fun _ => Tr.run 1 (pc' := 67) (lv' := [(0, .ref P), (1, .int x1), (2, .int x2)]) (st' := [.ref P, .ref P]) rfl) ?_
        refine Tt.go (fun _ => Tr.get fmc7 hP rfl fw1028 (k := 4) (by decide) rfl) (?_ : Tt g l z_X7_change (emVw M0 w) _ 70 [(0, .ref P), (1, .int x1), (2, .int x2)] [.int ((fm_up M P 3 x1) P 4), .ref P] ((fm_up M P 3 x1), w))
        refine Tt.go (fun _ => Tr.sub (lv' := []) [] rfl) ?_
        exact t_X7_change_70 g l hl P hP w M0 ((fm_up M P 3 x1) P 4) (fm_up M P 3 x1)
      · refine Tt.go (fun _ => Tr.run 1 (pc' := 58) (lv' := [(0, .ref P), (1, .int x1), (2, .int x2)]) (st' := [.ref P, .ref P]) rfl) ?_
        refine Tt.go (fun _ => Tr.get fmc7 hP rfl fw1028 (k := 4) (by decide) rfl) (?_ : Tt g l z_X7_change (emVw M0 w) _ 61 [(0, .ref P), (1, .int x1), (2, .int x2)] [.int ((fm_up M P 3 x1) P 4), .ref P] ((fm_up M P 3 x1), w))
        refine Tt.go (fun _ => Tr.run 3 (pc' := 70) (lv' := [(0, .ref P), (1, .int x1), (2, .int x2)]) (st' := [.int (((fm_up M P 3 x1) P 4) + (1 : Int32)), .ref P]) rfl) ?_
        refine Tt.go (fun _ => Tr.sub (lv' := []) [] rfl) ?_
        exact t_X7_change_70 g l hl P hP w M0 (((fm_up M P 3 x1) P 4) + (1 : Int32)) (fm_up M P 3 x1)
    · refine Tt.go (fun _ => Tr.run 1 (pc' := 20) (lv' := [(0, .ref P), (1, .int x1), (2, .int x2)]) (st' := [.ref P]) rfl) ?_
      refine Tt.go (fun _ => Tr.get fmc7 hP rfl fw1025 (k := 1) (by decide) rfl) (?_ : Tt g l z_X7_change (emVw M0 w) _ 23 [(0, .ref P), (1, .int x1), (2, .int x2)] [.ref (P + 1)] (M, w))
      refine Tt.go (fun _ => Tr.run 7 (pc' := 32) (lv' := [(0, .ref P), (1, .int x1), (2, .int x2)]) (st' := [.int x2, .ref P, .int (((200 : Int32) * x1) + x2), .ref (P + 1)]) rfl) ?_
      refine Tt.callV (As := [.int x2]) (rest := [.int (((200 : Int32) * x1) + x2), .ref (P + 1)]) (c_X7_get g l hl P x2 hP M w) hP (by decide) rfl rfl cw_X7_get fw1109 pn_X7_get (Nat.le_of_ble_eq_true rfl) (Nat.le_of_ble_eq_true rfl) (Nat.le_of_ble_eq_true rfl) rfl (fun v1 => (?_ : Tt g l z_X7_change (emVw M0 w) _ 35 [(0, .ref P), (1, .int x1), (2, .int x2)] [.int v1, .int (((200 : Int32) * x1) + x2), .ref (P + 1)] (M, w)))
      refine Tt.ck (fun hi_2 => ?_)
      refine Tt.go (fun _ => Tr.iast (fmk_7_1 hP) (by decide) hi_2 rfl) (?_ : Tt g l z_X7_change (emVw M0 w) _ 36 [(0, .ref P), (1, .int x1), (2, .int x2)] [] ((fm_up M (P + 1) (Int32.toNatClampNeg (((200 : Int32) * x1) + x2)) v1), w))
      refine Tt.go (fun _ => Tr.run 2 (pc' := 12) (lv' := [(2, .int (x2 + (1 : Int32))), (0, .ref P), (1, .int x1)]) (st' := []) rfl) ?_
      refine Tt.go (fun _ => Tr.sub (lv' := [(0, .ref P), (1, .int x1), (2, .int (x2 + (1 : Int32)))]) [1, 2, 0] rfl) ?_
      exact ih x1 (x2 + (1 : Int32)) (fm_up M (P + 1) (Int32.toNatClampNeg (((200 : Int32) * x1) + x2)) v1)
def f_X7_change (P : Nat) (M : fm_Mem) : Option (fm_Mem) := (f_X7_change_12 P fm_fuel (fm_rem ((M P 3) + (1 : Int32)) (9 : Int32)) (0 : Int32) M)
set_option maxRecDepth 100000 in
set_option maxHeartbeats 4000000 in
theorem t_X7_change (g : fm_G) (l : Launch) (hl : l.stackTraces = false) (P : Nat) (hP : fm_kd g P = 7) (M : fm_Mem) (w : fm_W) : Tt g l z_X7_change (emVw M w) (f_X7_change P M) 0 [(0, .ref P)] [] (M, w) := by
  rw [f_X7_change]
  refine Tt.go (fun _ => Tr.run 1 (pc' := 1) (lv' := [(0, .ref P)]) (st' := [.ref P]) rfl) ?_
  refine Tt.go (fun _ => Tr.get fmc7 hP rfl fw1027 (k := 3) (by decide) rfl) (?_ : Tt g l z_X7_change (emVw M w) _ 4 [(0, .ref P)] [.int (M P 3)] (M, w))
  refine Tt.go (fun _ => Tr.run 3 (pc' := 8) (lv' := [(0, .ref P)]) (st' := [.int (9 : Int32), .int ((M P 3) + (1 : Int32))]) rfl) ?_
  refine Tt.go (fun _ => Tr.irem rfl (by decide)) (?_ : Tt g l z_X7_change (emVw M w) _ 9 [(0, .ref P)] [.int (fm_rem ((M P 3) + (1 : Int32)) (9 : Int32))] (M, w))
  refine Tt.go (fun _ => Tr.run 3 (pc' := 12) (lv' := [(2, .int (0 : Int32)), (1, .int (fm_rem ((M P 3) + (1 : Int32)) (9 : Int32))), (0, .ref P)]) (st' := []) rfl) ?_
  refine Tt.go (fun _ => Tr.sub (lv' := [(0, .ref P), (1, .int (fm_rem ((M P 3) + (1 : Int32)) (9 : Int32))), (2, .int (0 : Int32))]) [2, 1, 0] rfl) ?_
  exact t_X7_change_12 g l hl P hP w M fm_fuel (fm_rem ((M P 3) + (1 : Int32)) (9 : Int32)) (0 : Int32) M
theorem c_X7_change (g : fm_G) (l : Launch) (hl : l.stackTraces = false) (P : Nat) (hP : fm_kd g P = 7) (M : fm_Mem) (w : fm_W) : ∀ r, f_X7_change P M = some r → fC g l z_X7_change [.ref P] (M, w) (emVw M w r) := fun r hr => fC.of (by decide) rfl o_X7_change hl (Nat.le_of_ble_eq_true rfl) (t_X7_change g l hl P hP M w r hr)
def k_X7_right : List (Nat × Instr × Nat) := [(0, .aload_n 0, 1), (1, .getfield 35, 3), (4, .ifCond .ne 12, 3), (7, .iload_n 1, 1), (8, .ifCond .ne 8, 3), (11, .aload_n 0, 1), (12, .iload_n 2, 1), (13, .putfield 35, 3), (16, .aload_n 0, 1), (17, .getfield 35, 3), (20, .ifCond .ne 7, 3), (23, .iconst 1, 1), (24, .goto 4, 3), (27, .iconst 0, 1), (28, .ireturn, 1)]
def z_X7_right : fm_Y := (yX7_right, RX7, cX7_right, 3, (some .boolean), k_X7_right, 0, 0)
theorem o_X7_right : fm_dec z_X7_right := (by decide +kernel : ∀ q ∈ k_X7_right, decode cX7_right q.1 = .ok q.2)
theorem cw_X7_right : fm_cwV z_X7_right := ⟨⟨lw_in 1108 (by decide +kernel) (by decide +kernel), lw_in 99 (by decide +kernel) (by decide +kernel), by decide, by decide⟩, lw_in 1107 (by decide +kernel) (by decide +kernel), lw_in 29 (by decide +kernel) (by decide +kernel)⟩
theorem pn_X7_right : (parseMethodDescriptor z_X7_right.1.desc).map (fun d => d.parameters.length) = some 2 := by decide +kernel
def f_X7_right_28 (P : Nat) (a1 : Int32) (a2 : Int32) (s0 : Int32) (M : fm_Mem) : Option (Int32 × fm_Mem) := fm_ck (fm_bo s0) (some ((s0, M)))
set_option maxRecDepth 100000 in
set_option maxHeartbeats 4000000 in
theorem t_X7_right_28 (g : fm_G) (l : Launch) (hl : l.stackTraces = false) (P : Nat) (a1 : Int32) (a2 : Int32) (hP : fm_kd g P = 7) (w : fm_W) (M0 : fm_Mem)  (s0 : Int32)  (M : fm_Mem) : Tt g l z_X7_right (emIw M0 w) (f_X7_right_28 P a1 a2  s0 M) 28 [] [.int s0] (M, w) := by
  rw [f_X7_right_28]
  exact Tt.ck (fun hb_1 => Tt.ret (Tr.zret rfl rfl hb_1))
def f_X7_right_16 (P : Nat) (a1 : Int32) (a2 : Int32)  (M : fm_Mem) : Option (Int32 × fm_Mem) := if (M P 0) = 0 then (f_X7_right_28 P a1 a2 (1 : Int32) M) else (f_X7_right_28 P a1 a2 (0 : Int32) M)
set_option maxRecDepth 100000 in
set_option maxHeartbeats 4000000 in
theorem t_X7_right_16 (g : fm_G) (l : Launch) (hl : l.stackTraces = false) (P : Nat) (a1 : Int32) (a2 : Int32) (hP : fm_kd g P = 7) (w : fm_W) (M0 : fm_Mem)    (M : fm_Mem) : Tt g l z_X7_right (emIw M0 w) (f_X7_right_16 P a1 a2   M) 16 [(0, .ref P)] [] (M, w) := by
  rw [f_X7_right_16]
  refine Tt.go (fun _ => Tr.run 1 (pc' := 17) (lv' := [(0, .ref P)]) (st' := [.ref P]) rfl) ?_
  refine Tt.go (fun _ => Tr.get fmc7 hP rfl fw1024 (k := 0) (by decide) rfl) (?_ : Tt g l z_X7_right (emIw M0 w) _ 20 [(0, .ref P)] [.int (M P 0)] (M, w))
  refine Tt.if_ne (tgt := 27) rfl (by decide) ?_ ?_
  · refine Tt.go (fun _ => Tr.run 2 (pc' := 28) (lv' := [(0, .ref P)]) (st' := [.int (1 : Int32)]) rfl) ?_
    refine Tt.go (fun _ => Tr.sub (lv' := []) [] rfl) ?_
    exact t_X7_right_28 g l hl P a1 a2 hP w M0 (1 : Int32) M
  · refine Tt.go (fun _ => Tr.run 1 (pc' := 28) (lv' := [(0, .ref P)]) (st' := [.int (0 : Int32)]) rfl) ?_
    refine Tt.go (fun _ => Tr.sub (lv' := []) [] rfl) ?_
    exact t_X7_right_28 g l hl P a1 a2 hP w M0 (0 : Int32) M
def f_X7_right (P : Nat) (a1 : Int32) (a2 : Int32) (M : fm_Mem) : Option (Int32 × fm_Mem) := if (M P 0) = 0 then (if a1 = 0 then (f_X7_right_16 P a1 a2 (fm_up M P 0 a2)) else (f_X7_right_16 P a1 a2 M)) else (f_X7_right_16 P a1 a2 M)
set_option maxRecDepth 100000 in
set_option maxHeartbeats 4000000 in
theorem t_X7_right (g : fm_G) (l : Launch) (hl : l.stackTraces = false) (P : Nat) (a1 : Int32) (a2 : Int32) (hP : fm_kd g P = 7) (M : fm_Mem) (w : fm_W) : Tt g l z_X7_right (emIw M w) (f_X7_right P a1 a2 M) 0 [(0, .ref P), (1, .int a1), (2, .int a2)] [] (M, w) := by
  rw [f_X7_right]
  refine Tt.go (fun _ => Tr.run 1 (pc' := 1) (lv' := [(0, .ref P), (1, .int a1), (2, .int a2)]) (st' := [.ref P]) rfl) ?_
  refine Tt.go (fun _ => Tr.get fmc7 hP rfl fw1024 (k := 0) (by decide) rfl) (?_ : Tt g l z_X7_right (emIw M w) _ 4 [(0, .ref P), (1, .int a1), (2, .int a2)] [.int (M P 0)] (M, w))
  refine Tt.if_ne (tgt := 16) rfl (by decide) ?_ ?_
  · refine Tt.go (fun _ => Tr.run 1 (pc' := 8) (lv' := [(0, .ref P), (1, .int a1), (2, .int a2)]) (st' := [.int a1]) rfl) ?_
    refine Tt.if_ne (tgt := 16) rfl (by decide) ?_ ?_
    · refine Tt.go (fun _ => Tr.run 2 (pc' := 13) (lv' := [(0, .ref P), (1, .int a1), (2, .int a2)]) (st' := [.int a2, .ref P]) rfl) ?_
      refine Tt.go (fun _ => Tr.put fmc7 hP rfl fw1024 (k := 0) (by decide) rfl rfl ⟨rfl, rfl⟩) (?_ : Tt g l z_X7_right (emIw M w) _ 16 [(0, .ref P), (1, .int a1), (2, .int a2)] [] ((fm_up M P 0 a2), w))
      refine Tt.go (fun _ => Tr.sub (lv' := [(0, .ref P)]) [0] rfl) ?_
      exact t_X7_right_16 g l hl P a1 a2 hP w M (fm_up M P 0 a2)
    · refine Tt.go (fun _ => Tr.sub (lv' := [(0, .ref P)]) [0] rfl) ?_
      exact t_X7_right_16 g l hl P a1 a2 hP w M M
  · refine Tt.go (fun _ => Tr.sub (lv' := [(0, .ref P)]) [0] rfl) ?_
    exact t_X7_right_16 g l hl P a1 a2 hP w M M
theorem c_X7_right (g : fm_G) (l : Launch) (hl : l.stackTraces = false) (P : Nat) (a1 : Int32) (a2 : Int32) (hP : fm_kd g P = 7) (M : fm_Mem) (w : fm_W) : ∀ r, f_X7_right P a1 a2 M = some r → fC g l z_X7_right [.ref P, .int a1, .int a2] (M, w) (emIw M w r) := fun r hr => fC.of (by decide) rfl o_X7_right hl (Nat.le_of_ble_eq_true rfl) (t_X7_right g l hl P a1 a2 hP M w r hr)
def k_X7_points : List (Nat × Instr × Nat) := [(0, .aload_n 0, 1), (1, .iconst 0, 1), (2, .invokevirtual 41, 3), (5, .ireturn, 1)]
def z_X7_points : fm_Y := (yX7_points, RX7, cX7_points, 1, (some .int), k_X7_points, 1, 21)
theorem o_X7_points : fm_dec z_X7_points := (by decide +kernel : ∀ q ∈ k_X7_points, decode cX7_points q.1 = .ok q.2)
theorem cw_X7_points : fm_cwV z_X7_points := ⟨⟨lw_in 1159 (by decide +kernel) (by decide +kernel), lw_in 99 (by decide +kernel) (by decide +kernel), by decide, by decide⟩, lw_in 1158 (by decide +kernel) (by decide +kernel), lw_in 39 (by decide +kernel) (by decide +kernel)⟩
theorem pn_X7_points : (parseMethodDescriptor z_X7_points.1.desc).map (fun d => d.parameters.length) = some 0 := by decide +kernel
def f_X7_points (P : Nat) (M : fm_Mem) : Option (Int32) := Option.bind (f_X7_get P (0 : Int32) M) (fun v1 => some (v1))
set_option maxRecDepth 100000 in
set_option maxHeartbeats 4000000 in
theorem t_X7_points (g : fm_G) (l : Launch) (hl : l.stackTraces = false) (P : Nat) (hP : fm_kd g P = 7) (M : fm_Mem) (w : fm_W) : Tt g l z_X7_points (emI M w) (f_X7_points P M) 0 [(0, .ref P)] [] (M, w) := by
  rw [f_X7_points]
  refine Tt.go (fun _ => Tr.run 2 (pc' := 2) (lv' := [(0, .ref P)]) (st' := [.int (0 : Int32), .ref P]) rfl) ?_
  refine Tt.callV (As := [.int (0 : Int32)]) (rest := []) (c_X7_get g l hl P (0 : Int32) hP M w) hP (by decide) rfl rfl cw_X7_get fw1109 pn_X7_get (Nat.le_of_ble_eq_true rfl) (Nat.le_of_ble_eq_true rfl) (Nat.le_of_ble_eq_true rfl) rfl (fun v1 => (?_ : Tt g l z_X7_points (emI M w) _ 5 [(0, .ref P)] [.int v1] (M, w)))
  exact Tt.ret (Tr.iret rfl rfl)
theorem c_X7_points (g : fm_G) (l : Launch) (hl : l.stackTraces = false) (P : Nat) (hP : fm_kd g P = 7) (M : fm_Mem) (w : fm_W) : ∀ r, f_X7_points P M = some r → fC g l z_X7_points [.ref P] (M, w) (emI M w r) := fun r hr => fC.of (by decide) rfl o_X7_points hl (Nat.le_of_ble_eq_true rfl) (t_X7_points g l hl P hP M w r hr)
def k_X7_isPoint : List (Nat × Instr × Nat) := [(0, .iload_n 1, 1), (1, .iconst 0, 1), (2, .aload_n 0, 1), (3, .invokevirtual 48, 3), (6, .iconst 1, 1), (7, .isub, 1), (8, .invokestatic 52, 3), (11, .ireturn, 1)]
def z_X7_isPoint : fm_Y := (yX7_isPoint, RX7, cX7_isPoint, 2, (some .boolean), k_X7_isPoint, 2, 41)
theorem o_X7_isPoint : fm_dec z_X7_isPoint := (by decide +kernel : ∀ q ∈ k_X7_isPoint, decode cX7_isPoint q.1 = .ok q.2)
theorem cw_X7_isPoint : fm_cwV z_X7_isPoint := ⟨⟨lw_in 1318 (by decide +kernel) (by decide +kernel), lw_in 99 (by decide +kernel) (by decide +kernel), by decide, by decide⟩, lw_in 1317 (by decide +kernel) (by decide +kernel), lw_in 73 (by decide +kernel) (by decide +kernel)⟩
theorem pn_X7_isPoint : (parseMethodDescriptor z_X7_isPoint.1.desc).map (fun d => d.parameters.length) = some 1 := by decide +kernel
def f_X7_isPoint (P : Nat) (a1 : Int32) (M : fm_Mem) : Option (Int32) := Option.bind (f_X7_points P M) (fun v1 => Option.bind (f_X7_isIn a1 (0 : Int32) (v1 - (1 : Int32)) M) (fun v2 => fm_ck (fm_bo v2) (some (v2))))
set_option maxRecDepth 100000 in
set_option maxHeartbeats 4000000 in
theorem t_X7_isPoint (g : fm_G) (l : Launch) (hl : l.stackTraces = false) (P : Nat) (a1 : Int32) (hP : fm_kd g P = 7) (M : fm_Mem) (w : fm_W) : Tt g l z_X7_isPoint (emI M w) (f_X7_isPoint P a1 M) 0 [(0, .ref P), (1, .int a1)] [] (M, w) := by
  rw [f_X7_isPoint]
  refine Tt.go (fun _ => Tr.run 3 (pc' := 3) (lv' := [(0, .ref P), (1, .int a1)]) (st' := [.ref P, .int (0 : Int32), .int a1]) rfl) ?_
  refine Tt.callV (As := []) (rest := [.int (0 : Int32), .int a1]) (c_X7_points g l hl P hP M w) hP (by decide) rfl rfl cw_X7_points fw1156 pn_X7_points (Nat.le_of_ble_eq_true rfl) (Nat.le_of_ble_eq_true rfl) (Nat.le_of_ble_eq_true rfl) rfl (fun v1 => (?_ : Tt g l z_X7_isPoint (emI M w) _ 6 [(0, .ref P), (1, .int a1)] [.int v1, .int (0 : Int32), .int a1] (M, w)))
  refine Tt.go (fun _ => Tr.run 2 (pc' := 8) (lv' := [(0, .ref P), (1, .int a1)]) (st' := [.int (v1 - (1 : Int32)), .int (0 : Int32), .int a1]) rfl) ?_
  refine Tt.callS (As := [.int a1, .int (0 : Int32), .int (v1 - (1 : Int32))]) (rest := []) (c_X7_isIn g l hl a1 (0 : Int32) (v1 - (1 : Int32)) M w) rfl cw_X7_isIn fw1102 pn_X7_isIn (Nat.le_of_ble_eq_true rfl) (Nat.le_of_ble_eq_true rfl) (Nat.le_of_ble_eq_true rfl) rfl (fun v2 => (?_ : Tt g l z_X7_isPoint (emI M w) _ 11 [(0, .ref P), (1, .int a1)] [.int v2] (M, w)))
  exact Tt.ck (fun hb_3 => Tt.ret (Tr.zret rfl rfl hb_3))
theorem c_X7_isPoint (g : fm_G) (l : Launch) (hl : l.stackTraces = false) (P : Nat) (a1 : Int32) (hP : fm_kd g P = 7) (M : fm_Mem) (w : fm_W) : ∀ r, f_X7_isPoint P a1 M = some r → fC g l z_X7_isPoint [.ref P, .int a1] (M, w) (emI M w r) := fun r hr => fC.of (by decide) rfl o_X7_isPoint hl (Nat.le_of_ble_eq_true rfl) (t_X7_isPoint g l hl P a1 hP M w r hr)
def k_X7_x : List (Nat × Instr × Nat) := [(0, .aload_n 0, 1), (1, .bipush 10, 2), (3, .iconst 2, 1), (4, .iload_n 1, 1), (5, .imul, 1), (6, .iadd, 1), (7, .invokevirtual 41, 3), (10, .ireturn, 1)]
def z_X7_x : fm_Y := (yX7_x, RX7, cX7_x, 2, (some .int), k_X7_x, 1, 21)
theorem o_X7_x : fm_dec z_X7_x := (by decide +kernel : ∀ q ∈ k_X7_x, decode cX7_x q.1 = .ok q.2)
theorem cw_X7_x : fm_cwV z_X7_x := ⟨⟨lw_in 1167 (by decide +kernel) (by decide +kernel), lw_in 99 (by decide +kernel) (by decide +kernel), by decide, by decide⟩, lw_in 1166 (by decide +kernel) (by decide +kernel), lw_in 41 (by decide +kernel) (by decide +kernel)⟩
theorem pn_X7_x : (parseMethodDescriptor z_X7_x.1.desc).map (fun d => d.parameters.length) = some 1 := by decide +kernel
def f_X7_x (P : Nat) (a1 : Int32) (M : fm_Mem) : Option (Int32) := Option.bind (f_X7_get P ((10 : Int32) + ((2 : Int32) * a1)) M) (fun v1 => some (v1))
set_option maxRecDepth 100000 in
set_option maxHeartbeats 4000000 in
theorem t_X7_x (g : fm_G) (l : Launch) (hl : l.stackTraces = false) (P : Nat) (a1 : Int32) (hP : fm_kd g P = 7) (M : fm_Mem) (w : fm_W) : Tt g l z_X7_x (emI M w) (f_X7_x P a1 M) 0 [(0, .ref P), (1, .int a1)] [] (M, w) := by
  rw [f_X7_x]
  refine Tt.go (fun _ => Tr.run 6 (pc' := 7) (lv' := [(0, .ref P), (1, .int a1)]) (st' := [.int ((10 : Int32) + ((2 : Int32) * a1)), .ref P]) rfl) ?_
  refine Tt.callV (As := [.int ((10 : Int32) + ((2 : Int32) * a1))]) (rest := []) (c_X7_get g l hl P ((10 : Int32) + ((2 : Int32) * a1)) hP M w) hP (by decide) rfl rfl cw_X7_get fw1109 pn_X7_get (Nat.le_of_ble_eq_true rfl) (Nat.le_of_ble_eq_true rfl) (Nat.le_of_ble_eq_true rfl) rfl (fun v1 => (?_ : Tt g l z_X7_x (emI M w) _ 10 [(0, .ref P), (1, .int a1)] [.int v1] (M, w)))
  exact Tt.ret (Tr.iret rfl rfl)
theorem c_X7_x (g : fm_G) (l : Launch) (hl : l.stackTraces = false) (P : Nat) (a1 : Int32) (hP : fm_kd g P = 7) (M : fm_Mem) (w : fm_W) : ∀ r, f_X7_x P a1 M = some r → fC g l z_X7_x [.ref P, .int a1] (M, w) (emI M w r) := fun r hr => fC.of (by decide) rfl o_X7_x hl (Nat.le_of_ble_eq_true rfl) (t_X7_x g l hl P a1 hP M w r hr)
def k_X7_y : List (Nat × Instr × Nat) := [(0, .aload_n 0, 1), (1, .bipush 10, 2), (3, .iconst 2, 1), (4, .iload_n 1, 1), (5, .imul, 1), (6, .iadd, 1), (7, .iconst 1, 1), (8, .iadd, 1), (9, .invokevirtual 41, 3), (12, .ireturn, 1)]
def z_X7_y : fm_Y := (yX7_y, RX7, cX7_y, 2, (some .int), k_X7_y, 1, 21)
theorem o_X7_y : fm_dec z_X7_y := (by decide +kernel : ∀ q ∈ k_X7_y, decode cX7_y q.1 = .ok q.2)
theorem cw_X7_y : fm_cwV z_X7_y := ⟨⟨lw_in 1171 (by decide +kernel) (by decide +kernel), lw_in 99 (by decide +kernel) (by decide +kernel), by decide, by decide⟩, lw_in 1170 (by decide +kernel) (by decide +kernel), lw_in 42 (by decide +kernel) (by decide +kernel)⟩
theorem pn_X7_y : (parseMethodDescriptor z_X7_y.1.desc).map (fun d => d.parameters.length) = some 1 := by decide +kernel
def f_X7_y (P : Nat) (a1 : Int32) (M : fm_Mem) : Option (Int32) := Option.bind (f_X7_get P (((10 : Int32) + ((2 : Int32) * a1)) + (1 : Int32)) M) (fun v1 => some (v1))
set_option maxRecDepth 100000 in
set_option maxHeartbeats 4000000 in
theorem t_X7_y (g : fm_G) (l : Launch) (hl : l.stackTraces = false) (P : Nat) (a1 : Int32) (hP : fm_kd g P = 7) (M : fm_Mem) (w : fm_W) : Tt g l z_X7_y (emI M w) (f_X7_y P a1 M) 0 [(0, .ref P), (1, .int a1)] [] (M, w) := by
  rw [f_X7_y]
  refine Tt.go (fun _ => Tr.run 8 (pc' := 9) (lv' := [(0, .ref P), (1, .int a1)]) (st' := [.int (((10 : Int32) + ((2 : Int32) * a1)) + (1 : Int32)), .ref P]) rfl) ?_
  refine Tt.callV (As := [.int (((10 : Int32) + ((2 : Int32) * a1)) + (1 : Int32))]) (rest := []) (c_X7_get g l hl P (((10 : Int32) + ((2 : Int32) * a1)) + (1 : Int32)) hP M w) hP (by decide) rfl rfl cw_X7_get fw1109 pn_X7_get (Nat.le_of_ble_eq_true rfl) (Nat.le_of_ble_eq_true rfl) (Nat.le_of_ble_eq_true rfl) rfl (fun v1 => (?_ : Tt g l z_X7_y (emI M w) _ 12 [(0, .ref P), (1, .int a1)] [.int v1] (M, w)))
  exact Tt.ret (Tr.iret rfl rfl)
theorem c_X7_y (g : fm_G) (l : Launch) (hl : l.stackTraces = false) (P : Nat) (a1 : Int32) (hP : fm_kd g P = 7) (M : fm_Mem) (w : fm_W) : ∀ r, f_X7_y P a1 M = some r → fC g l z_X7_y [.ref P, .int a1] (M, w) (emI M w r) := fun r hr => fC.of (by decide) rfl o_X7_y hl (Nat.le_of_ble_eq_true rfl) (t_X7_y g l hl P a1 hP M w r hr)
def k_X7_pointAt : List (Nat × Instr × Nat) := [(0, .iconst 0, 1), (1, .istore_n 3, 1), (2, .iload_n 3, 1), (3, .aload_n 0, 1), (4, .invokevirtual 48, 3), (7, .if_icmp .ge 29, 3), (10, .aload_n 0, 1), (11, .iload_n 3, 1), (12, .invokevirtual 56, 3), (15, .iload_n 1, 1), (16, .if_icmp .ne 14, 3), (19, .aload_n 0, 1), (20, .iload_n 3, 1), (21, .invokevirtual 59, 3), (24, .iload_n 2, 1), (25, .if_icmp .ne 5, 3), (28, .iload_n 3, 1), (29, .ireturn, 1), (30, .iinc 3 1, 3), (33, .goto (-31), 3), (36, .iconst (-1), 1), (37, .ireturn, 1)]
def z_X7_pointAt : fm_Y := (yX7_pointAt, RX7, cX7_pointAt, 4, (some .int), k_X7_pointAt, 2, 42)
theorem o_X7_pointAt : fm_dec z_X7_pointAt := (by decide +kernel : ∀ q ∈ k_X7_pointAt, decode cX7_pointAt q.1 = .ok q.2)
theorem cw_X7_pointAt : fm_cwV z_X7_pointAt := ⟨⟨lw_in 1163 (by decide +kernel) (by decide +kernel), lw_in 99 (by decide +kernel) (by decide +kernel), by decide, by decide⟩, lw_in 1162 (by decide +kernel) (by decide +kernel), lw_in 40 (by decide +kernel) (by decide +kernel)⟩
theorem pn_X7_pointAt : (parseMethodDescriptor z_X7_pointAt.1.desc).map (fun d => d.parameters.length) = some 2 := by decide +kernel
def f_X7_pointAt_30 (P : Nat) (a1 : Int32) (a2 : Int32) (k2 : Int32 → fm_Mem → Option (Int32)) (x3 : Int32) (M : fm_Mem) : Option (Int32) := (k2 (x3 + (1 : Int32)) M)
set_option maxRecDepth 100000 in
set_option maxHeartbeats 4000000 in
theorem t_X7_pointAt_30 (g : fm_G) (l : Launch) (hl : l.stackTraces = false) (P : Nat) (a1 : Int32) (a2 : Int32) (hP : fm_kd g P = 7) (w : fm_W) (k2 : Int32 → fm_Mem → Option (Int32)) (hk2 : ∀ (x3 : Int32) (M : fm_Mem), Tt g l z_X7_pointAt (emI M w) (k2 x3 M) 2 [(0, .ref P), (1, .int a1), (2, .int a2), (3, .int x3)] [] (M, w)) (x3 : Int32)  (M : fm_Mem) : Tt g l z_X7_pointAt (emI M w) (f_X7_pointAt_30 P a1 a2 k2 x3 M) 30 [(0, .ref P), (1, .int a1), (2, .int a2), (3, .int x3)] [] (M, w) := by
  rw [f_X7_pointAt_30]
  refine Tt.go (fun _ => Tr.run 2 (pc' := 2) (lv' := [(3, .int (x3 + (1 : Int32))), (0, .ref P), (1, .int a1), (2, .int a2)]) (st' := []) rfl) ?_
  refine Tt.go (fun _ => Tr.sub (lv' := [(0, .ref P), (1, .int a1), (2, .int a2), (3, .int (x3 + (1 : Int32)))]) [1, 2, 3, 0] rfl) ?_
  exact hk2 (x3 + (1 : Int32)) M
def f_X7_pointAt_2 (P : Nat) (a1 : Int32) (a2 : Int32) : Nat → Int32 → fm_Mem → Option (Int32)
  | 0, _, _ => none
  | n + 1, x3, M => Option.bind (f_X7_points P M) (fun v1 => if v1 ≤ x3 then (some ((-1 : Int32))) else (Option.bind (f_X7_x P x3 M) (fun v2 => if v2 = a1 then (Option.bind (f_X7_y P x3 M) (fun v3 => if v3 = a2 then (some (x3)) else (f_X7_pointAt_30 P a1 a2 (fun x3 M => f_X7_pointAt_2 P a1 a2 n x3 M) x3 M))) else (f_X7_pointAt_30 P a1 a2 (fun x3 M => f_X7_pointAt_2 P a1 a2 n x3 M) x3 M))))
set_option maxRecDepth 100000 in
set_option maxHeartbeats 4000000 in
theorem t_X7_pointAt_2 (g : fm_G) (l : Launch) (hl : l.stackTraces = false) (P : Nat) (a1 : Int32) (a2 : Int32) (hP : fm_kd g P = 7) (w : fm_W)  : ∀ (n : Nat) (x3 : Int32)  (M : fm_Mem), Tt g l z_X7_pointAt (emI M w) (f_X7_pointAt_2 P a1 a2  n x3 M) 2 [(0, .ref P), (1, .int a1), (2, .int a2), (3, .int x3)] [] (M, w) := by
  intro n
  induction n with
  | zero => intros; exact Tt.none
  | succ n ih =>
    intro x3  M
    rw [f_X7_pointAt_2]
    refine Tt.go (fun _ => Tr.run 2 (pc' := 4) (lv' := [(0, .ref P), (1, .int a1), (2, .int a2), (3, .int x3)]) (st' := [.ref P, .int x3]) rfl) ?_
    refine Tt.callV (As := []) (rest := [.int x3]) (c_X7_points g l hl P hP M w) hP (by decide) rfl rfl cw_X7_points fw1156 pn_X7_points (Nat.le_of_ble_eq_true rfl) (Nat.le_of_ble_eq_true rfl) (Nat.le_of_ble_eq_true rfl) rfl (fun v1 => (?_ : Tt g l z_X7_pointAt (emI M w) _ 7 [(0, .ref P), (1, .int a1), (2, .int a2), (3, .int x3)] [.int v1, .int x3] (M, w)))
    refine Tt.ic_ge (tgt := 36) rfl (by decide) ?_ ?_
    · refine Tt.go (fun _ => Tr.run 1 (pc' := 37) (lv' := [(0, .ref P), (1, .int a1), (2, .int a2), (3, .int x3)]) (st' := [.int (-1 : Int32)]) rfl) ?_
      exact Tt.ret (Tr.iret rfl rfl)
    · refine Tt.go (fun _ => Tr.run 2 (pc' := 12) (lv' := [(0, .ref P), (1, .int a1), (2, .int a2), (3, .int x3)]) (st' := [.int x3, .ref P]) rfl) ?_
      refine Tt.callV (As := [.int x3]) (rest := []) (c_X7_x g l hl P x3 hP M w) hP (by decide) rfl rfl cw_X7_x fw1164 pn_X7_x (Nat.le_of_ble_eq_true rfl) (Nat.le_of_ble_eq_true rfl) (Nat.le_of_ble_eq_true rfl) rfl (fun v2 => (?_ : Tt g l z_X7_pointAt (emI M w) _ 15 [(0, .ref P), (1, .int a1), (2, .int a2), (3, .int x3)] [.int v2] (M, w)))
      refine Tt.go (fun _ => Tr.run 1 (pc' := 16) (lv' := [(0, .ref P), (1, .int a1), (2, .int a2), (3, .int x3)]) (st' := [.int a1, .int v2]) rfl) ?_
      refine Tt.ic_ne (tgt := 30) rfl (by decide) ?_ ?_
      · refine Tt.go (fun _ => Tr.run 2 (pc' := 21) (lv' := [(0, .ref P), (1, .int a1), (2, .int a2), (3, .int x3)]) (st' := [.int x3, .ref P]) rfl) ?_
        refine Tt.callV (As := [.int x3]) (rest := []) (c_X7_y g l hl P x3 hP M w) hP (by decide) rfl rfl cw_X7_y fw1168 pn_X7_y (Nat.le_of_ble_eq_true rfl) (Nat.le_of_ble_eq_true rfl) (Nat.le_of_ble_eq_true rfl) rfl (fun v3 => (?_ : Tt g l z_X7_pointAt (emI M w) _ 24 [(0, .ref P), (1, .int a1), (2, .int a2), (3, .int x3)] [.int v3] (M, w)))
        refine Tt.go (fun _ => Tr.run 1 (pc' := 25) (lv' := [(0, .ref P), (1, .int a1), (2, .int a2), (3, .int x3)]) (st' := [.int a2, .int v3]) rfl) ?_
        refine Tt.ic_ne (tgt := 30) rfl (by decide) ?_ ?_
        · refine Tt.go (fun _ => Tr.run 1 (pc' := 29) (lv' := [(0, .ref P), (1, .int a1), (2, .int a2), (3, .int x3)]) (st' := [.int x3]) rfl) ?_
          exact Tt.ret (Tr.iret rfl rfl)
        · exact t_X7_pointAt_30 g l hl P a1 a2 hP w _ ih x3 M
      · exact t_X7_pointAt_30 g l hl P a1 a2 hP w _ ih x3 M
def f_X7_pointAt (P : Nat) (a1 : Int32) (a2 : Int32) (M : fm_Mem) : Option (Int32) := (f_X7_pointAt_2 P a1 a2 fm_fuel (0 : Int32) M)
set_option maxRecDepth 100000 in
set_option maxHeartbeats 4000000 in
theorem t_X7_pointAt (g : fm_G) (l : Launch) (hl : l.stackTraces = false) (P : Nat) (a1 : Int32) (a2 : Int32) (hP : fm_kd g P = 7) (M : fm_Mem) (w : fm_W) : Tt g l z_X7_pointAt (emI M w) (f_X7_pointAt P a1 a2 M) 0 [(0, .ref P), (1, .int a1), (2, .int a2)] [] (M, w) := by
  rw [f_X7_pointAt]
  refine Tt.go (fun _ => Tr.run 2 (pc' := 2) (lv' := [(3, .int (0 : Int32)), (0, .ref P), (1, .int a1), (2, .int a2)]) (st' := []) rfl) ?_
  refine Tt.go (fun _ => Tr.sub (lv' := [(0, .ref P), (1, .int a1), (2, .int a2), (3, .int (0 : Int32))]) [1, 2, 3, 0] rfl) ?_
  exact t_X7_pointAt_2 g l hl P a1 a2 hP w fm_fuel (0 : Int32) M
theorem c_X7_pointAt (g : fm_G) (l : Launch) (hl : l.stackTraces = false) (P : Nat) (a1 : Int32) (a2 : Int32) (hP : fm_kd g P = 7) (M : fm_Mem) (w : fm_W) : ∀ r, f_X7_pointAt P a1 a2 M = some r → fC g l z_X7_pointAt [.ref P, .int a1, .int a2] (M, w) (emI M w r) := fun r hr => fC.of (by decide) rfl o_X7_pointAt hl (Nat.le_of_ble_eq_true rfl) (t_X7_pointAt g l hl P a1 a2 hP M w r hr)
def k_X7_turnOf : List (Nat × Instr × Nat) := [(0, .lload 4, 2), (2, .lload_n 0, 1), (3, .lsub, 1), (4, .lload 10, 2), (6, .lload_n 2, 1), (7, .lsub, 1), (8, .lmul, 1), (9, .lload 6, 2), (11, .lload_n 2, 1), (12, .lsub, 1), (13, .lload 8, 2), (15, .lload_n 0, 1), (16, .lsub, 1), (17, .lmul, 1), (18, .lsub, 1), (19, .lreturn, 1)]
def z_X7_turnOf : fm_Y := (yX7_turnOf, RX7, cX7_turnOf, 12, (some .long), k_X7_turnOf, 0, 0)
theorem o_X7_turnOf : fm_dec z_X7_turnOf := (by decide +kernel : ∀ q ∈ k_X7_turnOf, decode cX7_turnOf q.1 = .ok q.2)
theorem cw_X7_turnOf : fm_cwS z_X7_turnOf := ⟨⟨lw_in 1199 (by decide +kernel) (by decide +kernel), lw_in 99 (by decide +kernel) (by decide +kernel), by decide, by decide⟩, lw_in 1198 (by decide +kernel) (by decide +kernel)⟩
theorem pn_X7_turnOf : (parseMethodDescriptor z_X7_turnOf.1.desc).map (fun d => d.parameters.length) = some 6 := by decide +kernel
def f_X7_turnOf (a0 : Int64) (a2 : Int64) (a4 : Int64) (a6 : Int64) (a8 : Int64) (a10 : Int64) (M : fm_Mem) : Option (Int64) := some ((((a4 - a0) * (a10 - a2)) - ((a6 - a2) * (a8 - a0))))
set_option maxRecDepth 100000 in
set_option maxHeartbeats 4000000 in
theorem t_X7_turnOf (g : fm_G) (l : Launch) (hl : l.stackTraces = false) (a0 : Int64) (a2 : Int64) (a4 : Int64) (a6 : Int64) (a8 : Int64) (a10 : Int64)  (M : fm_Mem) (w : fm_W) : Tt g l z_X7_turnOf (emJ M w) (f_X7_turnOf a0 a2 a4 a6 a8 a10 M) 0 [(0, .long a0), (2, .long a2), (4, .long a4), (6, .long a6), (8, .long a8), (10, .long a10)] [] (M, w) := by
  rw [f_X7_turnOf]
  refine Tt.go (fun _ => Tr.run 15 (pc' := 19) (lv' := [(0, .long a0), (2, .long a2), (4, .long a4), (6, .long a6), (8, .long a8), (10, .long a10)]) (st' := [.long (((a4 - a0) * (a10 - a2)) - ((a6 - a2) * (a8 - a0)))]) rfl) ?_
  exact Tt.ret (Tr.lret rfl rfl)
theorem c_X7_turnOf (g : fm_G) (l : Launch) (hl : l.stackTraces = false) (a0 : Int64) (a2 : Int64) (a4 : Int64) (a6 : Int64) (a8 : Int64) (a10 : Int64)  (M : fm_Mem) (w : fm_W) : ∀ r, f_X7_turnOf a0 a2 a4 a6 a8 a10 M = some r → fC g l z_X7_turnOf [.long a0, .long a2, .long a4, .long a6, .long a8, .long a10] (M, w) (emJ M w r) := fun r hr => fC.of (by decide) rfl o_X7_turnOf hl (Nat.le_of_ble_eq_true rfl) (t_X7_turnOf g l hl a0 a2 a4 a6 a8 a10  M w r hr)
def k_X7_turn : List (Nat × Instr × Nat) := [(0, .aload_n 0, 1), (1, .iload_n 1, 1), (2, .invokevirtual 56, 3), (5, .i2l, 1), (6, .aload_n 0, 1), (7, .iload_n 1, 1), (8, .invokevirtual 59, 3), (11, .i2l, 1), (12, .aload_n 0, 1), (13, .iload_n 2, 1), (14, .invokevirtual 56, 3), (17, .i2l, 1), (18, .aload_n 0, 1), (19, .iload_n 2, 1), (20, .invokevirtual 59, 3), (23, .i2l, 1), (24, .aload_n 0, 1), (25, .iload_n 3, 1), (26, .invokevirtual 56, 3), (29, .i2l, 1), (30, .aload_n 0, 1), (31, .iload_n 3, 1), (32, .invokevirtual 59, 3), (35, .i2l, 1), (36, .invokestatic 62, 3), (39, .lreturn, 1)]
def z_X7_turn : fm_Y := (yX7_turn, RX7, cX7_turn, 4, (some .long), k_X7_turn, 2, 50)
theorem o_X7_turn : fm_dec z_X7_turn := (by decide +kernel : ∀ q ∈ k_X7_turn, decode cX7_turn q.1 = .ok q.2)
theorem cw_X7_turn : fm_cwV z_X7_turn := ⟨⟨lw_in 1196 (by decide +kernel) (by decide +kernel), lw_in 99 (by decide +kernel) (by decide +kernel), by decide, by decide⟩, lw_in 1195 (by decide +kernel) (by decide +kernel), lw_in 48 (by decide +kernel) (by decide +kernel)⟩
theorem pn_X7_turn : (parseMethodDescriptor z_X7_turn.1.desc).map (fun d => d.parameters.length) = some 3 := by decide +kernel
def f_X7_turn (P : Nat) (a1 : Int32) (a2 : Int32) (a3 : Int32) (M : fm_Mem) : Option (Int64) := Option.bind (f_X7_x P a1 M) (fun v1 => Option.bind (f_X7_y P a1 M) (fun v2 => Option.bind (f_X7_x P a2 M) (fun v3 => Option.bind (f_X7_y P a2 M) (fun v4 => Option.bind (f_X7_x P a3 M) (fun v5 => Option.bind (f_X7_y P a3 M) (fun v6 => Option.bind (f_X7_turnOf (Int32.toInt64 v1) (Int32.toInt64 v2) (Int32.toInt64 v3) (Int32.toInt64 v4) (Int32.toInt64 v5) (Int32.toInt64 v6) M) (fun v7 => some (v7))))))))
set_option maxRecDepth 100000 in
set_option maxHeartbeats 4000000 in
theorem t_X7_turn (g : fm_G) (l : Launch) (hl : l.stackTraces = false) (P : Nat) (a1 : Int32) (a2 : Int32) (a3 : Int32) (hP : fm_kd g P = 7) (M : fm_Mem) (w : fm_W) : Tt g l z_X7_turn (emJ M w) (f_X7_turn P a1 a2 a3 M) 0 [(0, .ref P), (1, .int a1), (2, .int a2), (3, .int a3)] [] (M, w) := by
  rw [f_X7_turn]
  refine Tt.go (fun _ => Tr.run 2 (pc' := 2) (lv' := [(0, .ref P), (1, .int a1), (2, .int a2), (3, .int a3)]) (st' := [.int a1, .ref P]) rfl) ?_
  refine Tt.callV (As := [.int a1]) (rest := []) (c_X7_x g l hl P a1 hP M w) hP (by decide) rfl rfl cw_X7_x fw1164 pn_X7_x (Nat.le_of_ble_eq_true rfl) (Nat.le_of_ble_eq_true rfl) (Nat.le_of_ble_eq_true rfl) rfl (fun v1 => (?_ : Tt g l z_X7_turn (emJ M w) _ 5 [(0, .ref P), (1, .int a1), (2, .int a2), (3, .int a3)] [.int v1] (M, w)))
  refine Tt.go (fun _ => Tr.run 3 (pc' := 8) (lv' := [(0, .ref P), (1, .int a1), (2, .int a2), (3, .int a3)]) (st' := [.int a1, .ref P, .long (Int32.toInt64 v1)]) rfl) ?_
  refine Tt.callV (As := [.int a1]) (rest := [.long (Int32.toInt64 v1)]) (c_X7_y g l hl P a1 hP M w) hP (by decide) rfl rfl cw_X7_y fw1168 pn_X7_y (Nat.le_of_ble_eq_true rfl) (Nat.le_of_ble_eq_true rfl) (Nat.le_of_ble_eq_true rfl) rfl (fun v2 => (?_ : Tt g l z_X7_turn (emJ M w) _ 11 [(0, .ref P), (1, .int a1), (2, .int a2), (3, .int a3)] [.int v2, .long (Int32.toInt64 v1)] (M, w)))
  refine Tt.go (fun _ => Tr.run 3 (pc' := 14) (lv' := [(0, .ref P), (1, .int a1), (2, .int a2), (3, .int a3)]) (st' := [.int a2, .ref P, .long (Int32.toInt64 v2), .long (Int32.toInt64 v1)]) rfl) ?_
  refine Tt.callV (As := [.int a2]) (rest := [.long (Int32.toInt64 v2), .long (Int32.toInt64 v1)]) (c_X7_x g l hl P a2 hP M w) hP (by decide) rfl rfl cw_X7_x fw1164 pn_X7_x (Nat.le_of_ble_eq_true rfl) (Nat.le_of_ble_eq_true rfl) (Nat.le_of_ble_eq_true rfl) rfl (fun v3 => (?_ : Tt g l z_X7_turn (emJ M w) _ 17 [(0, .ref P), (1, .int a1), (2, .int a2), (3, .int a3)] [.int v3, .long (Int32.toInt64 v2), .long (Int32.toInt64 v1)] (M, w)))
  refine Tt.go (fun _ => Tr.run 3 (pc' := 20) (lv' := [(0, .ref P), (1, .int a1), (2, .int a2), (3, .int a3)]) (st' := [.int a2, .ref P, .long (Int32.toInt64 v3), .long (Int32.toInt64 v2), .long (Int32.toInt64 v1)]) rfl) ?_
  refine Tt.callV (As := [.int a2]) (rest := [.long (Int32.toInt64 v3), .long (Int32.toInt64 v2), .long (Int32.toInt64 v1)]) (c_X7_y g l hl P a2 hP M w) hP (by decide) rfl rfl cw_X7_y fw1168 pn_X7_y (Nat.le_of_ble_eq_true rfl) (Nat.le_of_ble_eq_true rfl) (Nat.le_of_ble_eq_true rfl) rfl (fun v4 => (?_ : Tt g l z_X7_turn (emJ M w) _ 23 [(0, .ref P), (1, .int a1), (2, .int a2), (3, .int a3)] [.int v4, .long (Int32.toInt64 v3), .long (Int32.toInt64 v2), .long (Int32.toInt64 v1)] (M, w)))
  refine Tt.go (fun _ => Tr.run 3 (pc' := 26) (lv' := [(0, .ref P), (1, .int a1), (2, .int a2), (3, .int a3)]) (st' := [.int a3, .ref P, .long (Int32.toInt64 v4), .long (Int32.toInt64 v3), .long (Int32.toInt64 v2), .long (Int32.toInt64 v1)]) rfl) ?_
  refine Tt.callV (As := [.int a3]) (rest := [.long (Int32.toInt64 v4), .long (Int32.toInt64 v3), .long (Int32.toInt64 v2), .long (Int32.toInt64 v1)]) (c_X7_x g l hl P a3 hP M w) hP (by decide) rfl rfl cw_X7_x fw1164 pn_X7_x (Nat.le_of_ble_eq_true rfl) (Nat.le_of_ble_eq_true rfl) (Nat.le_of_ble_eq_true rfl) rfl (fun v5 => (?_ : Tt g l z_X7_turn (emJ M w) _ 29 [(0, .ref P), (1, .int a1), (2, .int a2), (3, .int a3)] [.int v5, .long (Int32.toInt64 v4), .long (Int32.toInt64 v3), .long (Int32.toInt64 v2), .long (Int32.toInt64 v1)] (M, w)))
  refine Tt.go (fun _ => Tr.run 3 (pc' := 32) (lv' := [(0, .ref P), (1, .int a1), (2, .int a2), (3, .int a3)]) (st' := [.int a3, .ref P, .long (Int32.toInt64 v5), .long (Int32.toInt64 v4), .long (Int32.toInt64 v3), .long (Int32.toInt64 v2), .long (Int32.toInt64 v1)]) rfl) ?_
  refine Tt.callV16 (As := [.int a3]) (rest := [.long (Int32.toInt64 v5), .long (Int32.toInt64 v4), .long (Int32.toInt64 v3), .long (Int32.toInt64 v2), .long (Int32.toInt64 v1)]) (c_X7_y g l hl P a3 hP M w) hP (by decide) rfl rfl cw_X7_y fw1168 pn_X7_y (Nat.le_of_ble_eq_true rfl) (Nat.le_of_ble_eq_true rfl) (Nat.le_of_ble_eq_true rfl) rfl (fun v6 => (?_ : Tt g l z_X7_turn (emJ M w) _ 35 [(0, .ref P), (1, .int a1), (2, .int a2), (3, .int a3)] [.int v6, .long (Int32.toInt64 v5), .long (Int32.toInt64 v4), .long (Int32.toInt64 v3), .long (Int32.toInt64 v2), .long (Int32.toInt64 v1)] (M, w)))
  refine Tt.go (fun _ => Tr.run 1 (pc' := 36) (lv' := [(0, .ref P), (1, .int a1), (2, .int a2), (3, .int a3)]) (st' := [.long (Int32.toInt64 v6), .long (Int32.toInt64 v5), .long (Int32.toInt64 v4), .long (Int32.toInt64 v3), .long (Int32.toInt64 v2), .long (Int32.toInt64 v1)]) rfl) ?_
  refine Tt.callS (As := [.long (Int32.toInt64 v1), .long (Int32.toInt64 v2), .long (Int32.toInt64 v3), .long (Int32.toInt64 v4), .long (Int32.toInt64 v5), .long (Int32.toInt64 v6)]) (rest := []) (c_X7_turnOf g l hl (Int32.toInt64 v1) (Int32.toInt64 v2) (Int32.toInt64 v3) (Int32.toInt64 v4) (Int32.toInt64 v5) (Int32.toInt64 v6) M w) rfl cw_X7_turnOf fw1197 pn_X7_turnOf (Nat.le_of_ble_eq_true rfl) (Nat.le_of_ble_eq_true rfl) (Nat.le_of_ble_eq_true rfl) rfl (fun v7 => (?_ : Tt g l z_X7_turn (emJ M w) _ 39 [(0, .ref P), (1, .int a1), (2, .int a2), (3, .int a3)] [.long v7] (M, w)))
  exact Tt.ret (Tr.lret rfl rfl)
theorem c_X7_turn (g : fm_G) (l : Launch) (hl : l.stackTraces = false) (P : Nat) (a1 : Int32) (a2 : Int32) (a3 : Int32) (hP : fm_kd g P = 7) (M : fm_Mem) (w : fm_W) : ∀ r, f_X7_turn P a1 a2 a3 M = some r → fC g l z_X7_turn [.ref P, .int a1, .int a2, .int a3] (M, w) (emJ M w r) := fun r hr => fC.of (by decide) rfl o_X7_turn hl (Nat.le_of_ble_eq_true rfl) (t_X7_turn g l hl P a1 a2 a3 hP M w r hr)
def k_X7_signOf : List (Nat × Instr × Nat) := [(0, .lload_n 0, 1), (1, .lconst 0, 1), (2, .lcmp, 1), (3, .ifCond .le 7, 3), (6, .iconst 1, 1), (7, .goto 14, 3), (10, .lload_n 0, 1), (11, .lconst 0, 1), (12, .lcmp, 1), (13, .ifCond .ge 7, 3), (16, .iconst (-1), 1), (17, .goto 4, 3), (20, .iconst 0, 1), (21, .ireturn, 1)]
def z_X7_signOf : fm_Y := (yX7_signOf, RX7, cX7_signOf, 2, (some .int), k_X7_signOf, 0, 0)
theorem o_X7_signOf : fm_dec z_X7_signOf := (by decide +kernel : ∀ q ∈ k_X7_signOf, decode cX7_signOf q.1 = .ok q.2)
theorem cw_X7_signOf : fm_cwS z_X7_signOf := ⟨⟨lw_in 1210 (by decide +kernel) (by decide +kernel), lw_in 99 (by decide +kernel) (by decide +kernel), by decide, by decide⟩, lw_in 1209 (by decide +kernel) (by decide +kernel)⟩
theorem pn_X7_signOf : (parseMethodDescriptor z_X7_signOf.1.desc).map (fun d => d.parameters.length) = some 1 := by decide +kernel
def f_X7_signOf_21 (a0 : Int64) (s0 : Int32) (M : fm_Mem) : Option (Int32) := some (s0)
set_option maxRecDepth 100000 in
set_option maxHeartbeats 4000000 in
theorem t_X7_signOf_21 (g : fm_G) (l : Launch) (hl : l.stackTraces = false) (a0 : Int64)  (w : fm_W)  (s0 : Int32)  (M : fm_Mem) : Tt g l z_X7_signOf (emI M w) (f_X7_signOf_21 a0  s0 M) 21 [] [.int s0] (M, w) := by
  rw [f_X7_signOf_21]
  exact Tt.ret (Tr.iret rfl rfl)
def f_X7_signOf (a0 : Int64) (M : fm_Mem) : Option (Int32) := if (lg_cmp a0 (0 : Int64)) ≤ 0 then (if 0 ≤ (lg_cmp a0 (0 : Int64)) then (f_X7_signOf_21 a0 (0 : Int32) M) else (f_X7_signOf_21 a0 (-1 : Int32) M)) else (f_X7_signOf_21 a0 (1 : Int32) M)
set_option maxRecDepth 100000 in
set_option maxHeartbeats 4000000 in
theorem t_X7_signOf (g : fm_G) (l : Launch) (hl : l.stackTraces = false) (a0 : Int64)  (M : fm_Mem) (w : fm_W) : Tt g l z_X7_signOf (emI M w) (f_X7_signOf a0 M) 0 [(0, .long a0)] [] (M, w) := by
  rw [f_X7_signOf]
  refine Tt.go (fun _ => Tr.run 3 (pc' := 3) (lv' := [(0, .long a0)]) (st' := [.int (lg_cmp a0 (0 : Int64))]) rfl) ?_
  refine Tt.if_le (tgt := 10) rfl (by decide) ?_ ?_
  · refine Tt.go (fun _ => Tr.run 3 (pc' := 13) (lv' := [(0, .long a0)]) (st' := [.int (lg_cmp a0 (0 : Int64))]) rfl) ?_
    refine Tt.if_ge (tgt := 20) rfl (by decide) ?_ ?_
    · refine Tt.go (fun _ => Tr.run 1 (pc' := 21) (lv' := [(0, .long a0)]) (st' := [.int (0 : Int32)]) rfl) ?_
      refine Tt.go (fun _ => Tr.sub (lv' := []) [] rfl) ?_
      exact t_X7_signOf_21 g l hl a0 w (0 : Int32) M
    · refine Tt.go (fun _ => Tr.run 2 (pc' := 21) (lv' := [(0, .long a0)]) (st' := [.int (-1 : Int32)]) rfl) ?_
      refine Tt.go (fun _ => Tr.sub (lv' := []) [] rfl) ?_
      exact t_X7_signOf_21 g l hl a0 w (-1 : Int32) M
  · refine Tt.go (fun _ => Tr.run 2 (pc' := 21) (lv' := [(0, .long a0)]) (st' := [.int (1 : Int32)]) rfl) ?_
    refine Tt.go (fun _ => Tr.sub (lv' := []) [] rfl) ?_
    exact t_X7_signOf_21 g l hl a0 w (1 : Int32) M
theorem c_X7_signOf (g : fm_G) (l : Launch) (hl : l.stackTraces = false) (a0 : Int64)  (M : fm_Mem) (w : fm_W) : ∀ r, f_X7_signOf a0 M = some r → fC g l z_X7_signOf [.long a0] (M, w) (emI M w r) := fun r hr => fC.of (by decide) rfl o_X7_signOf hl (Nat.le_of_ble_eq_true rfl) (t_X7_signOf g l hl a0  M w r hr)
def k_X7_circleOf : List (Nat × Instr × Nat) := [(0, .aload_n 0, 1), (1, .iload_n 1, 1), (2, .invokevirtual 56, 3), (5, .i2l, 1), (6, .lload 4, 2), (8, .lsub, 1), (9, .lstore 8, 2), (11, .aload_n 0, 1), (12, .iload_n 1, 1), (13, .invokevirtual 59, 3), (16, .i2l, 1), (17, .lload 6, 2), (19, .lsub, 1), (20, .lstore 10, 2), (22, .aload_n 0, 1), (23, .iload_n 2, 1), (24, .invokevirtual 56, 3), (27, .i2l, 1), (28, .lload 4, 2), (30, .lsub, 1), (31, .lstore 12, 2), (33, .aload_n 0, 1), (34, .iload_n 2, 1), (35, .invokevirtual 59, 3), (38, .i2l, 1), (39, .lload 6, 2), (41, .lsub, 1), (42, .lstore 14, 2), (44, .aload_n 0, 1), (45, .iload_n 3, 1), (46, .invokevirtual 56, 3), (49, .i2l, 1), (50, .lload 4, 2), (52, .lsub, 1), (53, .lstore 16, 2), (55, .aload_n 0, 1), (56, .iload_n 3, 1), (57, .invokevirtual 59, 3), (60, .i2l, 1), (61, .lload 6, 2), (63, .lsub, 1), (64, .lstore 18, 2), (66, .lload 8, 2), (68, .lload 8, 2), (70, .lmul, 1), (71, .lload 10, 2), (73, .lload 10, 2), (75, .lmul, 1), (76, .ladd, 1), (77, .lstore 20, 2), (79, .lload 12, 2), (81, .lload 12, 2), (83, .lmul, 1), (84, .lload 14, 2), (86, .lload 14, 2), (88, .lmul, 1), (89, .ladd, 1), (90, .lstore 22, 2), (92, .lload 16, 2), (94, .lload 16, 2), (96, .lmul, 1), (97, .lload 18, 2), (99, .lload 18, 2), (101, .lmul, 1), (102, .ladd, 1), (103, .lstore 24, 2), (105, .lload 8, 2), (107, .lload 14, 2), (109, .lload 24, 2), (111, .lmul, 1), (112, .lload 18, 2), (114, .lload 22, 2), (116, .lmul, 1), (117, .lsub, 1), (118, .lmul, 1), (119, .lload 10, 2), (121, .lload 12, 2), (123, .lload 24, 2), (125, .lmul, 1), (126, .lload 16, 2), (128, .lload 22, 2), (130, .lmul, 1), (131, .lsub, 1), (132, .lmul, 1), (133, .lsub, 1), (134, .lload 20, 2), (136, .lload 12, 2), (138, .lload 18, 2), (140, .lmul, 1), (141, .lload 16, 2), (143, .lload 14, 2), (145, .lmul, 1), (146, .lsub, 1), (147, .lmul, 1), (148, .ladd, 1), (149, .lstore 26, 2), (151, .lload 26, 2), (153, .invokestatic 66, 3), (156, .aload_n 0, 1), (157, .iload_n 1, 1), (158, .iload_n 2, 1), (159, .iload_n 3, 1), (160, .invokevirtual 70, 3), (163, .invokestatic 66, 3), (166, .imul, 1), (167, .ireturn, 1)]
def z_X7_circleOf : fm_Y := (yX7_circleOf, RX7, cX7_circleOf, 28, (some .int), k_X7_circleOf, 3, 73)
theorem o_X7_circleOf : fm_dec z_X7_circleOf := (by decide +kernel : ∀ q ∈ k_X7_circleOf, decode cX7_circleOf q.1 = .ok q.2)
theorem cw_X7_circleOf : fm_cwV z_X7_circleOf := ⟨⟨lw_in 1207 (by decide +kernel) (by decide +kernel), lw_in 99 (by decide +kernel) (by decide +kernel), by decide, by decide⟩, lw_in 1206 (by decide +kernel) (by decide +kernel), lw_in 50 (by decide +kernel) (by decide +kernel)⟩
theorem pn_X7_circleOf : (parseMethodDescriptor z_X7_circleOf.1.desc).map (fun d => d.parameters.length) = some 5 := by decide +kernel
def f_X7_circleOf (P : Nat) (a1 : Int32) (a2 : Int32) (a3 : Int32) (a4 : Int64) (a6 : Int64) (M : fm_Mem) : Option (Int32) := Option.bind (f_X7_x P a1 M) (fun v1 => Option.bind (f_X7_y P a1 M) (fun v2 => Option.bind (f_X7_x P a2 M) (fun v3 => Option.bind (f_X7_y P a2 M) (fun v4 => Option.bind (f_X7_x P a3 M) (fun v5 => Option.bind (f_X7_y P a3 M) (fun v6 => Option.bind (f_X7_signOf (((((Int32.toInt64 v1) - a4) * ((((Int32.toInt64 v4) - a6) * ((((Int32.toInt64 v5) - a4) * ((Int32.toInt64 v5) - a4)) + (((Int32.toInt64 v6) - a6) * ((Int32.toInt64 v6) - a6)))) - (((Int32.toInt64 v6) - a6) * ((((Int32.toInt64 v3) - a4) * ((Int32.toInt64 v3) - a4)) + (((Int32.toInt64 v4) - a6) * ((Int32.toInt64 v4) - a6)))))) - (((Int32.toInt64 v2) - a6) * ((((Int32.toInt64 v3) - a4) * ((((Int32.toInt64 v5) - a4) * ((Int32.toInt64 v5) - a4)) + (((Int32.toInt64 v6) - a6) * ((Int32.toInt64 v6) - a6)))) - (((Int32.toInt64 v5) - a4) * ((((Int32.toInt64 v3) - a4) * ((Int32.toInt64 v3) - a4)) + (((Int32.toInt64 v4) - a6) * ((Int32.toInt64 v4) - a6))))))) + (((((Int32.toInt64 v1) - a4) * ((Int32.toInt64 v1) - a4)) + (((Int32.toInt64 v2) - a6) * ((Int32.toInt64 v2) - a6))) * ((((Int32.toInt64 v3) - a4) * ((Int32.toInt64 v6) - a6)) - (((Int32.toInt64 v5) - a4) * ((Int32.toInt64 v4) - a6))))) M) (fun v7 => Option.bind (f_X7_turn P a1 a2 a3 M) (fun v8 => Option.bind (f_X7_signOf v8 M) (fun v9 => some ((v7 * v9)))))))))))
set_option maxRecDepth 100000 in
set_option maxHeartbeats 4000000 in
theorem t_X7_circleOf (g : fm_G) (l : Launch) (hl : l.stackTraces = false) (P : Nat) (a1 : Int32) (a2 : Int32) (a3 : Int32) (a4 : Int64) (a6 : Int64) (hP : fm_kd g P = 7) (M : fm_Mem) (w : fm_W) : Tt g l z_X7_circleOf (emI M w) (f_X7_circleOf P a1 a2 a3 a4 a6 M) 0 [(0, .ref P), (1, .int a1), (2, .int a2), (3, .int a3), (4, .long a4), (6, .long a6)] [] (M, w) := by
  rw [f_X7_circleOf]
  refine Tt.go (fun _ => Tr.run 2 (pc' := 2) (lv' := [(0, .ref P), (1, .int a1), (2, .int a2), (3, .int a3), (4, .long a4), (6, .long a6)]) (st' := [.int a1, .ref P]) rfl) ?_
  refine Tt.callV (As := [.int a1]) (rest := []) (c_X7_x g l hl P a1 hP M w) hP (by decide) rfl rfl cw_X7_x fw1164 pn_X7_x (Nat.le_of_ble_eq_true rfl) (Nat.le_of_ble_eq_true rfl) (Nat.le_of_ble_eq_true rfl) rfl (fun v1 => (?_ : Tt g l z_X7_circleOf (emI M w) _ 5 [(0, .ref P), (1, .int a1), (2, .int a2), (3, .int a3), (4, .long a4), (6, .long a6)] [.int v1] (M, w)))
  refine Tt.go (fun _ => Tr.run 6 (pc' := 13) (lv' := [(8, .long ((Int32.toInt64 v1) - a4)), (0, .ref P), (1, .int a1), (2, .int a2), (3, .int a3), (4, .long a4), (6, .long a6)]) (st' := [.int a1, .ref P]) rfl) ?_
  refine Tt.callV (As := [.int a1]) (rest := []) (c_X7_y g l hl P a1 hP M w) hP (by decide) rfl rfl cw_X7_y fw1168 pn_X7_y (Nat.le_of_ble_eq_true rfl) (Nat.le_of_ble_eq_true rfl) (Nat.le_of_ble_eq_true rfl) rfl (fun v2 => (?_ : Tt g l z_X7_circleOf (emI M w) _ 16 [(8, .long ((Int32.toInt64 v1) - a4)), (0, .ref P), (1, .int a1), (2, .int a2), (3, .int a3), (4, .long a4), (6, .long a6)] [.int v2] (M, w)))
  refine Tt.go (fun _ => Tr.run 6 (pc' := 24) (lv' := [(10, .long ((Int32.toInt64 v2) - a6)), (8, .long ((Int32.toInt64 v1) - a4)), (0, .ref P), (1, .int a1), (2, .int a2), (3, .int a3), (4, .long a4), (6, .long a6)]) (st' := [.int a2, .ref P]) rfl) ?_
  refine Tt.callV (As := [.int a2]) (rest := []) (c_X7_x g l hl P a2 hP M w) hP (by decide) rfl rfl cw_X7_x fw1164 pn_X7_x (Nat.le_of_ble_eq_true rfl) (Nat.le_of_ble_eq_true rfl) (Nat.le_of_ble_eq_true rfl) rfl (fun v3 => (?_ : Tt g l z_X7_circleOf (emI M w) _ 27 [(10, .long ((Int32.toInt64 v2) - a6)), (8, .long ((Int32.toInt64 v1) - a4)), (0, .ref P), (1, .int a1), (2, .int a2), (3, .int a3), (4, .long a4), (6, .long a6)] [.int v3] (M, w)))
  refine Tt.go (fun _ => Tr.run 6 (pc' := 35) (lv' := [(12, .long ((Int32.toInt64 v3) - a4)), (10, .long ((Int32.toInt64 v2) - a6)), (8, .long ((Int32.toInt64 v1) - a4)), (0, .ref P), (1, .int a1), (2, .int a2), (3, .int a3), (4, .long a4), (6, .long a6)]) (st' := [.int a2, .ref P]) rfl) ?_
  refine Tt.callV (As := [.int a2]) (rest := []) (c_X7_y g l hl P a2 hP M w) hP (by decide) rfl rfl cw_X7_y fw1168 pn_X7_y (Nat.le_of_ble_eq_true rfl) (Nat.le_of_ble_eq_true rfl) (Nat.le_of_ble_eq_true rfl) rfl (fun v4 => (?_ : Tt g l z_X7_circleOf (emI M w) _ 38 [(12, .long ((Int32.toInt64 v3) - a4)), (10, .long ((Int32.toInt64 v2) - a6)), (8, .long ((Int32.toInt64 v1) - a4)), (0, .ref P), (1, .int a1), (2, .int a2), (3, .int a3), (4, .long a4), (6, .long a6)] [.int v4] (M, w)))
  refine Tt.go (fun _ => Tr.run 6 (pc' := 46) (lv' := [(14, .long ((Int32.toInt64 v4) - a6)), (12, .long ((Int32.toInt64 v3) - a4)), (10, .long ((Int32.toInt64 v2) - a6)), (8, .long ((Int32.toInt64 v1) - a4)), (0, .ref P), (1, .int a1), (2, .int a2), (3, .int a3), (4, .long a4), (6, .long a6)]) (st' := [.int a3, .ref P]) rfl) ?_
  refine Tt.callV (As := [.int a3]) (rest := []) (c_X7_x g l hl P a3 hP M w) hP (by decide) rfl rfl cw_X7_x fw1164 pn_X7_x (Nat.le_of_ble_eq_true rfl) (Nat.le_of_ble_eq_true rfl) (Nat.le_of_ble_eq_true rfl) rfl (fun v5 => (?_ : Tt g l z_X7_circleOf (emI M w) _ 49 [(14, .long ((Int32.toInt64 v4) - a6)), (12, .long ((Int32.toInt64 v3) - a4)), (10, .long ((Int32.toInt64 v2) - a6)), (8, .long ((Int32.toInt64 v1) - a4)), (0, .ref P), (1, .int a1), (2, .int a2), (3, .int a3), (4, .long a4), (6, .long a6)] [.int v5] (M, w)))
  refine Tt.go (fun _ => Tr.run 6 (pc' := 57) (lv' := [(16, .long ((Int32.toInt64 v5) - a4)), (14, .long ((Int32.toInt64 v4) - a6)), (12, .long ((Int32.toInt64 v3) - a4)), (10, .long ((Int32.toInt64 v2) - a6)), (8, .long ((Int32.toInt64 v1) - a4)), (0, .ref P), (1, .int a1), (2, .int a2), (3, .int a3), (4, .long a4), (6, .long a6)]) (st' := [.int a3, .ref P]) rfl) ?_
  refine Tt.callV (As := [.int a3]) (rest := []) (c_X7_y g l hl P a3 hP M w) hP (by decide) rfl rfl cw_X7_y fw1168 pn_X7_y (Nat.le_of_ble_eq_true rfl) (Nat.le_of_ble_eq_true rfl) (Nat.le_of_ble_eq_true rfl) rfl (fun v6 => (?_ : Tt g l z_X7_circleOf (emI M w) _ 60 [(16, .long ((Int32.toInt64 v5) - a4)), (14, .long ((Int32.toInt64 v4) - a6)), (12, .long ((Int32.toInt64 v3) - a4)), (10, .long ((Int32.toInt64 v2) - a6)), (8, .long ((Int32.toInt64 v1) - a4)), (0, .ref P), (1, .int a1), (2, .int a2), (3, .int a3), (4, .long a4), (6, .long a6)] [.int v6] (M, w)))
  refine Tt.go (fun _ => Tr.run 20 (pc' := 92) (lv' := [(22, .long ((((Int32.toInt64 v3) - a4) * ((Int32.toInt64 v3) - a4)) + (((Int32.toInt64 v4) - a6) * ((Int32.toInt64 v4) - a6)))), (20, .long ((((Int32.toInt64 v1) - a4) * ((Int32.toInt64 v1) - a4)) + (((Int32.toInt64 v2) - a6) * ((Int32.toInt64 v2) - a6)))), (18, .long ((Int32.toInt64 v6) - a6)), (16, .long ((Int32.toInt64 v5) - a4)), (14, .long ((Int32.toInt64 v4) - a6)), (12, .long ((Int32.toInt64 v3) - a4)), (10, .long ((Int32.toInt64 v2) - a6)), (8, .long ((Int32.toInt64 v1) - a4)), (0, .ref P), (1, .int a1), (2, .int a2), (3, .int a3), (4, .long a4), (6, .long a6)]) (st' := []) rfl) ?_
  refine Tt.go (fun _ => Tr.run 20 (pc' := 125) (lv' := [(24, .long ((((Int32.toInt64 v5) - a4) * ((Int32.toInt64 v5) - a4)) + (((Int32.toInt64 v6) - a6) * ((Int32.toInt64 v6) - a6)))), (22, .long ((((Int32.toInt64 v3) - a4) * ((Int32.toInt64 v3) - a4)) + (((Int32.toInt64 v4) - a6) * ((Int32.toInt64 v4) - a6)))), (20, .long ((((Int32.toInt64 v1) - a4) * ((Int32.toInt64 v1) - a4)) + (((Int32.toInt64 v2) - a6) * ((Int32.toInt64 v2) - a6)))), (18, .long ((Int32.toInt64 v6) - a6)), (16, .long ((Int32.toInt64 v5) - a4)), (14, .long ((Int32.toInt64 v4) - a6)), (12, .long ((Int32.toInt64 v3) - a4)), (10, .long ((Int32.toInt64 v2) - a6)), (8, .long ((Int32.toInt64 v1) - a4)), (0, .ref P), (1, .int a1), (2, .int a2), (3, .int a3), (4, .long a4), (6, .long a6)]) (st' := [.long ((((Int32.toInt64 v5) - a4) * ((Int32.toInt64 v5) - a4)) + (((Int32.toInt64 v6) - a6) * ((Int32.toInt64 v6) - a6))), .long ((Int32.toInt64 v3) - a4), .long ((Int32.toInt64 v2) - a6), .long (((Int32.toInt64 v1) - a4) * ((((Int32.toInt64 v4) - a6) * ((((Int32.toInt64 v5) - a4) * ((Int32.toInt64 v5) - a4)) + (((Int32.toInt64 v6) - a6) * ((Int32.toInt64 v6) - a6)))) - (((Int32.toInt64 v6) - a6) * ((((Int32.toInt64 v3) - a4) * ((Int32.toInt64 v3) - a4)) + (((Int32.toInt64 v4) - a6) * ((Int32.toInt64 v4) - a6))))))]) rfl) ?_
  refine Tt.go (fun _ => Tr.run 19 (pc' := 153) (lv' := [(26, .long (((((Int32.toInt64 v1) - a4) * ((((Int32.toInt64 v4) - a6) * ((((Int32.toInt64 v5) - a4) * ((Int32.toInt64 v5) - a4)) + (((Int32.toInt64 v6) - a6) * ((Int32.toInt64 v6) - a6)))) - (((Int32.toInt64 v6) - a6) * ((((Int32.toInt64 v3) - a4) * ((Int32.toInt64 v3) - a4)) + (((Int32.toInt64 v4) - a6) * ((Int32.toInt64 v4) - a6)))))) - (((Int32.toInt64 v2) - a6) * ((((Int32.toInt64 v3) - a4) * ((((Int32.toInt64 v5) - a4) * ((Int32.toInt64 v5) - a4)) + (((Int32.toInt64 v6) - a6) * ((Int32.toInt64 v6) - a6)))) - (((Int32.toInt64 v5) - a4) * ((((Int32.toInt64 v3) - a4) * ((Int32.toInt64 v3) - a4)) + (((Int32.toInt64 v4) - a6) * ((Int32.toInt64 v4) - a6))))))) + (((((Int32.toInt64 v1) - a4) * ((Int32.toInt64 v1) - a4)) + (((Int32.toInt64 v2) - a6) * ((Int32.toInt64 v2) - a6))) * ((((Int32.toInt64 v3) - a4) * ((Int32.toInt64 v6) - a6)) - (((Int32.toInt64 v5) - a4) * ((Int32.toInt64 v4) - a6)))))), (24, .long ((((Int32.toInt64 v5) - a4) * ((Int32.toInt64 v5) - a4)) + (((Int32.toInt64 v6) - a6) * ((Int32.toInt64 v6) - a6)))), (22, .long ((((Int32.toInt64 v3) - a4) * ((Int32.toInt64 v3) - a4)) + (((Int32.toInt64 v4) - a6) * ((Int32.toInt64 v4) - a6)))), (20, .long ((((Int32.toInt64 v1) - a4) * ((Int32.toInt64 v1) - a4)) + (((Int32.toInt64 v2) - a6) * ((Int32.toInt64 v2) - a6)))), (18, .long ((Int32.toInt64 v6) - a6)), (16, .long ((Int32.toInt64 v5) - a4)), (14, .long ((Int32.toInt64 v4) - a6)), (12, .long ((Int32.toInt64 v3) - a4)), (10, .long ((Int32.toInt64 v2) - a6)), (8, .long ((Int32.toInt64 v1) - a4)), (0, .ref P), (1, .int a1), (2, .int a2), (3, .int a3), (4, .long a4), (6, .long a6)]) (st' := [.long (((((Int32.toInt64 v1) - a4) * ((((Int32.toInt64 v4) - a6) * ((((Int32.toInt64 v5) - a4) * ((Int32.toInt64 v5) - a4)) + (((Int32.toInt64 v6) - a6) * ((Int32.toInt64 v6) - a6)))) - (((Int32.toInt64 v6) - a6) * ((((Int32.toInt64 v3) - a4) * ((Int32.toInt64 v3) - a4)) + (((Int32.toInt64 v4) - a6) * ((Int32.toInt64 v4) - a6)))))) - (((Int32.toInt64 v2) - a6) * ((((Int32.toInt64 v3) - a4) * ((((Int32.toInt64 v5) - a4) * ((Int32.toInt64 v5) - a4)) + (((Int32.toInt64 v6) - a6) * ((Int32.toInt64 v6) - a6)))) - (((Int32.toInt64 v5) - a4) * ((((Int32.toInt64 v3) - a4) * ((Int32.toInt64 v3) - a4)) + (((Int32.toInt64 v4) - a6) * ((Int32.toInt64 v4) - a6))))))) + (((((Int32.toInt64 v1) - a4) * ((Int32.toInt64 v1) - a4)) + (((Int32.toInt64 v2) - a6) * ((Int32.toInt64 v2) - a6))) * ((((Int32.toInt64 v3) - a4) * ((Int32.toInt64 v6) - a6)) - (((Int32.toInt64 v5) - a4) * ((Int32.toInt64 v4) - a6)))))]) rfl) ?_
  refine Tt.callS (As := [.long (((((Int32.toInt64 v1) - a4) * ((((Int32.toInt64 v4) - a6) * ((((Int32.toInt64 v5) - a4) * ((Int32.toInt64 v5) - a4)) + (((Int32.toInt64 v6) - a6) * ((Int32.toInt64 v6) - a6)))) - (((Int32.toInt64 v6) - a6) * ((((Int32.toInt64 v3) - a4) * ((Int32.toInt64 v3) - a4)) + (((Int32.toInt64 v4) - a6) * ((Int32.toInt64 v4) - a6)))))) - (((Int32.toInt64 v2) - a6) * ((((Int32.toInt64 v3) - a4) * ((((Int32.toInt64 v5) - a4) * ((Int32.toInt64 v5) - a4)) + (((Int32.toInt64 v6) - a6) * ((Int32.toInt64 v6) - a6)))) - (((Int32.toInt64 v5) - a4) * ((((Int32.toInt64 v3) - a4) * ((Int32.toInt64 v3) - a4)) + (((Int32.toInt64 v4) - a6) * ((Int32.toInt64 v4) - a6))))))) + (((((Int32.toInt64 v1) - a4) * ((Int32.toInt64 v1) - a4)) + (((Int32.toInt64 v2) - a6) * ((Int32.toInt64 v2) - a6))) * ((((Int32.toInt64 v3) - a4) * ((Int32.toInt64 v6) - a6)) - (((Int32.toInt64 v5) - a4) * ((Int32.toInt64 v4) - a6)))))]) (rest := []) (c_X7_signOf g l hl (((((Int32.toInt64 v1) - a4) * ((((Int32.toInt64 v4) - a6) * ((((Int32.toInt64 v5) - a4) * ((Int32.toInt64 v5) - a4)) + (((Int32.toInt64 v6) - a6) * ((Int32.toInt64 v6) - a6)))) - (((Int32.toInt64 v6) - a6) * ((((Int32.toInt64 v3) - a4) * ((Int32.toInt64 v3) - a4)) + (((Int32.toInt64 v4) - a6) * ((Int32.toInt64 v4) - a6)))))) - (((Int32.toInt64 v2) - a6) * ((((Int32.toInt64 v3) - a4) * ((((Int32.toInt64 v5) - a4) * ((Int32.toInt64 v5) - a4)) + (((Int32.toInt64 v6) - a6) * ((Int32.toInt64 v6) - a6)))) - (((Int32.toInt64 v5) - a4) * ((((Int32.toInt64 v3) - a4) * ((Int32.toInt64 v3) - a4)) + (((Int32.toInt64 v4) - a6) * ((Int32.toInt64 v4) - a6))))))) + (((((Int32.toInt64 v1) - a4) * ((Int32.toInt64 v1) - a4)) + (((Int32.toInt64 v2) - a6) * ((Int32.toInt64 v2) - a6))) * ((((Int32.toInt64 v3) - a4) * ((Int32.toInt64 v6) - a6)) - (((Int32.toInt64 v5) - a4) * ((Int32.toInt64 v4) - a6))))) M w) rfl cw_X7_signOf fw1208 pn_X7_signOf (Nat.le_of_ble_eq_true rfl) (Nat.le_of_ble_eq_true rfl) (Nat.le_of_ble_eq_true rfl) rfl (fun v7 => (?_ : Tt g l z_X7_circleOf (emI M w) _ 156 [(26, .long (((((Int32.toInt64 v1) - a4) * ((((Int32.toInt64 v4) - a6) * ((((Int32.toInt64 v5) - a4) * ((Int32.toInt64 v5) - a4)) + (((Int32.toInt64 v6) - a6) * ((Int32.toInt64 v6) - a6)))) - (((Int32.toInt64 v6) - a6) * ((((Int32.toInt64 v3) - a4) * ((Int32.toInt64 v3) - a4)) + (((Int32.toInt64 v4) - a6) * ((Int32.toInt64 v4) - a6)))))) - (((Int32.toInt64 v2) - a6) * ((((Int32.toInt64 v3) - a4) * ((((Int32.toInt64 v5) - a4) * ((Int32.toInt64 v5) - a4)) + (((Int32.toInt64 v6) - a6) * ((Int32.toInt64 v6) - a6)))) - (((Int32.toInt64 v5) - a4) * ((((Int32.toInt64 v3) - a4) * ((Int32.toInt64 v3) - a4)) + (((Int32.toInt64 v4) - a6) * ((Int32.toInt64 v4) - a6))))))) + (((((Int32.toInt64 v1) - a4) * ((Int32.toInt64 v1) - a4)) + (((Int32.toInt64 v2) - a6) * ((Int32.toInt64 v2) - a6))) * ((((Int32.toInt64 v3) - a4) * ((Int32.toInt64 v6) - a6)) - (((Int32.toInt64 v5) - a4) * ((Int32.toInt64 v4) - a6)))))), (24, .long ((((Int32.toInt64 v5) - a4) * ((Int32.toInt64 v5) - a4)) + (((Int32.toInt64 v6) - a6) * ((Int32.toInt64 v6) - a6)))), (22, .long ((((Int32.toInt64 v3) - a4) * ((Int32.toInt64 v3) - a4)) + (((Int32.toInt64 v4) - a6) * ((Int32.toInt64 v4) - a6)))), (20, .long ((((Int32.toInt64 v1) - a4) * ((Int32.toInt64 v1) - a4)) + (((Int32.toInt64 v2) - a6) * ((Int32.toInt64 v2) - a6)))), (18, .long ((Int32.toInt64 v6) - a6)), (16, .long ((Int32.toInt64 v5) - a4)), (14, .long ((Int32.toInt64 v4) - a6)), (12, .long ((Int32.toInt64 v3) - a4)), (10, .long ((Int32.toInt64 v2) - a6)), (8, .long ((Int32.toInt64 v1) - a4)), (0, .ref P), (1, .int a1), (2, .int a2), (3, .int a3), (4, .long a4), (6, .long a6)] [.int v7] (M, w)))
  refine Tt.go (fun _ => Tr.run 4 (pc' := 160) (lv' := [(26, .long (((((Int32.toInt64 v1) - a4) * ((((Int32.toInt64 v4) - a6) * ((((Int32.toInt64 v5) - a4) * ((Int32.toInt64 v5) - a4)) + (((Int32.toInt64 v6) - a6) * ((Int32.toInt64 v6) - a6)))) - (((Int32.toInt64 v6) - a6) * ((((Int32.toInt64 v3) - a4) * ((Int32.toInt64 v3) - a4)) + (((Int32.toInt64 v4) - a6) * ((Int32.toInt64 v4) - a6)))))) - (((Int32.toInt64 v2) - a6) * ((((Int32.toInt64 v3) - a4) * ((((Int32.toInt64 v5) - a4) * ((Int32.toInt64 v5) - a4)) + (((Int32.toInt64 v6) - a6) * ((Int32.toInt64 v6) - a6)))) - (((Int32.toInt64 v5) - a4) * ((((Int32.toInt64 v3) - a4) * ((Int32.toInt64 v3) - a4)) + (((Int32.toInt64 v4) - a6) * ((Int32.toInt64 v4) - a6))))))) + (((((Int32.toInt64 v1) - a4) * ((Int32.toInt64 v1) - a4)) + (((Int32.toInt64 v2) - a6) * ((Int32.toInt64 v2) - a6))) * ((((Int32.toInt64 v3) - a4) * ((Int32.toInt64 v6) - a6)) - (((Int32.toInt64 v5) - a4) * ((Int32.toInt64 v4) - a6)))))), (24, .long ((((Int32.toInt64 v5) - a4) * ((Int32.toInt64 v5) - a4)) + (((Int32.toInt64 v6) - a6) * ((Int32.toInt64 v6) - a6)))), (22, .long ((((Int32.toInt64 v3) - a4) * ((Int32.toInt64 v3) - a4)) + (((Int32.toInt64 v4) - a6) * ((Int32.toInt64 v4) - a6)))), (20, .long ((((Int32.toInt64 v1) - a4) * ((Int32.toInt64 v1) - a4)) + (((Int32.toInt64 v2) - a6) * ((Int32.toInt64 v2) - a6)))), (18, .long ((Int32.toInt64 v6) - a6)), (16, .long ((Int32.toInt64 v5) - a4)), (14, .long ((Int32.toInt64 v4) - a6)), (12, .long ((Int32.toInt64 v3) - a4)), (10, .long ((Int32.toInt64 v2) - a6)), (8, .long ((Int32.toInt64 v1) - a4)), (0, .ref P), (1, .int a1), (2, .int a2), (3, .int a3), (4, .long a4), (6, .long a6)]) (st' := [.int a3, .int a2, .int a1, .ref P, .int v7]) rfl) ?_
  refine Tt.callV (As := [.int a1, .int a2, .int a3]) (rest := [.int v7]) (c_X7_turn g l hl P a1 a2 a3 hP M w) hP (by decide) rfl rfl cw_X7_turn fw1193 pn_X7_turn (Nat.le_of_ble_eq_true rfl) (Nat.le_of_ble_eq_true rfl) (Nat.le_of_ble_eq_true rfl) rfl (fun v8 => (?_ : Tt g l z_X7_circleOf (emI M w) _ 163 [(26, .long (((((Int32.toInt64 v1) - a4) * ((((Int32.toInt64 v4) - a6) * ((((Int32.toInt64 v5) - a4) * ((Int32.toInt64 v5) - a4)) + (((Int32.toInt64 v6) - a6) * ((Int32.toInt64 v6) - a6)))) - (((Int32.toInt64 v6) - a6) * ((((Int32.toInt64 v3) - a4) * ((Int32.toInt64 v3) - a4)) + (((Int32.toInt64 v4) - a6) * ((Int32.toInt64 v4) - a6)))))) - (((Int32.toInt64 v2) - a6) * ((((Int32.toInt64 v3) - a4) * ((((Int32.toInt64 v5) - a4) * ((Int32.toInt64 v5) - a4)) + (((Int32.toInt64 v6) - a6) * ((Int32.toInt64 v6) - a6)))) - (((Int32.toInt64 v5) - a4) * ((((Int32.toInt64 v3) - a4) * ((Int32.toInt64 v3) - a4)) + (((Int32.toInt64 v4) - a6) * ((Int32.toInt64 v4) - a6))))))) + (((((Int32.toInt64 v1) - a4) * ((Int32.toInt64 v1) - a4)) + (((Int32.toInt64 v2) - a6) * ((Int32.toInt64 v2) - a6))) * ((((Int32.toInt64 v3) - a4) * ((Int32.toInt64 v6) - a6)) - (((Int32.toInt64 v5) - a4) * ((Int32.toInt64 v4) - a6)))))), (24, .long ((((Int32.toInt64 v5) - a4) * ((Int32.toInt64 v5) - a4)) + (((Int32.toInt64 v6) - a6) * ((Int32.toInt64 v6) - a6)))), (22, .long ((((Int32.toInt64 v3) - a4) * ((Int32.toInt64 v3) - a4)) + (((Int32.toInt64 v4) - a6) * ((Int32.toInt64 v4) - a6)))), (20, .long ((((Int32.toInt64 v1) - a4) * ((Int32.toInt64 v1) - a4)) + (((Int32.toInt64 v2) - a6) * ((Int32.toInt64 v2) - a6)))), (18, .long ((Int32.toInt64 v6) - a6)), (16, .long ((Int32.toInt64 v5) - a4)), (14, .long ((Int32.toInt64 v4) - a6)), (12, .long ((Int32.toInt64 v3) - a4)), (10, .long ((Int32.toInt64 v2) - a6)), (8, .long ((Int32.toInt64 v1) - a4)), (0, .ref P), (1, .int a1), (2, .int a2), (3, .int a3), (4, .long a4), (6, .long a6)] [.long v8, .int v7] (M, w)))
  refine Tt.callS (As := [.long v8]) (rest := [.int v7]) (c_X7_signOf g l hl v8 M w) rfl cw_X7_signOf fw1208 pn_X7_signOf (Nat.le_of_ble_eq_true rfl) (Nat.le_of_ble_eq_true rfl) (Nat.le_of_ble_eq_true rfl) rfl (fun v9 => (?_ : Tt g l z_X7_circleOf (emI M w) _ 166 [(26, .long (((((Int32.toInt64 v1) - a4) * ((((Int32.toInt64 v4) - a6) * ((((Int32.toInt64 v5) - a4) * ((Int32.toInt64 v5) - a4)) + (((Int32.toInt64 v6) - a6) * ((Int32.toInt64 v6) - a6)))) - (((Int32.toInt64 v6) - a6) * ((((Int32.toInt64 v3) - a4) * ((Int32.toInt64 v3) - a4)) + (((Int32.toInt64 v4) - a6) * ((Int32.toInt64 v4) - a6)))))) - (((Int32.toInt64 v2) - a6) * ((((Int32.toInt64 v3) - a4) * ((((Int32.toInt64 v5) - a4) * ((Int32.toInt64 v5) - a4)) + (((Int32.toInt64 v6) - a6) * ((Int32.toInt64 v6) - a6)))) - (((Int32.toInt64 v5) - a4) * ((((Int32.toInt64 v3) - a4) * ((Int32.toInt64 v3) - a4)) + (((Int32.toInt64 v4) - a6) * ((Int32.toInt64 v4) - a6))))))) + (((((Int32.toInt64 v1) - a4) * ((Int32.toInt64 v1) - a4)) + (((Int32.toInt64 v2) - a6) * ((Int32.toInt64 v2) - a6))) * ((((Int32.toInt64 v3) - a4) * ((Int32.toInt64 v6) - a6)) - (((Int32.toInt64 v5) - a4) * ((Int32.toInt64 v4) - a6)))))), (24, .long ((((Int32.toInt64 v5) - a4) * ((Int32.toInt64 v5) - a4)) + (((Int32.toInt64 v6) - a6) * ((Int32.toInt64 v6) - a6)))), (22, .long ((((Int32.toInt64 v3) - a4) * ((Int32.toInt64 v3) - a4)) + (((Int32.toInt64 v4) - a6) * ((Int32.toInt64 v4) - a6)))), (20, .long ((((Int32.toInt64 v1) - a4) * ((Int32.toInt64 v1) - a4)) + (((Int32.toInt64 v2) - a6) * ((Int32.toInt64 v2) - a6)))), (18, .long ((Int32.toInt64 v6) - a6)), (16, .long ((Int32.toInt64 v5) - a4)), (14, .long ((Int32.toInt64 v4) - a6)), (12, .long ((Int32.toInt64 v3) - a4)), (10, .long ((Int32.toInt64 v2) - a6)), (8, .long ((Int32.toInt64 v1) - a4)), (0, .ref P), (1, .int a1), (2, .int a2), (3, .int a3), (4, .long a4), (6, .long a6)] [.int v9, .int v7] (M, w)))
  refine Tt.go (fun _ => Tr.run 1 (pc' := 167) (lv' := [(26, .long (((((Int32.toInt64 v1) - a4) * ((((Int32.toInt64 v4) - a6) * ((((Int32.toInt64 v5) - a4) * ((Int32.toInt64 v5) - a4)) + (((Int32.toInt64 v6) - a6) * ((Int32.toInt64 v6) - a6)))) - (((Int32.toInt64 v6) - a6) * ((((Int32.toInt64 v3) - a4) * ((Int32.toInt64 v3) - a4)) + (((Int32.toInt64 v4) - a6) * ((Int32.toInt64 v4) - a6)))))) - (((Int32.toInt64 v2) - a6) * ((((Int32.toInt64 v3) - a4) * ((((Int32.toInt64 v5) - a4) * ((Int32.toInt64 v5) - a4)) + (((Int32.toInt64 v6) - a6) * ((Int32.toInt64 v6) - a6)))) - (((Int32.toInt64 v5) - a4) * ((((Int32.toInt64 v3) - a4) * ((Int32.toInt64 v3) - a4)) + (((Int32.toInt64 v4) - a6) * ((Int32.toInt64 v4) - a6))))))) + (((((Int32.toInt64 v1) - a4) * ((Int32.toInt64 v1) - a4)) + (((Int32.toInt64 v2) - a6) * ((Int32.toInt64 v2) - a6))) * ((((Int32.toInt64 v3) - a4) * ((Int32.toInt64 v6) - a6)) - (((Int32.toInt64 v5) - a4) * ((Int32.toInt64 v4) - a6)))))), (24, .long ((((Int32.toInt64 v5) - a4) * ((Int32.toInt64 v5) - a4)) + (((Int32.toInt64 v6) - a6) * ((Int32.toInt64 v6) - a6)))), (22, .long ((((Int32.toInt64 v3) - a4) * ((Int32.toInt64 v3) - a4)) + (((Int32.toInt64 v4) - a6) * ((Int32.toInt64 v4) - a6)))), (20, .long ((((Int32.toInt64 v1) - a4) * ((Int32.toInt64 v1) - a4)) + (((Int32.toInt64 v2) - a6) * ((Int32.toInt64 v2) - a6)))), (18, .long ((Int32.toInt64 v6) - a6)), (16, .long ((Int32.toInt64 v5) - a4)), (14, .long ((Int32.toInt64 v4) - a6)), (12, .long ((Int32.toInt64 v3) - a4)), (10, .long ((Int32.toInt64 v2) - a6)), (8, .long ((Int32.toInt64 v1) - a4)), (0, .ref P), (1, .int a1), (2, .int a2), (3, .int a3), (4, .long a4), (6, .long a6)]) (st' := [.int (v7 * v9)]) rfl) ?_
  exact Tt.ret (Tr.iret rfl rfl)
theorem c_X7_circleOf (g : fm_G) (l : Launch) (hl : l.stackTraces = false) (P : Nat) (a1 : Int32) (a2 : Int32) (a3 : Int32) (a4 : Int64) (a6 : Int64) (hP : fm_kd g P = 7) (M : fm_Mem) (w : fm_W) : ∀ r, f_X7_circleOf P a1 a2 a3 a4 a6 M = some r → fC g l z_X7_circleOf [.ref P, .int a1, .int a2, .int a3, .long a4, .long a6] (M, w) (emI M w r) := fun r hr => fC.of (by decide) rfl o_X7_circleOf hl (Nat.le_of_ble_eq_true rfl) (t_X7_circleOf g l hl P a1 a2 a3 a4 a6 hP M w r hr)
def k_X7_circleBy : List (Nat × Instr × Nat) := [(0, .aload_n 0, 1), (1, .iload_n 1, 1), (2, .iload_n 2, 1), (3, .iload_n 3, 1), (4, .aload_n 0, 1), (5, .iload 4, 2), (7, .invokevirtual 56, 3), (10, .i2l, 1), (11, .aload_n 0, 1), (12, .iload 4, 2), (14, .invokevirtual 59, 3), (17, .i2l, 1), (18, .invokevirtual 74, 3), (21, .ireturn, 1)]
def z_X7_circleBy : fm_Y := (yX7_circleBy, RX7, cX7_circleBy, 5, (some .int), k_X7_circleBy, 4, 120)
theorem o_X7_circleBy : fm_dec z_X7_circleBy := (by decide +kernel : ∀ q ∈ k_X7_circleBy, decode cX7_circleBy q.1 = .ok q.2)
theorem cw_X7_circleBy : fm_cwV z_X7_circleBy := ⟨⟨lw_in 1203 (by decide +kernel) (by decide +kernel), lw_in 99 (by decide +kernel) (by decide +kernel), by decide, by decide⟩, lw_in 1202 (by decide +kernel) (by decide +kernel), lw_in 49 (by decide +kernel) (by decide +kernel)⟩
theorem pn_X7_circleBy : (parseMethodDescriptor z_X7_circleBy.1.desc).map (fun d => d.parameters.length) = some 4 := by decide +kernel
def f_X7_circleBy (P : Nat) (a1 : Int32) (a2 : Int32) (a3 : Int32) (a4 : Int32) (M : fm_Mem) : Option (Int32) := Option.bind (f_X7_x P a4 M) (fun v1 => Option.bind (f_X7_y P a4 M) (fun v2 => Option.bind (f_X7_circleOf P a1 a2 a3 (Int32.toInt64 v1) (Int32.toInt64 v2) M) (fun v3 => some (v3))))
set_option maxRecDepth 100000 in
set_option maxHeartbeats 4000000 in
theorem t_X7_circleBy (g : fm_G) (l : Launch) (hl : l.stackTraces = false) (P : Nat) (a1 : Int32) (a2 : Int32) (a3 : Int32) (a4 : Int32) (hP : fm_kd g P = 7) (M : fm_Mem) (w : fm_W) : Tt g l z_X7_circleBy (emI M w) (f_X7_circleBy P a1 a2 a3 a4 M) 0 [(0, .ref P), (1, .int a1), (2, .int a2), (3, .int a3), (4, .int a4)] [] (M, w) := by
  rw [f_X7_circleBy]
  refine Tt.go (fun _ => Tr.run 6 (pc' := 7) (lv' := [(0, .ref P), (1, .int a1), (2, .int a2), (3, .int a3), (4, .int a4)]) (st' := [.int a4, .ref P, .int a3, .int a2, .int a1, .ref P]) rfl) ?_
  refine Tt.callV (As := [.int a4]) (rest := [.int a3, .int a2, .int a1, .ref P]) (c_X7_x g l hl P a4 hP M w) hP (by decide) rfl rfl cw_X7_x fw1164 pn_X7_x (Nat.le_of_ble_eq_true rfl) (Nat.le_of_ble_eq_true rfl) (Nat.le_of_ble_eq_true rfl) rfl (fun v1 => (?_ : Tt g l z_X7_circleBy (emI M w) _ 10 [(0, .ref P), (1, .int a1), (2, .int a2), (3, .int a3), (4, .int a4)] [.int v1, .int a3, .int a2, .int a1, .ref P] (M, w)))
  refine Tt.go (fun _ => Tr.run 3 (pc' := 14) (lv' := [(0, .ref P), (1, .int a1), (2, .int a2), (3, .int a3), (4, .int a4)]) (st' := [.int a4, .ref P, .long (Int32.toInt64 v1), .int a3, .int a2, .int a1, .ref P]) rfl) ?_
  refine Tt.callV (As := [.int a4]) (rest := [.long (Int32.toInt64 v1), .int a3, .int a2, .int a1, .ref P]) (c_X7_y g l hl P a4 hP M w) hP (by decide) rfl rfl cw_X7_y fw1168 pn_X7_y (Nat.le_of_ble_eq_true rfl) (Nat.le_of_ble_eq_true rfl) (Nat.le_of_ble_eq_true rfl) rfl (fun v2 => (?_ : Tt g l z_X7_circleBy (emI M w) _ 17 [(0, .ref P), (1, .int a1), (2, .int a2), (3, .int a3), (4, .int a4)] [.int v2, .long (Int32.toInt64 v1), .int a3, .int a2, .int a1, .ref P] (M, w)))
  refine Tt.go (fun _ => Tr.run 1 (pc' := 18) (lv' := [(0, .ref P), (1, .int a1), (2, .int a2), (3, .int a3), (4, .int a4)]) (st' := [.long (Int32.toInt64 v2), .long (Int32.toInt64 v1), .int a3, .int a2, .int a1, .ref P]) rfl) ?_
  refine Tt.callV (As := [.int a1, .int a2, .int a3, .long (Int32.toInt64 v1), .long (Int32.toInt64 v2)]) (rest := []) (c_X7_circleOf g l hl P a1 a2 a3 (Int32.toInt64 v1) (Int32.toInt64 v2) hP M w) hP (by decide) rfl rfl cw_X7_circleOf fw1204 pn_X7_circleOf (Nat.le_of_ble_eq_true rfl) (Nat.le_of_ble_eq_true rfl) (Nat.le_of_ble_eq_true rfl) rfl (fun v3 => (?_ : Tt g l z_X7_circleBy (emI M w) _ 21 [(0, .ref P), (1, .int a1), (2, .int a2), (3, .int a3), (4, .int a4)] [.int v3] (M, w)))
  exact Tt.ret (Tr.iret rfl rfl)
theorem c_X7_circleBy (g : fm_G) (l : Launch) (hl : l.stackTraces = false) (P : Nat) (a1 : Int32) (a2 : Int32) (a3 : Int32) (a4 : Int32) (hP : fm_kd g P = 7) (M : fm_Mem) (w : fm_W) : ∀ r, f_X7_circleBy P a1 a2 a3 a4 M = some r → fC g l z_X7_circleBy [.ref P, .int a1, .int a2, .int a3, .int a4] (M, w) (emI M w r) := fun r hr => fC.of (by decide) rfl o_X7_circleBy hl (Nat.le_of_ble_eq_true rfl) (t_X7_circleBy g l hl P a1 a2 a3 a4 hP M w r hr)
def k_X7_apart : List (Nat × Instr × Nat) := [(0, .aload_n 0, 1), (1, .iload_n 1, 1), (2, .invokevirtual 56, 3), (5, .aload_n 0, 1), (6, .iload_n 2, 1), (7, .invokevirtual 56, 3), (10, .isub, 1), (11, .i2l, 1), (12, .aload_n 0, 1), (13, .iload_n 1, 1), (14, .invokevirtual 56, 3), (17, .aload_n 0, 1), (18, .iload_n 2, 1), (19, .invokevirtual 56, 3), (22, .isub, 1), (23, .i2l, 1), (24, .lmul, 1), (25, .aload_n 0, 1), (26, .iload_n 1, 1), (27, .invokevirtual 59, 3), (30, .aload_n 0, 1), (31, .iload_n 2, 1), (32, .invokevirtual 59, 3), (35, .isub, 1), (36, .i2l, 1), (37, .aload_n 0, 1), (38, .iload_n 1, 1), (39, .invokevirtual 59, 3), (42, .aload_n 0, 1), (43, .iload_n 2, 1), (44, .invokevirtual 59, 3), (47, .isub, 1), (48, .i2l, 1), (49, .lmul, 1), (50, .ladd, 1), (51, .lreturn, 1)]
def z_X7_apart : fm_Y := (yX7_apart, RX7, cX7_apart, 3, (some .long), k_X7_apart, 2, 42)
theorem o_X7_apart : fm_dec z_X7_apart := (by decide +kernel : ∀ q ∈ k_X7_apart, decode cX7_apart q.1 = .ok q.2)
theorem cw_X7_apart : fm_cwV z_X7_apart := ⟨⟨lw_in 1334 (by decide +kernel) (by decide +kernel), lw_in 99 (by decide +kernel) (by decide +kernel), by decide, by decide⟩, lw_in 1333 (by decide +kernel) (by decide +kernel), lw_in 77 (by decide +kernel) (by decide +kernel)⟩
theorem pn_X7_apart : (parseMethodDescriptor z_X7_apart.1.desc).map (fun d => d.parameters.length) = some 2 := by decide +kernel
def f_X7_apart (P : Nat) (a1 : Int32) (a2 : Int32) (M : fm_Mem) : Option (Int64) := Option.bind (f_X7_x P a1 M) (fun v1 => Option.bind (f_X7_x P a2 M) (fun v2 => Option.bind (f_X7_x P a1 M) (fun v3 => Option.bind (f_X7_x P a2 M) (fun v4 => Option.bind (f_X7_y P a1 M) (fun v5 => Option.bind (f_X7_y P a2 M) (fun v6 => Option.bind (f_X7_y P a1 M) (fun v7 => Option.bind (f_X7_y P a2 M) (fun v8 => some ((((Int32.toInt64 (v1 - v2)) * (Int32.toInt64 (v3 - v4))) + ((Int32.toInt64 (v5 - v6)) * (Int32.toInt64 (v7 - v8)))))))))))))
set_option maxRecDepth 100000 in
set_option maxHeartbeats 4000000 in
theorem t_X7_apart (g : fm_G) (l : Launch) (hl : l.stackTraces = false) (P : Nat) (a1 : Int32) (a2 : Int32) (hP : fm_kd g P = 7) (M : fm_Mem) (w : fm_W) : Tt g l z_X7_apart (emJ M w) (f_X7_apart P a1 a2 M) 0 [(0, .ref P), (1, .int a1), (2, .int a2)] [] (M, w) := by
  rw [f_X7_apart]
  refine Tt.go (fun _ => Tr.run 2 (pc' := 2) (lv' := [(0, .ref P), (1, .int a1), (2, .int a2)]) (st' := [.int a1, .ref P]) rfl) ?_
  refine Tt.callV (As := [.int a1]) (rest := []) (c_X7_x g l hl P a1 hP M w) hP (by decide) rfl rfl cw_X7_x fw1164 pn_X7_x (Nat.le_of_ble_eq_true rfl) (Nat.le_of_ble_eq_true rfl) (Nat.le_of_ble_eq_true rfl) rfl (fun v1 => (?_ : Tt g l z_X7_apart (emJ M w) _ 5 [(0, .ref P), (1, .int a1), (2, .int a2)] [.int v1] (M, w)))
  refine Tt.go (fun _ => Tr.run 2 (pc' := 7) (lv' := [(0, .ref P), (1, .int a1), (2, .int a2)]) (st' := [.int a2, .ref P, .int v1]) rfl) ?_
  refine Tt.callV (As := [.int a2]) (rest := [.int v1]) (c_X7_x g l hl P a2 hP M w) hP (by decide) rfl rfl cw_X7_x fw1164 pn_X7_x (Nat.le_of_ble_eq_true rfl) (Nat.le_of_ble_eq_true rfl) (Nat.le_of_ble_eq_true rfl) rfl (fun v2 => (?_ : Tt g l z_X7_apart (emJ M w) _ 10 [(0, .ref P), (1, .int a1), (2, .int a2)] [.int v2, .int v1] (M, w)))
  refine Tt.go (fun _ => Tr.run 4 (pc' := 14) (lv' := [(0, .ref P), (1, .int a1), (2, .int a2)]) (st' := [.int a1, .ref P, .long (Int32.toInt64 (v1 - v2))]) rfl) ?_
  refine Tt.callV (As := [.int a1]) (rest := [.long (Int32.toInt64 (v1 - v2))]) (c_X7_x g l hl P a1 hP M w) hP (by decide) rfl rfl cw_X7_x fw1164 pn_X7_x (Nat.le_of_ble_eq_true rfl) (Nat.le_of_ble_eq_true rfl) (Nat.le_of_ble_eq_true rfl) rfl (fun v3 => (?_ : Tt g l z_X7_apart (emJ M w) _ 17 [(0, .ref P), (1, .int a1), (2, .int a2)] [.int v3, .long (Int32.toInt64 (v1 - v2))] (M, w)))
  refine Tt.go (fun _ => Tr.run 2 (pc' := 19) (lv' := [(0, .ref P), (1, .int a1), (2, .int a2)]) (st' := [.int a2, .ref P, .int v3, .long (Int32.toInt64 (v1 - v2))]) rfl) ?_
  refine Tt.callV (As := [.int a2]) (rest := [.int v3, .long (Int32.toInt64 (v1 - v2))]) (c_X7_x g l hl P a2 hP M w) hP (by decide) rfl rfl cw_X7_x fw1164 pn_X7_x (Nat.le_of_ble_eq_true rfl) (Nat.le_of_ble_eq_true rfl) (Nat.le_of_ble_eq_true rfl) rfl (fun v4 => (?_ : Tt g l z_X7_apart (emJ M w) _ 22 [(0, .ref P), (1, .int a1), (2, .int a2)] [.int v4, .int v3, .long (Int32.toInt64 (v1 - v2))] (M, w)))
  refine Tt.go (fun _ => Tr.run 5 (pc' := 27) (lv' := [(0, .ref P), (1, .int a1), (2, .int a2)]) (st' := [.int a1, .ref P, .long ((Int32.toInt64 (v1 - v2)) * (Int32.toInt64 (v3 - v4)))]) rfl) ?_
  refine Tt.callV (As := [.int a1]) (rest := [.long ((Int32.toInt64 (v1 - v2)) * (Int32.toInt64 (v3 - v4)))]) (c_X7_y g l hl P a1 hP M w) hP (by decide) rfl rfl cw_X7_y fw1168 pn_X7_y (Nat.le_of_ble_eq_true rfl) (Nat.le_of_ble_eq_true rfl) (Nat.le_of_ble_eq_true rfl) rfl (fun v5 => (?_ : Tt g l z_X7_apart (emJ M w) _ 30 [(0, .ref P), (1, .int a1), (2, .int a2)] [.int v5, .long ((Int32.toInt64 (v1 - v2)) * (Int32.toInt64 (v3 - v4)))] (M, w)))
  refine Tt.go (fun _ => Tr.run 2 (pc' := 32) (lv' := [(0, .ref P), (1, .int a1), (2, .int a2)]) (st' := [.int a2, .ref P, .int v5, .long ((Int32.toInt64 (v1 - v2)) * (Int32.toInt64 (v3 - v4)))]) rfl) ?_
  refine Tt.callV (As := [.int a2]) (rest := [.int v5, .long ((Int32.toInt64 (v1 - v2)) * (Int32.toInt64 (v3 - v4)))]) (c_X7_y g l hl P a2 hP M w) hP (by decide) rfl rfl cw_X7_y fw1168 pn_X7_y (Nat.le_of_ble_eq_true rfl) (Nat.le_of_ble_eq_true rfl) (Nat.le_of_ble_eq_true rfl) rfl (fun v6 => (?_ : Tt g l z_X7_apart (emJ M w) _ 35 [(0, .ref P), (1, .int a1), (2, .int a2)] [.int v6, .int v5, .long ((Int32.toInt64 (v1 - v2)) * (Int32.toInt64 (v3 - v4)))] (M, w)))
  refine Tt.go (fun _ => Tr.run 4 (pc' := 39) (lv' := [(0, .ref P), (1, .int a1), (2, .int a2)]) (st' := [.int a1, .ref P, .long (Int32.toInt64 (v5 - v6)), .long ((Int32.toInt64 (v1 - v2)) * (Int32.toInt64 (v3 - v4)))]) rfl) ?_
  refine Tt.callV (As := [.int a1]) (rest := [.long (Int32.toInt64 (v5 - v6)), .long ((Int32.toInt64 (v1 - v2)) * (Int32.toInt64 (v3 - v4)))]) (c_X7_y g l hl P a1 hP M w) hP (by decide) rfl rfl cw_X7_y fw1168 pn_X7_y (Nat.le_of_ble_eq_true rfl) (Nat.le_of_ble_eq_true rfl) (Nat.le_of_ble_eq_true rfl) rfl (fun v7 => (?_ : Tt g l z_X7_apart (emJ M w) _ 42 [(0, .ref P), (1, .int a1), (2, .int a2)] [.int v7, .long (Int32.toInt64 (v5 - v6)), .long ((Int32.toInt64 (v1 - v2)) * (Int32.toInt64 (v3 - v4)))] (M, w)))
  refine Tt.go (fun _ => Tr.run 2 (pc' := 44) (lv' := [(0, .ref P), (1, .int a1), (2, .int a2)]) (st' := [.int a2, .ref P, .int v7, .long (Int32.toInt64 (v5 - v6)), .long ((Int32.toInt64 (v1 - v2)) * (Int32.toInt64 (v3 - v4)))]) rfl) ?_
  refine Tt.callV (As := [.int a2]) (rest := [.int v7, .long (Int32.toInt64 (v5 - v6)), .long ((Int32.toInt64 (v1 - v2)) * (Int32.toInt64 (v3 - v4)))]) (c_X7_y g l hl P a2 hP M w) hP (by decide) rfl rfl cw_X7_y fw1168 pn_X7_y (Nat.le_of_ble_eq_true rfl) (Nat.le_of_ble_eq_true rfl) (Nat.le_of_ble_eq_true rfl) rfl (fun v8 => (?_ : Tt g l z_X7_apart (emJ M w) _ 47 [(0, .ref P), (1, .int a1), (2, .int a2)] [.int v8, .int v7, .long (Int32.toInt64 (v5 - v6)), .long ((Int32.toInt64 (v1 - v2)) * (Int32.toInt64 (v3 - v4)))] (M, w)))
  refine Tt.go (fun _ => Tr.run 4 (pc' := 51) (lv' := [(0, .ref P), (1, .int a1), (2, .int a2)]) (st' := [.long (((Int32.toInt64 (v1 - v2)) * (Int32.toInt64 (v3 - v4))) + ((Int32.toInt64 (v5 - v6)) * (Int32.toInt64 (v7 - v8))))]) rfl) ?_
  exact Tt.ret (Tr.lret rfl rfl)
theorem c_X7_apart (g : fm_G) (l : Launch) (hl : l.stackTraces = false) (P : Nat) (a1 : Int32) (a2 : Int32) (hP : fm_kd g P = 7) (M : fm_Mem) (w : fm_W) : ∀ r, f_X7_apart P a1 a2 M = some r → fC g l z_X7_apart [.ref P, .int a1, .int a2] (M, w) (emJ M w r) := fun r hr => fC.of (by decide) rfl o_X7_apart hl (Nat.le_of_ble_eq_true rfl) (t_X7_apart g l hl P a1 a2 hP M w r hr)
def k_X7_isDue : List (Nat × Instr × Nat) := [(0, .aload_n 0, 1), (1, .iload_n 1, 1), (2, .iload_n 2, 1), (3, .iload_n 3, 1), (4, .invokevirtual 70, 3), (7, .lstore 4, 2), (9, .lload 4, 2), (11, .lconst 0, 1), (12, .lcmp, 1), (13, .ifCond .ne 5, 3), (16, .iconst 0, 1), (17, .ireturn, 1), (18, .iconst 0, 1), (19, .istore 6, 2), (21, .iload 6, 2), (23, .aload_n 0, 1), (24, .invokevirtual 48, 3), (27, .if_icmp .ge 83, 3), (30, .iload 6, 2), (32, .iload_n 1, 1), (33, .if_icmp .eq 71, 3), (36, .iload 6, 2), (38, .iload_n 2, 1), (39, .if_icmp .eq 65, 3), (42, .iload 6, 2), (44, .iload_n 3, 1), (45, .if_icmp .ne 6, 3), (48, .goto 56, 3), (51, .aload_n 0, 1), (52, .iload_n 1, 1), (53, .iload_n 2, 1), (54, .iload_n 3, 1), (55, .iload 6, 2), (57, .invokevirtual 78, 3), (60, .istore 7, 2), (62, .iload 7, 2), (64, .ifCond .gt 38, 3), (67, .iload 7, 2), (69, .ifCond .ne 35, 3), (72, .iload 6, 2), (74, .iload_n 1, 1), (75, .if_icmp .lt 27, 3), (78, .aload_n 0, 1), (79, .iload_n 2, 1), (80, .iload_n 3, 1), (81, .iload 6, 2), (83, .invokevirtual 70, 3), (86, .invokestatic 66, 3), (89, .aload_n 0, 1), (90, .iload_n 2, 1), (91, .iload_n 3, 1), (92, .iload_n 1, 1), (93, .invokevirtual 70, 3), (96, .invokestatic 66, 3), (99, .if_icmp .eq 5, 3), (102, .iconst 0, 1), (103, .ireturn, 1), (104, .iinc 6 1, 3), (107, .goto (-86), 3), (110, .iconst 1, 1), (111, .ireturn, 1)]
def z_X7_isDue : fm_Y := (yX7_isDue, RX7, cX7_isDue, 8, (some .boolean), k_X7_isDue, 5, 144)
theorem o_X7_isDue : fm_dec z_X7_isDue := (by decide +kernel : ∀ q ∈ k_X7_isDue, decode cX7_isDue q.1 = .ok q.2)
theorem cw_X7_isDue : fm_cwV z_X7_isDue := ⟨⟨lw_in 1192 (by decide +kernel) (by decide +kernel), lw_in 99 (by decide +kernel) (by decide +kernel), by decide, by decide⟩, lw_in 1191 (by decide +kernel) (by decide +kernel), lw_in 47 (by decide +kernel) (by decide +kernel)⟩
theorem pn_X7_isDue : (parseMethodDescriptor z_X7_isDue.1.desc).map (fun d => d.parameters.length) = some 3 := by decide +kernel
def f_X7_isDue_104 (P : Nat) (a1 : Int32) (a2 : Int32) (a3 : Int32) (k21 : Int32 → fm_Mem → Option (Int32)) (x6 : Int32) (M : fm_Mem) : Option (Int32) := (k21 (x6 + (1 : Int32)) M)
set_option maxRecDepth 100000 in
set_option maxHeartbeats 4000000 in
theorem t_X7_isDue_104 (g : fm_G) (l : Launch) (hl : l.stackTraces = false) (P : Nat) (a1 : Int32) (a2 : Int32) (a3 : Int32) (hP : fm_kd g P = 7) (w : fm_W) (k21 : Int32 → fm_Mem → Option (Int32)) (hk21 : ∀ (x6 : Int32) (M : fm_Mem), Tt g l z_X7_isDue (emI M w) (k21 x6 M) 21 [(0, .ref P), (1, .int a1), (2, .int a2), (3, .int a3), (6, .int x6)] [] (M, w)) (x6 : Int32)  (M : fm_Mem) : Tt g l z_X7_isDue (emI M w) (f_X7_isDue_104 P a1 a2 a3 k21 x6 M) 104 [(0, .ref P), (1, .int a1), (2, .int a2), (3, .int a3), (6, .int x6)] [] (M, w) := by
  rw [f_X7_isDue_104]
  refine Tt.go (fun _ => Tr.run 2 (pc' := 21) (lv' := [(6, .int (x6 + (1 : Int32))), (0, .ref P), (1, .int a1), (2, .int a2), (3, .int a3)]) (st' := []) rfl) ?_
  refine Tt.go (fun _ => Tr.sub (lv' := [(0, .ref P), (1, .int a1), (2, .int a2), (3, .int a3), (6, .int (x6 + (1 : Int32)))]) [1, 2, 3, 4, 0] rfl) ?_
  exact hk21 (x6 + (1 : Int32)) M
def f_X7_isDue_102 (P : Nat) (a1 : Int32) (a2 : Int32) (a3 : Int32)  (M : fm_Mem) : Option (Int32) := some ((0 : Int32))
set_option maxRecDepth 100000 in
set_option maxHeartbeats 4000000 in
theorem t_X7_isDue_102 (g : fm_G) (l : Launch) (hl : l.stackTraces = false) (P : Nat) (a1 : Int32) (a2 : Int32) (a3 : Int32) (hP : fm_kd g P = 7) (w : fm_W)    (M : fm_Mem) : Tt g l z_X7_isDue (emI M w) (f_X7_isDue_102 P a1 a2 a3   M) 102 [] [] (M, w) := by
  rw [f_X7_isDue_102]
  refine Tt.go (fun _ => Tr.run 1 (pc' := 103) (lv' := []) (st' := [.int (0 : Int32)]) rfl) ?_
  exact Tt.ret (Tr.zret rfl rfl fm_bo0)
def f_X7_isDue_21 (P : Nat) (a1 : Int32) (a2 : Int32) (a3 : Int32) : Nat → Int32 → fm_Mem → Option (Int32)
  | 0, _, _ => none
  | n + 1, x6, M => Option.bind (f_X7_points P M) (fun v1 => if v1 ≤ x6 then (some ((1 : Int32))) else (if x6 = a1 then (f_X7_isDue_104 P a1 a2 a3 (fun x6 M => f_X7_isDue_21 P a1 a2 a3 n x6 M) x6 M) else (if x6 = a2 then (f_X7_isDue_104 P a1 a2 a3 (fun x6 M => f_X7_isDue_21 P a1 a2 a3 n x6 M) x6 M) else (if x6 = a3 then (f_X7_isDue_104 P a1 a2 a3 (fun x6 M => f_X7_isDue_21 P a1 a2 a3 n x6 M) x6 M) else (Option.bind (f_X7_circleBy P a1 a2 a3 x6 M) (fun v2 => if 0 < v2 then (f_X7_isDue_102 P a1 a2 a3 M) else (if v2 = 0 then (if x6 < a1 then (f_X7_isDue_102 P a1 a2 a3 M) else (Option.bind (f_X7_turn P a2 a3 x6 M) (fun v3 => Option.bind (f_X7_signOf v3 M) (fun v4 => Option.bind (f_X7_turn P a2 a3 a1 M) (fun v5 => Option.bind (f_X7_signOf v5 M) (fun v6 => if v4 = v6 then (f_X7_isDue_104 P a1 a2 a3 (fun x6 M => f_X7_isDue_21 P a1 a2 a3 n x6 M) x6 M) else (f_X7_isDue_102 P a1 a2 a3 M))))))) else (f_X7_isDue_104 P a1 a2 a3 (fun x6 M => f_X7_isDue_21 P a1 a2 a3 n x6 M) x6 M))))))))
set_option maxRecDepth 100000 in
set_option maxHeartbeats 4000000 in
theorem t_X7_isDue_21 (g : fm_G) (l : Launch) (hl : l.stackTraces = false) (P : Nat) (a1 : Int32) (a2 : Int32) (a3 : Int32) (hP : fm_kd g P = 7) (w : fm_W)  : ∀ (n : Nat) (x6 : Int32)  (M : fm_Mem), Tt g l z_X7_isDue (emI M w) (f_X7_isDue_21 P a1 a2 a3  n x6 M) 21 [(0, .ref P), (1, .int a1), (2, .int a2), (3, .int a3), (6, .int x6)] [] (M, w) := by
  intro n
  induction n with
  | zero => intros; exact Tt.none
  | succ n ih =>
    intro x6  M
    rw [f_X7_isDue_21]
    refine Tt.go (fun _ => Tr.run 2 (pc' := 24) (lv' := [(0, .ref P), (1, .int a1), (2, .int a2), (3, .int a3), (6, .int x6)]) (st' := [.ref P, .int x6]) rfl) ?_
    refine Tt.callV (As := []) (rest := [.int x6]) (c_X7_points g l hl P hP M w) hP (by decide) rfl rfl cw_X7_points fw1156 pn_X7_points (Nat.le_of_ble_eq_true rfl) (Nat.le_of_ble_eq_true rfl) (Nat.le_of_ble_eq_true rfl) rfl (fun v1 => (?_ : Tt g l z_X7_isDue (emI M w) _ 27 [(0, .ref P), (1, .int a1), (2, .int a2), (3, .int a3), (6, .int x6)] [.int v1, .int x6] (M, w)))
    refine Tt.ic_ge (tgt := 110) rfl (by decide) ?_ ?_
    · refine Tt.go (fun _ => Tr.run 1 (pc' := 111) (lv' := [(0, .ref P), (1, .int a1), (2, .int a2), (3, .int a3), (6, .int x6)]) (st' := [.int (1 : Int32)]) rfl) ?_
      exact Tt.ret (Tr.zret rfl rfl fm_bo1)
    · refine Tt.go (fun _ => Tr.run 2 (pc' := 33) (lv' := [(0, .ref P), (1, .int a1), (2, .int a2), (3, .int a3), (6, .int x6)]) (st' := [.int a1, .int x6]) rfl) ?_
      refine Tt.ic_eq (tgt := 104) rfl (by decide) ?_ ?_
      · exact t_X7_isDue_104 g l hl P a1 a2 a3 hP w _ ih x6 M
      · refine Tt.go (fun _ => Tr.run 2 (pc' := 39) (lv' := [(0, .ref P), (1, .int a1), (2, .int a2), (3, .int a3), (6, .int x6)]) (st' := [.int a2, .int x6]) rfl) ?_
        refine Tt.ic_eq (tgt := 104) rfl (by decide) ?_ ?_
        · exact t_X7_isDue_104 g l hl P a1 a2 a3 hP w _ ih x6 M
        · refine Tt.go (fun _ => Tr.run 2 (pc' := 45) (lv' := [(0, .ref P), (1, .int a1), (2, .int a2), (3, .int a3), (6, .int x6)]) (st' := [.int a3, .int x6]) rfl) ?_
          refine Tt.ic_ne (tgt := 51) rfl (by decide) ?_ ?_
          · refine Tt.go (fun _ => Tr.run 1 (pc' := 104) (lv' := [(0, .ref P), (1, .int a1), (2, .int a2), (3, .int a3), (6, .int x6)]) (st' := []) rfl) ?_
            exact t_X7_isDue_104 g l hl P a1 a2 a3 hP w _ ih x6 M
          · refine Tt.go (fun _ => Tr.run 5 (pc' := 57) (lv' := [(0, .ref P), (1, .int a1), (2, .int a2), (3, .int a3), (6, .int x6)]) (st' := [.int x6, .int a3, .int a2, .int a1, .ref P]) rfl) ?_
            refine Tt.callV (As := [.int a1, .int a2, .int a3, .int x6]) (rest := []) (c_X7_circleBy g l hl P a1 a2 a3 x6 hP M w) hP (by decide) rfl rfl cw_X7_circleBy fw1200 pn_X7_circleBy (Nat.le_of_ble_eq_true rfl) (Nat.le_of_ble_eq_true rfl) (Nat.le_of_ble_eq_true rfl) rfl (fun v2 => (?_ : Tt g l z_X7_isDue (emI M w) _ 60 [(0, .ref P), (1, .int a1), (2, .int a2), (3, .int a3), (6, .int x6)] [.int v2] (M, w)))
            refine Tt.go (fun _ => Tr.run 2 (pc' := 64) (lv' := [(7, .int v2), (0, .ref P), (1, .int a1), (2, .int a2), (3, .int a3), (6, .int x6)]) (st' := [.int v2]) rfl) ?_
            refine Tt.if_gt (tgt := 102) rfl (by decide) ?_ ?_
            · refine Tt.go (fun _ => Tr.sub (lv' := []) [] rfl) ?_
              exact t_X7_isDue_102 g l hl P a1 a2 a3 hP w M
            · refine Tt.go (fun _ => Tr.run 1 (pc' := 69) (lv' := [(7, .int v2), (0, .ref P), (1, .int a1), (2, .int a2), (3, .int a3), (6, .int x6)]) (st' := [.int v2]) rfl) ?_
              refine Tt.if_ne (tgt := 104) rfl (by decide) ?_ ?_
              · refine Tt.go (fun _ => Tr.run 2 (pc' := 75) (lv' := [(7, .int v2), (0, .ref P), (1, .int a1), (2, .int a2), (3, .int a3), (6, .int x6)]) (st' := [.int a1, .int x6]) rfl) ?_
                refine Tt.ic_lt (tgt := 102) rfl (by decide) ?_ ?_
                · refine Tt.go (fun _ => Tr.sub (lv' := []) [] rfl) ?_
                  exact t_X7_isDue_102 g l hl P a1 a2 a3 hP w M
                · refine Tt.go (fun _ => Tr.run 4 (pc' := 83) (lv' := [(7, .int v2), (0, .ref P), (1, .int a1), (2, .int a2), (3, .int a3), (6, .int x6)]) (st' := [.int x6, .int a3, .int a2, .ref P]) rfl) ?_
                  refine Tt.callV (As := [.int a2, .int a3, .int x6]) (rest := []) (c_X7_turn g l hl P a2 a3 x6 hP M w) hP (by decide) rfl rfl cw_X7_turn fw1193 pn_X7_turn (Nat.le_of_ble_eq_true rfl) (Nat.le_of_ble_eq_true rfl) (Nat.le_of_ble_eq_true rfl) rfl (fun v3 => (?_ : Tt g l z_X7_isDue (emI M w) _ 86 [(7, .int v2), (0, .ref P), (1, .int a1), (2, .int a2), (3, .int a3), (6, .int x6)] [.long v3] (M, w)))
                  refine Tt.callS (As := [.long v3]) (rest := []) (c_X7_signOf g l hl v3 M w) rfl cw_X7_signOf fw1208 pn_X7_signOf (Nat.le_of_ble_eq_true rfl) (Nat.le_of_ble_eq_true rfl) (Nat.le_of_ble_eq_true rfl) rfl (fun v4 => (?_ : Tt g l z_X7_isDue (emI M w) _ 89 [(7, .int v2), (0, .ref P), (1, .int a1), (2, .int a2), (3, .int a3), (6, .int x6)] [.int v4] (M, w)))
                  refine Tt.go (fun _ => Tr.run 4 (pc' := 93) (lv' := [(7, .int v2), (0, .ref P), (1, .int a1), (2, .int a2), (3, .int a3), (6, .int x6)]) (st' := [.int a1, .int a3, .int a2, .ref P, .int v4]) rfl) ?_
                  refine Tt.callV (As := [.int a2, .int a3, .int a1]) (rest := [.int v4]) (c_X7_turn g l hl P a2 a3 a1 hP M w) hP (by decide) rfl rfl cw_X7_turn fw1193 pn_X7_turn (Nat.le_of_ble_eq_true rfl) (Nat.le_of_ble_eq_true rfl) (Nat.le_of_ble_eq_true rfl) rfl (fun v5 => (?_ : Tt g l z_X7_isDue (emI M w) _ 96 [(7, .int v2), (0, .ref P), (1, .int a1), (2, .int a2), (3, .int a3), (6, .int x6)] [.long v5, .int v4] (M, w)))
                  refine Tt.callS (As := [.long v5]) (rest := [.int v4]) (c_X7_signOf g l hl v5 M w) rfl cw_X7_signOf fw1208 pn_X7_signOf (Nat.le_of_ble_eq_true rfl) (Nat.le_of_ble_eq_true rfl) (Nat.le_of_ble_eq_true rfl) rfl (fun v6 => (?_ : Tt g l z_X7_isDue (emI M w) _ 99 [(7, .int v2), (0, .ref P), (1, .int a1), (2, .int a2), (3, .int a3), (6, .int x6)] [.int v6, .int v4] (M, w)))
                  refine Tt.ic_eq (tgt := 104) rfl (by decide) ?_ ?_
                  · refine Tt.go (fun _ => Tr.sub (lv' := [(0, .ref P), (1, .int a1), (2, .int a2), (3, .int a3), (6, .int x6)]) [1, 2, 3, 4, 5] rfl) ?_
                    exact t_X7_isDue_104 g l hl P a1 a2 a3 hP w _ ih x6 M
                  · refine Tt.go (fun _ => Tr.sub (lv' := []) [] rfl) ?_
                    exact t_X7_isDue_102 g l hl P a1 a2 a3 hP w M
              · refine Tt.go (fun _ => Tr.sub (lv' := [(0, .ref P), (1, .int a1), (2, .int a2), (3, .int a3), (6, .int x6)]) [1, 2, 3, 4, 5] rfl) ?_
                exact t_X7_isDue_104 g l hl P a1 a2 a3 hP w _ ih x6 M
def f_X7_isDue (P : Nat) (a1 : Int32) (a2 : Int32) (a3 : Int32) (M : fm_Mem) : Option (Int32) := Option.bind (f_X7_turn P a1 a2 a3 M) (fun v1 => if (lg_cmp v1 (0 : Int64)) = 0 then (some ((0 : Int32))) else (f_X7_isDue_21 P a1 a2 a3 fm_fuel (0 : Int32) M))
set_option maxRecDepth 100000 in
set_option maxHeartbeats 4000000 in
theorem t_X7_isDue (g : fm_G) (l : Launch) (hl : l.stackTraces = false) (P : Nat) (a1 : Int32) (a2 : Int32) (a3 : Int32) (hP : fm_kd g P = 7) (M : fm_Mem) (w : fm_W) : Tt g l z_X7_isDue (emI M w) (f_X7_isDue P a1 a2 a3 M) 0 [(0, .ref P), (1, .int a1), (2, .int a2), (3, .int a3)] [] (M, w) := by
  rw [f_X7_isDue]
  refine Tt.go (fun _ => Tr.run 4 (pc' := 4) (lv' := [(0, .ref P), (1, .int a1), (2, .int a2), (3, .int a3)]) (st' := [.int a3, .int a2, .int a1, .ref P]) rfl) ?_
  refine Tt.callV (As := [.int a1, .int a2, .int a3]) (rest := []) (c_X7_turn g l hl P a1 a2 a3 hP M w) hP (by decide) rfl rfl cw_X7_turn fw1193 pn_X7_turn (Nat.le_of_ble_eq_true rfl) (Nat.le_of_ble_eq_true rfl) (Nat.le_of_ble_eq_true rfl) rfl (fun v1 => (?_ : Tt g l z_X7_isDue (emI M w) _ 7 [(0, .ref P), (1, .int a1), (2, .int a2), (3, .int a3)] [.long v1] (M, w)))
  refine Tt.go (fun _ => Tr.run 4 (pc' := 13) (lv' := [(4, .long v1), (0, .ref P), (1, .int a1), (2, .int a2), (3, .int a3)]) (st' := [.int (lg_cmp v1 (0 : Int64))]) rfl) ?_
  refine Tt.if_ne (tgt := 18) rfl (by decide) ?_ ?_
  · refine Tt.go (fun _ => Tr.run 1 (pc' := 17) (lv' := [(4, .long v1), (0, .ref P), (1, .int a1), (2, .int a2), (3, .int a3)]) (st' := [.int (0 : Int32)]) rfl) ?_
    exact Tt.ret (Tr.zret rfl rfl fm_bo0)
  · refine Tt.go (fun _ => Tr.run 2 (pc' := 21) (lv' := [(6, .int (0 : Int32)), (4, .long v1), (0, .ref P), (1, .int a1), (2, .int a2), (3, .int a3)]) (st' := []) rfl) ?_
    refine Tt.go (fun _ => Tr.sub (lv' := [(0, .ref P), (1, .int a1), (2, .int a2), (3, .int a3), (6, .int (0 : Int32))]) [2, 3, 4, 5, 0] rfl) ?_
    exact t_X7_isDue_21 g l hl P a1 a2 a3 hP w fm_fuel (0 : Int32) M
theorem c_X7_isDue (g : fm_G) (l : Launch) (hl : l.stackTraces = false) (P : Nat) (a1 : Int32) (a2 : Int32) (a3 : Int32) (hP : fm_kd g P = 7) (M : fm_Mem) (w : fm_W) : ∀ r, f_X7_isDue P a1 a2 a3 M = some r → fC g l z_X7_isDue [.ref P, .int a1, .int a2, .int a3] (M, w) (emI M w r) := fun r hr => fC.of (by decide) rfl o_X7_isDue hl (Nat.le_of_ble_eq_true rfl) (t_X7_isDue g l hl P a1 a2 a3 hP M w r hr)
def k_X7_isLaid : List (Nat × Instr × Nat) := [(0, .aload_n 0, 1), (1, .getfield 25, 3), (4, .aload_n 0, 1), (5, .invokevirtual 48, 3), (8, .if_icmp .ne 7, 3), (11, .iconst 1, 1), (12, .goto 4, 3), (15, .iconst 0, 1), (16, .istore_n 1, 1), (17, .iconst 0, 1), (18, .istore_n 2, 1), (19, .iload_n 2, 1), (20, .iconst 2, 1), (21, .aload_n 0, 1), (22, .invokevirtual 48, 3), (25, .imul, 1), (26, .if_icmp .ge 36, 3), (29, .iload_n 1, 1), (30, .ifCond .eq 32, 3), (33, .aload_n 0, 1), (34, .getfield 22, 3), (37, .iload_n 2, 1), (38, .iaload, 1), (39, .aload_n 0, 1), (40, .bipush 10, 2), (42, .iload_n 2, 1), (43, .iadd, 1), (44, .invokevirtual 41, 3), (47, .if_icmp .ne 7, 3), (50, .iconst 1, 1), (51, .goto 4, 3), (54, .iconst 0, 1), (55, .istore_n 1, 1), (56, .iinc 2 1, 3), (59, .goto (-40), 3), (62, .iload_n 1, 1), (63, .ireturn, 1)]
def z_X7_isLaid : fm_Y := (yX7_isLaid, RX7, cX7_isLaid, 3, (some .boolean), k_X7_isLaid, 2, 41)
theorem o_X7_isLaid : fm_dec z_X7_isLaid := (by decide +kernel : ∀ q ∈ k_X7_isLaid, decode cX7_isLaid q.1 = .ok q.2)
theorem cw_X7_isLaid : fm_cwV z_X7_isLaid := ⟨⟨lw_in 1188 (by decide +kernel) (by decide +kernel), lw_in 99 (by decide +kernel) (by decide +kernel), by decide, by decide⟩, lw_in 1187 (by decide +kernel) (by decide +kernel), lw_in 46 (by decide +kernel) (by decide +kernel)⟩
theorem pn_X7_isLaid : (parseMethodDescriptor z_X7_isLaid.1.desc).map (fun d => d.parameters.length) = some 0 := by decide +kernel
def f_X7_isLaid_62 (P : Nat) (x1 : Int32) (M : fm_Mem) : Option (Int32) := fm_ck (fm_bo x1) (some (x1))
set_option maxRecDepth 100000 in
set_option maxHeartbeats 4000000 in
theorem t_X7_isLaid_62 (g : fm_G) (l : Launch) (hl : l.stackTraces = false) (P : Nat) (hP : fm_kd g P = 7) (w : fm_W)  (x1 : Int32)  (M : fm_Mem) : Tt g l z_X7_isLaid (emI M w) (f_X7_isLaid_62 P  x1 M) 62 [(1, .int x1)] [] (M, w) := by
  rw [f_X7_isLaid_62]
  refine Tt.go (fun _ => Tr.run 1 (pc' := 63) (lv' := [(1, .int x1)]) (st' := [.int x1]) rfl) ?_
  exact Tt.ck (fun hb_1 => Tt.ret (Tr.zret rfl rfl hb_1))
def f_X7_isLaid_55 (P : Nat) (k19 : Int32 → Int32 → fm_Mem → Option (Int32)) (x2 : Int32) (s0 : Int32) (M : fm_Mem) : Option (Int32) := (k19 s0 (x2 + (1 : Int32)) M)
set_option maxRecDepth 100000 in
set_option maxHeartbeats 4000000 in
theorem t_X7_isLaid_55 (g : fm_G) (l : Launch) (hl : l.stackTraces = false) (P : Nat) (hP : fm_kd g P = 7) (w : fm_W) (k19 : Int32 → Int32 → fm_Mem → Option (Int32)) (hk19 : ∀ (x1 : Int32) (x2 : Int32) (M : fm_Mem), Tt g l z_X7_isLaid (emI M w) (k19 x1 x2 M) 19 [(0, .ref P), (1, .int x1), (2, .int x2)] [] (M, w)) (x2 : Int32) (s0 : Int32)  (M : fm_Mem) : Tt g l z_X7_isLaid (emI M w) (f_X7_isLaid_55 P k19 x2 s0 M) 55 [(0, .ref P), (2, .int x2)] [.int s0] (M, w) := by
  rw [f_X7_isLaid_55]
  refine Tt.go (fun _ => Tr.run 3 (pc' := 19) (lv' := [(2, .int (x2 + (1 : Int32))), (1, .int s0), (0, .ref P)]) (st' := []) rfl) ?_
  refine Tt.go (fun _ => Tr.sub (lv' := [(0, .ref P), (1, .int s0), (2, .int (x2 + (1 : Int32)))]) [2, 1, 0] rfl) ?_
  exact hk19 s0 (x2 + (1 : Int32)) M
def f_X7_isLaid_19 (P : Nat) : Nat → Int32 → Int32 → fm_Mem → Option (Int32)
  | 0, _, _, _ => none
  | n + 1, x1, x2, M => Option.bind (f_X7_points P M) (fun v1 => if ((2 : Int32) * v1) ≤ x2 then (f_X7_isLaid_62 P x1 M) else (if x1 = 0 then (f_X7_isLaid_62 P x1 M) else (fm_ck (fm_in x2 40) (Option.bind (f_X7_get P ((10 : Int32) + x2) M) (fun v3 => if (M (P + 5) (Int32.toNatClampNeg x2)) = v3 then (f_X7_isLaid_55 P (fun x1 x2 M => f_X7_isLaid_19 P n x1 x2 M) x2 (1 : Int32) M) else (f_X7_isLaid_55 P (fun x1 x2 M => f_X7_isLaid_19 P n x1 x2 M) x2 (0 : Int32) M))))))
set_option maxRecDepth 100000 in
set_option maxHeartbeats 4000000 in
theorem t_X7_isLaid_19 (g : fm_G) (l : Launch) (hl : l.stackTraces = false) (P : Nat) (hP : fm_kd g P = 7) (w : fm_W)  : ∀ (n : Nat) (x1 : Int32) (x2 : Int32)  (M : fm_Mem), Tt g l z_X7_isLaid (emI M w) (f_X7_isLaid_19 P  n x1 x2 M) 19 [(0, .ref P), (1, .int x1), (2, .int x2)] [] (M, w) := by
  intro n
  induction n with
  | zero => intros; exact Tt.none
  | succ n ih =>
    intro x1 x2  M
    rw [f_X7_isLaid_19]
    refine Tt.go (fun _ => Tr.run 3 (pc' := 22) (lv' := [(0, .ref P), (1, .int x1), (2, .int x2)]) (st' := [.ref P, .int (2 : Int32), .int x2]) rfl) ?_
    refine Tt.callV (As := []) (rest := [.int (2 : Int32), .int x2]) (c_X7_points g l hl P hP M w) hP (by decide) rfl rfl cw_X7_points fw1156 pn_X7_points (Nat.le_of_ble_eq_true rfl) (Nat.le_of_ble_eq_true rfl) (Nat.le_of_ble_eq_true rfl) rfl (fun v1 => (?_ : Tt g l z_X7_isLaid (emI M w) _ 25 [(0, .ref P), (1, .int x1), (2, .int x2)] [.int v1, .int (2 : Int32), .int x2] (M, w)))
    refine Tt.go (fun _ => Tr.run 1 (pc' := 26) (lv' := [(0, .ref P), (1, .int x1), (2, .int x2)]) (st' := [.int ((2 : Int32) * v1), .int x2]) rfl) ?_
    refine Tt.ic_ge (tgt := 62) rfl (by decide) ?_ ?_
    · refine Tt.go (fun _ => Tr.sub (lv' := [(1, .int x1)]) [1] rfl) ?_
      exact t_X7_isLaid_62 g l hl P hP w x1 M
    · refine Tt.go (fun _ => Tr.run 1 (pc' := 30) (lv' := [(0, .ref P), (1, .int x1), (2, .int x2)]) (st' := [.int x1]) rfl) ?_
      refine Tt.if_eq (tgt := 62) rfl (by decide) ?_ ?_
      · refine Tt.go (fun _ => Tr.sub (lv' := [(1, .int x1)]) [1] rfl) ?_
        exact t_X7_isLaid_62 g l hl P hP w x1 M
      · refine Tt.go (fun _ => Tr.run 1 (pc' := 34) (lv' := [(0, .ref P), (1, .int x1), (2, .int x2)]) (st' := [.ref P]) rfl) ?_
        refine Tt.go (fun _ => Tr.get fmc7 hP rfl fw1031 (k := 7) (by decide) rfl) (?_ : Tt g l z_X7_isLaid (emI M w) _ 37 [(0, .ref P), (1, .int x1), (2, .int x2)] [.ref (P + 5)] (M, w))
        refine Tt.go (fun _ => Tr.run 1 (pc' := 38) (lv' := [(0, .ref P), (1, .int x1), (2, .int x2)]) (st' := [.int x2, .ref (P + 5)]) rfl) ?_
        refine Tt.ck (fun hi_2 => ?_)
        refine Tt.go (fun _ => Tr.iald (fmk_7_7 hP) (by decide) hi_2 rfl) (?_ : Tt g l z_X7_isLaid (emI M w) _ 39 [(0, .ref P), (1, .int x1), (2, .int x2)] [.int (M (P + 5) (Int32.toNatClampNeg x2))] (M, w))
        refine Tt.go (fun _ => Tr.run 4 (pc' := 44) (lv' := [(0, .ref P), (1, .int x1), (2, .int x2)]) (st' := [.int ((10 : Int32) + x2), .ref P, .int (M (P + 5) (Int32.toNatClampNeg x2))]) rfl) ?_
        refine Tt.callV (As := [.int ((10 : Int32) + x2)]) (rest := [.int (M (P + 5) (Int32.toNatClampNeg x2))]) (c_X7_get g l hl P ((10 : Int32) + x2) hP M w) hP (by decide) rfl rfl cw_X7_get fw1109 pn_X7_get (Nat.le_of_ble_eq_true rfl) (Nat.le_of_ble_eq_true rfl) (Nat.le_of_ble_eq_true rfl) rfl (fun v3 => (?_ : Tt g l z_X7_isLaid (emI M w) _ 47 [(0, .ref P), (1, .int x1), (2, .int x2)] [.int v3, .int (M (P + 5) (Int32.toNatClampNeg x2))] (M, w)))
        refine Tt.ic_ne (tgt := 54) rfl (by decide) ?_ ?_
        · refine Tt.go (fun _ => Tr.run 2 (pc' := 55) (lv' := [(0, .ref P), (1, .int x1), (2, .int x2)]) (st' := [.int (1 : Int32)]) rfl) ?_
          refine Tt.go (fun _ => Tr.sub (lv' := [(0, .ref P), (2, .int x2)]) [0, 2] rfl) ?_
          exact t_X7_isLaid_55 g l hl P hP w _ ih x2 (1 : Int32) M
        · refine Tt.go (fun _ => Tr.run 1 (pc' := 55) (lv' := [(0, .ref P), (1, .int x1), (2, .int x2)]) (st' := [.int (0 : Int32)]) rfl) ?_
          refine Tt.go (fun _ => Tr.sub (lv' := [(0, .ref P), (2, .int x2)]) [0, 2] rfl) ?_
          exact t_X7_isLaid_55 g l hl P hP w _ ih x2 (0 : Int32) M
def f_X7_isLaid_16 (P : Nat) (s0 : Int32) (M : fm_Mem) : Option (Int32) := (f_X7_isLaid_19 P fm_fuel s0 (0 : Int32) M)
set_option maxRecDepth 100000 in
set_option maxHeartbeats 4000000 in
theorem t_X7_isLaid_16 (g : fm_G) (l : Launch) (hl : l.stackTraces = false) (P : Nat) (hP : fm_kd g P = 7) (w : fm_W)  (s0 : Int32)  (M : fm_Mem) : Tt g l z_X7_isLaid (emI M w) (f_X7_isLaid_16 P  s0 M) 16 [(0, .ref P)] [.int s0] (M, w) := by
  rw [f_X7_isLaid_16]
  refine Tt.go (fun _ => Tr.run 3 (pc' := 19) (lv' := [(2, .int (0 : Int32)), (1, .int s0), (0, .ref P)]) (st' := []) rfl) ?_
  refine Tt.go (fun _ => Tr.sub (lv' := [(0, .ref P), (1, .int s0), (2, .int (0 : Int32))]) [2, 1, 0] rfl) ?_
  exact t_X7_isLaid_19 g l hl P hP w fm_fuel s0 (0 : Int32) M
def f_X7_isLaid (P : Nat) (M : fm_Mem) : Option (Int32) := Option.bind (f_X7_points P M) (fun v1 => if (M P 9) = v1 then (f_X7_isLaid_16 P (1 : Int32) M) else (f_X7_isLaid_16 P (0 : Int32) M))
set_option maxRecDepth 100000 in
set_option maxHeartbeats 4000000 in
theorem t_X7_isLaid (g : fm_G) (l : Launch) (hl : l.stackTraces = false) (P : Nat) (hP : fm_kd g P = 7) (M : fm_Mem) (w : fm_W) : Tt g l z_X7_isLaid (emI M w) (f_X7_isLaid P M) 0 [(0, .ref P)] [] (M, w) := by
  rw [f_X7_isLaid]
  refine Tt.go (fun _ => Tr.run 1 (pc' := 1) (lv' := [(0, .ref P)]) (st' := [.ref P]) rfl) ?_
  refine Tt.go (fun _ => Tr.get fmc7 hP rfl fw1033 (k := 9) (by decide) rfl) (?_ : Tt g l z_X7_isLaid (emI M w) _ 4 [(0, .ref P)] [.int (M P 9)] (M, w))
  refine Tt.go (fun _ => Tr.run 1 (pc' := 5) (lv' := [(0, .ref P)]) (st' := [.ref P, .int (M P 9)]) rfl) ?_
  refine Tt.callV (As := []) (rest := [.int (M P 9)]) (c_X7_points g l hl P hP M w) hP (by decide) rfl rfl cw_X7_points fw1156 pn_X7_points (Nat.le_of_ble_eq_true rfl) (Nat.le_of_ble_eq_true rfl) (Nat.le_of_ble_eq_true rfl) rfl (fun v1 => (?_ : Tt g l z_X7_isLaid (emI M w) _ 8 [(0, .ref P)] [.int v1, .int (M P 9)] (M, w)))
  refine Tt.ic_ne (tgt := 15) rfl (by decide) ?_ ?_
  · refine Tt.go (fun _ => Tr.run 2 (pc' := 16) (lv' := [(0, .ref P)]) (st' := [.int (1 : Int32)]) rfl) ?_
    exact t_X7_isLaid_16 g l hl P hP w (1 : Int32) M
  · refine Tt.go (fun _ => Tr.run 1 (pc' := 16) (lv' := [(0, .ref P)]) (st' := [.int (0 : Int32)]) rfl) ?_
    exact t_X7_isLaid_16 g l hl P hP w (0 : Int32) M
theorem c_X7_isLaid (g : fm_G) (l : Launch) (hl : l.stackTraces = false) (P : Nat) (hP : fm_kd g P = 7) (M : fm_Mem) (w : fm_W) : ∀ r, f_X7_isLaid P M = some r → fC g l z_X7_isLaid [.ref P] (M, w) (emI M w r) := fun r hr => fC.of (by decide) rfl o_X7_isLaid hl (Nat.le_of_ble_eq_true rfl) (t_X7_isLaid g l hl P hP M w r hr)
def k_X7_adds : List (Nat × Instr × Nat) := [(0, .aload_n 0, 1), (1, .getfield 16, 3), (4, .iconst 3, 1), (5, .aload_n 0, 1), (6, .getfield 86, 3), (9, .imul, 1), (10, .iload_n 1, 1), (11, .iastore, 1), (12, .aload_n 0, 1), (13, .getfield 16, 3), (16, .iconst 3, 1), (17, .aload_n 0, 1), (18, .getfield 86, 3), (21, .imul, 1), (22, .iconst 1, 1), (23, .iadd, 1), (24, .iload_n 2, 1), (25, .iastore, 1), (26, .aload_n 0, 1), (27, .getfield 16, 3), (30, .iconst 3, 1), (31, .aload_n 0, 1), (32, .getfield 86, 3), (35, .imul, 1), (36, .iconst 2, 1), (37, .iadd, 1), (38, .iload_n 3, 1), (39, .iastore, 1), (40, .aload_n 0, 1), (41, .dup, 1), (42, .getfield 86, 3), (45, .iconst 1, 1), (46, .iadd, 1), (47, .putfield 86, 3), (50, .return_, 1)]
def z_X7_adds : fm_Y := (yX7_adds, RX7, cX7_adds, 4, none, k_X7_adds, 0, 0)
theorem o_X7_adds : fm_dec z_X7_adds := (by decide +kernel : ∀ q ∈ k_X7_adds, decode cX7_adds q.1 = .ok q.2)
theorem cw_X7_adds : fm_cwV z_X7_adds := ⟨⟨lw_in 1214 (by decide +kernel) (by decide +kernel), lw_in 99 (by decide +kernel) (by decide +kernel), by decide, by decide⟩, lw_in 1213 (by decide +kernel) (by decide +kernel), lw_in 51 (by decide +kernel) (by decide +kernel)⟩
theorem pn_X7_adds : (parseMethodDescriptor z_X7_adds.1.desc).map (fun d => d.parameters.length) = some 3 := by decide +kernel
def f_X7_adds (P : Nat) (a1 : Int32) (a2 : Int32) (a3 : Int32) (M : fm_Mem) : Option (fm_Mem) := fm_ck (fm_in ((3 : Int32) * (M P 8)) 120) (fm_ck (fm_in (((3 : Int32) * ((fm_up M (P + 3) (Int32.toNatClampNeg ((3 : Int32) * (M P 8))) a1) P 8)) + (1 : Int32)) 120) (fm_ck (fm_in (((3 : Int32) * ((fm_up (fm_up M (P + 3) (Int32.toNatClampNeg ((3 : Int32) * (M P 8))) a1) (P + 3) (Int32.toNatClampNeg (((3 : Int32) * ((fm_up M (P + 3) (Int32.toNatClampNeg ((3 : Int32) * (M P 8))) a1) P 8)) + (1 : Int32))) a2) P 8)) + (2 : Int32)) 120) (some ((fm_up (fm_up (fm_up (fm_up M (P + 3) (Int32.toNatClampNeg ((3 : Int32) * (M P 8))) a1) (P + 3) (Int32.toNatClampNeg (((3 : Int32) * ((fm_up M (P + 3) (Int32.toNatClampNeg ((3 : Int32) * (M P 8))) a1) P 8)) + (1 : Int32))) a2) (P + 3) (Int32.toNatClampNeg (((3 : Int32) * ((fm_up (fm_up M (P + 3) (Int32.toNatClampNeg ((3 : Int32) * (M P 8))) a1) (P + 3) (Int32.toNatClampNeg (((3 : Int32) * ((fm_up M (P + 3) (Int32.toNatClampNeg ((3 : Int32) * (M P 8))) a1) P 8)) + (1 : Int32))) a2) P 8)) + (2 : Int32))) a3) P 8 (((fm_up (fm_up (fm_up M (P + 3) (Int32.toNatClampNeg ((3 : Int32) * (M P 8))) a1) (P + 3) (Int32.toNatClampNeg (((3 : Int32) * ((fm_up M (P + 3) (Int32.toNatClampNeg ((3 : Int32) * (M P 8))) a1) P 8)) + (1 : Int32))) a2) (P + 3) (Int32.toNatClampNeg (((3 : Int32) * ((fm_up (fm_up M (P + 3) (Int32.toNatClampNeg ((3 : Int32) * (M P 8))) a1) (P + 3) (Int32.toNatClampNeg (((3 : Int32) * ((fm_up M (P + 3) (Int32.toNatClampNeg ((3 : Int32) * (M P 8))) a1) P 8)) + (1 : Int32))) a2) P 8)) + (2 : Int32))) a3) P 8) + (1 : Int32)))))))
set_option maxRecDepth 100000 in
set_option maxHeartbeats 4000000 in
theorem t_X7_adds (g : fm_G) (l : Launch) (hl : l.stackTraces = false) (P : Nat) (a1 : Int32) (a2 : Int32) (a3 : Int32) (hP : fm_kd g P = 7) (M : fm_Mem) (w : fm_W) : Tt g l z_X7_adds (emVw M w) (f_X7_adds P a1 a2 a3 M) 0 [(0, .ref P), (1, .int a1), (2, .int a2), (3, .int a3)] [] (M, w) := by
  rw [f_X7_adds]
  refine Tt.go (fun _ => Tr.run 1 (pc' := 1) (lv' := [(0, .ref P), (1, .int a1), (2, .int a2), (3, .int a3)]) (st' := [.ref P]) rfl) ?_
  refine Tt.go (fun _ => Tr.get fmc7 hP rfl fw1029 (k := 5) (by decide) rfl) (?_ : Tt g l z_X7_adds (emVw M w) _ 4 [(0, .ref P), (1, .int a1), (2, .int a2), (3, .int a3)] [.ref (P + 3)] (M, w))
  refine Tt.go (fun _ => Tr.run 2 (pc' := 6) (lv' := [(0, .ref P), (1, .int a1), (2, .int a2), (3, .int a3)]) (st' := [.ref P, .int (3 : Int32), .ref (P + 3)]) rfl) ?_
  refine Tt.go (fun _ => Tr.get fmc7 hP rfl fw1032 (k := 8) (by decide) rfl) (?_ : Tt g l z_X7_adds (emVw M w) _ 9 [(0, .ref P), (1, .int a1), (2, .int a2), (3, .int a3)] [.int (M P 8), .int (3 : Int32), .ref (P + 3)] (M, w))
  refine Tt.go (fun _ => Tr.run 2 (pc' := 11) (lv' := [(0, .ref P), (1, .int a1), (2, .int a2), (3, .int a3)]) (st' := [.int a1, .int ((3 : Int32) * (M P 8)), .ref (P + 3)]) rfl) ?_
  refine Tt.ck (fun hi_1 => ?_)
  refine Tt.go (fun _ => Tr.iast (fmk_7_5 hP) (by decide) hi_1 rfl) (?_ : Tt g l z_X7_adds (emVw M w) _ 12 [(0, .ref P), (1, .int a1), (2, .int a2), (3, .int a3)] [] ((fm_up M (P + 3) (Int32.toNatClampNeg ((3 : Int32) * (M P 8))) a1), w))
  refine Tt.go (fun _ => Tr.run 1 (pc' := 13) (lv' := [(0, .ref P), (1, .int a1), (2, .int a2), (3, .int a3)]) (st' := [.ref P]) rfl) ?_
  refine Tt.go (fun _ => Tr.get fmc7 hP rfl fw1029 (k := 5) (by decide) rfl) (?_ : Tt g l z_X7_adds (emVw M w) _ 16 [(0, .ref P), (1, .int a1), (2, .int a2), (3, .int a3)] [.ref (P + 3)] ((fm_up M (P + 3) (Int32.toNatClampNeg ((3 : Int32) * (M P 8))) a1), w))
  refine Tt.go (fun _ => Tr.run 2 (pc' := 18) (lv' := [(0, .ref P), (1, .int a1), (2, .int a2), (3, .int a3)]) (st' := [.ref P, .int (3 : Int32), .ref (P + 3)]) rfl) ?_
  refine Tt.go (fun _ => Tr.get fmc7 hP rfl fw1032 (k := 8) (by decide) rfl) (?_ : Tt g l z_X7_adds (emVw M w) _ 21 [(0, .ref P), (1, .int a1), (2, .int a2), (3, .int a3)] [.int ((fm_up M (P + 3) (Int32.toNatClampNeg ((3 : Int32) * (M P 8))) a1) P 8), .int (3 : Int32), .ref (P + 3)] ((fm_up M (P + 3) (Int32.toNatClampNeg ((3 : Int32) * (M P 8))) a1), w))
  refine Tt.go (fun _ => Tr.run 4 (pc' := 25) (lv' := [(0, .ref P), (1, .int a1), (2, .int a2), (3, .int a3)]) (st' := [.int a2, .int (((3 : Int32) * ((fm_up M (P + 3) (Int32.toNatClampNeg ((3 : Int32) * (M P 8))) a1) P 8)) + (1 : Int32)), .ref (P + 3)]) rfl) ?_
  refine Tt.ck (fun hi_2 => ?_)
  refine Tt.go (fun _ => Tr.iast (fmk_7_5 hP) (by decide) hi_2 rfl) (?_ : Tt g l z_X7_adds (emVw M w) _ 26 [(0, .ref P), (1, .int a1), (2, .int a2), (3, .int a3)] [] ((fm_up (fm_up M (P + 3) (Int32.toNatClampNeg ((3 : Int32) * (M P 8))) a1) (P + 3) (Int32.toNatClampNeg (((3 : Int32) * ((fm_up M (P + 3) (Int32.toNatClampNeg ((3 : Int32) * (M P 8))) a1) P 8)) + (1 : Int32))) a2), w))
  refine Tt.go (fun _ => Tr.run 1 (pc' := 27) (lv' := [(0, .ref P), (1, .int a1), (2, .int a2), (3, .int a3)]) (st' := [.ref P]) rfl) ?_
  refine Tt.go (fun _ => Tr.get fmc7 hP rfl fw1029 (k := 5) (by decide) rfl) (?_ : Tt g l z_X7_adds (emVw M w) _ 30 [(0, .ref P), (1, .int a1), (2, .int a2), (3, .int a3)] [.ref (P + 3)] ((fm_up (fm_up M (P + 3) (Int32.toNatClampNeg ((3 : Int32) * (M P 8))) a1) (P + 3) (Int32.toNatClampNeg (((3 : Int32) * ((fm_up M (P + 3) (Int32.toNatClampNeg ((3 : Int32) * (M P 8))) a1) P 8)) + (1 : Int32))) a2), w))
  refine Tt.go (fun _ => Tr.run 2 (pc' := 32) (lv' := [(0, .ref P), (1, .int a1), (2, .int a2), (3, .int a3)]) (st' := [.ref P, .int (3 : Int32), .ref (P + 3)]) rfl) ?_
  refine Tt.go (fun _ => Tr.get fmc7 hP rfl fw1032 (k := 8) (by decide) rfl) (?_ : Tt g l z_X7_adds (emVw M w) _ 35 [(0, .ref P), (1, .int a1), (2, .int a2), (3, .int a3)] [.int ((fm_up (fm_up M (P + 3) (Int32.toNatClampNeg ((3 : Int32) * (M P 8))) a1) (P + 3) (Int32.toNatClampNeg (((3 : Int32) * ((fm_up M (P + 3) (Int32.toNatClampNeg ((3 : Int32) * (M P 8))) a1) P 8)) + (1 : Int32))) a2) P 8), .int (3 : Int32), .ref (P + 3)] ((fm_up (fm_up M (P + 3) (Int32.toNatClampNeg ((3 : Int32) * (M P 8))) a1) (P + 3) (Int32.toNatClampNeg (((3 : Int32) * ((fm_up M (P + 3) (Int32.toNatClampNeg ((3 : Int32) * (M P 8))) a1) P 8)) + (1 : Int32))) a2), w))
  refine Tt.go (fun _ => Tr.run 4 (pc' := 39) (lv' := [(0, .ref P), (1, .int a1), (2, .int a2), (3, .int a3)]) (st' := [.int a3, .int (((3 : Int32) * ((fm_up (fm_up M (P + 3) (Int32.toNatClampNeg ((3 : Int32) * (M P 8))) a1) (P + 3) (Int32.toNatClampNeg (((3 : Int32) * ((fm_up M (P + 3) (Int32.toNatClampNeg ((3 : Int32) * (M P 8))) a1) P 8)) + (1 : Int32))) a2) P 8)) + (2 : Int32)), .ref (P + 3)]) rfl) ?_
  refine Tt.ck (fun hi_3 => ?_)
  refine Tt.go (fun _ => Tr.iast (fmk_7_5 hP) (by decide) hi_3 rfl) (?_ : Tt g l z_X7_adds (emVw M w) _ 40 [(0, .ref P), (1, .int a1), (2, .int a2), (3, .int a3)] [] ((fm_up (fm_up (fm_up M (P + 3) (Int32.toNatClampNeg ((3 : Int32) * (M P 8))) a1) (P + 3) (Int32.toNatClampNeg (((3 : Int32) * ((fm_up M (P + 3) (Int32.toNatClampNeg ((3 : Int32) * (M P 8))) a1) P 8)) + (1 : Int32))) a2) (P + 3) (Int32.toNatClampNeg (((3 : Int32) * ((fm_up (fm_up M (P + 3) (Int32.toNatClampNeg ((3 : Int32) * (M P 8))) a1) (P + 3) (Int32.toNatClampNeg (((3 : Int32) * ((fm_up M (P + 3) (Int32.toNatClampNeg ((3 : Int32) * (M P 8))) a1) P 8)) + (1 : Int32))) a2) P 8)) + (2 : Int32))) a3), w))
  refine Tt.go (fun _ => Tr.run 2 (pc' := 42) (lv' := [(0, .ref P), (1, .int a1), (2, .int a2), (3, .int a3)]) (st' := [.ref P, .ref P]) rfl) ?_
  refine Tt.go (fun _ => Tr.get fmc7 hP rfl fw1032 (k := 8) (by decide) rfl) (?_ : Tt g l z_X7_adds (emVw M w) _ 45 [(0, .ref P), (1, .int a1), (2, .int a2), (3, .int a3)] [.int ((fm_up (fm_up (fm_up M (P + 3) (Int32.toNatClampNeg ((3 : Int32) * (M P 8))) a1) (P + 3) (Int32.toNatClampNeg (((3 : Int32) * ((fm_up M (P + 3) (Int32.toNatClampNeg ((3 : Int32) * (M P 8))) a1) P 8)) + (1 : Int32))) a2) (P + 3) (Int32.toNatClampNeg (((3 : Int32) * ((fm_up (fm_up M (P + 3) (Int32.toNatClampNeg ((3 : Int32) * (M P 8))) a1) (P + 3) (Int32.toNatClampNeg (((3 : Int32) * ((fm_up M (P + 3) (Int32.toNatClampNeg ((3 : Int32) * (M P 8))) a1) P 8)) + (1 : Int32))) a2) P 8)) + (2 : Int32))) a3) P 8), .ref P] ((fm_up (fm_up (fm_up M (P + 3) (Int32.toNatClampNeg ((3 : Int32) * (M P 8))) a1) (P + 3) (Int32.toNatClampNeg (((3 : Int32) * ((fm_up M (P + 3) (Int32.toNatClampNeg ((3 : Int32) * (M P 8))) a1) P 8)) + (1 : Int32))) a2) (P + 3) (Int32.toNatClampNeg (((3 : Int32) * ((fm_up (fm_up M (P + 3) (Int32.toNatClampNeg ((3 : Int32) * (M P 8))) a1) (P + 3) (Int32.toNatClampNeg (((3 : Int32) * ((fm_up M (P + 3) (Int32.toNatClampNeg ((3 : Int32) * (M P 8))) a1) P 8)) + (1 : Int32))) a2) P 8)) + (2 : Int32))) a3), w))
  refine Tt.go (fun _ => Tr.run 2 (pc' := 47) (lv' := [(0, .ref P), (1, .int a1), (2, .int a2), (3, .int a3)]) (st' := [.int (((fm_up (fm_up (fm_up M (P + 3) (Int32.toNatClampNeg ((3 : Int32) * (M P 8))) a1) (P + 3) (Int32.toNatClampNeg (((3 : Int32) * ((fm_up M (P + 3) (Int32.toNatClampNeg ((3 : Int32) * (M P 8))) a1) P 8)) + (1 : Int32))) a2) (P + 3) (Int32.toNatClampNeg (((3 : Int32) * ((fm_up (fm_up M (P + 3) (Int32.toNatClampNeg ((3 : Int32) * (M P 8))) a1) (P + 3) (Int32.toNatClampNeg (((3 : Int32) * ((fm_up M (P + 3) (Int32.toNatClampNeg ((3 : Int32) * (M P 8))) a1) P 8)) + (1 : Int32))) a2) P 8)) + (2 : Int32))) a3) P 8) + (1 : Int32)), .ref P]) rfl) ?_
  refine Tt.go (fun _ => Tr.put fmc7 hP rfl fw1032 (k := 8) (by decide) rfl rfl ⟨rfl, rfl⟩) (?_ : Tt g l z_X7_adds (emVw M w) _ 50 [(0, .ref P), (1, .int a1), (2, .int a2), (3, .int a3)] [] ((fm_up (fm_up (fm_up (fm_up M (P + 3) (Int32.toNatClampNeg ((3 : Int32) * (M P 8))) a1) (P + 3) (Int32.toNatClampNeg (((3 : Int32) * ((fm_up M (P + 3) (Int32.toNatClampNeg ((3 : Int32) * (M P 8))) a1) P 8)) + (1 : Int32))) a2) (P + 3) (Int32.toNatClampNeg (((3 : Int32) * ((fm_up (fm_up M (P + 3) (Int32.toNatClampNeg ((3 : Int32) * (M P 8))) a1) (P + 3) (Int32.toNatClampNeg (((3 : Int32) * ((fm_up M (P + 3) (Int32.toNatClampNeg ((3 : Int32) * (M P 8))) a1) P 8)) + (1 : Int32))) a2) P 8)) + (2 : Int32))) a3) P 8 (((fm_up (fm_up (fm_up M (P + 3) (Int32.toNatClampNeg ((3 : Int32) * (M P 8))) a1) (P + 3) (Int32.toNatClampNeg (((3 : Int32) * ((fm_up M (P + 3) (Int32.toNatClampNeg ((3 : Int32) * (M P 8))) a1) P 8)) + (1 : Int32))) a2) (P + 3) (Int32.toNatClampNeg (((3 : Int32) * ((fm_up (fm_up M (P + 3) (Int32.toNatClampNeg ((3 : Int32) * (M P 8))) a1) (P + 3) (Int32.toNatClampNeg (((3 : Int32) * ((fm_up M (P + 3) (Int32.toNatClampNeg ((3 : Int32) * (M P 8))) a1) P 8)) + (1 : Int32))) a2) P 8)) + (2 : Int32))) a3) P 8) + (1 : Int32))), w))
  exact Tt.ret (Tr.vret rfl rfl)
theorem c_X7_adds (g : fm_G) (l : Launch) (hl : l.stackTraces = false) (P : Nat) (a1 : Int32) (a2 : Int32) (a3 : Int32) (hP : fm_kd g P = 7) (M : fm_Mem) (w : fm_W) : ∀ r, f_X7_adds P a1 a2 a3 M = some r → fC g l z_X7_adds [.ref P, .int a1, .int a2, .int a3] (M, w) (emVw M w r) := fun r hr => fC.of (by decide) rfl o_X7_adds hl (Nat.le_of_ble_eq_true rfl) (t_X7_adds g l hl P a1 a2 a3 hP M w r hr)
def k_X7_laysDue : List (Nat × Instr × Nat) := [(0, .aload_n 0, 1), (1, .invokevirtual 82, 3), (4, .ifCond .eq 4, 3), (7, .return_, 1), (8, .aload_n 0, 1), (9, .aload_n 0, 1), (10, .invokevirtual 48, 3), (13, .putfield 25, 3), (16, .iconst 0, 1), (17, .istore_n 1, 1), (18, .iload_n 1, 1), (19, .iconst 2, 1), (20, .aload_n 0, 1), (21, .invokevirtual 48, 3), (24, .imul, 1), (25, .if_icmp .ge 23, 3), (28, .aload_n 0, 1), (29, .getfield 22, 3), (32, .iload_n 1, 1), (33, .aload_n 0, 1), (34, .bipush 10, 2), (36, .iload_n 1, 1), (37, .iadd, 1), (38, .invokevirtual 41, 3), (41, .iastore, 1), (42, .iinc 1 1, 3), (45, .goto (-27), 3), (48, .aload_n 0, 1), (49, .iconst 0, 1), (50, .putfield 86, 3), (53, .iconst 0, 1), (54, .istore_n 1, 1), (55, .iload_n 1, 1), (56, .aload_n 0, 1), (57, .invokevirtual 48, 3), (60, .if_icmp .ge 62, 3), (63, .iload_n 1, 1), (64, .iconst 1, 1), (65, .iadd, 1), (66, .istore_n 2, 1), (67, .iload_n 2, 1), (68, .aload_n 0, 1), (69, .invokevirtual 48, 3), (72, .if_icmp .ge 44, 3), (75, .iload_n 2, 1), (76, .iconst 1, 1), (77, .iadd, 1), (78, .istore_n 3, 1), (79, .iload_n 3, 1), (80, .aload_n 0, 1), (81, .invokevirtual 48, 3), (84, .if_icmp .ge 26, 3), (87, .aload_n 0, 1), (88, .iload_n 1, 1), (89, .iload_n 2, 1), (90, .iload_n 3, 1), (91, .invokevirtual 89, 3), (94, .ifCond .eq 10, 3), (97, .aload_n 0, 1), (98, .iload_n 1, 1), (99, .iload_n 2, 1), (100, .iload_n 3, 1), (101, .invokevirtual 92, 3), (104, .iinc 3 1, 3), (107, .goto (-28), 3), (110, .iinc 2 1, 3), (113, .goto (-46), 3), (116, .iinc 1 1, 3), (119, .goto (-64), 3), (122, .return_, 1)]
def z_X7_laysDue : fm_Y := (yX7_laysDue, RX7, cX7_laysDue, 4, none, k_X7_laysDue, 6, 171)
theorem o_X7_laysDue : fm_dec z_X7_laysDue := (by decide +kernel : ∀ q ∈ k_X7_laysDue, decode cX7_laysDue q.1 = .ok q.2)
theorem cw_X7_laysDue : fm_cwV z_X7_laysDue := ⟨⟨lw_in 1184 (by decide +kernel) (by decide +kernel), lw_in 99 (by decide +kernel) (by decide +kernel), by decide, by decide⟩, lw_in 1183 (by decide +kernel) (by decide +kernel), lw_in 45 (by decide +kernel) (by decide +kernel)⟩
theorem pn_X7_laysDue : (parseMethodDescriptor z_X7_laysDue.1.desc).map (fun d => d.parameters.length) = some 0 := by decide +kernel
def f_X7_laysDue_104 (P : Nat) (k55 : Int32 → fm_Mem → Option (fm_Mem)) (k67 : Int32 → Int32 → fm_Mem → Option (fm_Mem)) (k79 : Int32 → Int32 → Int32 → fm_Mem → Option (fm_Mem)) (x1 : Int32) (x2 : Int32) (x3 : Int32) (M : fm_Mem) : Option (fm_Mem) := (k79 x1 x2 (x3 + (1 : Int32)) M)
set_option maxRecDepth 100000 in
set_option maxHeartbeats 4000000 in
theorem t_X7_laysDue_104 (g : fm_G) (l : Launch) (hl : l.stackTraces = false) (P : Nat) (hP : fm_kd g P = 7) (w : fm_W) (M0 : fm_Mem) (k55 : Int32 → fm_Mem → Option (fm_Mem)) (hk55 : ∀ (x1 : Int32) (M : fm_Mem), Tt g l z_X7_laysDue (emVw M0 w) (k55 x1 M) 55 [(0, .ref P), (1, .int x1)] [] (M, w)) (k67 : Int32 → Int32 → fm_Mem → Option (fm_Mem)) (hk67 : ∀ (x1 : Int32) (x2 : Int32) (M : fm_Mem), Tt g l z_X7_laysDue (emVw M0 w) (k67 x1 x2 M) 67 [(0, .ref P), (1, .int x1), (2, .int x2)] [] (M, w)) (k79 : Int32 → Int32 → Int32 → fm_Mem → Option (fm_Mem)) (hk79 : ∀ (x1 : Int32) (x2 : Int32) (x3 : Int32) (M : fm_Mem), Tt g l z_X7_laysDue (emVw M0 w) (k79 x1 x2 x3 M) 79 [(0, .ref P), (1, .int x1), (2, .int x2), (3, .int x3)] [] (M, w)) (x1 : Int32) (x2 : Int32) (x3 : Int32)  (M : fm_Mem) : Tt g l z_X7_laysDue (emVw M0 w) (f_X7_laysDue_104 P k55 k67 k79 x1 x2 x3 M) 104 [(0, .ref P), (1, .int x1), (2, .int x2), (3, .int x3)] [] (M, w) := by
  rw [f_X7_laysDue_104]
  refine Tt.go (fun _ => Tr.run 2 (pc' := 79) (lv' := [(3, .int (x3 + (1 : Int32))), (0, .ref P), (1, .int x1), (2, .int x2)]) (st' := []) rfl) ?_
  refine Tt.go (fun _ => Tr.sub (lv' := [(0, .ref P), (1, .int x1), (2, .int x2), (3, .int (x3 + (1 : Int32)))]) [1, 2, 3, 0] rfl) ?_
  exact hk79 x1 x2 (x3 + (1 : Int32)) M
def f_X7_laysDue_79 (P : Nat) (k55 : Int32 → fm_Mem → Option (fm_Mem)) (k67 : Int32 → Int32 → fm_Mem → Option (fm_Mem)) : Nat → Int32 → Int32 → Int32 → fm_Mem → Option (fm_Mem)
  | 0, _, _, _, _ => none
  | n + 1, x1, x2, x3, M => Option.bind (f_X7_points P M) (fun v1 => if v1 ≤ x3 then (k67 x1 (x2 + (1 : Int32)) M) else (Option.bind (f_X7_isDue P x1 x2 x3 M) (fun v2 => if v2 = 0 then (f_X7_laysDue_104 P k55 k67 (fun x1 x2 x3 M => f_X7_laysDue_79 P k55 k67 n x1 x2 x3 M) x1 x2 x3 M) else (Option.bind (f_X7_adds P x1 x2 x3 M) (fun v3 => (f_X7_laysDue_104 P k55 k67 (fun x1 x2 x3 M => f_X7_laysDue_79 P k55 k67 n x1 x2 x3 M) x1 x2 x3 v3))))))
set_option maxRecDepth 100000 in
set_option maxHeartbeats 4000000 in
theorem t_X7_laysDue_79 (g : fm_G) (l : Launch) (hl : l.stackTraces = false) (P : Nat) (hP : fm_kd g P = 7) (w : fm_W) (M0 : fm_Mem) (k55 : Int32 → fm_Mem → Option (fm_Mem)) (hk55 : ∀ (x1 : Int32) (M : fm_Mem), Tt g l z_X7_laysDue (emVw M0 w) (k55 x1 M) 55 [(0, .ref P), (1, .int x1)] [] (M, w)) (k67 : Int32 → Int32 → fm_Mem → Option (fm_Mem)) (hk67 : ∀ (x1 : Int32) (x2 : Int32) (M : fm_Mem), Tt g l z_X7_laysDue (emVw M0 w) (k67 x1 x2 M) 67 [(0, .ref P), (1, .int x1), (2, .int x2)] [] (M, w)) : ∀ (n : Nat) (x1 : Int32) (x2 : Int32) (x3 : Int32)  (M : fm_Mem), Tt g l z_X7_laysDue (emVw M0 w) (f_X7_laysDue_79 P k55 k67 n x1 x2 x3 M) 79 [(0, .ref P), (1, .int x1), (2, .int x2), (3, .int x3)] [] (M, w) := by
  intro n
  induction n with
  | zero => intros; exact Tt.none
  | succ n ih =>
    intro x1 x2 x3  M
    rw [f_X7_laysDue_79]
    refine Tt.go (fun _ => Tr.run 2 (pc' := 81) (lv' := [(0, .ref P), (1, .int x1), (2, .int x2), (3, .int x3)]) (st' := [.ref P, .int x3]) rfl) ?_
    refine Tt.callV (As := []) (rest := [.int x3]) (c_X7_points g l hl P hP M w) hP (by decide) rfl rfl cw_X7_points fw1156 pn_X7_points (Nat.le_of_ble_eq_true rfl) (Nat.le_of_ble_eq_true rfl) (Nat.le_of_ble_eq_true rfl) rfl (fun v1 => (?_ : Tt g l z_X7_laysDue (emVw M0 w) _ 84 [(0, .ref P), (1, .int x1), (2, .int x2), (3, .int x3)] [.int v1, .int x3] (M, w)))
    refine Tt.ic_ge (tgt := 110) rfl (by decide) ?_ ?_
    · refine Tt.go (fun _ => Tr.run 2 (pc' := 67) (lv' := [(2, .int (x2 + (1 : Int32))), (0, .ref P), (1, .int x1), (3, .int x3)]) (st' := []) rfl) ?_
      refine Tt.go (fun _ => Tr.sub (lv' := [(0, .ref P), (1, .int x1), (2, .int (x2 + (1 : Int32)))]) [1, 2, 0] rfl) ?_
      exact hk67 x1 (x2 + (1 : Int32)) M
    · refine Tt.go (fun _ => Tr.run 4 (pc' := 91) (lv' := [(0, .ref P), (1, .int x1), (2, .int x2), (3, .int x3)]) (st' := [.int x3, .int x2, .int x1, .ref P]) rfl) ?_
      refine Tt.callV (As := [.int x1, .int x2, .int x3]) (rest := []) (c_X7_isDue g l hl P x1 x2 x3 hP M w) hP (by decide) rfl rfl cw_X7_isDue fw1189 pn_X7_isDue (Nat.le_of_ble_eq_true rfl) (Nat.le_of_ble_eq_true rfl) (Nat.le_of_ble_eq_true rfl) rfl (fun v2 => (?_ : Tt g l z_X7_laysDue (emVw M0 w) _ 94 [(0, .ref P), (1, .int x1), (2, .int x2), (3, .int x3)] [.int v2] (M, w)))
      refine Tt.if_eq (tgt := 104) rfl (by decide) ?_ ?_
      · exact t_X7_laysDue_104 g l hl P hP w M0 k55 hk55 k67 hk67 _ ih x1 x2 x3 M
      · refine Tt.go (fun _ => Tr.run 4 (pc' := 101) (lv' := [(0, .ref P), (1, .int x1), (2, .int x2), (3, .int x3)]) (st' := [.int x3, .int x2, .int x1, .ref P]) rfl) ?_
        refine Tt.callV (As := [.int x1, .int x2, .int x3]) (rest := []) (c_X7_adds g l hl P x1 x2 x3 hP M w) hP (by decide) rfl rfl cw_X7_adds fw1211 pn_X7_adds (Nat.le_of_ble_eq_true rfl) (Nat.le_of_ble_eq_true rfl) (Nat.le_of_ble_eq_true rfl) rfl (fun v3 => (?_ : Tt g l z_X7_laysDue (emVw M0 w) _ 104 [(0, .ref P), (1, .int x1), (2, .int x2), (3, .int x3)] [] (v3, w)))
        exact t_X7_laysDue_104 g l hl P hP w M0 k55 hk55 k67 hk67 _ ih x1 x2 x3 v3
def f_X7_laysDue_67 (P : Nat) (k55 : Int32 → fm_Mem → Option (fm_Mem)) : Nat → Int32 → Int32 → fm_Mem → Option (fm_Mem)
  | 0, _, _, _ => none
  | n + 1, x1, x2, M => Option.bind (f_X7_points P M) (fun v1 => if v1 ≤ x2 then (k55 (x1 + (1 : Int32)) M) else (f_X7_laysDue_79 P k55 (fun x1 x2 M => f_X7_laysDue_67 P k55 n x1 x2 M) fm_fuel x1 x2 (x2 + (1 : Int32)) M))
set_option maxRecDepth 100000 in
set_option maxHeartbeats 4000000 in
theorem t_X7_laysDue_67 (g : fm_G) (l : Launch) (hl : l.stackTraces = false) (P : Nat) (hP : fm_kd g P = 7) (w : fm_W) (M0 : fm_Mem) (k55 : Int32 → fm_Mem → Option (fm_Mem)) (hk55 : ∀ (x1 : Int32) (M : fm_Mem), Tt g l z_X7_laysDue (emVw M0 w) (k55 x1 M) 55 [(0, .ref P), (1, .int x1)] [] (M, w)) : ∀ (n : Nat) (x1 : Int32) (x2 : Int32)  (M : fm_Mem), Tt g l z_X7_laysDue (emVw M0 w) (f_X7_laysDue_67 P k55 n x1 x2 M) 67 [(0, .ref P), (1, .int x1), (2, .int x2)] [] (M, w) := by
  intro n
  induction n with
  | zero => intros; exact Tt.none
  | succ n ih =>
    intro x1 x2  M
    rw [f_X7_laysDue_67]
    refine Tt.go (fun _ => Tr.run 2 (pc' := 69) (lv' := [(0, .ref P), (1, .int x1), (2, .int x2)]) (st' := [.ref P, .int x2]) rfl) ?_
    refine Tt.callV (As := []) (rest := [.int x2]) (c_X7_points g l hl P hP M w) hP (by decide) rfl rfl cw_X7_points fw1156 pn_X7_points (Nat.le_of_ble_eq_true rfl) (Nat.le_of_ble_eq_true rfl) (Nat.le_of_ble_eq_true rfl) rfl (fun v1 => (?_ : Tt g l z_X7_laysDue (emVw M0 w) _ 72 [(0, .ref P), (1, .int x1), (2, .int x2)] [.int v1, .int x2] (M, w)))
    refine Tt.ic_ge (tgt := 116) rfl (by decide) ?_ ?_
    · refine Tt.go (fun _ => Tr.run 2 (pc' := 55) (lv' := [(1, .int (x1 + (1 : Int32))), (0, .ref P), (2, .int x2)]) (st' := []) rfl) ?_
      refine Tt.go (fun _ => Tr.sub (lv' := [(0, .ref P), (1, .int (x1 + (1 : Int32)))]) [1, 0] rfl) ?_
      exact hk55 (x1 + (1 : Int32)) M
    · refine Tt.go (fun _ => Tr.run 4 (pc' := 79) (lv' := [(3, .int (x2 + (1 : Int32))), (0, .ref P), (1, .int x1), (2, .int x2)]) (st' := []) rfl) ?_
      refine Tt.go (fun _ => Tr.sub (lv' := [(0, .ref P), (1, .int x1), (2, .int x2), (3, .int (x2 + (1 : Int32)))]) [1, 2, 3, 0] rfl) ?_
      exact t_X7_laysDue_79 g l hl P hP w M0 k55 hk55 _ ih fm_fuel x1 x2 (x2 + (1 : Int32)) M
def f_X7_laysDue_55 (P : Nat) : Nat → Int32 → fm_Mem → Option (fm_Mem)
  | 0, _, _ => none
  | n + 1, x1, M => Option.bind (f_X7_points P M) (fun v1 => if v1 ≤ x1 then (some (M)) else (f_X7_laysDue_67 P (fun x1 M => f_X7_laysDue_55 P n x1 M) fm_fuel x1 (x1 + (1 : Int32)) M))
set_option maxRecDepth 100000 in
set_option maxHeartbeats 4000000 in
theorem t_X7_laysDue_55 (g : fm_G) (l : Launch) (hl : l.stackTraces = false) (P : Nat) (hP : fm_kd g P = 7) (w : fm_W) (M0 : fm_Mem)  : ∀ (n : Nat) (x1 : Int32)  (M : fm_Mem), Tt g l z_X7_laysDue (emVw M0 w) (f_X7_laysDue_55 P  n x1 M) 55 [(0, .ref P), (1, .int x1)] [] (M, w) := by
  intro n
  induction n with
  | zero => intros; exact Tt.none
  | succ n ih =>
    intro x1  M
    rw [f_X7_laysDue_55]
    refine Tt.go (fun _ => Tr.run 2 (pc' := 57) (lv' := [(0, .ref P), (1, .int x1)]) (st' := [.ref P, .int x1]) rfl) ?_
    refine Tt.callV (As := []) (rest := [.int x1]) (c_X7_points g l hl P hP M w) hP (by decide) rfl rfl cw_X7_points fw1156 pn_X7_points (Nat.le_of_ble_eq_true rfl) (Nat.le_of_ble_eq_true rfl) (Nat.le_of_ble_eq_true rfl) rfl (fun v1 => (?_ : Tt g l z_X7_laysDue (emVw M0 w) _ 60 [(0, .ref P), (1, .int x1)] [.int v1, .int x1] (M, w)))
    refine Tt.ic_ge (tgt := 122) rfl (by decide) ?_ ?_
    · exact Tt.ret (Tr.vret rfl rfl)
    · refine Tt.go (fun _ => Tr.run 4 (pc' := 67) (lv' := [(2, .int (x1 + (1 : Int32))), (0, .ref P), (1, .int x1)]) (st' := []) rfl) ?_
      refine Tt.go (fun _ => Tr.sub (lv' := [(0, .ref P), (1, .int x1), (2, .int (x1 + (1 : Int32)))]) [1, 2, 0] rfl) ?_
      exact t_X7_laysDue_67 g l hl P hP w M0 _ ih fm_fuel x1 (x1 + (1 : Int32)) M
def f_X7_laysDue_18 (P : Nat) : Nat → Int32 → fm_Mem → Option (fm_Mem)
  | 0, _, _ => none
  | n + 1, x1, M => Option.bind (f_X7_points P M) (fun v1 => if ((2 : Int32) * v1) ≤ x1 then (f_X7_laysDue_55 P fm_fuel (0 : Int32) (fm_up M P 8 (0 : Int32))) else (Option.bind (f_X7_get P ((10 : Int32) + x1) M) (fun v2 => fm_ck (fm_in x1 40) (f_X7_laysDue_18 P n (x1 + (1 : Int32)) (fm_up M (P + 5) (Int32.toNatClampNeg x1) v2)))))
set_option maxRecDepth 100000 in
set_option maxHeartbeats 4000000 in
theorem t_X7_laysDue_18 (g : fm_G) (l : Launch) (hl : l.stackTraces = false) (P : Nat) (hP : fm_kd g P = 7) (w : fm_W) (M0 : fm_Mem)  : ∀ (n : Nat) (x1 : Int32)  (M : fm_Mem), Tt g l z_X7_laysDue (emVw M0 w) (f_X7_laysDue_18 P  n x1 M) 18 [(0, .ref P), (1, .int x1)] [] (M, w) := by
  intro n
  induction n with
  | zero => intros; exact Tt.none
  | succ n ih =>
    intro x1  M
    rw [f_X7_laysDue_18]
    refine Tt.go (fun _ => Tr.run 3 (pc' := 21) (lv' := [(0, .ref P), (1, .int x1)]) (st' := [.ref P, .int (2 : Int32), .int x1]) rfl) ?_
    refine Tt.callV (As := []) (rest := [.int (2 : Int32), .int x1]) (c_X7_points g l hl P hP M w) hP (by decide) rfl rfl cw_X7_points fw1156 pn_X7_points (Nat.le_of_ble_eq_true rfl) (Nat.le_of_ble_eq_true rfl) (Nat.le_of_ble_eq_true rfl) rfl (fun v1 => (?_ : Tt g l z_X7_laysDue (emVw M0 w) _ 24 [(0, .ref P), (1, .int x1)] [.int v1, .int (2 : Int32), .int x1] (M, w)))
    refine Tt.go (fun _ => Tr.run 1 (pc' := 25) (lv' := [(0, .ref P), (1, .int x1)]) (st' := [.int ((2 : Int32) * v1), .int x1]) rfl) ?_
    refine Tt.ic_ge (tgt := 48) rfl (by decide) ?_ ?_
    · refine Tt.go (fun _ => Tr.run 2 (pc' := 50) (lv' := [(0, .ref P), (1, .int x1)]) (st' := [.int (0 : Int32), .ref P]) rfl) ?_
      refine Tt.go (fun _ => Tr.put fmc7 hP rfl fw1032 (k := 8) (by decide) rfl rfl ⟨rfl, rfl⟩) (?_ : Tt g l z_X7_laysDue (emVw M0 w) _ 53 [(0, .ref P), (1, .int x1)] [] ((fm_up M P 8 (0 : Int32)), w))
      refine Tt.go (fun _ => Tr.run 2 (pc' := 55) (lv' := [(1, .int (0 : Int32)), (0, .ref P)]) (st' := []) rfl) ?_
      refine Tt.go (fun _ => Tr.sub (lv' := [(0, .ref P), (1, .int (0 : Int32))]) [1, 0] rfl) ?_
      exact t_X7_laysDue_55 g l hl P hP w M0 fm_fuel (0 : Int32) (fm_up M P 8 (0 : Int32))
    · refine Tt.go (fun _ => Tr.run 1 (pc' := 29) (lv' := [(0, .ref P), (1, .int x1)]) (st' := [.ref P]) rfl) ?_
      refine Tt.go (fun _ => Tr.get fmc7 hP rfl fw1031 (k := 7) (by decide) rfl) (?_ : Tt g l z_X7_laysDue (emVw M0 w) _ 32 [(0, .ref P), (1, .int x1)] [.ref (P + 5)] (M, w))
      refine Tt.go (fun _ => Tr.run 5 (pc' := 38) (lv' := [(0, .ref P), (1, .int x1)]) (st' := [.int ((10 : Int32) + x1), .ref P, .int x1, .ref (P + 5)]) rfl) ?_
      refine Tt.callV (As := [.int ((10 : Int32) + x1)]) (rest := [.int x1, .ref (P + 5)]) (c_X7_get g l hl P ((10 : Int32) + x1) hP M w) hP (by decide) rfl rfl cw_X7_get fw1109 pn_X7_get (Nat.le_of_ble_eq_true rfl) (Nat.le_of_ble_eq_true rfl) (Nat.le_of_ble_eq_true rfl) rfl (fun v2 => (?_ : Tt g l z_X7_laysDue (emVw M0 w) _ 41 [(0, .ref P), (1, .int x1)] [.int v2, .int x1, .ref (P + 5)] (M, w)))
      refine Tt.ck (fun hi_3 => ?_)
      refine Tt.go (fun _ => Tr.iast (fmk_7_7 hP) (by decide) hi_3 rfl) (?_ : Tt g l z_X7_laysDue (emVw M0 w) _ 42 [(0, .ref P), (1, .int x1)] [] ((fm_up M (P + 5) (Int32.toNatClampNeg x1) v2), w))
      refine Tt.go (fun _ => Tr.run 2 (pc' := 18) (lv' := [(1, .int (x1 + (1 : Int32))), (0, .ref P)]) (st' := []) rfl) ?_
      refine Tt.go (fun _ => Tr.sub (lv' := [(0, .ref P), (1, .int (x1 + (1 : Int32)))]) [1, 0] rfl) ?_
      exact ih (x1 + (1 : Int32)) (fm_up M (P + 5) (Int32.toNatClampNeg x1) v2)
def f_X7_laysDue (P : Nat) (M : fm_Mem) : Option (fm_Mem) := Option.bind (f_X7_isLaid P M) (fun v1 => if v1 = 0 then (Option.bind (f_X7_points P M) (fun v2 => (f_X7_laysDue_18 P fm_fuel (0 : Int32) (fm_up M P 9 v2)))) else (some (M)))
set_option maxRecDepth 100000 in
set_option maxHeartbeats 4000000 in
theorem t_X7_laysDue (g : fm_G) (l : Launch) (hl : l.stackTraces = false) (P : Nat) (hP : fm_kd g P = 7) (M : fm_Mem) (w : fm_W) : Tt g l z_X7_laysDue (emVw M w) (f_X7_laysDue P M) 0 [(0, .ref P)] [] (M, w) := by
  rw [f_X7_laysDue]
  refine Tt.go (fun _ => Tr.run 1 (pc' := 1) (lv' := [(0, .ref P)]) (st' := [.ref P]) rfl) ?_
  refine Tt.callV (As := []) (rest := []) (c_X7_isLaid g l hl P hP M w) hP (by decide) rfl rfl cw_X7_isLaid fw1185 pn_X7_isLaid (Nat.le_of_ble_eq_true rfl) (Nat.le_of_ble_eq_true rfl) (Nat.le_of_ble_eq_true rfl) rfl (fun v1 => (?_ : Tt g l z_X7_laysDue (emVw M w) _ 4 [(0, .ref P)] [.int v1] (M, w)))
  refine Tt.if_eq (tgt := 8) rfl (by decide) ?_ ?_
  · refine Tt.go (fun _ => Tr.run 2 (pc' := 10) (lv' := [(0, .ref P)]) (st' := [.ref P, .ref P]) rfl) ?_
    refine Tt.callV (As := []) (rest := [.ref P]) (c_X7_points g l hl P hP M w) hP (by decide) rfl rfl cw_X7_points fw1156 pn_X7_points (Nat.le_of_ble_eq_true rfl) (Nat.le_of_ble_eq_true rfl) (Nat.le_of_ble_eq_true rfl) rfl (fun v2 => (?_ : Tt g l z_X7_laysDue (emVw M w) _ 13 [(0, .ref P)] [.int v2, .ref P] (M, w)))
    refine Tt.go (fun _ => Tr.put fmc7 hP rfl fw1033 (k := 9) (by decide) rfl rfl ⟨rfl, rfl⟩) (?_ : Tt g l z_X7_laysDue (emVw M w) _ 16 [(0, .ref P)] [] ((fm_up M P 9 v2), w))
    refine Tt.go (fun _ => Tr.run 2 (pc' := 18) (lv' := [(1, .int (0 : Int32)), (0, .ref P)]) (st' := []) rfl) ?_
    refine Tt.go (fun _ => Tr.sub (lv' := [(0, .ref P), (1, .int (0 : Int32))]) [1, 0] rfl) ?_
    exact t_X7_laysDue_18 g l hl P hP w M fm_fuel (0 : Int32) (fm_up M P 9 v2)
  · exact Tt.ret (Tr.vret rfl rfl)
theorem c_X7_laysDue (g : fm_G) (l : Launch) (hl : l.stackTraces = false) (P : Nat) (hP : fm_kd g P = 7) (M : fm_Mem) (w : fm_W) : ∀ r, f_X7_laysDue P M = some r → fC g l z_X7_laysDue [.ref P] (M, w) (emVw M w r) := fun r hr => fC.of (by decide) rfl o_X7_laysDue hl (Nat.le_of_ble_eq_true rfl) (t_X7_laysDue g l hl P hP M w r hr)
