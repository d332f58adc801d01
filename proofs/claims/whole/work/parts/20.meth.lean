theorem fw1034 : Cond.fieldLink "CircleFlipsModel" 29 "CircleFlipsModel" "text" "[I" ∈ lw_all := lw_in 1034 (by decide +kernel) (by decide +kernel)
theorem fw1035 : Cond.fieldLink "CircleFlipsModel" 170 "CircleFlipsModel" "fed" "I" ∈ lw_all := lw_in 1035 (by decide +kernel) (by decide +kernel)
theorem fw1036 : Cond.fieldLink "CircleFlipsModel" 183 "CircleFlipsModel" "length" "I" ∈ lw_all := lw_in 1036 (by decide +kernel) (by decide +kernel)
theorem fw1037 : Cond.fieldLink "CircleFlipsModel" 180 "CircleFlipsModel" "spot" "I" ∈ lw_all := lw_in 1037 (by decide +kernel) (by decide +kernel)
theorem fw1038 : Cond.fieldLink "CircleFlipsModel" 177 "CircleFlipsModel" "fault" "I" ∈ lw_all := lw_in 1038 (by decide +kernel) (by decide +kernel)
theorem fw1039 : Cond.fieldLink "CircleFlipsModel" 32 "CircleFlipsModel" "faultAt" "I" ∈ lw_all := lw_in 1039 (by decide +kernel) (by decide +kernel)
theorem fw1040 : Cond.fieldLink "CircleFlipsModel" 210 "CircleFlipsModel" "number" "I" ∈ lw_all := lw_in 1040 (by decide +kernel) (by decide +kernel)
theorem fw1041 : Cond.fieldLink "CircleFlipsModel" 207 "CircleFlipsModel" "from" "I" ∈ lw_all := lw_in 1041 (by decide +kernel) (by decide +kernel)
theorem fw1042 : Cond.fieldLink "CircleFlipsModel" 214 "CircleFlipsModel" "hasFlip" "Z" ∈ lw_all := lw_in 1042 (by decide +kernel) (by decide +kernel)
theorem fw1090 : Cond.methodLink "CircleFlipsModel" 173 ⟨"CircleFlipsModel", "four", "(I)V"⟩ ∈ lw_all := lw_in 1090 (by decide +kernel) (by decide +kernel)
theorem fw1122 : Cond.methodLink "CircleFlipsModel" 186 ⟨"CircleFlipsModel", "here", "()I"⟩ ∈ lw_all := lw_in 1122 (by decide +kernel) (by decide +kernel)
theorem fw1126 : Cond.methodLink "CircleFlipsModel" 189 ⟨"CircleFlipsModel", "isSmall", "(I)Z"⟩ ∈ lw_all := lw_in 1126 (by decide +kernel) (by decide +kernel)
theorem fw1129 : Cond.methodLink "CircleFlipsModel" 193 ⟨"java/lang/String", "length", "()I"⟩ ∈ lw_all := lw_in 1129 (by decide +kernel) (by decide +kernel)
theorem fw1130 : Cond.methodLink "CircleFlipsModel" 197 ⟨"java/lang/String", "charAt", "(I)C"⟩ ∈ lw_all := lw_in 1130 (by decide +kernel) (by decide +kernel)
theorem fw1131 : Cond.methodLink "CircleFlipsModel" 201 ⟨"CircleFlipsModel", "fails", "(II)Z"⟩ ∈ lw_all := lw_in 1131 (by decide +kernel) (by decide +kernel)
theorem fw1148 : Cond.methodLink "CircleFlipsModel" 218 ⟨"CircleFlipsModel", "reads", "(II)Z"⟩ ∈ lw_all := lw_in 1148 (by decide +kernel) (by decide +kernel)
theorem fw1152 : Cond.methodLink "CircleFlipsModel" 204 ⟨"CircleFlipsModel", "isDigit", "(I)Z"⟩ ∈ lw_all := lw_in 1152 (by decide +kernel) (by decide +kernel)
theorem fw1155 : Cond.constant "CircleFlipsModel" 213 (100000 : Int32) ∈ lw_all := lw_in 1155 (by decide +kernel) (by decide +kernel)
theorem fw1160 : Cond.methodLink "CircleFlipsModel" 221 ⟨"CircleFlipsModel", "pointAt", "(II)I"⟩ ∈ lw_all := lw_in 1160 (by decide +kernel) (by decide +kernel)
theorem fw1285 : Cond.methodLink "CircleFlipsModel" 167 ⟨"CircleFlipsModel", "cornersOf", "(I)I"⟩ ∈ lw_all := lw_in 1285 (by decide +kernel) (by decide +kernel)
theorem fw1289 : Cond.methodLink "CircleFlipsModel" 154 ⟨"CircleFlipsModel", "isOf", "(II)Z"⟩ ∈ lw_all := lw_in 1289 (by decide +kernel) (by decide +kernel)
theorem fw1292 : Cond.methodLink "CircleFlipsModel" 164 ⟨"CircleFlipsModel", "isCorner", "(II)Z"⟩ ∈ lw_all := lw_in 1292 (by decide +kernel) (by decide +kernel)
theorem fw1296 : Cond.methodLink "CircleFlipsModel" 157 ⟨"CircleFlipsModel", "isBetween", "(III)Z"⟩ ∈ lw_all := lw_in 1296 (by decide +kernel) (by decide +kernel)
theorem fw1300 : Cond.methodLink "CircleFlipsModel" 160 ⟨"CircleFlipsModel", "isWithin", "(IIII)Z"⟩ ∈ lw_all := lw_in 1300 (by decide +kernel) (by decide +kernel)
def k_X7_isWithin : List (Nat × Instr × Nat) := [(0, .aload_n 0, 1), (1, .iload_n 2, 1), (2, .iload_n 3, 1), (3, .iload_n 1, 1), (4, .invokevirtual 70, 3), (7, .invokestatic 66, 3), (10, .istore 5, 2), (12, .iload 5, 2), (14, .ifCond .eq 39, 3), (17, .iload 5, 2), (19, .aload_n 0, 1), (20, .iload_n 3, 1), (21, .iload 4, 2), (23, .iload_n 1, 1), (24, .invokevirtual 70, 3), (27, .invokestatic 66, 3), (30, .if_icmp .ne 23, 3), (33, .iload 5, 2), (35, .aload_n 0, 1), (36, .iload 4, 2), (38, .iload_n 2, 1), (39, .iload_n 1, 1), (40, .invokevirtual 70, 3), (43, .invokestatic 66, 3), (46, .if_icmp .ne 7, 3), (49, .iconst 1, 1), (50, .goto 4, 3), (53, .iconst 0, 1), (54, .ireturn, 1)]
def z_X7_isWithin : fm_Y := (yX7_isWithin, RX7, cX7_isWithin, 6, (some .boolean), k_X7_isWithin, 3, 73)
theorem o_X7_isWithin : fm_dec z_X7_isWithin := (by decide +kernel : ∀ q ∈ k_X7_isWithin, decode cX7_isWithin q.1 = .ok q.2)
theorem cw_X7_isWithin : fm_cwV z_X7_isWithin := ⟨⟨lw_in 1303 (by decide +kernel) (by decide +kernel), lw_in 99 (by decide +kernel) (by decide +kernel), by decide, by decide⟩, lw_in 1302 (by decide +kernel) (by decide +kernel), lw_in 71 (by decide +kernel) (by decide +kernel)⟩
theorem pn_X7_isWithin : (parseMethodDescriptor z_X7_isWithin.1.desc).map (fun d => d.parameters.length) = some 4 := by decide +kernel
def f_X7_isWithin_54 (P : Nat) (a1 : Int32) (a2 : Int32) (a3 : Int32) (a4 : Int32) (s0 : Int32) (M : fm_Mem) : Option (Int32) := fm_ck (fm_bo s0) (some (s0))
set_option maxRecDepth 100000 in
set_option maxHeartbeats 4000000 in
theorem t_X7_isWithin_54 (g : fm_G) (l : Launch) (hl : l.stackTraces = false) (P : Nat) (a1 : Int32) (a2 : Int32) (a3 : Int32) (a4 : Int32) (hP : fm_kd g P = 7) (w : fm_W)  (s0 : Int32)  (M : fm_Mem) : Tt g l z_X7_isWithin (emI M w) (f_X7_isWithin_54 P a1 a2 a3 a4  s0 M) 54 [] [.int s0] (M, w) := by
  rw [f_X7_isWithin_54]
  exact Tt.ck (fun hb_1 => Tt.ret (Tr.zret rfl rfl hb_1))
def f_X7_isWithin_53 (P : Nat) (a1 : Int32) (a2 : Int32) (a3 : Int32) (a4 : Int32)  (M : fm_Mem) : Option (Int32) := (f_X7_isWithin_54 P a1 a2 a3 a4 (0 : Int32) M)
set_option maxRecDepth 100000 in
set_option maxHeartbeats 4000000 in
theorem t_X7_isWithin_53 (g : fm_G) (l : Launch) (hl : l.stackTraces = false) (P : Nat) (a1 : Int32) (a2 : Int32) (a3 : Int32) (a4 : Int32) (hP : fm_kd g P = 7) (w : fm_W)    (M : fm_Mem) : Tt g l z_X7_isWithin (emI M w) (f_X7_isWithin_53 P a1 a2 a3 a4   M) 53 [] [] (M, w) := by
  rw [f_X7_isWithin_53]
  refine Tt.go (fun _ => Tr.run 1 (pc' := 54) (lv' := []) (st' := [.int (0 : Int32)]) rfl) ?_
  exact t_X7_isWithin_54 g l hl P a1 a2 a3 a4 hP w (0 : Int32) M
def f_X7_isWithin (P : Nat) (a1 : Int32) (a2 : Int32) (a3 : Int32) (a4 : Int32) (M : fm_Mem) : Option (Int32) := Option.bind (f_X7_turn P a2 a3 a1 M) (fun v1 => Option.bind (f_X7_signOf v1 M) (fun v2 => if v2 = 0 then (f_X7_isWithin_53 P a1 a2 a3 a4 M) else (Option.bind (f_X7_turn P a3 a4 a1 M) (fun v3 => Option.bind (f_X7_signOf v3 M) (fun v4 => if v2 = v4 then (Option.bind (f_X7_turn P a4 a2 a1 M) (fun v5 => Option.bind (f_X7_signOf v5 M) (fun v6 => if v2 = v6 then (f_X7_isWithin_54 P a1 a2 a3 a4 (1 : Int32) M) else (f_X7_isWithin_53 P a1 a2 a3 a4 M)))) else (f_X7_isWithin_53 P a1 a2 a3 a4 M))))))
set_option maxRecDepth 100000 in
set_option maxHeartbeats 4000000 in
theorem t_X7_isWithin (g : fm_G) (l : Launch) (hl : l.stackTraces = false) (P : Nat) (a1 : Int32) (a2 : Int32) (a3 : Int32) (a4 : Int32) (hP : fm_kd g P = 7) (M : fm_Mem) (w : fm_W) : Tt g l z_X7_isWithin (emI M w) (f_X7_isWithin P a1 a2 a3 a4 M) 0 [(0, .ref P), (1, .int a1), (2, .int a2), (3, .int a3), (4, .int a4)] [] (M, w) := by
  rw [f_X7_isWithin]
  refine Tt.go (fun _ => Tr.run 4 (pc' := 4) (lv' := [(0, .ref P), (1, .int a1), (2, .int a2), (3, .int a3), (4, .int a4)]) (st' := [.int a1, .int a3, .int a2, .ref P]) rfl) ?_
  refine Tt.callV (As := [.int a2, .int a3, .int a1]) (rest := []) (c_X7_turn g l hl P a2 a3 a1 hP M w) hP (by decide) rfl rfl cw_X7_turn fw1193 pn_X7_turn (Nat.le_of_ble_eq_true rfl) (Nat.le_of_ble_eq_true rfl) (Nat.le_of_ble_eq_true rfl) rfl (fun v1 => (?_ : Tt g l z_X7_isWithin (emI M w) _ 7 [(0, .ref P), (1, .int a1), (2, .int a2), (3, .int a3), (4, .int a4)] [.long v1] (M, w)))
  refine Tt.callS (As := [.long v1]) (rest := []) (c_X7_signOf g l hl v1 M w) rfl cw_X7_signOf fw1208 pn_X7_signOf (Nat.le_of_ble_eq_true rfl) (Nat.le_of_ble_eq_true rfl) (Nat.le_of_ble_eq_true rfl) rfl (fun v2 => (?_ : Tt g l z_X7_isWithin (emI M w) _ 10 [(0, .ref P), (1, .int a1), (2, .int a2), (3, .int a3), (4, .int a4)] [.int v2] (M, w)))
  refine Tt.go (fun _ => Tr.run 2 (pc' := 14) (lv' := [(5, .int v2), (0, .ref P), (1, .int a1), (2, .int a2), (3, .int a3), (4, .int a4)]) (st' := [.int v2]) rfl) ?_
  refine Tt.if_eq (tgt := 53) rfl (by decide) ?_ ?_
  · refine Tt.go (fun _ => Tr.sub (lv' := []) [] rfl) ?_
    exact t_X7_isWithin_53 g l hl P a1 a2 a3 a4 hP w M
  · refine Tt.go (fun _ => Tr.run 5 (pc' := 24) (lv' := [(5, .int v2), (0, .ref P), (1, .int a1), (2, .int a2), (3, .int a3), (4, .int a4)]) (st' := [.int a1, .int a4, .int a3, .ref P, .int v2]) rfl) ?_
    refine Tt.callV (As := [.int a3, .int a4, .int a1]) (rest := [.int v2]) (c_X7_turn g l hl P a3 a4 a1 hP M w) hP (by decide) rfl rfl cw_X7_turn fw1193 pn_X7_turn (Nat.le_of_ble_eq_true rfl) (Nat.le_of_ble_eq_true rfl) (Nat.le_of_ble_eq_true rfl) rfl (fun v3 => (?_ : Tt g l z_X7_isWithin (emI M w) _ 27 [(5, .int v2), (0, .ref P), (1, .int a1), (2, .int a2), (3, .int a3), (4, .int a4)] [.long v3, .int v2] (M, w)))
    refine Tt.callS (As := [.long v3]) (rest := [.int v2]) (c_X7_signOf g l hl v3 M w) rfl cw_X7_signOf fw1208 pn_X7_signOf (Nat.le_of_ble_eq_true rfl) (Nat.le_of_ble_eq_true rfl) (Nat.le_of_ble_eq_true rfl) rfl (fun v4 => (?_ : Tt g l z_X7_isWithin (emI M w) _ 30 [(5, .int v2), (0, .ref P), (1, .int a1), (2, .int a2), (3, .int a3), (4, .int a4)] [.int v4, .int v2] (M, w)))
    refine Tt.ic_ne (tgt := 53) rfl (by decide) ?_ ?_
    · refine Tt.go (fun _ => Tr.run 5 (pc' := 40) (lv' := [(5, .int v2), (0, .ref P), (1, .int a1), (2, .int a2), (3, .int a3), (4, .int a4)]) (st' := [.int a1, .int a2, .int a4, .ref P, .int v2]) rfl) ?_
      refine Tt.callV (As := [.int a4, .int a2, .int a1]) (rest := [.int v2]) (c_X7_turn g l hl P a4 a2 a1 hP M w) hP (by decide) rfl rfl cw_X7_turn fw1193 pn_X7_turn (Nat.le_of_ble_eq_true rfl) (Nat.le_of_ble_eq_true rfl) (Nat.le_of_ble_eq_true rfl) rfl (fun v5 => (?_ : Tt g l z_X7_isWithin (emI M w) _ 43 [(5, .int v2), (0, .ref P), (1, .int a1), (2, .int a2), (3, .int a3), (4, .int a4)] [.long v5, .int v2] (M, w)))
      refine Tt.callS (As := [.long v5]) (rest := [.int v2]) (c_X7_signOf g l hl v5 M w) rfl cw_X7_signOf fw1208 pn_X7_signOf (Nat.le_of_ble_eq_true rfl) (Nat.le_of_ble_eq_true rfl) (Nat.le_of_ble_eq_true rfl) rfl (fun v6 => (?_ : Tt g l z_X7_isWithin (emI M w) _ 46 [(5, .int v2), (0, .ref P), (1, .int a1), (2, .int a2), (3, .int a3), (4, .int a4)] [.int v6, .int v2] (M, w)))
      refine Tt.ic_ne (tgt := 53) rfl (by decide) ?_ ?_
      · refine Tt.go (fun _ => Tr.run 2 (pc' := 54) (lv' := [(5, .int v2), (0, .ref P), (1, .int a1), (2, .int a2), (3, .int a3), (4, .int a4)]) (st' := [.int (1 : Int32)]) rfl) ?_
        refine Tt.go (fun _ => Tr.sub (lv' := []) [] rfl) ?_
        exact t_X7_isWithin_54 g l hl P a1 a2 a3 a4 hP w (1 : Int32) M
      · refine Tt.go (fun _ => Tr.sub (lv' := []) [] rfl) ?_
        exact t_X7_isWithin_53 g l hl P a1 a2 a3 a4 hP w M
    · refine Tt.go (fun _ => Tr.sub (lv' := []) [] rfl) ?_
      exact t_X7_isWithin_53 g l hl P a1 a2 a3 a4 hP w M
theorem c_X7_isWithin (g : fm_G) (l : Launch) (hl : l.stackTraces = false) (P : Nat) (a1 : Int32) (a2 : Int32) (a3 : Int32) (a4 : Int32) (hP : fm_kd g P = 7) (M : fm_Mem) (w : fm_W) : ∀ r, f_X7_isWithin P a1 a2 a3 a4 M = some r → fC g l z_X7_isWithin [.ref P, .int a1, .int a2, .int a3, .int a4] (M, w) (emI M w r) := fun r hr => fC.of (by decide) rfl o_X7_isWithin hl (Nat.le_of_ble_eq_true rfl) (t_X7_isWithin g l hl P a1 a2 a3 a4 hP M w r hr)
def k_X7_isCorner : List (Nat × Instr × Nat) := [(0, .iconst 0, 1), (1, .istore_n 3, 1), (2, .iload_n 3, 1), (3, .aload_n 0, 1), (4, .invokevirtual 48, 3), (7, .if_icmp .ge 124, 3), (10, .iload_n 3, 1), (11, .iconst 1, 1), (12, .iadd, 1), (13, .istore 4, 2), (15, .iload 4, 2), (17, .aload_n 0, 1), (18, .invokevirtual 48, 3), (21, .if_icmp .ge 104, 3), (24, .iload_n 3, 1), (25, .iload_n 2, 1), (26, .if_icmp .eq 93, 3), (29, .iload 4, 2), (31, .iload_n 2, 1), (32, .if_icmp .eq 87, 3), (35, .iload_n 1, 1), (36, .iload_n 3, 1), (37, .invokestatic 154, 3), (40, .ifCond .eq 79, 3), (43, .iload_n 1, 1), (44, .iload 4, 2), (46, .invokestatic 154, 3), (49, .ifCond .ne 6, 3), (52, .goto 67, 3), (55, .aload_n 0, 1), (56, .iload_n 2, 1), (57, .iload_n 3, 1), (58, .iload 4, 2), (60, .invokevirtual 157, 3), (63, .ifCond .eq 5, 3), (66, .iconst 0, 1), (67, .ireturn, 1), (68, .iload 4, 2), (70, .iconst 1, 1), (71, .iadd, 1), (72, .istore 5, 2), (74, .iload 5, 2), (76, .aload_n 0, 1), (77, .invokevirtual 48, 3), (80, .if_icmp .ge 39, 3), (83, .iload 5, 2), (85, .iload_n 2, 1), (86, .if_icmp .eq 27, 3), (89, .iload_n 1, 1), (90, .iload 5, 2), (92, .invokestatic 154, 3), (95, .ifCond .eq 18, 3), (98, .aload_n 0, 1), (99, .iload_n 2, 1), (100, .iload_n 3, 1), (101, .iload 4, 2), (103, .iload 5, 2), (105, .invokevirtual 160, 3), (108, .ifCond .eq 5, 3), (111, .iconst 0, 1), (112, .ireturn, 1), (113, .iinc 5 1, 3), (116, .goto (-42), 3), (119, .iinc 4 1, 3), (122, .goto (-107), 3), (125, .iinc 3 1, 3), (128, .goto (-126), 3), (131, .iconst 1, 1), (132, .ireturn, 1)]
def z_X7_isCorner : fm_Y := (yX7_isCorner, RX7, cX7_isCorner, 6, (some .boolean), k_X7_isCorner, 4, 98)
theorem o_X7_isCorner : fm_dec z_X7_isCorner := (by decide +kernel : ∀ q ∈ k_X7_isCorner, decode cX7_isCorner q.1 = .ok q.2)
theorem cw_X7_isCorner : fm_cwV z_X7_isCorner := ⟨⟨lw_in 1295 (by decide +kernel) (by decide +kernel), lw_in 99 (by decide +kernel) (by decide +kernel), by decide, by decide⟩, lw_in 1294 (by decide +kernel) (by decide +kernel), lw_in 69 (by decide +kernel) (by decide +kernel)⟩
theorem pn_X7_isCorner : (parseMethodDescriptor z_X7_isCorner.1.desc).map (fun d => d.parameters.length) = some 2 := by decide +kernel
def f_X7_isCorner_119 (P : Nat) (a1 : Int32) (a2 : Int32) (k2 : Int32 → fm_Mem → Option (Int32)) (k15 : Int32 → Int32 → fm_Mem → Option (Int32)) (x3 : Int32) (x4 : Int32) (M : fm_Mem) : Option (Int32) := (k15 x3 (x4 + (1 : Int32)) M)
set_option maxRecDepth 100000 in
set_option maxHeartbeats 4000000 in
theorem t_X7_isCorner_119 (g : fm_G) (l : Launch) (hl : l.stackTraces = false) (P : Nat) (a1 : Int32) (a2 : Int32) (hP : fm_kd g P = 7) (w : fm_W) (k2 : Int32 → fm_Mem → Option (Int32)) (hk2 : ∀ (x3 : Int32) (M : fm_Mem), Tt g l z_X7_isCorner (emI M w) (k2 x3 M) 2 [(0, .ref P), (1, .int a1), (2, .int a2), (3, .int x3)] [] (M, w)) (k15 : Int32 → Int32 → fm_Mem → Option (Int32)) (hk15 : ∀ (x3 : Int32) (x4 : Int32) (M : fm_Mem), Tt g l z_X7_isCorner (emI M w) (k15 x3 x4 M) 15 [(0, .ref P), (1, .int a1), (2, .int a2), (3, .int x3), (4, .int x4)] [] (M, w)) (x3 : Int32) (x4 : Int32)  (M : fm_Mem) : Tt g l z_X7_isCorner (emI M w) (f_X7_isCorner_119 P a1 a2 k2 k15 x3 x4 M) 119 [(0, .ref P), (1, .int a1), (2, .int a2), (3, .int x3), (4, .int x4)] [] (M, w) := by
  rw [f_X7_isCorner_119]
  refine Tt.go (fun _ => Tr.run 2 (pc' := 15) (lv' := [(4, .int (x4 + (1 : Int32))), (0, .ref P), (1, .int a1), (2, .int a2), (3, .int x3)]) (st' := []) rfl) ?_
  refine Tt.go (fun _ => Tr.sub (lv' := [(0, .ref P), (1, .int a1), (2, .int a2), (3, .int x3), (4, .int (x4 + (1 : Int32)))]) [1, 2, 3, 4, 0] rfl) ?_
  exact hk15 x3 (x4 + (1 : Int32)) M
def f_X7_isCorner_113 (P : Nat) (a1 : Int32) (a2 : Int32) (k2 : Int32 → fm_Mem → Option (Int32)) (k15 : Int32 → Int32 → fm_Mem → Option (Int32)) (k74 : Int32 → Int32 → Int32 → fm_Mem → Option (Int32)) (x3 : Int32) (x4 : Int32) (x5 : Int32) (M : fm_Mem) : Option (Int32) := (k74 x3 x4 (x5 + (1 : Int32)) M)
set_option maxRecDepth 100000 in
set_option maxHeartbeats 4000000 in
theorem t_X7_isCorner_113 (g : fm_G) (l : Launch) (hl : l.stackTraces = false) (P : Nat) (a1 : Int32) (a2 : Int32) (hP : fm_kd g P = 7) (w : fm_W) (k2 : Int32 → fm_Mem → Option (Int32)) (hk2 : ∀ (x3 : Int32) (M : fm_Mem), Tt g l z_X7_isCorner (emI M w) (k2 x3 M) 2 [(0, .ref P), (1, .int a1), (2, .int a2), (3, .int x3)] [] (M, w)) (k15 : Int32 → Int32 → fm_Mem → Option (Int32)) (hk15 : ∀ (x3 : Int32) (x4 : Int32) (M : fm_Mem), Tt g l z_X7_isCorner (emI M w) (k15 x3 x4 M) 15 [(0, .ref P), (1, .int a1), (2, .int a2), (3, .int x3), (4, .int x4)] [] (M, w)) (k74 : Int32 → Int32 → Int32 → fm_Mem → Option (Int32)) (hk74 : ∀ (x3 : Int32) (x4 : Int32) (x5 : Int32) (M : fm_Mem), Tt g l z_X7_isCorner (emI M w) (k74 x3 x4 x5 M) 74 [(0, .ref P), (1, .int a1), (2, .int a2), (3, .int x3), (4, .int x4), (5, .int x5)] [] (M, w)) (x3 : Int32) (x4 : Int32) (x5 : Int32)  (M : fm_Mem) : Tt g l z_X7_isCorner (emI M w) (f_X7_isCorner_113 P a1 a2 k2 k15 k74 x3 x4 x5 M) 113 [(0, .ref P), (1, .int a1), (2, .int a2), (3, .int x3), (4, .int x4), (5, .int x5)] [] (M, w) := by
  rw [f_X7_isCorner_113]
  refine Tt.go (fun _ => Tr.run 2 (pc' := 74) (lv' := [(5, .int (x5 + (1 : Int32))), (0, .ref P), (1, .int a1), (2, .int a2), (3, .int x3), (4, .int x4)]) (st' := []) rfl) ?_
  refine Tt.go (fun _ => Tr.sub (lv' := [(0, .ref P), (1, .int a1), (2, .int a2), (3, .int x3), (4, .int x4), (5, .int (x5 + (1 : Int32)))]) [1, 2, 3, 4, 5, 0] rfl) ?_
  exact hk74 x3 x4 (x5 + (1 : Int32)) M
def f_X7_isCorner_74 (P : Nat) (a1 : Int32) (a2 : Int32) (k2 : Int32 → fm_Mem → Option (Int32)) (k15 : Int32 → Int32 → fm_Mem → Option (Int32)) : Nat → Int32 → Int32 → Int32 → fm_Mem → Option (Int32)
  | 0, _, _, _, _ => none
  | n + 1, x3, x4, x5, M => Option.bind (f_X7_points P M) (fun v1 => if v1 ≤ x5 then (f_X7_isCorner_119 P a1 a2 k2 k15 x3 x4 M) else (if x5 = a2 then (f_X7_isCorner_113 P a1 a2 k2 k15 (fun x3 x4 x5 M => f_X7_isCorner_74 P a1 a2 k2 k15 n x3 x4 x5 M) x3 x4 x5 M) else (Option.bind (f_X7_isOf a1 x5 M) (fun v2 => if v2 = 0 then (f_X7_isCorner_113 P a1 a2 k2 k15 (fun x3 x4 x5 M => f_X7_isCorner_74 P a1 a2 k2 k15 n x3 x4 x5 M) x3 x4 x5 M) else (Option.bind (f_X7_isWithin P a2 x3 x4 x5 M) (fun v3 => if v3 = 0 then (f_X7_isCorner_113 P a1 a2 k2 k15 (fun x3 x4 x5 M => f_X7_isCorner_74 P a1 a2 k2 k15 n x3 x4 x5 M) x3 x4 x5 M) else (some ((0 : Int32)))))))))
set_option maxRecDepth 100000 in
set_option maxHeartbeats 4000000 in
theorem t_X7_isCorner_74 (g : fm_G) (l : Launch) (hl : l.stackTraces = false) (P : Nat) (a1 : Int32) (a2 : Int32) (hP : fm_kd g P = 7) (w : fm_W) (k2 : Int32 → fm_Mem → Option (Int32)) (hk2 : ∀ (x3 : Int32) (M : fm_Mem), Tt g l z_X7_isCorner (emI M w) (k2 x3 M) 2 [(0, .ref P), (1, .int a1), (2, .int a2), (3, .int x3)] [] (M, w)) (k15 : Int32 → Int32 → fm_Mem → Option (Int32)) (hk15 : ∀ (x3 : Int32) (x4 : Int32) (M : fm_Mem), Tt g l z_X7_isCorner (emI M w) (k15 x3 x4 M) 15 [(0, .ref P), (1, .int a1), (2, .int a2), (3, .int x3), (4, .int x4)] [] (M, w)) : ∀ (n : Nat) (x3 : Int32) (x4 : Int32) (x5 : Int32)  (M : fm_Mem), Tt g l z_X7_isCorner (emI M w) (f_X7_isCorner_74 P a1 a2 k2 k15 n x3 x4 x5 M) 74 [(0, .ref P), (1, .int a1), (2, .int a2), (3, .int x3), (4, .int x4), (5, .int x5)] [] (M, w) := by
  intro n
  induction n with
  | zero => intros; exact Tt.none
  | succ n ih =>
    intro x3 x4 x5  M
    rw [f_X7_isCorner_74]
    refine Tt.go (fun _ => Tr.run 2 (pc' := 77) (lv' := [(0, .ref P), (1, .int a1), (2, .int a2), (3, .int x3), (4, .int x4), (5, .int x5)]) (st' := [.ref P, .int x5]) rfl) ?_
    refine Tt.callV (As := []) (rest := [.int x5]) (c_X7_points g l hl P hP M w) hP (by decide) rfl rfl cw_X7_points fw1156 pn_X7_points (Nat.le_of_ble_eq_true rfl) (Nat.le_of_ble_eq_true rfl) (Nat.le_of_ble_eq_true rfl) rfl (fun v1 => (?_ : Tt g l z_X7_isCorner (emI M w) _ 80 [(0, .ref P), (1, .int a1), (2, .int a2), (3, .int x3), (4, .int x4), (5, .int x5)] [.int v1, .int x5] (M, w)))
    refine Tt.ic_ge (tgt := 119) rfl (by decide) ?_ ?_
    · refine Tt.go (fun _ => Tr.sub (lv' := [(0, .ref P), (1, .int a1), (2, .int a2), (3, .int x3), (4, .int x4)]) [0, 1, 2, 3, 4] rfl) ?_
      exact t_X7_isCorner_119 g l hl P a1 a2 hP w k2 hk2 k15 hk15 x3 x4 M
    · refine Tt.go (fun _ => Tr.run 2 (pc' := 86) (lv' := [(0, .ref P), (1, .int a1), (2, .int a2), (3, .int x3), (4, .int x4), (5, .int x5)]) (st' := [.int a2, .int x5]) rfl) ?_
      refine Tt.ic_eq (tgt := 113) rfl (by decide) ?_ ?_
      · exact t_X7_isCorner_113 g l hl P a1 a2 hP w k2 hk2 k15 hk15 _ ih x3 x4 x5 M
      · refine Tt.go (fun _ => Tr.run 2 (pc' := 92) (lv' := [(0, .ref P), (1, .int a1), (2, .int a2), (3, .int x3), (4, .int x4), (5, .int x5)]) (st' := [.int x5, .int a1]) rfl) ?_
        refine Tt.callS (As := [.int a1, .int x5]) (rest := []) (c_X7_isOf g l hl a1 x5 M w) rfl cw_X7_isOf fw1289 pn_X7_isOf (Nat.le_of_ble_eq_true rfl) (Nat.le_of_ble_eq_true rfl) (Nat.le_of_ble_eq_true rfl) rfl (fun v2 => (?_ : Tt g l z_X7_isCorner (emI M w) _ 95 [(0, .ref P), (1, .int a1), (2, .int a2), (3, .int x3), (4, .int x4), (5, .int x5)] [.int v2] (M, w)))
        refine Tt.if_eq (tgt := 113) rfl (by decide) ?_ ?_
        · exact t_X7_isCorner_113 g l hl P a1 a2 hP w k2 hk2 k15 hk15 _ ih x3 x4 x5 M
        · refine Tt.go (fun _ => Tr.run 5 (pc' := 105) (lv' := [(0, .ref P), (1, .int a1), (2, .int a2), (3, .int x3), (4, .int x4), (5, .int x5)]) (st' := [.int x5, .int x4, .int x3, .int a2, .ref P]) rfl) ?_
          refine Tt.callV (As := [.int a2, .int x3, .int x4, .int x5]) (rest := []) (c_X7_isWithin g l hl P a2 x3 x4 x5 hP M w) hP (by decide) rfl rfl cw_X7_isWithin fw1300 pn_X7_isWithin (Nat.le_of_ble_eq_true rfl) (Nat.le_of_ble_eq_true rfl) (Nat.le_of_ble_eq_true rfl) rfl (fun v3 => (?_ : Tt g l z_X7_isCorner (emI M w) _ 108 [(0, .ref P), (1, .int a1), (2, .int a2), (3, .int x3), (4, .int x4), (5, .int x5)] [.int v3] (M, w)))
          refine Tt.if_eq (tgt := 113) rfl (by decide) ?_ ?_
          · exact t_X7_isCorner_113 g l hl P a1 a2 hP w k2 hk2 k15 hk15 _ ih x3 x4 x5 M
          · refine Tt.go (fun _ => Tr.run 1 (pc' := 112) (lv' := [(0, .ref P), (1, .int a1), (2, .int a2), (3, .int x3), (4, .int x4), (5, .int x5)]) (st' := [.int (0 : Int32)]) rfl) ?_
            exact Tt.ret (Tr.zret rfl rfl fm_bo0)
def f_X7_isCorner_15 (P : Nat) (a1 : Int32) (a2 : Int32) (k2 : Int32 → fm_Mem → Option (Int32)) : Nat → Int32 → Int32 → fm_Mem → Option (Int32)
  | 0, _, _, _ => none
  | n + 1, x3, x4, M => Option.bind (f_X7_points P M) (fun v1 => if v1 ≤ x4 then (k2 (x3 + (1 : Int32)) M) else (if x3 = a2 then (f_X7_isCorner_119 P a1 a2 k2 (fun x3 x4 M => f_X7_isCorner_15 P a1 a2 k2 n x3 x4 M) x3 x4 M) else (if x4 = a2 then (f_X7_isCorner_119 P a1 a2 k2 (fun x3 x4 M => f_X7_isCorner_15 P a1 a2 k2 n x3 x4 M) x3 x4 M) else (Option.bind (f_X7_isOf a1 x3 M) (fun v2 => if v2 = 0 then (f_X7_isCorner_119 P a1 a2 k2 (fun x3 x4 M => f_X7_isCorner_15 P a1 a2 k2 n x3 x4 M) x3 x4 M) else (Option.bind (f_X7_isOf a1 x4 M) (fun v3 => if v3 = 0 then (f_X7_isCorner_119 P a1 a2 k2 (fun x3 x4 M => f_X7_isCorner_15 P a1 a2 k2 n x3 x4 M) x3 x4 M) else (Option.bind (f_X7_isBetween P a2 x3 x4 M) (fun v4 => if v4 = 0 then (f_X7_isCorner_74 P a1 a2 k2 (fun x3 x4 M => f_X7_isCorner_15 P a1 a2 k2 n x3 x4 M) fm_fuel x3 x4 (x4 + (1 : Int32)) M) else (some ((0 : Int32))))))))))))
set_option maxRecDepth 100000 in
set_option maxHeartbeats 4000000 in
theorem t_X7_isCorner_15 (g : fm_G) (l : Launch) (hl : l.stackTraces = false) (P : Nat) (a1 : Int32) (a2 : Int32) (hP : fm_kd g P = 7) (w : fm_W) (k2 : Int32 → fm_Mem → Option (Int32)) (hk2 : ∀ (x3 : Int32) (M : fm_Mem), Tt g l z_X7_isCorner (emI M w) (k2 x3 M) 2 [(0, .ref P), (1, .int a1), (2, .int a2), (3, .int x3)] [] (M, w)) : ∀ (n : Nat) (x3 : Int32) (x4 : Int32)  (M : fm_Mem), Tt g l z_X7_isCorner (emI M w) (f_X7_isCorner_15 P a1 a2 k2 n x3 x4 M) 15 [(0, .ref P), (1, .int a1), (2, .int a2), (3, .int x3), (4, .int x4)] [] (M, w) := by
  intro n
  induction n with
  | zero => intros; exact Tt.none
  | succ n ih =>
    intro x3 x4  M
    rw [f_X7_isCorner_15]
    refine Tt.go (fun _ => Tr.run 2 (pc' := 18) (lv' := [(0, .ref P), (1, .int a1), (2, .int a2), (3, .int x3), (4, .int x4)]) (st' := [.ref P, .int x4]) rfl) ?_
    refine Tt.callV (As := []) (rest := [.int x4]) (c_X7_points g l hl P hP M w) hP (by decide) rfl rfl cw_X7_points fw1156 pn_X7_points (Nat.le_of_ble_eq_true rfl) (Nat.le_of_ble_eq_true rfl) (Nat.le_of_ble_eq_true rfl) rfl (fun v1 => (?_ : Tt g l z_X7_isCorner (emI M w) _ 21 [(0, .ref P), (1, .int a1), (2, .int a2), (3, .int x3), (4, .int x4)] [.int v1, .int x4] (M, w)))
    refine Tt.ic_ge (tgt := 125) rfl (by decide) ?_ ?_
    · refine Tt.go (fun _ => Tr.run 2 (pc' := 2) (lv' := [(3, .int (x3 + (1 : Int32))), (0, .ref P), (1, .int a1), (2, .int a2), (4, .int x4)]) (st' := []) rfl) ?_
      refine Tt.go (fun _ => Tr.sub (lv' := [(0, .ref P), (1, .int a1), (2, .int a2), (3, .int (x3 + (1 : Int32)))]) [1, 2, 3, 0] rfl) ?_
      exact hk2 (x3 + (1 : Int32)) M
    · refine Tt.go (fun _ => Tr.run 2 (pc' := 26) (lv' := [(0, .ref P), (1, .int a1), (2, .int a2), (3, .int x3), (4, .int x4)]) (st' := [.int a2, .int x3]) rfl) ?_
      refine Tt.ic_eq (tgt := 119) rfl (by decide) ?_ ?_
      · exact t_X7_isCorner_119 g l hl P a1 a2 hP w k2 hk2 _ ih x3 x4 M
      · refine Tt.go (fun _ => Tr.run 2 (pc' := 32) (lv' := [(0, .ref P), (1, .int a1), (2, .int a2), (3, .int x3), (4, .int x4)]) (st' := [.int a2, .int x4]) rfl) ?_
        refine Tt.ic_eq (tgt := 119) rfl (by decide) ?_ ?_
        · exact t_X7_isCorner_119 g l hl P a1 a2 hP w k2 hk2 _ ih x3 x4 M
        · refine Tt.go (fun _ => Tr.run 2 (pc' := 37) (lv' := [(0, .ref P), (1, .int a1), (2, .int a2), (3, .int x3), (4, .int x4)]) (st' := [.int x3, .int a1]) rfl) ?_
          refine Tt.callS (As := [.int a1, .int x3]) (rest := []) (c_X7_isOf g l hl a1 x3 M w) rfl cw_X7_isOf fw1289 pn_X7_isOf (Nat.le_of_ble_eq_true rfl) (Nat.le_of_ble_eq_true rfl) (Nat.le_of_ble_eq_true rfl) rfl (fun v2 => (?_ : Tt g l z_X7_isCorner (emI M w) _ 40 [(0, .ref P), (1, .int a1), (2, .int a2), (3, .int x3), (4, .int x4)] [.int v2] (M, w)))
          refine Tt.if_eq (tgt := 119) rfl (by decide) ?_ ?_
          · exact t_X7_isCorner_119 g l hl P a1 a2 hP w k2 hk2 _ ih x3 x4 M
          · refine Tt.go (fun _ => Tr.run 2 (pc' := 46) (lv' := [(0, .ref P), (1, .int a1), (2, .int a2), (3, .int x3), (4, .int x4)]) (st' := [.int x4, .int a1]) rfl) ?_
            refine Tt.callS (As := [.int a1, .int x4]) (rest := []) (c_X7_isOf g l hl a1 x4 M w) rfl cw_X7_isOf fw1289 pn_X7_isOf (Nat.le_of_ble_eq_true rfl) (Nat.le_of_ble_eq_true rfl) (Nat.le_of_ble_eq_true rfl) rfl (fun v3 => (?_ : Tt g l z_X7_isCorner (emI M w) _ 49 [(0, .ref P), (1, .int a1), (2, .int a2), (3, .int x3), (4, .int x4)] [.int v3] (M, w)))
            refine Tt.if_ne (tgt := 55) rfl (by decide) ?_ ?_
            · refine Tt.go (fun _ => Tr.run 1 (pc' := 119) (lv' := [(0, .ref P), (1, .int a1), (2, .int a2), (3, .int x3), (4, .int x4)]) (st' := []) rfl) ?_
              exact t_X7_isCorner_119 g l hl P a1 a2 hP w k2 hk2 _ ih x3 x4 M
            · refine Tt.go (fun _ => Tr.run 4 (pc' := 60) (lv' := [(0, .ref P), (1, .int a1), (2, .int a2), (3, .int x3), (4, .int x4)]) (st' := [.int x4, .int x3, .int a2, .ref P]) rfl) ?_
              refine Tt.callV (As := [.int a2, .int x3, .int x4]) (rest := []) (c_X7_isBetween g l hl P a2 x3 x4 hP M w) hP (by decide) rfl rfl cw_X7_isBetween fw1296 pn_X7_isBetween (Nat.le_of_ble_eq_true rfl) (Nat.le_of_ble_eq_true rfl) (Nat.le_of_ble_eq_true rfl) rfl (fun v4 => (?_ : Tt g l z_X7_isCorner (emI M w) _ 63 [(0, .ref P), (1, .int a1), (2, .int a2), (3, .int x3), (4, .int x4)] [.int v4] (M, w)))
              refine Tt.if_eq (tgt := 68) rfl (by decide) ?_ ?_
              · refine Tt.go (fun _ => Tr.run 4 (pc' := 74) (lv' := [(5, .int (x4 + (1 : Int32))), (0, .ref P), (1, .int a1), (2, .int a2), (3, .int x3), (4, .int x4)]) (st' := []) rfl) ?_
                refine Tt.go (fun _ => Tr.sub (lv' := [(0, .ref P), (1, .int a1), (2, .int a2), (3, .int x3), (4, .int x4), (5, .int (x4 + (1 : Int32)))]) [1, 2, 3, 4, 5, 0] rfl) ?_
                exact t_X7_isCorner_74 g l hl P a1 a2 hP w k2 hk2 _ ih fm_fuel x3 x4 (x4 + (1 : Int32)) M
              · refine Tt.go (fun _ => Tr.run 1 (pc' := 67) (lv' := [(0, .ref P), (1, .int a1), (2, .int a2), (3, .int x3), (4, .int x4)]) (st' := [.int (0 : Int32)]) rfl) ?_
                exact Tt.ret (Tr.zret rfl rfl fm_bo0)
def f_X7_isCorner_2 (P : Nat) (a1 : Int32) (a2 : Int32) : Nat → Int32 → fm_Mem → Option (Int32)
  | 0, _, _ => none
  | n + 1, x3, M => Option.bind (f_X7_points P M) (fun v1 => if v1 ≤ x3 then (some ((1 : Int32))) else (f_X7_isCorner_15 P a1 a2 (fun x3 M => f_X7_isCorner_2 P a1 a2 n x3 M) fm_fuel x3 (x3 + (1 : Int32)) M))
set_option maxRecDepth 100000 in
set_option maxHeartbeats 4000000 in
theorem t_X7_isCorner_2 (g : fm_G) (l : Launch) (hl : l.stackTraces = false) (P : Nat) (a1 : Int32) (a2 : Int32) (hP : fm_kd g P = 7) (w : fm_W)  : ∀ (n : Nat) (x3 : Int32)  (M : fm_Mem), Tt g l z_X7_isCorner (emI M w) (f_X7_isCorner_2 P a1 a2  n x3 M) 2 [(0, .ref P), (1, .int a1), (2, .int a2), (3, .int x3)] [] (M, w) := by
  intro n
  induction n with
  | zero => intros; exact Tt.none
  | succ n ih =>
    intro x3  M
    rw [f_X7_isCorner_2]
    refine Tt.go (fun _ => Tr.run 2 (pc' := 4) (lv' := [(0, .ref P), (1, .int a1), (2, .int a2), (3, .int x3)]) (st' := [.ref P, .int x3]) rfl) ?_
    refine Tt.callV (As := []) (rest := [.int x3]) (c_X7_points g l hl P hP M w) hP (by decide) rfl rfl cw_X7_points fw1156 pn_X7_points (Nat.le_of_ble_eq_true rfl) (Nat.le_of_ble_eq_true rfl) (Nat.le_of_ble_eq_true rfl) rfl (fun v1 => (?_ : Tt g l z_X7_isCorner (emI M w) _ 7 [(0, .ref P), (1, .int a1), (2, .int a2), (3, .int x3)] [.int v1, .int x3] (M, w)))
    refine Tt.ic_ge (tgt := 131) rfl (by decide) ?_ ?_
    · refine Tt.go (fun _ => Tr.run 1 (pc' := 132) (lv' := [(0, .ref P), (1, .int a1), (2, .int a2), (3, .int x3)]) (st' := [.int (1 : Int32)]) rfl) ?_
      exact Tt.ret (Tr.zret rfl rfl fm_bo1)
    · refine Tt.go (fun _ => Tr.run 4 (pc' := 15) (lv' := [(4, .int (x3 + (1 : Int32))), (0, .ref P), (1, .int a1), (2, .int a2), (3, .int x3)]) (st' := []) rfl) ?_
      refine Tt.go (fun _ => Tr.sub (lv' := [(0, .ref P), (1, .int a1), (2, .int a2), (3, .int x3), (4, .int (x3 + (1 : Int32)))]) [1, 2, 3, 4, 0] rfl) ?_
      exact t_X7_isCorner_15 g l hl P a1 a2 hP w _ ih fm_fuel x3 (x3 + (1 : Int32)) M
def f_X7_isCorner (P : Nat) (a1 : Int32) (a2 : Int32) (M : fm_Mem) : Option (Int32) := (f_X7_isCorner_2 P a1 a2 fm_fuel (0 : Int32) M)
set_option maxRecDepth 100000 in
set_option maxHeartbeats 4000000 in
theorem t_X7_isCorner (g : fm_G) (l : Launch) (hl : l.stackTraces = false) (P : Nat) (a1 : Int32) (a2 : Int32) (hP : fm_kd g P = 7) (M : fm_Mem) (w : fm_W) : Tt g l z_X7_isCorner (emI M w) (f_X7_isCorner P a1 a2 M) 0 [(0, .ref P), (1, .int a1), (2, .int a2)] [] (M, w) := by
  rw [f_X7_isCorner]
  refine Tt.go (fun _ => Tr.run 2 (pc' := 2) (lv' := [(3, .int (0 : Int32)), (0, .ref P), (1, .int a1), (2, .int a2)]) (st' := []) rfl) ?_
  refine Tt.go (fun _ => Tr.sub (lv' := [(0, .ref P), (1, .int a1), (2, .int a2), (3, .int (0 : Int32))]) [1, 2, 3, 0] rfl) ?_
  exact t_X7_isCorner_2 g l hl P a1 a2 hP w fm_fuel (0 : Int32) M
theorem c_X7_isCorner (g : fm_G) (l : Launch) (hl : l.stackTraces = false) (P : Nat) (a1 : Int32) (a2 : Int32) (hP : fm_kd g P = 7) (M : fm_Mem) (w : fm_W) : ∀ r, f_X7_isCorner P a1 a2 M = some r → fC g l z_X7_isCorner [.ref P, .int a1, .int a2] (M, w) (emI M w r) := fun r hr => fC.of (by decide) rfl o_X7_isCorner hl (Nat.le_of_ble_eq_true rfl) (t_X7_isCorner g l hl P a1 a2 hP M w r hr)
def k_X7_cornersOf : List (Nat × Instr × Nat) := [(0, .iconst 0, 1), (1, .istore_n 2, 1), (2, .iconst 0, 1), (3, .istore_n 3, 1), (4, .iload_n 3, 1), (5, .aload_n 0, 1), (6, .invokevirtual 48, 3), (9, .if_icmp .ge 36, 3), (12, .iload_n 2, 1), (13, .iload_n 1, 1), (14, .iload_n 3, 1), (15, .invokestatic 154, 3), (18, .ifCond .eq 18, 3), (21, .aload_n 0, 1), (22, .iload_n 1, 1), (23, .iload_n 3, 1), (24, .invokevirtual 164, 3), (27, .ifCond .eq 9, 3), (30, .iconst 1, 1), (31, .iload_n 3, 1), (32, .ishl, 1), (33, .goto 4, 3), (36, .iconst 0, 1), (37, .ior, 1), (38, .istore_n 2, 1), (39, .iinc 3 1, 3), (42, .goto (-38), 3), (45, .iload_n 2, 1), (46, .ireturn, 1)]
def z_X7_cornersOf : fm_Y := (yX7_cornersOf, RX7, cX7_cornersOf, 4, (some .int), k_X7_cornersOf, 5, 123)
theorem o_X7_cornersOf : fm_dec z_X7_cornersOf := (by decide +kernel : ∀ q ∈ k_X7_cornersOf, decode cX7_cornersOf q.1 = .ok q.2)
theorem cw_X7_cornersOf : fm_cwV z_X7_cornersOf := ⟨⟨lw_in 1288 (by decide +kernel) (by decide +kernel), lw_in 99 (by decide +kernel) (by decide +kernel), by decide, by decide⟩, lw_in 1287 (by decide +kernel) (by decide +kernel), lw_in 68 (by decide +kernel) (by decide +kernel)⟩
theorem pn_X7_cornersOf : (parseMethodDescriptor z_X7_cornersOf.1.desc).map (fun d => d.parameters.length) = some 1 := by decide +kernel
def f_X7_cornersOf_37 (P : Nat) (a1 : Int32) (k4 : Int32 → Int32 → fm_Mem → Option (Int32)) (x3 : Int32) (s0 : Int32) (s1 : Int32) (M : fm_Mem) : Option (Int32) := (k4 (s1 ||| s0) (x3 + (1 : Int32)) M)
set_option maxRecDepth 100000 in
set_option maxHeartbeats 4000000 in
theorem t_X7_cornersOf_37 (g : fm_G) (l : Launch) (hl : l.stackTraces = false) (P : Nat) (a1 : Int32) (hP : fm_kd g P = 7) (w : fm_W) (k4 : Int32 → Int32 → fm_Mem → Option (Int32)) (hk4 : ∀ (x2 : Int32) (x3 : Int32) (M : fm_Mem), Tt g l z_X7_cornersOf (emI M w) (k4 x2 x3 M) 4 [(0, .ref P), (1, .int a1), (2, .int x2), (3, .int x3)] [] (M, w)) (x3 : Int32) (s0 : Int32) (s1 : Int32)  (M : fm_Mem) : Tt g l z_X7_cornersOf (emI M w) (f_X7_cornersOf_37 P a1 k4 x3 s0 s1 M) 37 [(0, .ref P), (1, .int a1), (3, .int x3)] [.int s0, .int s1] (M, w) := by
  rw [f_X7_cornersOf_37]
  refine Tt.go (fun _ => Tr.run 4 (pc' := 4) (lv' := [(3, .int (x3 + (1 : Int32))), (2, .int (s1 ||| s0)), (0, .ref P), (1, .int a1)]) (st' := []) rfl) ?_
  refine Tt.go (fun _ => Tr.sub (lv' := [(0, .ref P), (1, .int a1), (2, .int (s1 ||| s0)), (3, .int (x3 + (1 : Int32)))]) [2, 3, 1, 0] rfl) ?_
  exact hk4 (s1 ||| s0) (x3 + (1 : Int32)) M
def f_X7_cornersOf_36 (P : Nat) (a1 : Int32) (k4 : Int32 → Int32 → fm_Mem → Option (Int32)) (x3 : Int32) (s0 : Int32) (M : fm_Mem) : Option (Int32) := (f_X7_cornersOf_37 P a1 k4 x3 (0 : Int32) s0 M)
set_option maxRecDepth 100000 in
set_option maxHeartbeats 4000000 in
theorem t_X7_cornersOf_36 (g : fm_G) (l : Launch) (hl : l.stackTraces = false) (P : Nat) (a1 : Int32) (hP : fm_kd g P = 7) (w : fm_W) (k4 : Int32 → Int32 → fm_Mem → Option (Int32)) (hk4 : ∀ (x2 : Int32) (x3 : Int32) (M : fm_Mem), Tt g l z_X7_cornersOf (emI M w) (k4 x2 x3 M) 4 [(0, .ref P), (1, .int a1), (2, .int x2), (3, .int x3)] [] (M, w)) (x3 : Int32) (s0 : Int32)  (M : fm_Mem) : Tt g l z_X7_cornersOf (emI M w) (f_X7_cornersOf_36 P a1 k4 x3 s0 M) 36 [(0, .ref P), (1, .int a1), (3, .int x3)] [.int s0] (M, w) := by
  rw [f_X7_cornersOf_36]
  refine Tt.go (fun _ => Tr.run 1 (pc' := 37) (lv' := [(0, .ref P), (1, .int a1), (3, .int x3)]) (st' := [.int (0 : Int32), .int s0]) rfl) ?_
  exact t_X7_cornersOf_37 g l hl P a1 hP w k4 hk4 x3 (0 : Int32) s0 M
def f_X7_cornersOf_4 (P : Nat) (a1 : Int32) : Nat → Int32 → Int32 → fm_Mem → Option (Int32)
  | 0, _, _, _ => none
  | n + 1, x2, x3, M => Option.bind (f_X7_points P M) (fun v1 => if v1 ≤ x3 then (some (x2)) else (Option.bind (f_X7_isOf a1 x3 M) (fun v2 => if v2 = 0 then (f_X7_cornersOf_36 P a1 (fun x2 x3 M => f_X7_cornersOf_4 P a1 n x2 x3 M) x3 x2 M) else (Option.bind (f_X7_isCorner P a1 x3 M) (fun v3 => if v3 = 0 then (f_X7_cornersOf_36 P a1 (fun x2 x3 M => f_X7_cornersOf_4 P a1 n x2 x3 M) x3 x2 M) else (f_X7_cornersOf_37 P a1 (fun x2 x3 M => f_X7_cornersOf_4 P a1 n x2 x3 M) x3 ((1 : Int32) <<< (x3 &&& 31)) x2 M))))))
set_option maxRecDepth 100000 in
set_option maxHeartbeats 4000000 in
theorem t_X7_cornersOf_4 (g : fm_G) (l : Launch) (hl : l.stackTraces = false) (P : Nat) (a1 : Int32) (hP : fm_kd g P = 7) (w : fm_W)  : ∀ (n : Nat) (x2 : Int32) (x3 : Int32)  (M : fm_Mem), Tt g l z_X7_cornersOf (emI M w) (f_X7_cornersOf_4 P a1  n x2 x3 M) 4 [(0, .ref P), (1, .int a1), (2, .int x2), (3, .int x3)] [] (M, w) := by
  intro n
  induction n with
  | zero => intros; exact Tt.none
  | succ n ih =>
    intro x2 x3  M
    rw [f_X7_cornersOf_4]
    refine Tt.go (fun _ => Tr.run 2 (pc' := 6) (lv' := [(0, .ref P), (1, .int a1), (2, .int x2), (3, .int x3)]) (st' := [.ref P, .int x3]) rfl) ?_
    refine Tt.callV (As := []) (rest := [.int x3]) (c_X7_points g l hl P hP M w) hP (by decide) rfl rfl cw_X7_points fw1156 pn_X7_points (Nat.le_of_ble_eq_true rfl) (Nat.le_of_ble_eq_true rfl) (Nat.le_of_ble_eq_true rfl) rfl (fun v1 => (?_ : Tt g l z_X7_cornersOf (emI M w) _ 9 [(0, .ref P), (1, .int a1), (2, .int x2), (3, .int x3)] [.int v1, .int x3] (M, w)))
    refine Tt.ic_ge (tgt := 45) rfl (by decide) ?_ ?_
    · refine Tt.go (fun _ => Tr.run 1 (pc' := 46) (lv' := [(0, .ref P), (1, .int a1), (2, .int x2), (3, .int x3)]) (st' := [.int x2]) rfl) ?_
      exact Tt.ret (Tr.iret rfl rfl)
    · refine Tt.go (fun _ => Tr.run 3 (pc' := 15) (lv' := [(0, .ref P), (1, .int a1), (2, .int x2), (3, .int x3)]) (st' := [.int x3, .int a1, .int x2]) rfl) ?_
      refine Tt.callS (As := [.int a1, .int x3]) (rest := [.int x2]) (c_X7_isOf g l hl a1 x3 M w) rfl cw_X7_isOf fw1289 pn_X7_isOf (Nat.le_of_ble_eq_true rfl) (Nat.le_of_ble_eq_true rfl) (Nat.le_of_ble_eq_true rfl) rfl (fun v2 => (?_ : Tt g l z_X7_cornersOf (emI M w) _ 18 [(0, .ref P), (1, .int a1), (2, .int x2), (3, .int x3)] [.int v2, .int x2] (M, w)))
      refine Tt.if_eq (tgt := 36) rfl (by decide) ?_ ?_
      · refine Tt.go (fun _ => Tr.sub (lv' := [(0, .ref P), (1, .int a1), (3, .int x3)]) [0, 1, 3] rfl) ?_
        exact t_X7_cornersOf_36 g l hl P a1 hP w _ ih x3 x2 M
      · refine Tt.go (fun _ => Tr.run 3 (pc' := 24) (lv' := [(0, .ref P), (1, .int a1), (2, .int x2), (3, .int x3)]) (st' := [.int x3, .int a1, .ref P, .int x2]) rfl) ?_
        refine Tt.callV (As := [.int a1, .int x3]) (rest := [.int x2]) (c_X7_isCorner g l hl P a1 x3 hP M w) hP (by decide) rfl rfl cw_X7_isCorner fw1292 pn_X7_isCorner (Nat.le_of_ble_eq_true rfl) (Nat.le_of_ble_eq_true rfl) (Nat.le_of_ble_eq_true rfl) rfl (fun v3 => (?_ : Tt g l z_X7_cornersOf (emI M w) _ 27 [(0, .ref P), (1, .int a1), (2, .int x2), (3, .int x3)] [.int v3, .int x2] (M, w)))
        refine Tt.if_eq (tgt := 36) rfl (by decide) ?_ ?_
        · refine Tt.go (fun _ => Tr.sub (lv' := [(0, .ref P), (1, .int a1), (3, .int x3)]) [0, 1, 3] rfl) ?_
          exact t_X7_cornersOf_36 g l hl P a1 hP w _ ih x3 x2 M
        · refine Tt.go (fun _ => Tr.run 4 (pc' := 37) (lv' := [(0, .ref P), (1, .int a1), (2, .int x2), (3, .int x3)]) (st' := [.int ((1 : Int32) <<< (x3 &&& 31)), .int x2]) rfl) ?_
          refine Tt.go (fun _ => Tr.sub (lv' := [(0, .ref P), (1, .int a1), (3, .int x3)]) [0, 1, 3] rfl) ?_
          exact t_X7_cornersOf_37 g l hl P a1 hP w _ ih x3 ((1 : Int32) <<< (x3 &&& 31)) x2 M
def f_X7_cornersOf (P : Nat) (a1 : Int32) (M : fm_Mem) : Option (Int32) := (f_X7_cornersOf_4 P a1 fm_fuel (0 : Int32) (0 : Int32) M)
set_option maxRecDepth 100000 in
set_option maxHeartbeats 4000000 in
theorem t_X7_cornersOf (g : fm_G) (l : Launch) (hl : l.stackTraces = false) (P : Nat) (a1 : Int32) (hP : fm_kd g P = 7) (M : fm_Mem) (w : fm_W) : Tt g l z_X7_cornersOf (emI M w) (f_X7_cornersOf P a1 M) 0 [(0, .ref P), (1, .int a1)] [] (M, w) := by
  rw [f_X7_cornersOf]
  refine Tt.go (fun _ => Tr.run 4 (pc' := 4) (lv' := [(3, .int (0 : Int32)), (2, .int (0 : Int32)), (0, .ref P), (1, .int a1)]) (st' := []) rfl) ?_
  refine Tt.go (fun _ => Tr.sub (lv' := [(0, .ref P), (1, .int a1), (2, .int (0 : Int32)), (3, .int (0 : Int32))]) [2, 3, 1, 0] rfl) ?_
  exact t_X7_cornersOf_4 g l hl P a1 hP w fm_fuel (0 : Int32) (0 : Int32) M
theorem c_X7_cornersOf (g : fm_G) (l : Launch) (hl : l.stackTraces = false) (P : Nat) (a1 : Int32) (hP : fm_kd g P = 7) (M : fm_Mem) (w : fm_W) : ∀ r, f_X7_cornersOf P a1 M = some r → fC g l z_X7_cornersOf [.ref P, .int a1] (M, w) (emI M w r) := fun r hr => fC.of (by decide) rfl o_X7_cornersOf hl (Nat.le_of_ble_eq_true rfl) (t_X7_cornersOf g l hl P a1 hP M w r hr)
def k_X7_bits : List (Nat × Instr × Nat) := [(0, .iconst 0, 1), (1, .istore_n 1, 1), (2, .iconst 0, 1), (3, .istore_n 2, 1), (4, .iload_n 2, 1), (5, .bipush 20, 2), (7, .if_icmp .ge 17, 3), (10, .iload_n 1, 1), (11, .iload_n 0, 1), (12, .iload_n 2, 1), (13, .ishr, 1), (14, .iconst 1, 1), (15, .iand, 1), (16, .iadd, 1), (17, .istore_n 1, 1), (18, .iinc 2 1, 3), (21, .goto (-17), 3), (24, .iload_n 1, 1), (25, .ireturn, 1)]
def z_X7_bits : fm_Y := (yX7_bits, RX7, cX7_bits, 3, (some .int), k_X7_bits, 0, 0)
theorem o_X7_bits : fm_dec z_X7_bits := (by decide +kernel : ∀ q ∈ k_X7_bits, decode cX7_bits q.1 = .ok q.2)
theorem cw_X7_bits : fm_cwS z_X7_bits := ⟨⟨lw_in 1306 (by decide +kernel) (by decide +kernel), lw_in 99 (by decide +kernel) (by decide +kernel), by decide, by decide⟩, lw_in 1305 (by decide +kernel) (by decide +kernel)⟩
theorem pn_X7_bits : (parseMethodDescriptor z_X7_bits.1.desc).map (fun d => d.parameters.length) = some 1 := by decide +kernel
def f_X7_bits_4 (a0 : Int32) : Nat → Int32 → Int32 → fm_Mem → Option (Int32)
  | 0, _, _, _ => none
  | n + 1, x1, x2, M => if (20 : Int32) ≤ x2 then (some (x1)) else (f_X7_bits_4 a0 n (x1 + ((a0 >>> (x2 &&& 31)) &&& (1 : Int32))) (x2 + (1 : Int32)) M)
set_option maxRecDepth 100000 in
set_option maxHeartbeats 4000000 in
theorem t_X7_bits_4 (g : fm_G) (l : Launch) (hl : l.stackTraces = false) (a0 : Int32)  (w : fm_W)  : ∀ (n : Nat) (x1 : Int32) (x2 : Int32)  (M : fm_Mem), Tt g l z_X7_bits (emI M w) (f_X7_bits_4 a0  n x1 x2 M) 4 [(0, .int a0), (1, .int x1), (2, .int x2)] [] (M, w) := by
  intro n
  induction n with
  | zero => intros; exact Tt.none
  | succ n ih =>
    intro x1 x2  M
    rw [f_X7_bits_4]
    refine Tt.go (fun _ => Tr.run 2 (pc' := 7) (lv' := [(0, .int a0), (1, .int x1), (2, .int x2)]) (st' := [.int (20 : Int32), .int x2]) rfl) ?_
    refine Tt.ic_ge (tgt := 24) rfl (by decide) ?_ ?_
    · refine Tt.go (fun _ => Tr.run 1 (pc' := 25) (lv' := [(0, .int a0), (1, .int x1), (2, .int x2)]) (st' := [.int x1]) rfl) ?_
      exact Tt.ret (Tr.iret rfl rfl)
    · refine Tt.go (fun _ => Tr.run 10 (pc' := 4) (lv' := [(2, .int (x2 + (1 : Int32))), (1, .int (x1 + ((a0 >>> (x2 &&& 31)) &&& (1 : Int32)))), (0, .int a0)]) (st' := []) rfl) ?_
      refine Tt.go (fun _ => Tr.sub (lv' := [(0, .int a0), (1, .int (x1 + ((a0 >>> (x2 &&& 31)) &&& (1 : Int32)))), (2, .int (x2 + (1 : Int32)))]) [2, 1, 0] rfl) ?_
      exact ih (x1 + ((a0 >>> (x2 &&& 31)) &&& (1 : Int32))) (x2 + (1 : Int32)) M
def f_X7_bits (a0 : Int32) (M : fm_Mem) : Option (Int32) := (f_X7_bits_4 a0 fm_fuel (0 : Int32) (0 : Int32) M)
set_option maxRecDepth 100000 in
set_option maxHeartbeats 4000000 in
theorem t_X7_bits (g : fm_G) (l : Launch) (hl : l.stackTraces = false) (a0 : Int32)  (M : fm_Mem) (w : fm_W) : Tt g l z_X7_bits (emI M w) (f_X7_bits a0 M) 0 [(0, .int a0)] [] (M, w) := by
  rw [f_X7_bits]
  refine Tt.go (fun _ => Tr.run 4 (pc' := 4) (lv' := [(2, .int (0 : Int32)), (1, .int (0 : Int32)), (0, .int a0)]) (st' := []) rfl) ?_
  refine Tt.go (fun _ => Tr.sub (lv' := [(0, .int a0), (1, .int (0 : Int32)), (2, .int (0 : Int32))]) [2, 1, 0] rfl) ?_
  exact t_X7_bits_4 g l hl a0 w fm_fuel (0 : Int32) (0 : Int32) M
theorem c_X7_bits (g : fm_G) (l : Launch) (hl : l.stackTraces = false) (a0 : Int32)  (M : fm_Mem) (w : fm_W) : ∀ r, f_X7_bits a0 M = some r → fC g l z_X7_bits [.int a0] (M, w) (emI M w r) := fun r hr => fC.of (by decide) rfl o_X7_bits hl (Nat.le_of_ble_eq_true rfl) (t_X7_bits g l hl a0  M w r hr)
def k_X7_layerOf : List (Nat × Instr × Nat) := [(0, .iconst 1, 1), (1, .aload_n 0, 1), (2, .invokevirtual 48, 3), (5, .ishl, 1), (6, .iconst 1, 1), (7, .isub, 1), (8, .istore_n 2, 1), (9, .iconst 0, 1), (10, .istore_n 3, 1), (11, .iload_n 2, 1), (12, .ifCond .eq 38, 3), (15, .aload_n 0, 1), (16, .iload_n 2, 1), (17, .invokevirtual 167, 3), (20, .istore 4, 2), (22, .iload_n 1, 1), (23, .ifCond .lt 14, 3), (26, .iload 4, 2), (28, .iload_n 1, 1), (29, .invokestatic 154, 3), (32, .ifCond .eq 5, 3), (35, .iload_n 3, 1), (36, .ireturn, 1), (37, .iload_n 2, 1), (38, .iload 4, 2), (40, .iconst (-1), 1), (41, .ixor, 1), (42, .iand, 1), (43, .istore_n 2, 1), (44, .iinc 3 1, 3), (47, .goto (-36), 3), (50, .iload_n 3, 1), (51, .ireturn, 1)]
def z_X7_layerOf : fm_Y := (yX7_layerOf, RX7, cX7_layerOf, 5, (some .int), k_X7_layerOf, 6, 146)
theorem o_X7_layerOf : fm_dec z_X7_layerOf := (by decide +kernel : ∀ q ∈ k_X7_layerOf, decode cX7_layerOf q.1 = .ok q.2)
theorem cw_X7_layerOf : fm_cwV z_X7_layerOf := ⟨⟨lw_in 1310 (by decide +kernel) (by decide +kernel), lw_in 99 (by decide +kernel) (by decide +kernel), by decide, by decide⟩, lw_in 1309 (by decide +kernel) (by decide +kernel), lw_in 72 (by decide +kernel) (by decide +kernel)⟩
theorem pn_X7_layerOf : (parseMethodDescriptor z_X7_layerOf.1.desc).map (fun d => d.parameters.length) = some 1 := by decide +kernel
def f_X7_layerOf_37 (P : Nat) (a1 : Int32) (k11 : Int32 → Int32 → fm_Mem → Option (Int32)) (x2 : Int32) (x3 : Int32) (x4 : Int32) (M : fm_Mem) : Option (Int32) := (k11 (x2 &&& (x4 ^^^ (-1 : Int32))) (x3 + (1 : Int32)) M)
set_option maxRecDepth 100000 in
set_option maxHeartbeats 4000000 in
theorem t_X7_layerOf_37 (g : fm_G) (l : Launch) (hl : l.stackTraces = false) (P : Nat) (a1 : Int32) (hP : fm_kd g P = 7) (w : fm_W) (k11 : Int32 → Int32 → fm_Mem → Option (Int32)) (hk11 : ∀ (x2 : Int32) (x3 : Int32) (M : fm_Mem), Tt g l z_X7_layerOf (emI M w) (k11 x2 x3 M) 11 [(0, .ref P), (1, .int a1), (2, .int x2), (3, .int x3)] [] (M, w)) (x2 : Int32) (x3 : Int32) (x4 : Int32)  (M : fm_Mem) : Tt g l z_X7_layerOf (emI M w) (f_X7_layerOf_37 P a1 k11 x2 x3 x4 M) 37 [(0, .ref P), (1, .int a1), (2, .int x2), (3, .int x3), (4, .int x4)] [] (M, w) := by
  rw [f_X7_layerOf_37]
  refine Tt.go (fun _ => Tr.run 8 (pc' := 11) (lv' := [(3, .int (x3 + (1 : Int32))), (2, .int (x2 &&& (x4 ^^^ (-1 : Int32)))), (0, .ref P), (1, .int a1), (4, .int x4)]) (st' := []) rfl) ?_
  refine Tt.go (fun _ => Tr.sub (lv' := [(0, .ref P), (1, .int a1), (2, .int (x2 &&& (x4 ^^^ (-1 : Int32)))), (3, .int (x3 + (1 : Int32)))]) [2, 3, 1, 0] rfl) ?_
  exact hk11 (x2 &&& (x4 ^^^ (-1 : Int32))) (x3 + (1 : Int32)) M
def f_X7_layerOf_11 (P : Nat) (a1 : Int32) : Nat → Int32 → Int32 → fm_Mem → Option (Int32)
  | 0, _, _, _ => none
  | n + 1, x2, x3, M => if x2 = 0 then (some (x3)) else (Option.bind (f_X7_cornersOf P x2 M) (fun v1 => if a1 < 0 then (f_X7_layerOf_37 P a1 (fun x2 x3 M => f_X7_layerOf_11 P a1 n x2 x3 M) x2 x3 v1 M) else (Option.bind (f_X7_isOf v1 a1 M) (fun v2 => if v2 = 0 then (f_X7_layerOf_37 P a1 (fun x2 x3 M => f_X7_layerOf_11 P a1 n x2 x3 M) x2 x3 v1 M) else (some (x3))))))
set_option maxRecDepth 100000 in
set_option maxHeartbeats 4000000 in
theorem t_X7_layerOf_11 (g : fm_G) (l : Launch) (hl : l.stackTraces = false) (P : Nat) (a1 : Int32) (hP : fm_kd g P = 7) (w : fm_W)  : ∀ (n : Nat) (x2 : Int32) (x3 : Int32)  (M : fm_Mem), Tt g l z_X7_layerOf (emI M w) (f_X7_layerOf_11 P a1  n x2 x3 M) 11 [(0, .ref P), (1, .int a1), (2, .int x2), (3, .int x3)] [] (M, w) := by
  intro n
  induction n with
  | zero => intros; exact Tt.none
  | succ n ih =>
    intro x2 x3  M
    rw [f_X7_layerOf_11]
    refine Tt.go (fun _ => Tr.run 1 (pc' := 12) (lv' := [(0, .ref P), (1, .int a1), (2, .int x2), (3, .int x3)]) (st' := [.int x2]) rfl) ?_
    refine Tt.if_eq (tgt := 50) rfl (by decide) ?_ ?_
    · refine Tt.go (fun _ => Tr.run 1 (pc' := 51) (lv' := [(0, .ref P), (1, .int a1), (2, .int x2), (3, .int x3)]) (st' := [.int x3]) rfl) ?_
      exact Tt.ret (Tr.iret rfl rfl)
    · refine Tt.go (fun _ => Tr.run 2 (pc' := 17) (lv' := [(0, .ref P), (1, .int a1), (2, .int x2), (3, .int x3)]) (st' := [.int x2, .ref P]) rfl) ?_
      refine Tt.callV (As := [.int x2]) (rest := []) (c_X7_cornersOf g l hl P x2 hP M w) hP (by decide) rfl rfl cw_X7_cornersOf fw1285 pn_X7_cornersOf (Nat.le_of_ble_eq_true rfl) (Nat.le_of_ble_eq_true rfl) (Nat.le_of_ble_eq_true rfl) rfl (fun v1 => (?_ : Tt g l z_X7_layerOf (emI M w) _ 20 [(0, .ref P), (1, .int a1), (2, .int x2), (3, .int x3)] [.int v1] (M, w)))
      refine Tt.go (fun _ => Tr.run 2 (pc' := 23) (lv' := [(4, .int v1), (0, .ref P), (1, .int a1), (2, .int x2), (3, .int x3)]) (st' := [.int a1]) rfl) ?_
      refine Tt.if_lt (tgt := 37) rfl (by decide) ?_ ?_
      · refine Tt.go (fun _ => Tr.sub (lv' := [(0, .ref P), (1, .int a1), (2, .int x2), (3, .int x3), (4, .int v1)]) [1, 2, 3, 4, 0] rfl) ?_
        exact t_X7_layerOf_37 g l hl P a1 hP w _ ih x2 x3 v1 M
      · refine Tt.go (fun _ => Tr.run 2 (pc' := 29) (lv' := [(4, .int v1), (0, .ref P), (1, .int a1), (2, .int x2), (3, .int x3)]) (st' := [.int a1, .int v1]) rfl) ?_
        refine Tt.callS (As := [.int v1, .int a1]) (rest := []) (c_X7_isOf g l hl v1 a1 M w) rfl cw_X7_isOf fw1289 pn_X7_isOf (Nat.le_of_ble_eq_true rfl) (Nat.le_of_ble_eq_true rfl) (Nat.le_of_ble_eq_true rfl) rfl (fun v2 => (?_ : Tt g l z_X7_layerOf (emI M w) _ 32 [(4, .int v1), (0, .ref P), (1, .int a1), (2, .int x2), (3, .int x3)] [.int v2] (M, w)))
        refine Tt.if_eq (tgt := 37) rfl (by decide) ?_ ?_
        · refine Tt.go (fun _ => Tr.sub (lv' := [(0, .ref P), (1, .int a1), (2, .int x2), (3, .int x3), (4, .int v1)]) [1, 2, 3, 4, 0] rfl) ?_
          exact t_X7_layerOf_37 g l hl P a1 hP w _ ih x2 x3 v1 M
        · refine Tt.go (fun _ => Tr.run 1 (pc' := 36) (lv' := [(4, .int v1), (0, .ref P), (1, .int a1), (2, .int x2), (3, .int x3)]) (st' := [.int x3]) rfl) ?_
          exact Tt.ret (Tr.iret rfl rfl)
def f_X7_layerOf (P : Nat) (a1 : Int32) (M : fm_Mem) : Option (Int32) := Option.bind (f_X7_points P M) (fun v1 => (f_X7_layerOf_11 P a1 fm_fuel (((1 : Int32) <<< (v1 &&& 31)) - (1 : Int32)) (0 : Int32) M))
set_option maxRecDepth 100000 in
set_option maxHeartbeats 4000000 in
theorem t_X7_layerOf (g : fm_G) (l : Launch) (hl : l.stackTraces = false) (P : Nat) (a1 : Int32) (hP : fm_kd g P = 7) (M : fm_Mem) (w : fm_W) : Tt g l z_X7_layerOf (emI M w) (f_X7_layerOf P a1 M) 0 [(0, .ref P), (1, .int a1)] [] (M, w) := by
  rw [f_X7_layerOf]
  refine Tt.go (fun _ => Tr.run 2 (pc' := 2) (lv' := [(0, .ref P), (1, .int a1)]) (st' := [.ref P, .int (1 : Int32)]) rfl) ?_
  refine Tt.callV (As := []) (rest := [.int (1 : Int32)]) (c_X7_points g l hl P hP M w) hP (by decide) rfl rfl cw_X7_points fw1156 pn_X7_points (Nat.le_of_ble_eq_true rfl) (Nat.le_of_ble_eq_true rfl) (Nat.le_of_ble_eq_true rfl) rfl (fun v1 => (?_ : Tt g l z_X7_layerOf (emI M w) _ 5 [(0, .ref P), (1, .int a1)] [.int v1, .int (1 : Int32)] (M, w)))
  refine Tt.go (fun _ => Tr.run 6 (pc' := 11) (lv' := [(3, .int (0 : Int32)), (2, .int (((1 : Int32) <<< (v1 &&& 31)) - (1 : Int32))), (0, .ref P), (1, .int a1)]) (st' := []) rfl) ?_
  refine Tt.go (fun _ => Tr.sub (lv' := [(0, .ref P), (1, .int a1), (2, .int (((1 : Int32) <<< (v1 &&& 31)) - (1 : Int32))), (3, .int (0 : Int32))]) [2, 3, 1, 0] rfl) ?_
  exact t_X7_layerOf_11 g l hl P a1 hP w fm_fuel (((1 : Int32) <<< (v1 &&& 31)) - (1 : Int32)) (0 : Int32) M
theorem c_X7_layerOf (g : fm_G) (l : Launch) (hl : l.stackTraces = false) (P : Nat) (a1 : Int32) (hP : fm_kd g P = 7) (M : fm_Mem) (w : fm_W) : ∀ r, f_X7_layerOf P a1 M = some r → fC g l z_X7_layerOf [.ref P, .int a1] (M, w) (emI M w r) := fun r hr => fC.of (by decide) rfl o_X7_layerOf hl (Nat.le_of_ble_eq_true rfl) (t_X7_layerOf g l hl P a1 hP M w r hr)
def k_X7_behind : List (Nat × Instr × Nat) := [(0, .iconst 0, 1), (1, .istore_n 3, 1), (2, .iload_n 3, 1), (3, .aload_n 0, 1), (4, .invokevirtual 48, 3), (7, .if_icmp .ge 99, 3), (10, .iload_n 3, 1), (11, .iload_n 2, 1), (12, .if_icmp .eq 88, 3), (15, .iload_n 1, 1), (16, .iload_n 3, 1), (17, .invokestatic 154, 3), (20, .ifCond .ne 6, 3), (23, .goto 77, 3), (26, .iconst 1, 1), (27, .istore 4, 2), (29, .iconst 0, 1), (30, .istore 5, 2), (32, .iload 5, 2), (34, .aload_n 0, 1), (35, .invokevirtual 48, 3), (38, .if_icmp .ge 55, 3), (41, .iload 4, 2), (43, .ifCond .eq 41, 3), (46, .iload 5, 2), (48, .iload_n 2, 1), (49, .if_icmp .eq 31, 3), (52, .iload 5, 2), (54, .iload_n 3, 1), (55, .if_icmp .eq 25, 3), (58, .iload_n 1, 1), (59, .iload 5, 2), (61, .invokestatic 154, 3), (64, .ifCond .eq 16, 3), (67, .aload_n 0, 1), (68, .iload_n 2, 1), (69, .iload_n 3, 1), (70, .iload 5, 2), (72, .invokevirtual 70, 3), (75, .lconst 0, 1), (76, .lcmp, 1), (77, .ifCond .le 7, 3), (80, .iconst 1, 1), (81, .goto 4, 3), (84, .iconst 0, 1), (85, .istore 4, 2), (87, .iinc 5 1, 3), (90, .goto (-58), 3), (93, .iload 4, 2), (95, .ifCond .eq 5, 3), (98, .iload_n 3, 1), (99, .ireturn, 1), (100, .iinc 3 1, 3), (103, .goto (-101), 3), (106, .iload_n 2, 1), (107, .ireturn, 1)]
def z_X7_behind : fm_Y := (yX7_behind, RX7, cX7_behind, 6, (some .int), k_X7_behind, 3, 73)
theorem o_X7_behind : fm_dec z_X7_behind := (by decide +kernel : ∀ q ∈ k_X7_behind, decode cX7_behind q.1 = .ok q.2)
theorem cw_X7_behind : fm_cwV z_X7_behind := ⟨⟨lw_in 1393 (by decide +kernel) (by decide +kernel), lw_in 99 (by decide +kernel) (by decide +kernel), by decide, by decide⟩, lw_in 1392 (by decide +kernel) (by decide +kernel), lw_in 84 (by decide +kernel) (by decide +kernel)⟩
theorem pn_X7_behind : (parseMethodDescriptor z_X7_behind.1.desc).map (fun d => d.parameters.length) = some 2 := by decide +kernel
def f_X7_behind_100 (P : Nat) (a1 : Int32) (a2 : Int32) (k2 : Int32 → fm_Mem → Option (Int32)) (x3 : Int32) (M : fm_Mem) : Option (Int32) := (k2 (x3 + (1 : Int32)) M)
set_option maxRecDepth 100000 in
set_option maxHeartbeats 4000000 in
theorem t_X7_behind_100 (g : fm_G) (l : Launch) (hl : l.stackTraces = false) (P : Nat) (a1 : Int32) (a2 : Int32) (hP : fm_kd g P = 7) (w : fm_W) (k2 : Int32 → fm_Mem → Option (Int32)) (hk2 : ∀ (x3 : Int32) (M : fm_Mem), Tt g l z_X7_behind (emI M w) (k2 x3 M) 2 [(0, .ref P), (1, .int a1), (2, .int a2), (3, .int x3)] [] (M, w)) (x3 : Int32)  (M : fm_Mem) : Tt g l z_X7_behind (emI M w) (f_X7_behind_100 P a1 a2 k2 x3 M) 100 [(0, .ref P), (1, .int a1), (2, .int a2), (3, .int x3)] [] (M, w) := by
  rw [f_X7_behind_100]
  refine Tt.go (fun _ => Tr.run 2 (pc' := 2) (lv' := [(3, .int (x3 + (1 : Int32))), (0, .ref P), (1, .int a1), (2, .int a2)]) (st' := []) rfl) ?_
  refine Tt.go (fun _ => Tr.sub (lv' := [(0, .ref P), (1, .int a1), (2, .int a2), (3, .int (x3 + (1 : Int32)))]) [1, 2, 3, 0] rfl) ?_
  exact hk2 (x3 + (1 : Int32)) M
def f_X7_behind_85 (P : Nat) (a1 : Int32) (a2 : Int32) (k2 : Int32 → fm_Mem → Option (Int32)) (k32 : Int32 → Int32 → Int32 → fm_Mem → Option (Int32)) (x3 : Int32) (x5 : Int32) (s0 : Int32) (M : fm_Mem) : Option (Int32) := (k32 x3 s0 (x5 + (1 : Int32)) M)
set_option maxRecDepth 100000 in
set_option maxHeartbeats 4000000 in
theorem t_X7_behind_85 (g : fm_G) (l : Launch) (hl : l.stackTraces = false) (P : Nat) (a1 : Int32) (a2 : Int32) (hP : fm_kd g P = 7) (w : fm_W) (k2 : Int32 → fm_Mem → Option (Int32)) (hk2 : ∀ (x3 : Int32) (M : fm_Mem), Tt g l z_X7_behind (emI M w) (k2 x3 M) 2 [(0, .ref P), (1, .int a1), (2, .int a2), (3, .int x3)] [] (M, w)) (k32 : Int32 → Int32 → Int32 → fm_Mem → Option (Int32)) (hk32 : ∀ (x3 : Int32) (x4 : Int32) (x5 : Int32) (M : fm_Mem), Tt g l z_X7_behind (emI M w) (k32 x3 x4 x5 M) 32 [(0, .ref P), (1, .int a1), (2, .int a2), (3, .int x3), (4, .int x4), (5, .int x5)] [] (M, w)) (x3 : Int32) (x5 : Int32) (s0 : Int32)  (M : fm_Mem) : Tt g l z_X7_behind (emI M w) (f_X7_behind_85 P a1 a2 k2 k32 x3 x5 s0 M) 85 [(0, .ref P), (1, .int a1), (2, .int a2), (3, .int x3), (5, .int x5)] [.int s0] (M, w) := by
  rw [f_X7_behind_85]
  refine Tt.go (fun _ => Tr.run 3 (pc' := 32) (lv' := [(5, .int (x5 + (1 : Int32))), (4, .int s0), (0, .ref P), (1, .int a1), (2, .int a2), (3, .int x3)]) (st' := []) rfl) ?_
  refine Tt.go (fun _ => Tr.sub (lv' := [(0, .ref P), (1, .int a1), (2, .int a2), (3, .int x3), (4, .int s0), (5, .int (x5 + (1 : Int32)))]) [2, 3, 4, 5, 1, 0] rfl) ?_
  exact hk32 x3 s0 (x5 + (1 : Int32)) M
def f_X7_behind_84 (P : Nat) (a1 : Int32) (a2 : Int32) (k2 : Int32 → fm_Mem → Option (Int32)) (k32 : Int32 → Int32 → Int32 → fm_Mem → Option (Int32)) (x3 : Int32) (x5 : Int32) (M : fm_Mem) : Option (Int32) := (f_X7_behind_85 P a1 a2 k2 k32 x3 x5 (0 : Int32) M)
set_option maxRecDepth 100000 in
set_option maxHeartbeats 4000000 in
theorem t_X7_behind_84 (g : fm_G) (l : Launch) (hl : l.stackTraces = false) (P : Nat) (a1 : Int32) (a2 : Int32) (hP : fm_kd g P = 7) (w : fm_W) (k2 : Int32 → fm_Mem → Option (Int32)) (hk2 : ∀ (x3 : Int32) (M : fm_Mem), Tt g l z_X7_behind (emI M w) (k2 x3 M) 2 [(0, .ref P), (1, .int a1), (2, .int a2), (3, .int x3)] [] (M, w)) (k32 : Int32 → Int32 → Int32 → fm_Mem → Option (Int32)) (hk32 : ∀ (x3 : Int32) (x4 : Int32) (x5 : Int32) (M : fm_Mem), Tt g l z_X7_behind (emI M w) (k32 x3 x4 x5 M) 32 [(0, .ref P), (1, .int a1), (2, .int a2), (3, .int x3), (4, .int x4), (5, .int x5)] [] (M, w)) (x3 : Int32) (x5 : Int32)  (M : fm_Mem) : Tt g l z_X7_behind (emI M w) (f_X7_behind_84 P a1 a2 k2 k32 x3 x5 M) 84 [(0, .ref P), (1, .int a1), (2, .int a2), (3, .int x3), (5, .int x5)] [] (M, w) := by
  rw [f_X7_behind_84]
  refine Tt.go (fun _ => Tr.run 1 (pc' := 85) (lv' := [(0, .ref P), (1, .int a1), (2, .int a2), (3, .int x3), (5, .int x5)]) (st' := [.int (0 : Int32)]) rfl) ?_
  exact t_X7_behind_85 g l hl P a1 a2 hP w k2 hk2 k32 hk32 x3 x5 (0 : Int32) M
def f_X7_behind_80 (P : Nat) (a1 : Int32) (a2 : Int32) (k2 : Int32 → fm_Mem → Option (Int32)) (k32 : Int32 → Int32 → Int32 → fm_Mem → Option (Int32)) (x3 : Int32) (x5 : Int32) (M : fm_Mem) : Option (Int32) := (f_X7_behind_85 P a1 a2 k2 k32 x3 x5 (1 : Int32) M)
set_option maxRecDepth 100000 in
set_option maxHeartbeats 4000000 in
theorem t_X7_behind_80 (g : fm_G) (l : Launch) (hl : l.stackTraces = false) (P : Nat) (a1 : Int32) (a2 : Int32) (hP : fm_kd g P = 7) (w : fm_W) (k2 : Int32 → fm_Mem → Option (Int32)) (hk2 : ∀ (x3 : Int32) (M : fm_Mem), Tt g l z_X7_behind (emI M w) (k2 x3 M) 2 [(0, .ref P), (1, .int a1), (2, .int a2), (3, .int x3)] [] (M, w)) (k32 : Int32 → Int32 → Int32 → fm_Mem → Option (Int32)) (hk32 : ∀ (x3 : Int32) (x4 : Int32) (x5 : Int32) (M : fm_Mem), Tt g l z_X7_behind (emI M w) (k32 x3 x4 x5 M) 32 [(0, .ref P), (1, .int a1), (2, .int a2), (3, .int x3), (4, .int x4), (5, .int x5)] [] (M, w)) (x3 : Int32) (x5 : Int32)  (M : fm_Mem) : Tt g l z_X7_behind (emI M w) (f_X7_behind_80 P a1 a2 k2 k32 x3 x5 M) 80 [(0, .ref P), (1, .int a1), (2, .int a2), (3, .int x3), (5, .int x5)] [] (M, w) := by
  rw [f_X7_behind_80]
  refine Tt.go (fun _ => Tr.run 2 (pc' := 85) (lv' := [(0, .ref P), (1, .int a1), (2, .int a2), (3, .int x3), (5, .int x5)]) (st' := [.int (1 : Int32)]) rfl) ?_
  exact t_X7_behind_85 g l hl P a1 a2 hP w k2 hk2 k32 hk32 x3 x5 (1 : Int32) M
def f_X7_behind_32 (P : Nat) (a1 : Int32) (a2 : Int32) (k2 : Int32 → fm_Mem → Option (Int32)) : Nat → Int32 → Int32 → Int32 → fm_Mem → Option (Int32)
  | 0, _, _, _, _ => none
  | n + 1, x3, x4, x5, M => Option.bind (f_X7_points P M) (fun v1 => if v1 ≤ x5 then (if x4 = 0 then (f_X7_behind_100 P a1 a2 k2 x3 M) else (some (x3))) else (if x4 = 0 then (f_X7_behind_84 P a1 a2 k2 (fun x3 x4 x5 M => f_X7_behind_32 P a1 a2 k2 n x3 x4 x5 M) x3 x5 M) else (if x5 = a2 then (f_X7_behind_80 P a1 a2 k2 (fun x3 x4 x5 M => f_X7_behind_32 P a1 a2 k2 n x3 x4 x5 M) x3 x5 M) else (if x5 = x3 then (f_X7_behind_80 P a1 a2 k2 (fun x3 x4 x5 M => f_X7_behind_32 P a1 a2 k2 n x3 x4 x5 M) x3 x5 M) else (Option.bind (f_X7_isOf a1 x5 M) (fun v2 => if v2 = 0 then (f_X7_behind_80 P a1 a2 k2 (fun x3 x4 x5 M => f_X7_behind_32 P a1 a2 k2 n x3 x4 x5 M) x3 x5 M) else (Option.bind (f_X7_turn P a2 x3 x5 M) (fun v3 => if (lg_cmp v3 (0 : Int64)) ≤ 0 then (f_X7_behind_84 P a1 a2 k2 (fun x3 x4 x5 M => f_X7_behind_32 P a1 a2 k2 n x3 x4 x5 M) x3 x5 M) else (f_X7_behind_80 P a1 a2 k2 (fun x3 x4 x5 M => f_X7_behind_32 P a1 a2 k2 n x3 x4 x5 M) x3 x5 M)))))))))
set_option maxRecDepth 100000 in
set_option maxHeartbeats 4000000 in
theorem t_X7_behind_32 (g : fm_G) (l : Launch) (hl : l.stackTraces = false) (P : Nat) (a1 : Int32) (a2 : Int32) (hP : fm_kd g P = 7) (w : fm_W) (k2 : Int32 → fm_Mem → Option (Int32)) (hk2 : ∀ (x3 : Int32) (M : fm_Mem), Tt g l z_X7_behind (emI M w) (k2 x3 M) 2 [(0, .ref P), (1, .int a1), (2, .int a2), (3, .int x3)] [] (M, w)) : ∀ (n : Nat) (x3 : Int32) (x4 : Int32) (x5 : Int32)  (M : fm_Mem), Tt g l z_X7_behind (emI M w) (f_X7_behind_32 P a1 a2 k2 n x3 x4 x5 M) 32 [(0, .ref P), (1, .int a1), (2, .int a2), (3, .int x3), (4, .int x4), (5, .int x5)] [] (M, w) := by
  intro n
  induction n with
  | zero => intros; exact Tt.none
  | succ n ih =>
    intro x3 x4 x5  M
    rw [f_X7_behind_32]
    refine Tt.go (fun _ => Tr.run 2 (pc' := 35) (lv' := [(0, .ref P), (1, .int a1), (2, .int a2), (3, .int x3), (4, .int x4), (5, .int x5)]) (st' := [.ref P, .int x5]) rfl) ?_
    refine Tt.callV (As := []) (rest := [.int x5]) (c_X7_points g l hl P hP M w) hP (by decide) rfl rfl cw_X7_points fw1156 pn_X7_points (Nat.le_of_ble_eq_true rfl) (Nat.le_of_ble_eq_true rfl) (Nat.le_of_ble_eq_true rfl) rfl (fun v1 => (?_ : Tt g l z_X7_behind (emI M w) _ 38 [(0, .ref P), (1, .int a1), (2, .int a2), (3, .int x3), (4, .int x4), (5, .int x5)] [.int v1, .int x5] (M, w)))
    refine Tt.ic_ge (tgt := 93) rfl (by decide) ?_ ?_
    · refine Tt.go (fun _ => Tr.run 1 (pc' := 95) (lv' := [(0, .ref P), (1, .int a1), (2, .int a2), (3, .int x3), (4, .int x4), (5, .int x5)]) (st' := [.int x4]) rfl) ?_
      refine Tt.if_eq (tgt := 100) rfl (by decide) ?_ ?_
      · refine Tt.go (fun _ => Tr.sub (lv' := [(0, .ref P), (1, .int a1), (2, .int a2), (3, .int x3)]) [0, 1, 2, 3] rfl) ?_
        exact t_X7_behind_100 g l hl P a1 a2 hP w k2 hk2 x3 M
      · refine Tt.go (fun _ => Tr.run 1 (pc' := 99) (lv' := [(0, .ref P), (1, .int a1), (2, .int a2), (3, .int x3), (4, .int x4), (5, .int x5)]) (st' := [.int x3]) rfl) ?_
        exact Tt.ret (Tr.iret rfl rfl)
    · refine Tt.go (fun _ => Tr.run 1 (pc' := 43) (lv' := [(0, .ref P), (1, .int a1), (2, .int a2), (3, .int x3), (4, .int x4), (5, .int x5)]) (st' := [.int x4]) rfl) ?_
      refine Tt.if_eq (tgt := 84) rfl (by decide) ?_ ?_
      · refine Tt.go (fun _ => Tr.sub (lv' := [(0, .ref P), (1, .int a1), (2, .int a2), (3, .int x3), (5, .int x5)]) [0, 1, 2, 3, 5] rfl) ?_
        exact t_X7_behind_84 g l hl P a1 a2 hP w k2 hk2 _ ih x3 x5 M
      · refine Tt.go (fun _ => Tr.run 2 (pc' := 49) (lv' := [(0, .ref P), (1, .int a1), (2, .int a2), (3, .int x3), (4, .int x4), (5, .int x5)]) (st' := [.int a2, .int x5]) rfl) ?_
        refine Tt.ic_eq (tgt := 80) rfl (by decide) ?_ ?_
        · refine Tt.go (fun _ => Tr.sub (lv' := [(0, .ref P), (1, .int a1), (2, .int a2), (3, .int x3), (5, .int x5)]) [0, 1, 2, 3, 5] rfl) ?_
          exact t_X7_behind_80 g l hl P a1 a2 hP w k2 hk2 _ ih x3 x5 M
        · refine Tt.go (fun _ => Tr.run 2 (pc' := 55) (lv' := [(0, .ref P), (1, .int a1), (2, .int a2), (3, .int x3), (4, .int x4), (5, .int x5)]) (st' := [.int x3, .int x5]) rfl) ?_
          refine Tt.ic_eq (tgt := 80) rfl (by decide) ?_ ?_
          · refine Tt.go (fun _ => Tr.sub (lv' := [(0, .ref P), (1, .int a1), (2, .int a2), (3, .int x3), (5, .int x5)]) [0, 1, 2, 3, 5] rfl) ?_
            exact t_X7_behind_80 g l hl P a1 a2 hP w k2 hk2 _ ih x3 x5 M
          · refine Tt.go (fun _ => Tr.run 2 (pc' := 61) (lv' := [(0, .ref P), (1, .int a1), (2, .int a2), (3, .int x3), (4, .int x4), (5, .int x5)]) (st' := [.int x5, .int a1]) rfl) ?_
            refine Tt.callS (As := [.int a1, .int x5]) (rest := []) (c_X7_isOf g l hl a1 x5 M w) rfl cw_X7_isOf fw1289 pn_X7_isOf (Nat.le_of_ble_eq_true rfl) (Nat.le_of_ble_eq_true rfl) (Nat.le_of_ble_eq_true rfl) rfl (fun v2 => (?_ : Tt g l z_X7_behind (emI M w) _ 64 [(0, .ref P), (1, .int a1), (2, .int a2), (3, .int x3), (4, .int x4), (5, .int x5)] [.int v2] (M, w)))
            refine Tt.if_eq (tgt := 80) rfl (by decide) ?_ ?_
            · refine Tt.go (fun _ => Tr.sub (lv' := [(0, .ref P), (1, .int a1), (2, .int a2), (3, .int x3), (5, .int x5)]) [0, 1, 2, 3, 5] rfl) ?_
              exact t_X7_behind_80 g l hl P a1 a2 hP w k2 hk2 _ ih x3 x5 M
            · refine Tt.go (fun _ => Tr.run 4 (pc' := 72) (lv' := [(0, .ref P), (1, .int a1), (2, .int a2), (3, .int x3), (4, .int x4), (5, .int x5)]) (st' := [.int x5, .int x3, .int a2, .ref P]) rfl) ?_
              refine Tt.callV (As := [.int a2, .int x3, .int x5]) (rest := []) (c_X7_turn g l hl P a2 x3 x5 hP M w) hP (by decide) rfl rfl cw_X7_turn fw1193 pn_X7_turn (Nat.le_of_ble_eq_true rfl) (Nat.le_of_ble_eq_true rfl) (Nat.le_of_ble_eq_true rfl) rfl (fun v3 => (?_ : Tt g l z_X7_behind (emI M w) _ 75 [(0, .ref P), (1, .int a1), (2, .int a2), (3, .int x3), (4, .int x4), (5, .int x5)] [.long v3] (M, w)))
              refine Tt.go (fun _ => Tr.run 2 (pc' := 77) (lv' := [(0, .ref P), (1, .int a1), (2, .int a2), (3, .int x3), (4, .int x4), (5, .int x5)]) (st' := [.int (lg_cmp v3 (0 : Int64))]) rfl) ?_
              refine Tt.if_le (tgt := 84) rfl (by decide) ?_ ?_
              · refine Tt.go (fun _ => Tr.sub (lv' := [(0, .ref P), (1, .int a1), (2, .int a2), (3, .int x3), (5, .int x5)]) [0, 1, 2, 3, 5] rfl) ?_
                exact t_X7_behind_84 g l hl P a1 a2 hP w k2 hk2 _ ih x3 x5 M
              · refine Tt.go (fun _ => Tr.sub (lv' := [(0, .ref P), (1, .int a1), (2, .int a2), (3, .int x3), (5, .int x5)]) [0, 1, 2, 3, 5] rfl) ?_
                exact t_X7_behind_80 g l hl P a1 a2 hP w k2 hk2 _ ih x3 x5 M
def f_X7_behind_2 (P : Nat) (a1 : Int32) (a2 : Int32) : Nat → Int32 → fm_Mem → Option (Int32)
  | 0, _, _ => none
  | n + 1, x3, M => Option.bind (f_X7_points P M) (fun v1 => if v1 ≤ x3 then (some (a2)) else (if x3 = a2 then (f_X7_behind_100 P a1 a2 (fun x3 M => f_X7_behind_2 P a1 a2 n x3 M) x3 M) else (Option.bind (f_X7_isOf a1 x3 M) (fun v2 => if v2 = 0 then (f_X7_behind_100 P a1 a2 (fun x3 M => f_X7_behind_2 P a1 a2 n x3 M) x3 M) else (f_X7_behind_32 P a1 a2 (fun x3 M => f_X7_behind_2 P a1 a2 n x3 M) fm_fuel x3 (1 : Int32) (0 : Int32) M)))))
set_option maxRecDepth 100000 in
set_option maxHeartbeats 4000000 in
theorem t_X7_behind_2 (g : fm_G) (l : Launch) (hl : l.stackTraces = false) (P : Nat) (a1 : Int32) (a2 : Int32) (hP : fm_kd g P = 7) (w : fm_W)  : ∀ (n : Nat) (x3 : Int32)  (M : fm_Mem), Tt g l z_X7_behind (emI M w) (f_X7_behind_2 P a1 a2  n x3 M) 2 [(0, .ref P), (1, .int a1), (2, .int a2), (3, .int x3)] [] (M, w) := by
  intro n
  induction n with
  | zero => intros; exact Tt.none
  | succ n ih =>
    intro x3  M
    rw [f_X7_behind_2]
    refine Tt.go (fun _ => Tr.run 2 (pc' := 4) (lv' := [(0, .ref P), (1, .int a1), (2, .int a2), (3, .int x3)]) (st' := [.ref P, .int x3]) rfl) ?_
    refine Tt.callV (As := []) (rest := [.int x3]) (c_X7_points g l hl P hP M w) hP (by decide) rfl rfl cw_X7_points fw1156 pn_X7_points (Nat.le_of_ble_eq_true rfl) (Nat.le_of_ble_eq_true rfl) (Nat.le_of_ble_eq_true rfl) rfl (fun v1 => (?_ : Tt g l z_X7_behind (emI M w) _ 7 [(0, .ref P), (1, .int a1), (2, .int a2), (3, .int x3)] [.int v1, .int x3] (M, w)))
    refine Tt.ic_ge (tgt := 106) rfl (by decide) ?_ ?_
    · refine Tt.go (fun _ => Tr.run 1 (pc' := 107) (lv' := [(0, .ref P), (1, .int a1), (2, .int a2), (3, .int x3)]) (st' := [.int a2]) rfl) ?_
      exact Tt.ret (Tr.iret rfl rfl)
    · refine Tt.go (fun _ => Tr.run 2 (pc' := 12) (lv' := [(0, .ref P), (1, .int a1), (2, .int a2), (3, .int x3)]) (st' := [.int a2, .int x3]) rfl) ?_
      refine Tt.ic_eq (tgt := 100) rfl (by decide) ?_ ?_
      · exact t_X7_behind_100 g l hl P a1 a2 hP w _ ih x3 M
      · refine Tt.go (fun _ => Tr.run 2 (pc' := 17) (lv' := [(0, .ref P), (1, .int a1), (2, .int a2), (3, .int x3)]) (st' := [.int x3, .int a1]) rfl) ?_
        refine Tt.callS (As := [.int a1, .int x3]) (rest := []) (c_X7_isOf g l hl a1 x3 M w) rfl cw_X7_isOf fw1289 pn_X7_isOf (Nat.le_of_ble_eq_true rfl) (Nat.le_of_ble_eq_true rfl) (Nat.le_of_ble_eq_true rfl) rfl (fun v2 => (?_ : Tt g l z_X7_behind (emI M w) _ 20 [(0, .ref P), (1, .int a1), (2, .int a2), (3, .int x3)] [.int v2] (M, w)))
        refine Tt.if_ne (tgt := 26) rfl (by decide) ?_ ?_
        · refine Tt.go (fun _ => Tr.run 1 (pc' := 100) (lv' := [(0, .ref P), (1, .int a1), (2, .int a2), (3, .int x3)]) (st' := []) rfl) ?_
          exact t_X7_behind_100 g l hl P a1 a2 hP w _ ih x3 M
        · refine Tt.go (fun _ => Tr.run 4 (pc' := 32) (lv' := [(5, .int (0 : Int32)), (4, .int (1 : Int32)), (0, .ref P), (1, .int a1), (2, .int a2), (3, .int x3)]) (st' := []) rfl) ?_
          refine Tt.go (fun _ => Tr.sub (lv' := [(0, .ref P), (1, .int a1), (2, .int a2), (3, .int x3), (4, .int (1 : Int32)), (5, .int (0 : Int32))]) [2, 3, 4, 5, 1, 0] rfl) ?_
          exact t_X7_behind_32 g l hl P a1 a2 hP w _ ih fm_fuel x3 (1 : Int32) (0 : Int32) M
def f_X7_behind (P : Nat) (a1 : Int32) (a2 : Int32) (M : fm_Mem) : Option (Int32) := (f_X7_behind_2 P a1 a2 fm_fuel (0 : Int32) M)
set_option maxRecDepth 100000 in
set_option maxHeartbeats 4000000 in
theorem t_X7_behind (g : fm_G) (l : Launch) (hl : l.stackTraces = false) (P : Nat) (a1 : Int32) (a2 : Int32) (hP : fm_kd g P = 7) (M : fm_Mem) (w : fm_W) : Tt g l z_X7_behind (emI M w) (f_X7_behind P a1 a2 M) 0 [(0, .ref P), (1, .int a1), (2, .int a2)] [] (M, w) := by
  rw [f_X7_behind]
  refine Tt.go (fun _ => Tr.run 2 (pc' := 2) (lv' := [(3, .int (0 : Int32)), (0, .ref P), (1, .int a1), (2, .int a2)]) (st' := []) rfl) ?_
  refine Tt.go (fun _ => Tr.sub (lv' := [(0, .ref P), (1, .int a1), (2, .int a2), (3, .int (0 : Int32))]) [1, 2, 3, 0] rfl) ?_
  exact t_X7_behind_2 g l hl P a1 a2 hP w fm_fuel (0 : Int32) M
theorem c_X7_behind (g : fm_G) (l : Launch) (hl : l.stackTraces = false) (P : Nat) (a1 : Int32) (a2 : Int32) (hP : fm_kd g P = 7) (M : fm_Mem) (w : fm_W) : ∀ r, f_X7_behind P a1 a2 M = some r → fC g l z_X7_behind [.ref P, .int a1, .int a2] (M, w) (emI M w r) := fun r hr => fC.of (by decide) rfl o_X7_behind hl (Nat.le_of_ble_eq_true rfl) (t_X7_behind g l hl P a1 a2 hP M w r hr)
def k_X7_four : List (Nat × Instr × Nat) := [(0, .bipush 24, 2), (2, .istore_n 2, 1), (3, .iload_n 2, 1), (4, .ifCond .lt 35, 3), (7, .aload_n 0, 1), (8, .getfield 29, 3), (11, .aload_n 0, 1), (12, .getfield 170, 3), (15, .iload_n 1, 1), (16, .iload_n 2, 1), (17, .ishr, 1), (18, .sipush 255, 3), (21, .iand, 1), (22, .iastore, 1), (23, .aload_n 0, 1), (24, .dup, 1), (25, .getfield 170, 3), (28, .iconst 1, 1), (29, .iadd, 1), (30, .putfield 170, 3), (33, .iinc 2 (-8), 3), (36, .goto (-33), 3), (39, .return_, 1)]
def z_X7_four : fm_Y := (yX7_four, RX7, cX7_four, 3, none, k_X7_four, 0, 0)
theorem o_X7_four : fm_dec z_X7_four := (by decide +kernel : ∀ q ∈ k_X7_four, decode cX7_four q.1 = .ok q.2)
theorem cw_X7_four : fm_cwV z_X7_four := ⟨⟨lw_in 1093 (by decide +kernel) (by decide +kernel), lw_in 99 (by decide +kernel) (by decide +kernel), by decide, by decide⟩, lw_in 1092 (by decide +kernel) (by decide +kernel), lw_in 28 (by decide +kernel) (by decide +kernel)⟩
theorem pn_X7_four : (parseMethodDescriptor z_X7_four.1.desc).map (fun d => d.parameters.length) = some 1 := by decide +kernel
def f_X7_four_3 (P : Nat) (a1 : Int32) : Nat → Int32 → fm_Mem → Option (fm_Mem)
  | 0, _, _ => none
  | n + 1, x2, M => if x2 < 0 then (some (M)) else (fm_ck (fm_in (M P 11) 400) (f_X7_four_3 P a1 n (x2 + (-8 : Int32)) (fm_up (fm_up M (P + 6) (Int32.toNatClampNeg (M P 11)) ((a1 >>> (x2 &&& 31)) &&& (255 : Int32))) P 11 (((fm_up M (P + 6) (Int32.toNatClampNeg (M P 11)) ((a1 >>> (x2 &&& 31)) &&& (255 : Int32))) P 11) + (1 : Int32)))))
set_option maxRecDepth 100000 in
set_option maxHeartbeats 4000000 in
theorem t_X7_four_3 (g : fm_G) (l : Launch) (hl : l.stackTraces = false) (P : Nat) (a1 : Int32) (hP : fm_kd g P = 7) (w : fm_W) (M0 : fm_Mem)  : ∀ (n : Nat) (x2 : Int32)  (M : fm_Mem), Tt g l z_X7_four (emVw M0 w) (f_X7_four_3 P a1  n x2 M) 3 [(0, .ref P), (1, .int a1), (2, .int x2)] [] (M, w) := by
  intro n
  induction n with
  | zero => intros; exact Tt.none
  | succ n ih =>
    intro x2  M
    rw [f_X7_four_3]
    refine Tt.go (fun _ => Tr.run 1 (pc' := 4) (lv' := [(0, .ref P), (1, .int a1), (2, .int x2)]) (st' := [.int x2]) rfl) ?_
    refine Tt.if_lt (tgt := 39) rfl (by decide) ?_ ?_
    · exact Tt.ret (Tr.vret rfl rfl)
    · refine Tt.go (fun _ => Tr.run 1 (pc' := 8) (lv' := [(0, .ref P), (1, .int a1), (2, .int x2)]) (st' := [.ref P]) rfl) ?_
      refine Tt.go (fun _ => Tr.get fmc7 hP rfl fw1034 (k := 10) (by decide) rfl) (?_ : Tt g l z_X7_four (emVw M0 w) _ 11 [(0, .ref P), (1, .int a1), (2, .int x2)] [.ref (P + 6)] (M, w))
      refine Tt.go (fun _ => Tr.run 1 (pc' := 12) (lv' := [(0, .ref P), (1, .int a1), (2, .int x2)]) (st' := [.ref P, .ref (P + 6)]) rfl) ?_
      refine Tt.go (fun _ => Tr.get fmc7 hP rfl fw1035 (k := 11) (by decide) rfl) (?_ : Tt g l z_X7_four (emVw M0 w) _ 15 [(0, .ref P), (1, .int a1), (2, .int x2)] [.int (M P 11), .ref (P + 6)] (M, w))
      refine Tt.go (fun _ => Tr.run 5 (pc' := 22) (lv' := [(0, .ref P), (1, .int a1), (2, .int x2)]) (st' := [.int ((a1 >>> (x2 &&& 31)) &&& (255 : Int32)), .int (M P 11), .ref (P + 6)]) rfl) ?_
      refine Tt.ck (fun hi_1 => ?_)
      refine Tt.go (fun _ => Tr.iast (fmk_7_10 hP) (by decide) hi_1 rfl) (?_ : Tt g l z_X7_four (emVw M0 w) _ 23 [(0, .ref P), (1, .int a1), (2, .int x2)] [] ((fm_up M (P + 6) (Int32.toNatClampNeg (M P 11)) ((a1 >>> (x2 &&& 31)) &&& (255 : Int32))), w))
      refine Tt.go (fun _ => Tr.run 2 (pc' := 25) (lv' := [(0, .ref P), (1, .int a1), (2, .int x2)]) (st' := [.ref P, .ref P]) rfl) ?_
      refine Tt.go (fun _ => Tr.get fmc7 hP rfl fw1035 (k := 11) (by decide) rfl) (?_ : Tt g l z_X7_four (emVw M0 w) _ 28 [(0, .ref P), (1, .int a1), (2, .int x2)] [.int ((fm_up M (P + 6) (Int32.toNatClampNeg (M P 11)) ((a1 >>> (x2 &&& 31)) &&& (255 : Int32))) P 11), .ref P] ((fm_up M (P + 6) (Int32.toNatClampNeg (M P 11)) ((a1 >>> (x2 &&& 31)) &&& (255 : Int32))), w))
      refine Tt.go (fun _ => Tr.run 2 (pc' := 30) (lv' := [(0, .ref P), (1, .int a1), (2, .int x2)]) (st' := [.int (((fm_up M (P + 6) (Int32.toNatClampNeg (M P 11)) ((a1 >>> (x2 &&& 31)) &&& (255 : Int32))) P 11) + (1 : Int32)), .ref P]) rfl) ?_
      refine Tt.go (fun _ => Tr.put fmc7 hP rfl fw1035 (k := 11) (by decide) rfl rfl ⟨rfl, rfl⟩) (?_ : Tt g l z_X7_four (emVw M0 w) _ 33 [(0, .ref P), (1, .int a1), (2, .int x2)] [] ((fm_up (fm_up M (P + 6) (Int32.toNatClampNeg (M P 11)) ((a1 >>> (x2 &&& 31)) &&& (255 : Int32))) P 11 (((fm_up M (P + 6) (Int32.toNatClampNeg (M P 11)) ((a1 >>> (x2 &&& 31)) &&& (255 : Int32))) P 11) + (1 : Int32))), w))
      refine Tt.go (fun _ => Tr.run 2 (pc' := 3) (lv' := [(2, .int (x2 + (-8 : Int32))), (0, .ref P), (1, .int a1)]) (st' := []) rfl) ?_
      refine Tt.go (fun _ => Tr.sub (lv' := [(0, .ref P), (1, .int a1), (2, .int (x2 + (-8 : Int32)))]) [1, 2, 0] rfl) ?_
      exact ih (x2 + (-8 : Int32)) (fm_up (fm_up M (P + 6) (Int32.toNatClampNeg (M P 11)) ((a1 >>> (x2 &&& 31)) &&& (255 : Int32))) P 11 (((fm_up M (P + 6) (Int32.toNatClampNeg (M P 11)) ((a1 >>> (x2 &&& 31)) &&& (255 : Int32))) P 11) + (1 : Int32)))
def f_X7_four (P : Nat) (a1 : Int32) (M : fm_Mem) : Option (fm_Mem) := (f_X7_four_3 P a1 fm_fuel (24 : Int32) M)
set_option maxRecDepth 100000 in
set_option maxHeartbeats 4000000 in
theorem t_X7_four (g : fm_G) (l : Launch) (hl : l.stackTraces = false) (P : Nat) (a1 : Int32) (hP : fm_kd g P = 7) (M : fm_Mem) (w : fm_W) : Tt g l z_X7_four (emVw M w) (f_X7_four P a1 M) 0 [(0, .ref P), (1, .int a1)] [] (M, w) := by
  rw [f_X7_four]
  refine Tt.go (fun _ => Tr.run 2 (pc' := 3) (lv' := [(2, .int (24 : Int32)), (0, .ref P), (1, .int a1)]) (st' := []) rfl) ?_
  refine Tt.go (fun _ => Tr.sub (lv' := [(0, .ref P), (1, .int a1), (2, .int (24 : Int32))]) [1, 2, 0] rfl) ?_
  exact t_X7_four_3 g l hl P a1 hP w M fm_fuel (24 : Int32) M
theorem c_X7_four (g : fm_G) (l : Launch) (hl : l.stackTraces = false) (P : Nat) (a1 : Int32) (hP : fm_kd g P = 7) (M : fm_Mem) (w : fm_W) : ∀ r, f_X7_four P a1 M = some r → fC g l z_X7_four [.ref P, .int a1] (M, w) (emVw M w r) := fun r hr => fC.of (by decide) rfl o_X7_four hl (Nat.le_of_ble_eq_true rfl) (t_X7_four g l hl P a1 hP M w r hr)
def k_X7_append : List (Nat × Instr × Nat) := [(0, .aload_n 0, 1), (1, .iconst 0, 1), (2, .putfield 35, 3), (5, .aload_n 0, 1), (6, .getfield 170, 3), (9, .bipush 20, 2), (11, .iadd, 1), (12, .sipush 400, 3), (15, .if_icmp .le 5, 3), (18, .iconst (-1), 1), (19, .ireturn, 1), (20, .aload_n 0, 1), (21, .iload_n 1, 1), (22, .invokevirtual 173, 3), (25, .aload_n 0, 1), (26, .iload_n 2, 1), (27, .invokevirtual 173, 3), (30, .aload_n 0, 1), (31, .iload_n 3, 1), (32, .invokevirtual 173, 3), (35, .aload_n 0, 1), (36, .iload 4, 2), (38, .invokevirtual 173, 3), (41, .aload_n 0, 1), (42, .iload 5, 2), (44, .invokevirtual 173, 3), (47, .aload_n 0, 1), (48, .getfield 170, 3), (51, .ireturn, 1)]
def z_X7_append : fm_Y := (yX7_append, RX7, cX7_append, 6, (some .int), k_X7_append, 1, 22)
theorem o_X7_append : fm_dec z_X7_append := (by decide +kernel : ∀ q ∈ k_X7_append, decode cX7_append q.1 = .ok q.2)
theorem cw_X7_append : fm_cwV z_X7_append := ⟨⟨lw_in 1089 (by decide +kernel) (by decide +kernel), lw_in 99 (by decide +kernel) (by decide +kernel), by decide, by decide⟩, lw_in 1087 (by decide +kernel) (by decide +kernel), lw_in 1088 (by decide +kernel) (by decide +kernel)⟩
theorem pn_X7_append : (parseMethodDescriptor z_X7_append.1.desc).map (fun d => d.parameters.length) = some 5 := by decide +kernel
def f_X7_append (P : Nat) (a1 : Int32) (a2 : Int32) (a3 : Int32) (a4 : Int32) (a5 : Int32) (M : fm_Mem) : Option (Int32 × fm_Mem) := if (((fm_up M P 0 (0 : Int32)) P 11) + (20 : Int32)) ≤ (400 : Int32) then (Option.bind (f_X7_four P a1 (fm_up M P 0 (0 : Int32))) (fun v1 => Option.bind (f_X7_four P a2 v1) (fun v2 => Option.bind (f_X7_four P a3 v2) (fun v3 => Option.bind (f_X7_four P a4 v3) (fun v4 => Option.bind (f_X7_four P a5 v4) (fun v5 => some (((v5 P 11), v5)))))))) else (some (((-1 : Int32), (fm_up M P 0 (0 : Int32)))))
set_option maxRecDepth 100000 in
set_option maxHeartbeats 4000000 in
theorem t_X7_append (g : fm_G) (l : Launch) (hl : l.stackTraces = false) (P : Nat) (a1 : Int32) (a2 : Int32) (a3 : Int32) (a4 : Int32) (a5 : Int32) (hP : fm_kd g P = 7) (M : fm_Mem) (w : fm_W) : Tt g l z_X7_append (emIw M w) (f_X7_append P a1 a2 a3 a4 a5 M) 0 [(0, .ref P), (1, .int a1), (2, .int a2), (3, .int a3), (4, .int a4), (5, .int a5)] [] (M, w) := by
  rw [f_X7_append]
  refine Tt.go (fun _ => Tr.run 2 (pc' := 2) (lv' := [(0, .ref P), (1, .int a1), (2, .int a2), (3, .int a3), (4, .int a4), (5, .int a5)]) (st' := [.int (0 : Int32), .ref P]) rfl) ?_
  refine Tt.go (fun _ => Tr.put fmc7 hP rfl fw1024 (k := 0) (by decide) rfl rfl ⟨rfl, rfl⟩) (?_ : Tt g l z_X7_append (emIw M w) _ 5 [(0, .ref P), (1, .int a1), (2, .int a2), (3, .int a3), (4, .int a4), (5, .int a5)] [] ((fm_up M P 0 (0 : Int32)), w))
  refine Tt.go (fun _ => Tr.run 1 (pc' := 6) (lv' := [(0, .ref P), (1, .int a1), (2, .int a2), (3, .int a3), (4, .int a4), (5, .int a5)]) (st' := [.ref P]) rfl) ?_
  refine Tt.go (fun _ => Tr.get fmc7 hP rfl fw1035 (k := 11) (by decide) rfl) (?_ : Tt g l z_X7_append (emIw M w) _ 9 [(0, .ref P), (1, .int a1), (2, .int a2), (3, .int a3), (4, .int a4), (5, .int a5)] [.int ((fm_up M P 0 (0 : Int32)) P 11)] ((fm_up M P 0 (0 : Int32)), w))
  refine Tt.go (fun _ => Tr.run 3 (pc' := 15) (lv' := [(0, .ref P), (1, .int a1), (2, .int a2), (3, .int a3), (4, .int a4), (5, .int a5)]) (st' := [.int (400 : Int32), .int (((fm_up M P 0 (0 : Int32)) P 11) + (20 : Int32))]) rfl) ?_
  refine Tt.ic_le (tgt := 20) rfl (by decide) ?_ ?_
  · refine Tt.go (fun _ => Tr.run 2 (pc' := 22) (lv' := [(0, .ref P), (1, .int a1), (2, .int a2), (3, .int a3), (4, .int a4), (5, .int a5)]) (st' := [.int a1, .ref P]) rfl) ?_
    refine Tt.callV (As := [.int a1]) (rest := []) (c_X7_four g l hl P a1 hP (fm_up M P 0 (0 : Int32)) w) hP (by decide) rfl rfl cw_X7_four fw1090 pn_X7_four (Nat.le_of_ble_eq_true rfl) (Nat.le_of_ble_eq_true rfl) (Nat.le_of_ble_eq_true rfl) rfl (fun v1 => (?_ : Tt g l z_X7_append (emIw M w) _ 25 [(0, .ref P), (1, .int a1), (2, .int a2), (3, .int a3), (4, .int a4), (5, .int a5)] [] (v1, w)))
    refine Tt.go (fun _ => Tr.run 2 (pc' := 27) (lv' := [(0, .ref P), (1, .int a1), (2, .int a2), (3, .int a3), (4, .int a4), (5, .int a5)]) (st' := [.int a2, .ref P]) rfl) ?_
    refine Tt.callV (As := [.int a2]) (rest := []) (c_X7_four g l hl P a2 hP v1 w) hP (by decide) rfl rfl cw_X7_four fw1090 pn_X7_four (Nat.le_of_ble_eq_true rfl) (Nat.le_of_ble_eq_true rfl) (Nat.le_of_ble_eq_true rfl) rfl (fun v2 => (?_ : Tt g l z_X7_append (emIw M w) _ 30 [(0, .ref P), (1, .int a1), (2, .int a2), (3, .int a3), (4, .int a4), (5, .int a5)] [] (v2, w)))
    refine Tt.go (fun _ => Tr.run 2 (pc' := 32) (lv' := [(0, .ref P), (1, .int a1), (2, .int a2), (3, .int a3), (4, .int a4), (5, .int a5)]) (st' := [.int a3, .ref P]) rfl) ?_
    refine Tt.callV (As := [.int a3]) (rest := []) (c_X7_four g l hl P a3 hP v2 w) hP (by decide) rfl rfl cw_X7_four fw1090 pn_X7_four (Nat.le_of_ble_eq_true rfl) (Nat.le_of_ble_eq_true rfl) (Nat.le_of_ble_eq_true rfl) rfl (fun v3 => (?_ : Tt g l z_X7_append (emIw M w) _ 35 [(0, .ref P), (1, .int a1), (2, .int a2), (3, .int a3), (4, .int a4), (5, .int a5)] [] (v3, w)))
    refine Tt.go (fun _ => Tr.run 2 (pc' := 38) (lv' := [(0, .ref P), (1, .int a1), (2, .int a2), (3, .int a3), (4, .int a4), (5, .int a5)]) (st' := [.int a4, .ref P]) rfl) ?_
    refine Tt.callV (As := [.int a4]) (rest := []) (c_X7_four g l hl P a4 hP v3 w) hP (by decide) rfl rfl cw_X7_four fw1090 pn_X7_four (Nat.le_of_ble_eq_true rfl) (Nat.le_of_ble_eq_true rfl) (Nat.le_of_ble_eq_true rfl) rfl (fun v4 => (?_ : Tt g l z_X7_append (emIw M w) _ 41 [(0, .ref P), (1, .int a1), (2, .int a2), (3, .int a3), (4, .int a4), (5, .int a5)] [] (v4, w)))
    refine Tt.go (fun _ => Tr.run 2 (pc' := 44) (lv' := [(0, .ref P), (1, .int a1), (2, .int a2), (3, .int a3), (4, .int a4), (5, .int a5)]) (st' := [.int a5, .ref P]) rfl) ?_
    refine Tt.callV (As := [.int a5]) (rest := []) (c_X7_four g l hl P a5 hP v4 w) hP (by decide) rfl rfl cw_X7_four fw1090 pn_X7_four (Nat.le_of_ble_eq_true rfl) (Nat.le_of_ble_eq_true rfl) (Nat.le_of_ble_eq_true rfl) rfl (fun v5 => (?_ : Tt g l z_X7_append (emIw M w) _ 47 [(0, .ref P), (1, .int a1), (2, .int a2), (3, .int a3), (4, .int a4), (5, .int a5)] [] (v5, w)))
    refine Tt.go (fun _ => Tr.run 1 (pc' := 48) (lv' := [(0, .ref P), (1, .int a1), (2, .int a2), (3, .int a3), (4, .int a4), (5, .int a5)]) (st' := [.ref P]) rfl) ?_
    refine Tt.go (fun _ => Tr.get fmc7 hP rfl fw1035 (k := 11) (by decide) rfl) (?_ : Tt g l z_X7_append (emIw M w) _ 51 [(0, .ref P), (1, .int a1), (2, .int a2), (3, .int a3), (4, .int a4), (5, .int a5)] [.int (v5 P 11)] (v5, w))
    exact Tt.ret (Tr.iret rfl rfl)
  · refine Tt.go (fun _ => Tr.run 1 (pc' := 19) (lv' := [(0, .ref P), (1, .int a1), (2, .int a2), (3, .int a3), (4, .int a4), (5, .int a5)]) (st' := [.int (-1 : Int32)]) rfl) ?_
    exact Tt.ret (Tr.iret rfl rfl)
theorem c_X7_append (g : fm_G) (l : Launch) (hl : l.stackTraces = false) (P : Nat) (a1 : Int32) (a2 : Int32) (a3 : Int32) (a4 : Int32) (a5 : Int32) (hP : fm_kd g P = 7) (M : fm_Mem) (w : fm_W) : ∀ r, f_X7_append P a1 a2 a3 a4 a5 M = some r → fC g l z_X7_append [.ref P, .int a1, .int a2, .int a3, .int a4, .int a5] (M, w) (emIw M w r) := fun r hr => fC.of (by decide) rfl o_X7_append hl (Nat.le_of_ble_eq_true rfl) (t_X7_append g l hl P a1 a2 a3 a4 a5 hP M w r hr)
def k_X7_errorOffset : List (Nat × Instr × Nat) := [(0, .aload_n 0, 1), (1, .iconst 0, 1), (2, .putfield 35, 3), (5, .aload_n 0, 1), (6, .getfield 32, 3), (9, .ireturn, 1)]
def z_X7_errorOffset : fm_Y := (yX7_errorOffset, RX7, cX7_errorOffset, 1, (some .int), k_X7_errorOffset, 0, 0)
theorem o_X7_errorOffset : fm_dec z_X7_errorOffset := (by decide +kernel : ∀ q ∈ k_X7_errorOffset, decode cX7_errorOffset q.1 = .ok q.2)
theorem cw_X7_errorOffset : fm_cwV z_X7_errorOffset := ⟨⟨lw_in 1097 (by decide +kernel) (by decide +kernel), lw_in 99 (by decide +kernel) (by decide +kernel), by decide, by decide⟩, lw_in 1095 (by decide +kernel) (by decide +kernel), lw_in 1096 (by decide +kernel) (by decide +kernel)⟩
theorem pn_X7_errorOffset : (parseMethodDescriptor z_X7_errorOffset.1.desc).map (fun d => d.parameters.length) = some 0 := by decide +kernel
def f_X7_errorOffset (P : Nat) (M : fm_Mem) : Option (Int32 × fm_Mem) := some ((((fm_up M P 0 (0 : Int32)) P 15), (fm_up M P 0 (0 : Int32))))
set_option maxRecDepth 100000 in
set_option maxHeartbeats 4000000 in
theorem t_X7_errorOffset (g : fm_G) (l : Launch) (hl : l.stackTraces = false) (P : Nat) (hP : fm_kd g P = 7) (M : fm_Mem) (w : fm_W) : Tt g l z_X7_errorOffset (emIw M w) (f_X7_errorOffset P M) 0 [(0, .ref P)] [] (M, w) := by
  rw [f_X7_errorOffset]
  refine Tt.go (fun _ => Tr.run 2 (pc' := 2) (lv' := [(0, .ref P)]) (st' := [.int (0 : Int32), .ref P]) rfl) ?_
  refine Tt.go (fun _ => Tr.put fmc7 hP rfl fw1024 (k := 0) (by decide) rfl rfl ⟨rfl, rfl⟩) (?_ : Tt g l z_X7_errorOffset (emIw M w) _ 5 [(0, .ref P)] [] ((fm_up M P 0 (0 : Int32)), w))
  refine Tt.go (fun _ => Tr.run 1 (pc' := 6) (lv' := [(0, .ref P)]) (st' := [.ref P]) rfl) ?_
  refine Tt.go (fun _ => Tr.get fmc7 hP rfl fw1039 (k := 15) (by decide) rfl) (?_ : Tt g l z_X7_errorOffset (emIw M w) _ 9 [(0, .ref P)] [.int ((fm_up M P 0 (0 : Int32)) P 15)] ((fm_up M P 0 (0 : Int32)), w))
  exact Tt.ret (Tr.iret rfl rfl)
theorem c_X7_errorOffset (g : fm_G) (l : Launch) (hl : l.stackTraces = false) (P : Nat) (hP : fm_kd g P = 7) (M : fm_Mem) (w : fm_W) : ∀ r, f_X7_errorOffset P M = some r → fC g l z_X7_errorOffset [.ref P] (M, w) (emIw M w r) := fun r hr => fC.of (by decide) rfl o_X7_errorOffset hl (Nat.le_of_ble_eq_true rfl) (t_X7_errorOffset g l hl P hP M w r hr)
def k_X7_fails : List (Nat × Instr × Nat) := [(0, .aload_n 0, 1), (1, .getfield 177, 3), (4, .ifCond .eq 5, 3), (7, .iconst 0, 1), (8, .ireturn, 1), (9, .aload_n 0, 1), (10, .iload_n 1, 1), (11, .putfield 177, 3), (14, .aload_n 0, 1), (15, .iload_n 2, 1), (16, .putfield 32, 3), (19, .iconst 0, 1), (20, .ireturn, 1)]
def z_X7_fails : fm_Y := (yX7_fails, RX7, cX7_fails, 3, (some .boolean), k_X7_fails, 0, 0)
theorem o_X7_fails : fm_dec z_X7_fails := (by decide +kernel : ∀ q ∈ k_X7_fails, decode cX7_fails q.1 = .ok q.2)
theorem cw_X7_fails : fm_cwV z_X7_fails := ⟨⟨lw_in 1134 (by decide +kernel) (by decide +kernel), lw_in 99 (by decide +kernel) (by decide +kernel), by decide, by decide⟩, lw_in 1133 (by decide +kernel) (by decide +kernel), lw_in 34 (by decide +kernel) (by decide +kernel)⟩
theorem pn_X7_fails : (parseMethodDescriptor z_X7_fails.1.desc).map (fun d => d.parameters.length) = some 2 := by decide +kernel
def f_X7_fails (P : Nat) (a1 : Int32) (a2 : Int32) (M : fm_Mem) : Option (Int32 × fm_Mem) := if (M P 14) = 0 then (some (((0 : Int32), (fm_up (fm_up M P 14 a1) P 15 a2)))) else (some (((0 : Int32), M)))
set_option maxRecDepth 100000 in
set_option maxHeartbeats 4000000 in
theorem t_X7_fails (g : fm_G) (l : Launch) (hl : l.stackTraces = false) (P : Nat) (a1 : Int32) (a2 : Int32) (hP : fm_kd g P = 7) (M : fm_Mem) (w : fm_W) : Tt g l z_X7_fails (emIw M w) (f_X7_fails P a1 a2 M) 0 [(0, .ref P), (1, .int a1), (2, .int a2)] [] (M, w) := by
  rw [f_X7_fails]
  refine Tt.go (fun _ => Tr.run 1 (pc' := 1) (lv' := [(0, .ref P), (1, .int a1), (2, .int a2)]) (st' := [.ref P]) rfl) ?_
  refine Tt.go (fun _ => Tr.get fmc7 hP rfl fw1038 (k := 14) (by decide) rfl) (?_ : Tt g l z_X7_fails (emIw M w) _ 4 [(0, .ref P), (1, .int a1), (2, .int a2)] [.int (M P 14)] (M, w))
  refine Tt.if_eq (tgt := 9) rfl (by decide) ?_ ?_
  · refine Tt.go (fun _ => Tr.run 2 (pc' := 11) (lv' := [(0, .ref P), (1, .int a1), (2, .int a2)]) (st' := [.int a1, .ref P]) rfl) ?_
    refine Tt.go (fun _ => Tr.put fmc7 hP rfl fw1038 (k := 14) (by decide) rfl rfl ⟨rfl, rfl⟩) (?_ : Tt g l z_X7_fails (emIw M w) _ 14 [(0, .ref P), (1, .int a1), (2, .int a2)] [] ((fm_up M P 14 a1), w))
    refine Tt.go (fun _ => Tr.run 2 (pc' := 16) (lv' := [(0, .ref P), (1, .int a1), (2, .int a2)]) (st' := [.int a2, .ref P]) rfl) ?_
    refine Tt.go (fun _ => Tr.put fmc7 hP rfl fw1039 (k := 15) (by decide) rfl rfl ⟨rfl, rfl⟩) (?_ : Tt g l z_X7_fails (emIw M w) _ 19 [(0, .ref P), (1, .int a1), (2, .int a2)] [] ((fm_up (fm_up M P 14 a1) P 15 a2), w))
    refine Tt.go (fun _ => Tr.run 1 (pc' := 20) (lv' := [(0, .ref P), (1, .int a1), (2, .int a2)]) (st' := [.int (0 : Int32)]) rfl) ?_
    exact Tt.ret (Tr.zret rfl rfl fm_bo0)
  · refine Tt.go (fun _ => Tr.run 1 (pc' := 8) (lv' := [(0, .ref P), (1, .int a1), (2, .int a2)]) (st' := [.int (0 : Int32)]) rfl) ?_
    exact Tt.ret (Tr.zret rfl rfl fm_bo0)
theorem c_X7_fails (g : fm_G) (l : Launch) (hl : l.stackTraces = false) (P : Nat) (a1 : Int32) (a2 : Int32) (hP : fm_kd g P = 7) (M : fm_Mem) (w : fm_W) : ∀ r, f_X7_fails P a1 a2 M = some r → fC g l z_X7_fails [.ref P, .int a1, .int a2] (M, w) (emIw M w r) := fun r hr => fC.of (by decide) rfl o_X7_fails hl (Nat.le_of_ble_eq_true rfl) (t_X7_fails g l hl P a1 a2 hP M w r hr)
def k_X7_here : List (Nat × Instr × Nat) := [(0, .aload_n 0, 1), (1, .getfield 180, 3), (4, .aload_n 0, 1), (5, .getfield 183, 3), (8, .if_icmp .ge 30, 3), (11, .aload_n 0, 1), (12, .getfield 29, 3), (15, .aload_n 0, 1), (16, .getfield 180, 3), (19, .iaload, 1), (20, .bipush 32, 2), (22, .if_icmp .ne 16, 3), (25, .aload_n 0, 1), (26, .dup, 1), (27, .getfield 180, 3), (30, .iconst 1, 1), (31, .iadd, 1), (32, .putfield 180, 3), (35, .goto (-35), 3), (38, .aload_n 0, 1), (39, .getfield 180, 3), (42, .aload_n 0, 1), (43, .getfield 183, 3), (46, .if_icmp .ge 15, 3), (49, .aload_n 0, 1), (50, .getfield 29, 3), (53, .aload_n 0, 1), (54, .getfield 180, 3), (57, .iaload, 1), (58, .goto 4, 3), (61, .iconst (-1), 1), (62, .ireturn, 1)]
def z_X7_here : fm_Y := (yX7_here, RX7, cX7_here, 1, (some .int), k_X7_here, 0, 0)
theorem o_X7_here : fm_dec z_X7_here := (by decide +kernel : ∀ q ∈ k_X7_here, decode cX7_here q.1 = .ok q.2)
theorem cw_X7_here : fm_cwV z_X7_here := ⟨⟨lw_in 1125 (by decide +kernel) (by decide +kernel), lw_in 99 (by decide +kernel) (by decide +kernel), by decide, by decide⟩, lw_in 1124 (by decide +kernel) (by decide +kernel), lw_in 33 (by decide +kernel) (by decide +kernel)⟩
theorem pn_X7_here : (parseMethodDescriptor z_X7_here.1.desc).map (fun d => d.parameters.length) = some 0 := by decide +kernel
def f_X7_here_62 (P : Nat) (s0 : Int32) (M : fm_Mem) : Option (Int32 × fm_Mem) := some ((s0, M))
set_option maxRecDepth 100000 in
set_option maxHeartbeats 4000000 in
theorem t_X7_here_62 (g : fm_G) (l : Launch) (hl : l.stackTraces = false) (P : Nat) (hP : fm_kd g P = 7) (w : fm_W) (M0 : fm_Mem)  (s0 : Int32)  (M : fm_Mem) : Tt g l z_X7_here (emIw M0 w) (f_X7_here_62 P  s0 M) 62 [] [.int s0] (M, w) := by
  rw [f_X7_here_62]
  exact Tt.ret (Tr.iret rfl rfl)
def f_X7_here_38 (P : Nat)  (M : fm_Mem) : Option (Int32 × fm_Mem) := if (M P 12) ≤ (M P 13) then (f_X7_here_62 P (-1 : Int32) M) else (fm_ck (fm_in (M P 13) 400) (f_X7_here_62 P (M (P + 6) (Int32.toNatClampNeg (M P 13))) M))
set_option maxRecDepth 100000 in
set_option maxHeartbeats 4000000 in
theorem t_X7_here_38 (g : fm_G) (l : Launch) (hl : l.stackTraces = false) (P : Nat) (hP : fm_kd g P = 7) (w : fm_W) (M0 : fm_Mem)    (M : fm_Mem) : Tt g l z_X7_here (emIw M0 w) (f_X7_here_38 P   M) 38 [(0, .ref P)] [] (M, w) := by
  rw [f_X7_here_38]
  refine Tt.go (fun _ => Tr.run 1 (pc' := 39) (lv' := [(0, .ref P)]) (st' := [.ref P]) rfl) ?_
  refine Tt.go (fun _ => Tr.get fmc7 hP rfl fw1037 (k := 13) (by decide) rfl) (?_ : Tt g l z_X7_here (emIw M0 w) _ 42 [(0, .ref P)] [.int (M P 13)] (M, w))
  refine Tt.go (fun _ => Tr.run 1 (pc' := 43) (lv' := [(0, .ref P)]) (st' := [.ref P, .int (M P 13)]) rfl) ?_
  refine Tt.go (fun _ => Tr.get fmc7 hP rfl fw1036 (k := 12) (by decide) rfl) (?_ : Tt g l z_X7_here (emIw M0 w) _ 46 [(0, .ref P)] [.int (M P 12), .int (M P 13)] (M, w))
  refine Tt.ic_ge (tgt := 61) rfl (by decide) ?_ ?_
  · refine Tt.go (fun _ => Tr.run 1 (pc' := 62) (lv' := [(0, .ref P)]) (st' := [.int (-1 : Int32)]) rfl) ?_
    refine Tt.go (fun _ => Tr.sub (lv' := []) [] rfl) ?_
    exact t_X7_here_62 g l hl P hP w M0 (-1 : Int32) M
  · refine Tt.go (fun _ => Tr.run 1 (pc' := 50) (lv' := [(0, .ref P)]) (st' := [.ref P]) rfl) ?_
    refine Tt.go (fun _ => Tr.get fmc7 hP rfl fw1034 (k := 10) (by decide) rfl) (?_ : Tt g l z_X7_here (emIw M0 w) _ 53 [(0, .ref P)] [.ref (P + 6)] (M, w))
    refine Tt.go (fun _ => Tr.run 1 (pc' := 54) (lv' := [(0, .ref P)]) (st' := [.ref P, .ref (P + 6)]) rfl) ?_
    refine Tt.go (fun _ => Tr.get fmc7 hP rfl fw1037 (k := 13) (by decide) rfl) (?_ : Tt g l z_X7_here (emIw M0 w) _ 57 [(0, .ref P)] [.int (M P 13), .ref (P + 6)] (M, w))
    refine Tt.ck (fun hi_1 => ?_)
    refine Tt.go (fun _ => Tr.iald (fmk_7_10 hP) (by decide) hi_1 rfl) (?_ : Tt g l z_X7_here (emIw M0 w) _ 58 [(0, .ref P)] [.int (M (P + 6) (Int32.toNatClampNeg (M P 13)))] (M, w))
    refine Tt.go (fun _ => Tr.run 1 (pc' := 62) (lv' := [(0, .ref P)]) (st' := [.int (M (P + 6) (Int32.toNatClampNeg (M P 13)))]) rfl) ?_
    refine Tt.go (fun _ => Tr.sub (lv' := []) [] rfl) ?_
    exact t_X7_here_62 g l hl P hP w M0 (M (P + 6) (Int32.toNatClampNeg (M P 13))) M
def f_X7_here_0 (P : Nat) : Nat → fm_Mem → Option (Int32 × fm_Mem)
  | 0, _ => none
  | n + 1, M => if (M P 12) ≤ (M P 13) then (f_X7_here_38 P M) else (fm_ck (fm_in (M P 13) 400) (if (M (P + 6) (Int32.toNatClampNeg (M P 13))) = (32 : Int32) then (f_X7_here_0 P n (fm_up M P 13 ((M P 13) + (1 : Int32)))) else (f_X7_here_38 P M)))
set_option maxRecDepth 100000 in
set_option maxHeartbeats 4000000 in
theorem t_X7_here_0 (g : fm_G) (l : Launch) (hl : l.stackTraces = false) (P : Nat) (hP : fm_kd g P = 7) (w : fm_W) (M0 : fm_Mem)  : ∀ (n : Nat)   (M : fm_Mem), Tt g l z_X7_here (emIw M0 w) (f_X7_here_0 P  n  M) 0 [(0, .ref P)] [] (M, w) := by
  intro n
  induction n with
  | zero => intros; exact Tt.none
  | succ n ih =>
    intro   M
    rw [f_X7_here_0]
    refine Tt.go (fun _ => Tr.run 1 (pc' := 1) (lv' := [(0, .ref P)]) (st' := [.ref P]) rfl) ?_
    refine Tt.go (fun _ => Tr.get fmc7 hP rfl fw1037 (k := 13) (by decide) rfl) (?_ : Tt g l z_X7_here (emIw M0 w) _ 4 [(0, .ref P)] [.int (M P 13)] (M, w))
    refine Tt.go (fun _ => Tr.run 1 (pc' := 5) (lv' := [(0, .ref P)]) (st' := [.ref P, .int (M P 13)]) rfl) ?_
    refine Tt.go (fun _ => Tr.get fmc7 hP rfl fw1036 (k := 12) (by decide) rfl) (?_ : Tt g l z_X7_here (emIw M0 w) _ 8 [(0, .ref P)] [.int (M P 12), .int (M P 13)] (M, w))
    refine Tt.ic_ge (tgt := 38) rfl (by decide) ?_ ?_
    · exact t_X7_here_38 g l hl P hP w M0 M
    · refine Tt.go (fun _ => Tr.run 1 (pc' := 12) (lv' := [(0, .ref P)]) (st' := [.ref P]) rfl) ?_
      refine Tt.go (fun _ => Tr.get fmc7 hP rfl fw1034 (k := 10) (by decide) rfl) (?_ : Tt g l z_X7_here (emIw M0 w) _ 15 [(0, .ref P)] [.ref (P + 6)] (M, w))
      refine Tt.go (fun _ => Tr.run 1 (pc' := 16) (lv' := [(0, .ref P)]) (st' := [.ref P, .ref (P + 6)]) rfl) ?_
      refine Tt.go (fun _ => Tr.get fmc7 hP rfl fw1037 (k := 13) (by decide) rfl) (?_ : Tt g l z_X7_here (emIw M0 w) _ 19 [(0, .ref P)] [.int (M P 13), .ref (P + 6)] (M, w))
      refine Tt.ck (fun hi_1 => ?_)
      refine Tt.go (fun _ => Tr.iald (fmk_7_10 hP) (by decide) hi_1 rfl) (?_ : Tt g l z_X7_here (emIw M0 w) _ 20 [(0, .ref P)] [.int (M (P + 6) (Int32.toNatClampNeg (M P 13)))] (M, w))
      refine Tt.go (fun _ => Tr.run 1 (pc' := 22) (lv' := [(0, .ref P)]) (st' := [.int (32 : Int32), .int (M (P + 6) (Int32.toNatClampNeg (M P 13)))]) rfl) ?_
      refine Tt.ic_ne (tgt := 38) rfl (by decide) ?_ ?_
      · refine Tt.go (fun _ => Tr.run 2 (pc' := 27) (lv' := [(0, .ref P)]) (st' := [.ref P, .ref P]) rfl) ?_
        refine Tt.go (fun _ => Tr.get fmc7 hP rfl fw1037 (k := 13) (by decide) rfl) (?_ : Tt g l z_X7_here (emIw M0 w) _ 30 [(0, .ref P)] [.int (M P 13), .ref P] (M, w))
        refine Tt.go (fun _ => Tr.run 2 (pc' := 32) (lv' := [(0, .ref P)]) (st' := [.int ((M P 13) + (1 : Int32)), .ref P]) rfl) ?_
        refine Tt.go (fun _ => Tr.put fmc7 hP rfl fw1037 (k := 13) (by decide) rfl rfl ⟨rfl, rfl⟩) (?_ : Tt g l z_X7_here (emIw M0 w) _ 35 [(0, .ref P)] [] ((fm_up M P 13 ((M P 13) + (1 : Int32))), w))
        refine Tt.go (fun _ => Tr.run 1 (pc' := 0) (lv' := [(0, .ref P)]) (st' := []) rfl) ?_
        exact ih (fm_up M P 13 ((M P 13) + (1 : Int32)))
      · exact t_X7_here_38 g l hl P hP w M0 M
def f_X7_here (P : Nat) (M : fm_Mem) : Option (Int32 × fm_Mem) := (f_X7_here_0 P fm_fuel M)
set_option maxRecDepth 100000 in
set_option maxHeartbeats 4000000 in
theorem t_X7_here (g : fm_G) (l : Launch) (hl : l.stackTraces = false) (P : Nat) (hP : fm_kd g P = 7) (M : fm_Mem) (w : fm_W) : Tt g l z_X7_here (emIw M w) (f_X7_here P M) 0 [(0, .ref P)] [] (M, w) := by
  rw [f_X7_here]
  exact t_X7_here_0 g l hl P hP w M fm_fuel M
theorem c_X7_here (g : fm_G) (l : Launch) (hl : l.stackTraces = false) (P : Nat) (hP : fm_kd g P = 7) (M : fm_Mem) (w : fm_W) : ∀ r, f_X7_here P M = some r → fC g l z_X7_here [.ref P] (M, w) (emIw M w r) := fun r hr => fC.of (by decide) rfl o_X7_here hl (Nat.le_of_ble_eq_true rfl) (t_X7_here g l hl P hP M w r hr)
def k_X7_isSmall : List (Nat × Instr × Nat) := [(0, .iload_n 0, 1), (1, .bipush 97, 2), (3, .if_icmp .lt 13, 3), (6, .iload_n 0, 1), (7, .bipush 122, 2), (9, .if_icmp .gt 7, 3), (12, .iconst 1, 1), (13, .goto 4, 3), (16, .iconst 0, 1), (17, .ireturn, 1)]
def z_X7_isSmall : fm_Y := (yX7_isSmall, RX7, cX7_isSmall, 1, (some .boolean), k_X7_isSmall, 0, 0)
theorem o_X7_isSmall : fm_dec z_X7_isSmall := (by decide +kernel : ∀ q ∈ k_X7_isSmall, decode cX7_isSmall q.1 = .ok q.2)
theorem cw_X7_isSmall : fm_cwS z_X7_isSmall := ⟨⟨lw_in 1128 (by decide +kernel) (by decide +kernel), lw_in 99 (by decide +kernel) (by decide +kernel), by decide, by decide⟩, lw_in 1127 (by decide +kernel) (by decide +kernel)⟩
theorem pn_X7_isSmall : (parseMethodDescriptor z_X7_isSmall.1.desc).map (fun d => d.parameters.length) = some 1 := by decide +kernel
def f_X7_isSmall_17 (a0 : Int32) (s0 : Int32) (M : fm_Mem) : Option (Int32) := fm_ck (fm_bo s0) (some (s0))
set_option maxRecDepth 100000 in
set_option maxHeartbeats 4000000 in
theorem t_X7_isSmall_17 (g : fm_G) (l : Launch) (hl : l.stackTraces = false) (a0 : Int32)  (w : fm_W)  (s0 : Int32)  (M : fm_Mem) : Tt g l z_X7_isSmall (emI M w) (f_X7_isSmall_17 a0  s0 M) 17 [] [.int s0] (M, w) := by
  rw [f_X7_isSmall_17]
  exact Tt.ck (fun hb_1 => Tt.ret (Tr.zret rfl rfl hb_1))
def f_X7_isSmall_16 (a0 : Int32)  (M : fm_Mem) : Option (Int32) := (f_X7_isSmall_17 a0 (0 : Int32) M)
set_option maxRecDepth 100000 in
set_option maxHeartbeats 4000000 in
theorem t_X7_isSmall_16 (g : fm_G) (l : Launch) (hl : l.stackTraces = false) (a0 : Int32)  (w : fm_W)    (M : fm_Mem) : Tt g l z_X7_isSmall (emI M w) (f_X7_isSmall_16 a0   M) 16 [] [] (M, w) := by
  rw [f_X7_isSmall_16]
  refine Tt.go (fun _ => Tr.run 1 (pc' := 17) (lv' := []) (st' := [.int (0 : Int32)]) rfl) ?_
  exact t_X7_isSmall_17 g l hl a0 w (0 : Int32) M
def f_X7_isSmall (a0 : Int32) (M : fm_Mem) : Option (Int32) := if a0 < (97 : Int32) then (f_X7_isSmall_16 a0 M) else (if (122 : Int32) < a0 then (f_X7_isSmall_16 a0 M) else (f_X7_isSmall_17 a0 (1 : Int32) M))
set_option maxRecDepth 100000 in
set_option maxHeartbeats 4000000 in
theorem t_X7_isSmall (g : fm_G) (l : Launch) (hl : l.stackTraces = false) (a0 : Int32)  (M : fm_Mem) (w : fm_W) : Tt g l z_X7_isSmall (emI M w) (f_X7_isSmall a0 M) 0 [(0, .int a0)] [] (M, w) := by
  rw [f_X7_isSmall]
  refine Tt.go (fun _ => Tr.run 2 (pc' := 3) (lv' := [(0, .int a0)]) (st' := [.int (97 : Int32), .int a0]) rfl) ?_
  refine Tt.ic_lt (tgt := 16) rfl (by decide) ?_ ?_
  · refine Tt.go (fun _ => Tr.sub (lv' := []) [] rfl) ?_
    exact t_X7_isSmall_16 g l hl a0 w M
  · refine Tt.go (fun _ => Tr.run 2 (pc' := 9) (lv' := [(0, .int a0)]) (st' := [.int (122 : Int32), .int a0]) rfl) ?_
    refine Tt.ic_gt (tgt := 16) rfl (by decide) ?_ ?_
    · refine Tt.go (fun _ => Tr.sub (lv' := []) [] rfl) ?_
      exact t_X7_isSmall_16 g l hl a0 w M
    · refine Tt.go (fun _ => Tr.run 2 (pc' := 17) (lv' := [(0, .int a0)]) (st' := [.int (1 : Int32)]) rfl) ?_
      refine Tt.go (fun _ => Tr.sub (lv' := []) [] rfl) ?_
      exact t_X7_isSmall_17 g l hl a0 w (1 : Int32) M
theorem c_X7_isSmall (g : fm_G) (l : Launch) (hl : l.stackTraces = false) (a0 : Int32)  (M : fm_Mem) (w : fm_W) : ∀ r, f_X7_isSmall a0 M = some r → fC g l z_X7_isSmall [.int a0] (M, w) (emI M w r) := fun r hr => fC.of (by decide) rfl o_X7_isSmall hl (Nat.le_of_ble_eq_true rfl) (t_X7_isSmall g l hl a0  M w r hr)
def k_X7_isDigit : List (Nat × Instr × Nat) := [(0, .iload_n 0, 1), (1, .bipush 48, 2), (3, .if_icmp .lt 13, 3), (6, .iload_n 0, 1), (7, .bipush 57, 2), (9, .if_icmp .gt 7, 3), (12, .iconst 1, 1), (13, .goto 4, 3), (16, .iconst 0, 1), (17, .ireturn, 1)]
def z_X7_isDigit : fm_Y := (yX7_isDigit, RX7, cX7_isDigit, 1, (some .boolean), k_X7_isDigit, 0, 0)
theorem o_X7_isDigit : fm_dec z_X7_isDigit := (by decide +kernel : ∀ q ∈ k_X7_isDigit, decode cX7_isDigit q.1 = .ok q.2)
theorem cw_X7_isDigit : fm_cwS z_X7_isDigit := ⟨⟨lw_in 1154 (by decide +kernel) (by decide +kernel), lw_in 99 (by decide +kernel) (by decide +kernel), by decide, by decide⟩, lw_in 1153 (by decide +kernel) (by decide +kernel)⟩
theorem pn_X7_isDigit : (parseMethodDescriptor z_X7_isDigit.1.desc).map (fun d => d.parameters.length) = some 1 := by decide +kernel
def f_X7_isDigit_17 (a0 : Int32) (s0 : Int32) (M : fm_Mem) : Option (Int32) := fm_ck (fm_bo s0) (some (s0))
set_option maxRecDepth 100000 in
set_option maxHeartbeats 4000000 in
theorem t_X7_isDigit_17 (g : fm_G) (l : Launch) (hl : l.stackTraces = false) (a0 : Int32)  (w : fm_W)  (s0 : Int32)  (M : fm_Mem) : Tt g l z_X7_isDigit (emI M w) (f_X7_isDigit_17 a0  s0 M) 17 [] [.int s0] (M, w) := by
  rw [f_X7_isDigit_17]
  exact Tt.ck (fun hb_1 => Tt.ret (Tr.zret rfl rfl hb_1))
def f_X7_isDigit_16 (a0 : Int32)  (M : fm_Mem) : Option (Int32) := (f_X7_isDigit_17 a0 (0 : Int32) M)
set_option maxRecDepth 100000 in
set_option maxHeartbeats 4000000 in
theorem t_X7_isDigit_16 (g : fm_G) (l : Launch) (hl : l.stackTraces = false) (a0 : Int32)  (w : fm_W)    (M : fm_Mem) : Tt g l z_X7_isDigit (emI M w) (f_X7_isDigit_16 a0   M) 16 [] [] (M, w) := by
  rw [f_X7_isDigit_16]
  refine Tt.go (fun _ => Tr.run 1 (pc' := 17) (lv' := []) (st' := [.int (0 : Int32)]) rfl) ?_
  exact t_X7_isDigit_17 g l hl a0 w (0 : Int32) M
def f_X7_isDigit (a0 : Int32) (M : fm_Mem) : Option (Int32) := if a0 < (48 : Int32) then (f_X7_isDigit_16 a0 M) else (if (57 : Int32) < a0 then (f_X7_isDigit_16 a0 M) else (f_X7_isDigit_17 a0 (1 : Int32) M))
set_option maxRecDepth 100000 in
set_option maxHeartbeats 4000000 in
theorem t_X7_isDigit (g : fm_G) (l : Launch) (hl : l.stackTraces = false) (a0 : Int32)  (M : fm_Mem) (w : fm_W) : Tt g l z_X7_isDigit (emI M w) (f_X7_isDigit a0 M) 0 [(0, .int a0)] [] (M, w) := by
  rw [f_X7_isDigit]
  refine Tt.go (fun _ => Tr.run 2 (pc' := 3) (lv' := [(0, .int a0)]) (st' := [.int (48 : Int32), .int a0]) rfl) ?_
  refine Tt.ic_lt (tgt := 16) rfl (by decide) ?_ ?_
  · refine Tt.go (fun _ => Tr.sub (lv' := []) [] rfl) ?_
    exact t_X7_isDigit_16 g l hl a0 w M
  · refine Tt.go (fun _ => Tr.run 2 (pc' := 9) (lv' := [(0, .int a0)]) (st' := [.int (57 : Int32), .int a0]) rfl) ?_
    refine Tt.ic_gt (tgt := 16) rfl (by decide) ?_ ?_
    · refine Tt.go (fun _ => Tr.sub (lv' := []) [] rfl) ?_
      exact t_X7_isDigit_16 g l hl a0 w M
    · refine Tt.go (fun _ => Tr.run 2 (pc' := 17) (lv' := [(0, .int a0)]) (st' := [.int (1 : Int32)]) rfl) ?_
      refine Tt.go (fun _ => Tr.sub (lv' := []) [] rfl) ?_
      exact t_X7_isDigit_17 g l hl a0 w (1 : Int32) M
theorem c_X7_isDigit (g : fm_G) (l : Launch) (hl : l.stackTraces = false) (a0 : Int32)  (M : fm_Mem) (w : fm_W) : ∀ r, f_X7_isDigit a0 M = some r → fC g l z_X7_isDigit [.int a0] (M, w) (emI M w r) := fun r hr => fC.of (by decide) rfl o_X7_isDigit hl (Nat.le_of_ble_eq_true rfl) (t_X7_isDigit g l hl a0  M w r hr)
def k_X7_takes : List (Nat × Instr × Nat) := [(0, .aload_n 0, 1), (1, .invokevirtual 186, 3), (4, .pop, 1), (5, .iconst 0, 1), (6, .istore_n 2, 1), (7, .aload_n 0, 1), (8, .getfield 180, 3), (11, .iload_n 2, 1), (12, .iadd, 1), (13, .aload_n 0, 1), (14, .getfield 183, 3), (17, .if_icmp .ge 26, 3), (20, .aload_n 0, 1), (21, .getfield 29, 3), (24, .aload_n 0, 1), (25, .getfield 180, 3), (28, .iload_n 2, 1), (29, .iadd, 1), (30, .iaload, 1), (31, .invokestatic 189, 3), (34, .ifCond .eq 9, 3), (37, .iinc 2 1, 3), (40, .goto (-33), 3), (43, .iload_n 2, 1), (44, .aload_n 1, 1), (45, .invokevirtual 193, 3), (48, .if_icmp .eq 5, 3), (51, .iconst 0, 1), (52, .ireturn, 1), (53, .iconst 0, 1), (54, .istore_n 3, 1), (55, .iload_n 3, 1), (56, .iload_n 2, 1), (57, .if_icmp .ge 30, 3), (60, .aload_n 0, 1), (61, .getfield 29, 3), (64, .aload_n 0, 1), (65, .getfield 180, 3), (68, .iload_n 3, 1), (69, .iadd, 1), (70, .iaload, 1), (71, .aload_n 1, 1), (72, .iload_n 3, 1), (73, .invokevirtual 197, 3), (76, .if_icmp .eq 5, 3), (79, .iconst 0, 1), (80, .ireturn, 1), (81, .iinc 3 1, 3), (84, .goto (-29), 3), (87, .aload_n 0, 1), (88, .dup, 1), (89, .getfield 180, 3), (92, .iload_n 2, 1), (93, .iadd, 1), (94, .putfield 180, 3), (97, .iconst 1, 1), (98, .ireturn, 1)]
def z_X7_takes : fm_Y := (yX7_takes, RX7, cX7_takes, 4, (some .boolean), k_X7_takes, 5, 141)
theorem o_X7_takes : fm_dec z_X7_takes := (by decide +kernel : ∀ q ∈ k_X7_takes, decode cX7_takes q.1 = .ok q.2)
theorem cw_X7_takes : fm_cwV z_X7_takes := ⟨⟨lw_in 1121 (by decide +kernel) (by decide +kernel), lw_in 99 (by decide +kernel) (by decide +kernel), by decide, by decide⟩, lw_in 1120 (by decide +kernel) (by decide +kernel), lw_in 32 (by decide +kernel) (by decide +kernel)⟩
theorem pn_X7_takes : (parseMethodDescriptor z_X7_takes.1.desc).map (fun d => d.parameters.length) = some 1 := by decide +kernel
def f_X7_takes_55 (P : Nat) (i1 : Nat) : Nat → Int32 → Int32 → fm_Mem → Option (Int32 × fm_Mem)
  | 0, _, _, _ => none
  | n + 1, x2, x3, M => if x2 ≤ x3 then (some (((1 : Int32), (fm_up M P 13 ((M P 13) + x2))))) else (fm_ck (fm_in ((M P 13) + x3) 400) (Option.bind (f_S_charAt i1 x3) (fun v2 => if (M (P + 6) (Int32.toNatClampNeg ((M P 13) + x3))) = v2 then (f_X7_takes_55 P i1 n x2 (x3 + (1 : Int32)) M) else (some (((0 : Int32), M))))))
set_option maxRecDepth 100000 in
set_option maxHeartbeats 4000000 in
theorem t_X7_takes_55 (g : fm_G) (l : Launch) (hl : l.stackTraces = false) (P : Nat) (i1 : Nat) (hP : fm_kd g P = 7) (hi1 : i1 < 6) (w : fm_W) (M0 : fm_Mem)  : ∀ (n : Nat) (x2 : Int32) (x3 : Int32)  (M : fm_Mem), Tt g l z_X7_takes (emIw M0 w) (f_X7_takes_55 P i1  n x2 x3 M) 55 [(0, .ref P), (1, .ref (g.2.2.2.1 i1)), (2, .int x2), (3, .int x3)] [] (M, w) := by
  intro n
  induction n with
  | zero => intros; exact Tt.none
  | succ n ih =>
    intro x2 x3  M
    rw [f_X7_takes_55]
    refine Tt.go (fun _ => Tr.run 2 (pc' := 57) (lv' := [(0, .ref P), (1, .ref (g.2.2.2.1 i1)), (2, .int x2), (3, .int x3)]) (st' := [.int x2, .int x3]) rfl) ?_
    refine Tt.ic_ge (tgt := 87) rfl (by decide) ?_ ?_
    · refine Tt.go (fun _ => Tr.run 2 (pc' := 89) (lv' := [(0, .ref P), (1, .ref (g.2.2.2.1 i1)), (2, .int x2), (3, .int x3)]) (st' := [.ref P, .ref P]) rfl) ?_
      refine Tt.go (fun _ => Tr.get fmc7 hP rfl fw1037 (k := 13) (by decide) rfl) (?_ : Tt g l z_X7_takes (emIw M0 w) _ 92 [(0, .ref P), (1, .ref (g.2.2.2.1 i1)), (2, .int x2), (3, .int x3)] [.int (M P 13), .ref P] (M, w))
      refine Tt.go (fun _ => Tr.run 2 (pc' := 94) (lv' := [(0, .ref P), (1, .ref (g.2.2.2.1 i1)), (2, .int x2), (3, .int x3)]) (st' := [.int ((M P 13) + x2), .ref P]) rfl) ?_
      refine Tt.go (fun _ => Tr.put fmc7 hP rfl fw1037 (k := 13) (by decide) rfl rfl ⟨rfl, rfl⟩) (?_ : Tt g l z_X7_takes (emIw M0 w) _ 97 [(0, .ref P), (1, .ref (g.2.2.2.1 i1)), (2, .int x2), (3, .int x3)] [] ((fm_up M P 13 ((M P 13) + x2)), w))
      refine Tt.go (fun _ => Tr.run 1 (pc' := 98) (lv' := [(0, .ref P), (1, .ref (g.2.2.2.1 i1)), (2, .int x2), (3, .int x3)]) (st' := [.int (1 : Int32)]) rfl) ?_
      exact Tt.ret (Tr.zret rfl rfl fm_bo1)
    · refine Tt.go (fun _ => Tr.run 1 (pc' := 61) (lv' := [(0, .ref P), (1, .ref (g.2.2.2.1 i1)), (2, .int x2), (3, .int x3)]) (st' := [.ref P]) rfl) ?_
      refine Tt.go (fun _ => Tr.get fmc7 hP rfl fw1034 (k := 10) (by decide) rfl) (?_ : Tt g l z_X7_takes (emIw M0 w) _ 64 [(0, .ref P), (1, .ref (g.2.2.2.1 i1)), (2, .int x2), (3, .int x3)] [.ref (P + 6)] (M, w))
      refine Tt.go (fun _ => Tr.run 1 (pc' := 65) (lv' := [(0, .ref P), (1, .ref (g.2.2.2.1 i1)), (2, .int x2), (3, .int x3)]) (st' := [.ref P, .ref (P + 6)]) rfl) ?_
      refine Tt.go (fun _ => Tr.get fmc7 hP rfl fw1037 (k := 13) (by decide) rfl) (?_ : Tt g l z_X7_takes (emIw M0 w) _ 68 [(0, .ref P), (1, .ref (g.2.2.2.1 i1)), (2, .int x2), (3, .int x3)] [.int (M P 13), .ref (P + 6)] (M, w))
      refine Tt.go (fun _ => Tr.run 2 (pc' := 70) (lv' := [(0, .ref P), (1, .ref (g.2.2.2.1 i1)), (2, .int x2), (3, .int x3)]) (st' := [.int ((M P 13) + x3), .ref (P + 6)]) rfl) ?_
      refine Tt.ck (fun hi_1 => ?_)
      refine Tt.go (fun _ => Tr.iald (fmk_7_10 hP) (by decide) hi_1 rfl) (?_ : Tt g l z_X7_takes (emIw M0 w) _ 71 [(0, .ref P), (1, .ref (g.2.2.2.1 i1)), (2, .int x2), (3, .int x3)] [.int (M (P + 6) (Int32.toNatClampNeg ((M P 13) + x3)))] (M, w))
      refine Tt.go (fun _ => Tr.run 2 (pc' := 73) (lv' := [(0, .ref P), (1, .ref (g.2.2.2.1 i1)), (2, .int x2), (3, .int x3)]) (st' := [.int x3, .ref (g.2.2.2.1 i1), .int (M (P + 6) (Int32.toNatClampNeg ((M P 13) + x3)))]) rfl) ?_
      refine Tt.callT (As := [.int x3]) (rest := [.int (M (P + 6) (Int32.toNatClampNeg ((M P 13) + x3)))]) (c_S_charAt g l hl i1 x3 hi1 M w) hi1 rfl rfl cw_S_charAt fw1130 pn_S_charAt (Nat.le_of_ble_eq_true rfl) (Nat.le_of_ble_eq_true rfl) (Nat.le_of_ble_eq_true rfl) rfl (fun v2 => (?_ : Tt g l z_X7_takes (emIw M0 w) _ 76 [(0, .ref P), (1, .ref (g.2.2.2.1 i1)), (2, .int x2), (3, .int x3)] [.int v2, .int (M (P + 6) (Int32.toNatClampNeg ((M P 13) + x3)))] (M, w)))
      refine Tt.ic_eq (tgt := 81) rfl (by decide) ?_ ?_
      · refine Tt.go (fun _ => Tr.run 2 (pc' := 55) (lv' := [(3, .int (x3 + (1 : Int32))), (0, .ref P), (1, .ref (g.2.2.2.1 i1)), (2, .int x2)]) (st' := []) rfl) ?_
        refine Tt.go (fun _ => Tr.sub (lv' := [(0, .ref P), (1, .ref (g.2.2.2.1 i1)), (2, .int x2), (3, .int (x3 + (1 : Int32)))]) [1, 2, 3, 0] rfl) ?_
        exact ih x2 (x3 + (1 : Int32)) M
      · refine Tt.go (fun _ => Tr.run 1 (pc' := 80) (lv' := [(0, .ref P), (1, .ref (g.2.2.2.1 i1)), (2, .int x2), (3, .int x3)]) (st' := [.int (0 : Int32)]) rfl) ?_
        exact Tt.ret (Tr.zret rfl rfl fm_bo0)
def f_X7_takes_43 (P : Nat) (i1 : Nat) (x2 : Int32) (M : fm_Mem) : Option (Int32 × fm_Mem) := Option.bind (f_S_length i1) (fun v1 => if x2 = v1 then (f_X7_takes_55 P i1 fm_fuel x2 (0 : Int32) M) else (some (((0 : Int32), M))))
set_option maxRecDepth 100000 in
set_option maxHeartbeats 4000000 in
theorem t_X7_takes_43 (g : fm_G) (l : Launch) (hl : l.stackTraces = false) (P : Nat) (i1 : Nat) (hP : fm_kd g P = 7) (hi1 : i1 < 6) (w : fm_W) (M0 : fm_Mem)  (x2 : Int32)  (M : fm_Mem) : Tt g l z_X7_takes (emIw M0 w) (f_X7_takes_43 P i1  x2 M) 43 [(0, .ref P), (1, .ref (g.2.2.2.1 i1)), (2, .int x2)] [] (M, w) := by
  rw [f_X7_takes_43]
  refine Tt.go (fun _ => Tr.run 2 (pc' := 45) (lv' := [(0, .ref P), (1, .ref (g.2.2.2.1 i1)), (2, .int x2)]) (st' := [.ref (g.2.2.2.1 i1), .int x2]) rfl) ?_
  refine Tt.callT (As := []) (rest := [.int x2]) (c_S_length g l hl i1 hi1 M w) hi1 rfl rfl cw_S_length fw1129 pn_S_length (Nat.le_of_ble_eq_true rfl) (Nat.le_of_ble_eq_true rfl) (Nat.le_of_ble_eq_true rfl) rfl (fun v1 => (?_ : Tt g l z_X7_takes (emIw M0 w) _ 48 [(0, .ref P), (1, .ref (g.2.2.2.1 i1)), (2, .int x2)] [.int v1, .int x2] (M, w)))
  refine Tt.ic_eq (tgt := 53) rfl (by decide) ?_ ?_
  · refine Tt.go (fun _ => Tr.run 2 (pc' := 55) (lv' := [(3, .int (0 : Int32)), (0, .ref P), (1, .ref (g.2.2.2.1 i1)), (2, .int x2)]) (st' := []) rfl) ?_
    refine Tt.go (fun _ => Tr.sub (lv' := [(0, .ref P), (1, .ref (g.2.2.2.1 i1)), (2, .int x2), (3, .int (0 : Int32))]) [1, 2, 3, 0] rfl) ?_
    exact t_X7_takes_55 g l hl P i1 hP hi1 w M0 fm_fuel x2 (0 : Int32) M
  · refine Tt.go (fun _ => Tr.run 1 (pc' := 52) (lv' := [(0, .ref P), (1, .ref (g.2.2.2.1 i1)), (2, .int x2)]) (st' := [.int (0 : Int32)]) rfl) ?_
    exact Tt.ret (Tr.zret rfl rfl fm_bo0)
def f_X7_takes_7 (P : Nat) (i1 : Nat) : Nat → Int32 → fm_Mem → Option (Int32 × fm_Mem)
  | 0, _, _ => none
  | n + 1, x2, M => if (M P 12) ≤ ((M P 13) + x2) then (f_X7_takes_43 P i1 x2 M) else (fm_ck (fm_in ((M P 13) + x2) 400) (Option.bind (f_X7_isSmall (M (P + 6) (Int32.toNatClampNeg ((M P 13) + x2))) M) (fun v2 => if v2 = 0 then (f_X7_takes_43 P i1 x2 M) else (f_X7_takes_7 P i1 n (x2 + (1 : Int32)) M))))
set_option maxRecDepth 100000 in
set_option maxHeartbeats 4000000 in
theorem t_X7_takes_7 (g : fm_G) (l : Launch) (hl : l.stackTraces = false) (P : Nat) (i1 : Nat) (hP : fm_kd g P = 7) (hi1 : i1 < 6) (w : fm_W) (M0 : fm_Mem)  : ∀ (n : Nat) (x2 : Int32)  (M : fm_Mem), Tt g l z_X7_takes (emIw M0 w) (f_X7_takes_7 P i1  n x2 M) 7 [(0, .ref P), (1, .ref (g.2.2.2.1 i1)), (2, .int x2)] [] (M, w) := by
  intro n
  induction n with
  | zero => intros; exact Tt.none
  | succ n ih =>
    intro x2  M
    rw [f_X7_takes_7]
    refine Tt.go (fun _ => Tr.run 1 (pc' := 8) (lv' := [(0, .ref P), (1, .ref (g.2.2.2.1 i1)), (2, .int x2)]) (st' := [.ref P]) rfl) ?_
    refine Tt.go (fun _ => Tr.get fmc7 hP rfl fw1037 (k := 13) (by decide) rfl) (?_ : Tt g l z_X7_takes (emIw M0 w) _ 11 [(0, .ref P), (1, .ref (g.2.2.2.1 i1)), (2, .int x2)] [.int (M P 13)] (M, w))
    refine Tt.go (fun _ => Tr.run 3 (pc' := 14) (lv' := [(0, .ref P), (1, .ref (g.2.2.2.1 i1)), (2, .int x2)]) (st' := [.ref P, .int ((M P 13) + x2)]) rfl) ?_
    refine Tt.go (fun _ => Tr.get fmc7 hP rfl fw1036 (k := 12) (by decide) rfl) (?_ : Tt g l z_X7_takes (emIw M0 w) _ 17 [(0, .ref P), (1, .ref (g.2.2.2.1 i1)), (2, .int x2)] [.int (M P 12), .int ((M P 13) + x2)] (M, w))
    refine Tt.ic_ge (tgt := 43) rfl (by decide) ?_ ?_
    · exact t_X7_takes_43 g l hl P i1 hP hi1 w M0 x2 M
    · refine Tt.go (fun _ => Tr.run 1 (pc' := 21) (lv' := [(0, .ref P), (1, .ref (g.2.2.2.1 i1)), (2, .int x2)]) (st' := [.ref P]) rfl) ?_
      refine Tt.go (fun _ => Tr.get fmc7 hP rfl fw1034 (k := 10) (by decide) rfl) (?_ : Tt g l z_X7_takes (emIw M0 w) _ 24 [(0, .ref P), (1, .ref (g.2.2.2.1 i1)), (2, .int x2)] [.ref (P + 6)] (M, w))
      refine Tt.go (fun _ => Tr.run 1 (pc' := 25) (lv' := [(0, .ref P), (1, .ref (g.2.2.2.1 i1)), (2, .int x2)]) (st' := [.ref P, .ref (P + 6)]) rfl) ?_
      refine Tt.go (fun _ => Tr.get fmc7 hP rfl fw1037 (k := 13) (by decide) rfl) (?_ : Tt g l z_X7_takes (emIw M0 w) _ 28 [(0, .ref P), (1, .ref (g.2.2.2.1 i1)), (2, .int x2)] [.int (M P 13), .ref (P + 6)] (M, w))
      refine Tt.go (fun _ => Tr.run 2 (pc' := 30) (lv' := [(0, .ref P), (1, .ref (g.2.2.2.1 i1)), (2, .int x2)]) (st' := [.int ((M P 13) + x2), .ref (P + 6)]) rfl) ?_
      refine Tt.ck (fun hi_1 => ?_)
      refine Tt.go (fun _ => Tr.iald (fmk_7_10 hP) (by decide) hi_1 rfl) (?_ : Tt g l z_X7_takes (emIw M0 w) _ 31 [(0, .ref P), (1, .ref (g.2.2.2.1 i1)), (2, .int x2)] [.int (M (P + 6) (Int32.toNatClampNeg ((M P 13) + x2)))] (M, w))
      refine Tt.callS (As := [.int (M (P + 6) (Int32.toNatClampNeg ((M P 13) + x2)))]) (rest := []) (c_X7_isSmall g l hl (M (P + 6) (Int32.toNatClampNeg ((M P 13) + x2))) M w) rfl cw_X7_isSmall fw1126 pn_X7_isSmall (Nat.le_of_ble_eq_true rfl) (Nat.le_of_ble_eq_true rfl) (Nat.le_of_ble_eq_true rfl) rfl (fun v2 => (?_ : Tt g l z_X7_takes (emIw M0 w) _ 34 [(0, .ref P), (1, .ref (g.2.2.2.1 i1)), (2, .int x2)] [.int v2] (M, w)))
      refine Tt.if_eq (tgt := 43) rfl (by decide) ?_ ?_
      · exact t_X7_takes_43 g l hl P i1 hP hi1 w M0 x2 M
      · refine Tt.go (fun _ => Tr.run 2 (pc' := 7) (lv' := [(2, .int (x2 + (1 : Int32))), (0, .ref P), (1, .ref (g.2.2.2.1 i1))]) (st' := []) rfl) ?_
        refine Tt.go (fun _ => Tr.sub (lv' := [(0, .ref P), (1, .ref (g.2.2.2.1 i1)), (2, .int (x2 + (1 : Int32)))]) [1, 2, 0] rfl) ?_
        exact ih (x2 + (1 : Int32)) M
def f_X7_takes (P : Nat) (i1 : Nat) (M : fm_Mem) : Option (Int32 × fm_Mem) := Option.bind (f_X7_here P M) (fun v1 => (f_X7_takes_7 P i1 fm_fuel (0 : Int32) v1.2))
set_option maxRecDepth 100000 in
set_option maxHeartbeats 4000000 in
theorem t_X7_takes (g : fm_G) (l : Launch) (hl : l.stackTraces = false) (P : Nat) (i1 : Nat) (hP : fm_kd g P = 7) (hi1 : i1 < 6) (M : fm_Mem) (w : fm_W) : Tt g l z_X7_takes (emIw M w) (f_X7_takes P i1 M) 0 [(0, .ref P), (1, .ref (g.2.2.2.1 i1))] [] (M, w) := by
  rw [f_X7_takes]
  refine Tt.go (fun _ => Tr.run 1 (pc' := 1) (lv' := [(0, .ref P), (1, .ref (g.2.2.2.1 i1))]) (st' := [.ref P]) rfl) ?_
  refine Tt.callV (As := []) (rest := []) (c_X7_here g l hl P hP M w) hP (by decide) rfl rfl cw_X7_here fw1122 pn_X7_here (Nat.le_of_ble_eq_true rfl) (Nat.le_of_ble_eq_true rfl) (Nat.le_of_ble_eq_true rfl) rfl (fun v1 => (?_ : Tt g l z_X7_takes (emIw M w) _ 4 [(0, .ref P), (1, .ref (g.2.2.2.1 i1))] [.int v1.1] (v1.2, w)))
  refine Tt.go (fun _ => Tr.run 3 (pc' := 7) (lv' := [(2, .int (0 : Int32)), (0, .ref P), (1, .ref (g.2.2.2.1 i1))]) (st' := []) rfl) ?_
  refine Tt.go (fun _ => Tr.sub (lv' := [(0, .ref P), (1, .ref (g.2.2.2.1 i1)), (2, .int (0 : Int32))]) [1, 2, 0] rfl) ?_
  exact t_X7_takes_7 g l hl P i1 hP hi1 w M fm_fuel (0 : Int32) v1.2
theorem c_X7_takes (g : fm_G) (l : Launch) (hl : l.stackTraces = false) (P : Nat) (i1 : Nat) (hP : fm_kd g P = 7) (hi1 : i1 < 6) (M : fm_Mem) (w : fm_W) : ∀ r, f_X7_takes P i1 M = some r → fC g l z_X7_takes [.ref P, .ref (g.2.2.2.1 i1)] (M, w) (emIw M w r) := fun r hr => fC.of (by decide) rfl o_X7_takes hl (Nat.le_of_ble_eq_true rfl) (t_X7_takes g l hl P i1 hP hi1 M w r hr)
def k_X7_sign : List (Nat × Instr × Nat) := [(0, .aload_n 0, 1), (1, .invokevirtual 186, 3), (4, .iload_n 1, 1), (5, .if_icmp .eq 14, 3), (8, .aload_n 0, 1), (9, .bipush (-2), 2), (11, .aload_n 0, 1), (12, .getfield 180, 3), (15, .invokevirtual 201, 3), (18, .ireturn, 1), (19, .aload_n 0, 1), (20, .dup, 1), (21, .getfield 180, 3), (24, .iconst 1, 1), (25, .iadd, 1), (26, .putfield 180, 3), (29, .iconst 1, 1), (30, .ireturn, 1)]
def z_X7_sign : fm_Y := (yX7_sign, RX7, cX7_sign, 2, (some .boolean), k_X7_sign, 1, 22)
theorem o_X7_sign : fm_dec z_X7_sign := (by decide +kernel : ∀ q ∈ k_X7_sign, decode cX7_sign q.1 = .ok q.2)
theorem cw_X7_sign : fm_cwV z_X7_sign := ⟨⟨lw_in 1142 (by decide +kernel) (by decide +kernel), lw_in 99 (by decide +kernel) (by decide +kernel), by decide, by decide⟩, lw_in 1141 (by decide +kernel) (by decide +kernel), lw_in 36 (by decide +kernel) (by decide +kernel)⟩
theorem pn_X7_sign : (parseMethodDescriptor z_X7_sign.1.desc).map (fun d => d.parameters.length) = some 1 := by decide +kernel
def f_X7_sign (P : Nat) (a1 : Int32) (M : fm_Mem) : Option (Int32 × fm_Mem) := Option.bind (f_X7_here P M) (fun v1 => if v1.1 = a1 then (some (((1 : Int32), (fm_up v1.2 P 13 ((v1.2 P 13) + (1 : Int32)))))) else (Option.bind (f_X7_fails P (-2 : Int32) (v1.2 P 13) v1.2) (fun v2 => fm_ck (fm_bo v2.1) (some ((v2.1, v2.2))))))
set_option maxRecDepth 100000 in
set_option maxHeartbeats 4000000 in
theorem t_X7_sign (g : fm_G) (l : Launch) (hl : l.stackTraces = false) (P : Nat) (a1 : Int32) (hP : fm_kd g P = 7) (M : fm_Mem) (w : fm_W) : Tt g l z_X7_sign (emIw M w) (f_X7_sign P a1 M) 0 [(0, .ref P), (1, .int a1)] [] (M, w) := by
  rw [f_X7_sign]
  refine Tt.go (fun _ => Tr.run 1 (pc' := 1) (lv' := [(0, .ref P), (1, .int a1)]) (st' := [.ref P]) rfl) ?_
  refine Tt.callV (As := []) (rest := []) (c_X7_here g l hl P hP M w) hP (by decide) rfl rfl cw_X7_here fw1122 pn_X7_here (Nat.le_of_ble_eq_true rfl) (Nat.le_of_ble_eq_true rfl) (Nat.le_of_ble_eq_true rfl) rfl (fun v1 => (?_ : Tt g l z_X7_sign (emIw M w) _ 4 [(0, .ref P), (1, .int a1)] [.int v1.1] (v1.2, w)))
  refine Tt.go (fun _ => Tr.run 1 (pc' := 5) (lv' := [(0, .ref P), (1, .int a1)]) (st' := [.int a1, .int v1.1]) rfl) ?_
  refine Tt.ic_eq (tgt := 19) rfl (by decide) ?_ ?_
  · refine Tt.go (fun _ => Tr.run 2 (pc' := 21) (lv' := [(0, .ref P), (1, .int a1)]) (st' := [.ref P, .ref P]) rfl) ?_
    refine Tt.go (fun _ => Tr.get fmc7 hP rfl fw1037 (k := 13) (by decide) rfl) (?_ : Tt g l z_X7_sign (emIw M w) _ 24 [(0, .ref P), (1, .int a1)] [.int (v1.2 P 13), .ref P] (v1.2, w))
    refine Tt.go (fun _ => Tr.run 2 (pc' := 26) (lv' := [(0, .ref P), (1, .int a1)]) (st' := [.int ((v1.2 P 13) + (1 : Int32)), .ref P]) rfl) ?_
    refine Tt.go (fun _ => Tr.put fmc7 hP rfl fw1037 (k := 13) (by decide) rfl rfl ⟨rfl, rfl⟩) (?_ : Tt g l z_X7_sign (emIw M w) _ 29 [(0, .ref P), (1, .int a1)] [] ((fm_up v1.2 P 13 ((v1.2 P 13) + (1 : Int32))), w))
    refine Tt.go (fun _ => Tr.run 1 (pc' := 30) (lv' := [(0, .ref P), (1, .int a1)]) (st' := [.int (1 : Int32)]) rfl) ?_
    exact Tt.ret (Tr.zret rfl rfl fm_bo1)
  · refine Tt.go (fun _ => Tr.run 3 (pc' := 12) (lv' := [(0, .ref P), (1, .int a1)]) (st' := [.ref P, .int (-2 : Int32), .ref P]) rfl) ?_
    refine Tt.go (fun _ => Tr.get fmc7 hP rfl fw1037 (k := 13) (by decide) rfl) (?_ : Tt g l z_X7_sign (emIw M w) _ 15 [(0, .ref P), (1, .int a1)] [.int (v1.2 P 13), .int (-2 : Int32), .ref P] (v1.2, w))
    refine Tt.callV (As := [.int (-2 : Int32), .int (v1.2 P 13)]) (rest := []) (c_X7_fails g l hl P (-2 : Int32) (v1.2 P 13) hP v1.2 w) hP (by decide) rfl rfl cw_X7_fails fw1131 pn_X7_fails (Nat.le_of_ble_eq_true rfl) (Nat.le_of_ble_eq_true rfl) (Nat.le_of_ble_eq_true rfl) rfl (fun v2 => (?_ : Tt g l z_X7_sign (emIw M w) _ 18 [(0, .ref P), (1, .int a1)] [.int v2.1] (v2.2, w)))
    exact Tt.ck (fun hb_3 => Tt.ret (Tr.zret rfl rfl hb_3))
theorem c_X7_sign (g : fm_G) (l : Launch) (hl : l.stackTraces = false) (P : Nat) (a1 : Int32) (hP : fm_kd g P = 7) (M : fm_Mem) (w : fm_W) : ∀ r, f_X7_sign P a1 M = some r → fC g l z_X7_sign [.ref P, .int a1] (M, w) (emIw M w r) := fun r hr => fC.of (by decide) rfl o_X7_sign hl (Nat.le_of_ble_eq_true rfl) (t_X7_sign g l hl P a1 hP M w r hr)
def k_X7_reads : List (Nat × Instr × Nat) := [(0, .aload_n 0, 1), (1, .invokevirtual 186, 3), (4, .invokestatic 204, 3), (7, .ifCond .ne 14, 3), (10, .aload_n 0, 1), (11, .bipush (-2), 2), (13, .aload_n 0, 1), (14, .getfield 180, 3), (17, .invokevirtual 201, 3), (20, .ireturn, 1), (21, .aload_n 0, 1), (22, .aload_n 0, 1), (23, .getfield 180, 3), (26, .putfield 207, 3), (29, .aload_n 0, 1), (30, .iconst 0, 1), (31, .putfield 210, 3), (34, .aload_n 0, 1), (35, .getfield 180, 3), (38, .aload_n 0, 1), (39, .getfield 183, 3), (42, .if_icmp .ge 71, 3), (45, .aload_n 0, 1), (46, .getfield 29, 3), (49, .aload_n 0, 1), (50, .getfield 180, 3), (53, .iaload, 1), (54, .invokestatic 204, 3), (57, .ifCond .eq 56, 3), (60, .aload_n 0, 1), (61, .aload_n 0, 1), (62, .getfield 210, 3), (65, .ldc 213, 2), (67, .if_icmp .le 10, 3), (70, .aload_n 0, 1), (71, .getfield 210, 3), (74, .goto 23, 3), (77, .bipush 10, 2), (79, .aload_n 0, 1), (80, .getfield 210, 3), (83, .imul, 1), (84, .aload_n 0, 1), (85, .getfield 29, 3), (88, .aload_n 0, 1), (89, .getfield 180, 3), (92, .iaload, 1), (93, .iadd, 1), (94, .bipush 48, 2), (96, .isub, 1), (97, .putfield 210, 3), (100, .aload_n 0, 1), (101, .dup, 1), (102, .getfield 180, 3), (105, .iconst 1, 1), (106, .iadd, 1), (107, .putfield 180, 3), (110, .goto (-76), 3), (113, .aload_n 0, 1), (114, .getfield 210, 3), (117, .iload_n 1, 1), (118, .iload_n 2, 1), (119, .invokestatic 52, 3), (122, .ifCond .ne 16, 3), (125, .aload_n 0, 1), (126, .bipush (-3), 2), (128, .aload_n 0, 1), (129, .getfield 207, 3), (132, .invokevirtual 201, 3), (135, .ifCond .eq 7, 3), (138, .iconst 1, 1), (139, .goto 4, 3), (142, .iconst 0, 1), (143, .ireturn, 1)]
def z_X7_reads : fm_Y := (yX7_reads, RX7, cX7_reads, 3, (some .boolean), k_X7_reads, 1, 22)
theorem o_X7_reads : fm_dec z_X7_reads := (by decide +kernel : ∀ q ∈ k_X7_reads, decode cX7_reads q.1 = .ok q.2)
theorem cw_X7_reads : fm_cwV z_X7_reads := ⟨⟨lw_in 1151 (by decide +kernel) (by decide +kernel), lw_in 99 (by decide +kernel) (by decide +kernel), by decide, by decide⟩, lw_in 1150 (by decide +kernel) (by decide +kernel), lw_in 38 (by decide +kernel) (by decide +kernel)⟩
theorem pn_X7_reads : (parseMethodDescriptor z_X7_reads.1.desc).map (fun d => d.parameters.length) = some 2 := by decide +kernel
def f_X7_reads_143 (P : Nat) (a1 : Int32) (a2 : Int32) (s0 : Int32) (M : fm_Mem) : Option (Int32 × fm_Mem) := fm_ck (fm_bo s0) (some ((s0, M)))
set_option maxRecDepth 100000 in
set_option maxHeartbeats 4000000 in
theorem t_X7_reads_143 (g : fm_G) (l : Launch) (hl : l.stackTraces = false) (P : Nat) (a1 : Int32) (a2 : Int32) (hP : fm_kd g P = 7) (w : fm_W) (M0 : fm_Mem)  (s0 : Int32)  (M : fm_Mem) : Tt g l z_X7_reads (emIw M0 w) (f_X7_reads_143 P a1 a2  s0 M) 143 [] [.int s0] (M, w) := by
  rw [f_X7_reads_143]
  exact Tt.ck (fun hb_1 => Tt.ret (Tr.zret rfl rfl hb_1))
def f_X7_reads_138 (P : Nat) (a1 : Int32) (a2 : Int32)  (M : fm_Mem) : Option (Int32 × fm_Mem) := (f_X7_reads_143 P a1 a2 (1 : Int32) M)
set_option maxRecDepth 100000 in
set_option maxHeartbeats 4000000 in
theorem t_X7_reads_138 (g : fm_G) (l : Launch) (hl : l.stackTraces = false) (P : Nat) (a1 : Int32) (a2 : Int32) (hP : fm_kd g P = 7) (w : fm_W) (M0 : fm_Mem)    (M : fm_Mem) : Tt g l z_X7_reads (emIw M0 w) (f_X7_reads_138 P a1 a2   M) 138 [] [] (M, w) := by
  rw [f_X7_reads_138]
  refine Tt.go (fun _ => Tr.run 2 (pc' := 143) (lv' := []) (st' := [.int (1 : Int32)]) rfl) ?_
  exact t_X7_reads_143 g l hl P a1 a2 hP w M0 (1 : Int32) M
def f_X7_reads_113 (P : Nat) (a1 : Int32) (a2 : Int32)  (M : fm_Mem) : Option (Int32 × fm_Mem) := Option.bind (f_X7_isIn (M P 16) a1 a2 M) (fun v1 => if v1 = 0 then (Option.bind (f_X7_fails P (-3 : Int32) (M P 17) M) (fun v2 => if v2.1 = 0 then (f_X7_reads_143 P a1 a2 (0 : Int32) v2.2) else (f_X7_reads_138 P a1 a2 v2.2))) else (f_X7_reads_138 P a1 a2 M))
set_option maxRecDepth 100000 in
set_option maxHeartbeats 4000000 in
theorem t_X7_reads_113 (g : fm_G) (l : Launch) (hl : l.stackTraces = false) (P : Nat) (a1 : Int32) (a2 : Int32) (hP : fm_kd g P = 7) (w : fm_W) (M0 : fm_Mem)    (M : fm_Mem) : Tt g l z_X7_reads (emIw M0 w) (f_X7_reads_113 P a1 a2   M) 113 [(0, .ref P), (1, .int a1), (2, .int a2)] [] (M, w) := by
  rw [f_X7_reads_113]
  refine Tt.go (fun _ => Tr.run 1 (pc' := 114) (lv' := [(0, .ref P), (1, .int a1), (2, .int a2)]) (st' := [.ref P]) rfl) ?_
  refine Tt.go (fun _ => Tr.get fmc7 hP rfl fw1040 (k := 16) (by decide) rfl) (?_ : Tt g l z_X7_reads (emIw M0 w) _ 117 [(0, .ref P), (1, .int a1), (2, .int a2)] [.int (M P 16)] (M, w))
  refine Tt.go (fun _ => Tr.run 2 (pc' := 119) (lv' := [(0, .ref P), (1, .int a1), (2, .int a2)]) (st' := [.int a2, .int a1, .int (M P 16)]) rfl) ?_
  refine Tt.callS (As := [.int (M P 16), .int a1, .int a2]) (rest := []) (c_X7_isIn g l hl (M P 16) a1 a2 M w) rfl cw_X7_isIn fw1102 pn_X7_isIn (Nat.le_of_ble_eq_true rfl) (Nat.le_of_ble_eq_true rfl) (Nat.le_of_ble_eq_true rfl) rfl (fun v1 => (?_ : Tt g l z_X7_reads (emIw M0 w) _ 122 [(0, .ref P), (1, .int a1), (2, .int a2)] [.int v1] (M, w)))
  refine Tt.if_ne (tgt := 138) rfl (by decide) ?_ ?_
  · refine Tt.go (fun _ => Tr.run 3 (pc' := 129) (lv' := [(0, .ref P), (1, .int a1), (2, .int a2)]) (st' := [.ref P, .int (-3 : Int32), .ref P]) rfl) ?_
    refine Tt.go (fun _ => Tr.get fmc7 hP rfl fw1041 (k := 17) (by decide) rfl) (?_ : Tt g l z_X7_reads (emIw M0 w) _ 132 [(0, .ref P), (1, .int a1), (2, .int a2)] [.int (M P 17), .int (-3 : Int32), .ref P] (M, w))
    refine Tt.callV (As := [.int (-3 : Int32), .int (M P 17)]) (rest := []) (c_X7_fails g l hl P (-3 : Int32) (M P 17) hP M w) hP (by decide) rfl rfl cw_X7_fails fw1131 pn_X7_fails (Nat.le_of_ble_eq_true rfl) (Nat.le_of_ble_eq_true rfl) (Nat.le_of_ble_eq_true rfl) rfl (fun v2 => (?_ : Tt g l z_X7_reads (emIw M0 w) _ 135 [(0, .ref P), (1, .int a1), (2, .int a2)] [.int v2.1] (v2.2, w)))
    refine Tt.if_eq (tgt := 142) rfl (by decide) ?_ ?_
    · refine Tt.go (fun _ => Tr.run 1 (pc' := 143) (lv' := [(0, .ref P), (1, .int a1), (2, .int a2)]) (st' := [.int (0 : Int32)]) rfl) ?_
      refine Tt.go (fun _ => Tr.sub (lv' := []) [] rfl) ?_
      exact t_X7_reads_143 g l hl P a1 a2 hP w M0 (0 : Int32) v2.2
    · refine Tt.go (fun _ => Tr.sub (lv' := []) [] rfl) ?_
      exact t_X7_reads_138 g l hl P a1 a2 hP w M0 v2.2
  · refine Tt.go (fun _ => Tr.sub (lv' := []) [] rfl) ?_
    exact t_X7_reads_138 g l hl P a1 a2 hP w M0 M
def f_X7_reads_97 (P : Nat) (a1 : Int32) (a2 : Int32) (k34 : fm_Mem → Option (Int32 × fm_Mem)) (s0 : Int32) (M : fm_Mem) : Option (Int32 × fm_Mem) := (k34 (fm_up (fm_up M P 16 s0) P 13 (((fm_up M P 16 s0) P 13) + (1 : Int32))))
set_option maxRecDepth 100000 in
set_option maxHeartbeats 4000000 in
theorem t_X7_reads_97 (g : fm_G) (l : Launch) (hl : l.stackTraces = false) (P : Nat) (a1 : Int32) (a2 : Int32) (hP : fm_kd g P = 7) (w : fm_W) (M0 : fm_Mem) (k34 : fm_Mem → Option (Int32 × fm_Mem)) (hk34 : ∀  (M : fm_Mem), Tt g l z_X7_reads (emIw M0 w) (k34  M) 34 [(0, .ref P), (1, .int a1), (2, .int a2)] [] (M, w)) (s0 : Int32)  (M : fm_Mem) : Tt g l z_X7_reads (emIw M0 w) (f_X7_reads_97 P a1 a2 k34 s0 M) 97 [(0, .ref P), (1, .int a1), (2, .int a2)] [.int s0, .ref P] (M, w) := by
  rw [f_X7_reads_97]
  refine Tt.go (fun _ => Tr.put fmc7 hP rfl fw1040 (k := 16) (by decide) rfl rfl ⟨rfl, rfl⟩) (?_ : Tt g l z_X7_reads (emIw M0 w) _ 100 [(0, .ref P), (1, .int a1), (2, .int a2)] [] ((fm_up M P 16 s0), w))
  refine Tt.go (fun _ => Tr.run 2 (pc' := 102) (lv' := [(0, .ref P), (1, .int a1), (2, .int a2)]) (st' := [.ref P, .ref P]) rfl) ?_
  refine Tt.go (fun _ => Tr.get fmc7 hP rfl fw1037 (k := 13) (by decide) rfl) (?_ : Tt g l z_X7_reads (emIw M0 w) _ 105 [(0, .ref P), (1, .int a1), (2, .int a2)] [.int ((fm_up M P 16 s0) P 13), .ref P] ((fm_up M P 16 s0), w))
  refine Tt.go (fun _ => Tr.run 2 (pc' := 107) (lv' := [(0, .ref P), (1, .int a1), (2, .int a2)]) (st' := [.int (((fm_up M P 16 s0) P 13) + (1 : Int32)), .ref P]) rfl) ?_
  refine Tt.go (fun _ => Tr.put fmc7 hP rfl fw1037 (k := 13) (by decide) rfl rfl ⟨rfl, rfl⟩) (?_ : Tt g l z_X7_reads (emIw M0 w) _ 110 [(0, .ref P), (1, .int a1), (2, .int a2)] [] ((fm_up (fm_up M P 16 s0) P 13 (((fm_up M P 16 s0) P 13) + (1 : Int32))), w))
  refine Tt.go (fun _ => Tr.run 1 (pc' := 34) (lv' := [(0, .ref P), (1, .int a1), (2, .int a2)]) (st' := []) rfl) ?_
  exact hk34 (fm_up (fm_up M P 16 s0) P 13 (((fm_up M P 16 s0) P 13) + (1 : Int32)))
def f_X7_reads_34 (P : Nat) (a1 : Int32) (a2 : Int32) : Nat → fm_Mem → Option (Int32 × fm_Mem)
  | 0, _ => none
  | n + 1, M => if (M P 12) ≤ (M P 13) then (f_X7_reads_113 P a1 a2 M) else (fm_ck (fm_in (M P 13) 400) (Option.bind (f_X7_isDigit (M (P + 6) (Int32.toNatClampNeg (M P 13))) M) (fun v2 => if v2 = 0 then (f_X7_reads_113 P a1 a2 M) else (if (M P 16) ≤ (100000 : Int32) then (fm_ck (fm_in (M P 13) 400) (f_X7_reads_97 P a1 a2 (fun M => f_X7_reads_34 P a1 a2 n M) ((((10 : Int32) * (M P 16)) + (M (P + 6) (Int32.toNatClampNeg (M P 13)))) - (48 : Int32)) M)) else (f_X7_reads_97 P a1 a2 (fun M => f_X7_reads_34 P a1 a2 n M) (M P 16) M)))))
set_option maxRecDepth 100000 in
set_option maxHeartbeats 4000000 in
theorem t_X7_reads_34 (g : fm_G) (l : Launch) (hl : l.stackTraces = false) (P : Nat) (a1 : Int32) (a2 : Int32) (hP : fm_kd g P = 7) (w : fm_W) (M0 : fm_Mem)  : ∀ (n : Nat)   (M : fm_Mem), Tt g l z_X7_reads (emIw M0 w) (f_X7_reads_34 P a1 a2  n  M) 34 [(0, .ref P), (1, .int a1), (2, .int a2)] [] (M, w) := by
  intro n
  induction n with
  | zero => intros; exact Tt.none
  | succ n ih =>
    intro   M
    rw [f_X7_reads_34]
    refine Tt.go (fun _ => Tr.run 1 (pc' := 35) (lv' := [(0, .ref P), (1, .int a1), (2, .int a2)]) (st' := [.ref P]) rfl) ?_
    refine Tt.go (fun _ => Tr.get fmc7 hP rfl fw1037 (k := 13) (by decide) rfl) (?_ : Tt g l z_X7_reads (emIw M0 w) _ 38 [(0, .ref P), (1, .int a1), (2, .int a2)] [.int (M P 13)] (M, w))
    refine Tt.go (fun _ => Tr.run 1 (pc' := 39) (lv' := [(0, .ref P), (1, .int a1), (2, .int a2)]) (st' := [.ref P, .int (M P 13)]) rfl) ?_
    refine Tt.go (fun _ => Tr.get fmc7 hP rfl fw1036 (k := 12) (by decide) rfl) (?_ : Tt g l z_X7_reads (emIw M0 w) _ 42 [(0, .ref P), (1, .int a1), (2, .int a2)] [.int (M P 12), .int (M P 13)] (M, w))
    refine Tt.ic_ge (tgt := 113) rfl (by decide) ?_ ?_
    · exact t_X7_reads_113 g l hl P a1 a2 hP w M0 M
    · refine Tt.go (fun _ => Tr.run 1 (pc' := 46) (lv' := [(0, .ref P), (1, .int a1), (2, .int a2)]) (st' := [.ref P]) rfl) ?_
      refine Tt.go (fun _ => Tr.get fmc7 hP rfl fw1034 (k := 10) (by decide) rfl) (?_ : Tt g l z_X7_reads (emIw M0 w) _ 49 [(0, .ref P), (1, .int a1), (2, .int a2)] [.ref (P + 6)] (M, w))
      refine Tt.go (fun _ => Tr.run 1 (pc' := 50) (lv' := [(0, .ref P), (1, .int a1), (2, .int a2)]) (st' := [.ref P, .ref (P + 6)]) rfl) ?_
      refine Tt.go (fun _ => Tr.get fmc7 hP rfl fw1037 (k := 13) (by decide) rfl) (?_ : Tt g l z_X7_reads (emIw M0 w) _ 53 [(0, .ref P), (1, .int a1), (2, .int a2)] [.int (M P 13), .ref (P + 6)] (M, w))
      refine Tt.ck (fun hi_1 => ?_)
      refine Tt.go (fun _ => Tr.iald (fmk_7_10 hP) (by decide) hi_1 rfl) (?_ : Tt g l z_X7_reads (emIw M0 w) _ 54 [(0, .ref P), (1, .int a1), (2, .int a2)] [.int (M (P + 6) (Int32.toNatClampNeg (M P 13)))] (M, w))
      refine Tt.callS (As := [.int (M (P + 6) (Int32.toNatClampNeg (M P 13)))]) (rest := []) (c_X7_isDigit g l hl (M (P + 6) (Int32.toNatClampNeg (M P 13))) M w) rfl cw_X7_isDigit fw1152 pn_X7_isDigit (Nat.le_of_ble_eq_true rfl) (Nat.le_of_ble_eq_true rfl) (Nat.le_of_ble_eq_true rfl) rfl (fun v2 => (?_ : Tt g l z_X7_reads (emIw M0 w) _ 57 [(0, .ref P), (1, .int a1), (2, .int a2)] [.int v2] (M, w)))
      refine Tt.if_eq (tgt := 113) rfl (by decide) ?_ ?_
      · exact t_X7_reads_113 g l hl P a1 a2 hP w M0 M
      · refine Tt.go (fun _ => Tr.run 2 (pc' := 62) (lv' := [(0, .ref P), (1, .int a1), (2, .int a2)]) (st' := [.ref P, .ref P]) rfl) ?_
        refine Tt.go (fun _ => Tr.get fmc7 hP rfl fw1040 (k := 16) (by decide) rfl) (?_ : Tt g l z_X7_reads (emIw M0 w) _ 65 [(0, .ref P), (1, .int a1), (2, .int a2)] [.int (M P 16), .ref P] (M, w))
        refine Tt.go (fun _ => Tr.ldcI rfl fw1155) (?_ : Tt g l z_X7_reads (emIw M0 w) _ 67 [(0, .ref P), (1, .int a1), (2, .int a2)] [.int (100000 : Int32), .int (M P 16), .ref P] (M, w))
        refine Tt.ic_le (tgt := 77) rfl (by decide) ?_ ?_
        · refine Tt.go (fun _ => Tr.run 2 (pc' := 80) (lv' := [(0, .ref P), (1, .int a1), (2, .int a2)]) (st' := [.ref P, .int (10 : Int32), .ref P]) rfl) ?_
          refine Tt.go (fun _ => Tr.get fmc7 hP rfl fw1040 (k := 16) (by decide) rfl) (?_ : Tt g l z_X7_reads (emIw M0 w) _ 83 [(0, .ref P), (1, .int a1), (2, .int a2)] [.int (M P 16), .int (10 : Int32), .ref P] (M, w))
          refine Tt.go (fun _ => Tr.run 2 (pc' := 85) (lv' := [(0, .ref P), (1, .int a1), (2, .int a2)]) (st' := [.ref P, .int ((10 : Int32) * (M P 16)), .ref P]) rfl) ?_
          refine Tt.go (fun _ => Tr.get fmc7 hP rfl fw1034 (k := 10) (by decide) rfl) (?_ : Tt g l z_X7_reads (emIw M0 w) _ 88 [(0, .ref P), (1, .int a1), (2, .int a2)] [.ref (P + 6), .int ((10 : Int32) * (M P 16)), .ref P] (M, w))
          refine Tt.go (fun _ => Tr.run 1 (pc' := 89) (lv' := [(0, .ref P), (1, .int a1), (2, .int a2)]) (st' := [.ref P, .ref (P + 6), .int ((10 : Int32) * (M P 16)), .ref P]) rfl) ?_
          refine Tt.go (fun _ => Tr.get fmc7 hP rfl fw1037 (k := 13) (by decide) rfl) (?_ : Tt g l z_X7_reads (emIw M0 w) _ 92 [(0, .ref P), (1, .int a1), (2, .int a2)] [.int (M P 13), .ref (P + 6), .int ((10 : Int32) * (M P 16)), .ref P] (M, w))
          refine Tt.ck (fun hi_3 => ?_)
          refine Tt.go (fun _ => Tr.iald (fmk_7_10 hP) (by decide) hi_3 rfl) (?_ : Tt g l z_X7_reads (emIw M0 w) _ 93 [(0, .ref P), (1, .int a1), (2, .int a2)] [.int (M (P + 6) (Int32.toNatClampNeg (M P 13))), .int ((10 : Int32) * (M P 16)), .ref P] (M, w))
          refine Tt.go (fun _ => Tr.run 3 (pc' := 97) (lv' := [(0, .ref P), (1, .int a1), (2, .int a2)]) (st' := [.int ((((10 : Int32) * (M P 16)) + (M (P + 6) (Int32.toNatClampNeg (M P 13)))) - (48 : Int32)), .ref P]) rfl) ?_
          exact t_X7_reads_97 g l hl P a1 a2 hP w M0 _ ih ((((10 : Int32) * (M P 16)) + (M (P + 6) (Int32.toNatClampNeg (M P 13)))) - (48 : Int32)) M
        · refine Tt.go (fun _ => Tr.run 1 (pc' := 71) (lv' := [(0, .ref P), (1, .int a1), (2, .int a2)]) (st' := [.ref P, .ref P]) rfl) ?_
          refine Tt.go (fun _ => Tr.get fmc7 hP rfl fw1040 (k := 16) (by decide) rfl) (?_ : Tt g l z_X7_reads (emIw M0 w) _ 74 [(0, .ref P), (1, .int a1), (2, .int a2)] [.int (M P 16), .ref P] (M, w))
          refine Tt.go (fun _ => Tr.run 1 (pc' := 97) (lv' := [(0, .ref P), (1, .int a1), (2, .int a2)]) (st' := [.int (M P 16), .ref P]) rfl) ?_
          exact t_X7_reads_97 g l hl P a1 a2 hP w M0 _ ih (M P 16) M
def f_X7_reads (P : Nat) (a1 : Int32) (a2 : Int32) (M : fm_Mem) : Option (Int32 × fm_Mem) := Option.bind (f_X7_here P M) (fun v1 => Option.bind (f_X7_isDigit v1.1 v1.2) (fun v2 => if v2 = 0 then (Option.bind (f_X7_fails P (-2 : Int32) (v1.2 P 13) v1.2) (fun v3 => fm_ck (fm_bo v3.1) (some ((v3.1, v3.2))))) else (f_X7_reads_34 P a1 a2 fm_fuel (fm_up (fm_up v1.2 P 17 (v1.2 P 13)) P 16 (0 : Int32)))))
set_option maxRecDepth 100000 in
set_option maxHeartbeats 4000000 in
theorem t_X7_reads (g : fm_G) (l : Launch) (hl : l.stackTraces = false) (P : Nat) (a1 : Int32) (a2 : Int32) (hP : fm_kd g P = 7) (M : fm_Mem) (w : fm_W) : Tt g l z_X7_reads (emIw M w) (f_X7_reads P a1 a2 M) 0 [(0, .ref P), (1, .int a1), (2, .int a2)] [] (M, w) := by
  rw [f_X7_reads]
  refine Tt.go (fun _ => Tr.run 1 (pc' := 1) (lv' := [(0, .ref P), (1, .int a1), (2, .int a2)]) (st' := [.ref P]) rfl) ?_
  refine Tt.callV (As := []) (rest := []) (c_X7_here g l hl P hP M w) hP (by decide) rfl rfl cw_X7_here fw1122 pn_X7_here (Nat.le_of_ble_eq_true rfl) (Nat.le_of_ble_eq_true rfl) (Nat.le_of_ble_eq_true rfl) rfl (fun v1 => (?_ : Tt g l z_X7_reads (emIw M w) _ 4 [(0, .ref P), (1, .int a1), (2, .int a2)] [.int v1.1] (v1.2, w)))
  refine Tt.callS (As := [.int v1.1]) (rest := []) (c_X7_isDigit g l hl v1.1 v1.2 w) rfl cw_X7_isDigit fw1152 pn_X7_isDigit (Nat.le_of_ble_eq_true rfl) (Nat.le_of_ble_eq_true rfl) (Nat.le_of_ble_eq_true rfl) rfl (fun v2 => (?_ : Tt g l z_X7_reads (emIw M w) _ 7 [(0, .ref P), (1, .int a1), (2, .int a2)] [.int v2] (v1.2, w)))
  refine Tt.if_ne (tgt := 21) rfl (by decide) ?_ ?_
  · refine Tt.go (fun _ => Tr.run 3 (pc' := 14) (lv' := [(0, .ref P), (1, .int a1), (2, .int a2)]) (st' := [.ref P, .int (-2 : Int32), .ref P]) rfl) ?_
    refine Tt.go (fun _ => Tr.get fmc7 hP rfl fw1037 (k := 13) (by decide) rfl) (?_ : Tt g l z_X7_reads (emIw M w) _ 17 [(0, .ref P), (1, .int a1), (2, .int a2)] [.int (v1.2 P 13), .int (-2 : Int32), .ref P] (v1.2, w))
    refine Tt.callV (As := [.int (-2 : Int32), .int (v1.2 P 13)]) (rest := []) (c_X7_fails g l hl P (-2 : Int32) (v1.2 P 13) hP v1.2 w) hP (by decide) rfl rfl cw_X7_fails fw1131 pn_X7_fails (Nat.le_of_ble_eq_true rfl) (Nat.le_of_ble_eq_true rfl) (Nat.le_of_ble_eq_true rfl) rfl (fun v3 => (?_ : Tt g l z_X7_reads (emIw M w) _ 20 [(0, .ref P), (1, .int a1), (2, .int a2)] [.int v3.1] (v3.2, w)))
    exact Tt.ck (fun hb_4 => Tt.ret (Tr.zret rfl rfl hb_4))
  · refine Tt.go (fun _ => Tr.run 2 (pc' := 23) (lv' := [(0, .ref P), (1, .int a1), (2, .int a2)]) (st' := [.ref P, .ref P]) rfl) ?_
    refine Tt.go (fun _ => Tr.get fmc7 hP rfl fw1037 (k := 13) (by decide) rfl) (?_ : Tt g l z_X7_reads (emIw M w) _ 26 [(0, .ref P), (1, .int a1), (2, .int a2)] [.int (v1.2 P 13), .ref P] (v1.2, w))
    refine Tt.go (fun _ => Tr.put fmc7 hP rfl fw1041 (k := 17) (by decide) rfl rfl ⟨rfl, rfl⟩) (?_ : Tt g l z_X7_reads (emIw M w) _ 29 [(0, .ref P), (1, .int a1), (2, .int a2)] [] ((fm_up v1.2 P 17 (v1.2 P 13)), w))
    refine Tt.go (fun _ => Tr.run 2 (pc' := 31) (lv' := [(0, .ref P), (1, .int a1), (2, .int a2)]) (st' := [.int (0 : Int32), .ref P]) rfl) ?_
    refine Tt.go (fun _ => Tr.put fmc7 hP rfl fw1040 (k := 16) (by decide) rfl rfl ⟨rfl, rfl⟩) (?_ : Tt g l z_X7_reads (emIw M w) _ 34 [(0, .ref P), (1, .int a1), (2, .int a2)] [] ((fm_up (fm_up v1.2 P 17 (v1.2 P 13)) P 16 (0 : Int32)), w))
    exact t_X7_reads_34 g l hl P a1 a2 hP w M fm_fuel (fm_up (fm_up v1.2 P 17 (v1.2 P 13)) P 16 (0 : Int32))
theorem c_X7_reads (g : fm_G) (l : Launch) (hl : l.stackTraces = false) (P : Nat) (a1 : Int32) (a2 : Int32) (hP : fm_kd g P = 7) (M : fm_Mem) (w : fm_W) : ∀ r, f_X7_reads P a1 a2 M = some r → fC g l z_X7_reads [.ref P, .int a1, .int a2] (M, w) (emIw M w r) := fun r hr => fC.of (by decide) rfl o_X7_reads hl (Nat.le_of_ble_eq_true rfl) (t_X7_reads g l hl P a1 a2 hP M w r hr)
def k_X7_readsPoints : List (Nat × Instr × Nat) := [(0, .aload_n 0, 1), (1, .getfield 214, 3), (4, .ifCond .eq 11, 3), (7, .aload_n 0, 1), (8, .bipush (-2), 2), (10, .iload_n 1, 1), (11, .invokevirtual 201, 3), (14, .ireturn, 1), (15, .aload_n 0, 1), (16, .iconst 0, 1), (17, .sipush 200, 3), (20, .invokevirtual 218, 3), (23, .ifCond .ne 5, 3), (26, .iconst 0, 1), (27, .ireturn, 1), (28, .aload_n 0, 1), (29, .getfield 210, 3), (32, .istore_n 2, 1), (33, .aload_n 0, 1), (34, .invokevirtual 48, 3), (37, .bipush 20, 2), (39, .if_icmp .ne 14, 3), (42, .aload_n 0, 1), (43, .bipush (-5), 2), (45, .aload_n 0, 1), (46, .getfield 207, 3), (49, .invokevirtual 201, 3), (52, .ireturn, 1), (53, .aload_n 0, 1), (54, .iconst 0, 1), (55, .sipush 200, 3), (58, .invokevirtual 218, 3), (61, .ifCond .ne 5, 3), (64, .iconst 0, 1), (65, .ireturn, 1), (66, .aload_n 0, 1), (67, .iload_n 2, 1), (68, .aload_n 0, 1), (69, .getfield 210, 3), (72, .invokevirtual 221, 3), (75, .iconst (-1), 1), (76, .if_icmp .eq 14, 3), (79, .aload_n 0, 1), (80, .bipush (-4), 2), (82, .aload_n 0, 1), (83, .getfield 207, 3), (86, .invokevirtual 201, 3), (89, .ireturn, 1), (90, .aload_n 0, 1), (91, .bipush 10, 2), (93, .iconst 2, 1), (94, .aload_n 0, 1), (95, .invokevirtual 48, 3), (98, .imul, 1), (99, .iadd, 1), (100, .iload_n 2, 1), (101, .invokevirtual 99, 3), (104, .aload_n 0, 1), (105, .bipush 10, 2), (107, .iconst 2, 1), (108, .aload_n 0, 1), (109, .invokevirtual 48, 3), (112, .imul, 1), (113, .iadd, 1), (114, .iconst 1, 1), (115, .iadd, 1), (116, .aload_n 0, 1), (117, .getfield 210, 3), (120, .invokevirtual 99, 3), (123, .aload_n 0, 1), (124, .iconst 0, 1), (125, .aload_n 0, 1), (126, .invokevirtual 48, 3), (129, .iconst 1, 1), (130, .iadd, 1), (131, .invokevirtual 99, 3), (134, .aload_n 0, 1), (135, .invokevirtual 186, 3), (138, .invokestatic 204, 3), (141, .ifCond .ne (-126), 3), (144, .iconst 1, 1), (145, .ireturn, 1)]
def z_X7_readsPoints : fm_Y := (yX7_readsPoints, RX7, cX7_readsPoints, 3, (some .boolean), k_X7_readsPoints, 3, 65)
theorem o_X7_readsPoints : fm_dec z_X7_readsPoints := (by decide +kernel : ∀ q ∈ k_X7_readsPoints, decode cX7_readsPoints q.1 = .ok q.2)
theorem cw_X7_readsPoints : fm_cwV z_X7_readsPoints := ⟨⟨lw_in 1147 (by decide +kernel) (by decide +kernel), lw_in 99 (by decide +kernel) (by decide +kernel), by decide, by decide⟩, lw_in 1146 (by decide +kernel) (by decide +kernel), lw_in 37 (by decide +kernel) (by decide +kernel)⟩
theorem pn_X7_readsPoints : (parseMethodDescriptor z_X7_readsPoints.1.desc).map (fun d => d.parameters.length) = some 1 := by decide +kernel
def f_X7_readsPoints_15 (P : Nat) (a1 : Int32) : Nat → fm_Mem → Option (Int32 × fm_Mem)
  | 0, _ => none
  | n + 1, M => Option.bind (f_X7_reads P (0 : Int32) (200 : Int32) M) (fun v1 => if v1.1 = 0 then (some (((0 : Int32), v1.2))) else (Option.bind (f_X7_points P v1.2) (fun v2 => if v2 = (20 : Int32) then (Option.bind (f_X7_fails P (-5 : Int32) (v1.2 P 17) v1.2) (fun v3 => fm_ck (fm_bo v3.1) (some ((v3.1, v3.2))))) else (Option.bind (f_X7_reads P (0 : Int32) (200 : Int32) v1.2) (fun v5 => if v5.1 = 0 then (some (((0 : Int32), v5.2))) else (Option.bind (f_X7_pointAt P (v1.2 P 16) (v5.2 P 16) v5.2) (fun v6 => if v6 = (-1 : Int32) then (Option.bind (f_X7_points P v5.2) (fun v7 => Option.bind (f_X7_put0 P ((10 : Int32) + ((2 : Int32) * v7)) (v1.2 P 16) v5.2) (fun v8 => Option.bind (f_X7_points P v8) (fun v9 => Option.bind (f_X7_put0 P (((10 : Int32) + ((2 : Int32) * v9)) + (1 : Int32)) (v8 P 16) v8) (fun v10 => Option.bind (f_X7_points P v10) (fun v11 => Option.bind (f_X7_put0 P (0 : Int32) (v11 + (1 : Int32)) v10) (fun v12 => Option.bind (f_X7_here P v12) (fun v13 => Option.bind (f_X7_isDigit v13.1 v13.2) (fun v14 => if v14 = 0 then (some (((1 : Int32), v13.2))) else (f_X7_readsPoints_15 P a1 n v13.2)))))))))) else (Option.bind (f_X7_fails P (-4 : Int32) (v5.2 P 17) v5.2) (fun v15 => fm_ck (fm_bo v15.1) (some ((v15.1, v15.2))))))))))))
set_option maxRecDepth 100000 in
set_option maxHeartbeats 4000000 in
theorem t_X7_readsPoints_15 (g : fm_G) (l : Launch) (hl : l.stackTraces = false) (P : Nat) (a1 : Int32) (hP : fm_kd g P = 7) (w : fm_W) (M0 : fm_Mem)  : ∀ (n : Nat)   (M : fm_Mem), Tt g l z_X7_readsPoints (emIw M0 w) (f_X7_readsPoints_15 P a1  n  M) 15 [(0, .ref P)] [] (M, w) := by
  intro n
  induction n with
  | zero => intros; exact Tt.none
  | succ n ih =>
    intro   M
    rw [f_X7_readsPoints_15]
    refine Tt.go (fun _ => Tr.run 3 (pc' := 20) (lv' := [(0, .ref P)]) (st' := [.int (200 : Int32), .int (0 : Int32), .ref P]) rfl) ?_
    refine Tt.callV (As := [.int (0 : Int32), .int (200 : Int32)]) (rest := []) (c_X7_reads g l hl P (0 : Int32) (200 : Int32) hP M w) hP (by decide) rfl rfl cw_X7_reads fw1148 pn_X7_reads (Nat.le_of_ble_eq_true rfl) (Nat.le_of_ble_eq_true rfl) (Nat.le_of_ble_eq_true rfl) rfl (fun v1 => (?_ : Tt g l z_X7_readsPoints (emIw M0 w) _ 23 [(0, .ref P)] [.int v1.1] (v1.2, w)))
    refine Tt.if_ne (tgt := 28) rfl (by decide) ?_ ?_
    · refine Tt.go (fun _ => Tr.run 1 (pc' := 27) (lv' := [(0, .ref P)]) (st' := [.int (0 : Int32)]) rfl) ?_
      exact Tt.ret (Tr.zret rfl rfl fm_bo0)
    · refine Tt.go (fun _ => Tr.run 1 (pc' := 29) (lv' := [(0, .ref P)]) (st' := [.ref P]) rfl) ?_
      refine Tt.go (fun _ => Tr.get fmc7 hP rfl fw1040 (k := 16) (by decide) rfl) (?_ : Tt g l z_X7_readsPoints (emIw M0 w) _ 32 [(0, .ref P)] [.int (v1.2 P 16)] (v1.2, w))
      refine Tt.go (fun _ => Tr.run 2 (pc' := 34) (lv' := [(2, .int (v1.2 P 16)), (0, .ref P)]) (st' := [.ref P]) rfl) ?_
      refine Tt.callV (As := []) (rest := []) (c_X7_points g l hl P hP v1.2 w) hP (by decide) rfl rfl cw_X7_points fw1156 pn_X7_points (Nat.le_of_ble_eq_true rfl) (Nat.le_of_ble_eq_true rfl) (Nat.le_of_ble_eq_true rfl) rfl (fun v2 => (?_ : Tt g l z_X7_readsPoints (emIw M0 w) _ 37 [(2, .int (v1.2 P 16)), (0, .ref P)] [.int v2] (v1.2, w)))
      refine Tt.go (fun _ => Tr.run 1 (pc' := 39) (lv' := [(2, .int (v1.2 P 16)), (0, .ref P)]) (st' := [.int (20 : Int32), .int v2]) rfl) ?_
      refine Tt.ic_ne (tgt := 53) rfl (by decide) ?_ ?_
      · refine Tt.go (fun _ => Tr.run 3 (pc' := 46) (lv' := [(2, .int (v1.2 P 16)), (0, .ref P)]) (st' := [.ref P, .int (-5 : Int32), .ref P]) rfl) ?_
        refine Tt.go (fun _ => Tr.get fmc7 hP rfl fw1041 (k := 17) (by decide) rfl) (?_ : Tt g l z_X7_readsPoints (emIw M0 w) _ 49 [(2, .int (v1.2 P 16)), (0, .ref P)] [.int (v1.2 P 17), .int (-5 : Int32), .ref P] (v1.2, w))
        refine Tt.callV (As := [.int (-5 : Int32), .int (v1.2 P 17)]) (rest := []) (c_X7_fails g l hl P (-5 : Int32) (v1.2 P 17) hP v1.2 w) hP (by decide) rfl rfl cw_X7_fails fw1131 pn_X7_fails (Nat.le_of_ble_eq_true rfl) (Nat.le_of_ble_eq_true rfl) (Nat.le_of_ble_eq_true rfl) rfl (fun v3 => (?_ : Tt g l z_X7_readsPoints (emIw M0 w) _ 52 [(2, .int (v1.2 P 16)), (0, .ref P)] [.int v3.1] (v3.2, w)))
        exact Tt.ck (fun hb_4 => Tt.ret (Tr.zret rfl rfl hb_4))
      · refine Tt.go (fun _ => Tr.run 3 (pc' := 58) (lv' := [(2, .int (v1.2 P 16)), (0, .ref P)]) (st' := [.int (200 : Int32), .int (0 : Int32), .ref P]) rfl) ?_
        refine Tt.callV (As := [.int (0 : Int32), .int (200 : Int32)]) (rest := []) (c_X7_reads g l hl P (0 : Int32) (200 : Int32) hP v1.2 w) hP (by decide) rfl rfl cw_X7_reads fw1148 pn_X7_reads (Nat.le_of_ble_eq_true rfl) (Nat.le_of_ble_eq_true rfl) (Nat.le_of_ble_eq_true rfl) rfl (fun v5 => (?_ : Tt g l z_X7_readsPoints (emIw M0 w) _ 61 [(2, .int (v1.2 P 16)), (0, .ref P)] [.int v5.1] (v5.2, w)))
        refine Tt.if_ne (tgt := 66) rfl (by decide) ?_ ?_
        · refine Tt.go (fun _ => Tr.run 1 (pc' := 65) (lv' := [(2, .int (v1.2 P 16)), (0, .ref P)]) (st' := [.int (0 : Int32)]) rfl) ?_
          exact Tt.ret (Tr.zret rfl rfl fm_bo0)
        · refine Tt.go (fun _ => Tr.run 3 (pc' := 69) (lv' := [(2, .int (v1.2 P 16)), (0, .ref P)]) (st' := [.ref P, .int (v1.2 P 16), .ref P]) rfl) ?_
          refine Tt.go (fun _ => Tr.get fmc7 hP rfl fw1040 (k := 16) (by decide) rfl) (?_ : Tt g l z_X7_readsPoints (emIw M0 w) _ 72 [(2, .int (v1.2 P 16)), (0, .ref P)] [.int (v5.2 P 16), .int (v1.2 P 16), .ref P] (v5.2, w))
          refine Tt.callV (As := [.int (v1.2 P 16), .int (v5.2 P 16)]) (rest := []) (c_X7_pointAt g l hl P (v1.2 P 16) (v5.2 P 16) hP v5.2 w) hP (by decide) rfl rfl cw_X7_pointAt fw1160 pn_X7_pointAt (Nat.le_of_ble_eq_true rfl) (Nat.le_of_ble_eq_true rfl) (Nat.le_of_ble_eq_true rfl) rfl (fun v6 => (?_ : Tt g l z_X7_readsPoints (emIw M0 w) _ 75 [(2, .int (v1.2 P 16)), (0, .ref P)] [.int v6] (v5.2, w)))
          refine Tt.go (fun _ => Tr.run 1 (pc' := 76) (lv' := [(2, .int (v1.2 P 16)), (0, .ref P)]) (st' := [.int (-1 : Int32), .int v6]) rfl) ?_
          refine Tt.ic_eq (tgt := 90) rfl (by decide) ?_ ?_
          · refine Tt.go (fun _ => Tr.run 4 (pc' := 95) (lv' := [(2, .int (v1.2 P 16)), (0, .ref P)]) (st' := [.ref P, .int (2 : Int32), .int (10 : Int32), .ref P]) rfl) ?_
            refine Tt.callV (As := []) (rest := [.int (2 : Int32), .int (10 : Int32), .ref P]) (c_X7_points g l hl P hP v5.2 w) hP (by decide) rfl rfl cw_X7_points fw1156 pn_X7_points (Nat.le_of_ble_eq_true rfl) (Nat.le_of_ble_eq_true rfl) (Nat.le_of_ble_eq_true rfl) rfl (fun v7 => (?_ : Tt g l z_X7_readsPoints (emIw M0 w) _ 98 [(2, .int (v1.2 P 16)), (0, .ref P)] [.int v7, .int (2 : Int32), .int (10 : Int32), .ref P] (v5.2, w)))
            refine Tt.go (fun _ => Tr.run 3 (pc' := 101) (lv' := [(2, .int (v1.2 P 16)), (0, .ref P)]) (st' := [.int (v1.2 P 16), .int ((10 : Int32) + ((2 : Int32) * v7)), .ref P]) rfl) ?_
            refine Tt.callV (As := [.int ((10 : Int32) + ((2 : Int32) * v7)), .int (v1.2 P 16)]) (rest := []) (c_X7_put0 g l hl P ((10 : Int32) + ((2 : Int32) * v7)) (v1.2 P 16) hP v5.2 w) hP (by decide) rfl rfl cw_X7_put0 fw1135 pn_X7_put0 (Nat.le_of_ble_eq_true rfl) (Nat.le_of_ble_eq_true rfl) (Nat.le_of_ble_eq_true rfl) rfl (fun v8 => (?_ : Tt g l z_X7_readsPoints (emIw M0 w) _ 104 [(2, .int (v1.2 P 16)), (0, .ref P)] [] (v8, w)))
            refine Tt.go (fun _ => Tr.run 4 (pc' := 109) (lv' := [(2, .int (v1.2 P 16)), (0, .ref P)]) (st' := [.ref P, .int (2 : Int32), .int (10 : Int32), .ref P]) rfl) ?_
            refine Tt.callV (As := []) (rest := [.int (2 : Int32), .int (10 : Int32), .ref P]) (c_X7_points g l hl P hP v8 w) hP (by decide) rfl rfl cw_X7_points fw1156 pn_X7_points (Nat.le_of_ble_eq_true rfl) (Nat.le_of_ble_eq_true rfl) (Nat.le_of_ble_eq_true rfl) rfl (fun v9 => (?_ : Tt g l z_X7_readsPoints (emIw M0 w) _ 112 [(2, .int (v1.2 P 16)), (0, .ref P)] [.int v9, .int (2 : Int32), .int (10 : Int32), .ref P] (v8, w)))
            refine Tt.go (fun _ => Tr.run 5 (pc' := 117) (lv' := [(2, .int (v1.2 P 16)), (0, .ref P)]) (st' := [.ref P, .int (((10 : Int32) + ((2 : Int32) * v9)) + (1 : Int32)), .ref P]) rfl) ?_
            refine Tt.go (fun _ => Tr.get fmc7 hP rfl fw1040 (k := 16) (by decide) rfl) (?_ : Tt g l z_X7_readsPoints (emIw M0 w) _ 120 [(2, .int (v1.2 P 16)), (0, .ref P)] [.int (v8 P 16), .int (((10 : Int32) + ((2 : Int32) * v9)) + (1 : Int32)), .ref P] (v8, w))
            refine Tt.callV (As := [.int (((10 : Int32) + ((2 : Int32) * v9)) + (1 : Int32)), .int (v8 P 16)]) (rest := []) (c_X7_put0 g l hl P (((10 : Int32) + ((2 : Int32) * v9)) + (1 : Int32)) (v8 P 16) hP v8 w) hP (by decide) rfl rfl cw_X7_put0 fw1135 pn_X7_put0 (Nat.le_of_ble_eq_true rfl) (Nat.le_of_ble_eq_true rfl) (Nat.le_of_ble_eq_true rfl) rfl (fun v10 => (?_ : Tt g l z_X7_readsPoints (emIw M0 w) _ 123 [(2, .int (v1.2 P 16)), (0, .ref P)] [] (v10, w)))
            refine Tt.go (fun _ => Tr.run 3 (pc' := 126) (lv' := [(2, .int (v1.2 P 16)), (0, .ref P)]) (st' := [.ref P, .int (0 : Int32), .ref P]) rfl) ?_
            refine Tt.callV (As := []) (rest := [.int (0 : Int32), .ref P]) (c_X7_points g l hl P hP v10 w) hP (by decide) rfl rfl cw_X7_points fw1156 pn_X7_points (Nat.le_of_ble_eq_true rfl) (Nat.le_of_ble_eq_true rfl) (Nat.le_of_ble_eq_true rfl) rfl (fun v11 => (?_ : Tt g l z_X7_readsPoints (emIw M0 w) _ 129 [(2, .int (v1.2 P 16)), (0, .ref P)] [.int v11, .int (0 : Int32), .ref P] (v10, w)))
            refine Tt.go (fun _ => Tr.run 2 (pc' := 131) (lv' := [(2, .int (v1.2 P 16)), (0, .ref P)]) (st' := [.int (v11 + (1 : Int32)), .int (0 : Int32), .ref P]) rfl) ?_
            refine Tt.callV (As := [.int (0 : Int32), .int (v11 + (1 : Int32))]) (rest := []) (c_X7_put0 g l hl P (0 : Int32) (v11 + (1 : Int32)) hP v10 w) hP (by decide) rfl rfl cw_X7_put0 fw1135 pn_X7_put0 (Nat.le_of_ble_eq_true rfl) (Nat.le_of_ble_eq_true rfl) (Nat.le_of_ble_eq_true rfl) rfl (fun v12 => (?_ : Tt g l z_X7_readsPoints (emIw M0 w) _ 134 [(2, .int (v1.2 P 16)), (0, .ref P)] [] (v12, w)))
            refine Tt.go (fun _ => Tr.run 1 (pc' := 135) (lv' := [(2, .int (v1.2 P 16)), (0, .ref P)]) (st' := [.ref P]) rfl) ?_
            refine Tt.callV (As := []) (rest := []) (c_X7_here g l hl P hP v12 w) hP (by decide) rfl rfl cw_X7_here fw1122 pn_X7_here (Nat.le_of_ble_eq_true rfl) (Nat.le_of_ble_eq_true rfl) (Nat.le_of_ble_eq_true rfl) rfl (fun v13 => (?_ : Tt g l z_X7_readsPoints (emIw M0 w) _ 138 [(2, .int (v1.2 P 16)), (0, .ref P)] [.int v13.1] (v13.2, w)))
            refine Tt.callS (As := [.int v13.1]) (rest := []) (c_X7_isDigit g l hl v13.1 v13.2 w) rfl cw_X7_isDigit fw1152 pn_X7_isDigit (Nat.le_of_ble_eq_true rfl) (Nat.le_of_ble_eq_true rfl) (Nat.le_of_ble_eq_true rfl) rfl (fun v14 => (?_ : Tt g l z_X7_readsPoints (emIw M0 w) _ 141 [(2, .int (v1.2 P 16)), (0, .ref P)] [.int v14] (v13.2, w)))
            refine Tt.if_ne (tgt := 15) rfl (by decide) ?_ ?_
            · refine Tt.go (fun _ => Tr.run 1 (pc' := 145) (lv' := [(2, .int (v1.2 P 16)), (0, .ref P)]) (st' := [.int (1 : Int32)]) rfl) ?_
              exact Tt.ret (Tr.zret rfl rfl fm_bo1)
            · refine Tt.go (fun _ => Tr.sub (lv' := [(0, .ref P)]) [1] rfl) ?_
              exact ih v13.2
          · refine Tt.go (fun _ => Tr.run 3 (pc' := 83) (lv' := [(2, .int (v1.2 P 16)), (0, .ref P)]) (st' := [.ref P, .int (-4 : Int32), .ref P]) rfl) ?_
            refine Tt.go (fun _ => Tr.get fmc7 hP rfl fw1041 (k := 17) (by decide) rfl) (?_ : Tt g l z_X7_readsPoints (emIw M0 w) _ 86 [(2, .int (v1.2 P 16)), (0, .ref P)] [.int (v5.2 P 17), .int (-4 : Int32), .ref P] (v5.2, w))
            refine Tt.callV (As := [.int (-4 : Int32), .int (v5.2 P 17)]) (rest := []) (c_X7_fails g l hl P (-4 : Int32) (v5.2 P 17) hP v5.2 w) hP (by decide) rfl rfl cw_X7_fails fw1131 pn_X7_fails (Nat.le_of_ble_eq_true rfl) (Nat.le_of_ble_eq_true rfl) (Nat.le_of_ble_eq_true rfl) rfl (fun v15 => (?_ : Tt g l z_X7_readsPoints (emIw M0 w) _ 89 [(2, .int (v1.2 P 16)), (0, .ref P)] [.int v15.1] (v15.2, w)))
            exact Tt.ck (fun hb_16 => Tt.ret (Tr.zret rfl rfl hb_16))
def f_X7_readsPoints (P : Nat) (a1 : Int32) (M : fm_Mem) : Option (Int32 × fm_Mem) := if (M P 18) = 0 then (f_X7_readsPoints_15 P a1 fm_fuel M) else (Option.bind (f_X7_fails P (-2 : Int32) a1 M) (fun v1 => fm_ck (fm_bo v1.1) (some ((v1.1, v1.2)))))
set_option maxRecDepth 100000 in
set_option maxHeartbeats 4000000 in
theorem t_X7_readsPoints (g : fm_G) (l : Launch) (hl : l.stackTraces = false) (P : Nat) (a1 : Int32) (hP : fm_kd g P = 7) (M : fm_Mem) (w : fm_W) : Tt g l z_X7_readsPoints (emIw M w) (f_X7_readsPoints P a1 M) 0 [(0, .ref P), (1, .int a1)] [] (M, w) := by
  rw [f_X7_readsPoints]
  refine Tt.go (fun _ => Tr.run 1 (pc' := 1) (lv' := [(0, .ref P), (1, .int a1)]) (st' := [.ref P]) rfl) ?_
  refine Tt.go (fun _ => Tr.get fmc7 hP rfl fw1042 (k := 18) (by decide) rfl) (?_ : Tt g l z_X7_readsPoints (emIw M w) _ 4 [(0, .ref P), (1, .int a1)] [.int (M P 18)] (M, w))
  refine Tt.if_eq (tgt := 15) rfl (by decide) ?_ ?_
  · refine Tt.go (fun _ => Tr.sub (lv' := [(0, .ref P)]) [0] rfl) ?_
    exact t_X7_readsPoints_15 g l hl P a1 hP w M fm_fuel M
  · refine Tt.go (fun _ => Tr.run 3 (pc' := 11) (lv' := [(0, .ref P), (1, .int a1)]) (st' := [.int a1, .int (-2 : Int32), .ref P]) rfl) ?_
    refine Tt.callV (As := [.int (-2 : Int32), .int a1]) (rest := []) (c_X7_fails g l hl P (-2 : Int32) a1 hP M w) hP (by decide) rfl rfl cw_X7_fails fw1131 pn_X7_fails (Nat.le_of_ble_eq_true rfl) (Nat.le_of_ble_eq_true rfl) (Nat.le_of_ble_eq_true rfl) rfl (fun v1 => (?_ : Tt g l z_X7_readsPoints (emIw M w) _ 14 [(0, .ref P), (1, .int a1)] [.int v1.1] (v1.2, w)))
    exact Tt.ck (fun hb_2 => Tt.ret (Tr.zret rfl rfl hb_2))
theorem c_X7_readsPoints (g : fm_G) (l : Launch) (hl : l.stackTraces = false) (P : Nat) (a1 : Int32) (hP : fm_kd g P = 7) (M : fm_Mem) (w : fm_W) : ∀ r, f_X7_readsPoints P a1 M = some r → fC g l z_X7_readsPoints [.ref P, .int a1] (M, w) (emIw M w r) := fun r hr => fC.of (by decide) rfl o_X7_readsPoints hl (Nat.le_of_ble_eq_true rfl) (t_X7_readsPoints g l hl P a1 hP M w r hr)
