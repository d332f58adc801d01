theorem fw1026 : Cond.fieldLink "CircleFlipsModel" 13 "CircleFlipsModel" "read" "[I" ∈ lw_all := lw_in 1026 (by decide +kernel) (by decide +kernel)
theorem fw1105 : Cond.methodLink "CircleFlipsModel" 252 ⟨"CircleFlipsModel", "right", "(ZI)Z"⟩ ∈ lw_all := lw_in 1105 (by decide +kernel) (by decide +kernel)
theorem fw1113 : Cond.methodLink "CircleFlipsModel" 256 ⟨"CircleFlipsModel", "readsText", "()Z"⟩ ∈ lw_all := lw_in 1113 (by decide +kernel) (by decide +kernel)
theorem fw1118 : Cond.methodLink "CircleFlipsModel" 235 ⟨"CircleFlipsModel", "takes", "(Ljava/lang/String;)Z"⟩ ∈ lw_all := lw_in 1118 (by decide +kernel) (by decide +kernel)
theorem fw1139 : Cond.methodLink "CircleFlipsModel" 239 ⟨"CircleFlipsModel", "sign", "(I)Z"⟩ ∈ lw_all := lw_in 1139 (by decide +kernel) (by decide +kernel)
theorem fw1144 : Cond.methodLink "CircleFlipsModel" 244 ⟨"CircleFlipsModel", "readsPoints", "(I)Z"⟩ ∈ lw_all := lw_in 1144 (by decide +kernel) (by decide +kernel)
theorem fw1173 : Cond.methodLink "CircleFlipsModel" 249 ⟨"CircleFlipsModel", "readsFlip", "()Z"⟩ ∈ lw_all := lw_in 1173 (by decide +kernel) (by decide +kernel)
theorem fw1177 : Cond.methodLink "CircleFlipsModel" 224 ⟨"CircleFlipsModel", "drawsAnew", "()V"⟩ ∈ lw_all := lw_in 1177 (by decide +kernel) (by decide +kernel)
theorem fw1215 : Cond.methodLink "CircleFlipsModel" 227 ⟨"CircleFlipsModel", "whyNot", "(II)I"⟩ ∈ lw_all := lw_in 1215 (by decide +kernel) (by decide +kernel)
theorem fw1239 : Cond.methodLink "CircleFlipsModel" 230 ⟨"CircleFlipsModel", "flips", "(II)I"⟩ ∈ lw_all := lw_in 1239 (by decide +kernel) (by decide +kernel)
theorem fw1277 : Cond.methodLink "CircleFlipsModel" 259 ⟨"CircleFlipsModel", "edges", "(I)I"⟩ ∈ lw_all := lw_in 1277 (by decide +kernel) (by decide +kernel)
theorem fw1304 : Cond.methodLink "CircleFlipsModel" 262 ⟨"CircleFlipsModel", "bits", "(I)I"⟩ ∈ lw_all := lw_in 1304 (by decide +kernel) (by decide +kernel)
theorem fw1307 : Cond.methodLink "CircleFlipsModel" 265 ⟨"CircleFlipsModel", "layerOf", "(I)I"⟩ ∈ lw_all := lw_in 1307 (by decide +kernel) (by decide +kernel)
theorem fw1323 : Cond.methodLink "CircleFlipsModel" 272 ⟨"CircleFlipsModel", "friends", "(ZI)I"⟩ ∈ lw_all := lw_in 1323 (by decide +kernel) (by decide +kernel)
theorem fw1327 : Cond.methodLink "CircleFlipsModel" 276 ⟨"CircleFlipsModel", "nearestTo", "(I)I"⟩ ∈ lw_all := lw_in 1327 (by decide +kernel) (by decide +kernel)
theorem fw1331 : Cond.methodLink "CircleFlipsModel" 268 ⟨"CircleFlipsModel", "apart", "(II)J"⟩ ∈ lw_all := lw_in 1331 (by decide +kernel) (by decide +kernel)
theorem fw1347 : Cond.methodLink "CircleFlipsModel" 279 ⟨"java/lang/Math", "abs", "(J)J"⟩ ∈ lw_all := lw_in 1347 (by decide +kernel) (by decide +kernel)
theorem fw1348 : Cond.static ⟨"java/lang/Math", "abs", "(J)J"⟩ ∈ lw_all := lw_in 1348 (by decide +kernel) (by decide +kernel)
theorem fw1349 : Cond.code ⟨"java/lang/Math", "abs", "(J)J"⟩ prog_19_method_61_code 2 (some .long) ∈ lw_all := lw_in 1349 (by decide +kernel) (by decide +kernel)
theorem fw1350 : Cond.methodLink "CircleFlipsModel" 283 ⟨"CircleFlipsModel", "onCircle", "(IIII)I"⟩ ∈ lw_all := lw_in 1350 (by decide +kernel) (by decide +kernel)
theorem fw1354 : Cond.methodLink "CircleFlipsModel" 286 ⟨"CircleFlipsModel", "besides", "(IZ)I"⟩ ∈ lw_all := lw_in 1354 (by decide +kernel) (by decide +kernel)
def k_X7_readsFlip : List (Nat × Instr × Nat) := [(0, .aload_n 0, 1), (1, .getfield 214, 3), (4, .ifCond .ne 7, 3), (7, .aload_n 0, 1), (8, .invokevirtual 224, 3), (11, .aload_n 0, 1), (12, .iconst 1, 1), (13, .putfield 214, 3), (16, .aload_n 0, 1), (17, .iconst 0, 1), (18, .aload_n 0, 1), (19, .invokevirtual 48, 3), (22, .iconst 1, 1), (23, .isub, 1), (24, .invokevirtual 218, 3), (27, .ifCond .ne 5, 3), (30, .iconst 0, 1), (31, .ireturn, 1), (32, .aload_n 0, 1), (33, .getfield 210, 3), (36, .istore_n 1, 1), (37, .aload_n 0, 1), (38, .iconst 0, 1), (39, .aload_n 0, 1), (40, .invokevirtual 48, 3), (43, .iconst 1, 1), (44, .isub, 1), (45, .invokevirtual 218, 3), (48, .ifCond .ne 5, 3), (51, .iconst 0, 1), (52, .ireturn, 1), (53, .aload_n 0, 1), (54, .iload_n 1, 1), (55, .aload_n 0, 1), (56, .getfield 210, 3), (59, .invokevirtual 227, 3), (62, .ifCond .eq 14, 3), (65, .aload_n 0, 1), (66, .bipush (-6), 2), (68, .aload_n 0, 1), (69, .getfield 207, 3), (72, .invokevirtual 201, 3), (75, .ireturn, 1), (76, .aload_n 0, 1), (77, .iload_n 1, 1), (78, .aload_n 0, 1), (79, .getfield 210, 3), (82, .invokevirtual 230, 3), (85, .istore_n 2, 1), (86, .iload_n 2, 1), (87, .ifCond .lt 7, 3), (90, .iconst 1, 1), (91, .goto 4, 3), (94, .iconst 0, 1), (95, .ireturn, 1)]
def z_X7_readsFlip : fm_Y := (yX7_readsFlip, RX7, cX7_readsFlip, 3, (some .boolean), k_X7_readsFlip, 10, 265)
theorem o_X7_readsFlip : fm_dec z_X7_readsFlip := (by decide +kernel : ∀ q ∈ k_X7_readsFlip, decode cX7_readsFlip q.1 = .ok q.2)
theorem cw_X7_readsFlip : fm_cwV z_X7_readsFlip := ⟨⟨lw_in 1176 (by decide +kernel) (by decide +kernel), lw_in 99 (by decide +kernel) (by decide +kernel), by decide, by decide⟩, lw_in 1175 (by decide +kernel) (by decide +kernel), lw_in 43 (by decide +kernel) (by decide +kernel)⟩
theorem pn_X7_readsFlip : (parseMethodDescriptor z_X7_readsFlip.1.desc).map (fun d => d.parameters.length) = some 0 := by decide +kernel
def f_X7_readsFlip_95 (P : Nat) (s0 : Int32) (M : fm_Mem) : Option (Int32 × fm_Mem) := fm_ck (fm_bo s0) (some ((s0, M)))
set_option maxRecDepth 100000 in
set_option maxHeartbeats 4000000 in
theorem t_X7_readsFlip_95 (g : fm_G) (l : Launch) (hl : l.stackTraces = false) (P : Nat) (hP : fm_kd g P = 7) (w : fm_W) (M0 : fm_Mem)  (s0 : Int32)  (M : fm_Mem) : Tt g l z_X7_readsFlip (emIw M0 w) (f_X7_readsFlip_95 P  s0 M) 95 [] [.int s0] (M, w) := by
  rw [f_X7_readsFlip_95]
  exact Tt.ck (fun hb_1 => Tt.ret (Tr.zret rfl rfl hb_1))
def f_X7_readsFlip_11 (P : Nat)  (M : fm_Mem) : Option (Int32 × fm_Mem) := Option.bind (f_X7_points P (fm_up M P 18 (1 : Int32))) (fun v1 => Option.bind (f_X7_reads P (0 : Int32) (v1 - (1 : Int32)) (fm_up M P 18 (1 : Int32))) (fun v2 => if v2.1 = 0 then (some (((0 : Int32), v2.2))) else (Option.bind (f_X7_points P v2.2) (fun v3 => Option.bind (f_X7_reads P (0 : Int32) (v3 - (1 : Int32)) v2.2) (fun v4 => if v4.1 = 0 then (some (((0 : Int32), v4.2))) else (Option.bind (f_X7_whyNot P (v2.2 P 16) (v4.2 P 16) v4.2) (fun v5 => if v5.1 = 0 then (Option.bind (f_X7_flips P (v2.2 P 16) (v5.2 P 16) v5.2) (fun v6 => if v6.1 < 0 then (f_X7_readsFlip_95 P (0 : Int32) v6.2) else (f_X7_readsFlip_95 P (1 : Int32) v6.2))) else (Option.bind (f_X7_fails P (-6 : Int32) (v5.2 P 17) v5.2) (fun v7 => fm_ck (fm_bo v7.1) (some ((v7.1, v7.2))))))))))))
set_option maxRecDepth 100000 in
set_option maxHeartbeats 4000000 in
theorem t_X7_readsFlip_11 (g : fm_G) (l : Launch) (hl : l.stackTraces = false) (P : Nat) (hP : fm_kd g P = 7) (w : fm_W) (M0 : fm_Mem)    (M : fm_Mem) : Tt g l z_X7_readsFlip (emIw M0 w) (f_X7_readsFlip_11 P   M) 11 [(0, .ref P)] [] (M, w) := by
  rw [f_X7_readsFlip_11]
  refine Tt.go (fun _ => Tr.run 2 (pc' := 13) (lv' := [(0, .ref P)]) (st' := [.int (1 : Int32), .ref P]) rfl) ?_
  refine Tt.go (fun _ => Tr.put fmc7 hP rfl fw1042 (k := 18) (by decide) rfl rfl (fm_bo_nar (by decide))) (?_ : Tt g l z_X7_readsFlip (emIw M0 w) _ 16 [(0, .ref P)] [] ((fm_up M P 18 (1 : Int32)), w))
  refine Tt.go (fun _ => Tr.run 3 (pc' := 19) (lv' := [(0, .ref P)]) (st' := [.ref P, .int (0 : Int32), .ref P]) rfl) ?_
  refine Tt.callV (As := []) (rest := [.int (0 : Int32), .ref P]) (c_X7_points g l hl P hP (fm_up M P 18 (1 : Int32)) w) hP (by decide) rfl rfl cw_X7_points fw1156 pn_X7_points (Nat.le_of_ble_eq_true rfl) (Nat.le_of_ble_eq_true rfl) (Nat.le_of_ble_eq_true rfl) rfl (fun v1 => (?_ : Tt g l z_X7_readsFlip (emIw M0 w) _ 22 [(0, .ref P)] [.int v1, .int (0 : Int32), .ref P] ((fm_up M P 18 (1 : Int32)), w)))
  refine Tt.go (fun _ => Tr.run 2 (pc' := 24) (lv' := [(0, .ref P)]) (st' := [.int (v1 - (1 : Int32)), .int (0 : Int32), .ref P]) rfl) ?_
  refine Tt.callV (As := [.int (0 : Int32), .int (v1 - (1 : Int32))]) (rest := []) (c_X7_reads g l hl P (0 : Int32) (v1 - (1 : Int32)) hP (fm_up M P 18 (1 : Int32)) w) hP (by decide) rfl rfl cw_X7_reads fw1148 pn_X7_reads (Nat.le_of_ble_eq_true rfl) (Nat.le_of_ble_eq_true rfl) (Nat.le_of_ble_eq_true rfl) rfl (fun v2 => (?_ : Tt g l z_X7_readsFlip (emIw M0 w) _ 27 [(0, .ref P)] [.int v2.1] (v2.2, w)))
  refine Tt.if_ne (tgt := 32) rfl (by decide) ?_ ?_
  · refine Tt.go (fun _ => Tr.run 1 (pc' := 31) (lv' := [(0, .ref P)]) (st' := [.int (0 : Int32)]) rfl) ?_
    exact Tt.ret (Tr.zret rfl rfl fm_bo0)
  · refine Tt.go (fun _ => Tr.run 1 (pc' := 33) (lv' := [(0, .ref P)]) (st' := [.ref P]) rfl) ?_
    refine Tt.go (fun _ => Tr.get fmc7 hP rfl fw1040 (k := 16) (by decide) rfl) (?_ : Tt g l z_X7_readsFlip (emIw M0 w) _ 36 [(0, .ref P)] [.int (v2.2 P 16)] (v2.2, w))
    refine Tt.go (fun _ => Tr.run 4 (pc' := 40) (lv' := [(1, .int (v2.2 P 16)), (0, .ref P)]) (st' := [.ref P, .int (0 : Int32), .ref P]) rfl) ?_
    refine Tt.callV (As := []) (rest := [.int (0 : Int32), .ref P]) (c_X7_points g l hl P hP v2.2 w) hP (by decide) rfl rfl cw_X7_points fw1156 pn_X7_points (Nat.le_of_ble_eq_true rfl) (Nat.le_of_ble_eq_true rfl) (Nat.le_of_ble_eq_true rfl) rfl (fun v3 => (?_ : Tt g l z_X7_readsFlip (emIw M0 w) _ 43 [(1, .int (v2.2 P 16)), (0, .ref P)] [.int v3, .int (0 : Int32), .ref P] (v2.2, w)))
    refine Tt.go (fun _ => Tr.run 2 (pc' := 45) (lv' := [(1, .int (v2.2 P 16)), (0, .ref P)]) (st' := [.int (v3 - (1 : Int32)), .int (0 : Int32), .ref P]) rfl) ?_
    refine Tt.callV (As := [.int (0 : Int32), .int (v3 - (1 : Int32))]) (rest := []) (c_X7_reads g l hl P (0 : Int32) (v3 - (1 : Int32)) hP v2.2 w) hP (by decide) rfl rfl cw_X7_reads fw1148 pn_X7_reads (Nat.le_of_ble_eq_true rfl) (Nat.le_of_ble_eq_true rfl) (Nat.le_of_ble_eq_true rfl) rfl (fun v4 => (?_ : Tt g l z_X7_readsFlip (emIw M0 w) _ 48 [(1, .int (v2.2 P 16)), (0, .ref P)] [.int v4.1] (v4.2, w)))
    refine Tt.if_ne (tgt := 53) rfl (by decide) ?_ ?_
    · refine Tt.go (fun _ => Tr.run 1 (pc' := 52) (lv' := [(1, .int (v2.2 P 16)), (0, .ref P)]) (st' := [.int (0 : Int32)]) rfl) ?_
      exact Tt.ret (Tr.zret rfl rfl fm_bo0)
    · refine Tt.go (fun _ => Tr.run 3 (pc' := 56) (lv' := [(1, .int (v2.2 P 16)), (0, .ref P)]) (st' := [.ref P, .int (v2.2 P 16), .ref P]) rfl) ?_
      refine Tt.go (fun _ => Tr.get fmc7 hP rfl fw1040 (k := 16) (by decide) rfl) (?_ : Tt g l z_X7_readsFlip (emIw M0 w) _ 59 [(1, .int (v2.2 P 16)), (0, .ref P)] [.int (v4.2 P 16), .int (v2.2 P 16), .ref P] (v4.2, w))
      refine Tt.callV (As := [.int (v2.2 P 16), .int (v4.2 P 16)]) (rest := []) (c_X7_whyNot g l hl P (v2.2 P 16) (v4.2 P 16) hP v4.2 w) hP (by decide) rfl rfl cw_X7_whyNot fw1215 pn_X7_whyNot (Nat.le_of_ble_eq_true rfl) (Nat.le_of_ble_eq_true rfl) (Nat.le_of_ble_eq_true rfl) rfl (fun v5 => (?_ : Tt g l z_X7_readsFlip (emIw M0 w) _ 62 [(1, .int (v2.2 P 16)), (0, .ref P)] [.int v5.1] (v5.2, w)))
      refine Tt.if_eq (tgt := 76) rfl (by decide) ?_ ?_
      · refine Tt.go (fun _ => Tr.run 3 (pc' := 79) (lv' := [(1, .int (v2.2 P 16)), (0, .ref P)]) (st' := [.ref P, .int (v2.2 P 16), .ref P]) rfl) ?_
        refine Tt.go (fun _ => Tr.get fmc7 hP rfl fw1040 (k := 16) (by decide) rfl) (?_ : Tt g l z_X7_readsFlip (emIw M0 w) _ 82 [(1, .int (v2.2 P 16)), (0, .ref P)] [.int (v5.2 P 16), .int (v2.2 P 16), .ref P] (v5.2, w))
        refine Tt.callV (As := [.int (v2.2 P 16), .int (v5.2 P 16)]) (rest := []) (c_X7_flips g l hl P (v2.2 P 16) (v5.2 P 16) hP v5.2 w) hP (by decide) rfl rfl cw_X7_flips fw1239 pn_X7_flips (Nat.le_of_ble_eq_true rfl) (Nat.le_of_ble_eq_true rfl) (Nat.le_of_ble_eq_true rfl) rfl (fun v6 => (?_ : Tt g l z_X7_readsFlip (emIw M0 w) _ 85 [(1, .int (v2.2 P 16)), (0, .ref P)] [.int v6.1] (v6.2, w)))
        refine Tt.go (fun _ => Tr.run 2 (pc' := 87) (lv' := [(2, .int v6.1), (1, .int (v2.2 P 16)), (0, .ref P)]) (st' := [.int v6.1]) rfl) ?_
        refine Tt.if_lt (tgt := 94) rfl (by decide) ?_ ?_
        · refine Tt.go (fun _ => Tr.run 1 (pc' := 95) (lv' := [(2, .int v6.1), (1, .int (v2.2 P 16)), (0, .ref P)]) (st' := [.int (0 : Int32)]) rfl) ?_
          refine Tt.go (fun _ => Tr.sub (lv' := []) [] rfl) ?_
          exact t_X7_readsFlip_95 g l hl P hP w M0 (0 : Int32) v6.2
        · refine Tt.go (fun _ => Tr.run 2 (pc' := 95) (lv' := [(2, .int v6.1), (1, .int (v2.2 P 16)), (0, .ref P)]) (st' := [.int (1 : Int32)]) rfl) ?_
          refine Tt.go (fun _ => Tr.sub (lv' := []) [] rfl) ?_
          exact t_X7_readsFlip_95 g l hl P hP w M0 (1 : Int32) v6.2
      · refine Tt.go (fun _ => Tr.run 3 (pc' := 69) (lv' := [(1, .int (v2.2 P 16)), (0, .ref P)]) (st' := [.ref P, .int (-6 : Int32), .ref P]) rfl) ?_
        refine Tt.go (fun _ => Tr.get fmc7 hP rfl fw1041 (k := 17) (by decide) rfl) (?_ : Tt g l z_X7_readsFlip (emIw M0 w) _ 72 [(1, .int (v2.2 P 16)), (0, .ref P)] [.int (v5.2 P 17), .int (-6 : Int32), .ref P] (v5.2, w))
        refine Tt.callV (As := [.int (-6 : Int32), .int (v5.2 P 17)]) (rest := []) (c_X7_fails g l hl P (-6 : Int32) (v5.2 P 17) hP v5.2 w) hP (by decide) rfl rfl cw_X7_fails fw1131 pn_X7_fails (Nat.le_of_ble_eq_true rfl) (Nat.le_of_ble_eq_true rfl) (Nat.le_of_ble_eq_true rfl) rfl (fun v7 => (?_ : Tt g l z_X7_readsFlip (emIw M0 w) _ 75 [(1, .int (v2.2 P 16)), (0, .ref P)] [.int v7.1] (v7.2, w)))
        exact Tt.ck (fun hb_8 => Tt.ret (Tr.zret rfl rfl hb_8))
def f_X7_readsFlip (P : Nat) (M : fm_Mem) : Option (Int32 × fm_Mem) := if (M P 18) = 0 then (Option.bind (f_X7_drawsAnew P M) (fun v1 => (f_X7_readsFlip_11 P v1))) else (f_X7_readsFlip_11 P M)
set_option maxRecDepth 100000 in
set_option maxHeartbeats 4000000 in
theorem t_X7_readsFlip (g : fm_G) (l : Launch) (hl : l.stackTraces = false) (P : Nat) (hP : fm_kd g P = 7) (M : fm_Mem) (w : fm_W) : Tt g l z_X7_readsFlip (emIw M w) (f_X7_readsFlip P M) 0 [(0, .ref P)] [] (M, w) := by
  rw [f_X7_readsFlip]
  refine Tt.go (fun _ => Tr.run 1 (pc' := 1) (lv' := [(0, .ref P)]) (st' := [.ref P]) rfl) ?_
  refine Tt.go (fun _ => Tr.get fmc7 hP rfl fw1042 (k := 18) (by decide) rfl) (?_ : Tt g l z_X7_readsFlip (emIw M w) _ 4 [(0, .ref P)] [.int (M P 18)] (M, w))
  refine Tt.if_ne (tgt := 11) rfl (by decide) ?_ ?_
  · refine Tt.go (fun _ => Tr.run 1 (pc' := 8) (lv' := [(0, .ref P)]) (st' := [.ref P]) rfl) ?_
    refine Tt.callV (As := []) (rest := []) (c_X7_drawsAnew g l hl P hP M w) hP (by decide) rfl rfl cw_X7_drawsAnew fw1177 pn_X7_drawsAnew (Nat.le_of_ble_eq_true rfl) (Nat.le_of_ble_eq_true rfl) (Nat.le_of_ble_eq_true rfl) rfl (fun v1 => (?_ : Tt g l z_X7_readsFlip (emIw M w) _ 11 [(0, .ref P)] [] (v1, w)))
    exact t_X7_readsFlip_11 g l hl P hP w M v1
  · exact t_X7_readsFlip_11 g l hl P hP w M M
theorem c_X7_readsFlip (g : fm_G) (l : Launch) (hl : l.stackTraces = false) (P : Nat) (hP : fm_kd g P = 7) (M : fm_Mem) (w : fm_W) : ∀ r, f_X7_readsFlip P M = some r → fC g l z_X7_readsFlip [.ref P] (M, w) (emIw M w r) := fun r hr => fC.of (by decide) rfl o_X7_readsFlip hl (Nat.le_of_ble_eq_true rfl) (t_X7_readsFlip g l hl P hP M w r hr)
def k_X7_readsText : List (Nat × Instr × Nat) := [(0, .aload_n 0, 1), (1, .ldc 233, 2), (3, .invokevirtual 235, 3), (6, .ifCond .ne 14, 3), (9, .aload_n 0, 1), (10, .bipush (-2), 2), (12, .aload_n 0, 1), (13, .getfield 180, 3), (16, .invokevirtual 201, 3), (19, .ireturn, 1), (20, .iconst 0, 1), (21, .istore_n 1, 1), (22, .iload_n 1, 1), (23, .sipush 200, 3), (26, .if_icmp .ge 15, 3), (29, .aload_n 0, 1), (30, .iload_n 1, 1), (31, .iconst 0, 1), (32, .invokevirtual 99, 3), (35, .iinc 1 1, 3), (38, .goto (-16), 3), (41, .aload_n 0, 1), (42, .iconst 0, 1), (43, .putfield 214, 3), (46, .aload_n 0, 1), (47, .bipush 59, 2), (49, .invokevirtual 239, 3), (52, .ifCond .ne 5, 3), (55, .iconst 0, 1), (56, .ireturn, 1), (57, .aload_n 0, 1), (58, .invokevirtual 186, 3), (61, .iconst (-1), 1), (62, .if_icmp .eq 67, 3), (65, .aload_n 0, 1), (66, .getfield 180, 3), (69, .istore_n 1, 1), (70, .aload_n 0, 1), (71, .ldc 242, 2), (73, .invokevirtual 235, 3), (76, .ifCond .eq 11, 3), (79, .aload_n 0, 1), (80, .iload_n 1, 1), (81, .invokevirtual 244, 3), (84, .goto 26, 3), (87, .aload_n 0, 1), (88, .ldc 247, 2), (90, .invokevirtual 235, 3), (93, .ifCond .eq 10, 3), (96, .aload_n 0, 1), (97, .invokevirtual 249, 3), (100, .goto 10, 3), (103, .aload_n 0, 1), (104, .bipush (-2), 2), (106, .iload_n 1, 1), (107, .invokevirtual 201, 3), (110, .istore_n 2, 1), (111, .iload_n 2, 1), (112, .ifCond .eq 12, 3), (115, .aload_n 0, 1), (116, .bipush 59, 2), (118, .invokevirtual 239, 3), (121, .ifCond .ne 5, 3), (124, .iconst 0, 1), (125, .ireturn, 1), (126, .goto (-69), 3), (129, .aload_n 0, 1), (130, .getfield 214, 3), (133, .ifCond .ne 7, 3), (136, .aload_n 0, 1), (137, .invokevirtual 224, 3), (140, .iconst 1, 1), (141, .ireturn, 1)]
def z_X7_readsText : fm_Y := (yX7_readsText, RX7, cX7_readsText, 3, (some .boolean), k_X7_readsText, 11, 287)
theorem o_X7_readsText : fm_dec z_X7_readsText := (by decide +kernel : ∀ q ∈ k_X7_readsText, decode cX7_readsText q.1 = .ok q.2)
theorem cw_X7_readsText : fm_cwV z_X7_readsText := ⟨⟨lw_in 1116 (by decide +kernel) (by decide +kernel), lw_in 99 (by decide +kernel) (by decide +kernel), by decide, by decide⟩, lw_in 1115 (by decide +kernel) (by decide +kernel), lw_in 31 (by decide +kernel) (by decide +kernel)⟩
theorem pn_X7_readsText : (parseMethodDescriptor z_X7_readsText.1.desc).map (fun d => d.parameters.length) = some 0 := by decide +kernel
def f_X7_readsText_140 (P : Nat)  (M : fm_Mem) : Option (Int32 × fm_Mem) := some (((1 : Int32), M))
set_option maxRecDepth 100000 in
set_option maxHeartbeats 4000000 in
theorem t_X7_readsText_140 (g : fm_G) (l : Launch) (hl : l.stackTraces = false) (P : Nat) (hP : fm_kd g P = 7) (w : fm_W) (M0 : fm_Mem)    (M : fm_Mem) : Tt g l z_X7_readsText (emIw M0 w) (f_X7_readsText_140 P   M) 140 [] [] (M, w) := by
  rw [f_X7_readsText_140]
  refine Tt.go (fun _ => Tr.run 1 (pc' := 141) (lv' := []) (st' := [.int (1 : Int32)]) rfl) ?_
  exact Tt.ret (Tr.zret rfl rfl fm_bo1)
def f_X7_readsText_124 (P : Nat)  (M : fm_Mem) : Option (Int32 × fm_Mem) := some (((0 : Int32), M))
set_option maxRecDepth 100000 in
set_option maxHeartbeats 4000000 in
theorem t_X7_readsText_124 (g : fm_G) (l : Launch) (hl : l.stackTraces = false) (P : Nat) (hP : fm_kd g P = 7) (w : fm_W) (M0 : fm_Mem)    (M : fm_Mem) : Tt g l z_X7_readsText (emIw M0 w) (f_X7_readsText_124 P   M) 124 [] [] (M, w) := by
  rw [f_X7_readsText_124]
  refine Tt.go (fun _ => Tr.run 1 (pc' := 125) (lv' := []) (st' := [.int (0 : Int32)]) rfl) ?_
  exact Tt.ret (Tr.zret rfl rfl fm_bo0)
def f_X7_readsText_110 (P : Nat) (k57 : fm_Mem → Option (Int32 × fm_Mem)) (s0 : Int32) (M : fm_Mem) : Option (Int32 × fm_Mem) := if s0 = 0 then (f_X7_readsText_124 P M) else (Option.bind (f_X7_sign P (59 : Int32) M) (fun v1 => if v1.1 = 0 then (f_X7_readsText_124 P v1.2) else (k57 v1.2)))
set_option maxRecDepth 100000 in
set_option maxHeartbeats 4000000 in
theorem t_X7_readsText_110 (g : fm_G) (l : Launch) (hl : l.stackTraces = false) (P : Nat) (hP : fm_kd g P = 7) (w : fm_W) (M0 : fm_Mem) (k57 : fm_Mem → Option (Int32 × fm_Mem)) (hk57 : ∀  (M : fm_Mem), Tt g l z_X7_readsText (emIw M0 w) (k57  M) 57 [(0, .ref P)] [] (M, w)) (s0 : Int32)  (M : fm_Mem) : Tt g l z_X7_readsText (emIw M0 w) (f_X7_readsText_110 P k57 s0 M) 110 [(0, .ref P)] [.int s0] (M, w) := by
  rw [f_X7_readsText_110]
  refine Tt.go (fun _ => Tr.run 2 (pc' := 112) (lv' := [(2, .int s0), (0, .ref P)]) (st' := [.int s0]) rfl) ?_
  refine Tt.if_eq (tgt := 124) rfl (by decide) ?_ ?_
  · refine Tt.go (fun _ => Tr.sub (lv' := []) [] rfl) ?_
    exact t_X7_readsText_124 g l hl P hP w M0 M
  · refine Tt.go (fun _ => Tr.run 2 (pc' := 118) (lv' := [(2, .int s0), (0, .ref P)]) (st' := [.int (59 : Int32), .ref P]) rfl) ?_
    refine Tt.callV (As := [.int (59 : Int32)]) (rest := []) (c_X7_sign g l hl P (59 : Int32) hP M w) hP (by decide) rfl rfl cw_X7_sign fw1139 pn_X7_sign (Nat.le_of_ble_eq_true rfl) (Nat.le_of_ble_eq_true rfl) (Nat.le_of_ble_eq_true rfl) rfl (fun v1 => (?_ : Tt g l z_X7_readsText (emIw M0 w) _ 121 [(2, .int s0), (0, .ref P)] [.int v1.1] (v1.2, w)))
    refine Tt.if_ne (tgt := 126) rfl (by decide) ?_ ?_
    · refine Tt.go (fun _ => Tr.sub (lv' := []) [] rfl) ?_
      exact t_X7_readsText_124 g l hl P hP w M0 v1.2
    · refine Tt.go (fun _ => Tr.run 1 (pc' := 57) (lv' := [(2, .int s0), (0, .ref P)]) (st' := []) rfl) ?_
      refine Tt.go (fun _ => Tr.sub (lv' := [(0, .ref P)]) [1] rfl) ?_
      exact hk57 v1.2
def f_X7_readsText_57 (P : Nat) : Nat → fm_Mem → Option (Int32 × fm_Mem)
  | 0, _ => none
  | n + 1, M => Option.bind (f_X7_here P M) (fun v1 => if v1.1 = (-1 : Int32) then (if (v1.2 P 18) = 0 then (Option.bind (f_X7_drawsAnew P v1.2) (fun v2 => (f_X7_readsText_140 P v2))) else (f_X7_readsText_140 P v1.2)) else (Option.bind (f_X7_takes P 4 v1.2) (fun v3 => if v3.1 = 0 then (Option.bind (f_X7_takes P 5 v3.2) (fun v4 => if v4.1 = 0 then (Option.bind (f_X7_fails P (-2 : Int32) (v1.2 P 13) v4.2) (fun v5 => (f_X7_readsText_110 P (fun M => f_X7_readsText_57 P n M) v5.1 v5.2))) else (Option.bind (f_X7_readsFlip P v4.2) (fun v6 => (f_X7_readsText_110 P (fun M => f_X7_readsText_57 P n M) v6.1 v6.2))))) else (Option.bind (f_X7_readsPoints P (v1.2 P 13) v3.2) (fun v7 => (f_X7_readsText_110 P (fun M => f_X7_readsText_57 P n M) v7.1 v7.2))))))
set_option maxRecDepth 100000 in
set_option maxHeartbeats 4000000 in
theorem t_X7_readsText_57 (g : fm_G) (l : Launch) (hl : l.stackTraces = false) (P : Nat) (hP : fm_kd g P = 7) (w : fm_W) (M0 : fm_Mem)  : ∀ (n : Nat)   (M : fm_Mem), Tt g l z_X7_readsText (emIw M0 w) (f_X7_readsText_57 P  n  M) 57 [(0, .ref P)] [] (M, w) := by
  intro n
  induction n with
  | zero => intros; exact Tt.none
  | succ n ih =>
    intro   M
    rw [f_X7_readsText_57]
    refine Tt.go (fun _ => Tr.run 1 (pc' := 58) (lv' := [(0, .ref P)]) (st' := [.ref P]) rfl) ?_
    refine Tt.callV (As := []) (rest := []) (c_X7_here g l hl P hP M w) hP (by decide) rfl rfl cw_X7_here fw1122 pn_X7_here (Nat.le_of_ble_eq_true rfl) (Nat.le_of_ble_eq_true rfl) (Nat.le_of_ble_eq_true rfl) rfl (fun v1 => (?_ : Tt g l z_X7_readsText (emIw M0 w) _ 61 [(0, .ref P)] [.int v1.1] (v1.2, w)))
    refine Tt.go (fun _ => Tr.run 1 (pc' := 62) (lv' := [(0, .ref P)]) (st' := [.int (-1 : Int32), .int v1.1]) rfl) ?_
    refine Tt.ic_eq (tgt := 129) rfl (by decide) ?_ ?_
    · refine Tt.go (fun _ => Tr.run 1 (pc' := 130) (lv' := [(0, .ref P)]) (st' := [.ref P]) rfl) ?_
      refine Tt.go (fun _ => Tr.get fmc7 hP rfl fw1042 (k := 18) (by decide) rfl) (?_ : Tt g l z_X7_readsText (emIw M0 w) _ 133 [(0, .ref P)] [.int (v1.2 P 18)] (v1.2, w))
      refine Tt.if_ne (tgt := 140) rfl (by decide) ?_ ?_
      · refine Tt.go (fun _ => Tr.run 1 (pc' := 137) (lv' := [(0, .ref P)]) (st' := [.ref P]) rfl) ?_
        refine Tt.callV (As := []) (rest := []) (c_X7_drawsAnew g l hl P hP v1.2 w) hP (by decide) rfl rfl cw_X7_drawsAnew fw1177 pn_X7_drawsAnew (Nat.le_of_ble_eq_true rfl) (Nat.le_of_ble_eq_true rfl) (Nat.le_of_ble_eq_true rfl) rfl (fun v2 => (?_ : Tt g l z_X7_readsText (emIw M0 w) _ 140 [(0, .ref P)] [] (v2, w)))
        refine Tt.go (fun _ => Tr.sub (lv' := []) [] rfl) ?_
        exact t_X7_readsText_140 g l hl P hP w M0 v2
      · refine Tt.go (fun _ => Tr.sub (lv' := []) [] rfl) ?_
        exact t_X7_readsText_140 g l hl P hP w M0 v1.2
    · refine Tt.go (fun _ => Tr.run 1 (pc' := 66) (lv' := [(0, .ref P)]) (st' := [.ref P]) rfl) ?_
      refine Tt.go (fun _ => Tr.get fmc7 hP rfl fw1037 (k := 13) (by decide) rfl) (?_ : Tt g l z_X7_readsText (emIw M0 w) _ 69 [(0, .ref P)] [.int (v1.2 P 13)] (v1.2, w))
      refine Tt.go (fun _ => Tr.run 2 (pc' := 71) (lv' := [(1, .int (v1.2 P 13)), (0, .ref P)]) (st' := [.ref P]) rfl) ?_
      refine Tt.go (fun _ => Tr.ldcS (i := 4) rfl rfl) (?_ : Tt g l z_X7_readsText (emIw M0 w) _ 73 [(1, .int (v1.2 P 13)), (0, .ref P)] [.ref (g.2.2.2.1 4), .ref P] (v1.2, w))
      refine Tt.callV (As := [.ref (g.2.2.2.1 4)]) (rest := []) (c_X7_takes g l hl P 4 hP (by decide) v1.2 w) hP (by decide) rfl rfl cw_X7_takes fw1118 pn_X7_takes (Nat.le_of_ble_eq_true rfl) (Nat.le_of_ble_eq_true rfl) (Nat.le_of_ble_eq_true rfl) rfl (fun v3 => (?_ : Tt g l z_X7_readsText (emIw M0 w) _ 76 [(1, .int (v1.2 P 13)), (0, .ref P)] [.int v3.1] (v3.2, w)))
      refine Tt.if_eq (tgt := 87) rfl (by decide) ?_ ?_
      · refine Tt.go (fun _ => Tr.run 1 (pc' := 88) (lv' := [(1, .int (v1.2 P 13)), (0, .ref P)]) (st' := [.ref P]) rfl) ?_
        refine Tt.go (fun _ => Tr.ldcS (i := 5) rfl rfl) (?_ : Tt g l z_X7_readsText (emIw M0 w) _ 90 [(1, .int (v1.2 P 13)), (0, .ref P)] [.ref (g.2.2.2.1 5), .ref P] (v3.2, w))
        refine Tt.callV (As := [.ref (g.2.2.2.1 5)]) (rest := []) (c_X7_takes g l hl P 5 hP (by decide) v3.2 w) hP (by decide) rfl rfl cw_X7_takes fw1118 pn_X7_takes (Nat.le_of_ble_eq_true rfl) (Nat.le_of_ble_eq_true rfl) (Nat.le_of_ble_eq_true rfl) rfl (fun v4 => (?_ : Tt g l z_X7_readsText (emIw M0 w) _ 93 [(1, .int (v1.2 P 13)), (0, .ref P)] [.int v4.1] (v4.2, w)))
        refine Tt.if_eq (tgt := 103) rfl (by decide) ?_ ?_
        · refine Tt.go (fun _ => Tr.run 3 (pc' := 107) (lv' := [(1, .int (v1.2 P 13)), (0, .ref P)]) (st' := [.int (v1.2 P 13), .int (-2 : Int32), .ref P]) rfl) ?_
          refine Tt.callV (As := [.int (-2 : Int32), .int (v1.2 P 13)]) (rest := []) (c_X7_fails g l hl P (-2 : Int32) (v1.2 P 13) hP v4.2 w) hP (by decide) rfl rfl cw_X7_fails fw1131 pn_X7_fails (Nat.le_of_ble_eq_true rfl) (Nat.le_of_ble_eq_true rfl) (Nat.le_of_ble_eq_true rfl) rfl (fun v5 => (?_ : Tt g l z_X7_readsText (emIw M0 w) _ 110 [(1, .int (v1.2 P 13)), (0, .ref P)] [.int v5.1] (v5.2, w)))
          refine Tt.go (fun _ => Tr.sub (lv' := [(0, .ref P)]) [1] rfl) ?_
          exact t_X7_readsText_110 g l hl P hP w M0 _ ih v5.1 v5.2
        · refine Tt.go (fun _ => Tr.run 1 (pc' := 97) (lv' := [(1, .int (v1.2 P 13)), (0, .ref P)]) (st' := [.ref P]) rfl) ?_
          refine Tt.callV (As := []) (rest := []) (c_X7_readsFlip g l hl P hP v4.2 w) hP (by decide) rfl rfl cw_X7_readsFlip fw1173 pn_X7_readsFlip (Nat.le_of_ble_eq_true rfl) (Nat.le_of_ble_eq_true rfl) (Nat.le_of_ble_eq_true rfl) rfl (fun v6 => (?_ : Tt g l z_X7_readsText (emIw M0 w) _ 100 [(1, .int (v1.2 P 13)), (0, .ref P)] [.int v6.1] (v6.2, w)))
          refine Tt.go (fun _ => Tr.run 1 (pc' := 110) (lv' := [(1, .int (v1.2 P 13)), (0, .ref P)]) (st' := [.int v6.1]) rfl) ?_
          refine Tt.go (fun _ => Tr.sub (lv' := [(0, .ref P)]) [1] rfl) ?_
          exact t_X7_readsText_110 g l hl P hP w M0 _ ih v6.1 v6.2
      · refine Tt.go (fun _ => Tr.run 2 (pc' := 81) (lv' := [(1, .int (v1.2 P 13)), (0, .ref P)]) (st' := [.int (v1.2 P 13), .ref P]) rfl) ?_
        refine Tt.callV (As := [.int (v1.2 P 13)]) (rest := []) (c_X7_readsPoints g l hl P (v1.2 P 13) hP v3.2 w) hP (by decide) rfl rfl cw_X7_readsPoints fw1144 pn_X7_readsPoints (Nat.le_of_ble_eq_true rfl) (Nat.le_of_ble_eq_true rfl) (Nat.le_of_ble_eq_true rfl) rfl (fun v7 => (?_ : Tt g l z_X7_readsText (emIw M0 w) _ 84 [(1, .int (v1.2 P 13)), (0, .ref P)] [.int v7.1] (v7.2, w)))
        refine Tt.go (fun _ => Tr.run 1 (pc' := 110) (lv' := [(1, .int (v1.2 P 13)), (0, .ref P)]) (st' := [.int v7.1]) rfl) ?_
        refine Tt.go (fun _ => Tr.sub (lv' := [(0, .ref P)]) [1] rfl) ?_
        exact t_X7_readsText_110 g l hl P hP w M0 _ ih v7.1 v7.2
def f_X7_readsText_22 (P : Nat) : Nat → Int32 → fm_Mem → Option (Int32 × fm_Mem)
  | 0, _, _ => none
  | n + 1, x1, M => if (200 : Int32) ≤ x1 then (Option.bind (f_X7_sign P (59 : Int32) (fm_up M P 18 (0 : Int32))) (fun v1 => if v1.1 = 0 then (some (((0 : Int32), v1.2))) else (f_X7_readsText_57 P fm_fuel v1.2))) else (Option.bind (f_X7_put0 P x1 (0 : Int32) M) (fun v2 => (f_X7_readsText_22 P n (x1 + (1 : Int32)) v2)))
set_option maxRecDepth 100000 in
set_option maxHeartbeats 4000000 in
theorem t_X7_readsText_22 (g : fm_G) (l : Launch) (hl : l.stackTraces = false) (P : Nat) (hP : fm_kd g P = 7) (w : fm_W) (M0 : fm_Mem)  : ∀ (n : Nat) (x1 : Int32)  (M : fm_Mem), Tt g l z_X7_readsText (emIw M0 w) (f_X7_readsText_22 P  n x1 M) 22 [(0, .ref P), (1, .int x1)] [] (M, w) := by
  intro n
  induction n with
  | zero => intros; exact Tt.none
  | succ n ih =>
    intro x1  M
    rw [f_X7_readsText_22]
    refine Tt.go (fun _ => Tr.run 2 (pc' := 26) (lv' := [(0, .ref P), (1, .int x1)]) (st' := [.int (200 : Int32), .int x1]) rfl) ?_
    refine Tt.ic_ge (tgt := 41) rfl (by decide) ?_ ?_
    · refine Tt.go (fun _ => Tr.run 2 (pc' := 43) (lv' := [(0, .ref P), (1, .int x1)]) (st' := [.int (0 : Int32), .ref P]) rfl) ?_
      refine Tt.go (fun _ => Tr.put fmc7 hP rfl fw1042 (k := 18) (by decide) rfl rfl (fm_bo_nar (by decide))) (?_ : Tt g l z_X7_readsText (emIw M0 w) _ 46 [(0, .ref P), (1, .int x1)] [] ((fm_up M P 18 (0 : Int32)), w))
      refine Tt.go (fun _ => Tr.run 2 (pc' := 49) (lv' := [(0, .ref P), (1, .int x1)]) (st' := [.int (59 : Int32), .ref P]) rfl) ?_
      refine Tt.callV (As := [.int (59 : Int32)]) (rest := []) (c_X7_sign g l hl P (59 : Int32) hP (fm_up M P 18 (0 : Int32)) w) hP (by decide) rfl rfl cw_X7_sign fw1139 pn_X7_sign (Nat.le_of_ble_eq_true rfl) (Nat.le_of_ble_eq_true rfl) (Nat.le_of_ble_eq_true rfl) rfl (fun v1 => (?_ : Tt g l z_X7_readsText (emIw M0 w) _ 52 [(0, .ref P), (1, .int x1)] [.int v1.1] (v1.2, w)))
      refine Tt.if_ne (tgt := 57) rfl (by decide) ?_ ?_
      · refine Tt.go (fun _ => Tr.run 1 (pc' := 56) (lv' := [(0, .ref P), (1, .int x1)]) (st' := [.int (0 : Int32)]) rfl) ?_
        exact Tt.ret (Tr.zret rfl rfl fm_bo0)
      · refine Tt.go (fun _ => Tr.sub (lv' := [(0, .ref P)]) [0] rfl) ?_
        exact t_X7_readsText_57 g l hl P hP w M0 fm_fuel v1.2
    · refine Tt.go (fun _ => Tr.run 3 (pc' := 32) (lv' := [(0, .ref P), (1, .int x1)]) (st' := [.int (0 : Int32), .int x1, .ref P]) rfl) ?_
      refine Tt.callV (As := [.int x1, .int (0 : Int32)]) (rest := []) (c_X7_put0 g l hl P x1 (0 : Int32) hP M w) hP (by decide) rfl rfl cw_X7_put0 fw1135 pn_X7_put0 (Nat.le_of_ble_eq_true rfl) (Nat.le_of_ble_eq_true rfl) (Nat.le_of_ble_eq_true rfl) rfl (fun v2 => (?_ : Tt g l z_X7_readsText (emIw M0 w) _ 35 [(0, .ref P), (1, .int x1)] [] (v2, w)))
      refine Tt.go (fun _ => Tr.run 2 (pc' := 22) (lv' := [(1, .int (x1 + (1 : Int32))), (0, .ref P)]) (st' := []) rfl) ?_
      refine Tt.go (fun _ => Tr.sub (lv' := [(0, .ref P), (1, .int (x1 + (1 : Int32)))]) [1, 0] rfl) ?_
      exact ih (x1 + (1 : Int32)) v2
def f_X7_readsText (P : Nat) (M : fm_Mem) : Option (Int32 × fm_Mem) := Option.bind (f_X7_takes P 3 M) (fun v1 => if v1.1 = 0 then (Option.bind (f_X7_fails P (-2 : Int32) (v1.2 P 13) v1.2) (fun v2 => fm_ck (fm_bo v2.1) (some ((v2.1, v2.2))))) else (f_X7_readsText_22 P fm_fuel (0 : Int32) v1.2))
set_option maxRecDepth 100000 in
set_option maxHeartbeats 4000000 in
theorem t_X7_readsText (g : fm_G) (l : Launch) (hl : l.stackTraces = false) (P : Nat) (hP : fm_kd g P = 7) (M : fm_Mem) (w : fm_W) : Tt g l z_X7_readsText (emIw M w) (f_X7_readsText P M) 0 [(0, .ref P)] [] (M, w) := by
  rw [f_X7_readsText]
  refine Tt.go (fun _ => Tr.run 1 (pc' := 1) (lv' := [(0, .ref P)]) (st' := [.ref P]) rfl) ?_
  refine Tt.go (fun _ => Tr.ldcS (i := 3) rfl rfl) (?_ : Tt g l z_X7_readsText (emIw M w) _ 3 [(0, .ref P)] [.ref (g.2.2.2.1 3), .ref P] (M, w))
  refine Tt.callV (As := [.ref (g.2.2.2.1 3)]) (rest := []) (c_X7_takes g l hl P 3 hP (by decide) M w) hP (by decide) rfl rfl cw_X7_takes fw1118 pn_X7_takes (Nat.le_of_ble_eq_true rfl) (Nat.le_of_ble_eq_true rfl) (Nat.le_of_ble_eq_true rfl) rfl (fun v1 => (?_ : Tt g l z_X7_readsText (emIw M w) _ 6 [(0, .ref P)] [.int v1.1] (v1.2, w)))
  refine Tt.if_ne (tgt := 20) rfl (by decide) ?_ ?_
  · refine Tt.go (fun _ => Tr.run 3 (pc' := 13) (lv' := [(0, .ref P)]) (st' := [.ref P, .int (-2 : Int32), .ref P]) rfl) ?_
    refine Tt.go (fun _ => Tr.get fmc7 hP rfl fw1037 (k := 13) (by decide) rfl) (?_ : Tt g l z_X7_readsText (emIw M w) _ 16 [(0, .ref P)] [.int (v1.2 P 13), .int (-2 : Int32), .ref P] (v1.2, w))
    refine Tt.callV (As := [.int (-2 : Int32), .int (v1.2 P 13)]) (rest := []) (c_X7_fails g l hl P (-2 : Int32) (v1.2 P 13) hP v1.2 w) hP (by decide) rfl rfl cw_X7_fails fw1131 pn_X7_fails (Nat.le_of_ble_eq_true rfl) (Nat.le_of_ble_eq_true rfl) (Nat.le_of_ble_eq_true rfl) rfl (fun v2 => (?_ : Tt g l z_X7_readsText (emIw M w) _ 19 [(0, .ref P)] [.int v2.1] (v2.2, w)))
    exact Tt.ck (fun hb_3 => Tt.ret (Tr.zret rfl rfl hb_3))
  · refine Tt.go (fun _ => Tr.run 2 (pc' := 22) (lv' := [(1, .int (0 : Int32)), (0, .ref P)]) (st' := []) rfl) ?_
    refine Tt.go (fun _ => Tr.sub (lv' := [(0, .ref P), (1, .int (0 : Int32))]) [1, 0] rfl) ?_
    exact t_X7_readsText_22 g l hl P hP w M fm_fuel (0 : Int32) v1.2
theorem c_X7_readsText (g : fm_G) (l : Launch) (hl : l.stackTraces = false) (P : Nat) (hP : fm_kd g P = 7) (M : fm_Mem) (w : fm_W) : ∀ r, f_X7_readsText P M = some r → fC g l z_X7_readsText [.ref P] (M, w) (emIw M w r) := fun r hr => fC.of (by decide) rfl o_X7_readsText hl (Nat.le_of_ble_eq_true rfl) (t_X7_readsText g l hl P hP M w r hr)
def k_X7_load : List (Nat × Instr × Nat) := [(0, .aload_n 0, 1), (1, .iconst 0, 1), (2, .putfield 35, 3), (5, .aload_n 0, 1), (6, .iload_n 1, 1), (7, .iconst 0, 1), (8, .aload_n 0, 1), (9, .getfield 170, 3), (12, .invokestatic 52, 3), (15, .iconst 1, 1), (16, .invokevirtual 252, 3), (19, .ifCond .ne 5, 3), (22, .iconst 0, 1), (23, .ireturn, 1), (24, .aload_n 0, 1), (25, .iload_n 1, 1), (26, .putfield 183, 3), (29, .aload_n 0, 1), (30, .iconst 0, 1), (31, .putfield 180, 3), (34, .aload_n 0, 1), (35, .iconst 0, 1), (36, .putfield 170, 3), (39, .aload_n 0, 1), (40, .iconst 0, 1), (41, .putfield 177, 3), (44, .aload_n 0, 1), (45, .iconst (-1), 1), (46, .putfield 32, 3), (49, .iconst 0, 1), (50, .istore_n 2, 1), (51, .iload_n 2, 1), (52, .sipush 200, 3), (55, .if_icmp .ge 20, 3), (58, .aload_n 0, 1), (59, .getfield 13, 3), (62, .iload_n 2, 1), (63, .aload_n 0, 1), (64, .iload_n 2, 1), (65, .invokevirtual 41, 3), (68, .iastore, 1), (69, .iinc 2 1, 3), (72, .goto (-21), 3), (75, .aload_n 0, 1), (76, .invokevirtual 256, 3), (79, .istore_n 2, 1), (80, .iload_n 2, 1), (81, .ifCond .ne 34, 3), (84, .iconst 0, 1), (85, .istore_n 3, 1), (86, .iload_n 3, 1), (87, .sipush 200, 3), (90, .if_icmp .ge 20, 3), (93, .aload_n 0, 1), (94, .iload_n 3, 1), (95, .aload_n 0, 1), (96, .getfield 13, 3), (99, .iload_n 3, 1), (100, .iaload, 1), (101, .invokevirtual 99, 3), (104, .iinc 3 1, 3), (107, .goto (-21), 3), (110, .aload_n 0, 1), (111, .getfield 177, 3), (114, .ireturn, 1), (115, .aload_n 0, 1), (116, .getfield 38, 3), (119, .iconst 1, 1), (120, .iadd, 1), (121, .bipush 9, 2), (123, .irem, 1), (124, .istore_n 3, 1), (125, .iconst 0, 1), (126, .istore 4, 2), (128, .iload 4, 2), (130, .sipush 200, 3), (133, .if_icmp .ge 41, 3), (136, .aload_n 0, 1), (137, .getfield 7, 3), (140, .sipush 200, 3), (143, .iload_n 3, 1), (144, .imul, 1), (145, .iload 4, 2), (147, .iadd, 1), (148, .aload_n 0, 1), (149, .iload 4, 2), (151, .invokevirtual 41, 3), (154, .iastore, 1), (155, .aload_n 0, 1), (156, .iload 4, 2), (158, .aload_n 0, 1), (159, .getfield 13, 3), (162, .iload 4, 2), (164, .iaload, 1), (165, .invokevirtual 99, 3), (168, .iinc 4 1, 3), (171, .goto (-43), 3), (174, .aload_n 0, 1), (175, .iload_n 3, 1), (176, .putfield 38, 3), (179, .aload_n 0, 1), (180, .aload_n 0, 1), (181, .getfield 45, 3), (184, .bipush 8, 2), (186, .if_icmp .ge 12, 3), (189, .aload_n 0, 1), (190, .getfield 45, 3), (193, .iconst 1, 1), (194, .iadd, 1), (195, .goto 7, 3), (198, .aload_n 0, 1), (199, .getfield 45, 3), (202, .putfield 45, 3), (205, .aload_n 0, 1), (206, .invokevirtual 48, 3), (209, .ireturn, 1)]
def z_X7_load : fm_Y := (yX7_load, RX7, cX7_load, 5, (some .int), k_X7_load, 12, 309)
theorem o_X7_load : fm_dec z_X7_load := (by decide +kernel : ∀ q ∈ k_X7_load, decode cX7_load q.1 = .ok q.2)
theorem cw_X7_load : fm_cwV z_X7_load := ⟨⟨lw_in 1101 (by decide +kernel) (by decide +kernel), lw_in 99 (by decide +kernel) (by decide +kernel), by decide, by decide⟩, lw_in 1099 (by decide +kernel) (by decide +kernel), lw_in 1100 (by decide +kernel) (by decide +kernel)⟩
theorem pn_X7_load : (parseMethodDescriptor z_X7_load.1.desc).map (fun d => d.parameters.length) = some 1 := by decide +kernel
def f_X7_load_202 (P : Nat) (a1 : Int32) (s0 : Int32) (M : fm_Mem) : Option (Int32 × fm_Mem) := Option.bind (f_X7_points P (fm_up M P 4 s0)) (fun v1 => some ((v1, (fm_up M P 4 s0))))
set_option maxRecDepth 100000 in
set_option maxHeartbeats 4000000 in
theorem t_X7_load_202 (g : fm_G) (l : Launch) (hl : l.stackTraces = false) (P : Nat) (a1 : Int32) (hP : fm_kd g P = 7) (w : fm_W) (M0 : fm_Mem)  (s0 : Int32)  (M : fm_Mem) : Tt g l z_X7_load (emIw M0 w) (f_X7_load_202 P a1  s0 M) 202 [(0, .ref P)] [.int s0, .ref P] (M, w) := by
  rw [f_X7_load_202]
  refine Tt.go (fun _ => Tr.put fmc7 hP rfl fw1028 (k := 4) (by decide) rfl rfl ⟨rfl, rfl⟩) (?_ : Tt g l z_X7_load (emIw M0 w) _ 205 [(0, .ref P)] [] ((fm_up M P 4 s0), w))
  refine Tt.go (fun _ => Tr.run 1 (pc' := 206) (lv' := [(0, .ref P)]) (st' := [.ref P]) rfl) ?_
  refine Tt.callV (As := []) (rest := []) (c_X7_points g l hl P hP (fm_up M P 4 s0) w) hP (by decide) rfl rfl cw_X7_points fw1156 pn_X7_points (Nat.le_of_ble_eq_true rfl) (Nat.le_of_ble_eq_true rfl) (Nat.le_of_ble_eq_true rfl) rfl (fun v1 => (?_ : Tt g l z_X7_load (emIw M0 w) _ 209 [(0, .ref P)] [.int v1] ((fm_up M P 4 s0), w)))
  exact Tt.ret (Tr.iret rfl rfl)
def f_X7_load_128 (P : Nat) (a1 : Int32) : Nat → Int32 → Int32 → fm_Mem → Option (Int32 × fm_Mem)
  | 0, _, _, _ => none
  | n + 1, x3, x4, M => if (200 : Int32) ≤ x4 then (if (8 : Int32) ≤ ((fm_up M P 3 x3) P 4) then (f_X7_load_202 P a1 ((fm_up M P 3 x3) P 4) (fm_up M P 3 x3)) else (f_X7_load_202 P a1 (((fm_up M P 3 x3) P 4) + (1 : Int32)) (fm_up M P 3 x3))) else (Option.bind (f_X7_get P x4 M) (fun v1 => fm_ck (fm_in (((200 : Int32) * x3) + x4) 1800) (fm_ck (fm_in x4 200) (Option.bind (f_X7_put0 P x4 ((fm_up M (P + 1) (Int32.toNatClampNeg (((200 : Int32) * x3) + x4)) v1) (P + 2) (Int32.toNatClampNeg x4)) (fm_up M (P + 1) (Int32.toNatClampNeg (((200 : Int32) * x3) + x4)) v1)) (fun v4 => (f_X7_load_128 P a1 n x3 (x4 + (1 : Int32)) v4))))))
set_option maxRecDepth 100000 in
set_option maxHeartbeats 4000000 in
theorem t_X7_load_128 (g : fm_G) (l : Launch) (hl : l.stackTraces = false) (P : Nat) (a1 : Int32) (hP : fm_kd g P = 7) (w : fm_W) (M0 : fm_Mem)  : ∀ (n : Nat) (x3 : Int32) (x4 : Int32)  (M : fm_Mem), Tt g l z_X7_load (emIw M0 w) (f_X7_load_128 P a1  n x3 x4 M) 128 [(0, .ref P), (3, .int x3), (4, .int x4)] [] (M, w) := by
  intro n
  induction n with
  | zero => intros; exact Tt.none
  | succ n ih =>
    intro x3 x4  M
    rw [f_X7_load_128]
    refine Tt.go (fun _ => Tr.run 2 (pc' := 133) (lv' := [(0, .ref P), (3, .int x3), (4, .int x4)]) (st' := [.int (200 : Int32), .int x4]) rfl) ?_
    refine Tt.ic_ge (tgt := 174) rfl (by decide) ?_ ?_
    · refine Tt.go (fun _ => Tr.run 2 (pc' := 176) (lv' := [(0, .ref P), (3, .int x3), (4, .int x4)]) (st' := [.int x3, .ref P]) rfl) ?_
      refine Tt.go (fun _ => Tr.put fmc7 hP rfl fw1027 (k := 3) (by decide) rfl rfl ⟨rfl, rfl⟩) (?_ : Tt g l z_X7_load (emIw M0 w) _ 179 [(0, .ref P), (3, .int x3), (4, .int x4)] [] ((fm_up M P 3 x3), w))
      refine Tt.go (fun _ => Tr.run 2 (pc' := 181) (lv' := [(0, .ref P), (3, .int x3), (4, .int x4)]) (st' := [.ref P, .ref P]) rfl) ?_
      refine Tt.go (fun _ => Tr.get fmc7 hP rfl fw1028 (k := 4) (by decide) rfl) (?_ : Tt g l z_X7_load (emIw M0 w) _ 184 [(0, .ref P), (3, .int x3), (4, .int x4)] [.int ((fm_up M P 3 x3) P 4), .ref P] ((fm_up M P 3 x3), w))
      refine Tt.go (fun _ => Tr.run 1 (pc' := 186) (lv' := [(0, .ref P), (3, .int x3), (4, .int x4)]) (st' := [.int (8 : Int32), .int ((fm_up M P 3 x3) P 4), .ref P]) rfl) ?_
      refine Tt.ic_ge (tgt := 198) rfl (by decide) ?_ ?_
      · refine Tt.go (fun _ => Tr.run 1 (pc' := 199) (lv' := [(0, .ref P), (3, .int x3), (4, .int x4)]) (st' := [.ref P, .ref P]) rfl) ?_
        refine Tt.go (fun _ => Tr.get fmc7 hP rfl fw1028 (k := 4) (by decide) rfl) (?_ : Tt g l z_X7_load (emIw M0 w) _ 202 [(0, .ref P), (3, .int x3), (4, .int x4)] [.int ((fm_up M P 3 x3) P 4), .ref P] ((fm_up M P 3 x3), w))
        refine Tt.go (fun _ => Tr.sub (lv' := [(0, .ref P)]) [0] rfl) ?_
        exact t_X7_load_202 g l hl P a1 hP w M0 ((fm_up M P 3 x3) P 4) (fm_up M P 3 x3)
      · refine Tt.go (fun _ => Tr.run 1 (pc' := 190) (lv' := [(0, .ref P), (3, .int x3), (4, .int x4)]) (st' := [.ref P, .ref P]) rfl) ?_
        refine Tt.go (fun _ => Tr.get fmc7 hP rfl fw1028 (k := 4) (by decide) rfl) (?_ : Tt g l z_X7_load (emIw M0 w) _ 193 [(0, .ref P), (3, .int x3), (4, .int x4)] [.int ((fm_up M P 3 x3) P 4), .ref P] ((fm_up M P 3 x3), w))
        refine Tt.go (fun _ => Tr.run 3 (pc' := 202) (lv' := [(0, .ref P), (3, .int x3), (4, .int x4)]) (st' := [.int (((fm_up M P 3 x3) P 4) + (1 : Int32)), .ref P]) rfl) ?_
        refine Tt.go (fun _ => Tr.sub (lv' := [(0, .ref P)]) [0] rfl) ?_
        exact t_X7_load_202 g l hl P a1 hP w M0 (((fm_up M P 3 x3) P 4) + (1 : Int32)) (fm_up M P 3 x3)
    · refine Tt.go (fun _ => Tr.run 1 (pc' := 137) (lv' := [(0, .ref P), (3, .int x3), (4, .int x4)]) (st' := [.ref P]) rfl) ?_
      refine Tt.go (fun _ => Tr.get fmc7 hP rfl fw1025 (k := 1) (by decide) rfl) (?_ : Tt g l z_X7_load (emIw M0 w) _ 140 [(0, .ref P), (3, .int x3), (4, .int x4)] [.ref (P + 1)] (M, w))
      refine Tt.go (fun _ => Tr.run 7 (pc' := 151) (lv' := [(0, .ref P), (3, .int x3), (4, .int x4)]) (st' := [.int x4, .ref P, .int (((200 : Int32) * x3) + x4), .ref (P + 1)]) rfl) ?_
      refine Tt.callV (As := [.int x4]) (rest := [.int (((200 : Int32) * x3) + x4), .ref (P + 1)]) (c_X7_get g l hl P x4 hP M w) hP (by decide) rfl rfl cw_X7_get fw1109 pn_X7_get (Nat.le_of_ble_eq_true rfl) (Nat.le_of_ble_eq_true rfl) (Nat.le_of_ble_eq_true rfl) rfl (fun v1 => (?_ : Tt g l z_X7_load (emIw M0 w) _ 154 [(0, .ref P), (3, .int x3), (4, .int x4)] [.int v1, .int (((200 : Int32) * x3) + x4), .ref (P + 1)] (M, w)))
      refine Tt.ck (fun hi_2 => ?_)
      refine Tt.go (fun _ => Tr.iast (fmk_7_1 hP) (by decide) hi_2 rfl) (?_ : Tt g l z_X7_load (emIw M0 w) _ 155 [(0, .ref P), (3, .int x3), (4, .int x4)] [] ((fm_up M (P + 1) (Int32.toNatClampNeg (((200 : Int32) * x3) + x4)) v1), w))
      refine Tt.go (fun _ => Tr.run 3 (pc' := 159) (lv' := [(0, .ref P), (3, .int x3), (4, .int x4)]) (st' := [.ref P, .int x4, .ref P]) rfl) ?_
      refine Tt.go (fun _ => Tr.get fmc7 hP rfl fw1026 (k := 2) (by decide) rfl) (?_ : Tt g l z_X7_load (emIw M0 w) _ 162 [(0, .ref P), (3, .int x3), (4, .int x4)] [.ref (P + 2), .int x4, .ref P] ((fm_up M (P + 1) (Int32.toNatClampNeg (((200 : Int32) * x3) + x4)) v1), w))
      refine Tt.go (fun _ => Tr.run 1 (pc' := 164) (lv' := [(0, .ref P), (3, .int x3), (4, .int x4)]) (st' := [.int x4, .ref (P + 2), .int x4, .ref P]) rfl) ?_
      refine Tt.ck (fun hi_3 => ?_)
      refine Tt.go (fun _ => Tr.iald (fmk_7_2 hP) (by decide) hi_3 rfl) (?_ : Tt g l z_X7_load (emIw M0 w) _ 165 [(0, .ref P), (3, .int x3), (4, .int x4)] [.int ((fm_up M (P + 1) (Int32.toNatClampNeg (((200 : Int32) * x3) + x4)) v1) (P + 2) (Int32.toNatClampNeg x4)), .int x4, .ref P] ((fm_up M (P + 1) (Int32.toNatClampNeg (((200 : Int32) * x3) + x4)) v1), w))
      refine Tt.callV (As := [.int x4, .int ((fm_up M (P + 1) (Int32.toNatClampNeg (((200 : Int32) * x3) + x4)) v1) (P + 2) (Int32.toNatClampNeg x4))]) (rest := []) (c_X7_put0 g l hl P x4 ((fm_up M (P + 1) (Int32.toNatClampNeg (((200 : Int32) * x3) + x4)) v1) (P + 2) (Int32.toNatClampNeg x4)) hP (fm_up M (P + 1) (Int32.toNatClampNeg (((200 : Int32) * x3) + x4)) v1) w) hP (by decide) rfl rfl cw_X7_put0 fw1135 pn_X7_put0 (Nat.le_of_ble_eq_true rfl) (Nat.le_of_ble_eq_true rfl) (Nat.le_of_ble_eq_true rfl) rfl (fun v4 => (?_ : Tt g l z_X7_load (emIw M0 w) _ 168 [(0, .ref P), (3, .int x3), (4, .int x4)] [] (v4, w)))
      refine Tt.go (fun _ => Tr.run 2 (pc' := 128) (lv' := [(4, .int (x4 + (1 : Int32))), (0, .ref P), (3, .int x3)]) (st' := []) rfl) ?_
      refine Tt.go (fun _ => Tr.sub (lv' := [(0, .ref P), (3, .int x3), (4, .int (x4 + (1 : Int32)))]) [1, 2, 0] rfl) ?_
      exact ih x3 (x4 + (1 : Int32)) v4
def f_X7_load_86 (P : Nat) (a1 : Int32) : Nat → Int32 → fm_Mem → Option (Int32 × fm_Mem)
  | 0, _, _ => none
  | n + 1, x3, M => if (200 : Int32) ≤ x3 then (some (((M P 14), M))) else (fm_ck (fm_in x3 200) (Option.bind (f_X7_put0 P x3 (M (P + 2) (Int32.toNatClampNeg x3)) M) (fun v2 => (f_X7_load_86 P a1 n (x3 + (1 : Int32)) v2))))
set_option maxRecDepth 100000 in
set_option maxHeartbeats 4000000 in
theorem t_X7_load_86 (g : fm_G) (l : Launch) (hl : l.stackTraces = false) (P : Nat) (a1 : Int32) (hP : fm_kd g P = 7) (w : fm_W) (M0 : fm_Mem)  : ∀ (n : Nat) (x3 : Int32)  (M : fm_Mem), Tt g l z_X7_load (emIw M0 w) (f_X7_load_86 P a1  n x3 M) 86 [(0, .ref P), (3, .int x3)] [] (M, w) := by
  intro n
  induction n with
  | zero => intros; exact Tt.none
  | succ n ih =>
    intro x3  M
    rw [f_X7_load_86]
    refine Tt.go (fun _ => Tr.run 2 (pc' := 90) (lv' := [(0, .ref P), (3, .int x3)]) (st' := [.int (200 : Int32), .int x3]) rfl) ?_
    refine Tt.ic_ge (tgt := 110) rfl (by decide) ?_ ?_
    · refine Tt.go (fun _ => Tr.run 1 (pc' := 111) (lv' := [(0, .ref P), (3, .int x3)]) (st' := [.ref P]) rfl) ?_
      refine Tt.go (fun _ => Tr.get fmc7 hP rfl fw1038 (k := 14) (by decide) rfl) (?_ : Tt g l z_X7_load (emIw M0 w) _ 114 [(0, .ref P), (3, .int x3)] [.int (M P 14)] (M, w))
      exact Tt.ret (Tr.iret rfl rfl)
    · refine Tt.go (fun _ => Tr.run 3 (pc' := 96) (lv' := [(0, .ref P), (3, .int x3)]) (st' := [.ref P, .int x3, .ref P]) rfl) ?_
      refine Tt.go (fun _ => Tr.get fmc7 hP rfl fw1026 (k := 2) (by decide) rfl) (?_ : Tt g l z_X7_load (emIw M0 w) _ 99 [(0, .ref P), (3, .int x3)] [.ref (P + 2), .int x3, .ref P] (M, w))
      refine Tt.go (fun _ => Tr.run 1 (pc' := 100) (lv' := [(0, .ref P), (3, .int x3)]) (st' := [.int x3, .ref (P + 2), .int x3, .ref P]) rfl) ?_
      refine Tt.ck (fun hi_1 => ?_)
      refine Tt.go (fun _ => Tr.iald (fmk_7_2 hP) (by decide) hi_1 rfl) (?_ : Tt g l z_X7_load (emIw M0 w) _ 101 [(0, .ref P), (3, .int x3)] [.int (M (P + 2) (Int32.toNatClampNeg x3)), .int x3, .ref P] (M, w))
      refine Tt.callV (As := [.int x3, .int (M (P + 2) (Int32.toNatClampNeg x3))]) (rest := []) (c_X7_put0 g l hl P x3 (M (P + 2) (Int32.toNatClampNeg x3)) hP M w) hP (by decide) rfl rfl cw_X7_put0 fw1135 pn_X7_put0 (Nat.le_of_ble_eq_true rfl) (Nat.le_of_ble_eq_true rfl) (Nat.le_of_ble_eq_true rfl) rfl (fun v2 => (?_ : Tt g l z_X7_load (emIw M0 w) _ 104 [(0, .ref P), (3, .int x3)] [] (v2, w)))
      refine Tt.go (fun _ => Tr.run 2 (pc' := 86) (lv' := [(3, .int (x3 + (1 : Int32))), (0, .ref P)]) (st' := []) rfl) ?_
      refine Tt.go (fun _ => Tr.sub (lv' := [(0, .ref P), (3, .int (x3 + (1 : Int32)))]) [1, 0] rfl) ?_
      exact ih (x3 + (1 : Int32)) v2
def f_X7_load_51 (P : Nat) (a1 : Int32) : Nat → Int32 → fm_Mem → Option (Int32 × fm_Mem)
  | 0, _, _ => none
  | n + 1, x2, M => if (200 : Int32) ≤ x2 then (Option.bind (f_X7_readsText P M) (fun v1 => if v1.1 = 0 then (f_X7_load_86 P a1 fm_fuel (0 : Int32) v1.2) else (f_X7_load_128 P a1 fm_fuel (fm_rem ((v1.2 P 3) + (1 : Int32)) (9 : Int32)) (0 : Int32) v1.2))) else (Option.bind (f_X7_get P x2 M) (fun v2 => fm_ck (fm_in x2 200) (f_X7_load_51 P a1 n (x2 + (1 : Int32)) (fm_up M (P + 2) (Int32.toNatClampNeg x2) v2))))
set_option maxRecDepth 100000 in
set_option maxHeartbeats 4000000 in
theorem t_X7_load_51 (g : fm_G) (l : Launch) (hl : l.stackTraces = false) (P : Nat) (a1 : Int32) (hP : fm_kd g P = 7) (w : fm_W) (M0 : fm_Mem)  : ∀ (n : Nat) (x2 : Int32)  (M : fm_Mem), Tt g l z_X7_load (emIw M0 w) (f_X7_load_51 P a1  n x2 M) 51 [(0, .ref P), (2, .int x2)] [] (M, w) := by
  intro n
  induction n with
  | zero => intros; exact Tt.none
  | succ n ih =>
    intro x2  M
    rw [f_X7_load_51]
    refine Tt.go (fun _ => Tr.run 2 (pc' := 55) (lv' := [(0, .ref P), (2, .int x2)]) (st' := [.int (200 : Int32), .int x2]) rfl) ?_
    refine Tt.ic_ge (tgt := 75) rfl (by decide) ?_ ?_
    · refine Tt.go (fun _ => Tr.run 1 (pc' := 76) (lv' := [(0, .ref P), (2, .int x2)]) (st' := [.ref P]) rfl) ?_
      refine Tt.callV (As := []) (rest := []) (c_X7_readsText g l hl P hP M w) hP (by decide) rfl rfl cw_X7_readsText fw1113 pn_X7_readsText (Nat.le_of_ble_eq_true rfl) (Nat.le_of_ble_eq_true rfl) (Nat.le_of_ble_eq_true rfl) rfl (fun v1 => (?_ : Tt g l z_X7_load (emIw M0 w) _ 79 [(0, .ref P), (2, .int x2)] [.int v1.1] (v1.2, w)))
      refine Tt.go (fun _ => Tr.run 2 (pc' := 81) (lv' := [(2, .int v1.1), (0, .ref P)]) (st' := [.int v1.1]) rfl) ?_
      refine Tt.if_ne (tgt := 115) rfl (by decide) ?_ ?_
      · refine Tt.go (fun _ => Tr.run 2 (pc' := 86) (lv' := [(3, .int (0 : Int32)), (2, .int v1.1), (0, .ref P)]) (st' := []) rfl) ?_
        refine Tt.go (fun _ => Tr.sub (lv' := [(0, .ref P), (3, .int (0 : Int32))]) [2, 0] rfl) ?_
        exact t_X7_load_86 g l hl P a1 hP w M0 fm_fuel (0 : Int32) v1.2
      · refine Tt.go (fun _ => Tr.run 1 (pc' := 116) (lv' := [(2, .int v1.1), (0, .ref P)]) (st' := [.ref P]) rfl) ?_
        refine Tt.go (fun _ => Tr.get fmc7 hP rfl fw1027 (k := 3) (by decide) rfl) (?_ : Tt g l z_X7_load (emIw M0 w) _ 119 [(2, .int v1.1), (0, .ref P)] [.int (v1.2 P 3)] (v1.2, w))
        refine Tt.go (fun _ => Tr.run 3 (pc' := 123) (lv' := [(2, .int v1.1), (0, .ref P)]) (st' := [.int (9 : Int32), .int ((v1.2 P 3) + (1 : Int32))]) rfl) ?_
        refine Tt.go (fun _ => Tr.irem rfl (by decide)) (?_ : Tt g l z_X7_load (emIw M0 w) _ 124 [(2, .int v1.1), (0, .ref P)] [.int (fm_rem ((v1.2 P 3) + (1 : Int32)) (9 : Int32))] (v1.2, w))
        refine Tt.go (fun _ => Tr.run 3 (pc' := 128) (lv' := [(4, .int (0 : Int32)), (3, .int (fm_rem ((v1.2 P 3) + (1 : Int32)) (9 : Int32))), (2, .int v1.1), (0, .ref P)]) (st' := []) rfl) ?_
        refine Tt.go (fun _ => Tr.sub (lv' := [(0, .ref P), (3, .int (fm_rem ((v1.2 P 3) + (1 : Int32)) (9 : Int32))), (4, .int (0 : Int32))]) [3, 1, 0] rfl) ?_
        exact t_X7_load_128 g l hl P a1 hP w M0 fm_fuel (fm_rem ((v1.2 P 3) + (1 : Int32)) (9 : Int32)) (0 : Int32) v1.2
    · refine Tt.go (fun _ => Tr.run 1 (pc' := 59) (lv' := [(0, .ref P), (2, .int x2)]) (st' := [.ref P]) rfl) ?_
      refine Tt.go (fun _ => Tr.get fmc7 hP rfl fw1026 (k := 2) (by decide) rfl) (?_ : Tt g l z_X7_load (emIw M0 w) _ 62 [(0, .ref P), (2, .int x2)] [.ref (P + 2)] (M, w))
      refine Tt.go (fun _ => Tr.run 3 (pc' := 65) (lv' := [(0, .ref P), (2, .int x2)]) (st' := [.int x2, .ref P, .int x2, .ref (P + 2)]) rfl) ?_
      refine Tt.callV (As := [.int x2]) (rest := [.int x2, .ref (P + 2)]) (c_X7_get g l hl P x2 hP M w) hP (by decide) rfl rfl cw_X7_get fw1109 pn_X7_get (Nat.le_of_ble_eq_true rfl) (Nat.le_of_ble_eq_true rfl) (Nat.le_of_ble_eq_true rfl) rfl (fun v2 => (?_ : Tt g l z_X7_load (emIw M0 w) _ 68 [(0, .ref P), (2, .int x2)] [.int v2, .int x2, .ref (P + 2)] (M, w)))
      refine Tt.ck (fun hi_3 => ?_)
      refine Tt.go (fun _ => Tr.iast (fmk_7_2 hP) (by decide) hi_3 rfl) (?_ : Tt g l z_X7_load (emIw M0 w) _ 69 [(0, .ref P), (2, .int x2)] [] ((fm_up M (P + 2) (Int32.toNatClampNeg x2) v2), w))
      refine Tt.go (fun _ => Tr.run 2 (pc' := 51) (lv' := [(2, .int (x2 + (1 : Int32))), (0, .ref P)]) (st' := []) rfl) ?_
      refine Tt.go (fun _ => Tr.sub (lv' := [(0, .ref P), (2, .int (x2 + (1 : Int32)))]) [1, 0] rfl) ?_
      exact ih (x2 + (1 : Int32)) (fm_up M (P + 2) (Int32.toNatClampNeg x2) v2)
def f_X7_load (P : Nat) (a1 : Int32) (M : fm_Mem) : Option (Int32 × fm_Mem) := Option.bind (f_X7_isIn a1 (0 : Int32) ((fm_up M P 0 (0 : Int32)) P 11) (fm_up M P 0 (0 : Int32))) (fun v1 => Option.bind (f_X7_right P v1 (1 : Int32) (fm_up M P 0 (0 : Int32))) (fun v2 => if v2.1 = 0 then (some (((0 : Int32), v2.2))) else (f_X7_load_51 P a1 fm_fuel (0 : Int32) (fm_up (fm_up (fm_up (fm_up (fm_up v2.2 P 12 a1) P 13 (0 : Int32)) P 11 (0 : Int32)) P 14 (0 : Int32)) P 15 (-1 : Int32)))))
set_option maxRecDepth 100000 in
set_option maxHeartbeats 4000000 in
theorem t_X7_load (g : fm_G) (l : Launch) (hl : l.stackTraces = false) (P : Nat) (a1 : Int32) (hP : fm_kd g P = 7) (M : fm_Mem) (w : fm_W) : Tt g l z_X7_load (emIw M w) (f_X7_load P a1 M) 0 [(0, .ref P), (1, .int a1)] [] (M, w) := by
  rw [f_X7_load]
  refine Tt.go (fun _ => Tr.run 2 (pc' := 2) (lv' := [(0, .ref P), (1, .int a1)]) (st' := [.int (0 : Int32), .ref P]) rfl) ?_
  refine Tt.go (fun _ => Tr.put fmc7 hP rfl fw1024 (k := 0) (by decide) rfl rfl ⟨rfl, rfl⟩) (?_ : Tt g l z_X7_load (emIw M w) _ 5 [(0, .ref P), (1, .int a1)] [] ((fm_up M P 0 (0 : Int32)), w))
  refine Tt.go (fun _ => Tr.run 4 (pc' := 9) (lv' := [(0, .ref P), (1, .int a1)]) (st' := [.ref P, .int (0 : Int32), .int a1, .ref P]) rfl) ?_
  refine Tt.go (fun _ => Tr.get fmc7 hP rfl fw1035 (k := 11) (by decide) rfl) (?_ : Tt g l z_X7_load (emIw M w) _ 12 [(0, .ref P), (1, .int a1)] [.int ((fm_up M P 0 (0 : Int32)) P 11), .int (0 : Int32), .int a1, .ref P] ((fm_up M P 0 (0 : Int32)), w))
  refine Tt.callS (As := [.int a1, .int (0 : Int32), .int ((fm_up M P 0 (0 : Int32)) P 11)]) (rest := [.ref P]) (c_X7_isIn g l hl a1 (0 : Int32) ((fm_up M P 0 (0 : Int32)) P 11) (fm_up M P 0 (0 : Int32)) w) rfl cw_X7_isIn fw1102 pn_X7_isIn (Nat.le_of_ble_eq_true rfl) (Nat.le_of_ble_eq_true rfl) (Nat.le_of_ble_eq_true rfl) rfl (fun v1 => (?_ : Tt g l z_X7_load (emIw M w) _ 15 [(0, .ref P), (1, .int a1)] [.int v1, .ref P] ((fm_up M P 0 (0 : Int32)), w)))
  refine Tt.go (fun _ => Tr.run 1 (pc' := 16) (lv' := [(0, .ref P), (1, .int a1)]) (st' := [.int (1 : Int32), .int v1, .ref P]) rfl) ?_
  refine Tt.callV (As := [.int v1, .int (1 : Int32)]) (rest := []) (c_X7_right g l hl P v1 (1 : Int32) hP (fm_up M P 0 (0 : Int32)) w) hP (by decide) rfl rfl cw_X7_right fw1105 pn_X7_right (Nat.le_of_ble_eq_true rfl) (Nat.le_of_ble_eq_true rfl) (Nat.le_of_ble_eq_true rfl) rfl (fun v2 => (?_ : Tt g l z_X7_load (emIw M w) _ 19 [(0, .ref P), (1, .int a1)] [.int v2.1] (v2.2, w)))
  refine Tt.if_ne (tgt := 24) rfl (by decide) ?_ ?_
  · refine Tt.go (fun _ => Tr.run 1 (pc' := 23) (lv' := [(0, .ref P), (1, .int a1)]) (st' := [.int (0 : Int32)]) rfl) ?_
    exact Tt.ret (Tr.iret rfl rfl)
  · refine Tt.go (fun _ => Tr.run 2 (pc' := 26) (lv' := [(0, .ref P), (1, .int a1)]) (st' := [.int a1, .ref P]) rfl) ?_
    refine Tt.go (fun _ => Tr.put fmc7 hP rfl fw1036 (k := 12) (by decide) rfl rfl ⟨rfl, rfl⟩) (?_ : Tt g l z_X7_load (emIw M w) _ 29 [(0, .ref P), (1, .int a1)] [] ((fm_up v2.2 P 12 a1), w))
    refine Tt.go (fun _ => Tr.run 2 (pc' := 31) (lv' := [(0, .ref P), (1, .int a1)]) (st' := [.int (0 : Int32), .ref P]) rfl) ?_
    refine Tt.go (fun _ => Tr.put fmc7 hP rfl fw1037 (k := 13) (by decide) rfl rfl ⟨rfl, rfl⟩) (?_ : Tt g l z_X7_load (emIw M w) _ 34 [(0, .ref P), (1, .int a1)] [] ((fm_up (fm_up v2.2 P 12 a1) P 13 (0 : Int32)), w))
    refine Tt.go (fun _ => Tr.run 2 (pc' := 36) (lv' := [(0, .ref P), (1, .int a1)]) (st' := [.int (0 : Int32), .ref P]) rfl) ?_
    refine Tt.go (fun _ => Tr.put fmc7 hP rfl fw1035 (k := 11) (by decide) rfl rfl ⟨rfl, rfl⟩) (?_ : Tt g l z_X7_load (emIw M w) _ 39 [(0, .ref P), (1, .int a1)] [] ((fm_up (fm_up (fm_up v2.2 P 12 a1) P 13 (0 : Int32)) P 11 (0 : Int32)), w))
    refine Tt.go (fun _ => Tr.run 2 (pc' := 41) (lv' := [(0, .ref P), (1, .int a1)]) (st' := [.int (0 : Int32), .ref P]) rfl) ?_
    refine Tt.go (fun _ => Tr.put fmc7 hP rfl fw1038 (k := 14) (by decide) rfl rfl ⟨rfl, rfl⟩) (?_ : Tt g l z_X7_load (emIw M w) _ 44 [(0, .ref P), (1, .int a1)] [] ((fm_up (fm_up (fm_up (fm_up v2.2 P 12 a1) P 13 (0 : Int32)) P 11 (0 : Int32)) P 14 (0 : Int32)), w))
    refine Tt.go (fun _ => Tr.run 2 (pc' := 46) (lv' := [(0, .ref P), (1, .int a1)]) (st' := [.int (-1 : Int32), .ref P]) rfl) ?_
    refine Tt.go (fun _ => Tr.put fmc7 hP rfl fw1039 (k := 15) (by decide) rfl rfl ⟨rfl, rfl⟩) (?_ : Tt g l z_X7_load (emIw M w) _ 49 [(0, .ref P), (1, .int a1)] [] ((fm_up (fm_up (fm_up (fm_up (fm_up v2.2 P 12 a1) P 13 (0 : Int32)) P 11 (0 : Int32)) P 14 (0 : Int32)) P 15 (-1 : Int32)), w))
    refine Tt.go (fun _ => Tr.run 2 (pc' := 51) (lv' := [(2, .int (0 : Int32)), (0, .ref P), (1, .int a1)]) (st' := []) rfl) ?_
    refine Tt.go (fun _ => Tr.sub (lv' := [(0, .ref P), (2, .int (0 : Int32))]) [1, 0] rfl) ?_
    exact t_X7_load_51 g l hl P a1 hP w M fm_fuel (0 : Int32) (fm_up (fm_up (fm_up (fm_up (fm_up v2.2 P 12 a1) P 13 (0 : Int32)) P 11 (0 : Int32)) P 14 (0 : Int32)) P 15 (-1 : Int32))
theorem c_X7_load (g : fm_G) (l : Launch) (hl : l.stackTraces = false) (P : Nat) (a1 : Int32) (hP : fm_kd g P = 7) (M : fm_Mem) (w : fm_W) : ∀ r, f_X7_load P a1 M = some r → fC g l z_X7_load [.ref P, .int a1] (M, w) (emIw M w r) := fun r hr => fC.of (by decide) rfl o_X7_load hl (Nat.le_of_ble_eq_true rfl) (t_X7_load g l hl P a1 hP M w r hr)
def k_X7_edges : List (Nat × Instr × Nat) := [(0, .iconst 0, 1), (1, .istore_n 2, 1), (2, .iconst 0, 1), (3, .istore_n 3, 1), (4, .iload_n 3, 1), (5, .aload_n 0, 1), (6, .invokevirtual 48, 3), (9, .if_icmp .ge 101, 3), (12, .iload_n 3, 1), (13, .iconst 1, 1), (14, .iadd, 1), (15, .istore 4, 2), (17, .iload 4, 2), (19, .aload_n 0, 1), (20, .invokevirtual 48, 3), (23, .if_icmp .ge 81, 3), (26, .aload_n 0, 1), (27, .iconst 0, 1), (28, .iload_n 3, 1), (29, .iload 4, 2), (31, .invokevirtual 115, 3), (34, .istore 5, 2), (36, .iload 5, 2), (38, .ifCond .ne 6, 3), (41, .goto 57, 3), (44, .iload_n 2, 1), (45, .iload_n 1, 1), (46, .ifCond .eq 45, 3), (49, .iload_n 1, 1), (50, .iconst 1, 1), (51, .if_icmp .ne 9, 3), (54, .iload 5, 2), (56, .iconst 1, 1), (57, .if_icmp .eq 34, 3), (60, .iload_n 1, 1), (61, .iconst 2, 1), (62, .if_icmp .ne 13, 3), (65, .aload_n 0, 1), (66, .iload_n 3, 1), (67, .iload 4, 2), (69, .invokevirtual 122, 3), (72, .ifCond .ne 19, 3), (75, .iload_n 1, 1), (76, .iconst 3, 1), (77, .if_icmp .ne 18, 3), (80, .aload_n 0, 1), (81, .iconst 1, 1), (82, .iload_n 3, 1), (83, .iload 4, 2), (85, .invokevirtual 115, 3), (88, .ifCond .ne 7, 3), (91, .iconst 1, 1), (92, .goto 4, 3), (95, .iconst 0, 1), (96, .iadd, 1), (97, .istore_n 2, 1), (98, .iinc 4 1, 3), (101, .goto (-84), 3), (104, .iinc 3 1, 3), (107, .goto (-103), 3), (110, .iload_n 2, 1), (111, .ireturn, 1)]
def z_X7_edges : fm_Y := (yX7_edges, RX7, cX7_edges, 6, (some .int), k_X7_edges, 10, 262)
theorem o_X7_edges : fm_dec z_X7_edges := (by decide +kernel : ∀ q ∈ k_X7_edges, decode cX7_edges q.1 = .ok q.2)
theorem cw_X7_edges : fm_cwV z_X7_edges := ⟨⟨lw_in 1280 (by decide +kernel) (by decide +kernel), lw_in 99 (by decide +kernel) (by decide +kernel), by decide, by decide⟩, lw_in 1279 (by decide +kernel) (by decide +kernel), lw_in 66 (by decide +kernel) (by decide +kernel)⟩
theorem pn_X7_edges : (parseMethodDescriptor z_X7_edges.1.desc).map (fun d => d.parameters.length) = some 1 := by decide +kernel
def f_X7_edges_98 (P : Nat) (a1 : Int32) (k4 : Int32 → Int32 → fm_Mem → Option (Int32 × fm_Mem)) (k17 : Int32 → Int32 → Int32 → fm_Mem → Option (Int32 × fm_Mem)) (x2 : Int32) (x3 : Int32) (x4 : Int32) (M : fm_Mem) : Option (Int32 × fm_Mem) := (k17 x2 x3 (x4 + (1 : Int32)) M)
set_option maxRecDepth 100000 in
set_option maxHeartbeats 4000000 in
theorem t_X7_edges_98 (g : fm_G) (l : Launch) (hl : l.stackTraces = false) (P : Nat) (a1 : Int32) (hP : fm_kd g P = 7) (w : fm_W) (M0 : fm_Mem) (k4 : Int32 → Int32 → fm_Mem → Option (Int32 × fm_Mem)) (hk4 : ∀ (x2 : Int32) (x3 : Int32) (M : fm_Mem), Tt g l z_X7_edges (emIw M0 w) (k4 x2 x3 M) 4 [(0, .ref P), (1, .int a1), (2, .int x2), (3, .int x3)] [] (M, w)) (k17 : Int32 → Int32 → Int32 → fm_Mem → Option (Int32 × fm_Mem)) (hk17 : ∀ (x2 : Int32) (x3 : Int32) (x4 : Int32) (M : fm_Mem), Tt g l z_X7_edges (emIw M0 w) (k17 x2 x3 x4 M) 17 [(0, .ref P), (1, .int a1), (2, .int x2), (3, .int x3), (4, .int x4)] [] (M, w)) (x2 : Int32) (x3 : Int32) (x4 : Int32)  (M : fm_Mem) : Tt g l z_X7_edges (emIw M0 w) (f_X7_edges_98 P a1 k4 k17 x2 x3 x4 M) 98 [(0, .ref P), (1, .int a1), (2, .int x2), (3, .int x3), (4, .int x4)] [] (M, w) := by
  rw [f_X7_edges_98]
  refine Tt.go (fun _ => Tr.run 2 (pc' := 17) (lv' := [(4, .int (x4 + (1 : Int32))), (0, .ref P), (1, .int a1), (2, .int x2), (3, .int x3)]) (st' := []) rfl) ?_
  refine Tt.go (fun _ => Tr.sub (lv' := [(0, .ref P), (1, .int a1), (2, .int x2), (3, .int x3), (4, .int (x4 + (1 : Int32)))]) [1, 2, 3, 4, 0] rfl) ?_
  exact hk17 x2 x3 (x4 + (1 : Int32)) M
def f_X7_edges_96 (P : Nat) (a1 : Int32) (k4 : Int32 → Int32 → fm_Mem → Option (Int32 × fm_Mem)) (k17 : Int32 → Int32 → Int32 → fm_Mem → Option (Int32 × fm_Mem)) (x3 : Int32) (x4 : Int32) (s0 : Int32) (s1 : Int32) (M : fm_Mem) : Option (Int32 × fm_Mem) := (f_X7_edges_98 P a1 k4 k17 (s1 + s0) x3 x4 M)
set_option maxRecDepth 100000 in
set_option maxHeartbeats 4000000 in
theorem t_X7_edges_96 (g : fm_G) (l : Launch) (hl : l.stackTraces = false) (P : Nat) (a1 : Int32) (hP : fm_kd g P = 7) (w : fm_W) (M0 : fm_Mem) (k4 : Int32 → Int32 → fm_Mem → Option (Int32 × fm_Mem)) (hk4 : ∀ (x2 : Int32) (x3 : Int32) (M : fm_Mem), Tt g l z_X7_edges (emIw M0 w) (k4 x2 x3 M) 4 [(0, .ref P), (1, .int a1), (2, .int x2), (3, .int x3)] [] (M, w)) (k17 : Int32 → Int32 → Int32 → fm_Mem → Option (Int32 × fm_Mem)) (hk17 : ∀ (x2 : Int32) (x3 : Int32) (x4 : Int32) (M : fm_Mem), Tt g l z_X7_edges (emIw M0 w) (k17 x2 x3 x4 M) 17 [(0, .ref P), (1, .int a1), (2, .int x2), (3, .int x3), (4, .int x4)] [] (M, w)) (x3 : Int32) (x4 : Int32) (s0 : Int32) (s1 : Int32)  (M : fm_Mem) : Tt g l z_X7_edges (emIw M0 w) (f_X7_edges_96 P a1 k4 k17 x3 x4 s0 s1 M) 96 [(0, .ref P), (1, .int a1), (3, .int x3), (4, .int x4)] [.int s0, .int s1] (M, w) := by
  rw [f_X7_edges_96]
  refine Tt.go (fun _ => Tr.run 2 (pc' := 98) (lv' := [(2, .int (s1 + s0)), (0, .ref P), (1, .int a1), (3, .int x3), (4, .int x4)]) (st' := []) rfl) ?_
  refine Tt.go (fun _ => Tr.sub (lv' := [(0, .ref P), (1, .int a1), (2, .int (s1 + s0)), (3, .int x3), (4, .int x4)]) [1, 2, 0, 3, 4] rfl) ?_
  exact t_X7_edges_98 g l hl P a1 hP w M0 k4 hk4 k17 hk17 (s1 + s0) x3 x4 M
def f_X7_edges_91 (P : Nat) (a1 : Int32) (k4 : Int32 → Int32 → fm_Mem → Option (Int32 × fm_Mem)) (k17 : Int32 → Int32 → Int32 → fm_Mem → Option (Int32 × fm_Mem)) (x3 : Int32) (x4 : Int32) (s0 : Int32) (M : fm_Mem) : Option (Int32 × fm_Mem) := (f_X7_edges_96 P a1 k4 k17 x3 x4 (1 : Int32) s0 M)
set_option maxRecDepth 100000 in
set_option maxHeartbeats 4000000 in
theorem t_X7_edges_91 (g : fm_G) (l : Launch) (hl : l.stackTraces = false) (P : Nat) (a1 : Int32) (hP : fm_kd g P = 7) (w : fm_W) (M0 : fm_Mem) (k4 : Int32 → Int32 → fm_Mem → Option (Int32 × fm_Mem)) (hk4 : ∀ (x2 : Int32) (x3 : Int32) (M : fm_Mem), Tt g l z_X7_edges (emIw M0 w) (k4 x2 x3 M) 4 [(0, .ref P), (1, .int a1), (2, .int x2), (3, .int x3)] [] (M, w)) (k17 : Int32 → Int32 → Int32 → fm_Mem → Option (Int32 × fm_Mem)) (hk17 : ∀ (x2 : Int32) (x3 : Int32) (x4 : Int32) (M : fm_Mem), Tt g l z_X7_edges (emIw M0 w) (k17 x2 x3 x4 M) 17 [(0, .ref P), (1, .int a1), (2, .int x2), (3, .int x3), (4, .int x4)] [] (M, w)) (x3 : Int32) (x4 : Int32) (s0 : Int32)  (M : fm_Mem) : Tt g l z_X7_edges (emIw M0 w) (f_X7_edges_91 P a1 k4 k17 x3 x4 s0 M) 91 [(0, .ref P), (1, .int a1), (3, .int x3), (4, .int x4)] [.int s0] (M, w) := by
  rw [f_X7_edges_91]
  refine Tt.go (fun _ => Tr.run 2 (pc' := 96) (lv' := [(0, .ref P), (1, .int a1), (3, .int x3), (4, .int x4)]) (st' := [.int (1 : Int32), .int s0]) rfl) ?_
  exact t_X7_edges_96 g l hl P a1 hP w M0 k4 hk4 k17 hk17 x3 x4 (1 : Int32) s0 M
def f_X7_edges_95 (P : Nat) (a1 : Int32) (k4 : Int32 → Int32 → fm_Mem → Option (Int32 × fm_Mem)) (k17 : Int32 → Int32 → Int32 → fm_Mem → Option (Int32 × fm_Mem)) (x3 : Int32) (x4 : Int32) (s0 : Int32) (M : fm_Mem) : Option (Int32 × fm_Mem) := (f_X7_edges_96 P a1 k4 k17 x3 x4 (0 : Int32) s0 M)
set_option maxRecDepth 100000 in
set_option maxHeartbeats 4000000 in
theorem t_X7_edges_95 (g : fm_G) (l : Launch) (hl : l.stackTraces = false) (P : Nat) (a1 : Int32) (hP : fm_kd g P = 7) (w : fm_W) (M0 : fm_Mem) (k4 : Int32 → Int32 → fm_Mem → Option (Int32 × fm_Mem)) (hk4 : ∀ (x2 : Int32) (x3 : Int32) (M : fm_Mem), Tt g l z_X7_edges (emIw M0 w) (k4 x2 x3 M) 4 [(0, .ref P), (1, .int a1), (2, .int x2), (3, .int x3)] [] (M, w)) (k17 : Int32 → Int32 → Int32 → fm_Mem → Option (Int32 × fm_Mem)) (hk17 : ∀ (x2 : Int32) (x3 : Int32) (x4 : Int32) (M : fm_Mem), Tt g l z_X7_edges (emIw M0 w) (k17 x2 x3 x4 M) 17 [(0, .ref P), (1, .int a1), (2, .int x2), (3, .int x3), (4, .int x4)] [] (M, w)) (x3 : Int32) (x4 : Int32) (s0 : Int32)  (M : fm_Mem) : Tt g l z_X7_edges (emIw M0 w) (f_X7_edges_95 P a1 k4 k17 x3 x4 s0 M) 95 [(0, .ref P), (1, .int a1), (3, .int x3), (4, .int x4)] [.int s0] (M, w) := by
  rw [f_X7_edges_95]
  refine Tt.go (fun _ => Tr.run 1 (pc' := 96) (lv' := [(0, .ref P), (1, .int a1), (3, .int x3), (4, .int x4)]) (st' := [.int (0 : Int32), .int s0]) rfl) ?_
  exact t_X7_edges_96 g l hl P a1 hP w M0 k4 hk4 k17 hk17 x3 x4 (0 : Int32) s0 M
def f_X7_edges_75 (P : Nat) (a1 : Int32) (k4 : Int32 → Int32 → fm_Mem → Option (Int32 × fm_Mem)) (k17 : Int32 → Int32 → Int32 → fm_Mem → Option (Int32 × fm_Mem)) (x3 : Int32) (x4 : Int32) (s0 : Int32) (M : fm_Mem) : Option (Int32 × fm_Mem) := if a1 = (3 : Int32) then (Option.bind (f_X7_edgeMany P (1 : Int32) x3 x4 M) (fun v1 => if v1.1 = 0 then (f_X7_edges_91 P a1 k4 k17 x3 x4 s0 v1.2) else (f_X7_edges_95 P a1 k4 k17 x3 x4 s0 v1.2))) else (f_X7_edges_95 P a1 k4 k17 x3 x4 s0 M)
set_option maxRecDepth 100000 in
set_option maxHeartbeats 4000000 in
theorem t_X7_edges_75 (g : fm_G) (l : Launch) (hl : l.stackTraces = false) (P : Nat) (a1 : Int32) (hP : fm_kd g P = 7) (w : fm_W) (M0 : fm_Mem) (k4 : Int32 → Int32 → fm_Mem → Option (Int32 × fm_Mem)) (hk4 : ∀ (x2 : Int32) (x3 : Int32) (M : fm_Mem), Tt g l z_X7_edges (emIw M0 w) (k4 x2 x3 M) 4 [(0, .ref P), (1, .int a1), (2, .int x2), (3, .int x3)] [] (M, w)) (k17 : Int32 → Int32 → Int32 → fm_Mem → Option (Int32 × fm_Mem)) (hk17 : ∀ (x2 : Int32) (x3 : Int32) (x4 : Int32) (M : fm_Mem), Tt g l z_X7_edges (emIw M0 w) (k17 x2 x3 x4 M) 17 [(0, .ref P), (1, .int a1), (2, .int x2), (3, .int x3), (4, .int x4)] [] (M, w)) (x3 : Int32) (x4 : Int32) (s0 : Int32)  (M : fm_Mem) : Tt g l z_X7_edges (emIw M0 w) (f_X7_edges_75 P a1 k4 k17 x3 x4 s0 M) 75 [(0, .ref P), (1, .int a1), (3, .int x3), (4, .int x4)] [.int s0] (M, w) := by
  rw [f_X7_edges_75]
  refine Tt.go (fun _ => Tr.run 2 (pc' := 77) (lv' := [(0, .ref P), (1, .int a1), (3, .int x3), (4, .int x4)]) (st' := [.int (3 : Int32), .int a1, .int s0]) rfl) ?_
  refine Tt.ic_ne (tgt := 95) rfl (by decide) ?_ ?_
  · refine Tt.go (fun _ => Tr.run 4 (pc' := 85) (lv' := [(0, .ref P), (1, .int a1), (3, .int x3), (4, .int x4)]) (st' := [.int x4, .int x3, .int (1 : Int32), .ref P, .int s0]) rfl) ?_
    refine Tt.callV (As := [.int (1 : Int32), .int x3, .int x4]) (rest := [.int s0]) (c_X7_edgeMany g l hl P (1 : Int32) x3 x4 hP M w) hP (by decide) rfl rfl cw_X7_edgeMany fw1219 pn_X7_edgeMany (Nat.le_of_ble_eq_true rfl) (Nat.le_of_ble_eq_true rfl) (Nat.le_of_ble_eq_true rfl) rfl (fun v1 => (?_ : Tt g l z_X7_edges (emIw M0 w) _ 88 [(0, .ref P), (1, .int a1), (3, .int x3), (4, .int x4)] [.int v1.1, .int s0] (v1.2, w)))
    refine Tt.if_ne (tgt := 95) rfl (by decide) ?_ ?_
    · exact t_X7_edges_91 g l hl P a1 hP w M0 k4 hk4 k17 hk17 x3 x4 s0 v1.2
    · exact t_X7_edges_95 g l hl P a1 hP w M0 k4 hk4 k17 hk17 x3 x4 s0 v1.2
  · exact t_X7_edges_95 g l hl P a1 hP w M0 k4 hk4 k17 hk17 x3 x4 s0 M
def f_X7_edges_60 (P : Nat) (a1 : Int32) (k4 : Int32 → Int32 → fm_Mem → Option (Int32 × fm_Mem)) (k17 : Int32 → Int32 → Int32 → fm_Mem → Option (Int32 × fm_Mem)) (x3 : Int32) (x4 : Int32) (s0 : Int32) (M : fm_Mem) : Option (Int32 × fm_Mem) := if a1 = (2 : Int32) then (Option.bind (f_X7_isBad P x3 x4 M) (fun v1 => if v1.1 = 0 then (f_X7_edges_75 P a1 k4 k17 x3 x4 s0 v1.2) else (f_X7_edges_91 P a1 k4 k17 x3 x4 s0 v1.2))) else (f_X7_edges_75 P a1 k4 k17 x3 x4 s0 M)
set_option maxRecDepth 100000 in
set_option maxHeartbeats 4000000 in
theorem t_X7_edges_60 (g : fm_G) (l : Launch) (hl : l.stackTraces = false) (P : Nat) (a1 : Int32) (hP : fm_kd g P = 7) (w : fm_W) (M0 : fm_Mem) (k4 : Int32 → Int32 → fm_Mem → Option (Int32 × fm_Mem)) (hk4 : ∀ (x2 : Int32) (x3 : Int32) (M : fm_Mem), Tt g l z_X7_edges (emIw M0 w) (k4 x2 x3 M) 4 [(0, .ref P), (1, .int a1), (2, .int x2), (3, .int x3)] [] (M, w)) (k17 : Int32 → Int32 → Int32 → fm_Mem → Option (Int32 × fm_Mem)) (hk17 : ∀ (x2 : Int32) (x3 : Int32) (x4 : Int32) (M : fm_Mem), Tt g l z_X7_edges (emIw M0 w) (k17 x2 x3 x4 M) 17 [(0, .ref P), (1, .int a1), (2, .int x2), (3, .int x3), (4, .int x4)] [] (M, w)) (x3 : Int32) (x4 : Int32) (s0 : Int32)  (M : fm_Mem) : Tt g l z_X7_edges (emIw M0 w) (f_X7_edges_60 P a1 k4 k17 x3 x4 s0 M) 60 [(0, .ref P), (1, .int a1), (3, .int x3), (4, .int x4)] [.int s0] (M, w) := by
  rw [f_X7_edges_60]
  refine Tt.go (fun _ => Tr.run 2 (pc' := 62) (lv' := [(0, .ref P), (1, .int a1), (3, .int x3), (4, .int x4)]) (st' := [.int (2 : Int32), .int a1, .int s0]) rfl) ?_
  refine Tt.ic_ne (tgt := 75) rfl (by decide) ?_ ?_
  · refine Tt.go (fun _ => Tr.run 3 (pc' := 69) (lv' := [(0, .ref P), (1, .int a1), (3, .int x3), (4, .int x4)]) (st' := [.int x4, .int x3, .ref P, .int s0]) rfl) ?_
    refine Tt.callV (As := [.int x3, .int x4]) (rest := [.int s0]) (c_X7_isBad g l hl P x3 x4 hP M w) hP (by decide) rfl rfl cw_X7_isBad fw1281 pn_X7_isBad (Nat.le_of_ble_eq_true rfl) (Nat.le_of_ble_eq_true rfl) (Nat.le_of_ble_eq_true rfl) rfl (fun v1 => (?_ : Tt g l z_X7_edges (emIw M0 w) _ 72 [(0, .ref P), (1, .int a1), (3, .int x3), (4, .int x4)] [.int v1.1, .int s0] (v1.2, w)))
    refine Tt.if_ne (tgt := 91) rfl (by decide) ?_ ?_
    · exact t_X7_edges_75 g l hl P a1 hP w M0 k4 hk4 k17 hk17 x3 x4 s0 v1.2
    · exact t_X7_edges_91 g l hl P a1 hP w M0 k4 hk4 k17 hk17 x3 x4 s0 v1.2
  · exact t_X7_edges_75 g l hl P a1 hP w M0 k4 hk4 k17 hk17 x3 x4 s0 M
def f_X7_edges_17 (P : Nat) (a1 : Int32) (k4 : Int32 → Int32 → fm_Mem → Option (Int32 × fm_Mem)) : Nat → Int32 → Int32 → Int32 → fm_Mem → Option (Int32 × fm_Mem)
  | 0, _, _, _, _ => none
  | n + 1, x2, x3, x4, M => Option.bind (f_X7_points P M) (fun v1 => if v1 ≤ x4 then (k4 x2 (x3 + (1 : Int32)) M) else (Option.bind (f_X7_edgeMany P (0 : Int32) x3 x4 M) (fun v2 => if v2.1 = 0 then (f_X7_edges_98 P a1 k4 (fun x2 x3 x4 M => f_X7_edges_17 P a1 k4 n x2 x3 x4 M) x2 x3 x4 v2.2) else (if a1 = 0 then (f_X7_edges_91 P a1 k4 (fun x2 x3 x4 M => f_X7_edges_17 P a1 k4 n x2 x3 x4 M) x3 x4 x2 v2.2) else (if a1 = (1 : Int32) then (if v2.1 = (1 : Int32) then (f_X7_edges_91 P a1 k4 (fun x2 x3 x4 M => f_X7_edges_17 P a1 k4 n x2 x3 x4 M) x3 x4 x2 v2.2) else (f_X7_edges_60 P a1 k4 (fun x2 x3 x4 M => f_X7_edges_17 P a1 k4 n x2 x3 x4 M) x3 x4 x2 v2.2)) else (f_X7_edges_60 P a1 k4 (fun x2 x3 x4 M => f_X7_edges_17 P a1 k4 n x2 x3 x4 M) x3 x4 x2 v2.2))))))
set_option maxRecDepth 100000 in
set_option maxHeartbeats 4000000 in
theorem t_X7_edges_17 (g : fm_G) (l : Launch) (hl : l.stackTraces = false) (P : Nat) (a1 : Int32) (hP : fm_kd g P = 7) (w : fm_W) (M0 : fm_Mem) (k4 : Int32 → Int32 → fm_Mem → Option (Int32 × fm_Mem)) (hk4 : ∀ (x2 : Int32) (x3 : Int32) (M : fm_Mem), Tt g l z_X7_edges (emIw M0 w) (k4 x2 x3 M) 4 [(0, .ref P), (1, .int a1), (2, .int x2), (3, .int x3)] [] (M, w)) : ∀ (n : Nat) (x2 : Int32) (x3 : Int32) (x4 : Int32)  (M : fm_Mem), Tt g l z_X7_edges (emIw M0 w) (f_X7_edges_17 P a1 k4 n x2 x3 x4 M) 17 [(0, .ref P), (1, .int a1), (2, .int x2), (3, .int x3), (4, .int x4)] [] (M, w) := by
  intro n
  induction n with
  | zero => intros; exact Tt.none
  | succ n ih =>
    intro x2 x3 x4  M
    rw [f_X7_edges_17]
    refine Tt.go (fun _ => Tr.run 2 (pc' := 20) (lv' := [(0, .ref P), (1, .int a1), (2, .int x2), (3, .int x3), (4, .int x4)]) (st' := [.ref P, .int x4]) rfl) ?_
    refine Tt.callV (As := []) (rest := [.int x4]) (c_X7_points g l hl P hP M w) hP (by decide) rfl rfl cw_X7_points fw1156 pn_X7_points (Nat.le_of_ble_eq_true rfl) (Nat.le_of_ble_eq_true rfl) (Nat.le_of_ble_eq_true rfl) rfl (fun v1 => (?_ : Tt g l z_X7_edges (emIw M0 w) _ 23 [(0, .ref P), (1, .int a1), (2, .int x2), (3, .int x3), (4, .int x4)] [.int v1, .int x4] (M, w)))
    refine Tt.ic_ge (tgt := 104) rfl (by decide) ?_ ?_
    · refine Tt.go (fun _ => Tr.run 2 (pc' := 4) (lv' := [(3, .int (x3 + (1 : Int32))), (0, .ref P), (1, .int a1), (2, .int x2), (4, .int x4)]) (st' := []) rfl) ?_
      refine Tt.go (fun _ => Tr.sub (lv' := [(0, .ref P), (1, .int a1), (2, .int x2), (3, .int (x3 + (1 : Int32)))]) [1, 2, 3, 0] rfl) ?_
      exact hk4 x2 (x3 + (1 : Int32)) M
    · refine Tt.go (fun _ => Tr.run 4 (pc' := 31) (lv' := [(0, .ref P), (1, .int a1), (2, .int x2), (3, .int x3), (4, .int x4)]) (st' := [.int x4, .int x3, .int (0 : Int32), .ref P]) rfl) ?_
      refine Tt.callV (As := [.int (0 : Int32), .int x3, .int x4]) (rest := []) (c_X7_edgeMany g l hl P (0 : Int32) x3 x4 hP M w) hP (by decide) rfl rfl cw_X7_edgeMany fw1219 pn_X7_edgeMany (Nat.le_of_ble_eq_true rfl) (Nat.le_of_ble_eq_true rfl) (Nat.le_of_ble_eq_true rfl) rfl (fun v2 => (?_ : Tt g l z_X7_edges (emIw M0 w) _ 34 [(0, .ref P), (1, .int a1), (2, .int x2), (3, .int x3), (4, .int x4)] [.int v2.1] (v2.2, w)))
      refine Tt.go (fun _ => Tr.run 2 (pc' := 38) (lv' := [(5, .int v2.1), (0, .ref P), (1, .int a1), (2, .int x2), (3, .int x3), (4, .int x4)]) (st' := [.int v2.1]) rfl) ?_
      refine Tt.if_ne (tgt := 44) rfl (by decide) ?_ ?_
      · refine Tt.go (fun _ => Tr.run 1 (pc' := 98) (lv' := [(5, .int v2.1), (0, .ref P), (1, .int a1), (2, .int x2), (3, .int x3), (4, .int x4)]) (st' := []) rfl) ?_
        refine Tt.go (fun _ => Tr.sub (lv' := [(0, .ref P), (1, .int a1), (2, .int x2), (3, .int x3), (4, .int x4)]) [1, 2, 3, 4, 5] rfl) ?_
        exact t_X7_edges_98 g l hl P a1 hP w M0 k4 hk4 _ ih x2 x3 x4 v2.2
      · refine Tt.go (fun _ => Tr.run 2 (pc' := 46) (lv' := [(5, .int v2.1), (0, .ref P), (1, .int a1), (2, .int x2), (3, .int x3), (4, .int x4)]) (st' := [.int a1, .int x2]) rfl) ?_
        refine Tt.if_eq (tgt := 91) rfl (by decide) ?_ ?_
        · refine Tt.go (fun _ => Tr.sub (lv' := [(0, .ref P), (1, .int a1), (3, .int x3), (4, .int x4)]) [1, 2, 4, 5] rfl) ?_
          exact t_X7_edges_91 g l hl P a1 hP w M0 k4 hk4 _ ih x3 x4 x2 v2.2
        · refine Tt.go (fun _ => Tr.run 2 (pc' := 51) (lv' := [(5, .int v2.1), (0, .ref P), (1, .int a1), (2, .int x2), (3, .int x3), (4, .int x4)]) (st' := [.int (1 : Int32), .int a1, .int x2]) rfl) ?_
          refine Tt.ic_ne (tgt := 60) rfl (by decide) ?_ ?_
          · refine Tt.go (fun _ => Tr.run 2 (pc' := 57) (lv' := [(5, .int v2.1), (0, .ref P), (1, .int a1), (2, .int x2), (3, .int x3), (4, .int x4)]) (st' := [.int (1 : Int32), .int v2.1, .int x2]) rfl) ?_
            refine Tt.ic_eq (tgt := 91) rfl (by decide) ?_ ?_
            · refine Tt.go (fun _ => Tr.sub (lv' := [(0, .ref P), (1, .int a1), (3, .int x3), (4, .int x4)]) [1, 2, 4, 5] rfl) ?_
              exact t_X7_edges_91 g l hl P a1 hP w M0 k4 hk4 _ ih x3 x4 x2 v2.2
            · refine Tt.go (fun _ => Tr.sub (lv' := [(0, .ref P), (1, .int a1), (3, .int x3), (4, .int x4)]) [1, 2, 4, 5] rfl) ?_
              exact t_X7_edges_60 g l hl P a1 hP w M0 k4 hk4 _ ih x3 x4 x2 v2.2
          · refine Tt.go (fun _ => Tr.sub (lv' := [(0, .ref P), (1, .int a1), (3, .int x3), (4, .int x4)]) [1, 2, 4, 5] rfl) ?_
            exact t_X7_edges_60 g l hl P a1 hP w M0 k4 hk4 _ ih x3 x4 x2 v2.2
def f_X7_edges_4 (P : Nat) (a1 : Int32) : Nat → Int32 → Int32 → fm_Mem → Option (Int32 × fm_Mem)
  | 0, _, _, _ => none
  | n + 1, x2, x3, M => Option.bind (f_X7_points P M) (fun v1 => if v1 ≤ x3 then (some ((x2, M))) else (f_X7_edges_17 P a1 (fun x2 x3 M => f_X7_edges_4 P a1 n x2 x3 M) fm_fuel x2 x3 (x3 + (1 : Int32)) M))
set_option maxRecDepth 100000 in
set_option maxHeartbeats 4000000 in
theorem t_X7_edges_4 (g : fm_G) (l : Launch) (hl : l.stackTraces = false) (P : Nat) (a1 : Int32) (hP : fm_kd g P = 7) (w : fm_W) (M0 : fm_Mem)  : ∀ (n : Nat) (x2 : Int32) (x3 : Int32)  (M : fm_Mem), Tt g l z_X7_edges (emIw M0 w) (f_X7_edges_4 P a1  n x2 x3 M) 4 [(0, .ref P), (1, .int a1), (2, .int x2), (3, .int x3)] [] (M, w) := by
  intro n
  induction n with
  | zero => intros; exact Tt.none
  | succ n ih =>
    intro x2 x3  M
    rw [f_X7_edges_4]
    refine Tt.go (fun _ => Tr.run 2 (pc' := 6) (lv' := [(0, .ref P), (1, .int a1), (2, .int x2), (3, .int x3)]) (st' := [.ref P, .int x3]) rfl) ?_
    refine Tt.callV (As := []) (rest := [.int x3]) (c_X7_points g l hl P hP M w) hP (by decide) rfl rfl cw_X7_points fw1156 pn_X7_points (Nat.le_of_ble_eq_true rfl) (Nat.le_of_ble_eq_true rfl) (Nat.le_of_ble_eq_true rfl) rfl (fun v1 => (?_ : Tt g l z_X7_edges (emIw M0 w) _ 9 [(0, .ref P), (1, .int a1), (2, .int x2), (3, .int x3)] [.int v1, .int x3] (M, w)))
    refine Tt.ic_ge (tgt := 110) rfl (by decide) ?_ ?_
    · refine Tt.go (fun _ => Tr.run 1 (pc' := 111) (lv' := [(0, .ref P), (1, .int a1), (2, .int x2), (3, .int x3)]) (st' := [.int x2]) rfl) ?_
      exact Tt.ret (Tr.iret rfl rfl)
    · refine Tt.go (fun _ => Tr.run 4 (pc' := 17) (lv' := [(4, .int (x3 + (1 : Int32))), (0, .ref P), (1, .int a1), (2, .int x2), (3, .int x3)]) (st' := []) rfl) ?_
      refine Tt.go (fun _ => Tr.sub (lv' := [(0, .ref P), (1, .int a1), (2, .int x2), (3, .int x3), (4, .int (x3 + (1 : Int32)))]) [1, 2, 3, 4, 0] rfl) ?_
      exact t_X7_edges_17 g l hl P a1 hP w M0 _ ih fm_fuel x2 x3 (x3 + (1 : Int32)) M
def f_X7_edges (P : Nat) (a1 : Int32) (M : fm_Mem) : Option (Int32 × fm_Mem) := (f_X7_edges_4 P a1 fm_fuel (0 : Int32) (0 : Int32) M)
set_option maxRecDepth 100000 in
set_option maxHeartbeats 4000000 in
theorem t_X7_edges (g : fm_G) (l : Launch) (hl : l.stackTraces = false) (P : Nat) (a1 : Int32) (hP : fm_kd g P = 7) (M : fm_Mem) (w : fm_W) : Tt g l z_X7_edges (emIw M w) (f_X7_edges P a1 M) 0 [(0, .ref P), (1, .int a1)] [] (M, w) := by
  rw [f_X7_edges]
  refine Tt.go (fun _ => Tr.run 4 (pc' := 4) (lv' := [(3, .int (0 : Int32)), (2, .int (0 : Int32)), (0, .ref P), (1, .int a1)]) (st' := []) rfl) ?_
  refine Tt.go (fun _ => Tr.sub (lv' := [(0, .ref P), (1, .int a1), (2, .int (0 : Int32)), (3, .int (0 : Int32))]) [2, 3, 1, 0] rfl) ?_
  exact t_X7_edges_4 g l hl P a1 hP w M fm_fuel (0 : Int32) (0 : Int32) M
theorem c_X7_edges (g : fm_G) (l : Launch) (hl : l.stackTraces = false) (P : Nat) (a1 : Int32) (hP : fm_kd g P = 7) (M : fm_Mem) (w : fm_W) : ∀ r, f_X7_edges P a1 M = some r → fC g l z_X7_edges [.ref P, .int a1] (M, w) (emIw M w r) := fun r hr => fC.of (by decide) rfl o_X7_edges hl (Nat.le_of_ble_eq_true rfl) (t_X7_edges g l hl P a1 hP M w r hr)
def k_X7_toldOf : List (Nat × Instr × Nat) := [(0, .iload_n 1, 1), (1, .tableswitch 133 0 10 #[59, 64, 70, 76, 82, 88, 94, 100, 116, 122, 127], 59), (60, .aload_n 0, 1), (61, .invokevirtual 48, 3), (64, .ireturn, 1), (65, .aload_n 0, 1), (66, .iconst 1, 1), (67, .invokevirtual 41, 3), (70, .ireturn, 1), (71, .aload_n 0, 1), (72, .iconst 0, 1), (73, .invokevirtual 259, 3), (76, .ireturn, 1), (77, .aload_n 0, 1), (78, .iconst 1, 1), (79, .invokevirtual 259, 3), (82, .ireturn, 1), (83, .aload_n 0, 1), (84, .iconst 2, 1), (85, .invokevirtual 259, 3), (88, .ireturn, 1), (89, .aload_n 0, 1), (90, .iconst 1, 1), (91, .invokevirtual 107, 3), (94, .ireturn, 1), (95, .aload_n 0, 1), (96, .iconst 3, 1), (97, .invokevirtual 259, 3), (100, .ireturn, 1), (101, .aload_n 0, 1), (102, .iconst 1, 1), (103, .aload_n 0, 1), (104, .invokevirtual 48, 3), (107, .ishl, 1), (108, .iconst 1, 1), (109, .isub, 1), (110, .invokevirtual 167, 3), (113, .invokestatic 262, 3), (116, .ireturn, 1), (117, .aload_n 0, 1), (118, .iconst (-1), 1), (119, .invokevirtual 265, 3), (122, .ireturn, 1), (123, .aload_n 0, 1), (124, .getfield 45, 3), (127, .ireturn, 1), (128, .aload_n 0, 1), (129, .iconst 2, 1), (130, .invokevirtual 41, 3), (133, .ireturn, 1), (134, .aload_n 0, 1), (135, .iconst 3, 1), (136, .invokevirtual 41, 3), (139, .ireturn, 1)]
def z_X7_toldOf : fm_Y := (yX7_toldOf, RX7, cX7_toldOf, 2, (some .int), k_X7_toldOf, 11, 287)
theorem o_X7_toldOf : fm_dec z_X7_toldOf := (by decide +kernel : ∀ q ∈ k_X7_toldOf, decode cX7_toldOf q.1 = .ok q.2)
theorem cw_X7_toldOf : fm_cwV z_X7_toldOf := ⟨⟨lw_in 1276 (by decide +kernel) (by decide +kernel), lw_in 99 (by decide +kernel) (by decide +kernel), by decide, by decide⟩, lw_in 1275 (by decide +kernel) (by decide +kernel), lw_in 65 (by decide +kernel) (by decide +kernel)⟩
theorem pn_X7_toldOf : (parseMethodDescriptor z_X7_toldOf.1.desc).map (fun d => d.parameters.length) = some 1 := by decide +kernel
def f_X7_toldOf (P : Nat) (a1 : Int32) (M : fm_Mem) : Option (Int32 × fm_Mem) := (if a1 = (0 : Int32) then (Option.bind (f_X7_points P M) (fun v12 => some ((v12, M)))) else (if a1 = (1 : Int32) then (Option.bind (f_X7_get P (1 : Int32) M) (fun v13 => some ((v13, M)))) else (if a1 = (2 : Int32) then (Option.bind (f_X7_edges P (0 : Int32) M) (fun v14 => some ((v14.1, v14.2)))) else (if a1 = (3 : Int32) then (Option.bind (f_X7_edges P (1 : Int32) M) (fun v15 => some ((v15.1, v15.2)))) else (if a1 = (4 : Int32) then (Option.bind (f_X7_edges P (2 : Int32) M) (fun v16 => some ((v16.1, v16.2)))) else (if a1 = (5 : Int32) then (Option.bind (f_X7_many P (1 : Int32) M) (fun v17 => some ((v17.1, v17.2)))) else (if a1 = (6 : Int32) then (Option.bind (f_X7_edges P (3 : Int32) M) (fun v18 => some ((v18.1, v18.2)))) else (if a1 = (7 : Int32) then (Option.bind (f_X7_points P M) (fun v19 => Option.bind (f_X7_cornersOf P (((1 : Int32) <<< (v19 &&& 31)) - (1 : Int32)) M) (fun v20 => Option.bind (f_X7_bits v20 M) (fun v21 => some ((v21, M)))))) else (if a1 = (8 : Int32) then (Option.bind (f_X7_layerOf P (-1 : Int32) M) (fun v22 => some ((v22, M)))) else (if a1 = (9 : Int32) then (some (((M P 4), M))) else (if a1 = (10 : Int32) then (Option.bind (f_X7_get P (2 : Int32) M) (fun v23 => some ((v23, M)))) else (Option.bind (f_X7_get P (3 : Int32) M) (fun v24 => some ((v24, M)))))))))))))))
set_option maxRecDepth 100000 in
set_option maxHeartbeats 4000000 in
theorem t_X7_toldOf (g : fm_G) (l : Launch) (hl : l.stackTraces = false) (P : Nat) (a1 : Int32) (hP : fm_kd g P = 7) (M : fm_Mem) (w : fm_W) : Tt g l z_X7_toldOf (emIw M w) (f_X7_toldOf P a1 M) 0 [(0, .ref P), (1, .int a1)] [] (M, w) := by
  rw [f_X7_toldOf]
  refine Tt.go (fun _ => Tr.run 1 (pc' := 1) (lv' := [(0, .ref P), (1, .int a1)]) (st' := [.int a1]) rfl) ?_
  refine Tt.ite (fun hs_1 => ?_) (fun hs_1 => ?_)
  · refine Tt.go (fun _ => Tr.tsIn (k := 0) (off := 59) (tgt := 60) rfl (by decide) (by decide) rfl (by decide) hs_1) ?_
    refine Tt.go (fun _ => Tr.run 1 (pc' := 61) (lv' := [(0, .ref P), (1, .int a1)]) (st' := [.ref P]) rfl) ?_
    refine Tt.callV (As := []) (rest := []) (c_X7_points g l hl P hP M w) hP (by decide) rfl rfl cw_X7_points fw1156 pn_X7_points (Nat.le_of_ble_eq_true rfl) (Nat.le_of_ble_eq_true rfl) (Nat.le_of_ble_eq_true rfl) rfl (fun v12 => (?_ : Tt g l z_X7_toldOf (emIw M w) _ 64 [(0, .ref P), (1, .int a1)] [.int v12] (M, w)))
    exact Tt.ret (Tr.iret rfl rfl)
  refine Tt.ite (fun hs_2 => ?_) (fun hs_2 => ?_)
  · refine Tt.go (fun _ => Tr.tsIn (k := 1) (off := 64) (tgt := 65) rfl (by decide) (by decide) rfl (by decide) hs_2) ?_
    refine Tt.go (fun _ => Tr.run 2 (pc' := 67) (lv' := [(0, .ref P), (1, .int a1)]) (st' := [.int (1 : Int32), .ref P]) rfl) ?_
    refine Tt.callV (As := [.int (1 : Int32)]) (rest := []) (c_X7_get g l hl P (1 : Int32) hP M w) hP (by decide) rfl rfl cw_X7_get fw1109 pn_X7_get (Nat.le_of_ble_eq_true rfl) (Nat.le_of_ble_eq_true rfl) (Nat.le_of_ble_eq_true rfl) rfl (fun v13 => (?_ : Tt g l z_X7_toldOf (emIw M w) _ 70 [(0, .ref P), (1, .int a1)] [.int v13] (M, w)))
    exact Tt.ret (Tr.iret rfl rfl)
  refine Tt.ite (fun hs_3 => ?_) (fun hs_3 => ?_)
  · refine Tt.go (fun _ => Tr.tsIn (k := 2) (off := 70) (tgt := 71) rfl (by decide) (by decide) rfl (by decide) hs_3) ?_
    refine Tt.go (fun _ => Tr.run 2 (pc' := 73) (lv' := [(0, .ref P), (1, .int a1)]) (st' := [.int (0 : Int32), .ref P]) rfl) ?_
    refine Tt.callV (As := [.int (0 : Int32)]) (rest := []) (c_X7_edges g l hl P (0 : Int32) hP M w) hP (by decide) rfl rfl cw_X7_edges fw1277 pn_X7_edges (Nat.le_of_ble_eq_true rfl) (Nat.le_of_ble_eq_true rfl) (Nat.le_of_ble_eq_true rfl) rfl (fun v14 => (?_ : Tt g l z_X7_toldOf (emIw M w) _ 76 [(0, .ref P), (1, .int a1)] [.int v14.1] (v14.2, w)))
    exact Tt.ret (Tr.iret rfl rfl)
  refine Tt.ite (fun hs_4 => ?_) (fun hs_4 => ?_)
  · refine Tt.go (fun _ => Tr.tsIn (k := 3) (off := 76) (tgt := 77) rfl (by decide) (by decide) rfl (by decide) hs_4) ?_
    refine Tt.go (fun _ => Tr.run 2 (pc' := 79) (lv' := [(0, .ref P), (1, .int a1)]) (st' := [.int (1 : Int32), .ref P]) rfl) ?_
    refine Tt.callV (As := [.int (1 : Int32)]) (rest := []) (c_X7_edges g l hl P (1 : Int32) hP M w) hP (by decide) rfl rfl cw_X7_edges fw1277 pn_X7_edges (Nat.le_of_ble_eq_true rfl) (Nat.le_of_ble_eq_true rfl) (Nat.le_of_ble_eq_true rfl) rfl (fun v15 => (?_ : Tt g l z_X7_toldOf (emIw M w) _ 82 [(0, .ref P), (1, .int a1)] [.int v15.1] (v15.2, w)))
    exact Tt.ret (Tr.iret rfl rfl)
  refine Tt.ite (fun hs_5 => ?_) (fun hs_5 => ?_)
  · refine Tt.go (fun _ => Tr.tsIn (k := 4) (off := 82) (tgt := 83) rfl (by decide) (by decide) rfl (by decide) hs_5) ?_
    refine Tt.go (fun _ => Tr.run 2 (pc' := 85) (lv' := [(0, .ref P), (1, .int a1)]) (st' := [.int (2 : Int32), .ref P]) rfl) ?_
    refine Tt.callV (As := [.int (2 : Int32)]) (rest := []) (c_X7_edges g l hl P (2 : Int32) hP M w) hP (by decide) rfl rfl cw_X7_edges fw1277 pn_X7_edges (Nat.le_of_ble_eq_true rfl) (Nat.le_of_ble_eq_true rfl) (Nat.le_of_ble_eq_true rfl) rfl (fun v16 => (?_ : Tt g l z_X7_toldOf (emIw M w) _ 88 [(0, .ref P), (1, .int a1)] [.int v16.1] (v16.2, w)))
    exact Tt.ret (Tr.iret rfl rfl)
  refine Tt.ite (fun hs_6 => ?_) (fun hs_6 => ?_)
  · refine Tt.go (fun _ => Tr.tsIn (k := 5) (off := 88) (tgt := 89) rfl (by decide) (by decide) rfl (by decide) hs_6) ?_
    refine Tt.go (fun _ => Tr.run 2 (pc' := 91) (lv' := [(0, .ref P), (1, .int a1)]) (st' := [.int (1 : Int32), .ref P]) rfl) ?_
    refine Tt.callV (As := [.int (1 : Int32)]) (rest := []) (c_X7_many g l hl P (1 : Int32) hP M w) hP (by decide) rfl rfl cw_X7_many fw1223 pn_X7_many (Nat.le_of_ble_eq_true rfl) (Nat.le_of_ble_eq_true rfl) (Nat.le_of_ble_eq_true rfl) rfl (fun v17 => (?_ : Tt g l z_X7_toldOf (emIw M w) _ 94 [(0, .ref P), (1, .int a1)] [.int v17.1] (v17.2, w)))
    exact Tt.ret (Tr.iret rfl rfl)
  refine Tt.ite (fun hs_7 => ?_) (fun hs_7 => ?_)
  · refine Tt.go (fun _ => Tr.tsIn (k := 6) (off := 94) (tgt := 95) rfl (by decide) (by decide) rfl (by decide) hs_7) ?_
    refine Tt.go (fun _ => Tr.run 2 (pc' := 97) (lv' := [(0, .ref P), (1, .int a1)]) (st' := [.int (3 : Int32), .ref P]) rfl) ?_
    refine Tt.callV (As := [.int (3 : Int32)]) (rest := []) (c_X7_edges g l hl P (3 : Int32) hP M w) hP (by decide) rfl rfl cw_X7_edges fw1277 pn_X7_edges (Nat.le_of_ble_eq_true rfl) (Nat.le_of_ble_eq_true rfl) (Nat.le_of_ble_eq_true rfl) rfl (fun v18 => (?_ : Tt g l z_X7_toldOf (emIw M w) _ 100 [(0, .ref P), (1, .int a1)] [.int v18.1] (v18.2, w)))
    exact Tt.ret (Tr.iret rfl rfl)
  refine Tt.ite (fun hs_8 => ?_) (fun hs_8 => ?_)
  · refine Tt.go (fun _ => Tr.tsIn (k := 7) (off := 100) (tgt := 101) rfl (by decide) (by decide) rfl (by decide) hs_8) ?_
    refine Tt.go (fun _ => Tr.run 3 (pc' := 104) (lv' := [(0, .ref P), (1, .int a1)]) (st' := [.ref P, .int (1 : Int32), .ref P]) rfl) ?_
    refine Tt.callV (As := []) (rest := [.int (1 : Int32), .ref P]) (c_X7_points g l hl P hP M w) hP (by decide) rfl rfl cw_X7_points fw1156 pn_X7_points (Nat.le_of_ble_eq_true rfl) (Nat.le_of_ble_eq_true rfl) (Nat.le_of_ble_eq_true rfl) rfl (fun v19 => (?_ : Tt g l z_X7_toldOf (emIw M w) _ 107 [(0, .ref P), (1, .int a1)] [.int v19, .int (1 : Int32), .ref P] (M, w)))
    refine Tt.go (fun _ => Tr.run 3 (pc' := 110) (lv' := [(0, .ref P), (1, .int a1)]) (st' := [.int (((1 : Int32) <<< (v19 &&& 31)) - (1 : Int32)), .ref P]) rfl) ?_
    refine Tt.callV (As := [.int (((1 : Int32) <<< (v19 &&& 31)) - (1 : Int32))]) (rest := []) (c_X7_cornersOf g l hl P (((1 : Int32) <<< (v19 &&& 31)) - (1 : Int32)) hP M w) hP (by decide) rfl rfl cw_X7_cornersOf fw1285 pn_X7_cornersOf (Nat.le_of_ble_eq_true rfl) (Nat.le_of_ble_eq_true rfl) (Nat.le_of_ble_eq_true rfl) rfl (fun v20 => (?_ : Tt g l z_X7_toldOf (emIw M w) _ 113 [(0, .ref P), (1, .int a1)] [.int v20] (M, w)))
    refine Tt.callS (As := [.int v20]) (rest := []) (c_X7_bits g l hl v20 M w) rfl cw_X7_bits fw1304 pn_X7_bits (Nat.le_of_ble_eq_true rfl) (Nat.le_of_ble_eq_true rfl) (Nat.le_of_ble_eq_true rfl) rfl (fun v21 => (?_ : Tt g l z_X7_toldOf (emIw M w) _ 116 [(0, .ref P), (1, .int a1)] [.int v21] (M, w)))
    exact Tt.ret (Tr.iret rfl rfl)
  refine Tt.ite (fun hs_9 => ?_) (fun hs_9 => ?_)
  · refine Tt.go (fun _ => Tr.tsIn (k := 8) (off := 116) (tgt := 117) rfl (by decide) (by decide) rfl (by decide) hs_9) ?_
    refine Tt.go (fun _ => Tr.run 2 (pc' := 119) (lv' := [(0, .ref P), (1, .int a1)]) (st' := [.int (-1 : Int32), .ref P]) rfl) ?_
    refine Tt.callV (As := [.int (-1 : Int32)]) (rest := []) (c_X7_layerOf g l hl P (-1 : Int32) hP M w) hP (by decide) rfl rfl cw_X7_layerOf fw1307 pn_X7_layerOf (Nat.le_of_ble_eq_true rfl) (Nat.le_of_ble_eq_true rfl) (Nat.le_of_ble_eq_true rfl) rfl (fun v22 => (?_ : Tt g l z_X7_toldOf (emIw M w) _ 122 [(0, .ref P), (1, .int a1)] [.int v22] (M, w)))
    exact Tt.ret (Tr.iret rfl rfl)
  refine Tt.ite (fun hs_10 => ?_) (fun hs_10 => ?_)
  · refine Tt.go (fun _ => Tr.tsIn (k := 9) (off := 122) (tgt := 123) rfl (by decide) (by decide) rfl (by decide) hs_10) ?_
    refine Tt.go (fun _ => Tr.run 1 (pc' := 124) (lv' := [(0, .ref P), (1, .int a1)]) (st' := [.ref P]) rfl) ?_
    refine Tt.go (fun _ => Tr.get fmc7 hP rfl fw1028 (k := 4) (by decide) rfl) (?_ : Tt g l z_X7_toldOf (emIw M w) _ 127 [(0, .ref P), (1, .int a1)] [.int (M P 4)] (M, w))
    exact Tt.ret (Tr.iret rfl rfl)
  refine Tt.ite (fun hs_11 => ?_) (fun hs_11 => ?_)
  · refine Tt.go (fun _ => Tr.tsIn (k := 10) (off := 127) (tgt := 128) rfl (by decide) (by decide) rfl (by decide) hs_11) ?_
    refine Tt.go (fun _ => Tr.run 2 (pc' := 130) (lv' := [(0, .ref P), (1, .int a1)]) (st' := [.int (2 : Int32), .ref P]) rfl) ?_
    refine Tt.callV (As := [.int (2 : Int32)]) (rest := []) (c_X7_get g l hl P (2 : Int32) hP M w) hP (by decide) rfl rfl cw_X7_get fw1109 pn_X7_get (Nat.le_of_ble_eq_true rfl) (Nat.le_of_ble_eq_true rfl) (Nat.le_of_ble_eq_true rfl) rfl (fun v23 => (?_ : Tt g l z_X7_toldOf (emIw M w) _ 133 [(0, .ref P), (1, .int a1)] [.int v23] (M, w)))
    exact Tt.ret (Tr.iret rfl rfl)
  refine Tt.go (fun _ => Tr.tsOut (tgt := 134) rfl (fm_swd (n := 11) (by decide) (fun j hj => match j, hj with | 0, _ => hs_1 | 1, _ => hs_2 | 2, _ => hs_3 | 3, _ => hs_4 | 4, _ => hs_5 | 5, _ => hs_6 | 6, _ => hs_7 | 7, _ => hs_8 | 8, _ => hs_9 | 9, _ => hs_10 | 10, _ => hs_11 | j + 11, hj => absurd hj (by omega))) (by decide)) ?_
  refine Tt.go (fun _ => Tr.run 2 (pc' := 136) (lv' := [(0, .ref P), (1, .int a1)]) (st' := [.int (3 : Int32), .ref P]) rfl) ?_
  refine Tt.callV (As := [.int (3 : Int32)]) (rest := []) (c_X7_get g l hl P (3 : Int32) hP M w) hP (by decide) rfl rfl cw_X7_get fw1109 pn_X7_get (Nat.le_of_ble_eq_true rfl) (Nat.le_of_ble_eq_true rfl) (Nat.le_of_ble_eq_true rfl) rfl (fun v24 => (?_ : Tt g l z_X7_toldOf (emIw M w) _ 139 [(0, .ref P), (1, .int a1)] [.int v24] (M, w)))
  exact Tt.ret (Tr.iret rfl rfl)
theorem c_X7_toldOf (g : fm_G) (l : Launch) (hl : l.stackTraces = false) (P : Nat) (a1 : Int32) (hP : fm_kd g P = 7) (M : fm_Mem) (w : fm_W) : ∀ r, f_X7_toldOf P a1 M = some r → fC g l z_X7_toldOf [.ref P, .int a1] (M, w) (emIw M w r) := fun r hr => fC.of (by decide) rfl o_X7_toldOf hl (Nat.le_of_ble_eq_true rfl) (t_X7_toldOf g l hl P a1 hP M w r hr)
def k_X7_friends : List (Nat × Instr × Nat) := [(0, .iconst 0, 1), (1, .istore_n 3, 1), (2, .iconst 0, 1), (3, .istore 4, 2), (5, .iload 4, 2), (7, .aload_n 0, 1), (8, .invokevirtual 48, 3), (11, .if_icmp .ge 31, 3), (14, .iload_n 3, 1), (15, .aload_n 0, 1), (16, .iload_n 1, 1), (17, .iload_n 2, 1), (18, .iload 4, 2), (20, .invokevirtual 115, 3), (23, .ifCond .le 10, 3), (26, .iconst 1, 1), (27, .iload 4, 2), (29, .ishl, 1), (30, .goto 4, 3), (33, .iconst 0, 1), (34, .ior, 1), (35, .istore_n 3, 1), (36, .iinc 4 1, 3), (39, .goto (-34), 3), (42, .iload_n 3, 1), (43, .ireturn, 1)]
def z_X7_friends : fm_Y := (yX7_friends, RX7, cX7_friends, 5, (some .int), k_X7_friends, 9, 240)
theorem o_X7_friends : fm_dec z_X7_friends := (by decide +kernel : ∀ q ∈ k_X7_friends, decode cX7_friends q.1 = .ok q.2)
theorem cw_X7_friends : fm_cwV z_X7_friends := ⟨⟨lw_in 1326 (by decide +kernel) (by decide +kernel), lw_in 99 (by decide +kernel) (by decide +kernel), by decide, by decide⟩, lw_in 1325 (by decide +kernel) (by decide +kernel), lw_in 75 (by decide +kernel) (by decide +kernel)⟩
theorem pn_X7_friends : (parseMethodDescriptor z_X7_friends.1.desc).map (fun d => d.parameters.length) = some 2 := by decide +kernel
def f_X7_friends_34 (P : Nat) (a1 : Int32) (a2 : Int32) (k5 : Int32 → Int32 → fm_Mem → Option (Int32 × fm_Mem)) (x4 : Int32) (s0 : Int32) (s1 : Int32) (M : fm_Mem) : Option (Int32 × fm_Mem) := (k5 (s1 ||| s0) (x4 + (1 : Int32)) M)
set_option maxRecDepth 100000 in
set_option maxHeartbeats 4000000 in
theorem t_X7_friends_34 (g : fm_G) (l : Launch) (hl : l.stackTraces = false) (P : Nat) (a1 : Int32) (a2 : Int32) (hP : fm_kd g P = 7) (w : fm_W) (M0 : fm_Mem) (k5 : Int32 → Int32 → fm_Mem → Option (Int32 × fm_Mem)) (hk5 : ∀ (x3 : Int32) (x4 : Int32) (M : fm_Mem), Tt g l z_X7_friends (emIw M0 w) (k5 x3 x4 M) 5 [(0, .ref P), (1, .int a1), (2, .int a2), (3, .int x3), (4, .int x4)] [] (M, w)) (x4 : Int32) (s0 : Int32) (s1 : Int32)  (M : fm_Mem) : Tt g l z_X7_friends (emIw M0 w) (f_X7_friends_34 P a1 a2 k5 x4 s0 s1 M) 34 [(0, .ref P), (1, .int a1), (2, .int a2), (4, .int x4)] [.int s0, .int s1] (M, w) := by
  rw [f_X7_friends_34]
  refine Tt.go (fun _ => Tr.run 4 (pc' := 5) (lv' := [(4, .int (x4 + (1 : Int32))), (3, .int (s1 ||| s0)), (0, .ref P), (1, .int a1), (2, .int a2)]) (st' := []) rfl) ?_
  refine Tt.go (fun _ => Tr.sub (lv' := [(0, .ref P), (1, .int a1), (2, .int a2), (3, .int (s1 ||| s0)), (4, .int (x4 + (1 : Int32)))]) [2, 3, 4, 1, 0] rfl) ?_
  exact hk5 (s1 ||| s0) (x4 + (1 : Int32)) M
def f_X7_friends_5 (P : Nat) (a1 : Int32) (a2 : Int32) : Nat → Int32 → Int32 → fm_Mem → Option (Int32 × fm_Mem)
  | 0, _, _, _ => none
  | n + 1, x3, x4, M => Option.bind (f_X7_points P M) (fun v1 => if v1 ≤ x4 then (some ((x3, M))) else (Option.bind (f_X7_edgeMany P a1 a2 x4 M) (fun v2 => if v2.1 ≤ 0 then (f_X7_friends_34 P a1 a2 (fun x3 x4 M => f_X7_friends_5 P a1 a2 n x3 x4 M) x4 (0 : Int32) x3 v2.2) else (f_X7_friends_34 P a1 a2 (fun x3 x4 M => f_X7_friends_5 P a1 a2 n x3 x4 M) x4 ((1 : Int32) <<< (x4 &&& 31)) x3 v2.2))))
set_option maxRecDepth 100000 in
set_option maxHeartbeats 4000000 in
theorem t_X7_friends_5 (g : fm_G) (l : Launch) (hl : l.stackTraces = false) (P : Nat) (a1 : Int32) (a2 : Int32) (hP : fm_kd g P = 7) (w : fm_W) (M0 : fm_Mem)  : ∀ (n : Nat) (x3 : Int32) (x4 : Int32)  (M : fm_Mem), Tt g l z_X7_friends (emIw M0 w) (f_X7_friends_5 P a1 a2  n x3 x4 M) 5 [(0, .ref P), (1, .int a1), (2, .int a2), (3, .int x3), (4, .int x4)] [] (M, w) := by
  intro n
  induction n with
  | zero => intros; exact Tt.none
  | succ n ih =>
    intro x3 x4  M
    rw [f_X7_friends_5]
    refine Tt.go (fun _ => Tr.run 2 (pc' := 8) (lv' := [(0, .ref P), (1, .int a1), (2, .int a2), (3, .int x3), (4, .int x4)]) (st' := [.ref P, .int x4]) rfl) ?_
    refine Tt.callV (As := []) (rest := [.int x4]) (c_X7_points g l hl P hP M w) hP (by decide) rfl rfl cw_X7_points fw1156 pn_X7_points (Nat.le_of_ble_eq_true rfl) (Nat.le_of_ble_eq_true rfl) (Nat.le_of_ble_eq_true rfl) rfl (fun v1 => (?_ : Tt g l z_X7_friends (emIw M0 w) _ 11 [(0, .ref P), (1, .int a1), (2, .int a2), (3, .int x3), (4, .int x4)] [.int v1, .int x4] (M, w)))
    refine Tt.ic_ge (tgt := 42) rfl (by decide) ?_ ?_
    · refine Tt.go (fun _ => Tr.run 1 (pc' := 43) (lv' := [(0, .ref P), (1, .int a1), (2, .int a2), (3, .int x3), (4, .int x4)]) (st' := [.int x3]) rfl) ?_
      exact Tt.ret (Tr.iret rfl rfl)
    · refine Tt.go (fun _ => Tr.run 5 (pc' := 20) (lv' := [(0, .ref P), (1, .int a1), (2, .int a2), (3, .int x3), (4, .int x4)]) (st' := [.int x4, .int a2, .int a1, .ref P, .int x3]) rfl) ?_
      refine Tt.callV (As := [.int a1, .int a2, .int x4]) (rest := [.int x3]) (c_X7_edgeMany g l hl P a1 a2 x4 hP M w) hP (by decide) rfl rfl cw_X7_edgeMany fw1219 pn_X7_edgeMany (Nat.le_of_ble_eq_true rfl) (Nat.le_of_ble_eq_true rfl) (Nat.le_of_ble_eq_true rfl) rfl (fun v2 => (?_ : Tt g l z_X7_friends (emIw M0 w) _ 23 [(0, .ref P), (1, .int a1), (2, .int a2), (3, .int x3), (4, .int x4)] [.int v2.1, .int x3] (v2.2, w)))
      refine Tt.if_le (tgt := 33) rfl (by decide) ?_ ?_
      · refine Tt.go (fun _ => Tr.run 1 (pc' := 34) (lv' := [(0, .ref P), (1, .int a1), (2, .int a2), (3, .int x3), (4, .int x4)]) (st' := [.int (0 : Int32), .int x3]) rfl) ?_
        refine Tt.go (fun _ => Tr.sub (lv' := [(0, .ref P), (1, .int a1), (2, .int a2), (4, .int x4)]) [0, 1, 2, 4] rfl) ?_
        exact t_X7_friends_34 g l hl P a1 a2 hP w M0 _ ih x4 (0 : Int32) x3 v2.2
      · refine Tt.go (fun _ => Tr.run 4 (pc' := 34) (lv' := [(0, .ref P), (1, .int a1), (2, .int a2), (3, .int x3), (4, .int x4)]) (st' := [.int ((1 : Int32) <<< (x4 &&& 31)), .int x3]) rfl) ?_
        refine Tt.go (fun _ => Tr.sub (lv' := [(0, .ref P), (1, .int a1), (2, .int a2), (4, .int x4)]) [0, 1, 2, 4] rfl) ?_
        exact t_X7_friends_34 g l hl P a1 a2 hP w M0 _ ih x4 ((1 : Int32) <<< (x4 &&& 31)) x3 v2.2
def f_X7_friends (P : Nat) (a1 : Int32) (a2 : Int32) (M : fm_Mem) : Option (Int32 × fm_Mem) := (f_X7_friends_5 P a1 a2 fm_fuel (0 : Int32) (0 : Int32) M)
set_option maxRecDepth 100000 in
set_option maxHeartbeats 4000000 in
theorem t_X7_friends (g : fm_G) (l : Launch) (hl : l.stackTraces = false) (P : Nat) (a1 : Int32) (a2 : Int32) (hP : fm_kd g P = 7) (M : fm_Mem) (w : fm_W) : Tt g l z_X7_friends (emIw M w) (f_X7_friends P a1 a2 M) 0 [(0, .ref P), (1, .int a1), (2, .int a2)] [] (M, w) := by
  rw [f_X7_friends]
  refine Tt.go (fun _ => Tr.run 4 (pc' := 5) (lv' := [(4, .int (0 : Int32)), (3, .int (0 : Int32)), (0, .ref P), (1, .int a1), (2, .int a2)]) (st' := []) rfl) ?_
  refine Tt.go (fun _ => Tr.sub (lv' := [(0, .ref P), (1, .int a1), (2, .int a2), (3, .int (0 : Int32)), (4, .int (0 : Int32))]) [2, 3, 4, 1, 0] rfl) ?_
  exact t_X7_friends_5 g l hl P a1 a2 hP w M fm_fuel (0 : Int32) (0 : Int32) M
theorem c_X7_friends (g : fm_G) (l : Launch) (hl : l.stackTraces = false) (P : Nat) (a1 : Int32) (a2 : Int32) (hP : fm_kd g P = 7) (M : fm_Mem) (w : fm_W) : ∀ r, f_X7_friends P a1 a2 M = some r → fC g l z_X7_friends [.ref P, .int a1, .int a2] (M, w) (emIw M w r) := fun r hr => fC.of (by decide) rfl o_X7_friends hl (Nat.le_of_ble_eq_true rfl) (t_X7_friends g l hl P a1 a2 hP M w r hr)
def k_X7_nearestTo : List (Nat × Instr × Nat) := [(0, .iconst (-1), 1), (1, .istore_n 2, 1), (2, .iconst 0, 1), (3, .istore_n 3, 1), (4, .iload_n 3, 1), (5, .aload_n 0, 1), (6, .invokevirtual 48, 3), (9, .if_icmp .ge 37, 3), (12, .iload_n 3, 1), (13, .iload_n 1, 1), (14, .if_icmp .eq 26, 3), (17, .iload_n 2, 1), (18, .iconst (-1), 1), (19, .if_icmp .eq 19, 3), (22, .aload_n 0, 1), (23, .iload_n 1, 1), (24, .iload_n 3, 1), (25, .invokevirtual 268, 3), (28, .aload_n 0, 1), (29, .iload_n 1, 1), (30, .iload_n 2, 1), (31, .invokevirtual 268, 3), (34, .lcmp, 1), (35, .ifCond .ge 5, 3), (38, .iload_n 3, 1), (39, .istore_n 2, 1), (40, .iinc 3 1, 3), (43, .goto (-39), 3), (46, .iload_n 2, 1), (47, .ireturn, 1)]
def z_X7_nearestTo : fm_Y := (yX7_nearestTo, RX7, cX7_nearestTo, 4, (some .int), k_X7_nearestTo, 3, 64)
theorem o_X7_nearestTo : fm_dec z_X7_nearestTo := (by decide +kernel : ∀ q ∈ k_X7_nearestTo, decode cX7_nearestTo q.1 = .ok q.2)
theorem cw_X7_nearestTo : fm_cwV z_X7_nearestTo := ⟨⟨lw_in 1330 (by decide +kernel) (by decide +kernel), lw_in 99 (by decide +kernel) (by decide +kernel), by decide, by decide⟩, lw_in 1329 (by decide +kernel) (by decide +kernel), lw_in 76 (by decide +kernel) (by decide +kernel)⟩
theorem pn_X7_nearestTo : (parseMethodDescriptor z_X7_nearestTo.1.desc).map (fun d => d.parameters.length) = some 1 := by decide +kernel
def f_X7_nearestTo_40 (P : Nat) (a1 : Int32) (k4 : Int32 → Int32 → fm_Mem → Option (Int32)) (x2 : Int32) (x3 : Int32) (M : fm_Mem) : Option (Int32) := (k4 x2 (x3 + (1 : Int32)) M)
set_option maxRecDepth 100000 in
set_option maxHeartbeats 4000000 in
theorem t_X7_nearestTo_40 (g : fm_G) (l : Launch) (hl : l.stackTraces = false) (P : Nat) (a1 : Int32) (hP : fm_kd g P = 7) (w : fm_W) (k4 : Int32 → Int32 → fm_Mem → Option (Int32)) (hk4 : ∀ (x2 : Int32) (x3 : Int32) (M : fm_Mem), Tt g l z_X7_nearestTo (emI M w) (k4 x2 x3 M) 4 [(0, .ref P), (1, .int a1), (2, .int x2), (3, .int x3)] [] (M, w)) (x2 : Int32) (x3 : Int32)  (M : fm_Mem) : Tt g l z_X7_nearestTo (emI M w) (f_X7_nearestTo_40 P a1 k4 x2 x3 M) 40 [(0, .ref P), (1, .int a1), (2, .int x2), (3, .int x3)] [] (M, w) := by
  rw [f_X7_nearestTo_40]
  refine Tt.go (fun _ => Tr.run 2 (pc' := 4) (lv' := [(3, .int (x3 + (1 : Int32))), (0, .ref P), (1, .int a1), (2, .int x2)]) (st' := []) rfl) ?_
  refine Tt.go (fun _ => Tr.sub (lv' := [(0, .ref P), (1, .int a1), (2, .int x2), (3, .int (x3 + (1 : Int32)))]) [1, 2, 3, 0] rfl) ?_
  exact hk4 x2 (x3 + (1 : Int32)) M
def f_X7_nearestTo_38 (P : Nat) (a1 : Int32) (k4 : Int32 → Int32 → fm_Mem → Option (Int32)) (x3 : Int32) (M : fm_Mem) : Option (Int32) := (f_X7_nearestTo_40 P a1 k4 x3 x3 M)
set_option maxRecDepth 100000 in
set_option maxHeartbeats 4000000 in
theorem t_X7_nearestTo_38 (g : fm_G) (l : Launch) (hl : l.stackTraces = false) (P : Nat) (a1 : Int32) (hP : fm_kd g P = 7) (w : fm_W) (k4 : Int32 → Int32 → fm_Mem → Option (Int32)) (hk4 : ∀ (x2 : Int32) (x3 : Int32) (M : fm_Mem), Tt g l z_X7_nearestTo (emI M w) (k4 x2 x3 M) 4 [(0, .ref P), (1, .int a1), (2, .int x2), (3, .int x3)] [] (M, w)) (x3 : Int32)  (M : fm_Mem) : Tt g l z_X7_nearestTo (emI M w) (f_X7_nearestTo_38 P a1 k4 x3 M) 38 [(0, .ref P), (1, .int a1), (3, .int x3)] [] (M, w) := by
  rw [f_X7_nearestTo_38]
  refine Tt.go (fun _ => Tr.run 2 (pc' := 40) (lv' := [(2, .int x3), (0, .ref P), (1, .int a1), (3, .int x3)]) (st' := []) rfl) ?_
  refine Tt.go (fun _ => Tr.sub (lv' := [(0, .ref P), (1, .int a1), (2, .int x3), (3, .int x3)]) [1, 2, 0, 3] rfl) ?_
  exact t_X7_nearestTo_40 g l hl P a1 hP w k4 hk4 x3 x3 M
def f_X7_nearestTo_4 (P : Nat) (a1 : Int32) : Nat → Int32 → Int32 → fm_Mem → Option (Int32)
  | 0, _, _, _ => none
  | n + 1, x2, x3, M => Option.bind (f_X7_points P M) (fun v1 => if v1 ≤ x3 then (some (x2)) else (if x3 = a1 then (f_X7_nearestTo_40 P a1 (fun x2 x3 M => f_X7_nearestTo_4 P a1 n x2 x3 M) x2 x3 M) else (if x2 = (-1 : Int32) then (f_X7_nearestTo_38 P a1 (fun x2 x3 M => f_X7_nearestTo_4 P a1 n x2 x3 M) x3 M) else (Option.bind (f_X7_apart P a1 x3 M) (fun v2 => Option.bind (f_X7_apart P a1 x2 M) (fun v3 => if 0 ≤ (lg_cmp v2 v3) then (f_X7_nearestTo_40 P a1 (fun x2 x3 M => f_X7_nearestTo_4 P a1 n x2 x3 M) x2 x3 M) else (f_X7_nearestTo_38 P a1 (fun x2 x3 M => f_X7_nearestTo_4 P a1 n x2 x3 M) x3 M)))))))
set_option maxRecDepth 100000 in
set_option maxHeartbeats 4000000 in
theorem t_X7_nearestTo_4 (g : fm_G) (l : Launch) (hl : l.stackTraces = false) (P : Nat) (a1 : Int32) (hP : fm_kd g P = 7) (w : fm_W)  : ∀ (n : Nat) (x2 : Int32) (x3 : Int32)  (M : fm_Mem), Tt g l z_X7_nearestTo (emI M w) (f_X7_nearestTo_4 P a1  n x2 x3 M) 4 [(0, .ref P), (1, .int a1), (2, .int x2), (3, .int x3)] [] (M, w) := by
  intro n
  induction n with
  | zero => intros; exact Tt.none
  | succ n ih =>
    intro x2 x3  M
    rw [f_X7_nearestTo_4]
    refine Tt.go (fun _ => Tr.run 2 (pc' := 6) (lv' := [(0, .ref P), (1, .int a1), (2, .int x2), (3, .int x3)]) (st' := [.ref P, .int x3]) rfl) ?_
    refine Tt.callV (As := []) (rest := [.int x3]) (c_X7_points g l hl P hP M w) hP (by decide) rfl rfl cw_X7_points fw1156 pn_X7_points (Nat.le_of_ble_eq_true rfl) (Nat.le_of_ble_eq_true rfl) (Nat.le_of_ble_eq_true rfl) rfl (fun v1 => (?_ : Tt g l z_X7_nearestTo (emI M w) _ 9 [(0, .ref P), (1, .int a1), (2, .int x2), (3, .int x3)] [.int v1, .int x3] (M, w)))
    refine Tt.ic_ge (tgt := 46) rfl (by decide) ?_ ?_
    · refine Tt.go (fun _ => Tr.run 1 (pc' := 47) (lv' := [(0, .ref P), (1, .int a1), (2, .int x2), (3, .int x3)]) (st' := [.int x2]) rfl) ?_
      exact Tt.ret (Tr.iret rfl rfl)
    · refine Tt.go (fun _ => Tr.run 2 (pc' := 14) (lv' := [(0, .ref P), (1, .int a1), (2, .int x2), (3, .int x3)]) (st' := [.int a1, .int x3]) rfl) ?_
      refine Tt.ic_eq (tgt := 40) rfl (by decide) ?_ ?_
      · exact t_X7_nearestTo_40 g l hl P a1 hP w _ ih x2 x3 M
      · refine Tt.go (fun _ => Tr.run 2 (pc' := 19) (lv' := [(0, .ref P), (1, .int a1), (2, .int x2), (3, .int x3)]) (st' := [.int (-1 : Int32), .int x2]) rfl) ?_
        refine Tt.ic_eq (tgt := 38) rfl (by decide) ?_ ?_
        · refine Tt.go (fun _ => Tr.sub (lv' := [(0, .ref P), (1, .int a1), (3, .int x3)]) [0, 1, 3] rfl) ?_
          exact t_X7_nearestTo_38 g l hl P a1 hP w _ ih x3 M
        · refine Tt.go (fun _ => Tr.run 3 (pc' := 25) (lv' := [(0, .ref P), (1, .int a1), (2, .int x2), (3, .int x3)]) (st' := [.int x3, .int a1, .ref P]) rfl) ?_
          refine Tt.callV (As := [.int a1, .int x3]) (rest := []) (c_X7_apart g l hl P a1 x3 hP M w) hP (by decide) rfl rfl cw_X7_apart fw1331 pn_X7_apart (Nat.le_of_ble_eq_true rfl) (Nat.le_of_ble_eq_true rfl) (Nat.le_of_ble_eq_true rfl) rfl (fun v2 => (?_ : Tt g l z_X7_nearestTo (emI M w) _ 28 [(0, .ref P), (1, .int a1), (2, .int x2), (3, .int x3)] [.long v2] (M, w)))
          refine Tt.go (fun _ => Tr.run 3 (pc' := 31) (lv' := [(0, .ref P), (1, .int a1), (2, .int x2), (3, .int x3)]) (st' := [.int x2, .int a1, .ref P, .long v2]) rfl) ?_
          refine Tt.callV (As := [.int a1, .int x2]) (rest := [.long v2]) (c_X7_apart g l hl P a1 x2 hP M w) hP (by decide) rfl rfl cw_X7_apart fw1331 pn_X7_apart (Nat.le_of_ble_eq_true rfl) (Nat.le_of_ble_eq_true rfl) (Nat.le_of_ble_eq_true rfl) rfl (fun v3 => (?_ : Tt g l z_X7_nearestTo (emI M w) _ 34 [(0, .ref P), (1, .int a1), (2, .int x2), (3, .int x3)] [.long v3, .long v2] (M, w)))
          refine Tt.go (fun _ => Tr.run 1 (pc' := 35) (lv' := [(0, .ref P), (1, .int a1), (2, .int x2), (3, .int x3)]) (st' := [.int (lg_cmp v2 v3)]) rfl) ?_
          refine Tt.if_ge (tgt := 40) rfl (by decide) ?_ ?_
          · exact t_X7_nearestTo_40 g l hl P a1 hP w _ ih x2 x3 M
          · refine Tt.go (fun _ => Tr.sub (lv' := [(0, .ref P), (1, .int a1), (3, .int x3)]) [0, 1, 3] rfl) ?_
            exact t_X7_nearestTo_38 g l hl P a1 hP w _ ih x3 M
def f_X7_nearestTo (P : Nat) (a1 : Int32) (M : fm_Mem) : Option (Int32) := (f_X7_nearestTo_4 P a1 fm_fuel (-1 : Int32) (0 : Int32) M)
set_option maxRecDepth 100000 in
set_option maxHeartbeats 4000000 in
theorem t_X7_nearestTo (g : fm_G) (l : Launch) (hl : l.stackTraces = false) (P : Nat) (a1 : Int32) (hP : fm_kd g P = 7) (M : fm_Mem) (w : fm_W) : Tt g l z_X7_nearestTo (emI M w) (f_X7_nearestTo P a1 M) 0 [(0, .ref P), (1, .int a1)] [] (M, w) := by
  rw [f_X7_nearestTo]
  refine Tt.go (fun _ => Tr.run 4 (pc' := 4) (lv' := [(3, .int (0 : Int32)), (2, .int (-1 : Int32)), (0, .ref P), (1, .int a1)]) (st' := []) rfl) ?_
  refine Tt.go (fun _ => Tr.sub (lv' := [(0, .ref P), (1, .int a1), (2, .int (-1 : Int32)), (3, .int (0 : Int32))]) [2, 3, 1, 0] rfl) ?_
  exact t_X7_nearestTo_4 g l hl P a1 hP w fm_fuel (-1 : Int32) (0 : Int32) M
theorem c_X7_nearestTo (g : fm_G) (l : Launch) (hl : l.stackTraces = false) (P : Nat) (a1 : Int32) (hP : fm_kd g P = 7) (M : fm_Mem) (w : fm_W) : ∀ r, f_X7_nearestTo P a1 M = some r → fC g l z_X7_nearestTo [.ref P, .int a1] (M, w) (emI M w r) := fun r hr => fC.of (by decide) rfl o_X7_nearestTo hl (Nat.le_of_ble_eq_true rfl) (t_X7_nearestTo g l hl P a1 hP M w r hr)
def k_X7_toldOfPoint : List (Nat × Instr × Nat) := [(0, .iload_n 2, 1), (1, .tableswitch 84 0 5 #[39, 45, 51, 61, 71, 77], 39), (40, .aload_n 0, 1), (41, .iload_n 1, 1), (42, .invokevirtual 56, 3), (45, .ireturn, 1), (46, .aload_n 0, 1), (47, .iload_n 1, 1), (48, .invokevirtual 59, 3), (51, .ireturn, 1), (52, .aload_n 0, 1), (53, .iconst 0, 1), (54, .iload_n 1, 1), (55, .invokevirtual 272, 3), (58, .invokestatic 262, 3), (61, .ireturn, 1), (62, .aload_n 0, 1), (63, .iconst 1, 1), (64, .iload_n 1, 1), (65, .invokevirtual 272, 3), (68, .invokestatic 262, 3), (71, .ireturn, 1), (72, .aload_n 0, 1), (73, .iload_n 1, 1), (74, .invokevirtual 265, 3), (77, .ireturn, 1), (78, .aload_n 0, 1), (79, .iconst 0, 1), (80, .iload_n 1, 1), (81, .invokevirtual 272, 3), (84, .ireturn, 1), (85, .aload_n 0, 1), (86, .iload_n 1, 1), (87, .invokevirtual 276, 3), (90, .ireturn, 1)]
def z_X7_toldOfPoint : fm_Y := (yX7_toldOfPoint, RX7, cX7_toldOfPoint, 3, (some .int), k_X7_toldOfPoint, 10, 264)
theorem o_X7_toldOfPoint : fm_dec z_X7_toldOfPoint := (by decide +kernel : ∀ q ∈ k_X7_toldOfPoint, decode cX7_toldOfPoint q.1 = .ok q.2)
theorem cw_X7_toldOfPoint : fm_cwV z_X7_toldOfPoint := ⟨⟨lw_in 1322 (by decide +kernel) (by decide +kernel), lw_in 99 (by decide +kernel) (by decide +kernel), by decide, by decide⟩, lw_in 1321 (by decide +kernel) (by decide +kernel), lw_in 74 (by decide +kernel) (by decide +kernel)⟩
theorem pn_X7_toldOfPoint : (parseMethodDescriptor z_X7_toldOfPoint.1.desc).map (fun d => d.parameters.length) = some 2 := by decide +kernel
def f_X7_toldOfPoint (P : Nat) (a1 : Int32) (a2 : Int32) (M : fm_Mem) : Option (Int32 × fm_Mem) := (if a2 = (0 : Int32) then (Option.bind (f_X7_x P a1 M) (fun v7 => some ((v7, M)))) else (if a2 = (1 : Int32) then (Option.bind (f_X7_y P a1 M) (fun v8 => some ((v8, M)))) else (if a2 = (2 : Int32) then (Option.bind (f_X7_friends P (0 : Int32) a1 M) (fun v9 => Option.bind (f_X7_bits v9.1 v9.2) (fun v10 => some ((v10, v9.2))))) else (if a2 = (3 : Int32) then (Option.bind (f_X7_friends P (1 : Int32) a1 M) (fun v11 => Option.bind (f_X7_bits v11.1 v11.2) (fun v12 => some ((v12, v11.2))))) else (if a2 = (4 : Int32) then (Option.bind (f_X7_layerOf P a1 M) (fun v13 => some ((v13, M)))) else (if a2 = (5 : Int32) then (Option.bind (f_X7_friends P (0 : Int32) a1 M) (fun v14 => some ((v14.1, v14.2)))) else (Option.bind (f_X7_nearestTo P a1 M) (fun v15 => some ((v15, M))))))))))
set_option maxRecDepth 100000 in
set_option maxHeartbeats 4000000 in
theorem t_X7_toldOfPoint (g : fm_G) (l : Launch) (hl : l.stackTraces = false) (P : Nat) (a1 : Int32) (a2 : Int32) (hP : fm_kd g P = 7) (M : fm_Mem) (w : fm_W) : Tt g l z_X7_toldOfPoint (emIw M w) (f_X7_toldOfPoint P a1 a2 M) 0 [(0, .ref P), (1, .int a1), (2, .int a2)] [] (M, w) := by
  rw [f_X7_toldOfPoint]
  refine Tt.go (fun _ => Tr.run 1 (pc' := 1) (lv' := [(0, .ref P), (1, .int a1), (2, .int a2)]) (st' := [.int a2]) rfl) ?_
  refine Tt.ite (fun hs_1 => ?_) (fun hs_1 => ?_)
  · refine Tt.go (fun _ => Tr.tsIn (k := 0) (off := 39) (tgt := 40) rfl (by decide) (by decide) rfl (by decide) hs_1) ?_
    refine Tt.go (fun _ => Tr.run 2 (pc' := 42) (lv' := [(0, .ref P), (1, .int a1), (2, .int a2)]) (st' := [.int a1, .ref P]) rfl) ?_
    refine Tt.callV (As := [.int a1]) (rest := []) (c_X7_x g l hl P a1 hP M w) hP (by decide) rfl rfl cw_X7_x fw1164 pn_X7_x (Nat.le_of_ble_eq_true rfl) (Nat.le_of_ble_eq_true rfl) (Nat.le_of_ble_eq_true rfl) rfl (fun v7 => (?_ : Tt g l z_X7_toldOfPoint (emIw M w) _ 45 [(0, .ref P), (1, .int a1), (2, .int a2)] [.int v7] (M, w)))
    exact Tt.ret (Tr.iret rfl rfl)
  refine Tt.ite (fun hs_2 => ?_) (fun hs_2 => ?_)
  · refine Tt.go (fun _ => Tr.tsIn (k := 1) (off := 45) (tgt := 46) rfl (by decide) (by decide) rfl (by decide) hs_2) ?_
    refine Tt.go (fun _ => Tr.run 2 (pc' := 48) (lv' := [(0, .ref P), (1, .int a1), (2, .int a2)]) (st' := [.int a1, .ref P]) rfl) ?_
    refine Tt.callV (As := [.int a1]) (rest := []) (c_X7_y g l hl P a1 hP M w) hP (by decide) rfl rfl cw_X7_y fw1168 pn_X7_y (Nat.le_of_ble_eq_true rfl) (Nat.le_of_ble_eq_true rfl) (Nat.le_of_ble_eq_true rfl) rfl (fun v8 => (?_ : Tt g l z_X7_toldOfPoint (emIw M w) _ 51 [(0, .ref P), (1, .int a1), (2, .int a2)] [.int v8] (M, w)))
    exact Tt.ret (Tr.iret rfl rfl)
  refine Tt.ite (fun hs_3 => ?_) (fun hs_3 => ?_)
  · refine Tt.go (fun _ => Tr.tsIn (k := 2) (off := 51) (tgt := 52) rfl (by decide) (by decide) rfl (by decide) hs_3) ?_
    refine Tt.go (fun _ => Tr.run 3 (pc' := 55) (lv' := [(0, .ref P), (1, .int a1), (2, .int a2)]) (st' := [.int a1, .int (0 : Int32), .ref P]) rfl) ?_
    refine Tt.callV (As := [.int (0 : Int32), .int a1]) (rest := []) (c_X7_friends g l hl P (0 : Int32) a1 hP M w) hP (by decide) rfl rfl cw_X7_friends fw1323 pn_X7_friends (Nat.le_of_ble_eq_true rfl) (Nat.le_of_ble_eq_true rfl) (Nat.le_of_ble_eq_true rfl) rfl (fun v9 => (?_ : Tt g l z_X7_toldOfPoint (emIw M w) _ 58 [(0, .ref P), (1, .int a1), (2, .int a2)] [.int v9.1] (v9.2, w)))
    refine Tt.callS (As := [.int v9.1]) (rest := []) (c_X7_bits g l hl v9.1 v9.2 w) rfl cw_X7_bits fw1304 pn_X7_bits (Nat.le_of_ble_eq_true rfl) (Nat.le_of_ble_eq_true rfl) (Nat.le_of_ble_eq_true rfl) rfl (fun v10 => (?_ : Tt g l z_X7_toldOfPoint (emIw M w) _ 61 [(0, .ref P), (1, .int a1), (2, .int a2)] [.int v10] (v9.2, w)))
    exact Tt.ret (Tr.iret rfl rfl)
  refine Tt.ite (fun hs_4 => ?_) (fun hs_4 => ?_)
  · refine Tt.go (fun _ => Tr.tsIn (k := 3) (off := 61) (tgt := 62) rfl (by decide) (by decide) rfl (by decide) hs_4) ?_
    refine Tt.go (fun _ => Tr.run 3 (pc' := 65) (lv' := [(0, .ref P), (1, .int a1), (2, .int a2)]) (st' := [.int a1, .int (1 : Int32), .ref P]) rfl) ?_
    refine Tt.callV (As := [.int (1 : Int32), .int a1]) (rest := []) (c_X7_friends g l hl P (1 : Int32) a1 hP M w) hP (by decide) rfl rfl cw_X7_friends fw1323 pn_X7_friends (Nat.le_of_ble_eq_true rfl) (Nat.le_of_ble_eq_true rfl) (Nat.le_of_ble_eq_true rfl) rfl (fun v11 => (?_ : Tt g l z_X7_toldOfPoint (emIw M w) _ 68 [(0, .ref P), (1, .int a1), (2, .int a2)] [.int v11.1] (v11.2, w)))
    refine Tt.callS (As := [.int v11.1]) (rest := []) (c_X7_bits g l hl v11.1 v11.2 w) rfl cw_X7_bits fw1304 pn_X7_bits (Nat.le_of_ble_eq_true rfl) (Nat.le_of_ble_eq_true rfl) (Nat.le_of_ble_eq_true rfl) rfl (fun v12 => (?_ : Tt g l z_X7_toldOfPoint (emIw M w) _ 71 [(0, .ref P), (1, .int a1), (2, .int a2)] [.int v12] (v11.2, w)))
    exact Tt.ret (Tr.iret rfl rfl)
  refine Tt.ite (fun hs_5 => ?_) (fun hs_5 => ?_)
  · refine Tt.go (fun _ => Tr.tsIn (k := 4) (off := 71) (tgt := 72) rfl (by decide) (by decide) rfl (by decide) hs_5) ?_
    refine Tt.go (fun _ => Tr.run 2 (pc' := 74) (lv' := [(0, .ref P), (1, .int a1), (2, .int a2)]) (st' := [.int a1, .ref P]) rfl) ?_
    refine Tt.callV (As := [.int a1]) (rest := []) (c_X7_layerOf g l hl P a1 hP M w) hP (by decide) rfl rfl cw_X7_layerOf fw1307 pn_X7_layerOf (Nat.le_of_ble_eq_true rfl) (Nat.le_of_ble_eq_true rfl) (Nat.le_of_ble_eq_true rfl) rfl (fun v13 => (?_ : Tt g l z_X7_toldOfPoint (emIw M w) _ 77 [(0, .ref P), (1, .int a1), (2, .int a2)] [.int v13] (M, w)))
    exact Tt.ret (Tr.iret rfl rfl)
  refine Tt.ite (fun hs_6 => ?_) (fun hs_6 => ?_)
  · refine Tt.go (fun _ => Tr.tsIn (k := 5) (off := 77) (tgt := 78) rfl (by decide) (by decide) rfl (by decide) hs_6) ?_
    refine Tt.go (fun _ => Tr.run 3 (pc' := 81) (lv' := [(0, .ref P), (1, .int a1), (2, .int a2)]) (st' := [.int a1, .int (0 : Int32), .ref P]) rfl) ?_
    refine Tt.callV (As := [.int (0 : Int32), .int a1]) (rest := []) (c_X7_friends g l hl P (0 : Int32) a1 hP M w) hP (by decide) rfl rfl cw_X7_friends fw1323 pn_X7_friends (Nat.le_of_ble_eq_true rfl) (Nat.le_of_ble_eq_true rfl) (Nat.le_of_ble_eq_true rfl) rfl (fun v14 => (?_ : Tt g l z_X7_toldOfPoint (emIw M w) _ 84 [(0, .ref P), (1, .int a1), (2, .int a2)] [.int v14.1] (v14.2, w)))
    exact Tt.ret (Tr.iret rfl rfl)
  refine Tt.go (fun _ => Tr.tsOut (tgt := 85) rfl (fm_swd (n := 6) (by decide) (fun j hj => match j, hj with | 0, _ => hs_1 | 1, _ => hs_2 | 2, _ => hs_3 | 3, _ => hs_4 | 4, _ => hs_5 | 5, _ => hs_6 | j + 6, hj => absurd hj (by omega))) (by decide)) ?_
  refine Tt.go (fun _ => Tr.run 2 (pc' := 87) (lv' := [(0, .ref P), (1, .int a1), (2, .int a2)]) (st' := [.int a1, .ref P]) rfl) ?_
  refine Tt.callV (As := [.int a1]) (rest := []) (c_X7_nearestTo g l hl P a1 hP M w) hP (by decide) rfl rfl cw_X7_nearestTo fw1327 pn_X7_nearestTo (Nat.le_of_ble_eq_true rfl) (Nat.le_of_ble_eq_true rfl) (Nat.le_of_ble_eq_true rfl) rfl (fun v15 => (?_ : Tt g l z_X7_toldOfPoint (emIw M w) _ 90 [(0, .ref P), (1, .int a1), (2, .int a2)] [.int v15] (M, w)))
  exact Tt.ret (Tr.iret rfl rfl)
theorem c_X7_toldOfPoint (g : fm_G) (l : Launch) (hl : l.stackTraces = false) (P : Nat) (a1 : Int32) (a2 : Int32) (hP : fm_kd g P = 7) (M : fm_Mem) (w : fm_W) : ∀ r, f_X7_toldOfPoint P a1 a2 M = some r → fC g l z_X7_toldOfPoint [.ref P, .int a1, .int a2] (M, w) (emIw M w r) := fun r hr => fC.of (by decide) rfl o_X7_toldOfPoint hl (Nat.le_of_ble_eq_true rfl) (t_X7_toldOfPoint g l hl P a1 a2 hP M w r hr)
def k_X7_onCircle : List (Nat × Instr × Nat) := [(0, .iconst 0, 1), (1, .istore 5, 2), (3, .iconst 0, 1), (4, .istore 6, 2), (6, .iload 6, 2), (8, .aload_n 0, 1), (9, .invokevirtual 48, 3), (12, .if_icmp .ge 51, 3), (15, .iload 5, 2), (17, .iload 6, 2), (19, .iload_n 1, 1), (20, .if_icmp .eq 33, 3), (23, .iload 6, 2), (25, .iload_n 2, 1), (26, .if_icmp .eq 27, 3), (29, .iload 6, 2), (31, .iload_n 3, 1), (32, .if_icmp .eq 21, 3), (35, .aload_n 0, 1), (36, .iload_n 1, 1), (37, .iload_n 2, 1), (38, .iload_n 3, 1), (39, .iload 6, 2), (41, .invokevirtual 78, 3), (44, .iload 4, 2), (46, .if_icmp .ne 7, 3), (49, .iconst 1, 1), (50, .goto 4, 3), (53, .iconst 0, 1), (54, .iadd, 1), (55, .istore 5, 2), (57, .iinc 6 1, 3), (60, .goto (-54), 3), (63, .iload 5, 2), (65, .ireturn, 1)]
def z_X7_onCircle : fm_Y := (yX7_onCircle, RX7, cX7_onCircle, 7, (some .int), k_X7_onCircle, 5, 144)
theorem o_X7_onCircle : fm_dec z_X7_onCircle := (by decide +kernel : ∀ q ∈ k_X7_onCircle, decode cX7_onCircle q.1 = .ok q.2)
theorem cw_X7_onCircle : fm_cwV z_X7_onCircle := ⟨⟨lw_in 1353 (by decide +kernel) (by decide +kernel), lw_in 99 (by decide +kernel) (by decide +kernel), by decide, by decide⟩, lw_in 1352 (by decide +kernel) (by decide +kernel), lw_in 80 (by decide +kernel) (by decide +kernel)⟩
theorem pn_X7_onCircle : (parseMethodDescriptor z_X7_onCircle.1.desc).map (fun d => d.parameters.length) = some 4 := by decide +kernel
def f_X7_onCircle_54 (P : Nat) (a1 : Int32) (a2 : Int32) (a3 : Int32) (a4 : Int32) (k6 : Int32 → Int32 → fm_Mem → Option (Int32)) (x6 : Int32) (s0 : Int32) (s1 : Int32) (M : fm_Mem) : Option (Int32) := (k6 (s1 + s0) (x6 + (1 : Int32)) M)
set_option maxRecDepth 100000 in
set_option maxHeartbeats 4000000 in
theorem t_X7_onCircle_54 (g : fm_G) (l : Launch) (hl : l.stackTraces = false) (P : Nat) (a1 : Int32) (a2 : Int32) (a3 : Int32) (a4 : Int32) (hP : fm_kd g P = 7) (w : fm_W) (k6 : Int32 → Int32 → fm_Mem → Option (Int32)) (hk6 : ∀ (x5 : Int32) (x6 : Int32) (M : fm_Mem), Tt g l z_X7_onCircle (emI M w) (k6 x5 x6 M) 6 [(0, .ref P), (1, .int a1), (2, .int a2), (3, .int a3), (4, .int a4), (5, .int x5), (6, .int x6)] [] (M, w)) (x6 : Int32) (s0 : Int32) (s1 : Int32)  (M : fm_Mem) : Tt g l z_X7_onCircle (emI M w) (f_X7_onCircle_54 P a1 a2 a3 a4 k6 x6 s0 s1 M) 54 [(0, .ref P), (1, .int a1), (2, .int a2), (3, .int a3), (4, .int a4), (6, .int x6)] [.int s0, .int s1] (M, w) := by
  rw [f_X7_onCircle_54]
  refine Tt.go (fun _ => Tr.run 4 (pc' := 6) (lv' := [(6, .int (x6 + (1 : Int32))), (5, .int (s1 + s0)), (0, .ref P), (1, .int a1), (2, .int a2), (3, .int a3), (4, .int a4)]) (st' := []) rfl) ?_
  refine Tt.go (fun _ => Tr.sub (lv' := [(0, .ref P), (1, .int a1), (2, .int a2), (3, .int a3), (4, .int a4), (5, .int (s1 + s0)), (6, .int (x6 + (1 : Int32)))]) [2, 3, 4, 5, 6, 1, 0] rfl) ?_
  exact hk6 (s1 + s0) (x6 + (1 : Int32)) M
def f_X7_onCircle_53 (P : Nat) (a1 : Int32) (a2 : Int32) (a3 : Int32) (a4 : Int32) (k6 : Int32 → Int32 → fm_Mem → Option (Int32)) (x6 : Int32) (s0 : Int32) (M : fm_Mem) : Option (Int32) := (f_X7_onCircle_54 P a1 a2 a3 a4 k6 x6 (0 : Int32) s0 M)
set_option maxRecDepth 100000 in
set_option maxHeartbeats 4000000 in
theorem t_X7_onCircle_53 (g : fm_G) (l : Launch) (hl : l.stackTraces = false) (P : Nat) (a1 : Int32) (a2 : Int32) (a3 : Int32) (a4 : Int32) (hP : fm_kd g P = 7) (w : fm_W) (k6 : Int32 → Int32 → fm_Mem → Option (Int32)) (hk6 : ∀ (x5 : Int32) (x6 : Int32) (M : fm_Mem), Tt g l z_X7_onCircle (emI M w) (k6 x5 x6 M) 6 [(0, .ref P), (1, .int a1), (2, .int a2), (3, .int a3), (4, .int a4), (5, .int x5), (6, .int x6)] [] (M, w)) (x6 : Int32) (s0 : Int32)  (M : fm_Mem) : Tt g l z_X7_onCircle (emI M w) (f_X7_onCircle_53 P a1 a2 a3 a4 k6 x6 s0 M) 53 [(0, .ref P), (1, .int a1), (2, .int a2), (3, .int a3), (4, .int a4), (6, .int x6)] [.int s0] (M, w) := by
  rw [f_X7_onCircle_53]
  refine Tt.go (fun _ => Tr.run 1 (pc' := 54) (lv' := [(0, .ref P), (1, .int a1), (2, .int a2), (3, .int a3), (4, .int a4), (6, .int x6)]) (st' := [.int (0 : Int32), .int s0]) rfl) ?_
  exact t_X7_onCircle_54 g l hl P a1 a2 a3 a4 hP w k6 hk6 x6 (0 : Int32) s0 M
def f_X7_onCircle_6 (P : Nat) (a1 : Int32) (a2 : Int32) (a3 : Int32) (a4 : Int32) : Nat → Int32 → Int32 → fm_Mem → Option (Int32)
  | 0, _, _, _ => none
  | n + 1, x5, x6, M => Option.bind (f_X7_points P M) (fun v1 => if v1 ≤ x6 then (some (x5)) else (if x6 = a1 then (f_X7_onCircle_53 P a1 a2 a3 a4 (fun x5 x6 M => f_X7_onCircle_6 P a1 a2 a3 a4 n x5 x6 M) x6 x5 M) else (if x6 = a2 then (f_X7_onCircle_53 P a1 a2 a3 a4 (fun x5 x6 M => f_X7_onCircle_6 P a1 a2 a3 a4 n x5 x6 M) x6 x5 M) else (if x6 = a3 then (f_X7_onCircle_53 P a1 a2 a3 a4 (fun x5 x6 M => f_X7_onCircle_6 P a1 a2 a3 a4 n x5 x6 M) x6 x5 M) else (Option.bind (f_X7_circleBy P a1 a2 a3 x6 M) (fun v2 => if v2 = a4 then (f_X7_onCircle_54 P a1 a2 a3 a4 (fun x5 x6 M => f_X7_onCircle_6 P a1 a2 a3 a4 n x5 x6 M) x6 (1 : Int32) x5 M) else (f_X7_onCircle_53 P a1 a2 a3 a4 (fun x5 x6 M => f_X7_onCircle_6 P a1 a2 a3 a4 n x5 x6 M) x6 x5 M)))))))
set_option maxRecDepth 100000 in
set_option maxHeartbeats 4000000 in
theorem t_X7_onCircle_6 (g : fm_G) (l : Launch) (hl : l.stackTraces = false) (P : Nat) (a1 : Int32) (a2 : Int32) (a3 : Int32) (a4 : Int32) (hP : fm_kd g P = 7) (w : fm_W)  : ∀ (n : Nat) (x5 : Int32) (x6 : Int32)  (M : fm_Mem), Tt g l z_X7_onCircle (emI M w) (f_X7_onCircle_6 P a1 a2 a3 a4  n x5 x6 M) 6 [(0, .ref P), (1, .int a1), (2, .int a2), (3, .int a3), (4, .int a4), (5, .int x5), (6, .int x6)] [] (M, w) := by
  intro n
  induction n with
  | zero => intros; exact Tt.none
  | succ n ih =>
    intro x5 x6  M
    rw [f_X7_onCircle_6]
    refine Tt.go (fun _ => Tr.run 2 (pc' := 9) (lv' := [(0, .ref P), (1, .int a1), (2, .int a2), (3, .int a3), (4, .int a4), (5, .int x5), (6, .int x6)]) (st' := [.ref P, .int x6]) rfl) ?_
    refine Tt.callV (As := []) (rest := [.int x6]) (c_X7_points g l hl P hP M w) hP (by decide) rfl rfl cw_X7_points fw1156 pn_X7_points (Nat.le_of_ble_eq_true rfl) (Nat.le_of_ble_eq_true rfl) (Nat.le_of_ble_eq_true rfl) rfl (fun v1 => (?_ : Tt g l z_X7_onCircle (emI M w) _ 12 [(0, .ref P), (1, .int a1), (2, .int a2), (3, .int a3), (4, .int a4), (5, .int x5), (6, .int x6)] [.int v1, .int x6] (M, w)))
    refine Tt.ic_ge (tgt := 63) rfl (by decide) ?_ ?_
    · refine Tt.go (fun _ => Tr.run 1 (pc' := 65) (lv' := [(0, .ref P), (1, .int a1), (2, .int a2), (3, .int a3), (4, .int a4), (5, .int x5), (6, .int x6)]) (st' := [.int x5]) rfl) ?_
      exact Tt.ret (Tr.iret rfl rfl)
    · refine Tt.go (fun _ => Tr.run 3 (pc' := 20) (lv' := [(0, .ref P), (1, .int a1), (2, .int a2), (3, .int a3), (4, .int a4), (5, .int x5), (6, .int x6)]) (st' := [.int a1, .int x6, .int x5]) rfl) ?_
      refine Tt.ic_eq (tgt := 53) rfl (by decide) ?_ ?_
      · refine Tt.go (fun _ => Tr.sub (lv' := [(0, .ref P), (1, .int a1), (2, .int a2), (3, .int a3), (4, .int a4), (6, .int x6)]) [0, 1, 2, 3, 4, 6] rfl) ?_
        exact t_X7_onCircle_53 g l hl P a1 a2 a3 a4 hP w _ ih x6 x5 M
      · refine Tt.go (fun _ => Tr.run 2 (pc' := 26) (lv' := [(0, .ref P), (1, .int a1), (2, .int a2), (3, .int a3), (4, .int a4), (5, .int x5), (6, .int x6)]) (st' := [.int a2, .int x6, .int x5]) rfl) ?_
        refine Tt.ic_eq (tgt := 53) rfl (by decide) ?_ ?_
        · refine Tt.go (fun _ => Tr.sub (lv' := [(0, .ref P), (1, .int a1), (2, .int a2), (3, .int a3), (4, .int a4), (6, .int x6)]) [0, 1, 2, 3, 4, 6] rfl) ?_
          exact t_X7_onCircle_53 g l hl P a1 a2 a3 a4 hP w _ ih x6 x5 M
        · refine Tt.go (fun _ => Tr.run 2 (pc' := 32) (lv' := [(0, .ref P), (1, .int a1), (2, .int a2), (3, .int a3), (4, .int a4), (5, .int x5), (6, .int x6)]) (st' := [.int a3, .int x6, .int x5]) rfl) ?_
          refine Tt.ic_eq (tgt := 53) rfl (by decide) ?_ ?_
          · refine Tt.go (fun _ => Tr.sub (lv' := [(0, .ref P), (1, .int a1), (2, .int a2), (3, .int a3), (4, .int a4), (6, .int x6)]) [0, 1, 2, 3, 4, 6] rfl) ?_
            exact t_X7_onCircle_53 g l hl P a1 a2 a3 a4 hP w _ ih x6 x5 M
          · refine Tt.go (fun _ => Tr.run 5 (pc' := 41) (lv' := [(0, .ref P), (1, .int a1), (2, .int a2), (3, .int a3), (4, .int a4), (5, .int x5), (6, .int x6)]) (st' := [.int x6, .int a3, .int a2, .int a1, .ref P, .int x5]) rfl) ?_
            refine Tt.callV (As := [.int a1, .int a2, .int a3, .int x6]) (rest := [.int x5]) (c_X7_circleBy g l hl P a1 a2 a3 x6 hP M w) hP (by decide) rfl rfl cw_X7_circleBy fw1200 pn_X7_circleBy (Nat.le_of_ble_eq_true rfl) (Nat.le_of_ble_eq_true rfl) (Nat.le_of_ble_eq_true rfl) rfl (fun v2 => (?_ : Tt g l z_X7_onCircle (emI M w) _ 44 [(0, .ref P), (1, .int a1), (2, .int a2), (3, .int a3), (4, .int a4), (5, .int x5), (6, .int x6)] [.int v2, .int x5] (M, w)))
            refine Tt.go (fun _ => Tr.run 1 (pc' := 46) (lv' := [(0, .ref P), (1, .int a1), (2, .int a2), (3, .int a3), (4, .int a4), (5, .int x5), (6, .int x6)]) (st' := [.int a4, .int v2, .int x5]) rfl) ?_
            refine Tt.ic_ne (tgt := 53) rfl (by decide) ?_ ?_
            · refine Tt.go (fun _ => Tr.run 2 (pc' := 54) (lv' := [(0, .ref P), (1, .int a1), (2, .int a2), (3, .int a3), (4, .int a4), (5, .int x5), (6, .int x6)]) (st' := [.int (1 : Int32), .int x5]) rfl) ?_
              refine Tt.go (fun _ => Tr.sub (lv' := [(0, .ref P), (1, .int a1), (2, .int a2), (3, .int a3), (4, .int a4), (6, .int x6)]) [0, 1, 2, 3, 4, 6] rfl) ?_
              exact t_X7_onCircle_54 g l hl P a1 a2 a3 a4 hP w _ ih x6 (1 : Int32) x5 M
            · refine Tt.go (fun _ => Tr.sub (lv' := [(0, .ref P), (1, .int a1), (2, .int a2), (3, .int a3), (4, .int a4), (6, .int x6)]) [0, 1, 2, 3, 4, 6] rfl) ?_
              exact t_X7_onCircle_53 g l hl P a1 a2 a3 a4 hP w _ ih x6 x5 M
def f_X7_onCircle (P : Nat) (a1 : Int32) (a2 : Int32) (a3 : Int32) (a4 : Int32) (M : fm_Mem) : Option (Int32) := (f_X7_onCircle_6 P a1 a2 a3 a4 fm_fuel (0 : Int32) (0 : Int32) M)
set_option maxRecDepth 100000 in
set_option maxHeartbeats 4000000 in
theorem t_X7_onCircle (g : fm_G) (l : Launch) (hl : l.stackTraces = false) (P : Nat) (a1 : Int32) (a2 : Int32) (a3 : Int32) (a4 : Int32) (hP : fm_kd g P = 7) (M : fm_Mem) (w : fm_W) : Tt g l z_X7_onCircle (emI M w) (f_X7_onCircle P a1 a2 a3 a4 M) 0 [(0, .ref P), (1, .int a1), (2, .int a2), (3, .int a3), (4, .int a4)] [] (M, w) := by
  rw [f_X7_onCircle]
  refine Tt.go (fun _ => Tr.run 4 (pc' := 6) (lv' := [(6, .int (0 : Int32)), (5, .int (0 : Int32)), (0, .ref P), (1, .int a1), (2, .int a2), (3, .int a3), (4, .int a4)]) (st' := []) rfl) ?_
  refine Tt.go (fun _ => Tr.sub (lv' := [(0, .ref P), (1, .int a1), (2, .int a2), (3, .int a3), (4, .int a4), (5, .int (0 : Int32)), (6, .int (0 : Int32))]) [2, 3, 4, 5, 6, 1, 0] rfl) ?_
  exact t_X7_onCircle_6 g l hl P a1 a2 a3 a4 hP w fm_fuel (0 : Int32) (0 : Int32) M
theorem c_X7_onCircle (g : fm_G) (l : Launch) (hl : l.stackTraces = false) (P : Nat) (a1 : Int32) (a2 : Int32) (a3 : Int32) (a4 : Int32) (hP : fm_kd g P = 7) (M : fm_Mem) (w : fm_W) : ∀ r, f_X7_onCircle P a1 a2 a3 a4 M = some r → fC g l z_X7_onCircle [.ref P, .int a1, .int a2, .int a3, .int a4] (M, w) (emI M w r) := fun r hr => fC.of (by decide) rfl o_X7_onCircle hl (Nat.le_of_ble_eq_true rfl) (t_X7_onCircle g l hl P a1 a2 a3 a4 hP M w r hr)
def k_X7_besides : List (Nat × Instr × Nat) := [(0, .iconst 0, 1), (1, .istore_n 3, 1), (2, .iconst 0, 1), (3, .istore 4, 2), (5, .iload 4, 2), (7, .aload_n 0, 1), (8, .iload_n 2, 1), (9, .invokevirtual 107, 3), (12, .if_icmp .ge 75, 3), (15, .iconst 0, 1), (16, .istore 5, 2), (18, .iconst 0, 1), (19, .istore 6, 2), (21, .iload 6, 2), (23, .iconst 3, 1), (24, .if_icmp .ge 37, 3), (27, .iload 5, 2), (29, .aload_n 0, 1), (30, .iload_n 2, 1), (31, .iload 4, 2), (33, .aload_n 0, 1), (34, .iload_n 2, 1), (35, .iload_n 1, 1), (36, .iload 6, 2), (38, .invokevirtual 103, 3), (41, .invokevirtual 111, 3), (44, .ifCond .eq 7, 3), (47, .iconst 1, 1), (48, .goto 4, 3), (51, .iconst 0, 1), (52, .iadd, 1), (53, .istore 5, 2), (55, .iinc 6 1, 3), (58, .goto (-37), 3), (61, .iload_n 3, 1), (62, .iload 4, 2), (64, .iload_n 1, 1), (65, .if_icmp .eq 13, 3), (68, .iload 5, 2), (70, .iconst 2, 1), (71, .if_icmp .ne 7, 3), (74, .iconst 1, 1), (75, .goto 4, 3), (78, .iconst 0, 1), (79, .iadd, 1), (80, .istore_n 3, 1), (81, .iinc 4 1, 3), (84, .goto (-79), 3), (87, .iload_n 3, 1), (88, .ireturn, 1)]
def z_X7_besides : fm_Y := (yX7_besides, RX7, cX7_besides, 7, (some .int), k_X7_besides, 8, 215)
theorem o_X7_besides : fm_dec z_X7_besides := (by decide +kernel : ∀ q ∈ k_X7_besides, decode cX7_besides q.1 = .ok q.2)
theorem cw_X7_besides : fm_cwV z_X7_besides := ⟨⟨lw_in 1357 (by decide +kernel) (by decide +kernel), lw_in 99 (by decide +kernel) (by decide +kernel), by decide, by decide⟩, lw_in 1356 (by decide +kernel) (by decide +kernel), lw_in 81 (by decide +kernel) (by decide +kernel)⟩
theorem pn_X7_besides : (parseMethodDescriptor z_X7_besides.1.desc).map (fun d => d.parameters.length) = some 2 := by decide +kernel
def f_X7_besides_79 (P : Nat) (a1 : Int32) (a2 : Int32) (k5 : Int32 → Int32 → fm_Mem → Option (Int32 × fm_Mem)) (x4 : Int32) (s0 : Int32) (s1 : Int32) (M : fm_Mem) : Option (Int32 × fm_Mem) := (k5 (s1 + s0) (x4 + (1 : Int32)) M)
set_option maxRecDepth 100000 in
set_option maxHeartbeats 4000000 in
theorem t_X7_besides_79 (g : fm_G) (l : Launch) (hl : l.stackTraces = false) (P : Nat) (a1 : Int32) (a2 : Int32) (hP : fm_kd g P = 7) (w : fm_W) (M0 : fm_Mem) (k5 : Int32 → Int32 → fm_Mem → Option (Int32 × fm_Mem)) (hk5 : ∀ (x3 : Int32) (x4 : Int32) (M : fm_Mem), Tt g l z_X7_besides (emIw M0 w) (k5 x3 x4 M) 5 [(0, .ref P), (1, .int a1), (2, .int a2), (3, .int x3), (4, .int x4)] [] (M, w)) (x4 : Int32) (s0 : Int32) (s1 : Int32)  (M : fm_Mem) : Tt g l z_X7_besides (emIw M0 w) (f_X7_besides_79 P a1 a2 k5 x4 s0 s1 M) 79 [(0, .ref P), (1, .int a1), (2, .int a2), (4, .int x4)] [.int s0, .int s1] (M, w) := by
  rw [f_X7_besides_79]
  refine Tt.go (fun _ => Tr.run 4 (pc' := 5) (lv' := [(4, .int (x4 + (1 : Int32))), (3, .int (s1 + s0)), (0, .ref P), (1, .int a1), (2, .int a2)]) (st' := []) rfl) ?_
  refine Tt.go (fun _ => Tr.sub (lv' := [(0, .ref P), (1, .int a1), (2, .int a2), (3, .int (s1 + s0)), (4, .int (x4 + (1 : Int32)))]) [2, 3, 4, 1, 0] rfl) ?_
  exact hk5 (s1 + s0) (x4 + (1 : Int32)) M
def f_X7_besides_78 (P : Nat) (a1 : Int32) (a2 : Int32) (k5 : Int32 → Int32 → fm_Mem → Option (Int32 × fm_Mem)) (x4 : Int32) (s0 : Int32) (M : fm_Mem) : Option (Int32 × fm_Mem) := (f_X7_besides_79 P a1 a2 k5 x4 (0 : Int32) s0 M)
set_option maxRecDepth 100000 in
set_option maxHeartbeats 4000000 in
theorem t_X7_besides_78 (g : fm_G) (l : Launch) (hl : l.stackTraces = false) (P : Nat) (a1 : Int32) (a2 : Int32) (hP : fm_kd g P = 7) (w : fm_W) (M0 : fm_Mem) (k5 : Int32 → Int32 → fm_Mem → Option (Int32 × fm_Mem)) (hk5 : ∀ (x3 : Int32) (x4 : Int32) (M : fm_Mem), Tt g l z_X7_besides (emIw M0 w) (k5 x3 x4 M) 5 [(0, .ref P), (1, .int a1), (2, .int a2), (3, .int x3), (4, .int x4)] [] (M, w)) (x4 : Int32) (s0 : Int32)  (M : fm_Mem) : Tt g l z_X7_besides (emIw M0 w) (f_X7_besides_78 P a1 a2 k5 x4 s0 M) 78 [(0, .ref P), (1, .int a1), (2, .int a2), (4, .int x4)] [.int s0] (M, w) := by
  rw [f_X7_besides_78]
  refine Tt.go (fun _ => Tr.run 1 (pc' := 79) (lv' := [(0, .ref P), (1, .int a1), (2, .int a2), (4, .int x4)]) (st' := [.int (0 : Int32), .int s0]) rfl) ?_
  exact t_X7_besides_79 g l hl P a1 a2 hP w M0 k5 hk5 x4 (0 : Int32) s0 M
def f_X7_besides_52 (P : Nat) (a1 : Int32) (a2 : Int32) (k5 : Int32 → Int32 → fm_Mem → Option (Int32 × fm_Mem)) (k21 : Int32 → Int32 → Int32 → Int32 → fm_Mem → Option (Int32 × fm_Mem)) (x3 : Int32) (x4 : Int32) (x6 : Int32) (s0 : Int32) (s1 : Int32) (M : fm_Mem) : Option (Int32 × fm_Mem) := (k21 x3 x4 (s1 + s0) (x6 + (1 : Int32)) M)
set_option maxRecDepth 100000 in
set_option maxHeartbeats 4000000 in
theorem t_X7_besides_52 (g : fm_G) (l : Launch) (hl : l.stackTraces = false) (P : Nat) (a1 : Int32) (a2 : Int32) (hP : fm_kd g P = 7) (w : fm_W) (M0 : fm_Mem) (k5 : Int32 → Int32 → fm_Mem → Option (Int32 × fm_Mem)) (hk5 : ∀ (x3 : Int32) (x4 : Int32) (M : fm_Mem), Tt g l z_X7_besides (emIw M0 w) (k5 x3 x4 M) 5 [(0, .ref P), (1, .int a1), (2, .int a2), (3, .int x3), (4, .int x4)] [] (M, w)) (k21 : Int32 → Int32 → Int32 → Int32 → fm_Mem → Option (Int32 × fm_Mem)) (hk21 : ∀ (x3 : Int32) (x4 : Int32) (x5 : Int32) (x6 : Int32) (M : fm_Mem), Tt g l z_X7_besides (emIw M0 w) (k21 x3 x4 x5 x6 M) 21 [(0, .ref P), (1, .int a1), (2, .int a2), (3, .int x3), (4, .int x4), (5, .int x5), (6, .int x6)] [] (M, w)) (x3 : Int32) (x4 : Int32) (x6 : Int32) (s0 : Int32) (s1 : Int32)  (M : fm_Mem) : Tt g l z_X7_besides (emIw M0 w) (f_X7_besides_52 P a1 a2 k5 k21 x3 x4 x6 s0 s1 M) 52 [(0, .ref P), (1, .int a1), (2, .int a2), (3, .int x3), (4, .int x4), (6, .int x6)] [.int s0, .int s1] (M, w) := by
  rw [f_X7_besides_52]
  refine Tt.go (fun _ => Tr.run 4 (pc' := 21) (lv' := [(6, .int (x6 + (1 : Int32))), (5, .int (s1 + s0)), (0, .ref P), (1, .int a1), (2, .int a2), (3, .int x3), (4, .int x4)]) (st' := []) rfl) ?_
  refine Tt.go (fun _ => Tr.sub (lv' := [(0, .ref P), (1, .int a1), (2, .int a2), (3, .int x3), (4, .int x4), (5, .int (s1 + s0)), (6, .int (x6 + (1 : Int32)))]) [2, 3, 4, 5, 6, 1, 0] rfl) ?_
  exact hk21 x3 x4 (s1 + s0) (x6 + (1 : Int32)) M
def f_X7_besides_21 (P : Nat) (a1 : Int32) (a2 : Int32) (k5 : Int32 → Int32 → fm_Mem → Option (Int32 × fm_Mem)) : Nat → Int32 → Int32 → Int32 → Int32 → fm_Mem → Option (Int32 × fm_Mem)
  | 0, _, _, _, _, _ => none
  | n + 1, x3, x4, x5, x6, M => if (3 : Int32) ≤ x6 then (if x4 = a1 then (f_X7_besides_78 P a1 a2 k5 x4 x3 M) else (if x5 = (2 : Int32) then (f_X7_besides_79 P a1 a2 k5 x4 (1 : Int32) x3 M) else (f_X7_besides_78 P a1 a2 k5 x4 x3 M))) else (Option.bind (f_X7_endOf P a2 a1 x6 M) (fun v1 => Option.bind (f_X7_has P a2 x4 v1 M) (fun v2 => if v2 = 0 then (f_X7_besides_52 P a1 a2 k5 (fun x3 x4 x5 x6 M => f_X7_besides_21 P a1 a2 k5 n x3 x4 x5 x6 M) x3 x4 x6 (0 : Int32) x5 M) else (f_X7_besides_52 P a1 a2 k5 (fun x3 x4 x5 x6 M => f_X7_besides_21 P a1 a2 k5 n x3 x4 x5 x6 M) x3 x4 x6 (1 : Int32) x5 M))))
set_option maxRecDepth 100000 in
set_option maxHeartbeats 4000000 in
theorem t_X7_besides_21 (g : fm_G) (l : Launch) (hl : l.stackTraces = false) (P : Nat) (a1 : Int32) (a2 : Int32) (hP : fm_kd g P = 7) (w : fm_W) (M0 : fm_Mem) (k5 : Int32 → Int32 → fm_Mem → Option (Int32 × fm_Mem)) (hk5 : ∀ (x3 : Int32) (x4 : Int32) (M : fm_Mem), Tt g l z_X7_besides (emIw M0 w) (k5 x3 x4 M) 5 [(0, .ref P), (1, .int a1), (2, .int a2), (3, .int x3), (4, .int x4)] [] (M, w)) : ∀ (n : Nat) (x3 : Int32) (x4 : Int32) (x5 : Int32) (x6 : Int32)  (M : fm_Mem), Tt g l z_X7_besides (emIw M0 w) (f_X7_besides_21 P a1 a2 k5 n x3 x4 x5 x6 M) 21 [(0, .ref P), (1, .int a1), (2, .int a2), (3, .int x3), (4, .int x4), (5, .int x5), (6, .int x6)] [] (M, w) := by
  intro n
  induction n with
  | zero => intros; exact Tt.none
  | succ n ih =>
    intro x3 x4 x5 x6  M
    rw [f_X7_besides_21]
    refine Tt.go (fun _ => Tr.run 2 (pc' := 24) (lv' := [(0, .ref P), (1, .int a1), (2, .int a2), (3, .int x3), (4, .int x4), (5, .int x5), (6, .int x6)]) (st' := [.int (3 : Int32), .int x6]) rfl) ?_
    refine Tt.ic_ge (tgt := 61) rfl (by decide) ?_ ?_
    · refine Tt.go (fun _ => Tr.run 3 (pc' := 65) (lv' := [(0, .ref P), (1, .int a1), (2, .int a2), (3, .int x3), (4, .int x4), (5, .int x5), (6, .int x6)]) (st' := [.int a1, .int x4, .int x3]) rfl) ?_
      refine Tt.ic_eq (tgt := 78) rfl (by decide) ?_ ?_
      · refine Tt.go (fun _ => Tr.sub (lv' := [(0, .ref P), (1, .int a1), (2, .int a2), (4, .int x4)]) [0, 1, 2, 4] rfl) ?_
        exact t_X7_besides_78 g l hl P a1 a2 hP w M0 k5 hk5 x4 x3 M
      · refine Tt.go (fun _ => Tr.run 2 (pc' := 71) (lv' := [(0, .ref P), (1, .int a1), (2, .int a2), (3, .int x3), (4, .int x4), (5, .int x5), (6, .int x6)]) (st' := [.int (2 : Int32), .int x5, .int x3]) rfl) ?_
        refine Tt.ic_ne (tgt := 78) rfl (by decide) ?_ ?_
        · refine Tt.go (fun _ => Tr.run 2 (pc' := 79) (lv' := [(0, .ref P), (1, .int a1), (2, .int a2), (3, .int x3), (4, .int x4), (5, .int x5), (6, .int x6)]) (st' := [.int (1 : Int32), .int x3]) rfl) ?_
          refine Tt.go (fun _ => Tr.sub (lv' := [(0, .ref P), (1, .int a1), (2, .int a2), (4, .int x4)]) [0, 1, 2, 4] rfl) ?_
          exact t_X7_besides_79 g l hl P a1 a2 hP w M0 k5 hk5 x4 (1 : Int32) x3 M
        · refine Tt.go (fun _ => Tr.sub (lv' := [(0, .ref P), (1, .int a1), (2, .int a2), (4, .int x4)]) [0, 1, 2, 4] rfl) ?_
          exact t_X7_besides_78 g l hl P a1 a2 hP w M0 k5 hk5 x4 x3 M
    · refine Tt.go (fun _ => Tr.run 8 (pc' := 38) (lv' := [(0, .ref P), (1, .int a1), (2, .int a2), (3, .int x3), (4, .int x4), (5, .int x5), (6, .int x6)]) (st' := [.int x6, .int a1, .int a2, .ref P, .int x4, .int a2, .ref P, .int x5]) rfl) ?_
      refine Tt.callV (As := [.int a2, .int a1, .int x6]) (rest := [.int x4, .int a2, .ref P, .int x5]) (c_X7_endOf g l hl P a2 a1 x6 hP M w) hP (by decide) rfl rfl cw_X7_endOf fw1231 pn_X7_endOf (Nat.le_of_ble_eq_true rfl) (Nat.le_of_ble_eq_true rfl) (Nat.le_of_ble_eq_true rfl) rfl (fun v1 => (?_ : Tt g l z_X7_besides (emIw M0 w) _ 41 [(0, .ref P), (1, .int a1), (2, .int a2), (3, .int x3), (4, .int x4), (5, .int x5), (6, .int x6)] [.int v1, .int x4, .int a2, .ref P, .int x5] (M, w)))
      refine Tt.callV (As := [.int a2, .int x4, .int v1]) (rest := [.int x5]) (c_X7_has g l hl P a2 x4 v1 hP M w) hP (by decide) rfl rfl cw_X7_has fw1227 pn_X7_has (Nat.le_of_ble_eq_true rfl) (Nat.le_of_ble_eq_true rfl) (Nat.le_of_ble_eq_true rfl) rfl (fun v2 => (?_ : Tt g l z_X7_besides (emIw M0 w) _ 44 [(0, .ref P), (1, .int a1), (2, .int a2), (3, .int x3), (4, .int x4), (5, .int x5), (6, .int x6)] [.int v2, .int x5] (M, w)))
      refine Tt.if_eq (tgt := 51) rfl (by decide) ?_ ?_
      · refine Tt.go (fun _ => Tr.run 1 (pc' := 52) (lv' := [(0, .ref P), (1, .int a1), (2, .int a2), (3, .int x3), (4, .int x4), (5, .int x5), (6, .int x6)]) (st' := [.int (0 : Int32), .int x5]) rfl) ?_
        refine Tt.go (fun _ => Tr.sub (lv' := [(0, .ref P), (1, .int a1), (2, .int a2), (3, .int x3), (4, .int x4), (6, .int x6)]) [0, 1, 2, 3, 4, 6] rfl) ?_
        exact t_X7_besides_52 g l hl P a1 a2 hP w M0 k5 hk5 _ ih x3 x4 x6 (0 : Int32) x5 M
      · refine Tt.go (fun _ => Tr.run 2 (pc' := 52) (lv' := [(0, .ref P), (1, .int a1), (2, .int a2), (3, .int x3), (4, .int x4), (5, .int x5), (6, .int x6)]) (st' := [.int (1 : Int32), .int x5]) rfl) ?_
        refine Tt.go (fun _ => Tr.sub (lv' := [(0, .ref P), (1, .int a1), (2, .int a2), (3, .int x3), (4, .int x4), (6, .int x6)]) [0, 1, 2, 3, 4, 6] rfl) ?_
        exact t_X7_besides_52 g l hl P a1 a2 hP w M0 k5 hk5 _ ih x3 x4 x6 (1 : Int32) x5 M
def f_X7_besides_5 (P : Nat) (a1 : Int32) (a2 : Int32) : Nat → Int32 → Int32 → fm_Mem → Option (Int32 × fm_Mem)
  | 0, _, _, _ => none
  | n + 1, x3, x4, M => Option.bind (f_X7_many P a2 M) (fun v1 => if v1.1 ≤ x4 then (some ((x3, v1.2))) else (f_X7_besides_21 P a1 a2 (fun x3 x4 M => f_X7_besides_5 P a1 a2 n x3 x4 M) fm_fuel x3 x4 (0 : Int32) (0 : Int32) v1.2))
set_option maxRecDepth 100000 in
set_option maxHeartbeats 4000000 in
theorem t_X7_besides_5 (g : fm_G) (l : Launch) (hl : l.stackTraces = false) (P : Nat) (a1 : Int32) (a2 : Int32) (hP : fm_kd g P = 7) (w : fm_W) (M0 : fm_Mem)  : ∀ (n : Nat) (x3 : Int32) (x4 : Int32)  (M : fm_Mem), Tt g l z_X7_besides (emIw M0 w) (f_X7_besides_5 P a1 a2  n x3 x4 M) 5 [(0, .ref P), (1, .int a1), (2, .int a2), (3, .int x3), (4, .int x4)] [] (M, w) := by
  intro n
  induction n with
  | zero => intros; exact Tt.none
  | succ n ih =>
    intro x3 x4  M
    rw [f_X7_besides_5]
    refine Tt.go (fun _ => Tr.run 3 (pc' := 9) (lv' := [(0, .ref P), (1, .int a1), (2, .int a2), (3, .int x3), (4, .int x4)]) (st' := [.int a2, .ref P, .int x4]) rfl) ?_
    refine Tt.callV (As := [.int a2]) (rest := [.int x4]) (c_X7_many g l hl P a2 hP M w) hP (by decide) rfl rfl cw_X7_many fw1223 pn_X7_many (Nat.le_of_ble_eq_true rfl) (Nat.le_of_ble_eq_true rfl) (Nat.le_of_ble_eq_true rfl) rfl (fun v1 => (?_ : Tt g l z_X7_besides (emIw M0 w) _ 12 [(0, .ref P), (1, .int a1), (2, .int a2), (3, .int x3), (4, .int x4)] [.int v1.1, .int x4] (v1.2, w)))
    refine Tt.ic_ge (tgt := 87) rfl (by decide) ?_ ?_
    · refine Tt.go (fun _ => Tr.run 1 (pc' := 88) (lv' := [(0, .ref P), (1, .int a1), (2, .int a2), (3, .int x3), (4, .int x4)]) (st' := [.int x3]) rfl) ?_
      exact Tt.ret (Tr.iret rfl rfl)
    · refine Tt.go (fun _ => Tr.run 4 (pc' := 21) (lv' := [(6, .int (0 : Int32)), (5, .int (0 : Int32)), (0, .ref P), (1, .int a1), (2, .int a2), (3, .int x3), (4, .int x4)]) (st' := []) rfl) ?_
      refine Tt.go (fun _ => Tr.sub (lv' := [(0, .ref P), (1, .int a1), (2, .int a2), (3, .int x3), (4, .int x4), (5, .int (0 : Int32)), (6, .int (0 : Int32))]) [2, 3, 4, 5, 6, 1, 0] rfl) ?_
      exact t_X7_besides_21 g l hl P a1 a2 hP w M0 _ ih fm_fuel x3 x4 (0 : Int32) (0 : Int32) v1.2
def f_X7_besides (P : Nat) (a1 : Int32) (a2 : Int32) (M : fm_Mem) : Option (Int32 × fm_Mem) := (f_X7_besides_5 P a1 a2 fm_fuel (0 : Int32) (0 : Int32) M)
set_option maxRecDepth 100000 in
set_option maxHeartbeats 4000000 in
theorem t_X7_besides (g : fm_G) (l : Launch) (hl : l.stackTraces = false) (P : Nat) (a1 : Int32) (a2 : Int32) (hP : fm_kd g P = 7) (M : fm_Mem) (w : fm_W) : Tt g l z_X7_besides (emIw M w) (f_X7_besides P a1 a2 M) 0 [(0, .ref P), (1, .int a1), (2, .int a2)] [] (M, w) := by
  rw [f_X7_besides]
  refine Tt.go (fun _ => Tr.run 4 (pc' := 5) (lv' := [(4, .int (0 : Int32)), (3, .int (0 : Int32)), (0, .ref P), (1, .int a1), (2, .int a2)]) (st' := []) rfl) ?_
  refine Tt.go (fun _ => Tr.sub (lv' := [(0, .ref P), (1, .int a1), (2, .int a2), (3, .int (0 : Int32)), (4, .int (0 : Int32))]) [2, 3, 4, 1, 0] rfl) ?_
  exact t_X7_besides_5 g l hl P a1 a2 hP w M fm_fuel (0 : Int32) (0 : Int32) M
theorem c_X7_besides (g : fm_G) (l : Launch) (hl : l.stackTraces = false) (P : Nat) (a1 : Int32) (a2 : Int32) (hP : fm_kd g P = 7) (M : fm_Mem) (w : fm_W) : ∀ r, f_X7_besides P a1 a2 M = some r → fC g l z_X7_besides [.ref P, .int a1, .int a2] (M, w) (emIw M w r) := fun r hr => fC.of (by decide) rfl o_X7_besides hl (Nat.le_of_ble_eq_true rfl) (t_X7_besides g l hl P a1 a2 hP M w r hr)
def k_X7_toldOfTriangle : List (Nat × Instr × Nat) := [(0, .aload_n 0, 1), (1, .iload_n 2, 1), (2, .iload_n 1, 1), (3, .iconst 0, 1), (4, .invokevirtual 103, 3), (7, .istore 4, 2), (9, .aload_n 0, 1), (10, .iload_n 2, 1), (11, .iload_n 1, 1), (12, .iconst 1, 1), (13, .invokevirtual 103, 3), (16, .istore 5, 2), (18, .aload_n 0, 1), (19, .iload_n 2, 1), (20, .iload_n 1, 1), (21, .iconst 2, 1), (22, .invokevirtual 103, 3), (25, .istore 6, 2), (27, .iload_n 3, 1), (28, .tableswitch 87 0 5 #[40, 40, 40, 48, 63, 75], 40), (68, .aload_n 0, 1), (69, .iload_n 2, 1), (70, .iload_n 1, 1), (71, .iload_n 3, 1), (72, .invokevirtual 103, 3), (75, .ireturn, 1), (76, .aload_n 0, 1), (77, .iload 4, 2), (79, .iload 5, 2), (81, .iload 6, 2), (83, .invokevirtual 70, 3), (86, .invokestatic 279, 3), (89, .l2i, 1), (90, .ireturn, 1), (91, .aload_n 0, 1), (92, .iload 4, 2), (94, .iload 5, 2), (96, .iload 6, 2), (98, .iconst 1, 1), (99, .invokevirtual 283, 3), (102, .ireturn, 1), (103, .aload_n 0, 1), (104, .iload 4, 2), (106, .iload 5, 2), (108, .iload 6, 2), (110, .iconst 0, 1), (111, .invokevirtual 283, 3), (114, .ireturn, 1), (115, .aload_n 0, 1), (116, .iload_n 1, 1), (117, .iload_n 2, 1), (118, .invokevirtual 286, 3), (121, .ireturn, 1)]
def z_X7_toldOfTriangle : fm_Y := (yX7_toldOfTriangle, RX7, cX7_toldOfTriangle, 7, (some .int), k_X7_toldOfTriangle, 9, 241)
theorem o_X7_toldOfTriangle : fm_dec z_X7_toldOfTriangle := (by decide +kernel : ∀ q ∈ k_X7_toldOfTriangle, decode cX7_toldOfTriangle q.1 = .ok q.2)
theorem cw_X7_toldOfTriangle : fm_cwV z_X7_toldOfTriangle := ⟨⟨lw_in 1346 (by decide +kernel) (by decide +kernel), lw_in 99 (by decide +kernel) (by decide +kernel), by decide, by decide⟩, lw_in 1345 (by decide +kernel) (by decide +kernel), lw_in 79 (by decide +kernel) (by decide +kernel)⟩
theorem pn_X7_toldOfTriangle : (parseMethodDescriptor z_X7_toldOfTriangle.1.desc).map (fun d => d.parameters.length) = some 3 := by decide +kernel
def f_X7_toldOfTriangle_68 (P : Nat) (a1 : Int32) (a2 : Int32) (a3 : Int32)  (M : fm_Mem) : Option (Int32 × fm_Mem) := Option.bind (f_X7_endOf P a2 a1 a3 M) (fun v1 => some ((v1, M)))
set_option maxRecDepth 100000 in
set_option maxHeartbeats 4000000 in
theorem t_X7_toldOfTriangle_68 (g : fm_G) (l : Launch) (hl : l.stackTraces = false) (P : Nat) (a1 : Int32) (a2 : Int32) (a3 : Int32) (hP : fm_kd g P = 7) (w : fm_W)    (M : fm_Mem) : Tt g l z_X7_toldOfTriangle (emIw M w) (f_X7_toldOfTriangle_68 P a1 a2 a3   M) 68 [(0, .ref P), (1, .int a1), (2, .int a2), (3, .int a3)] [] (M, w) := by
  rw [f_X7_toldOfTriangle_68]
  refine Tt.go (fun _ => Tr.run 4 (pc' := 72) (lv' := [(0, .ref P), (1, .int a1), (2, .int a2), (3, .int a3)]) (st' := [.int a3, .int a1, .int a2, .ref P]) rfl) ?_
  refine Tt.callV (As := [.int a2, .int a1, .int a3]) (rest := []) (c_X7_endOf g l hl P a2 a1 a3 hP M w) hP (by decide) rfl rfl cw_X7_endOf fw1231 pn_X7_endOf (Nat.le_of_ble_eq_true rfl) (Nat.le_of_ble_eq_true rfl) (Nat.le_of_ble_eq_true rfl) rfl (fun v1 => (?_ : Tt g l z_X7_toldOfTriangle (emIw M w) _ 75 [(0, .ref P), (1, .int a1), (2, .int a2), (3, .int a3)] [.int v1] (M, w)))
  exact Tt.ret (Tr.iret rfl rfl)
def f_X7_toldOfTriangle (P : Nat) (a1 : Int32) (a2 : Int32) (a3 : Int32) (M : fm_Mem) : Option (Int32 × fm_Mem) := Option.bind (f_X7_endOf P a2 a1 (0 : Int32) M) (fun v1 => Option.bind (f_X7_endOf P a2 a1 (1 : Int32) M) (fun v2 => Option.bind (f_X7_endOf P a2 a1 (2 : Int32) M) (fun v3 => (if a3 = (0 : Int32) then (f_X7_toldOfTriangle_68 P a1 a2 a3 M) else (if a3 = (1 : Int32) then (f_X7_toldOfTriangle_68 P a1 a2 a3 M) else (if a3 = (2 : Int32) then (f_X7_toldOfTriangle_68 P a1 a2 a3 M) else (if a3 = (3 : Int32) then (Option.bind (f_X7_turn P v1 v2 v3 M) (fun v10 => some (((Int64.toInt32 (fm_absL v10)), M)))) else (if a3 = (4 : Int32) then (Option.bind (f_X7_onCircle P v1 v2 v3 (1 : Int32) M) (fun v11 => some ((v11, M)))) else (if a3 = (5 : Int32) then (Option.bind (f_X7_onCircle P v1 v2 v3 (0 : Int32) M) (fun v12 => some ((v12, M)))) else (Option.bind (f_X7_besides P a1 a2 M) (fun v13 => some ((v13.1, v13.2)))))))))))))
set_option maxRecDepth 100000 in
set_option maxHeartbeats 4000000 in
theorem t_X7_toldOfTriangle (g : fm_G) (l : Launch) (hl : l.stackTraces = false) (P : Nat) (a1 : Int32) (a2 : Int32) (a3 : Int32) (hP : fm_kd g P = 7) (M : fm_Mem) (w : fm_W) : Tt g l z_X7_toldOfTriangle (emIw M w) (f_X7_toldOfTriangle P a1 a2 a3 M) 0 [(0, .ref P), (1, .int a1), (2, .int a2), (3, .int a3)] [] (M, w) := by
  rw [f_X7_toldOfTriangle]
  refine Tt.go (fun _ => Tr.run 4 (pc' := 4) (lv' := [(0, .ref P), (1, .int a1), (2, .int a2), (3, .int a3)]) (st' := [.int (0 : Int32), .int a1, .int a2, .ref P]) rfl) ?_
  refine Tt.callV (As := [.int a2, .int a1, .int (0 : Int32)]) (rest := []) (c_X7_endOf g l hl P a2 a1 (0 : Int32) hP M w) hP (by decide) rfl rfl cw_X7_endOf fw1231 pn_X7_endOf (Nat.le_of_ble_eq_true rfl) (Nat.le_of_ble_eq_true rfl) (Nat.le_of_ble_eq_true rfl) rfl (fun v1 => (?_ : Tt g l z_X7_toldOfTriangle (emIw M w) _ 7 [(0, .ref P), (1, .int a1), (2, .int a2), (3, .int a3)] [.int v1] (M, w)))
  refine Tt.go (fun _ => Tr.run 5 (pc' := 13) (lv' := [(4, .int v1), (0, .ref P), (1, .int a1), (2, .int a2), (3, .int a3)]) (st' := [.int (1 : Int32), .int a1, .int a2, .ref P]) rfl) ?_
  refine Tt.callV (As := [.int a2, .int a1, .int (1 : Int32)]) (rest := []) (c_X7_endOf g l hl P a2 a1 (1 : Int32) hP M w) hP (by decide) rfl rfl cw_X7_endOf fw1231 pn_X7_endOf (Nat.le_of_ble_eq_true rfl) (Nat.le_of_ble_eq_true rfl) (Nat.le_of_ble_eq_true rfl) rfl (fun v2 => (?_ : Tt g l z_X7_toldOfTriangle (emIw M w) _ 16 [(4, .int v1), (0, .ref P), (1, .int a1), (2, .int a2), (3, .int a3)] [.int v2] (M, w)))
  refine Tt.go (fun _ => Tr.run 5 (pc' := 22) (lv' := [(5, .int v2), (4, .int v1), (0, .ref P), (1, .int a1), (2, .int a2), (3, .int a3)]) (st' := [.int (2 : Int32), .int a1, .int a2, .ref P]) rfl) ?_
  refine Tt.callV (As := [.int a2, .int a1, .int (2 : Int32)]) (rest := []) (c_X7_endOf g l hl P a2 a1 (2 : Int32) hP M w) hP (by decide) rfl rfl cw_X7_endOf fw1231 pn_X7_endOf (Nat.le_of_ble_eq_true rfl) (Nat.le_of_ble_eq_true rfl) (Nat.le_of_ble_eq_true rfl) rfl (fun v3 => (?_ : Tt g l z_X7_toldOfTriangle (emIw M w) _ 25 [(5, .int v2), (4, .int v1), (0, .ref P), (1, .int a1), (2, .int a2), (3, .int a3)] [.int v3] (M, w)))
  refine Tt.go (fun _ => Tr.run 2 (pc' := 28) (lv' := [(6, .int v3), (5, .int v2), (4, .int v1), (0, .ref P), (1, .int a1), (2, .int a2), (3, .int a3)]) (st' := [.int a3]) rfl) ?_
  refine Tt.ite (fun hs_4 => ?_) (fun hs_4 => ?_)
  · refine Tt.go (fun _ => Tr.tsIn (k := 0) (off := 40) (tgt := 68) rfl (by decide) (by decide) rfl (by decide) hs_4) ?_
    refine Tt.go (fun _ => Tr.sub (lv' := [(0, .ref P), (1, .int a1), (2, .int a2), (3, .int a3)]) [3, 4, 5, 6] rfl) ?_
    exact t_X7_toldOfTriangle_68 g l hl P a1 a2 a3 hP w M
  refine Tt.ite (fun hs_5 => ?_) (fun hs_5 => ?_)
  · refine Tt.go (fun _ => Tr.tsIn (k := 1) (off := 40) (tgt := 68) rfl (by decide) (by decide) rfl (by decide) hs_5) ?_
    refine Tt.go (fun _ => Tr.sub (lv' := [(0, .ref P), (1, .int a1), (2, .int a2), (3, .int a3)]) [3, 4, 5, 6] rfl) ?_
    exact t_X7_toldOfTriangle_68 g l hl P a1 a2 a3 hP w M
  refine Tt.ite (fun hs_6 => ?_) (fun hs_6 => ?_)
  · refine Tt.go (fun _ => Tr.tsIn (k := 2) (off := 40) (tgt := 68) rfl (by decide) (by decide) rfl (by decide) hs_6) ?_
    refine Tt.go (fun _ => Tr.sub (lv' := [(0, .ref P), (1, .int a1), (2, .int a2), (3, .int a3)]) [3, 4, 5, 6] rfl) ?_
    exact t_X7_toldOfTriangle_68 g l hl P a1 a2 a3 hP w M
  refine Tt.ite (fun hs_7 => ?_) (fun hs_7 => ?_)
  · refine Tt.go (fun _ => Tr.tsIn (k := 3) (off := 48) (tgt := 76) rfl (by decide) (by decide) rfl (by decide) hs_7) ?_
    refine Tt.go (fun _ => Tr.run 4 (pc' := 83) (lv' := [(6, .int v3), (5, .int v2), (4, .int v1), (0, .ref P), (1, .int a1), (2, .int a2), (3, .int a3)]) (st' := [.int v3, .int v2, .int v1, .ref P]) rfl) ?_
    refine Tt.callV (As := [.int v1, .int v2, .int v3]) (rest := []) (c_X7_turn g l hl P v1 v2 v3 hP M w) hP (by decide) rfl rfl cw_X7_turn fw1193 pn_X7_turn (Nat.le_of_ble_eq_true rfl) (Nat.le_of_ble_eq_true rfl) (Nat.le_of_ble_eq_true rfl) rfl (fun v10 => (?_ : Tt g l z_X7_toldOfTriangle (emIw M w) _ 86 [(6, .int v3), (5, .int v2), (4, .int v1), (0, .ref P), (1, .int a1), (2, .int a2), (3, .int a3)] [.long v10] (M, w)))
    refine Tt.go (fun _ => Tr.absL rfl ⟨fw1347, fw1348, fw94, fw1349⟩ (Nat.le_of_ble_eq_true rfl) (Nat.le_of_ble_eq_true rfl)) (?_ : Tt g l z_X7_toldOfTriangle (emIw M w) _ 89 [(6, .int v3), (5, .int v2), (4, .int v1), (0, .ref P), (1, .int a1), (2, .int a2), (3, .int a3)] [.long (fm_absL v10)] (M, w))
    refine Tt.go (fun _ => Tr.run 1 (pc' := 90) (lv' := [(6, .int v3), (5, .int v2), (4, .int v1), (0, .ref P), (1, .int a1), (2, .int a2), (3, .int a3)]) (st' := [.int (Int64.toInt32 (fm_absL v10))]) rfl) ?_
    exact Tt.ret (Tr.iret rfl rfl)
  refine Tt.ite (fun hs_8 => ?_) (fun hs_8 => ?_)
  · refine Tt.go (fun _ => Tr.tsIn (k := 4) (off := 63) (tgt := 91) rfl (by decide) (by decide) rfl (by decide) hs_8) ?_
    refine Tt.go (fun _ => Tr.run 5 (pc' := 99) (lv' := [(6, .int v3), (5, .int v2), (4, .int v1), (0, .ref P), (1, .int a1), (2, .int a2), (3, .int a3)]) (st' := [.int (1 : Int32), .int v3, .int v2, .int v1, .ref P]) rfl) ?_
    refine Tt.callV (As := [.int v1, .int v2, .int v3, .int (1 : Int32)]) (rest := []) (c_X7_onCircle g l hl P v1 v2 v3 (1 : Int32) hP M w) hP (by decide) rfl rfl cw_X7_onCircle fw1350 pn_X7_onCircle (Nat.le_of_ble_eq_true rfl) (Nat.le_of_ble_eq_true rfl) (Nat.le_of_ble_eq_true rfl) rfl (fun v11 => (?_ : Tt g l z_X7_toldOfTriangle (emIw M w) _ 102 [(6, .int v3), (5, .int v2), (4, .int v1), (0, .ref P), (1, .int a1), (2, .int a2), (3, .int a3)] [.int v11] (M, w)))
    exact Tt.ret (Tr.iret rfl rfl)
  refine Tt.ite (fun hs_9 => ?_) (fun hs_9 => ?_)
  · refine Tt.go (fun _ => Tr.tsIn (k := 5) (off := 75) (tgt := 103) rfl (by decide) (by decide) rfl (by decide) hs_9) ?_
    refine Tt.go (fun _ => Tr.run 5 (pc' := 111) (lv' := [(6, .int v3), (5, .int v2), (4, .int v1), (0, .ref P), (1, .int a1), (2, .int a2), (3, .int a3)]) (st' := [.int (0 : Int32), .int v3, .int v2, .int v1, .ref P]) rfl) ?_
    refine Tt.callV (As := [.int v1, .int v2, .int v3, .int (0 : Int32)]) (rest := []) (c_X7_onCircle g l hl P v1 v2 v3 (0 : Int32) hP M w) hP (by decide) rfl rfl cw_X7_onCircle fw1350 pn_X7_onCircle (Nat.le_of_ble_eq_true rfl) (Nat.le_of_ble_eq_true rfl) (Nat.le_of_ble_eq_true rfl) rfl (fun v12 => (?_ : Tt g l z_X7_toldOfTriangle (emIw M w) _ 114 [(6, .int v3), (5, .int v2), (4, .int v1), (0, .ref P), (1, .int a1), (2, .int a2), (3, .int a3)] [.int v12] (M, w)))
    exact Tt.ret (Tr.iret rfl rfl)
  refine Tt.go (fun _ => Tr.tsOut (tgt := 115) rfl (fm_swd (n := 6) (by decide) (fun j hj => match j, hj with | 0, _ => hs_4 | 1, _ => hs_5 | 2, _ => hs_6 | 3, _ => hs_7 | 4, _ => hs_8 | 5, _ => hs_9 | j + 6, hj => absurd hj (by omega))) (by decide)) ?_
  refine Tt.go (fun _ => Tr.run 3 (pc' := 118) (lv' := [(6, .int v3), (5, .int v2), (4, .int v1), (0, .ref P), (1, .int a1), (2, .int a2), (3, .int a3)]) (st' := [.int a2, .int a1, .ref P]) rfl) ?_
  refine Tt.callV (As := [.int a1, .int a2]) (rest := []) (c_X7_besides g l hl P a1 a2 hP M w) hP (by decide) rfl rfl cw_X7_besides fw1354 pn_X7_besides (Nat.le_of_ble_eq_true rfl) (Nat.le_of_ble_eq_true rfl) (Nat.le_of_ble_eq_true rfl) rfl (fun v13 => (?_ : Tt g l z_X7_toldOfTriangle (emIw M w) _ 121 [(6, .int v3), (5, .int v2), (4, .int v1), (0, .ref P), (1, .int a1), (2, .int a2), (3, .int a3)] [.int v13.1] (v13.2, w)))
  exact Tt.ret (Tr.iret rfl rfl)
theorem c_X7_toldOfTriangle (g : fm_G) (l : Launch) (hl : l.stackTraces = false) (P : Nat) (a1 : Int32) (a2 : Int32) (a3 : Int32) (hP : fm_kd g P = 7) (M : fm_Mem) (w : fm_W) : ∀ r, f_X7_toldOfTriangle P a1 a2 a3 M = some r → fC g l z_X7_toldOfTriangle [.ref P, .int a1, .int a2, .int a3] (M, w) (emIw M w r) := fun r hr => fC.of (by decide) rfl o_X7_toldOfTriangle hl (Nat.le_of_ble_eq_true rfl) (t_X7_toldOfTriangle g l hl P a1 a2 a3 hP M w r hr)
