theorem fw1273 : Cond.methodLink "CircleFlipsModel" 290 ⟨"CircleFlipsModel", "toldOf", "(I)I"⟩ ∈ lw_all := lw_in 1273 (by decide +kernel) (by decide +kernel)
theorem fw1315 : Cond.methodLink "CircleFlipsModel" 293 ⟨"CircleFlipsModel", "isPoint", "(I)Z"⟩ ∈ lw_all := lw_in 1315 (by decide +kernel) (by decide +kernel)
theorem fw1319 : Cond.methodLink "CircleFlipsModel" 296 ⟨"CircleFlipsModel", "toldOfPoint", "(II)I"⟩ ∈ lw_all := lw_in 1319 (by decide +kernel) (by decide +kernel)
theorem fw1339 : Cond.methodLink "CircleFlipsModel" 299 ⟨"CircleFlipsModel", "isTriangle", "(IZ)Z"⟩ ∈ lw_all := lw_in 1339 (by decide +kernel) (by decide +kernel)
theorem fw1343 : Cond.methodLink "CircleFlipsModel" 303 ⟨"CircleFlipsModel", "toldOfTriangle", "(IZI)I"⟩ ∈ lw_all := lw_in 1343 (by decide +kernel) (by decide +kernel)
theorem fw1370 : Cond.methodLink "CircleFlipsModel" 307 ⟨"CircleFlipsModel", "firstBad", "()I"⟩ ∈ lw_all := lw_in 1370 (by decide +kernel) (by decide +kernel)
theorem fw1378 : Cond.methodLink "CircleFlipsModel" 310 ⟨"CircleFlipsModel", "holds", "(III)Z"⟩ ∈ lw_all := lw_in 1378 (by decide +kernel) (by decide +kernel)
theorem fw1390 : Cond.methodLink "CircleFlipsModel" 313 ⟨"CircleFlipsModel", "behind", "(II)I"⟩ ∈ lw_all := lw_in 1390 (by decide +kernel) (by decide +kernel)
theorem fw1398 : Cond.methodLink "CircleFlipsModel" 320 ⟨"CircleFlipsModel", "liftOf", "()J"⟩ ∈ lw_all := lw_in 1398 (by decide +kernel) (by decide +kernel)
theorem fw1402 : Cond.methodLink "CircleFlipsModel" 316 ⟨"CircleFlipsModel", "square", "(I)J"⟩ ∈ lw_all := lw_in 1402 (by decide +kernel) (by decide +kernel)
def k_X7_isTriangle : List (Nat × Instr × Nat) := [(0, .iload_n 1, 1), (1, .iconst 0, 1), (2, .aload_n 0, 1), (3, .iload_n 2, 1), (4, .invokevirtual 107, 3), (7, .iconst 1, 1), (8, .isub, 1), (9, .invokestatic 52, 3), (12, .ireturn, 1)]
def z_X7_isTriangle : fm_Y := (yX7_isTriangle, RX7, cX7_isTriangle, 3, (some .boolean), k_X7_isTriangle, 8, 215)
theorem o_X7_isTriangle : fm_dec z_X7_isTriangle := (by decide +kernel : ∀ q ∈ k_X7_isTriangle, decode cX7_isTriangle q.1 = .ok q.2)
theorem cw_X7_isTriangle : fm_cwV z_X7_isTriangle := ⟨⟨lw_in 1342 (by decide +kernel) (by decide +kernel), lw_in 99 (by decide +kernel) (by decide +kernel), by decide, by decide⟩, lw_in 1341 (by decide +kernel) (by decide +kernel), lw_in 78 (by decide +kernel) (by decide +kernel)⟩
theorem pn_X7_isTriangle : (parseMethodDescriptor z_X7_isTriangle.1.desc).map (fun d => d.parameters.length) = some 2 := by decide +kernel
def f_X7_isTriangle (P : Nat) (a1 : Int32) (a2 : Int32) (M : fm_Mem) : Option (Int32 × fm_Mem) := Option.bind (f_X7_many P a2 M) (fun v1 => Option.bind (f_X7_isIn a1 (0 : Int32) (v1.1 - (1 : Int32)) v1.2) (fun v2 => fm_ck (fm_bo v2) (some ((v2, v1.2)))))
set_option maxRecDepth 100000 in
set_option maxHeartbeats 4000000 in
theorem t_X7_isTriangle (g : fm_G) (l : Launch) (hl : l.stackTraces = false) (P : Nat) (a1 : Int32) (a2 : Int32) (hP : fm_kd g P = 7) (M : fm_Mem) (w : fm_W) : Tt g l z_X7_isTriangle (emIw M w) (f_X7_isTriangle P a1 a2 M) 0 [(0, .ref P), (1, .int a1), (2, .int a2)] [] (M, w) := by
  rw [f_X7_isTriangle]
  refine Tt.go (fun _ => Tr.run 4 (pc' := 4) (lv' := [(0, .ref P), (1, .int a1), (2, .int a2)]) (st' := [.int a2, .ref P, .int (0 : Int32), .int a1]) rfl) ?_
  refine Tt.callV (As := [.int a2]) (rest := [.int (0 : Int32), .int a1]) (c_X7_many g l hl P a2 hP M w) hP (by decide) rfl rfl cw_X7_many fw1223 pn_X7_many (Nat.le_of_ble_eq_true rfl) (Nat.le_of_ble_eq_true rfl) (Nat.le_of_ble_eq_true rfl) rfl (fun v1 => (?_ : Tt g l z_X7_isTriangle (emIw M w) _ 7 [(0, .ref P), (1, .int a1), (2, .int a2)] [.int v1.1, .int (0 : Int32), .int a1] (v1.2, w)))
  refine Tt.go (fun _ => Tr.run 2 (pc' := 9) (lv' := [(0, .ref P), (1, .int a1), (2, .int a2)]) (st' := [.int (v1.1 - (1 : Int32)), .int (0 : Int32), .int a1]) rfl) ?_
  refine Tt.callS (As := [.int a1, .int (0 : Int32), .int (v1.1 - (1 : Int32))]) (rest := []) (c_X7_isIn g l hl a1 (0 : Int32) (v1.1 - (1 : Int32)) v1.2 w) rfl cw_X7_isIn fw1102 pn_X7_isIn (Nat.le_of_ble_eq_true rfl) (Nat.le_of_ble_eq_true rfl) (Nat.le_of_ble_eq_true rfl) rfl (fun v2 => (?_ : Tt g l z_X7_isTriangle (emIw M w) _ 12 [(0, .ref P), (1, .int a1), (2, .int a2)] [.int v2] (v1.2, w)))
  exact Tt.ck (fun hb_3 => Tt.ret (Tr.zret rfl rfl hb_3))
theorem c_X7_isTriangle (g : fm_G) (l : Launch) (hl : l.stackTraces = false) (P : Nat) (a1 : Int32) (a2 : Int32) (hP : fm_kd g P = 7) (M : fm_Mem) (w : fm_W) : ∀ r, f_X7_isTriangle P a1 a2 M = some r → fC g l z_X7_isTriangle [.ref P, .int a1, .int a2] (M, w) (emIw M w r) := fun r hr => fC.of (by decide) rfl o_X7_isTriangle hl (Nat.le_of_ble_eq_true rfl) (t_X7_isTriangle g l hl P a1 a2 hP M w r hr)
def k_X7_state : List (Nat × Instr × Nat) := [(0, .aload_n 0, 1), (1, .iconst 0, 1), (2, .putfield 35, 3), (5, .aload_n 0, 1), (6, .iload_n 1, 1), (7, .iconst 0, 1), (8, .bipush 11, 2), (10, .invokestatic 52, 3), (13, .iconst 1, 1), (14, .invokevirtual 252, 3), (17, .ifCond .eq 11, 3), (20, .aload_n 0, 1), (21, .iload_n 1, 1), (22, .invokevirtual 290, 3), (25, .goto 4, 3), (28, .iconst 0, 1), (29, .ireturn, 1)]
def z_X7_state : fm_Y := (yX7_state, RX7, cX7_state, 2, (some .int), k_X7_state, 12, 308)
theorem o_X7_state : fm_dec z_X7_state := (by decide +kernel : ∀ q ∈ k_X7_state, decode cX7_state q.1 = .ok q.2)
theorem cw_X7_state : fm_cwV z_X7_state := ⟨⟨lw_in 1272 (by decide +kernel) (by decide +kernel), lw_in 99 (by decide +kernel) (by decide +kernel), by decide, by decide⟩, lw_in 1270 (by decide +kernel) (by decide +kernel), lw_in 1271 (by decide +kernel) (by decide +kernel)⟩
theorem pn_X7_state : (parseMethodDescriptor z_X7_state.1.desc).map (fun d => d.parameters.length) = some 1 := by decide +kernel
def f_X7_state_29 (P : Nat) (a1 : Int32) (s0 : Int32) (M : fm_Mem) : Option (Int32 × fm_Mem) := some ((s0, M))
set_option maxRecDepth 100000 in
set_option maxHeartbeats 4000000 in
theorem t_X7_state_29 (g : fm_G) (l : Launch) (hl : l.stackTraces = false) (P : Nat) (a1 : Int32) (hP : fm_kd g P = 7) (w : fm_W) (M0 : fm_Mem)  (s0 : Int32)  (M : fm_Mem) : Tt g l z_X7_state (emIw M0 w) (f_X7_state_29 P a1  s0 M) 29 [] [.int s0] (M, w) := by
  rw [f_X7_state_29]
  exact Tt.ret (Tr.iret rfl rfl)
def f_X7_state (P : Nat) (a1 : Int32) (M : fm_Mem) : Option (Int32 × fm_Mem) := Option.bind (f_X7_isIn a1 (0 : Int32) (11 : Int32) (fm_up M P 0 (0 : Int32))) (fun v1 => Option.bind (f_X7_right P v1 (1 : Int32) (fm_up M P 0 (0 : Int32))) (fun v2 => if v2.1 = 0 then (f_X7_state_29 P a1 (0 : Int32) v2.2) else (Option.bind (f_X7_toldOf P a1 v2.2) (fun v3 => (f_X7_state_29 P a1 v3.1 v3.2)))))
set_option maxRecDepth 100000 in
set_option maxHeartbeats 4000000 in
theorem t_X7_state (g : fm_G) (l : Launch) (hl : l.stackTraces = false) (P : Nat) (a1 : Int32) (hP : fm_kd g P = 7) (M : fm_Mem) (w : fm_W) : Tt g l z_X7_state (emIw M w) (f_X7_state P a1 M) 0 [(0, .ref P), (1, .int a1)] [] (M, w) := by
  rw [f_X7_state]
  refine Tt.go (fun _ => Tr.run 2 (pc' := 2) (lv' := [(0, .ref P), (1, .int a1)]) (st' := [.int (0 : Int32), .ref P]) rfl) ?_
  refine Tt.go (fun _ => Tr.put fmc7 hP rfl fw1024 (k := 0) (by decide) rfl rfl ⟨rfl, rfl⟩) (?_ : Tt g l z_X7_state (emIw M w) _ 5 [(0, .ref P), (1, .int a1)] [] ((fm_up M P 0 (0 : Int32)), w))
  refine Tt.go (fun _ => Tr.run 4 (pc' := 10) (lv' := [(0, .ref P), (1, .int a1)]) (st' := [.int (11 : Int32), .int (0 : Int32), .int a1, .ref P]) rfl) ?_
  refine Tt.callS (As := [.int a1, .int (0 : Int32), .int (11 : Int32)]) (rest := [.ref P]) (c_X7_isIn g l hl a1 (0 : Int32) (11 : Int32) (fm_up M P 0 (0 : Int32)) w) rfl cw_X7_isIn fw1102 pn_X7_isIn (Nat.le_of_ble_eq_true rfl) (Nat.le_of_ble_eq_true rfl) (Nat.le_of_ble_eq_true rfl) rfl (fun v1 => (?_ : Tt g l z_X7_state (emIw M w) _ 13 [(0, .ref P), (1, .int a1)] [.int v1, .ref P] ((fm_up M P 0 (0 : Int32)), w)))
  refine Tt.go (fun _ => Tr.run 1 (pc' := 14) (lv' := [(0, .ref P), (1, .int a1)]) (st' := [.int (1 : Int32), .int v1, .ref P]) rfl) ?_
  refine Tt.callV (As := [.int v1, .int (1 : Int32)]) (rest := []) (c_X7_right g l hl P v1 (1 : Int32) hP (fm_up M P 0 (0 : Int32)) w) hP (by decide) rfl rfl cw_X7_right fw1105 pn_X7_right (Nat.le_of_ble_eq_true rfl) (Nat.le_of_ble_eq_true rfl) (Nat.le_of_ble_eq_true rfl) rfl (fun v2 => (?_ : Tt g l z_X7_state (emIw M w) _ 17 [(0, .ref P), (1, .int a1)] [.int v2.1] (v2.2, w)))
  refine Tt.if_eq (tgt := 28) rfl (by decide) ?_ ?_
  · refine Tt.go (fun _ => Tr.run 1 (pc' := 29) (lv' := [(0, .ref P), (1, .int a1)]) (st' := [.int (0 : Int32)]) rfl) ?_
    refine Tt.go (fun _ => Tr.sub (lv' := []) [] rfl) ?_
    exact t_X7_state_29 g l hl P a1 hP w M (0 : Int32) v2.2
  · refine Tt.go (fun _ => Tr.run 2 (pc' := 22) (lv' := [(0, .ref P), (1, .int a1)]) (st' := [.int a1, .ref P]) rfl) ?_
    refine Tt.callV (As := [.int a1]) (rest := []) (c_X7_toldOf g l hl P a1 hP v2.2 w) hP (by decide) rfl rfl cw_X7_toldOf fw1273 pn_X7_toldOf (Nat.le_of_ble_eq_true rfl) (Nat.le_of_ble_eq_true rfl) (Nat.le_of_ble_eq_true rfl) rfl (fun v3 => (?_ : Tt g l z_X7_state (emIw M w) _ 25 [(0, .ref P), (1, .int a1)] [.int v3.1] (v3.2, w)))
    refine Tt.go (fun _ => Tr.run 1 (pc' := 29) (lv' := [(0, .ref P), (1, .int a1)]) (st' := [.int v3.1]) rfl) ?_
    refine Tt.go (fun _ => Tr.sub (lv' := []) [] rfl) ?_
    exact t_X7_state_29 g l hl P a1 hP w M v3.1 v3.2
theorem c_X7_state (g : fm_G) (l : Launch) (hl : l.stackTraces = false) (P : Nat) (a1 : Int32) (hP : fm_kd g P = 7) (M : fm_Mem) (w : fm_W) : ∀ r, f_X7_state P a1 M = some r → fC g l z_X7_state [.ref P, .int a1] (M, w) (emIw M w r) := fun r hr => fC.of (by decide) rfl o_X7_state hl (Nat.le_of_ble_eq_true rfl) (t_X7_state g l hl P a1 hP M w r hr)
def k_X7_point : List (Nat × Instr × Nat) := [(0, .aload_n 0, 1), (1, .iconst 0, 1), (2, .putfield 35, 3), (5, .aload_n 0, 1), (6, .aload_n 0, 1), (7, .iload_n 1, 1), (8, .invokevirtual 293, 3), (11, .iconst 1, 1), (12, .invokevirtual 252, 3), (15, .ifCond .eq 27, 3), (18, .aload_n 0, 1), (19, .iload_n 2, 1), (20, .iconst 0, 1), (21, .bipush 6, 2), (23, .invokestatic 52, 3), (26, .iconst 2, 1), (27, .invokevirtual 252, 3), (30, .ifCond .eq 12, 3), (33, .aload_n 0, 1), (34, .iload_n 1, 1), (35, .iload_n 2, 1), (36, .invokevirtual 296, 3), (39, .goto 4, 3), (42, .iconst 0, 1), (43, .ireturn, 1)]
def z_X7_point : fm_Y := (yX7_point, RX7, cX7_point, 3, (some .int), k_X7_point, 11, 286)
theorem o_X7_point : fm_dec z_X7_point := (by decide +kernel : ∀ q ∈ k_X7_point, decode cX7_point q.1 = .ok q.2)
theorem cw_X7_point : fm_cwV z_X7_point := ⟨⟨lw_in 1314 (by decide +kernel) (by decide +kernel), lw_in 99 (by decide +kernel) (by decide +kernel), by decide, by decide⟩, lw_in 1312 (by decide +kernel) (by decide +kernel), lw_in 1313 (by decide +kernel) (by decide +kernel)⟩
theorem pn_X7_point : (parseMethodDescriptor z_X7_point.1.desc).map (fun d => d.parameters.length) = some 2 := by decide +kernel
def f_X7_point_43 (P : Nat) (a1 : Int32) (a2 : Int32) (s0 : Int32) (M : fm_Mem) : Option (Int32 × fm_Mem) := some ((s0, M))
set_option maxRecDepth 100000 in
set_option maxHeartbeats 4000000 in
theorem t_X7_point_43 (g : fm_G) (l : Launch) (hl : l.stackTraces = false) (P : Nat) (a1 : Int32) (a2 : Int32) (hP : fm_kd g P = 7) (w : fm_W) (M0 : fm_Mem)  (s0 : Int32)  (M : fm_Mem) : Tt g l z_X7_point (emIw M0 w) (f_X7_point_43 P a1 a2  s0 M) 43 [] [.int s0] (M, w) := by
  rw [f_X7_point_43]
  exact Tt.ret (Tr.iret rfl rfl)
def f_X7_point_42 (P : Nat) (a1 : Int32) (a2 : Int32)  (M : fm_Mem) : Option (Int32 × fm_Mem) := (f_X7_point_43 P a1 a2 (0 : Int32) M)
set_option maxRecDepth 100000 in
set_option maxHeartbeats 4000000 in
theorem t_X7_point_42 (g : fm_G) (l : Launch) (hl : l.stackTraces = false) (P : Nat) (a1 : Int32) (a2 : Int32) (hP : fm_kd g P = 7) (w : fm_W) (M0 : fm_Mem)    (M : fm_Mem) : Tt g l z_X7_point (emIw M0 w) (f_X7_point_42 P a1 a2   M) 42 [] [] (M, w) := by
  rw [f_X7_point_42]
  refine Tt.go (fun _ => Tr.run 1 (pc' := 43) (lv' := []) (st' := [.int (0 : Int32)]) rfl) ?_
  exact t_X7_point_43 g l hl P a1 a2 hP w M0 (0 : Int32) M
def f_X7_point (P : Nat) (a1 : Int32) (a2 : Int32) (M : fm_Mem) : Option (Int32 × fm_Mem) := Option.bind (f_X7_isPoint P a1 (fm_up M P 0 (0 : Int32))) (fun v1 => Option.bind (f_X7_right P v1 (1 : Int32) (fm_up M P 0 (0 : Int32))) (fun v2 => if v2.1 = 0 then (f_X7_point_42 P a1 a2 v2.2) else (Option.bind (f_X7_isIn a2 (0 : Int32) (6 : Int32) v2.2) (fun v3 => Option.bind (f_X7_right P v3 (2 : Int32) v2.2) (fun v4 => if v4.1 = 0 then (f_X7_point_42 P a1 a2 v4.2) else (Option.bind (f_X7_toldOfPoint P a1 a2 v4.2) (fun v5 => (f_X7_point_43 P a1 a2 v5.1 v5.2))))))))
set_option maxRecDepth 100000 in
set_option maxHeartbeats 4000000 in
theorem t_X7_point (g : fm_G) (l : Launch) (hl : l.stackTraces = false) (P : Nat) (a1 : Int32) (a2 : Int32) (hP : fm_kd g P = 7) (M : fm_Mem) (w : fm_W) : Tt g l z_X7_point (emIw M w) (f_X7_point P a1 a2 M) 0 [(0, .ref P), (1, .int a1), (2, .int a2)] [] (M, w) := by
  rw [f_X7_point]
  refine Tt.go (fun _ => Tr.run 2 (pc' := 2) (lv' := [(0, .ref P), (1, .int a1), (2, .int a2)]) (st' := [.int (0 : Int32), .ref P]) rfl) ?_
  refine Tt.go (fun _ => Tr.put fmc7 hP rfl fw1024 (k := 0) (by decide) rfl rfl ⟨rfl, rfl⟩) (?_ : Tt g l z_X7_point (emIw M w) _ 5 [(0, .ref P), (1, .int a1), (2, .int a2)] [] ((fm_up M P 0 (0 : Int32)), w))
  refine Tt.go (fun _ => Tr.run 3 (pc' := 8) (lv' := [(0, .ref P), (1, .int a1), (2, .int a2)]) (st' := [.int a1, .ref P, .ref P]) rfl) ?_
  refine Tt.callV (As := [.int a1]) (rest := [.ref P]) (c_X7_isPoint g l hl P a1 hP (fm_up M P 0 (0 : Int32)) w) hP (by decide) rfl rfl cw_X7_isPoint fw1315 pn_X7_isPoint (Nat.le_of_ble_eq_true rfl) (Nat.le_of_ble_eq_true rfl) (Nat.le_of_ble_eq_true rfl) rfl (fun v1 => (?_ : Tt g l z_X7_point (emIw M w) _ 11 [(0, .ref P), (1, .int a1), (2, .int a2)] [.int v1, .ref P] ((fm_up M P 0 (0 : Int32)), w)))
  refine Tt.go (fun _ => Tr.run 1 (pc' := 12) (lv' := [(0, .ref P), (1, .int a1), (2, .int a2)]) (st' := [.int (1 : Int32), .int v1, .ref P]) rfl) ?_
  refine Tt.callV (As := [.int v1, .int (1 : Int32)]) (rest := []) (c_X7_right g l hl P v1 (1 : Int32) hP (fm_up M P 0 (0 : Int32)) w) hP (by decide) rfl rfl cw_X7_right fw1105 pn_X7_right (Nat.le_of_ble_eq_true rfl) (Nat.le_of_ble_eq_true rfl) (Nat.le_of_ble_eq_true rfl) rfl (fun v2 => (?_ : Tt g l z_X7_point (emIw M w) _ 15 [(0, .ref P), (1, .int a1), (2, .int a2)] [.int v2.1] (v2.2, w)))
  refine Tt.if_eq (tgt := 42) rfl (by decide) ?_ ?_
  · refine Tt.go (fun _ => Tr.sub (lv' := []) [] rfl) ?_
    exact t_X7_point_42 g l hl P a1 a2 hP w M v2.2
  · refine Tt.go (fun _ => Tr.run 4 (pc' := 23) (lv' := [(0, .ref P), (1, .int a1), (2, .int a2)]) (st' := [.int (6 : Int32), .int (0 : Int32), .int a2, .ref P]) rfl) ?_
    refine Tt.callS (As := [.int a2, .int (0 : Int32), .int (6 : Int32)]) (rest := [.ref P]) (c_X7_isIn g l hl a2 (0 : Int32) (6 : Int32) v2.2 w) rfl cw_X7_isIn fw1102 pn_X7_isIn (Nat.le_of_ble_eq_true rfl) (Nat.le_of_ble_eq_true rfl) (Nat.le_of_ble_eq_true rfl) rfl (fun v3 => (?_ : Tt g l z_X7_point (emIw M w) _ 26 [(0, .ref P), (1, .int a1), (2, .int a2)] [.int v3, .ref P] (v2.2, w)))
    refine Tt.go (fun _ => Tr.run 1 (pc' := 27) (lv' := [(0, .ref P), (1, .int a1), (2, .int a2)]) (st' := [.int (2 : Int32), .int v3, .ref P]) rfl) ?_
    refine Tt.callV (As := [.int v3, .int (2 : Int32)]) (rest := []) (c_X7_right g l hl P v3 (2 : Int32) hP v2.2 w) hP (by decide) rfl rfl cw_X7_right fw1105 pn_X7_right (Nat.le_of_ble_eq_true rfl) (Nat.le_of_ble_eq_true rfl) (Nat.le_of_ble_eq_true rfl) rfl (fun v4 => (?_ : Tt g l z_X7_point (emIw M w) _ 30 [(0, .ref P), (1, .int a1), (2, .int a2)] [.int v4.1] (v4.2, w)))
    refine Tt.if_eq (tgt := 42) rfl (by decide) ?_ ?_
    · refine Tt.go (fun _ => Tr.sub (lv' := []) [] rfl) ?_
      exact t_X7_point_42 g l hl P a1 a2 hP w M v4.2
    · refine Tt.go (fun _ => Tr.run 3 (pc' := 36) (lv' := [(0, .ref P), (1, .int a1), (2, .int a2)]) (st' := [.int a2, .int a1, .ref P]) rfl) ?_
      refine Tt.callV (As := [.int a1, .int a2]) (rest := []) (c_X7_toldOfPoint g l hl P a1 a2 hP v4.2 w) hP (by decide) rfl rfl cw_X7_toldOfPoint fw1319 pn_X7_toldOfPoint (Nat.le_of_ble_eq_true rfl) (Nat.le_of_ble_eq_true rfl) (Nat.le_of_ble_eq_true rfl) rfl (fun v5 => (?_ : Tt g l z_X7_point (emIw M w) _ 39 [(0, .ref P), (1, .int a1), (2, .int a2)] [.int v5.1] (v5.2, w)))
      refine Tt.go (fun _ => Tr.run 1 (pc' := 43) (lv' := [(0, .ref P), (1, .int a1), (2, .int a2)]) (st' := [.int v5.1]) rfl) ?_
      refine Tt.go (fun _ => Tr.sub (lv' := []) [] rfl) ?_
      exact t_X7_point_43 g l hl P a1 a2 hP w M v5.1 v5.2
theorem c_X7_point (g : fm_G) (l : Launch) (hl : l.stackTraces = false) (P : Nat) (a1 : Int32) (a2 : Int32) (hP : fm_kd g P = 7) (M : fm_Mem) (w : fm_W) : ∀ r, f_X7_point P a1 a2 M = some r → fC g l z_X7_point [.ref P, .int a1, .int a2] (M, w) (emIw M w r) := fun r hr => fC.of (by decide) rfl o_X7_point hl (Nat.le_of_ble_eq_true rfl) (t_X7_point g l hl P a1 a2 hP M w r hr)
def k_X7_triangle : List (Nat × Instr × Nat) := [(0, .aload_n 0, 1), (1, .iconst 0, 1), (2, .putfield 35, 3), (5, .aload_n 0, 1), (6, .aload_n 0, 1), (7, .iload_n 1, 1), (8, .iload_n 2, 1), (9, .invokevirtual 299, 3), (12, .iconst 1, 1), (13, .invokevirtual 252, 3), (16, .ifCond .eq 28, 3), (19, .aload_n 0, 1), (20, .iload_n 3, 1), (21, .iconst 0, 1), (22, .bipush 6, 2), (24, .invokestatic 52, 3), (27, .iconst 2, 1), (28, .invokevirtual 252, 3), (31, .ifCond .eq 13, 3), (34, .aload_n 0, 1), (35, .iload_n 1, 1), (36, .iload_n 2, 1), (37, .iload_n 3, 1), (38, .invokevirtual 303, 3), (41, .goto 4, 3), (44, .iconst 0, 1), (45, .ireturn, 1)]
def z_X7_triangle : fm_Y := (yX7_triangle, RX7, cX7_triangle, 4, (some .int), k_X7_triangle, 10, 267)
theorem o_X7_triangle : fm_dec z_X7_triangle := (by decide +kernel : ∀ q ∈ k_X7_triangle, decode cX7_triangle q.1 = .ok q.2)
theorem cw_X7_triangle : fm_cwV z_X7_triangle := ⟨⟨lw_in 1338 (by decide +kernel) (by decide +kernel), lw_in 99 (by decide +kernel) (by decide +kernel), by decide, by decide⟩, lw_in 1336 (by decide +kernel) (by decide +kernel), lw_in 1337 (by decide +kernel) (by decide +kernel)⟩
theorem pn_X7_triangle : (parseMethodDescriptor z_X7_triangle.1.desc).map (fun d => d.parameters.length) = some 3 := by decide +kernel
def f_X7_triangle_45 (P : Nat) (a1 : Int32) (a2 : Int32) (a3 : Int32) (s0 : Int32) (M : fm_Mem) : Option (Int32 × fm_Mem) := some ((s0, M))
set_option maxRecDepth 100000 in
set_option maxHeartbeats 4000000 in
theorem t_X7_triangle_45 (g : fm_G) (l : Launch) (hl : l.stackTraces = false) (P : Nat) (a1 : Int32) (a2 : Int32) (a3 : Int32) (hP : fm_kd g P = 7) (w : fm_W) (M0 : fm_Mem)  (s0 : Int32)  (M : fm_Mem) : Tt g l z_X7_triangle (emIw M0 w) (f_X7_triangle_45 P a1 a2 a3  s0 M) 45 [] [.int s0] (M, w) := by
  rw [f_X7_triangle_45]
  exact Tt.ret (Tr.iret rfl rfl)
def f_X7_triangle_44 (P : Nat) (a1 : Int32) (a2 : Int32) (a3 : Int32)  (M : fm_Mem) : Option (Int32 × fm_Mem) := (f_X7_triangle_45 P a1 a2 a3 (0 : Int32) M)
set_option maxRecDepth 100000 in
set_option maxHeartbeats 4000000 in
theorem t_X7_triangle_44 (g : fm_G) (l : Launch) (hl : l.stackTraces = false) (P : Nat) (a1 : Int32) (a2 : Int32) (a3 : Int32) (hP : fm_kd g P = 7) (w : fm_W) (M0 : fm_Mem)    (M : fm_Mem) : Tt g l z_X7_triangle (emIw M0 w) (f_X7_triangle_44 P a1 a2 a3   M) 44 [] [] (M, w) := by
  rw [f_X7_triangle_44]
  refine Tt.go (fun _ => Tr.run 1 (pc' := 45) (lv' := []) (st' := [.int (0 : Int32)]) rfl) ?_
  exact t_X7_triangle_45 g l hl P a1 a2 a3 hP w M0 (0 : Int32) M
def f_X7_triangle (P : Nat) (a1 : Int32) (a2 : Int32) (a3 : Int32) (M : fm_Mem) : Option (Int32 × fm_Mem) := Option.bind (f_X7_isTriangle P a1 a2 (fm_up M P 0 (0 : Int32))) (fun v1 => Option.bind (f_X7_right P v1.1 (1 : Int32) v1.2) (fun v2 => if v2.1 = 0 then (f_X7_triangle_44 P a1 a2 a3 v2.2) else (Option.bind (f_X7_isIn a3 (0 : Int32) (6 : Int32) v2.2) (fun v3 => Option.bind (f_X7_right P v3 (2 : Int32) v2.2) (fun v4 => if v4.1 = 0 then (f_X7_triangle_44 P a1 a2 a3 v4.2) else (Option.bind (f_X7_toldOfTriangle P a1 a2 a3 v4.2) (fun v5 => (f_X7_triangle_45 P a1 a2 a3 v5.1 v5.2))))))))
set_option maxRecDepth 100000 in
set_option maxHeartbeats 4000000 in
theorem t_X7_triangle (g : fm_G) (l : Launch) (hl : l.stackTraces = false) (P : Nat) (a1 : Int32) (a2 : Int32) (a3 : Int32) (hP : fm_kd g P = 7) (M : fm_Mem) (w : fm_W) : Tt g l z_X7_triangle (emIw M w) (f_X7_triangle P a1 a2 a3 M) 0 [(0, .ref P), (1, .int a1), (2, .int a2), (3, .int a3)] [] (M, w) := by
  rw [f_X7_triangle]
  refine Tt.go (fun _ => Tr.run 2 (pc' := 2) (lv' := [(0, .ref P), (1, .int a1), (2, .int a2), (3, .int a3)]) (st' := [.int (0 : Int32), .ref P]) rfl) ?_
  refine Tt.go (fun _ => Tr.put fmc7 hP rfl fw1024 (k := 0) (by decide) rfl rfl ⟨rfl, rfl⟩) (?_ : Tt g l z_X7_triangle (emIw M w) _ 5 [(0, .ref P), (1, .int a1), (2, .int a2), (3, .int a3)] [] ((fm_up M P 0 (0 : Int32)), w))
  refine Tt.go (fun _ => Tr.run 4 (pc' := 9) (lv' := [(0, .ref P), (1, .int a1), (2, .int a2), (3, .int a3)]) (st' := [.int a2, .int a1, .ref P, .ref P]) rfl) ?_
  refine Tt.callV (As := [.int a1, .int a2]) (rest := [.ref P]) (c_X7_isTriangle g l hl P a1 a2 hP (fm_up M P 0 (0 : Int32)) w) hP (by decide) rfl rfl cw_X7_isTriangle fw1339 pn_X7_isTriangle (Nat.le_of_ble_eq_true rfl) (Nat.le_of_ble_eq_true rfl) (Nat.le_of_ble_eq_true rfl) rfl (fun v1 => (?_ : Tt g l z_X7_triangle (emIw M w) _ 12 [(0, .ref P), (1, .int a1), (2, .int a2), (3, .int a3)] [.int v1.1, .ref P] (v1.2, w)))
  refine Tt.go (fun _ => Tr.run 1 (pc' := 13) (lv' := [(0, .ref P), (1, .int a1), (2, .int a2), (3, .int a3)]) (st' := [.int (1 : Int32), .int v1.1, .ref P]) rfl) ?_
  refine Tt.callV (As := [.int v1.1, .int (1 : Int32)]) (rest := []) (c_X7_right g l hl P v1.1 (1 : Int32) hP v1.2 w) hP (by decide) rfl rfl cw_X7_right fw1105 pn_X7_right (Nat.le_of_ble_eq_true rfl) (Nat.le_of_ble_eq_true rfl) (Nat.le_of_ble_eq_true rfl) rfl (fun v2 => (?_ : Tt g l z_X7_triangle (emIw M w) _ 16 [(0, .ref P), (1, .int a1), (2, .int a2), (3, .int a3)] [.int v2.1] (v2.2, w)))
  refine Tt.if_eq (tgt := 44) rfl (by decide) ?_ ?_
  · refine Tt.go (fun _ => Tr.sub (lv' := []) [] rfl) ?_
    exact t_X7_triangle_44 g l hl P a1 a2 a3 hP w M v2.2
  · refine Tt.go (fun _ => Tr.run 4 (pc' := 24) (lv' := [(0, .ref P), (1, .int a1), (2, .int a2), (3, .int a3)]) (st' := [.int (6 : Int32), .int (0 : Int32), .int a3, .ref P]) rfl) ?_
    refine Tt.callS (As := [.int a3, .int (0 : Int32), .int (6 : Int32)]) (rest := [.ref P]) (c_X7_isIn g l hl a3 (0 : Int32) (6 : Int32) v2.2 w) rfl cw_X7_isIn fw1102 pn_X7_isIn (Nat.le_of_ble_eq_true rfl) (Nat.le_of_ble_eq_true rfl) (Nat.le_of_ble_eq_true rfl) rfl (fun v3 => (?_ : Tt g l z_X7_triangle (emIw M w) _ 27 [(0, .ref P), (1, .int a1), (2, .int a2), (3, .int a3)] [.int v3, .ref P] (v2.2, w)))
    refine Tt.go (fun _ => Tr.run 1 (pc' := 28) (lv' := [(0, .ref P), (1, .int a1), (2, .int a2), (3, .int a3)]) (st' := [.int (2 : Int32), .int v3, .ref P]) rfl) ?_
    refine Tt.callV (As := [.int v3, .int (2 : Int32)]) (rest := []) (c_X7_right g l hl P v3 (2 : Int32) hP v2.2 w) hP (by decide) rfl rfl cw_X7_right fw1105 pn_X7_right (Nat.le_of_ble_eq_true rfl) (Nat.le_of_ble_eq_true rfl) (Nat.le_of_ble_eq_true rfl) rfl (fun v4 => (?_ : Tt g l z_X7_triangle (emIw M w) _ 31 [(0, .ref P), (1, .int a1), (2, .int a2), (3, .int a3)] [.int v4.1] (v4.2, w)))
    refine Tt.if_eq (tgt := 44) rfl (by decide) ?_ ?_
    · refine Tt.go (fun _ => Tr.sub (lv' := []) [] rfl) ?_
      exact t_X7_triangle_44 g l hl P a1 a2 a3 hP w M v4.2
    · refine Tt.go (fun _ => Tr.run 4 (pc' := 38) (lv' := [(0, .ref P), (1, .int a1), (2, .int a2), (3, .int a3)]) (st' := [.int a3, .int a2, .int a1, .ref P]) rfl) ?_
      refine Tt.callV (As := [.int a1, .int a2, .int a3]) (rest := []) (c_X7_toldOfTriangle g l hl P a1 a2 a3 hP v4.2 w) hP (by decide) rfl rfl cw_X7_toldOfTriangle fw1343 pn_X7_toldOfTriangle (Nat.le_of_ble_eq_true rfl) (Nat.le_of_ble_eq_true rfl) (Nat.le_of_ble_eq_true rfl) rfl (fun v5 => (?_ : Tt g l z_X7_triangle (emIw M w) _ 41 [(0, .ref P), (1, .int a1), (2, .int a2), (3, .int a3)] [.int v5.1] (v5.2, w)))
      refine Tt.go (fun _ => Tr.run 1 (pc' := 45) (lv' := [(0, .ref P), (1, .int a1), (2, .int a2), (3, .int a3)]) (st' := [.int v5.1]) rfl) ?_
      refine Tt.go (fun _ => Tr.sub (lv' := []) [] rfl) ?_
      exact t_X7_triangle_45 g l hl P a1 a2 a3 hP w M v5.1 v5.2
theorem c_X7_triangle (g : fm_G) (l : Launch) (hl : l.stackTraces = false) (P : Nat) (a1 : Int32) (a2 : Int32) (a3 : Int32) (hP : fm_kd g P = 7) (M : fm_Mem) (w : fm_W) : ∀ r, f_X7_triangle P a1 a2 a3 M = some r → fC g l z_X7_triangle [.ref P, .int a1, .int a2, .int a3] (M, w) (emIw M w r) := fun r hr => fC.of (by decide) rfl o_X7_triangle hl (Nat.le_of_ble_eq_true rfl) (t_X7_triangle g l hl P a1 a2 a3 hP M w r hr)
def k_X7_circle : List (Nat × Instr × Nat) := [(0, .aload_n 0, 1), (1, .iconst 0, 1), (2, .putfield 35, 3), (5, .aload_n 0, 1), (6, .aload_n 0, 1), (7, .iload_n 1, 1), (8, .invokevirtual 293, 3), (11, .ifCond .eq 32, 3), (14, .aload_n 0, 1), (15, .iload_n 2, 1), (16, .invokevirtual 293, 3), (19, .ifCond .eq 24, 3), (22, .aload_n 0, 1), (23, .iload_n 3, 1), (24, .invokevirtual 293, 3), (27, .ifCond .eq 16, 3), (30, .aload_n 0, 1), (31, .iload 4, 2), (33, .invokevirtual 293, 3), (36, .ifCond .eq 7, 3), (39, .iconst 1, 1), (40, .goto 4, 3), (43, .iconst 0, 1), (44, .iconst 1, 1), (45, .invokevirtual 252, 3), (48, .ifCond .ne 5, 3), (51, .iconst 0, 1), (52, .ireturn, 1), (53, .aload_n 0, 1), (54, .iload_n 1, 1), (55, .iload_n 2, 1), (56, .iload_n 3, 1), (57, .invokevirtual 70, 3), (60, .lconst 0, 1), (61, .lcmp, 1), (62, .ifCond .ne 7, 3), (65, .iconst 2, 1), (66, .goto 12, 3), (69, .aload_n 0, 1), (70, .iload_n 1, 1), (71, .iload_n 2, 1), (72, .iload_n 3, 1), (73, .iload 4, 2), (75, .invokevirtual 78, 3), (78, .ireturn, 1)]
def z_X7_circle : fm_Y := (yX7_circle, RX7, cX7_circle, 5, (some .int), k_X7_circle, 5, 144)
theorem o_X7_circle : fm_dec z_X7_circle := (by decide +kernel : ∀ q ∈ k_X7_circle, decode cX7_circle q.1 = .ok q.2)
theorem cw_X7_circle : fm_cwV z_X7_circle := ⟨⟨lw_in 1361 (by decide +kernel) (by decide +kernel), lw_in 99 (by decide +kernel) (by decide +kernel), by decide, by decide⟩, lw_in 1359 (by decide +kernel) (by decide +kernel), lw_in 1360 (by decide +kernel) (by decide +kernel)⟩
theorem pn_X7_circle : (parseMethodDescriptor z_X7_circle.1.desc).map (fun d => d.parameters.length) = some 4 := by decide +kernel
def f_X7_circle_78 (P : Nat) (a1 : Int32) (a2 : Int32) (a3 : Int32) (a4 : Int32) (s0 : Int32) (M : fm_Mem) : Option (Int32 × fm_Mem) := some ((s0, M))
set_option maxRecDepth 100000 in
set_option maxHeartbeats 4000000 in
theorem t_X7_circle_78 (g : fm_G) (l : Launch) (hl : l.stackTraces = false) (P : Nat) (a1 : Int32) (a2 : Int32) (a3 : Int32) (a4 : Int32) (hP : fm_kd g P = 7) (w : fm_W) (M0 : fm_Mem)  (s0 : Int32)  (M : fm_Mem) : Tt g l z_X7_circle (emIw M0 w) (f_X7_circle_78 P a1 a2 a3 a4  s0 M) 78 [] [.int s0] (M, w) := by
  rw [f_X7_circle_78]
  exact Tt.ret (Tr.iret rfl rfl)
def f_X7_circle_44 (P : Nat) (a1 : Int32) (a2 : Int32) (a3 : Int32) (a4 : Int32) (s0 : Int32) (M : fm_Mem) : Option (Int32 × fm_Mem) := Option.bind (f_X7_right P s0 (1 : Int32) M) (fun v1 => if v1.1 = 0 then (some (((0 : Int32), v1.2))) else (Option.bind (f_X7_turn P a1 a2 a3 v1.2) (fun v2 => if (lg_cmp v2 (0 : Int64)) = 0 then (f_X7_circle_78 P a1 a2 a3 a4 (2 : Int32) v1.2) else (Option.bind (f_X7_circleBy P a1 a2 a3 a4 v1.2) (fun v3 => (f_X7_circle_78 P a1 a2 a3 a4 v3 v1.2))))))
set_option maxRecDepth 100000 in
set_option maxHeartbeats 4000000 in
theorem t_X7_circle_44 (g : fm_G) (l : Launch) (hl : l.stackTraces = false) (P : Nat) (a1 : Int32) (a2 : Int32) (a3 : Int32) (a4 : Int32) (hP : fm_kd g P = 7) (w : fm_W) (M0 : fm_Mem)  (s0 : Int32)  (M : fm_Mem) : Tt g l z_X7_circle (emIw M0 w) (f_X7_circle_44 P a1 a2 a3 a4  s0 M) 44 [(0, .ref P), (1, .int a1), (2, .int a2), (3, .int a3), (4, .int a4)] [.int s0, .ref P] (M, w) := by
  rw [f_X7_circle_44]
  refine Tt.go (fun _ => Tr.run 1 (pc' := 45) (lv' := [(0, .ref P), (1, .int a1), (2, .int a2), (3, .int a3), (4, .int a4)]) (st' := [.int (1 : Int32), .int s0, .ref P]) rfl) ?_
  refine Tt.callV (As := [.int s0, .int (1 : Int32)]) (rest := []) (c_X7_right g l hl P s0 (1 : Int32) hP M w) hP (by decide) rfl rfl cw_X7_right fw1105 pn_X7_right (Nat.le_of_ble_eq_true rfl) (Nat.le_of_ble_eq_true rfl) (Nat.le_of_ble_eq_true rfl) rfl (fun v1 => (?_ : Tt g l z_X7_circle (emIw M0 w) _ 48 [(0, .ref P), (1, .int a1), (2, .int a2), (3, .int a3), (4, .int a4)] [.int v1.1] (v1.2, w)))
  refine Tt.if_ne (tgt := 53) rfl (by decide) ?_ ?_
  · refine Tt.go (fun _ => Tr.run 1 (pc' := 52) (lv' := [(0, .ref P), (1, .int a1), (2, .int a2), (3, .int a3), (4, .int a4)]) (st' := [.int (0 : Int32)]) rfl) ?_
    exact Tt.ret (Tr.iret rfl rfl)
  · refine Tt.go (fun _ => Tr.run 4 (pc' := 57) (lv' := [(0, .ref P), (1, .int a1), (2, .int a2), (3, .int a3), (4, .int a4)]) (st' := [.int a3, .int a2, .int a1, .ref P]) rfl) ?_
    refine Tt.callV (As := [.int a1, .int a2, .int a3]) (rest := []) (c_X7_turn g l hl P a1 a2 a3 hP v1.2 w) hP (by decide) rfl rfl cw_X7_turn fw1193 pn_X7_turn (Nat.le_of_ble_eq_true rfl) (Nat.le_of_ble_eq_true rfl) (Nat.le_of_ble_eq_true rfl) rfl (fun v2 => (?_ : Tt g l z_X7_circle (emIw M0 w) _ 60 [(0, .ref P), (1, .int a1), (2, .int a2), (3, .int a3), (4, .int a4)] [.long v2] (v1.2, w)))
    refine Tt.go (fun _ => Tr.run 2 (pc' := 62) (lv' := [(0, .ref P), (1, .int a1), (2, .int a2), (3, .int a3), (4, .int a4)]) (st' := [.int (lg_cmp v2 (0 : Int64))]) rfl) ?_
    refine Tt.if_ne (tgt := 69) rfl (by decide) ?_ ?_
    · refine Tt.go (fun _ => Tr.run 2 (pc' := 78) (lv' := [(0, .ref P), (1, .int a1), (2, .int a2), (3, .int a3), (4, .int a4)]) (st' := [.int (2 : Int32)]) rfl) ?_
      refine Tt.go (fun _ => Tr.sub (lv' := []) [] rfl) ?_
      exact t_X7_circle_78 g l hl P a1 a2 a3 a4 hP w M0 (2 : Int32) v1.2
    · refine Tt.go (fun _ => Tr.run 5 (pc' := 75) (lv' := [(0, .ref P), (1, .int a1), (2, .int a2), (3, .int a3), (4, .int a4)]) (st' := [.int a4, .int a3, .int a2, .int a1, .ref P]) rfl) ?_
      refine Tt.callV (As := [.int a1, .int a2, .int a3, .int a4]) (rest := []) (c_X7_circleBy g l hl P a1 a2 a3 a4 hP v1.2 w) hP (by decide) rfl rfl cw_X7_circleBy fw1200 pn_X7_circleBy (Nat.le_of_ble_eq_true rfl) (Nat.le_of_ble_eq_true rfl) (Nat.le_of_ble_eq_true rfl) rfl (fun v3 => (?_ : Tt g l z_X7_circle (emIw M0 w) _ 78 [(0, .ref P), (1, .int a1), (2, .int a2), (3, .int a3), (4, .int a4)] [.int v3] (v1.2, w)))
      refine Tt.go (fun _ => Tr.sub (lv' := []) [] rfl) ?_
      exact t_X7_circle_78 g l hl P a1 a2 a3 a4 hP w M0 v3 v1.2
def f_X7_circle_43 (P : Nat) (a1 : Int32) (a2 : Int32) (a3 : Int32) (a4 : Int32)  (M : fm_Mem) : Option (Int32 × fm_Mem) := (f_X7_circle_44 P a1 a2 a3 a4 (0 : Int32) M)
set_option maxRecDepth 100000 in
set_option maxHeartbeats 4000000 in
theorem t_X7_circle_43 (g : fm_G) (l : Launch) (hl : l.stackTraces = false) (P : Nat) (a1 : Int32) (a2 : Int32) (a3 : Int32) (a4 : Int32) (hP : fm_kd g P = 7) (w : fm_W) (M0 : fm_Mem)    (M : fm_Mem) : Tt g l z_X7_circle (emIw M0 w) (f_X7_circle_43 P a1 a2 a3 a4   M) 43 [(0, .ref P), (1, .int a1), (2, .int a2), (3, .int a3), (4, .int a4)] [.ref P] (M, w) := by
  rw [f_X7_circle_43]
  refine Tt.go (fun _ => Tr.run 1 (pc' := 44) (lv' := [(0, .ref P), (1, .int a1), (2, .int a2), (3, .int a3), (4, .int a4)]) (st' := [.int (0 : Int32), .ref P]) rfl) ?_
  exact t_X7_circle_44 g l hl P a1 a2 a3 a4 hP w M0 (0 : Int32) M
def f_X7_circle (P : Nat) (a1 : Int32) (a2 : Int32) (a3 : Int32) (a4 : Int32) (M : fm_Mem) : Option (Int32 × fm_Mem) := Option.bind (f_X7_isPoint P a1 (fm_up M P 0 (0 : Int32))) (fun v1 => if v1 = 0 then (f_X7_circle_43 P a1 a2 a3 a4 (fm_up M P 0 (0 : Int32))) else (Option.bind (f_X7_isPoint P a2 (fm_up M P 0 (0 : Int32))) (fun v2 => if v2 = 0 then (f_X7_circle_43 P a1 a2 a3 a4 (fm_up M P 0 (0 : Int32))) else (Option.bind (f_X7_isPoint P a3 (fm_up M P 0 (0 : Int32))) (fun v3 => if v3 = 0 then (f_X7_circle_43 P a1 a2 a3 a4 (fm_up M P 0 (0 : Int32))) else (Option.bind (f_X7_isPoint P a4 (fm_up M P 0 (0 : Int32))) (fun v4 => if v4 = 0 then (f_X7_circle_43 P a1 a2 a3 a4 (fm_up M P 0 (0 : Int32))) else (f_X7_circle_44 P a1 a2 a3 a4 (1 : Int32) (fm_up M P 0 (0 : Int32))))))))))
set_option maxRecDepth 100000 in
set_option maxHeartbeats 4000000 in
theorem t_X7_circle (g : fm_G) (l : Launch) (hl : l.stackTraces = false) (P : Nat) (a1 : Int32) (a2 : Int32) (a3 : Int32) (a4 : Int32) (hP : fm_kd g P = 7) (M : fm_Mem) (w : fm_W) : Tt g l z_X7_circle (emIw M w) (f_X7_circle P a1 a2 a3 a4 M) 0 [(0, .ref P), (1, .int a1), (2, .int a2), (3, .int a3), (4, .int a4)] [] (M, w) := by
  rw [f_X7_circle]
  refine Tt.go (fun _ => Tr.run 2 (pc' := 2) (lv' := [(0, .ref P), (1, .int a1), (2, .int a2), (3, .int a3), (4, .int a4)]) (st' := [.int (0 : Int32), .ref P]) rfl) ?_
  refine Tt.go (fun _ => Tr.put fmc7 hP rfl fw1024 (k := 0) (by decide) rfl rfl ⟨rfl, rfl⟩) (?_ : Tt g l z_X7_circle (emIw M w) _ 5 [(0, .ref P), (1, .int a1), (2, .int a2), (3, .int a3), (4, .int a4)] [] ((fm_up M P 0 (0 : Int32)), w))
  refine Tt.go (fun _ => Tr.run 3 (pc' := 8) (lv' := [(0, .ref P), (1, .int a1), (2, .int a2), (3, .int a3), (4, .int a4)]) (st' := [.int a1, .ref P, .ref P]) rfl) ?_
  refine Tt.callV (As := [.int a1]) (rest := [.ref P]) (c_X7_isPoint g l hl P a1 hP (fm_up M P 0 (0 : Int32)) w) hP (by decide) rfl rfl cw_X7_isPoint fw1315 pn_X7_isPoint (Nat.le_of_ble_eq_true rfl) (Nat.le_of_ble_eq_true rfl) (Nat.le_of_ble_eq_true rfl) rfl (fun v1 => (?_ : Tt g l z_X7_circle (emIw M w) _ 11 [(0, .ref P), (1, .int a1), (2, .int a2), (3, .int a3), (4, .int a4)] [.int v1, .ref P] ((fm_up M P 0 (0 : Int32)), w)))
  refine Tt.if_eq (tgt := 43) rfl (by decide) ?_ ?_
  · exact t_X7_circle_43 g l hl P a1 a2 a3 a4 hP w M (fm_up M P 0 (0 : Int32))
  · refine Tt.go (fun _ => Tr.run 2 (pc' := 16) (lv' := [(0, .ref P), (1, .int a1), (2, .int a2), (3, .int a3), (4, .int a4)]) (st' := [.int a2, .ref P, .ref P]) rfl) ?_
    refine Tt.callV (As := [.int a2]) (rest := [.ref P]) (c_X7_isPoint g l hl P a2 hP (fm_up M P 0 (0 : Int32)) w) hP (by decide) rfl rfl cw_X7_isPoint fw1315 pn_X7_isPoint (Nat.le_of_ble_eq_true rfl) (Nat.le_of_ble_eq_true rfl) (Nat.le_of_ble_eq_true rfl) rfl (fun v2 => (?_ : Tt g l z_X7_circle (emIw M w) _ 19 [(0, .ref P), (1, .int a1), (2, .int a2), (3, .int a3), (4, .int a4)] [.int v2, .ref P] ((fm_up M P 0 (0 : Int32)), w)))
    refine Tt.if_eq (tgt := 43) rfl (by decide) ?_ ?_
    · exact t_X7_circle_43 g l hl P a1 a2 a3 a4 hP w M (fm_up M P 0 (0 : Int32))
    · refine Tt.go (fun _ => Tr.run 2 (pc' := 24) (lv' := [(0, .ref P), (1, .int a1), (2, .int a2), (3, .int a3), (4, .int a4)]) (st' := [.int a3, .ref P, .ref P]) rfl) ?_
      refine Tt.callV (As := [.int a3]) (rest := [.ref P]) (c_X7_isPoint g l hl P a3 hP (fm_up M P 0 (0 : Int32)) w) hP (by decide) rfl rfl cw_X7_isPoint fw1315 pn_X7_isPoint (Nat.le_of_ble_eq_true rfl) (Nat.le_of_ble_eq_true rfl) (Nat.le_of_ble_eq_true rfl) rfl (fun v3 => (?_ : Tt g l z_X7_circle (emIw M w) _ 27 [(0, .ref P), (1, .int a1), (2, .int a2), (3, .int a3), (4, .int a4)] [.int v3, .ref P] ((fm_up M P 0 (0 : Int32)), w)))
      refine Tt.if_eq (tgt := 43) rfl (by decide) ?_ ?_
      · exact t_X7_circle_43 g l hl P a1 a2 a3 a4 hP w M (fm_up M P 0 (0 : Int32))
      · refine Tt.go (fun _ => Tr.run 2 (pc' := 33) (lv' := [(0, .ref P), (1, .int a1), (2, .int a2), (3, .int a3), (4, .int a4)]) (st' := [.int a4, .ref P, .ref P]) rfl) ?_
        refine Tt.callV (As := [.int a4]) (rest := [.ref P]) (c_X7_isPoint g l hl P a4 hP (fm_up M P 0 (0 : Int32)) w) hP (by decide) rfl rfl cw_X7_isPoint fw1315 pn_X7_isPoint (Nat.le_of_ble_eq_true rfl) (Nat.le_of_ble_eq_true rfl) (Nat.le_of_ble_eq_true rfl) rfl (fun v4 => (?_ : Tt g l z_X7_circle (emIw M w) _ 36 [(0, .ref P), (1, .int a1), (2, .int a2), (3, .int a3), (4, .int a4)] [.int v4, .ref P] ((fm_up M P 0 (0 : Int32)), w)))
        refine Tt.if_eq (tgt := 43) rfl (by decide) ?_ ?_
        · exact t_X7_circle_43 g l hl P a1 a2 a3 a4 hP w M (fm_up M P 0 (0 : Int32))
        · refine Tt.go (fun _ => Tr.run 2 (pc' := 44) (lv' := [(0, .ref P), (1, .int a1), (2, .int a2), (3, .int a3), (4, .int a4)]) (st' := [.int (1 : Int32), .ref P]) rfl) ?_
          exact t_X7_circle_44 g l hl P a1 a2 a3 a4 hP w M (1 : Int32) (fm_up M P 0 (0 : Int32))
theorem c_X7_circle (g : fm_G) (l : Launch) (hl : l.stackTraces = false) (P : Nat) (a1 : Int32) (a2 : Int32) (a3 : Int32) (a4 : Int32) (hP : fm_kd g P = 7) (M : fm_Mem) (w : fm_W) : ∀ r, f_X7_circle P a1 a2 a3 a4 M = some r → fC g l z_X7_circle [.ref P, .int a1, .int a2, .int a3, .int a4] (M, w) (emIw M w r) := fun r hr => fC.of (by decide) rfl o_X7_circle hl (Nat.le_of_ble_eq_true rfl) (t_X7_circle g l hl P a1 a2 a3 a4 hP M w r hr)
def k_X7_why : List (Nat × Instr × Nat) := [(0, .aload_n 0, 1), (1, .iconst 0, 1), (2, .putfield 35, 3), (5, .aload_n 0, 1), (6, .aload_n 0, 1), (7, .iload_n 1, 1), (8, .invokevirtual 293, 3), (11, .ifCond .eq 15, 3), (14, .aload_n 0, 1), (15, .iload_n 2, 1), (16, .invokevirtual 293, 3), (19, .ifCond .eq 7, 3), (22, .iconst 1, 1), (23, .goto 4, 3), (26, .iconst 0, 1), (27, .iconst 1, 1), (28, .invokevirtual 252, 3), (31, .ifCond .eq 12, 3), (34, .aload_n 0, 1), (35, .iload_n 1, 1), (36, .iload_n 2, 1), (37, .invokevirtual 227, 3), (40, .goto 4, 3), (43, .iconst 0, 1), (44, .ireturn, 1)]
def z_X7_why : fm_Y := (yX7_why, RX7, cX7_why, 3, (some .int), k_X7_why, 10, 265)
theorem o_X7_why : fm_dec z_X7_why := (by decide +kernel : ∀ q ∈ k_X7_why, decode cX7_why q.1 = .ok q.2)
theorem cw_X7_why : fm_cwV z_X7_why := ⟨⟨lw_in 1365 (by decide +kernel) (by decide +kernel), lw_in 99 (by decide +kernel) (by decide +kernel), by decide, by decide⟩, lw_in 1363 (by decide +kernel) (by decide +kernel), lw_in 1364 (by decide +kernel) (by decide +kernel)⟩
theorem pn_X7_why : (parseMethodDescriptor z_X7_why.1.desc).map (fun d => d.parameters.length) = some 2 := by decide +kernel
def f_X7_why_44 (P : Nat) (a1 : Int32) (a2 : Int32) (s0 : Int32) (M : fm_Mem) : Option (Int32 × fm_Mem) := some ((s0, M))
set_option maxRecDepth 100000 in
set_option maxHeartbeats 4000000 in
theorem t_X7_why_44 (g : fm_G) (l : Launch) (hl : l.stackTraces = false) (P : Nat) (a1 : Int32) (a2 : Int32) (hP : fm_kd g P = 7) (w : fm_W) (M0 : fm_Mem)  (s0 : Int32)  (M : fm_Mem) : Tt g l z_X7_why (emIw M0 w) (f_X7_why_44 P a1 a2  s0 M) 44 [] [.int s0] (M, w) := by
  rw [f_X7_why_44]
  exact Tt.ret (Tr.iret rfl rfl)
def f_X7_why_27 (P : Nat) (a1 : Int32) (a2 : Int32) (s0 : Int32) (M : fm_Mem) : Option (Int32 × fm_Mem) := Option.bind (f_X7_right P s0 (1 : Int32) M) (fun v1 => if v1.1 = 0 then (f_X7_why_44 P a1 a2 (0 : Int32) v1.2) else (Option.bind (f_X7_whyNot P a1 a2 v1.2) (fun v2 => (f_X7_why_44 P a1 a2 v2.1 v2.2))))
set_option maxRecDepth 100000 in
set_option maxHeartbeats 4000000 in
theorem t_X7_why_27 (g : fm_G) (l : Launch) (hl : l.stackTraces = false) (P : Nat) (a1 : Int32) (a2 : Int32) (hP : fm_kd g P = 7) (w : fm_W) (M0 : fm_Mem)  (s0 : Int32)  (M : fm_Mem) : Tt g l z_X7_why (emIw M0 w) (f_X7_why_27 P a1 a2  s0 M) 27 [(0, .ref P), (1, .int a1), (2, .int a2)] [.int s0, .ref P] (M, w) := by
  rw [f_X7_why_27]
  refine Tt.go (fun _ => Tr.run 1 (pc' := 28) (lv' := [(0, .ref P), (1, .int a1), (2, .int a2)]) (st' := [.int (1 : Int32), .int s0, .ref P]) rfl) ?_
  refine Tt.callV (As := [.int s0, .int (1 : Int32)]) (rest := []) (c_X7_right g l hl P s0 (1 : Int32) hP M w) hP (by decide) rfl rfl cw_X7_right fw1105 pn_X7_right (Nat.le_of_ble_eq_true rfl) (Nat.le_of_ble_eq_true rfl) (Nat.le_of_ble_eq_true rfl) rfl (fun v1 => (?_ : Tt g l z_X7_why (emIw M0 w) _ 31 [(0, .ref P), (1, .int a1), (2, .int a2)] [.int v1.1] (v1.2, w)))
  refine Tt.if_eq (tgt := 43) rfl (by decide) ?_ ?_
  · refine Tt.go (fun _ => Tr.run 1 (pc' := 44) (lv' := [(0, .ref P), (1, .int a1), (2, .int a2)]) (st' := [.int (0 : Int32)]) rfl) ?_
    refine Tt.go (fun _ => Tr.sub (lv' := []) [] rfl) ?_
    exact t_X7_why_44 g l hl P a1 a2 hP w M0 (0 : Int32) v1.2
  · refine Tt.go (fun _ => Tr.run 3 (pc' := 37) (lv' := [(0, .ref P), (1, .int a1), (2, .int a2)]) (st' := [.int a2, .int a1, .ref P]) rfl) ?_
    refine Tt.callV (As := [.int a1, .int a2]) (rest := []) (c_X7_whyNot g l hl P a1 a2 hP v1.2 w) hP (by decide) rfl rfl cw_X7_whyNot fw1215 pn_X7_whyNot (Nat.le_of_ble_eq_true rfl) (Nat.le_of_ble_eq_true rfl) (Nat.le_of_ble_eq_true rfl) rfl (fun v2 => (?_ : Tt g l z_X7_why (emIw M0 w) _ 40 [(0, .ref P), (1, .int a1), (2, .int a2)] [.int v2.1] (v2.2, w)))
    refine Tt.go (fun _ => Tr.run 1 (pc' := 44) (lv' := [(0, .ref P), (1, .int a1), (2, .int a2)]) (st' := [.int v2.1]) rfl) ?_
    refine Tt.go (fun _ => Tr.sub (lv' := []) [] rfl) ?_
    exact t_X7_why_44 g l hl P a1 a2 hP w M0 v2.1 v2.2
def f_X7_why_26 (P : Nat) (a1 : Int32) (a2 : Int32)  (M : fm_Mem) : Option (Int32 × fm_Mem) := (f_X7_why_27 P a1 a2 (0 : Int32) M)
set_option maxRecDepth 100000 in
set_option maxHeartbeats 4000000 in
theorem t_X7_why_26 (g : fm_G) (l : Launch) (hl : l.stackTraces = false) (P : Nat) (a1 : Int32) (a2 : Int32) (hP : fm_kd g P = 7) (w : fm_W) (M0 : fm_Mem)    (M : fm_Mem) : Tt g l z_X7_why (emIw M0 w) (f_X7_why_26 P a1 a2   M) 26 [(0, .ref P), (1, .int a1), (2, .int a2)] [.ref P] (M, w) := by
  rw [f_X7_why_26]
  refine Tt.go (fun _ => Tr.run 1 (pc' := 27) (lv' := [(0, .ref P), (1, .int a1), (2, .int a2)]) (st' := [.int (0 : Int32), .ref P]) rfl) ?_
  exact t_X7_why_27 g l hl P a1 a2 hP w M0 (0 : Int32) M
def f_X7_why (P : Nat) (a1 : Int32) (a2 : Int32) (M : fm_Mem) : Option (Int32 × fm_Mem) := Option.bind (f_X7_isPoint P a1 (fm_up M P 0 (0 : Int32))) (fun v1 => if v1 = 0 then (f_X7_why_26 P a1 a2 (fm_up M P 0 (0 : Int32))) else (Option.bind (f_X7_isPoint P a2 (fm_up M P 0 (0 : Int32))) (fun v2 => if v2 = 0 then (f_X7_why_26 P a1 a2 (fm_up M P 0 (0 : Int32))) else (f_X7_why_27 P a1 a2 (1 : Int32) (fm_up M P 0 (0 : Int32))))))
set_option maxRecDepth 100000 in
set_option maxHeartbeats 4000000 in
theorem t_X7_why (g : fm_G) (l : Launch) (hl : l.stackTraces = false) (P : Nat) (a1 : Int32) (a2 : Int32) (hP : fm_kd g P = 7) (M : fm_Mem) (w : fm_W) : Tt g l z_X7_why (emIw M w) (f_X7_why P a1 a2 M) 0 [(0, .ref P), (1, .int a1), (2, .int a2)] [] (M, w) := by
  rw [f_X7_why]
  refine Tt.go (fun _ => Tr.run 2 (pc' := 2) (lv' := [(0, .ref P), (1, .int a1), (2, .int a2)]) (st' := [.int (0 : Int32), .ref P]) rfl) ?_
  refine Tt.go (fun _ => Tr.put fmc7 hP rfl fw1024 (k := 0) (by decide) rfl rfl ⟨rfl, rfl⟩) (?_ : Tt g l z_X7_why (emIw M w) _ 5 [(0, .ref P), (1, .int a1), (2, .int a2)] [] ((fm_up M P 0 (0 : Int32)), w))
  refine Tt.go (fun _ => Tr.run 3 (pc' := 8) (lv' := [(0, .ref P), (1, .int a1), (2, .int a2)]) (st' := [.int a1, .ref P, .ref P]) rfl) ?_
  refine Tt.callV (As := [.int a1]) (rest := [.ref P]) (c_X7_isPoint g l hl P a1 hP (fm_up M P 0 (0 : Int32)) w) hP (by decide) rfl rfl cw_X7_isPoint fw1315 pn_X7_isPoint (Nat.le_of_ble_eq_true rfl) (Nat.le_of_ble_eq_true rfl) (Nat.le_of_ble_eq_true rfl) rfl (fun v1 => (?_ : Tt g l z_X7_why (emIw M w) _ 11 [(0, .ref P), (1, .int a1), (2, .int a2)] [.int v1, .ref P] ((fm_up M P 0 (0 : Int32)), w)))
  refine Tt.if_eq (tgt := 26) rfl (by decide) ?_ ?_
  · exact t_X7_why_26 g l hl P a1 a2 hP w M (fm_up M P 0 (0 : Int32))
  · refine Tt.go (fun _ => Tr.run 2 (pc' := 16) (lv' := [(0, .ref P), (1, .int a1), (2, .int a2)]) (st' := [.int a2, .ref P, .ref P]) rfl) ?_
    refine Tt.callV (As := [.int a2]) (rest := [.ref P]) (c_X7_isPoint g l hl P a2 hP (fm_up M P 0 (0 : Int32)) w) hP (by decide) rfl rfl cw_X7_isPoint fw1315 pn_X7_isPoint (Nat.le_of_ble_eq_true rfl) (Nat.le_of_ble_eq_true rfl) (Nat.le_of_ble_eq_true rfl) rfl (fun v2 => (?_ : Tt g l z_X7_why (emIw M w) _ 19 [(0, .ref P), (1, .int a1), (2, .int a2)] [.int v2, .ref P] ((fm_up M P 0 (0 : Int32)), w)))
    refine Tt.if_eq (tgt := 26) rfl (by decide) ?_ ?_
    · exact t_X7_why_26 g l hl P a1 a2 hP w M (fm_up M P 0 (0 : Int32))
    · refine Tt.go (fun _ => Tr.run 2 (pc' := 27) (lv' := [(0, .ref P), (1, .int a1), (2, .int a2)]) (st' := [.int (1 : Int32), .ref P]) rfl) ?_
      exact t_X7_why_27 g l hl P a1 a2 hP w M (1 : Int32) (fm_up M P 0 (0 : Int32))
theorem c_X7_why (g : fm_G) (l : Launch) (hl : l.stackTraces = false) (P : Nat) (a1 : Int32) (a2 : Int32) (hP : fm_kd g P = 7) (M : fm_Mem) (w : fm_W) : ∀ r, f_X7_why P a1 a2 M = some r → fC g l z_X7_why [.ref P, .int a1, .int a2] (M, w) (emIw M w r) := fun r hr => fC.of (by decide) rfl o_X7_why hl (Nat.le_of_ble_eq_true rfl) (t_X7_why g l hl P a1 a2 hP M w r hr)
def k_X7_badEdge : List (Nat × Instr × Nat) := [(0, .aload_n 0, 1), (1, .iconst 0, 1), (2, .putfield 35, 3), (5, .aload_n 0, 1), (6, .invokevirtual 307, 3), (9, .istore_n 1, 1), (10, .aload_n 0, 1), (11, .iload_n 1, 1), (12, .iconst (-1), 1), (13, .if_icmp .eq 7, 3), (16, .iconst 1, 1), (17, .goto 4, 3), (20, .iconst 0, 1), (21, .iconst 1, 1), (22, .invokevirtual 252, 3), (25, .ifCond .eq 7, 3), (28, .iload_n 1, 1), (29, .goto 4, 3), (32, .iconst 0, 1), (33, .ireturn, 1)]
def z_X7_badEdge : fm_Y := (yX7_badEdge, RX7, cX7_badEdge, 2, (some .int), k_X7_badEdge, 11, 284)
theorem o_X7_badEdge : fm_dec z_X7_badEdge := (by decide +kernel : ∀ q ∈ k_X7_badEdge, decode cX7_badEdge q.1 = .ok q.2)
theorem cw_X7_badEdge : fm_cwV z_X7_badEdge := ⟨⟨lw_in 1369 (by decide +kernel) (by decide +kernel), lw_in 99 (by decide +kernel) (by decide +kernel), by decide, by decide⟩, lw_in 1367 (by decide +kernel) (by decide +kernel), lw_in 1368 (by decide +kernel) (by decide +kernel)⟩
theorem pn_X7_badEdge : (parseMethodDescriptor z_X7_badEdge.1.desc).map (fun d => d.parameters.length) = some 0 := by decide +kernel
def f_X7_badEdge_33 (P : Nat) (s0 : Int32) (M : fm_Mem) : Option (Int32 × fm_Mem) := some ((s0, M))
set_option maxRecDepth 100000 in
set_option maxHeartbeats 4000000 in
theorem t_X7_badEdge_33 (g : fm_G) (l : Launch) (hl : l.stackTraces = false) (P : Nat) (hP : fm_kd g P = 7) (w : fm_W) (M0 : fm_Mem)  (s0 : Int32)  (M : fm_Mem) : Tt g l z_X7_badEdge (emIw M0 w) (f_X7_badEdge_33 P  s0 M) 33 [] [.int s0] (M, w) := by
  rw [f_X7_badEdge_33]
  exact Tt.ret (Tr.iret rfl rfl)
def f_X7_badEdge_21 (P : Nat) (x1 : Int32) (s0 : Int32) (M : fm_Mem) : Option (Int32 × fm_Mem) := Option.bind (f_X7_right P s0 (1 : Int32) M) (fun v1 => if v1.1 = 0 then (f_X7_badEdge_33 P (0 : Int32) v1.2) else (f_X7_badEdge_33 P x1 v1.2))
set_option maxRecDepth 100000 in
set_option maxHeartbeats 4000000 in
theorem t_X7_badEdge_21 (g : fm_G) (l : Launch) (hl : l.stackTraces = false) (P : Nat) (hP : fm_kd g P = 7) (w : fm_W) (M0 : fm_Mem)  (x1 : Int32) (s0 : Int32)  (M : fm_Mem) : Tt g l z_X7_badEdge (emIw M0 w) (f_X7_badEdge_21 P  x1 s0 M) 21 [(1, .int x1)] [.int s0, .ref P] (M, w) := by
  rw [f_X7_badEdge_21]
  refine Tt.go (fun _ => Tr.run 1 (pc' := 22) (lv' := [(1, .int x1)]) (st' := [.int (1 : Int32), .int s0, .ref P]) rfl) ?_
  refine Tt.callV (As := [.int s0, .int (1 : Int32)]) (rest := []) (c_X7_right g l hl P s0 (1 : Int32) hP M w) hP (by decide) rfl rfl cw_X7_right fw1105 pn_X7_right (Nat.le_of_ble_eq_true rfl) (Nat.le_of_ble_eq_true rfl) (Nat.le_of_ble_eq_true rfl) rfl (fun v1 => (?_ : Tt g l z_X7_badEdge (emIw M0 w) _ 25 [(1, .int x1)] [.int v1.1] (v1.2, w)))
  refine Tt.if_eq (tgt := 32) rfl (by decide) ?_ ?_
  · refine Tt.go (fun _ => Tr.run 1 (pc' := 33) (lv' := [(1, .int x1)]) (st' := [.int (0 : Int32)]) rfl) ?_
    refine Tt.go (fun _ => Tr.sub (lv' := []) [] rfl) ?_
    exact t_X7_badEdge_33 g l hl P hP w M0 (0 : Int32) v1.2
  · refine Tt.go (fun _ => Tr.run 2 (pc' := 33) (lv' := [(1, .int x1)]) (st' := [.int x1]) rfl) ?_
    refine Tt.go (fun _ => Tr.sub (lv' := []) [] rfl) ?_
    exact t_X7_badEdge_33 g l hl P hP w M0 x1 v1.2
def f_X7_badEdge (P : Nat) (M : fm_Mem) : Option (Int32 × fm_Mem) := Option.bind (f_X7_firstBad P (fm_up M P 0 (0 : Int32))) (fun v1 => if v1.1 = (-1 : Int32) then (f_X7_badEdge_21 P v1.1 (0 : Int32) v1.2) else (f_X7_badEdge_21 P v1.1 (1 : Int32) v1.2))
set_option maxRecDepth 100000 in
set_option maxHeartbeats 4000000 in
theorem t_X7_badEdge (g : fm_G) (l : Launch) (hl : l.stackTraces = false) (P : Nat) (hP : fm_kd g P = 7) (M : fm_Mem) (w : fm_W) : Tt g l z_X7_badEdge (emIw M w) (f_X7_badEdge P M) 0 [(0, .ref P)] [] (M, w) := by
  rw [f_X7_badEdge]
  refine Tt.go (fun _ => Tr.run 2 (pc' := 2) (lv' := [(0, .ref P)]) (st' := [.int (0 : Int32), .ref P]) rfl) ?_
  refine Tt.go (fun _ => Tr.put fmc7 hP rfl fw1024 (k := 0) (by decide) rfl rfl ⟨rfl, rfl⟩) (?_ : Tt g l z_X7_badEdge (emIw M w) _ 5 [(0, .ref P)] [] ((fm_up M P 0 (0 : Int32)), w))
  refine Tt.go (fun _ => Tr.run 1 (pc' := 6) (lv' := [(0, .ref P)]) (st' := [.ref P]) rfl) ?_
  refine Tt.callV (As := []) (rest := []) (c_X7_firstBad g l hl P hP (fm_up M P 0 (0 : Int32)) w) hP (by decide) rfl rfl cw_X7_firstBad fw1370 pn_X7_firstBad (Nat.le_of_ble_eq_true rfl) (Nat.le_of_ble_eq_true rfl) (Nat.le_of_ble_eq_true rfl) rfl (fun v1 => (?_ : Tt g l z_X7_badEdge (emIw M w) _ 9 [(0, .ref P)] [.int v1.1] (v1.2, w)))
  refine Tt.go (fun _ => Tr.run 4 (pc' := 13) (lv' := [(1, .int v1.1), (0, .ref P)]) (st' := [.int (-1 : Int32), .int v1.1, .ref P]) rfl) ?_
  refine Tt.ic_eq (tgt := 20) rfl (by decide) ?_ ?_
  · refine Tt.go (fun _ => Tr.run 1 (pc' := 21) (lv' := [(1, .int v1.1), (0, .ref P)]) (st' := [.int (0 : Int32), .ref P]) rfl) ?_
    refine Tt.go (fun _ => Tr.sub (lv' := [(1, .int v1.1)]) [0] rfl) ?_
    exact t_X7_badEdge_21 g l hl P hP w M v1.1 (0 : Int32) v1.2
  · refine Tt.go (fun _ => Tr.run 2 (pc' := 21) (lv' := [(1, .int v1.1), (0, .ref P)]) (st' := [.int (1 : Int32), .ref P]) rfl) ?_
    refine Tt.go (fun _ => Tr.sub (lv' := [(1, .int v1.1)]) [0] rfl) ?_
    exact t_X7_badEdge_21 g l hl P hP w M v1.1 (1 : Int32) v1.2
theorem c_X7_badEdge (g : fm_G) (l : Launch) (hl : l.stackTraces = false) (P : Nat) (hP : fm_kd g P = 7) (M : fm_Mem) (w : fm_W) : ∀ r, f_X7_badEdge P M = some r → fC g l z_X7_badEdge [.ref P] (M, w) (emIw M w r) := fun r hr => fC.of (by decide) rfl o_X7_badEdge hl (Nat.le_of_ble_eq_true rfl) (t_X7_badEdge g l hl P hP M w r hr)
def k_X7_holds : List (Nat × Instr × Nat) := [(0, .aload_n 0, 1), (1, .iconst 0, 1), (2, .iload_n 1, 1), (3, .iconst 0, 1), (4, .invokevirtual 103, 3), (7, .istore 4, 2), (9, .aload_n 0, 1), (10, .iconst 0, 1), (11, .iload_n 1, 1), (12, .iconst 1, 1), (13, .invokevirtual 103, 3), (16, .istore 5, 2), (18, .aload_n 0, 1), (19, .iconst 0, 1), (20, .iload_n 1, 1), (21, .iconst 2, 1), (22, .invokevirtual 103, 3), (25, .istore 6, 2), (27, .aload_n 0, 1), (28, .iload 4, 2), (30, .iload 5, 2), (32, .iload 6, 2), (34, .invokevirtual 70, 3), (37, .invokestatic 66, 3), (40, .istore 7, 2), (42, .iload 7, 2), (44, .i2l, 1), (45, .aload_n 0, 1), (46, .iload 4, 2), (48, .invokevirtual 56, 3), (51, .i2l, 1), (52, .aload_n 0, 1), (53, .iload 4, 2), (55, .invokevirtual 59, 3), (58, .i2l, 1), (59, .aload_n 0, 1), (60, .iload 5, 2), (62, .invokevirtual 56, 3), (65, .i2l, 1), (66, .aload_n 0, 1), (67, .iload 5, 2), (69, .invokevirtual 59, 3), (72, .i2l, 1), (73, .iload_n 2, 1), (74, .i2l, 1), (75, .iload_n 3, 1), (76, .i2l, 1), (77, .invokestatic 62, 3), (80, .lmul, 1), (81, .lconst 0, 1), (82, .lcmp, 1), (83, .ifCond .lt 95, 3), (86, .iload 7, 2), (88, .i2l, 1), (89, .aload_n 0, 1), (90, .iload 5, 2), (92, .invokevirtual 56, 3), (95, .i2l, 1), (96, .aload_n 0, 1), (97, .iload 5, 2), (99, .invokevirtual 59, 3), (102, .i2l, 1), (103, .aload_n 0, 1), (104, .iload 6, 2), (106, .invokevirtual 56, 3), (109, .i2l, 1), (110, .aload_n 0, 1), (111, .iload 6, 2), (113, .invokevirtual 59, 3), (116, .i2l, 1), (117, .iload_n 2, 1), (118, .i2l, 1), (119, .iload_n 3, 1), (120, .i2l, 1), (121, .invokestatic 62, 3), (124, .lmul, 1), (125, .lconst 0, 1), (126, .lcmp, 1), (127, .ifCond .lt 51, 3), (130, .iload 7, 2), (132, .i2l, 1), (133, .aload_n 0, 1), (134, .iload 6, 2), (136, .invokevirtual 56, 3), (139, .i2l, 1), (140, .aload_n 0, 1), (141, .iload 6, 2), (143, .invokevirtual 59, 3), (146, .i2l, 1), (147, .aload_n 0, 1), (148, .iload 4, 2), (150, .invokevirtual 56, 3), (153, .i2l, 1), (154, .aload_n 0, 1), (155, .iload 4, 2), (157, .invokevirtual 59, 3), (160, .i2l, 1), (161, .iload_n 2, 1), (162, .i2l, 1), (163, .iload_n 3, 1), (164, .i2l, 1), (165, .invokestatic 62, 3), (168, .lmul, 1), (169, .lconst 0, 1), (170, .lcmp, 1), (171, .ifCond .lt 7, 3), (174, .iconst 1, 1), (175, .goto 4, 3), (178, .iconst 0, 1), (179, .ireturn, 1)]
def z_X7_holds : fm_Y := (yX7_holds, RX7, cX7_holds, 8, (some .boolean), k_X7_holds, 3, 81)
theorem o_X7_holds : fm_dec z_X7_holds := (by decide +kernel : ∀ q ∈ k_X7_holds, decode cX7_holds q.1 = .ok q.2)
theorem cw_X7_holds : fm_cwV z_X7_holds := ⟨⟨lw_in 1381 (by decide +kernel) (by decide +kernel), lw_in 99 (by decide +kernel) (by decide +kernel), by decide, by decide⟩, lw_in 1380 (by decide +kernel) (by decide +kernel), lw_in 83 (by decide +kernel) (by decide +kernel)⟩
theorem pn_X7_holds : (parseMethodDescriptor z_X7_holds.1.desc).map (fun d => d.parameters.length) = some 3 := by decide +kernel
def f_X7_holds_179 (P : Nat) (a1 : Int32) (a2 : Int32) (a3 : Int32) (s0 : Int32) (M : fm_Mem) : Option (Int32) := fm_ck (fm_bo s0) (some (s0))
set_option maxRecDepth 100000 in
set_option maxHeartbeats 4000000 in
theorem t_X7_holds_179 (g : fm_G) (l : Launch) (hl : l.stackTraces = false) (P : Nat) (a1 : Int32) (a2 : Int32) (a3 : Int32) (hP : fm_kd g P = 7) (w : fm_W)  (s0 : Int32)  (M : fm_Mem) : Tt g l z_X7_holds (emI M w) (f_X7_holds_179 P a1 a2 a3  s0 M) 179 [] [.int s0] (M, w) := by
  rw [f_X7_holds_179]
  exact Tt.ck (fun hb_1 => Tt.ret (Tr.zret rfl rfl hb_1))
def f_X7_holds_178 (P : Nat) (a1 : Int32) (a2 : Int32) (a3 : Int32)  (M : fm_Mem) : Option (Int32) := (f_X7_holds_179 P a1 a2 a3 (0 : Int32) M)
set_option maxRecDepth 100000 in
set_option maxHeartbeats 4000000 in
theorem t_X7_holds_178 (g : fm_G) (l : Launch) (hl : l.stackTraces = false) (P : Nat) (a1 : Int32) (a2 : Int32) (a3 : Int32) (hP : fm_kd g P = 7) (w : fm_W)    (M : fm_Mem) : Tt g l z_X7_holds (emI M w) (f_X7_holds_178 P a1 a2 a3   M) 178 [] [] (M, w) := by
  rw [f_X7_holds_178]
  refine Tt.go (fun _ => Tr.run 1 (pc' := 179) (lv' := []) (st' := [.int (0 : Int32)]) rfl) ?_
  exact t_X7_holds_179 g l hl P a1 a2 a3 hP w (0 : Int32) M
def f_X7_holds (P : Nat) (a1 : Int32) (a2 : Int32) (a3 : Int32) (M : fm_Mem) : Option (Int32) := Option.bind (f_X7_endOf P (0 : Int32) a1 (0 : Int32) M) (fun v1 => Option.bind (f_X7_endOf P (0 : Int32) a1 (1 : Int32) M) (fun v2 => Option.bind (f_X7_endOf P (0 : Int32) a1 (2 : Int32) M) (fun v3 => Option.bind (f_X7_turn P v1 v2 v3 M) (fun v4 => Option.bind (f_X7_signOf v4 M) (fun v5 => Option.bind (f_X7_x P v1 M) (fun v6 => Option.bind (f_X7_y P v1 M) (fun v7 => Option.bind (f_X7_x P v2 M) (fun v8 => Option.bind (f_X7_y P v2 M) (fun v9 => Option.bind (f_X7_turnOf (Int32.toInt64 v6) (Int32.toInt64 v7) (Int32.toInt64 v8) (Int32.toInt64 v9) (Int32.toInt64 a2) (Int32.toInt64 a3) M) (fun v10 => if (lg_cmp ((Int32.toInt64 v5) * v10) (0 : Int64)) < 0 then (f_X7_holds_178 P a1 a2 a3 M) else (Option.bind (f_X7_x P v2 M) (fun v11 => Option.bind (f_X7_y P v2 M) (fun v12 => Option.bind (f_X7_x P v3 M) (fun v13 => Option.bind (f_X7_y P v3 M) (fun v14 => Option.bind (f_X7_turnOf (Int32.toInt64 v11) (Int32.toInt64 v12) (Int32.toInt64 v13) (Int32.toInt64 v14) (Int32.toInt64 a2) (Int32.toInt64 a3) M) (fun v15 => if (lg_cmp ((Int32.toInt64 v5) * v15) (0 : Int64)) < 0 then (f_X7_holds_178 P a1 a2 a3 M) else (Option.bind (f_X7_x P v3 M) (fun v16 => Option.bind (f_X7_y P v3 M) (fun v17 => Option.bind (f_X7_x P v1 M) (fun v18 => Option.bind (f_X7_y P v1 M) (fun v19 => Option.bind (f_X7_turnOf (Int32.toInt64 v16) (Int32.toInt64 v17) (Int32.toInt64 v18) (Int32.toInt64 v19) (Int32.toInt64 a2) (Int32.toInt64 a3) M) (fun v20 => if (lg_cmp ((Int32.toInt64 v5) * v20) (0 : Int64)) < 0 then (f_X7_holds_178 P a1 a2 a3 M) else (f_X7_holds_179 P a1 a2 a3 (1 : Int32) M)))))))))))))))))))))))
set_option maxRecDepth 100000 in
set_option maxHeartbeats 4000000 in
theorem t_X7_holds (g : fm_G) (l : Launch) (hl : l.stackTraces = false) (P : Nat) (a1 : Int32) (a2 : Int32) (a3 : Int32) (hP : fm_kd g P = 7) (M : fm_Mem) (w : fm_W) : Tt g l z_X7_holds (emI M w) (f_X7_holds P a1 a2 a3 M) 0 [(0, .ref P), (1, .int a1), (2, .int a2), (3, .int a3)] [] (M, w) := by
  rw [f_X7_holds]
  refine Tt.go (fun _ => Tr.run 4 (pc' := 4) (lv' := [(0, .ref P), (1, .int a1), (2, .int a2), (3, .int a3)]) (st' := [.int (0 : Int32), .int a1, .int (0 : Int32), .ref P]) rfl) ?_
  refine Tt.callV (As := [.int (0 : Int32), .int a1, .int (0 : Int32)]) (rest := []) (c_X7_endOf g l hl P (0 : Int32) a1 (0 : Int32) hP M w) hP (by decide) rfl rfl cw_X7_endOf fw1231 pn_X7_endOf (Nat.le_of_ble_eq_true rfl) (Nat.le_of_ble_eq_true rfl) (Nat.le_of_ble_eq_true rfl) rfl (fun v1 => (?_ : Tt g l z_X7_holds (emI M w) _ 7 [(0, .ref P), (1, .int a1), (2, .int a2), (3, .int a3)] [.int v1] (M, w)))
  refine Tt.go (fun _ => Tr.run 5 (pc' := 13) (lv' := [(4, .int v1), (0, .ref P), (1, .int a1), (2, .int a2), (3, .int a3)]) (st' := [.int (1 : Int32), .int a1, .int (0 : Int32), .ref P]) rfl) ?_
  refine Tt.callV (As := [.int (0 : Int32), .int a1, .int (1 : Int32)]) (rest := []) (c_X7_endOf g l hl P (0 : Int32) a1 (1 : Int32) hP M w) hP (by decide) rfl rfl cw_X7_endOf fw1231 pn_X7_endOf (Nat.le_of_ble_eq_true rfl) (Nat.le_of_ble_eq_true rfl) (Nat.le_of_ble_eq_true rfl) rfl (fun v2 => (?_ : Tt g l z_X7_holds (emI M w) _ 16 [(4, .int v1), (0, .ref P), (1, .int a1), (2, .int a2), (3, .int a3)] [.int v2] (M, w)))
  refine Tt.go (fun _ => Tr.run 5 (pc' := 22) (lv' := [(5, .int v2), (4, .int v1), (0, .ref P), (1, .int a1), (2, .int a2), (3, .int a3)]) (st' := [.int (2 : Int32), .int a1, .int (0 : Int32), .ref P]) rfl) ?_
  refine Tt.callV (As := [.int (0 : Int32), .int a1, .int (2 : Int32)]) (rest := []) (c_X7_endOf g l hl P (0 : Int32) a1 (2 : Int32) hP M w) hP (by decide) rfl rfl cw_X7_endOf fw1231 pn_X7_endOf (Nat.le_of_ble_eq_true rfl) (Nat.le_of_ble_eq_true rfl) (Nat.le_of_ble_eq_true rfl) rfl (fun v3 => (?_ : Tt g l z_X7_holds (emI M w) _ 25 [(5, .int v2), (4, .int v1), (0, .ref P), (1, .int a1), (2, .int a2), (3, .int a3)] [.int v3] (M, w)))
  refine Tt.go (fun _ => Tr.run 5 (pc' := 34) (lv' := [(6, .int v3), (5, .int v2), (4, .int v1), (0, .ref P), (1, .int a1), (2, .int a2), (3, .int a3)]) (st' := [.int v3, .int v2, .int v1, .ref P]) rfl) ?_
  refine Tt.callV (As := [.int v1, .int v2, .int v3]) (rest := []) (c_X7_turn g l hl P v1 v2 v3 hP M w) hP (by decide) rfl rfl cw_X7_turn fw1193 pn_X7_turn (Nat.le_of_ble_eq_true rfl) (Nat.le_of_ble_eq_true rfl) (Nat.le_of_ble_eq_true rfl) rfl (fun v4 => (?_ : Tt g l z_X7_holds (emI M w) _ 37 [(6, .int v3), (5, .int v2), (4, .int v1), (0, .ref P), (1, .int a1), (2, .int a2), (3, .int a3)] [.long v4] (M, w)))
  refine Tt.callS (As := [.long v4]) (rest := []) (c_X7_signOf g l hl v4 M w) rfl cw_X7_signOf fw1208 pn_X7_signOf (Nat.le_of_ble_eq_true rfl) (Nat.le_of_ble_eq_true rfl) (Nat.le_of_ble_eq_true rfl) rfl (fun v5 => (?_ : Tt g l z_X7_holds (emI M w) _ 40 [(6, .int v3), (5, .int v2), (4, .int v1), (0, .ref P), (1, .int a1), (2, .int a2), (3, .int a3)] [.int v5] (M, w)))
  refine Tt.go (fun _ => Tr.run 5 (pc' := 48) (lv' := [(7, .int v5), (6, .int v3), (5, .int v2), (4, .int v1), (0, .ref P), (1, .int a1), (2, .int a2), (3, .int a3)]) (st' := [.int v1, .ref P, .long (Int32.toInt64 v5)]) rfl) ?_
  refine Tt.callV (As := [.int v1]) (rest := [.long (Int32.toInt64 v5)]) (c_X7_x g l hl P v1 hP M w) hP (by decide) rfl rfl cw_X7_x fw1164 pn_X7_x (Nat.le_of_ble_eq_true rfl) (Nat.le_of_ble_eq_true rfl) (Nat.le_of_ble_eq_true rfl) rfl (fun v6 => (?_ : Tt g l z_X7_holds (emI M w) _ 51 [(7, .int v5), (6, .int v3), (5, .int v2), (4, .int v1), (0, .ref P), (1, .int a1), (2, .int a2), (3, .int a3)] [.int v6, .long (Int32.toInt64 v5)] (M, w)))
  refine Tt.go (fun _ => Tr.run 3 (pc' := 55) (lv' := [(7, .int v5), (6, .int v3), (5, .int v2), (4, .int v1), (0, .ref P), (1, .int a1), (2, .int a2), (3, .int a3)]) (st' := [.int v1, .ref P, .long (Int32.toInt64 v6), .long (Int32.toInt64 v5)]) rfl) ?_
  refine Tt.callV (As := [.int v1]) (rest := [.long (Int32.toInt64 v6), .long (Int32.toInt64 v5)]) (c_X7_y g l hl P v1 hP M w) hP (by decide) rfl rfl cw_X7_y fw1168 pn_X7_y (Nat.le_of_ble_eq_true rfl) (Nat.le_of_ble_eq_true rfl) (Nat.le_of_ble_eq_true rfl) rfl (fun v7 => (?_ : Tt g l z_X7_holds (emI M w) _ 58 [(7, .int v5), (6, .int v3), (5, .int v2), (4, .int v1), (0, .ref P), (1, .int a1), (2, .int a2), (3, .int a3)] [.int v7, .long (Int32.toInt64 v6), .long (Int32.toInt64 v5)] (M, w)))
  refine Tt.go (fun _ => Tr.run 3 (pc' := 62) (lv' := [(7, .int v5), (6, .int v3), (5, .int v2), (4, .int v1), (0, .ref P), (1, .int a1), (2, .int a2), (3, .int a3)]) (st' := [.int v2, .ref P, .long (Int32.toInt64 v7), .long (Int32.toInt64 v6), .long (Int32.toInt64 v5)]) rfl) ?_
  refine Tt.callV (As := [.int v2]) (rest := [.long (Int32.toInt64 v7), .long (Int32.toInt64 v6), .long (Int32.toInt64 v5)]) (c_X7_x g l hl P v2 hP M w) hP (by decide) rfl rfl cw_X7_x fw1164 pn_X7_x (Nat.le_of_ble_eq_true rfl) (Nat.le_of_ble_eq_true rfl) (Nat.le_of_ble_eq_true rfl) rfl (fun v8 => (?_ : Tt g l z_X7_holds (emI M w) _ 65 [(7, .int v5), (6, .int v3), (5, .int v2), (4, .int v1), (0, .ref P), (1, .int a1), (2, .int a2), (3, .int a3)] [.int v8, .long (Int32.toInt64 v7), .long (Int32.toInt64 v6), .long (Int32.toInt64 v5)] (M, w)))
  refine Tt.go (fun _ => Tr.run 3 (pc' := 69) (lv' := [(7, .int v5), (6, .int v3), (5, .int v2), (4, .int v1), (0, .ref P), (1, .int a1), (2, .int a2), (3, .int a3)]) (st' := [.int v2, .ref P, .long (Int32.toInt64 v8), .long (Int32.toInt64 v7), .long (Int32.toInt64 v6), .long (Int32.toInt64 v5)]) rfl) ?_
  refine Tt.callV (As := [.int v2]) (rest := [.long (Int32.toInt64 v8), .long (Int32.toInt64 v7), .long (Int32.toInt64 v6), .long (Int32.toInt64 v5)]) (c_X7_y g l hl P v2 hP M w) hP (by decide) rfl rfl cw_X7_y fw1168 pn_X7_y (Nat.le_of_ble_eq_true rfl) (Nat.le_of_ble_eq_true rfl) (Nat.le_of_ble_eq_true rfl) rfl (fun v9 => (?_ : Tt g l z_X7_holds (emI M w) _ 72 [(7, .int v5), (6, .int v3), (5, .int v2), (4, .int v1), (0, .ref P), (1, .int a1), (2, .int a2), (3, .int a3)] [.int v9, .long (Int32.toInt64 v8), .long (Int32.toInt64 v7), .long (Int32.toInt64 v6), .long (Int32.toInt64 v5)] (M, w)))
  refine Tt.go (fun _ => Tr.run 5 (pc' := 77) (lv' := [(7, .int v5), (6, .int v3), (5, .int v2), (4, .int v1), (0, .ref P), (1, .int a1), (2, .int a2), (3, .int a3)]) (st' := [.long (Int32.toInt64 a3), .long (Int32.toInt64 a2), .long (Int32.toInt64 v9), .long (Int32.toInt64 v8), .long (Int32.toInt64 v7), .long (Int32.toInt64 v6), .long (Int32.toInt64 v5)]) rfl) ?_
  refine Tt.callS (As := [.long (Int32.toInt64 v6), .long (Int32.toInt64 v7), .long (Int32.toInt64 v8), .long (Int32.toInt64 v9), .long (Int32.toInt64 a2), .long (Int32.toInt64 a3)]) (rest := [.long (Int32.toInt64 v5)]) (c_X7_turnOf g l hl (Int32.toInt64 v6) (Int32.toInt64 v7) (Int32.toInt64 v8) (Int32.toInt64 v9) (Int32.toInt64 a2) (Int32.toInt64 a3) M w) rfl cw_X7_turnOf fw1197 pn_X7_turnOf (Nat.le_of_ble_eq_true rfl) (Nat.le_of_ble_eq_true rfl) (Nat.le_of_ble_eq_true rfl) rfl (fun v10 => (?_ : Tt g l z_X7_holds (emI M w) _ 80 [(7, .int v5), (6, .int v3), (5, .int v2), (4, .int v1), (0, .ref P), (1, .int a1), (2, .int a2), (3, .int a3)] [.long v10, .long (Int32.toInt64 v5)] (M, w)))
  refine Tt.go (fun _ => Tr.run 3 (pc' := 83) (lv' := [(7, .int v5), (6, .int v3), (5, .int v2), (4, .int v1), (0, .ref P), (1, .int a1), (2, .int a2), (3, .int a3)]) (st' := [.int (lg_cmp ((Int32.toInt64 v5) * v10) (0 : Int64))]) rfl) ?_
  refine Tt.if_lt (tgt := 178) rfl (by decide) ?_ ?_
  · refine Tt.go (fun _ => Tr.sub (lv' := []) [] rfl) ?_
    exact t_X7_holds_178 g l hl P a1 a2 a3 hP w M
  · refine Tt.go (fun _ => Tr.run 4 (pc' := 92) (lv' := [(7, .int v5), (6, .int v3), (5, .int v2), (4, .int v1), (0, .ref P), (1, .int a1), (2, .int a2), (3, .int a3)]) (st' := [.int v2, .ref P, .long (Int32.toInt64 v5)]) rfl) ?_
    refine Tt.callV (As := [.int v2]) (rest := [.long (Int32.toInt64 v5)]) (c_X7_x g l hl P v2 hP M w) hP (by decide) rfl rfl cw_X7_x fw1164 pn_X7_x (Nat.le_of_ble_eq_true rfl) (Nat.le_of_ble_eq_true rfl) (Nat.le_of_ble_eq_true rfl) rfl (fun v11 => (?_ : Tt g l z_X7_holds (emI M w) _ 95 [(7, .int v5), (6, .int v3), (5, .int v2), (4, .int v1), (0, .ref P), (1, .int a1), (2, .int a2), (3, .int a3)] [.int v11, .long (Int32.toInt64 v5)] (M, w)))
    refine Tt.go (fun _ => Tr.run 3 (pc' := 99) (lv' := [(7, .int v5), (6, .int v3), (5, .int v2), (4, .int v1), (0, .ref P), (1, .int a1), (2, .int a2), (3, .int a3)]) (st' := [.int v2, .ref P, .long (Int32.toInt64 v11), .long (Int32.toInt64 v5)]) rfl) ?_
    refine Tt.callV (As := [.int v2]) (rest := [.long (Int32.toInt64 v11), .long (Int32.toInt64 v5)]) (c_X7_y g l hl P v2 hP M w) hP (by decide) rfl rfl cw_X7_y fw1168 pn_X7_y (Nat.le_of_ble_eq_true rfl) (Nat.le_of_ble_eq_true rfl) (Nat.le_of_ble_eq_true rfl) rfl (fun v12 => (?_ : Tt g l z_X7_holds (emI M w) _ 102 [(7, .int v5), (6, .int v3), (5, .int v2), (4, .int v1), (0, .ref P), (1, .int a1), (2, .int a2), (3, .int a3)] [.int v12, .long (Int32.toInt64 v11), .long (Int32.toInt64 v5)] (M, w)))
    refine Tt.go (fun _ => Tr.run 3 (pc' := 106) (lv' := [(7, .int v5), (6, .int v3), (5, .int v2), (4, .int v1), (0, .ref P), (1, .int a1), (2, .int a2), (3, .int a3)]) (st' := [.int v3, .ref P, .long (Int32.toInt64 v12), .long (Int32.toInt64 v11), .long (Int32.toInt64 v5)]) rfl) ?_
    refine Tt.callV (As := [.int v3]) (rest := [.long (Int32.toInt64 v12), .long (Int32.toInt64 v11), .long (Int32.toInt64 v5)]) (c_X7_x g l hl P v3 hP M w) hP (by decide) rfl rfl cw_X7_x fw1164 pn_X7_x (Nat.le_of_ble_eq_true rfl) (Nat.le_of_ble_eq_true rfl) (Nat.le_of_ble_eq_true rfl) rfl (fun v13 => (?_ : Tt g l z_X7_holds (emI M w) _ 109 [(7, .int v5), (6, .int v3), (5, .int v2), (4, .int v1), (0, .ref P), (1, .int a1), (2, .int a2), (3, .int a3)] [.int v13, .long (Int32.toInt64 v12), .long (Int32.toInt64 v11), .long (Int32.toInt64 v5)] (M, w)))
    refine Tt.go (fun _ => Tr.run 3 (pc' := 113) (lv' := [(7, .int v5), (6, .int v3), (5, .int v2), (4, .int v1), (0, .ref P), (1, .int a1), (2, .int a2), (3, .int a3)]) (st' := [.int v3, .ref P, .long (Int32.toInt64 v13), .long (Int32.toInt64 v12), .long (Int32.toInt64 v11), .long (Int32.toInt64 v5)]) rfl) ?_
    refine Tt.callV (As := [.int v3]) (rest := [.long (Int32.toInt64 v13), .long (Int32.toInt64 v12), .long (Int32.toInt64 v11), .long (Int32.toInt64 v5)]) (c_X7_y g l hl P v3 hP M w) hP (by decide) rfl rfl cw_X7_y fw1168 pn_X7_y (Nat.le_of_ble_eq_true rfl) (Nat.le_of_ble_eq_true rfl) (Nat.le_of_ble_eq_true rfl) rfl (fun v14 => (?_ : Tt g l z_X7_holds (emI M w) _ 116 [(7, .int v5), (6, .int v3), (5, .int v2), (4, .int v1), (0, .ref P), (1, .int a1), (2, .int a2), (3, .int a3)] [.int v14, .long (Int32.toInt64 v13), .long (Int32.toInt64 v12), .long (Int32.toInt64 v11), .long (Int32.toInt64 v5)] (M, w)))
    refine Tt.go (fun _ => Tr.run 5 (pc' := 121) (lv' := [(7, .int v5), (6, .int v3), (5, .int v2), (4, .int v1), (0, .ref P), (1, .int a1), (2, .int a2), (3, .int a3)]) (st' := [.long (Int32.toInt64 a3), .long (Int32.toInt64 a2), .long (Int32.toInt64 v14), .long (Int32.toInt64 v13), .long (Int32.toInt64 v12), .long (Int32.toInt64 v11), .long (Int32.toInt64 v5)]) rfl) ?_
    refine Tt.callS (As := [.long (Int32.toInt64 v11), .long (Int32.toInt64 v12), .long (Int32.toInt64 v13), .long (Int32.toInt64 v14), .long (Int32.toInt64 a2), .long (Int32.toInt64 a3)]) (rest := [.long (Int32.toInt64 v5)]) (c_X7_turnOf g l hl (Int32.toInt64 v11) (Int32.toInt64 v12) (Int32.toInt64 v13) (Int32.toInt64 v14) (Int32.toInt64 a2) (Int32.toInt64 a3) M w) rfl cw_X7_turnOf fw1197 pn_X7_turnOf (Nat.le_of_ble_eq_true rfl) (Nat.le_of_ble_eq_true rfl) (Nat.le_of_ble_eq_true rfl) rfl (fun v15 => (?_ : Tt g l z_X7_holds (emI M w) _ 124 [(7, .int v5), (6, .int v3), (5, .int v2), (4, .int v1), (0, .ref P), (1, .int a1), (2, .int a2), (3, .int a3)] [.long v15, .long (Int32.toInt64 v5)] (M, w)))
    refine Tt.go (fun _ => Tr.run 3 (pc' := 127) (lv' := [(7, .int v5), (6, .int v3), (5, .int v2), (4, .int v1), (0, .ref P), (1, .int a1), (2, .int a2), (3, .int a3)]) (st' := [.int (lg_cmp ((Int32.toInt64 v5) * v15) (0 : Int64))]) rfl) ?_
    refine Tt.if_lt (tgt := 178) rfl (by decide) ?_ ?_
    · refine Tt.go (fun _ => Tr.sub (lv' := []) [] rfl) ?_
      exact t_X7_holds_178 g l hl P a1 a2 a3 hP w M
    · refine Tt.go (fun _ => Tr.run 4 (pc' := 136) (lv' := [(7, .int v5), (6, .int v3), (5, .int v2), (4, .int v1), (0, .ref P), (1, .int a1), (2, .int a2), (3, .int a3)]) (st' := [.int v3, .ref P, .long (Int32.toInt64 v5)]) rfl) ?_
      refine Tt.callV (As := [.int v3]) (rest := [.long (Int32.toInt64 v5)]) (c_X7_x g l hl P v3 hP M w) hP (by decide) rfl rfl cw_X7_x fw1164 pn_X7_x (Nat.le_of_ble_eq_true rfl) (Nat.le_of_ble_eq_true rfl) (Nat.le_of_ble_eq_true rfl) rfl (fun v16 => (?_ : Tt g l z_X7_holds (emI M w) _ 139 [(7, .int v5), (6, .int v3), (5, .int v2), (4, .int v1), (0, .ref P), (1, .int a1), (2, .int a2), (3, .int a3)] [.int v16, .long (Int32.toInt64 v5)] (M, w)))
      refine Tt.go (fun _ => Tr.run 3 (pc' := 143) (lv' := [(7, .int v5), (6, .int v3), (5, .int v2), (4, .int v1), (0, .ref P), (1, .int a1), (2, .int a2), (3, .int a3)]) (st' := [.int v3, .ref P, .long (Int32.toInt64 v16), .long (Int32.toInt64 v5)]) rfl) ?_
      refine Tt.callV (As := [.int v3]) (rest := [.long (Int32.toInt64 v16), .long (Int32.toInt64 v5)]) (c_X7_y g l hl P v3 hP M w) hP (by decide) rfl rfl cw_X7_y fw1168 pn_X7_y (Nat.le_of_ble_eq_true rfl) (Nat.le_of_ble_eq_true rfl) (Nat.le_of_ble_eq_true rfl) rfl (fun v17 => (?_ : Tt g l z_X7_holds (emI M w) _ 146 [(7, .int v5), (6, .int v3), (5, .int v2), (4, .int v1), (0, .ref P), (1, .int a1), (2, .int a2), (3, .int a3)] [.int v17, .long (Int32.toInt64 v16), .long (Int32.toInt64 v5)] (M, w)))
      refine Tt.go (fun _ => Tr.run 3 (pc' := 150) (lv' := [(7, .int v5), (6, .int v3), (5, .int v2), (4, .int v1), (0, .ref P), (1, .int a1), (2, .int a2), (3, .int a3)]) (st' := [.int v1, .ref P, .long (Int32.toInt64 v17), .long (Int32.toInt64 v16), .long (Int32.toInt64 v5)]) rfl) ?_
      refine Tt.callV (As := [.int v1]) (rest := [.long (Int32.toInt64 v17), .long (Int32.toInt64 v16), .long (Int32.toInt64 v5)]) (c_X7_x g l hl P v1 hP M w) hP (by decide) rfl rfl cw_X7_x fw1164 pn_X7_x (Nat.le_of_ble_eq_true rfl) (Nat.le_of_ble_eq_true rfl) (Nat.le_of_ble_eq_true rfl) rfl (fun v18 => (?_ : Tt g l z_X7_holds (emI M w) _ 153 [(7, .int v5), (6, .int v3), (5, .int v2), (4, .int v1), (0, .ref P), (1, .int a1), (2, .int a2), (3, .int a3)] [.int v18, .long (Int32.toInt64 v17), .long (Int32.toInt64 v16), .long (Int32.toInt64 v5)] (M, w)))
      refine Tt.go (fun _ => Tr.run 3 (pc' := 157) (lv' := [(7, .int v5), (6, .int v3), (5, .int v2), (4, .int v1), (0, .ref P), (1, .int a1), (2, .int a2), (3, .int a3)]) (st' := [.int v1, .ref P, .long (Int32.toInt64 v18), .long (Int32.toInt64 v17), .long (Int32.toInt64 v16), .long (Int32.toInt64 v5)]) rfl) ?_
      refine Tt.callV (As := [.int v1]) (rest := [.long (Int32.toInt64 v18), .long (Int32.toInt64 v17), .long (Int32.toInt64 v16), .long (Int32.toInt64 v5)]) (c_X7_y g l hl P v1 hP M w) hP (by decide) rfl rfl cw_X7_y fw1168 pn_X7_y (Nat.le_of_ble_eq_true rfl) (Nat.le_of_ble_eq_true rfl) (Nat.le_of_ble_eq_true rfl) rfl (fun v19 => (?_ : Tt g l z_X7_holds (emI M w) _ 160 [(7, .int v5), (6, .int v3), (5, .int v2), (4, .int v1), (0, .ref P), (1, .int a1), (2, .int a2), (3, .int a3)] [.int v19, .long (Int32.toInt64 v18), .long (Int32.toInt64 v17), .long (Int32.toInt64 v16), .long (Int32.toInt64 v5)] (M, w)))
      refine Tt.go (fun _ => Tr.run 5 (pc' := 165) (lv' := [(7, .int v5), (6, .int v3), (5, .int v2), (4, .int v1), (0, .ref P), (1, .int a1), (2, .int a2), (3, .int a3)]) (st' := [.long (Int32.toInt64 a3), .long (Int32.toInt64 a2), .long (Int32.toInt64 v19), .long (Int32.toInt64 v18), .long (Int32.toInt64 v17), .long (Int32.toInt64 v16), .long (Int32.toInt64 v5)]) rfl) ?_
      refine Tt.callS (As := [.long (Int32.toInt64 v16), .long (Int32.toInt64 v17), .long (Int32.toInt64 v18), .long (Int32.toInt64 v19), .long (Int32.toInt64 a2), .long (Int32.toInt64 a3)]) (rest := [.long (Int32.toInt64 v5)]) (c_X7_turnOf g l hl (Int32.toInt64 v16) (Int32.toInt64 v17) (Int32.toInt64 v18) (Int32.toInt64 v19) (Int32.toInt64 a2) (Int32.toInt64 a3) M w) rfl cw_X7_turnOf fw1197 pn_X7_turnOf (Nat.le_of_ble_eq_true rfl) (Nat.le_of_ble_eq_true rfl) (Nat.le_of_ble_eq_true rfl) rfl (fun v20 => (?_ : Tt g l z_X7_holds (emI M w) _ 168 [(7, .int v5), (6, .int v3), (5, .int v2), (4, .int v1), (0, .ref P), (1, .int a1), (2, .int a2), (3, .int a3)] [.long v20, .long (Int32.toInt64 v5)] (M, w)))
      refine Tt.go (fun _ => Tr.run 3 (pc' := 171) (lv' := [(7, .int v5), (6, .int v3), (5, .int v2), (4, .int v1), (0, .ref P), (1, .int a1), (2, .int a2), (3, .int a3)]) (st' := [.int (lg_cmp ((Int32.toInt64 v5) * v20) (0 : Int64))]) rfl) ?_
      refine Tt.if_lt (tgt := 178) rfl (by decide) ?_ ?_
      · refine Tt.go (fun _ => Tr.sub (lv' := []) [] rfl) ?_
        exact t_X7_holds_178 g l hl P a1 a2 a3 hP w M
      · refine Tt.go (fun _ => Tr.run 2 (pc' := 179) (lv' := [(7, .int v5), (6, .int v3), (5, .int v2), (4, .int v1), (0, .ref P), (1, .int a1), (2, .int a2), (3, .int a3)]) (st' := [.int (1 : Int32)]) rfl) ?_
        refine Tt.go (fun _ => Tr.sub (lv' := []) [] rfl) ?_
        exact t_X7_holds_179 g l hl P a1 a2 a3 hP w (1 : Int32) M
theorem c_X7_holds (g : fm_G) (l : Launch) (hl : l.stackTraces = false) (P : Nat) (a1 : Int32) (a2 : Int32) (a3 : Int32) (hP : fm_kd g P = 7) (M : fm_Mem) (w : fm_W) : ∀ r, f_X7_holds P a1 a2 a3 M = some r → fC g l z_X7_holds [.ref P, .int a1, .int a2, .int a3] (M, w) (emI M w r) := fun r hr => fC.of (by decide) rfl o_X7_holds hl (Nat.le_of_ble_eq_true rfl) (t_X7_holds g l hl P a1 a2 a3 hP M w r hr)
def k_X7_at : List (Nat × Instr × Nat) := [(0, .aload_n 0, 1), (1, .iconst 0, 1), (2, .putfield 35, 3), (5, .aload_n 0, 1), (6, .iload_n 1, 1), (7, .sipush (-1000), 3), (10, .sipush 1000, 3), (13, .invokestatic 52, 3), (16, .ifCond .eq 20, 3), (19, .iload_n 2, 1), (20, .sipush (-1000), 3), (23, .sipush 1000, 3), (26, .invokestatic 52, 3), (29, .ifCond .eq 7, 3), (32, .iconst 1, 1), (33, .goto 4, 3), (36, .iconst 0, 1), (37, .iconst 1, 1), (38, .invokevirtual 252, 3), (41, .ifCond .ne 5, 3), (44, .iconst 0, 1), (45, .ireturn, 1), (46, .iconst 0, 1), (47, .istore_n 3, 1), (48, .iload_n 3, 1), (49, .aload_n 0, 1), (50, .iconst 1, 1), (51, .invokevirtual 41, 3), (54, .if_icmp .ge 21, 3), (57, .aload_n 0, 1), (58, .iload_n 3, 1), (59, .iload_n 1, 1), (60, .iload_n 2, 1), (61, .invokevirtual 310, 3), (64, .ifCond .eq 5, 3), (67, .iload_n 3, 1), (68, .ireturn, 1), (69, .iinc 3 1, 3), (72, .goto (-24), 3), (75, .iconst (-1), 1), (76, .ireturn, 1)]
def z_X7_at : fm_Y := (yX7_at, RX7, cX7_at, 4, (some .int), k_X7_at, 4, 108)
theorem o_X7_at : fm_dec z_X7_at := (by decide +kernel : ∀ q ∈ k_X7_at, decode cX7_at q.1 = .ok q.2)
theorem cw_X7_at : fm_cwV z_X7_at := ⟨⟨lw_in 1377 (by decide +kernel) (by decide +kernel), lw_in 99 (by decide +kernel) (by decide +kernel), by decide, by decide⟩, lw_in 1375 (by decide +kernel) (by decide +kernel), lw_in 1376 (by decide +kernel) (by decide +kernel)⟩
theorem pn_X7_at : (parseMethodDescriptor z_X7_at.1.desc).map (fun d => d.parameters.length) = some 2 := by decide +kernel
def f_X7_at_48 (P : Nat) (a1 : Int32) (a2 : Int32) : Nat → Int32 → fm_Mem → Option (Int32 × fm_Mem)
  | 0, _, _ => none
  | n + 1, x3, M => Option.bind (f_X7_get P (1 : Int32) M) (fun v1 => if v1 ≤ x3 then (some (((-1 : Int32), M))) else (Option.bind (f_X7_holds P x3 a1 a2 M) (fun v2 => if v2 = 0 then (f_X7_at_48 P a1 a2 n (x3 + (1 : Int32)) M) else (some ((x3, M))))))
set_option maxRecDepth 100000 in
set_option maxHeartbeats 4000000 in
theorem t_X7_at_48 (g : fm_G) (l : Launch) (hl : l.stackTraces = false) (P : Nat) (a1 : Int32) (a2 : Int32) (hP : fm_kd g P = 7) (w : fm_W) (M0 : fm_Mem)  : ∀ (n : Nat) (x3 : Int32)  (M : fm_Mem), Tt g l z_X7_at (emIw M0 w) (f_X7_at_48 P a1 a2  n x3 M) 48 [(0, .ref P), (1, .int a1), (2, .int a2), (3, .int x3)] [] (M, w) := by
  intro n
  induction n with
  | zero => intros; exact Tt.none
  | succ n ih =>
    intro x3  M
    rw [f_X7_at_48]
    refine Tt.go (fun _ => Tr.run 3 (pc' := 51) (lv' := [(0, .ref P), (1, .int a1), (2, .int a2), (3, .int x3)]) (st' := [.int (1 : Int32), .ref P, .int x3]) rfl) ?_
    refine Tt.callV (As := [.int (1 : Int32)]) (rest := [.int x3]) (c_X7_get g l hl P (1 : Int32) hP M w) hP (by decide) rfl rfl cw_X7_get fw1109 pn_X7_get (Nat.le_of_ble_eq_true rfl) (Nat.le_of_ble_eq_true rfl) (Nat.le_of_ble_eq_true rfl) rfl (fun v1 => (?_ : Tt g l z_X7_at (emIw M0 w) _ 54 [(0, .ref P), (1, .int a1), (2, .int a2), (3, .int x3)] [.int v1, .int x3] (M, w)))
    refine Tt.ic_ge (tgt := 75) rfl (by decide) ?_ ?_
    · refine Tt.go (fun _ => Tr.run 1 (pc' := 76) (lv' := [(0, .ref P), (1, .int a1), (2, .int a2), (3, .int x3)]) (st' := [.int (-1 : Int32)]) rfl) ?_
      exact Tt.ret (Tr.iret rfl rfl)
    · refine Tt.go (fun _ => Tr.run 4 (pc' := 61) (lv' := [(0, .ref P), (1, .int a1), (2, .int a2), (3, .int x3)]) (st' := [.int a2, .int a1, .int x3, .ref P]) rfl) ?_
      refine Tt.callV (As := [.int x3, .int a1, .int a2]) (rest := []) (c_X7_holds g l hl P x3 a1 a2 hP M w) hP (by decide) rfl rfl cw_X7_holds fw1378 pn_X7_holds (Nat.le_of_ble_eq_true rfl) (Nat.le_of_ble_eq_true rfl) (Nat.le_of_ble_eq_true rfl) rfl (fun v2 => (?_ : Tt g l z_X7_at (emIw M0 w) _ 64 [(0, .ref P), (1, .int a1), (2, .int a2), (3, .int x3)] [.int v2] (M, w)))
      refine Tt.if_eq (tgt := 69) rfl (by decide) ?_ ?_
      · refine Tt.go (fun _ => Tr.run 2 (pc' := 48) (lv' := [(3, .int (x3 + (1 : Int32))), (0, .ref P), (1, .int a1), (2, .int a2)]) (st' := []) rfl) ?_
        refine Tt.go (fun _ => Tr.sub (lv' := [(0, .ref P), (1, .int a1), (2, .int a2), (3, .int (x3 + (1 : Int32)))]) [1, 2, 3, 0] rfl) ?_
        exact ih (x3 + (1 : Int32)) M
      · refine Tt.go (fun _ => Tr.run 1 (pc' := 68) (lv' := [(0, .ref P), (1, .int a1), (2, .int a2), (3, .int x3)]) (st' := [.int x3]) rfl) ?_
        exact Tt.ret (Tr.iret rfl rfl)
def f_X7_at_37 (P : Nat) (a1 : Int32) (a2 : Int32) (s0 : Int32) (M : fm_Mem) : Option (Int32 × fm_Mem) := Option.bind (f_X7_right P s0 (1 : Int32) M) (fun v1 => if v1.1 = 0 then (some (((0 : Int32), v1.2))) else (f_X7_at_48 P a1 a2 fm_fuel (0 : Int32) v1.2))
set_option maxRecDepth 100000 in
set_option maxHeartbeats 4000000 in
theorem t_X7_at_37 (g : fm_G) (l : Launch) (hl : l.stackTraces = false) (P : Nat) (a1 : Int32) (a2 : Int32) (hP : fm_kd g P = 7) (w : fm_W) (M0 : fm_Mem)  (s0 : Int32)  (M : fm_Mem) : Tt g l z_X7_at (emIw M0 w) (f_X7_at_37 P a1 a2  s0 M) 37 [(0, .ref P), (1, .int a1), (2, .int a2)] [.int s0, .ref P] (M, w) := by
  rw [f_X7_at_37]
  refine Tt.go (fun _ => Tr.run 1 (pc' := 38) (lv' := [(0, .ref P), (1, .int a1), (2, .int a2)]) (st' := [.int (1 : Int32), .int s0, .ref P]) rfl) ?_
  refine Tt.callV (As := [.int s0, .int (1 : Int32)]) (rest := []) (c_X7_right g l hl P s0 (1 : Int32) hP M w) hP (by decide) rfl rfl cw_X7_right fw1105 pn_X7_right (Nat.le_of_ble_eq_true rfl) (Nat.le_of_ble_eq_true rfl) (Nat.le_of_ble_eq_true rfl) rfl (fun v1 => (?_ : Tt g l z_X7_at (emIw M0 w) _ 41 [(0, .ref P), (1, .int a1), (2, .int a2)] [.int v1.1] (v1.2, w)))
  refine Tt.if_ne (tgt := 46) rfl (by decide) ?_ ?_
  · refine Tt.go (fun _ => Tr.run 1 (pc' := 45) (lv' := [(0, .ref P), (1, .int a1), (2, .int a2)]) (st' := [.int (0 : Int32)]) rfl) ?_
    exact Tt.ret (Tr.iret rfl rfl)
  · refine Tt.go (fun _ => Tr.run 2 (pc' := 48) (lv' := [(3, .int (0 : Int32)), (0, .ref P), (1, .int a1), (2, .int a2)]) (st' := []) rfl) ?_
    refine Tt.go (fun _ => Tr.sub (lv' := [(0, .ref P), (1, .int a1), (2, .int a2), (3, .int (0 : Int32))]) [1, 2, 3, 0] rfl) ?_
    exact t_X7_at_48 g l hl P a1 a2 hP w M0 fm_fuel (0 : Int32) v1.2
def f_X7_at_36 (P : Nat) (a1 : Int32) (a2 : Int32)  (M : fm_Mem) : Option (Int32 × fm_Mem) := (f_X7_at_37 P a1 a2 (0 : Int32) M)
set_option maxRecDepth 100000 in
set_option maxHeartbeats 4000000 in
theorem t_X7_at_36 (g : fm_G) (l : Launch) (hl : l.stackTraces = false) (P : Nat) (a1 : Int32) (a2 : Int32) (hP : fm_kd g P = 7) (w : fm_W) (M0 : fm_Mem)    (M : fm_Mem) : Tt g l z_X7_at (emIw M0 w) (f_X7_at_36 P a1 a2   M) 36 [(0, .ref P), (1, .int a1), (2, .int a2)] [.ref P] (M, w) := by
  rw [f_X7_at_36]
  refine Tt.go (fun _ => Tr.run 1 (pc' := 37) (lv' := [(0, .ref P), (1, .int a1), (2, .int a2)]) (st' := [.int (0 : Int32), .ref P]) rfl) ?_
  exact t_X7_at_37 g l hl P a1 a2 hP w M0 (0 : Int32) M
def f_X7_at (P : Nat) (a1 : Int32) (a2 : Int32) (M : fm_Mem) : Option (Int32 × fm_Mem) := Option.bind (f_X7_isIn a1 (-1000 : Int32) (1000 : Int32) (fm_up M P 0 (0 : Int32))) (fun v1 => if v1 = 0 then (f_X7_at_36 P a1 a2 (fm_up M P 0 (0 : Int32))) else (Option.bind (f_X7_isIn a2 (-1000 : Int32) (1000 : Int32) (fm_up M P 0 (0 : Int32))) (fun v2 => if v2 = 0 then (f_X7_at_36 P a1 a2 (fm_up M P 0 (0 : Int32))) else (f_X7_at_37 P a1 a2 (1 : Int32) (fm_up M P 0 (0 : Int32))))))
set_option maxRecDepth 100000 in
set_option maxHeartbeats 4000000 in
theorem t_X7_at (g : fm_G) (l : Launch) (hl : l.stackTraces = false) (P : Nat) (a1 : Int32) (a2 : Int32) (hP : fm_kd g P = 7) (M : fm_Mem) (w : fm_W) : Tt g l z_X7_at (emIw M w) (f_X7_at P a1 a2 M) 0 [(0, .ref P), (1, .int a1), (2, .int a2)] [] (M, w) := by
  rw [f_X7_at]
  refine Tt.go (fun _ => Tr.run 2 (pc' := 2) (lv' := [(0, .ref P), (1, .int a1), (2, .int a2)]) (st' := [.int (0 : Int32), .ref P]) rfl) ?_
  refine Tt.go (fun _ => Tr.put fmc7 hP rfl fw1024 (k := 0) (by decide) rfl rfl ⟨rfl, rfl⟩) (?_ : Tt g l z_X7_at (emIw M w) _ 5 [(0, .ref P), (1, .int a1), (2, .int a2)] [] ((fm_up M P 0 (0 : Int32)), w))
  refine Tt.go (fun _ => Tr.run 4 (pc' := 13) (lv' := [(0, .ref P), (1, .int a1), (2, .int a2)]) (st' := [.int (1000 : Int32), .int (-1000 : Int32), .int a1, .ref P]) rfl) ?_
  refine Tt.callS (As := [.int a1, .int (-1000 : Int32), .int (1000 : Int32)]) (rest := [.ref P]) (c_X7_isIn g l hl a1 (-1000 : Int32) (1000 : Int32) (fm_up M P 0 (0 : Int32)) w) rfl cw_X7_isIn fw1102 pn_X7_isIn (Nat.le_of_ble_eq_true rfl) (Nat.le_of_ble_eq_true rfl) (Nat.le_of_ble_eq_true rfl) rfl (fun v1 => (?_ : Tt g l z_X7_at (emIw M w) _ 16 [(0, .ref P), (1, .int a1), (2, .int a2)] [.int v1, .ref P] ((fm_up M P 0 (0 : Int32)), w)))
  refine Tt.if_eq (tgt := 36) rfl (by decide) ?_ ?_
  · exact t_X7_at_36 g l hl P a1 a2 hP w M (fm_up M P 0 (0 : Int32))
  · refine Tt.go (fun _ => Tr.run 3 (pc' := 26) (lv' := [(0, .ref P), (1, .int a1), (2, .int a2)]) (st' := [.int (1000 : Int32), .int (-1000 : Int32), .int a2, .ref P]) rfl) ?_
    refine Tt.callS (As := [.int a2, .int (-1000 : Int32), .int (1000 : Int32)]) (rest := [.ref P]) (c_X7_isIn g l hl a2 (-1000 : Int32) (1000 : Int32) (fm_up M P 0 (0 : Int32)) w) rfl cw_X7_isIn fw1102 pn_X7_isIn (Nat.le_of_ble_eq_true rfl) (Nat.le_of_ble_eq_true rfl) (Nat.le_of_ble_eq_true rfl) rfl (fun v2 => (?_ : Tt g l z_X7_at (emIw M w) _ 29 [(0, .ref P), (1, .int a1), (2, .int a2)] [.int v2, .ref P] ((fm_up M P 0 (0 : Int32)), w)))
    refine Tt.if_eq (tgt := 36) rfl (by decide) ?_ ?_
    · exact t_X7_at_36 g l hl P a1 a2 hP w M (fm_up M P 0 (0 : Int32))
    · refine Tt.go (fun _ => Tr.run 2 (pc' := 37) (lv' := [(0, .ref P), (1, .int a1), (2, .int a2)]) (st' := [.int (1 : Int32), .ref P]) rfl) ?_
      exact t_X7_at_37 g l hl P a1 a2 hP w M (1 : Int32) (fm_up M P 0 (0 : Int32))
theorem c_X7_at (g : fm_G) (l : Launch) (hl : l.stackTraces = false) (P : Nat) (a1 : Int32) (a2 : Int32) (hP : fm_kd g P = 7) (M : fm_Mem) (w : fm_W) : ∀ r, f_X7_at P a1 a2 M = some r → fC g l z_X7_at [.ref P, .int a1, .int a2] (M, w) (emIw M w r) := fun r hr => fC.of (by decide) rfl o_X7_at hl (Nat.le_of_ble_eq_true rfl) (t_X7_at g l hl P a1 a2 hP M w r hr)
def k_X7_hit : List (Nat × Instr × Nat) := [(0, .aload_n 0, 1), (1, .iconst 0, 1), (2, .putfield 35, 3), (5, .aload_n 0, 1), (6, .iload_n 1, 1), (7, .sipush (-1000), 3), (10, .sipush 1000, 3), (13, .invokestatic 52, 3), (16, .ifCond .eq 20, 3), (19, .iload_n 2, 1), (20, .sipush (-1000), 3), (23, .sipush 1000, 3), (26, .invokestatic 52, 3), (29, .ifCond .eq 7, 3), (32, .iconst 1, 1), (33, .goto 4, 3), (36, .iconst 0, 1), (37, .iconst 1, 1), (38, .invokevirtual 252, 3), (41, .ifCond .ne 5, 3), (44, .iconst 0, 1), (45, .ireturn, 1), (46, .iconst 0, 1), (47, .istore_n 3, 1), (48, .iconst 0, 1), (49, .istore 4, 2), (51, .iload 4, 2), (53, .aload_n 0, 1), (54, .iconst 1, 1), (55, .invokevirtual 107, 3), (58, .if_icmp .ge 59, 3), (61, .iload_n 3, 1), (62, .aload_n 0, 1), (63, .aload_n 0, 1), (64, .getfield 16, 3), (67, .iconst 3, 1), (68, .iload 4, 2), (70, .imul, 1), (71, .iaload, 1), (72, .aload_n 0, 1), (73, .getfield 16, 3), (76, .iconst 3, 1), (77, .iload 4, 2), (79, .imul, 1), (80, .iconst 1, 1), (81, .iadd, 1), (82, .iaload, 1), (83, .aload_n 0, 1), (84, .getfield 16, 3), (87, .iconst 3, 1), (88, .iload 4, 2), (90, .imul, 1), (91, .iconst 2, 1), (92, .iadd, 1), (93, .iaload, 1), (94, .iload_n 1, 1), (95, .i2l, 1), (96, .iload_n 2, 1), (97, .i2l, 1), (98, .invokevirtual 74, 3), (101, .ifCond .le 7, 3), (104, .iconst 1, 1), (105, .goto 4, 3), (108, .iconst 0, 1), (109, .iadd, 1), (110, .istore_n 3, 1), (111, .iinc 4 1, 3), (114, .goto (-63), 3), (117, .iload_n 3, 1), (118, .ireturn, 1)]
def z_X7_hit : fm_Y := (yX7_hit, RX7, cX7_hit, 5, (some .int), k_X7_hit, 8, 215)
theorem o_X7_hit : fm_dec z_X7_hit := (by decide +kernel : ∀ q ∈ k_X7_hit, decode cX7_hit q.1 = .ok q.2)
theorem cw_X7_hit : fm_cwV z_X7_hit := ⟨⟨lw_in 1385 (by decide +kernel) (by decide +kernel), lw_in 99 (by decide +kernel) (by decide +kernel), by decide, by decide⟩, lw_in 1383 (by decide +kernel) (by decide +kernel), lw_in 1384 (by decide +kernel) (by decide +kernel)⟩
theorem pn_X7_hit : (parseMethodDescriptor z_X7_hit.1.desc).map (fun d => d.parameters.length) = some 2 := by decide +kernel
def f_X7_hit_109 (P : Nat) (a1 : Int32) (a2 : Int32) (k51 : Int32 → Int32 → fm_Mem → Option (Int32 × fm_Mem)) (x4 : Int32) (s0 : Int32) (s1 : Int32) (M : fm_Mem) : Option (Int32 × fm_Mem) := (k51 (s1 + s0) (x4 + (1 : Int32)) M)
set_option maxRecDepth 100000 in
set_option maxHeartbeats 4000000 in
theorem t_X7_hit_109 (g : fm_G) (l : Launch) (hl : l.stackTraces = false) (P : Nat) (a1 : Int32) (a2 : Int32) (hP : fm_kd g P = 7) (w : fm_W) (M0 : fm_Mem) (k51 : Int32 → Int32 → fm_Mem → Option (Int32 × fm_Mem)) (hk51 : ∀ (x3 : Int32) (x4 : Int32) (M : fm_Mem), Tt g l z_X7_hit (emIw M0 w) (k51 x3 x4 M) 51 [(0, .ref P), (1, .int a1), (2, .int a2), (3, .int x3), (4, .int x4)] [] (M, w)) (x4 : Int32) (s0 : Int32) (s1 : Int32)  (M : fm_Mem) : Tt g l z_X7_hit (emIw M0 w) (f_X7_hit_109 P a1 a2 k51 x4 s0 s1 M) 109 [(0, .ref P), (1, .int a1), (2, .int a2), (4, .int x4)] [.int s0, .int s1] (M, w) := by
  rw [f_X7_hit_109]
  refine Tt.go (fun _ => Tr.run 4 (pc' := 51) (lv' := [(4, .int (x4 + (1 : Int32))), (3, .int (s1 + s0)), (0, .ref P), (1, .int a1), (2, .int a2)]) (st' := []) rfl) ?_
  refine Tt.go (fun _ => Tr.sub (lv' := [(0, .ref P), (1, .int a1), (2, .int a2), (3, .int (s1 + s0)), (4, .int (x4 + (1 : Int32)))]) [2, 3, 4, 1, 0] rfl) ?_
  exact hk51 (s1 + s0) (x4 + (1 : Int32)) M
def f_X7_hit_51 (P : Nat) (a1 : Int32) (a2 : Int32) : Nat → Int32 → Int32 → fm_Mem → Option (Int32 × fm_Mem)
  | 0, _, _, _ => none
  | n + 1, x3, x4, M => Option.bind (f_X7_many P (1 : Int32) M) (fun v1 => if v1.1 ≤ x4 then (some ((x3, v1.2))) else (fm_ck (fm_in ((3 : Int32) * x4) 120) (fm_ck (fm_in (((3 : Int32) * x4) + (1 : Int32)) 120) (fm_ck (fm_in (((3 : Int32) * x4) + (2 : Int32)) 120) (Option.bind (f_X7_circleOf P (v1.2 (P + 3) (Int32.toNatClampNeg ((3 : Int32) * x4))) (v1.2 (P + 3) (Int32.toNatClampNeg (((3 : Int32) * x4) + (1 : Int32)))) (v1.2 (P + 3) (Int32.toNatClampNeg (((3 : Int32) * x4) + (2 : Int32)))) (Int32.toInt64 a1) (Int32.toInt64 a2) v1.2) (fun v5 => if v5 ≤ 0 then (f_X7_hit_109 P a1 a2 (fun x3 x4 M => f_X7_hit_51 P a1 a2 n x3 x4 M) x4 (0 : Int32) x3 v1.2) else (f_X7_hit_109 P a1 a2 (fun x3 x4 M => f_X7_hit_51 P a1 a2 n x3 x4 M) x4 (1 : Int32) x3 v1.2)))))))
set_option maxRecDepth 100000 in
set_option maxHeartbeats 4000000 in
theorem t_X7_hit_51 (g : fm_G) (l : Launch) (hl : l.stackTraces = false) (P : Nat) (a1 : Int32) (a2 : Int32) (hP : fm_kd g P = 7) (w : fm_W) (M0 : fm_Mem)  : ∀ (n : Nat) (x3 : Int32) (x4 : Int32)  (M : fm_Mem), Tt g l z_X7_hit (emIw M0 w) (f_X7_hit_51 P a1 a2  n x3 x4 M) 51 [(0, .ref P), (1, .int a1), (2, .int a2), (3, .int x3), (4, .int x4)] [] (M, w) := by
  intro n
  induction n with
  | zero => intros; exact Tt.none
  | succ n ih =>
    intro x3 x4  M
    rw [f_X7_hit_51]
    refine Tt.go (fun _ => Tr.run 3 (pc' := 55) (lv' := [(0, .ref P), (1, .int a1), (2, .int a2), (3, .int x3), (4, .int x4)]) (st' := [.int (1 : Int32), .ref P, .int x4]) rfl) ?_
    refine Tt.callV (As := [.int (1 : Int32)]) (rest := [.int x4]) (c_X7_many g l hl P (1 : Int32) hP M w) hP (by decide) rfl rfl cw_X7_many fw1223 pn_X7_many (Nat.le_of_ble_eq_true rfl) (Nat.le_of_ble_eq_true rfl) (Nat.le_of_ble_eq_true rfl) rfl (fun v1 => (?_ : Tt g l z_X7_hit (emIw M0 w) _ 58 [(0, .ref P), (1, .int a1), (2, .int a2), (3, .int x3), (4, .int x4)] [.int v1.1, .int x4] (v1.2, w)))
    refine Tt.ic_ge (tgt := 117) rfl (by decide) ?_ ?_
    · refine Tt.go (fun _ => Tr.run 1 (pc' := 118) (lv' := [(0, .ref P), (1, .int a1), (2, .int a2), (3, .int x3), (4, .int x4)]) (st' := [.int x3]) rfl) ?_
      exact Tt.ret (Tr.iret rfl rfl)
    · refine Tt.go (fun _ => Tr.run 3 (pc' := 64) (lv' := [(0, .ref P), (1, .int a1), (2, .int a2), (3, .int x3), (4, .int x4)]) (st' := [.ref P, .ref P, .int x3]) rfl) ?_
      refine Tt.go (fun _ => Tr.get fmc7 hP rfl fw1029 (k := 5) (by decide) rfl) (?_ : Tt g l z_X7_hit (emIw M0 w) _ 67 [(0, .ref P), (1, .int a1), (2, .int a2), (3, .int x3), (4, .int x4)] [.ref (P + 3), .ref P, .int x3] (v1.2, w))
      refine Tt.go (fun _ => Tr.run 3 (pc' := 71) (lv' := [(0, .ref P), (1, .int a1), (2, .int a2), (3, .int x3), (4, .int x4)]) (st' := [.int ((3 : Int32) * x4), .ref (P + 3), .ref P, .int x3]) rfl) ?_
      refine Tt.ck (fun hi_2 => ?_)
      refine Tt.go (fun _ => Tr.iald (fmk_7_5 hP) (by decide) hi_2 rfl) (?_ : Tt g l z_X7_hit (emIw M0 w) _ 72 [(0, .ref P), (1, .int a1), (2, .int a2), (3, .int x3), (4, .int x4)] [.int (v1.2 (P + 3) (Int32.toNatClampNeg ((3 : Int32) * x4))), .ref P, .int x3] (v1.2, w))
      refine Tt.go (fun _ => Tr.run 1 (pc' := 73) (lv' := [(0, .ref P), (1, .int a1), (2, .int a2), (3, .int x3), (4, .int x4)]) (st' := [.ref P, .int (v1.2 (P + 3) (Int32.toNatClampNeg ((3 : Int32) * x4))), .ref P, .int x3]) rfl) ?_
      refine Tt.go (fun _ => Tr.get fmc7 hP rfl fw1029 (k := 5) (by decide) rfl) (?_ : Tt g l z_X7_hit (emIw M0 w) _ 76 [(0, .ref P), (1, .int a1), (2, .int a2), (3, .int x3), (4, .int x4)] [.ref (P + 3), .int (v1.2 (P + 3) (Int32.toNatClampNeg ((3 : Int32) * x4))), .ref P, .int x3] (v1.2, w))
      refine Tt.go (fun _ => Tr.run 5 (pc' := 82) (lv' := [(0, .ref P), (1, .int a1), (2, .int a2), (3, .int x3), (4, .int x4)]) (st' := [.int (((3 : Int32) * x4) + (1 : Int32)), .ref (P + 3), .int (v1.2 (P + 3) (Int32.toNatClampNeg ((3 : Int32) * x4))), .ref P, .int x3]) rfl) ?_
      refine Tt.ck (fun hi_3 => ?_)
      refine Tt.go (fun _ => Tr.iald (fmk_7_5 hP) (by decide) hi_3 rfl) (?_ : Tt g l z_X7_hit (emIw M0 w) _ 83 [(0, .ref P), (1, .int a1), (2, .int a2), (3, .int x3), (4, .int x4)] [.int (v1.2 (P + 3) (Int32.toNatClampNeg (((3 : Int32) * x4) + (1 : Int32)))), .int (v1.2 (P + 3) (Int32.toNatClampNeg ((3 : Int32) * x4))), .ref P, .int x3] (v1.2, w))
      refine Tt.go (fun _ => Tr.run 1 (pc' := 84) (lv' := [(0, .ref P), (1, .int a1), (2, .int a2), (3, .int x3), (4, .int x4)]) (st' := [.ref P, .int (v1.2 (P + 3) (Int32.toNatClampNeg (((3 : Int32) * x4) + (1 : Int32)))), .int (v1.2 (P + 3) (Int32.toNatClampNeg ((3 : Int32) * x4))), .ref P, .int x3]) rfl) ?_
      refine Tt.go (fun _ => Tr.get fmc7 hP rfl fw1029 (k := 5) (by decide) rfl) (?_ : Tt g l z_X7_hit (emIw M0 w) _ 87 [(0, .ref P), (1, .int a1), (2, .int a2), (3, .int x3), (4, .int x4)] [.ref (P + 3), .int (v1.2 (P + 3) (Int32.toNatClampNeg (((3 : Int32) * x4) + (1 : Int32)))), .int (v1.2 (P + 3) (Int32.toNatClampNeg ((3 : Int32) * x4))), .ref P, .int x3] (v1.2, w))
      refine Tt.go (fun _ => Tr.run 5 (pc' := 93) (lv' := [(0, .ref P), (1, .int a1), (2, .int a2), (3, .int x3), (4, .int x4)]) (st' := [.int (((3 : Int32) * x4) + (2 : Int32)), .ref (P + 3), .int (v1.2 (P + 3) (Int32.toNatClampNeg (((3 : Int32) * x4) + (1 : Int32)))), .int (v1.2 (P + 3) (Int32.toNatClampNeg ((3 : Int32) * x4))), .ref P, .int x3]) rfl) ?_
      refine Tt.ck (fun hi_4 => ?_)
      refine Tt.go (fun _ => Tr.iald (fmk_7_5 hP) (by decide) hi_4 rfl) (?_ : Tt g l z_X7_hit (emIw M0 w) _ 94 [(0, .ref P), (1, .int a1), (2, .int a2), (3, .int x3), (4, .int x4)] [.int (v1.2 (P + 3) (Int32.toNatClampNeg (((3 : Int32) * x4) + (2 : Int32)))), .int (v1.2 (P + 3) (Int32.toNatClampNeg (((3 : Int32) * x4) + (1 : Int32)))), .int (v1.2 (P + 3) (Int32.toNatClampNeg ((3 : Int32) * x4))), .ref P, .int x3] (v1.2, w))
      refine Tt.go (fun _ => Tr.run 4 (pc' := 98) (lv' := [(0, .ref P), (1, .int a1), (2, .int a2), (3, .int x3), (4, .int x4)]) (st' := [.long (Int32.toInt64 a2), .long (Int32.toInt64 a1), .int (v1.2 (P + 3) (Int32.toNatClampNeg (((3 : Int32) * x4) + (2 : Int32)))), .int (v1.2 (P + 3) (Int32.toNatClampNeg (((3 : Int32) * x4) + (1 : Int32)))), .int (v1.2 (P + 3) (Int32.toNatClampNeg ((3 : Int32) * x4))), .ref P, .int x3]) rfl) ?_
      refine Tt.callV (As := [.int (v1.2 (P + 3) (Int32.toNatClampNeg ((3 : Int32) * x4))), .int (v1.2 (P + 3) (Int32.toNatClampNeg (((3 : Int32) * x4) + (1 : Int32)))), .int (v1.2 (P + 3) (Int32.toNatClampNeg (((3 : Int32) * x4) + (2 : Int32)))), .long (Int32.toInt64 a1), .long (Int32.toInt64 a2)]) (rest := [.int x3]) (c_X7_circleOf g l hl P (v1.2 (P + 3) (Int32.toNatClampNeg ((3 : Int32) * x4))) (v1.2 (P + 3) (Int32.toNatClampNeg (((3 : Int32) * x4) + (1 : Int32)))) (v1.2 (P + 3) (Int32.toNatClampNeg (((3 : Int32) * x4) + (2 : Int32)))) (Int32.toInt64 a1) (Int32.toInt64 a2) hP v1.2 w) hP (by decide) rfl rfl cw_X7_circleOf fw1204 pn_X7_circleOf (Nat.le_of_ble_eq_true rfl) (Nat.le_of_ble_eq_true rfl) (Nat.le_of_ble_eq_true rfl) rfl (fun v5 => (?_ : Tt g l z_X7_hit (emIw M0 w) _ 101 [(0, .ref P), (1, .int a1), (2, .int a2), (3, .int x3), (4, .int x4)] [.int v5, .int x3] (v1.2, w)))
      refine Tt.if_le (tgt := 108) rfl (by decide) ?_ ?_
      · refine Tt.go (fun _ => Tr.run 1 (pc' := 109) (lv' := [(0, .ref P), (1, .int a1), (2, .int a2), (3, .int x3), (4, .int x4)]) (st' := [.int (0 : Int32), .int x3]) rfl) ?_
        refine Tt.go (fun _ => Tr.sub (lv' := [(0, .ref P), (1, .int a1), (2, .int a2), (4, .int x4)]) [0, 1, 2, 4] rfl) ?_
        exact t_X7_hit_109 g l hl P a1 a2 hP w M0 _ ih x4 (0 : Int32) x3 v1.2
      · refine Tt.go (fun _ => Tr.run 2 (pc' := 109) (lv' := [(0, .ref P), (1, .int a1), (2, .int a2), (3, .int x3), (4, .int x4)]) (st' := [.int (1 : Int32), .int x3]) rfl) ?_
        refine Tt.go (fun _ => Tr.sub (lv' := [(0, .ref P), (1, .int a1), (2, .int a2), (4, .int x4)]) [0, 1, 2, 4] rfl) ?_
        exact t_X7_hit_109 g l hl P a1 a2 hP w M0 _ ih x4 (1 : Int32) x3 v1.2
def f_X7_hit_37 (P : Nat) (a1 : Int32) (a2 : Int32) (s0 : Int32) (M : fm_Mem) : Option (Int32 × fm_Mem) := Option.bind (f_X7_right P s0 (1 : Int32) M) (fun v1 => if v1.1 = 0 then (some (((0 : Int32), v1.2))) else (f_X7_hit_51 P a1 a2 fm_fuel (0 : Int32) (0 : Int32) v1.2))
set_option maxRecDepth 100000 in
set_option maxHeartbeats 4000000 in
theorem t_X7_hit_37 (g : fm_G) (l : Launch) (hl : l.stackTraces = false) (P : Nat) (a1 : Int32) (a2 : Int32) (hP : fm_kd g P = 7) (w : fm_W) (M0 : fm_Mem)  (s0 : Int32)  (M : fm_Mem) : Tt g l z_X7_hit (emIw M0 w) (f_X7_hit_37 P a1 a2  s0 M) 37 [(0, .ref P), (1, .int a1), (2, .int a2)] [.int s0, .ref P] (M, w) := by
  rw [f_X7_hit_37]
  refine Tt.go (fun _ => Tr.run 1 (pc' := 38) (lv' := [(0, .ref P), (1, .int a1), (2, .int a2)]) (st' := [.int (1 : Int32), .int s0, .ref P]) rfl) ?_
  refine Tt.callV (As := [.int s0, .int (1 : Int32)]) (rest := []) (c_X7_right g l hl P s0 (1 : Int32) hP M w) hP (by decide) rfl rfl cw_X7_right fw1105 pn_X7_right (Nat.le_of_ble_eq_true rfl) (Nat.le_of_ble_eq_true rfl) (Nat.le_of_ble_eq_true rfl) rfl (fun v1 => (?_ : Tt g l z_X7_hit (emIw M0 w) _ 41 [(0, .ref P), (1, .int a1), (2, .int a2)] [.int v1.1] (v1.2, w)))
  refine Tt.if_ne (tgt := 46) rfl (by decide) ?_ ?_
  · refine Tt.go (fun _ => Tr.run 1 (pc' := 45) (lv' := [(0, .ref P), (1, .int a1), (2, .int a2)]) (st' := [.int (0 : Int32)]) rfl) ?_
    exact Tt.ret (Tr.iret rfl rfl)
  · refine Tt.go (fun _ => Tr.run 4 (pc' := 51) (lv' := [(4, .int (0 : Int32)), (3, .int (0 : Int32)), (0, .ref P), (1, .int a1), (2, .int a2)]) (st' := []) rfl) ?_
    refine Tt.go (fun _ => Tr.sub (lv' := [(0, .ref P), (1, .int a1), (2, .int a2), (3, .int (0 : Int32)), (4, .int (0 : Int32))]) [2, 3, 4, 1, 0] rfl) ?_
    exact t_X7_hit_51 g l hl P a1 a2 hP w M0 fm_fuel (0 : Int32) (0 : Int32) v1.2
def f_X7_hit_36 (P : Nat) (a1 : Int32) (a2 : Int32)  (M : fm_Mem) : Option (Int32 × fm_Mem) := (f_X7_hit_37 P a1 a2 (0 : Int32) M)
set_option maxRecDepth 100000 in
set_option maxHeartbeats 4000000 in
theorem t_X7_hit_36 (g : fm_G) (l : Launch) (hl : l.stackTraces = false) (P : Nat) (a1 : Int32) (a2 : Int32) (hP : fm_kd g P = 7) (w : fm_W) (M0 : fm_Mem)    (M : fm_Mem) : Tt g l z_X7_hit (emIw M0 w) (f_X7_hit_36 P a1 a2   M) 36 [(0, .ref P), (1, .int a1), (2, .int a2)] [.ref P] (M, w) := by
  rw [f_X7_hit_36]
  refine Tt.go (fun _ => Tr.run 1 (pc' := 37) (lv' := [(0, .ref P), (1, .int a1), (2, .int a2)]) (st' := [.int (0 : Int32), .ref P]) rfl) ?_
  exact t_X7_hit_37 g l hl P a1 a2 hP w M0 (0 : Int32) M
def f_X7_hit (P : Nat) (a1 : Int32) (a2 : Int32) (M : fm_Mem) : Option (Int32 × fm_Mem) := Option.bind (f_X7_isIn a1 (-1000 : Int32) (1000 : Int32) (fm_up M P 0 (0 : Int32))) (fun v1 => if v1 = 0 then (f_X7_hit_36 P a1 a2 (fm_up M P 0 (0 : Int32))) else (Option.bind (f_X7_isIn a2 (-1000 : Int32) (1000 : Int32) (fm_up M P 0 (0 : Int32))) (fun v2 => if v2 = 0 then (f_X7_hit_36 P a1 a2 (fm_up M P 0 (0 : Int32))) else (f_X7_hit_37 P a1 a2 (1 : Int32) (fm_up M P 0 (0 : Int32))))))
set_option maxRecDepth 100000 in
set_option maxHeartbeats 4000000 in
theorem t_X7_hit (g : fm_G) (l : Launch) (hl : l.stackTraces = false) (P : Nat) (a1 : Int32) (a2 : Int32) (hP : fm_kd g P = 7) (M : fm_Mem) (w : fm_W) : Tt g l z_X7_hit (emIw M w) (f_X7_hit P a1 a2 M) 0 [(0, .ref P), (1, .int a1), (2, .int a2)] [] (M, w) := by
  rw [f_X7_hit]
  refine Tt.go (fun _ => Tr.run 2 (pc' := 2) (lv' := [(0, .ref P), (1, .int a1), (2, .int a2)]) (st' := [.int (0 : Int32), .ref P]) rfl) ?_
  refine Tt.go (fun _ => Tr.put fmc7 hP rfl fw1024 (k := 0) (by decide) rfl rfl ⟨rfl, rfl⟩) (?_ : Tt g l z_X7_hit (emIw M w) _ 5 [(0, .ref P), (1, .int a1), (2, .int a2)] [] ((fm_up M P 0 (0 : Int32)), w))
  refine Tt.go (fun _ => Tr.run 4 (pc' := 13) (lv' := [(0, .ref P), (1, .int a1), (2, .int a2)]) (st' := [.int (1000 : Int32), .int (-1000 : Int32), .int a1, .ref P]) rfl) ?_
  refine Tt.callS (As := [.int a1, .int (-1000 : Int32), .int (1000 : Int32)]) (rest := [.ref P]) (c_X7_isIn g l hl a1 (-1000 : Int32) (1000 : Int32) (fm_up M P 0 (0 : Int32)) w) rfl cw_X7_isIn fw1102 pn_X7_isIn (Nat.le_of_ble_eq_true rfl) (Nat.le_of_ble_eq_true rfl) (Nat.le_of_ble_eq_true rfl) rfl (fun v1 => (?_ : Tt g l z_X7_hit (emIw M w) _ 16 [(0, .ref P), (1, .int a1), (2, .int a2)] [.int v1, .ref P] ((fm_up M P 0 (0 : Int32)), w)))
  refine Tt.if_eq (tgt := 36) rfl (by decide) ?_ ?_
  · exact t_X7_hit_36 g l hl P a1 a2 hP w M (fm_up M P 0 (0 : Int32))
  · refine Tt.go (fun _ => Tr.run 3 (pc' := 26) (lv' := [(0, .ref P), (1, .int a1), (2, .int a2)]) (st' := [.int (1000 : Int32), .int (-1000 : Int32), .int a2, .ref P]) rfl) ?_
    refine Tt.callS (As := [.int a2, .int (-1000 : Int32), .int (1000 : Int32)]) (rest := [.ref P]) (c_X7_isIn g l hl a2 (-1000 : Int32) (1000 : Int32) (fm_up M P 0 (0 : Int32)) w) rfl cw_X7_isIn fw1102 pn_X7_isIn (Nat.le_of_ble_eq_true rfl) (Nat.le_of_ble_eq_true rfl) (Nat.le_of_ble_eq_true rfl) rfl (fun v2 => (?_ : Tt g l z_X7_hit (emIw M w) _ 29 [(0, .ref P), (1, .int a1), (2, .int a2)] [.int v2, .ref P] ((fm_up M P 0 (0 : Int32)), w)))
    refine Tt.if_eq (tgt := 36) rfl (by decide) ?_ ?_
    · exact t_X7_hit_36 g l hl P a1 a2 hP w M (fm_up M P 0 (0 : Int32))
    · refine Tt.go (fun _ => Tr.run 2 (pc' := 37) (lv' := [(0, .ref P), (1, .int a1), (2, .int a2)]) (st' := [.int (1 : Int32), .ref P]) rfl) ?_
      exact t_X7_hit_37 g l hl P a1 a2 hP w M (1 : Int32) (fm_up M P 0 (0 : Int32))
theorem c_X7_hit (g : fm_G) (l : Launch) (hl : l.stackTraces = false) (P : Nat) (a1 : Int32) (a2 : Int32) (hP : fm_kd g P = 7) (M : fm_Mem) (w : fm_W) : ∀ r, f_X7_hit P a1 a2 M = some r → fC g l z_X7_hit [.ref P, .int a1, .int a2] (M, w) (emIw M w r) := fun r hr => fC.of (by decide) rfl o_X7_hit hl (Nat.le_of_ble_eq_true rfl) (t_X7_hit g l hl P a1 a2 hP M w r hr)
def k_X7_corner : List (Nat × Instr × Nat) := [(0, .aload_n 0, 1), (1, .iconst 0, 1), (2, .putfield 35, 3), (5, .aload_n 0, 1), (6, .iconst 1, 1), (7, .aload_n 0, 1), (8, .invokevirtual 48, 3), (11, .ishl, 1), (12, .iconst 1, 1), (13, .isub, 1), (14, .invokevirtual 167, 3), (17, .istore_n 2, 1), (18, .aload_n 0, 1), (19, .iload_n 1, 1), (20, .iconst 0, 1), (21, .iload_n 2, 1), (22, .invokestatic 262, 3), (25, .iconst 1, 1), (26, .isub, 1), (27, .invokestatic 52, 3), (30, .iconst 1, 1), (31, .invokevirtual 252, 3), (34, .ifCond .ne 5, 3), (37, .iconst 0, 1), (38, .ireturn, 1), (39, .iconst 0, 1), (40, .istore_n 3, 1), (41, .iload_n 2, 1), (42, .iload_n 3, 1), (43, .invokestatic 154, 3), (46, .ifCond .ne 9, 3), (49, .iinc 3 1, 3), (52, .goto (-11), 3), (55, .iconst 0, 1), (56, .istore 4, 2), (58, .iload 4, 2), (60, .iload_n 1, 1), (61, .if_icmp .ge 16, 3), (64, .aload_n 0, 1), (65, .iload_n 2, 1), (66, .iload_n 3, 1), (67, .invokevirtual 313, 3), (70, .istore_n 3, 1), (71, .iinc 4 1, 3), (74, .goto (-16), 3), (77, .iload_n 3, 1), (78, .ireturn, 1)]
def z_X7_corner : fm_Y := (yX7_corner, RX7, cX7_corner, 5, (some .int), k_X7_corner, 6, 146)
theorem o_X7_corner : fm_dec z_X7_corner := (by decide +kernel : ∀ q ∈ k_X7_corner, decode cX7_corner q.1 = .ok q.2)
theorem cw_X7_corner : fm_cwV z_X7_corner := ⟨⟨lw_in 1389 (by decide +kernel) (by decide +kernel), lw_in 99 (by decide +kernel) (by decide +kernel), by decide, by decide⟩, lw_in 1387 (by decide +kernel) (by decide +kernel), lw_in 1388 (by decide +kernel) (by decide +kernel)⟩
theorem pn_X7_corner : (parseMethodDescriptor z_X7_corner.1.desc).map (fun d => d.parameters.length) = some 1 := by decide +kernel
def f_X7_corner_58 (P : Nat) (a1 : Int32) : Nat → Int32 → Int32 → Int32 → fm_Mem → Option (Int32 × fm_Mem)
  | 0, _, _, _, _ => none
  | n + 1, x2, x3, x4, M => if a1 ≤ x4 then (some ((x3, M))) else (Option.bind (f_X7_behind P x2 x3 M) (fun v1 => (f_X7_corner_58 P a1 n x2 v1 (x4 + (1 : Int32)) M)))
set_option maxRecDepth 100000 in
set_option maxHeartbeats 4000000 in
theorem t_X7_corner_58 (g : fm_G) (l : Launch) (hl : l.stackTraces = false) (P : Nat) (a1 : Int32) (hP : fm_kd g P = 7) (w : fm_W) (M0 : fm_Mem)  : ∀ (n : Nat) (x2 : Int32) (x3 : Int32) (x4 : Int32)  (M : fm_Mem), Tt g l z_X7_corner (emIw M0 w) (f_X7_corner_58 P a1  n x2 x3 x4 M) 58 [(0, .ref P), (1, .int a1), (2, .int x2), (3, .int x3), (4, .int x4)] [] (M, w) := by
  intro n
  induction n with
  | zero => intros; exact Tt.none
  | succ n ih =>
    intro x2 x3 x4  M
    rw [f_X7_corner_58]
    refine Tt.go (fun _ => Tr.run 2 (pc' := 61) (lv' := [(0, .ref P), (1, .int a1), (2, .int x2), (3, .int x3), (4, .int x4)]) (st' := [.int a1, .int x4]) rfl) ?_
    refine Tt.ic_ge (tgt := 77) rfl (by decide) ?_ ?_
    · refine Tt.go (fun _ => Tr.run 1 (pc' := 78) (lv' := [(0, .ref P), (1, .int a1), (2, .int x2), (3, .int x3), (4, .int x4)]) (st' := [.int x3]) rfl) ?_
      exact Tt.ret (Tr.iret rfl rfl)
    · refine Tt.go (fun _ => Tr.run 3 (pc' := 67) (lv' := [(0, .ref P), (1, .int a1), (2, .int x2), (3, .int x3), (4, .int x4)]) (st' := [.int x3, .int x2, .ref P]) rfl) ?_
      refine Tt.callV (As := [.int x2, .int x3]) (rest := []) (c_X7_behind g l hl P x2 x3 hP M w) hP (by decide) rfl rfl cw_X7_behind fw1390 pn_X7_behind (Nat.le_of_ble_eq_true rfl) (Nat.le_of_ble_eq_true rfl) (Nat.le_of_ble_eq_true rfl) rfl (fun v1 => (?_ : Tt g l z_X7_corner (emIw M0 w) _ 70 [(0, .ref P), (1, .int a1), (2, .int x2), (3, .int x3), (4, .int x4)] [.int v1] (M, w)))
      refine Tt.go (fun _ => Tr.run 3 (pc' := 58) (lv' := [(4, .int (x4 + (1 : Int32))), (3, .int v1), (0, .ref P), (1, .int a1), (2, .int x2)]) (st' := []) rfl) ?_
      refine Tt.go (fun _ => Tr.sub (lv' := [(0, .ref P), (1, .int a1), (2, .int x2), (3, .int v1), (4, .int (x4 + (1 : Int32)))]) [2, 3, 4, 1, 0] rfl) ?_
      exact ih x2 v1 (x4 + (1 : Int32)) M
def f_X7_corner_41 (P : Nat) (a1 : Int32) : Nat → Int32 → Int32 → fm_Mem → Option (Int32 × fm_Mem)
  | 0, _, _, _ => none
  | n + 1, x2, x3, M => Option.bind (f_X7_isOf x2 x3 M) (fun v1 => if v1 = 0 then (f_X7_corner_41 P a1 n x2 (x3 + (1 : Int32)) M) else (f_X7_corner_58 P a1 fm_fuel x2 x3 (0 : Int32) M))
set_option maxRecDepth 100000 in
set_option maxHeartbeats 4000000 in
theorem t_X7_corner_41 (g : fm_G) (l : Launch) (hl : l.stackTraces = false) (P : Nat) (a1 : Int32) (hP : fm_kd g P = 7) (w : fm_W) (M0 : fm_Mem)  : ∀ (n : Nat) (x2 : Int32) (x3 : Int32)  (M : fm_Mem), Tt g l z_X7_corner (emIw M0 w) (f_X7_corner_41 P a1  n x2 x3 M) 41 [(0, .ref P), (1, .int a1), (2, .int x2), (3, .int x3)] [] (M, w) := by
  intro n
  induction n with
  | zero => intros; exact Tt.none
  | succ n ih =>
    intro x2 x3  M
    rw [f_X7_corner_41]
    refine Tt.go (fun _ => Tr.run 2 (pc' := 43) (lv' := [(0, .ref P), (1, .int a1), (2, .int x2), (3, .int x3)]) (st' := [.int x3, .int x2]) rfl) ?_
    refine Tt.callS (As := [.int x2, .int x3]) (rest := []) (c_X7_isOf g l hl x2 x3 M w) rfl cw_X7_isOf fw1289 pn_X7_isOf (Nat.le_of_ble_eq_true rfl) (Nat.le_of_ble_eq_true rfl) (Nat.le_of_ble_eq_true rfl) rfl (fun v1 => (?_ : Tt g l z_X7_corner (emIw M0 w) _ 46 [(0, .ref P), (1, .int a1), (2, .int x2), (3, .int x3)] [.int v1] (M, w)))
    refine Tt.if_ne (tgt := 55) rfl (by decide) ?_ ?_
    · refine Tt.go (fun _ => Tr.run 2 (pc' := 41) (lv' := [(3, .int (x3 + (1 : Int32))), (0, .ref P), (1, .int a1), (2, .int x2)]) (st' := []) rfl) ?_
      refine Tt.go (fun _ => Tr.sub (lv' := [(0, .ref P), (1, .int a1), (2, .int x2), (3, .int (x3 + (1 : Int32)))]) [1, 2, 3, 0] rfl) ?_
      exact ih x2 (x3 + (1 : Int32)) M
    · refine Tt.go (fun _ => Tr.run 2 (pc' := 58) (lv' := [(4, .int (0 : Int32)), (0, .ref P), (1, .int a1), (2, .int x2), (3, .int x3)]) (st' := []) rfl) ?_
      refine Tt.go (fun _ => Tr.sub (lv' := [(0, .ref P), (1, .int a1), (2, .int x2), (3, .int x3), (4, .int (0 : Int32))]) [1, 2, 3, 4, 0] rfl) ?_
      exact t_X7_corner_58 g l hl P a1 hP w M0 fm_fuel x2 x3 (0 : Int32) M
def f_X7_corner (P : Nat) (a1 : Int32) (M : fm_Mem) : Option (Int32 × fm_Mem) := Option.bind (f_X7_points P (fm_up M P 0 (0 : Int32))) (fun v1 => Option.bind (f_X7_cornersOf P (((1 : Int32) <<< (v1 &&& 31)) - (1 : Int32)) (fm_up M P 0 (0 : Int32))) (fun v2 => Option.bind (f_X7_bits v2 (fm_up M P 0 (0 : Int32))) (fun v3 => Option.bind (f_X7_isIn a1 (0 : Int32) (v3 - (1 : Int32)) (fm_up M P 0 (0 : Int32))) (fun v4 => Option.bind (f_X7_right P v4 (1 : Int32) (fm_up M P 0 (0 : Int32))) (fun v5 => if v5.1 = 0 then (some (((0 : Int32), v5.2))) else (f_X7_corner_41 P a1 fm_fuel v2 (0 : Int32) v5.2))))))
set_option maxRecDepth 100000 in
set_option maxHeartbeats 4000000 in
theorem t_X7_corner (g : fm_G) (l : Launch) (hl : l.stackTraces = false) (P : Nat) (a1 : Int32) (hP : fm_kd g P = 7) (M : fm_Mem) (w : fm_W) : Tt g l z_X7_corner (emIw M w) (f_X7_corner P a1 M) 0 [(0, .ref P), (1, .int a1)] [] (M, w) := by
  rw [f_X7_corner]
  refine Tt.go (fun _ => Tr.run 2 (pc' := 2) (lv' := [(0, .ref P), (1, .int a1)]) (st' := [.int (0 : Int32), .ref P]) rfl) ?_
  refine Tt.go (fun _ => Tr.put fmc7 hP rfl fw1024 (k := 0) (by decide) rfl rfl ⟨rfl, rfl⟩) (?_ : Tt g l z_X7_corner (emIw M w) _ 5 [(0, .ref P), (1, .int a1)] [] ((fm_up M P 0 (0 : Int32)), w))
  refine Tt.go (fun _ => Tr.run 3 (pc' := 8) (lv' := [(0, .ref P), (1, .int a1)]) (st' := [.ref P, .int (1 : Int32), .ref P]) rfl) ?_
  refine Tt.callV (As := []) (rest := [.int (1 : Int32), .ref P]) (c_X7_points g l hl P hP (fm_up M P 0 (0 : Int32)) w) hP (by decide) rfl rfl cw_X7_points fw1156 pn_X7_points (Nat.le_of_ble_eq_true rfl) (Nat.le_of_ble_eq_true rfl) (Nat.le_of_ble_eq_true rfl) rfl (fun v1 => (?_ : Tt g l z_X7_corner (emIw M w) _ 11 [(0, .ref P), (1, .int a1)] [.int v1, .int (1 : Int32), .ref P] ((fm_up M P 0 (0 : Int32)), w)))
  refine Tt.go (fun _ => Tr.run 3 (pc' := 14) (lv' := [(0, .ref P), (1, .int a1)]) (st' := [.int (((1 : Int32) <<< (v1 &&& 31)) - (1 : Int32)), .ref P]) rfl) ?_
  refine Tt.callV (As := [.int (((1 : Int32) <<< (v1 &&& 31)) - (1 : Int32))]) (rest := []) (c_X7_cornersOf g l hl P (((1 : Int32) <<< (v1 &&& 31)) - (1 : Int32)) hP (fm_up M P 0 (0 : Int32)) w) hP (by decide) rfl rfl cw_X7_cornersOf fw1285 pn_X7_cornersOf (Nat.le_of_ble_eq_true rfl) (Nat.le_of_ble_eq_true rfl) (Nat.le_of_ble_eq_true rfl) rfl (fun v2 => (?_ : Tt g l z_X7_corner (emIw M w) _ 17 [(0, .ref P), (1, .int a1)] [.int v2] ((fm_up M P 0 (0 : Int32)), w)))
  refine Tt.go (fun _ => Tr.run 5 (pc' := 22) (lv' := [(2, .int v2), (0, .ref P), (1, .int a1)]) (st' := [.int v2, .int (0 : Int32), .int a1, .ref P]) rfl) ?_
  refine Tt.callS (As := [.int v2]) (rest := [.int (0 : Int32), .int a1, .ref P]) (c_X7_bits g l hl v2 (fm_up M P 0 (0 : Int32)) w) rfl cw_X7_bits fw1304 pn_X7_bits (Nat.le_of_ble_eq_true rfl) (Nat.le_of_ble_eq_true rfl) (Nat.le_of_ble_eq_true rfl) rfl (fun v3 => (?_ : Tt g l z_X7_corner (emIw M w) _ 25 [(2, .int v2), (0, .ref P), (1, .int a1)] [.int v3, .int (0 : Int32), .int a1, .ref P] ((fm_up M P 0 (0 : Int32)), w)))
  refine Tt.go (fun _ => Tr.run 2 (pc' := 27) (lv' := [(2, .int v2), (0, .ref P), (1, .int a1)]) (st' := [.int (v3 - (1 : Int32)), .int (0 : Int32), .int a1, .ref P]) rfl) ?_
  refine Tt.callS (As := [.int a1, .int (0 : Int32), .int (v3 - (1 : Int32))]) (rest := [.ref P]) (c_X7_isIn g l hl a1 (0 : Int32) (v3 - (1 : Int32)) (fm_up M P 0 (0 : Int32)) w) rfl cw_X7_isIn fw1102 pn_X7_isIn (Nat.le_of_ble_eq_true rfl) (Nat.le_of_ble_eq_true rfl) (Nat.le_of_ble_eq_true rfl) rfl (fun v4 => (?_ : Tt g l z_X7_corner (emIw M w) _ 30 [(2, .int v2), (0, .ref P), (1, .int a1)] [.int v4, .ref P] ((fm_up M P 0 (0 : Int32)), w)))
  refine Tt.go (fun _ => Tr.run 1 (pc' := 31) (lv' := [(2, .int v2), (0, .ref P), (1, .int a1)]) (st' := [.int (1 : Int32), .int v4, .ref P]) rfl) ?_
  refine Tt.callV (As := [.int v4, .int (1 : Int32)]) (rest := []) (c_X7_right g l hl P v4 (1 : Int32) hP (fm_up M P 0 (0 : Int32)) w) hP (by decide) rfl rfl cw_X7_right fw1105 pn_X7_right (Nat.le_of_ble_eq_true rfl) (Nat.le_of_ble_eq_true rfl) (Nat.le_of_ble_eq_true rfl) rfl (fun v5 => (?_ : Tt g l z_X7_corner (emIw M w) _ 34 [(2, .int v2), (0, .ref P), (1, .int a1)] [.int v5.1] (v5.2, w)))
  refine Tt.if_ne (tgt := 39) rfl (by decide) ?_ ?_
  · refine Tt.go (fun _ => Tr.run 1 (pc' := 38) (lv' := [(2, .int v2), (0, .ref P), (1, .int a1)]) (st' := [.int (0 : Int32)]) rfl) ?_
    exact Tt.ret (Tr.iret rfl rfl)
  · refine Tt.go (fun _ => Tr.run 2 (pc' := 41) (lv' := [(3, .int (0 : Int32)), (2, .int v2), (0, .ref P), (1, .int a1)]) (st' := []) rfl) ?_
    refine Tt.go (fun _ => Tr.sub (lv' := [(0, .ref P), (1, .int a1), (2, .int v2), (3, .int (0 : Int32))]) [2, 3, 1, 0] rfl) ?_
    exact t_X7_corner_41 g l hl P a1 hP w M fm_fuel v2 (0 : Int32) v5.2
theorem c_X7_corner (g : fm_G) (l : Launch) (hl : l.stackTraces = false) (P : Nat) (a1 : Int32) (hP : fm_kd g P = 7) (M : fm_Mem) (w : fm_W) : ∀ r, f_X7_corner P a1 M = some r → fC g l z_X7_corner [.ref P, .int a1] (M, w) (emIw M w r) := fun r hr => fC.of (by decide) rfl o_X7_corner hl (Nat.le_of_ble_eq_true rfl) (t_X7_corner g l hl P a1 hP M w r hr)
def k_X7_square : List (Nat × Instr × Nat) := [(0, .aload_n 0, 1), (1, .iload_n 1, 1), (2, .invokevirtual 56, 3), (5, .i2l, 1), (6, .aload_n 0, 1), (7, .iload_n 1, 1), (8, .invokevirtual 56, 3), (11, .i2l, 1), (12, .lmul, 1), (13, .aload_n 0, 1), (14, .iload_n 1, 1), (15, .invokevirtual 59, 3), (18, .i2l, 1), (19, .aload_n 0, 1), (20, .iload_n 1, 1), (21, .invokevirtual 59, 3), (24, .i2l, 1), (25, .lmul, 1), (26, .ladd, 1), (27, .lreturn, 1)]
def z_X7_square : fm_Y := (yX7_square, RX7, cX7_square, 2, (some .long), k_X7_square, 2, 42)
theorem o_X7_square : fm_dec z_X7_square := (by decide +kernel : ∀ q ∈ k_X7_square, decode cX7_square q.1 = .ok q.2)
theorem cw_X7_square : fm_cwV z_X7_square := ⟨⟨lw_in 1405 (by decide +kernel) (by decide +kernel), lw_in 99 (by decide +kernel) (by decide +kernel), by decide, by decide⟩, lw_in 1404 (by decide +kernel) (by decide +kernel), lw_in 86 (by decide +kernel) (by decide +kernel)⟩
theorem pn_X7_square : (parseMethodDescriptor z_X7_square.1.desc).map (fun d => d.parameters.length) = some 1 := by decide +kernel
def f_X7_square (P : Nat) (a1 : Int32) (M : fm_Mem) : Option (Int64) := Option.bind (f_X7_x P a1 M) (fun v1 => Option.bind (f_X7_x P a1 M) (fun v2 => Option.bind (f_X7_y P a1 M) (fun v3 => Option.bind (f_X7_y P a1 M) (fun v4 => some ((((Int32.toInt64 v1) * (Int32.toInt64 v2)) + ((Int32.toInt64 v3) * (Int32.toInt64 v4))))))))
set_option maxRecDepth 100000 in
set_option maxHeartbeats 4000000 in
theorem t_X7_square (g : fm_G) (l : Launch) (hl : l.stackTraces = false) (P : Nat) (a1 : Int32) (hP : fm_kd g P = 7) (M : fm_Mem) (w : fm_W) : Tt g l z_X7_square (emJ M w) (f_X7_square P a1 M) 0 [(0, .ref P), (1, .int a1)] [] (M, w) := by
  rw [f_X7_square]
  refine Tt.go (fun _ => Tr.run 2 (pc' := 2) (lv' := [(0, .ref P), (1, .int a1)]) (st' := [.int a1, .ref P]) rfl) ?_
  refine Tt.callV (As := [.int a1]) (rest := []) (c_X7_x g l hl P a1 hP M w) hP (by decide) rfl rfl cw_X7_x fw1164 pn_X7_x (Nat.le_of_ble_eq_true rfl) (Nat.le_of_ble_eq_true rfl) (Nat.le_of_ble_eq_true rfl) rfl (fun v1 => (?_ : Tt g l z_X7_square (emJ M w) _ 5 [(0, .ref P), (1, .int a1)] [.int v1] (M, w)))
  refine Tt.go (fun _ => Tr.run 3 (pc' := 8) (lv' := [(0, .ref P), (1, .int a1)]) (st' := [.int a1, .ref P, .long (Int32.toInt64 v1)]) rfl) ?_
  refine Tt.callV (As := [.int a1]) (rest := [.long (Int32.toInt64 v1)]) (c_X7_x g l hl P a1 hP M w) hP (by decide) rfl rfl cw_X7_x fw1164 pn_X7_x (Nat.le_of_ble_eq_true rfl) (Nat.le_of_ble_eq_true rfl) (Nat.le_of_ble_eq_true rfl) rfl (fun v2 => (?_ : Tt g l z_X7_square (emJ M w) _ 11 [(0, .ref P), (1, .int a1)] [.int v2, .long (Int32.toInt64 v1)] (M, w)))
  refine Tt.go (fun _ => Tr.run 4 (pc' := 15) (lv' := [(0, .ref P), (1, .int a1)]) (st' := [.int a1, .ref P, .long ((Int32.toInt64 v1) * (Int32.toInt64 v2))]) rfl) ?_
  refine Tt.callV (As := [.int a1]) (rest := [.long ((Int32.toInt64 v1) * (Int32.toInt64 v2))]) (c_X7_y g l hl P a1 hP M w) hP (by decide) rfl rfl cw_X7_y fw1168 pn_X7_y (Nat.le_of_ble_eq_true rfl) (Nat.le_of_ble_eq_true rfl) (Nat.le_of_ble_eq_true rfl) rfl (fun v3 => (?_ : Tt g l z_X7_square (emJ M w) _ 18 [(0, .ref P), (1, .int a1)] [.int v3, .long ((Int32.toInt64 v1) * (Int32.toInt64 v2))] (M, w)))
  refine Tt.go (fun _ => Tr.run 3 (pc' := 21) (lv' := [(0, .ref P), (1, .int a1)]) (st' := [.int a1, .ref P, .long (Int32.toInt64 v3), .long ((Int32.toInt64 v1) * (Int32.toInt64 v2))]) rfl) ?_
  refine Tt.callV (As := [.int a1]) (rest := [.long (Int32.toInt64 v3), .long ((Int32.toInt64 v1) * (Int32.toInt64 v2))]) (c_X7_y g l hl P a1 hP M w) hP (by decide) rfl rfl cw_X7_y fw1168 pn_X7_y (Nat.le_of_ble_eq_true rfl) (Nat.le_of_ble_eq_true rfl) (Nat.le_of_ble_eq_true rfl) rfl (fun v4 => (?_ : Tt g l z_X7_square (emJ M w) _ 24 [(0, .ref P), (1, .int a1)] [.int v4, .long (Int32.toInt64 v3), .long ((Int32.toInt64 v1) * (Int32.toInt64 v2))] (M, w)))
  refine Tt.go (fun _ => Tr.run 3 (pc' := 27) (lv' := [(0, .ref P), (1, .int a1)]) (st' := [.long (((Int32.toInt64 v1) * (Int32.toInt64 v2)) + ((Int32.toInt64 v3) * (Int32.toInt64 v4)))]) rfl) ?_
  exact Tt.ret (Tr.lret rfl rfl)
theorem c_X7_square (g : fm_G) (l : Launch) (hl : l.stackTraces = false) (P : Nat) (a1 : Int32) (hP : fm_kd g P = 7) (M : fm_Mem) (w : fm_W) : ∀ r, f_X7_square P a1 M = some r → fC g l z_X7_square [.ref P, .int a1] (M, w) (emJ M w r) := fun r hr => fC.of (by decide) rfl o_X7_square hl (Nat.le_of_ble_eq_true rfl) (t_X7_square g l hl P a1 hP M w r hr)
def k_X7_liftOf : List (Nat × Instr × Nat) := [(0, .lconst 0, 1), (1, .lstore_n 1, 1), (2, .iconst 0, 1), (3, .istore_n 3, 1), (4, .iload_n 3, 1), (5, .aload_n 0, 1), (6, .iconst 1, 1), (7, .invokevirtual 41, 3), (10, .if_icmp .ge 73, 3), (13, .aload_n 0, 1), (14, .iconst 0, 1), (15, .iload_n 3, 1), (16, .iconst 0, 1), (17, .invokevirtual 103, 3), (20, .istore 4, 2), (22, .aload_n 0, 1), (23, .iconst 0, 1), (24, .iload_n 3, 1), (25, .iconst 1, 1), (26, .invokevirtual 103, 3), (29, .istore 5, 2), (31, .aload_n 0, 1), (32, .iconst 0, 1), (33, .iload_n 3, 1), (34, .iconst 2, 1), (35, .invokevirtual 103, 3), (38, .istore 6, 2), (40, .lload_n 1, 1), (41, .aload_n 0, 1), (42, .iload 4, 2), (44, .iload 5, 2), (46, .iload 6, 2), (48, .invokevirtual 70, 3), (51, .invokestatic 279, 3), (54, .aload_n 0, 1), (55, .iload 4, 2), (57, .invokevirtual 316, 3), (60, .aload_n 0, 1), (61, .iload 5, 2), (63, .invokevirtual 316, 3), (66, .ladd, 1), (67, .aload_n 0, 1), (68, .iload 6, 2), (70, .invokevirtual 316, 3), (73, .ladd, 1), (74, .lmul, 1), (75, .ladd, 1), (76, .lstore_n 1, 1), (77, .iinc 3 1, 3), (80, .goto (-76), 3), (83, .lload_n 1, 1), (84, .lreturn, 1)]
def z_X7_liftOf : fm_Y := (yX7_liftOf, RX7, cX7_liftOf, 7, (some .long), k_X7_liftOf, 3, 73)
theorem o_X7_liftOf : fm_dec z_X7_liftOf := (by decide +kernel : ∀ q ∈ k_X7_liftOf, decode cX7_liftOf q.1 = .ok q.2)
theorem cw_X7_liftOf : fm_cwV z_X7_liftOf := ⟨⟨lw_in 1401 (by decide +kernel) (by decide +kernel), lw_in 99 (by decide +kernel) (by decide +kernel), by decide, by decide⟩, lw_in 1400 (by decide +kernel) (by decide +kernel), lw_in 85 (by decide +kernel) (by decide +kernel)⟩
theorem pn_X7_liftOf : (parseMethodDescriptor z_X7_liftOf.1.desc).map (fun d => d.parameters.length) = some 0 := by decide +kernel
def f_X7_liftOf_4 (P : Nat) : Nat → Int64 → Int32 → fm_Mem → Option (Int64)
  | 0, _, _, _ => none
  | n + 1, x1, x3, M => Option.bind (f_X7_get P (1 : Int32) M) (fun v1 => if v1 ≤ x3 then (some (x1)) else (Option.bind (f_X7_endOf P (0 : Int32) x3 (0 : Int32) M) (fun v2 => Option.bind (f_X7_endOf P (0 : Int32) x3 (1 : Int32) M) (fun v3 => Option.bind (f_X7_endOf P (0 : Int32) x3 (2 : Int32) M) (fun v4 => Option.bind (f_X7_turn P v2 v3 v4 M) (fun v5 => Option.bind (f_X7_square P v2 M) (fun v6 => Option.bind (f_X7_square P v3 M) (fun v7 => Option.bind (f_X7_square P v4 M) (fun v8 => (f_X7_liftOf_4 P n (x1 + ((fm_absL v5) * ((v6 + v7) + v8))) (x3 + (1 : Int32)) M))))))))))
set_option maxRecDepth 100000 in
set_option maxHeartbeats 4000000 in
theorem t_X7_liftOf_4 (g : fm_G) (l : Launch) (hl : l.stackTraces = false) (P : Nat) (hP : fm_kd g P = 7) (w : fm_W)  : ∀ (n : Nat) (x1 : Int64) (x3 : Int32)  (M : fm_Mem), Tt g l z_X7_liftOf (emJ M w) (f_X7_liftOf_4 P  n x1 x3 M) 4 [(0, .ref P), (1, .long x1), (3, .int x3)] [] (M, w) := by
  intro n
  induction n with
  | zero => intros; exact Tt.none
  | succ n ih =>
    intro x1 x3  M
    rw [f_X7_liftOf_4]
    refine Tt.go (fun _ => Tr.run 3 (pc' := 7) (lv' := [(0, .ref P), (1, .long x1), (3, .int x3)]) (st' := [.int (1 : Int32), .ref P, .int x3]) rfl) ?_
    refine Tt.callV (As := [.int (1 : Int32)]) (rest := [.int x3]) (c_X7_get g l hl P (1 : Int32) hP M w) hP (by decide) rfl rfl cw_X7_get fw1109 pn_X7_get (Nat.le_of_ble_eq_true rfl) (Nat.le_of_ble_eq_true rfl) (Nat.le_of_ble_eq_true rfl) rfl (fun v1 => (?_ : Tt g l z_X7_liftOf (emJ M w) _ 10 [(0, .ref P), (1, .long x1), (3, .int x3)] [.int v1, .int x3] (M, w)))
    refine Tt.ic_ge (tgt := 83) rfl (by decide) ?_ ?_
    · refine Tt.go (fun _ => Tr.run 1 (pc' := 84) (lv' := [(0, .ref P), (1, .long x1), (3, .int x3)]) (st' := [.long x1]) rfl) ?_
      exact Tt.ret (Tr.lret rfl rfl)
    · refine Tt.go (fun _ => Tr.run 4 (pc' := 17) (lv' := [(0, .ref P), (1, .long x1), (3, .int x3)]) (st' := [.int (0 : Int32), .int x3, .int (0 : Int32), .ref P]) rfl) ?_
      refine Tt.callV (As := [.int (0 : Int32), .int x3, .int (0 : Int32)]) (rest := []) (c_X7_endOf g l hl P (0 : Int32) x3 (0 : Int32) hP M w) hP (by decide) rfl rfl cw_X7_endOf fw1231 pn_X7_endOf (Nat.le_of_ble_eq_true rfl) (Nat.le_of_ble_eq_true rfl) (Nat.le_of_ble_eq_true rfl) rfl (fun v2 => (?_ : Tt g l z_X7_liftOf (emJ M w) _ 20 [(0, .ref P), (1, .long x1), (3, .int x3)] [.int v2] (M, w)))
      refine Tt.go (fun _ => Tr.run 5 (pc' := 26) (lv' := [(4, .int v2), (0, .ref P), (1, .long x1), (3, .int x3)]) (st' := [.int (1 : Int32), .int x3, .int (0 : Int32), .ref P]) rfl) ?_
      refine Tt.callV (As := [.int (0 : Int32), .int x3, .int (1 : Int32)]) (rest := []) (c_X7_endOf g l hl P (0 : Int32) x3 (1 : Int32) hP M w) hP (by decide) rfl rfl cw_X7_endOf fw1231 pn_X7_endOf (Nat.le_of_ble_eq_true rfl) (Nat.le_of_ble_eq_true rfl) (Nat.le_of_ble_eq_true rfl) rfl (fun v3 => (?_ : Tt g l z_X7_liftOf (emJ M w) _ 29 [(4, .int v2), (0, .ref P), (1, .long x1), (3, .int x3)] [.int v3] (M, w)))
      refine Tt.go (fun _ => Tr.run 5 (pc' := 35) (lv' := [(5, .int v3), (4, .int v2), (0, .ref P), (1, .long x1), (3, .int x3)]) (st' := [.int (2 : Int32), .int x3, .int (0 : Int32), .ref P]) rfl) ?_
      refine Tt.callV (As := [.int (0 : Int32), .int x3, .int (2 : Int32)]) (rest := []) (c_X7_endOf g l hl P (0 : Int32) x3 (2 : Int32) hP M w) hP (by decide) rfl rfl cw_X7_endOf fw1231 pn_X7_endOf (Nat.le_of_ble_eq_true rfl) (Nat.le_of_ble_eq_true rfl) (Nat.le_of_ble_eq_true rfl) rfl (fun v4 => (?_ : Tt g l z_X7_liftOf (emJ M w) _ 38 [(5, .int v3), (4, .int v2), (0, .ref P), (1, .long x1), (3, .int x3)] [.int v4] (M, w)))
      refine Tt.go (fun _ => Tr.run 6 (pc' := 48) (lv' := [(6, .int v4), (5, .int v3), (4, .int v2), (0, .ref P), (1, .long x1), (3, .int x3)]) (st' := [.int v4, .int v3, .int v2, .ref P, .long x1]) rfl) ?_
      refine Tt.callV (As := [.int v2, .int v3, .int v4]) (rest := [.long x1]) (c_X7_turn g l hl P v2 v3 v4 hP M w) hP (by decide) rfl rfl cw_X7_turn fw1193 pn_X7_turn (Nat.le_of_ble_eq_true rfl) (Nat.le_of_ble_eq_true rfl) (Nat.le_of_ble_eq_true rfl) rfl (fun v5 => (?_ : Tt g l z_X7_liftOf (emJ M w) _ 51 [(6, .int v4), (5, .int v3), (4, .int v2), (0, .ref P), (1, .long x1), (3, .int x3)] [.long v5, .long x1] (M, w)))
      refine Tt.go (fun _ => Tr.absL rfl ⟨fw1347, fw1348, fw94, fw1349⟩ (Nat.le_of_ble_eq_true rfl) (Nat.le_of_ble_eq_true rfl)) (?_ : Tt g l z_X7_liftOf (emJ M w) _ 54 [(6, .int v4), (5, .int v3), (4, .int v2), (0, .ref P), (1, .long x1), (3, .int x3)] [.long (fm_absL v5), .long x1] (M, w))
      refine Tt.go (fun _ => Tr.run 2 (pc' := 57) (lv' := [(6, .int v4), (5, .int v3), (4, .int v2), (0, .ref P), (1, .long x1), (3, .int x3)]) (st' := [.int v2, .ref P, .long (fm_absL v5), .long x1]) rfl) ?_
      refine Tt.callV (As := [.int v2]) (rest := [.long (fm_absL v5), .long x1]) (c_X7_square g l hl P v2 hP M w) hP (by decide) rfl rfl cw_X7_square fw1402 pn_X7_square (Nat.le_of_ble_eq_true rfl) (Nat.le_of_ble_eq_true rfl) (Nat.le_of_ble_eq_true rfl) rfl (fun v6 => (?_ : Tt g l z_X7_liftOf (emJ M w) _ 60 [(6, .int v4), (5, .int v3), (4, .int v2), (0, .ref P), (1, .long x1), (3, .int x3)] [.long v6, .long (fm_absL v5), .long x1] (M, w)))
      refine Tt.go (fun _ => Tr.run 2 (pc' := 63) (lv' := [(6, .int v4), (5, .int v3), (4, .int v2), (0, .ref P), (1, .long x1), (3, .int x3)]) (st' := [.int v3, .ref P, .long v6, .long (fm_absL v5), .long x1]) rfl) ?_
      refine Tt.callV (As := [.int v3]) (rest := [.long v6, .long (fm_absL v5), .long x1]) (c_X7_square g l hl P v3 hP M w) hP (by decide) rfl rfl cw_X7_square fw1402 pn_X7_square (Nat.le_of_ble_eq_true rfl) (Nat.le_of_ble_eq_true rfl) (Nat.le_of_ble_eq_true rfl) rfl (fun v7 => (?_ : Tt g l z_X7_liftOf (emJ M w) _ 66 [(6, .int v4), (5, .int v3), (4, .int v2), (0, .ref P), (1, .long x1), (3, .int x3)] [.long v7, .long v6, .long (fm_absL v5), .long x1] (M, w)))
      refine Tt.go (fun _ => Tr.run 3 (pc' := 70) (lv' := [(6, .int v4), (5, .int v3), (4, .int v2), (0, .ref P), (1, .long x1), (3, .int x3)]) (st' := [.int v4, .ref P, .long (v6 + v7), .long (fm_absL v5), .long x1]) rfl) ?_
      refine Tt.callV (As := [.int v4]) (rest := [.long (v6 + v7), .long (fm_absL v5), .long x1]) (c_X7_square g l hl P v4 hP M w) hP (by decide) rfl rfl cw_X7_square fw1402 pn_X7_square (Nat.le_of_ble_eq_true rfl) (Nat.le_of_ble_eq_true rfl) (Nat.le_of_ble_eq_true rfl) rfl (fun v8 => (?_ : Tt g l z_X7_liftOf (emJ M w) _ 73 [(6, .int v4), (5, .int v3), (4, .int v2), (0, .ref P), (1, .long x1), (3, .int x3)] [.long v8, .long (v6 + v7), .long (fm_absL v5), .long x1] (M, w)))
      refine Tt.go (fun _ => Tr.run 6 (pc' := 4) (lv' := [(3, .int (x3 + (1 : Int32))), (1, .long (x1 + ((fm_absL v5) * ((v6 + v7) + v8)))), (6, .int v4), (5, .int v3), (4, .int v2), (0, .ref P)]) (st' := []) rfl) ?_
      refine Tt.go (fun _ => Tr.sub (lv' := [(0, .ref P), (1, .long (x1 + ((fm_absL v5) * ((v6 + v7) + v8)))), (3, .int (x3 + (1 : Int32)))]) [5, 1, 0] rfl) ?_
      exact ih (x1 + ((fm_absL v5) * ((v6 + v7) + v8))) (x3 + (1 : Int32)) M
def f_X7_liftOf (P : Nat) (M : fm_Mem) : Option (Int64) := (f_X7_liftOf_4 P fm_fuel (0 : Int64) (0 : Int32) M)
set_option maxRecDepth 100000 in
set_option maxHeartbeats 4000000 in
theorem t_X7_liftOf (g : fm_G) (l : Launch) (hl : l.stackTraces = false) (P : Nat) (hP : fm_kd g P = 7) (M : fm_Mem) (w : fm_W) : Tt g l z_X7_liftOf (emJ M w) (f_X7_liftOf P M) 0 [(0, .ref P)] [] (M, w) := by
  rw [f_X7_liftOf]
  refine Tt.go (fun _ => Tr.run 4 (pc' := 4) (lv' := [(3, .int (0 : Int32)), (1, .long (0 : Int64)), (0, .ref P)]) (st' := []) rfl) ?_
  refine Tt.go (fun _ => Tr.sub (lv' := [(0, .ref P), (1, .long (0 : Int64)), (3, .int (0 : Int32))]) [2, 1, 0] rfl) ?_
  exact t_X7_liftOf_4 g l hl P hP w fm_fuel (0 : Int64) (0 : Int32) M
theorem c_X7_liftOf (g : fm_G) (l : Launch) (hl : l.stackTraces = false) (P : Nat) (hP : fm_kd g P = 7) (M : fm_Mem) (w : fm_W) : ∀ r, f_X7_liftOf P M = some r → fC g l z_X7_liftOf [.ref P] (M, w) (emJ M w r) := fun r hr => fC.of (by decide) rfl o_X7_liftOf hl (Nat.le_of_ble_eq_true rfl) (t_X7_liftOf g l hl P hP M w r hr)
def k_X7_lift : List (Nat × Instr × Nat) := [(0, .aload_n 0, 1), (1, .iconst 0, 1), (2, .putfield 35, 3), (5, .aload_n 0, 1), (6, .invokevirtual 320, 3), (9, .lreturn, 1)]
def z_X7_lift : fm_Y := (yX7_lift, RX7, cX7_lift, 1, (some .long), k_X7_lift, 4, 99)
theorem o_X7_lift : fm_dec z_X7_lift := (by decide +kernel : ∀ q ∈ k_X7_lift, decode cX7_lift q.1 = .ok q.2)
theorem cw_X7_lift : fm_cwV z_X7_lift := ⟨⟨lw_in 1397 (by decide +kernel) (by decide +kernel), lw_in 99 (by decide +kernel) (by decide +kernel), by decide, by decide⟩, lw_in 1395 (by decide +kernel) (by decide +kernel), lw_in 1396 (by decide +kernel) (by decide +kernel)⟩
theorem pn_X7_lift : (parseMethodDescriptor z_X7_lift.1.desc).map (fun d => d.parameters.length) = some 0 := by decide +kernel
def f_X7_lift (P : Nat) (M : fm_Mem) : Option (Int64 × fm_Mem) := Option.bind (f_X7_liftOf P (fm_up M P 0 (0 : Int32))) (fun v1 => some ((v1, (fm_up M P 0 (0 : Int32)))))
set_option maxRecDepth 100000 in
set_option maxHeartbeats 4000000 in
theorem t_X7_lift (g : fm_G) (l : Launch) (hl : l.stackTraces = false) (P : Nat) (hP : fm_kd g P = 7) (M : fm_Mem) (w : fm_W) : Tt g l z_X7_lift (emJw M w) (f_X7_lift P M) 0 [(0, .ref P)] [] (M, w) := by
  rw [f_X7_lift]
  refine Tt.go (fun _ => Tr.run 2 (pc' := 2) (lv' := [(0, .ref P)]) (st' := [.int (0 : Int32), .ref P]) rfl) ?_
  refine Tt.go (fun _ => Tr.put fmc7 hP rfl fw1024 (k := 0) (by decide) rfl rfl ⟨rfl, rfl⟩) (?_ : Tt g l z_X7_lift (emJw M w) _ 5 [(0, .ref P)] [] ((fm_up M P 0 (0 : Int32)), w))
  refine Tt.go (fun _ => Tr.run 1 (pc' := 6) (lv' := [(0, .ref P)]) (st' := [.ref P]) rfl) ?_
  refine Tt.callV (As := []) (rest := []) (c_X7_liftOf g l hl P hP (fm_up M P 0 (0 : Int32)) w) hP (by decide) rfl rfl cw_X7_liftOf fw1398 pn_X7_liftOf (Nat.le_of_ble_eq_true rfl) (Nat.le_of_ble_eq_true rfl) (Nat.le_of_ble_eq_true rfl) rfl (fun v1 => (?_ : Tt g l z_X7_lift (emJw M w) _ 9 [(0, .ref P)] [.long v1] ((fm_up M P 0 (0 : Int32)), w)))
  exact Tt.ret (Tr.lret rfl rfl)
theorem c_X7_lift (g : fm_G) (l : Launch) (hl : l.stackTraces = false) (P : Nat) (hP : fm_kd g P = 7) (M : fm_Mem) (w : fm_W) : ∀ r, f_X7_lift P M = some r → fC g l z_X7_lift [.ref P] (M, w) (emJw M w r) := fun r hr => fC.of (by decide) rfl o_X7_lift hl (Nat.le_of_ble_eq_true rfl) (t_X7_lift g l hl P hP M w r hr)
def k_X7_treeOf : List (Nat × Instr × Nat) := [(0, .lconst 0, 1), (1, .lstore_n 1, 1), (2, .iconst 1, 1), (3, .istore_n 3, 1), (4, .iconst 1, 1), (5, .istore 4, 2), (7, .iload 4, 2), (9, .aload_n 0, 1), (10, .invokevirtual 48, 3), (13, .if_icmp .ge 118, 3), (16, .iconst (-1), 1), (17, .istore 5, 2), (19, .lconst 0, 1), (20, .lstore 6, 2), (22, .iconst 0, 1), (23, .istore 8, 2), (25, .iload 8, 2), (27, .aload_n 0, 1), (28, .invokevirtual 48, 3), (31, .if_icmp .ge 82, 3), (34, .iconst 0, 1), (35, .istore 9, 2), (37, .iload 9, 2), (39, .aload_n 0, 1), (40, .invokevirtual 48, 3), (43, .if_icmp .ge 64, 3), (46, .iload_n 3, 1), (47, .iload 8, 2), (49, .invokestatic 154, 3), (52, .ifCond .eq 49, 3), (55, .iload_n 3, 1), (56, .iload 9, 2), (58, .invokestatic 154, 3), (61, .ifCond .ne 40, 3), (64, .iload 5, 2), (66, .iconst (-1), 1), (67, .if_icmp .eq 20, 3), (70, .aload_n 0, 1), (71, .iload 8, 2), (73, .iload 9, 2), (75, .invokevirtual 268, 3), (78, .lload 6, 2), (80, .lcmp, 1), (81, .ifCond .lt 6, 3), (84, .goto 17, 3), (87, .iload 9, 2), (89, .istore 5, 2), (91, .aload_n 0, 1), (92, .iload 8, 2), (94, .iload 9, 2), (96, .invokevirtual 268, 3), (99, .lstore 6, 2), (101, .iinc 9 1, 3), (104, .goto (-67), 3), (107, .iinc 8 1, 3), (110, .goto (-85), 3), (113, .iload_n 3, 1), (114, .iconst 1, 1), (115, .iload 5, 2), (117, .ishl, 1), (118, .ior, 1), (119, .istore_n 3, 1), (120, .lload_n 1, 1), (121, .lload 6, 2), (123, .ladd, 1), (124, .lstore_n 1, 1), (125, .iinc 4 1, 3), (128, .goto (-121), 3), (131, .lload_n 1, 1), (132, .lreturn, 1)]
def z_X7_treeOf : fm_Y := (yX7_treeOf, RX7, cX7_treeOf, 10, (some .long), k_X7_treeOf, 3, 64)
theorem o_X7_treeOf : fm_dec z_X7_treeOf := (by decide +kernel : ∀ q ∈ k_X7_treeOf, decode cX7_treeOf q.1 = .ok q.2)
theorem cw_X7_treeOf : fm_cwV z_X7_treeOf := ⟨⟨lw_in 1413 (by decide +kernel) (by decide +kernel), lw_in 99 (by decide +kernel) (by decide +kernel), by decide, by decide⟩, lw_in 1412 (by decide +kernel) (by decide +kernel), lw_in 87 (by decide +kernel) (by decide +kernel)⟩
theorem pn_X7_treeOf : (parseMethodDescriptor z_X7_treeOf.1.desc).map (fun d => d.parameters.length) = some 0 := by decide +kernel
def f_X7_treeOf_101 (P : Nat) (k7 : Int64 → Int32 → Int32 → fm_Mem → Option (Int64)) (k25 : Int64 → Int32 → Int32 → Int32 → Int64 → Int32 → fm_Mem → Option (Int64)) (k37 : Int64 → Int32 → Int32 → Int32 → Int64 → Int32 → Int32 → fm_Mem → Option (Int64)) (x1 : Int64) (x3 : Int32) (x4 : Int32) (x5 : Int32) (x6 : Int64) (x8 : Int32) (x9 : Int32) (M : fm_Mem) : Option (Int64) := (k37 x1 x3 x4 x5 x6 x8 (x9 + (1 : Int32)) M)
set_option maxRecDepth 100000 in
set_option maxHeartbeats 4000000 in
theorem t_X7_treeOf_101 (g : fm_G) (l : Launch) (hl : l.stackTraces = false) (P : Nat) (hP : fm_kd g P = 7) (w : fm_W) (k7 : Int64 → Int32 → Int32 → fm_Mem → Option (Int64)) (hk7 : ∀ (x1 : Int64) (x3 : Int32) (x4 : Int32) (M : fm_Mem), Tt g l z_X7_treeOf (emJ M w) (k7 x1 x3 x4 M) 7 [(0, .ref P), (1, .long x1), (3, .int x3), (4, .int x4)] [] (M, w)) (k25 : Int64 → Int32 → Int32 → Int32 → Int64 → Int32 → fm_Mem → Option (Int64)) (hk25 : ∀ (x1 : Int64) (x3 : Int32) (x4 : Int32) (x5 : Int32) (x6 : Int64) (x8 : Int32) (M : fm_Mem), Tt g l z_X7_treeOf (emJ M w) (k25 x1 x3 x4 x5 x6 x8 M) 25 [(0, .ref P), (1, .long x1), (3, .int x3), (4, .int x4), (5, .int x5), (6, .long x6), (8, .int x8)] [] (M, w)) (k37 : Int64 → Int32 → Int32 → Int32 → Int64 → Int32 → Int32 → fm_Mem → Option (Int64)) (hk37 : ∀ (x1 : Int64) (x3 : Int32) (x4 : Int32) (x5 : Int32) (x6 : Int64) (x8 : Int32) (x9 : Int32) (M : fm_Mem), Tt g l z_X7_treeOf (emJ M w) (k37 x1 x3 x4 x5 x6 x8 x9 M) 37 [(0, .ref P), (1, .long x1), (3, .int x3), (4, .int x4), (5, .int x5), (6, .long x6), (8, .int x8), (9, .int x9)] [] (M, w)) (x1 : Int64) (x3 : Int32) (x4 : Int32) (x5 : Int32) (x6 : Int64) (x8 : Int32) (x9 : Int32)  (M : fm_Mem) : Tt g l z_X7_treeOf (emJ M w) (f_X7_treeOf_101 P k7 k25 k37 x1 x3 x4 x5 x6 x8 x9 M) 101 [(0, .ref P), (1, .long x1), (3, .int x3), (4, .int x4), (5, .int x5), (6, .long x6), (8, .int x8), (9, .int x9)] [] (M, w) := by
  rw [f_X7_treeOf_101]
  refine Tt.go (fun _ => Tr.run 2 (pc' := 37) (lv' := [(9, .int (x9 + (1 : Int32))), (0, .ref P), (1, .long x1), (3, .int x3), (4, .int x4), (5, .int x5), (6, .long x6), (8, .int x8)]) (st' := []) rfl) ?_
  refine Tt.go (fun _ => Tr.sub (lv' := [(0, .ref P), (1, .long x1), (3, .int x3), (4, .int x4), (5, .int x5), (6, .long x6), (8, .int x8), (9, .int (x9 + (1 : Int32)))]) [1, 2, 3, 4, 5, 6, 7, 0] rfl) ?_
  exact hk37 x1 x3 x4 x5 x6 x8 (x9 + (1 : Int32)) M
def f_X7_treeOf_87 (P : Nat) (k7 : Int64 → Int32 → Int32 → fm_Mem → Option (Int64)) (k25 : Int64 → Int32 → Int32 → Int32 → Int64 → Int32 → fm_Mem → Option (Int64)) (k37 : Int64 → Int32 → Int32 → Int32 → Int64 → Int32 → Int32 → fm_Mem → Option (Int64)) (x1 : Int64) (x3 : Int32) (x4 : Int32) (x8 : Int32) (x9 : Int32) (M : fm_Mem) : Option (Int64) := Option.bind (f_X7_apart P x8 x9 M) (fun v1 => (f_X7_treeOf_101 P k7 k25 k37 x1 x3 x4 x9 v1 x8 x9 M))
set_option maxRecDepth 100000 in
set_option maxHeartbeats 4000000 in
theorem t_X7_treeOf_87 (g : fm_G) (l : Launch) (hl : l.stackTraces = false) (P : Nat) (hP : fm_kd g P = 7) (w : fm_W) (k7 : Int64 → Int32 → Int32 → fm_Mem → Option (Int64)) (hk7 : ∀ (x1 : Int64) (x3 : Int32) (x4 : Int32) (M : fm_Mem), Tt g l z_X7_treeOf (emJ M w) (k7 x1 x3 x4 M) 7 [(0, .ref P), (1, .long x1), (3, .int x3), (4, .int x4)] [] (M, w)) (k25 : Int64 → Int32 → Int32 → Int32 → Int64 → Int32 → fm_Mem → Option (Int64)) (hk25 : ∀ (x1 : Int64) (x3 : Int32) (x4 : Int32) (x5 : Int32) (x6 : Int64) (x8 : Int32) (M : fm_Mem), Tt g l z_X7_treeOf (emJ M w) (k25 x1 x3 x4 x5 x6 x8 M) 25 [(0, .ref P), (1, .long x1), (3, .int x3), (4, .int x4), (5, .int x5), (6, .long x6), (8, .int x8)] [] (M, w)) (k37 : Int64 → Int32 → Int32 → Int32 → Int64 → Int32 → Int32 → fm_Mem → Option (Int64)) (hk37 : ∀ (x1 : Int64) (x3 : Int32) (x4 : Int32) (x5 : Int32) (x6 : Int64) (x8 : Int32) (x9 : Int32) (M : fm_Mem), Tt g l z_X7_treeOf (emJ M w) (k37 x1 x3 x4 x5 x6 x8 x9 M) 37 [(0, .ref P), (1, .long x1), (3, .int x3), (4, .int x4), (5, .int x5), (6, .long x6), (8, .int x8), (9, .int x9)] [] (M, w)) (x1 : Int64) (x3 : Int32) (x4 : Int32) (x8 : Int32) (x9 : Int32)  (M : fm_Mem) : Tt g l z_X7_treeOf (emJ M w) (f_X7_treeOf_87 P k7 k25 k37 x1 x3 x4 x8 x9 M) 87 [(0, .ref P), (1, .long x1), (3, .int x3), (4, .int x4), (8, .int x8), (9, .int x9)] [] (M, w) := by
  rw [f_X7_treeOf_87]
  refine Tt.go (fun _ => Tr.run 5 (pc' := 96) (lv' := [(5, .int x9), (0, .ref P), (1, .long x1), (3, .int x3), (4, .int x4), (8, .int x8), (9, .int x9)]) (st' := [.int x9, .int x8, .ref P]) rfl) ?_
  refine Tt.callV (As := [.int x8, .int x9]) (rest := []) (c_X7_apart g l hl P x8 x9 hP M w) hP (by decide) rfl rfl cw_X7_apart fw1331 pn_X7_apart (Nat.le_of_ble_eq_true rfl) (Nat.le_of_ble_eq_true rfl) (Nat.le_of_ble_eq_true rfl) rfl (fun v1 => (?_ : Tt g l z_X7_treeOf (emJ M w) _ 99 [(5, .int x9), (0, .ref P), (1, .long x1), (3, .int x3), (4, .int x4), (8, .int x8), (9, .int x9)] [.long v1] (M, w)))
  refine Tt.go (fun _ => Tr.run 1 (pc' := 101) (lv' := [(6, .long v1), (5, .int x9), (0, .ref P), (1, .long x1), (3, .int x3), (4, .int x4), (8, .int x8), (9, .int x9)]) (st' := []) rfl) ?_
  refine Tt.go (fun _ => Tr.sub (lv' := [(0, .ref P), (1, .long x1), (3, .int x3), (4, .int x4), (5, .int x9), (6, .long v1), (8, .int x8), (9, .int x9)]) [2, 3, 4, 5, 1, 0, 6, 7] rfl) ?_
  exact t_X7_treeOf_101 g l hl P hP w k7 hk7 k25 hk25 k37 hk37 x1 x3 x4 x9 v1 x8 x9 M
def f_X7_treeOf_37 (P : Nat) (k7 : Int64 → Int32 → Int32 → fm_Mem → Option (Int64)) (k25 : Int64 → Int32 → Int32 → Int32 → Int64 → Int32 → fm_Mem → Option (Int64)) : Nat → Int64 → Int32 → Int32 → Int32 → Int64 → Int32 → Int32 → fm_Mem → Option (Int64)
  | 0, _, _, _, _, _, _, _, _ => none
  | n + 1, x1, x3, x4, x5, x6, x8, x9, M => Option.bind (f_X7_points P M) (fun v1 => if v1 ≤ x9 then (k25 x1 x3 x4 x5 x6 (x8 + (1 : Int32)) M) else (Option.bind (f_X7_isOf x3 x8 M) (fun v2 => if v2 = 0 then (f_X7_treeOf_101 P k7 k25 (fun x1 x3 x4 x5 x6 x8 x9 M => f_X7_treeOf_37 P k7 k25 n x1 x3 x4 x5 x6 x8 x9 M) x1 x3 x4 x5 x6 x8 x9 M) else (Option.bind (f_X7_isOf x3 x9 M) (fun v3 => if v3 = 0 then (if x5 = (-1 : Int32) then (f_X7_treeOf_87 P k7 k25 (fun x1 x3 x4 x5 x6 x8 x9 M => f_X7_treeOf_37 P k7 k25 n x1 x3 x4 x5 x6 x8 x9 M) x1 x3 x4 x8 x9 M) else (Option.bind (f_X7_apart P x8 x9 M) (fun v4 => if (lg_cmp v4 x6) < 0 then (f_X7_treeOf_87 P k7 k25 (fun x1 x3 x4 x5 x6 x8 x9 M => f_X7_treeOf_37 P k7 k25 n x1 x3 x4 x5 x6 x8 x9 M) x1 x3 x4 x8 x9 M) else (f_X7_treeOf_101 P k7 k25 (fun x1 x3 x4 x5 x6 x8 x9 M => f_X7_treeOf_37 P k7 k25 n x1 x3 x4 x5 x6 x8 x9 M) x1 x3 x4 x5 x6 x8 x9 M)))) else (f_X7_treeOf_101 P k7 k25 (fun x1 x3 x4 x5 x6 x8 x9 M => f_X7_treeOf_37 P k7 k25 n x1 x3 x4 x5 x6 x8 x9 M) x1 x3 x4 x5 x6 x8 x9 M))))))
set_option maxRecDepth 100000 in
set_option maxHeartbeats 4000000 in
theorem t_X7_treeOf_37 (g : fm_G) (l : Launch) (hl : l.stackTraces = false) (P : Nat) (hP : fm_kd g P = 7) (w : fm_W) (k7 : Int64 → Int32 → Int32 → fm_Mem → Option (Int64)) (hk7 : ∀ (x1 : Int64) (x3 : Int32) (x4 : Int32) (M : fm_Mem), Tt g l z_X7_treeOf (emJ M w) (k7 x1 x3 x4 M) 7 [(0, .ref P), (1, .long x1), (3, .int x3), (4, .int x4)] [] (M, w)) (k25 : Int64 → Int32 → Int32 → Int32 → Int64 → Int32 → fm_Mem → Option (Int64)) (hk25 : ∀ (x1 : Int64) (x3 : Int32) (x4 : Int32) (x5 : Int32) (x6 : Int64) (x8 : Int32) (M : fm_Mem), Tt g l z_X7_treeOf (emJ M w) (k25 x1 x3 x4 x5 x6 x8 M) 25 [(0, .ref P), (1, .long x1), (3, .int x3), (4, .int x4), (5, .int x5), (6, .long x6), (8, .int x8)] [] (M, w)) : ∀ (n : Nat) (x1 : Int64) (x3 : Int32) (x4 : Int32) (x5 : Int32) (x6 : Int64) (x8 : Int32) (x9 : Int32)  (M : fm_Mem), Tt g l z_X7_treeOf (emJ M w) (f_X7_treeOf_37 P k7 k25 n x1 x3 x4 x5 x6 x8 x9 M) 37 [(0, .ref P), (1, .long x1), (3, .int x3), (4, .int x4), (5, .int x5), (6, .long x6), (8, .int x8), (9, .int x9)] [] (M, w) := by
  intro n
  induction n with
  | zero => intros; exact Tt.none
  | succ n ih =>
    intro x1 x3 x4 x5 x6 x8 x9  M
    rw [f_X7_treeOf_37]
    refine Tt.go (fun _ => Tr.run 2 (pc' := 40) (lv' := [(0, .ref P), (1, .long x1), (3, .int x3), (4, .int x4), (5, .int x5), (6, .long x6), (8, .int x8), (9, .int x9)]) (st' := [.ref P, .int x9]) rfl) ?_
    refine Tt.callV (As := []) (rest := [.int x9]) (c_X7_points g l hl P hP M w) hP (by decide) rfl rfl cw_X7_points fw1156 pn_X7_points (Nat.le_of_ble_eq_true rfl) (Nat.le_of_ble_eq_true rfl) (Nat.le_of_ble_eq_true rfl) rfl (fun v1 => (?_ : Tt g l z_X7_treeOf (emJ M w) _ 43 [(0, .ref P), (1, .long x1), (3, .int x3), (4, .int x4), (5, .int x5), (6, .long x6), (8, .int x8), (9, .int x9)] [.int v1, .int x9] (M, w)))
    refine Tt.ic_ge (tgt := 107) rfl (by decide) ?_ ?_
    · refine Tt.go (fun _ => Tr.run 2 (pc' := 25) (lv' := [(8, .int (x8 + (1 : Int32))), (0, .ref P), (1, .long x1), (3, .int x3), (4, .int x4), (5, .int x5), (6, .long x6), (9, .int x9)]) (st' := []) rfl) ?_
      refine Tt.go (fun _ => Tr.sub (lv' := [(0, .ref P), (1, .long x1), (3, .int x3), (4, .int x4), (5, .int x5), (6, .long x6), (8, .int (x8 + (1 : Int32)))]) [1, 2, 3, 4, 5, 6, 0] rfl) ?_
      exact hk25 x1 x3 x4 x5 x6 (x8 + (1 : Int32)) M
    · refine Tt.go (fun _ => Tr.run 2 (pc' := 49) (lv' := [(0, .ref P), (1, .long x1), (3, .int x3), (4, .int x4), (5, .int x5), (6, .long x6), (8, .int x8), (9, .int x9)]) (st' := [.int x8, .int x3]) rfl) ?_
      refine Tt.callS (As := [.int x3, .int x8]) (rest := []) (c_X7_isOf g l hl x3 x8 M w) rfl cw_X7_isOf fw1289 pn_X7_isOf (Nat.le_of_ble_eq_true rfl) (Nat.le_of_ble_eq_true rfl) (Nat.le_of_ble_eq_true rfl) rfl (fun v2 => (?_ : Tt g l z_X7_treeOf (emJ M w) _ 52 [(0, .ref P), (1, .long x1), (3, .int x3), (4, .int x4), (5, .int x5), (6, .long x6), (8, .int x8), (9, .int x9)] [.int v2] (M, w)))
      refine Tt.if_eq (tgt := 101) rfl (by decide) ?_ ?_
      · exact t_X7_treeOf_101 g l hl P hP w k7 hk7 k25 hk25 _ ih x1 x3 x4 x5 x6 x8 x9 M
      · refine Tt.go (fun _ => Tr.run 2 (pc' := 58) (lv' := [(0, .ref P), (1, .long x1), (3, .int x3), (4, .int x4), (5, .int x5), (6, .long x6), (8, .int x8), (9, .int x9)]) (st' := [.int x9, .int x3]) rfl) ?_
        refine Tt.callS (As := [.int x3, .int x9]) (rest := []) (c_X7_isOf g l hl x3 x9 M w) rfl cw_X7_isOf fw1289 pn_X7_isOf (Nat.le_of_ble_eq_true rfl) (Nat.le_of_ble_eq_true rfl) (Nat.le_of_ble_eq_true rfl) rfl (fun v3 => (?_ : Tt g l z_X7_treeOf (emJ M w) _ 61 [(0, .ref P), (1, .long x1), (3, .int x3), (4, .int x4), (5, .int x5), (6, .long x6), (8, .int x8), (9, .int x9)] [.int v3] (M, w)))
        refine Tt.if_ne (tgt := 101) rfl (by decide) ?_ ?_
        · refine Tt.go (fun _ => Tr.run 2 (pc' := 67) (lv' := [(0, .ref P), (1, .long x1), (3, .int x3), (4, .int x4), (5, .int x5), (6, .long x6), (8, .int x8), (9, .int x9)]) (st' := [.int (-1 : Int32), .int x5]) rfl) ?_
          refine Tt.ic_eq (tgt := 87) rfl (by decide) ?_ ?_
          · refine Tt.go (fun _ => Tr.sub (lv' := [(0, .ref P), (1, .long x1), (3, .int x3), (4, .int x4), (8, .int x8), (9, .int x9)]) [0, 1, 2, 3, 6, 7] rfl) ?_
            exact t_X7_treeOf_87 g l hl P hP w k7 hk7 k25 hk25 _ ih x1 x3 x4 x8 x9 M
          · refine Tt.go (fun _ => Tr.run 3 (pc' := 75) (lv' := [(0, .ref P), (1, .long x1), (3, .int x3), (4, .int x4), (5, .int x5), (6, .long x6), (8, .int x8), (9, .int x9)]) (st' := [.int x9, .int x8, .ref P]) rfl) ?_
            refine Tt.callV (As := [.int x8, .int x9]) (rest := []) (c_X7_apart g l hl P x8 x9 hP M w) hP (by decide) rfl rfl cw_X7_apart fw1331 pn_X7_apart (Nat.le_of_ble_eq_true rfl) (Nat.le_of_ble_eq_true rfl) (Nat.le_of_ble_eq_true rfl) rfl (fun v4 => (?_ : Tt g l z_X7_treeOf (emJ M w) _ 78 [(0, .ref P), (1, .long x1), (3, .int x3), (4, .int x4), (5, .int x5), (6, .long x6), (8, .int x8), (9, .int x9)] [.long v4] (M, w)))
            refine Tt.go (fun _ => Tr.run 2 (pc' := 81) (lv' := [(0, .ref P), (1, .long x1), (3, .int x3), (4, .int x4), (5, .int x5), (6, .long x6), (8, .int x8), (9, .int x9)]) (st' := [.int (lg_cmp v4 x6)]) rfl) ?_
            refine Tt.if_lt (tgt := 87) rfl (by decide) ?_ ?_
            · refine Tt.go (fun _ => Tr.sub (lv' := [(0, .ref P), (1, .long x1), (3, .int x3), (4, .int x4), (8, .int x8), (9, .int x9)]) [0, 1, 2, 3, 6, 7] rfl) ?_
              exact t_X7_treeOf_87 g l hl P hP w k7 hk7 k25 hk25 _ ih x1 x3 x4 x8 x9 M
            · refine Tt.go (fun _ => Tr.run 1 (pc' := 101) (lv' := [(0, .ref P), (1, .long x1), (3, .int x3), (4, .int x4), (5, .int x5), (6, .long x6), (8, .int x8), (9, .int x9)]) (st' := []) rfl) ?_
              exact t_X7_treeOf_101 g l hl P hP w k7 hk7 k25 hk25 _ ih x1 x3 x4 x5 x6 x8 x9 M
        · exact t_X7_treeOf_101 g l hl P hP w k7 hk7 k25 hk25 _ ih x1 x3 x4 x5 x6 x8 x9 M
def f_X7_treeOf_25 (P : Nat) (k7 : Int64 → Int32 → Int32 → fm_Mem → Option (Int64)) : Nat → Int64 → Int32 → Int32 → Int32 → Int64 → Int32 → fm_Mem → Option (Int64)
  | 0, _, _, _, _, _, _, _ => none
  | n + 1, x1, x3, x4, x5, x6, x8, M => Option.bind (f_X7_points P M) (fun v1 => if v1 ≤ x8 then (k7 (x1 + x6) (x3 ||| ((1 : Int32) <<< (x5 &&& 31))) (x4 + (1 : Int32)) M) else (f_X7_treeOf_37 P k7 (fun x1 x3 x4 x5 x6 x8 M => f_X7_treeOf_25 P k7 n x1 x3 x4 x5 x6 x8 M) fm_fuel x1 x3 x4 x5 x6 x8 (0 : Int32) M))
set_option maxRecDepth 100000 in
set_option maxHeartbeats 4000000 in
theorem t_X7_treeOf_25 (g : fm_G) (l : Launch) (hl : l.stackTraces = false) (P : Nat) (hP : fm_kd g P = 7) (w : fm_W) (k7 : Int64 → Int32 → Int32 → fm_Mem → Option (Int64)) (hk7 : ∀ (x1 : Int64) (x3 : Int32) (x4 : Int32) (M : fm_Mem), Tt g l z_X7_treeOf (emJ M w) (k7 x1 x3 x4 M) 7 [(0, .ref P), (1, .long x1), (3, .int x3), (4, .int x4)] [] (M, w)) : ∀ (n : Nat) (x1 : Int64) (x3 : Int32) (x4 : Int32) (x5 : Int32) (x6 : Int64) (x8 : Int32)  (M : fm_Mem), Tt g l z_X7_treeOf (emJ M w) (f_X7_treeOf_25 P k7 n x1 x3 x4 x5 x6 x8 M) 25 [(0, .ref P), (1, .long x1), (3, .int x3), (4, .int x4), (5, .int x5), (6, .long x6), (8, .int x8)] [] (M, w) := by
  intro n
  induction n with
  | zero => intros; exact Tt.none
  | succ n ih =>
    intro x1 x3 x4 x5 x6 x8  M
    rw [f_X7_treeOf_25]
    refine Tt.go (fun _ => Tr.run 2 (pc' := 28) (lv' := [(0, .ref P), (1, .long x1), (3, .int x3), (4, .int x4), (5, .int x5), (6, .long x6), (8, .int x8)]) (st' := [.ref P, .int x8]) rfl) ?_
    refine Tt.callV (As := []) (rest := [.int x8]) (c_X7_points g l hl P hP M w) hP (by decide) rfl rfl cw_X7_points fw1156 pn_X7_points (Nat.le_of_ble_eq_true rfl) (Nat.le_of_ble_eq_true rfl) (Nat.le_of_ble_eq_true rfl) rfl (fun v1 => (?_ : Tt g l z_X7_treeOf (emJ M w) _ 31 [(0, .ref P), (1, .long x1), (3, .int x3), (4, .int x4), (5, .int x5), (6, .long x6), (8, .int x8)] [.int v1, .int x8] (M, w)))
    refine Tt.ic_ge (tgt := 113) rfl (by decide) ?_ ?_
    · refine Tt.go (fun _ => Tr.run 12 (pc' := 7) (lv' := [(4, .int (x4 + (1 : Int32))), (1, .long (x1 + x6)), (3, .int (x3 ||| ((1 : Int32) <<< (x5 &&& 31)))), (0, .ref P), (5, .int x5), (6, .long x6), (8, .int x8)]) (st' := []) rfl) ?_
      refine Tt.go (fun _ => Tr.sub (lv' := [(0, .ref P), (1, .long (x1 + x6)), (3, .int (x3 ||| ((1 : Int32) <<< (x5 &&& 31)))), (4, .int (x4 + (1 : Int32)))]) [3, 1, 2, 0] rfl) ?_
      exact hk7 (x1 + x6) (x3 ||| ((1 : Int32) <<< (x5 &&& 31))) (x4 + (1 : Int32)) M
    · refine Tt.go (fun _ => Tr.run 2 (pc' := 37) (lv' := [(9, .int (0 : Int32)), (0, .ref P), (1, .long x1), (3, .int x3), (4, .int x4), (5, .int x5), (6, .long x6), (8, .int x8)]) (st' := []) rfl) ?_
      refine Tt.go (fun _ => Tr.sub (lv' := [(0, .ref P), (1, .long x1), (3, .int x3), (4, .int x4), (5, .int x5), (6, .long x6), (8, .int x8), (9, .int (0 : Int32))]) [1, 2, 3, 4, 5, 6, 7, 0] rfl) ?_
      exact t_X7_treeOf_37 g l hl P hP w k7 hk7 _ ih fm_fuel x1 x3 x4 x5 x6 x8 (0 : Int32) M
def f_X7_treeOf_7 (P : Nat) : Nat → Int64 → Int32 → Int32 → fm_Mem → Option (Int64)
  | 0, _, _, _, _ => none
  | n + 1, x1, x3, x4, M => Option.bind (f_X7_points P M) (fun v1 => if v1 ≤ x4 then (some (x1)) else (f_X7_treeOf_25 P (fun x1 x3 x4 M => f_X7_treeOf_7 P n x1 x3 x4 M) fm_fuel x1 x3 x4 (-1 : Int32) (0 : Int64) (0 : Int32) M))
set_option maxRecDepth 100000 in
set_option maxHeartbeats 4000000 in
theorem t_X7_treeOf_7 (g : fm_G) (l : Launch) (hl : l.stackTraces = false) (P : Nat) (hP : fm_kd g P = 7) (w : fm_W)  : ∀ (n : Nat) (x1 : Int64) (x3 : Int32) (x4 : Int32)  (M : fm_Mem), Tt g l z_X7_treeOf (emJ M w) (f_X7_treeOf_7 P  n x1 x3 x4 M) 7 [(0, .ref P), (1, .long x1), (3, .int x3), (4, .int x4)] [] (M, w) := by
  intro n
  induction n with
  | zero => intros; exact Tt.none
  | succ n ih =>
    intro x1 x3 x4  M
    rw [f_X7_treeOf_7]
    refine Tt.go (fun _ => Tr.run 2 (pc' := 10) (lv' := [(0, .ref P), (1, .long x1), (3, .int x3), (4, .int x4)]) (st' := [.ref P, .int x4]) rfl) ?_
    refine Tt.callV (As := []) (rest := [.int x4]) (c_X7_points g l hl P hP M w) hP (by decide) rfl rfl cw_X7_points fw1156 pn_X7_points (Nat.le_of_ble_eq_true rfl) (Nat.le_of_ble_eq_true rfl) (Nat.le_of_ble_eq_true rfl) rfl (fun v1 => (?_ : Tt g l z_X7_treeOf (emJ M w) _ 13 [(0, .ref P), (1, .long x1), (3, .int x3), (4, .int x4)] [.int v1, .int x4] (M, w)))
    refine Tt.ic_ge (tgt := 131) rfl (by decide) ?_ ?_
    · refine Tt.go (fun _ => Tr.run 1 (pc' := 132) (lv' := [(0, .ref P), (1, .long x1), (3, .int x3), (4, .int x4)]) (st' := [.long x1]) rfl) ?_
      exact Tt.ret (Tr.lret rfl rfl)
    · refine Tt.go (fun _ => Tr.run 6 (pc' := 25) (lv' := [(8, .int (0 : Int32)), (6, .long (0 : Int64)), (5, .int (-1 : Int32)), (0, .ref P), (1, .long x1), (3, .int x3), (4, .int x4)]) (st' := []) rfl) ?_
      refine Tt.go (fun _ => Tr.sub (lv' := [(0, .ref P), (1, .long x1), (3, .int x3), (4, .int x4), (5, .int (-1 : Int32)), (6, .long (0 : Int64)), (8, .int (0 : Int32))]) [3, 4, 5, 6, 2, 1, 0] rfl) ?_
      exact t_X7_treeOf_25 g l hl P hP w _ ih fm_fuel x1 x3 x4 (-1 : Int32) (0 : Int64) (0 : Int32) M
def f_X7_treeOf (P : Nat) (M : fm_Mem) : Option (Int64) := (f_X7_treeOf_7 P fm_fuel (0 : Int64) (1 : Int32) (1 : Int32) M)
set_option maxRecDepth 100000 in
set_option maxHeartbeats 4000000 in
theorem t_X7_treeOf (g : fm_G) (l : Launch) (hl : l.stackTraces = false) (P : Nat) (hP : fm_kd g P = 7) (M : fm_Mem) (w : fm_W) : Tt g l z_X7_treeOf (emJ M w) (f_X7_treeOf P M) 0 [(0, .ref P)] [] (M, w) := by
  rw [f_X7_treeOf]
  refine Tt.go (fun _ => Tr.run 6 (pc' := 7) (lv' := [(4, .int (1 : Int32)), (3, .int (1 : Int32)), (1, .long (0 : Int64)), (0, .ref P)]) (st' := []) rfl) ?_
  refine Tt.go (fun _ => Tr.sub (lv' := [(0, .ref P), (1, .long (0 : Int64)), (3, .int (1 : Int32)), (4, .int (1 : Int32))]) [3, 2, 1, 0] rfl) ?_
  exact t_X7_treeOf_7 g l hl P hP w fm_fuel (0 : Int64) (1 : Int32) (1 : Int32) M
theorem c_X7_treeOf (g : fm_G) (l : Launch) (hl : l.stackTraces = false) (P : Nat) (hP : fm_kd g P = 7) (M : fm_Mem) (w : fm_W) : ∀ r, f_X7_treeOf P M = some r → fC g l z_X7_treeOf [.ref P] (M, w) (emJ M w r) := fun r hr => fC.of (by decide) rfl o_X7_treeOf hl (Nat.le_of_ble_eq_true rfl) (t_X7_treeOf g l hl P hP M w r hr)
