theorem fw1135 : Cond.methodLink "CircleFlipsModel" 99 ⟨"CircleFlipsModel", "put0", "(II)V"⟩ ∈ lw_all := lw_in 1135 (by decide +kernel) (by decide +kernel)
theorem fw1181 : Cond.methodLink "CircleFlipsModel" 96 ⟨"CircleFlipsModel", "laysDue", "()V"⟩ ∈ lw_all := lw_in 1181 (by decide +kernel) (by decide +kernel)
theorem fw1219 : Cond.methodLink "CircleFlipsModel" 115 ⟨"CircleFlipsModel", "edgeMany", "(ZII)I"⟩ ∈ lw_all := lw_in 1219 (by decide +kernel) (by decide +kernel)
theorem fw1223 : Cond.methodLink "CircleFlipsModel" 107 ⟨"CircleFlipsModel", "many", "(Z)I"⟩ ∈ lw_all := lw_in 1223 (by decide +kernel) (by decide +kernel)
theorem fw1227 : Cond.methodLink "CircleFlipsModel" 111 ⟨"CircleFlipsModel", "has", "(ZII)Z"⟩ ∈ lw_all := lw_in 1227 (by decide +kernel) (by decide +kernel)
theorem fw1231 : Cond.methodLink "CircleFlipsModel" 103 ⟨"CircleFlipsModel", "endOf", "(ZII)I"⟩ ∈ lw_all := lw_in 1231 (by decide +kernel) (by decide +kernel)
theorem fw1235 : Cond.methodLink "CircleFlipsModel" 118 ⟨"CircleFlipsModel", "third", "(III)I"⟩ ∈ lw_all := lw_in 1235 (by decide +kernel) (by decide +kernel)
theorem fw1243 : Cond.methodLink "CircleFlipsModel" 148 ⟨"CircleFlipsModel", "triangleWith", "(III)I"⟩ ∈ lw_all := lw_in 1243 (by decide +kernel) (by decide +kernel)
theorem fw1247 : Cond.methodLink "CircleFlipsModel" 151 ⟨"CircleFlipsModel", "becomes", "(IIII)V"⟩ ∈ lw_all := lw_in 1247 (by decide +kernel) (by decide +kernel)
theorem fw1251 : Cond.methodLink "CircleFlipsModel" 126 ⟨"java/lang/Math", "min", "(II)I"⟩ ∈ lw_all := lw_in 1251 (by decide +kernel) (by decide +kernel)
theorem fw1252 : Cond.methodLink "CircleFlipsModel" 132 ⟨"java/lang/Math", "max", "(II)I"⟩ ∈ lw_all := lw_in 1252 (by decide +kernel) (by decide +kernel)
theorem fw1253 : Cond.methodLink "CircleFlipsModel" 135 ⟨"CircleFlipsModel", "lays3", "(IIII)V"⟩ ∈ lw_all := lw_in 1253 (by decide +kernel) (by decide +kernel)
theorem fw1257 : Cond.methodLink "CircleFlipsModel" 139 ⟨"CircleFlipsModel", "isBefore", "(II)Z"⟩ ∈ lw_all := lw_in 1257 (by decide +kernel) (by decide +kernel)
theorem fw1261 : Cond.methodLink "CircleFlipsModel" 145 ⟨"CircleFlipsModel", "codeOf", "(I)I"⟩ ∈ lw_all := lw_in 1261 (by decide +kernel) (by decide +kernel)
theorem fw1265 : Cond.methodLink "CircleFlipsModel" 142 ⟨"CircleFlipsModel", "swaps", "(II)V"⟩ ∈ lw_all := lw_in 1265 (by decide +kernel) (by decide +kernel)
theorem fw1281 : Cond.methodLink "CircleFlipsModel" 122 ⟨"CircleFlipsModel", "isBad", "(II)Z"⟩ ∈ lw_all := lw_in 1281 (by decide +kernel) (by decide +kernel)
def k_X7_drawsAnew : List (Nat × Instr × Nat) := [(0, .aload_n 0, 1), (1, .invokevirtual 96, 3), (4, .aload_n 0, 1), (5, .iconst 1, 1), (6, .aload_n 0, 1), (7, .getfield 86, 3), (10, .invokevirtual 99, 3), (13, .iconst 0, 1), (14, .istore_n 1, 1), (15, .iload_n 1, 1), (16, .iconst 3, 1), (17, .aload_n 0, 1), (18, .getfield 86, 3), (21, .imul, 1), (22, .if_icmp .ge 23, 3), (25, .aload_n 0, 1), (26, .bipush 60, 2), (28, .iload_n 1, 1), (29, .iadd, 1), (30, .aload_n 0, 1), (31, .getfield 16, 3), (34, .iload_n 1, 1), (35, .iaload, 1), (36, .invokevirtual 99, 3), (39, .iinc 1 1, 3), (42, .goto (-27), 3), (45, .return_, 1)]
def z_X7_drawsAnew : fm_Y := (yX7_drawsAnew, RX7, cX7_drawsAnew, 2, none, k_X7_drawsAnew, 7, 194)
theorem o_X7_drawsAnew : fm_dec z_X7_drawsAnew := (by decide +kernel : ∀ q ∈ k_X7_drawsAnew, decode cX7_drawsAnew q.1 = .ok q.2)
theorem cw_X7_drawsAnew : fm_cwV z_X7_drawsAnew := ⟨⟨lw_in 1180 (by decide +kernel) (by decide +kernel), lw_in 99 (by decide +kernel) (by decide +kernel), by decide, by decide⟩, lw_in 1179 (by decide +kernel) (by decide +kernel), lw_in 44 (by decide +kernel) (by decide +kernel)⟩
theorem pn_X7_drawsAnew : (parseMethodDescriptor z_X7_drawsAnew.1.desc).map (fun d => d.parameters.length) = some 0 := by decide +kernel
def f_X7_drawsAnew_15 (P : Nat) : Nat → Int32 → fm_Mem → Option (fm_Mem)
  | 0, _, _ => none
  | n + 1, x1, M => if ((3 : Int32) * (M P 8)) ≤ x1 then (some (M)) else (fm_ck (fm_in x1 120) (Option.bind (f_X7_put0 P ((60 : Int32) + x1) (M (P + 3) (Int32.toNatClampNeg x1)) M) (fun v2 => (f_X7_drawsAnew_15 P n (x1 + (1 : Int32)) v2))))
set_option maxRecDepth 100000 in
set_option maxHeartbeats 4000000 in
theorem t_X7_drawsAnew_15 (g : fm_G) (l : Launch) (hl : l.stackTraces = false) (P : Nat) (hP : fm_kd g P = 7) (w : fm_W) (M0 : fm_Mem)  : ∀ (n : Nat) (x1 : Int32)  (M : fm_Mem), Tt g l z_X7_drawsAnew (emVw M0 w) (f_X7_drawsAnew_15 P  n x1 M) 15 [(0, .ref P), (1, .int x1)] [] (M, w) := by
  intro n
  induction n with
  | zero => intros; exact Tt.none
  | succ n ih =>
    intro x1  M
    rw [f_X7_drawsAnew_15]
    refine Tt.go (fun _ => Tr.run 3 (pc' := 18) (lv' := [(0, .ref P), (1, .int x1)]) (st' := [.ref P, .int (3 : Int32), .int x1]) rfl) ?_
    refine Tt.go (fun _ => Tr.get fmc7 hP rfl fw1032 (k := 8) (by decide) rfl) (?_ : Tt g l z_X7_drawsAnew (emVw M0 w) _ 21 [(0, .ref P), (1, .int x1)] [.int (M P 8), .int (3 : Int32), .int x1] (M, w))
    refine Tt.go (fun _ => Tr.run 1 (pc' := 22) (lv' := [(0, .ref P), (1, .int x1)]) (st' := [.int ((3 : Int32) * (M P 8)), .int x1]) rfl) ?_
    refine Tt.ic_ge (tgt := 45) rfl (by decide) ?_ ?_
    · exact Tt.ret (Tr.vret rfl rfl)
    · refine Tt.go (fun _ => Tr.run 5 (pc' := 31) (lv' := [(0, .ref P), (1, .int x1)]) (st' := [.ref P, .int ((60 : Int32) + x1), .ref P]) rfl) ?_
      refine Tt.go (fun _ => Tr.get fmc7 hP rfl fw1029 (k := 5) (by decide) rfl) (?_ : Tt g l z_X7_drawsAnew (emVw M0 w) _ 34 [(0, .ref P), (1, .int x1)] [.ref (P + 3), .int ((60 : Int32) + x1), .ref P] (M, w))
      refine Tt.go (fun _ => Tr.run 1 (pc' := 35) (lv' := [(0, .ref P), (1, .int x1)]) (st' := [.int x1, .ref (P + 3), .int ((60 : Int32) + x1), .ref P]) rfl) ?_
      refine Tt.ck (fun hi_1 => ?_)
      refine Tt.go (fun _ => Tr.iald (fmk_7_5 hP) (by decide) hi_1 rfl) (?_ : Tt g l z_X7_drawsAnew (emVw M0 w) _ 36 [(0, .ref P), (1, .int x1)] [.int (M (P + 3) (Int32.toNatClampNeg x1)), .int ((60 : Int32) + x1), .ref P] (M, w))
      refine Tt.callV (As := [.int ((60 : Int32) + x1), .int (M (P + 3) (Int32.toNatClampNeg x1))]) (rest := []) (c_X7_put0 g l hl P ((60 : Int32) + x1) (M (P + 3) (Int32.toNatClampNeg x1)) hP M w) hP (by decide) rfl rfl cw_X7_put0 fw1135 pn_X7_put0 (Nat.le_of_ble_eq_true rfl) (Nat.le_of_ble_eq_true rfl) (Nat.le_of_ble_eq_true rfl) rfl (fun v2 => (?_ : Tt g l z_X7_drawsAnew (emVw M0 w) _ 39 [(0, .ref P), (1, .int x1)] [] (v2, w)))
      refine Tt.go (fun _ => Tr.run 2 (pc' := 15) (lv' := [(1, .int (x1 + (1 : Int32))), (0, .ref P)]) (st' := []) rfl) ?_
      refine Tt.go (fun _ => Tr.sub (lv' := [(0, .ref P), (1, .int (x1 + (1 : Int32)))]) [1, 0] rfl) ?_
      exact ih (x1 + (1 : Int32)) v2
def f_X7_drawsAnew (P : Nat) (M : fm_Mem) : Option (fm_Mem) := Option.bind (f_X7_laysDue P M) (fun v1 => Option.bind (f_X7_put0 P (1 : Int32) (v1 P 8) v1) (fun v2 => (f_X7_drawsAnew_15 P fm_fuel (0 : Int32) v2)))
set_option maxRecDepth 100000 in
set_option maxHeartbeats 4000000 in
theorem t_X7_drawsAnew (g : fm_G) (l : Launch) (hl : l.stackTraces = false) (P : Nat) (hP : fm_kd g P = 7) (M : fm_Mem) (w : fm_W) : Tt g l z_X7_drawsAnew (emVw M w) (f_X7_drawsAnew P M) 0 [(0, .ref P)] [] (M, w) := by
  rw [f_X7_drawsAnew]
  refine Tt.go (fun _ => Tr.run 1 (pc' := 1) (lv' := [(0, .ref P)]) (st' := [.ref P]) rfl) ?_
  refine Tt.callV (As := []) (rest := []) (c_X7_laysDue g l hl P hP M w) hP (by decide) rfl rfl cw_X7_laysDue fw1181 pn_X7_laysDue (Nat.le_of_ble_eq_true rfl) (Nat.le_of_ble_eq_true rfl) (Nat.le_of_ble_eq_true rfl) rfl (fun v1 => (?_ : Tt g l z_X7_drawsAnew (emVw M w) _ 4 [(0, .ref P)] [] (v1, w)))
  refine Tt.go (fun _ => Tr.run 3 (pc' := 7) (lv' := [(0, .ref P)]) (st' := [.ref P, .int (1 : Int32), .ref P]) rfl) ?_
  refine Tt.go (fun _ => Tr.get fmc7 hP rfl fw1032 (k := 8) (by decide) rfl) (?_ : Tt g l z_X7_drawsAnew (emVw M w) _ 10 [(0, .ref P)] [.int (v1 P 8), .int (1 : Int32), .ref P] (v1, w))
  refine Tt.callV (As := [.int (1 : Int32), .int (v1 P 8)]) (rest := []) (c_X7_put0 g l hl P (1 : Int32) (v1 P 8) hP v1 w) hP (by decide) rfl rfl cw_X7_put0 fw1135 pn_X7_put0 (Nat.le_of_ble_eq_true rfl) (Nat.le_of_ble_eq_true rfl) (Nat.le_of_ble_eq_true rfl) rfl (fun v2 => (?_ : Tt g l z_X7_drawsAnew (emVw M w) _ 13 [(0, .ref P)] [] (v2, w)))
  refine Tt.go (fun _ => Tr.run 2 (pc' := 15) (lv' := [(1, .int (0 : Int32)), (0, .ref P)]) (st' := []) rfl) ?_
  refine Tt.go (fun _ => Tr.sub (lv' := [(0, .ref P), (1, .int (0 : Int32))]) [1, 0] rfl) ?_
  exact t_X7_drawsAnew_15 g l hl P hP w M fm_fuel (0 : Int32) v2
theorem c_X7_drawsAnew (g : fm_G) (l : Launch) (hl : l.stackTraces = false) (P : Nat) (hP : fm_kd g P = 7) (M : fm_Mem) (w : fm_W) : ∀ r, f_X7_drawsAnew P M = some r → fC g l z_X7_drawsAnew [.ref P] (M, w) (emVw M w r) := fun r hr => fC.of (by decide) rfl o_X7_drawsAnew hl (Nat.le_of_ble_eq_true rfl) (t_X7_drawsAnew g l hl P hP M w r hr)
def k_X7_many : List (Nat × Instr × Nat) := [(0, .iload_n 1, 1), (1, .ifCond .eq 7, 3), (4, .aload_n 0, 1), (5, .invokevirtual 96, 3), (8, .iload_n 1, 1), (9, .ifCond .eq 10, 3), (12, .aload_n 0, 1), (13, .getfield 86, 3), (16, .goto 8, 3), (19, .aload_n 0, 1), (20, .iconst 1, 1), (21, .invokevirtual 41, 3), (24, .ireturn, 1)]
def z_X7_many : fm_Y := (yX7_many, RX7, cX7_many, 2, (some .int), k_X7_many, 7, 194)
theorem o_X7_many : fm_dec z_X7_many := (by decide +kernel : ∀ q ∈ k_X7_many, decode cX7_many q.1 = .ok q.2)
theorem cw_X7_many : fm_cwV z_X7_many := ⟨⟨lw_in 1226 (by decide +kernel) (by decide +kernel), lw_in 99 (by decide +kernel) (by decide +kernel), by decide, by decide⟩, lw_in 1225 (by decide +kernel) (by decide +kernel), lw_in 54 (by decide +kernel) (by decide +kernel)⟩
theorem pn_X7_many : (parseMethodDescriptor z_X7_many.1.desc).map (fun d => d.parameters.length) = some 1 := by decide +kernel
def f_X7_many_24 (P : Nat) (a1 : Int32) (s0 : Int32) (M : fm_Mem) : Option (Int32 × fm_Mem) := some ((s0, M))
set_option maxRecDepth 100000 in
set_option maxHeartbeats 4000000 in
theorem t_X7_many_24 (g : fm_G) (l : Launch) (hl : l.stackTraces = false) (P : Nat) (a1 : Int32) (hP : fm_kd g P = 7) (w : fm_W) (M0 : fm_Mem)  (s0 : Int32)  (M : fm_Mem) : Tt g l z_X7_many (emIw M0 w) (f_X7_many_24 P a1  s0 M) 24 [] [.int s0] (M, w) := by
  rw [f_X7_many_24]
  exact Tt.ret (Tr.iret rfl rfl)
def f_X7_many_8 (P : Nat) (a1 : Int32)  (M : fm_Mem) : Option (Int32 × fm_Mem) := if a1 = 0 then (Option.bind (f_X7_get P (1 : Int32) M) (fun v1 => (f_X7_many_24 P a1 v1 M))) else (f_X7_many_24 P a1 (M P 8) M)
set_option maxRecDepth 100000 in
set_option maxHeartbeats 4000000 in
theorem t_X7_many_8 (g : fm_G) (l : Launch) (hl : l.stackTraces = false) (P : Nat) (a1 : Int32) (hP : fm_kd g P = 7) (w : fm_W) (M0 : fm_Mem)    (M : fm_Mem) : Tt g l z_X7_many (emIw M0 w) (f_X7_many_8 P a1   M) 8 [(0, .ref P), (1, .int a1)] [] (M, w) := by
  rw [f_X7_many_8]
  refine Tt.go (fun _ => Tr.run 1 (pc' := 9) (lv' := [(0, .ref P), (1, .int a1)]) (st' := [.int a1]) rfl) ?_
  refine Tt.if_eq (tgt := 19) rfl (by decide) ?_ ?_
  · refine Tt.go (fun _ => Tr.run 2 (pc' := 21) (lv' := [(0, .ref P), (1, .int a1)]) (st' := [.int (1 : Int32), .ref P]) rfl) ?_
    refine Tt.callV (As := [.int (1 : Int32)]) (rest := []) (c_X7_get g l hl P (1 : Int32) hP M w) hP (by decide) rfl rfl cw_X7_get fw1109 pn_X7_get (Nat.le_of_ble_eq_true rfl) (Nat.le_of_ble_eq_true rfl) (Nat.le_of_ble_eq_true rfl) rfl (fun v1 => (?_ : Tt g l z_X7_many (emIw M0 w) _ 24 [(0, .ref P), (1, .int a1)] [.int v1] (M, w)))
    refine Tt.go (fun _ => Tr.sub (lv' := []) [] rfl) ?_
    exact t_X7_many_24 g l hl P a1 hP w M0 v1 M
  · refine Tt.go (fun _ => Tr.run 1 (pc' := 13) (lv' := [(0, .ref P), (1, .int a1)]) (st' := [.ref P]) rfl) ?_
    refine Tt.go (fun _ => Tr.get fmc7 hP rfl fw1032 (k := 8) (by decide) rfl) (?_ : Tt g l z_X7_many (emIw M0 w) _ 16 [(0, .ref P), (1, .int a1)] [.int (M P 8)] (M, w))
    refine Tt.go (fun _ => Tr.run 1 (pc' := 24) (lv' := [(0, .ref P), (1, .int a1)]) (st' := [.int (M P 8)]) rfl) ?_
    refine Tt.go (fun _ => Tr.sub (lv' := []) [] rfl) ?_
    exact t_X7_many_24 g l hl P a1 hP w M0 (M P 8) M
def f_X7_many (P : Nat) (a1 : Int32) (M : fm_Mem) : Option (Int32 × fm_Mem) := if a1 = 0 then (f_X7_many_8 P a1 M) else (Option.bind (f_X7_laysDue P M) (fun v1 => (f_X7_many_8 P a1 v1)))
set_option maxRecDepth 100000 in
set_option maxHeartbeats 4000000 in
theorem t_X7_many (g : fm_G) (l : Launch) (hl : l.stackTraces = false) (P : Nat) (a1 : Int32) (hP : fm_kd g P = 7) (M : fm_Mem) (w : fm_W) : Tt g l z_X7_many (emIw M w) (f_X7_many P a1 M) 0 [(0, .ref P), (1, .int a1)] [] (M, w) := by
  rw [f_X7_many]
  refine Tt.go (fun _ => Tr.run 1 (pc' := 1) (lv' := [(0, .ref P), (1, .int a1)]) (st' := [.int a1]) rfl) ?_
  refine Tt.if_eq (tgt := 8) rfl (by decide) ?_ ?_
  · exact t_X7_many_8 g l hl P a1 hP w M M
  · refine Tt.go (fun _ => Tr.run 1 (pc' := 5) (lv' := [(0, .ref P), (1, .int a1)]) (st' := [.ref P]) rfl) ?_
    refine Tt.callV (As := []) (rest := []) (c_X7_laysDue g l hl P hP M w) hP (by decide) rfl rfl cw_X7_laysDue fw1181 pn_X7_laysDue (Nat.le_of_ble_eq_true rfl) (Nat.le_of_ble_eq_true rfl) (Nat.le_of_ble_eq_true rfl) rfl (fun v1 => (?_ : Tt g l z_X7_many (emIw M w) _ 8 [(0, .ref P), (1, .int a1)] [] (v1, w)))
    exact t_X7_many_8 g l hl P a1 hP w M v1
theorem c_X7_many (g : fm_G) (l : Launch) (hl : l.stackTraces = false) (P : Nat) (a1 : Int32) (hP : fm_kd g P = 7) (M : fm_Mem) (w : fm_W) : ∀ r, f_X7_many P a1 M = some r → fC g l z_X7_many [.ref P, .int a1] (M, w) (emIw M w r) := fun r hr => fC.of (by decide) rfl o_X7_many hl (Nat.le_of_ble_eq_true rfl) (t_X7_many g l hl P a1 hP M w r hr)
def k_X7_endOf : List (Nat × Instr × Nat) := [(0, .iload_n 1, 1), (1, .ifCond .eq 16, 3), (4, .aload_n 0, 1), (5, .getfield 16, 3), (8, .iconst 3, 1), (9, .iload_n 2, 1), (10, .imul, 1), (11, .iload_n 3, 1), (12, .iadd, 1), (13, .iaload, 1), (14, .goto 15, 3), (17, .aload_n 0, 1), (18, .bipush 60, 2), (20, .iconst 3, 1), (21, .iload_n 2, 1), (22, .imul, 1), (23, .iadd, 1), (24, .iload_n 3, 1), (25, .iadd, 1), (26, .invokevirtual 41, 3), (29, .ireturn, 1)]
def z_X7_endOf : fm_Y := (yX7_endOf, RX7, cX7_endOf, 4, (some .int), k_X7_endOf, 1, 21)
theorem o_X7_endOf : fm_dec z_X7_endOf := (by decide +kernel : ∀ q ∈ k_X7_endOf, decode cX7_endOf q.1 = .ok q.2)
theorem cw_X7_endOf : fm_cwV z_X7_endOf := ⟨⟨lw_in 1234 (by decide +kernel) (by decide +kernel), lw_in 99 (by decide +kernel) (by decide +kernel), by decide, by decide⟩, lw_in 1233 (by decide +kernel) (by decide +kernel), lw_in 56 (by decide +kernel) (by decide +kernel)⟩
theorem pn_X7_endOf : (parseMethodDescriptor z_X7_endOf.1.desc).map (fun d => d.parameters.length) = some 3 := by decide +kernel
def f_X7_endOf_29 (P : Nat) (a1 : Int32) (a2 : Int32) (a3 : Int32) (s0 : Int32) (M : fm_Mem) : Option (Int32) := some (s0)
set_option maxRecDepth 100000 in
set_option maxHeartbeats 4000000 in
theorem t_X7_endOf_29 (g : fm_G) (l : Launch) (hl : l.stackTraces = false) (P : Nat) (a1 : Int32) (a2 : Int32) (a3 : Int32) (hP : fm_kd g P = 7) (w : fm_W)  (s0 : Int32)  (M : fm_Mem) : Tt g l z_X7_endOf (emI M w) (f_X7_endOf_29 P a1 a2 a3  s0 M) 29 [] [.int s0] (M, w) := by
  rw [f_X7_endOf_29]
  exact Tt.ret (Tr.iret rfl rfl)
def f_X7_endOf (P : Nat) (a1 : Int32) (a2 : Int32) (a3 : Int32) (M : fm_Mem) : Option (Int32) := if a1 = 0 then (Option.bind (f_X7_get P (((60 : Int32) + ((3 : Int32) * a2)) + a3) M) (fun v1 => (f_X7_endOf_29 P a1 a2 a3 v1 M))) else (fm_ck (fm_in (((3 : Int32) * a2) + a3) 120) (f_X7_endOf_29 P a1 a2 a3 (M (P + 3) (Int32.toNatClampNeg (((3 : Int32) * a2) + a3))) M))
set_option maxRecDepth 100000 in
set_option maxHeartbeats 4000000 in
theorem t_X7_endOf (g : fm_G) (l : Launch) (hl : l.stackTraces = false) (P : Nat) (a1 : Int32) (a2 : Int32) (a3 : Int32) (hP : fm_kd g P = 7) (M : fm_Mem) (w : fm_W) : Tt g l z_X7_endOf (emI M w) (f_X7_endOf P a1 a2 a3 M) 0 [(0, .ref P), (1, .int a1), (2, .int a2), (3, .int a3)] [] (M, w) := by
  rw [f_X7_endOf]
  refine Tt.go (fun _ => Tr.run 1 (pc' := 1) (lv' := [(0, .ref P), (1, .int a1), (2, .int a2), (3, .int a3)]) (st' := [.int a1]) rfl) ?_
  refine Tt.if_eq (tgt := 17) rfl (by decide) ?_ ?_
  · refine Tt.go (fun _ => Tr.run 8 (pc' := 26) (lv' := [(0, .ref P), (1, .int a1), (2, .int a2), (3, .int a3)]) (st' := [.int (((60 : Int32) + ((3 : Int32) * a2)) + a3), .ref P]) rfl) ?_
    refine Tt.callV (As := [.int (((60 : Int32) + ((3 : Int32) * a2)) + a3)]) (rest := []) (c_X7_get g l hl P (((60 : Int32) + ((3 : Int32) * a2)) + a3) hP M w) hP (by decide) rfl rfl cw_X7_get fw1109 pn_X7_get (Nat.le_of_ble_eq_true rfl) (Nat.le_of_ble_eq_true rfl) (Nat.le_of_ble_eq_true rfl) rfl (fun v1 => (?_ : Tt g l z_X7_endOf (emI M w) _ 29 [(0, .ref P), (1, .int a1), (2, .int a2), (3, .int a3)] [.int v1] (M, w)))
    refine Tt.go (fun _ => Tr.sub (lv' := []) [] rfl) ?_
    exact t_X7_endOf_29 g l hl P a1 a2 a3 hP w v1 M
  · refine Tt.go (fun _ => Tr.run 1 (pc' := 5) (lv' := [(0, .ref P), (1, .int a1), (2, .int a2), (3, .int a3)]) (st' := [.ref P]) rfl) ?_
    refine Tt.go (fun _ => Tr.get fmc7 hP rfl fw1029 (k := 5) (by decide) rfl) (?_ : Tt g l z_X7_endOf (emI M w) _ 8 [(0, .ref P), (1, .int a1), (2, .int a2), (3, .int a3)] [.ref (P + 3)] (M, w))
    refine Tt.go (fun _ => Tr.run 5 (pc' := 13) (lv' := [(0, .ref P), (1, .int a1), (2, .int a2), (3, .int a3)]) (st' := [.int (((3 : Int32) * a2) + a3), .ref (P + 3)]) rfl) ?_
    refine Tt.ck (fun hi_2 => ?_)
    refine Tt.go (fun _ => Tr.iald (fmk_7_5 hP) (by decide) hi_2 rfl) (?_ : Tt g l z_X7_endOf (emI M w) _ 14 [(0, .ref P), (1, .int a1), (2, .int a2), (3, .int a3)] [.int (M (P + 3) (Int32.toNatClampNeg (((3 : Int32) * a2) + a3)))] (M, w))
    refine Tt.go (fun _ => Tr.run 1 (pc' := 29) (lv' := [(0, .ref P), (1, .int a1), (2, .int a2), (3, .int a3)]) (st' := [.int (M (P + 3) (Int32.toNatClampNeg (((3 : Int32) * a2) + a3)))]) rfl) ?_
    refine Tt.go (fun _ => Tr.sub (lv' := []) [] rfl) ?_
    exact t_X7_endOf_29 g l hl P a1 a2 a3 hP w (M (P + 3) (Int32.toNatClampNeg (((3 : Int32) * a2) + a3))) M
theorem c_X7_endOf (g : fm_G) (l : Launch) (hl : l.stackTraces = false) (P : Nat) (a1 : Int32) (a2 : Int32) (a3 : Int32) (hP : fm_kd g P = 7) (M : fm_Mem) (w : fm_W) : ∀ r, f_X7_endOf P a1 a2 a3 M = some r → fC g l z_X7_endOf [.ref P, .int a1, .int a2, .int a3] (M, w) (emI M w r) := fun r hr => fC.of (by decide) rfl o_X7_endOf hl (Nat.le_of_ble_eq_true rfl) (t_X7_endOf g l hl P a1 a2 a3 hP M w r hr)
def k_X7_has : List (Nat × Instr × Nat) := [(0, .aload_n 0, 1), (1, .iload_n 1, 1), (2, .iload_n 2, 1), (3, .iconst 0, 1), (4, .invokevirtual 103, 3), (7, .iload_n 3, 1), (8, .if_icmp .eq 25, 3), (11, .aload_n 0, 1), (12, .iload_n 1, 1), (13, .iload_n 2, 1), (14, .iconst 1, 1), (15, .invokevirtual 103, 3), (18, .iload_n 3, 1), (19, .if_icmp .eq 14, 3), (22, .aload_n 0, 1), (23, .iload_n 1, 1), (24, .iload_n 2, 1), (25, .iconst 2, 1), (26, .invokevirtual 103, 3), (29, .iload_n 3, 1), (30, .if_icmp .ne 7, 3), (33, .iconst 1, 1), (34, .goto 4, 3), (37, .iconst 0, 1), (38, .ireturn, 1)]
def z_X7_has : fm_Y := (yX7_has, RX7, cX7_has, 4, (some .boolean), k_X7_has, 2, 44)
theorem o_X7_has : fm_dec z_X7_has := (by decide +kernel : ∀ q ∈ k_X7_has, decode cX7_has q.1 = .ok q.2)
theorem cw_X7_has : fm_cwV z_X7_has := ⟨⟨lw_in 1230 (by decide +kernel) (by decide +kernel), lw_in 99 (by decide +kernel) (by decide +kernel), by decide, by decide⟩, lw_in 1229 (by decide +kernel) (by decide +kernel), lw_in 55 (by decide +kernel) (by decide +kernel)⟩
theorem pn_X7_has : (parseMethodDescriptor z_X7_has.1.desc).map (fun d => d.parameters.length) = some 3 := by decide +kernel
def f_X7_has_38 (P : Nat) (a1 : Int32) (a2 : Int32) (a3 : Int32) (s0 : Int32) (M : fm_Mem) : Option (Int32) := fm_ck (fm_bo s0) (some (s0))
set_option maxRecDepth 100000 in
set_option maxHeartbeats 4000000 in
theorem t_X7_has_38 (g : fm_G) (l : Launch) (hl : l.stackTraces = false) (P : Nat) (a1 : Int32) (a2 : Int32) (a3 : Int32) (hP : fm_kd g P = 7) (w : fm_W)  (s0 : Int32)  (M : fm_Mem) : Tt g l z_X7_has (emI M w) (f_X7_has_38 P a1 a2 a3  s0 M) 38 [] [.int s0] (M, w) := by
  rw [f_X7_has_38]
  exact Tt.ck (fun hb_1 => Tt.ret (Tr.zret rfl rfl hb_1))
def f_X7_has_33 (P : Nat) (a1 : Int32) (a2 : Int32) (a3 : Int32)  (M : fm_Mem) : Option (Int32) := (f_X7_has_38 P a1 a2 a3 (1 : Int32) M)
set_option maxRecDepth 100000 in
set_option maxHeartbeats 4000000 in
theorem t_X7_has_33 (g : fm_G) (l : Launch) (hl : l.stackTraces = false) (P : Nat) (a1 : Int32) (a2 : Int32) (a3 : Int32) (hP : fm_kd g P = 7) (w : fm_W)    (M : fm_Mem) : Tt g l z_X7_has (emI M w) (f_X7_has_33 P a1 a2 a3   M) 33 [] [] (M, w) := by
  rw [f_X7_has_33]
  refine Tt.go (fun _ => Tr.run 2 (pc' := 38) (lv' := []) (st' := [.int (1 : Int32)]) rfl) ?_
  exact t_X7_has_38 g l hl P a1 a2 a3 hP w (1 : Int32) M
def f_X7_has (P : Nat) (a1 : Int32) (a2 : Int32) (a3 : Int32) (M : fm_Mem) : Option (Int32) := Option.bind (f_X7_endOf P a1 a2 (0 : Int32) M) (fun v1 => if v1 = a3 then (f_X7_has_33 P a1 a2 a3 M) else (Option.bind (f_X7_endOf P a1 a2 (1 : Int32) M) (fun v2 => if v2 = a3 then (f_X7_has_33 P a1 a2 a3 M) else (Option.bind (f_X7_endOf P a1 a2 (2 : Int32) M) (fun v3 => if v3 = a3 then (f_X7_has_33 P a1 a2 a3 M) else (f_X7_has_38 P a1 a2 a3 (0 : Int32) M))))))
set_option maxRecDepth 100000 in
set_option maxHeartbeats 4000000 in
theorem t_X7_has (g : fm_G) (l : Launch) (hl : l.stackTraces = false) (P : Nat) (a1 : Int32) (a2 : Int32) (a3 : Int32) (hP : fm_kd g P = 7) (M : fm_Mem) (w : fm_W) : Tt g l z_X7_has (emI M w) (f_X7_has P a1 a2 a3 M) 0 [(0, .ref P), (1, .int a1), (2, .int a2), (3, .int a3)] [] (M, w) := by
  rw [f_X7_has]
  refine Tt.go (fun _ => Tr.run 4 (pc' := 4) (lv' := [(0, .ref P), (1, .int a1), (2, .int a2), (3, .int a3)]) (st' := [.int (0 : Int32), .int a2, .int a1, .ref P]) rfl) ?_
  refine Tt.callV (As := [.int a1, .int a2, .int (0 : Int32)]) (rest := []) (c_X7_endOf g l hl P a1 a2 (0 : Int32) hP M w) hP (by decide) rfl rfl cw_X7_endOf fw1231 pn_X7_endOf (Nat.le_of_ble_eq_true rfl) (Nat.le_of_ble_eq_true rfl) (Nat.le_of_ble_eq_true rfl) rfl (fun v1 => (?_ : Tt g l z_X7_has (emI M w) _ 7 [(0, .ref P), (1, .int a1), (2, .int a2), (3, .int a3)] [.int v1] (M, w)))
  refine Tt.go (fun _ => Tr.run 1 (pc' := 8) (lv' := [(0, .ref P), (1, .int a1), (2, .int a2), (3, .int a3)]) (st' := [.int a3, .int v1]) rfl) ?_
  refine Tt.ic_eq (tgt := 33) rfl (by decide) ?_ ?_
  · refine Tt.go (fun _ => Tr.sub (lv' := []) [] rfl) ?_
    exact t_X7_has_33 g l hl P a1 a2 a3 hP w M
  · refine Tt.go (fun _ => Tr.run 4 (pc' := 15) (lv' := [(0, .ref P), (1, .int a1), (2, .int a2), (3, .int a3)]) (st' := [.int (1 : Int32), .int a2, .int a1, .ref P]) rfl) ?_
    refine Tt.callV (As := [.int a1, .int a2, .int (1 : Int32)]) (rest := []) (c_X7_endOf g l hl P a1 a2 (1 : Int32) hP M w) hP (by decide) rfl rfl cw_X7_endOf fw1231 pn_X7_endOf (Nat.le_of_ble_eq_true rfl) (Nat.le_of_ble_eq_true rfl) (Nat.le_of_ble_eq_true rfl) rfl (fun v2 => (?_ : Tt g l z_X7_has (emI M w) _ 18 [(0, .ref P), (1, .int a1), (2, .int a2), (3, .int a3)] [.int v2] (M, w)))
    refine Tt.go (fun _ => Tr.run 1 (pc' := 19) (lv' := [(0, .ref P), (1, .int a1), (2, .int a2), (3, .int a3)]) (st' := [.int a3, .int v2]) rfl) ?_
    refine Tt.ic_eq (tgt := 33) rfl (by decide) ?_ ?_
    · refine Tt.go (fun _ => Tr.sub (lv' := []) [] rfl) ?_
      exact t_X7_has_33 g l hl P a1 a2 a3 hP w M
    · refine Tt.go (fun _ => Tr.run 4 (pc' := 26) (lv' := [(0, .ref P), (1, .int a1), (2, .int a2), (3, .int a3)]) (st' := [.int (2 : Int32), .int a2, .int a1, .ref P]) rfl) ?_
      refine Tt.callV (As := [.int a1, .int a2, .int (2 : Int32)]) (rest := []) (c_X7_endOf g l hl P a1 a2 (2 : Int32) hP M w) hP (by decide) rfl rfl cw_X7_endOf fw1231 pn_X7_endOf (Nat.le_of_ble_eq_true rfl) (Nat.le_of_ble_eq_true rfl) (Nat.le_of_ble_eq_true rfl) rfl (fun v3 => (?_ : Tt g l z_X7_has (emI M w) _ 29 [(0, .ref P), (1, .int a1), (2, .int a2), (3, .int a3)] [.int v3] (M, w)))
      refine Tt.go (fun _ => Tr.run 1 (pc' := 30) (lv' := [(0, .ref P), (1, .int a1), (2, .int a2), (3, .int a3)]) (st' := [.int a3, .int v3]) rfl) ?_
      refine Tt.ic_ne (tgt := 37) rfl (by decide) ?_ ?_
      · refine Tt.go (fun _ => Tr.sub (lv' := []) [] rfl) ?_
        exact t_X7_has_33 g l hl P a1 a2 a3 hP w M
      · refine Tt.go (fun _ => Tr.run 1 (pc' := 38) (lv' := [(0, .ref P), (1, .int a1), (2, .int a2), (3, .int a3)]) (st' := [.int (0 : Int32)]) rfl) ?_
        refine Tt.go (fun _ => Tr.sub (lv' := []) [] rfl) ?_
        exact t_X7_has_38 g l hl P a1 a2 a3 hP w (0 : Int32) M
theorem c_X7_has (g : fm_G) (l : Launch) (hl : l.stackTraces = false) (P : Nat) (a1 : Int32) (a2 : Int32) (a3 : Int32) (hP : fm_kd g P = 7) (M : fm_Mem) (w : fm_W) : ∀ r, f_X7_has P a1 a2 a3 M = some r → fC g l z_X7_has [.ref P, .int a1, .int a2, .int a3] (M, w) (emI M w r) := fun r hr => fC.of (by decide) rfl o_X7_has hl (Nat.le_of_ble_eq_true rfl) (t_X7_has g l hl P a1 a2 a3 hP M w r hr)
def k_X7_edgeMany : List (Nat × Instr × Nat) := [(0, .iconst 0, 1), (1, .istore 4, 2), (3, .iconst 0, 1), (4, .istore 5, 2), (6, .iload 5, 2), (8, .aload_n 0, 1), (9, .iload_n 1, 1), (10, .invokevirtual 107, 3), (13, .if_icmp .ge 46, 3), (16, .iload 4, 2), (18, .iload_n 2, 1), (19, .iload_n 3, 1), (20, .if_icmp .eq 29, 3), (23, .aload_n 0, 1), (24, .iload_n 1, 1), (25, .iload 5, 2), (27, .iload_n 2, 1), (28, .invokevirtual 111, 3), (31, .ifCond .eq 18, 3), (34, .aload_n 0, 1), (35, .iload_n 1, 1), (36, .iload 5, 2), (38, .iload_n 3, 1), (39, .invokevirtual 111, 3), (42, .ifCond .eq 7, 3), (45, .iconst 1, 1), (46, .goto 4, 3), (49, .iconst 0, 1), (50, .iadd, 1), (51, .istore 4, 2), (53, .iinc 5 1, 3), (56, .goto (-50), 3), (59, .iload 4, 2), (61, .ireturn, 1)]
def z_X7_edgeMany : fm_Y := (yX7_edgeMany, RX7, cX7_edgeMany, 6, (some .int), k_X7_edgeMany, 8, 215)
theorem o_X7_edgeMany : fm_dec z_X7_edgeMany := (by decide +kernel : ∀ q ∈ k_X7_edgeMany, decode cX7_edgeMany q.1 = .ok q.2)
theorem cw_X7_edgeMany : fm_cwV z_X7_edgeMany := ⟨⟨lw_in 1222 (by decide +kernel) (by decide +kernel), lw_in 99 (by decide +kernel) (by decide +kernel), by decide, by decide⟩, lw_in 1221 (by decide +kernel) (by decide +kernel), lw_in 53 (by decide +kernel) (by decide +kernel)⟩
theorem pn_X7_edgeMany : (parseMethodDescriptor z_X7_edgeMany.1.desc).map (fun d => d.parameters.length) = some 3 := by decide +kernel
def f_X7_edgeMany_50 (P : Nat) (a1 : Int32) (a2 : Int32) (a3 : Int32) (k6 : Int32 → Int32 → fm_Mem → Option (Int32 × fm_Mem)) (x5 : Int32) (s0 : Int32) (s1 : Int32) (M : fm_Mem) : Option (Int32 × fm_Mem) := (k6 (s1 + s0) (x5 + (1 : Int32)) M)
set_option maxRecDepth 100000 in
set_option maxHeartbeats 4000000 in
theorem t_X7_edgeMany_50 (g : fm_G) (l : Launch) (hl : l.stackTraces = false) (P : Nat) (a1 : Int32) (a2 : Int32) (a3 : Int32) (hP : fm_kd g P = 7) (w : fm_W) (M0 : fm_Mem) (k6 : Int32 → Int32 → fm_Mem → Option (Int32 × fm_Mem)) (hk6 : ∀ (x4 : Int32) (x5 : Int32) (M : fm_Mem), Tt g l z_X7_edgeMany (emIw M0 w) (k6 x4 x5 M) 6 [(0, .ref P), (1, .int a1), (2, .int a2), (3, .int a3), (4, .int x4), (5, .int x5)] [] (M, w)) (x5 : Int32) (s0 : Int32) (s1 : Int32)  (M : fm_Mem) : Tt g l z_X7_edgeMany (emIw M0 w) (f_X7_edgeMany_50 P a1 a2 a3 k6 x5 s0 s1 M) 50 [(0, .ref P), (1, .int a1), (2, .int a2), (3, .int a3), (5, .int x5)] [.int s0, .int s1] (M, w) := by
  rw [f_X7_edgeMany_50]
  refine Tt.go (fun _ => Tr.run 4 (pc' := 6) (lv' := [(5, .int (x5 + (1 : Int32))), (4, .int (s1 + s0)), (0, .ref P), (1, .int a1), (2, .int a2), (3, .int a3)]) (st' := []) rfl) ?_
  refine Tt.go (fun _ => Tr.sub (lv' := [(0, .ref P), (1, .int a1), (2, .int a2), (3, .int a3), (4, .int (s1 + s0)), (5, .int (x5 + (1 : Int32)))]) [2, 3, 4, 5, 1, 0] rfl) ?_
  exact hk6 (s1 + s0) (x5 + (1 : Int32)) M
def f_X7_edgeMany_49 (P : Nat) (a1 : Int32) (a2 : Int32) (a3 : Int32) (k6 : Int32 → Int32 → fm_Mem → Option (Int32 × fm_Mem)) (x5 : Int32) (s0 : Int32) (M : fm_Mem) : Option (Int32 × fm_Mem) := (f_X7_edgeMany_50 P a1 a2 a3 k6 x5 (0 : Int32) s0 M)
set_option maxRecDepth 100000 in
set_option maxHeartbeats 4000000 in
theorem t_X7_edgeMany_49 (g : fm_G) (l : Launch) (hl : l.stackTraces = false) (P : Nat) (a1 : Int32) (a2 : Int32) (a3 : Int32) (hP : fm_kd g P = 7) (w : fm_W) (M0 : fm_Mem) (k6 : Int32 → Int32 → fm_Mem → Option (Int32 × fm_Mem)) (hk6 : ∀ (x4 : Int32) (x5 : Int32) (M : fm_Mem), Tt g l z_X7_edgeMany (emIw M0 w) (k6 x4 x5 M) 6 [(0, .ref P), (1, .int a1), (2, .int a2), (3, .int a3), (4, .int x4), (5, .int x5)] [] (M, w)) (x5 : Int32) (s0 : Int32)  (M : fm_Mem) : Tt g l z_X7_edgeMany (emIw M0 w) (f_X7_edgeMany_49 P a1 a2 a3 k6 x5 s0 M) 49 [(0, .ref P), (1, .int a1), (2, .int a2), (3, .int a3), (5, .int x5)] [.int s0] (M, w) := by
  rw [f_X7_edgeMany_49]
  refine Tt.go (fun _ => Tr.run 1 (pc' := 50) (lv' := [(0, .ref P), (1, .int a1), (2, .int a2), (3, .int a3), (5, .int x5)]) (st' := [.int (0 : Int32), .int s0]) rfl) ?_
  exact t_X7_edgeMany_50 g l hl P a1 a2 a3 hP w M0 k6 hk6 x5 (0 : Int32) s0 M
def f_X7_edgeMany_6 (P : Nat) (a1 : Int32) (a2 : Int32) (a3 : Int32) : Nat → Int32 → Int32 → fm_Mem → Option (Int32 × fm_Mem)
  | 0, _, _, _ => none
  | n + 1, x4, x5, M => Option.bind (f_X7_many P a1 M) (fun v1 => if v1.1 ≤ x5 then (some ((x4, v1.2))) else (if a2 = a3 then (f_X7_edgeMany_49 P a1 a2 a3 (fun x4 x5 M => f_X7_edgeMany_6 P a1 a2 a3 n x4 x5 M) x5 x4 v1.2) else (Option.bind (f_X7_has P a1 x5 a2 v1.2) (fun v2 => if v2 = 0 then (f_X7_edgeMany_49 P a1 a2 a3 (fun x4 x5 M => f_X7_edgeMany_6 P a1 a2 a3 n x4 x5 M) x5 x4 v1.2) else (Option.bind (f_X7_has P a1 x5 a3 v1.2) (fun v3 => if v3 = 0 then (f_X7_edgeMany_49 P a1 a2 a3 (fun x4 x5 M => f_X7_edgeMany_6 P a1 a2 a3 n x4 x5 M) x5 x4 v1.2) else (f_X7_edgeMany_50 P a1 a2 a3 (fun x4 x5 M => f_X7_edgeMany_6 P a1 a2 a3 n x4 x5 M) x5 (1 : Int32) x4 v1.2)))))))
set_option maxRecDepth 100000 in
set_option maxHeartbeats 4000000 in
theorem t_X7_edgeMany_6 (g : fm_G) (l : Launch) (hl : l.stackTraces = false) (P : Nat) (a1 : Int32) (a2 : Int32) (a3 : Int32) (hP : fm_kd g P = 7) (w : fm_W) (M0 : fm_Mem)  : ∀ (n : Nat) (x4 : Int32) (x5 : Int32)  (M : fm_Mem), Tt g l z_X7_edgeMany (emIw M0 w) (f_X7_edgeMany_6 P a1 a2 a3  n x4 x5 M) 6 [(0, .ref P), (1, .int a1), (2, .int a2), (3, .int a3), (4, .int x4), (5, .int x5)] [] (M, w) := by
  intro n
  induction n with
  | zero => intros; exact Tt.none
  | succ n ih =>
    intro x4 x5  M
    rw [f_X7_edgeMany_6]
    refine Tt.go (fun _ => Tr.run 3 (pc' := 10) (lv' := [(0, .ref P), (1, .int a1), (2, .int a2), (3, .int a3), (4, .int x4), (5, .int x5)]) (st' := [.int a1, .ref P, .int x5]) rfl) ?_
    refine Tt.callV (As := [.int a1]) (rest := [.int x5]) (c_X7_many g l hl P a1 hP M w) hP (by decide) rfl rfl cw_X7_many fw1223 pn_X7_many (Nat.le_of_ble_eq_true rfl) (Nat.le_of_ble_eq_true rfl) (Nat.le_of_ble_eq_true rfl) rfl (fun v1 => (?_ : Tt g l z_X7_edgeMany (emIw M0 w) _ 13 [(0, .ref P), (1, .int a1), (2, .int a2), (3, .int a3), (4, .int x4), (5, .int x5)] [.int v1.1, .int x5] (v1.2, w)))
    refine Tt.ic_ge (tgt := 59) rfl (by decide) ?_ ?_
    · refine Tt.go (fun _ => Tr.run 1 (pc' := 61) (lv' := [(0, .ref P), (1, .int a1), (2, .int a2), (3, .int a3), (4, .int x4), (5, .int x5)]) (st' := [.int x4]) rfl) ?_
      exact Tt.ret (Tr.iret rfl rfl)
    · refine Tt.go (fun _ => Tr.run 3 (pc' := 20) (lv' := [(0, .ref P), (1, .int a1), (2, .int a2), (3, .int a3), (4, .int x4), (5, .int x5)]) (st' := [.int a3, .int a2, .int x4]) rfl) ?_
      refine Tt.ic_eq (tgt := 49) rfl (by decide) ?_ ?_
      · refine Tt.go (fun _ => Tr.sub (lv' := [(0, .ref P), (1, .int a1), (2, .int a2), (3, .int a3), (5, .int x5)]) [0, 1, 2, 3, 5] rfl) ?_
        exact t_X7_edgeMany_49 g l hl P a1 a2 a3 hP w M0 _ ih x5 x4 v1.2
      · refine Tt.go (fun _ => Tr.run 4 (pc' := 28) (lv' := [(0, .ref P), (1, .int a1), (2, .int a2), (3, .int a3), (4, .int x4), (5, .int x5)]) (st' := [.int a2, .int x5, .int a1, .ref P, .int x4]) rfl) ?_
        refine Tt.callV (As := [.int a1, .int x5, .int a2]) (rest := [.int x4]) (c_X7_has g l hl P a1 x5 a2 hP v1.2 w) hP (by decide) rfl rfl cw_X7_has fw1227 pn_X7_has (Nat.le_of_ble_eq_true rfl) (Nat.le_of_ble_eq_true rfl) (Nat.le_of_ble_eq_true rfl) rfl (fun v2 => (?_ : Tt g l z_X7_edgeMany (emIw M0 w) _ 31 [(0, .ref P), (1, .int a1), (2, .int a2), (3, .int a3), (4, .int x4), (5, .int x5)] [.int v2, .int x4] (v1.2, w)))
        refine Tt.if_eq (tgt := 49) rfl (by decide) ?_ ?_
        · refine Tt.go (fun _ => Tr.sub (lv' := [(0, .ref P), (1, .int a1), (2, .int a2), (3, .int a3), (5, .int x5)]) [0, 1, 2, 3, 5] rfl) ?_
          exact t_X7_edgeMany_49 g l hl P a1 a2 a3 hP w M0 _ ih x5 x4 v1.2
        · refine Tt.go (fun _ => Tr.run 4 (pc' := 39) (lv' := [(0, .ref P), (1, .int a1), (2, .int a2), (3, .int a3), (4, .int x4), (5, .int x5)]) (st' := [.int a3, .int x5, .int a1, .ref P, .int x4]) rfl) ?_
          refine Tt.callV (As := [.int a1, .int x5, .int a3]) (rest := [.int x4]) (c_X7_has g l hl P a1 x5 a3 hP v1.2 w) hP (by decide) rfl rfl cw_X7_has fw1227 pn_X7_has (Nat.le_of_ble_eq_true rfl) (Nat.le_of_ble_eq_true rfl) (Nat.le_of_ble_eq_true rfl) rfl (fun v3 => (?_ : Tt g l z_X7_edgeMany (emIw M0 w) _ 42 [(0, .ref P), (1, .int a1), (2, .int a2), (3, .int a3), (4, .int x4), (5, .int x5)] [.int v3, .int x4] (v1.2, w)))
          refine Tt.if_eq (tgt := 49) rfl (by decide) ?_ ?_
          · refine Tt.go (fun _ => Tr.sub (lv' := [(0, .ref P), (1, .int a1), (2, .int a2), (3, .int a3), (5, .int x5)]) [0, 1, 2, 3, 5] rfl) ?_
            exact t_X7_edgeMany_49 g l hl P a1 a2 a3 hP w M0 _ ih x5 x4 v1.2
          · refine Tt.go (fun _ => Tr.run 2 (pc' := 50) (lv' := [(0, .ref P), (1, .int a1), (2, .int a2), (3, .int a3), (4, .int x4), (5, .int x5)]) (st' := [.int (1 : Int32), .int x4]) rfl) ?_
            refine Tt.go (fun _ => Tr.sub (lv' := [(0, .ref P), (1, .int a1), (2, .int a2), (3, .int a3), (5, .int x5)]) [0, 1, 2, 3, 5] rfl) ?_
            exact t_X7_edgeMany_50 g l hl P a1 a2 a3 hP w M0 _ ih x5 (1 : Int32) x4 v1.2
def f_X7_edgeMany (P : Nat) (a1 : Int32) (a2 : Int32) (a3 : Int32) (M : fm_Mem) : Option (Int32 × fm_Mem) := (f_X7_edgeMany_6 P a1 a2 a3 fm_fuel (0 : Int32) (0 : Int32) M)
set_option maxRecDepth 100000 in
set_option maxHeartbeats 4000000 in
theorem t_X7_edgeMany (g : fm_G) (l : Launch) (hl : l.stackTraces = false) (P : Nat) (a1 : Int32) (a2 : Int32) (a3 : Int32) (hP : fm_kd g P = 7) (M : fm_Mem) (w : fm_W) : Tt g l z_X7_edgeMany (emIw M w) (f_X7_edgeMany P a1 a2 a3 M) 0 [(0, .ref P), (1, .int a1), (2, .int a2), (3, .int a3)] [] (M, w) := by
  rw [f_X7_edgeMany]
  refine Tt.go (fun _ => Tr.run 4 (pc' := 6) (lv' := [(5, .int (0 : Int32)), (4, .int (0 : Int32)), (0, .ref P), (1, .int a1), (2, .int a2), (3, .int a3)]) (st' := []) rfl) ?_
  refine Tt.go (fun _ => Tr.sub (lv' := [(0, .ref P), (1, .int a1), (2, .int a2), (3, .int a3), (4, .int (0 : Int32)), (5, .int (0 : Int32))]) [2, 3, 4, 5, 1, 0] rfl) ?_
  exact t_X7_edgeMany_6 g l hl P a1 a2 a3 hP w M fm_fuel (0 : Int32) (0 : Int32) M
theorem c_X7_edgeMany (g : fm_G) (l : Launch) (hl : l.stackTraces = false) (P : Nat) (a1 : Int32) (a2 : Int32) (a3 : Int32) (hP : fm_kd g P = 7) (M : fm_Mem) (w : fm_W) : ∀ r, f_X7_edgeMany P a1 a2 a3 M = some r → fC g l z_X7_edgeMany [.ref P, .int a1, .int a2, .int a3] (M, w) (emIw M w r) := fun r hr => fC.of (by decide) rfl o_X7_edgeMany hl (Nat.le_of_ble_eq_true rfl) (t_X7_edgeMany g l hl P a1 a2 a3 hP M w r hr)
def k_X7_third : List (Nat × Instr × Nat) := [(0, .iconst 0, 1), (1, .istore 4, 2), (3, .iconst 0, 1), (4, .istore 5, 2), (6, .iload 5, 2), (8, .aload_n 0, 1), (9, .iconst 1, 1), (10, .invokevirtual 41, 3), (13, .if_icmp .ge 74, 3), (16, .aload_n 0, 1), (17, .iconst 0, 1), (18, .iload 5, 2), (20, .iload_n 1, 1), (21, .invokevirtual 111, 3), (24, .ifCond .eq 57, 3), (27, .aload_n 0, 1), (28, .iconst 0, 1), (29, .iload 5, 2), (31, .iload_n 2, 1), (32, .invokevirtual 111, 3), (35, .ifCond .ne 6, 3), (38, .goto 43, 3), (41, .iload 4, 2), (43, .iload_n 3, 1), (44, .if_icmp .ne 34, 3), (47, .aload_n 0, 1), (48, .iconst 0, 1), (49, .iload 5, 2), (51, .iconst 0, 1), (52, .invokevirtual 103, 3), (55, .aload_n 0, 1), (56, .iconst 0, 1), (57, .iload 5, 2), (59, .iconst 1, 1), (60, .invokevirtual 103, 3), (63, .iadd, 1), (64, .aload_n 0, 1), (65, .iconst 0, 1), (66, .iload 5, 2), (68, .iconst 2, 1), (69, .invokevirtual 103, 3), (72, .iadd, 1), (73, .iload_n 1, 1), (74, .isub, 1), (75, .iload_n 2, 1), (76, .isub, 1), (77, .ireturn, 1), (78, .iinc 4 1, 3), (81, .iinc 5 1, 3), (84, .goto (-78), 3), (87, .iconst (-1), 1), (88, .ireturn, 1)]
def z_X7_third : fm_Y := (yX7_third, RX7, cX7_third, 6, (some .int), k_X7_third, 3, 67)
theorem o_X7_third : fm_dec z_X7_third := (by decide +kernel : ∀ q ∈ k_X7_third, decode cX7_third q.1 = .ok q.2)
theorem cw_X7_third : fm_cwV z_X7_third := ⟨⟨lw_in 1238 (by decide +kernel) (by decide +kernel), lw_in 99 (by decide +kernel) (by decide +kernel), by decide, by decide⟩, lw_in 1237 (by decide +kernel) (by decide +kernel), lw_in 57 (by decide +kernel) (by decide +kernel)⟩
theorem pn_X7_third : (parseMethodDescriptor z_X7_third.1.desc).map (fun d => d.parameters.length) = some 3 := by decide +kernel
def f_X7_third_81 (P : Nat) (a1 : Int32) (a2 : Int32) (a3 : Int32) (k6 : Int32 → Int32 → fm_Mem → Option (Int32)) (x4 : Int32) (x5 : Int32) (M : fm_Mem) : Option (Int32) := (k6 x4 (x5 + (1 : Int32)) M)
set_option maxRecDepth 100000 in
set_option maxHeartbeats 4000000 in
theorem t_X7_third_81 (g : fm_G) (l : Launch) (hl : l.stackTraces = false) (P : Nat) (a1 : Int32) (a2 : Int32) (a3 : Int32) (hP : fm_kd g P = 7) (w : fm_W) (k6 : Int32 → Int32 → fm_Mem → Option (Int32)) (hk6 : ∀ (x4 : Int32) (x5 : Int32) (M : fm_Mem), Tt g l z_X7_third (emI M w) (k6 x4 x5 M) 6 [(0, .ref P), (1, .int a1), (2, .int a2), (3, .int a3), (4, .int x4), (5, .int x5)] [] (M, w)) (x4 : Int32) (x5 : Int32)  (M : fm_Mem) : Tt g l z_X7_third (emI M w) (f_X7_third_81 P a1 a2 a3 k6 x4 x5 M) 81 [(0, .ref P), (1, .int a1), (2, .int a2), (3, .int a3), (4, .int x4), (5, .int x5)] [] (M, w) := by
  rw [f_X7_third_81]
  refine Tt.go (fun _ => Tr.run 2 (pc' := 6) (lv' := [(5, .int (x5 + (1 : Int32))), (0, .ref P), (1, .int a1), (2, .int a2), (3, .int a3), (4, .int x4)]) (st' := []) rfl) ?_
  refine Tt.go (fun _ => Tr.sub (lv' := [(0, .ref P), (1, .int a1), (2, .int a2), (3, .int a3), (4, .int x4), (5, .int (x5 + (1 : Int32)))]) [1, 2, 3, 4, 5, 0] rfl) ?_
  exact hk6 x4 (x5 + (1 : Int32)) M
def f_X7_third_6 (P : Nat) (a1 : Int32) (a2 : Int32) (a3 : Int32) : Nat → Int32 → Int32 → fm_Mem → Option (Int32)
  | 0, _, _, _ => none
  | n + 1, x4, x5, M => Option.bind (f_X7_get P (1 : Int32) M) (fun v1 => if v1 ≤ x5 then (some ((-1 : Int32))) else (Option.bind (f_X7_has P (0 : Int32) x5 a1 M) (fun v2 => if v2 = 0 then (f_X7_third_81 P a1 a2 a3 (fun x4 x5 M => f_X7_third_6 P a1 a2 a3 n x4 x5 M) x4 x5 M) else (Option.bind (f_X7_has P (0 : Int32) x5 a2 M) (fun v3 => if v3 = 0 then (f_X7_third_81 P a1 a2 a3 (fun x4 x5 M => f_X7_third_6 P a1 a2 a3 n x4 x5 M) x4 x5 M) else (if x4 = a3 then (Option.bind (f_X7_endOf P (0 : Int32) x5 (0 : Int32) M) (fun v4 => Option.bind (f_X7_endOf P (0 : Int32) x5 (1 : Int32) M) (fun v5 => Option.bind (f_X7_endOf P (0 : Int32) x5 (2 : Int32) M) (fun v6 => some (((((v4 + v5) + v6) - a1) - a2)))))) else (f_X7_third_81 P a1 a2 a3 (fun x4 x5 M => f_X7_third_6 P a1 a2 a3 n x4 x5 M) (x4 + (1 : Int32)) x5 M)))))))
set_option maxRecDepth 100000 in
set_option maxHeartbeats 4000000 in
theorem t_X7_third_6 (g : fm_G) (l : Launch) (hl : l.stackTraces = false) (P : Nat) (a1 : Int32) (a2 : Int32) (a3 : Int32) (hP : fm_kd g P = 7) (w : fm_W)  : ∀ (n : Nat) (x4 : Int32) (x5 : Int32)  (M : fm_Mem), Tt g l z_X7_third (emI M w) (f_X7_third_6 P a1 a2 a3  n x4 x5 M) 6 [(0, .ref P), (1, .int a1), (2, .int a2), (3, .int a3), (4, .int x4), (5, .int x5)] [] (M, w) := by
  intro n
  induction n with
  | zero => intros; exact Tt.none
  | succ n ih =>
    intro x4 x5  M
    rw [f_X7_third_6]
    refine Tt.go (fun _ => Tr.run 3 (pc' := 10) (lv' := [(0, .ref P), (1, .int a1), (2, .int a2), (3, .int a3), (4, .int x4), (5, .int x5)]) (st' := [.int (1 : Int32), .ref P, .int x5]) rfl) ?_
    refine Tt.callV (As := [.int (1 : Int32)]) (rest := [.int x5]) (c_X7_get g l hl P (1 : Int32) hP M w) hP (by decide) rfl rfl cw_X7_get fw1109 pn_X7_get (Nat.le_of_ble_eq_true rfl) (Nat.le_of_ble_eq_true rfl) (Nat.le_of_ble_eq_true rfl) rfl (fun v1 => (?_ : Tt g l z_X7_third (emI M w) _ 13 [(0, .ref P), (1, .int a1), (2, .int a2), (3, .int a3), (4, .int x4), (5, .int x5)] [.int v1, .int x5] (M, w)))
    refine Tt.ic_ge (tgt := 87) rfl (by decide) ?_ ?_
    · refine Tt.go (fun _ => Tr.run 1 (pc' := 88) (lv' := [(0, .ref P), (1, .int a1), (2, .int a2), (3, .int a3), (4, .int x4), (5, .int x5)]) (st' := [.int (-1 : Int32)]) rfl) ?_
      exact Tt.ret (Tr.iret rfl rfl)
    · refine Tt.go (fun _ => Tr.run 4 (pc' := 21) (lv' := [(0, .ref P), (1, .int a1), (2, .int a2), (3, .int a3), (4, .int x4), (5, .int x5)]) (st' := [.int a1, .int x5, .int (0 : Int32), .ref P]) rfl) ?_
      refine Tt.callV (As := [.int (0 : Int32), .int x5, .int a1]) (rest := []) (c_X7_has g l hl P (0 : Int32) x5 a1 hP M w) hP (by decide) rfl rfl cw_X7_has fw1227 pn_X7_has (Nat.le_of_ble_eq_true rfl) (Nat.le_of_ble_eq_true rfl) (Nat.le_of_ble_eq_true rfl) rfl (fun v2 => (?_ : Tt g l z_X7_third (emI M w) _ 24 [(0, .ref P), (1, .int a1), (2, .int a2), (3, .int a3), (4, .int x4), (5, .int x5)] [.int v2] (M, w)))
      refine Tt.if_eq (tgt := 81) rfl (by decide) ?_ ?_
      · exact t_X7_third_81 g l hl P a1 a2 a3 hP w _ ih x4 x5 M
      · refine Tt.go (fun _ => Tr.run 4 (pc' := 32) (lv' := [(0, .ref P), (1, .int a1), (2, .int a2), (3, .int a3), (4, .int x4), (5, .int x5)]) (st' := [.int a2, .int x5, .int (0 : Int32), .ref P]) rfl) ?_
        refine Tt.callV (As := [.int (0 : Int32), .int x5, .int a2]) (rest := []) (c_X7_has g l hl P (0 : Int32) x5 a2 hP M w) hP (by decide) rfl rfl cw_X7_has fw1227 pn_X7_has (Nat.le_of_ble_eq_true rfl) (Nat.le_of_ble_eq_true rfl) (Nat.le_of_ble_eq_true rfl) rfl (fun v3 => (?_ : Tt g l z_X7_third (emI M w) _ 35 [(0, .ref P), (1, .int a1), (2, .int a2), (3, .int a3), (4, .int x4), (5, .int x5)] [.int v3] (M, w)))
        refine Tt.if_ne (tgt := 41) rfl (by decide) ?_ ?_
        · refine Tt.go (fun _ => Tr.run 1 (pc' := 81) (lv' := [(0, .ref P), (1, .int a1), (2, .int a2), (3, .int a3), (4, .int x4), (5, .int x5)]) (st' := []) rfl) ?_
          exact t_X7_third_81 g l hl P a1 a2 a3 hP w _ ih x4 x5 M
        · refine Tt.go (fun _ => Tr.run 2 (pc' := 44) (lv' := [(0, .ref P), (1, .int a1), (2, .int a2), (3, .int a3), (4, .int x4), (5, .int x5)]) (st' := [.int a3, .int x4]) rfl) ?_
          refine Tt.ic_ne (tgt := 78) rfl (by decide) ?_ ?_
          · refine Tt.go (fun _ => Tr.run 4 (pc' := 52) (lv' := [(0, .ref P), (1, .int a1), (2, .int a2), (3, .int a3), (4, .int x4), (5, .int x5)]) (st' := [.int (0 : Int32), .int x5, .int (0 : Int32), .ref P]) rfl) ?_
            refine Tt.callV (As := [.int (0 : Int32), .int x5, .int (0 : Int32)]) (rest := []) (c_X7_endOf g l hl P (0 : Int32) x5 (0 : Int32) hP M w) hP (by decide) rfl rfl cw_X7_endOf fw1231 pn_X7_endOf (Nat.le_of_ble_eq_true rfl) (Nat.le_of_ble_eq_true rfl) (Nat.le_of_ble_eq_true rfl) rfl (fun v4 => (?_ : Tt g l z_X7_third (emI M w) _ 55 [(0, .ref P), (1, .int a1), (2, .int a2), (3, .int a3), (4, .int x4), (5, .int x5)] [.int v4] (M, w)))
            refine Tt.go (fun _ => Tr.run 4 (pc' := 60) (lv' := [(0, .ref P), (1, .int a1), (2, .int a2), (3, .int a3), (4, .int x4), (5, .int x5)]) (st' := [.int (1 : Int32), .int x5, .int (0 : Int32), .ref P, .int v4]) rfl) ?_
            refine Tt.callV (As := [.int (0 : Int32), .int x5, .int (1 : Int32)]) (rest := [.int v4]) (c_X7_endOf g l hl P (0 : Int32) x5 (1 : Int32) hP M w) hP (by decide) rfl rfl cw_X7_endOf fw1231 pn_X7_endOf (Nat.le_of_ble_eq_true rfl) (Nat.le_of_ble_eq_true rfl) (Nat.le_of_ble_eq_true rfl) rfl (fun v5 => (?_ : Tt g l z_X7_third (emI M w) _ 63 [(0, .ref P), (1, .int a1), (2, .int a2), (3, .int a3), (4, .int x4), (5, .int x5)] [.int v5, .int v4] (M, w)))
            refine Tt.go (fun _ => Tr.run 5 (pc' := 69) (lv' := [(0, .ref P), (1, .int a1), (2, .int a2), (3, .int a3), (4, .int x4), (5, .int x5)]) (st' := [.int (2 : Int32), .int x5, .int (0 : Int32), .ref P, .int (v4 + v5)]) rfl) ?_
            refine Tt.callV (As := [.int (0 : Int32), .int x5, .int (2 : Int32)]) (rest := [.int (v4 + v5)]) (c_X7_endOf g l hl P (0 : Int32) x5 (2 : Int32) hP M w) hP (by decide) rfl rfl cw_X7_endOf fw1231 pn_X7_endOf (Nat.le_of_ble_eq_true rfl) (Nat.le_of_ble_eq_true rfl) (Nat.le_of_ble_eq_true rfl) rfl (fun v6 => (?_ : Tt g l z_X7_third (emI M w) _ 72 [(0, .ref P), (1, .int a1), (2, .int a2), (3, .int a3), (4, .int x4), (5, .int x5)] [.int v6, .int (v4 + v5)] (M, w)))
            refine Tt.go (fun _ => Tr.run 5 (pc' := 77) (lv' := [(0, .ref P), (1, .int a1), (2, .int a2), (3, .int a3), (4, .int x4), (5, .int x5)]) (st' := [.int ((((v4 + v5) + v6) - a1) - a2)]) rfl) ?_
            exact Tt.ret (Tr.iret rfl rfl)
          · refine Tt.go (fun _ => Tr.run 1 (pc' := 81) (lv' := [(4, .int (x4 + (1 : Int32))), (0, .ref P), (1, .int a1), (2, .int a2), (3, .int a3), (5, .int x5)]) (st' := []) rfl) ?_
            refine Tt.go (fun _ => Tr.sub (lv' := [(0, .ref P), (1, .int a1), (2, .int a2), (3, .int a3), (4, .int (x4 + (1 : Int32))), (5, .int x5)]) [1, 2, 3, 4, 0, 5] rfl) ?_
            exact t_X7_third_81 g l hl P a1 a2 a3 hP w _ ih (x4 + (1 : Int32)) x5 M
def f_X7_third (P : Nat) (a1 : Int32) (a2 : Int32) (a3 : Int32) (M : fm_Mem) : Option (Int32) := (f_X7_third_6 P a1 a2 a3 fm_fuel (0 : Int32) (0 : Int32) M)
set_option maxRecDepth 100000 in
set_option maxHeartbeats 4000000 in
theorem t_X7_third (g : fm_G) (l : Launch) (hl : l.stackTraces = false) (P : Nat) (a1 : Int32) (a2 : Int32) (a3 : Int32) (hP : fm_kd g P = 7) (M : fm_Mem) (w : fm_W) : Tt g l z_X7_third (emI M w) (f_X7_third P a1 a2 a3 M) 0 [(0, .ref P), (1, .int a1), (2, .int a2), (3, .int a3)] [] (M, w) := by
  rw [f_X7_third]
  refine Tt.go (fun _ => Tr.run 4 (pc' := 6) (lv' := [(5, .int (0 : Int32)), (4, .int (0 : Int32)), (0, .ref P), (1, .int a1), (2, .int a2), (3, .int a3)]) (st' := []) rfl) ?_
  refine Tt.go (fun _ => Tr.sub (lv' := [(0, .ref P), (1, .int a1), (2, .int a2), (3, .int a3), (4, .int (0 : Int32)), (5, .int (0 : Int32))]) [2, 3, 4, 5, 1, 0] rfl) ?_
  exact t_X7_third_6 g l hl P a1 a2 a3 hP w fm_fuel (0 : Int32) (0 : Int32) M
theorem c_X7_third (g : fm_G) (l : Launch) (hl : l.stackTraces = false) (P : Nat) (a1 : Int32) (a2 : Int32) (a3 : Int32) (hP : fm_kd g P = 7) (M : fm_Mem) (w : fm_W) : ∀ r, f_X7_third P a1 a2 a3 M = some r → fC g l z_X7_third [.ref P, .int a1, .int a2, .int a3] (M, w) (emI M w r) := fun r hr => fC.of (by decide) rfl o_X7_third hl (Nat.le_of_ble_eq_true rfl) (t_X7_third g l hl P a1 a2 a3 hP M w r hr)
def k_X7_whyNot : List (Nat × Instr × Nat) := [(0, .aload_n 0, 1), (1, .iconst 0, 1), (2, .iload_n 1, 1), (3, .iload_n 2, 1), (4, .invokevirtual 115, 3), (7, .istore_n 3, 1), (8, .iload_n 3, 1), (9, .iconst 2, 1), (10, .if_icmp .ge 13, 3), (13, .iload_n 3, 1), (14, .ifCond .ne 7, 3), (17, .iconst 1, 1), (18, .goto 4, 3), (21, .iconst 2, 1), (22, .ireturn, 1), (23, .aload_n 0, 1), (24, .iload_n 1, 1), (25, .iload_n 2, 1), (26, .iconst 0, 1), (27, .invokevirtual 118, 3), (30, .istore 4, 2), (32, .aload_n 0, 1), (33, .iload_n 1, 1), (34, .iload_n 2, 1), (35, .iconst 1, 1), (36, .invokevirtual 118, 3), (39, .istore 5, 2), (41, .aload_n 0, 1), (42, .iload 4, 2), (44, .iload 5, 2), (46, .iload_n 1, 1), (47, .invokevirtual 70, 3), (50, .invokestatic 66, 3), (53, .aload_n 0, 1), (54, .iload 4, 2), (56, .iload 5, 2), (58, .iload_n 2, 1), (59, .invokevirtual 70, 3), (62, .invokestatic 66, 3), (65, .imul, 1), (66, .ifCond .lt 7, 3), (69, .iconst 3, 1), (70, .goto 4, 3), (73, .iconst 0, 1), (74, .ireturn, 1)]
def z_X7_whyNot : fm_Y := (yX7_whyNot, RX7, cX7_whyNot, 6, (some .int), k_X7_whyNot, 9, 240)
theorem o_X7_whyNot : fm_dec z_X7_whyNot := (by decide +kernel : ∀ q ∈ k_X7_whyNot, decode cX7_whyNot q.1 = .ok q.2)
theorem cw_X7_whyNot : fm_cwV z_X7_whyNot := ⟨⟨lw_in 1218 (by decide +kernel) (by decide +kernel), lw_in 99 (by decide +kernel) (by decide +kernel), by decide, by decide⟩, lw_in 1217 (by decide +kernel) (by decide +kernel), lw_in 52 (by decide +kernel) (by decide +kernel)⟩
theorem pn_X7_whyNot : (parseMethodDescriptor z_X7_whyNot.1.desc).map (fun d => d.parameters.length) = some 2 := by decide +kernel
def f_X7_whyNot_74 (P : Nat) (a1 : Int32) (a2 : Int32) (s0 : Int32) (M : fm_Mem) : Option (Int32 × fm_Mem) := some ((s0, M))
set_option maxRecDepth 100000 in
set_option maxHeartbeats 4000000 in
theorem t_X7_whyNot_74 (g : fm_G) (l : Launch) (hl : l.stackTraces = false) (P : Nat) (a1 : Int32) (a2 : Int32) (hP : fm_kd g P = 7) (w : fm_W) (M0 : fm_Mem)  (s0 : Int32)  (M : fm_Mem) : Tt g l z_X7_whyNot (emIw M0 w) (f_X7_whyNot_74 P a1 a2  s0 M) 74 [] [.int s0] (M, w) := by
  rw [f_X7_whyNot_74]
  exact Tt.ret (Tr.iret rfl rfl)
def f_X7_whyNot_22 (P : Nat) (a1 : Int32) (a2 : Int32) (s0 : Int32) (M : fm_Mem) : Option (Int32 × fm_Mem) := some ((s0, M))
set_option maxRecDepth 100000 in
set_option maxHeartbeats 4000000 in
theorem t_X7_whyNot_22 (g : fm_G) (l : Launch) (hl : l.stackTraces = false) (P : Nat) (a1 : Int32) (a2 : Int32) (hP : fm_kd g P = 7) (w : fm_W) (M0 : fm_Mem)  (s0 : Int32)  (M : fm_Mem) : Tt g l z_X7_whyNot (emIw M0 w) (f_X7_whyNot_22 P a1 a2  s0 M) 22 [] [.int s0] (M, w) := by
  rw [f_X7_whyNot_22]
  exact Tt.ret (Tr.iret rfl rfl)
def f_X7_whyNot (P : Nat) (a1 : Int32) (a2 : Int32) (M : fm_Mem) : Option (Int32 × fm_Mem) := Option.bind (f_X7_edgeMany P (0 : Int32) a1 a2 M) (fun v1 => if (2 : Int32) ≤ v1.1 then (Option.bind (f_X7_third P a1 a2 (0 : Int32) v1.2) (fun v2 => Option.bind (f_X7_third P a1 a2 (1 : Int32) v1.2) (fun v3 => Option.bind (f_X7_turn P v2 v3 a1 v1.2) (fun v4 => Option.bind (f_X7_signOf v4 v1.2) (fun v5 => Option.bind (f_X7_turn P v2 v3 a2 v1.2) (fun v6 => Option.bind (f_X7_signOf v6 v1.2) (fun v7 => if (v5 * v7) < 0 then (f_X7_whyNot_74 P a1 a2 (0 : Int32) v1.2) else (f_X7_whyNot_74 P a1 a2 (3 : Int32) v1.2)))))))) else (if v1.1 = 0 then (f_X7_whyNot_22 P a1 a2 (1 : Int32) v1.2) else (f_X7_whyNot_22 P a1 a2 (2 : Int32) v1.2)))
set_option maxRecDepth 100000 in
set_option maxHeartbeats 4000000 in
theorem t_X7_whyNot (g : fm_G) (l : Launch) (hl : l.stackTraces = false) (P : Nat) (a1 : Int32) (a2 : Int32) (hP : fm_kd g P = 7) (M : fm_Mem) (w : fm_W) : Tt g l z_X7_whyNot (emIw M w) (f_X7_whyNot P a1 a2 M) 0 [(0, .ref P), (1, .int a1), (2, .int a2)] [] (M, w) := by
  rw [f_X7_whyNot]
  refine Tt.go (fun _ => Tr.run 4 (pc' := 4) (lv' := [(0, .ref P), (1, .int a1), (2, .int a2)]) (st' := [.int a2, .int a1, .int (0 : Int32), .ref P]) rfl) ?_
  refine Tt.callV (As := [.int (0 : Int32), .int a1, .int a2]) (rest := []) (c_X7_edgeMany g l hl P (0 : Int32) a1 a2 hP M w) hP (by decide) rfl rfl cw_X7_edgeMany fw1219 pn_X7_edgeMany (Nat.le_of_ble_eq_true rfl) (Nat.le_of_ble_eq_true rfl) (Nat.le_of_ble_eq_true rfl) rfl (fun v1 => (?_ : Tt g l z_X7_whyNot (emIw M w) _ 7 [(0, .ref P), (1, .int a1), (2, .int a2)] [.int v1.1] (v1.2, w)))
  refine Tt.go (fun _ => Tr.run 3 (pc' := 10) (lv' := [(3, .int v1.1), (0, .ref P), (1, .int a1), (2, .int a2)]) (st' := [.int (2 : Int32), .int v1.1]) rfl) ?_
  refine Tt.ic_ge (tgt := 23) rfl (by decide) ?_ ?_
  · refine Tt.go (fun _ => Tr.run 4 (pc' := 27) (lv' := [(3, .int v1.1), (0, .ref P), (1, .int a1), (2, .int a2)]) (st' := [.int (0 : Int32), .int a2, .int a1, .ref P]) rfl) ?_
    refine Tt.callV (As := [.int a1, .int a2, .int (0 : Int32)]) (rest := []) (c_X7_third g l hl P a1 a2 (0 : Int32) hP v1.2 w) hP (by decide) rfl rfl cw_X7_third fw1235 pn_X7_third (Nat.le_of_ble_eq_true rfl) (Nat.le_of_ble_eq_true rfl) (Nat.le_of_ble_eq_true rfl) rfl (fun v2 => (?_ : Tt g l z_X7_whyNot (emIw M w) _ 30 [(3, .int v1.1), (0, .ref P), (1, .int a1), (2, .int a2)] [.int v2] (v1.2, w)))
    refine Tt.go (fun _ => Tr.run 5 (pc' := 36) (lv' := [(4, .int v2), (3, .int v1.1), (0, .ref P), (1, .int a1), (2, .int a2)]) (st' := [.int (1 : Int32), .int a2, .int a1, .ref P]) rfl) ?_
    refine Tt.callV (As := [.int a1, .int a2, .int (1 : Int32)]) (rest := []) (c_X7_third g l hl P a1 a2 (1 : Int32) hP v1.2 w) hP (by decide) rfl rfl cw_X7_third fw1235 pn_X7_third (Nat.le_of_ble_eq_true rfl) (Nat.le_of_ble_eq_true rfl) (Nat.le_of_ble_eq_true rfl) rfl (fun v3 => (?_ : Tt g l z_X7_whyNot (emIw M w) _ 39 [(4, .int v2), (3, .int v1.1), (0, .ref P), (1, .int a1), (2, .int a2)] [.int v3] (v1.2, w)))
    refine Tt.go (fun _ => Tr.run 5 (pc' := 47) (lv' := [(5, .int v3), (4, .int v2), (3, .int v1.1), (0, .ref P), (1, .int a1), (2, .int a2)]) (st' := [.int a1, .int v3, .int v2, .ref P]) rfl) ?_
    refine Tt.callV (As := [.int v2, .int v3, .int a1]) (rest := []) (c_X7_turn g l hl P v2 v3 a1 hP v1.2 w) hP (by decide) rfl rfl cw_X7_turn fw1193 pn_X7_turn (Nat.le_of_ble_eq_true rfl) (Nat.le_of_ble_eq_true rfl) (Nat.le_of_ble_eq_true rfl) rfl (fun v4 => (?_ : Tt g l z_X7_whyNot (emIw M w) _ 50 [(5, .int v3), (4, .int v2), (3, .int v1.1), (0, .ref P), (1, .int a1), (2, .int a2)] [.long v4] (v1.2, w)))
    refine Tt.callS (As := [.long v4]) (rest := []) (c_X7_signOf g l hl v4 v1.2 w) rfl cw_X7_signOf fw1208 pn_X7_signOf (Nat.le_of_ble_eq_true rfl) (Nat.le_of_ble_eq_true rfl) (Nat.le_of_ble_eq_true rfl) rfl (fun v5 => (?_ : Tt g l z_X7_whyNot (emIw M w) _ 53 [(5, .int v3), (4, .int v2), (3, .int v1.1), (0, .ref P), (1, .int a1), (2, .int a2)] [.int v5] (v1.2, w)))
    refine Tt.go (fun _ => Tr.run 4 (pc' := 59) (lv' := [(5, .int v3), (4, .int v2), (3, .int v1.1), (0, .ref P), (1, .int a1), (2, .int a2)]) (st' := [.int a2, .int v3, .int v2, .ref P, .int v5]) rfl) ?_
    refine Tt.callV (As := [.int v2, .int v3, .int a2]) (rest := [.int v5]) (c_X7_turn g l hl P v2 v3 a2 hP v1.2 w) hP (by decide) rfl rfl cw_X7_turn fw1193 pn_X7_turn (Nat.le_of_ble_eq_true rfl) (Nat.le_of_ble_eq_true rfl) (Nat.le_of_ble_eq_true rfl) rfl (fun v6 => (?_ : Tt g l z_X7_whyNot (emIw M w) _ 62 [(5, .int v3), (4, .int v2), (3, .int v1.1), (0, .ref P), (1, .int a1), (2, .int a2)] [.long v6, .int v5] (v1.2, w)))
    refine Tt.callS (As := [.long v6]) (rest := [.int v5]) (c_X7_signOf g l hl v6 v1.2 w) rfl cw_X7_signOf fw1208 pn_X7_signOf (Nat.le_of_ble_eq_true rfl) (Nat.le_of_ble_eq_true rfl) (Nat.le_of_ble_eq_true rfl) rfl (fun v7 => (?_ : Tt g l z_X7_whyNot (emIw M w) _ 65 [(5, .int v3), (4, .int v2), (3, .int v1.1), (0, .ref P), (1, .int a1), (2, .int a2)] [.int v7, .int v5] (v1.2, w)))
    refine Tt.go (fun _ => Tr.run 1 (pc' := 66) (lv' := [(5, .int v3), (4, .int v2), (3, .int v1.1), (0, .ref P), (1, .int a1), (2, .int a2)]) (st' := [.int (v5 * v7)]) rfl) ?_
    refine Tt.if_lt (tgt := 73) rfl (by decide) ?_ ?_
    · refine Tt.go (fun _ => Tr.run 1 (pc' := 74) (lv' := [(5, .int v3), (4, .int v2), (3, .int v1.1), (0, .ref P), (1, .int a1), (2, .int a2)]) (st' := [.int (0 : Int32)]) rfl) ?_
      refine Tt.go (fun _ => Tr.sub (lv' := []) [] rfl) ?_
      exact t_X7_whyNot_74 g l hl P a1 a2 hP w M (0 : Int32) v1.2
    · refine Tt.go (fun _ => Tr.run 2 (pc' := 74) (lv' := [(5, .int v3), (4, .int v2), (3, .int v1.1), (0, .ref P), (1, .int a1), (2, .int a2)]) (st' := [.int (3 : Int32)]) rfl) ?_
      refine Tt.go (fun _ => Tr.sub (lv' := []) [] rfl) ?_
      exact t_X7_whyNot_74 g l hl P a1 a2 hP w M (3 : Int32) v1.2
  · refine Tt.go (fun _ => Tr.run 1 (pc' := 14) (lv' := [(3, .int v1.1), (0, .ref P), (1, .int a1), (2, .int a2)]) (st' := [.int v1.1]) rfl) ?_
    refine Tt.if_ne (tgt := 21) rfl (by decide) ?_ ?_
    · refine Tt.go (fun _ => Tr.run 2 (pc' := 22) (lv' := [(3, .int v1.1), (0, .ref P), (1, .int a1), (2, .int a2)]) (st' := [.int (1 : Int32)]) rfl) ?_
      refine Tt.go (fun _ => Tr.sub (lv' := []) [] rfl) ?_
      exact t_X7_whyNot_22 g l hl P a1 a2 hP w M (1 : Int32) v1.2
    · refine Tt.go (fun _ => Tr.run 1 (pc' := 22) (lv' := [(3, .int v1.1), (0, .ref P), (1, .int a1), (2, .int a2)]) (st' := [.int (2 : Int32)]) rfl) ?_
      refine Tt.go (fun _ => Tr.sub (lv' := []) [] rfl) ?_
      exact t_X7_whyNot_22 g l hl P a1 a2 hP w M (2 : Int32) v1.2
theorem c_X7_whyNot (g : fm_G) (l : Launch) (hl : l.stackTraces = false) (P : Nat) (a1 : Int32) (a2 : Int32) (hP : fm_kd g P = 7) (M : fm_Mem) (w : fm_W) : ∀ r, f_X7_whyNot P a1 a2 M = some r → fC g l z_X7_whyNot [.ref P, .int a1, .int a2] (M, w) (emIw M w r) := fun r hr => fC.of (by decide) rfl o_X7_whyNot hl (Nat.le_of_ble_eq_true rfl) (t_X7_whyNot g l hl P a1 a2 hP M w r hr)
def k_X7_isBad : List (Nat × Instr × Nat) := [(0, .aload_n 0, 1), (1, .iconst 0, 1), (2, .iload_n 1, 1), (3, .iload_n 2, 1), (4, .invokevirtual 115, 3), (7, .iconst 2, 1), (8, .if_icmp .ne 30, 3), (11, .aload_n 0, 1), (12, .iload_n 1, 1), (13, .iload_n 2, 1), (14, .aload_n 0, 1), (15, .iload_n 1, 1), (16, .iload_n 2, 1), (17, .iconst 0, 1), (18, .invokevirtual 118, 3), (21, .aload_n 0, 1), (22, .iload_n 1, 1), (23, .iload_n 2, 1), (24, .iconst 1, 1), (25, .invokevirtual 118, 3), (28, .invokevirtual 78, 3), (31, .ifCond .le 7, 3), (34, .iconst 1, 1), (35, .goto 4, 3), (38, .iconst 0, 1), (39, .ireturn, 1)]
def z_X7_isBad : fm_Y := (yX7_isBad, RX7, cX7_isBad, 3, (some .boolean), k_X7_isBad, 9, 240)
theorem o_X7_isBad : fm_dec z_X7_isBad := (by decide +kernel : ∀ q ∈ k_X7_isBad, decode cX7_isBad q.1 = .ok q.2)
theorem cw_X7_isBad : fm_cwV z_X7_isBad := ⟨⟨lw_in 1284 (by decide +kernel) (by decide +kernel), lw_in 99 (by decide +kernel) (by decide +kernel), by decide, by decide⟩, lw_in 1283 (by decide +kernel) (by decide +kernel), lw_in 67 (by decide +kernel) (by decide +kernel)⟩
theorem pn_X7_isBad : (parseMethodDescriptor z_X7_isBad.1.desc).map (fun d => d.parameters.length) = some 2 := by decide +kernel
def f_X7_isBad_39 (P : Nat) (a1 : Int32) (a2 : Int32) (s0 : Int32) (M : fm_Mem) : Option (Int32 × fm_Mem) := fm_ck (fm_bo s0) (some ((s0, M)))
set_option maxRecDepth 100000 in
set_option maxHeartbeats 4000000 in
theorem t_X7_isBad_39 (g : fm_G) (l : Launch) (hl : l.stackTraces = false) (P : Nat) (a1 : Int32) (a2 : Int32) (hP : fm_kd g P = 7) (w : fm_W) (M0 : fm_Mem)  (s0 : Int32)  (M : fm_Mem) : Tt g l z_X7_isBad (emIw M0 w) (f_X7_isBad_39 P a1 a2  s0 M) 39 [] [.int s0] (M, w) := by
  rw [f_X7_isBad_39]
  exact Tt.ck (fun hb_1 => Tt.ret (Tr.zret rfl rfl hb_1))
def f_X7_isBad_38 (P : Nat) (a1 : Int32) (a2 : Int32)  (M : fm_Mem) : Option (Int32 × fm_Mem) := (f_X7_isBad_39 P a1 a2 (0 : Int32) M)
set_option maxRecDepth 100000 in
set_option maxHeartbeats 4000000 in
theorem t_X7_isBad_38 (g : fm_G) (l : Launch) (hl : l.stackTraces = false) (P : Nat) (a1 : Int32) (a2 : Int32) (hP : fm_kd g P = 7) (w : fm_W) (M0 : fm_Mem)    (M : fm_Mem) : Tt g l z_X7_isBad (emIw M0 w) (f_X7_isBad_38 P a1 a2   M) 38 [] [] (M, w) := by
  rw [f_X7_isBad_38]
  refine Tt.go (fun _ => Tr.run 1 (pc' := 39) (lv' := []) (st' := [.int (0 : Int32)]) rfl) ?_
  exact t_X7_isBad_39 g l hl P a1 a2 hP w M0 (0 : Int32) M
def f_X7_isBad (P : Nat) (a1 : Int32) (a2 : Int32) (M : fm_Mem) : Option (Int32 × fm_Mem) := Option.bind (f_X7_edgeMany P (0 : Int32) a1 a2 M) (fun v1 => if v1.1 = (2 : Int32) then (Option.bind (f_X7_third P a1 a2 (0 : Int32) v1.2) (fun v2 => Option.bind (f_X7_third P a1 a2 (1 : Int32) v1.2) (fun v3 => Option.bind (f_X7_circleBy P a1 a2 v2 v3 v1.2) (fun v4 => if v4 ≤ 0 then (f_X7_isBad_38 P a1 a2 v1.2) else (f_X7_isBad_39 P a1 a2 (1 : Int32) v1.2))))) else (f_X7_isBad_38 P a1 a2 v1.2))
set_option maxRecDepth 100000 in
set_option maxHeartbeats 4000000 in
theorem t_X7_isBad (g : fm_G) (l : Launch) (hl : l.stackTraces = false) (P : Nat) (a1 : Int32) (a2 : Int32) (hP : fm_kd g P = 7) (M : fm_Mem) (w : fm_W) : Tt g l z_X7_isBad (emIw M w) (f_X7_isBad P a1 a2 M) 0 [(0, .ref P), (1, .int a1), (2, .int a2)] [] (M, w) := by
  rw [f_X7_isBad]
  refine Tt.go (fun _ => Tr.run 4 (pc' := 4) (lv' := [(0, .ref P), (1, .int a1), (2, .int a2)]) (st' := [.int a2, .int a1, .int (0 : Int32), .ref P]) rfl) ?_
  refine Tt.callV (As := [.int (0 : Int32), .int a1, .int a2]) (rest := []) (c_X7_edgeMany g l hl P (0 : Int32) a1 a2 hP M w) hP (by decide) rfl rfl cw_X7_edgeMany fw1219 pn_X7_edgeMany (Nat.le_of_ble_eq_true rfl) (Nat.le_of_ble_eq_true rfl) (Nat.le_of_ble_eq_true rfl) rfl (fun v1 => (?_ : Tt g l z_X7_isBad (emIw M w) _ 7 [(0, .ref P), (1, .int a1), (2, .int a2)] [.int v1.1] (v1.2, w)))
  refine Tt.go (fun _ => Tr.run 1 (pc' := 8) (lv' := [(0, .ref P), (1, .int a1), (2, .int a2)]) (st' := [.int (2 : Int32), .int v1.1]) rfl) ?_
  refine Tt.ic_ne (tgt := 38) rfl (by decide) ?_ ?_
  · refine Tt.go (fun _ => Tr.run 7 (pc' := 18) (lv' := [(0, .ref P), (1, .int a1), (2, .int a2)]) (st' := [.int (0 : Int32), .int a2, .int a1, .ref P, .int a2, .int a1, .ref P]) rfl) ?_
    refine Tt.callV (As := [.int a1, .int a2, .int (0 : Int32)]) (rest := [.int a2, .int a1, .ref P]) (c_X7_third g l hl P a1 a2 (0 : Int32) hP v1.2 w) hP (by decide) rfl rfl cw_X7_third fw1235 pn_X7_third (Nat.le_of_ble_eq_true rfl) (Nat.le_of_ble_eq_true rfl) (Nat.le_of_ble_eq_true rfl) rfl (fun v2 => (?_ : Tt g l z_X7_isBad (emIw M w) _ 21 [(0, .ref P), (1, .int a1), (2, .int a2)] [.int v2, .int a2, .int a1, .ref P] (v1.2, w)))
    refine Tt.go (fun _ => Tr.run 4 (pc' := 25) (lv' := [(0, .ref P), (1, .int a1), (2, .int a2)]) (st' := [.int (1 : Int32), .int a2, .int a1, .ref P, .int v2, .int a2, .int a1, .ref P]) rfl) ?_
    refine Tt.callV (As := [.int a1, .int a2, .int (1 : Int32)]) (rest := [.int v2, .int a2, .int a1, .ref P]) (c_X7_third g l hl P a1 a2 (1 : Int32) hP v1.2 w) hP (by decide) rfl rfl cw_X7_third fw1235 pn_X7_third (Nat.le_of_ble_eq_true rfl) (Nat.le_of_ble_eq_true rfl) (Nat.le_of_ble_eq_true rfl) rfl (fun v3 => (?_ : Tt g l z_X7_isBad (emIw M w) _ 28 [(0, .ref P), (1, .int a1), (2, .int a2)] [.int v3, .int v2, .int a2, .int a1, .ref P] (v1.2, w)))
    refine Tt.callV (As := [.int a1, .int a2, .int v2, .int v3]) (rest := []) (c_X7_circleBy g l hl P a1 a2 v2 v3 hP v1.2 w) hP (by decide) rfl rfl cw_X7_circleBy fw1200 pn_X7_circleBy (Nat.le_of_ble_eq_true rfl) (Nat.le_of_ble_eq_true rfl) (Nat.le_of_ble_eq_true rfl) rfl (fun v4 => (?_ : Tt g l z_X7_isBad (emIw M w) _ 31 [(0, .ref P), (1, .int a1), (2, .int a2)] [.int v4] (v1.2, w)))
    refine Tt.if_le (tgt := 38) rfl (by decide) ?_ ?_
    · refine Tt.go (fun _ => Tr.sub (lv' := []) [] rfl) ?_
      exact t_X7_isBad_38 g l hl P a1 a2 hP w M v1.2
    · refine Tt.go (fun _ => Tr.run 2 (pc' := 39) (lv' := [(0, .ref P), (1, .int a1), (2, .int a2)]) (st' := [.int (1 : Int32)]) rfl) ?_
      refine Tt.go (fun _ => Tr.sub (lv' := []) [] rfl) ?_
      exact t_X7_isBad_39 g l hl P a1 a2 hP w M (1 : Int32) v1.2
  · refine Tt.go (fun _ => Tr.sub (lv' := []) [] rfl) ?_
    exact t_X7_isBad_38 g l hl P a1 a2 hP w M v1.2
theorem c_X7_isBad (g : fm_G) (l : Launch) (hl : l.stackTraces = false) (P : Nat) (a1 : Int32) (a2 : Int32) (hP : fm_kd g P = 7) (M : fm_Mem) (w : fm_W) : ∀ r, f_X7_isBad P a1 a2 M = some r → fC g l z_X7_isBad [.ref P, .int a1, .int a2] (M, w) (emIw M w r) := fun r hr => fC.of (by decide) rfl o_X7_isBad hl (Nat.le_of_ble_eq_true rfl) (t_X7_isBad g l hl P a1 a2 hP M w r hr)
def k_X7_firstBad : List (Nat × Instr × Nat) := [(0, .iconst 0, 1), (1, .istore_n 1, 1), (2, .iload_n 1, 1), (3, .aload_n 0, 1), (4, .invokevirtual 48, 3), (7, .if_icmp .ge 43, 3), (10, .iload_n 1, 1), (11, .iconst 1, 1), (12, .iadd, 1), (13, .istore_n 2, 1), (14, .iload_n 2, 1), (15, .aload_n 0, 1), (16, .invokevirtual 48, 3), (19, .if_icmp .ge 25, 3), (22, .aload_n 0, 1), (23, .iload_n 1, 1), (24, .iload_n 2, 1), (25, .invokevirtual 122, 3), (28, .ifCond .eq 10, 3), (31, .bipush 100, 2), (33, .iload_n 1, 1), (34, .imul, 1), (35, .iload_n 2, 1), (36, .iadd, 1), (37, .ireturn, 1), (38, .iinc 2 1, 3), (41, .goto (-27), 3), (44, .iinc 1 1, 3), (47, .goto (-45), 3), (50, .iconst (-1), 1), (51, .ireturn, 1)]
def z_X7_firstBad : fm_Y := (yX7_firstBad, RX7, cX7_firstBad, 3, (some .int), k_X7_firstBad, 10, 262)
theorem o_X7_firstBad : fm_dec z_X7_firstBad := (by decide +kernel : ∀ q ∈ k_X7_firstBad, decode cX7_firstBad q.1 = .ok q.2)
theorem cw_X7_firstBad : fm_cwV z_X7_firstBad := ⟨⟨lw_in 1373 (by decide +kernel) (by decide +kernel), lw_in 99 (by decide +kernel) (by decide +kernel), by decide, by decide⟩, lw_in 1372 (by decide +kernel) (by decide +kernel), lw_in 82 (by decide +kernel) (by decide +kernel)⟩
theorem pn_X7_firstBad : (parseMethodDescriptor z_X7_firstBad.1.desc).map (fun d => d.parameters.length) = some 0 := by decide +kernel
def f_X7_firstBad_14 (P : Nat) (k2 : Int32 → fm_Mem → Option (Int32 × fm_Mem)) : Nat → Int32 → Int32 → fm_Mem → Option (Int32 × fm_Mem)
  | 0, _, _, _ => none
  | n + 1, x1, x2, M => Option.bind (f_X7_points P M) (fun v1 => if v1 ≤ x2 then (k2 (x1 + (1 : Int32)) M) else (Option.bind (f_X7_isBad P x1 x2 M) (fun v2 => if v2.1 = 0 then (f_X7_firstBad_14 P k2 n x1 (x2 + (1 : Int32)) v2.2) else (some (((((100 : Int32) * x1) + x2), v2.2))))))
set_option maxRecDepth 100000 in
set_option maxHeartbeats 4000000 in
theorem t_X7_firstBad_14 (g : fm_G) (l : Launch) (hl : l.stackTraces = false) (P : Nat) (hP : fm_kd g P = 7) (w : fm_W) (M0 : fm_Mem) (k2 : Int32 → fm_Mem → Option (Int32 × fm_Mem)) (hk2 : ∀ (x1 : Int32) (M : fm_Mem), Tt g l z_X7_firstBad (emIw M0 w) (k2 x1 M) 2 [(0, .ref P), (1, .int x1)] [] (M, w)) : ∀ (n : Nat) (x1 : Int32) (x2 : Int32)  (M : fm_Mem), Tt g l z_X7_firstBad (emIw M0 w) (f_X7_firstBad_14 P k2 n x1 x2 M) 14 [(0, .ref P), (1, .int x1), (2, .int x2)] [] (M, w) := by
  intro n
  induction n with
  | zero => intros; exact Tt.none
  | succ n ih =>
    intro x1 x2  M
    rw [f_X7_firstBad_14]
    refine Tt.go (fun _ => Tr.run 2 (pc' := 16) (lv' := [(0, .ref P), (1, .int x1), (2, .int x2)]) (st' := [.ref P, .int x2]) rfl) ?_
    refine Tt.callV (As := []) (rest := [.int x2]) (c_X7_points g l hl P hP M w) hP (by decide) rfl rfl cw_X7_points fw1156 pn_X7_points (Nat.le_of_ble_eq_true rfl) (Nat.le_of_ble_eq_true rfl) (Nat.le_of_ble_eq_true rfl) rfl (fun v1 => (?_ : Tt g l z_X7_firstBad (emIw M0 w) _ 19 [(0, .ref P), (1, .int x1), (2, .int x2)] [.int v1, .int x2] (M, w)))
    refine Tt.ic_ge (tgt := 44) rfl (by decide) ?_ ?_
    · refine Tt.go (fun _ => Tr.run 2 (pc' := 2) (lv' := [(1, .int (x1 + (1 : Int32))), (0, .ref P), (2, .int x2)]) (st' := []) rfl) ?_
      refine Tt.go (fun _ => Tr.sub (lv' := [(0, .ref P), (1, .int (x1 + (1 : Int32)))]) [1, 0] rfl) ?_
      exact hk2 (x1 + (1 : Int32)) M
    · refine Tt.go (fun _ => Tr.run 3 (pc' := 25) (lv' := [(0, .ref P), (1, .int x1), (2, .int x2)]) (st' := [.int x2, .int x1, .ref P]) rfl) ?_
      refine Tt.callV (As := [.int x1, .int x2]) (rest := []) (c_X7_isBad g l hl P x1 x2 hP M w) hP (by decide) rfl rfl cw_X7_isBad fw1281 pn_X7_isBad (Nat.le_of_ble_eq_true rfl) (Nat.le_of_ble_eq_true rfl) (Nat.le_of_ble_eq_true rfl) rfl (fun v2 => (?_ : Tt g l z_X7_firstBad (emIw M0 w) _ 28 [(0, .ref P), (1, .int x1), (2, .int x2)] [.int v2.1] (v2.2, w)))
      refine Tt.if_eq (tgt := 38) rfl (by decide) ?_ ?_
      · refine Tt.go (fun _ => Tr.run 2 (pc' := 14) (lv' := [(2, .int (x2 + (1 : Int32))), (0, .ref P), (1, .int x1)]) (st' := []) rfl) ?_
        refine Tt.go (fun _ => Tr.sub (lv' := [(0, .ref P), (1, .int x1), (2, .int (x2 + (1 : Int32)))]) [1, 2, 0] rfl) ?_
        exact ih x1 (x2 + (1 : Int32)) v2.2
      · refine Tt.go (fun _ => Tr.run 5 (pc' := 37) (lv' := [(0, .ref P), (1, .int x1), (2, .int x2)]) (st' := [.int (((100 : Int32) * x1) + x2)]) rfl) ?_
        exact Tt.ret (Tr.iret rfl rfl)
def f_X7_firstBad_2 (P : Nat) : Nat → Int32 → fm_Mem → Option (Int32 × fm_Mem)
  | 0, _, _ => none
  | n + 1, x1, M => Option.bind (f_X7_points P M) (fun v1 => if v1 ≤ x1 then (some (((-1 : Int32), M))) else (f_X7_firstBad_14 P (fun x1 M => f_X7_firstBad_2 P n x1 M) fm_fuel x1 (x1 + (1 : Int32)) M))
set_option maxRecDepth 100000 in
set_option maxHeartbeats 4000000 in
theorem t_X7_firstBad_2 (g : fm_G) (l : Launch) (hl : l.stackTraces = false) (P : Nat) (hP : fm_kd g P = 7) (w : fm_W) (M0 : fm_Mem)  : ∀ (n : Nat) (x1 : Int32)  (M : fm_Mem), Tt g l z_X7_firstBad (emIw M0 w) (f_X7_firstBad_2 P  n x1 M) 2 [(0, .ref P), (1, .int x1)] [] (M, w) := by
  intro n
  induction n with
  | zero => intros; exact Tt.none
  | succ n ih =>
    intro x1  M
    rw [f_X7_firstBad_2]
    refine Tt.go (fun _ => Tr.run 2 (pc' := 4) (lv' := [(0, .ref P), (1, .int x1)]) (st' := [.ref P, .int x1]) rfl) ?_
    refine Tt.callV (As := []) (rest := [.int x1]) (c_X7_points g l hl P hP M w) hP (by decide) rfl rfl cw_X7_points fw1156 pn_X7_points (Nat.le_of_ble_eq_true rfl) (Nat.le_of_ble_eq_true rfl) (Nat.le_of_ble_eq_true rfl) rfl (fun v1 => (?_ : Tt g l z_X7_firstBad (emIw M0 w) _ 7 [(0, .ref P), (1, .int x1)] [.int v1, .int x1] (M, w)))
    refine Tt.ic_ge (tgt := 50) rfl (by decide) ?_ ?_
    · refine Tt.go (fun _ => Tr.run 1 (pc' := 51) (lv' := [(0, .ref P), (1, .int x1)]) (st' := [.int (-1 : Int32)]) rfl) ?_
      exact Tt.ret (Tr.iret rfl rfl)
    · refine Tt.go (fun _ => Tr.run 4 (pc' := 14) (lv' := [(2, .int (x1 + (1 : Int32))), (0, .ref P), (1, .int x1)]) (st' := []) rfl) ?_
      refine Tt.go (fun _ => Tr.sub (lv' := [(0, .ref P), (1, .int x1), (2, .int (x1 + (1 : Int32)))]) [1, 2, 0] rfl) ?_
      exact t_X7_firstBad_14 g l hl P hP w M0 _ ih fm_fuel x1 (x1 + (1 : Int32)) M
def f_X7_firstBad (P : Nat) (M : fm_Mem) : Option (Int32 × fm_Mem) := (f_X7_firstBad_2 P fm_fuel (0 : Int32) M)
set_option maxRecDepth 100000 in
set_option maxHeartbeats 4000000 in
theorem t_X7_firstBad (g : fm_G) (l : Launch) (hl : l.stackTraces = false) (P : Nat) (hP : fm_kd g P = 7) (M : fm_Mem) (w : fm_W) : Tt g l z_X7_firstBad (emIw M w) (f_X7_firstBad P M) 0 [(0, .ref P)] [] (M, w) := by
  rw [f_X7_firstBad]
  refine Tt.go (fun _ => Tr.run 2 (pc' := 2) (lv' := [(1, .int (0 : Int32)), (0, .ref P)]) (st' := []) rfl) ?_
  refine Tt.go (fun _ => Tr.sub (lv' := [(0, .ref P), (1, .int (0 : Int32))]) [1, 0] rfl) ?_
  exact t_X7_firstBad_2 g l hl P hP w M fm_fuel (0 : Int32) M
theorem c_X7_firstBad (g : fm_G) (l : Launch) (hl : l.stackTraces = false) (P : Nat) (hP : fm_kd g P = 7) (M : fm_Mem) (w : fm_W) : ∀ r, f_X7_firstBad P M = some r → fC g l z_X7_firstBad [.ref P] (M, w) (emIw M w r) := fun r hr => fC.of (by decide) rfl o_X7_firstBad hl (Nat.le_of_ble_eq_true rfl) (t_X7_firstBad g l hl P hP M w r hr)
def k_X7_triangleWith : List (Nat × Instr × Nat) := [(0, .iconst 0, 1), (1, .istore 4, 2), (3, .iload 4, 2), (5, .aload_n 0, 1), (6, .iconst 1, 1), (7, .invokevirtual 41, 3), (10, .if_icmp .ge 45, 3), (13, .aload_n 0, 1), (14, .iconst 0, 1), (15, .iload 4, 2), (17, .iload_n 1, 1), (18, .invokevirtual 111, 3), (21, .ifCond .eq 28, 3), (24, .aload_n 0, 1), (25, .iconst 0, 1), (26, .iload 4, 2), (28, .iload_n 2, 1), (29, .invokevirtual 111, 3), (32, .ifCond .eq 17, 3), (35, .aload_n 0, 1), (36, .iconst 0, 1), (37, .iload 4, 2), (39, .iload_n 3, 1), (40, .invokevirtual 111, 3), (43, .ifCond .eq 6, 3), (46, .iload 4, 2), (48, .ireturn, 1), (49, .iinc 4 1, 3), (52, .goto (-49), 3), (55, .iconst (-1), 1), (56, .ireturn, 1)]
def z_X7_triangleWith : fm_Y := (yX7_triangleWith, RX7, cX7_triangleWith, 5, (some .int), k_X7_triangleWith, 3, 67)
theorem o_X7_triangleWith : fm_dec z_X7_triangleWith := (by decide +kernel : ∀ q ∈ k_X7_triangleWith, decode cX7_triangleWith q.1 = .ok q.2)
theorem cw_X7_triangleWith : fm_cwV z_X7_triangleWith := ⟨⟨lw_in 1246 (by decide +kernel) (by decide +kernel), lw_in 99 (by decide +kernel) (by decide +kernel), by decide, by decide⟩, lw_in 1245 (by decide +kernel) (by decide +kernel), lw_in 59 (by decide +kernel) (by decide +kernel)⟩
theorem pn_X7_triangleWith : (parseMethodDescriptor z_X7_triangleWith.1.desc).map (fun d => d.parameters.length) = some 3 := by decide +kernel
def f_X7_triangleWith_49 (P : Nat) (a1 : Int32) (a2 : Int32) (a3 : Int32) (k3 : Int32 → fm_Mem → Option (Int32)) (x4 : Int32) (M : fm_Mem) : Option (Int32) := (k3 (x4 + (1 : Int32)) M)
set_option maxRecDepth 100000 in
set_option maxHeartbeats 4000000 in
theorem t_X7_triangleWith_49 (g : fm_G) (l : Launch) (hl : l.stackTraces = false) (P : Nat) (a1 : Int32) (a2 : Int32) (a3 : Int32) (hP : fm_kd g P = 7) (w : fm_W) (k3 : Int32 → fm_Mem → Option (Int32)) (hk3 : ∀ (x4 : Int32) (M : fm_Mem), Tt g l z_X7_triangleWith (emI M w) (k3 x4 M) 3 [(0, .ref P), (1, .int a1), (2, .int a2), (3, .int a3), (4, .int x4)] [] (M, w)) (x4 : Int32)  (M : fm_Mem) : Tt g l z_X7_triangleWith (emI M w) (f_X7_triangleWith_49 P a1 a2 a3 k3 x4 M) 49 [(0, .ref P), (1, .int a1), (2, .int a2), (3, .int a3), (4, .int x4)] [] (M, w) := by
  rw [f_X7_triangleWith_49]
  refine Tt.go (fun _ => Tr.run 2 (pc' := 3) (lv' := [(4, .int (x4 + (1 : Int32))), (0, .ref P), (1, .int a1), (2, .int a2), (3, .int a3)]) (st' := []) rfl) ?_
  refine Tt.go (fun _ => Tr.sub (lv' := [(0, .ref P), (1, .int a1), (2, .int a2), (3, .int a3), (4, .int (x4 + (1 : Int32)))]) [1, 2, 3, 4, 0] rfl) ?_
  exact hk3 (x4 + (1 : Int32)) M
def f_X7_triangleWith_3 (P : Nat) (a1 : Int32) (a2 : Int32) (a3 : Int32) : Nat → Int32 → fm_Mem → Option (Int32)
  | 0, _, _ => none
  | n + 1, x4, M => Option.bind (f_X7_get P (1 : Int32) M) (fun v1 => if v1 ≤ x4 then (some ((-1 : Int32))) else (Option.bind (f_X7_has P (0 : Int32) x4 a1 M) (fun v2 => if v2 = 0 then (f_X7_triangleWith_49 P a1 a2 a3 (fun x4 M => f_X7_triangleWith_3 P a1 a2 a3 n x4 M) x4 M) else (Option.bind (f_X7_has P (0 : Int32) x4 a2 M) (fun v3 => if v3 = 0 then (f_X7_triangleWith_49 P a1 a2 a3 (fun x4 M => f_X7_triangleWith_3 P a1 a2 a3 n x4 M) x4 M) else (Option.bind (f_X7_has P (0 : Int32) x4 a3 M) (fun v4 => if v4 = 0 then (f_X7_triangleWith_49 P a1 a2 a3 (fun x4 M => f_X7_triangleWith_3 P a1 a2 a3 n x4 M) x4 M) else (some (x4)))))))))
set_option maxRecDepth 100000 in
set_option maxHeartbeats 4000000 in
theorem t_X7_triangleWith_3 (g : fm_G) (l : Launch) (hl : l.stackTraces = false) (P : Nat) (a1 : Int32) (a2 : Int32) (a3 : Int32) (hP : fm_kd g P = 7) (w : fm_W)  : ∀ (n : Nat) (x4 : Int32)  (M : fm_Mem), Tt g l z_X7_triangleWith (emI M w) (f_X7_triangleWith_3 P a1 a2 a3  n x4 M) 3 [(0, .ref P), (1, .int a1), (2, .int a2), (3, .int a3), (4, .int x4)] [] (M, w) := by
  intro n
  induction n with
  | zero => intros; exact Tt.none
  | succ n ih =>
    intro x4  M
    rw [f_X7_triangleWith_3]
    refine Tt.go (fun _ => Tr.run 3 (pc' := 7) (lv' := [(0, .ref P), (1, .int a1), (2, .int a2), (3, .int a3), (4, .int x4)]) (st' := [.int (1 : Int32), .ref P, .int x4]) rfl) ?_
    refine Tt.callV (As := [.int (1 : Int32)]) (rest := [.int x4]) (c_X7_get g l hl P (1 : Int32) hP M w) hP (by decide) rfl rfl cw_X7_get fw1109 pn_X7_get (Nat.le_of_ble_eq_true rfl) (Nat.le_of_ble_eq_true rfl) (Nat.le_of_ble_eq_true rfl) rfl (fun v1 => (?_ : Tt g l z_X7_triangleWith (emI M w) _ 10 [(0, .ref P), (1, .int a1), (2, .int a2), (3, .int a3), (4, .int x4)] [.int v1, .int x4] (M, w)))
    refine Tt.ic_ge (tgt := 55) rfl (by decide) ?_ ?_
    · refine Tt.go (fun _ => Tr.run 1 (pc' := 56) (lv' := [(0, .ref P), (1, .int a1), (2, .int a2), (3, .int a3), (4, .int x4)]) (st' := [.int (-1 : Int32)]) rfl) ?_
      exact Tt.ret (Tr.iret rfl rfl)
    · refine Tt.go (fun _ => Tr.run 4 (pc' := 18) (lv' := [(0, .ref P), (1, .int a1), (2, .int a2), (3, .int a3), (4, .int x4)]) (st' := [.int a1, .int x4, .int (0 : Int32), .ref P]) rfl) ?_
      refine Tt.callV (As := [.int (0 : Int32), .int x4, .int a1]) (rest := []) (c_X7_has g l hl P (0 : Int32) x4 a1 hP M w) hP (by decide) rfl rfl cw_X7_has fw1227 pn_X7_has (Nat.le_of_ble_eq_true rfl) (Nat.le_of_ble_eq_true rfl) (Nat.le_of_ble_eq_true rfl) rfl (fun v2 => (?_ : Tt g l z_X7_triangleWith (emI M w) _ 21 [(0, .ref P), (1, .int a1), (2, .int a2), (3, .int a3), (4, .int x4)] [.int v2] (M, w)))
      refine Tt.if_eq (tgt := 49) rfl (by decide) ?_ ?_
      · exact t_X7_triangleWith_49 g l hl P a1 a2 a3 hP w _ ih x4 M
      · refine Tt.go (fun _ => Tr.run 4 (pc' := 29) (lv' := [(0, .ref P), (1, .int a1), (2, .int a2), (3, .int a3), (4, .int x4)]) (st' := [.int a2, .int x4, .int (0 : Int32), .ref P]) rfl) ?_
        refine Tt.callV (As := [.int (0 : Int32), .int x4, .int a2]) (rest := []) (c_X7_has g l hl P (0 : Int32) x4 a2 hP M w) hP (by decide) rfl rfl cw_X7_has fw1227 pn_X7_has (Nat.le_of_ble_eq_true rfl) (Nat.le_of_ble_eq_true rfl) (Nat.le_of_ble_eq_true rfl) rfl (fun v3 => (?_ : Tt g l z_X7_triangleWith (emI M w) _ 32 [(0, .ref P), (1, .int a1), (2, .int a2), (3, .int a3), (4, .int x4)] [.int v3] (M, w)))
        refine Tt.if_eq (tgt := 49) rfl (by decide) ?_ ?_
        · exact t_X7_triangleWith_49 g l hl P a1 a2 a3 hP w _ ih x4 M
        · refine Tt.go (fun _ => Tr.run 4 (pc' := 40) (lv' := [(0, .ref P), (1, .int a1), (2, .int a2), (3, .int a3), (4, .int x4)]) (st' := [.int a3, .int x4, .int (0 : Int32), .ref P]) rfl) ?_
          refine Tt.callV (As := [.int (0 : Int32), .int x4, .int a3]) (rest := []) (c_X7_has g l hl P (0 : Int32) x4 a3 hP M w) hP (by decide) rfl rfl cw_X7_has fw1227 pn_X7_has (Nat.le_of_ble_eq_true rfl) (Nat.le_of_ble_eq_true rfl) (Nat.le_of_ble_eq_true rfl) rfl (fun v4 => (?_ : Tt g l z_X7_triangleWith (emI M w) _ 43 [(0, .ref P), (1, .int a1), (2, .int a2), (3, .int a3), (4, .int x4)] [.int v4] (M, w)))
          refine Tt.if_eq (tgt := 49) rfl (by decide) ?_ ?_
          · exact t_X7_triangleWith_49 g l hl P a1 a2 a3 hP w _ ih x4 M
          · refine Tt.go (fun _ => Tr.run 1 (pc' := 48) (lv' := [(0, .ref P), (1, .int a1), (2, .int a2), (3, .int a3), (4, .int x4)]) (st' := [.int x4]) rfl) ?_
            exact Tt.ret (Tr.iret rfl rfl)
def f_X7_triangleWith (P : Nat) (a1 : Int32) (a2 : Int32) (a3 : Int32) (M : fm_Mem) : Option (Int32) := (f_X7_triangleWith_3 P a1 a2 a3 fm_fuel (0 : Int32) M)
set_option maxRecDepth 100000 in
set_option maxHeartbeats 4000000 in
theorem t_X7_triangleWith (g : fm_G) (l : Launch) (hl : l.stackTraces = false) (P : Nat) (a1 : Int32) (a2 : Int32) (a3 : Int32) (hP : fm_kd g P = 7) (M : fm_Mem) (w : fm_W) : Tt g l z_X7_triangleWith (emI M w) (f_X7_triangleWith P a1 a2 a3 M) 0 [(0, .ref P), (1, .int a1), (2, .int a2), (3, .int a3)] [] (M, w) := by
  rw [f_X7_triangleWith]
  refine Tt.go (fun _ => Tr.run 2 (pc' := 3) (lv' := [(4, .int (0 : Int32)), (0, .ref P), (1, .int a1), (2, .int a2), (3, .int a3)]) (st' := []) rfl) ?_
  refine Tt.go (fun _ => Tr.sub (lv' := [(0, .ref P), (1, .int a1), (2, .int a2), (3, .int a3), (4, .int (0 : Int32))]) [1, 2, 3, 4, 0] rfl) ?_
  exact t_X7_triangleWith_3 g l hl P a1 a2 a3 hP w fm_fuel (0 : Int32) M
theorem c_X7_triangleWith (g : fm_G) (l : Launch) (hl : l.stackTraces = false) (P : Nat) (a1 : Int32) (a2 : Int32) (a3 : Int32) (hP : fm_kd g P = 7) (M : fm_Mem) (w : fm_W) : ∀ r, f_X7_triangleWith P a1 a2 a3 M = some r → fC g l z_X7_triangleWith [.ref P, .int a1, .int a2, .int a3] (M, w) (emI M w r) := fun r hr => fC.of (by decide) rfl o_X7_triangleWith hl (Nat.le_of_ble_eq_true rfl) (t_X7_triangleWith g l hl P a1 a2 a3 hP M w r hr)
def k_X7_lays3 : List (Nat × Instr × Nat) := [(0, .aload_n 0, 1), (1, .bipush 60, 2), (3, .iconst 3, 1), (4, .iload_n 1, 1), (5, .imul, 1), (6, .iadd, 1), (7, .iload_n 2, 1), (8, .invokevirtual 99, 3), (11, .aload_n 0, 1), (12, .bipush 60, 2), (14, .iconst 3, 1), (15, .iload_n 1, 1), (16, .imul, 1), (17, .iadd, 1), (18, .iconst 1, 1), (19, .iadd, 1), (20, .iload_n 3, 1), (21, .invokevirtual 99, 3), (24, .aload_n 0, 1), (25, .bipush 60, 2), (27, .iconst 3, 1), (28, .iload_n 1, 1), (29, .imul, 1), (30, .iadd, 1), (31, .iconst 2, 1), (32, .iadd, 1), (33, .iload 4, 2), (35, .invokevirtual 99, 3), (38, .return_, 1)]
def z_X7_lays3 : fm_Y := (yX7_lays3, RX7, cX7_lays3, 5, none, k_X7_lays3, 1, 22)
theorem o_X7_lays3 : fm_dec z_X7_lays3 := (by decide +kernel : ∀ q ∈ k_X7_lays3, decode cX7_lays3 q.1 = .ok q.2)
theorem cw_X7_lays3 : fm_cwV z_X7_lays3 := ⟨⟨lw_in 1256 (by decide +kernel) (by decide +kernel), lw_in 99 (by decide +kernel) (by decide +kernel), by decide, by decide⟩, lw_in 1255 (by decide +kernel) (by decide +kernel), lw_in 61 (by decide +kernel) (by decide +kernel)⟩
theorem pn_X7_lays3 : (parseMethodDescriptor z_X7_lays3.1.desc).map (fun d => d.parameters.length) = some 4 := by decide +kernel
def f_X7_lays3 (P : Nat) (a1 : Int32) (a2 : Int32) (a3 : Int32) (a4 : Int32) (M : fm_Mem) : Option (fm_Mem) := Option.bind (f_X7_put0 P ((60 : Int32) + ((3 : Int32) * a1)) a2 M) (fun v1 => Option.bind (f_X7_put0 P (((60 : Int32) + ((3 : Int32) * a1)) + (1 : Int32)) a3 v1) (fun v2 => Option.bind (f_X7_put0 P (((60 : Int32) + ((3 : Int32) * a1)) + (2 : Int32)) a4 v2) (fun v3 => some (v3))))
set_option maxRecDepth 100000 in
set_option maxHeartbeats 4000000 in
theorem t_X7_lays3 (g : fm_G) (l : Launch) (hl : l.stackTraces = false) (P : Nat) (a1 : Int32) (a2 : Int32) (a3 : Int32) (a4 : Int32) (hP : fm_kd g P = 7) (M : fm_Mem) (w : fm_W) : Tt g l z_X7_lays3 (emVw M w) (f_X7_lays3 P a1 a2 a3 a4 M) 0 [(0, .ref P), (1, .int a1), (2, .int a2), (3, .int a3), (4, .int a4)] [] (M, w) := by
  rw [f_X7_lays3]
  refine Tt.go (fun _ => Tr.run 7 (pc' := 8) (lv' := [(0, .ref P), (1, .int a1), (2, .int a2), (3, .int a3), (4, .int a4)]) (st' := [.int a2, .int ((60 : Int32) + ((3 : Int32) * a1)), .ref P]) rfl) ?_
  refine Tt.callV (As := [.int ((60 : Int32) + ((3 : Int32) * a1)), .int a2]) (rest := []) (c_X7_put0 g l hl P ((60 : Int32) + ((3 : Int32) * a1)) a2 hP M w) hP (by decide) rfl rfl cw_X7_put0 fw1135 pn_X7_put0 (Nat.le_of_ble_eq_true rfl) (Nat.le_of_ble_eq_true rfl) (Nat.le_of_ble_eq_true rfl) rfl (fun v1 => (?_ : Tt g l z_X7_lays3 (emVw M w) _ 11 [(0, .ref P), (1, .int a1), (2, .int a2), (3, .int a3), (4, .int a4)] [] (v1, w)))
  refine Tt.go (fun _ => Tr.run 9 (pc' := 21) (lv' := [(0, .ref P), (1, .int a1), (2, .int a2), (3, .int a3), (4, .int a4)]) (st' := [.int a3, .int (((60 : Int32) + ((3 : Int32) * a1)) + (1 : Int32)), .ref P]) rfl) ?_
  refine Tt.callV (As := [.int (((60 : Int32) + ((3 : Int32) * a1)) + (1 : Int32)), .int a3]) (rest := []) (c_X7_put0 g l hl P (((60 : Int32) + ((3 : Int32) * a1)) + (1 : Int32)) a3 hP v1 w) hP (by decide) rfl rfl cw_X7_put0 fw1135 pn_X7_put0 (Nat.le_of_ble_eq_true rfl) (Nat.le_of_ble_eq_true rfl) (Nat.le_of_ble_eq_true rfl) rfl (fun v2 => (?_ : Tt g l z_X7_lays3 (emVw M w) _ 24 [(0, .ref P), (1, .int a1), (2, .int a2), (3, .int a3), (4, .int a4)] [] (v2, w)))
  refine Tt.go (fun _ => Tr.run 9 (pc' := 35) (lv' := [(0, .ref P), (1, .int a1), (2, .int a2), (3, .int a3), (4, .int a4)]) (st' := [.int a4, .int (((60 : Int32) + ((3 : Int32) * a1)) + (2 : Int32)), .ref P]) rfl) ?_
  refine Tt.callV (As := [.int (((60 : Int32) + ((3 : Int32) * a1)) + (2 : Int32)), .int a4]) (rest := []) (c_X7_put0 g l hl P (((60 : Int32) + ((3 : Int32) * a1)) + (2 : Int32)) a4 hP v2 w) hP (by decide) rfl rfl cw_X7_put0 fw1135 pn_X7_put0 (Nat.le_of_ble_eq_true rfl) (Nat.le_of_ble_eq_true rfl) (Nat.le_of_ble_eq_true rfl) rfl (fun v3 => (?_ : Tt g l z_X7_lays3 (emVw M w) _ 38 [(0, .ref P), (1, .int a1), (2, .int a2), (3, .int a3), (4, .int a4)] [] (v3, w)))
  exact Tt.ret (Tr.vret rfl rfl)
theorem c_X7_lays3 (g : fm_G) (l : Launch) (hl : l.stackTraces = false) (P : Nat) (a1 : Int32) (a2 : Int32) (a3 : Int32) (a4 : Int32) (hP : fm_kd g P = 7) (M : fm_Mem) (w : fm_W) : ∀ r, f_X7_lays3 P a1 a2 a3 a4 M = some r → fC g l z_X7_lays3 [.ref P, .int a1, .int a2, .int a3, .int a4] (M, w) (emVw M w r) := fun r hr => fC.of (by decide) rfl o_X7_lays3 hl (Nat.le_of_ble_eq_true rfl) (t_X7_lays3 g l hl P a1 a2 a3 a4 hP M w r hr)
def k_X7_codeOf : List (Nat × Instr × Nat) := [(0, .sipush 400, 3), (3, .aload_n 0, 1), (4, .iconst 0, 1), (5, .iload_n 1, 1), (6, .iconst 0, 1), (7, .invokevirtual 103, 3), (10, .imul, 1), (11, .bipush 20, 2), (13, .aload_n 0, 1), (14, .iconst 0, 1), (15, .iload_n 1, 1), (16, .iconst 1, 1), (17, .invokevirtual 103, 3), (20, .imul, 1), (21, .iadd, 1), (22, .aload_n 0, 1), (23, .iconst 0, 1), (24, .iload_n 1, 1), (25, .iconst 2, 1), (26, .invokevirtual 103, 3), (29, .iadd, 1), (30, .ireturn, 1)]
def z_X7_codeOf : fm_Y := (yX7_codeOf, RX7, cX7_codeOf, 2, (some .int), k_X7_codeOf, 2, 44)
theorem o_X7_codeOf : fm_dec z_X7_codeOf := (by decide +kernel : ∀ q ∈ k_X7_codeOf, decode cX7_codeOf q.1 = .ok q.2)
theorem cw_X7_codeOf : fm_cwV z_X7_codeOf := ⟨⟨lw_in 1264 (by decide +kernel) (by decide +kernel), lw_in 99 (by decide +kernel) (by decide +kernel), by decide, by decide⟩, lw_in 1263 (by decide +kernel) (by decide +kernel), lw_in 63 (by decide +kernel) (by decide +kernel)⟩
theorem pn_X7_codeOf : (parseMethodDescriptor z_X7_codeOf.1.desc).map (fun d => d.parameters.length) = some 1 := by decide +kernel
def f_X7_codeOf (P : Nat) (a1 : Int32) (M : fm_Mem) : Option (Int32) := Option.bind (f_X7_endOf P (0 : Int32) a1 (0 : Int32) M) (fun v1 => Option.bind (f_X7_endOf P (0 : Int32) a1 (1 : Int32) M) (fun v2 => Option.bind (f_X7_endOf P (0 : Int32) a1 (2 : Int32) M) (fun v3 => some (((((400 : Int32) * v1) + ((20 : Int32) * v2)) + v3)))))
set_option maxRecDepth 100000 in
set_option maxHeartbeats 4000000 in
theorem t_X7_codeOf (g : fm_G) (l : Launch) (hl : l.stackTraces = false) (P : Nat) (a1 : Int32) (hP : fm_kd g P = 7) (M : fm_Mem) (w : fm_W) : Tt g l z_X7_codeOf (emI M w) (f_X7_codeOf P a1 M) 0 [(0, .ref P), (1, .int a1)] [] (M, w) := by
  rw [f_X7_codeOf]
  refine Tt.go (fun _ => Tr.run 5 (pc' := 7) (lv' := [(0, .ref P), (1, .int a1)]) (st' := [.int (0 : Int32), .int a1, .int (0 : Int32), .ref P, .int (400 : Int32)]) rfl) ?_
  refine Tt.callV (As := [.int (0 : Int32), .int a1, .int (0 : Int32)]) (rest := [.int (400 : Int32)]) (c_X7_endOf g l hl P (0 : Int32) a1 (0 : Int32) hP M w) hP (by decide) rfl rfl cw_X7_endOf fw1231 pn_X7_endOf (Nat.le_of_ble_eq_true rfl) (Nat.le_of_ble_eq_true rfl) (Nat.le_of_ble_eq_true rfl) rfl (fun v1 => (?_ : Tt g l z_X7_codeOf (emI M w) _ 10 [(0, .ref P), (1, .int a1)] [.int v1, .int (400 : Int32)] (M, w)))
  refine Tt.go (fun _ => Tr.run 6 (pc' := 17) (lv' := [(0, .ref P), (1, .int a1)]) (st' := [.int (1 : Int32), .int a1, .int (0 : Int32), .ref P, .int (20 : Int32), .int ((400 : Int32) * v1)]) rfl) ?_
  refine Tt.callV (As := [.int (0 : Int32), .int a1, .int (1 : Int32)]) (rest := [.int (20 : Int32), .int ((400 : Int32) * v1)]) (c_X7_endOf g l hl P (0 : Int32) a1 (1 : Int32) hP M w) hP (by decide) rfl rfl cw_X7_endOf fw1231 pn_X7_endOf (Nat.le_of_ble_eq_true rfl) (Nat.le_of_ble_eq_true rfl) (Nat.le_of_ble_eq_true rfl) rfl (fun v2 => (?_ : Tt g l z_X7_codeOf (emI M w) _ 20 [(0, .ref P), (1, .int a1)] [.int v2, .int (20 : Int32), .int ((400 : Int32) * v1)] (M, w)))
  refine Tt.go (fun _ => Tr.run 6 (pc' := 26) (lv' := [(0, .ref P), (1, .int a1)]) (st' := [.int (2 : Int32), .int a1, .int (0 : Int32), .ref P, .int (((400 : Int32) * v1) + ((20 : Int32) * v2))]) rfl) ?_
  refine Tt.callV (As := [.int (0 : Int32), .int a1, .int (2 : Int32)]) (rest := [.int (((400 : Int32) * v1) + ((20 : Int32) * v2))]) (c_X7_endOf g l hl P (0 : Int32) a1 (2 : Int32) hP M w) hP (by decide) rfl rfl cw_X7_endOf fw1231 pn_X7_endOf (Nat.le_of_ble_eq_true rfl) (Nat.le_of_ble_eq_true rfl) (Nat.le_of_ble_eq_true rfl) rfl (fun v3 => (?_ : Tt g l z_X7_codeOf (emI M w) _ 29 [(0, .ref P), (1, .int a1)] [.int v3, .int (((400 : Int32) * v1) + ((20 : Int32) * v2))] (M, w)))
  refine Tt.go (fun _ => Tr.run 1 (pc' := 30) (lv' := [(0, .ref P), (1, .int a1)]) (st' := [.int ((((400 : Int32) * v1) + ((20 : Int32) * v2)) + v3)]) rfl) ?_
  exact Tt.ret (Tr.iret rfl rfl)
theorem c_X7_codeOf (g : fm_G) (l : Launch) (hl : l.stackTraces = false) (P : Nat) (a1 : Int32) (hP : fm_kd g P = 7) (M : fm_Mem) (w : fm_W) : ∀ r, f_X7_codeOf P a1 M = some r → fC g l z_X7_codeOf [.ref P, .int a1] (M, w) (emI M w r) := fun r hr => fC.of (by decide) rfl o_X7_codeOf hl (Nat.le_of_ble_eq_true rfl) (t_X7_codeOf g l hl P a1 hP M w r hr)
def k_X7_isBefore : List (Nat × Instr × Nat) := [(0, .aload_n 0, 1), (1, .iload_n 1, 1), (2, .invokevirtual 145, 3), (5, .aload_n 0, 1), (6, .iload_n 2, 1), (7, .invokevirtual 145, 3), (10, .if_icmp .ge 7, 3), (13, .iconst 1, 1), (14, .goto 4, 3), (17, .iconst 0, 1), (18, .ireturn, 1)]
def z_X7_isBefore : fm_Y := (yX7_isBefore, RX7, cX7_isBefore, 3, (some .boolean), k_X7_isBefore, 3, 65)
theorem o_X7_isBefore : fm_dec z_X7_isBefore := (by decide +kernel : ∀ q ∈ k_X7_isBefore, decode cX7_isBefore q.1 = .ok q.2)
theorem cw_X7_isBefore : fm_cwV z_X7_isBefore := ⟨⟨lw_in 1260 (by decide +kernel) (by decide +kernel), lw_in 99 (by decide +kernel) (by decide +kernel), by decide, by decide⟩, lw_in 1259 (by decide +kernel) (by decide +kernel), lw_in 62 (by decide +kernel) (by decide +kernel)⟩
theorem pn_X7_isBefore : (parseMethodDescriptor z_X7_isBefore.1.desc).map (fun d => d.parameters.length) = some 2 := by decide +kernel
def f_X7_isBefore_18 (P : Nat) (a1 : Int32) (a2 : Int32) (s0 : Int32) (M : fm_Mem) : Option (Int32) := fm_ck (fm_bo s0) (some (s0))
set_option maxRecDepth 100000 in
set_option maxHeartbeats 4000000 in
theorem t_X7_isBefore_18 (g : fm_G) (l : Launch) (hl : l.stackTraces = false) (P : Nat) (a1 : Int32) (a2 : Int32) (hP : fm_kd g P = 7) (w : fm_W)  (s0 : Int32)  (M : fm_Mem) : Tt g l z_X7_isBefore (emI M w) (f_X7_isBefore_18 P a1 a2  s0 M) 18 [] [.int s0] (M, w) := by
  rw [f_X7_isBefore_18]
  exact Tt.ck (fun hb_1 => Tt.ret (Tr.zret rfl rfl hb_1))
def f_X7_isBefore (P : Nat) (a1 : Int32) (a2 : Int32) (M : fm_Mem) : Option (Int32) := Option.bind (f_X7_codeOf P a1 M) (fun v1 => Option.bind (f_X7_codeOf P a2 M) (fun v2 => if v2 ≤ v1 then (f_X7_isBefore_18 P a1 a2 (0 : Int32) M) else (f_X7_isBefore_18 P a1 a2 (1 : Int32) M)))
set_option maxRecDepth 100000 in
set_option maxHeartbeats 4000000 in
theorem t_X7_isBefore (g : fm_G) (l : Launch) (hl : l.stackTraces = false) (P : Nat) (a1 : Int32) (a2 : Int32) (hP : fm_kd g P = 7) (M : fm_Mem) (w : fm_W) : Tt g l z_X7_isBefore (emI M w) (f_X7_isBefore P a1 a2 M) 0 [(0, .ref P), (1, .int a1), (2, .int a2)] [] (M, w) := by
  rw [f_X7_isBefore]
  refine Tt.go (fun _ => Tr.run 2 (pc' := 2) (lv' := [(0, .ref P), (1, .int a1), (2, .int a2)]) (st' := [.int a1, .ref P]) rfl) ?_
  refine Tt.callV (As := [.int a1]) (rest := []) (c_X7_codeOf g l hl P a1 hP M w) hP (by decide) rfl rfl cw_X7_codeOf fw1261 pn_X7_codeOf (Nat.le_of_ble_eq_true rfl) (Nat.le_of_ble_eq_true rfl) (Nat.le_of_ble_eq_true rfl) rfl (fun v1 => (?_ : Tt g l z_X7_isBefore (emI M w) _ 5 [(0, .ref P), (1, .int a1), (2, .int a2)] [.int v1] (M, w)))
  refine Tt.go (fun _ => Tr.run 2 (pc' := 7) (lv' := [(0, .ref P), (1, .int a1), (2, .int a2)]) (st' := [.int a2, .ref P, .int v1]) rfl) ?_
  refine Tt.callV (As := [.int a2]) (rest := [.int v1]) (c_X7_codeOf g l hl P a2 hP M w) hP (by decide) rfl rfl cw_X7_codeOf fw1261 pn_X7_codeOf (Nat.le_of_ble_eq_true rfl) (Nat.le_of_ble_eq_true rfl) (Nat.le_of_ble_eq_true rfl) rfl (fun v2 => (?_ : Tt g l z_X7_isBefore (emI M w) _ 10 [(0, .ref P), (1, .int a1), (2, .int a2)] [.int v2, .int v1] (M, w)))
  refine Tt.ic_ge (tgt := 17) rfl (by decide) ?_ ?_
  · refine Tt.go (fun _ => Tr.run 1 (pc' := 18) (lv' := [(0, .ref P), (1, .int a1), (2, .int a2)]) (st' := [.int (0 : Int32)]) rfl) ?_
    refine Tt.go (fun _ => Tr.sub (lv' := []) [] rfl) ?_
    exact t_X7_isBefore_18 g l hl P a1 a2 hP w (0 : Int32) M
  · refine Tt.go (fun _ => Tr.run 2 (pc' := 18) (lv' := [(0, .ref P), (1, .int a1), (2, .int a2)]) (st' := [.int (1 : Int32)]) rfl) ?_
    refine Tt.go (fun _ => Tr.sub (lv' := []) [] rfl) ?_
    exact t_X7_isBefore_18 g l hl P a1 a2 hP w (1 : Int32) M
theorem c_X7_isBefore (g : fm_G) (l : Launch) (hl : l.stackTraces = false) (P : Nat) (a1 : Int32) (a2 : Int32) (hP : fm_kd g P = 7) (M : fm_Mem) (w : fm_W) : ∀ r, f_X7_isBefore P a1 a2 M = some r → fC g l z_X7_isBefore [.ref P, .int a1, .int a2] (M, w) (emI M w r) := fun r hr => fC.of (by decide) rfl o_X7_isBefore hl (Nat.le_of_ble_eq_true rfl) (t_X7_isBefore g l hl P a1 a2 hP M w r hr)
def k_X7_swaps : List (Nat × Instr × Nat) := [(0, .iconst 0, 1), (1, .istore_n 3, 1), (2, .iload_n 3, 1), (3, .iconst 3, 1), (4, .if_icmp .ge 51, 3), (7, .aload_n 0, 1), (8, .iconst 0, 1), (9, .iload_n 1, 1), (10, .iload_n 3, 1), (11, .invokevirtual 103, 3), (14, .istore 4, 2), (16, .aload_n 0, 1), (17, .bipush 60, 2), (19, .iconst 3, 1), (20, .iload_n 1, 1), (21, .imul, 1), (22, .iadd, 1), (23, .iload_n 3, 1), (24, .iadd, 1), (25, .aload_n 0, 1), (26, .iconst 0, 1), (27, .iload_n 2, 1), (28, .iload_n 3, 1), (29, .invokevirtual 103, 3), (32, .invokevirtual 99, 3), (35, .aload_n 0, 1), (36, .bipush 60, 2), (38, .iconst 3, 1), (39, .iload_n 2, 1), (40, .imul, 1), (41, .iadd, 1), (42, .iload_n 3, 1), (43, .iadd, 1), (44, .iload 4, 2), (46, .invokevirtual 99, 3), (49, .iinc 3 1, 3), (52, .goto (-50), 3), (55, .return_, 1)]
def z_X7_swaps : fm_Y := (yX7_swaps, RX7, cX7_swaps, 5, none, k_X7_swaps, 2, 44)
theorem o_X7_swaps : fm_dec z_X7_swaps := (by decide +kernel : ∀ q ∈ k_X7_swaps, decode cX7_swaps q.1 = .ok q.2)
theorem cw_X7_swaps : fm_cwV z_X7_swaps := ⟨⟨lw_in 1268 (by decide +kernel) (by decide +kernel), lw_in 99 (by decide +kernel) (by decide +kernel), by decide, by decide⟩, lw_in 1267 (by decide +kernel) (by decide +kernel), lw_in 64 (by decide +kernel) (by decide +kernel)⟩
theorem pn_X7_swaps : (parseMethodDescriptor z_X7_swaps.1.desc).map (fun d => d.parameters.length) = some 2 := by decide +kernel
def f_X7_swaps_2 (P : Nat) (a1 : Int32) (a2 : Int32) : Nat → Int32 → fm_Mem → Option (fm_Mem)
  | 0, _, _ => none
  | n + 1, x3, M => if (3 : Int32) ≤ x3 then (some (M)) else (Option.bind (f_X7_endOf P (0 : Int32) a1 x3 M) (fun v1 => Option.bind (f_X7_endOf P (0 : Int32) a2 x3 M) (fun v2 => Option.bind (f_X7_put0 P (((60 : Int32) + ((3 : Int32) * a1)) + x3) v2 M) (fun v3 => Option.bind (f_X7_put0 P (((60 : Int32) + ((3 : Int32) * a2)) + x3) v1 v3) (fun v4 => (f_X7_swaps_2 P a1 a2 n (x3 + (1 : Int32)) v4))))))
set_option maxRecDepth 100000 in
set_option maxHeartbeats 4000000 in
theorem t_X7_swaps_2 (g : fm_G) (l : Launch) (hl : l.stackTraces = false) (P : Nat) (a1 : Int32) (a2 : Int32) (hP : fm_kd g P = 7) (w : fm_W) (M0 : fm_Mem)  : ∀ (n : Nat) (x3 : Int32)  (M : fm_Mem), Tt g l z_X7_swaps (emVw M0 w) (f_X7_swaps_2 P a1 a2  n x3 M) 2 [(0, .ref P), (1, .int a1), (2, .int a2), (3, .int x3)] [] (M, w) := by
  intro n
  induction n with
  | zero => intros; exact Tt.none
  | succ n ih =>
    intro x3  M
    rw [f_X7_swaps_2]
    refine Tt.go (fun _ => Tr.run 2 (pc' := 4) (lv' := [(0, .ref P), (1, .int a1), (2, .int a2), (3, .int x3)]) (st' := [.int (3 : Int32), .int x3]) rfl) ?_
    refine Tt.ic_ge (tgt := 55) rfl (by decide) ?_ ?_
    · exact Tt.ret (Tr.vret rfl rfl)
    · refine Tt.go (fun _ => Tr.run 4 (pc' := 11) (lv' := [(0, .ref P), (1, .int a1), (2, .int a2), (3, .int x3)]) (st' := [.int x3, .int a1, .int (0 : Int32), .ref P]) rfl) ?_
      refine Tt.callV (As := [.int (0 : Int32), .int a1, .int x3]) (rest := []) (c_X7_endOf g l hl P (0 : Int32) a1 x3 hP M w) hP (by decide) rfl rfl cw_X7_endOf fw1231 pn_X7_endOf (Nat.le_of_ble_eq_true rfl) (Nat.le_of_ble_eq_true rfl) (Nat.le_of_ble_eq_true rfl) rfl (fun v1 => (?_ : Tt g l z_X7_swaps (emVw M0 w) _ 14 [(0, .ref P), (1, .int a1), (2, .int a2), (3, .int x3)] [.int v1] (M, w)))
      refine Tt.go (fun _ => Tr.run 13 (pc' := 29) (lv' := [(4, .int v1), (0, .ref P), (1, .int a1), (2, .int a2), (3, .int x3)]) (st' := [.int x3, .int a2, .int (0 : Int32), .ref P, .int (((60 : Int32) + ((3 : Int32) * a1)) + x3), .ref P]) rfl) ?_
      refine Tt.callV (As := [.int (0 : Int32), .int a2, .int x3]) (rest := [.int (((60 : Int32) + ((3 : Int32) * a1)) + x3), .ref P]) (c_X7_endOf g l hl P (0 : Int32) a2 x3 hP M w) hP (by decide) rfl rfl cw_X7_endOf fw1231 pn_X7_endOf (Nat.le_of_ble_eq_true rfl) (Nat.le_of_ble_eq_true rfl) (Nat.le_of_ble_eq_true rfl) rfl (fun v2 => (?_ : Tt g l z_X7_swaps (emVw M0 w) _ 32 [(4, .int v1), (0, .ref P), (1, .int a1), (2, .int a2), (3, .int x3)] [.int v2, .int (((60 : Int32) + ((3 : Int32) * a1)) + x3), .ref P] (M, w)))
      refine Tt.callV (As := [.int (((60 : Int32) + ((3 : Int32) * a1)) + x3), .int v2]) (rest := []) (c_X7_put0 g l hl P (((60 : Int32) + ((3 : Int32) * a1)) + x3) v2 hP M w) hP (by decide) rfl rfl cw_X7_put0 fw1135 pn_X7_put0 (Nat.le_of_ble_eq_true rfl) (Nat.le_of_ble_eq_true rfl) (Nat.le_of_ble_eq_true rfl) rfl (fun v3 => (?_ : Tt g l z_X7_swaps (emVw M0 w) _ 35 [(4, .int v1), (0, .ref P), (1, .int a1), (2, .int a2), (3, .int x3)] [] (v3, w)))
      refine Tt.go (fun _ => Tr.run 9 (pc' := 46) (lv' := [(4, .int v1), (0, .ref P), (1, .int a1), (2, .int a2), (3, .int x3)]) (st' := [.int v1, .int (((60 : Int32) + ((3 : Int32) * a2)) + x3), .ref P]) rfl) ?_
      refine Tt.callV (As := [.int (((60 : Int32) + ((3 : Int32) * a2)) + x3), .int v1]) (rest := []) (c_X7_put0 g l hl P (((60 : Int32) + ((3 : Int32) * a2)) + x3) v1 hP v3 w) hP (by decide) rfl rfl cw_X7_put0 fw1135 pn_X7_put0 (Nat.le_of_ble_eq_true rfl) (Nat.le_of_ble_eq_true rfl) (Nat.le_of_ble_eq_true rfl) rfl (fun v4 => (?_ : Tt g l z_X7_swaps (emVw M0 w) _ 49 [(4, .int v1), (0, .ref P), (1, .int a1), (2, .int a2), (3, .int x3)] [] (v4, w)))
      refine Tt.go (fun _ => Tr.run 2 (pc' := 2) (lv' := [(3, .int (x3 + (1 : Int32))), (4, .int v1), (0, .ref P), (1, .int a1), (2, .int a2)]) (st' := []) rfl) ?_
      refine Tt.go (fun _ => Tr.sub (lv' := [(0, .ref P), (1, .int a1), (2, .int a2), (3, .int (x3 + (1 : Int32)))]) [2, 3, 4, 0] rfl) ?_
      exact ih (x3 + (1 : Int32)) v4
def f_X7_swaps (P : Nat) (a1 : Int32) (a2 : Int32) (M : fm_Mem) : Option (fm_Mem) := (f_X7_swaps_2 P a1 a2 fm_fuel (0 : Int32) M)
set_option maxRecDepth 100000 in
set_option maxHeartbeats 4000000 in
theorem t_X7_swaps (g : fm_G) (l : Launch) (hl : l.stackTraces = false) (P : Nat) (a1 : Int32) (a2 : Int32) (hP : fm_kd g P = 7) (M : fm_Mem) (w : fm_W) : Tt g l z_X7_swaps (emVw M w) (f_X7_swaps P a1 a2 M) 0 [(0, .ref P), (1, .int a1), (2, .int a2)] [] (M, w) := by
  rw [f_X7_swaps]
  refine Tt.go (fun _ => Tr.run 2 (pc' := 2) (lv' := [(3, .int (0 : Int32)), (0, .ref P), (1, .int a1), (2, .int a2)]) (st' := []) rfl) ?_
  refine Tt.go (fun _ => Tr.sub (lv' := [(0, .ref P), (1, .int a1), (2, .int a2), (3, .int (0 : Int32))]) [1, 2, 3, 0] rfl) ?_
  exact t_X7_swaps_2 g l hl P a1 a2 hP w M fm_fuel (0 : Int32) M
theorem c_X7_swaps (g : fm_G) (l : Launch) (hl : l.stackTraces = false) (P : Nat) (a1 : Int32) (a2 : Int32) (hP : fm_kd g P = 7) (M : fm_Mem) (w : fm_W) : ∀ r, f_X7_swaps P a1 a2 M = some r → fC g l z_X7_swaps [.ref P, .int a1, .int a2] (M, w) (emVw M w r) := fun r hr => fC.of (by decide) rfl o_X7_swaps hl (Nat.le_of_ble_eq_true rfl) (t_X7_swaps g l hl P a1 a2 hP M w r hr)
def k_X7_becomes : List (Nat × Instr × Nat) := [(0, .iload_n 2, 1), (1, .iload_n 3, 1), (2, .iload 4, 2), (4, .invokestatic 126, 3), (7, .invokestatic 126, 3), (10, .istore 5, 2), (12, .iload_n 2, 1), (13, .iload_n 3, 1), (14, .iload 4, 2), (16, .invokestatic 132, 3), (19, .invokestatic 132, 3), (22, .istore 6, 2), (24, .aload_n 0, 1), (25, .iload_n 1, 1), (26, .iload 5, 2), (28, .iload_n 2, 1), (29, .iload_n 3, 1), (30, .iadd, 1), (31, .iload 4, 2), (33, .iadd, 1), (34, .iload 5, 2), (36, .isub, 1), (37, .iload 6, 2), (39, .isub, 1), (40, .iload 6, 2), (42, .invokevirtual 135, 3), (45, .iload_n 1, 1), (46, .istore 7, 2), (48, .iload 7, 2), (50, .ifCond .le 32, 3), (53, .aload_n 0, 1), (54, .iload 7, 2), (56, .iload 7, 2), (58, .iconst 1, 1), (59, .isub, 1), (60, .invokevirtual 139, 3), (63, .ifCond .eq 19, 3), (66, .aload_n 0, 1), (67, .iload 7, 2), (69, .iload 7, 2), (71, .iconst 1, 1), (72, .isub, 1), (73, .invokevirtual 142, 3), (76, .iinc 7 (-1), 3), (79, .goto (-31), 3), (82, .iload 7, 2), (84, .iconst 1, 1), (85, .iadd, 1), (86, .aload_n 0, 1), (87, .iconst 1, 1), (88, .invokevirtual 41, 3), (91, .if_icmp .ge 32, 3), (94, .aload_n 0, 1), (95, .iload 7, 2), (97, .iconst 1, 1), (98, .iadd, 1), (99, .iload 7, 2), (101, .invokevirtual 139, 3), (104, .ifCond .eq 19, 3), (107, .aload_n 0, 1), (108, .iload 7, 2), (110, .iload 7, 2), (112, .iconst 1, 1), (113, .iadd, 1), (114, .invokevirtual 142, 3), (117, .iinc 7 1, 3), (120, .goto (-38), 3), (123, .return_, 1)]
def z_X7_becomes : fm_Y := (yX7_becomes, RX7, cX7_becomes, 8, none, k_X7_becomes, 4, 87)
theorem o_X7_becomes : fm_dec z_X7_becomes := (by decide +kernel : ∀ q ∈ k_X7_becomes, decode cX7_becomes q.1 = .ok q.2)
theorem cw_X7_becomes : fm_cwV z_X7_becomes := ⟨⟨lw_in 1250 (by decide +kernel) (by decide +kernel), lw_in 99 (by decide +kernel) (by decide +kernel), by decide, by decide⟩, lw_in 1249 (by decide +kernel) (by decide +kernel), lw_in 60 (by decide +kernel) (by decide +kernel)⟩
theorem pn_X7_becomes : (parseMethodDescriptor z_X7_becomes.1.desc).map (fun d => d.parameters.length) = some 4 := by decide +kernel
def f_X7_becomes_123 (P : Nat) (a1 : Int32) (a2 : Int32) (a3 : Int32) (a4 : Int32)  (M : fm_Mem) : Option (fm_Mem) := some (M)
set_option maxRecDepth 100000 in
set_option maxHeartbeats 4000000 in
theorem t_X7_becomes_123 (g : fm_G) (l : Launch) (hl : l.stackTraces = false) (P : Nat) (a1 : Int32) (a2 : Int32) (a3 : Int32) (a4 : Int32) (hP : fm_kd g P = 7) (w : fm_W) (M0 : fm_Mem)    (M : fm_Mem) : Tt g l z_X7_becomes (emVw M0 w) (f_X7_becomes_123 P a1 a2 a3 a4   M) 123 [] [] (M, w) := by
  rw [f_X7_becomes_123]
  exact Tt.ret (Tr.vret rfl rfl)
def f_X7_becomes_82 (P : Nat) (a1 : Int32) (a2 : Int32) (a3 : Int32) (a4 : Int32) : Nat → Int32 → fm_Mem → Option (fm_Mem)
  | 0, _, _ => none
  | n + 1, x7, M => Option.bind (f_X7_get P (1 : Int32) M) (fun v1 => if v1 ≤ (x7 + (1 : Int32)) then (f_X7_becomes_123 P a1 a2 a3 a4 M) else (Option.bind (f_X7_isBefore P (x7 + (1 : Int32)) x7 M) (fun v2 => if v2 = 0 then (f_X7_becomes_123 P a1 a2 a3 a4 M) else (Option.bind (f_X7_swaps P x7 (x7 + (1 : Int32)) M) (fun v3 => (f_X7_becomes_82 P a1 a2 a3 a4 n (x7 + (1 : Int32)) v3))))))
set_option maxRecDepth 100000 in
set_option maxHeartbeats 4000000 in
theorem t_X7_becomes_82 (g : fm_G) (l : Launch) (hl : l.stackTraces = false) (P : Nat) (a1 : Int32) (a2 : Int32) (a3 : Int32) (a4 : Int32) (hP : fm_kd g P = 7) (w : fm_W) (M0 : fm_Mem)  : ∀ (n : Nat) (x7 : Int32)  (M : fm_Mem), Tt g l z_X7_becomes (emVw M0 w) (f_X7_becomes_82 P a1 a2 a3 a4  n x7 M) 82 [(0, .ref P), (7, .int x7)] [] (M, w) := by
  intro n
  induction n with
  | zero => intros; exact Tt.none
  | succ n ih =>
    intro x7  M
    rw [f_X7_becomes_82]
    refine Tt.go (fun _ => Tr.run 5 (pc' := 88) (lv' := [(0, .ref P), (7, .int x7)]) (st' := [.int (1 : Int32), .ref P, .int (x7 + (1 : Int32))]) rfl) ?_
    refine Tt.callV (As := [.int (1 : Int32)]) (rest := [.int (x7 + (1 : Int32))]) (c_X7_get g l hl P (1 : Int32) hP M w) hP (by decide) rfl rfl cw_X7_get fw1109 pn_X7_get (Nat.le_of_ble_eq_true rfl) (Nat.le_of_ble_eq_true rfl) (Nat.le_of_ble_eq_true rfl) rfl (fun v1 => (?_ : Tt g l z_X7_becomes (emVw M0 w) _ 91 [(0, .ref P), (7, .int x7)] [.int v1, .int (x7 + (1 : Int32))] (M, w)))
    refine Tt.ic_ge (tgt := 123) rfl (by decide) ?_ ?_
    · refine Tt.go (fun _ => Tr.sub (lv' := []) [] rfl) ?_
      exact t_X7_becomes_123 g l hl P a1 a2 a3 a4 hP w M0 M
    · refine Tt.go (fun _ => Tr.run 5 (pc' := 101) (lv' := [(0, .ref P), (7, .int x7)]) (st' := [.int x7, .int (x7 + (1 : Int32)), .ref P]) rfl) ?_
      refine Tt.callV (As := [.int (x7 + (1 : Int32)), .int x7]) (rest := []) (c_X7_isBefore g l hl P (x7 + (1 : Int32)) x7 hP M w) hP (by decide) rfl rfl cw_X7_isBefore fw1257 pn_X7_isBefore (Nat.le_of_ble_eq_true rfl) (Nat.le_of_ble_eq_true rfl) (Nat.le_of_ble_eq_true rfl) rfl (fun v2 => (?_ : Tt g l z_X7_becomes (emVw M0 w) _ 104 [(0, .ref P), (7, .int x7)] [.int v2] (M, w)))
      refine Tt.if_eq (tgt := 123) rfl (by decide) ?_ ?_
      · refine Tt.go (fun _ => Tr.sub (lv' := []) [] rfl) ?_
        exact t_X7_becomes_123 g l hl P a1 a2 a3 a4 hP w M0 M
      · refine Tt.go (fun _ => Tr.run 5 (pc' := 114) (lv' := [(0, .ref P), (7, .int x7)]) (st' := [.int (x7 + (1 : Int32)), .int x7, .ref P]) rfl) ?_
        refine Tt.callV (As := [.int x7, .int (x7 + (1 : Int32))]) (rest := []) (c_X7_swaps g l hl P x7 (x7 + (1 : Int32)) hP M w) hP (by decide) rfl rfl cw_X7_swaps fw1265 pn_X7_swaps (Nat.le_of_ble_eq_true rfl) (Nat.le_of_ble_eq_true rfl) (Nat.le_of_ble_eq_true rfl) rfl (fun v3 => (?_ : Tt g l z_X7_becomes (emVw M0 w) _ 117 [(0, .ref P), (7, .int x7)] [] (v3, w)))
        refine Tt.go (fun _ => Tr.run 2 (pc' := 82) (lv' := [(7, .int (x7 + (1 : Int32))), (0, .ref P)]) (st' := []) rfl) ?_
        refine Tt.go (fun _ => Tr.sub (lv' := [(0, .ref P), (7, .int (x7 + (1 : Int32)))]) [1, 0] rfl) ?_
        exact ih (x7 + (1 : Int32)) v3
def f_X7_becomes_48 (P : Nat) (a1 : Int32) (a2 : Int32) (a3 : Int32) (a4 : Int32) : Nat → Int32 → fm_Mem → Option (fm_Mem)
  | 0, _, _ => none
  | n + 1, x7, M => if x7 ≤ 0 then (f_X7_becomes_82 P a1 a2 a3 a4 fm_fuel x7 M) else (Option.bind (f_X7_isBefore P x7 (x7 - (1 : Int32)) M) (fun v1 => if v1 = 0 then (f_X7_becomes_82 P a1 a2 a3 a4 fm_fuel x7 M) else (Option.bind (f_X7_swaps P x7 (x7 - (1 : Int32)) M) (fun v2 => (f_X7_becomes_48 P a1 a2 a3 a4 n (x7 + (-1 : Int32)) v2)))))
set_option maxRecDepth 100000 in
set_option maxHeartbeats 4000000 in
theorem t_X7_becomes_48 (g : fm_G) (l : Launch) (hl : l.stackTraces = false) (P : Nat) (a1 : Int32) (a2 : Int32) (a3 : Int32) (a4 : Int32) (hP : fm_kd g P = 7) (w : fm_W) (M0 : fm_Mem)  : ∀ (n : Nat) (x7 : Int32)  (M : fm_Mem), Tt g l z_X7_becomes (emVw M0 w) (f_X7_becomes_48 P a1 a2 a3 a4  n x7 M) 48 [(0, .ref P), (7, .int x7)] [] (M, w) := by
  intro n
  induction n with
  | zero => intros; exact Tt.none
  | succ n ih =>
    intro x7  M
    rw [f_X7_becomes_48]
    refine Tt.go (fun _ => Tr.run 1 (pc' := 50) (lv' := [(0, .ref P), (7, .int x7)]) (st' := [.int x7]) rfl) ?_
    refine Tt.if_le (tgt := 82) rfl (by decide) ?_ ?_
    · exact t_X7_becomes_82 g l hl P a1 a2 a3 a4 hP w M0 fm_fuel x7 M
    · refine Tt.go (fun _ => Tr.run 5 (pc' := 60) (lv' := [(0, .ref P), (7, .int x7)]) (st' := [.int (x7 - (1 : Int32)), .int x7, .ref P]) rfl) ?_
      refine Tt.callV (As := [.int x7, .int (x7 - (1 : Int32))]) (rest := []) (c_X7_isBefore g l hl P x7 (x7 - (1 : Int32)) hP M w) hP (by decide) rfl rfl cw_X7_isBefore fw1257 pn_X7_isBefore (Nat.le_of_ble_eq_true rfl) (Nat.le_of_ble_eq_true rfl) (Nat.le_of_ble_eq_true rfl) rfl (fun v1 => (?_ : Tt g l z_X7_becomes (emVw M0 w) _ 63 [(0, .ref P), (7, .int x7)] [.int v1] (M, w)))
      refine Tt.if_eq (tgt := 82) rfl (by decide) ?_ ?_
      · exact t_X7_becomes_82 g l hl P a1 a2 a3 a4 hP w M0 fm_fuel x7 M
      · refine Tt.go (fun _ => Tr.run 5 (pc' := 73) (lv' := [(0, .ref P), (7, .int x7)]) (st' := [.int (x7 - (1 : Int32)), .int x7, .ref P]) rfl) ?_
        refine Tt.callV (As := [.int x7, .int (x7 - (1 : Int32))]) (rest := []) (c_X7_swaps g l hl P x7 (x7 - (1 : Int32)) hP M w) hP (by decide) rfl rfl cw_X7_swaps fw1265 pn_X7_swaps (Nat.le_of_ble_eq_true rfl) (Nat.le_of_ble_eq_true rfl) (Nat.le_of_ble_eq_true rfl) rfl (fun v2 => (?_ : Tt g l z_X7_becomes (emVw M0 w) _ 76 [(0, .ref P), (7, .int x7)] [] (v2, w)))
        refine Tt.go (fun _ => Tr.run 2 (pc' := 48) (lv' := [(7, .int (x7 + (-1 : Int32))), (0, .ref P)]) (st' := []) rfl) ?_
        refine Tt.go (fun _ => Tr.sub (lv' := [(0, .ref P), (7, .int (x7 + (-1 : Int32)))]) [1, 0] rfl) ?_
        exact ih (x7 + (-1 : Int32)) v2
def f_X7_becomes (P : Nat) (a1 : Int32) (a2 : Int32) (a3 : Int32) (a4 : Int32) (M : fm_Mem) : Option (fm_Mem) := Option.bind (f_X7_lays3 P a1 (fm_min a2 (fm_min a3 a4)) ((((a2 + a3) + a4) - (fm_min a2 (fm_min a3 a4))) - (fm_max a2 (fm_max a3 a4))) (fm_max a2 (fm_max a3 a4)) M) (fun v1 => (f_X7_becomes_48 P a1 a2 a3 a4 fm_fuel a1 v1))
set_option maxRecDepth 100000 in
set_option maxHeartbeats 4000000 in
theorem t_X7_becomes (g : fm_G) (l : Launch) (hl : l.stackTraces = false) (P : Nat) (a1 : Int32) (a2 : Int32) (a3 : Int32) (a4 : Int32) (hP : fm_kd g P = 7) (M : fm_Mem) (w : fm_W) : Tt g l z_X7_becomes (emVw M w) (f_X7_becomes P a1 a2 a3 a4 M) 0 [(0, .ref P), (1, .int a1), (2, .int a2), (3, .int a3), (4, .int a4)] [] (M, w) := by
  rw [f_X7_becomes]
  refine Tt.go (fun _ => Tr.run 3 (pc' := 4) (lv' := [(0, .ref P), (1, .int a1), (2, .int a2), (3, .int a3), (4, .int a4)]) (st' := [.int a4, .int a3, .int a2]) rfl) ?_
  refine Tt.go (fun _ => Tr.min rfl ⟨fw1251, fw410, fw94, fw411⟩ (Nat.le_of_ble_eq_true rfl) (Nat.le_of_ble_eq_true rfl)) (?_ : Tt g l z_X7_becomes (emVw M w) _ 7 [(0, .ref P), (1, .int a1), (2, .int a2), (3, .int a3), (4, .int a4)] [.int (fm_min a3 a4), .int a2] (M, w))
  refine Tt.go (fun _ => Tr.min rfl ⟨fw1251, fw410, fw94, fw411⟩ (Nat.le_of_ble_eq_true rfl) (Nat.le_of_ble_eq_true rfl)) (?_ : Tt g l z_X7_becomes (emVw M w) _ 10 [(0, .ref P), (1, .int a1), (2, .int a2), (3, .int a3), (4, .int a4)] [.int (fm_min a2 (fm_min a3 a4))] (M, w))
  refine Tt.go (fun _ => Tr.run 4 (pc' := 16) (lv' := [(5, .int (fm_min a2 (fm_min a3 a4))), (0, .ref P), (1, .int a1), (2, .int a2), (3, .int a3), (4, .int a4)]) (st' := [.int a4, .int a3, .int a2]) rfl) ?_
  refine Tt.go (fun _ => Tr.max rfl ⟨fw1252, fw136, fw94, fw137⟩ (Nat.le_of_ble_eq_true rfl) (Nat.le_of_ble_eq_true rfl)) (?_ : Tt g l z_X7_becomes (emVw M w) _ 19 [(5, .int (fm_min a2 (fm_min a3 a4))), (0, .ref P), (1, .int a1), (2, .int a2), (3, .int a3), (4, .int a4)] [.int (fm_max a3 a4), .int a2] (M, w))
  refine Tt.go (fun _ => Tr.max rfl ⟨fw1252, fw136, fw94, fw137⟩ (Nat.le_of_ble_eq_true rfl) (Nat.le_of_ble_eq_true rfl)) (?_ : Tt g l z_X7_becomes (emVw M w) _ 22 [(5, .int (fm_min a2 (fm_min a3 a4))), (0, .ref P), (1, .int a1), (2, .int a2), (3, .int a3), (4, .int a4)] [.int (fm_max a2 (fm_max a3 a4))] (M, w))
  refine Tt.go (fun _ => Tr.run 14 (pc' := 42) (lv' := [(6, .int (fm_max a2 (fm_max a3 a4))), (5, .int (fm_min a2 (fm_min a3 a4))), (0, .ref P), (1, .int a1), (2, .int a2), (3, .int a3), (4, .int a4)]) (st' := [.int (fm_max a2 (fm_max a3 a4)), .int ((((a2 + a3) + a4) - (fm_min a2 (fm_min a3 a4))) - (fm_max a2 (fm_max a3 a4))), .int (fm_min a2 (fm_min a3 a4)), .int a1, .ref P]) rfl) ?_
  refine Tt.callV (As := [.int a1, .int (fm_min a2 (fm_min a3 a4)), .int ((((a2 + a3) + a4) - (fm_min a2 (fm_min a3 a4))) - (fm_max a2 (fm_max a3 a4))), .int (fm_max a2 (fm_max a3 a4))]) (rest := []) (c_X7_lays3 g l hl P a1 (fm_min a2 (fm_min a3 a4)) ((((a2 + a3) + a4) - (fm_min a2 (fm_min a3 a4))) - (fm_max a2 (fm_max a3 a4))) (fm_max a2 (fm_max a3 a4)) hP M w) hP (by decide) rfl rfl cw_X7_lays3 fw1253 pn_X7_lays3 (Nat.le_of_ble_eq_true rfl) (Nat.le_of_ble_eq_true rfl) (Nat.le_of_ble_eq_true rfl) rfl (fun v1 => (?_ : Tt g l z_X7_becomes (emVw M w) _ 45 [(6, .int (fm_max a2 (fm_max a3 a4))), (5, .int (fm_min a2 (fm_min a3 a4))), (0, .ref P), (1, .int a1), (2, .int a2), (3, .int a3), (4, .int a4)] [] (v1, w)))
  refine Tt.go (fun _ => Tr.run 2 (pc' := 48) (lv' := [(7, .int a1), (6, .int (fm_max a2 (fm_max a3 a4))), (5, .int (fm_min a2 (fm_min a3 a4))), (0, .ref P), (1, .int a1), (2, .int a2), (3, .int a3), (4, .int a4)]) (st' := []) rfl) ?_
  refine Tt.go (fun _ => Tr.sub (lv' := [(0, .ref P), (7, .int a1)]) [3, 0] rfl) ?_
  exact t_X7_becomes_48 g l hl P a1 a2 a3 a4 hP w M fm_fuel a1 v1
theorem c_X7_becomes (g : fm_G) (l : Launch) (hl : l.stackTraces = false) (P : Nat) (a1 : Int32) (a2 : Int32) (a3 : Int32) (a4 : Int32) (hP : fm_kd g P = 7) (M : fm_Mem) (w : fm_W) : ∀ r, f_X7_becomes P a1 a2 a3 a4 M = some r → fC g l z_X7_becomes [.ref P, .int a1, .int a2, .int a3, .int a4] (M, w) (emVw M w r) := fun r hr => fC.of (by decide) rfl o_X7_becomes hl (Nat.le_of_ble_eq_true rfl) (t_X7_becomes g l hl P a1 a2 a3 a4 hP M w r hr)
def k_X7_flips : List (Nat × Instr × Nat) := [(0, .aload_n 0, 1), (1, .iload_n 1, 1), (2, .iload_n 2, 1), (3, .iconst 0, 1), (4, .invokevirtual 118, 3), (7, .istore_n 3, 1), (8, .aload_n 0, 1), (9, .iload_n 1, 1), (10, .iload_n 2, 1), (11, .iconst 1, 1), (12, .invokevirtual 118, 3), (15, .istore 4, 2), (17, .aload_n 0, 1), (18, .aload_n 0, 1), (19, .iload_n 1, 1), (20, .iload_n 2, 1), (21, .iload_n 3, 1), (22, .invokevirtual 148, 3), (25, .iload_n 1, 1), (26, .iload_n 3, 1), (27, .iload 4, 2), (29, .invokevirtual 151, 3), (32, .aload_n 0, 1), (33, .aload_n 0, 1), (34, .iload_n 1, 1), (35, .iload_n 2, 1), (36, .iload 4, 2), (38, .invokevirtual 148, 3), (41, .iload_n 2, 1), (42, .iload_n 3, 1), (43, .iload 4, 2), (45, .invokevirtual 151, 3), (48, .aload_n 0, 1), (49, .iconst 2, 1), (50, .aload_n 0, 1), (51, .iconst 2, 1), (52, .invokevirtual 41, 3), (55, .iconst 1, 1), (56, .iadd, 1), (57, .invokevirtual 99, 3), (60, .bipush 100, 2), (62, .iload_n 3, 1), (63, .iload 4, 2), (65, .invokestatic 126, 3), (68, .imul, 1), (69, .iload_n 3, 1), (70, .iload 4, 2), (72, .invokestatic 132, 3), (75, .iadd, 1), (76, .ireturn, 1)]
def z_X7_flips : fm_Y := (yX7_flips, RX7, cX7_flips, 5, (some .int), k_X7_flips, 5, 114)
theorem o_X7_flips : fm_dec z_X7_flips := (by decide +kernel : ∀ q ∈ k_X7_flips, decode cX7_flips q.1 = .ok q.2)
theorem cw_X7_flips : fm_cwV z_X7_flips := ⟨⟨lw_in 1242 (by decide +kernel) (by decide +kernel), lw_in 99 (by decide +kernel) (by decide +kernel), by decide, by decide⟩, lw_in 1241 (by decide +kernel) (by decide +kernel), lw_in 58 (by decide +kernel) (by decide +kernel)⟩
theorem pn_X7_flips : (parseMethodDescriptor z_X7_flips.1.desc).map (fun d => d.parameters.length) = some 2 := by decide +kernel
def f_X7_flips (P : Nat) (a1 : Int32) (a2 : Int32) (M : fm_Mem) : Option (Int32 × fm_Mem) := Option.bind (f_X7_third P a1 a2 (0 : Int32) M) (fun v1 => Option.bind (f_X7_third P a1 a2 (1 : Int32) M) (fun v2 => Option.bind (f_X7_triangleWith P a1 a2 v1 M) (fun v3 => Option.bind (f_X7_becomes P v3 a1 v1 v2 M) (fun v4 => Option.bind (f_X7_triangleWith P a1 a2 v2 v4) (fun v5 => Option.bind (f_X7_becomes P v5 a2 v1 v2 v4) (fun v6 => Option.bind (f_X7_get P (2 : Int32) v6) (fun v7 => Option.bind (f_X7_put0 P (2 : Int32) (v7 + (1 : Int32)) v6) (fun v8 => some (((((100 : Int32) * (fm_min v1 v2)) + (fm_max v1 v2)), v8))))))))))
set_option maxRecDepth 100000 in
set_option maxHeartbeats 4000000 in
theorem t_X7_flips (g : fm_G) (l : Launch) (hl : l.stackTraces = false) (P : Nat) (a1 : Int32) (a2 : Int32) (hP : fm_kd g P = 7) (M : fm_Mem) (w : fm_W) : Tt g l z_X7_flips (emIw M w) (f_X7_flips P a1 a2 M) 0 [(0, .ref P), (1, .int a1), (2, .int a2)] [] (M, w) := by
  rw [f_X7_flips]
  refine Tt.go (fun _ => Tr.run 4 (pc' := 4) (lv' := [(0, .ref P), (1, .int a1), (2, .int a2)]) (st' := [.int (0 : Int32), .int a2, .int a1, .ref P]) rfl) ?_
  refine Tt.callV (As := [.int a1, .int a2, .int (0 : Int32)]) (rest := []) (c_X7_third g l hl P a1 a2 (0 : Int32) hP M w) hP (by decide) rfl rfl cw_X7_third fw1235 pn_X7_third (Nat.le_of_ble_eq_true rfl) (Nat.le_of_ble_eq_true rfl) (Nat.le_of_ble_eq_true rfl) rfl (fun v1 => (?_ : Tt g l z_X7_flips (emIw M w) _ 7 [(0, .ref P), (1, .int a1), (2, .int a2)] [.int v1] (M, w)))
  refine Tt.go (fun _ => Tr.run 5 (pc' := 12) (lv' := [(3, .int v1), (0, .ref P), (1, .int a1), (2, .int a2)]) (st' := [.int (1 : Int32), .int a2, .int a1, .ref P]) rfl) ?_
  refine Tt.callV (As := [.int a1, .int a2, .int (1 : Int32)]) (rest := []) (c_X7_third g l hl P a1 a2 (1 : Int32) hP M w) hP (by decide) rfl rfl cw_X7_third fw1235 pn_X7_third (Nat.le_of_ble_eq_true rfl) (Nat.le_of_ble_eq_true rfl) (Nat.le_of_ble_eq_true rfl) rfl (fun v2 => (?_ : Tt g l z_X7_flips (emIw M w) _ 15 [(3, .int v1), (0, .ref P), (1, .int a1), (2, .int a2)] [.int v2] (M, w)))
  refine Tt.go (fun _ => Tr.run 6 (pc' := 22) (lv' := [(4, .int v2), (3, .int v1), (0, .ref P), (1, .int a1), (2, .int a2)]) (st' := [.int v1, .int a2, .int a1, .ref P, .ref P]) rfl) ?_
  refine Tt.callV (As := [.int a1, .int a2, .int v1]) (rest := [.ref P]) (c_X7_triangleWith g l hl P a1 a2 v1 hP M w) hP (by decide) rfl rfl cw_X7_triangleWith fw1243 pn_X7_triangleWith (Nat.le_of_ble_eq_true rfl) (Nat.le_of_ble_eq_true rfl) (Nat.le_of_ble_eq_true rfl) rfl (fun v3 => (?_ : Tt g l z_X7_flips (emIw M w) _ 25 [(4, .int v2), (3, .int v1), (0, .ref P), (1, .int a1), (2, .int a2)] [.int v3, .ref P] (M, w)))
  refine Tt.go (fun _ => Tr.run 3 (pc' := 29) (lv' := [(4, .int v2), (3, .int v1), (0, .ref P), (1, .int a1), (2, .int a2)]) (st' := [.int v2, .int v1, .int a1, .int v3, .ref P]) rfl) ?_
  refine Tt.callV (As := [.int v3, .int a1, .int v1, .int v2]) (rest := []) (c_X7_becomes g l hl P v3 a1 v1 v2 hP M w) hP (by decide) rfl rfl cw_X7_becomes fw1247 pn_X7_becomes (Nat.le_of_ble_eq_true rfl) (Nat.le_of_ble_eq_true rfl) (Nat.le_of_ble_eq_true rfl) rfl (fun v4 => (?_ : Tt g l z_X7_flips (emIw M w) _ 32 [(4, .int v2), (3, .int v1), (0, .ref P), (1, .int a1), (2, .int a2)] [] (v4, w)))
  refine Tt.go (fun _ => Tr.run 5 (pc' := 38) (lv' := [(4, .int v2), (3, .int v1), (0, .ref P), (1, .int a1), (2, .int a2)]) (st' := [.int v2, .int a2, .int a1, .ref P, .ref P]) rfl) ?_
  refine Tt.callV (As := [.int a1, .int a2, .int v2]) (rest := [.ref P]) (c_X7_triangleWith g l hl P a1 a2 v2 hP v4 w) hP (by decide) rfl rfl cw_X7_triangleWith fw1243 pn_X7_triangleWith (Nat.le_of_ble_eq_true rfl) (Nat.le_of_ble_eq_true rfl) (Nat.le_of_ble_eq_true rfl) rfl (fun v5 => (?_ : Tt g l z_X7_flips (emIw M w) _ 41 [(4, .int v2), (3, .int v1), (0, .ref P), (1, .int a1), (2, .int a2)] [.int v5, .ref P] (v4, w)))
  refine Tt.go (fun _ => Tr.run 3 (pc' := 45) (lv' := [(4, .int v2), (3, .int v1), (0, .ref P), (1, .int a1), (2, .int a2)]) (st' := [.int v2, .int v1, .int a2, .int v5, .ref P]) rfl) ?_
  refine Tt.callV (As := [.int v5, .int a2, .int v1, .int v2]) (rest := []) (c_X7_becomes g l hl P v5 a2 v1 v2 hP v4 w) hP (by decide) rfl rfl cw_X7_becomes fw1247 pn_X7_becomes (Nat.le_of_ble_eq_true rfl) (Nat.le_of_ble_eq_true rfl) (Nat.le_of_ble_eq_true rfl) rfl (fun v6 => (?_ : Tt g l z_X7_flips (emIw M w) _ 48 [(4, .int v2), (3, .int v1), (0, .ref P), (1, .int a1), (2, .int a2)] [] (v6, w)))
  refine Tt.go (fun _ => Tr.run 4 (pc' := 52) (lv' := [(4, .int v2), (3, .int v1), (0, .ref P), (1, .int a1), (2, .int a2)]) (st' := [.int (2 : Int32), .ref P, .int (2 : Int32), .ref P]) rfl) ?_
  refine Tt.callV (As := [.int (2 : Int32)]) (rest := [.int (2 : Int32), .ref P]) (c_X7_get g l hl P (2 : Int32) hP v6 w) hP (by decide) rfl rfl cw_X7_get fw1109 pn_X7_get (Nat.le_of_ble_eq_true rfl) (Nat.le_of_ble_eq_true rfl) (Nat.le_of_ble_eq_true rfl) rfl (fun v7 => (?_ : Tt g l z_X7_flips (emIw M w) _ 55 [(4, .int v2), (3, .int v1), (0, .ref P), (1, .int a1), (2, .int a2)] [.int v7, .int (2 : Int32), .ref P] (v6, w)))
  refine Tt.go (fun _ => Tr.run 2 (pc' := 57) (lv' := [(4, .int v2), (3, .int v1), (0, .ref P), (1, .int a1), (2, .int a2)]) (st' := [.int (v7 + (1 : Int32)), .int (2 : Int32), .ref P]) rfl) ?_
  refine Tt.callV (As := [.int (2 : Int32), .int (v7 + (1 : Int32))]) (rest := []) (c_X7_put0 g l hl P (2 : Int32) (v7 + (1 : Int32)) hP v6 w) hP (by decide) rfl rfl cw_X7_put0 fw1135 pn_X7_put0 (Nat.le_of_ble_eq_true rfl) (Nat.le_of_ble_eq_true rfl) (Nat.le_of_ble_eq_true rfl) rfl (fun v8 => (?_ : Tt g l z_X7_flips (emIw M w) _ 60 [(4, .int v2), (3, .int v1), (0, .ref P), (1, .int a1), (2, .int a2)] [] (v8, w)))
  refine Tt.go (fun _ => Tr.run 3 (pc' := 65) (lv' := [(4, .int v2), (3, .int v1), (0, .ref P), (1, .int a1), (2, .int a2)]) (st' := [.int v2, .int v1, .int (100 : Int32)]) rfl) ?_
  refine Tt.go (fun _ => Tr.min rfl ⟨fw1251, fw410, fw94, fw411⟩ (Nat.le_of_ble_eq_true rfl) (Nat.le_of_ble_eq_true rfl)) (?_ : Tt g l z_X7_flips (emIw M w) _ 68 [(4, .int v2), (3, .int v1), (0, .ref P), (1, .int a1), (2, .int a2)] [.int (fm_min v1 v2), .int (100 : Int32)] (v8, w))
  refine Tt.go (fun _ => Tr.run 3 (pc' := 72) (lv' := [(4, .int v2), (3, .int v1), (0, .ref P), (1, .int a1), (2, .int a2)]) (st' := [.int v2, .int v1, .int ((100 : Int32) * (fm_min v1 v2))]) rfl) ?_
  refine Tt.go (fun _ => Tr.max rfl ⟨fw1252, fw136, fw94, fw137⟩ (Nat.le_of_ble_eq_true rfl) (Nat.le_of_ble_eq_true rfl)) (?_ : Tt g l z_X7_flips (emIw M w) _ 75 [(4, .int v2), (3, .int v1), (0, .ref P), (1, .int a1), (2, .int a2)] [.int (fm_max v1 v2), .int ((100 : Int32) * (fm_min v1 v2))] (v8, w))
  refine Tt.go (fun _ => Tr.run 1 (pc' := 76) (lv' := [(4, .int v2), (3, .int v1), (0, .ref P), (1, .int a1), (2, .int a2)]) (st' := [.int (((100 : Int32) * (fm_min v1 v2)) + (fm_max v1 v2))]) rfl) ?_
  exact Tt.ret (Tr.iret rfl rfl)
theorem c_X7_flips (g : fm_G) (l : Launch) (hl : l.stackTraces = false) (P : Nat) (a1 : Int32) (a2 : Int32) (hP : fm_kd g P = 7) (M : fm_Mem) (w : fm_W) : ∀ r, f_X7_flips P a1 a2 M = some r → fC g l z_X7_flips [.ref P, .int a1, .int a2] (M, w) (emIw M w r) := fun r hr => fC.of (by decide) rfl o_X7_flips hl (Nat.le_of_ble_eq_true rfl) (t_X7_flips g l hl P a1 a2 hP M w r hr)
def k_X7_isOf : List (Nat × Instr × Nat) := [(0, .iload_n 0, 1), (1, .iload_n 1, 1), (2, .ishr, 1), (3, .iconst 1, 1), (4, .iand, 1), (5, .iconst 1, 1), (6, .if_icmp .ne 7, 3), (9, .iconst 1, 1), (10, .goto 4, 3), (13, .iconst 0, 1), (14, .ireturn, 1)]
def z_X7_isOf : fm_Y := (yX7_isOf, RX7, cX7_isOf, 2, (some .boolean), k_X7_isOf, 0, 0)
theorem o_X7_isOf : fm_dec z_X7_isOf := (by decide +kernel : ∀ q ∈ k_X7_isOf, decode cX7_isOf q.1 = .ok q.2)
theorem cw_X7_isOf : fm_cwS z_X7_isOf := ⟨⟨lw_in 1291 (by decide +kernel) (by decide +kernel), lw_in 99 (by decide +kernel) (by decide +kernel), by decide, by decide⟩, lw_in 1290 (by decide +kernel) (by decide +kernel)⟩
theorem pn_X7_isOf : (parseMethodDescriptor z_X7_isOf.1.desc).map (fun d => d.parameters.length) = some 2 := by decide +kernel
def f_X7_isOf_14 (a0 : Int32) (a1 : Int32) (s0 : Int32) (M : fm_Mem) : Option (Int32) := fm_ck (fm_bo s0) (some (s0))
set_option maxRecDepth 100000 in
set_option maxHeartbeats 4000000 in
theorem t_X7_isOf_14 (g : fm_G) (l : Launch) (hl : l.stackTraces = false) (a0 : Int32) (a1 : Int32)  (w : fm_W)  (s0 : Int32)  (M : fm_Mem) : Tt g l z_X7_isOf (emI M w) (f_X7_isOf_14 a0 a1  s0 M) 14 [] [.int s0] (M, w) := by
  rw [f_X7_isOf_14]
  exact Tt.ck (fun hb_1 => Tt.ret (Tr.zret rfl rfl hb_1))
def f_X7_isOf (a0 : Int32) (a1 : Int32) (M : fm_Mem) : Option (Int32) := if ((a0 >>> (a1 &&& 31)) &&& (1 : Int32)) = (1 : Int32) then (f_X7_isOf_14 a0 a1 (1 : Int32) M) else (f_X7_isOf_14 a0 a1 (0 : Int32) M)
set_option maxRecDepth 100000 in
set_option maxHeartbeats 4000000 in
theorem t_X7_isOf (g : fm_G) (l : Launch) (hl : l.stackTraces = false) (a0 : Int32) (a1 : Int32)  (M : fm_Mem) (w : fm_W) : Tt g l z_X7_isOf (emI M w) (f_X7_isOf a0 a1 M) 0 [(0, .int a0), (1, .int a1)] [] (M, w) := by
  rw [f_X7_isOf]
  refine Tt.go (fun _ => Tr.run 6 (pc' := 6) (lv' := [(0, .int a0), (1, .int a1)]) (st' := [.int (1 : Int32), .int ((a0 >>> (a1 &&& 31)) &&& (1 : Int32))]) rfl) ?_
  refine Tt.ic_ne (tgt := 13) rfl (by decide) ?_ ?_
  · refine Tt.go (fun _ => Tr.run 2 (pc' := 14) (lv' := [(0, .int a0), (1, .int a1)]) (st' := [.int (1 : Int32)]) rfl) ?_
    refine Tt.go (fun _ => Tr.sub (lv' := []) [] rfl) ?_
    exact t_X7_isOf_14 g l hl a0 a1 w (1 : Int32) M
  · refine Tt.go (fun _ => Tr.run 1 (pc' := 14) (lv' := [(0, .int a0), (1, .int a1)]) (st' := [.int (0 : Int32)]) rfl) ?_
    refine Tt.go (fun _ => Tr.sub (lv' := []) [] rfl) ?_
    exact t_X7_isOf_14 g l hl a0 a1 w (0 : Int32) M
theorem c_X7_isOf (g : fm_G) (l : Launch) (hl : l.stackTraces = false) (a0 : Int32) (a1 : Int32)  (M : fm_Mem) (w : fm_W) : ∀ r, f_X7_isOf a0 a1 M = some r → fC g l z_X7_isOf [.int a0, .int a1] (M, w) (emI M w r) := fun r hr => fC.of (by decide) rfl o_X7_isOf hl (Nat.le_of_ble_eq_true rfl) (t_X7_isOf g l hl a0 a1  M w r hr)
def k_X7_isBetween : List (Nat × Instr × Nat) := [(0, .aload_n 0, 1), (1, .iload_n 1, 1), (2, .iload_n 2, 1), (3, .iload_n 3, 1), (4, .invokevirtual 70, 3), (7, .lconst 0, 1), (8, .lcmp, 1), (9, .ifCond .eq 5, 3), (12, .iconst 0, 1), (13, .ireturn, 1), (14, .aload_n 0, 1), (15, .iload_n 2, 1), (16, .invokevirtual 56, 3), (19, .aload_n 0, 1), (20, .iload_n 1, 1), (21, .invokevirtual 56, 3), (24, .isub, 1), (25, .i2l, 1), (26, .aload_n 0, 1), (27, .iload_n 3, 1), (28, .invokevirtual 56, 3), (31, .aload_n 0, 1), (32, .iload_n 1, 1), (33, .invokevirtual 56, 3), (36, .isub, 1), (37, .i2l, 1), (38, .lmul, 1), (39, .aload_n 0, 1), (40, .iload_n 2, 1), (41, .invokevirtual 59, 3), (44, .aload_n 0, 1), (45, .iload_n 1, 1), (46, .invokevirtual 59, 3), (49, .isub, 1), (50, .i2l, 1), (51, .aload_n 0, 1), (52, .iload_n 3, 1), (53, .invokevirtual 59, 3), (56, .aload_n 0, 1), (57, .iload_n 1, 1), (58, .invokevirtual 59, 3), (61, .isub, 1), (62, .i2l, 1), (63, .lmul, 1), (64, .ladd, 1), (65, .lstore 4, 2), (67, .lload 4, 2), (69, .lconst 0, 1), (70, .lcmp, 1), (71, .ifCond .ge 7, 3), (74, .iconst 1, 1), (75, .goto 4, 3), (78, .iconst 0, 1), (79, .ireturn, 1)]
def z_X7_isBetween : fm_Y := (yX7_isBetween, RX7, cX7_isBetween, 6, (some .boolean), k_X7_isBetween, 3, 73)
theorem o_X7_isBetween : fm_dec z_X7_isBetween := (by decide +kernel : ∀ q ∈ k_X7_isBetween, decode cX7_isBetween q.1 = .ok q.2)
theorem cw_X7_isBetween : fm_cwV z_X7_isBetween := ⟨⟨lw_in 1299 (by decide +kernel) (by decide +kernel), lw_in 99 (by decide +kernel) (by decide +kernel), by decide, by decide⟩, lw_in 1298 (by decide +kernel) (by decide +kernel), lw_in 70 (by decide +kernel) (by decide +kernel)⟩
theorem pn_X7_isBetween : (parseMethodDescriptor z_X7_isBetween.1.desc).map (fun d => d.parameters.length) = some 3 := by decide +kernel
def f_X7_isBetween_79 (P : Nat) (a1 : Int32) (a2 : Int32) (a3 : Int32) (s0 : Int32) (M : fm_Mem) : Option (Int32) := fm_ck (fm_bo s0) (some (s0))
set_option maxRecDepth 100000 in
set_option maxHeartbeats 4000000 in
theorem t_X7_isBetween_79 (g : fm_G) (l : Launch) (hl : l.stackTraces = false) (P : Nat) (a1 : Int32) (a2 : Int32) (a3 : Int32) (hP : fm_kd g P = 7) (w : fm_W)  (s0 : Int32)  (M : fm_Mem) : Tt g l z_X7_isBetween (emI M w) (f_X7_isBetween_79 P a1 a2 a3  s0 M) 79 [] [.int s0] (M, w) := by
  rw [f_X7_isBetween_79]
  exact Tt.ck (fun hb_1 => Tt.ret (Tr.zret rfl rfl hb_1))
def f_X7_isBetween (P : Nat) (a1 : Int32) (a2 : Int32) (a3 : Int32) (M : fm_Mem) : Option (Int32) := Option.bind (f_X7_turn P a1 a2 a3 M) (fun v1 => if (lg_cmp v1 (0 : Int64)) = 0 then (Option.bind (f_X7_x P a2 M) (fun v2 => Option.bind (f_X7_x P a1 M) (fun v3 => Option.bind (f_X7_x P a3 M) (fun v4 => Option.bind (f_X7_x P a1 M) (fun v5 => Option.bind (f_X7_y P a2 M) (fun v6 => Option.bind (f_X7_y P a1 M) (fun v7 => Option.bind (f_X7_y P a3 M) (fun v8 => Option.bind (f_X7_y P a1 M) (fun v9 => if 0 ≤ (lg_cmp (((Int32.toInt64 (v2 - v3)) * (Int32.toInt64 (v4 - v5))) + ((Int32.toInt64 (v6 - v7)) * (Int32.toInt64 (v8 - v9)))) (0 : Int64)) then (f_X7_isBetween_79 P a1 a2 a3 (0 : Int32) M) else (f_X7_isBetween_79 P a1 a2 a3 (1 : Int32) M)))))))))) else (some ((0 : Int32))))
set_option maxRecDepth 100000 in
set_option maxHeartbeats 4000000 in
theorem t_X7_isBetween (g : fm_G) (l : Launch) (hl : l.stackTraces = false) (P : Nat) (a1 : Int32) (a2 : Int32) (a3 : Int32) (hP : fm_kd g P = 7) (M : fm_Mem) (w : fm_W) : Tt g l z_X7_isBetween (emI M w) (f_X7_isBetween P a1 a2 a3 M) 0 [(0, .ref P), (1, .int a1), (2, .int a2), (3, .int a3)] [] (M, w) := by
  rw [f_X7_isBetween]
  refine Tt.go (fun _ => Tr.run 4 (pc' := 4) (lv' := [(0, .ref P), (1, .int a1), (2, .int a2), (3, .int a3)]) (st' := [.int a3, .int a2, .int a1, .ref P]) rfl) ?_
  refine Tt.callV (As := [.int a1, .int a2, .int a3]) (rest := []) (c_X7_turn g l hl P a1 a2 a3 hP M w) hP (by decide) rfl rfl cw_X7_turn fw1193 pn_X7_turn (Nat.le_of_ble_eq_true rfl) (Nat.le_of_ble_eq_true rfl) (Nat.le_of_ble_eq_true rfl) rfl (fun v1 => (?_ : Tt g l z_X7_isBetween (emI M w) _ 7 [(0, .ref P), (1, .int a1), (2, .int a2), (3, .int a3)] [.long v1] (M, w)))
  refine Tt.go (fun _ => Tr.run 2 (pc' := 9) (lv' := [(0, .ref P), (1, .int a1), (2, .int a2), (3, .int a3)]) (st' := [.int (lg_cmp v1 (0 : Int64))]) rfl) ?_
  refine Tt.if_eq (tgt := 14) rfl (by decide) ?_ ?_
  · refine Tt.go (fun _ => Tr.run 2 (pc' := 16) (lv' := [(0, .ref P), (1, .int a1), (2, .int a2), (3, .int a3)]) (st' := [.int a2, .ref P]) rfl) ?_
    refine Tt.callV (As := [.int a2]) (rest := []) (c_X7_x g l hl P a2 hP M w) hP (by decide) rfl rfl cw_X7_x fw1164 pn_X7_x (Nat.le_of_ble_eq_true rfl) (Nat.le_of_ble_eq_true rfl) (Nat.le_of_ble_eq_true rfl) rfl (fun v2 => (?_ : Tt g l z_X7_isBetween (emI M w) _ 19 [(0, .ref P), (1, .int a1), (2, .int a2), (3, .int a3)] [.int v2] (M, w)))
    refine Tt.go (fun _ => Tr.run 2 (pc' := 21) (lv' := [(0, .ref P), (1, .int a1), (2, .int a2), (3, .int a3)]) (st' := [.int a1, .ref P, .int v2]) rfl) ?_
    refine Tt.callV (As := [.int a1]) (rest := [.int v2]) (c_X7_x g l hl P a1 hP M w) hP (by decide) rfl rfl cw_X7_x fw1164 pn_X7_x (Nat.le_of_ble_eq_true rfl) (Nat.le_of_ble_eq_true rfl) (Nat.le_of_ble_eq_true rfl) rfl (fun v3 => (?_ : Tt g l z_X7_isBetween (emI M w) _ 24 [(0, .ref P), (1, .int a1), (2, .int a2), (3, .int a3)] [.int v3, .int v2] (M, w)))
    refine Tt.go (fun _ => Tr.run 4 (pc' := 28) (lv' := [(0, .ref P), (1, .int a1), (2, .int a2), (3, .int a3)]) (st' := [.int a3, .ref P, .long (Int32.toInt64 (v2 - v3))]) rfl) ?_
    refine Tt.callV (As := [.int a3]) (rest := [.long (Int32.toInt64 (v2 - v3))]) (c_X7_x g l hl P a3 hP M w) hP (by decide) rfl rfl cw_X7_x fw1164 pn_X7_x (Nat.le_of_ble_eq_true rfl) (Nat.le_of_ble_eq_true rfl) (Nat.le_of_ble_eq_true rfl) rfl (fun v4 => (?_ : Tt g l z_X7_isBetween (emI M w) _ 31 [(0, .ref P), (1, .int a1), (2, .int a2), (3, .int a3)] [.int v4, .long (Int32.toInt64 (v2 - v3))] (M, w)))
    refine Tt.go (fun _ => Tr.run 2 (pc' := 33) (lv' := [(0, .ref P), (1, .int a1), (2, .int a2), (3, .int a3)]) (st' := [.int a1, .ref P, .int v4, .long (Int32.toInt64 (v2 - v3))]) rfl) ?_
    refine Tt.callV (As := [.int a1]) (rest := [.int v4, .long (Int32.toInt64 (v2 - v3))]) (c_X7_x g l hl P a1 hP M w) hP (by decide) rfl rfl cw_X7_x fw1164 pn_X7_x (Nat.le_of_ble_eq_true rfl) (Nat.le_of_ble_eq_true rfl) (Nat.le_of_ble_eq_true rfl) rfl (fun v5 => (?_ : Tt g l z_X7_isBetween (emI M w) _ 36 [(0, .ref P), (1, .int a1), (2, .int a2), (3, .int a3)] [.int v5, .int v4, .long (Int32.toInt64 (v2 - v3))] (M, w)))
    refine Tt.go (fun _ => Tr.run 5 (pc' := 41) (lv' := [(0, .ref P), (1, .int a1), (2, .int a2), (3, .int a3)]) (st' := [.int a2, .ref P, .long ((Int32.toInt64 (v2 - v3)) * (Int32.toInt64 (v4 - v5)))]) rfl) ?_
    refine Tt.callV (As := [.int a2]) (rest := [.long ((Int32.toInt64 (v2 - v3)) * (Int32.toInt64 (v4 - v5)))]) (c_X7_y g l hl P a2 hP M w) hP (by decide) rfl rfl cw_X7_y fw1168 pn_X7_y (Nat.le_of_ble_eq_true rfl) (Nat.le_of_ble_eq_true rfl) (Nat.le_of_ble_eq_true rfl) rfl (fun v6 => (?_ : Tt g l z_X7_isBetween (emI M w) _ 44 [(0, .ref P), (1, .int a1), (2, .int a2), (3, .int a3)] [.int v6, .long ((Int32.toInt64 (v2 - v3)) * (Int32.toInt64 (v4 - v5)))] (M, w)))
    refine Tt.go (fun _ => Tr.run 2 (pc' := 46) (lv' := [(0, .ref P), (1, .int a1), (2, .int a2), (3, .int a3)]) (st' := [.int a1, .ref P, .int v6, .long ((Int32.toInt64 (v2 - v3)) * (Int32.toInt64 (v4 - v5)))]) rfl) ?_
    refine Tt.callV (As := [.int a1]) (rest := [.int v6, .long ((Int32.toInt64 (v2 - v3)) * (Int32.toInt64 (v4 - v5)))]) (c_X7_y g l hl P a1 hP M w) hP (by decide) rfl rfl cw_X7_y fw1168 pn_X7_y (Nat.le_of_ble_eq_true rfl) (Nat.le_of_ble_eq_true rfl) (Nat.le_of_ble_eq_true rfl) rfl (fun v7 => (?_ : Tt g l z_X7_isBetween (emI M w) _ 49 [(0, .ref P), (1, .int a1), (2, .int a2), (3, .int a3)] [.int v7, .int v6, .long ((Int32.toInt64 (v2 - v3)) * (Int32.toInt64 (v4 - v5)))] (M, w)))
    refine Tt.go (fun _ => Tr.run 4 (pc' := 53) (lv' := [(0, .ref P), (1, .int a1), (2, .int a2), (3, .int a3)]) (st' := [.int a3, .ref P, .long (Int32.toInt64 (v6 - v7)), .long ((Int32.toInt64 (v2 - v3)) * (Int32.toInt64 (v4 - v5)))]) rfl) ?_
    refine Tt.callV (As := [.int a3]) (rest := [.long (Int32.toInt64 (v6 - v7)), .long ((Int32.toInt64 (v2 - v3)) * (Int32.toInt64 (v4 - v5)))]) (c_X7_y g l hl P a3 hP M w) hP (by decide) rfl rfl cw_X7_y fw1168 pn_X7_y (Nat.le_of_ble_eq_true rfl) (Nat.le_of_ble_eq_true rfl) (Nat.le_of_ble_eq_true rfl) rfl (fun v8 => (?_ : Tt g l z_X7_isBetween (emI M w) _ 56 [(0, .ref P), (1, .int a1), (2, .int a2), (3, .int a3)] [.int v8, .long (Int32.toInt64 (v6 - v7)), .long ((Int32.toInt64 (v2 - v3)) * (Int32.toInt64 (v4 - v5)))] (M, w)))
    refine Tt.go (fun _ => Tr.run 2 (pc' := 58) (lv' := [(0, .ref P), (1, .int a1), (2, .int a2), (3, .int a3)]) (st' := [.int a1, .ref P, .int v8, .long (Int32.toInt64 (v6 - v7)), .long ((Int32.toInt64 (v2 - v3)) * (Int32.toInt64 (v4 - v5)))]) rfl) ?_
    refine Tt.callV (As := [.int a1]) (rest := [.int v8, .long (Int32.toInt64 (v6 - v7)), .long ((Int32.toInt64 (v2 - v3)) * (Int32.toInt64 (v4 - v5)))]) (c_X7_y g l hl P a1 hP M w) hP (by decide) rfl rfl cw_X7_y fw1168 pn_X7_y (Nat.le_of_ble_eq_true rfl) (Nat.le_of_ble_eq_true rfl) (Nat.le_of_ble_eq_true rfl) rfl (fun v9 => (?_ : Tt g l z_X7_isBetween (emI M w) _ 61 [(0, .ref P), (1, .int a1), (2, .int a2), (3, .int a3)] [.int v9, .int v8, .long (Int32.toInt64 (v6 - v7)), .long ((Int32.toInt64 (v2 - v3)) * (Int32.toInt64 (v4 - v5)))] (M, w)))
    refine Tt.go (fun _ => Tr.run 8 (pc' := 71) (lv' := [(4, .long (((Int32.toInt64 (v2 - v3)) * (Int32.toInt64 (v4 - v5))) + ((Int32.toInt64 (v6 - v7)) * (Int32.toInt64 (v8 - v9))))), (0, .ref P), (1, .int a1), (2, .int a2), (3, .int a3)]) (st' := [.int (lg_cmp (((Int32.toInt64 (v2 - v3)) * (Int32.toInt64 (v4 - v5))) + ((Int32.toInt64 (v6 - v7)) * (Int32.toInt64 (v8 - v9)))) (0 : Int64))]) rfl) ?_
    refine Tt.if_ge (tgt := 78) rfl (by decide) ?_ ?_
    · refine Tt.go (fun _ => Tr.run 1 (pc' := 79) (lv' := [(4, .long (((Int32.toInt64 (v2 - v3)) * (Int32.toInt64 (v4 - v5))) + ((Int32.toInt64 (v6 - v7)) * (Int32.toInt64 (v8 - v9))))), (0, .ref P), (1, .int a1), (2, .int a2), (3, .int a3)]) (st' := [.int (0 : Int32)]) rfl) ?_
      refine Tt.go (fun _ => Tr.sub (lv' := []) [] rfl) ?_
      exact t_X7_isBetween_79 g l hl P a1 a2 a3 hP w (0 : Int32) M
    · refine Tt.go (fun _ => Tr.run 2 (pc' := 79) (lv' := [(4, .long (((Int32.toInt64 (v2 - v3)) * (Int32.toInt64 (v4 - v5))) + ((Int32.toInt64 (v6 - v7)) * (Int32.toInt64 (v8 - v9))))), (0, .ref P), (1, .int a1), (2, .int a2), (3, .int a3)]) (st' := [.int (1 : Int32)]) rfl) ?_
      refine Tt.go (fun _ => Tr.sub (lv' := []) [] rfl) ?_
      exact t_X7_isBetween_79 g l hl P a1 a2 a3 hP w (1 : Int32) M
  · refine Tt.go (fun _ => Tr.run 1 (pc' := 13) (lv' := [(0, .ref P), (1, .int a1), (2, .int a2), (3, .int a3)]) (st' := [.int (0 : Int32)]) rfl) ?_
    exact Tt.ret (Tr.zret rfl rfl fm_bo0)
theorem c_X7_isBetween (g : fm_G) (l : Launch) (hl : l.stackTraces = false) (P : Nat) (a1 : Int32) (a2 : Int32) (a3 : Int32) (hP : fm_kd g P = 7) (M : fm_Mem) (w : fm_W) : ∀ r, f_X7_isBetween P a1 a2 a3 M = some r → fC g l z_X7_isBetween [.ref P, .int a1, .int a2, .int a3] (M, w) (emI M w r) := fun r hr => fC.of (by decide) rfl o_X7_isBetween hl (Nat.le_of_ble_eq_true rfl) (t_X7_isBetween g l hl P a1 a2 a3 hP M w r hr)
