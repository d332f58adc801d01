theorem fw1473 : Cond.methodLink "CircleFlipsModel" 343 ⟨"CircleFlipsModel", "joins", "(JJ)J"⟩ ∈ lw_all := lw_in 1473 (by decide +kernel) (by decide +kernel)
theorem fw1476 : Cond.constantLong "CircleFlipsModel" 341 (31 : Int64) ∈ lw_all := lw_in 1476 (by decide +kernel) (by decide +kernel)
def k_X7_mend : List (Nat × Instr × Nat) := [(0, .aload_n 0, 1), (1, .iconst 0, 1), (2, .putfield 35, 3), (5, .aload_n 0, 1), (6, .iload_n 1, 1), (7, .iconst 1, 1), (8, .sipush 500, 3), (11, .invokestatic 52, 3), (14, .iconst 1, 1), (15, .invokevirtual 252, 3), (18, .ifCond .ne 5, 3), (21, .iconst 0, 1), (22, .ireturn, 1), (23, .aload_n 0, 1), (24, .invokevirtual 335, 3), (27, .iconst 0, 1), (28, .istore_n 2, 1), (29, .aload_n 0, 1), (30, .invokevirtual 307, 3), (33, .istore_n 3, 1), (34, .iload_n 2, 1), (35, .iload_n 1, 1), (36, .if_icmp .ge 42, 3), (39, .iload_n 3, 1), (40, .iconst (-1), 1), (41, .if_icmp .eq 37, 3), (44, .aload_n 0, 1), (45, .iload_n 3, 1), (46, .bipush 100, 2), (48, .idiv, 1), (49, .iload_n 3, 1), (50, .bipush 100, 2), (52, .irem, 1), (53, .invokevirtual 230, 3), (56, .istore 4, 2), (58, .iload 4, 2), (60, .ifCond .lt 10, 3), (63, .aload_n 0, 1), (64, .invokevirtual 307, 3), (67, .goto 4, 3), (70, .iconst (-1), 1), (71, .istore_n 3, 1), (72, .iinc 2 1, 3), (75, .goto (-41), 3), (78, .iload_n 2, 1), (79, .ireturn, 1)]
def z_X7_mend : fm_Y := (yX7_mend, RX7, cX7_mend, 5, (some .int), k_X7_mend, 11, 284)
theorem o_X7_mend : fm_dec z_X7_mend := (by decide +kernel : ∀ q ∈ k_X7_mend, decode cX7_mend q.1 = .ok q.2)
theorem cw_X7_mend : fm_cwV z_X7_mend := ⟨⟨lw_in 1464 (by decide +kernel) (by decide +kernel), lw_in 99 (by decide +kernel) (by decide +kernel), by decide, by decide⟩, lw_in 1462 (by decide +kernel) (by decide +kernel), lw_in 1463 (by decide +kernel) (by decide +kernel)⟩
theorem pn_X7_mend : (parseMethodDescriptor z_X7_mend.1.desc).map (fun d => d.parameters.length) = some 1 := by decide +kernel
def f_X7_mend_78 (P : Nat) (a1 : Int32) (x2 : Int32) (M : fm_Mem) : Option (Int32 × fm_Mem) := some ((x2, M))
set_option maxRecDepth 100000 in
set_option maxHeartbeats 4000000 in
theorem t_X7_mend_78 (g : fm_G) (l : Launch) (hl : l.stackTraces = false) (P : Nat) (a1 : Int32) (hP : fm_kd g P = 7) (w : fm_W) (M0 : fm_Mem)  (x2 : Int32)  (M : fm_Mem) : Tt g l z_X7_mend (emIw M0 w) (f_X7_mend_78 P a1  x2 M) 78 [(2, .int x2)] [] (M, w) := by
  rw [f_X7_mend_78]
  refine Tt.go (fun _ => Tr.run 1 (pc' := 79) (lv' := [(2, .int x2)]) (st' := [.int x2]) rfl) ?_
  exact Tt.ret (Tr.iret rfl rfl)
def f_X7_mend_71 (P : Nat) (a1 : Int32) (k34 : Int32 → Int32 → fm_Mem → Option (Int32 × fm_Mem)) (x2 : Int32) (s0 : Int32) (M : fm_Mem) : Option (Int32 × fm_Mem) := (k34 (x2 + (1 : Int32)) s0 M)
set_option maxRecDepth 100000 in
set_option maxHeartbeats 4000000 in
theorem t_X7_mend_71 (g : fm_G) (l : Launch) (hl : l.stackTraces = false) (P : Nat) (a1 : Int32) (hP : fm_kd g P = 7) (w : fm_W) (M0 : fm_Mem) (k34 : Int32 → Int32 → fm_Mem → Option (Int32 × fm_Mem)) (hk34 : ∀ (x2 : Int32) (x3 : Int32) (M : fm_Mem), Tt g l z_X7_mend (emIw M0 w) (k34 x2 x3 M) 34 [(0, .ref P), (1, .int a1), (2, .int x2), (3, .int x3)] [] (M, w)) (x2 : Int32) (s0 : Int32)  (M : fm_Mem) : Tt g l z_X7_mend (emIw M0 w) (f_X7_mend_71 P a1 k34 x2 s0 M) 71 [(0, .ref P), (1, .int a1), (2, .int x2)] [.int s0] (M, w) := by
  rw [f_X7_mend_71]
  refine Tt.go (fun _ => Tr.run 3 (pc' := 34) (lv' := [(2, .int (x2 + (1 : Int32))), (3, .int s0), (0, .ref P), (1, .int a1)]) (st' := []) rfl) ?_
  refine Tt.go (fun _ => Tr.sub (lv' := [(0, .ref P), (1, .int a1), (2, .int (x2 + (1 : Int32))), (3, .int s0)]) [2, 3, 0, 1] rfl) ?_
  exact hk34 (x2 + (1 : Int32)) s0 M
def f_X7_mend_34 (P : Nat) (a1 : Int32) : Nat → Int32 → Int32 → fm_Mem → Option (Int32 × fm_Mem)
  | 0, _, _, _ => none
  | n + 1, x2, x3, M => if a1 ≤ x2 then (f_X7_mend_78 P a1 x2 M) else (if x3 = (-1 : Int32) then (f_X7_mend_78 P a1 x2 M) else (Option.bind (f_X7_flips P (x3 / (100 : Int32)) (fm_rem x3 (100 : Int32)) M) (fun v1 => if v1.1 < 0 then (f_X7_mend_71 P a1 (fun x2 x3 M => f_X7_mend_34 P a1 n x2 x3 M) x2 (-1 : Int32) v1.2) else (Option.bind (f_X7_firstBad P v1.2) (fun v2 => (f_X7_mend_71 P a1 (fun x2 x3 M => f_X7_mend_34 P a1 n x2 x3 M) x2 v2.1 v2.2))))))
set_option maxRecDepth 100000 in
set_option maxHeartbeats 4000000 in
theorem t_X7_mend_34 (g : fm_G) (l : Launch) (hl : l.stackTraces = false) (P : Nat) (a1 : Int32) (hP : fm_kd g P = 7) (w : fm_W) (M0 : fm_Mem)  : ∀ (n : Nat) (x2 : Int32) (x3 : Int32)  (M : fm_Mem), Tt g l z_X7_mend (emIw M0 w) (f_X7_mend_34 P a1  n x2 x3 M) 34 [(0, .ref P), (1, .int a1), (2, .int x2), (3, .int x3)] [] (M, w) := by
  intro n
  induction n with
  | zero => intros; exact Tt.none
  | succ n ih =>
    intro x2 x3  M
    rw [f_X7_mend_34]
    refine Tt.go (fun _ => Tr.run 2 (pc' := 36) (lv' := [(0, .ref P), (1, .int a1), (2, .int x2), (3, .int x3)]) (st' := [.int a1, .int x2]) rfl) ?_
    refine Tt.ic_ge (tgt := 78) rfl (by decide) ?_ ?_
    · refine Tt.go (fun _ => Tr.sub (lv' := [(2, .int x2)]) [2] rfl) ?_
      exact t_X7_mend_78 g l hl P a1 hP w M0 x2 M
    · refine Tt.go (fun _ => Tr.run 2 (pc' := 41) (lv' := [(0, .ref P), (1, .int a1), (2, .int x2), (3, .int x3)]) (st' := [.int (-1 : Int32), .int x3]) rfl) ?_
      refine Tt.ic_eq (tgt := 78) rfl (by decide) ?_ ?_
      · refine Tt.go (fun _ => Tr.sub (lv' := [(2, .int x2)]) [2] rfl) ?_
        exact t_X7_mend_78 g l hl P a1 hP w M0 x2 M
      · refine Tt.go (fun _ => Tr.run 3 (pc' := 48) (lv' := [(0, .ref P), (1, .int a1), (2, .int x2), (3, .int x3)]) (st' := [.int (100 : Int32), .int x3, .ref P]) rfl) ?_
        refine Tt.go (fun _ => Tr.idiv rfl (by decide)) (?_ : Tt g l z_X7_mend (emIw M0 w) _ 49 [(0, .ref P), (1, .int a1), (2, .int x2), (3, .int x3)] [.int (x3 / (100 : Int32)), .ref P] (M, w))
        refine Tt.go (fun _ => Tr.run 2 (pc' := 52) (lv' := [(0, .ref P), (1, .int a1), (2, .int x2), (3, .int x3)]) (st' := [.int (100 : Int32), .int x3, .int (x3 / (100 : Int32)), .ref P]) rfl) ?_
        refine Tt.go (fun _ => Tr.irem rfl (by decide)) (?_ : Tt g l z_X7_mend (emIw M0 w) _ 53 [(0, .ref P), (1, .int a1), (2, .int x2), (3, .int x3)] [.int (fm_rem x3 (100 : Int32)), .int (x3 / (100 : Int32)), .ref P] (M, w))
        refine Tt.callV (As := [.int (x3 / (100 : Int32)), .int (fm_rem x3 (100 : Int32))]) (rest := []) (c_X7_flips g l hl P (x3 / (100 : Int32)) (fm_rem x3 (100 : Int32)) hP M w) hP (by decide) rfl rfl cw_X7_flips fw1239 pn_X7_flips (Nat.le_of_ble_eq_true rfl) (Nat.le_of_ble_eq_true rfl) (Nat.le_of_ble_eq_true rfl) rfl (fun v1 => (?_ : Tt g l z_X7_mend (emIw M0 w) _ 56 [(0, .ref P), (1, .int a1), (2, .int x2), (3, .int x3)] [.int v1.1] (v1.2, w)))
        refine Tt.go (fun _ => Tr.run 2 (pc' := 60) (lv' := [(4, .int v1.1), (0, .ref P), (1, .int a1), (2, .int x2), (3, .int x3)]) (st' := [.int v1.1]) rfl) ?_
        refine Tt.if_lt (tgt := 70) rfl (by decide) ?_ ?_
        · refine Tt.go (fun _ => Tr.run 1 (pc' := 71) (lv' := [(4, .int v1.1), (0, .ref P), (1, .int a1), (2, .int x2), (3, .int x3)]) (st' := [.int (-1 : Int32)]) rfl) ?_
          refine Tt.go (fun _ => Tr.sub (lv' := [(0, .ref P), (1, .int a1), (2, .int x2)]) [1, 2, 3] rfl) ?_
          exact t_X7_mend_71 g l hl P a1 hP w M0 _ ih x2 (-1 : Int32) v1.2
        · refine Tt.go (fun _ => Tr.run 1 (pc' := 64) (lv' := [(4, .int v1.1), (0, .ref P), (1, .int a1), (2, .int x2), (3, .int x3)]) (st' := [.ref P]) rfl) ?_
          refine Tt.callV (As := []) (rest := []) (c_X7_firstBad g l hl P hP v1.2 w) hP (by decide) rfl rfl cw_X7_firstBad fw1370 pn_X7_firstBad (Nat.le_of_ble_eq_true rfl) (Nat.le_of_ble_eq_true rfl) (Nat.le_of_ble_eq_true rfl) rfl (fun v2 => (?_ : Tt g l z_X7_mend (emIw M0 w) _ 67 [(4, .int v1.1), (0, .ref P), (1, .int a1), (2, .int x2), (3, .int x3)] [.int v2.1] (v2.2, w)))
          refine Tt.go (fun _ => Tr.run 1 (pc' := 71) (lv' := [(4, .int v1.1), (0, .ref P), (1, .int a1), (2, .int x2), (3, .int x3)]) (st' := [.int v2.1]) rfl) ?_
          refine Tt.go (fun _ => Tr.sub (lv' := [(0, .ref P), (1, .int a1), (2, .int x2)]) [1, 2, 3] rfl) ?_
          exact t_X7_mend_71 g l hl P a1 hP w M0 _ ih x2 v2.1 v2.2
def f_X7_mend (P : Nat) (a1 : Int32) (M : fm_Mem) : Option (Int32 × fm_Mem) := Option.bind (f_X7_isIn a1 (1 : Int32) (500 : Int32) (fm_up M P 0 (0 : Int32))) (fun v1 => Option.bind (f_X7_right P v1 (1 : Int32) (fm_up M P 0 (0 : Int32))) (fun v2 => if v2.1 = 0 then (some (((0 : Int32), v2.2))) else (Option.bind (f_X7_change P v2.2) (fun v3 => Option.bind (f_X7_firstBad P v3) (fun v4 => (f_X7_mend_34 P a1 fm_fuel (0 : Int32) v4.1 v4.2))))))
set_option maxRecDepth 100000 in
set_option maxHeartbeats 4000000 in
theorem t_X7_mend (g : fm_G) (l : Launch) (hl : l.stackTraces = false) (P : Nat) (a1 : Int32) (hP : fm_kd g P = 7) (M : fm_Mem) (w : fm_W) : Tt g l z_X7_mend (emIw M w) (f_X7_mend P a1 M) 0 [(0, .ref P), (1, .int a1)] [] (M, w) := by
  rw [f_X7_mend]
  refine Tt.go (fun _ => Tr.run 2 (pc' := 2) (lv' := [(0, .ref P), (1, .int a1)]) (st' := [.int (0 : Int32), .ref P]) rfl) ?_
  refine Tt.go (fun _ => Tr.put fmc7 hP rfl fw1024 (k := 0) (by decide) rfl rfl ⟨rfl, rfl⟩) (?_ : Tt g l z_X7_mend (emIw M w) _ 5 [(0, .ref P), (1, .int a1)] [] ((fm_up M P 0 (0 : Int32)), w))
  refine Tt.go (fun _ => Tr.run 4 (pc' := 11) (lv' := [(0, .ref P), (1, .int a1)]) (st' := [.int (500 : Int32), .int (1 : Int32), .int a1, .ref P]) rfl) ?_
  refine Tt.callS (As := [.int a1, .int (1 : Int32), .int (500 : Int32)]) (rest := [.ref P]) (c_X7_isIn g l hl a1 (1 : Int32) (500 : Int32) (fm_up M P 0 (0 : Int32)) w) rfl cw_X7_isIn fw1102 pn_X7_isIn (Nat.le_of_ble_eq_true rfl) (Nat.le_of_ble_eq_true rfl) (Nat.le_of_ble_eq_true rfl) rfl (fun v1 => (?_ : Tt g l z_X7_mend (emIw M w) _ 14 [(0, .ref P), (1, .int a1)] [.int v1, .ref P] ((fm_up M P 0 (0 : Int32)), w)))
  refine Tt.go (fun _ => Tr.run 1 (pc' := 15) (lv' := [(0, .ref P), (1, .int a1)]) (st' := [.int (1 : Int32), .int v1, .ref P]) rfl) ?_
  refine Tt.callV (As := [.int v1, .int (1 : Int32)]) (rest := []) (c_X7_right g l hl P v1 (1 : Int32) hP (fm_up M P 0 (0 : Int32)) w) hP (by decide) rfl rfl cw_X7_right fw1105 pn_X7_right (Nat.le_of_ble_eq_true rfl) (Nat.le_of_ble_eq_true rfl) (Nat.le_of_ble_eq_true rfl) rfl (fun v2 => (?_ : Tt g l z_X7_mend (emIw M w) _ 18 [(0, .ref P), (1, .int a1)] [.int v2.1] (v2.2, w)))
  refine Tt.if_ne (tgt := 23) rfl (by decide) ?_ ?_
  · refine Tt.go (fun _ => Tr.run 1 (pc' := 22) (lv' := [(0, .ref P), (1, .int a1)]) (st' := [.int (0 : Int32)]) rfl) ?_
    exact Tt.ret (Tr.iret rfl rfl)
  · refine Tt.go (fun _ => Tr.run 1 (pc' := 24) (lv' := [(0, .ref P), (1, .int a1)]) (st' := [.ref P]) rfl) ?_
    refine Tt.callV (As := []) (rest := []) (c_X7_change g l hl P hP v2.2 w) hP (by decide) rfl rfl cw_X7_change fw1441 pn_X7_change (Nat.le_of_ble_eq_true rfl) (Nat.le_of_ble_eq_true rfl) (Nat.le_of_ble_eq_true rfl) rfl (fun v3 => (?_ : Tt g l z_X7_mend (emIw M w) _ 27 [(0, .ref P), (1, .int a1)] [] (v3, w)))
    refine Tt.go (fun _ => Tr.run 3 (pc' := 30) (lv' := [(2, .int (0 : Int32)), (0, .ref P), (1, .int a1)]) (st' := [.ref P]) rfl) ?_
    refine Tt.callV (As := []) (rest := []) (c_X7_firstBad g l hl P hP v3 w) hP (by decide) rfl rfl cw_X7_firstBad fw1370 pn_X7_firstBad (Nat.le_of_ble_eq_true rfl) (Nat.le_of_ble_eq_true rfl) (Nat.le_of_ble_eq_true rfl) rfl (fun v4 => (?_ : Tt g l z_X7_mend (emIw M w) _ 33 [(2, .int (0 : Int32)), (0, .ref P), (1, .int a1)] [.int v4.1] (v4.2, w)))
    refine Tt.go (fun _ => Tr.run 1 (pc' := 34) (lv' := [(3, .int v4.1), (2, .int (0 : Int32)), (0, .ref P), (1, .int a1)]) (st' := []) rfl) ?_
    refine Tt.go (fun _ => Tr.sub (lv' := [(0, .ref P), (1, .int a1), (2, .int (0 : Int32)), (3, .int v4.1)]) [2, 3, 1, 0] rfl) ?_
    exact t_X7_mend_34 g l hl P a1 hP w M fm_fuel (0 : Int32) v4.1 v4.2
theorem c_X7_mend (g : fm_G) (l : Launch) (hl : l.stackTraces = false) (P : Nat) (a1 : Int32) (hP : fm_kd g P = 7) (M : fm_Mem) (w : fm_W) : ∀ r, f_X7_mend P a1 M = some r → fC g l z_X7_mend [.ref P, .int a1] (M, w) (emIw M w r) := fun r hr => fC.of (by decide) rfl o_X7_mend hl (Nat.le_of_ble_eq_true rfl) (t_X7_mend g l hl P a1 hP M w r hr)
def k_X7_undo : List (Nat × Instr × Nat) := [(0, .aload_n 0, 1), (1, .iconst 0, 1), (2, .putfield 35, 3), (5, .aload_n 0, 1), (6, .getfield 45, 3), (9, .ifCond .ne 5, 3), (12, .iconst (-1), 1), (13, .ireturn, 1), (14, .aload_n 0, 1), (15, .dup, 1), (16, .getfield 45, 3), (19, .iconst 1, 1), (20, .isub, 1), (21, .putfield 45, 3), (24, .aload_n 0, 1), (25, .aload_n 0, 1), (26, .getfield 38, 3), (29, .bipush 9, 2), (31, .iadd, 1), (32, .iconst 1, 1), (33, .isub, 1), (34, .bipush 9, 2), (36, .irem, 1), (37, .putfield 38, 3), (40, .aload_n 0, 1), (41, .getfield 45, 3), (44, .ireturn, 1)]
def z_X7_undo : fm_Y := (yX7_undo, RX7, cX7_undo, 1, (some .int), k_X7_undo, 0, 0)
theorem o_X7_undo : fm_dec z_X7_undo := (by decide +kernel : ∀ q ∈ k_X7_undo, decode cX7_undo q.1 = .ok q.2)
theorem cw_X7_undo : fm_cwV z_X7_undo := ⟨⟨lw_in 1468 (by decide +kernel) (by decide +kernel), lw_in 99 (by decide +kernel) (by decide +kernel), by decide, by decide⟩, lw_in 1466 (by decide +kernel) (by decide +kernel), lw_in 1467 (by decide +kernel) (by decide +kernel)⟩
theorem pn_X7_undo : (parseMethodDescriptor z_X7_undo.1.desc).map (fun d => d.parameters.length) = some 0 := by decide +kernel
def f_X7_undo (P : Nat) (M : fm_Mem) : Option (Int32 × fm_Mem) := if ((fm_up M P 0 (0 : Int32)) P 4) = 0 then (some (((-1 : Int32), (fm_up M P 0 (0 : Int32))))) else (some ((((fm_up (fm_up (fm_up M P 0 (0 : Int32)) P 4 (((fm_up M P 0 (0 : Int32)) P 4) - (1 : Int32))) P 3 (fm_rem ((((fm_up (fm_up M P 0 (0 : Int32)) P 4 (((fm_up M P 0 (0 : Int32)) P 4) - (1 : Int32))) P 3) + (9 : Int32)) - (1 : Int32)) (9 : Int32))) P 4), (fm_up (fm_up (fm_up M P 0 (0 : Int32)) P 4 (((fm_up M P 0 (0 : Int32)) P 4) - (1 : Int32))) P 3 (fm_rem ((((fm_up (fm_up M P 0 (0 : Int32)) P 4 (((fm_up M P 0 (0 : Int32)) P 4) - (1 : Int32))) P 3) + (9 : Int32)) - (1 : Int32)) (9 : Int32))))))
set_option maxRecDepth 100000 in
set_option maxHeartbeats 4000000 in
theorem t_X7_undo (g : fm_G) (l : Launch) (hl : l.stackTraces = false) (P : Nat) (hP : fm_kd g P = 7) (M : fm_Mem) (w : fm_W) : Tt g l z_X7_undo (emIw M w) (f_X7_undo P M) 0 [(0, .ref P)] [] (M, w) := by
  rw [f_X7_undo]
  refine Tt.go (fun _ => Tr.run 2 (pc' := 2) (lv' := [(0, .ref P)]) (st' := [.int (0 : Int32), .ref P]) rfl) ?_
  refine Tt.go (fun _ => Tr.put fmc7 hP rfl fw1024 (k := 0) (by decide) rfl rfl ⟨rfl, rfl⟩) (?_ : Tt g l z_X7_undo (emIw M w) _ 5 [(0, .ref P)] [] ((fm_up M P 0 (0 : Int32)), w))
  refine Tt.go (fun _ => Tr.run 1 (pc' := 6) (lv' := [(0, .ref P)]) (st' := [.ref P]) rfl) ?_
  refine Tt.go (fun _ => Tr.get fmc7 hP rfl fw1028 (k := 4) (by decide) rfl) (?_ : Tt g l z_X7_undo (emIw M w) _ 9 [(0, .ref P)] [.int ((fm_up M P 0 (0 : Int32)) P 4)] ((fm_up M P 0 (0 : Int32)), w))
  refine Tt.if_ne (tgt := 14) rfl (by decide) ?_ ?_
  · refine Tt.go (fun _ => Tr.run 1 (pc' := 13) (lv' := [(0, .ref P)]) (st' := [.int (-1 : Int32)]) rfl) ?_
    exact Tt.ret (Tr.iret rfl rfl)
  · refine Tt.go (fun _ => Tr.run 2 (pc' := 16) (lv' := [(0, .ref P)]) (st' := [.ref P, .ref P]) rfl) ?_
    refine Tt.go (fun _ => Tr.get fmc7 hP rfl fw1028 (k := 4) (by decide) rfl) (?_ : Tt g l z_X7_undo (emIw M w) _ 19 [(0, .ref P)] [.int ((fm_up M P 0 (0 : Int32)) P 4), .ref P] ((fm_up M P 0 (0 : Int32)), w))
    refine Tt.go (fun _ => Tr.run 2 (pc' := 21) (lv' := [(0, .ref P)]) (st' := [.int (((fm_up M P 0 (0 : Int32)) P 4) - (1 : Int32)), .ref P]) rfl) ?_
    refine Tt.go (fun _ => Tr.put fmc7 hP rfl fw1028 (k := 4) (by decide) rfl rfl ⟨rfl, rfl⟩) (?_ : Tt g l z_X7_undo (emIw M w) _ 24 [(0, .ref P)] [] ((fm_up (fm_up M P 0 (0 : Int32)) P 4 (((fm_up M P 0 (0 : Int32)) P 4) - (1 : Int32))), w))
    refine Tt.go (fun _ => Tr.run 2 (pc' := 26) (lv' := [(0, .ref P)]) (st' := [.ref P, .ref P]) rfl) ?_
    refine Tt.go (fun _ => Tr.get fmc7 hP rfl fw1027 (k := 3) (by decide) rfl) (?_ : Tt g l z_X7_undo (emIw M w) _ 29 [(0, .ref P)] [.int ((fm_up (fm_up M P 0 (0 : Int32)) P 4 (((fm_up M P 0 (0 : Int32)) P 4) - (1 : Int32))) P 3), .ref P] ((fm_up (fm_up M P 0 (0 : Int32)) P 4 (((fm_up M P 0 (0 : Int32)) P 4) - (1 : Int32))), w))
    refine Tt.go (fun _ => Tr.run 5 (pc' := 36) (lv' := [(0, .ref P)]) (st' := [.int (9 : Int32), .int ((((fm_up (fm_up M P 0 (0 : Int32)) P 4 (((fm_up M P 0 (0 : Int32)) P 4) - (1 : Int32))) P 3) + (9 : Int32)) - (1 : Int32)), .ref P]) rfl) ?_
    refine Tt.go (fun _ => Tr.irem rfl (by decide)) (?_ : Tt g l z_X7_undo (emIw M w) _ 37 [(0, .ref P)] [.int (fm_rem ((((fm_up (fm_up M P 0 (0 : Int32)) P 4 (((fm_up M P 0 (0 : Int32)) P 4) - (1 : Int32))) P 3) + (9 : Int32)) - (1 : Int32)) (9 : Int32)), .ref P] ((fm_up (fm_up M P 0 (0 : Int32)) P 4 (((fm_up M P 0 (0 : Int32)) P 4) - (1 : Int32))), w))
    refine Tt.go (fun _ => Tr.put fmc7 hP rfl fw1027 (k := 3) (by decide) rfl rfl ⟨rfl, rfl⟩) (?_ : Tt g l z_X7_undo (emIw M w) _ 40 [(0, .ref P)] [] ((fm_up (fm_up (fm_up M P 0 (0 : Int32)) P 4 (((fm_up M P 0 (0 : Int32)) P 4) - (1 : Int32))) P 3 (fm_rem ((((fm_up (fm_up M P 0 (0 : Int32)) P 4 (((fm_up M P 0 (0 : Int32)) P 4) - (1 : Int32))) P 3) + (9 : Int32)) - (1 : Int32)) (9 : Int32))), w))
    refine Tt.go (fun _ => Tr.run 1 (pc' := 41) (lv' := [(0, .ref P)]) (st' := [.ref P]) rfl) ?_
    refine Tt.go (fun _ => Tr.get fmc7 hP rfl fw1028 (k := 4) (by decide) rfl) (?_ : Tt g l z_X7_undo (emIw M w) _ 44 [(0, .ref P)] [.int ((fm_up (fm_up (fm_up M P 0 (0 : Int32)) P 4 (((fm_up M P 0 (0 : Int32)) P 4) - (1 : Int32))) P 3 (fm_rem ((((fm_up (fm_up M P 0 (0 : Int32)) P 4 (((fm_up M P 0 (0 : Int32)) P 4) - (1 : Int32))) P 3) + (9 : Int32)) - (1 : Int32)) (9 : Int32))) P 4)] ((fm_up (fm_up (fm_up M P 0 (0 : Int32)) P 4 (((fm_up M P 0 (0 : Int32)) P 4) - (1 : Int32))) P 3 (fm_rem ((((fm_up (fm_up M P 0 (0 : Int32)) P 4 (((fm_up M P 0 (0 : Int32)) P 4) - (1 : Int32))) P 3) + (9 : Int32)) - (1 : Int32)) (9 : Int32))), w))
    exact Tt.ret (Tr.iret rfl rfl)
theorem c_X7_undo (g : fm_G) (l : Launch) (hl : l.stackTraces = false) (P : Nat) (hP : fm_kd g P = 7) (M : fm_Mem) (w : fm_W) : ∀ r, f_X7_undo P M = some r → fC g l z_X7_undo [.ref P] (M, w) (emIw M w r) := fun r hr => fC.of (by decide) rfl o_X7_undo hl (Nat.le_of_ble_eq_true rfl) (t_X7_undo g l hl P hP M w r hr)
def k_X7_joins : List (Nat × Instr × Nat) := [(0, .ldc2_w 341, 3), (3, .lload_n 0, 1), (4, .lmul, 1), (5, .lload_n 2, 1), (6, .ladd, 1), (7, .lreturn, 1)]
def z_X7_joins : fm_Y := (yX7_joins, RX7, cX7_joins, 4, (some .long), k_X7_joins, 0, 0)
theorem o_X7_joins : fm_dec z_X7_joins := (by decide +kernel : ∀ q ∈ k_X7_joins, decode cX7_joins q.1 = .ok q.2)
theorem cw_X7_joins : fm_cwS z_X7_joins := ⟨⟨lw_in 1475 (by decide +kernel) (by decide +kernel), lw_in 99 (by decide +kernel) (by decide +kernel), by decide, by decide⟩, lw_in 1474 (by decide +kernel) (by decide +kernel)⟩
theorem pn_X7_joins : (parseMethodDescriptor z_X7_joins.1.desc).map (fun d => d.parameters.length) = some 2 := by decide +kernel
def f_X7_joins (a0 : Int64) (a2 : Int64) (M : fm_Mem) : Option (Int64) := some ((((31 : Int64) * a0) + a2))
set_option maxRecDepth 100000 in
set_option maxHeartbeats 4000000 in
theorem t_X7_joins (g : fm_G) (l : Launch) (hl : l.stackTraces = false) (a0 : Int64) (a2 : Int64)  (M : fm_Mem) (w : fm_W) : Tt g l z_X7_joins (emJ M w) (f_X7_joins a0 a2 M) 0 [(0, .long a0), (2, .long a2)] [] (M, w) := by
  rw [f_X7_joins]
  refine Tt.go (fun _ => Tr.ldcL rfl fw1476) (?_ : Tt g l z_X7_joins (emJ M w) _ 3 [(0, .long a0), (2, .long a2)] [.long (31 : Int64)] (M, w))
  refine Tt.go (fun _ => Tr.run 4 (pc' := 7) (lv' := [(0, .long a0), (2, .long a2)]) (st' := [.long (((31 : Int64) * a0) + a2)]) rfl) ?_
  exact Tt.ret (Tr.lret rfl rfl)
theorem c_X7_joins (g : fm_G) (l : Launch) (hl : l.stackTraces = false) (a0 : Int64) (a2 : Int64)  (M : fm_Mem) (w : fm_W) : ∀ r, f_X7_joins a0 a2 M = some r → fC g l z_X7_joins [.long a0, .long a2] (M, w) (emJ M w r) := fun r hr => fC.of (by decide) rfl o_X7_joins hl (Nat.le_of_ble_eq_true rfl) (t_X7_joins g l hl a0 a2  M w r hr)
def k_X7_checksum : List (Nat × Instr × Nat) := [(0, .aload_n 0, 1), (1, .iconst 0, 1), (2, .putfield 35, 3), (5, .lconst 0, 1), (6, .lstore_n 1, 1), (7, .iconst 0, 1), (8, .istore_n 3, 1), (9, .iload_n 3, 1), (10, .bipush 12, 2), (12, .if_icmp .ge 30, 3), (15, .iload_n 3, 1), (16, .bipush 9, 2), (18, .if_icmp .ne 7, 3), (21, .lload_n 1, 1), (22, .goto 13, 3), (25, .lload_n 1, 1), (26, .aload_n 0, 1), (27, .iload_n 3, 1), (28, .invokevirtual 290, 3), (31, .i2l, 1), (32, .invokestatic 343, 3), (35, .lstore_n 1, 1), (36, .iinc 3 1, 3), (39, .goto (-30), 3), (42, .iconst 0, 1), (43, .istore_n 3, 1), (44, .iload_n 3, 1), (45, .aload_n 0, 1), (46, .invokevirtual 48, 3), (49, .if_icmp .ge 38, 3), (52, .iconst 0, 1), (53, .istore 4, 2), (55, .iload 4, 2), (57, .bipush 7, 2), (59, .if_icmp .ge 22, 3), (62, .lload_n 1, 1), (63, .aload_n 0, 1), (64, .iload_n 3, 1), (65, .iload 4, 2), (67, .invokevirtual 296, 3), (70, .i2l, 1), (71, .invokestatic 343, 3), (74, .lstore_n 1, 1), (75, .iinc 4 1, 3), (78, .goto (-23), 3), (81, .iinc 3 1, 3), (84, .goto (-40), 3), (87, .iconst 0, 1), (88, .istore_n 3, 1), (89, .iload_n 3, 1), (90, .iconst 2, 1), (91, .if_icmp .ge 77, 3), (94, .iconst 0, 1), (95, .istore 4, 2), (97, .iload 4, 2), (99, .aload_n 0, 1), (100, .iload_n 3, 1), (101, .iconst 1, 1), (102, .if_icmp .ne 7, 3), (105, .iconst 1, 1), (106, .goto 4, 3), (109, .iconst 0, 1), (110, .invokevirtual 107, 3), (113, .if_icmp .ge 49, 3), (116, .iconst 0, 1), (117, .istore 5, 2), (119, .iload 5, 2), (121, .bipush 7, 2), (123, .if_icmp .ge 33, 3), (126, .lload_n 1, 1), (127, .aload_n 0, 1), (128, .iload 4, 2), (130, .iload_n 3, 1), (131, .iconst 1, 1), (132, .if_icmp .ne 7, 3), (135, .iconst 1, 1), (136, .goto 4, 3), (139, .iconst 0, 1), (140, .iload 5, 2), (142, .invokevirtual 303, 3), (145, .i2l, 1), (146, .invokestatic 343, 3), (149, .lstore_n 1, 1), (150, .iinc 5 1, 3), (153, .goto (-34), 3), (156, .iinc 4 1, 3), (159, .goto (-62), 3), (162, .iinc 3 1, 3), (165, .goto (-76), 3), (168, .lload_n 1, 1), (169, .aload_n 0, 1), (170, .invokevirtual 320, 3), (173, .invokestatic 343, 3), (176, .aload_n 0, 1), (177, .invokevirtual 324, 3), (180, .invokestatic 343, 3), (183, .lreturn, 1)]
def z_X7_checksum : fm_Y := (yX7_checksum, RX7, cX7_checksum, 6, (some .long), k_X7_checksum, 12, 308)
theorem o_X7_checksum : fm_dec z_X7_checksum := (by decide +kernel : ∀ q ∈ k_X7_checksum, decode cX7_checksum q.1 = .ok q.2)
theorem cw_X7_checksum : fm_cwV z_X7_checksum := ⟨⟨lw_in 1472 (by decide +kernel) (by decide +kernel), lw_in 99 (by decide +kernel) (by decide +kernel), by decide, by decide⟩, lw_in 1470 (by decide +kernel) (by decide +kernel), lw_in 1471 (by decide +kernel) (by decide +kernel)⟩
theorem pn_X7_checksum : (parseMethodDescriptor z_X7_checksum.1.desc).map (fun d => d.parameters.length) = some 0 := by decide +kernel
def f_X7_checksum_140 (P : Nat) (k89 : Int64 → Int32 → fm_Mem → Option (Int64 × fm_Mem)) (k97 : Int64 → Int32 → Int32 → fm_Mem → Option (Int64 × fm_Mem)) (k119 : Int64 → Int32 → Int32 → Int32 → fm_Mem → Option (Int64 × fm_Mem)) (x3 : Int32) (x4 : Int32) (x5 : Int32) (s0 : Int32) (s1 : Int32) (s3 : Int64) (M : fm_Mem) : Option (Int64 × fm_Mem) := Option.bind (f_X7_toldOfTriangle P s1 s0 x5 M) (fun v1 => Option.bind (f_X7_joins s3 (Int32.toInt64 v1.1) v1.2) (fun v2 => (k119 v2 x3 x4 (x5 + (1 : Int32)) v1.2)))
set_option maxRecDepth 100000 in
set_option maxHeartbeats 4000000 in
theorem t_X7_checksum_140 (g : fm_G) (l : Launch) (hl : l.stackTraces = false) (P : Nat) (hP : fm_kd g P = 7) (w : fm_W) (M0 : fm_Mem) (k89 : Int64 → Int32 → fm_Mem → Option (Int64 × fm_Mem)) (hk89 : ∀ (x1 : Int64) (x3 : Int32) (M : fm_Mem), Tt g l z_X7_checksum (emJw M0 w) (k89 x1 x3 M) 89 [(0, .ref P), (1, .long x1), (3, .int x3)] [] (M, w)) (k97 : Int64 → Int32 → Int32 → fm_Mem → Option (Int64 × fm_Mem)) (hk97 : ∀ (x1 : Int64) (x3 : Int32) (x4 : Int32) (M : fm_Mem), Tt g l z_X7_checksum (emJw M0 w) (k97 x1 x3 x4 M) 97 [(0, .ref P), (1, .long x1), (3, .int x3), (4, .int x4)] [] (M, w)) (k119 : Int64 → Int32 → Int32 → Int32 → fm_Mem → Option (Int64 × fm_Mem)) (hk119 : ∀ (x1 : Int64) (x3 : Int32) (x4 : Int32) (x5 : Int32) (M : fm_Mem), Tt g l z_X7_checksum (emJw M0 w) (k119 x1 x3 x4 x5 M) 119 [(0, .ref P), (1, .long x1), (3, .int x3), (4, .int x4), (5, .int x5)] [] (M, w)) (x3 : Int32) (x4 : Int32) (x5 : Int32) (s0 : Int32) (s1 : Int32) (s3 : Int64)  (M : fm_Mem) : Tt g l z_X7_checksum (emJw M0 w) (f_X7_checksum_140 P k89 k97 k119 x3 x4 x5 s0 s1 s3 M) 140 [(0, .ref P), (3, .int x3), (4, .int x4), (5, .int x5)] [.int s0, .int s1, .ref P, .long s3] (M, w) := by
  rw [f_X7_checksum_140]
  refine Tt.go (fun _ => Tr.run 1 (pc' := 142) (lv' := [(0, .ref P), (3, .int x3), (4, .int x4), (5, .int x5)]) (st' := [.int x5, .int s0, .int s1, .ref P, .long s3]) rfl) ?_
  refine Tt.callV (As := [.int s1, .int s0, .int x5]) (rest := [.long s3]) (c_X7_toldOfTriangle g l hl P s1 s0 x5 hP M w) hP (by decide) rfl rfl cw_X7_toldOfTriangle fw1343 pn_X7_toldOfTriangle (Nat.le_of_ble_eq_true rfl) (Nat.le_of_ble_eq_true rfl) (Nat.le_of_ble_eq_true rfl) rfl (fun v1 => (?_ : Tt g l z_X7_checksum (emJw M0 w) _ 145 [(0, .ref P), (3, .int x3), (4, .int x4), (5, .int x5)] [.int v1.1, .long s3] (v1.2, w)))
  refine Tt.go (fun _ => Tr.run 1 (pc' := 146) (lv' := [(0, .ref P), (3, .int x3), (4, .int x4), (5, .int x5)]) (st' := [.long (Int32.toInt64 v1.1), .long s3]) rfl) ?_
  refine Tt.callS (As := [.long s3, .long (Int32.toInt64 v1.1)]) (rest := []) (c_X7_joins g l hl s3 (Int32.toInt64 v1.1) v1.2 w) rfl cw_X7_joins fw1473 pn_X7_joins (Nat.le_of_ble_eq_true rfl) (Nat.le_of_ble_eq_true rfl) (Nat.le_of_ble_eq_true rfl) rfl (fun v2 => (?_ : Tt g l z_X7_checksum (emJw M0 w) _ 149 [(0, .ref P), (3, .int x3), (4, .int x4), (5, .int x5)] [.long v2] (v1.2, w)))
  refine Tt.go (fun _ => Tr.run 3 (pc' := 119) (lv' := [(5, .int (x5 + (1 : Int32))), (1, .long v2), (0, .ref P), (3, .int x3), (4, .int x4)]) (st' := []) rfl) ?_
  refine Tt.go (fun _ => Tr.sub (lv' := [(0, .ref P), (1, .long v2), (3, .int x3), (4, .int x4), (5, .int (x5 + (1 : Int32)))]) [2, 1, 3, 4, 0] rfl) ?_
  exact hk119 v2 x3 x4 (x5 + (1 : Int32)) v1.2
def f_X7_checksum_119 (P : Nat) (k89 : Int64 → Int32 → fm_Mem → Option (Int64 × fm_Mem)) (k97 : Int64 → Int32 → Int32 → fm_Mem → Option (Int64 × fm_Mem)) : Nat → Int64 → Int32 → Int32 → Int32 → fm_Mem → Option (Int64 × fm_Mem)
  | 0, _, _, _, _, _ => none
  | n + 1, x1, x3, x4, x5, M => if (7 : Int32) ≤ x5 then (k97 x1 x3 (x4 + (1 : Int32)) M) else (if x3 = (1 : Int32) then (f_X7_checksum_140 P k89 k97 (fun x1 x3 x4 x5 M => f_X7_checksum_119 P k89 k97 n x1 x3 x4 x5 M) x3 x4 x5 (1 : Int32) x4 x1 M) else (f_X7_checksum_140 P k89 k97 (fun x1 x3 x4 x5 M => f_X7_checksum_119 P k89 k97 n x1 x3 x4 x5 M) x3 x4 x5 (0 : Int32) x4 x1 M))
set_option maxRecDepth 100000 in
set_option maxHeartbeats 4000000 in
theorem t_X7_checksum_119 (g : fm_G) (l : Launch) (hl : l.stackTraces = false) (P : Nat) (hP : fm_kd g P = 7) (w : fm_W) (M0 : fm_Mem) (k89 : Int64 → Int32 → fm_Mem → Option (Int64 × fm_Mem)) (hk89 : ∀ (x1 : Int64) (x3 : Int32) (M : fm_Mem), Tt g l z_X7_checksum (emJw M0 w) (k89 x1 x3 M) 89 [(0, .ref P), (1, .long x1), (3, .int x3)] [] (M, w)) (k97 : Int64 → Int32 → Int32 → fm_Mem → Option (Int64 × fm_Mem)) (hk97 : ∀ (x1 : Int64) (x3 : Int32) (x4 : Int32) (M : fm_Mem), Tt g l z_X7_checksum (emJw M0 w) (k97 x1 x3 x4 M) 97 [(0, .ref P), (1, .long x1), (3, .int x3), (4, .int x4)] [] (M, w)) : ∀ (n : Nat) (x1 : Int64) (x3 : Int32) (x4 : Int32) (x5 : Int32)  (M : fm_Mem), Tt g l z_X7_checksum (emJw M0 w) (f_X7_checksum_119 P k89 k97 n x1 x3 x4 x5 M) 119 [(0, .ref P), (1, .long x1), (3, .int x3), (4, .int x4), (5, .int x5)] [] (M, w) := by
  intro n
  induction n with
  | zero => intros; exact Tt.none
  | succ n ih =>
    intro x1 x3 x4 x5  M
    rw [f_X7_checksum_119]
    refine Tt.go (fun _ => Tr.run 2 (pc' := 123) (lv' := [(0, .ref P), (1, .long x1), (3, .int x3), (4, .int x4), (5, .int x5)]) (st' := [.int (7 : Int32), .int x5]) rfl) ?_
    refine Tt.ic_ge (tgt := 156) rfl (by decide) ?_ ?_
    · refine Tt.go (fun _ => Tr.run 2 (pc' := 97) (lv' := [(4, .int (x4 + (1 : Int32))), (0, .ref P), (1, .long x1), (3, .int x3), (5, .int x5)]) (st' := []) rfl) ?_
      refine Tt.go (fun _ => Tr.sub (lv' := [(0, .ref P), (1, .long x1), (3, .int x3), (4, .int (x4 + (1 : Int32)))]) [1, 2, 3, 0] rfl) ?_
      exact hk97 x1 x3 (x4 + (1 : Int32)) M
    · refine Tt.go (fun _ => Tr.run 5 (pc' := 132) (lv' := [(0, .ref P), (1, .long x1), (3, .int x3), (4, .int x4), (5, .int x5)]) (st' := [.int (1 : Int32), .int x3, .int x4, .ref P, .long x1]) rfl) ?_
      refine Tt.ic_ne (tgt := 139) rfl (by decide) ?_ ?_
      · refine Tt.go (fun _ => Tr.run 2 (pc' := 140) (lv' := [(0, .ref P), (1, .long x1), (3, .int x3), (4, .int x4), (5, .int x5)]) (st' := [.int (1 : Int32), .int x4, .ref P, .long x1]) rfl) ?_
        refine Tt.go (fun _ => Tr.sub (lv' := [(0, .ref P), (3, .int x3), (4, .int x4), (5, .int x5)]) [0, 2, 3, 4] rfl) ?_
        exact t_X7_checksum_140 g l hl P hP w M0 k89 hk89 k97 hk97 _ ih x3 x4 x5 (1 : Int32) x4 x1 M
      · refine Tt.go (fun _ => Tr.run 1 (pc' := 140) (lv' := [(0, .ref P), (1, .long x1), (3, .int x3), (4, .int x4), (5, .int x5)]) (st' := [.int (0 : Int32), .int x4, .ref P, .long x1]) rfl) ?_
        refine Tt.go (fun _ => Tr.sub (lv' := [(0, .ref P), (3, .int x3), (4, .int x4), (5, .int x5)]) [0, 2, 3, 4] rfl) ?_
        exact t_X7_checksum_140 g l hl P hP w M0 k89 hk89 k97 hk97 _ ih x3 x4 x5 (0 : Int32) x4 x1 M
def f_X7_checksum_110 (P : Nat) (k89 : Int64 → Int32 → fm_Mem → Option (Int64 × fm_Mem)) (k97 : Int64 → Int32 → Int32 → fm_Mem → Option (Int64 × fm_Mem)) (x1 : Int64) (x3 : Int32) (x4 : Int32) (s0 : Int32) (s2 : Int32) (M : fm_Mem) : Option (Int64 × fm_Mem) := Option.bind (f_X7_many P s0 M) (fun v1 => if v1.1 ≤ s2 then (k89 x1 (x3 + (1 : Int32)) v1.2) else (f_X7_checksum_119 P k89 k97 fm_fuel x1 x3 x4 (0 : Int32) v1.2))
set_option maxRecDepth 100000 in
set_option maxHeartbeats 4000000 in
theorem t_X7_checksum_110 (g : fm_G) (l : Launch) (hl : l.stackTraces = false) (P : Nat) (hP : fm_kd g P = 7) (w : fm_W) (M0 : fm_Mem) (k89 : Int64 → Int32 → fm_Mem → Option (Int64 × fm_Mem)) (hk89 : ∀ (x1 : Int64) (x3 : Int32) (M : fm_Mem), Tt g l z_X7_checksum (emJw M0 w) (k89 x1 x3 M) 89 [(0, .ref P), (1, .long x1), (3, .int x3)] [] (M, w)) (k97 : Int64 → Int32 → Int32 → fm_Mem → Option (Int64 × fm_Mem)) (hk97 : ∀ (x1 : Int64) (x3 : Int32) (x4 : Int32) (M : fm_Mem), Tt g l z_X7_checksum (emJw M0 w) (k97 x1 x3 x4 M) 97 [(0, .ref P), (1, .long x1), (3, .int x3), (4, .int x4)] [] (M, w)) (x1 : Int64) (x3 : Int32) (x4 : Int32) (s0 : Int32) (s2 : Int32)  (M : fm_Mem) : Tt g l z_X7_checksum (emJw M0 w) (f_X7_checksum_110 P k89 k97 x1 x3 x4 s0 s2 M) 110 [(0, .ref P), (1, .long x1), (3, .int x3), (4, .int x4)] [.int s0, .ref P, .int s2] (M, w) := by
  rw [f_X7_checksum_110]
  refine Tt.callV (As := [.int s0]) (rest := [.int s2]) (c_X7_many g l hl P s0 hP M w) hP (by decide) rfl rfl cw_X7_many fw1223 pn_X7_many (Nat.le_of_ble_eq_true rfl) (Nat.le_of_ble_eq_true rfl) (Nat.le_of_ble_eq_true rfl) rfl (fun v1 => (?_ : Tt g l z_X7_checksum (emJw M0 w) _ 113 [(0, .ref P), (1, .long x1), (3, .int x3), (4, .int x4)] [.int v1.1, .int s2] (v1.2, w)))
  refine Tt.ic_ge (tgt := 162) rfl (by decide) ?_ ?_
  · refine Tt.go (fun _ => Tr.run 2 (pc' := 89) (lv' := [(3, .int (x3 + (1 : Int32))), (0, .ref P), (1, .long x1), (4, .int x4)]) (st' := []) rfl) ?_
    refine Tt.go (fun _ => Tr.sub (lv' := [(0, .ref P), (1, .long x1), (3, .int (x3 + (1 : Int32)))]) [1, 2, 0] rfl) ?_
    exact hk89 x1 (x3 + (1 : Int32)) v1.2
  · refine Tt.go (fun _ => Tr.run 2 (pc' := 119) (lv' := [(5, .int (0 : Int32)), (0, .ref P), (1, .long x1), (3, .int x3), (4, .int x4)]) (st' := []) rfl) ?_
    refine Tt.go (fun _ => Tr.sub (lv' := [(0, .ref P), (1, .long x1), (3, .int x3), (4, .int x4), (5, .int (0 : Int32))]) [1, 2, 3, 4, 0] rfl) ?_
    exact t_X7_checksum_119 g l hl P hP w M0 k89 hk89 k97 hk97 fm_fuel x1 x3 x4 (0 : Int32) v1.2
def f_X7_checksum_97 (P : Nat) (k89 : Int64 → Int32 → fm_Mem → Option (Int64 × fm_Mem)) : Nat → Int64 → Int32 → Int32 → fm_Mem → Option (Int64 × fm_Mem)
  | 0, _, _, _, _ => none
  | n + 1, x1, x3, x4, M => if x3 = (1 : Int32) then (f_X7_checksum_110 P k89 (fun x1 x3 x4 M => f_X7_checksum_97 P k89 n x1 x3 x4 M) x1 x3 x4 (1 : Int32) x4 M) else (f_X7_checksum_110 P k89 (fun x1 x3 x4 M => f_X7_checksum_97 P k89 n x1 x3 x4 M) x1 x3 x4 (0 : Int32) x4 M)
set_option maxRecDepth 100000 in
set_option maxHeartbeats 4000000 in
theorem t_X7_checksum_97 (g : fm_G) (l : Launch) (hl : l.stackTraces = false) (P : Nat) (hP : fm_kd g P = 7) (w : fm_W) (M0 : fm_Mem) (k89 : Int64 → Int32 → fm_Mem → Option (Int64 × fm_Mem)) (hk89 : ∀ (x1 : Int64) (x3 : Int32) (M : fm_Mem), Tt g l z_X7_checksum (emJw M0 w) (k89 x1 x3 M) 89 [(0, .ref P), (1, .long x1), (3, .int x3)] [] (M, w)) : ∀ (n : Nat) (x1 : Int64) (x3 : Int32) (x4 : Int32)  (M : fm_Mem), Tt g l z_X7_checksum (emJw M0 w) (f_X7_checksum_97 P k89 n x1 x3 x4 M) 97 [(0, .ref P), (1, .long x1), (3, .int x3), (4, .int x4)] [] (M, w) := by
  intro n
  induction n with
  | zero => intros; exact Tt.none
  | succ n ih =>
    intro x1 x3 x4  M
    rw [f_X7_checksum_97]
    refine Tt.go (fun _ => Tr.run 4 (pc' := 102) (lv' := [(0, .ref P), (1, .long x1), (3, .int x3), (4, .int x4)]) (st' := [.int (1 : Int32), .int x3, .ref P, .int x4]) rfl) ?_
    refine Tt.ic_ne (tgt := 109) rfl (by decide) ?_ ?_
    · refine Tt.go (fun _ => Tr.run 2 (pc' := 110) (lv' := [(0, .ref P), (1, .long x1), (3, .int x3), (4, .int x4)]) (st' := [.int (1 : Int32), .ref P, .int x4]) rfl) ?_
      exact t_X7_checksum_110 g l hl P hP w M0 k89 hk89 _ ih x1 x3 x4 (1 : Int32) x4 M
    · refine Tt.go (fun _ => Tr.run 1 (pc' := 110) (lv' := [(0, .ref P), (1, .long x1), (3, .int x3), (4, .int x4)]) (st' := [.int (0 : Int32), .ref P, .int x4]) rfl) ?_
      exact t_X7_checksum_110 g l hl P hP w M0 k89 hk89 _ ih x1 x3 x4 (0 : Int32) x4 M
def f_X7_checksum_89 (P : Nat) : Nat → Int64 → Int32 → fm_Mem → Option (Int64 × fm_Mem)
  | 0, _, _, _ => none
  | n + 1, x1, x3, M => if (2 : Int32) ≤ x3 then (Option.bind (f_X7_liftOf P M) (fun v1 => Option.bind (f_X7_joins x1 v1 M) (fun v2 => Option.bind (f_X7_treeOf P M) (fun v3 => Option.bind (f_X7_joins v2 v3 M) (fun v4 => some ((v4, M))))))) else (f_X7_checksum_97 P (fun x1 x3 M => f_X7_checksum_89 P n x1 x3 M) fm_fuel x1 x3 (0 : Int32) M)
set_option maxRecDepth 100000 in
set_option maxHeartbeats 4000000 in
theorem t_X7_checksum_89 (g : fm_G) (l : Launch) (hl : l.stackTraces = false) (P : Nat) (hP : fm_kd g P = 7) (w : fm_W) (M0 : fm_Mem)  : ∀ (n : Nat) (x1 : Int64) (x3 : Int32)  (M : fm_Mem), Tt g l z_X7_checksum (emJw M0 w) (f_X7_checksum_89 P  n x1 x3 M) 89 [(0, .ref P), (1, .long x1), (3, .int x3)] [] (M, w) := by
  intro n
  induction n with
  | zero => intros; exact Tt.none
  | succ n ih =>
    intro x1 x3  M
    rw [f_X7_checksum_89]
    refine Tt.go (fun _ => Tr.run 2 (pc' := 91) (lv' := [(0, .ref P), (1, .long x1), (3, .int x3)]) (st' := [.int (2 : Int32), .int x3]) rfl) ?_
    refine Tt.ic_ge (tgt := 168) rfl (by decide) ?_ ?_
    · refine Tt.go (fun _ => Tr.run 2 (pc' := 170) (lv' := [(0, .ref P), (1, .long x1), (3, .int x3)]) (st' := [.ref P, .long x1]) rfl) ?_
      refine Tt.callV (As := []) (rest := [.long x1]) (c_X7_liftOf g l hl P hP M w) hP (by decide) rfl rfl cw_X7_liftOf fw1398 pn_X7_liftOf (Nat.le_of_ble_eq_true rfl) (Nat.le_of_ble_eq_true rfl) (Nat.le_of_ble_eq_true rfl) rfl (fun v1 => (?_ : Tt g l z_X7_checksum (emJw M0 w) _ 173 [(0, .ref P), (1, .long x1), (3, .int x3)] [.long v1, .long x1] (M, w)))
      refine Tt.callS (As := [.long x1, .long v1]) (rest := []) (c_X7_joins g l hl x1 v1 M w) rfl cw_X7_joins fw1473 pn_X7_joins (Nat.le_of_ble_eq_true rfl) (Nat.le_of_ble_eq_true rfl) (Nat.le_of_ble_eq_true rfl) rfl (fun v2 => (?_ : Tt g l z_X7_checksum (emJw M0 w) _ 176 [(0, .ref P), (1, .long x1), (3, .int x3)] [.long v2] (M, w)))
      refine Tt.go (fun _ => Tr.run 1 (pc' := 177) (lv' := [(0, .ref P), (1, .long x1), (3, .int x3)]) (st' := [.ref P, .long v2]) rfl) ?_
      refine Tt.callV (As := []) (rest := [.long v2]) (c_X7_treeOf g l hl P hP M w) hP (by decide) rfl rfl cw_X7_treeOf fw1410 pn_X7_treeOf (Nat.le_of_ble_eq_true rfl) (Nat.le_of_ble_eq_true rfl) (Nat.le_of_ble_eq_true rfl) rfl (fun v3 => (?_ : Tt g l z_X7_checksum (emJw M0 w) _ 180 [(0, .ref P), (1, .long x1), (3, .int x3)] [.long v3, .long v2] (M, w)))
      refine Tt.callS (As := [.long v2, .long v3]) (rest := []) (c_X7_joins g l hl v2 v3 M w) rfl cw_X7_joins fw1473 pn_X7_joins (Nat.le_of_ble_eq_true rfl) (Nat.le_of_ble_eq_true rfl) (Nat.le_of_ble_eq_true rfl) rfl (fun v4 => (?_ : Tt g l z_X7_checksum (emJw M0 w) _ 183 [(0, .ref P), (1, .long x1), (3, .int x3)] [.long v4] (M, w)))
      exact Tt.ret (Tr.lret rfl rfl)
    · refine Tt.go (fun _ => Tr.run 2 (pc' := 97) (lv' := [(4, .int (0 : Int32)), (0, .ref P), (1, .long x1), (3, .int x3)]) (st' := []) rfl) ?_
      refine Tt.go (fun _ => Tr.sub (lv' := [(0, .ref P), (1, .long x1), (3, .int x3), (4, .int (0 : Int32))]) [1, 2, 3, 0] rfl) ?_
      exact t_X7_checksum_97 g l hl P hP w M0 _ ih fm_fuel x1 x3 (0 : Int32) M
def f_X7_checksum_55 (P : Nat) (k44 : Int64 → Int32 → fm_Mem → Option (Int64 × fm_Mem)) : Nat → Int64 → Int32 → Int32 → fm_Mem → Option (Int64 × fm_Mem)
  | 0, _, _, _, _ => none
  | n + 1, x1, x3, x4, M => if (7 : Int32) ≤ x4 then (k44 x1 (x3 + (1 : Int32)) M) else (Option.bind (f_X7_toldOfPoint P x3 x4 M) (fun v1 => Option.bind (f_X7_joins x1 (Int32.toInt64 v1.1) v1.2) (fun v2 => (f_X7_checksum_55 P k44 n v2 x3 (x4 + (1 : Int32)) v1.2))))
set_option maxRecDepth 100000 in
set_option maxHeartbeats 4000000 in
theorem t_X7_checksum_55 (g : fm_G) (l : Launch) (hl : l.stackTraces = false) (P : Nat) (hP : fm_kd g P = 7) (w : fm_W) (M0 : fm_Mem) (k44 : Int64 → Int32 → fm_Mem → Option (Int64 × fm_Mem)) (hk44 : ∀ (x1 : Int64) (x3 : Int32) (M : fm_Mem), Tt g l z_X7_checksum (emJw M0 w) (k44 x1 x3 M) 44 [(0, .ref P), (1, .long x1), (3, .int x3)] [] (M, w)) : ∀ (n : Nat) (x1 : Int64) (x3 : Int32) (x4 : Int32)  (M : fm_Mem), Tt g l z_X7_checksum (emJw M0 w) (f_X7_checksum_55 P k44 n x1 x3 x4 M) 55 [(0, .ref P), (1, .long x1), (3, .int x3), (4, .int x4)] [] (M, w) := by
  intro n
  induction n with
  | zero => intros; exact Tt.none
  | succ n ih =>
    intro x1 x3 x4  M
    rw [f_X7_checksum_55]
    refine Tt.go (fun _ => Tr.run 2 (pc' := 59) (lv' := [(0, .ref P), (1, .long x1), (3, .int x3), (4, .int x4)]) (st' := [.int (7 : Int32), .int x4]) rfl) ?_
    refine Tt.ic_ge (tgt := 81) rfl (by decide) ?_ ?_
    · refine Tt.go (fun _ => Tr.run 2 (pc' := 44) (lv' := [(3, .int (x3 + (1 : Int32))), (0, .ref P), (1, .long x1), (4, .int x4)]) (st' := []) rfl) ?_
      refine Tt.go (fun _ => Tr.sub (lv' := [(0, .ref P), (1, .long x1), (3, .int (x3 + (1 : Int32)))]) [1, 2, 0] rfl) ?_
      exact hk44 x1 (x3 + (1 : Int32)) M
    · refine Tt.go (fun _ => Tr.run 4 (pc' := 67) (lv' := [(0, .ref P), (1, .long x1), (3, .int x3), (4, .int x4)]) (st' := [.int x4, .int x3, .ref P, .long x1]) rfl) ?_
      refine Tt.callV (As := [.int x3, .int x4]) (rest := [.long x1]) (c_X7_toldOfPoint g l hl P x3 x4 hP M w) hP (by decide) rfl rfl cw_X7_toldOfPoint fw1319 pn_X7_toldOfPoint (Nat.le_of_ble_eq_true rfl) (Nat.le_of_ble_eq_true rfl) (Nat.le_of_ble_eq_true rfl) rfl (fun v1 => (?_ : Tt g l z_X7_checksum (emJw M0 w) _ 70 [(0, .ref P), (1, .long x1), (3, .int x3), (4, .int x4)] [.int v1.1, .long x1] (v1.2, w)))
      refine Tt.go (fun _ => Tr.run 1 (pc' := 71) (lv' := [(0, .ref P), (1, .long x1), (3, .int x3), (4, .int x4)]) (st' := [.long (Int32.toInt64 v1.1), .long x1]) rfl) ?_
      refine Tt.callS (As := [.long x1, .long (Int32.toInt64 v1.1)]) (rest := []) (c_X7_joins g l hl x1 (Int32.toInt64 v1.1) v1.2 w) rfl cw_X7_joins fw1473 pn_X7_joins (Nat.le_of_ble_eq_true rfl) (Nat.le_of_ble_eq_true rfl) (Nat.le_of_ble_eq_true rfl) rfl (fun v2 => (?_ : Tt g l z_X7_checksum (emJw M0 w) _ 74 [(0, .ref P), (1, .long x1), (3, .int x3), (4, .int x4)] [.long v2] (v1.2, w)))
      refine Tt.go (fun _ => Tr.run 3 (pc' := 55) (lv' := [(4, .int (x4 + (1 : Int32))), (1, .long v2), (0, .ref P), (3, .int x3)]) (st' := []) rfl) ?_
      refine Tt.go (fun _ => Tr.sub (lv' := [(0, .ref P), (1, .long v2), (3, .int x3), (4, .int (x4 + (1 : Int32)))]) [2, 1, 3, 0] rfl) ?_
      exact ih v2 x3 (x4 + (1 : Int32)) v1.2
def f_X7_checksum_44 (P : Nat) : Nat → Int64 → Int32 → fm_Mem → Option (Int64 × fm_Mem)
  | 0, _, _, _ => none
  | n + 1, x1, x3, M => Option.bind (f_X7_points P M) (fun v1 => if v1 ≤ x3 then (f_X7_checksum_89 P fm_fuel x1 (0 : Int32) M) else (f_X7_checksum_55 P (fun x1 x3 M => f_X7_checksum_44 P n x1 x3 M) fm_fuel x1 x3 (0 : Int32) M))
set_option maxRecDepth 100000 in
set_option maxHeartbeats 4000000 in
theorem t_X7_checksum_44 (g : fm_G) (l : Launch) (hl : l.stackTraces = false) (P : Nat) (hP : fm_kd g P = 7) (w : fm_W) (M0 : fm_Mem)  : ∀ (n : Nat) (x1 : Int64) (x3 : Int32)  (M : fm_Mem), Tt g l z_X7_checksum (emJw M0 w) (f_X7_checksum_44 P  n x1 x3 M) 44 [(0, .ref P), (1, .long x1), (3, .int x3)] [] (M, w) := by
  intro n
  induction n with
  | zero => intros; exact Tt.none
  | succ n ih =>
    intro x1 x3  M
    rw [f_X7_checksum_44]
    refine Tt.go (fun _ => Tr.run 2 (pc' := 46) (lv' := [(0, .ref P), (1, .long x1), (3, .int x3)]) (st' := [.ref P, .int x3]) rfl) ?_
    refine Tt.callV (As := []) (rest := [.int x3]) (c_X7_points g l hl P hP M w) hP (by decide) rfl rfl cw_X7_points fw1156 pn_X7_points (Nat.le_of_ble_eq_true rfl) (Nat.le_of_ble_eq_true rfl) (Nat.le_of_ble_eq_true rfl) rfl (fun v1 => (?_ : Tt g l z_X7_checksum (emJw M0 w) _ 49 [(0, .ref P), (1, .long x1), (3, .int x3)] [.int v1, .int x3] (M, w)))
    refine Tt.ic_ge (tgt := 87) rfl (by decide) ?_ ?_
    · refine Tt.go (fun _ => Tr.run 2 (pc' := 89) (lv' := [(3, .int (0 : Int32)), (0, .ref P), (1, .long x1)]) (st' := []) rfl) ?_
      refine Tt.go (fun _ => Tr.sub (lv' := [(0, .ref P), (1, .long x1), (3, .int (0 : Int32))]) [1, 2, 0] rfl) ?_
      exact t_X7_checksum_89 g l hl P hP w M0 fm_fuel x1 (0 : Int32) M
    · refine Tt.go (fun _ => Tr.run 2 (pc' := 55) (lv' := [(4, .int (0 : Int32)), (0, .ref P), (1, .long x1), (3, .int x3)]) (st' := []) rfl) ?_
      refine Tt.go (fun _ => Tr.sub (lv' := [(0, .ref P), (1, .long x1), (3, .int x3), (4, .int (0 : Int32))]) [1, 2, 3, 0] rfl) ?_
      exact t_X7_checksum_55 g l hl P hP w M0 _ ih fm_fuel x1 x3 (0 : Int32) M
def f_X7_checksum_35 (P : Nat) (k9 : Int64 → Int32 → fm_Mem → Option (Int64 × fm_Mem)) (x3 : Int32) (s0 : Int64) (M : fm_Mem) : Option (Int64 × fm_Mem) := (k9 s0 (x3 + (1 : Int32)) M)
set_option maxRecDepth 100000 in
set_option maxHeartbeats 4000000 in
theorem t_X7_checksum_35 (g : fm_G) (l : Launch) (hl : l.stackTraces = false) (P : Nat) (hP : fm_kd g P = 7) (w : fm_W) (M0 : fm_Mem) (k9 : Int64 → Int32 → fm_Mem → Option (Int64 × fm_Mem)) (hk9 : ∀ (x1 : Int64) (x3 : Int32) (M : fm_Mem), Tt g l z_X7_checksum (emJw M0 w) (k9 x1 x3 M) 9 [(0, .ref P), (1, .long x1), (3, .int x3)] [] (M, w)) (x3 : Int32) (s0 : Int64)  (M : fm_Mem) : Tt g l z_X7_checksum (emJw M0 w) (f_X7_checksum_35 P k9 x3 s0 M) 35 [(0, .ref P), (3, .int x3)] [.long s0] (M, w) := by
  rw [f_X7_checksum_35]
  refine Tt.go (fun _ => Tr.run 3 (pc' := 9) (lv' := [(3, .int (x3 + (1 : Int32))), (1, .long s0), (0, .ref P)]) (st' := []) rfl) ?_
  refine Tt.go (fun _ => Tr.sub (lv' := [(0, .ref P), (1, .long s0), (3, .int (x3 + (1 : Int32)))]) [2, 1, 0] rfl) ?_
  exact hk9 s0 (x3 + (1 : Int32)) M
def f_X7_checksum_9 (P : Nat) : Nat → Int64 → Int32 → fm_Mem → Option (Int64 × fm_Mem)
  | 0, _, _, _ => none
  | n + 1, x1, x3, M => if (12 : Int32) ≤ x3 then (f_X7_checksum_44 P fm_fuel x1 (0 : Int32) M) else (if x3 = (9 : Int32) then (f_X7_checksum_35 P (fun x1 x3 M => f_X7_checksum_9 P n x1 x3 M) x3 x1 M) else (Option.bind (f_X7_toldOf P x3 M) (fun v1 => Option.bind (f_X7_joins x1 (Int32.toInt64 v1.1) v1.2) (fun v2 => (f_X7_checksum_35 P (fun x1 x3 M => f_X7_checksum_9 P n x1 x3 M) x3 v2 v1.2)))))
set_option maxRecDepth 100000 in
set_option maxHeartbeats 4000000 in
theorem t_X7_checksum_9 (g : fm_G) (l : Launch) (hl : l.stackTraces = false) (P : Nat) (hP : fm_kd g P = 7) (w : fm_W) (M0 : fm_Mem)  : ∀ (n : Nat) (x1 : Int64) (x3 : Int32)  (M : fm_Mem), Tt g l z_X7_checksum (emJw M0 w) (f_X7_checksum_9 P  n x1 x3 M) 9 [(0, .ref P), (1, .long x1), (3, .int x3)] [] (M, w) := by
  intro n
  induction n with
  | zero => intros; exact Tt.none
  | succ n ih =>
    intro x1 x3  M
    rw [f_X7_checksum_9]
    refine Tt.go (fun _ => Tr.run 2 (pc' := 12) (lv' := [(0, .ref P), (1, .long x1), (3, .int x3)]) (st' := [.int (12 : Int32), .int x3]) rfl) ?_
    refine Tt.ic_ge (tgt := 42) rfl (by decide) ?_ ?_
    · refine Tt.go (fun _ => Tr.run 2 (pc' := 44) (lv' := [(3, .int (0 : Int32)), (0, .ref P), (1, .long x1)]) (st' := []) rfl) ?_
      refine Tt.go (fun _ => Tr.sub (lv' := [(0, .ref P), (1, .long x1), (3, .int (0 : Int32))]) [1, 2, 0] rfl) ?_
      exact t_X7_checksum_44 g l hl P hP w M0 fm_fuel x1 (0 : Int32) M
    · refine Tt.go (fun _ => Tr.run 2 (pc' := 18) (lv' := [(0, .ref P), (1, .long x1), (3, .int x3)]) (st' := [.int (9 : Int32), .int x3]) rfl) ?_
      refine Tt.ic_ne (tgt := 25) rfl (by decide) ?_ ?_
      · refine Tt.go (fun _ => Tr.run 2 (pc' := 35) (lv' := [(0, .ref P), (1, .long x1), (3, .int x3)]) (st' := [.long x1]) rfl) ?_
        refine Tt.go (fun _ => Tr.sub (lv' := [(0, .ref P), (3, .int x3)]) [0, 2] rfl) ?_
        exact t_X7_checksum_35 g l hl P hP w M0 _ ih x3 x1 M
      · refine Tt.go (fun _ => Tr.run 3 (pc' := 28) (lv' := [(0, .ref P), (1, .long x1), (3, .int x3)]) (st' := [.int x3, .ref P, .long x1]) rfl) ?_
        refine Tt.callV (As := [.int x3]) (rest := [.long x1]) (c_X7_toldOf g l hl P x3 hP M w) hP (by decide) rfl rfl cw_X7_toldOf fw1273 pn_X7_toldOf (Nat.le_of_ble_eq_true rfl) (Nat.le_of_ble_eq_true rfl) (Nat.le_of_ble_eq_true rfl) rfl (fun v1 => (?_ : Tt g l z_X7_checksum (emJw M0 w) _ 31 [(0, .ref P), (1, .long x1), (3, .int x3)] [.int v1.1, .long x1] (v1.2, w)))
        refine Tt.go (fun _ => Tr.run 1 (pc' := 32) (lv' := [(0, .ref P), (1, .long x1), (3, .int x3)]) (st' := [.long (Int32.toInt64 v1.1), .long x1]) rfl) ?_
        refine Tt.callS (As := [.long x1, .long (Int32.toInt64 v1.1)]) (rest := []) (c_X7_joins g l hl x1 (Int32.toInt64 v1.1) v1.2 w) rfl cw_X7_joins fw1473 pn_X7_joins (Nat.le_of_ble_eq_true rfl) (Nat.le_of_ble_eq_true rfl) (Nat.le_of_ble_eq_true rfl) rfl (fun v2 => (?_ : Tt g l z_X7_checksum (emJw M0 w) _ 35 [(0, .ref P), (1, .long x1), (3, .int x3)] [.long v2] (v1.2, w)))
        refine Tt.go (fun _ => Tr.sub (lv' := [(0, .ref P), (3, .int x3)]) [0, 2] rfl) ?_
        exact t_X7_checksum_35 g l hl P hP w M0 _ ih x3 v2 v1.2
def f_X7_checksum (P : Nat) (M : fm_Mem) : Option (Int64 × fm_Mem) := (f_X7_checksum_9 P fm_fuel (0 : Int64) (0 : Int32) (fm_up M P 0 (0 : Int32)))
set_option maxRecDepth 100000 in
set_option maxHeartbeats 4000000 in
theorem t_X7_checksum (g : fm_G) (l : Launch) (hl : l.stackTraces = false) (P : Nat) (hP : fm_kd g P = 7) (M : fm_Mem) (w : fm_W) : Tt g l z_X7_checksum (emJw M w) (f_X7_checksum P M) 0 [(0, .ref P)] [] (M, w) := by
  rw [f_X7_checksum]
  refine Tt.go (fun _ => Tr.run 2 (pc' := 2) (lv' := [(0, .ref P)]) (st' := [.int (0 : Int32), .ref P]) rfl) ?_
  refine Tt.go (fun _ => Tr.put fmc7 hP rfl fw1024 (k := 0) (by decide) rfl rfl ⟨rfl, rfl⟩) (?_ : Tt g l z_X7_checksum (emJw M w) _ 5 [(0, .ref P)] [] ((fm_up M P 0 (0 : Int32)), w))
  refine Tt.go (fun _ => Tr.run 4 (pc' := 9) (lv' := [(3, .int (0 : Int32)), (1, .long (0 : Int64)), (0, .ref P)]) (st' := []) rfl) ?_
  refine Tt.go (fun _ => Tr.sub (lv' := [(0, .ref P), (1, .long (0 : Int64)), (3, .int (0 : Int32))]) [2, 1, 0] rfl) ?_
  exact t_X7_checksum_9 g l hl P hP w M fm_fuel (0 : Int64) (0 : Int32) (fm_up M P 0 (0 : Int32))
theorem c_X7_checksum (g : fm_G) (l : Launch) (hl : l.stackTraces = false) (P : Nat) (hP : fm_kd g P = 7) (M : fm_Mem) (w : fm_W) : ∀ r, f_X7_checksum P M = some r → fC g l z_X7_checksum [.ref P] (M, w) (emJw M w r) := fun r hr => fC.of (by decide) rfl o_X7_checksum hl (Nat.le_of_ble_eq_true rfl) (t_X7_checksum g l hl P hP M w r hr)
