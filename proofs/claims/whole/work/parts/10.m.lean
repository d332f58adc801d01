theorem fw94 : Cond.initialized "java/lang/Math" ∈ lw_all := lw_in 94 (by decide +kernel) (by decide +kernel)
theorem fw108 : Cond.initialized "java/lang/System" ∈ lw_all := lw_in 108 (by decide +kernel) (by decide +kernel)
theorem fw135 : Cond.methodLink "CircleFlips$Row" 7 ⟨"java/lang/Math", "max", "(II)I"⟩ ∈ lw_all := lw_in 135 (by decide +kernel) (by decide +kernel)
theorem fw136 : Cond.static ⟨"java/lang/Math", "max", "(II)I"⟩ ∈ lw_all := lw_in 136 (by decide +kernel) (by decide +kernel)
theorem fw137 : Cond.code ⟨"java/lang/Math", "max", "(II)I"⟩ prog_19_method_65_code 2 (some .int) ∈ lw_all := lw_in 137 (by decide +kernel) (by decide +kernel)
theorem fw138 : Cond.fieldLink "CircleFlips$Row" 13 "CircleFlips$Row" "numbers" "[I" ∈ lw_all := lw_in 138 (by decide +kernel) (by decide +kernel)
theorem fw157 : Cond.fieldLink "CircleFlips$Points" 14 "CircleFlips$Points" "xs" "LCircleFlips$Row;" ∈ lw_all := lw_in 157 (by decide +kernel) (by decide +kernel)
theorem fw158 : Cond.fieldLink "CircleFlips$Points" 20 "CircleFlips$Points" "ys" "LCircleFlips$Row;" ∈ lw_all := lw_in 158 (by decide +kernel) (by decide +kernel)
theorem fw159 : Cond.fieldLink "CircleFlips$Points" 23 "CircleFlips$Points" "count" "I" ∈ lw_all := lw_in 159 (by decide +kernel) (by decide +kernel)
theorem fw337 : Cond.methodLink "CircleFlips$Points" 27 ⟨"CircleFlips$Row", "get", "(I)I"⟩ ∈ lw_all := lw_in 337 (by decide +kernel) (by decide +kernel)
theorem fw342 : Cond.methodLink "CircleFlips$Points" 51 ⟨"CircleFlips$Points", "cross", "(IIII)I"⟩ ∈ lw_all := lw_in 342 (by decide +kernel) (by decide +kernel)
theorem fw409 : Cond.methodLink "CircleFlips$Row" 19 ⟨"java/lang/Math", "min", "(II)I"⟩ ∈ lw_all := lw_in 409 (by decide +kernel) (by decide +kernel)
theorem fw410 : Cond.static ⟨"java/lang/Math", "min", "(II)I"⟩ ∈ lw_all := lw_in 410 (by decide +kernel) (by decide +kernel)
theorem fw411 : Cond.code ⟨"java/lang/Math", "min", "(II)I"⟩ prog_19_method_69_code 2 (some .int) ∈ lw_all := lw_in 411 (by decide +kernel) (by decide +kernel)
theorem fw412 : Cond.methodLink "CircleFlips$Row" 22 ⟨"java/lang/System", "arraycopy", "(Ljava/lang/Object;ILjava/lang/Object;II)V"⟩ ∈ lw_all := lw_in 412 (by decide +kernel) (by decide +kernel)
theorem fw413 : Cond.static ⟨"java/lang/System", "arraycopy", "(Ljava/lang/Object;ILjava/lang/Object;II)V"⟩ ∈ lw_all := lw_in 413 (by decide +kernel) (by decide +kernel)
theorem fw414 : Cond.native ⟨"java/lang/System", "arraycopy", "(Ljava/lang/Object;ILjava/lang/Object;II)V"⟩ ∈ lw_all := lw_in 414 (by decide +kernel) (by decide +kernel)
theorem fw793 : Cond.methodLink "CircleFlips$Row" 28 ⟨"CircleFlips$Row", "get", "(I)I"⟩ ∈ lw_all := lw_in 793 (by decide +kernel) (by decide +kernel)
theorem fw794 : Cond.methodLink "CircleFlips$Row" 32 ⟨"CircleFlips$Row", "set", "(II)V"⟩ ∈ lw_all := lw_in 794 (by decide +kernel) (by decide +kernel)
def k_X4_get : List (Nat × Instr × Nat) := [(0, .iload_n 1, 1), (1, .ifCond .lt 21, 3), (4, .iload_n 1, 1), (5, .aload_n 0, 1), (6, .getfield 13, 3), (9, .arraylength, 1), (10, .if_icmp .ge 12, 3), (13, .aload_n 0, 1), (14, .getfield 13, 3), (17, .iload_n 1, 1), (18, .iaload, 1), (19, .goto 4, 3), (22, .iconst 0, 1), (23, .ireturn, 1)]
def z_X4_get : fm_Y := (yX4_get, RX4, cX4_get, 2, (some .int), k_X4_get, 0, 0)
theorem o_X4_get : fm_dec z_X4_get := (by decide +kernel : ∀ q ∈ k_X4_get, decode cX4_get q.1 = .ok q.2)
theorem cw_X4_get : fm_cwV z_X4_get := ⟨⟨lw_in 324 (by decide +kernel) (by decide +kernel), lw_in 93 (by decide +kernel) (by decide +kernel), by decide, by decide⟩, lw_in 322 (by decide +kernel) (by decide +kernel), lw_in 323 (by decide +kernel) (by decide +kernel)⟩
theorem pn_X4_get : (parseMethodDescriptor z_X4_get.1.desc).map (fun d => d.parameters.length) = some 1 := by decide +kernel
def f_X4_get_23 (P : Nat) (nP : Nat) (a1 : Int32) (s0 : Int32) (M : fm_Mem) : Option (Int32) := some (s0)
theorem t_X4_get_23 (g : fm_G) (l : Launch) (hl : l.stackTraces = false) (P : Nat) (nP : Nat) (a1 : Int32) (hP : fm_kd g P = 4) (hP1 : fm_kd g (P + 1) = 100 + nP) (hP9 : nP < 9000) (w : fm_W)  (s0 : Int32)  (M : fm_Mem) : Tt g l z_X4_get (emI M w) (f_X4_get_23 P nP a1  s0 M) 23 [] [.int s0] (M, w) := by
  rw [f_X4_get_23]
  exact Tt.ret (Tr.iret rfl rfl)
def f_X4_get_22 (P : Nat) (nP : Nat) (a1 : Int32)  (M : fm_Mem) : Option (Int32) := (f_X4_get_23 P nP a1 (0 : Int32) M)
theorem t_X4_get_22 (g : fm_G) (l : Launch) (hl : l.stackTraces = false) (P : Nat) (nP : Nat) (a1 : Int32) (hP : fm_kd g P = 4) (hP1 : fm_kd g (P + 1) = 100 + nP) (hP9 : nP < 9000) (w : fm_W)    (M : fm_Mem) : Tt g l z_X4_get (emI M w) (f_X4_get_22 P nP a1   M) 22 [] [] (M, w) := by
  rw [f_X4_get_22]
  refine Tt.go (fun _ => Tr.run 1 (pc' := 23) (lv' := []) (st' := [.int (0 : Int32)]) rfl) ?_
  exact t_X4_get_23 g l hl P nP a1 hP hP1 hP9 w (0 : Int32) M
def f_X4_get (P : Nat) (nP : Nat) (a1 : Int32) (M : fm_Mem) : Option (Int32) := if a1 < 0 then (f_X4_get_22 P nP a1 M) else (if (Int32.ofNat nP) ≤ a1 then (f_X4_get_22 P nP a1 M) else (fm_ck (fm_in a1 nP) (f_X4_get_23 P nP a1 (M (P + 1) (Int32.toNatClampNeg a1)) M)))
theorem t_X4_get (g : fm_G) (l : Launch) (hl : l.stackTraces = false) (P : Nat) (nP : Nat) (a1 : Int32) (hP : fm_kd g P = 4) (hP1 : fm_kd g (P + 1) = 100 + nP) (hP9 : nP < 9000) (M : fm_Mem) (w : fm_W) : Tt g l z_X4_get (emI M w) (f_X4_get P nP a1 M) 0 [(0, .ref P), (1, .int a1)] [] (M, w) := by
  rw [f_X4_get]
  refine Tt.go (fun _ => Tr.run 1 (pc' := 1) (lv' := [(0, .ref P), (1, .int a1)]) (st' := [.int a1]) rfl) ?_
  refine Tt.if_lt (tgt := 22) rfl (by decide) ?_ ?_
  · refine Tt.go (fun _ => Tr.sub (lv' := []) [] rfl) ?_
    exact t_X4_get_22 g l hl P nP a1 hP hP1 hP9 w M
  · refine Tt.go (fun _ => Tr.run 2 (pc' := 6) (lv' := [(0, .ref P), (1, .int a1)]) (st' := [.ref P, .int a1]) rfl) ?_
    refine Tt.go (fun _ => Tr.get fmc4 hP rfl fw138 (k := 0) (by decide) rfl) (?_ : Tt g l z_X4_get (emI M w) _ 9 [(0, .ref P), (1, .int a1)] [.ref (P + 1), .int a1] (M, w))
    refine Tt.go (fun _ => Tr.alen hP1 hP9 rfl) (?_ : Tt g l z_X4_get (emI M w) _ 10 [(0, .ref P), (1, .int a1)] [.int (Int32.ofNat nP), .int a1] (M, w))
    refine Tt.ic_ge (tgt := 22) rfl (by decide) ?_ ?_
    · refine Tt.go (fun _ => Tr.sub (lv' := []) [] rfl) ?_
      exact t_X4_get_22 g l hl P nP a1 hP hP1 hP9 w M
    · refine Tt.go (fun _ => Tr.run 1 (pc' := 14) (lv' := [(0, .ref P), (1, .int a1)]) (st' := [.ref P]) rfl) ?_
      refine Tt.go (fun _ => Tr.get fmc4 hP rfl fw138 (k := 0) (by decide) rfl) (?_ : Tt g l z_X4_get (emI M w) _ 17 [(0, .ref P), (1, .int a1)] [.ref (P + 1)] (M, w))
      refine Tt.go (fun _ => Tr.run 1 (pc' := 18) (lv' := [(0, .ref P), (1, .int a1)]) (st' := [.int a1, .ref (P + 1)]) rfl) ?_
      refine Tt.ck (fun hi1 => ?_)
      refine Tt.go (fun _ => Tr.iald hP1 hP9 hi1 rfl) (?_ : Tt g l z_X4_get (emI M w) _ 19 [(0, .ref P), (1, .int a1)] [.int (M (P + 1) (Int32.toNatClampNeg a1))] (M, w))
      refine Tt.go (fun _ => Tr.run 1 (pc' := 23) (lv' := [(0, .ref P), (1, .int a1)]) (st' := [.int (M (P + 1) (Int32.toNatClampNeg a1))]) rfl) ?_
      refine Tt.go (fun _ => Tr.sub (lv' := []) [] rfl) ?_
      exact t_X4_get_23 g l hl P nP a1 hP hP1 hP9 w (M (P + 1) (Int32.toNatClampNeg a1)) M
theorem c_X4_get (g : fm_G) (l : Launch) (hl : l.stackTraces = false) (P : Nat) (nP : Nat) (a1 : Int32) (hP : fm_kd g P = 4) (hP1 : fm_kd g (P + 1) = 100 + nP) (hP9 : nP < 9000) (M : fm_Mem) (w : fm_W) : ∀ r, f_X4_get P nP a1 M = some r → fC g l z_X4_get [.ref P, .int a1] (M, w) (emI M w r) := fun r hr => fC.of (by decide) rfl o_X4_get hl (Nat.le_of_ble_eq_true rfl) (t_X4_get g l hl P nP a1 hP hP1 hP9 M w r hr)
def k_X3_x : List (Nat × Instr × Nat) := [(0, .aload_n 0, 1), (1, .getfield 14, 3), (4, .iload_n 1, 1), (5, .invokevirtual 27, 3), (8, .ireturn, 1)]
def z_X3_x : fm_Y := (yX3_x, RX3, cX3_x, 2, (some .int), k_X3_x, 1, 21)
theorem o_X3_x : fm_dec z_X3_x := (by decide +kernel : ∀ q ∈ k_X3_x, decode cX3_x q.1 = .ok q.2)
theorem cw_X3_x : fm_cwV z_X3_x := ⟨⟨lw_in 438 (by decide +kernel) (by decide +kernel), lw_in 96 (by decide +kernel) (by decide +kernel), by decide, by decide⟩, lw_in 436 (by decide +kernel) (by decide +kernel), lw_in 437 (by decide +kernel) (by decide +kernel)⟩
theorem pn_X3_x : (parseMethodDescriptor z_X3_x.1.desc).map (fun d => d.parameters.length) = some 1 := by decide +kernel
def f_X3_x (P : Nat) (a1 : Int32) (M : fm_Mem) : Option (Int32) := Option.bind (f_X4_get (P + 1) 20 a1 M) (fun v1 => some (v1))
theorem t_X3_x (g : fm_G) (l : Launch) (hl : l.stackTraces = false) (P : Nat) (a1 : Int32) (hP : fm_kd g P = 3) (M : fm_Mem) (w : fm_W) : Tt g l z_X3_x (emI M w) (f_X3_x P a1 M) 0 [(0, .ref P), (1, .int a1)] [] (M, w) := by
  rw [f_X3_x]
  refine Tt.go (fun _ => Tr.run 1 (pc' := 1) (lv' := [(0, .ref P), (1, .int a1)]) (st' := [.ref P]) rfl) ?_
  refine Tt.go (fun _ => Tr.get fmc3 hP rfl fw157 (k := 0) (by decide) rfl) (?_ : Tt g l z_X3_x (emI M w) _ 4 [(0, .ref P), (1, .int a1)] [.ref (P + 1)] (M, w))
  refine Tt.go (fun _ => Tr.run 1 (pc' := 5) (lv' := [(0, .ref P), (1, .int a1)]) (st' := [.int a1, .ref (P + 1)]) rfl) ?_
  refine Tt.callV (As := [.int a1]) (rest := []) (c_X4_get g l hl (P + 1) 20 a1 (fmk_3_0 hP) (fmn_3_0 hP) (by decide) M w) (fmk_3_0 hP) (by decide) rfl rfl cw_X4_get fw337 pn_X4_get (Nat.le_of_ble_eq_true rfl) (Nat.le_of_ble_eq_true rfl) (Nat.le_of_ble_eq_true rfl) rfl (fun v1 => (?_ : Tt g l z_X3_x (emI M w) _ 8 [(0, .ref P), (1, .int a1)] [.int v1] (M, w)))
  exact Tt.ret (Tr.iret rfl rfl)
theorem c_X3_x (g : fm_G) (l : Launch) (hl : l.stackTraces = false) (P : Nat) (a1 : Int32) (hP : fm_kd g P = 3) (M : fm_Mem) (w : fm_W) : ∀ r, f_X3_x P a1 M = some r → fC g l z_X3_x [.ref P, .int a1] (M, w) (emI M w r) := fun r hr => fC.of (by decide) rfl o_X3_x hl (Nat.le_of_ble_eq_true rfl) (t_X3_x g l hl P a1 hP M w r hr)
def k_X4_set : List (Nat × Instr × Nat) := [(0, .iload_n 1, 1), (1, .ifCond .lt 19, 3), (4, .iload_n 1, 1), (5, .aload_n 0, 1), (6, .getfield 13, 3), (9, .arraylength, 1), (10, .if_icmp .ge 10, 3), (13, .aload_n 0, 1), (14, .getfield 13, 3), (17, .iload_n 1, 1), (18, .iload_n 2, 1), (19, .iastore, 1), (20, .return_, 1)]
def z_X4_set : fm_Y := (yX4_set, RX4, cX4_set, 3, none, k_X4_set, 0, 0)
theorem o_X4_set : fm_dec z_X4_set := (by decide +kernel : ∀ q ∈ k_X4_set, decode cX4_set q.1 = .ok q.2)
theorem cw_X4_set : fm_cwV z_X4_set := ⟨⟨lw_in 304 (by decide +kernel) (by decide +kernel), lw_in 93 (by decide +kernel) (by decide +kernel), by decide, by decide⟩, lw_in 302 (by decide +kernel) (by decide +kernel), lw_in 303 (by decide +kernel) (by decide +kernel)⟩
theorem pn_X4_set : (parseMethodDescriptor z_X4_set.1.desc).map (fun d => d.parameters.length) = some 2 := by decide +kernel
def f_X4_set_20 (P : Nat) (nP : Nat) (a1 : Int32) (a2 : Int32)  (M : fm_Mem) : Option (fm_Mem) := some (M)
theorem t_X4_set_20 (g : fm_G) (l : Launch) (hl : l.stackTraces = false) (P : Nat) (nP : Nat) (a1 : Int32) (a2 : Int32) (hP : fm_kd g P = 4) (hP1 : fm_kd g (P + 1) = 100 + nP) (hP9 : nP < 9000) (w : fm_W) (M0 : fm_Mem)    (M : fm_Mem) : Tt g l z_X4_set (emVw M0 w) (f_X4_set_20 P nP a1 a2   M) 20 [] [] (M, w) := by
  rw [f_X4_set_20]
  exact Tt.ret (Tr.vret rfl rfl)
def f_X4_set (P : Nat) (nP : Nat) (a1 : Int32) (a2 : Int32) (M : fm_Mem) : Option (fm_Mem) := if a1 < 0 then (f_X4_set_20 P nP a1 a2 M) else (if (Int32.ofNat nP) ≤ a1 then (f_X4_set_20 P nP a1 a2 M) else (fm_ck (fm_in a1 nP) (f_X4_set_20 P nP a1 a2 (fm_up M (P + 1) (Int32.toNatClampNeg a1) a2))))
theorem t_X4_set (g : fm_G) (l : Launch) (hl : l.stackTraces = false) (P : Nat) (nP : Nat) (a1 : Int32) (a2 : Int32) (hP : fm_kd g P = 4) (hP1 : fm_kd g (P + 1) = 100 + nP) (hP9 : nP < 9000) (M : fm_Mem) (w : fm_W) : Tt g l z_X4_set (emVw M w) (f_X4_set P nP a1 a2 M) 0 [(0, .ref P), (1, .int a1), (2, .int a2)] [] (M, w) := by
  rw [f_X4_set]
  refine Tt.go (fun _ => Tr.run 1 (pc' := 1) (lv' := [(0, .ref P), (1, .int a1), (2, .int a2)]) (st' := [.int a1]) rfl) ?_
  refine Tt.if_lt (tgt := 20) rfl (by decide) ?_ ?_
  · refine Tt.go (fun _ => Tr.sub (lv' := []) [] rfl) ?_
    exact t_X4_set_20 g l hl P nP a1 a2 hP hP1 hP9 w M M
  · refine Tt.go (fun _ => Tr.run 2 (pc' := 6) (lv' := [(0, .ref P), (1, .int a1), (2, .int a2)]) (st' := [.ref P, .int a1]) rfl) ?_
    refine Tt.go (fun _ => Tr.get fmc4 hP rfl fw138 (k := 0) (by decide) rfl) (?_ : Tt g l z_X4_set (emVw M w) _ 9 [(0, .ref P), (1, .int a1), (2, .int a2)] [.ref (P + 1), .int a1] (M, w))
    refine Tt.go (fun _ => Tr.alen hP1 hP9 rfl) (?_ : Tt g l z_X4_set (emVw M w) _ 10 [(0, .ref P), (1, .int a1), (2, .int a2)] [.int (Int32.ofNat nP), .int a1] (M, w))
    refine Tt.ic_ge (tgt := 20) rfl (by decide) ?_ ?_
    · refine Tt.go (fun _ => Tr.sub (lv' := []) [] rfl) ?_
      exact t_X4_set_20 g l hl P nP a1 a2 hP hP1 hP9 w M M
    · refine Tt.go (fun _ => Tr.run 1 (pc' := 14) (lv' := [(0, .ref P), (1, .int a1), (2, .int a2)]) (st' := [.ref P]) rfl) ?_
      refine Tt.go (fun _ => Tr.get fmc4 hP rfl fw138 (k := 0) (by decide) rfl) (?_ : Tt g l z_X4_set (emVw M w) _ 17 [(0, .ref P), (1, .int a1), (2, .int a2)] [.ref (P + 1)] (M, w))
      refine Tt.go (fun _ => Tr.run 2 (pc' := 19) (lv' := [(0, .ref P), (1, .int a1), (2, .int a2)]) (st' := [.int a2, .int a1, .ref (P + 1)]) rfl) ?_
      refine Tt.ck (fun hi1 => ?_)
      refine Tt.go (fun _ => Tr.iast hP1 hP9 hi1 rfl) (?_ : Tt g l z_X4_set (emVw M w) _ 20 [(0, .ref P), (1, .int a1), (2, .int a2)] [] ((fm_up M (P + 1) (Int32.toNatClampNeg a1) a2), w))
      refine Tt.go (fun _ => Tr.sub (lv' := []) [] rfl) ?_
      exact t_X4_set_20 g l hl P nP a1 a2 hP hP1 hP9 w M (fm_up M (P + 1) (Int32.toNatClampNeg a1) a2)
theorem c_X4_set (g : fm_G) (l : Launch) (hl : l.stackTraces = false) (P : Nat) (nP : Nat) (a1 : Int32) (a2 : Int32) (hP : fm_kd g P = 4) (hP1 : fm_kd g (P + 1) = 100 + nP) (hP9 : nP < 9000) (M : fm_Mem) (w : fm_W) : ∀ r, f_X4_set P nP a1 a2 M = some r → fC g l z_X4_set [.ref P, .int a1, .int a2] (M, w) (emVw M w r) := fun r hr => fC.of (by decide) rfl o_X4_set hl (Nat.le_of_ble_eq_true rfl) (t_X4_set g l hl P nP a1 a2 hP hP1 hP9 M w r hr)
def k_X3_cross : List (Nat × Instr × Nat) := [(0, .iload_n 0, 1), (1, .iload_n 3, 1), (2, .imul, 1), (3, .iload_n 1, 1), (4, .iload_n 2, 1), (5, .imul, 1), (6, .isub, 1), (7, .ireturn, 1)]
def z_X3_cross : fm_Y := (yX3_cross, RX3, cX3_cross, 4, (some .int), k_X3_cross, 0, 0)
theorem o_X3_cross : fm_dec z_X3_cross := (by decide +kernel : ∀ q ∈ k_X3_cross, decode cX3_cross q.1 = .ok q.2)
theorem cw_X3_cross : fm_cwS z_X3_cross := ⟨⟨lw_in 344 (by decide +kernel) (by decide +kernel), lw_in 96 (by decide +kernel) (by decide +kernel), by decide, by decide⟩, lw_in 343 (by decide +kernel) (by decide +kernel)⟩
theorem pn_X3_cross : (parseMethodDescriptor z_X3_cross.1.desc).map (fun d => d.parameters.length) = some 4 := by decide +kernel
def f_X3_cross (a0 : Int32) (a1 : Int32) (a2 : Int32) (a3 : Int32) (M : fm_Mem) : Option (Int32) := some (((a0 * a3) - (a1 * a2)))
theorem t_X3_cross (g : fm_G) (l : Launch) (hl : l.stackTraces = false) (a0 : Int32) (a1 : Int32) (a2 : Int32) (a3 : Int32)  (M : fm_Mem) (w : fm_W) : Tt g l z_X3_cross (emI M w) (f_X3_cross a0 a1 a2 a3 M) 0 [(0, .int a0), (1, .int a1), (2, .int a2), (3, .int a3)] [] (M, w) := by
  rw [f_X3_cross]
  refine Tt.go (fun _ => Tr.run 7 (pc' := 7) (lv' := [(0, .int a0), (1, .int a1), (2, .int a2), (3, .int a3)]) (st' := [.int ((a0 * a3) - (a1 * a2))]) rfl) ?_
  exact Tt.ret (Tr.iret rfl rfl)
theorem c_X3_cross (g : fm_G) (l : Launch) (hl : l.stackTraces = false) (a0 : Int32) (a1 : Int32) (a2 : Int32) (a3 : Int32)  (M : fm_Mem) (w : fm_W) : ∀ r, f_X3_cross a0 a1 a2 a3 M = some r → fC g l z_X3_cross [.int a0, .int a1, .int a2, .int a3] (M, w) (emI M w r) := fun r hr => fC.of (by decide) rfl o_X3_cross hl (Nat.le_of_ble_eq_true rfl) (t_X3_cross g l hl a0 a1 a2 a3  M w r hr)
def k_X3_turn : List (Nat × Instr × Nat) := [(0, .aload_n 0, 1), (1, .getfield 14, 3), (4, .iload_n 1, 1), (5, .invokevirtual 27, 3), (8, .istore 4, 2), (10, .aload_n 0, 1), (11, .getfield 20, 3), (14, .iload_n 1, 1), (15, .invokevirtual 27, 3), (18, .istore 5, 2), (20, .aload_n 0, 1), (21, .getfield 14, 3), (24, .iload_n 2, 1), (25, .invokevirtual 27, 3), (28, .iload 4, 2), (30, .isub, 1), (31, .aload_n 0, 1), (32, .getfield 20, 3), (35, .iload_n 2, 1), (36, .invokevirtual 27, 3), (39, .iload 5, 2), (41, .isub, 1), (42, .aload_n 0, 1), (43, .getfield 14, 3), (46, .iload_n 3, 1), (47, .invokevirtual 27, 3), (50, .iload 4, 2), (52, .isub, 1), (53, .aload_n 0, 1), (54, .getfield 20, 3), (57, .iload_n 3, 1), (58, .invokevirtual 27, 3), (61, .iload 5, 2), (63, .isub, 1), (64, .invokestatic 51, 3), (67, .ireturn, 1)]
def z_X3_turn : fm_Y := (yX3_turn, RX3, cX3_turn, 6, (some .int), k_X3_turn, 1, 23)
theorem o_X3_turn : fm_dec z_X3_turn := (by decide +kernel : ∀ q ∈ k_X3_turn, decode cX3_turn q.1 = .ok q.2)
theorem cw_X3_turn : fm_cwV z_X3_turn := ⟨⟨lw_in 341 (by decide +kernel) (by decide +kernel), lw_in 96 (by decide +kernel) (by decide +kernel), by decide, by decide⟩, lw_in 339 (by decide +kernel) (by decide +kernel), lw_in 340 (by decide +kernel) (by decide +kernel)⟩
theorem pn_X3_turn : (parseMethodDescriptor z_X3_turn.1.desc).map (fun d => d.parameters.length) = some 3 := by decide +kernel
def f_X3_turn (P : Nat) (a1 : Int32) (a2 : Int32) (a3 : Int32) (M : fm_Mem) : Option (Int32) := Option.bind (f_X4_get (P + 1) 20 a1 M) (fun v1 => Option.bind (f_X4_get (P + 3) 20 a1 M) (fun v2 => Option.bind (f_X4_get (P + 1) 20 a2 M) (fun v3 => Option.bind (f_X4_get (P + 3) 20 a2 M) (fun v4 => Option.bind (f_X4_get (P + 1) 20 a3 M) (fun v5 => Option.bind (f_X4_get (P + 3) 20 a3 M) (fun v6 => Option.bind (f_X3_cross (v3 - v1) (v4 - v2) (v5 - v1) (v6 - v2) M) (fun v7 => some (v7))))))))
theorem t_X3_turn (g : fm_G) (l : Launch) (hl : l.stackTraces = false) (P : Nat) (a1 : Int32) (a2 : Int32) (a3 : Int32) (hP : fm_kd g P = 3) (M : fm_Mem) (w : fm_W) : Tt g l z_X3_turn (emI M w) (f_X3_turn P a1 a2 a3 M) 0 [(0, .ref P), (1, .int a1), (2, .int a2), (3, .int a3)] [] (M, w) := by
  rw [f_X3_turn]
  refine Tt.go (fun _ => Tr.run 1 (pc' := 1) (lv' := [(0, .ref P), (1, .int a1), (2, .int a2), (3, .int a3)]) (st' := [.ref P]) rfl) ?_
  refine Tt.go (fun _ => Tr.get fmc3 hP rfl fw157 (k := 0) (by decide) rfl) (?_ : Tt g l z_X3_turn (emI M w) _ 4 [(0, .ref P), (1, .int a1), (2, .int a2), (3, .int a3)] [.ref (P + 1)] (M, w))
  refine Tt.go (fun _ => Tr.run 1 (pc' := 5) (lv' := [(0, .ref P), (1, .int a1), (2, .int a2), (3, .int a3)]) (st' := [.int a1, .ref (P + 1)]) rfl) ?_
  refine Tt.callV (As := [.int a1]) (rest := []) (c_X4_get g l hl (P + 1) 20 a1 (fmk_3_0 hP) (fmn_3_0 hP) (by decide) M w) (fmk_3_0 hP) (by decide) rfl rfl cw_X4_get fw337 pn_X4_get (Nat.le_of_ble_eq_true rfl) (Nat.le_of_ble_eq_true rfl) (Nat.le_of_ble_eq_true rfl) rfl (fun v1 => (?_ : Tt g l z_X3_turn (emI M w) _ 8 [(0, .ref P), (1, .int a1), (2, .int a2), (3, .int a3)] [.int v1] (M, w)))
  refine Tt.go (fun _ => Tr.run 2 (pc' := 11) (lv' := [(4, .int v1), (0, .ref P), (1, .int a1), (2, .int a2), (3, .int a3)]) (st' := [.ref P]) rfl) ?_
  refine Tt.go (fun _ => Tr.get fmc3 hP rfl fw158 (k := 1) (by decide) rfl) (?_ : Tt g l z_X3_turn (emI M w) _ 14 [(4, .int v1), (0, .ref P), (1, .int a1), (2, .int a2), (3, .int a3)] [.ref (P + 3)] (M, w))
  refine Tt.go (fun _ => Tr.run 1 (pc' := 15) (lv' := [(4, .int v1), (0, .ref P), (1, .int a1), (2, .int a2), (3, .int a3)]) (st' := [.int a1, .ref (P + 3)]) rfl) ?_
  refine Tt.callV (As := [.int a1]) (rest := []) (c_X4_get g l hl (P + 3) 20 a1 (fmk_3_1 hP) (fmn_3_1 hP) (by decide) M w) (fmk_3_1 hP) (by decide) rfl rfl cw_X4_get fw337 pn_X4_get (Nat.le_of_ble_eq_true rfl) (Nat.le_of_ble_eq_true rfl) (Nat.le_of_ble_eq_true rfl) rfl (fun v2 => (?_ : Tt g l z_X3_turn (emI M w) _ 18 [(4, .int v1), (0, .ref P), (1, .int a1), (2, .int a2), (3, .int a3)] [.int v2] (M, w)))
  refine Tt.go (fun _ => Tr.run 2 (pc' := 21) (lv' := [(5, .int v2), (4, .int v1), (0, .ref P), (1, .int a1), (2, .int a2), (3, .int a3)]) (st' := [.ref P]) rfl) ?_
  refine Tt.go (fun _ => Tr.get fmc3 hP rfl fw157 (k := 0) (by decide) rfl) (?_ : Tt g l z_X3_turn (emI M w) _ 24 [(5, .int v2), (4, .int v1), (0, .ref P), (1, .int a1), (2, .int a2), (3, .int a3)] [.ref (P + 1)] (M, w))
  refine Tt.go (fun _ => Tr.run 1 (pc' := 25) (lv' := [(5, .int v2), (4, .int v1), (0, .ref P), (1, .int a1), (2, .int a2), (3, .int a3)]) (st' := [.int a2, .ref (P + 1)]) rfl) ?_
  refine Tt.callV (As := [.int a2]) (rest := []) (c_X4_get g l hl (P + 1) 20 a2 (fmk_3_0 hP) (fmn_3_0 hP) (by decide) M w) (fmk_3_0 hP) (by decide) rfl rfl cw_X4_get fw337 pn_X4_get (Nat.le_of_ble_eq_true rfl) (Nat.le_of_ble_eq_true rfl) (Nat.le_of_ble_eq_true rfl) rfl (fun v3 => (?_ : Tt g l z_X3_turn (emI M w) _ 28 [(5, .int v2), (4, .int v1), (0, .ref P), (1, .int a1), (2, .int a2), (3, .int a3)] [.int v3] (M, w)))
  refine Tt.go (fun _ => Tr.run 3 (pc' := 32) (lv' := [(5, .int v2), (4, .int v1), (0, .ref P), (1, .int a1), (2, .int a2), (3, .int a3)]) (st' := [.ref P, .int (v3 - v1)]) rfl) ?_
  refine Tt.go (fun _ => Tr.get fmc3 hP rfl fw158 (k := 1) (by decide) rfl) (?_ : Tt g l z_X3_turn (emI M w) _ 35 [(5, .int v2), (4, .int v1), (0, .ref P), (1, .int a1), (2, .int a2), (3, .int a3)] [.ref (P + 3), .int (v3 - v1)] (M, w))
  refine Tt.go (fun _ => Tr.run 1 (pc' := 36) (lv' := [(5, .int v2), (4, .int v1), (0, .ref P), (1, .int a1), (2, .int a2), (3, .int a3)]) (st' := [.int a2, .ref (P + 3), .int (v3 - v1)]) rfl) ?_
  refine Tt.callV (As := [.int a2]) (rest := [.int (v3 - v1)]) (c_X4_get g l hl (P + 3) 20 a2 (fmk_3_1 hP) (fmn_3_1 hP) (by decide) M w) (fmk_3_1 hP) (by decide) rfl rfl cw_X4_get fw337 pn_X4_get (Nat.le_of_ble_eq_true rfl) (Nat.le_of_ble_eq_true rfl) (Nat.le_of_ble_eq_true rfl) rfl (fun v4 => (?_ : Tt g l z_X3_turn (emI M w) _ 39 [(5, .int v2), (4, .int v1), (0, .ref P), (1, .int a1), (2, .int a2), (3, .int a3)] [.int v4, .int (v3 - v1)] (M, w)))
  refine Tt.go (fun _ => Tr.run 3 (pc' := 43) (lv' := [(5, .int v2), (4, .int v1), (0, .ref P), (1, .int a1), (2, .int a2), (3, .int a3)]) (st' := [.ref P, .int (v4 - v2), .int (v3 - v1)]) rfl) ?_
  refine Tt.go (fun _ => Tr.get fmc3 hP rfl fw157 (k := 0) (by decide) rfl) (?_ : Tt g l z_X3_turn (emI M w) _ 46 [(5, .int v2), (4, .int v1), (0, .ref P), (1, .int a1), (2, .int a2), (3, .int a3)] [.ref (P + 1), .int (v4 - v2), .int (v3 - v1)] (M, w))
  refine Tt.go (fun _ => Tr.run 1 (pc' := 47) (lv' := [(5, .int v2), (4, .int v1), (0, .ref P), (1, .int a1), (2, .int a2), (3, .int a3)]) (st' := [.int a3, .ref (P + 1), .int (v4 - v2), .int (v3 - v1)]) rfl) ?_
  refine Tt.callV (As := [.int a3]) (rest := [.int (v4 - v2), .int (v3 - v1)]) (c_X4_get g l hl (P + 1) 20 a3 (fmk_3_0 hP) (fmn_3_0 hP) (by decide) M w) (fmk_3_0 hP) (by decide) rfl rfl cw_X4_get fw337 pn_X4_get (Nat.le_of_ble_eq_true rfl) (Nat.le_of_ble_eq_true rfl) (Nat.le_of_ble_eq_true rfl) rfl (fun v5 => (?_ : Tt g l z_X3_turn (emI M w) _ 50 [(5, .int v2), (4, .int v1), (0, .ref P), (1, .int a1), (2, .int a2), (3, .int a3)] [.int v5, .int (v4 - v2), .int (v3 - v1)] (M, w)))
  refine Tt.go (fun _ => Tr.run 3 (pc' := 54) (lv' := [(5, .int v2), (4, .int v1), (0, .ref P), (1, .int a1), (2, .int a2), (3, .int a3)]) (st' := [.ref P, .int (v5 - v1), .int (v4 - v2), .int (v3 - v1)]) rfl) ?_
  refine Tt.go (fun _ => Tr.get fmc3 hP rfl fw158 (k := 1) (by decide) rfl) (?_ : Tt g l z_X3_turn (emI M w) _ 57 [(5, .int v2), (4, .int v1), (0, .ref P), (1, .int a1), (2, .int a2), (3, .int a3)] [.ref (P + 3), .int (v5 - v1), .int (v4 - v2), .int (v3 - v1)] (M, w))
  refine Tt.go (fun _ => Tr.run 1 (pc' := 58) (lv' := [(5, .int v2), (4, .int v1), (0, .ref P), (1, .int a1), (2, .int a2), (3, .int a3)]) (st' := [.int a3, .ref (P + 3), .int (v5 - v1), .int (v4 - v2), .int (v3 - v1)]) rfl) ?_
  refine Tt.callV (As := [.int a3]) (rest := [.int (v5 - v1), .int (v4 - v2), .int (v3 - v1)]) (c_X4_get g l hl (P + 3) 20 a3 (fmk_3_1 hP) (fmn_3_1 hP) (by decide) M w) (fmk_3_1 hP) (by decide) rfl rfl cw_X4_get fw337 pn_X4_get (Nat.le_of_ble_eq_true rfl) (Nat.le_of_ble_eq_true rfl) (Nat.le_of_ble_eq_true rfl) rfl (fun v6 => (?_ : Tt g l z_X3_turn (emI M w) _ 61 [(5, .int v2), (4, .int v1), (0, .ref P), (1, .int a1), (2, .int a2), (3, .int a3)] [.int v6, .int (v5 - v1), .int (v4 - v2), .int (v3 - v1)] (M, w)))
  refine Tt.go (fun _ => Tr.run 2 (pc' := 64) (lv' := [(5, .int v2), (4, .int v1), (0, .ref P), (1, .int a1), (2, .int a2), (3, .int a3)]) (st' := [.int (v6 - v2), .int (v5 - v1), .int (v4 - v2), .int (v3 - v1)]) rfl) ?_
  refine Tt.callS (As := [.int (v3 - v1), .int (v4 - v2), .int (v5 - v1), .int (v6 - v2)]) (rest := []) (c_X3_cross g l hl (v3 - v1) (v4 - v2) (v5 - v1) (v6 - v2) M w) rfl cw_X3_cross fw342 pn_X3_cross (Nat.le_of_ble_eq_true rfl) (Nat.le_of_ble_eq_true rfl) (Nat.le_of_ble_eq_true rfl) rfl (fun v7 => (?_ : Tt g l z_X3_turn (emI M w) _ 67 [(5, .int v2), (4, .int v1), (0, .ref P), (1, .int a1), (2, .int a2), (3, .int a3)] [.int v7] (M, w)))
  exact Tt.ret (Tr.iret rfl rfl)
theorem c_X3_turn (g : fm_G) (l : Launch) (hl : l.stackTraces = false) (P : Nat) (a1 : Int32) (a2 : Int32) (a3 : Int32) (hP : fm_kd g P = 3) (M : fm_Mem) (w : fm_W) : ∀ r, f_X3_turn P a1 a2 a3 M = some r → fC g l z_X3_turn [.ref P, .int a1, .int a2, .int a3] (M, w) (emI M w r) := fun r hr => fC.of (by decide) rfl o_X3_turn hl (Nat.le_of_ble_eq_true rfl) (t_X3_turn g l hl P a1 a2 a3 hP M w r hr)
def k_X4_clear : List (Nat × Instr × Nat) := [(0, .iconst 0, 1), (1, .istore_n 1, 1), (2, .iload_n 1, 1), (3, .aload_n 0, 1), (4, .getfield 13, 3), (7, .arraylength, 1), (8, .if_icmp .ge 16, 3), (11, .aload_n 0, 1), (12, .getfield 13, 3), (15, .iload_n 1, 1), (16, .iconst 0, 1), (17, .iastore, 1), (18, .iinc 1 1, 3), (21, .goto (-19), 3), (24, .return_, 1)]
def z_X4_clear : fm_Y := (yX4_clear, RX4, cX4_clear, 2, none, k_X4_clear, 0, 0)
theorem o_X4_clear : fm_dec z_X4_clear := (by decide +kernel : ∀ q ∈ k_X4_clear, decode cX4_clear q.1 = .ok q.2)
theorem cw_X4_clear : fm_cwV z_X4_clear := ⟨⟨lw_in 658 (by decide +kernel) (by decide +kernel), lw_in 93 (by decide +kernel) (by decide +kernel), by decide, by decide⟩, lw_in 656 (by decide +kernel) (by decide +kernel), lw_in 657 (by decide +kernel) (by decide +kernel)⟩
theorem pn_X4_clear : (parseMethodDescriptor z_X4_clear.1.desc).map (fun d => d.parameters.length) = some 0 := by decide +kernel
def f_X4_clear_2 (P : Nat) (nP : Nat) : Nat → Int32 → fm_Mem → Option (fm_Mem)
  | 0, _, _ => none
  | n + 1, x1, M => if (Int32.ofNat nP) ≤ x1 then (some (M)) else (fm_ck (fm_in x1 nP) (f_X4_clear_2 P nP n (x1 + (1 : Int32)) (fm_up M (P + 1) (Int32.toNatClampNeg x1) (0 : Int32))))
theorem t_X4_clear_2 (g : fm_G) (l : Launch) (hl : l.stackTraces = false) (P : Nat) (nP : Nat) (hP : fm_kd g P = 4) (hP1 : fm_kd g (P + 1) = 100 + nP) (hP9 : nP < 9000) (w : fm_W) (M0 : fm_Mem)  : ∀ (n : Nat) (x1 : Int32)  (M : fm_Mem), Tt g l z_X4_clear (emVw M0 w) (f_X4_clear_2 P nP  n x1 M) 2 [(0, .ref P), (1, .int x1)] [] (M, w) := by
  intro n
  induction n with
  | zero => intros; exact Tt.none
  | succ n ih =>
    intro x1  M
    rw [f_X4_clear_2]
    refine Tt.go (fun _ => Tr.run 2 (pc' := 4) (lv' := [(0, .ref P), (1, .int x1)]) (st' := [.ref P, .int x1]) rfl) ?_
    refine Tt.go (fun _ => Tr.get fmc4 hP rfl fw138 (k := 0) (by decide) rfl) (?_ : Tt g l z_X4_clear (emVw M0 w) _ 7 [(0, .ref P), (1, .int x1)] [.ref (P + 1), .int x1] (M, w))
    refine Tt.go (fun _ => Tr.alen hP1 hP9 rfl) (?_ : Tt g l z_X4_clear (emVw M0 w) _ 8 [(0, .ref P), (1, .int x1)] [.int (Int32.ofNat nP), .int x1] (M, w))
    refine Tt.ic_ge (tgt := 24) rfl (by decide) ?_ ?_
    · exact Tt.ret (Tr.vret rfl rfl)
    · refine Tt.go (fun _ => Tr.run 1 (pc' := 12) (lv' := [(0, .ref P), (1, .int x1)]) (st' := [.ref P]) rfl) ?_
      refine Tt.go (fun _ => Tr.get fmc4 hP rfl fw138 (k := 0) (by decide) rfl) (?_ : Tt g l z_X4_clear (emVw M0 w) _ 15 [(0, .ref P), (1, .int x1)] [.ref (P + 1)] (M, w))
      refine Tt.go (fun _ => Tr.run 2 (pc' := 17) (lv' := [(0, .ref P), (1, .int x1)]) (st' := [.int (0 : Int32), .int x1, .ref (P + 1)]) rfl) ?_
      refine Tt.ck (fun hi1 => ?_)
      refine Tt.go (fun _ => Tr.iast hP1 hP9 hi1 rfl) (?_ : Tt g l z_X4_clear (emVw M0 w) _ 18 [(0, .ref P), (1, .int x1)] [] ((fm_up M (P + 1) (Int32.toNatClampNeg x1) (0 : Int32)), w))
      refine Tt.go (fun _ => Tr.run 2 (pc' := 2) (lv' := [(1, .int (x1 + (1 : Int32))), (0, .ref P)]) (st' := []) rfl) ?_
      refine Tt.go (fun _ => Tr.sub (lv' := [(0, .ref P), (1, .int (x1 + (1 : Int32)))]) [1, 0] rfl) ?_
      exact ih (x1 + (1 : Int32)) (fm_up M (P + 1) (Int32.toNatClampNeg x1) (0 : Int32))
def f_X4_clear (P : Nat) (nP : Nat) (M : fm_Mem) : Option (fm_Mem) := (f_X4_clear_2 P nP fm_fuel (0 : Int32) M)
theorem t_X4_clear (g : fm_G) (l : Launch) (hl : l.stackTraces = false) (P : Nat) (nP : Nat) (hP : fm_kd g P = 4) (hP1 : fm_kd g (P + 1) = 100 + nP) (hP9 : nP < 9000) (M : fm_Mem) (w : fm_W) : Tt g l z_X4_clear (emVw M w) (f_X4_clear P nP M) 0 [(0, .ref P)] [] (M, w) := by
  rw [f_X4_clear]
  refine Tt.go (fun _ => Tr.run 2 (pc' := 2) (lv' := [(1, .int (0 : Int32)), (0, .ref P)]) (st' := []) rfl) ?_
  refine Tt.go (fun _ => Tr.sub (lv' := [(0, .ref P), (1, .int (0 : Int32))]) [1, 0] rfl) ?_
  exact t_X4_clear_2 g l hl P nP hP hP1 hP9 w M fm_fuel (0 : Int32) M
theorem c_X4_clear (g : fm_G) (l : Launch) (hl : l.stackTraces = false) (P : Nat) (nP : Nat) (hP : fm_kd g P = 4) (hP1 : fm_kd g (P + 1) = 100 + nP) (hP9 : nP < 9000) (M : fm_Mem) (w : fm_W) : ∀ r, f_X4_clear P nP M = some r → fC g l z_X4_clear [.ref P] (M, w) (emVw M w r) := fun r hr => fC.of (by decide) rfl o_X4_clear hl (Nat.le_of_ble_eq_true rfl) (t_X4_clear g l hl P nP hP hP1 hP9 M w r hr)
def k_X4_copyFrom : List (Nat × Instr × Nat) := [(0, .aload_n 0, 1), (1, .getfield 13, 3), (4, .arraylength, 1), (5, .aload_n 1, 1), (6, .getfield 13, 3), (9, .arraylength, 1), (10, .invokestatic 19, 3), (13, .istore_n 2, 1), (14, .aload_n 1, 1), (15, .getfield 13, 3), (18, .iconst 0, 1), (19, .aload_n 0, 1), (20, .getfield 13, 3), (23, .iconst 0, 1), (24, .iload_n 2, 1), (25, .invokestatic 22, 3), (28, .return_, 1)]
def z_X4_copyFrom : fm_Y := (yX4_copyFrom, RX4, cX4_copyFrom, 3, none, k_X4_copyFrom, 1, 40)
theorem o_X4_copyFrom : fm_dec z_X4_copyFrom := (by decide +kernel : ∀ q ∈ k_X4_copyFrom, decode cX4_copyFrom q.1 = .ok q.2)
theorem cw_X4_copyFrom : fm_cwV z_X4_copyFrom := ⟨⟨lw_in 408 (by decide +kernel) (by decide +kernel), lw_in 93 (by decide +kernel) (by decide +kernel), by decide, by decide⟩, lw_in 406 (by decide +kernel) (by decide +kernel), lw_in 407 (by decide +kernel) (by decide +kernel)⟩
theorem pn_X4_copyFrom : (parseMethodDescriptor z_X4_copyFrom.1.desc).map (fun d => d.parameters.length) = some 1 := by decide +kernel
def f_X4_copyFrom (P : Nat) (nP : Nat) (r1 : Nat) (nr1 : Nat) (M : fm_Mem) : Option (fm_Mem) := fm_ck (fm_cin (fm_min (Int32.ofNat nP) (Int32.ofNat nr1)) nr1 nP) (some ((fm_cp M (r1 + 1) (P + 1) (Int32.toNatClampNeg (fm_min (Int32.ofNat nP) (Int32.ofNat nr1))))))
theorem t_X4_copyFrom (g : fm_G) (l : Launch) (hl : l.stackTraces = false) (P : Nat) (nP : Nat) (r1 : Nat) (nr1 : Nat) (hP : fm_kd g P = 4) (hP1 : fm_kd g (P + 1) = 100 + nP) (hP9 : nP < 9000) (hr1 : fm_kd g r1 = 4) (hr11 : fm_kd g (r1 + 1) = 100 + nr1) (hr19 : nr1 < 9000) (M : fm_Mem) (w : fm_W) : Tt g l z_X4_copyFrom (emVw M w) (f_X4_copyFrom P nP r1 nr1 M) 0 [(0, .ref P), (1, .ref r1)] [] (M, w) := by
  rw [f_X4_copyFrom]
  refine Tt.go (fun _ => Tr.run 1 (pc' := 1) (lv' := [(0, .ref P), (1, .ref r1)]) (st' := [.ref P]) rfl) ?_
  refine Tt.go (fun _ => Tr.get fmc4 hP rfl fw138 (k := 0) (by decide) rfl) (?_ : Tt g l z_X4_copyFrom (emVw M w) _ 4 [(0, .ref P), (1, .ref r1)] [.ref (P + 1)] (M, w))
  refine Tt.go (fun _ => Tr.alen hP1 hP9 rfl) (?_ : Tt g l z_X4_copyFrom (emVw M w) _ 5 [(0, .ref P), (1, .ref r1)] [.int (Int32.ofNat nP)] (M, w))
  refine Tt.go (fun _ => Tr.run 1 (pc' := 6) (lv' := [(0, .ref P), (1, .ref r1)]) (st' := [.ref r1, .int (Int32.ofNat nP)]) rfl) ?_
  refine Tt.go (fun _ => Tr.get fmc4 hr1 rfl fw138 (k := 0) (by decide) rfl) (?_ : Tt g l z_X4_copyFrom (emVw M w) _ 9 [(0, .ref P), (1, .ref r1)] [.ref (r1 + 1), .int (Int32.ofNat nP)] (M, w))
  refine Tt.go (fun _ => Tr.alen hr11 hr19 rfl) (?_ : Tt g l z_X4_copyFrom (emVw M w) _ 10 [(0, .ref P), (1, .ref r1)] [.int (Int32.ofNat nr1), .int (Int32.ofNat nP)] (M, w))
  refine Tt.go (fun _ => Tr.min rfl ⟨fw409, fw410, fw94, fw411⟩ (Nat.le_of_ble_eq_true rfl) (Nat.le_of_ble_eq_true rfl)) (?_ : Tt g l z_X4_copyFrom (emVw M w) _ 13 [(0, .ref P), (1, .ref r1)] [.int (fm_min (Int32.ofNat nP) (Int32.ofNat nr1))] (M, w))
  refine Tt.go (fun _ => Tr.run 2 (pc' := 15) (lv' := [(2, .int (fm_min (Int32.ofNat nP) (Int32.ofNat nr1))), (0, .ref P), (1, .ref r1)]) (st' := [.ref r1]) rfl) ?_
  refine Tt.go (fun _ => Tr.get fmc4 hr1 rfl fw138 (k := 0) (by decide) rfl) (?_ : Tt g l z_X4_copyFrom (emVw M w) _ 18 [(2, .int (fm_min (Int32.ofNat nP) (Int32.ofNat nr1))), (0, .ref P), (1, .ref r1)] [.ref (r1 + 1)] (M, w))
  refine Tt.go (fun _ => Tr.run 2 (pc' := 20) (lv' := [(2, .int (fm_min (Int32.ofNat nP) (Int32.ofNat nr1))), (0, .ref P), (1, .ref r1)]) (st' := [.ref P, .int (0 : Int32), .ref (r1 + 1)]) rfl) ?_
  refine Tt.go (fun _ => Tr.get fmc4 hP rfl fw138 (k := 0) (by decide) rfl) (?_ : Tt g l z_X4_copyFrom (emVw M w) _ 23 [(2, .int (fm_min (Int32.ofNat nP) (Int32.ofNat nr1))), (0, .ref P), (1, .ref r1)] [.ref (P + 1), .int (0 : Int32), .ref (r1 + 1)] (M, w))
  refine Tt.go (fun _ => Tr.run 2 (pc' := 25) (lv' := [(2, .int (fm_min (Int32.ofNat nP) (Int32.ofNat nr1))), (0, .ref P), (1, .ref r1)]) (st' := [.int (fm_min (Int32.ofNat nP) (Int32.ofNat nr1)), .int (0 : Int32), .ref (P + 1), .int (0 : Int32), .ref (r1 + 1)]) rfl) ?_
  refine Tt.ck (fun hc1 => ?_)
  refine Tt.go (fun _ => Tr.acopy hr11 hP1 hr19 hP9 rfl ⟨fw412, fw414, fw413, fw108⟩ hc1 (Nat.le_of_ble_eq_true rfl) (Nat.le_of_ble_eq_true rfl)) (?_ : Tt g l z_X4_copyFrom (emVw M w) _ 28 [(2, .int (fm_min (Int32.ofNat nP) (Int32.ofNat nr1))), (0, .ref P), (1, .ref r1)] [] ((fm_cp M (r1 + 1) (P + 1) (Int32.toNatClampNeg (fm_min (Int32.ofNat nP) (Int32.ofNat nr1)))), w))
  exact Tt.ret (Tr.vret rfl rfl)
theorem c_X4_copyFrom (g : fm_G) (l : Launch) (hl : l.stackTraces = false) (P : Nat) (nP : Nat) (r1 : Nat) (nr1 : Nat) (hP : fm_kd g P = 4) (hP1 : fm_kd g (P + 1) = 100 + nP) (hP9 : nP < 9000) (hr1 : fm_kd g r1 = 4) (hr11 : fm_kd g (r1 + 1) = 100 + nr1) (hr19 : nr1 < 9000) (M : fm_Mem) (w : fm_W) : ∀ r, f_X4_copyFrom P nP r1 nr1 M = some r → fC g l z_X4_copyFrom [.ref P, .ref r1] (M, w) (emVw M w r) := fun r hr => fC.of (by decide) rfl o_X4_copyFrom hl (Nat.le_of_ble_eq_true rfl) (t_X4_copyFrom g l hl P nP r1 nr1 hP hP1 hP9 hr1 hr11 hr19 M w r hr)
def k_X4_insert : List (Nat × Instr × Nat) := [(0, .iload_n 2, 1), (1, .aload_n 0, 1), (2, .getfield 13, 3), (5, .arraylength, 1), (6, .iconst 1, 1), (7, .isub, 1), (8, .invokestatic 19, 3), (11, .istore 4, 2), (13, .iload 4, 2), (15, .iload_n 1, 1), (16, .if_icmp .le 23, 3), (19, .aload_n 0, 1), (20, .iload 4, 2), (22, .aload_n 0, 1), (23, .iload 4, 2), (25, .iconst 1, 1), (26, .isub, 1), (27, .invokevirtual 28, 3), (30, .invokevirtual 32, 3), (33, .iinc 4 (-1), 3), (36, .goto (-23), 3), (39, .aload_n 0, 1), (40, .iload_n 1, 1), (41, .iload_n 3, 1), (42, .invokevirtual 32, 3), (45, .return_, 1)]
def z_X4_insert : fm_Y := (yX4_insert, RX4, cX4_insert, 5, none, k_X4_insert, 1, 22)
theorem o_X4_insert : fm_dec z_X4_insert := (by decide +kernel : ∀ q ∈ k_X4_insert, decode cX4_insert q.1 = .ok q.2)
theorem cw_X4_insert : fm_cwV z_X4_insert := ⟨⟨lw_in 792 (by decide +kernel) (by decide +kernel), lw_in 93 (by decide +kernel) (by decide +kernel), by decide, by decide⟩, lw_in 790 (by decide +kernel) (by decide +kernel), lw_in 791 (by decide +kernel) (by decide +kernel)⟩
theorem pn_X4_insert : (parseMethodDescriptor z_X4_insert.1.desc).map (fun d => d.parameters.length) = some 3 := by decide +kernel
def f_X4_insert_13 (P : Nat) (nP : Nat) (a1 : Int32) (a2 : Int32) (a3 : Int32) : Nat → Int32 → fm_Mem → Option (fm_Mem)
  | 0, _, _ => none
  | n + 1, x4, M => if x4 ≤ a1 then (Option.bind (f_X4_set P nP a1 a3 M) (fun v1 => some (v1))) else (Option.bind (f_X4_get P nP (x4 - (1 : Int32)) M) (fun v2 => Option.bind (f_X4_set P nP x4 v2 M) (fun v3 => (f_X4_insert_13 P nP a1 a2 a3 n (x4 + (-1 : Int32)) v3))))
theorem t_X4_insert_13 (g : fm_G) (l : Launch) (hl : l.stackTraces = false) (P : Nat) (nP : Nat) (a1 : Int32) (a2 : Int32) (a3 : Int32) (hP : fm_kd g P = 4) (hP1 : fm_kd g (P + 1) = 100 + nP) (hP9 : nP < 9000) (w : fm_W) (M0 : fm_Mem)  : ∀ (n : Nat) (x4 : Int32)  (M : fm_Mem), Tt g l z_X4_insert (emVw M0 w) (f_X4_insert_13 P nP a1 a2 a3  n x4 M) 13 [(0, .ref P), (1, .int a1), (3, .int a3), (4, .int x4)] [] (M, w) := by
  intro n
  induction n with
  | zero => intros; exact Tt.none
  | succ n ih =>
    intro x4  M
    rw [f_X4_insert_13]
    refine Tt.go (fun _ => Tr.run 2 (pc' := 16) (lv' := [(0, .ref P), (1, .int a1), (3, .int a3), (4, .int x4)]) (st' := [.int a1, .int x4]) rfl) ?_
    refine Tt.ic_le (tgt := 39) rfl (by decide) ?_ ?_
    · refine Tt.go (fun _ => Tr.run 3 (pc' := 42) (lv' := [(0, .ref P), (1, .int a1), (3, .int a3), (4, .int x4)]) (st' := [.int a3, .int a1, .ref P]) rfl) ?_
      refine Tt.callV (As := [.int a1, .int a3]) (rest := []) (c_X4_set g l hl P nP a1 a3 hP hP1 hP9 M w) hP (by decide) rfl rfl cw_X4_set fw794 pn_X4_set (Nat.le_of_ble_eq_true rfl) (Nat.le_of_ble_eq_true rfl) (Nat.le_of_ble_eq_true rfl) rfl (fun v1 => (?_ : Tt g l z_X4_insert (emVw M0 w) _ 45 [(0, .ref P), (1, .int a1), (3, .int a3), (4, .int x4)] [] (v1, w)))
      exact Tt.ret (Tr.vret rfl rfl)
    · refine Tt.go (fun _ => Tr.run 6 (pc' := 27) (lv' := [(0, .ref P), (1, .int a1), (3, .int a3), (4, .int x4)]) (st' := [.int (x4 - (1 : Int32)), .ref P, .int x4, .ref P]) rfl) ?_
      refine Tt.callV (As := [.int (x4 - (1 : Int32))]) (rest := [.int x4, .ref P]) (c_X4_get g l hl P nP (x4 - (1 : Int32)) hP hP1 hP9 M w) hP (by decide) rfl rfl cw_X4_get fw793 pn_X4_get (Nat.le_of_ble_eq_true rfl) (Nat.le_of_ble_eq_true rfl) (Nat.le_of_ble_eq_true rfl) rfl (fun v2 => (?_ : Tt g l z_X4_insert (emVw M0 w) _ 30 [(0, .ref P), (1, .int a1), (3, .int a3), (4, .int x4)] [.int v2, .int x4, .ref P] (M, w)))
      refine Tt.callV (As := [.int x4, .int v2]) (rest := []) (c_X4_set g l hl P nP x4 v2 hP hP1 hP9 M w) hP (by decide) rfl rfl cw_X4_set fw794 pn_X4_set (Nat.le_of_ble_eq_true rfl) (Nat.le_of_ble_eq_true rfl) (Nat.le_of_ble_eq_true rfl) rfl (fun v3 => (?_ : Tt g l z_X4_insert (emVw M0 w) _ 33 [(0, .ref P), (1, .int a1), (3, .int a3), (4, .int x4)] [] (v3, w)))
      refine Tt.go (fun _ => Tr.run 2 (pc' := 13) (lv' := [(4, .int (x4 + (-1 : Int32))), (0, .ref P), (1, .int a1), (3, .int a3)]) (st' := []) rfl) ?_
      refine Tt.go (fun _ => Tr.sub (lv' := [(0, .ref P), (1, .int a1), (3, .int a3), (4, .int (x4 + (-1 : Int32)))]) [1, 2, 3, 0] rfl) ?_
      exact ih (x4 + (-1 : Int32)) v3
def f_X4_insert (P : Nat) (nP : Nat) (a1 : Int32) (a2 : Int32) (a3 : Int32) (M : fm_Mem) : Option (fm_Mem) := (f_X4_insert_13 P nP a1 a2 a3 fm_fuel (fm_min a2 ((Int32.ofNat nP) - (1 : Int32))) M)
theorem t_X4_insert (g : fm_G) (l : Launch) (hl : l.stackTraces = false) (P : Nat) (nP : Nat) (a1 : Int32) (a2 : Int32) (a3 : Int32) (hP : fm_kd g P = 4) (hP1 : fm_kd g (P + 1) = 100 + nP) (hP9 : nP < 9000) (M : fm_Mem) (w : fm_W) : Tt g l z_X4_insert (emVw M w) (f_X4_insert P nP a1 a2 a3 M) 0 [(0, .ref P), (1, .int a1), (2, .int a2), (3, .int a3)] [] (M, w) := by
  rw [f_X4_insert]
  refine Tt.go (fun _ => Tr.run 2 (pc' := 2) (lv' := [(0, .ref P), (1, .int a1), (2, .int a2), (3, .int a3)]) (st' := [.ref P, .int a2]) rfl) ?_
  refine Tt.go (fun _ => Tr.get fmc4 hP rfl fw138 (k := 0) (by decide) rfl) (?_ : Tt g l z_X4_insert (emVw M w) _ 5 [(0, .ref P), (1, .int a1), (2, .int a2), (3, .int a3)] [.ref (P + 1), .int a2] (M, w))
  refine Tt.go (fun _ => Tr.alen hP1 hP9 rfl) (?_ : Tt g l z_X4_insert (emVw M w) _ 6 [(0, .ref P), (1, .int a1), (2, .int a2), (3, .int a3)] [.int (Int32.ofNat nP), .int a2] (M, w))
  refine Tt.go (fun _ => Tr.run 2 (pc' := 8) (lv' := [(0, .ref P), (1, .int a1), (2, .int a2), (3, .int a3)]) (st' := [.int ((Int32.ofNat nP) - (1 : Int32)), .int a2]) rfl) ?_
  refine Tt.go (fun _ => Tr.min rfl ⟨fw409, fw410, fw94, fw411⟩ (Nat.le_of_ble_eq_true rfl) (Nat.le_of_ble_eq_true rfl)) (?_ : Tt g l z_X4_insert (emVw M w) _ 11 [(0, .ref P), (1, .int a1), (2, .int a2), (3, .int a3)] [.int (fm_min a2 ((Int32.ofNat nP) - (1 : Int32)))] (M, w))
  refine Tt.go (fun _ => Tr.run 1 (pc' := 13) (lv' := [(4, .int (fm_min a2 ((Int32.ofNat nP) - (1 : Int32)))), (0, .ref P), (1, .int a1), (2, .int a2), (3, .int a3)]) (st' := []) rfl) ?_
  refine Tt.go (fun _ => Tr.sub (lv' := [(0, .ref P), (1, .int a1), (3, .int a3), (4, .int (fm_min a2 ((Int32.ofNat nP) - (1 : Int32))))]) [1, 2, 4, 0] rfl) ?_
  exact t_X4_insert_13 g l hl P nP a1 a2 a3 hP hP1 hP9 w M fm_fuel (fm_min a2 ((Int32.ofNat nP) - (1 : Int32))) M
theorem c_X4_insert (g : fm_G) (l : Launch) (hl : l.stackTraces = false) (P : Nat) (nP : Nat) (a1 : Int32) (a2 : Int32) (a3 : Int32) (hP : fm_kd g P = 4) (hP1 : fm_kd g (P + 1) = 100 + nP) (hP9 : nP < 9000) (M : fm_Mem) (w : fm_W) : ∀ r, f_X4_insert P nP a1 a2 a3 M = some r → fC g l z_X4_insert [.ref P, .int a1, .int a2, .int a3] (M, w) (emVw M w r) := fun r hr => fC.of (by decide) rfl o_X4_insert hl (Nat.le_of_ble_eq_true rfl) (t_X4_insert g l hl P nP a1 a2 a3 hP hP1 hP9 M w r hr)
def k_X4_remove : List (Nat × Instr × Nat) := [(0, .iload_n 1, 1), (1, .iconst 0, 1), (2, .invokestatic 7, 3), (5, .istore_n 2, 1), (6, .iload_n 2, 1), (7, .iconst 1, 1), (8, .iadd, 1), (9, .aload_n 0, 1), (10, .getfield 13, 3), (13, .arraylength, 1), (14, .if_icmp .ge 21, 3), (17, .aload_n 0, 1), (18, .iload_n 2, 1), (19, .aload_n 0, 1), (20, .iload_n 2, 1), (21, .iconst 1, 1), (22, .iadd, 1), (23, .invokevirtual 28, 3), (26, .invokevirtual 32, 3), (29, .iinc 2 1, 3), (32, .goto (-26), 3), (35, .return_, 1)]
def z_X4_remove : fm_Y := (yX4_remove, RX4, cX4_remove, 3, none, k_X4_remove, 1, 22)
theorem o_X4_remove : fm_dec z_X4_remove := (by decide +kernel : ∀ q ∈ k_X4_remove, decode cX4_remove q.1 = .ok q.2)
theorem cw_X4_remove : fm_cwV z_X4_remove := ⟨⟨lw_in 819 (by decide +kernel) (by decide +kernel), lw_in 93 (by decide +kernel) (by decide +kernel), by decide, by decide⟩, lw_in 817 (by decide +kernel) (by decide +kernel), lw_in 818 (by decide +kernel) (by decide +kernel)⟩
theorem pn_X4_remove : (parseMethodDescriptor z_X4_remove.1.desc).map (fun d => d.parameters.length) = some 1 := by decide +kernel
def f_X4_remove_6 (P : Nat) (nP : Nat) (a1 : Int32) : Nat → Int32 → fm_Mem → Option (fm_Mem)
  | 0, _, _ => none
  | n + 1, x2, M => if (Int32.ofNat nP) ≤ (x2 + (1 : Int32)) then (some (M)) else (Option.bind (f_X4_get P nP (x2 + (1 : Int32)) M) (fun v1 => Option.bind (f_X4_set P nP x2 v1 M) (fun v2 => (f_X4_remove_6 P nP a1 n (x2 + (1 : Int32)) v2))))
theorem t_X4_remove_6 (g : fm_G) (l : Launch) (hl : l.stackTraces = false) (P : Nat) (nP : Nat) (a1 : Int32) (hP : fm_kd g P = 4) (hP1 : fm_kd g (P + 1) = 100 + nP) (hP9 : nP < 9000) (w : fm_W) (M0 : fm_Mem)  : ∀ (n : Nat) (x2 : Int32)  (M : fm_Mem), Tt g l z_X4_remove (emVw M0 w) (f_X4_remove_6 P nP a1  n x2 M) 6 [(0, .ref P), (2, .int x2)] [] (M, w) := by
  intro n
  induction n with
  | zero => intros; exact Tt.none
  | succ n ih =>
    intro x2  M
    rw [f_X4_remove_6]
    refine Tt.go (fun _ => Tr.run 4 (pc' := 10) (lv' := [(0, .ref P), (2, .int x2)]) (st' := [.ref P, .int (x2 + (1 : Int32))]) rfl) ?_
    refine Tt.go (fun _ => Tr.get fmc4 hP rfl fw138 (k := 0) (by decide) rfl) (?_ : Tt g l z_X4_remove (emVw M0 w) _ 13 [(0, .ref P), (2, .int x2)] [.ref (P + 1), .int (x2 + (1 : Int32))] (M, w))
    refine Tt.go (fun _ => Tr.alen hP1 hP9 rfl) (?_ : Tt g l z_X4_remove (emVw M0 w) _ 14 [(0, .ref P), (2, .int x2)] [.int (Int32.ofNat nP), .int (x2 + (1 : Int32))] (M, w))
    refine Tt.ic_ge (tgt := 35) rfl (by decide) ?_ ?_
    · exact Tt.ret (Tr.vret rfl rfl)
    · refine Tt.go (fun _ => Tr.run 6 (pc' := 23) (lv' := [(0, .ref P), (2, .int x2)]) (st' := [.int (x2 + (1 : Int32)), .ref P, .int x2, .ref P]) rfl) ?_
      refine Tt.callV (As := [.int (x2 + (1 : Int32))]) (rest := [.int x2, .ref P]) (c_X4_get g l hl P nP (x2 + (1 : Int32)) hP hP1 hP9 M w) hP (by decide) rfl rfl cw_X4_get fw793 pn_X4_get (Nat.le_of_ble_eq_true rfl) (Nat.le_of_ble_eq_true rfl) (Nat.le_of_ble_eq_true rfl) rfl (fun v1 => (?_ : Tt g l z_X4_remove (emVw M0 w) _ 26 [(0, .ref P), (2, .int x2)] [.int v1, .int x2, .ref P] (M, w)))
      refine Tt.callV (As := [.int x2, .int v1]) (rest := []) (c_X4_set g l hl P nP x2 v1 hP hP1 hP9 M w) hP (by decide) rfl rfl cw_X4_set fw794 pn_X4_set (Nat.le_of_ble_eq_true rfl) (Nat.le_of_ble_eq_true rfl) (Nat.le_of_ble_eq_true rfl) rfl (fun v2 => (?_ : Tt g l z_X4_remove (emVw M0 w) _ 29 [(0, .ref P), (2, .int x2)] [] (v2, w)))
      refine Tt.go (fun _ => Tr.run 2 (pc' := 6) (lv' := [(2, .int (x2 + (1 : Int32))), (0, .ref P)]) (st' := []) rfl) ?_
      refine Tt.go (fun _ => Tr.sub (lv' := [(0, .ref P), (2, .int (x2 + (1 : Int32)))]) [1, 0] rfl) ?_
      exact ih (x2 + (1 : Int32)) v2
def f_X4_remove (P : Nat) (nP : Nat) (a1 : Int32) (M : fm_Mem) : Option (fm_Mem) := (f_X4_remove_6 P nP a1 fm_fuel (fm_max a1 (0 : Int32)) M)
theorem t_X4_remove (g : fm_G) (l : Launch) (hl : l.stackTraces = false) (P : Nat) (nP : Nat) (a1 : Int32) (hP : fm_kd g P = 4) (hP1 : fm_kd g (P + 1) = 100 + nP) (hP9 : nP < 9000) (M : fm_Mem) (w : fm_W) : Tt g l z_X4_remove (emVw M w) (f_X4_remove P nP a1 M) 0 [(0, .ref P), (1, .int a1)] [] (M, w) := by
  rw [f_X4_remove]
  refine Tt.go (fun _ => Tr.run 2 (pc' := 2) (lv' := [(0, .ref P), (1, .int a1)]) (st' := [.int (0 : Int32), .int a1]) rfl) ?_
  refine Tt.go (fun _ => Tr.max rfl ⟨fw135, fw136, fw94, fw137⟩ (Nat.le_of_ble_eq_true rfl) (Nat.le_of_ble_eq_true rfl)) (?_ : Tt g l z_X4_remove (emVw M w) _ 5 [(0, .ref P), (1, .int a1)] [.int (fm_max a1 (0 : Int32))] (M, w))
  refine Tt.go (fun _ => Tr.run 1 (pc' := 6) (lv' := [(2, .int (fm_max a1 (0 : Int32))), (0, .ref P), (1, .int a1)]) (st' := []) rfl) ?_
  refine Tt.go (fun _ => Tr.sub (lv' := [(0, .ref P), (2, .int (fm_max a1 (0 : Int32)))]) [1, 0] rfl) ?_
  exact t_X4_remove_6 g l hl P nP a1 hP hP1 hP9 w M fm_fuel (fm_max a1 (0 : Int32)) M
theorem c_X4_remove (g : fm_G) (l : Launch) (hl : l.stackTraces = false) (P : Nat) (nP : Nat) (a1 : Int32) (hP : fm_kd g P = 4) (hP1 : fm_kd g (P + 1) = 100 + nP) (hP9 : nP < 9000) (M : fm_Mem) (w : fm_W) : ∀ r, f_X4_remove P nP a1 M = some r → fC g l z_X4_remove [.ref P, .int a1] (M, w) (emVw M w r) := fun r hr => fC.of (by decide) rfl o_X4_remove hl (Nat.le_of_ble_eq_true rfl) (t_X4_remove g l hl P nP a1 hP hP1 hP9 M w r hr)
def k_X3_find : List (Nat × Instr × Nat) := [(0, .iconst 0, 1), (1, .istore_n 3, 1), (2, .iload_n 3, 1), (3, .aload_n 0, 1), (4, .getfield 23, 3), (7, .if_icmp .ge 35, 3), (10, .aload_n 0, 1), (11, .getfield 14, 3), (14, .iload_n 3, 1), (15, .invokevirtual 27, 3), (18, .iload_n 1, 1), (19, .if_icmp .ne 17, 3), (22, .aload_n 0, 1), (23, .getfield 20, 3), (26, .iload_n 3, 1), (27, .invokevirtual 27, 3), (30, .iload_n 2, 1), (31, .if_icmp .ne 5, 3), (34, .iload_n 3, 1), (35, .ireturn, 1), (36, .iinc 3 1, 3), (39, .goto (-37), 3), (42, .iconst (-1), 1), (43, .ireturn, 1)]
def z_X3_find : fm_Y := (yX3_find, RX3, cX3_find, 4, (some .int), k_X3_find, 1, 21)
theorem o_X3_find : fm_dec z_X3_find := (by decide +kernel : ∀ q ∈ k_X3_find, decode cX3_find q.1 = .ok q.2)
theorem cw_X3_find : fm_cwV z_X3_find := ⟨⟨lw_in 754 (by decide +kernel) (by decide +kernel), lw_in 96 (by decide +kernel) (by decide +kernel), by decide, by decide⟩, lw_in 752 (by decide +kernel) (by decide +kernel), lw_in 753 (by decide +kernel) (by decide +kernel)⟩
theorem pn_X3_find : (parseMethodDescriptor z_X3_find.1.desc).map (fun d => d.parameters.length) = some 2 := by decide +kernel
def f_X3_find_36 (P : Nat) (a1 : Int32) (a2 : Int32) (k2 : Int32 → fm_Mem → Option (Int32)) (x3 : Int32) (M : fm_Mem) : Option (Int32) := (k2 (x3 + (1 : Int32)) M)
theorem t_X3_find_36 (g : fm_G) (l : Launch) (hl : l.stackTraces = false) (P : Nat) (a1 : Int32) (a2 : Int32) (hP : fm_kd g P = 3) (w : fm_W) (k2 : Int32 → fm_Mem → Option (Int32)) (hk2 : ∀ (x3 : Int32) (M : fm_Mem), Tt g l z_X3_find (emI M w) (k2 x3 M) 2 [(0, .ref P), (1, .int a1), (2, .int a2), (3, .int x3)] [] (M, w)) (x3 : Int32)  (M : fm_Mem) : Tt g l z_X3_find (emI M w) (f_X3_find_36 P a1 a2 k2 x3 M) 36 [(0, .ref P), (1, .int a1), (2, .int a2), (3, .int x3)] [] (M, w) := by
  rw [f_X3_find_36]
  refine Tt.go (fun _ => Tr.run 2 (pc' := 2) (lv' := [(3, .int (x3 + (1 : Int32))), (0, .ref P), (1, .int a1), (2, .int a2)]) (st' := []) rfl) ?_
  refine Tt.go (fun _ => Tr.sub (lv' := [(0, .ref P), (1, .int a1), (2, .int a2), (3, .int (x3 + (1 : Int32)))]) [1, 2, 3, 0] rfl) ?_
  exact hk2 (x3 + (1 : Int32)) M
def f_X3_find_2 (P : Nat) (a1 : Int32) (a2 : Int32) : Nat → Int32 → fm_Mem → Option (Int32)
  | 0, _, _ => none
  | n + 1, x3, M => if (M P 2) ≤ x3 then (some ((-1 : Int32))) else (Option.bind (f_X4_get (P + 1) 20 x3 M) (fun v1 => if v1 = a1 then (Option.bind (f_X4_get (P + 3) 20 x3 M) (fun v2 => if v2 = a2 then (some (x3)) else (f_X3_find_36 P a1 a2 (fun x3 M => f_X3_find_2 P a1 a2 n x3 M) x3 M))) else (f_X3_find_36 P a1 a2 (fun x3 M => f_X3_find_2 P a1 a2 n x3 M) x3 M)))
theorem t_X3_find_2 (g : fm_G) (l : Launch) (hl : l.stackTraces = false) (P : Nat) (a1 : Int32) (a2 : Int32) (hP : fm_kd g P = 3) (w : fm_W)  : ∀ (n : Nat) (x3 : Int32)  (M : fm_Mem), Tt g l z_X3_find (emI M w) (f_X3_find_2 P a1 a2  n x3 M) 2 [(0, .ref P), (1, .int a1), (2, .int a2), (3, .int x3)] [] (M, w) := by
  intro n
  induction n with
  | zero => intros; exact Tt.none
  | succ n ih =>
    intro x3  M
    rw [f_X3_find_2]
    refine Tt.go (fun _ => Tr.run 2 (pc' := 4) (lv' := [(0, .ref P), (1, .int a1), (2, .int a2), (3, .int x3)]) (st' := [.ref P, .int x3]) rfl) ?_
    refine Tt.go (fun _ => Tr.get fmc3 hP rfl fw159 (k := 2) (by decide) rfl) (?_ : Tt g l z_X3_find (emI M w) _ 7 [(0, .ref P), (1, .int a1), (2, .int a2), (3, .int x3)] [.int (M P 2), .int x3] (M, w))
    refine Tt.ic_ge (tgt := 42) rfl (by decide) ?_ ?_
    · refine Tt.go (fun _ => Tr.run 1 (pc' := 43) (lv' := [(0, .ref P), (1, .int a1), (2, .int a2), (3, .int x3)]) (st' := [.int (-1 : Int32)]) rfl) ?_
      exact Tt.ret (Tr.iret rfl rfl)
    · refine Tt.go (fun _ => Tr.run 1 (pc' := 11) (lv' := [(0, .ref P), (1, .int a1), (2, .int a2), (3, .int x3)]) (st' := [.ref P]) rfl) ?_
      refine Tt.go (fun _ => Tr.get fmc3 hP rfl fw157 (k := 0) (by decide) rfl) (?_ : Tt g l z_X3_find (emI M w) _ 14 [(0, .ref P), (1, .int a1), (2, .int a2), (3, .int x3)] [.ref (P + 1)] (M, w))
      refine Tt.go (fun _ => Tr.run 1 (pc' := 15) (lv' := [(0, .ref P), (1, .int a1), (2, .int a2), (3, .int x3)]) (st' := [.int x3, .ref (P + 1)]) rfl) ?_
      refine Tt.callV (As := [.int x3]) (rest := []) (c_X4_get g l hl (P + 1) 20 x3 (fmk_3_0 hP) (fmn_3_0 hP) (by decide) M w) (fmk_3_0 hP) (by decide) rfl rfl cw_X4_get fw337 pn_X4_get (Nat.le_of_ble_eq_true rfl) (Nat.le_of_ble_eq_true rfl) (Nat.le_of_ble_eq_true rfl) rfl (fun v1 => (?_ : Tt g l z_X3_find (emI M w) _ 18 [(0, .ref P), (1, .int a1), (2, .int a2), (3, .int x3)] [.int v1] (M, w)))
      refine Tt.go (fun _ => Tr.run 1 (pc' := 19) (lv' := [(0, .ref P), (1, .int a1), (2, .int a2), (3, .int x3)]) (st' := [.int a1, .int v1]) rfl) ?_
      refine Tt.ic_ne (tgt := 36) rfl (by decide) ?_ ?_
      · refine Tt.go (fun _ => Tr.run 1 (pc' := 23) (lv' := [(0, .ref P), (1, .int a1), (2, .int a2), (3, .int x3)]) (st' := [.ref P]) rfl) ?_
        refine Tt.go (fun _ => Tr.get fmc3 hP rfl fw158 (k := 1) (by decide) rfl) (?_ : Tt g l z_X3_find (emI M w) _ 26 [(0, .ref P), (1, .int a1), (2, .int a2), (3, .int x3)] [.ref (P + 3)] (M, w))
        refine Tt.go (fun _ => Tr.run 1 (pc' := 27) (lv' := [(0, .ref P), (1, .int a1), (2, .int a2), (3, .int x3)]) (st' := [.int x3, .ref (P + 3)]) rfl) ?_
        refine Tt.callV (As := [.int x3]) (rest := []) (c_X4_get g l hl (P + 3) 20 x3 (fmk_3_1 hP) (fmn_3_1 hP) (by decide) M w) (fmk_3_1 hP) (by decide) rfl rfl cw_X4_get fw337 pn_X4_get (Nat.le_of_ble_eq_true rfl) (Nat.le_of_ble_eq_true rfl) (Nat.le_of_ble_eq_true rfl) rfl (fun v2 => (?_ : Tt g l z_X3_find (emI M w) _ 30 [(0, .ref P), (1, .int a1), (2, .int a2), (3, .int x3)] [.int v2] (M, w)))
        refine Tt.go (fun _ => Tr.run 1 (pc' := 31) (lv' := [(0, .ref P), (1, .int a1), (2, .int a2), (3, .int x3)]) (st' := [.int a2, .int v2]) rfl) ?_
        refine Tt.ic_ne (tgt := 36) rfl (by decide) ?_ ?_
        · refine Tt.go (fun _ => Tr.run 1 (pc' := 35) (lv' := [(0, .ref P), (1, .int a1), (2, .int a2), (3, .int x3)]) (st' := [.int x3]) rfl) ?_
          exact Tt.ret (Tr.iret rfl rfl)
        · exact t_X3_find_36 g l hl P a1 a2 hP w _ ih x3 M
      · exact t_X3_find_36 g l hl P a1 a2 hP w _ ih x3 M
def f_X3_find (P : Nat) (a1 : Int32) (a2 : Int32) (M : fm_Mem) : Option (Int32) := (f_X3_find_2 P a1 a2 fm_fuel (0 : Int32) M)
theorem t_X3_find (g : fm_G) (l : Launch) (hl : l.stackTraces = false) (P : Nat) (a1 : Int32) (a2 : Int32) (hP : fm_kd g P = 3) (M : fm_Mem) (w : fm_W) : Tt g l z_X3_find (emI M w) (f_X3_find P a1 a2 M) 0 [(0, .ref P), (1, .int a1), (2, .int a2)] [] (M, w) := by
  rw [f_X3_find]
  refine Tt.go (fun _ => Tr.run 2 (pc' := 2) (lv' := [(3, .int (0 : Int32)), (0, .ref P), (1, .int a1), (2, .int a2)]) (st' := []) rfl) ?_
  refine Tt.go (fun _ => Tr.sub (lv' := [(0, .ref P), (1, .int a1), (2, .int a2), (3, .int (0 : Int32))]) [1, 2, 3, 0] rfl) ?_
  exact t_X3_find_2 g l hl P a1 a2 hP w fm_fuel (0 : Int32) M
theorem c_X3_find (g : fm_G) (l : Launch) (hl : l.stackTraces = false) (P : Nat) (a1 : Int32) (a2 : Int32) (hP : fm_kd g P = 3) (M : fm_Mem) (w : fm_W) : ∀ r, f_X3_find P a1 a2 M = some r → fC g l z_X3_find [.ref P, .int a1, .int a2] (M, w) (emI M w r) := fun r hr => fC.of (by decide) rfl o_X3_find hl (Nat.le_of_ble_eq_true rfl) (t_X3_find g l hl P a1 a2 hP M w r hr)
