theorem nw186 : Cond.fieldLinkNest "CircleFlips" 64 "CircleFlips$Plane" "points" "LCircleFlips$Points;" "CircleFlips" ∈ lw_tbl := List.mem_of_getElem? (i := 186) (by decide +kernel)
theorem nw187 : Cond.fieldLinkNest "CircleFlips$Setup" 87 "CircleFlips$Plane" "points" "LCircleFlips$Points;" "CircleFlips" ∈ lw_tbl := List.mem_of_getElem? (i := 187) (by decide +kernel)
theorem fw208 : Cond.fieldLink "CircleFlips$Setup" 23 "CircleFlips$Setup" "plane" "LCircleFlips$Plane;" ∈ lw_all := lw_in 208 (by decide +kernel) (by decide +kernel)
theorem nw209 : Cond.fieldLinkNest "CircleFlips" 59 "CircleFlips$Setup" "plane" "LCircleFlips$Plane;" "CircleFlips" ∈ lw_tbl := List.mem_of_getElem? (i := 209) (by decide +kernel)
theorem fw211 : Cond.fieldLink "CircleFlips$Setup" 66 "CircleFlips$Setup" "length" "I" ∈ lw_all := lw_in 211 (by decide +kernel) (by decide +kernel)
theorem fw212 : Cond.fieldLink "CircleFlips$Setup" 69 "CircleFlips$Setup" "next" "I" ∈ lw_all := lw_in 212 (by decide +kernel) (by decide +kernel)
theorem fw213 : Cond.fieldLink "CircleFlips$Setup" 44 "CircleFlips$Setup" "kind" "I" ∈ lw_all := lw_in 213 (by decide +kernel) (by decide +kernel)
theorem fw214 : Cond.fieldLink "CircleFlips$Setup" 78 "CircleFlips$Setup" "start" "I" ∈ lw_all := lw_in 214 (by decide +kernel) (by decide +kernel)
theorem fw215 : Cond.fieldLink "CircleFlips$Setup" 81 "CircleFlips$Setup" "number" "I" ∈ lw_all := lw_in 215 (by decide +kernel) (by decide +kernel)
theorem fw216 : Cond.fieldLink "CircleFlips$Setup" 41 "CircleFlips$Setup" "error" "I" ∈ lw_all := lw_in 216 (by decide +kernel) (by decide +kernel)
theorem nw217 : Cond.fieldLinkNest "CircleFlips" 53 "CircleFlips$Setup" "offset" "I" "CircleFlips" ∈ lw_tbl := List.mem_of_getElem? (i := 217) (by decide +kernel)
theorem fw218 : Cond.fieldLink "CircleFlips$Setup" 72 "CircleFlips$Setup" "offset" "I" ∈ lw_all := lw_in 218 (by decide +kernel) (by decide +kernel)
theorem fw219 : Cond.fieldLink "CircleFlips$Setup" 47 "CircleFlips$Setup" "isDrawn" "Z" ∈ lw_all := lw_in 219 (by decide +kernel) (by decide +kernel)
theorem fw267 : Cond.fieldLink "CircleFlips" 12 "CircleFlips" "setup" "LCircleFlips$Setup;" ∈ lw_all := lw_in 267 (by decide +kernel) (by decide +kernel)
theorem fw268 : Cond.fieldLink "CircleFlips" 19 "CircleFlips" "plane" "LCircleFlips$Plane;" ∈ lw_all := lw_in 268 (by decide +kernel) (by decide +kernel)
theorem fw269 : Cond.fieldLink "CircleFlips" 26 "CircleFlips" "hull" "LCircleFlips$Hull;" ∈ lw_all := lw_in 269 (by decide +kernel) (by decide +kernel)
theorem fw270 : Cond.fieldLink "CircleFlips" 30 "CircleFlips" "past" "[LCircleFlips$Plane;" ∈ lw_all := lw_in 270 (by decide +kernel) (by decide +kernel)
theorem fw271 : Cond.fieldLink "CircleFlips" 229 "CircleFlips" "changes" "I" ∈ lw_all := lw_in 271 (by decide +kernel) (by decide +kernel)
theorem fw272 : Cond.fieldLink "CircleFlips" 104 "CircleFlips" "undoable" "I" ∈ lw_all := lw_in 272 (by decide +kernel) (by decide +kernel)
theorem fw273 : Cond.fieldLink "CircleFlips" 34 "CircleFlips" "offsetOfError" "I" ∈ lw_all := lw_in 273 (by decide +kernel) (by decide +kernel)
theorem fw293 : Cond.methodLink "CircleFlips" 38 ⟨"CircleFlips$Setup", "size", "()I"⟩ ∈ lw_all := lw_in 293 (by decide +kernel) (by decide +kernel)
theorem fw297 : Cond.methodLink "CircleFlips" 42 ⟨"CircleFlips$Setup", "addWord", "(I)V"⟩ ∈ lw_all := lw_in 297 (by decide +kernel) (by decide +kernel)
theorem fw368 : Cond.methodLink "CircleFlips" 72 ⟨"CircleFlips$Points", "size", "()I"⟩ ∈ lw_all := lw_in 368 (by decide +kernel) (by decide +kernel)
theorem fw390 : Cond.methodLink "CircleFlips" 232 ⟨"CircleFlips", "pastOf", "(I)LCircleFlips$Plane;"⟩ ∈ lw_all := lw_in 390 (by decide +kernel) (by decide +kernel)
theorem fw394 : Cond.methodLink "CircleFlips" 272 ⟨"java/lang/Math", "floorMod", "(II)I"⟩ ∈ lw_all := lw_in 394 (by decide +kernel) (by decide +kernel)
theorem fw397 : Cond.methodLink "CircleFlips" 60 ⟨"CircleFlips$Plane", "copyFrom", "(LCircleFlips$Plane;)V"⟩ ∈ lw_all := lw_in 397 (by decide +kernel) (by decide +kernel)
theorem fw420 : Cond.methodLink "CircleFlips" 68 ⟨"CircleFlips$Hull", "renew", "(LCircleFlips$Points;)V"⟩ ∈ lw_all := lw_in 420 (by decide +kernel) (by decide +kernel)
theorem fw635 : Cond.methodLink "CircleFlips" 49 ⟨"CircleFlips$Setup", "read", "(I)I"⟩ ∈ lw_all := lw_in 635 (by decide +kernel) (by decide +kernel)
theorem fw639 : Cond.methodLink "CircleFlips$Setup" 35 ⟨"CircleFlips$Setup", "begin", "(I)V"⟩ ∈ lw_all := lw_in 639 (by decide +kernel) (by decide +kernel)
theorem fw643 : Cond.methodLink "CircleFlips$Setup" 63 ⟨"CircleFlips$Plane", "clear", "()V"⟩ ∈ lw_all := lw_in 643 (by decide +kernel) (by decide +kernel)
theorem fw659 : Cond.methodLink "CircleFlips$Setup" 75 ⟨"CircleFlips$Setup", "advance", "()V"⟩ ∈ lw_all := lw_in 659 (by decide +kernel) (by decide +kernel)
theorem fw663 : Cond.methodLink "CircleFlips$Setup" 113 ⟨"CircleFlips$Row", "get", "(I)I"⟩ ∈ lw_all := lw_in 663 (by decide +kernel) (by decide +kernel)
theorem fw664 : Cond.methodLink "CircleFlips$Setup" 117 ⟨"CircleFlips$Setup", "isDigit", "(I)Z"⟩ ∈ lw_all := lw_in 664 (by decide +kernel) (by decide +kernel)
theorem fw667 : Cond.methodLink "CircleFlips$Setup" 121 ⟨"CircleFlips$Setup", "readNumber", "()V"⟩ ∈ lw_all := lw_in 667 (by decide +kernel) (by decide +kernel)
theorem fw671 : Cond.methodLink "CircleFlips$Setup" 130 ⟨"java/lang/Math", "min", "(II)I"⟩ ∈ lw_all := lw_in 671 (by decide +kernel) (by decide +kernel)
theorem fw672 : Cond.methodLink "CircleFlips$Setup" 124 ⟨"CircleFlips$Setup", "isLetter", "(I)Z"⟩ ∈ lw_all := lw_in 672 (by decide +kernel) (by decide +kernel)
theorem fw675 : Cond.methodLink "CircleFlips$Setup" 127 ⟨"CircleFlips$Setup", "readWord", "()V"⟩ ∈ lw_all := lw_in 675 (by decide +kernel) (by decide +kernel)
theorem fw680 : Cond.methodLink "CircleFlips$Setup" 136 ⟨"CircleFlips$Setup", "isWord", "(Ljava/lang/String;)Z"⟩ ∈ lw_all := lw_in 680 (by decide +kernel) (by decide +kernel)
theorem fw684 : Cond.methodLink "CircleFlips$Setup" 144 ⟨"java/lang/String", "length", "()I"⟩ ∈ lw_all := lw_in 684 (by decide +kernel) (by decide +kernel)
theorem fw694 : Cond.methodLink "CircleFlips$Setup" 148 ⟨"java/lang/String", "charAt", "(I)C"⟩ ∈ lw_all := lw_in 694 (by decide +kernel) (by decide +kernel)
theorem fw734 : Cond.methodLink "CircleFlips$Setup" 38 ⟨"CircleFlips$Setup", "need", "(I)V"⟩ ∈ lw_all := lw_in 734 (by decide +kernel) (by decide +kernel)
theorem fw738 : Cond.methodLink "CircleFlips$Setup" 60 ⟨"CircleFlips$Setup", "fail", "(I)V"⟩ ∈ lw_all := lw_in 738 (by decide +kernel) (by decide +kernel)
theorem fw742 : Cond.methodLink "CircleFlips$Setup" 51 ⟨"CircleFlips$Setup", "readPlaces", "()V"⟩ ∈ lw_all := lw_in 742 (by decide +kernel) (by decide +kernel)
theorem fw746 : Cond.methodLink "CircleFlips$Setup" 84 ⟨"CircleFlips$Setup", "needNumber", "(I)V"⟩ ∈ lw_all := lw_in 746 (by decide +kernel) (by decide +kernel)
theorem fw750 : Cond.methodLink "CircleFlips$Setup" 91 ⟨"CircleFlips$Points", "size", "()I"⟩ ∈ lw_all := lw_in 750 (by decide +kernel) (by decide +kernel)
theorem fw751 : Cond.methodLink "CircleFlips$Setup" 97 ⟨"CircleFlips$Points", "find", "(II)I"⟩ ∈ lw_all := lw_in 751 (by decide +kernel) (by decide +kernel)
theorem fw755 : Cond.methodLink "CircleFlips$Setup" 101 ⟨"CircleFlips$Points", "add", "(II)V"⟩ ∈ lw_all := lw_in 755 (by decide +kernel) (by decide +kernel)
theorem fw764 : Cond.methodLink "CircleFlips$Setup" 54 ⟨"CircleFlips$Setup", "draw", "()V"⟩ ∈ lw_all := lw_in 764 (by decide +kernel) (by decide +kernel)
theorem fw768 : Cond.methodLink "CircleFlips$Setup" 110 ⟨"CircleFlips$Plane", "renew", "()V"⟩ ∈ lw_all := lw_in 768 (by decide +kernel) (by decide +kernel)
theorem fw800 : Cond.methodLink "CircleFlips$Setup" 57 ⟨"CircleFlips$Setup", "readFlip", "()V"⟩ ∈ lw_all := lw_in 800 (by decide +kernel) (by decide +kernel)
theorem fw804 : Cond.methodLink "CircleFlips$Setup" 104 ⟨"CircleFlips$Plane", "refusal", "(II)I"⟩ ∈ lw_all := lw_in 804 (by decide +kernel) (by decide +kernel)
theorem fw808 : Cond.methodLink "CircleFlips$Setup" 107 ⟨"CircleFlips$Plane", "flipEdge", "(II)I"⟩ ∈ lw_all := lw_in 808 (by decide +kernel) (by decide +kernel)
theorem fw820 : Cond.methodLink "CircleFlips" 56 ⟨"CircleFlips", "remember", "()V"⟩ ∈ lw_all := lw_in 820 (by decide +kernel) (by decide +kernel)
theorem fw824 : Cond.methodLink "CircleFlips" 269 ⟨"java/lang/Math", "min", "(II)I"⟩ ∈ lw_all := lw_in 824 (by decide +kernel) (by decide +kernel)
def k_X5_isDigit : List (Nat × Instr × Nat) := [(0, .iload_n 0, 1), (1, .bipush 48, 2), (3, .if_icmp .lt 13, 3), (6, .iload_n 0, 1), (7, .bipush 57, 2), (9, .if_icmp .gt 7, 3), (12, .iconst 1, 1), (13, .goto 4, 3), (16, .iconst 0, 1), (17, .ireturn, 1)]
def z_X5_isDigit : fm_Y := (yX5_isDigit, RX5, cX5_isDigit, 1, (some .boolean), k_X5_isDigit, 0, 0)
theorem o_X5_isDigit : fm_dec z_X5_isDigit := (by decide +kernel : ∀ q ∈ k_X5_isDigit, decode cX5_isDigit q.1 = .ok q.2)
theorem cw_X5_isDigit : fm_cwS z_X5_isDigit := ⟨⟨lw_in 666 (by decide +kernel) (by decide +kernel), lw_in 92 (by decide +kernel) (by decide +kernel), by decide, by decide⟩, lw_in 665 (by decide +kernel) (by decide +kernel)⟩
theorem pn_X5_isDigit : (parseMethodDescriptor z_X5_isDigit.1.desc).map (fun d => d.parameters.length) = some 1 := by decide +kernel
def f_X5_isDigit_17 (a0 : Int32) (s0 : Int32) (M : fm_Mem) : Option (Int32) := fm_ck (fm_bo s0) (some (s0))
set_option maxRecDepth 100000 in
set_option maxHeartbeats 4000000 in
theorem t_X5_isDigit_17 (g : fm_G) (l : Launch) (hl : l.stackTraces = false) (a0 : Int32)  (w : fm_W)  (s0 : Int32)  (M : fm_Mem) : Tt g l z_X5_isDigit (emI M w) (f_X5_isDigit_17 a0  s0 M) 17 [] [.int s0] (M, w) := by
  rw [f_X5_isDigit_17]
  exact Tt.ck (fun hb_1 => Tt.ret (Tr.zret rfl rfl hb_1))
def f_X5_isDigit_16 (a0 : Int32)  (M : fm_Mem) : Option (Int32) := (f_X5_isDigit_17 a0 (0 : Int32) M)
set_option maxRecDepth 100000 in
set_option maxHeartbeats 4000000 in
theorem t_X5_isDigit_16 (g : fm_G) (l : Launch) (hl : l.stackTraces = false) (a0 : Int32)  (w : fm_W)    (M : fm_Mem) : Tt g l z_X5_isDigit (emI M w) (f_X5_isDigit_16 a0   M) 16 [] [] (M, w) := by
  rw [f_X5_isDigit_16]
  refine Tt.go (fun _ => Tr.run 1 (pc' := 17) (lv' := []) (st' := [.int (0 : Int32)]) rfl) ?_
  exact t_X5_isDigit_17 g l hl a0 w (0 : Int32) M
def f_X5_isDigit (a0 : Int32) (M : fm_Mem) : Option (Int32) := if a0 < (48 : Int32) then (f_X5_isDigit_16 a0 M) else (if (57 : Int32) < a0 then (f_X5_isDigit_16 a0 M) else (f_X5_isDigit_17 a0 (1 : Int32) M))
set_option maxRecDepth 100000 in
set_option maxHeartbeats 4000000 in
theorem t_X5_isDigit (g : fm_G) (l : Launch) (hl : l.stackTraces = false) (a0 : Int32)  (M : fm_Mem) (w : fm_W) : Tt g l z_X5_isDigit (emI M w) (f_X5_isDigit a0 M) 0 [(0, .int a0)] [] (M, w) := by
  rw [f_X5_isDigit]
  refine Tt.go (fun _ => Tr.run 2 (pc' := 3) (lv' := [(0, .int a0)]) (st' := [.int (48 : Int32), .int a0]) rfl) ?_
  refine Tt.ic_lt (tgt := 16) rfl (by decide) ?_ ?_
  · refine Tt.go (fun _ => Tr.sub (lv' := []) [] rfl) ?_
    exact t_X5_isDigit_16 g l hl a0 w M
  · refine Tt.go (fun _ => Tr.run 2 (pc' := 9) (lv' := [(0, .int a0)]) (st' := [.int (57 : Int32), .int a0]) rfl) ?_
    refine Tt.ic_gt (tgt := 16) rfl (by decide) ?_ ?_
    · refine Tt.go (fun _ => Tr.sub (lv' := []) [] rfl) ?_
      exact t_X5_isDigit_16 g l hl a0 w M
    · refine Tt.go (fun _ => Tr.run 2 (pc' := 17) (lv' := [(0, .int a0)]) (st' := [.int (1 : Int32)]) rfl) ?_
      refine Tt.go (fun _ => Tr.sub (lv' := []) [] rfl) ?_
      exact t_X5_isDigit_17 g l hl a0 w (1 : Int32) M
theorem c_X5_isDigit (g : fm_G) (l : Launch) (hl : l.stackTraces = false) (a0 : Int32)  (M : fm_Mem) (w : fm_W) : ∀ r, f_X5_isDigit a0 M = some r → fC g l z_X5_isDigit [.int a0] (M, w) (emI M w r) := fun r hr => fC.of (by decide) rfl o_X5_isDigit hl (Nat.le_of_ble_eq_true rfl) (t_X5_isDigit g l hl a0  M w r hr)
def k_X5_readNumber : List (Nat × Instr × Nat) := [(0, .aload_n 0, 1), (1, .iconst 2, 1), (2, .putfield 44, 3), (5, .aload_n 0, 1), (6, .iconst 0, 1), (7, .putfield 81, 3), (10, .aload_n 0, 1), (11, .getfield 69, 3), (14, .aload_n 0, 1), (15, .getfield 66, 3), (18, .if_icmp .ge 65, 3), (21, .aload_n 0, 1), (22, .getfield 14, 3), (25, .aload_n 0, 1), (26, .getfield 69, 3), (29, .invokevirtual 113, 3), (32, .invokestatic 117, 3), (35, .ifCond .eq 48, 3), (38, .aload_n 0, 1), (39, .aload_n 0, 1), (40, .getfield 81, 3), (43, .bipush 10, 2), (45, .imul, 1), (46, .aload_n 0, 1), (47, .getfield 14, 3), (50, .aload_n 0, 1), (51, .getfield 69, 3), (54, .invokevirtual 113, 3), (57, .iadd, 1), (58, .bipush 48, 2), (60, .isub, 1), (61, .sipush 1000, 3), (64, .invokestatic 130, 3), (67, .putfield 81, 3), (70, .aload_n 0, 1), (71, .dup, 1), (72, .getfield 69, 3), (75, .iconst 1, 1), (76, .iadd, 1), (77, .putfield 69, 3), (80, .goto (-70), 3), (83, .return_, 1)]
def z_X5_readNumber : fm_Y := (yX5_readNumber, RX5, cX5_readNumber, 1, none, k_X5_readNumber, 1, 21)
theorem o_X5_readNumber : fm_dec z_X5_readNumber := (by decide +kernel : ∀ q ∈ k_X5_readNumber, decode cX5_readNumber q.1 = .ok q.2)
theorem cw_X5_readNumber : fm_cwV z_X5_readNumber := ⟨⟨lw_in 670 (by decide +kernel) (by decide +kernel), lw_in 92 (by decide +kernel) (by decide +kernel), by decide, by decide⟩, lw_in 669 (by decide +kernel) (by decide +kernel), lw_in 10 (by decide +kernel) (by decide +kernel)⟩
theorem pn_X5_readNumber : (parseMethodDescriptor z_X5_readNumber.1.desc).map (fun d => d.parameters.length) = some 0 := by decide +kernel
def f_X5_readNumber_83 (P : Nat)  (M : fm_Mem) : Option (fm_Mem) := some (M)
set_option maxRecDepth 100000 in
set_option maxHeartbeats 4000000 in
theorem t_X5_readNumber_83 (g : fm_G) (l : Launch) (hl : l.stackTraces = false) (P : Nat) (hP : fm_kd g P = 5) (w : fm_W) (M0 : fm_Mem)    (M : fm_Mem) : Tt g l z_X5_readNumber (emVw M0 w) (f_X5_readNumber_83 P   M) 83 [] [] (M, w) := by
  rw [f_X5_readNumber_83]
  exact Tt.ret (Tr.vret rfl rfl)
def f_X5_readNumber_10 (P : Nat) : Nat → fm_Mem → Option (fm_Mem)
  | 0, _ => none
  | n + 1, M => if (M P 3) ≤ (M P 4) then (f_X5_readNumber_83 P M) else (Option.bind (f_X4_get (P + 1) 400 (M P 4) M) (fun v1 => Option.bind (f_X5_isDigit v1 M) (fun v2 => if v2 = 0 then (f_X5_readNumber_83 P M) else (Option.bind (f_X4_get (P + 1) 400 (M P 4) M) (fun v3 => (f_X5_readNumber_10 P n (fm_up (fm_up M P 7 (fm_min ((((M P 7) * (10 : Int32)) + v3) - (48 : Int32)) (1000 : Int32))) P 4 (((fm_up M P 7 (fm_min ((((M P 7) * (10 : Int32)) + v3) - (48 : Int32)) (1000 : Int32))) P 4) + (1 : Int32)))))))))
set_option maxRecDepth 100000 in
set_option maxHeartbeats 4000000 in
theorem t_X5_readNumber_10 (g : fm_G) (l : Launch) (hl : l.stackTraces = false) (P : Nat) (hP : fm_kd g P = 5) (w : fm_W) (M0 : fm_Mem)  : ∀ (n : Nat)   (M : fm_Mem), Tt g l z_X5_readNumber (emVw M0 w) (f_X5_readNumber_10 P  n  M) 10 [(0, .ref P)] [] (M, w) := by
  intro n
  induction n with
  | zero => intros; exact Tt.none
  | succ n ih =>
    intro   M
    rw [f_X5_readNumber_10]
    refine Tt.go (fun _ => Tr.run 1 (pc' := 11) (lv' := [(0, .ref P)]) (st' := [.ref P]) rfl) ?_
    refine Tt.go (fun _ => Tr.get fmc5 hP rfl fw212 (k := 4) (by decide) rfl) (?_ : Tt g l z_X5_readNumber (emVw M0 w) _ 14 [(0, .ref P)] [.int (M P 4)] (M, w))
    refine Tt.go (fun _ => Tr.run 1 (pc' := 15) (lv' := [(0, .ref P)]) (st' := [.ref P, .int (M P 4)]) rfl) ?_
    refine Tt.go (fun _ => Tr.get fmc5 hP rfl fw211 (k := 3) (by decide) rfl) (?_ : Tt g l z_X5_readNumber (emVw M0 w) _ 18 [(0, .ref P)] [.int (M P 3), .int (M P 4)] (M, w))
    refine Tt.ic_ge (tgt := 83) rfl (by decide) ?_ ?_
    · refine Tt.go (fun _ => Tr.sub (lv' := []) [] rfl) ?_
      exact t_X5_readNumber_83 g l hl P hP w M0 M
    · refine Tt.go (fun _ => Tr.run 1 (pc' := 22) (lv' := [(0, .ref P)]) (st' := [.ref P]) rfl) ?_
      refine Tt.go (fun _ => Tr.get fmc5 hP rfl fw207 (k := 0) (by decide) rfl) (?_ : Tt g l z_X5_readNumber (emVw M0 w) _ 25 [(0, .ref P)] [.ref (P + 1)] (M, w))
      refine Tt.go (fun _ => Tr.run 1 (pc' := 26) (lv' := [(0, .ref P)]) (st' := [.ref P, .ref (P + 1)]) rfl) ?_
      refine Tt.go (fun _ => Tr.get fmc5 hP rfl fw212 (k := 4) (by decide) rfl) (?_ : Tt g l z_X5_readNumber (emVw M0 w) _ 29 [(0, .ref P)] [.int (M P 4), .ref (P + 1)] (M, w))
      refine Tt.callV (As := [.int (M P 4)]) (rest := []) (c_X4_get g l hl (P + 1) 400 (M P 4) (fmk_5_0 hP) (fmn_5_0 hP) (by decide) M w) (fmk_5_0 hP) (by decide) rfl rfl cw_X4_get fw663 pn_X4_get (Nat.le_of_ble_eq_true rfl) (Nat.le_of_ble_eq_true rfl) (Nat.le_of_ble_eq_true rfl) rfl (fun v1 => (?_ : Tt g l z_X5_readNumber (emVw M0 w) _ 32 [(0, .ref P)] [.int v1] (M, w)))
      refine Tt.callS (As := [.int v1]) (rest := []) (c_X5_isDigit g l hl v1 M w) rfl cw_X5_isDigit fw664 pn_X5_isDigit (Nat.le_of_ble_eq_true rfl) (Nat.le_of_ble_eq_true rfl) (Nat.le_of_ble_eq_true rfl) rfl (fun v2 => (?_ : Tt g l z_X5_readNumber (emVw M0 w) _ 35 [(0, .ref P)] [.int v2] (M, w)))
      refine Tt.if_eq (tgt := 83) rfl (by decide) ?_ ?_
      · refine Tt.go (fun _ => Tr.sub (lv' := []) [] rfl) ?_
        exact t_X5_readNumber_83 g l hl P hP w M0 M
      · refine Tt.go (fun _ => Tr.run 2 (pc' := 40) (lv' := [(0, .ref P)]) (st' := [.ref P, .ref P]) rfl) ?_
        refine Tt.go (fun _ => Tr.get fmc5 hP rfl fw215 (k := 7) (by decide) rfl) (?_ : Tt g l z_X5_readNumber (emVw M0 w) _ 43 [(0, .ref P)] [.int (M P 7), .ref P] (M, w))
        refine Tt.go (fun _ => Tr.run 3 (pc' := 47) (lv' := [(0, .ref P)]) (st' := [.ref P, .int ((M P 7) * (10 : Int32)), .ref P]) rfl) ?_
        refine Tt.go (fun _ => Tr.get fmc5 hP rfl fw207 (k := 0) (by decide) rfl) (?_ : Tt g l z_X5_readNumber (emVw M0 w) _ 50 [(0, .ref P)] [.ref (P + 1), .int ((M P 7) * (10 : Int32)), .ref P] (M, w))
        refine Tt.go (fun _ => Tr.run 1 (pc' := 51) (lv' := [(0, .ref P)]) (st' := [.ref P, .ref (P + 1), .int ((M P 7) * (10 : Int32)), .ref P]) rfl) ?_
        refine Tt.go (fun _ => Tr.get fmc5 hP rfl fw212 (k := 4) (by decide) rfl) (?_ : Tt g l z_X5_readNumber (emVw M0 w) _ 54 [(0, .ref P)] [.int (M P 4), .ref (P + 1), .int ((M P 7) * (10 : Int32)), .ref P] (M, w))
        refine Tt.callV (As := [.int (M P 4)]) (rest := [.int ((M P 7) * (10 : Int32)), .ref P]) (c_X4_get g l hl (P + 1) 400 (M P 4) (fmk_5_0 hP) (fmn_5_0 hP) (by decide) M w) (fmk_5_0 hP) (by decide) rfl rfl cw_X4_get fw663 pn_X4_get (Nat.le_of_ble_eq_true rfl) (Nat.le_of_ble_eq_true rfl) (Nat.le_of_ble_eq_true rfl) rfl (fun v3 => (?_ : Tt g l z_X5_readNumber (emVw M0 w) _ 57 [(0, .ref P)] [.int v3, .int ((M P 7) * (10 : Int32)), .ref P] (M, w)))
        refine Tt.go (fun _ => Tr.run 4 (pc' := 64) (lv' := [(0, .ref P)]) (st' := [.int (1000 : Int32), .int ((((M P 7) * (10 : Int32)) + v3) - (48 : Int32)), .ref P]) rfl) ?_
        refine Tt.go (fun _ => Tr.min rfl ⟨fw671, fw410, fw94, fw411⟩ (Nat.le_of_ble_eq_true rfl) (Nat.le_of_ble_eq_true rfl)) (?_ : Tt g l z_X5_readNumber (emVw M0 w) _ 67 [(0, .ref P)] [.int (fm_min ((((M P 7) * (10 : Int32)) + v3) - (48 : Int32)) (1000 : Int32)), .ref P] (M, w))
        refine Tt.go (fun _ => Tr.put fmc5 hP rfl fw215 (k := 7) (by decide) rfl rfl ⟨rfl, rfl⟩) (?_ : Tt g l z_X5_readNumber (emVw M0 w) _ 70 [(0, .ref P)] [] ((fm_up M P 7 (fm_min ((((M P 7) * (10 : Int32)) + v3) - (48 : Int32)) (1000 : Int32))), w))
        refine Tt.go (fun _ => Tr.run 2 (pc' := 72) (lv' := [(0, .ref P)]) (st' := [.ref P, .ref P]) rfl) ?_
        refine Tt.go (fun _ => Tr.get fmc5 hP rfl fw212 (k := 4) (by decide) rfl) (?_ : Tt g l z_X5_readNumber (emVw M0 w) _ 75 [(0, .ref P)] [.int ((fm_up M P 7 (fm_min ((((M P 7) * (10 : Int32)) + v3) - (48 : Int32)) (1000 : Int32))) P 4), .ref P] ((fm_up M P 7 (fm_min ((((M P 7) * (10 : Int32)) + v3) - (48 : Int32)) (1000 : Int32))), w))
        refine Tt.go (fun _ => Tr.run 2 (pc' := 77) (lv' := [(0, .ref P)]) (st' := [.int (((fm_up M P 7 (fm_min ((((M P 7) * (10 : Int32)) + v3) - (48 : Int32)) (1000 : Int32))) P 4) + (1 : Int32)), .ref P]) rfl) ?_
        refine Tt.go (fun _ => Tr.put fmc5 hP rfl fw212 (k := 4) (by decide) rfl rfl ⟨rfl, rfl⟩) (?_ : Tt g l z_X5_readNumber (emVw M0 w) _ 80 [(0, .ref P)] [] ((fm_up (fm_up M P 7 (fm_min ((((M P 7) * (10 : Int32)) + v3) - (48 : Int32)) (1000 : Int32))) P 4 (((fm_up M P 7 (fm_min ((((M P 7) * (10 : Int32)) + v3) - (48 : Int32)) (1000 : Int32))) P 4) + (1 : Int32))), w))
        refine Tt.go (fun _ => Tr.run 1 (pc' := 10) (lv' := [(0, .ref P)]) (st' := []) rfl) ?_
        exact ih (fm_up (fm_up M P 7 (fm_min ((((M P 7) * (10 : Int32)) + v3) - (48 : Int32)) (1000 : Int32))) P 4 (((fm_up M P 7 (fm_min ((((M P 7) * (10 : Int32)) + v3) - (48 : Int32)) (1000 : Int32))) P 4) + (1 : Int32)))
def f_X5_readNumber (P : Nat) (M : fm_Mem) : Option (fm_Mem) := (f_X5_readNumber_10 P fm_fuel (fm_up (fm_up M P 5 (2 : Int32)) P 7 (0 : Int32)))
set_option maxRecDepth 100000 in
set_option maxHeartbeats 4000000 in
theorem t_X5_readNumber (g : fm_G) (l : Launch) (hl : l.stackTraces = false) (P : Nat) (hP : fm_kd g P = 5) (M : fm_Mem) (w : fm_W) : Tt g l z_X5_readNumber (emVw M w) (f_X5_readNumber P M) 0 [(0, .ref P)] [] (M, w) := by
  rw [f_X5_readNumber]
  refine Tt.go (fun _ => Tr.run 2 (pc' := 2) (lv' := [(0, .ref P)]) (st' := [.int (2 : Int32), .ref P]) rfl) ?_
  refine Tt.go (fun _ => Tr.put fmc5 hP rfl fw213 (k := 5) (by decide) rfl rfl ⟨rfl, rfl⟩) (?_ : Tt g l z_X5_readNumber (emVw M w) _ 5 [(0, .ref P)] [] ((fm_up M P 5 (2 : Int32)), w))
  refine Tt.go (fun _ => Tr.run 2 (pc' := 7) (lv' := [(0, .ref P)]) (st' := [.int (0 : Int32), .ref P]) rfl) ?_
  refine Tt.go (fun _ => Tr.put fmc5 hP rfl fw215 (k := 7) (by decide) rfl rfl ⟨rfl, rfl⟩) (?_ : Tt g l z_X5_readNumber (emVw M w) _ 10 [(0, .ref P)] [] ((fm_up (fm_up M P 5 (2 : Int32)) P 7 (0 : Int32)), w))
  exact t_X5_readNumber_10 g l hl P hP w M fm_fuel (fm_up (fm_up M P 5 (2 : Int32)) P 7 (0 : Int32))
theorem c_X5_readNumber (g : fm_G) (l : Launch) (hl : l.stackTraces = false) (P : Nat) (hP : fm_kd g P = 5) (M : fm_Mem) (w : fm_W) : ∀ r, f_X5_readNumber P M = some r → fC g l z_X5_readNumber [.ref P] (M, w) (emVw M w r) := fun r hr => fC.of (by decide) rfl o_X5_readNumber hl (Nat.le_of_ble_eq_true rfl) (t_X5_readNumber g l hl P hP M w r hr)
def k_X5_isLetter : List (Nat × Instr × Nat) := [(0, .iload_n 0, 1), (1, .bipush 97, 2), (3, .if_icmp .lt 13, 3), (6, .iload_n 0, 1), (7, .bipush 122, 2), (9, .if_icmp .gt 7, 3), (12, .iconst 1, 1), (13, .goto 4, 3), (16, .iconst 0, 1), (17, .ireturn, 1)]
def z_X5_isLetter : fm_Y := (yX5_isLetter, RX5, cX5_isLetter, 1, (some .boolean), k_X5_isLetter, 0, 0)
theorem o_X5_isLetter : fm_dec z_X5_isLetter := (by decide +kernel : ∀ q ∈ k_X5_isLetter, decode cX5_isLetter q.1 = .ok q.2)
theorem cw_X5_isLetter : fm_cwS z_X5_isLetter := ⟨⟨lw_in 674 (by decide +kernel) (by decide +kernel), lw_in 92 (by decide +kernel) (by decide +kernel), by decide, by decide⟩, lw_in 673 (by decide +kernel) (by decide +kernel)⟩
theorem pn_X5_isLetter : (parseMethodDescriptor z_X5_isLetter.1.desc).map (fun d => d.parameters.length) = some 1 := by decide +kernel
def f_X5_isLetter_17 (a0 : Int32) (s0 : Int32) (M : fm_Mem) : Option (Int32) := fm_ck (fm_bo s0) (some (s0))
set_option maxRecDepth 100000 in
set_option maxHeartbeats 4000000 in
theorem t_X5_isLetter_17 (g : fm_G) (l : Launch) (hl : l.stackTraces = false) (a0 : Int32)  (w : fm_W)  (s0 : Int32)  (M : fm_Mem) : Tt g l z_X5_isLetter (emI M w) (f_X5_isLetter_17 a0  s0 M) 17 [] [.int s0] (M, w) := by
  rw [f_X5_isLetter_17]
  exact Tt.ck (fun hb_1 => Tt.ret (Tr.zret rfl rfl hb_1))
def f_X5_isLetter_16 (a0 : Int32)  (M : fm_Mem) : Option (Int32) := (f_X5_isLetter_17 a0 (0 : Int32) M)
set_option maxRecDepth 100000 in
set_option maxHeartbeats 4000000 in
theorem t_X5_isLetter_16 (g : fm_G) (l : Launch) (hl : l.stackTraces = false) (a0 : Int32)  (w : fm_W)    (M : fm_Mem) : Tt g l z_X5_isLetter (emI M w) (f_X5_isLetter_16 a0   M) 16 [] [] (M, w) := by
  rw [f_X5_isLetter_16]
  refine Tt.go (fun _ => Tr.run 1 (pc' := 17) (lv' := []) (st' := [.int (0 : Int32)]) rfl) ?_
  exact t_X5_isLetter_17 g l hl a0 w (0 : Int32) M
def f_X5_isLetter (a0 : Int32) (M : fm_Mem) : Option (Int32) := if a0 < (97 : Int32) then (f_X5_isLetter_16 a0 M) else (if (122 : Int32) < a0 then (f_X5_isLetter_16 a0 M) else (f_X5_isLetter_17 a0 (1 : Int32) M))
set_option maxRecDepth 100000 in
set_option maxHeartbeats 4000000 in
theorem t_X5_isLetter (g : fm_G) (l : Launch) (hl : l.stackTraces = false) (a0 : Int32)  (M : fm_Mem) (w : fm_W) : Tt g l z_X5_isLetter (emI M w) (f_X5_isLetter a0 M) 0 [(0, .int a0)] [] (M, w) := by
  rw [f_X5_isLetter]
  refine Tt.go (fun _ => Tr.run 2 (pc' := 3) (lv' := [(0, .int a0)]) (st' := [.int (97 : Int32), .int a0]) rfl) ?_
  refine Tt.ic_lt (tgt := 16) rfl (by decide) ?_ ?_
  · refine Tt.go (fun _ => Tr.sub (lv' := []) [] rfl) ?_
    exact t_X5_isLetter_16 g l hl a0 w M
  · refine Tt.go (fun _ => Tr.run 2 (pc' := 9) (lv' := [(0, .int a0)]) (st' := [.int (122 : Int32), .int a0]) rfl) ?_
    refine Tt.ic_gt (tgt := 16) rfl (by decide) ?_ ?_
    · refine Tt.go (fun _ => Tr.sub (lv' := []) [] rfl) ?_
      exact t_X5_isLetter_16 g l hl a0 w M
    · refine Tt.go (fun _ => Tr.run 2 (pc' := 17) (lv' := [(0, .int a0)]) (st' := [.int (1 : Int32)]) rfl) ?_
      refine Tt.go (fun _ => Tr.sub (lv' := []) [] rfl) ?_
      exact t_X5_isLetter_17 g l hl a0 w (1 : Int32) M
theorem c_X5_isLetter (g : fm_G) (l : Launch) (hl : l.stackTraces = false) (a0 : Int32)  (M : fm_Mem) (w : fm_W) : ∀ r, f_X5_isLetter a0 M = some r → fC g l z_X5_isLetter [.int a0] (M, w) (emI M w r) := fun r hr => fC.of (by decide) rfl o_X5_isLetter hl (Nat.le_of_ble_eq_true rfl) (t_X5_isLetter g l hl a0  M w r hr)
def k_X5_isWord : List (Nat × Instr × Nat) := [(0, .aload_n 0, 1), (1, .getfield 69, 3), (4, .aload_n 0, 1), (5, .getfield 78, 3), (8, .isub, 1), (9, .aload_n 1, 1), (10, .invokevirtual 144, 3), (13, .if_icmp .eq 5, 3), (16, .iconst 0, 1), (17, .ireturn, 1), (18, .iconst 0, 1), (19, .istore_n 2, 1), (20, .iload_n 2, 1), (21, .aload_n 1, 1), (22, .invokevirtual 144, 3), (25, .if_icmp .ge 32, 3), (28, .aload_n 0, 1), (29, .getfield 14, 3), (32, .aload_n 0, 1), (33, .getfield 78, 3), (36, .iload_n 2, 1), (37, .iadd, 1), (38, .invokevirtual 113, 3), (41, .aload_n 1, 1), (42, .iload_n 2, 1), (43, .invokevirtual 148, 3), (46, .if_icmp .eq 5, 3), (49, .iconst 0, 1), (50, .ireturn, 1), (51, .iinc 2 1, 3), (54, .goto (-34), 3), (57, .iconst 1, 1), (58, .ireturn, 1)]
def z_X5_isWord : fm_Y := (yX5_isWord, RX5, cX5_isWord, 3, (some .boolean), k_X5_isWord, 5, 141)
theorem o_X5_isWord : fm_dec z_X5_isWord := (by decide +kernel : ∀ q ∈ k_X5_isWord, decode cX5_isWord q.1 = .ok q.2)
theorem cw_X5_isWord : fm_cwV z_X5_isWord := ⟨⟨lw_in 683 (by decide +kernel) (by decide +kernel), lw_in 92 (by decide +kernel) (by decide +kernel), by decide, by decide⟩, lw_in 682 (by decide +kernel) (by decide +kernel), lw_in 12 (by decide +kernel) (by decide +kernel)⟩
theorem pn_X5_isWord : (parseMethodDescriptor z_X5_isWord.1.desc).map (fun d => d.parameters.length) = some 1 := by decide +kernel
def f_X5_isWord_20 (P : Nat) (i1 : Nat) : Nat → Int32 → fm_Mem → Option (Int32)
  | 0, _, _ => none
  | n + 1, x2, M => Option.bind (f_S_length i1) (fun v1 => if v1 ≤ x2 then (some ((1 : Int32))) else (Option.bind (f_X4_get (P + 1) 400 ((M P 6) + x2) M) (fun v2 => Option.bind (f_S_charAt i1 x2) (fun v3 => if v2 = v3 then (f_X5_isWord_20 P i1 n (x2 + (1 : Int32)) M) else (some ((0 : Int32)))))))
set_option maxRecDepth 100000 in
set_option maxHeartbeats 4000000 in
theorem t_X5_isWord_20 (g : fm_G) (l : Launch) (hl : l.stackTraces = false) (P : Nat) (i1 : Nat) (hP : fm_kd g P = 5) (hi1 : i1 < 6) (w : fm_W)  : ∀ (n : Nat) (x2 : Int32)  (M : fm_Mem), Tt g l z_X5_isWord (emI M w) (f_X5_isWord_20 P i1  n x2 M) 20 [(0, .ref P), (1, .ref (g.2.2.2.1 i1)), (2, .int x2)] [] (M, w) := by
  intro n
  induction n with
  | zero => intros; exact Tt.none
  | succ n ih =>
    intro x2  M
    rw [f_X5_isWord_20]
    refine Tt.go (fun _ => Tr.run 2 (pc' := 22) (lv' := [(0, .ref P), (1, .ref (g.2.2.2.1 i1)), (2, .int x2)]) (st' := [.ref (g.2.2.2.1 i1), .int x2]) rfl) ?_
    refine Tt.callT (As := []) (rest := [.int x2]) (c_S_length g l hl i1 hi1 M w) hi1 rfl rfl cw_S_length fw684 pn_S_length (Nat.le_of_ble_eq_true rfl) (Nat.le_of_ble_eq_true rfl) (Nat.le_of_ble_eq_true rfl) rfl (fun v1 => (?_ : Tt g l z_X5_isWord (emI M w) _ 25 [(0, .ref P), (1, .ref (g.2.2.2.1 i1)), (2, .int x2)] [.int v1, .int x2] (M, w)))
    refine Tt.ic_ge (tgt := 57) rfl (by decide) ?_ ?_
    · refine Tt.go (fun _ => Tr.run 1 (pc' := 58) (lv' := [(0, .ref P), (1, .ref (g.2.2.2.1 i1)), (2, .int x2)]) (st' := [.int (1 : Int32)]) rfl) ?_
      exact Tt.ret (Tr.zret rfl rfl fm_bo1)
    · refine Tt.go (fun _ => Tr.run 1 (pc' := 29) (lv' := [(0, .ref P), (1, .ref (g.2.2.2.1 i1)), (2, .int x2)]) (st' := [.ref P]) rfl) ?_
      refine Tt.go (fun _ => Tr.get fmc5 hP rfl fw207 (k := 0) (by decide) rfl) (?_ : Tt g l z_X5_isWord (emI M w) _ 32 [(0, .ref P), (1, .ref (g.2.2.2.1 i1)), (2, .int x2)] [.ref (P + 1)] (M, w))
      refine Tt.go (fun _ => Tr.run 1 (pc' := 33) (lv' := [(0, .ref P), (1, .ref (g.2.2.2.1 i1)), (2, .int x2)]) (st' := [.ref P, .ref (P + 1)]) rfl) ?_
      refine Tt.go (fun _ => Tr.get fmc5 hP rfl fw214 (k := 6) (by decide) rfl) (?_ : Tt g l z_X5_isWord (emI M w) _ 36 [(0, .ref P), (1, .ref (g.2.2.2.1 i1)), (2, .int x2)] [.int (M P 6), .ref (P + 1)] (M, w))
      refine Tt.go (fun _ => Tr.run 2 (pc' := 38) (lv' := [(0, .ref P), (1, .ref (g.2.2.2.1 i1)), (2, .int x2)]) (st' := [.int ((M P 6) + x2), .ref (P + 1)]) rfl) ?_
      refine Tt.callV (As := [.int ((M P 6) + x2)]) (rest := []) (c_X4_get g l hl (P + 1) 400 ((M P 6) + x2) (fmk_5_0 hP) (fmn_5_0 hP) (by decide) M w) (fmk_5_0 hP) (by decide) rfl rfl cw_X4_get fw663 pn_X4_get (Nat.le_of_ble_eq_true rfl) (Nat.le_of_ble_eq_true rfl) (Nat.le_of_ble_eq_true rfl) rfl (fun v2 => (?_ : Tt g l z_X5_isWord (emI M w) _ 41 [(0, .ref P), (1, .ref (g.2.2.2.1 i1)), (2, .int x2)] [.int v2] (M, w)))
      refine Tt.go (fun _ => Tr.run 2 (pc' := 43) (lv' := [(0, .ref P), (1, .ref (g.2.2.2.1 i1)), (2, .int x2)]) (st' := [.int x2, .ref (g.2.2.2.1 i1), .int v2]) rfl) ?_
      refine Tt.callT (As := [.int x2]) (rest := [.int v2]) (c_S_charAt g l hl i1 x2 hi1 M w) hi1 rfl rfl cw_S_charAt fw694 pn_S_charAt (Nat.le_of_ble_eq_true rfl) (Nat.le_of_ble_eq_true rfl) (Nat.le_of_ble_eq_true rfl) rfl (fun v3 => (?_ : Tt g l z_X5_isWord (emI M w) _ 46 [(0, .ref P), (1, .ref (g.2.2.2.1 i1)), (2, .int x2)] [.int v3, .int v2] (M, w)))
      refine Tt.ic_eq (tgt := 51) rfl (by decide) ?_ ?_
      · refine Tt.go (fun _ => Tr.run 2 (pc' := 20) (lv' := [(2, .int (x2 + (1 : Int32))), (0, .ref P), (1, .ref (g.2.2.2.1 i1))]) (st' := []) rfl) ?_
        refine Tt.go (fun _ => Tr.sub (lv' := [(0, .ref P), (1, .ref (g.2.2.2.1 i1)), (2, .int (x2 + (1 : Int32)))]) [1, 2, 0] rfl) ?_
        exact ih (x2 + (1 : Int32)) M
      · refine Tt.go (fun _ => Tr.run 1 (pc' := 50) (lv' := [(0, .ref P), (1, .ref (g.2.2.2.1 i1)), (2, .int x2)]) (st' := [.int (0 : Int32)]) rfl) ?_
        exact Tt.ret (Tr.zret rfl rfl fm_bo0)
def f_X5_isWord (P : Nat) (i1 : Nat) (M : fm_Mem) : Option (Int32) := Option.bind (f_S_length i1) (fun v1 => if ((M P 4) - (M P 6)) = v1 then (f_X5_isWord_20 P i1 fm_fuel (0 : Int32) M) else (some ((0 : Int32))))
set_option maxRecDepth 100000 in
set_option maxHeartbeats 4000000 in
theorem t_X5_isWord (g : fm_G) (l : Launch) (hl : l.stackTraces = false) (P : Nat) (i1 : Nat) (hP : fm_kd g P = 5) (hi1 : i1 < 6) (M : fm_Mem) (w : fm_W) : Tt g l z_X5_isWord (emI M w) (f_X5_isWord P i1 M) 0 [(0, .ref P), (1, .ref (g.2.2.2.1 i1))] [] (M, w) := by
  rw [f_X5_isWord]
  refine Tt.go (fun _ => Tr.run 1 (pc' := 1) (lv' := [(0, .ref P), (1, .ref (g.2.2.2.1 i1))]) (st' := [.ref P]) rfl) ?_
  refine Tt.go (fun _ => Tr.get fmc5 hP rfl fw212 (k := 4) (by decide) rfl) (?_ : Tt g l z_X5_isWord (emI M w) _ 4 [(0, .ref P), (1, .ref (g.2.2.2.1 i1))] [.int (M P 4)] (M, w))
  refine Tt.go (fun _ => Tr.run 1 (pc' := 5) (lv' := [(0, .ref P), (1, .ref (g.2.2.2.1 i1))]) (st' := [.ref P, .int (M P 4)]) rfl) ?_
  refine Tt.go (fun _ => Tr.get fmc5 hP rfl fw214 (k := 6) (by decide) rfl) (?_ : Tt g l z_X5_isWord (emI M w) _ 8 [(0, .ref P), (1, .ref (g.2.2.2.1 i1))] [.int (M P 6), .int (M P 4)] (M, w))
  refine Tt.go (fun _ => Tr.run 2 (pc' := 10) (lv' := [(0, .ref P), (1, .ref (g.2.2.2.1 i1))]) (st' := [.ref (g.2.2.2.1 i1), .int ((M P 4) - (M P 6))]) rfl) ?_
  refine Tt.callT (As := []) (rest := [.int ((M P 4) - (M P 6))]) (c_S_length g l hl i1 hi1 M w) hi1 rfl rfl cw_S_length fw684 pn_S_length (Nat.le_of_ble_eq_true rfl) (Nat.le_of_ble_eq_true rfl) (Nat.le_of_ble_eq_true rfl) rfl (fun v1 => (?_ : Tt g l z_X5_isWord (emI M w) _ 13 [(0, .ref P), (1, .ref (g.2.2.2.1 i1))] [.int v1, .int ((M P 4) - (M P 6))] (M, w)))
  refine Tt.ic_eq (tgt := 18) rfl (by decide) ?_ ?_
  · refine Tt.go (fun _ => Tr.run 2 (pc' := 20) (lv' := [(2, .int (0 : Int32)), (0, .ref P), (1, .ref (g.2.2.2.1 i1))]) (st' := []) rfl) ?_
    refine Tt.go (fun _ => Tr.sub (lv' := [(0, .ref P), (1, .ref (g.2.2.2.1 i1)), (2, .int (0 : Int32))]) [1, 2, 0] rfl) ?_
    exact t_X5_isWord_20 g l hl P i1 hP hi1 w fm_fuel (0 : Int32) M
  · refine Tt.go (fun _ => Tr.run 1 (pc' := 17) (lv' := [(0, .ref P), (1, .ref (g.2.2.2.1 i1))]) (st' := [.int (0 : Int32)]) rfl) ?_
    exact Tt.ret (Tr.zret rfl rfl fm_bo0)
theorem c_X5_isWord (g : fm_G) (l : Launch) (hl : l.stackTraces = false) (P : Nat) (i1 : Nat) (hP : fm_kd g P = 5) (hi1 : i1 < 6) (M : fm_Mem) (w : fm_W) : ∀ r, f_X5_isWord P i1 M = some r → fC g l z_X5_isWord [.ref P, .ref (g.2.2.2.1 i1)] (M, w) (emI M w r) := fun r hr => fC.of (by decide) rfl o_X5_isWord hl (Nat.le_of_ble_eq_true rfl) (t_X5_isWord g l hl P i1 hP hi1 M w r hr)
def k_X5_readWord : List (Nat × Instr × Nat) := [(0, .aload_n 0, 1), (1, .getfield 69, 3), (4, .aload_n 0, 1), (5, .getfield 66, 3), (8, .if_icmp .ge 33, 3), (11, .aload_n 0, 1), (12, .getfield 14, 3), (15, .aload_n 0, 1), (16, .getfield 69, 3), (19, .invokevirtual 113, 3), (22, .invokestatic 124, 3), (25, .ifCond .eq 16, 3), (28, .aload_n 0, 1), (29, .dup, 1), (30, .getfield 69, 3), (33, .iconst 1, 1), (34, .iadd, 1), (35, .putfield 69, 3), (38, .goto (-38), 3), (41, .aload_n 0, 1), (42, .ldc 135, 2), (44, .invokevirtual 136, 3), (47, .ifCond .eq 11, 3), (50, .aload_n 0, 1), (51, .iconst 3, 1), (52, .putfield 44, 3), (55, .goto 39, 3), (58, .aload_n 0, 1), (59, .ldc 140, 2), (61, .invokevirtual 136, 3), (64, .ifCond .eq 11, 3), (67, .aload_n 0, 1), (68, .iconst 4, 1), (69, .putfield 44, 3), (72, .goto 22, 3), (75, .aload_n 0, 1), (76, .aload_n 0, 1), (77, .ldc 142, 2), (79, .invokevirtual 136, 3), (82, .ifCond .eq 7, 3), (85, .iconst 5, 1), (86, .goto 5, 3), (89, .bipush 6, 2), (91, .putfield 44, 3), (94, .return_, 1)]
def z_X5_readWord : fm_Y := (yX5_readWord, RX5, cX5_readWord, 1, none, k_X5_readWord, 6, 163)
theorem o_X5_readWord : fm_dec z_X5_readWord := (by decide +kernel : ∀ q ∈ k_X5_readWord, decode cX5_readWord q.1 = .ok q.2)
theorem cw_X5_readWord : fm_cwV z_X5_readWord := ⟨⟨lw_in 678 (by decide +kernel) (by decide +kernel), lw_in 92 (by decide +kernel) (by decide +kernel), by decide, by decide⟩, lw_in 677 (by decide +kernel) (by decide +kernel), lw_in 11 (by decide +kernel) (by decide +kernel)⟩
theorem pn_X5_readWord : (parseMethodDescriptor z_X5_readWord.1.desc).map (fun d => d.parameters.length) = some 0 := by decide +kernel
def f_X5_readWord_94 (P : Nat)  (M : fm_Mem) : Option (fm_Mem) := some (M)
set_option maxRecDepth 100000 in
set_option maxHeartbeats 4000000 in
theorem t_X5_readWord_94 (g : fm_G) (l : Launch) (hl : l.stackTraces = false) (P : Nat) (hP : fm_kd g P = 5) (w : fm_W) (M0 : fm_Mem)    (M : fm_Mem) : Tt g l z_X5_readWord (emVw M0 w) (f_X5_readWord_94 P   M) 94 [] [] (M, w) := by
  rw [f_X5_readWord_94]
  exact Tt.ret (Tr.vret rfl rfl)
def f_X5_readWord_91 (P : Nat) (s0 : Int32) (M : fm_Mem) : Option (fm_Mem) := (f_X5_readWord_94 P (fm_up M P 5 s0))
set_option maxRecDepth 100000 in
set_option maxHeartbeats 4000000 in
theorem t_X5_readWord_91 (g : fm_G) (l : Launch) (hl : l.stackTraces = false) (P : Nat) (hP : fm_kd g P = 5) (w : fm_W) (M0 : fm_Mem)  (s0 : Int32)  (M : fm_Mem) : Tt g l z_X5_readWord (emVw M0 w) (f_X5_readWord_91 P  s0 M) 91 [] [.int s0, .ref P] (M, w) := by
  rw [f_X5_readWord_91]
  refine Tt.go (fun _ => Tr.put fmc5 hP rfl fw213 (k := 5) (by decide) rfl rfl ⟨rfl, rfl⟩) (?_ : Tt g l z_X5_readWord (emVw M0 w) _ 94 [] [] ((fm_up M P 5 s0), w))
  exact t_X5_readWord_94 g l hl P hP w M0 (fm_up M P 5 s0)
def f_X5_readWord_41 (P : Nat)  (M : fm_Mem) : Option (fm_Mem) := Option.bind (f_X5_isWord P 0 M) (fun v1 => if v1 = 0 then (Option.bind (f_X5_isWord P 1 M) (fun v2 => if v2 = 0 then (Option.bind (f_X5_isWord P 2 M) (fun v3 => if v3 = 0 then (f_X5_readWord_91 P (6 : Int32) M) else (f_X5_readWord_91 P (5 : Int32) M))) else (f_X5_readWord_94 P (fm_up M P 5 (4 : Int32))))) else (f_X5_readWord_94 P (fm_up M P 5 (3 : Int32))))
set_option maxRecDepth 100000 in
set_option maxHeartbeats 4000000 in
theorem t_X5_readWord_41 (g : fm_G) (l : Launch) (hl : l.stackTraces = false) (P : Nat) (hP : fm_kd g P = 5) (w : fm_W) (M0 : fm_Mem)    (M : fm_Mem) : Tt g l z_X5_readWord (emVw M0 w) (f_X5_readWord_41 P   M) 41 [(0, .ref P)] [] (M, w) := by
  rw [f_X5_readWord_41]
  refine Tt.go (fun _ => Tr.run 1 (pc' := 42) (lv' := [(0, .ref P)]) (st' := [.ref P]) rfl) ?_
  refine Tt.go (fun _ => Tr.ldcS (i := 0) rfl rfl) (?_ : Tt g l z_X5_readWord (emVw M0 w) _ 44 [(0, .ref P)] [.ref (g.2.2.2.1 0), .ref P] (M, w))
  refine Tt.callV (As := [.ref (g.2.2.2.1 0)]) (rest := []) (c_X5_isWord g l hl P 0 hP (by decide) M w) hP (by decide) rfl rfl cw_X5_isWord fw680 pn_X5_isWord (Nat.le_of_ble_eq_true rfl) (Nat.le_of_ble_eq_true rfl) (Nat.le_of_ble_eq_true rfl) rfl (fun v1 => (?_ : Tt g l z_X5_readWord (emVw M0 w) _ 47 [(0, .ref P)] [.int v1] (M, w)))
  refine Tt.if_eq (tgt := 58) rfl (by decide) ?_ ?_
  · refine Tt.go (fun _ => Tr.run 1 (pc' := 59) (lv' := [(0, .ref P)]) (st' := [.ref P]) rfl) ?_
    refine Tt.go (fun _ => Tr.ldcS (i := 1) rfl rfl) (?_ : Tt g l z_X5_readWord (emVw M0 w) _ 61 [(0, .ref P)] [.ref (g.2.2.2.1 1), .ref P] (M, w))
    refine Tt.callV (As := [.ref (g.2.2.2.1 1)]) (rest := []) (c_X5_isWord g l hl P 1 hP (by decide) M w) hP (by decide) rfl rfl cw_X5_isWord fw680 pn_X5_isWord (Nat.le_of_ble_eq_true rfl) (Nat.le_of_ble_eq_true rfl) (Nat.le_of_ble_eq_true rfl) rfl (fun v2 => (?_ : Tt g l z_X5_readWord (emVw M0 w) _ 64 [(0, .ref P)] [.int v2] (M, w)))
    refine Tt.if_eq (tgt := 75) rfl (by decide) ?_ ?_
    · refine Tt.go (fun _ => Tr.run 2 (pc' := 77) (lv' := [(0, .ref P)]) (st' := [.ref P, .ref P]) rfl) ?_
      refine Tt.go (fun _ => Tr.ldcS (i := 2) rfl rfl) (?_ : Tt g l z_X5_readWord (emVw M0 w) _ 79 [(0, .ref P)] [.ref (g.2.2.2.1 2), .ref P, .ref P] (M, w))
      refine Tt.callV (As := [.ref (g.2.2.2.1 2)]) (rest := [.ref P]) (c_X5_isWord g l hl P 2 hP (by decide) M w) hP (by decide) rfl rfl cw_X5_isWord fw680 pn_X5_isWord (Nat.le_of_ble_eq_true rfl) (Nat.le_of_ble_eq_true rfl) (Nat.le_of_ble_eq_true rfl) rfl (fun v3 => (?_ : Tt g l z_X5_readWord (emVw M0 w) _ 82 [(0, .ref P)] [.int v3, .ref P] (M, w)))
      refine Tt.if_eq (tgt := 89) rfl (by decide) ?_ ?_
      · refine Tt.go (fun _ => Tr.run 1 (pc' := 91) (lv' := [(0, .ref P)]) (st' := [.int (6 : Int32), .ref P]) rfl) ?_
        refine Tt.go (fun _ => Tr.sub (lv' := []) [] rfl) ?_
        exact t_X5_readWord_91 g l hl P hP w M0 (6 : Int32) M
      · refine Tt.go (fun _ => Tr.run 2 (pc' := 91) (lv' := [(0, .ref P)]) (st' := [.int (5 : Int32), .ref P]) rfl) ?_
        refine Tt.go (fun _ => Tr.sub (lv' := []) [] rfl) ?_
        exact t_X5_readWord_91 g l hl P hP w M0 (5 : Int32) M
    · refine Tt.go (fun _ => Tr.run 2 (pc' := 69) (lv' := [(0, .ref P)]) (st' := [.int (4 : Int32), .ref P]) rfl) ?_
      refine Tt.go (fun _ => Tr.put fmc5 hP rfl fw213 (k := 5) (by decide) rfl rfl ⟨rfl, rfl⟩) (?_ : Tt g l z_X5_readWord (emVw M0 w) _ 72 [(0, .ref P)] [] ((fm_up M P 5 (4 : Int32)), w))
      refine Tt.go (fun _ => Tr.run 1 (pc' := 94) (lv' := [(0, .ref P)]) (st' := []) rfl) ?_
      refine Tt.go (fun _ => Tr.sub (lv' := []) [] rfl) ?_
      exact t_X5_readWord_94 g l hl P hP w M0 (fm_up M P 5 (4 : Int32))
  · refine Tt.go (fun _ => Tr.run 2 (pc' := 52) (lv' := [(0, .ref P)]) (st' := [.int (3 : Int32), .ref P]) rfl) ?_
    refine Tt.go (fun _ => Tr.put fmc5 hP rfl fw213 (k := 5) (by decide) rfl rfl ⟨rfl, rfl⟩) (?_ : Tt g l z_X5_readWord (emVw M0 w) _ 55 [(0, .ref P)] [] ((fm_up M P 5 (3 : Int32)), w))
    refine Tt.go (fun _ => Tr.run 1 (pc' := 94) (lv' := [(0, .ref P)]) (st' := []) rfl) ?_
    refine Tt.go (fun _ => Tr.sub (lv' := []) [] rfl) ?_
    exact t_X5_readWord_94 g l hl P hP w M0 (fm_up M P 5 (3 : Int32))
def f_X5_readWord_0 (P : Nat) : Nat → fm_Mem → Option (fm_Mem)
  | 0, _ => none
  | n + 1, M => if (M P 3) ≤ (M P 4) then (f_X5_readWord_41 P M) else (Option.bind (f_X4_get (P + 1) 400 (M P 4) M) (fun v1 => Option.bind (f_X5_isLetter v1 M) (fun v2 => if v2 = 0 then (f_X5_readWord_41 P M) else (f_X5_readWord_0 P n (fm_up M P 4 ((M P 4) + (1 : Int32)))))))
set_option maxRecDepth 100000 in
set_option maxHeartbeats 4000000 in
theorem t_X5_readWord_0 (g : fm_G) (l : Launch) (hl : l.stackTraces = false) (P : Nat) (hP : fm_kd g P = 5) (w : fm_W) (M0 : fm_Mem)  : ∀ (n : Nat)   (M : fm_Mem), Tt g l z_X5_readWord (emVw M0 w) (f_X5_readWord_0 P  n  M) 0 [(0, .ref P)] [] (M, w) := by
  intro n
  induction n with
  | zero => intros; exact Tt.none
  | succ n ih =>
    intro   M
    rw [f_X5_readWord_0]
    refine Tt.go (fun _ => Tr.run 1 (pc' := 1) (lv' := [(0, .ref P)]) (st' := [.ref P]) rfl) ?_
    refine Tt.go (fun _ => Tr.get fmc5 hP rfl fw212 (k := 4) (by decide) rfl) (?_ : Tt g l z_X5_readWord (emVw M0 w) _ 4 [(0, .ref P)] [.int (M P 4)] (M, w))
    refine Tt.go (fun _ => Tr.run 1 (pc' := 5) (lv' := [(0, .ref P)]) (st' := [.ref P, .int (M P 4)]) rfl) ?_
    refine Tt.go (fun _ => Tr.get fmc5 hP rfl fw211 (k := 3) (by decide) rfl) (?_ : Tt g l z_X5_readWord (emVw M0 w) _ 8 [(0, .ref P)] [.int (M P 3), .int (M P 4)] (M, w))
    refine Tt.ic_ge (tgt := 41) rfl (by decide) ?_ ?_
    · exact t_X5_readWord_41 g l hl P hP w M0 M
    · refine Tt.go (fun _ => Tr.run 1 (pc' := 12) (lv' := [(0, .ref P)]) (st' := [.ref P]) rfl) ?_
      refine Tt.go (fun _ => Tr.get fmc5 hP rfl fw207 (k := 0) (by decide) rfl) (?_ : Tt g l z_X5_readWord (emVw M0 w) _ 15 [(0, .ref P)] [.ref (P + 1)] (M, w))
      refine Tt.go (fun _ => Tr.run 1 (pc' := 16) (lv' := [(0, .ref P)]) (st' := [.ref P, .ref (P + 1)]) rfl) ?_
      refine Tt.go (fun _ => Tr.get fmc5 hP rfl fw212 (k := 4) (by decide) rfl) (?_ : Tt g l z_X5_readWord (emVw M0 w) _ 19 [(0, .ref P)] [.int (M P 4), .ref (P + 1)] (M, w))
      refine Tt.callV (As := [.int (M P 4)]) (rest := []) (c_X4_get g l hl (P + 1) 400 (M P 4) (fmk_5_0 hP) (fmn_5_0 hP) (by decide) M w) (fmk_5_0 hP) (by decide) rfl rfl cw_X4_get fw663 pn_X4_get (Nat.le_of_ble_eq_true rfl) (Nat.le_of_ble_eq_true rfl) (Nat.le_of_ble_eq_true rfl) rfl (fun v1 => (?_ : Tt g l z_X5_readWord (emVw M0 w) _ 22 [(0, .ref P)] [.int v1] (M, w)))
      refine Tt.callS (As := [.int v1]) (rest := []) (c_X5_isLetter g l hl v1 M w) rfl cw_X5_isLetter fw672 pn_X5_isLetter (Nat.le_of_ble_eq_true rfl) (Nat.le_of_ble_eq_true rfl) (Nat.le_of_ble_eq_true rfl) rfl (fun v2 => (?_ : Tt g l z_X5_readWord (emVw M0 w) _ 25 [(0, .ref P)] [.int v2] (M, w)))
      refine Tt.if_eq (tgt := 41) rfl (by decide) ?_ ?_
      · exact t_X5_readWord_41 g l hl P hP w M0 M
      · refine Tt.go (fun _ => Tr.run 2 (pc' := 30) (lv' := [(0, .ref P)]) (st' := [.ref P, .ref P]) rfl) ?_
        refine Tt.go (fun _ => Tr.get fmc5 hP rfl fw212 (k := 4) (by decide) rfl) (?_ : Tt g l z_X5_readWord (emVw M0 w) _ 33 [(0, .ref P)] [.int (M P 4), .ref P] (M, w))
        refine Tt.go (fun _ => Tr.run 2 (pc' := 35) (lv' := [(0, .ref P)]) (st' := [.int ((M P 4) + (1 : Int32)), .ref P]) rfl) ?_
        refine Tt.go (fun _ => Tr.put fmc5 hP rfl fw212 (k := 4) (by decide) rfl rfl ⟨rfl, rfl⟩) (?_ : Tt g l z_X5_readWord (emVw M0 w) _ 38 [(0, .ref P)] [] ((fm_up M P 4 ((M P 4) + (1 : Int32))), w))
        refine Tt.go (fun _ => Tr.run 1 (pc' := 0) (lv' := [(0, .ref P)]) (st' := []) rfl) ?_
        exact ih (fm_up M P 4 ((M P 4) + (1 : Int32)))
def f_X5_readWord (P : Nat) (M : fm_Mem) : Option (fm_Mem) := (f_X5_readWord_0 P fm_fuel M)
set_option maxRecDepth 100000 in
set_option maxHeartbeats 4000000 in
theorem t_X5_readWord (g : fm_G) (l : Launch) (hl : l.stackTraces = false) (P : Nat) (hP : fm_kd g P = 5) (M : fm_Mem) (w : fm_W) : Tt g l z_X5_readWord (emVw M w) (f_X5_readWord P M) 0 [(0, .ref P)] [] (M, w) := by
  rw [f_X5_readWord]
  exact t_X5_readWord_0 g l hl P hP w M fm_fuel M
theorem c_X5_readWord (g : fm_G) (l : Launch) (hl : l.stackTraces = false) (P : Nat) (hP : fm_kd g P = 5) (M : fm_Mem) (w : fm_W) : ∀ r, f_X5_readWord P M = some r → fC g l z_X5_readWord [.ref P] (M, w) (emVw M w r) := fun r hr => fC.of (by decide) rfl o_X5_readWord hl (Nat.le_of_ble_eq_true rfl) (t_X5_readWord g l hl P hP M w r hr)
def k_X5_advance : List (Nat × Instr × Nat) := [(0, .aload_n 0, 1), (1, .getfield 69, 3), (4, .aload_n 0, 1), (5, .getfield 66, 3), (8, .if_icmp .ge 32, 3), (11, .aload_n 0, 1), (12, .getfield 14, 3), (15, .aload_n 0, 1), (16, .getfield 69, 3), (19, .invokevirtual 113, 3), (22, .bipush 32, 2), (24, .if_icmp .ne 16, 3), (27, .aload_n 0, 1), (28, .dup, 1), (29, .getfield 69, 3), (32, .iconst 1, 1), (33, .iadd, 1), (34, .putfield 69, 3), (37, .goto (-37), 3), (40, .aload_n 0, 1), (41, .aload_n 0, 1), (42, .getfield 69, 3), (45, .putfield 78, 3), (48, .aload_n 0, 1), (49, .getfield 69, 3), (52, .aload_n 0, 1), (53, .getfield 66, 3), (56, .if_icmp .lt 11, 3), (59, .aload_n 0, 1), (60, .iconst 0, 1), (61, .putfield 44, 3), (64, .goto 87, 3), (67, .aload_n 0, 1), (68, .getfield 14, 3), (71, .aload_n 0, 1), (72, .getfield 69, 3), (75, .invokevirtual 113, 3), (78, .invokestatic 117, 3), (81, .ifCond .eq 10, 3), (84, .aload_n 0, 1), (85, .invokevirtual 121, 3), (88, .goto 63, 3), (91, .aload_n 0, 1), (92, .getfield 14, 3), (95, .aload_n 0, 1), (96, .getfield 69, 3), (99, .invokevirtual 113, 3), (102, .invokestatic 124, 3), (105, .ifCond .eq 10, 3), (108, .aload_n 0, 1), (109, .invokevirtual 127, 3), (112, .goto 39, 3), (115, .aload_n 0, 1), (116, .aload_n 0, 1), (117, .getfield 14, 3), (120, .aload_n 0, 1), (121, .getfield 69, 3), (124, .invokevirtual 113, 3), (127, .bipush 59, 2), (129, .if_icmp .ne 7, 3), (132, .iconst 1, 1), (133, .goto 5, 3), (136, .bipush 6, 2), (138, .putfield 44, 3), (141, .aload_n 0, 1), (142, .dup, 1), (143, .getfield 69, 3), (146, .iconst 1, 1), (147, .iadd, 1), (148, .putfield 69, 3), (151, .return_, 1)]
def z_X5_advance : fm_Y := (yX5_advance, RX5, cX5_advance, 1, none, k_X5_advance, 7, 183)
theorem o_X5_advance : fm_dec z_X5_advance := (by decide +kernel : ∀ q ∈ k_X5_advance, decode cX5_advance q.1 = .ok q.2)
theorem cw_X5_advance : fm_cwV z_X5_advance := ⟨⟨lw_in 662 (by decide +kernel) (by decide +kernel), lw_in 92 (by decide +kernel) (by decide +kernel), by decide, by decide⟩, lw_in 661 (by decide +kernel) (by decide +kernel), lw_in 9 (by decide +kernel) (by decide +kernel)⟩
theorem pn_X5_advance : (parseMethodDescriptor z_X5_advance.1.desc).map (fun d => d.parameters.length) = some 0 := by decide +kernel
def f_X5_advance_151 (P : Nat)  (M : fm_Mem) : Option (fm_Mem) := some (M)
set_option maxRecDepth 100000 in
set_option maxHeartbeats 4000000 in
theorem t_X5_advance_151 (g : fm_G) (l : Launch) (hl : l.stackTraces = false) (P : Nat) (hP : fm_kd g P = 5) (w : fm_W) (M0 : fm_Mem)    (M : fm_Mem) : Tt g l z_X5_advance (emVw M0 w) (f_X5_advance_151 P   M) 151 [] [] (M, w) := by
  rw [f_X5_advance_151]
  exact Tt.ret (Tr.vret rfl rfl)
def f_X5_advance_138 (P : Nat) (s0 : Int32) (M : fm_Mem) : Option (fm_Mem) := (f_X5_advance_151 P (fm_up (fm_up M P 5 s0) P 4 (((fm_up M P 5 s0) P 4) + (1 : Int32))))
set_option maxRecDepth 100000 in
set_option maxHeartbeats 4000000 in
theorem t_X5_advance_138 (g : fm_G) (l : Launch) (hl : l.stackTraces = false) (P : Nat) (hP : fm_kd g P = 5) (w : fm_W) (M0 : fm_Mem)  (s0 : Int32)  (M : fm_Mem) : Tt g l z_X5_advance (emVw M0 w) (f_X5_advance_138 P  s0 M) 138 [(0, .ref P)] [.int s0, .ref P] (M, w) := by
  rw [f_X5_advance_138]
  refine Tt.go (fun _ => Tr.put fmc5 hP rfl fw213 (k := 5) (by decide) rfl rfl ⟨rfl, rfl⟩) (?_ : Tt g l z_X5_advance (emVw M0 w) _ 141 [(0, .ref P)] [] ((fm_up M P 5 s0), w))
  refine Tt.go (fun _ => Tr.run 2 (pc' := 143) (lv' := [(0, .ref P)]) (st' := [.ref P, .ref P]) rfl) ?_
  refine Tt.go (fun _ => Tr.get fmc5 hP rfl fw212 (k := 4) (by decide) rfl) (?_ : Tt g l z_X5_advance (emVw M0 w) _ 146 [(0, .ref P)] [.int ((fm_up M P 5 s0) P 4), .ref P] ((fm_up M P 5 s0), w))
  refine Tt.go (fun _ => Tr.run 2 (pc' := 148) (lv' := [(0, .ref P)]) (st' := [.int (((fm_up M P 5 s0) P 4) + (1 : Int32)), .ref P]) rfl) ?_
  refine Tt.go (fun _ => Tr.put fmc5 hP rfl fw212 (k := 4) (by decide) rfl rfl ⟨rfl, rfl⟩) (?_ : Tt g l z_X5_advance (emVw M0 w) _ 151 [(0, .ref P)] [] ((fm_up (fm_up M P 5 s0) P 4 (((fm_up M P 5 s0) P 4) + (1 : Int32))), w))
  refine Tt.go (fun _ => Tr.sub (lv' := []) [] rfl) ?_
  exact t_X5_advance_151 g l hl P hP w M0 (fm_up (fm_up M P 5 s0) P 4 (((fm_up M P 5 s0) P 4) + (1 : Int32)))
def f_X5_advance_40 (P : Nat)  (M : fm_Mem) : Option (fm_Mem) := if ((fm_up M P 6 (M P 4)) P 4) < ((fm_up M P 6 (M P 4)) P 3) then (Option.bind (f_X4_get (P + 1) 400 ((fm_up M P 6 (M P 4)) P 4) (fm_up M P 6 (M P 4))) (fun v1 => Option.bind (f_X5_isDigit v1 (fm_up M P 6 (M P 4))) (fun v2 => if v2 = 0 then (Option.bind (f_X4_get (P + 1) 400 ((fm_up M P 6 (M P 4)) P 4) (fm_up M P 6 (M P 4))) (fun v3 => Option.bind (f_X5_isLetter v3 (fm_up M P 6 (M P 4))) (fun v4 => if v4 = 0 then (Option.bind (f_X4_get (P + 1) 400 ((fm_up M P 6 (M P 4)) P 4) (fm_up M P 6 (M P 4))) (fun v5 => if v5 = (59 : Int32) then (f_X5_advance_138 P (1 : Int32) (fm_up M P 6 (M P 4))) else (f_X5_advance_138 P (6 : Int32) (fm_up M P 6 (M P 4))))) else (Option.bind (f_X5_readWord P (fm_up M P 6 (M P 4))) (fun v6 => (f_X5_advance_151 P v6)))))) else (Option.bind (f_X5_readNumber P (fm_up M P 6 (M P 4))) (fun v7 => (f_X5_advance_151 P v7)))))) else (f_X5_advance_151 P (fm_up (fm_up M P 6 (M P 4)) P 5 (0 : Int32)))
set_option maxRecDepth 100000 in
set_option maxHeartbeats 4000000 in
theorem t_X5_advance_40 (g : fm_G) (l : Launch) (hl : l.stackTraces = false) (P : Nat) (hP : fm_kd g P = 5) (w : fm_W) (M0 : fm_Mem)    (M : fm_Mem) : Tt g l z_X5_advance (emVw M0 w) (f_X5_advance_40 P   M) 40 [(0, .ref P)] [] (M, w) := by
  rw [f_X5_advance_40]
  refine Tt.go (fun _ => Tr.run 2 (pc' := 42) (lv' := [(0, .ref P)]) (st' := [.ref P, .ref P]) rfl) ?_
  refine Tt.go (fun _ => Tr.get fmc5 hP rfl fw212 (k := 4) (by decide) rfl) (?_ : Tt g l z_X5_advance (emVw M0 w) _ 45 [(0, .ref P)] [.int (M P 4), .ref P] (M, w))
  refine Tt.go (fun _ => Tr.put fmc5 hP rfl fw214 (k := 6) (by decide) rfl rfl ⟨rfl, rfl⟩) (?_ : Tt g l z_X5_advance (emVw M0 w) _ 48 [(0, .ref P)] [] ((fm_up M P 6 (M P 4)), w))
  refine Tt.go (fun _ => Tr.run 1 (pc' := 49) (lv' := [(0, .ref P)]) (st' := [.ref P]) rfl) ?_
  refine Tt.go (fun _ => Tr.get fmc5 hP rfl fw212 (k := 4) (by decide) rfl) (?_ : Tt g l z_X5_advance (emVw M0 w) _ 52 [(0, .ref P)] [.int ((fm_up M P 6 (M P 4)) P 4)] ((fm_up M P 6 (M P 4)), w))
  refine Tt.go (fun _ => Tr.run 1 (pc' := 53) (lv' := [(0, .ref P)]) (st' := [.ref P, .int ((fm_up M P 6 (M P 4)) P 4)]) rfl) ?_
  refine Tt.go (fun _ => Tr.get fmc5 hP rfl fw211 (k := 3) (by decide) rfl) (?_ : Tt g l z_X5_advance (emVw M0 w) _ 56 [(0, .ref P)] [.int ((fm_up M P 6 (M P 4)) P 3), .int ((fm_up M P 6 (M P 4)) P 4)] ((fm_up M P 6 (M P 4)), w))
  refine Tt.ic_lt (tgt := 67) rfl (by decide) ?_ ?_
  · refine Tt.go (fun _ => Tr.run 1 (pc' := 68) (lv' := [(0, .ref P)]) (st' := [.ref P]) rfl) ?_
    refine Tt.go (fun _ => Tr.get fmc5 hP rfl fw207 (k := 0) (by decide) rfl) (?_ : Tt g l z_X5_advance (emVw M0 w) _ 71 [(0, .ref P)] [.ref (P + 1)] ((fm_up M P 6 (M P 4)), w))
    refine Tt.go (fun _ => Tr.run 1 (pc' := 72) (lv' := [(0, .ref P)]) (st' := [.ref P, .ref (P + 1)]) rfl) ?_
    refine Tt.go (fun _ => Tr.get fmc5 hP rfl fw212 (k := 4) (by decide) rfl) (?_ : Tt g l z_X5_advance (emVw M0 w) _ 75 [(0, .ref P)] [.int ((fm_up M P 6 (M P 4)) P 4), .ref (P + 1)] ((fm_up M P 6 (M P 4)), w))
    refine Tt.callV (As := [.int ((fm_up M P 6 (M P 4)) P 4)]) (rest := []) (c_X4_get g l hl (P + 1) 400 ((fm_up M P 6 (M P 4)) P 4) (fmk_5_0 hP) (fmn_5_0 hP) (by decide) (fm_up M P 6 (M P 4)) w) (fmk_5_0 hP) (by decide) rfl rfl cw_X4_get fw663 pn_X4_get (Nat.le_of_ble_eq_true rfl) (Nat.le_of_ble_eq_true rfl) (Nat.le_of_ble_eq_true rfl) rfl (fun v1 => (?_ : Tt g l z_X5_advance (emVw M0 w) _ 78 [(0, .ref P)] [.int v1] ((fm_up M P 6 (M P 4)), w)))
    refine Tt.callS (As := [.int v1]) (rest := []) (c_X5_isDigit g l hl v1 (fm_up M P 6 (M P 4)) w) rfl cw_X5_isDigit fw664 pn_X5_isDigit (Nat.le_of_ble_eq_true rfl) (Nat.le_of_ble_eq_true rfl) (Nat.le_of_ble_eq_true rfl) rfl (fun v2 => (?_ : Tt g l z_X5_advance (emVw M0 w) _ 81 [(0, .ref P)] [.int v2] ((fm_up M P 6 (M P 4)), w)))
    refine Tt.if_eq (tgt := 91) rfl (by decide) ?_ ?_
    · refine Tt.go (fun _ => Tr.run 1 (pc' := 92) (lv' := [(0, .ref P)]) (st' := [.ref P]) rfl) ?_
      refine Tt.go (fun _ => Tr.get fmc5 hP rfl fw207 (k := 0) (by decide) rfl) (?_ : Tt g l z_X5_advance (emVw M0 w) _ 95 [(0, .ref P)] [.ref (P + 1)] ((fm_up M P 6 (M P 4)), w))
      refine Tt.go (fun _ => Tr.run 1 (pc' := 96) (lv' := [(0, .ref P)]) (st' := [.ref P, .ref (P + 1)]) rfl) ?_
      refine Tt.go (fun _ => Tr.get fmc5 hP rfl fw212 (k := 4) (by decide) rfl) (?_ : Tt g l z_X5_advance (emVw M0 w) _ 99 [(0, .ref P)] [.int ((fm_up M P 6 (M P 4)) P 4), .ref (P + 1)] ((fm_up M P 6 (M P 4)), w))
      refine Tt.callV (As := [.int ((fm_up M P 6 (M P 4)) P 4)]) (rest := []) (c_X4_get g l hl (P + 1) 400 ((fm_up M P 6 (M P 4)) P 4) (fmk_5_0 hP) (fmn_5_0 hP) (by decide) (fm_up M P 6 (M P 4)) w) (fmk_5_0 hP) (by decide) rfl rfl cw_X4_get fw663 pn_X4_get (Nat.le_of_ble_eq_true rfl) (Nat.le_of_ble_eq_true rfl) (Nat.le_of_ble_eq_true rfl) rfl (fun v3 => (?_ : Tt g l z_X5_advance (emVw M0 w) _ 102 [(0, .ref P)] [.int v3] ((fm_up M P 6 (M P 4)), w)))
      refine Tt.callS (As := [.int v3]) (rest := []) (c_X5_isLetter g l hl v3 (fm_up M P 6 (M P 4)) w) rfl cw_X5_isLetter fw672 pn_X5_isLetter (Nat.le_of_ble_eq_true rfl) (Nat.le_of_ble_eq_true rfl) (Nat.le_of_ble_eq_true rfl) rfl (fun v4 => (?_ : Tt g l z_X5_advance (emVw M0 w) _ 105 [(0, .ref P)] [.int v4] ((fm_up M P 6 (M P 4)), w)))
      refine Tt.if_eq (tgt := 115) rfl (by decide) ?_ ?_
      · refine Tt.go (fun _ => Tr.run 2 (pc' := 117) (lv' := [(0, .ref P)]) (st' := [.ref P, .ref P]) rfl) ?_
        refine Tt.go (fun _ => Tr.get fmc5 hP rfl fw207 (k := 0) (by decide) rfl) (?_ : Tt g l z_X5_advance (emVw M0 w) _ 120 [(0, .ref P)] [.ref (P + 1), .ref P] ((fm_up M P 6 (M P 4)), w))
        refine Tt.go (fun _ => Tr.run 1 (pc' := 121) (lv' := [(0, .ref P)]) (st' := [.ref P, .ref (P + 1), .ref P]) rfl) ?_
        refine Tt.go (fun _ => Tr.get fmc5 hP rfl fw212 (k := 4) (by decide) rfl) (?_ : Tt g l z_X5_advance (emVw M0 w) _ 124 [(0, .ref P)] [.int ((fm_up M P 6 (M P 4)) P 4), .ref (P + 1), .ref P] ((fm_up M P 6 (M P 4)), w))
        refine Tt.callV (As := [.int ((fm_up M P 6 (M P 4)) P 4)]) (rest := [.ref P]) (c_X4_get g l hl (P + 1) 400 ((fm_up M P 6 (M P 4)) P 4) (fmk_5_0 hP) (fmn_5_0 hP) (by decide) (fm_up M P 6 (M P 4)) w) (fmk_5_0 hP) (by decide) rfl rfl cw_X4_get fw663 pn_X4_get (Nat.le_of_ble_eq_true rfl) (Nat.le_of_ble_eq_true rfl) (Nat.le_of_ble_eq_true rfl) rfl (fun v5 => (?_ : Tt g l z_X5_advance (emVw M0 w) _ 127 [(0, .ref P)] [.int v5, .ref P] ((fm_up M P 6 (M P 4)), w)))
        refine Tt.go (fun _ => Tr.run 1 (pc' := 129) (lv' := [(0, .ref P)]) (st' := [.int (59 : Int32), .int v5, .ref P]) rfl) ?_
        refine Tt.ic_ne (tgt := 136) rfl (by decide) ?_ ?_
        · refine Tt.go (fun _ => Tr.run 2 (pc' := 138) (lv' := [(0, .ref P)]) (st' := [.int (1 : Int32), .ref P]) rfl) ?_
          exact t_X5_advance_138 g l hl P hP w M0 (1 : Int32) (fm_up M P 6 (M P 4))
        · refine Tt.go (fun _ => Tr.run 1 (pc' := 138) (lv' := [(0, .ref P)]) (st' := [.int (6 : Int32), .ref P]) rfl) ?_
          exact t_X5_advance_138 g l hl P hP w M0 (6 : Int32) (fm_up M P 6 (M P 4))
      · refine Tt.go (fun _ => Tr.run 1 (pc' := 109) (lv' := [(0, .ref P)]) (st' := [.ref P]) rfl) ?_
        refine Tt.callV (As := []) (rest := []) (c_X5_readWord g l hl P hP (fm_up M P 6 (M P 4)) w) hP (by decide) rfl rfl cw_X5_readWord fw675 pn_X5_readWord (Nat.le_of_ble_eq_true rfl) (Nat.le_of_ble_eq_true rfl) (Nat.le_of_ble_eq_true rfl) rfl (fun v6 => (?_ : Tt g l z_X5_advance (emVw M0 w) _ 112 [(0, .ref P)] [] (v6, w)))
        refine Tt.go (fun _ => Tr.run 1 (pc' := 151) (lv' := [(0, .ref P)]) (st' := []) rfl) ?_
        refine Tt.go (fun _ => Tr.sub (lv' := []) [] rfl) ?_
        exact t_X5_advance_151 g l hl P hP w M0 v6
    · refine Tt.go (fun _ => Tr.run 1 (pc' := 85) (lv' := [(0, .ref P)]) (st' := [.ref P]) rfl) ?_
      refine Tt.callV (As := []) (rest := []) (c_X5_readNumber g l hl P hP (fm_up M P 6 (M P 4)) w) hP (by decide) rfl rfl cw_X5_readNumber fw667 pn_X5_readNumber (Nat.le_of_ble_eq_true rfl) (Nat.le_of_ble_eq_true rfl) (Nat.le_of_ble_eq_true rfl) rfl (fun v7 => (?_ : Tt g l z_X5_advance (emVw M0 w) _ 88 [(0, .ref P)] [] (v7, w)))
      refine Tt.go (fun _ => Tr.run 1 (pc' := 151) (lv' := [(0, .ref P)]) (st' := []) rfl) ?_
      refine Tt.go (fun _ => Tr.sub (lv' := []) [] rfl) ?_
      exact t_X5_advance_151 g l hl P hP w M0 v7
  · refine Tt.go (fun _ => Tr.run 2 (pc' := 61) (lv' := [(0, .ref P)]) (st' := [.int (0 : Int32), .ref P]) rfl) ?_
    refine Tt.go (fun _ => Tr.put fmc5 hP rfl fw213 (k := 5) (by decide) rfl rfl ⟨rfl, rfl⟩) (?_ : Tt g l z_X5_advance (emVw M0 w) _ 64 [(0, .ref P)] [] ((fm_up (fm_up M P 6 (M P 4)) P 5 (0 : Int32)), w))
    refine Tt.go (fun _ => Tr.run 1 (pc' := 151) (lv' := [(0, .ref P)]) (st' := []) rfl) ?_
    refine Tt.go (fun _ => Tr.sub (lv' := []) [] rfl) ?_
    exact t_X5_advance_151 g l hl P hP w M0 (fm_up (fm_up M P 6 (M P 4)) P 5 (0 : Int32))
def f_X5_advance_0 (P : Nat) : Nat → fm_Mem → Option (fm_Mem)
  | 0, _ => none
  | n + 1, M => if (M P 3) ≤ (M P 4) then (f_X5_advance_40 P M) else (Option.bind (f_X4_get (P + 1) 400 (M P 4) M) (fun v1 => if v1 = (32 : Int32) then (f_X5_advance_0 P n (fm_up M P 4 ((M P 4) + (1 : Int32)))) else (f_X5_advance_40 P M)))
set_option maxRecDepth 100000 in
set_option maxHeartbeats 4000000 in
theorem t_X5_advance_0 (g : fm_G) (l : Launch) (hl : l.stackTraces = false) (P : Nat) (hP : fm_kd g P = 5) (w : fm_W) (M0 : fm_Mem)  : ∀ (n : Nat)   (M : fm_Mem), Tt g l z_X5_advance (emVw M0 w) (f_X5_advance_0 P  n  M) 0 [(0, .ref P)] [] (M, w) := by
  intro n
  induction n with
  | zero => intros; exact Tt.none
  | succ n ih =>
    intro   M
    rw [f_X5_advance_0]
    refine Tt.go (fun _ => Tr.run 1 (pc' := 1) (lv' := [(0, .ref P)]) (st' := [.ref P]) rfl) ?_
    refine Tt.go (fun _ => Tr.get fmc5 hP rfl fw212 (k := 4) (by decide) rfl) (?_ : Tt g l z_X5_advance (emVw M0 w) _ 4 [(0, .ref P)] [.int (M P 4)] (M, w))
    refine Tt.go (fun _ => Tr.run 1 (pc' := 5) (lv' := [(0, .ref P)]) (st' := [.ref P, .int (M P 4)]) rfl) ?_
    refine Tt.go (fun _ => Tr.get fmc5 hP rfl fw211 (k := 3) (by decide) rfl) (?_ : Tt g l z_X5_advance (emVw M0 w) _ 8 [(0, .ref P)] [.int (M P 3), .int (M P 4)] (M, w))
    refine Tt.ic_ge (tgt := 40) rfl (by decide) ?_ ?_
    · exact t_X5_advance_40 g l hl P hP w M0 M
    · refine Tt.go (fun _ => Tr.run 1 (pc' := 12) (lv' := [(0, .ref P)]) (st' := [.ref P]) rfl) ?_
      refine Tt.go (fun _ => Tr.get fmc5 hP rfl fw207 (k := 0) (by decide) rfl) (?_ : Tt g l z_X5_advance (emVw M0 w) _ 15 [(0, .ref P)] [.ref (P + 1)] (M, w))
      refine Tt.go (fun _ => Tr.run 1 (pc' := 16) (lv' := [(0, .ref P)]) (st' := [.ref P, .ref (P + 1)]) rfl) ?_
      refine Tt.go (fun _ => Tr.get fmc5 hP rfl fw212 (k := 4) (by decide) rfl) (?_ : Tt g l z_X5_advance (emVw M0 w) _ 19 [(0, .ref P)] [.int (M P 4), .ref (P + 1)] (M, w))
      refine Tt.callV (As := [.int (M P 4)]) (rest := []) (c_X4_get g l hl (P + 1) 400 (M P 4) (fmk_5_0 hP) (fmn_5_0 hP) (by decide) M w) (fmk_5_0 hP) (by decide) rfl rfl cw_X4_get fw663 pn_X4_get (Nat.le_of_ble_eq_true rfl) (Nat.le_of_ble_eq_true rfl) (Nat.le_of_ble_eq_true rfl) rfl (fun v1 => (?_ : Tt g l z_X5_advance (emVw M0 w) _ 22 [(0, .ref P)] [.int v1] (M, w)))
      refine Tt.go (fun _ => Tr.run 1 (pc' := 24) (lv' := [(0, .ref P)]) (st' := [.int (32 : Int32), .int v1]) rfl) ?_
      refine Tt.ic_ne (tgt := 40) rfl (by decide) ?_ ?_
      · refine Tt.go (fun _ => Tr.run 2 (pc' := 29) (lv' := [(0, .ref P)]) (st' := [.ref P, .ref P]) rfl) ?_
        refine Tt.go (fun _ => Tr.get fmc5 hP rfl fw212 (k := 4) (by decide) rfl) (?_ : Tt g l z_X5_advance (emVw M0 w) _ 32 [(0, .ref P)] [.int (M P 4), .ref P] (M, w))
        refine Tt.go (fun _ => Tr.run 2 (pc' := 34) (lv' := [(0, .ref P)]) (st' := [.int ((M P 4) + (1 : Int32)), .ref P]) rfl) ?_
        refine Tt.go (fun _ => Tr.put fmc5 hP rfl fw212 (k := 4) (by decide) rfl rfl ⟨rfl, rfl⟩) (?_ : Tt g l z_X5_advance (emVw M0 w) _ 37 [(0, .ref P)] [] ((fm_up M P 4 ((M P 4) + (1 : Int32))), w))
        refine Tt.go (fun _ => Tr.run 1 (pc' := 0) (lv' := [(0, .ref P)]) (st' := []) rfl) ?_
        exact ih (fm_up M P 4 ((M P 4) + (1 : Int32)))
      · exact t_X5_advance_40 g l hl P hP w M0 M
def f_X5_advance (P : Nat) (M : fm_Mem) : Option (fm_Mem) := (f_X5_advance_0 P fm_fuel M)
set_option maxRecDepth 100000 in
set_option maxHeartbeats 4000000 in
theorem t_X5_advance (g : fm_G) (l : Launch) (hl : l.stackTraces = false) (P : Nat) (hP : fm_kd g P = 5) (M : fm_Mem) (w : fm_W) : Tt g l z_X5_advance (emVw M w) (f_X5_advance P M) 0 [(0, .ref P)] [] (M, w) := by
  rw [f_X5_advance]
  exact t_X5_advance_0 g l hl P hP w M fm_fuel M
theorem c_X5_advance (g : fm_G) (l : Launch) (hl : l.stackTraces = false) (P : Nat) (hP : fm_kd g P = 5) (M : fm_Mem) (w : fm_W) : ∀ r, f_X5_advance P M = some r → fC g l z_X5_advance [.ref P] (M, w) (emVw M w r) := fun r hr => fC.of (by decide) rfl o_X5_advance hl (Nat.le_of_ble_eq_true rfl) (t_X5_advance g l hl P hP M w r hr)
def k_X5_begin : List (Nat × Instr × Nat) := [(0, .aload_n 0, 1), (1, .getfield 23, 3), (4, .invokevirtual 63, 3), (7, .aload_n 0, 1), (8, .iload_n 1, 1), (9, .putfield 66, 3), (12, .aload_n 0, 1), (13, .iconst 0, 1), (14, .putfield 27, 3), (17, .aload_n 0, 1), (18, .iconst 0, 1), (19, .putfield 69, 3), (22, .aload_n 0, 1), (23, .iconst 0, 1), (24, .putfield 41, 3), (27, .aload_n 0, 1), (28, .iconst (-1), 1), (29, .putfield 72, 3), (32, .aload_n 0, 1), (33, .iconst 0, 1), (34, .putfield 47, 3), (37, .aload_n 0, 1), (38, .invokevirtual 75, 3), (41, .return_, 1)]
def z_X5_begin : fm_Y := (yX5_begin, RX5, cX5_begin, 2, none, k_X5_begin, 8, 203)
theorem o_X5_begin : fm_dec z_X5_begin := (by decide +kernel : ∀ q ∈ k_X5_begin, decode cX5_begin q.1 = .ok q.2)
theorem cw_X5_begin : fm_cwV z_X5_begin := ⟨⟨lw_in 642 (by decide +kernel) (by decide +kernel), lw_in 92 (by decide +kernel) (by decide +kernel), by decide, by decide⟩, lw_in 641 (by decide +kernel) (by decide +kernel), lw_in 8 (by decide +kernel) (by decide +kernel)⟩
theorem pn_X5_begin : (parseMethodDescriptor z_X5_begin.1.desc).map (fun d => d.parameters.length) = some 1 := by decide +kernel
def f_X5_begin (P : Nat) (a1 : Int32) (M : fm_Mem) : Option (fm_Mem) := Option.bind (f_X2_clear (P + 3) M) (fun v1 => Option.bind (f_X5_advance P (fm_up (fm_up (fm_up (fm_up (fm_up (fm_up v1 P 3 a1) P 2 (0 : Int32)) P 4 (0 : Int32)) P 8 (0 : Int32)) P 9 (-1 : Int32)) P 10 (0 : Int32))) (fun v2 => some (v2)))
set_option maxRecDepth 100000 in
set_option maxHeartbeats 4000000 in
theorem t_X5_begin (g : fm_G) (l : Launch) (hl : l.stackTraces = false) (P : Nat) (a1 : Int32) (hP : fm_kd g P = 5) (M : fm_Mem) (w : fm_W) : Tt g l z_X5_begin (emVw M w) (f_X5_begin P a1 M) 0 [(0, .ref P), (1, .int a1)] [] (M, w) := by
  rw [f_X5_begin]
  refine Tt.go (fun _ => Tr.run 1 (pc' := 1) (lv' := [(0, .ref P), (1, .int a1)]) (st' := [.ref P]) rfl) ?_
  refine Tt.go (fun _ => Tr.get fmc5 hP rfl fw208 (k := 1) (by decide) rfl) (?_ : Tt g l z_X5_begin (emVw M w) _ 4 [(0, .ref P), (1, .int a1)] [.ref (P + 3)] (M, w))
  refine Tt.callV (As := []) (rest := []) (c_X2_clear g l hl (P + 3) (fmk_5_1 hP) M w) (fmk_5_1 hP) (by decide) rfl rfl cw_X2_clear fw643 pn_X2_clear (Nat.le_of_ble_eq_true rfl) (Nat.le_of_ble_eq_true rfl) (Nat.le_of_ble_eq_true rfl) rfl (fun v1 => (?_ : Tt g l z_X5_begin (emVw M w) _ 7 [(0, .ref P), (1, .int a1)] [] (v1, w)))
  refine Tt.go (fun _ => Tr.run 2 (pc' := 9) (lv' := [(0, .ref P), (1, .int a1)]) (st' := [.int a1, .ref P]) rfl) ?_
  refine Tt.go (fun _ => Tr.put fmc5 hP rfl fw211 (k := 3) (by decide) rfl rfl ⟨rfl, rfl⟩) (?_ : Tt g l z_X5_begin (emVw M w) _ 12 [(0, .ref P), (1, .int a1)] [] ((fm_up v1 P 3 a1), w))
  refine Tt.go (fun _ => Tr.run 2 (pc' := 14) (lv' := [(0, .ref P), (1, .int a1)]) (st' := [.int (0 : Int32), .ref P]) rfl) ?_
  refine Tt.go (fun _ => Tr.put fmc5 hP rfl fw210 (k := 2) (by decide) rfl rfl ⟨rfl, rfl⟩) (?_ : Tt g l z_X5_begin (emVw M w) _ 17 [(0, .ref P), (1, .int a1)] [] ((fm_up (fm_up v1 P 3 a1) P 2 (0 : Int32)), w))
  refine Tt.go (fun _ => Tr.run 2 (pc' := 19) (lv' := [(0, .ref P), (1, .int a1)]) (st' := [.int (0 : Int32), .ref P]) rfl) ?_
  refine Tt.go (fun _ => Tr.put fmc5 hP rfl fw212 (k := 4) (by decide) rfl rfl ⟨rfl, rfl⟩) (?_ : Tt g l z_X5_begin (emVw M w) _ 22 [(0, .ref P), (1, .int a1)] [] ((fm_up (fm_up (fm_up v1 P 3 a1) P 2 (0 : Int32)) P 4 (0 : Int32)), w))
  refine Tt.go (fun _ => Tr.run 2 (pc' := 24) (lv' := [(0, .ref P), (1, .int a1)]) (st' := [.int (0 : Int32), .ref P]) rfl) ?_
  refine Tt.go (fun _ => Tr.put fmc5 hP rfl fw216 (k := 8) (by decide) rfl rfl ⟨rfl, rfl⟩) (?_ : Tt g l z_X5_begin (emVw M w) _ 27 [(0, .ref P), (1, .int a1)] [] ((fm_up (fm_up (fm_up (fm_up v1 P 3 a1) P 2 (0 : Int32)) P 4 (0 : Int32)) P 8 (0 : Int32)), w))
  refine Tt.go (fun _ => Tr.run 2 (pc' := 29) (lv' := [(0, .ref P), (1, .int a1)]) (st' := [.int (-1 : Int32), .ref P]) rfl) ?_
  refine Tt.go (fun _ => Tr.put fmc5 hP rfl fw218 (k := 9) (by decide) rfl rfl ⟨rfl, rfl⟩) (?_ : Tt g l z_X5_begin (emVw M w) _ 32 [(0, .ref P), (1, .int a1)] [] ((fm_up (fm_up (fm_up (fm_up (fm_up v1 P 3 a1) P 2 (0 : Int32)) P 4 (0 : Int32)) P 8 (0 : Int32)) P 9 (-1 : Int32)), w))
  refine Tt.go (fun _ => Tr.run 2 (pc' := 34) (lv' := [(0, .ref P), (1, .int a1)]) (st' := [.int (0 : Int32), .ref P]) rfl) ?_
  refine Tt.go (fun _ => Tr.put fmc5 hP rfl fw219 (k := 10) (by decide) rfl rfl (fm_bo_nar (by decide))) (?_ : Tt g l z_X5_begin (emVw M w) _ 37 [(0, .ref P), (1, .int a1)] [] ((fm_up (fm_up (fm_up (fm_up (fm_up (fm_up v1 P 3 a1) P 2 (0 : Int32)) P 4 (0 : Int32)) P 8 (0 : Int32)) P 9 (-1 : Int32)) P 10 (0 : Int32)), w))
  refine Tt.go (fun _ => Tr.run 1 (pc' := 38) (lv' := [(0, .ref P), (1, .int a1)]) (st' := [.ref P]) rfl) ?_
  refine Tt.callV (As := []) (rest := []) (c_X5_advance g l hl P hP (fm_up (fm_up (fm_up (fm_up (fm_up (fm_up v1 P 3 a1) P 2 (0 : Int32)) P 4 (0 : Int32)) P 8 (0 : Int32)) P 9 (-1 : Int32)) P 10 (0 : Int32)) w) hP (by decide) rfl rfl cw_X5_advance fw659 pn_X5_advance (Nat.le_of_ble_eq_true rfl) (Nat.le_of_ble_eq_true rfl) (Nat.le_of_ble_eq_true rfl) rfl (fun v2 => (?_ : Tt g l z_X5_begin (emVw M w) _ 41 [(0, .ref P), (1, .int a1)] [] (v2, w)))
  exact Tt.ret (Tr.vret rfl rfl)
theorem c_X5_begin (g : fm_G) (l : Launch) (hl : l.stackTraces = false) (P : Nat) (a1 : Int32) (hP : fm_kd g P = 5) (M : fm_Mem) (w : fm_W) : ∀ r, f_X5_begin P a1 M = some r → fC g l z_X5_begin [.ref P, .int a1] (M, w) (emVw M w r) := fun r hr => fC.of (by decide) rfl o_X5_begin hl (Nat.le_of_ble_eq_true rfl) (t_X5_begin g l hl P a1 hP M w r hr)
def k_X5_fail : List (Nat × Instr × Nat) := [(0, .aload_n 0, 1), (1, .getfield 41, 3), (4, .ifCond .ne 16, 3), (7, .aload_n 0, 1), (8, .iload_n 1, 1), (9, .putfield 41, 3), (12, .aload_n 0, 1), (13, .aload_n 0, 1), (14, .getfield 78, 3), (17, .putfield 72, 3), (20, .return_, 1)]
def z_X5_fail : fm_Y := (yX5_fail, RX5, cX5_fail, 2, none, k_X5_fail, 0, 0)
theorem o_X5_fail : fm_dec z_X5_fail := (by decide +kernel : ∀ q ∈ k_X5_fail, decode cX5_fail q.1 = .ok q.2)
theorem cw_X5_fail : fm_cwV z_X5_fail := ⟨⟨lw_in 741 (by decide +kernel) (by decide +kernel), lw_in 92 (by decide +kernel) (by decide +kernel), by decide, by decide⟩, lw_in 740 (by decide +kernel) (by decide +kernel), lw_in 14 (by decide +kernel) (by decide +kernel)⟩
theorem pn_X5_fail : (parseMethodDescriptor z_X5_fail.1.desc).map (fun d => d.parameters.length) = some 1 := by decide +kernel
def f_X5_fail_20 (P : Nat) (a1 : Int32)  (M : fm_Mem) : Option (fm_Mem) := some (M)
set_option maxRecDepth 100000 in
set_option maxHeartbeats 4000000 in
theorem t_X5_fail_20 (g : fm_G) (l : Launch) (hl : l.stackTraces = false) (P : Nat) (a1 : Int32) (hP : fm_kd g P = 5) (w : fm_W) (M0 : fm_Mem)    (M : fm_Mem) : Tt g l z_X5_fail (emVw M0 w) (f_X5_fail_20 P a1   M) 20 [] [] (M, w) := by
  rw [f_X5_fail_20]
  exact Tt.ret (Tr.vret rfl rfl)
def f_X5_fail (P : Nat) (a1 : Int32) (M : fm_Mem) : Option (fm_Mem) := if (M P 8) = 0 then (f_X5_fail_20 P a1 (fm_up (fm_up M P 8 a1) P 9 ((fm_up M P 8 a1) P 6))) else (f_X5_fail_20 P a1 M)
set_option maxRecDepth 100000 in
set_option maxHeartbeats 4000000 in
theorem t_X5_fail (g : fm_G) (l : Launch) (hl : l.stackTraces = false) (P : Nat) (a1 : Int32) (hP : fm_kd g P = 5) (M : fm_Mem) (w : fm_W) : Tt g l z_X5_fail (emVw M w) (f_X5_fail P a1 M) 0 [(0, .ref P), (1, .int a1)] [] (M, w) := by
  rw [f_X5_fail]
  refine Tt.go (fun _ => Tr.run 1 (pc' := 1) (lv' := [(0, .ref P), (1, .int a1)]) (st' := [.ref P]) rfl) ?_
  refine Tt.go (fun _ => Tr.get fmc5 hP rfl fw216 (k := 8) (by decide) rfl) (?_ : Tt g l z_X5_fail (emVw M w) _ 4 [(0, .ref P), (1, .int a1)] [.int (M P 8)] (M, w))
  refine Tt.if_ne (tgt := 20) rfl (by decide) ?_ ?_
  · refine Tt.go (fun _ => Tr.run 2 (pc' := 9) (lv' := [(0, .ref P), (1, .int a1)]) (st' := [.int a1, .ref P]) rfl) ?_
    refine Tt.go (fun _ => Tr.put fmc5 hP rfl fw216 (k := 8) (by decide) rfl rfl ⟨rfl, rfl⟩) (?_ : Tt g l z_X5_fail (emVw M w) _ 12 [(0, .ref P), (1, .int a1)] [] ((fm_up M P 8 a1), w))
    refine Tt.go (fun _ => Tr.run 2 (pc' := 14) (lv' := [(0, .ref P), (1, .int a1)]) (st' := [.ref P, .ref P]) rfl) ?_
    refine Tt.go (fun _ => Tr.get fmc5 hP rfl fw214 (k := 6) (by decide) rfl) (?_ : Tt g l z_X5_fail (emVw M w) _ 17 [(0, .ref P), (1, .int a1)] [.int ((fm_up M P 8 a1) P 6), .ref P] ((fm_up M P 8 a1), w))
    refine Tt.go (fun _ => Tr.put fmc5 hP rfl fw218 (k := 9) (by decide) rfl rfl ⟨rfl, rfl⟩) (?_ : Tt g l z_X5_fail (emVw M w) _ 20 [(0, .ref P), (1, .int a1)] [] ((fm_up (fm_up M P 8 a1) P 9 ((fm_up M P 8 a1) P 6)), w))
    refine Tt.go (fun _ => Tr.sub (lv' := []) [] rfl) ?_
    exact t_X5_fail_20 g l hl P a1 hP w M (fm_up (fm_up M P 8 a1) P 9 ((fm_up M P 8 a1) P 6))
  · refine Tt.go (fun _ => Tr.sub (lv' := []) [] rfl) ?_
    exact t_X5_fail_20 g l hl P a1 hP w M M
theorem c_X5_fail (g : fm_G) (l : Launch) (hl : l.stackTraces = false) (P : Nat) (a1 : Int32) (hP : fm_kd g P = 5) (M : fm_Mem) (w : fm_W) : ∀ r, f_X5_fail P a1 M = some r → fC g l z_X5_fail [.ref P, .int a1] (M, w) (emVw M w r) := fun r hr => fC.of (by decide) rfl o_X5_fail hl (Nat.le_of_ble_eq_true rfl) (t_X5_fail g l hl P a1 hP M w r hr)
def k_X5_need : List (Nat × Instr × Nat) := [(0, .aload_n 0, 1), (1, .getfield 44, 3), (4, .iload_n 1, 1), (5, .if_icmp .eq 9, 3), (8, .aload_n 0, 1), (9, .bipush (-2), 2), (11, .invokevirtual 60, 3), (14, .aload_n 0, 1), (15, .invokevirtual 75, 3), (18, .return_, 1)]
def z_X5_need : fm_Y := (yX5_need, RX5, cX5_need, 2, none, k_X5_need, 8, 203)
theorem o_X5_need : fm_dec z_X5_need := (by decide +kernel : ∀ q ∈ k_X5_need, decode cX5_need q.1 = .ok q.2)
theorem cw_X5_need : fm_cwV z_X5_need := ⟨⟨lw_in 737 (by decide +kernel) (by decide +kernel), lw_in 92 (by decide +kernel) (by decide +kernel), by decide, by decide⟩, lw_in 736 (by decide +kernel) (by decide +kernel), lw_in 13 (by decide +kernel) (by decide +kernel)⟩
theorem pn_X5_need : (parseMethodDescriptor z_X5_need.1.desc).map (fun d => d.parameters.length) = some 1 := by decide +kernel
def f_X5_need_14 (P : Nat) (a1 : Int32)  (M : fm_Mem) : Option (fm_Mem) := Option.bind (f_X5_advance P M) (fun v1 => some (v1))
set_option maxRecDepth 100000 in
set_option maxHeartbeats 4000000 in
theorem t_X5_need_14 (g : fm_G) (l : Launch) (hl : l.stackTraces = false) (P : Nat) (a1 : Int32) (hP : fm_kd g P = 5) (w : fm_W) (M0 : fm_Mem)    (M : fm_Mem) : Tt g l z_X5_need (emVw M0 w) (f_X5_need_14 P a1   M) 14 [(0, .ref P)] [] (M, w) := by
  rw [f_X5_need_14]
  refine Tt.go (fun _ => Tr.run 1 (pc' := 15) (lv' := [(0, .ref P)]) (st' := [.ref P]) rfl) ?_
  refine Tt.callV (As := []) (rest := []) (c_X5_advance g l hl P hP M w) hP (by decide) rfl rfl cw_X5_advance fw659 pn_X5_advance (Nat.le_of_ble_eq_true rfl) (Nat.le_of_ble_eq_true rfl) (Nat.le_of_ble_eq_true rfl) rfl (fun v1 => (?_ : Tt g l z_X5_need (emVw M0 w) _ 18 [(0, .ref P)] [] (v1, w)))
  exact Tt.ret (Tr.vret rfl rfl)
def f_X5_need (P : Nat) (a1 : Int32) (M : fm_Mem) : Option (fm_Mem) := if (M P 5) = a1 then (f_X5_need_14 P a1 M) else (Option.bind (f_X5_fail P (-2 : Int32) M) (fun v1 => (f_X5_need_14 P a1 v1)))
set_option maxRecDepth 100000 in
set_option maxHeartbeats 4000000 in
theorem t_X5_need (g : fm_G) (l : Launch) (hl : l.stackTraces = false) (P : Nat) (a1 : Int32) (hP : fm_kd g P = 5) (M : fm_Mem) (w : fm_W) : Tt g l z_X5_need (emVw M w) (f_X5_need P a1 M) 0 [(0, .ref P), (1, .int a1)] [] (M, w) := by
  rw [f_X5_need]
  refine Tt.go (fun _ => Tr.run 1 (pc' := 1) (lv' := [(0, .ref P), (1, .int a1)]) (st' := [.ref P]) rfl) ?_
  refine Tt.go (fun _ => Tr.get fmc5 hP rfl fw213 (k := 5) (by decide) rfl) (?_ : Tt g l z_X5_need (emVw M w) _ 4 [(0, .ref P), (1, .int a1)] [.int (M P 5)] (M, w))
  refine Tt.go (fun _ => Tr.run 1 (pc' := 5) (lv' := [(0, .ref P), (1, .int a1)]) (st' := [.int a1, .int (M P 5)]) rfl) ?_
  refine Tt.ic_eq (tgt := 14) rfl (by decide) ?_ ?_
  · refine Tt.go (fun _ => Tr.sub (lv' := [(0, .ref P)]) [0] rfl) ?_
    exact t_X5_need_14 g l hl P a1 hP w M M
  · refine Tt.go (fun _ => Tr.run 2 (pc' := 11) (lv' := [(0, .ref P), (1, .int a1)]) (st' := [.int (-2 : Int32), .ref P]) rfl) ?_
    refine Tt.callV (As := [.int (-2 : Int32)]) (rest := []) (c_X5_fail g l hl P (-2 : Int32) hP M w) hP (by decide) rfl rfl cw_X5_fail fw738 pn_X5_fail (Nat.le_of_ble_eq_true rfl) (Nat.le_of_ble_eq_true rfl) (Nat.le_of_ble_eq_true rfl) rfl (fun v1 => (?_ : Tt g l z_X5_need (emVw M w) _ 14 [(0, .ref P), (1, .int a1)] [] (v1, w)))
    refine Tt.go (fun _ => Tr.sub (lv' := [(0, .ref P)]) [0] rfl) ?_
    exact t_X5_need_14 g l hl P a1 hP w M v1
theorem c_X5_need (g : fm_G) (l : Launch) (hl : l.stackTraces = false) (P : Nat) (a1 : Int32) (hP : fm_kd g P = 5) (M : fm_Mem) (w : fm_W) : ∀ r, f_X5_need P a1 M = some r → fC g l z_X5_need [.ref P, .int a1] (M, w) (emVw M w r) := fun r hr => fC.of (by decide) rfl o_X5_need hl (Nat.le_of_ble_eq_true rfl) (t_X5_need g l hl P a1 hP M w r hr)
def k_X5_needNumber : List (Nat × Instr × Nat) := [(0, .aload_n 0, 1), (1, .getfield 44, 3), (4, .iconst 2, 1), (5, .if_icmp .eq 12, 3), (8, .aload_n 0, 1), (9, .bipush (-2), 2), (11, .invokevirtual 60, 3), (14, .goto 17, 3), (17, .aload_n 0, 1), (18, .getfield 81, 3), (21, .iload_n 1, 1), (22, .if_icmp .le 9, 3), (25, .aload_n 0, 1), (26, .bipush (-3), 2), (28, .invokevirtual 60, 3), (31, .return_, 1)]
def z_X5_needNumber : fm_Y := (yX5_needNumber, RX5, cX5_needNumber, 2, none, k_X5_needNumber, 1, 21)
theorem o_X5_needNumber : fm_dec z_X5_needNumber := (by decide +kernel : ∀ q ∈ k_X5_needNumber, decode cX5_needNumber q.1 = .ok q.2)
theorem cw_X5_needNumber : fm_cwV z_X5_needNumber := ⟨⟨lw_in 749 (by decide +kernel) (by decide +kernel), lw_in 92 (by decide +kernel) (by decide +kernel), by decide, by decide⟩, lw_in 748 (by decide +kernel) (by decide +kernel), lw_in 16 (by decide +kernel) (by decide +kernel)⟩
theorem pn_X5_needNumber : (parseMethodDescriptor z_X5_needNumber.1.desc).map (fun d => d.parameters.length) = some 1 := by decide +kernel
def f_X5_needNumber_31 (P : Nat) (a1 : Int32)  (M : fm_Mem) : Option (fm_Mem) := some (M)
set_option maxRecDepth 100000 in
set_option maxHeartbeats 4000000 in
theorem t_X5_needNumber_31 (g : fm_G) (l : Launch) (hl : l.stackTraces = false) (P : Nat) (a1 : Int32) (hP : fm_kd g P = 5) (w : fm_W) (M0 : fm_Mem)    (M : fm_Mem) : Tt g l z_X5_needNumber (emVw M0 w) (f_X5_needNumber_31 P a1   M) 31 [] [] (M, w) := by
  rw [f_X5_needNumber_31]
  exact Tt.ret (Tr.vret rfl rfl)
def f_X5_needNumber (P : Nat) (a1 : Int32) (M : fm_Mem) : Option (fm_Mem) := if (M P 5) = (2 : Int32) then (if (M P 7) ≤ a1 then (f_X5_needNumber_31 P a1 M) else (Option.bind (f_X5_fail P (-3 : Int32) M) (fun v1 => (f_X5_needNumber_31 P a1 v1)))) else (Option.bind (f_X5_fail P (-2 : Int32) M) (fun v2 => (f_X5_needNumber_31 P a1 v2)))
set_option maxRecDepth 100000 in
set_option maxHeartbeats 4000000 in
theorem t_X5_needNumber (g : fm_G) (l : Launch) (hl : l.stackTraces = false) (P : Nat) (a1 : Int32) (hP : fm_kd g P = 5) (M : fm_Mem) (w : fm_W) : Tt g l z_X5_needNumber (emVw M w) (f_X5_needNumber P a1 M) 0 [(0, .ref P), (1, .int a1)] [] (M, w) := by
  rw [f_X5_needNumber]
  refine Tt.go (fun _ => Tr.run 1 (pc' := 1) (lv' := [(0, .ref P), (1, .int a1)]) (st' := [.ref P]) rfl) ?_
  refine Tt.go (fun _ => Tr.get fmc5 hP rfl fw213 (k := 5) (by decide) rfl) (?_ : Tt g l z_X5_needNumber (emVw M w) _ 4 [(0, .ref P), (1, .int a1)] [.int (M P 5)] (M, w))
  refine Tt.go (fun _ => Tr.run 1 (pc' := 5) (lv' := [(0, .ref P), (1, .int a1)]) (st' := [.int (2 : Int32), .int (M P 5)]) rfl) ?_
  refine Tt.ic_eq (tgt := 17) rfl (by decide) ?_ ?_
  · refine Tt.go (fun _ => Tr.run 1 (pc' := 18) (lv' := [(0, .ref P), (1, .int a1)]) (st' := [.ref P]) rfl) ?_
    refine Tt.go (fun _ => Tr.get fmc5 hP rfl fw215 (k := 7) (by decide) rfl) (?_ : Tt g l z_X5_needNumber (emVw M w) _ 21 [(0, .ref P), (1, .int a1)] [.int (M P 7)] (M, w))
    refine Tt.go (fun _ => Tr.run 1 (pc' := 22) (lv' := [(0, .ref P), (1, .int a1)]) (st' := [.int a1, .int (M P 7)]) rfl) ?_
    refine Tt.ic_le (tgt := 31) rfl (by decide) ?_ ?_
    · refine Tt.go (fun _ => Tr.sub (lv' := []) [] rfl) ?_
      exact t_X5_needNumber_31 g l hl P a1 hP w M M
    · refine Tt.go (fun _ => Tr.run 2 (pc' := 28) (lv' := [(0, .ref P), (1, .int a1)]) (st' := [.int (-3 : Int32), .ref P]) rfl) ?_
      refine Tt.callV (As := [.int (-3 : Int32)]) (rest := []) (c_X5_fail g l hl P (-3 : Int32) hP M w) hP (by decide) rfl rfl cw_X5_fail fw738 pn_X5_fail (Nat.le_of_ble_eq_true rfl) (Nat.le_of_ble_eq_true rfl) (Nat.le_of_ble_eq_true rfl) rfl (fun v1 => (?_ : Tt g l z_X5_needNumber (emVw M w) _ 31 [(0, .ref P), (1, .int a1)] [] (v1, w)))
      refine Tt.go (fun _ => Tr.sub (lv' := []) [] rfl) ?_
      exact t_X5_needNumber_31 g l hl P a1 hP w M v1
  · refine Tt.go (fun _ => Tr.run 2 (pc' := 11) (lv' := [(0, .ref P), (1, .int a1)]) (st' := [.int (-2 : Int32), .ref P]) rfl) ?_
    refine Tt.callV (As := [.int (-2 : Int32)]) (rest := []) (c_X5_fail g l hl P (-2 : Int32) hP M w) hP (by decide) rfl rfl cw_X5_fail fw738 pn_X5_fail (Nat.le_of_ble_eq_true rfl) (Nat.le_of_ble_eq_true rfl) (Nat.le_of_ble_eq_true rfl) rfl (fun v2 => (?_ : Tt g l z_X5_needNumber (emVw M w) _ 14 [(0, .ref P), (1, .int a1)] [] (v2, w)))
    refine Tt.go (fun _ => Tr.run 1 (pc' := 31) (lv' := [(0, .ref P), (1, .int a1)]) (st' := []) rfl) ?_
    refine Tt.go (fun _ => Tr.sub (lv' := []) [] rfl) ?_
    exact t_X5_needNumber_31 g l hl P a1 hP w M v2
theorem c_X5_needNumber (g : fm_G) (l : Launch) (hl : l.stackTraces = false) (P : Nat) (a1 : Int32) (hP : fm_kd g P = 5) (M : fm_Mem) (w : fm_W) : ∀ r, f_X5_needNumber P a1 M = some r → fC g l z_X5_needNumber [.ref P, .int a1] (M, w) (emVw M w r) := fun r hr => fC.of (by decide) rfl o_X5_needNumber hl (Nat.le_of_ble_eq_true rfl) (t_X5_needNumber g l hl P a1 hP M w r hr)
def k_X5_readPlaces : List (Nat × Instr × Nat) := [(0, .aload_n 0, 1), (1, .invokevirtual 75, 3), (4, .iconst 0, 1), (5, .istore_n 1, 1), (6, .iload_n 1, 1), (7, .sipush 400, 3), (10, .if_icmp .ge 122, 3), (13, .aload_n 0, 1), (14, .getfield 41, 3), (17, .ifCond .ne 115, 3), (20, .iload_n 1, 1), (21, .ifCond .eq 11, 3), (24, .aload_n 0, 1), (25, .getfield 44, 3), (28, .iconst 2, 1), (29, .if_icmp .ne 103, 3), (32, .aload_n 0, 1), (33, .sipush 200, 3), (36, .invokevirtual 84, 3), (39, .aload_n 0, 1), (40, .getfield 23, 3), (43, .getfield 87, 3), (46, .invokevirtual 91, 3), (49, .bipush 20, 2), (51, .if_icmp .lt 9, 3), (54, .aload_n 0, 1), (55, .bipush (-5), 2), (57, .invokevirtual 60, 3), (60, .aload_n 0, 1), (61, .getfield 81, 3), (64, .istore_n 2, 1), (65, .aload_n 0, 1), (66, .invokevirtual 75, 3), (69, .aload_n 0, 1), (70, .sipush 200, 3), (73, .invokevirtual 84, 3), (76, .aload_n 0, 1), (77, .getfield 23, 3), (80, .getfield 87, 3), (83, .iload_n 2, 1), (84, .aload_n 0, 1), (85, .getfield 81, 3), (88, .invokevirtual 97, 3), (91, .ifCond .lt 9, 3), (94, .aload_n 0, 1), (95, .bipush (-4), 2), (97, .invokevirtual 60, 3), (100, .aload_n 0, 1), (101, .getfield 41, 3), (104, .ifCond .ne 18, 3), (107, .aload_n 0, 1), (108, .getfield 23, 3), (111, .getfield 87, 3), (114, .iload_n 2, 1), (115, .aload_n 0, 1), (116, .getfield 81, 3), (119, .invokevirtual 101, 3), (122, .aload_n 0, 1), (123, .invokevirtual 75, 3), (126, .iinc 1 1, 3), (129, .goto (-123), 3), (132, .return_, 1)]
def z_X5_readPlaces : fm_Y := (yX5_readPlaces, RX5, cX5_readPlaces, 3, none, k_X5_readPlaces, 8, 203)
theorem o_X5_readPlaces : fm_dec z_X5_readPlaces := (by decide +kernel : ∀ q ∈ k_X5_readPlaces, decode cX5_readPlaces q.1 = .ok q.2)
theorem cw_X5_readPlaces : fm_cwV z_X5_readPlaces := ⟨⟨lw_in 745 (by decide +kernel) (by decide +kernel), lw_in 92 (by decide +kernel) (by decide +kernel), by decide, by decide⟩, lw_in 744 (by decide +kernel) (by decide +kernel), lw_in 15 (by decide +kernel) (by decide +kernel)⟩
theorem pn_X5_readPlaces : (parseMethodDescriptor z_X5_readPlaces.1.desc).map (fun d => d.parameters.length) = some 0 := by decide +kernel
def f_X5_readPlaces_132 (P : Nat)  (M : fm_Mem) : Option (fm_Mem) := some (M)
set_option maxRecDepth 100000 in
set_option maxHeartbeats 4000000 in
theorem t_X5_readPlaces_132 (g : fm_G) (l : Launch) (hl : l.stackTraces = false) (P : Nat) (hP : fm_kd g P = 5) (w : fm_W) (M0 : fm_Mem)    (M : fm_Mem) : Tt g l z_X5_readPlaces (emVw M0 w) (f_X5_readPlaces_132 P   M) 132 [] [] (M, w) := by
  rw [f_X5_readPlaces_132]
  exact Tt.ret (Tr.vret rfl rfl)
def f_X5_readPlaces_122 (P : Nat) (k6 : Int32 → fm_Mem → Option (fm_Mem)) (x1 : Int32) (M : fm_Mem) : Option (fm_Mem) := Option.bind (f_X5_advance P M) (fun v1 => (k6 (x1 + (1 : Int32)) v1))
set_option maxRecDepth 100000 in
set_option maxHeartbeats 4000000 in
theorem t_X5_readPlaces_122 (g : fm_G) (l : Launch) (hl : l.stackTraces = false) (P : Nat) (hP : fm_kd g P = 5) (w : fm_W) (M0 : fm_Mem) (k6 : Int32 → fm_Mem → Option (fm_Mem)) (hk6 : ∀ (x1 : Int32) (M : fm_Mem), Tt g l z_X5_readPlaces (emVw M0 w) (k6 x1 M) 6 [(0, .ref P), (1, .int x1)] [] (M, w)) (x1 : Int32)  (M : fm_Mem) : Tt g l z_X5_readPlaces (emVw M0 w) (f_X5_readPlaces_122 P k6 x1 M) 122 [(0, .ref P), (1, .int x1)] [] (M, w) := by
  rw [f_X5_readPlaces_122]
  refine Tt.go (fun _ => Tr.run 1 (pc' := 123) (lv' := [(0, .ref P), (1, .int x1)]) (st' := [.ref P]) rfl) ?_
  refine Tt.callV (As := []) (rest := []) (c_X5_advance g l hl P hP M w) hP (by decide) rfl rfl cw_X5_advance fw659 pn_X5_advance (Nat.le_of_ble_eq_true rfl) (Nat.le_of_ble_eq_true rfl) (Nat.le_of_ble_eq_true rfl) rfl (fun v1 => (?_ : Tt g l z_X5_readPlaces (emVw M0 w) _ 126 [(0, .ref P), (1, .int x1)] [] (v1, w)))
  refine Tt.go (fun _ => Tr.run 2 (pc' := 6) (lv' := [(1, .int (x1 + (1 : Int32))), (0, .ref P)]) (st' := []) rfl) ?_
  refine Tt.go (fun _ => Tr.sub (lv' := [(0, .ref P), (1, .int (x1 + (1 : Int32)))]) [1, 0] rfl) ?_
  exact hk6 (x1 + (1 : Int32)) v1
def f_X5_readPlaces_100 (P : Nat) (k6 : Int32 → fm_Mem → Option (fm_Mem)) (x1 : Int32) (x2 : Int32) (M : fm_Mem) : Option (fm_Mem) := if (M P 8) = 0 then (Option.bind (f_X3_add (P + 3 + 1) x2 (M P 7) M) (fun v1 => (f_X5_readPlaces_122 P k6 x1 v1))) else (f_X5_readPlaces_122 P k6 x1 M)
set_option maxRecDepth 100000 in
set_option maxHeartbeats 4000000 in
theorem t_X5_readPlaces_100 (g : fm_G) (l : Launch) (hl : l.stackTraces = false) (P : Nat) (hP : fm_kd g P = 5) (w : fm_W) (M0 : fm_Mem) (k6 : Int32 → fm_Mem → Option (fm_Mem)) (hk6 : ∀ (x1 : Int32) (M : fm_Mem), Tt g l z_X5_readPlaces (emVw M0 w) (k6 x1 M) 6 [(0, .ref P), (1, .int x1)] [] (M, w)) (x1 : Int32) (x2 : Int32)  (M : fm_Mem) : Tt g l z_X5_readPlaces (emVw M0 w) (f_X5_readPlaces_100 P k6 x1 x2 M) 100 [(0, .ref P), (1, .int x1), (2, .int x2)] [] (M, w) := by
  rw [f_X5_readPlaces_100]
  refine Tt.go (fun _ => Tr.run 1 (pc' := 101) (lv' := [(0, .ref P), (1, .int x1), (2, .int x2)]) (st' := [.ref P]) rfl) ?_
  refine Tt.go (fun _ => Tr.get fmc5 hP rfl fw216 (k := 8) (by decide) rfl) (?_ : Tt g l z_X5_readPlaces (emVw M0 w) _ 104 [(0, .ref P), (1, .int x1), (2, .int x2)] [.int (M P 8)] (M, w))
  refine Tt.if_ne (tgt := 122) rfl (by decide) ?_ ?_
  · refine Tt.go (fun _ => Tr.run 1 (pc' := 108) (lv' := [(0, .ref P), (1, .int x1), (2, .int x2)]) (st' := [.ref P]) rfl) ?_
    refine Tt.go (fun _ => Tr.get fmc5 hP rfl fw208 (k := 1) (by decide) rfl) (?_ : Tt g l z_X5_readPlaces (emVw M0 w) _ 111 [(0, .ref P), (1, .int x1), (2, .int x2)] [.ref (P + 3)] (M, w))
    refine Tt.go (fun _ => Tr.getN fmc2 (fmk_5_1 hP) rfl nw187 (k := 0) (by decide) rfl) (?_ : Tt g l z_X5_readPlaces (emVw M0 w) _ 114 [(0, .ref P), (1, .int x1), (2, .int x2)] [.ref (P + 3 + 1)] (M, w))
    refine Tt.go (fun _ => Tr.run 2 (pc' := 116) (lv' := [(0, .ref P), (1, .int x1), (2, .int x2)]) (st' := [.ref P, .int x2, .ref (P + 3 + 1)]) rfl) ?_
    refine Tt.go (fun _ => Tr.get fmc5 hP rfl fw215 (k := 7) (by decide) rfl) (?_ : Tt g l z_X5_readPlaces (emVw M0 w) _ 119 [(0, .ref P), (1, .int x1), (2, .int x2)] [.int (M P 7), .int x2, .ref (P + 3 + 1)] (M, w))
    refine Tt.callV (As := [.int x2, .int (M P 7)]) (rest := []) (c_X3_add g l hl (P + 3 + 1) x2 (M P 7) (fmk_2_0 (fmk_5_1 hP)) M w) (fmk_2_0 (fmk_5_1 hP)) (by decide) rfl rfl cw_X3_add fw755 pn_X3_add (Nat.le_of_ble_eq_true rfl) (Nat.le_of_ble_eq_true rfl) (Nat.le_of_ble_eq_true rfl) rfl (fun v1 => (?_ : Tt g l z_X5_readPlaces (emVw M0 w) _ 122 [(0, .ref P), (1, .int x1), (2, .int x2)] [] (v1, w)))
    refine Tt.go (fun _ => Tr.sub (lv' := [(0, .ref P), (1, .int x1)]) [0, 1] rfl) ?_
    exact t_X5_readPlaces_122 g l hl P hP w M0 k6 hk6 x1 v1
  · refine Tt.go (fun _ => Tr.sub (lv' := [(0, .ref P), (1, .int x1)]) [0, 1] rfl) ?_
    exact t_X5_readPlaces_122 g l hl P hP w M0 k6 hk6 x1 M
def f_X5_readPlaces_60 (P : Nat) (k6 : Int32 → fm_Mem → Option (fm_Mem)) (x1 : Int32) (M : fm_Mem) : Option (fm_Mem) := Option.bind (f_X5_advance P M) (fun v1 => Option.bind (f_X5_needNumber P (200 : Int32) v1) (fun v2 => Option.bind (f_X3_find (P + 3 + 1) (M P 7) (v2 P 7) v2) (fun v3 => if v3 < 0 then (f_X5_readPlaces_100 P k6 x1 (M P 7) v2) else (Option.bind (f_X5_fail P (-4 : Int32) v2) (fun v4 => (f_X5_readPlaces_100 P k6 x1 (M P 7) v4))))))
set_option maxRecDepth 100000 in
set_option maxHeartbeats 4000000 in
theorem t_X5_readPlaces_60 (g : fm_G) (l : Launch) (hl : l.stackTraces = false) (P : Nat) (hP : fm_kd g P = 5) (w : fm_W) (M0 : fm_Mem) (k6 : Int32 → fm_Mem → Option (fm_Mem)) (hk6 : ∀ (x1 : Int32) (M : fm_Mem), Tt g l z_X5_readPlaces (emVw M0 w) (k6 x1 M) 6 [(0, .ref P), (1, .int x1)] [] (M, w)) (x1 : Int32)  (M : fm_Mem) : Tt g l z_X5_readPlaces (emVw M0 w) (f_X5_readPlaces_60 P k6 x1 M) 60 [(0, .ref P), (1, .int x1)] [] (M, w) := by
  rw [f_X5_readPlaces_60]
  refine Tt.go (fun _ => Tr.run 1 (pc' := 61) (lv' := [(0, .ref P), (1, .int x1)]) (st' := [.ref P]) rfl) ?_
  refine Tt.go (fun _ => Tr.get fmc5 hP rfl fw215 (k := 7) (by decide) rfl) (?_ : Tt g l z_X5_readPlaces (emVw M0 w) _ 64 [(0, .ref P), (1, .int x1)] [.int (M P 7)] (M, w))
  refine Tt.go (fun _ => Tr.run 2 (pc' := 66) (lv' := [(2, .int (M P 7)), (0, .ref P), (1, .int x1)]) (st' := [.ref P]) rfl) ?_
  refine Tt.callV (As := []) (rest := []) (c_X5_advance g l hl P hP M w) hP (by decide) rfl rfl cw_X5_advance fw659 pn_X5_advance (Nat.le_of_ble_eq_true rfl) (Nat.le_of_ble_eq_true rfl) (Nat.le_of_ble_eq_true rfl) rfl (fun v1 => (?_ : Tt g l z_X5_readPlaces (emVw M0 w) _ 69 [(2, .int (M P 7)), (0, .ref P), (1, .int x1)] [] (v1, w)))
  refine Tt.go (fun _ => Tr.run 2 (pc' := 73) (lv' := [(2, .int (M P 7)), (0, .ref P), (1, .int x1)]) (st' := [.int (200 : Int32), .ref P]) rfl) ?_
  refine Tt.callV (As := [.int (200 : Int32)]) (rest := []) (c_X5_needNumber g l hl P (200 : Int32) hP v1 w) hP (by decide) rfl rfl cw_X5_needNumber fw746 pn_X5_needNumber (Nat.le_of_ble_eq_true rfl) (Nat.le_of_ble_eq_true rfl) (Nat.le_of_ble_eq_true rfl) rfl (fun v2 => (?_ : Tt g l z_X5_readPlaces (emVw M0 w) _ 76 [(2, .int (M P 7)), (0, .ref P), (1, .int x1)] [] (v2, w)))
  refine Tt.go (fun _ => Tr.run 1 (pc' := 77) (lv' := [(2, .int (M P 7)), (0, .ref P), (1, .int x1)]) (st' := [.ref P]) rfl) ?_
  refine Tt.go (fun _ => Tr.get fmc5 hP rfl fw208 (k := 1) (by decide) rfl) (?_ : Tt g l z_X5_readPlaces (emVw M0 w) _ 80 [(2, .int (M P 7)), (0, .ref P), (1, .int x1)] [.ref (P + 3)] (v2, w))
  refine Tt.go (fun _ => Tr.getN fmc2 (fmk_5_1 hP) rfl nw187 (k := 0) (by decide) rfl) (?_ : Tt g l z_X5_readPlaces (emVw M0 w) _ 83 [(2, .int (M P 7)), (0, .ref P), (1, .int x1)] [.ref (P + 3 + 1)] (v2, w))
  refine Tt.go (fun _ => Tr.run 2 (pc' := 85) (lv' := [(2, .int (M P 7)), (0, .ref P), (1, .int x1)]) (st' := [.ref P, .int (M P 7), .ref (P + 3 + 1)]) rfl) ?_
  refine Tt.go (fun _ => Tr.get fmc5 hP rfl fw215 (k := 7) (by decide) rfl) (?_ : Tt g l z_X5_readPlaces (emVw M0 w) _ 88 [(2, .int (M P 7)), (0, .ref P), (1, .int x1)] [.int (v2 P 7), .int (M P 7), .ref (P + 3 + 1)] (v2, w))
  refine Tt.callV (As := [.int (M P 7), .int (v2 P 7)]) (rest := []) (c_X3_find g l hl (P + 3 + 1) (M P 7) (v2 P 7) (fmk_2_0 (fmk_5_1 hP)) v2 w) (fmk_2_0 (fmk_5_1 hP)) (by decide) rfl rfl cw_X3_find fw751 pn_X3_find (Nat.le_of_ble_eq_true rfl) (Nat.le_of_ble_eq_true rfl) (Nat.le_of_ble_eq_true rfl) rfl (fun v3 => (?_ : Tt g l z_X5_readPlaces (emVw M0 w) _ 91 [(2, .int (M P 7)), (0, .ref P), (1, .int x1)] [.int v3] (v2, w)))
  refine Tt.if_lt (tgt := 100) rfl (by decide) ?_ ?_
  · refine Tt.go (fun _ => Tr.sub (lv' := [(0, .ref P), (1, .int x1), (2, .int (M P 7))]) [1, 2, 0] rfl) ?_
    exact t_X5_readPlaces_100 g l hl P hP w M0 k6 hk6 x1 (M P 7) v2
  · refine Tt.go (fun _ => Tr.run 2 (pc' := 97) (lv' := [(2, .int (M P 7)), (0, .ref P), (1, .int x1)]) (st' := [.int (-4 : Int32), .ref P]) rfl) ?_
    refine Tt.callV (As := [.int (-4 : Int32)]) (rest := []) (c_X5_fail g l hl P (-4 : Int32) hP v2 w) hP (by decide) rfl rfl cw_X5_fail fw738 pn_X5_fail (Nat.le_of_ble_eq_true rfl) (Nat.le_of_ble_eq_true rfl) (Nat.le_of_ble_eq_true rfl) rfl (fun v4 => (?_ : Tt g l z_X5_readPlaces (emVw M0 w) _ 100 [(2, .int (M P 7)), (0, .ref P), (1, .int x1)] [] (v4, w)))
    refine Tt.go (fun _ => Tr.sub (lv' := [(0, .ref P), (1, .int x1), (2, .int (M P 7))]) [1, 2, 0] rfl) ?_
    exact t_X5_readPlaces_100 g l hl P hP w M0 k6 hk6 x1 (M P 7) v4
def f_X5_readPlaces_32 (P : Nat) (k6 : Int32 → fm_Mem → Option (fm_Mem)) (x1 : Int32) (M : fm_Mem) : Option (fm_Mem) := Option.bind (f_X5_needNumber P (200 : Int32) M) (fun v1 => Option.bind (f_X3_size (P + 3 + 1) v1) (fun v2 => if v2 < (20 : Int32) then (f_X5_readPlaces_60 P k6 x1 v1) else (Option.bind (f_X5_fail P (-5 : Int32) v1) (fun v3 => (f_X5_readPlaces_60 P k6 x1 v3)))))
set_option maxRecDepth 100000 in
set_option maxHeartbeats 4000000 in
theorem t_X5_readPlaces_32 (g : fm_G) (l : Launch) (hl : l.stackTraces = false) (P : Nat) (hP : fm_kd g P = 5) (w : fm_W) (M0 : fm_Mem) (k6 : Int32 → fm_Mem → Option (fm_Mem)) (hk6 : ∀ (x1 : Int32) (M : fm_Mem), Tt g l z_X5_readPlaces (emVw M0 w) (k6 x1 M) 6 [(0, .ref P), (1, .int x1)] [] (M, w)) (x1 : Int32)  (M : fm_Mem) : Tt g l z_X5_readPlaces (emVw M0 w) (f_X5_readPlaces_32 P k6 x1 M) 32 [(0, .ref P), (1, .int x1)] [] (M, w) := by
  rw [f_X5_readPlaces_32]
  refine Tt.go (fun _ => Tr.run 2 (pc' := 36) (lv' := [(0, .ref P), (1, .int x1)]) (st' := [.int (200 : Int32), .ref P]) rfl) ?_
  refine Tt.callV (As := [.int (200 : Int32)]) (rest := []) (c_X5_needNumber g l hl P (200 : Int32) hP M w) hP (by decide) rfl rfl cw_X5_needNumber fw746 pn_X5_needNumber (Nat.le_of_ble_eq_true rfl) (Nat.le_of_ble_eq_true rfl) (Nat.le_of_ble_eq_true rfl) rfl (fun v1 => (?_ : Tt g l z_X5_readPlaces (emVw M0 w) _ 39 [(0, .ref P), (1, .int x1)] [] (v1, w)))
  refine Tt.go (fun _ => Tr.run 1 (pc' := 40) (lv' := [(0, .ref P), (1, .int x1)]) (st' := [.ref P]) rfl) ?_
  refine Tt.go (fun _ => Tr.get fmc5 hP rfl fw208 (k := 1) (by decide) rfl) (?_ : Tt g l z_X5_readPlaces (emVw M0 w) _ 43 [(0, .ref P), (1, .int x1)] [.ref (P + 3)] (v1, w))
  refine Tt.go (fun _ => Tr.getN fmc2 (fmk_5_1 hP) rfl nw187 (k := 0) (by decide) rfl) (?_ : Tt g l z_X5_readPlaces (emVw M0 w) _ 46 [(0, .ref P), (1, .int x1)] [.ref (P + 3 + 1)] (v1, w))
  refine Tt.callV (As := []) (rest := []) (c_X3_size g l hl (P + 3 + 1) (fmk_2_0 (fmk_5_1 hP)) v1 w) (fmk_2_0 (fmk_5_1 hP)) (by decide) rfl rfl cw_X3_size fw750 pn_X3_size (Nat.le_of_ble_eq_true rfl) (Nat.le_of_ble_eq_true rfl) (Nat.le_of_ble_eq_true rfl) rfl (fun v2 => (?_ : Tt g l z_X5_readPlaces (emVw M0 w) _ 49 [(0, .ref P), (1, .int x1)] [.int v2] (v1, w)))
  refine Tt.go (fun _ => Tr.run 1 (pc' := 51) (lv' := [(0, .ref P), (1, .int x1)]) (st' := [.int (20 : Int32), .int v2]) rfl) ?_
  refine Tt.ic_lt (tgt := 60) rfl (by decide) ?_ ?_
  · exact t_X5_readPlaces_60 g l hl P hP w M0 k6 hk6 x1 v1
  · refine Tt.go (fun _ => Tr.run 2 (pc' := 57) (lv' := [(0, .ref P), (1, .int x1)]) (st' := [.int (-5 : Int32), .ref P]) rfl) ?_
    refine Tt.callV (As := [.int (-5 : Int32)]) (rest := []) (c_X5_fail g l hl P (-5 : Int32) hP v1 w) hP (by decide) rfl rfl cw_X5_fail fw738 pn_X5_fail (Nat.le_of_ble_eq_true rfl) (Nat.le_of_ble_eq_true rfl) (Nat.le_of_ble_eq_true rfl) rfl (fun v3 => (?_ : Tt g l z_X5_readPlaces (emVw M0 w) _ 60 [(0, .ref P), (1, .int x1)] [] (v3, w)))
    exact t_X5_readPlaces_60 g l hl P hP w M0 k6 hk6 x1 v3
def f_X5_readPlaces_6 (P : Nat) : Nat → Int32 → fm_Mem → Option (fm_Mem)
  | 0, _, _ => none
  | n + 1, x1, M => if (400 : Int32) ≤ x1 then (f_X5_readPlaces_132 P M) else (if (M P 8) = 0 then (if x1 = 0 then (f_X5_readPlaces_32 P (fun x1 M => f_X5_readPlaces_6 P n x1 M) x1 M) else (if (M P 5) = (2 : Int32) then (f_X5_readPlaces_32 P (fun x1 M => f_X5_readPlaces_6 P n x1 M) x1 M) else (f_X5_readPlaces_132 P M))) else (f_X5_readPlaces_132 P M))
set_option maxRecDepth 100000 in
set_option maxHeartbeats 4000000 in
theorem t_X5_readPlaces_6 (g : fm_G) (l : Launch) (hl : l.stackTraces = false) (P : Nat) (hP : fm_kd g P = 5) (w : fm_W) (M0 : fm_Mem)  : ∀ (n : Nat) (x1 : Int32)  (M : fm_Mem), Tt g l z_X5_readPlaces (emVw M0 w) (f_X5_readPlaces_6 P  n x1 M) 6 [(0, .ref P), (1, .int x1)] [] (M, w) := by
  intro n
  induction n with
  | zero => intros; exact Tt.none
  | succ n ih =>
    intro x1  M
    rw [f_X5_readPlaces_6]
    refine Tt.go (fun _ => Tr.run 2 (pc' := 10) (lv' := [(0, .ref P), (1, .int x1)]) (st' := [.int (400 : Int32), .int x1]) rfl) ?_
    refine Tt.ic_ge (tgt := 132) rfl (by decide) ?_ ?_
    · refine Tt.go (fun _ => Tr.sub (lv' := []) [] rfl) ?_
      exact t_X5_readPlaces_132 g l hl P hP w M0 M
    · refine Tt.go (fun _ => Tr.run 1 (pc' := 14) (lv' := [(0, .ref P), (1, .int x1)]) (st' := [.ref P]) rfl) ?_
      refine Tt.go (fun _ => Tr.get fmc5 hP rfl fw216 (k := 8) (by decide) rfl) (?_ : Tt g l z_X5_readPlaces (emVw M0 w) _ 17 [(0, .ref P), (1, .int x1)] [.int (M P 8)] (M, w))
      refine Tt.if_ne (tgt := 132) rfl (by decide) ?_ ?_
      · refine Tt.go (fun _ => Tr.run 1 (pc' := 21) (lv' := [(0, .ref P), (1, .int x1)]) (st' := [.int x1]) rfl) ?_
        refine Tt.if_eq (tgt := 32) rfl (by decide) ?_ ?_
        · exact t_X5_readPlaces_32 g l hl P hP w M0 _ ih x1 M
        · refine Tt.go (fun _ => Tr.run 1 (pc' := 25) (lv' := [(0, .ref P), (1, .int x1)]) (st' := [.ref P]) rfl) ?_
          refine Tt.go (fun _ => Tr.get fmc5 hP rfl fw213 (k := 5) (by decide) rfl) (?_ : Tt g l z_X5_readPlaces (emVw M0 w) _ 28 [(0, .ref P), (1, .int x1)] [.int (M P 5)] (M, w))
          refine Tt.go (fun _ => Tr.run 1 (pc' := 29) (lv' := [(0, .ref P), (1, .int x1)]) (st' := [.int (2 : Int32), .int (M P 5)]) rfl) ?_
          refine Tt.ic_ne (tgt := 132) rfl (by decide) ?_ ?_
          · exact t_X5_readPlaces_32 g l hl P hP w M0 _ ih x1 M
          · refine Tt.go (fun _ => Tr.sub (lv' := []) [] rfl) ?_
            exact t_X5_readPlaces_132 g l hl P hP w M0 M
      · refine Tt.go (fun _ => Tr.sub (lv' := []) [] rfl) ?_
        exact t_X5_readPlaces_132 g l hl P hP w M0 M
def f_X5_readPlaces (P : Nat) (M : fm_Mem) : Option (fm_Mem) := Option.bind (f_X5_advance P M) (fun v1 => (f_X5_readPlaces_6 P fm_fuel (0 : Int32) v1))
set_option maxRecDepth 100000 in
set_option maxHeartbeats 4000000 in
theorem t_X5_readPlaces (g : fm_G) (l : Launch) (hl : l.stackTraces = false) (P : Nat) (hP : fm_kd g P = 5) (M : fm_Mem) (w : fm_W) : Tt g l z_X5_readPlaces (emVw M w) (f_X5_readPlaces P M) 0 [(0, .ref P)] [] (M, w) := by
  rw [f_X5_readPlaces]
  refine Tt.go (fun _ => Tr.run 1 (pc' := 1) (lv' := [(0, .ref P)]) (st' := [.ref P]) rfl) ?_
  refine Tt.callV (As := []) (rest := []) (c_X5_advance g l hl P hP M w) hP (by decide) rfl rfl cw_X5_advance fw659 pn_X5_advance (Nat.le_of_ble_eq_true rfl) (Nat.le_of_ble_eq_true rfl) (Nat.le_of_ble_eq_true rfl) rfl (fun v1 => (?_ : Tt g l z_X5_readPlaces (emVw M w) _ 4 [(0, .ref P)] [] (v1, w)))
  refine Tt.go (fun _ => Tr.run 2 (pc' := 6) (lv' := [(1, .int (0 : Int32)), (0, .ref P)]) (st' := []) rfl) ?_
  refine Tt.go (fun _ => Tr.sub (lv' := [(0, .ref P), (1, .int (0 : Int32))]) [1, 0] rfl) ?_
  exact t_X5_readPlaces_6 g l hl P hP w M fm_fuel (0 : Int32) v1
theorem c_X5_readPlaces (g : fm_G) (l : Launch) (hl : l.stackTraces = false) (P : Nat) (hP : fm_kd g P = 5) (M : fm_Mem) (w : fm_W) : ∀ r, f_X5_readPlaces P M = some r → fC g l z_X5_readPlaces [.ref P] (M, w) (emVw M w r) := fun r hr => fC.of (by decide) rfl o_X5_readPlaces hl (Nat.le_of_ble_eq_true rfl) (t_X5_readPlaces g l hl P hP M w r hr)
def k_X5_draw : List (Nat × Instr × Nat) := [(0, .aload_n 0, 1), (1, .getfield 41, 3), (4, .ifCond .ne 22, 3), (7, .aload_n 0, 1), (8, .getfield 47, 3), (11, .ifCond .ne 15, 3), (14, .aload_n 0, 1), (15, .iconst 1, 1), (16, .putfield 47, 3), (19, .aload_n 0, 1), (20, .getfield 23, 3), (23, .invokevirtual 110, 3), (26, .return_, 1)]
def z_X5_draw : fm_Y := (yX5_draw, RX5, cX5_draw, 1, none, k_X5_draw, 4, 118)
theorem o_X5_draw : fm_dec z_X5_draw := (by decide +kernel : ∀ q ∈ k_X5_draw, decode cX5_draw q.1 = .ok q.2)
theorem cw_X5_draw : fm_cwV z_X5_draw := ⟨⟨lw_in 767 (by decide +kernel) (by decide +kernel), lw_in 92 (by decide +kernel) (by decide +kernel), by decide, by decide⟩, lw_in 766 (by decide +kernel) (by decide +kernel), lw_in 17 (by decide +kernel) (by decide +kernel)⟩
theorem pn_X5_draw : (parseMethodDescriptor z_X5_draw.1.desc).map (fun d => d.parameters.length) = some 0 := by decide +kernel
def f_X5_draw_26 (P : Nat)  (M : fm_Mem) : Option (fm_Mem) := some (M)
set_option maxRecDepth 100000 in
set_option maxHeartbeats 4000000 in
theorem t_X5_draw_26 (g : fm_G) (l : Launch) (hl : l.stackTraces = false) (P : Nat) (hP : fm_kd g P = 5) (w : fm_W) (M0 : fm_Mem)    (M : fm_Mem) : Tt g l z_X5_draw (emVw M0 w) (f_X5_draw_26 P   M) 26 [] [] (M, w) := by
  rw [f_X5_draw_26]
  exact Tt.ret (Tr.vret rfl rfl)
def f_X5_draw (P : Nat) (M : fm_Mem) : Option (fm_Mem) := if (M P 8) = 0 then (if (M P 10) = 0 then (Option.bind (f_X2_renew (P + 3) (fm_up M P 10 (1 : Int32))) (fun v1 => (f_X5_draw_26 P v1))) else (f_X5_draw_26 P M)) else (f_X5_draw_26 P M)
set_option maxRecDepth 100000 in
set_option maxHeartbeats 4000000 in
theorem t_X5_draw (g : fm_G) (l : Launch) (hl : l.stackTraces = false) (P : Nat) (hP : fm_kd g P = 5) (M : fm_Mem) (w : fm_W) : Tt g l z_X5_draw (emVw M w) (f_X5_draw P M) 0 [(0, .ref P)] [] (M, w) := by
  rw [f_X5_draw]
  refine Tt.go (fun _ => Tr.run 1 (pc' := 1) (lv' := [(0, .ref P)]) (st' := [.ref P]) rfl) ?_
  refine Tt.go (fun _ => Tr.get fmc5 hP rfl fw216 (k := 8) (by decide) rfl) (?_ : Tt g l z_X5_draw (emVw M w) _ 4 [(0, .ref P)] [.int (M P 8)] (M, w))
  refine Tt.if_ne (tgt := 26) rfl (by decide) ?_ ?_
  · refine Tt.go (fun _ => Tr.run 1 (pc' := 8) (lv' := [(0, .ref P)]) (st' := [.ref P]) rfl) ?_
    refine Tt.go (fun _ => Tr.get fmc5 hP rfl fw219 (k := 10) (by decide) rfl) (?_ : Tt g l z_X5_draw (emVw M w) _ 11 [(0, .ref P)] [.int (M P 10)] (M, w))
    refine Tt.if_ne (tgt := 26) rfl (by decide) ?_ ?_
    · refine Tt.go (fun _ => Tr.run 2 (pc' := 16) (lv' := [(0, .ref P)]) (st' := [.int (1 : Int32), .ref P]) rfl) ?_
      refine Tt.go (fun _ => Tr.put fmc5 hP rfl fw219 (k := 10) (by decide) rfl rfl (fm_bo_nar (by decide))) (?_ : Tt g l z_X5_draw (emVw M w) _ 19 [(0, .ref P)] [] ((fm_up M P 10 (1 : Int32)), w))
      refine Tt.go (fun _ => Tr.run 1 (pc' := 20) (lv' := [(0, .ref P)]) (st' := [.ref P]) rfl) ?_
      refine Tt.go (fun _ => Tr.get fmc5 hP rfl fw208 (k := 1) (by decide) rfl) (?_ : Tt g l z_X5_draw (emVw M w) _ 23 [(0, .ref P)] [.ref (P + 3)] ((fm_up M P 10 (1 : Int32)), w))
      refine Tt.callV (As := []) (rest := []) (c_X2_renew g l hl (P + 3) (fmk_5_1 hP) (fm_up M P 10 (1 : Int32)) w) (fmk_5_1 hP) (by decide) rfl rfl cw_X2_renew fw768 pn_X2_renew (Nat.le_of_ble_eq_true rfl) (Nat.le_of_ble_eq_true rfl) (Nat.le_of_ble_eq_true rfl) rfl (fun v1 => (?_ : Tt g l z_X5_draw (emVw M w) _ 26 [(0, .ref P)] [] (v1, w)))
      refine Tt.go (fun _ => Tr.sub (lv' := []) [] rfl) ?_
      exact t_X5_draw_26 g l hl P hP w M v1
    · refine Tt.go (fun _ => Tr.sub (lv' := []) [] rfl) ?_
      exact t_X5_draw_26 g l hl P hP w M M
  · refine Tt.go (fun _ => Tr.sub (lv' := []) [] rfl) ?_
    exact t_X5_draw_26 g l hl P hP w M M
theorem c_X5_draw (g : fm_G) (l : Launch) (hl : l.stackTraces = false) (P : Nat) (hP : fm_kd g P = 5) (M : fm_Mem) (w : fm_W) : ∀ r, f_X5_draw P M = some r → fC g l z_X5_draw [.ref P] (M, w) (emVw M w r) := fun r hr => fC.of (by decide) rfl o_X5_draw hl (Nat.le_of_ble_eq_true rfl) (t_X5_draw g l hl P hP M w r hr)
def k_X5_readFlip : List (Nat × Instr × Nat) := [(0, .aload_n 0, 1), (1, .invokevirtual 75, 3), (4, .aload_n 0, 1), (5, .getfield 23, 3), (8, .getfield 87, 3), (11, .invokevirtual 91, 3), (14, .iconst 1, 1), (15, .isub, 1), (16, .istore_n 1, 1), (17, .aload_n 0, 1), (18, .iload_n 1, 1), (19, .invokevirtual 84, 3), (22, .aload_n 0, 1), (23, .getfield 81, 3), (26, .istore_n 2, 1), (27, .aload_n 0, 1), (28, .invokevirtual 75, 3), (31, .aload_n 0, 1), (32, .iload_n 1, 1), (33, .invokevirtual 84, 3), (36, .aload_n 0, 1), (37, .getfield 41, 3), (40, .ifCond .ne 24, 3), (43, .aload_n 0, 1), (44, .getfield 23, 3), (47, .iload_n 2, 1), (48, .aload_n 0, 1), (49, .getfield 81, 3), (52, .invokevirtual 104, 3), (55, .ifCond .eq 9, 3), (58, .aload_n 0, 1), (59, .bipush (-6), 2), (61, .invokevirtual 60, 3), (64, .aload_n 0, 1), (65, .getfield 41, 3), (68, .ifCond .ne 16, 3), (71, .aload_n 0, 1), (72, .getfield 23, 3), (75, .iload_n 2, 1), (76, .aload_n 0, 1), (77, .getfield 81, 3), (80, .invokevirtual 107, 3), (83, .pop, 1), (84, .aload_n 0, 1), (85, .invokevirtual 75, 3), (88, .return_, 1)]
def z_X5_readFlip : fm_Y := (yX5_readFlip, RX5, cX5_readFlip, 3, none, k_X5_readFlip, 8, 203)
theorem o_X5_readFlip : fm_dec z_X5_readFlip := (by decide +kernel : ∀ q ∈ k_X5_readFlip, decode cX5_readFlip q.1 = .ok q.2)
theorem cw_X5_readFlip : fm_cwV z_X5_readFlip := ⟨⟨lw_in 803 (by decide +kernel) (by decide +kernel), lw_in 92 (by decide +kernel) (by decide +kernel), by decide, by decide⟩, lw_in 802 (by decide +kernel) (by decide +kernel), lw_in 21 (by decide +kernel) (by decide +kernel)⟩
theorem pn_X5_readFlip : (parseMethodDescriptor z_X5_readFlip.1.desc).map (fun d => d.parameters.length) = some 0 := by decide +kernel
def f_X5_readFlip_84 (P : Nat)  (M : fm_Mem) : Option (fm_Mem) := Option.bind (f_X5_advance P M) (fun v1 => some (v1))
set_option maxRecDepth 100000 in
set_option maxHeartbeats 4000000 in
theorem t_X5_readFlip_84 (g : fm_G) (l : Launch) (hl : l.stackTraces = false) (P : Nat) (hP : fm_kd g P = 5) (w : fm_W) (M0 : fm_Mem)    (M : fm_Mem) : Tt g l z_X5_readFlip (emVw M0 w) (f_X5_readFlip_84 P   M) 84 [(0, .ref P)] [] (M, w) := by
  rw [f_X5_readFlip_84]
  refine Tt.go (fun _ => Tr.run 1 (pc' := 85) (lv' := [(0, .ref P)]) (st' := [.ref P]) rfl) ?_
  refine Tt.callV (As := []) (rest := []) (c_X5_advance g l hl P hP M w) hP (by decide) rfl rfl cw_X5_advance fw659 pn_X5_advance (Nat.le_of_ble_eq_true rfl) (Nat.le_of_ble_eq_true rfl) (Nat.le_of_ble_eq_true rfl) rfl (fun v1 => (?_ : Tt g l z_X5_readFlip (emVw M0 w) _ 88 [(0, .ref P)] [] (v1, w)))
  exact Tt.ret (Tr.vret rfl rfl)
def f_X5_readFlip_64 (P : Nat) (x2 : Int32) (M : fm_Mem) : Option (fm_Mem) := if (M P 8) = 0 then (Option.bind (f_X2_flipEdge (P + 3) x2 (M P 7) M) (fun v1 => (f_X5_readFlip_84 P v1.2))) else (f_X5_readFlip_84 P M)
set_option maxRecDepth 100000 in
set_option maxHeartbeats 4000000 in
theorem t_X5_readFlip_64 (g : fm_G) (l : Launch) (hl : l.stackTraces = false) (P : Nat) (hP : fm_kd g P = 5) (w : fm_W) (M0 : fm_Mem)  (x2 : Int32)  (M : fm_Mem) : Tt g l z_X5_readFlip (emVw M0 w) (f_X5_readFlip_64 P  x2 M) 64 [(0, .ref P), (2, .int x2)] [] (M, w) := by
  rw [f_X5_readFlip_64]
  refine Tt.go (fun _ => Tr.run 1 (pc' := 65) (lv' := [(0, .ref P), (2, .int x2)]) (st' := [.ref P]) rfl) ?_
  refine Tt.go (fun _ => Tr.get fmc5 hP rfl fw216 (k := 8) (by decide) rfl) (?_ : Tt g l z_X5_readFlip (emVw M0 w) _ 68 [(0, .ref P), (2, .int x2)] [.int (M P 8)] (M, w))
  refine Tt.if_ne (tgt := 84) rfl (by decide) ?_ ?_
  · refine Tt.go (fun _ => Tr.run 1 (pc' := 72) (lv' := [(0, .ref P), (2, .int x2)]) (st' := [.ref P]) rfl) ?_
    refine Tt.go (fun _ => Tr.get fmc5 hP rfl fw208 (k := 1) (by decide) rfl) (?_ : Tt g l z_X5_readFlip (emVw M0 w) _ 75 [(0, .ref P), (2, .int x2)] [.ref (P + 3)] (M, w))
    refine Tt.go (fun _ => Tr.run 2 (pc' := 77) (lv' := [(0, .ref P), (2, .int x2)]) (st' := [.ref P, .int x2, .ref (P + 3)]) rfl) ?_
    refine Tt.go (fun _ => Tr.get fmc5 hP rfl fw215 (k := 7) (by decide) rfl) (?_ : Tt g l z_X5_readFlip (emVw M0 w) _ 80 [(0, .ref P), (2, .int x2)] [.int (M P 7), .int x2, .ref (P + 3)] (M, w))
    refine Tt.callV (As := [.int x2, .int (M P 7)]) (rest := []) (c_X2_flipEdge g l hl (P + 3) x2 (M P 7) (fmk_5_1 hP) M w) (fmk_5_1 hP) (by decide) rfl rfl cw_X2_flipEdge fw808 pn_X2_flipEdge (Nat.le_of_ble_eq_true rfl) (Nat.le_of_ble_eq_true rfl) (Nat.le_of_ble_eq_true rfl) rfl (fun v1 => (?_ : Tt g l z_X5_readFlip (emVw M0 w) _ 83 [(0, .ref P), (2, .int x2)] [.int v1.1] (v1.2, w)))
    refine Tt.go (fun _ => Tr.run 1 (pc' := 84) (lv' := [(0, .ref P), (2, .int x2)]) (st' := []) rfl) ?_
    refine Tt.go (fun _ => Tr.sub (lv' := [(0, .ref P)]) [0] rfl) ?_
    exact t_X5_readFlip_84 g l hl P hP w M0 v1.2
  · refine Tt.go (fun _ => Tr.sub (lv' := [(0, .ref P)]) [0] rfl) ?_
    exact t_X5_readFlip_84 g l hl P hP w M0 M
def f_X5_readFlip (P : Nat) (M : fm_Mem) : Option (fm_Mem) := Option.bind (f_X5_advance P M) (fun v1 => Option.bind (f_X3_size (P + 3 + 1) v1) (fun v2 => Option.bind (f_X5_needNumber P (v2 - (1 : Int32)) v1) (fun v3 => Option.bind (f_X5_advance P v3) (fun v4 => Option.bind (f_X5_needNumber P (v2 - (1 : Int32)) v4) (fun v5 => if (v5 P 8) = 0 then (Option.bind (f_X2_refusal (P + 3) (v3 P 7) (v5 P 7) v5) (fun v6 => if v6 = 0 then (f_X5_readFlip_64 P (v3 P 7) v5) else (Option.bind (f_X5_fail P (-6 : Int32) v5) (fun v7 => (f_X5_readFlip_64 P (v3 P 7) v7))))) else (f_X5_readFlip_64 P (v3 P 7) v5))))))
set_option maxRecDepth 100000 in
set_option maxHeartbeats 4000000 in
theorem t_X5_readFlip (g : fm_G) (l : Launch) (hl : l.stackTraces = false) (P : Nat) (hP : fm_kd g P = 5) (M : fm_Mem) (w : fm_W) : Tt g l z_X5_readFlip (emVw M w) (f_X5_readFlip P M) 0 [(0, .ref P)] [] (M, w) := by
  rw [f_X5_readFlip]
  refine Tt.go (fun _ => Tr.run 1 (pc' := 1) (lv' := [(0, .ref P)]) (st' := [.ref P]) rfl) ?_
  refine Tt.callV (As := []) (rest := []) (c_X5_advance g l hl P hP M w) hP (by decide) rfl rfl cw_X5_advance fw659 pn_X5_advance (Nat.le_of_ble_eq_true rfl) (Nat.le_of_ble_eq_true rfl) (Nat.le_of_ble_eq_true rfl) rfl (fun v1 => (?_ : Tt g l z_X5_readFlip (emVw M w) _ 4 [(0, .ref P)] [] (v1, w)))
  refine Tt.go (fun _ => Tr.run 1 (pc' := 5) (lv' := [(0, .ref P)]) (st' := [.ref P]) rfl) ?_
  refine Tt.go (fun _ => Tr.get fmc5 hP rfl fw208 (k := 1) (by decide) rfl) (?_ : Tt g l z_X5_readFlip (emVw M w) _ 8 [(0, .ref P)] [.ref (P + 3)] (v1, w))
  refine Tt.go (fun _ => Tr.getN fmc2 (fmk_5_1 hP) rfl nw187 (k := 0) (by decide) rfl) (?_ : Tt g l z_X5_readFlip (emVw M w) _ 11 [(0, .ref P)] [.ref (P + 3 + 1)] (v1, w))
  refine Tt.callV (As := []) (rest := []) (c_X3_size g l hl (P + 3 + 1) (fmk_2_0 (fmk_5_1 hP)) v1 w) (fmk_2_0 (fmk_5_1 hP)) (by decide) rfl rfl cw_X3_size fw750 pn_X3_size (Nat.le_of_ble_eq_true rfl) (Nat.le_of_ble_eq_true rfl) (Nat.le_of_ble_eq_true rfl) rfl (fun v2 => (?_ : Tt g l z_X5_readFlip (emVw M w) _ 14 [(0, .ref P)] [.int v2] (v1, w)))
  refine Tt.go (fun _ => Tr.run 5 (pc' := 19) (lv' := [(1, .int (v2 - (1 : Int32))), (0, .ref P)]) (st' := [.int (v2 - (1 : Int32)), .ref P]) rfl) ?_
  refine Tt.callV (As := [.int (v2 - (1 : Int32))]) (rest := []) (c_X5_needNumber g l hl P (v2 - (1 : Int32)) hP v1 w) hP (by decide) rfl rfl cw_X5_needNumber fw746 pn_X5_needNumber (Nat.le_of_ble_eq_true rfl) (Nat.le_of_ble_eq_true rfl) (Nat.le_of_ble_eq_true rfl) rfl (fun v3 => (?_ : Tt g l z_X5_readFlip (emVw M w) _ 22 [(1, .int (v2 - (1 : Int32))), (0, .ref P)] [] (v3, w)))
  refine Tt.go (fun _ => Tr.run 1 (pc' := 23) (lv' := [(1, .int (v2 - (1 : Int32))), (0, .ref P)]) (st' := [.ref P]) rfl) ?_
  refine Tt.go (fun _ => Tr.get fmc5 hP rfl fw215 (k := 7) (by decide) rfl) (?_ : Tt g l z_X5_readFlip (emVw M w) _ 26 [(1, .int (v2 - (1 : Int32))), (0, .ref P)] [.int (v3 P 7)] (v3, w))
  refine Tt.go (fun _ => Tr.run 2 (pc' := 28) (lv' := [(2, .int (v3 P 7)), (1, .int (v2 - (1 : Int32))), (0, .ref P)]) (st' := [.ref P]) rfl) ?_
  refine Tt.callV (As := []) (rest := []) (c_X5_advance g l hl P hP v3 w) hP (by decide) rfl rfl cw_X5_advance fw659 pn_X5_advance (Nat.le_of_ble_eq_true rfl) (Nat.le_of_ble_eq_true rfl) (Nat.le_of_ble_eq_true rfl) rfl (fun v4 => (?_ : Tt g l z_X5_readFlip (emVw M w) _ 31 [(2, .int (v3 P 7)), (1, .int (v2 - (1 : Int32))), (0, .ref P)] [] (v4, w)))
  refine Tt.go (fun _ => Tr.run 2 (pc' := 33) (lv' := [(2, .int (v3 P 7)), (1, .int (v2 - (1 : Int32))), (0, .ref P)]) (st' := [.int (v2 - (1 : Int32)), .ref P]) rfl) ?_
  refine Tt.callV (As := [.int (v2 - (1 : Int32))]) (rest := []) (c_X5_needNumber g l hl P (v2 - (1 : Int32)) hP v4 w) hP (by decide) rfl rfl cw_X5_needNumber fw746 pn_X5_needNumber (Nat.le_of_ble_eq_true rfl) (Nat.le_of_ble_eq_true rfl) (Nat.le_of_ble_eq_true rfl) rfl (fun v5 => (?_ : Tt g l z_X5_readFlip (emVw M w) _ 36 [(2, .int (v3 P 7)), (1, .int (v2 - (1 : Int32))), (0, .ref P)] [] (v5, w)))
  refine Tt.go (fun _ => Tr.run 1 (pc' := 37) (lv' := [(2, .int (v3 P 7)), (1, .int (v2 - (1 : Int32))), (0, .ref P)]) (st' := [.ref P]) rfl) ?_
  refine Tt.go (fun _ => Tr.get fmc5 hP rfl fw216 (k := 8) (by decide) rfl) (?_ : Tt g l z_X5_readFlip (emVw M w) _ 40 [(2, .int (v3 P 7)), (1, .int (v2 - (1 : Int32))), (0, .ref P)] [.int (v5 P 8)] (v5, w))
  refine Tt.if_ne (tgt := 64) rfl (by decide) ?_ ?_
  · refine Tt.go (fun _ => Tr.run 1 (pc' := 44) (lv' := [(2, .int (v3 P 7)), (1, .int (v2 - (1 : Int32))), (0, .ref P)]) (st' := [.ref P]) rfl) ?_
    refine Tt.go (fun _ => Tr.get fmc5 hP rfl fw208 (k := 1) (by decide) rfl) (?_ : Tt g l z_X5_readFlip (emVw M w) _ 47 [(2, .int (v3 P 7)), (1, .int (v2 - (1 : Int32))), (0, .ref P)] [.ref (P + 3)] (v5, w))
    refine Tt.go (fun _ => Tr.run 2 (pc' := 49) (lv' := [(2, .int (v3 P 7)), (1, .int (v2 - (1 : Int32))), (0, .ref P)]) (st' := [.ref P, .int (v3 P 7), .ref (P + 3)]) rfl) ?_
    refine Tt.go (fun _ => Tr.get fmc5 hP rfl fw215 (k := 7) (by decide) rfl) (?_ : Tt g l z_X5_readFlip (emVw M w) _ 52 [(2, .int (v3 P 7)), (1, .int (v2 - (1 : Int32))), (0, .ref P)] [.int (v5 P 7), .int (v3 P 7), .ref (P + 3)] (v5, w))
    refine Tt.callV (As := [.int (v3 P 7), .int (v5 P 7)]) (rest := []) (c_X2_refusal g l hl (P + 3) (v3 P 7) (v5 P 7) (fmk_5_1 hP) v5 w) (fmk_5_1 hP) (by decide) rfl rfl cw_X2_refusal fw804 pn_X2_refusal (Nat.le_of_ble_eq_true rfl) (Nat.le_of_ble_eq_true rfl) (Nat.le_of_ble_eq_true rfl) rfl (fun v6 => (?_ : Tt g l z_X5_readFlip (emVw M w) _ 55 [(2, .int (v3 P 7)), (1, .int (v2 - (1 : Int32))), (0, .ref P)] [.int v6] (v5, w)))
    refine Tt.if_eq (tgt := 64) rfl (by decide) ?_ ?_
    · refine Tt.go (fun _ => Tr.sub (lv' := [(0, .ref P), (2, .int (v3 P 7))]) [2, 0] rfl) ?_
      exact t_X5_readFlip_64 g l hl P hP w M (v3 P 7) v5
    · refine Tt.go (fun _ => Tr.run 2 (pc' := 61) (lv' := [(2, .int (v3 P 7)), (1, .int (v2 - (1 : Int32))), (0, .ref P)]) (st' := [.int (-6 : Int32), .ref P]) rfl) ?_
      refine Tt.callV (As := [.int (-6 : Int32)]) (rest := []) (c_X5_fail g l hl P (-6 : Int32) hP v5 w) hP (by decide) rfl rfl cw_X5_fail fw738 pn_X5_fail (Nat.le_of_ble_eq_true rfl) (Nat.le_of_ble_eq_true rfl) (Nat.le_of_ble_eq_true rfl) rfl (fun v7 => (?_ : Tt g l z_X5_readFlip (emVw M w) _ 64 [(2, .int (v3 P 7)), (1, .int (v2 - (1 : Int32))), (0, .ref P)] [] (v7, w)))
      refine Tt.go (fun _ => Tr.sub (lv' := [(0, .ref P), (2, .int (v3 P 7))]) [2, 0] rfl) ?_
      exact t_X5_readFlip_64 g l hl P hP w M (v3 P 7) v7
  · refine Tt.go (fun _ => Tr.sub (lv' := [(0, .ref P), (2, .int (v3 P 7))]) [2, 0] rfl) ?_
    exact t_X5_readFlip_64 g l hl P hP w M (v3 P 7) v5
theorem c_X5_readFlip (g : fm_G) (l : Launch) (hl : l.stackTraces = false) (P : Nat) (hP : fm_kd g P = 5) (M : fm_Mem) (w : fm_W) : ∀ r, f_X5_readFlip P M = some r → fC g l z_X5_readFlip [.ref P] (M, w) (emVw M w r) := fun r hr => fC.of (by decide) rfl o_X5_readFlip hl (Nat.le_of_ble_eq_true rfl) (t_X5_readFlip g l hl P hP M w r hr)
def k_X5_read : List (Nat × Instr × Nat) := [(0, .aload_n 0, 1), (1, .iload_n 1, 1), (2, .invokevirtual 35, 3), (5, .aload_n 0, 1), (6, .iconst 3, 1), (7, .invokevirtual 38, 3), (10, .aload_n 0, 1), (11, .iconst 1, 1), (12, .invokevirtual 38, 3), (15, .iconst 0, 1), (16, .istore_n 2, 1), (17, .iload_n 2, 1), (18, .sipush 400, 3), (21, .if_icmp .ge 75, 3), (24, .aload_n 0, 1), (25, .getfield 41, 3), (28, .ifCond .ne 68, 3), (31, .aload_n 0, 1), (32, .getfield 44, 3), (35, .ifCond .eq 61, 3), (38, .aload_n 0, 1), (39, .getfield 44, 3), (42, .iconst 4, 1), (43, .if_icmp .ne 17, 3), (46, .aload_n 0, 1), (47, .getfield 47, 3), (50, .ifCond .ne 10, 3), (53, .aload_n 0, 1), (54, .invokevirtual 51, 3), (57, .goto 28, 3), (60, .aload_n 0, 1), (61, .getfield 44, 3), (64, .iconst 5, 1), (65, .if_icmp .ne 14, 3), (68, .aload_n 0, 1), (69, .invokevirtual 54, 3), (72, .aload_n 0, 1), (73, .invokevirtual 57, 3), (76, .goto 9, 3), (79, .aload_n 0, 1), (80, .bipush (-2), 2), (82, .invokevirtual 60, 3), (85, .aload_n 0, 1), (86, .iconst 1, 1), (87, .invokevirtual 38, 3), (90, .iinc 2 1, 3), (93, .goto (-76), 3), (96, .aload_n 0, 1), (97, .invokevirtual 54, 3), (100, .aload_n 0, 1), (101, .getfield 41, 3), (104, .ireturn, 1)]
def z_X5_read : fm_Y := (yX5_read, RX5, cX5_read, 3, (some .int), k_X5_read, 9, 225)
theorem o_X5_read : fm_dec z_X5_read := (by decide +kernel : ∀ q ∈ k_X5_read, decode cX5_read q.1 = .ok q.2)
theorem cw_X5_read : fm_cwV z_X5_read := ⟨⟨lw_in 638 (by decide +kernel) (by decide +kernel), lw_in 92 (by decide +kernel) (by decide +kernel), by decide, by decide⟩, lw_in 636 (by decide +kernel) (by decide +kernel), lw_in 637 (by decide +kernel) (by decide +kernel)⟩
theorem pn_X5_read : (parseMethodDescriptor z_X5_read.1.desc).map (fun d => d.parameters.length) = some 1 := by decide +kernel
def f_X5_read_96 (P : Nat) (a1 : Int32)  (M : fm_Mem) : Option (Int32 × fm_Mem) := Option.bind (f_X5_draw P M) (fun v1 => some (((v1 P 8), v1)))
set_option maxRecDepth 100000 in
set_option maxHeartbeats 4000000 in
theorem t_X5_read_96 (g : fm_G) (l : Launch) (hl : l.stackTraces = false) (P : Nat) (a1 : Int32) (hP : fm_kd g P = 5) (w : fm_W) (M0 : fm_Mem)    (M : fm_Mem) : Tt g l z_X5_read (emIw M0 w) (f_X5_read_96 P a1   M) 96 [(0, .ref P)] [] (M, w) := by
  rw [f_X5_read_96]
  refine Tt.go (fun _ => Tr.run 1 (pc' := 97) (lv' := [(0, .ref P)]) (st' := [.ref P]) rfl) ?_
  refine Tt.callV (As := []) (rest := []) (c_X5_draw g l hl P hP M w) hP (by decide) rfl rfl cw_X5_draw fw764 pn_X5_draw (Nat.le_of_ble_eq_true rfl) (Nat.le_of_ble_eq_true rfl) (Nat.le_of_ble_eq_true rfl) rfl (fun v1 => (?_ : Tt g l z_X5_read (emIw M0 w) _ 100 [(0, .ref P)] [] (v1, w)))
  refine Tt.go (fun _ => Tr.run 1 (pc' := 101) (lv' := [(0, .ref P)]) (st' := [.ref P]) rfl) ?_
  refine Tt.go (fun _ => Tr.get fmc5 hP rfl fw216 (k := 8) (by decide) rfl) (?_ : Tt g l z_X5_read (emIw M0 w) _ 104 [(0, .ref P)] [.int (v1 P 8)] (v1, w))
  exact Tt.ret (Tr.iret rfl rfl)
def f_X5_read_85 (P : Nat) (a1 : Int32) (k17 : Int32 → fm_Mem → Option (Int32 × fm_Mem)) (x2 : Int32) (M : fm_Mem) : Option (Int32 × fm_Mem) := Option.bind (f_X5_need P (1 : Int32) M) (fun v1 => (k17 (x2 + (1 : Int32)) v1))
set_option maxRecDepth 100000 in
set_option maxHeartbeats 4000000 in
theorem t_X5_read_85 (g : fm_G) (l : Launch) (hl : l.stackTraces = false) (P : Nat) (a1 : Int32) (hP : fm_kd g P = 5) (w : fm_W) (M0 : fm_Mem) (k17 : Int32 → fm_Mem → Option (Int32 × fm_Mem)) (hk17 : ∀ (x2 : Int32) (M : fm_Mem), Tt g l z_X5_read (emIw M0 w) (k17 x2 M) 17 [(0, .ref P), (2, .int x2)] [] (M, w)) (x2 : Int32)  (M : fm_Mem) : Tt g l z_X5_read (emIw M0 w) (f_X5_read_85 P a1 k17 x2 M) 85 [(0, .ref P), (2, .int x2)] [] (M, w) := by
  rw [f_X5_read_85]
  refine Tt.go (fun _ => Tr.run 2 (pc' := 87) (lv' := [(0, .ref P), (2, .int x2)]) (st' := [.int (1 : Int32), .ref P]) rfl) ?_
  refine Tt.callV (As := [.int (1 : Int32)]) (rest := []) (c_X5_need g l hl P (1 : Int32) hP M w) hP (by decide) rfl rfl cw_X5_need fw734 pn_X5_need (Nat.le_of_ble_eq_true rfl) (Nat.le_of_ble_eq_true rfl) (Nat.le_of_ble_eq_true rfl) rfl (fun v1 => (?_ : Tt g l z_X5_read (emIw M0 w) _ 90 [(0, .ref P), (2, .int x2)] [] (v1, w)))
  refine Tt.go (fun _ => Tr.run 2 (pc' := 17) (lv' := [(2, .int (x2 + (1 : Int32))), (0, .ref P)]) (st' := []) rfl) ?_
  refine Tt.go (fun _ => Tr.sub (lv' := [(0, .ref P), (2, .int (x2 + (1 : Int32)))]) [1, 0] rfl) ?_
  exact hk17 (x2 + (1 : Int32)) v1
def f_X5_read_60 (P : Nat) (a1 : Int32) (k17 : Int32 → fm_Mem → Option (Int32 × fm_Mem)) (x2 : Int32) (M : fm_Mem) : Option (Int32 × fm_Mem) := if (M P 5) = (5 : Int32) then (Option.bind (f_X5_draw P M) (fun v1 => Option.bind (f_X5_readFlip P v1) (fun v2 => (f_X5_read_85 P a1 k17 x2 v2)))) else (Option.bind (f_X5_fail P (-2 : Int32) M) (fun v3 => (f_X5_read_85 P a1 k17 x2 v3)))
set_option maxRecDepth 100000 in
set_option maxHeartbeats 4000000 in
theorem t_X5_read_60 (g : fm_G) (l : Launch) (hl : l.stackTraces = false) (P : Nat) (a1 : Int32) (hP : fm_kd g P = 5) (w : fm_W) (M0 : fm_Mem) (k17 : Int32 → fm_Mem → Option (Int32 × fm_Mem)) (hk17 : ∀ (x2 : Int32) (M : fm_Mem), Tt g l z_X5_read (emIw M0 w) (k17 x2 M) 17 [(0, .ref P), (2, .int x2)] [] (M, w)) (x2 : Int32)  (M : fm_Mem) : Tt g l z_X5_read (emIw M0 w) (f_X5_read_60 P a1 k17 x2 M) 60 [(0, .ref P), (2, .int x2)] [] (M, w) := by
  rw [f_X5_read_60]
  refine Tt.go (fun _ => Tr.run 1 (pc' := 61) (lv' := [(0, .ref P), (2, .int x2)]) (st' := [.ref P]) rfl) ?_
  refine Tt.go (fun _ => Tr.get fmc5 hP rfl fw213 (k := 5) (by decide) rfl) (?_ : Tt g l z_X5_read (emIw M0 w) _ 64 [(0, .ref P), (2, .int x2)] [.int (M P 5)] (M, w))
  refine Tt.go (fun _ => Tr.run 1 (pc' := 65) (lv' := [(0, .ref P), (2, .int x2)]) (st' := [.int (5 : Int32), .int (M P 5)]) rfl) ?_
  refine Tt.ic_ne (tgt := 79) rfl (by decide) ?_ ?_
  · refine Tt.go (fun _ => Tr.run 1 (pc' := 69) (lv' := [(0, .ref P), (2, .int x2)]) (st' := [.ref P]) rfl) ?_
    refine Tt.callV (As := []) (rest := []) (c_X5_draw g l hl P hP M w) hP (by decide) rfl rfl cw_X5_draw fw764 pn_X5_draw (Nat.le_of_ble_eq_true rfl) (Nat.le_of_ble_eq_true rfl) (Nat.le_of_ble_eq_true rfl) rfl (fun v1 => (?_ : Tt g l z_X5_read (emIw M0 w) _ 72 [(0, .ref P), (2, .int x2)] [] (v1, w)))
    refine Tt.go (fun _ => Tr.run 1 (pc' := 73) (lv' := [(0, .ref P), (2, .int x2)]) (st' := [.ref P]) rfl) ?_
    refine Tt.callV (As := []) (rest := []) (c_X5_readFlip g l hl P hP v1 w) hP (by decide) rfl rfl cw_X5_readFlip fw800 pn_X5_readFlip (Nat.le_of_ble_eq_true rfl) (Nat.le_of_ble_eq_true rfl) (Nat.le_of_ble_eq_true rfl) rfl (fun v2 => (?_ : Tt g l z_X5_read (emIw M0 w) _ 76 [(0, .ref P), (2, .int x2)] [] (v2, w)))
    refine Tt.go (fun _ => Tr.run 1 (pc' := 85) (lv' := [(0, .ref P), (2, .int x2)]) (st' := []) rfl) ?_
    exact t_X5_read_85 g l hl P a1 hP w M0 k17 hk17 x2 v2
  · refine Tt.go (fun _ => Tr.run 2 (pc' := 82) (lv' := [(0, .ref P), (2, .int x2)]) (st' := [.int (-2 : Int32), .ref P]) rfl) ?_
    refine Tt.callV (As := [.int (-2 : Int32)]) (rest := []) (c_X5_fail g l hl P (-2 : Int32) hP M w) hP (by decide) rfl rfl cw_X5_fail fw738 pn_X5_fail (Nat.le_of_ble_eq_true rfl) (Nat.le_of_ble_eq_true rfl) (Nat.le_of_ble_eq_true rfl) rfl (fun v3 => (?_ : Tt g l z_X5_read (emIw M0 w) _ 85 [(0, .ref P), (2, .int x2)] [] (v3, w)))
    exact t_X5_read_85 g l hl P a1 hP w M0 k17 hk17 x2 v3
def f_X5_read_17 (P : Nat) (a1 : Int32) : Nat → Int32 → fm_Mem → Option (Int32 × fm_Mem)
  | 0, _, _ => none
  | n + 1, x2, M => if (400 : Int32) ≤ x2 then (f_X5_read_96 P a1 M) else (if (M P 8) = 0 then (if (M P 5) = 0 then (f_X5_read_96 P a1 M) else (if (M P 5) = (4 : Int32) then (if (M P 10) = 0 then (Option.bind (f_X5_readPlaces P M) (fun v1 => (f_X5_read_85 P a1 (fun x2 M => f_X5_read_17 P a1 n x2 M) x2 v1))) else (f_X5_read_60 P a1 (fun x2 M => f_X5_read_17 P a1 n x2 M) x2 M)) else (f_X5_read_60 P a1 (fun x2 M => f_X5_read_17 P a1 n x2 M) x2 M))) else (f_X5_read_96 P a1 M))
set_option maxRecDepth 100000 in
set_option maxHeartbeats 4000000 in
theorem t_X5_read_17 (g : fm_G) (l : Launch) (hl : l.stackTraces = false) (P : Nat) (a1 : Int32) (hP : fm_kd g P = 5) (w : fm_W) (M0 : fm_Mem)  : ∀ (n : Nat) (x2 : Int32)  (M : fm_Mem), Tt g l z_X5_read (emIw M0 w) (f_X5_read_17 P a1  n x2 M) 17 [(0, .ref P), (2, .int x2)] [] (M, w) := by
  intro n
  induction n with
  | zero => intros; exact Tt.none
  | succ n ih =>
    intro x2  M
    rw [f_X5_read_17]
    refine Tt.go (fun _ => Tr.run 2 (pc' := 21) (lv' := [(0, .ref P), (2, .int x2)]) (st' := [.int (400 : Int32), .int x2]) rfl) ?_
    refine Tt.ic_ge (tgt := 96) rfl (by decide) ?_ ?_
    · refine Tt.go (fun _ => Tr.sub (lv' := [(0, .ref P)]) [0] rfl) ?_
      exact t_X5_read_96 g l hl P a1 hP w M0 M
    · refine Tt.go (fun _ => Tr.run 1 (pc' := 25) (lv' := [(0, .ref P), (2, .int x2)]) (st' := [.ref P]) rfl) ?_
      refine Tt.go (fun _ => Tr.get fmc5 hP rfl fw216 (k := 8) (by decide) rfl) (?_ : Tt g l z_X5_read (emIw M0 w) _ 28 [(0, .ref P), (2, .int x2)] [.int (M P 8)] (M, w))
      refine Tt.if_ne (tgt := 96) rfl (by decide) ?_ ?_
      · refine Tt.go (fun _ => Tr.run 1 (pc' := 32) (lv' := [(0, .ref P), (2, .int x2)]) (st' := [.ref P]) rfl) ?_
        refine Tt.go (fun _ => Tr.get fmc5 hP rfl fw213 (k := 5) (by decide) rfl) (?_ : Tt g l z_X5_read (emIw M0 w) _ 35 [(0, .ref P), (2, .int x2)] [.int (M P 5)] (M, w))
        refine Tt.if_eq (tgt := 96) rfl (by decide) ?_ ?_
        · refine Tt.go (fun _ => Tr.sub (lv' := [(0, .ref P)]) [0] rfl) ?_
          exact t_X5_read_96 g l hl P a1 hP w M0 M
        · refine Tt.go (fun _ => Tr.run 1 (pc' := 39) (lv' := [(0, .ref P), (2, .int x2)]) (st' := [.ref P]) rfl) ?_
          refine Tt.go (fun _ => Tr.get fmc5 hP rfl fw213 (k := 5) (by decide) rfl) (?_ : Tt g l z_X5_read (emIw M0 w) _ 42 [(0, .ref P), (2, .int x2)] [.int (M P 5)] (M, w))
          refine Tt.go (fun _ => Tr.run 1 (pc' := 43) (lv' := [(0, .ref P), (2, .int x2)]) (st' := [.int (4 : Int32), .int (M P 5)]) rfl) ?_
          refine Tt.ic_ne (tgt := 60) rfl (by decide) ?_ ?_
          · refine Tt.go (fun _ => Tr.run 1 (pc' := 47) (lv' := [(0, .ref P), (2, .int x2)]) (st' := [.ref P]) rfl) ?_
            refine Tt.go (fun _ => Tr.get fmc5 hP rfl fw219 (k := 10) (by decide) rfl) (?_ : Tt g l z_X5_read (emIw M0 w) _ 50 [(0, .ref P), (2, .int x2)] [.int (M P 10)] (M, w))
            refine Tt.if_ne (tgt := 60) rfl (by decide) ?_ ?_
            · refine Tt.go (fun _ => Tr.run 1 (pc' := 54) (lv' := [(0, .ref P), (2, .int x2)]) (st' := [.ref P]) rfl) ?_
              refine Tt.callV (As := []) (rest := []) (c_X5_readPlaces g l hl P hP M w) hP (by decide) rfl rfl cw_X5_readPlaces fw742 pn_X5_readPlaces (Nat.le_of_ble_eq_true rfl) (Nat.le_of_ble_eq_true rfl) (Nat.le_of_ble_eq_true rfl) rfl (fun v1 => (?_ : Tt g l z_X5_read (emIw M0 w) _ 57 [(0, .ref P), (2, .int x2)] [] (v1, w)))
              refine Tt.go (fun _ => Tr.run 1 (pc' := 85) (lv' := [(0, .ref P), (2, .int x2)]) (st' := []) rfl) ?_
              exact t_X5_read_85 g l hl P a1 hP w M0 _ ih x2 v1
            · exact t_X5_read_60 g l hl P a1 hP w M0 _ ih x2 M
          · exact t_X5_read_60 g l hl P a1 hP w M0 _ ih x2 M
      · refine Tt.go (fun _ => Tr.sub (lv' := [(0, .ref P)]) [0] rfl) ?_
        exact t_X5_read_96 g l hl P a1 hP w M0 M
def f_X5_read (P : Nat) (a1 : Int32) (M : fm_Mem) : Option (Int32 × fm_Mem) := Option.bind (f_X5_begin P a1 M) (fun v1 => Option.bind (f_X5_need P (3 : Int32) v1) (fun v2 => Option.bind (f_X5_need P (1 : Int32) v2) (fun v3 => (f_X5_read_17 P a1 fm_fuel (0 : Int32) v3))))
set_option maxRecDepth 100000 in
set_option maxHeartbeats 4000000 in
theorem t_X5_read (g : fm_G) (l : Launch) (hl : l.stackTraces = false) (P : Nat) (a1 : Int32) (hP : fm_kd g P = 5) (M : fm_Mem) (w : fm_W) : Tt g l z_X5_read (emIw M w) (f_X5_read P a1 M) 0 [(0, .ref P), (1, .int a1)] [] (M, w) := by
  rw [f_X5_read]
  refine Tt.go (fun _ => Tr.run 2 (pc' := 2) (lv' := [(0, .ref P), (1, .int a1)]) (st' := [.int a1, .ref P]) rfl) ?_
  refine Tt.callV (As := [.int a1]) (rest := []) (c_X5_begin g l hl P a1 hP M w) hP (by decide) rfl rfl cw_X5_begin fw639 pn_X5_begin (Nat.le_of_ble_eq_true rfl) (Nat.le_of_ble_eq_true rfl) (Nat.le_of_ble_eq_true rfl) rfl (fun v1 => (?_ : Tt g l z_X5_read (emIw M w) _ 5 [(0, .ref P), (1, .int a1)] [] (v1, w)))
  refine Tt.go (fun _ => Tr.run 2 (pc' := 7) (lv' := [(0, .ref P), (1, .int a1)]) (st' := [.int (3 : Int32), .ref P]) rfl) ?_
  refine Tt.callV (As := [.int (3 : Int32)]) (rest := []) (c_X5_need g l hl P (3 : Int32) hP v1 w) hP (by decide) rfl rfl cw_X5_need fw734 pn_X5_need (Nat.le_of_ble_eq_true rfl) (Nat.le_of_ble_eq_true rfl) (Nat.le_of_ble_eq_true rfl) rfl (fun v2 => (?_ : Tt g l z_X5_read (emIw M w) _ 10 [(0, .ref P), (1, .int a1)] [] (v2, w)))
  refine Tt.go (fun _ => Tr.run 2 (pc' := 12) (lv' := [(0, .ref P), (1, .int a1)]) (st' := [.int (1 : Int32), .ref P]) rfl) ?_
  refine Tt.callV (As := [.int (1 : Int32)]) (rest := []) (c_X5_need g l hl P (1 : Int32) hP v2 w) hP (by decide) rfl rfl cw_X5_need fw734 pn_X5_need (Nat.le_of_ble_eq_true rfl) (Nat.le_of_ble_eq_true rfl) (Nat.le_of_ble_eq_true rfl) rfl (fun v3 => (?_ : Tt g l z_X5_read (emIw M w) _ 15 [(0, .ref P), (1, .int a1)] [] (v3, w)))
  refine Tt.go (fun _ => Tr.run 2 (pc' := 17) (lv' := [(2, .int (0 : Int32)), (0, .ref P), (1, .int a1)]) (st' := []) rfl) ?_
  refine Tt.go (fun _ => Tr.sub (lv' := [(0, .ref P), (2, .int (0 : Int32))]) [1, 0] rfl) ?_
  exact t_X5_read_17 g l hl P a1 hP w M fm_fuel (0 : Int32) v3
theorem c_X5_read (g : fm_G) (l : Launch) (hl : l.stackTraces = false) (P : Nat) (a1 : Int32) (hP : fm_kd g P = 5) (M : fm_Mem) (w : fm_W) : ∀ r, f_X5_read P a1 M = some r → fC g l z_X5_read [.ref P, .int a1] (M, w) (emIw M w r) := fun r hr => fC.of (by decide) rfl o_X5_read hl (Nat.le_of_ble_eq_true rfl) (t_X5_read g l hl P a1 hP M w r hr)
def k_X6_append : List (Nat × Instr × Nat) := [(0, .aload_n 0, 1), (1, .getfield 12, 3), (4, .invokevirtual 38, 3), (7, .bipush 20, 2), (9, .iadd, 1), (10, .sipush 400, 3), (13, .if_icmp .le 5, 3), (16, .iconst (-1), 1), (17, .ireturn, 1), (18, .aload_n 0, 1), (19, .getfield 12, 3), (22, .iload_n 1, 1), (23, .invokevirtual 42, 3), (26, .aload_n 0, 1), (27, .getfield 12, 3), (30, .iload_n 2, 1), (31, .invokevirtual 42, 3), (34, .aload_n 0, 1), (35, .getfield 12, 3), (38, .iload_n 3, 1), (39, .invokevirtual 42, 3), (42, .aload_n 0, 1), (43, .getfield 12, 3), (46, .iload 4, 2), (48, .invokevirtual 42, 3), (51, .aload_n 0, 1), (52, .getfield 12, 3), (55, .iload 5, 2), (57, .invokevirtual 42, 3), (60, .aload_n 0, 1), (61, .getfield 12, 3), (64, .invokevirtual 38, 3), (67, .ireturn, 1)]
def z_X6_append : fm_Y := (yX6_append, RX6, cX6_append, 6, (some .int), k_X6_append, 2, 44)
theorem o_X6_append : fm_dec z_X6_append := (by decide +kernel : ∀ q ∈ k_X6_append, decode cX6_append q.1 = .ok q.2)
theorem cw_X6_append : fm_cwV z_X6_append := ⟨⟨lw_in 292 (by decide +kernel) (by decide +kernel), lw_in 91 (by decide +kernel) (by decide +kernel), by decide, by decide⟩, lw_in 290 (by decide +kernel) (by decide +kernel), lw_in 291 (by decide +kernel) (by decide +kernel)⟩
theorem pn_X6_append : (parseMethodDescriptor z_X6_append.1.desc).map (fun d => d.parameters.length) = some 5 := by decide +kernel
def f_X6_append (P : Nat) (a1 : Int32) (a2 : Int32) (a3 : Int32) (a4 : Int32) (a5 : Int32) (M : fm_Mem) : Option (Int32 × fm_Mem) := Option.bind (f_X5_size (P + 1) M) (fun v1 => if (v1 + (20 : Int32)) ≤ (400 : Int32) then (Option.bind (f_X5_addWord (P + 1) a1 M) (fun v2 => Option.bind (f_X5_addWord (P + 1) a2 v2) (fun v3 => Option.bind (f_X5_addWord (P + 1) a3 v3) (fun v4 => Option.bind (f_X5_addWord (P + 1) a4 v4) (fun v5 => Option.bind (f_X5_addWord (P + 1) a5 v5) (fun v6 => Option.bind (f_X5_size (P + 1) v6) (fun v7 => some ((v7, v6))))))))) else (some (((-1 : Int32), M))))
set_option maxRecDepth 100000 in
set_option maxHeartbeats 4000000 in
theorem t_X6_append (g : fm_G) (l : Launch) (hl : l.stackTraces = false) (P : Nat) (a1 : Int32) (a2 : Int32) (a3 : Int32) (a4 : Int32) (a5 : Int32) (hP : fm_kd g P = 6) (M : fm_Mem) (w : fm_W) : Tt g l z_X6_append (emIw M w) (f_X6_append P a1 a2 a3 a4 a5 M) 0 [(0, .ref P), (1, .int a1), (2, .int a2), (3, .int a3), (4, .int a4), (5, .int a5)] [] (M, w) := by
  rw [f_X6_append]
  refine Tt.go (fun _ => Tr.run 1 (pc' := 1) (lv' := [(0, .ref P), (1, .int a1), (2, .int a2), (3, .int a3), (4, .int a4), (5, .int a5)]) (st' := [.ref P]) rfl) ?_
  refine Tt.go (fun _ => Tr.get fmc6 hP rfl fw267 (k := 0) (by decide) rfl) (?_ : Tt g l z_X6_append (emIw M w) _ 4 [(0, .ref P), (1, .int a1), (2, .int a2), (3, .int a3), (4, .int a4), (5, .int a5)] [.ref (P + 1)] (M, w))
  refine Tt.callV (As := []) (rest := []) (c_X5_size g l hl (P + 1) (fmk_6_0 hP) M w) (fmk_6_0 hP) (by decide) rfl rfl cw_X5_size fw293 pn_X5_size (Nat.le_of_ble_eq_true rfl) (Nat.le_of_ble_eq_true rfl) (Nat.le_of_ble_eq_true rfl) rfl (fun v1 => (?_ : Tt g l z_X6_append (emIw M w) _ 7 [(0, .ref P), (1, .int a1), (2, .int a2), (3, .int a3), (4, .int a4), (5, .int a5)] [.int v1] (M, w)))
  refine Tt.go (fun _ => Tr.run 3 (pc' := 13) (lv' := [(0, .ref P), (1, .int a1), (2, .int a2), (3, .int a3), (4, .int a4), (5, .int a5)]) (st' := [.int (400 : Int32), .int (v1 + (20 : Int32))]) rfl) ?_
  refine Tt.ic_le (tgt := 18) rfl (by decide) ?_ ?_
  · refine Tt.go (fun _ => Tr.run 1 (pc' := 19) (lv' := [(0, .ref P), (1, .int a1), (2, .int a2), (3, .int a3), (4, .int a4), (5, .int a5)]) (st' := [.ref P]) rfl) ?_
    refine Tt.go (fun _ => Tr.get fmc6 hP rfl fw267 (k := 0) (by decide) rfl) (?_ : Tt g l z_X6_append (emIw M w) _ 22 [(0, .ref P), (1, .int a1), (2, .int a2), (3, .int a3), (4, .int a4), (5, .int a5)] [.ref (P + 1)] (M, w))
    refine Tt.go (fun _ => Tr.run 1 (pc' := 23) (lv' := [(0, .ref P), (1, .int a1), (2, .int a2), (3, .int a3), (4, .int a4), (5, .int a5)]) (st' := [.int a1, .ref (P + 1)]) rfl) ?_
    refine Tt.callV (As := [.int a1]) (rest := []) (c_X5_addWord g l hl (P + 1) a1 (fmk_6_0 hP) M w) (fmk_6_0 hP) (by decide) rfl rfl cw_X5_addWord fw297 pn_X5_addWord (Nat.le_of_ble_eq_true rfl) (Nat.le_of_ble_eq_true rfl) (Nat.le_of_ble_eq_true rfl) rfl (fun v2 => (?_ : Tt g l z_X6_append (emIw M w) _ 26 [(0, .ref P), (1, .int a1), (2, .int a2), (3, .int a3), (4, .int a4), (5, .int a5)] [] (v2, w)))
    refine Tt.go (fun _ => Tr.run 1 (pc' := 27) (lv' := [(0, .ref P), (1, .int a1), (2, .int a2), (3, .int a3), (4, .int a4), (5, .int a5)]) (st' := [.ref P]) rfl) ?_
    refine Tt.go (fun _ => Tr.get fmc6 hP rfl fw267 (k := 0) (by decide) rfl) (?_ : Tt g l z_X6_append (emIw M w) _ 30 [(0, .ref P), (1, .int a1), (2, .int a2), (3, .int a3), (4, .int a4), (5, .int a5)] [.ref (P + 1)] (v2, w))
    refine Tt.go (fun _ => Tr.run 1 (pc' := 31) (lv' := [(0, .ref P), (1, .int a1), (2, .int a2), (3, .int a3), (4, .int a4), (5, .int a5)]) (st' := [.int a2, .ref (P + 1)]) rfl) ?_
    refine Tt.callV (As := [.int a2]) (rest := []) (c_X5_addWord g l hl (P + 1) a2 (fmk_6_0 hP) v2 w) (fmk_6_0 hP) (by decide) rfl rfl cw_X5_addWord fw297 pn_X5_addWord (Nat.le_of_ble_eq_true rfl) (Nat.le_of_ble_eq_true rfl) (Nat.le_of_ble_eq_true rfl) rfl (fun v3 => (?_ : Tt g l z_X6_append (emIw M w) _ 34 [(0, .ref P), (1, .int a1), (2, .int a2), (3, .int a3), (4, .int a4), (5, .int a5)] [] (v3, w)))
    refine Tt.go (fun _ => Tr.run 1 (pc' := 35) (lv' := [(0, .ref P), (1, .int a1), (2, .int a2), (3, .int a3), (4, .int a4), (5, .int a5)]) (st' := [.ref P]) rfl) ?_
    refine Tt.go (fun _ => Tr.get fmc6 hP rfl fw267 (k := 0) (by decide) rfl) (?_ : Tt g l z_X6_append (emIw M w) _ 38 [(0, .ref P), (1, .int a1), (2, .int a2), (3, .int a3), (4, .int a4), (5, .int a5)] [.ref (P + 1)] (v3, w))
    refine Tt.go (fun _ => Tr.run 1 (pc' := 39) (lv' := [(0, .ref P), (1, .int a1), (2, .int a2), (3, .int a3), (4, .int a4), (5, .int a5)]) (st' := [.int a3, .ref (P + 1)]) rfl) ?_
    refine Tt.callV (As := [.int a3]) (rest := []) (c_X5_addWord g l hl (P + 1) a3 (fmk_6_0 hP) v3 w) (fmk_6_0 hP) (by decide) rfl rfl cw_X5_addWord fw297 pn_X5_addWord (Nat.le_of_ble_eq_true rfl) (Nat.le_of_ble_eq_true rfl) (Nat.le_of_ble_eq_true rfl) rfl (fun v4 => (?_ : Tt g l z_X6_append (emIw M w) _ 42 [(0, .ref P), (1, .int a1), (2, .int a2), (3, .int a3), (4, .int a4), (5, .int a5)] [] (v4, w)))
    refine Tt.go (fun _ => Tr.run 1 (pc' := 43) (lv' := [(0, .ref P), (1, .int a1), (2, .int a2), (3, .int a3), (4, .int a4), (5, .int a5)]) (st' := [.ref P]) rfl) ?_
    refine Tt.go (fun _ => Tr.get fmc6 hP rfl fw267 (k := 0) (by decide) rfl) (?_ : Tt g l z_X6_append (emIw M w) _ 46 [(0, .ref P), (1, .int a1), (2, .int a2), (3, .int a3), (4, .int a4), (5, .int a5)] [.ref (P + 1)] (v4, w))
    refine Tt.go (fun _ => Tr.run 1 (pc' := 48) (lv' := [(0, .ref P), (1, .int a1), (2, .int a2), (3, .int a3), (4, .int a4), (5, .int a5)]) (st' := [.int a4, .ref (P + 1)]) rfl) ?_
    refine Tt.callV (As := [.int a4]) (rest := []) (c_X5_addWord g l hl (P + 1) a4 (fmk_6_0 hP) v4 w) (fmk_6_0 hP) (by decide) rfl rfl cw_X5_addWord fw297 pn_X5_addWord (Nat.le_of_ble_eq_true rfl) (Nat.le_of_ble_eq_true rfl) (Nat.le_of_ble_eq_true rfl) rfl (fun v5 => (?_ : Tt g l z_X6_append (emIw M w) _ 51 [(0, .ref P), (1, .int a1), (2, .int a2), (3, .int a3), (4, .int a4), (5, .int a5)] [] (v5, w)))
    refine Tt.go (fun _ => Tr.run 1 (pc' := 52) (lv' := [(0, .ref P), (1, .int a1), (2, .int a2), (3, .int a3), (4, .int a4), (5, .int a5)]) (st' := [.ref P]) rfl) ?_
    refine Tt.go (fun _ => Tr.get fmc6 hP rfl fw267 (k := 0) (by decide) rfl) (?_ : Tt g l z_X6_append (emIw M w) _ 55 [(0, .ref P), (1, .int a1), (2, .int a2), (3, .int a3), (4, .int a4), (5, .int a5)] [.ref (P + 1)] (v5, w))
    refine Tt.go (fun _ => Tr.run 1 (pc' := 57) (lv' := [(0, .ref P), (1, .int a1), (2, .int a2), (3, .int a3), (4, .int a4), (5, .int a5)]) (st' := [.int a5, .ref (P + 1)]) rfl) ?_
    refine Tt.callV (As := [.int a5]) (rest := []) (c_X5_addWord g l hl (P + 1) a5 (fmk_6_0 hP) v5 w) (fmk_6_0 hP) (by decide) rfl rfl cw_X5_addWord fw297 pn_X5_addWord (Nat.le_of_ble_eq_true rfl) (Nat.le_of_ble_eq_true rfl) (Nat.le_of_ble_eq_true rfl) rfl (fun v6 => (?_ : Tt g l z_X6_append (emIw M w) _ 60 [(0, .ref P), (1, .int a1), (2, .int a2), (3, .int a3), (4, .int a4), (5, .int a5)] [] (v6, w)))
    refine Tt.go (fun _ => Tr.run 1 (pc' := 61) (lv' := [(0, .ref P), (1, .int a1), (2, .int a2), (3, .int a3), (4, .int a4), (5, .int a5)]) (st' := [.ref P]) rfl) ?_
    refine Tt.go (fun _ => Tr.get fmc6 hP rfl fw267 (k := 0) (by decide) rfl) (?_ : Tt g l z_X6_append (emIw M w) _ 64 [(0, .ref P), (1, .int a1), (2, .int a2), (3, .int a3), (4, .int a4), (5, .int a5)] [.ref (P + 1)] (v6, w))
    refine Tt.callV (As := []) (rest := []) (c_X5_size g l hl (P + 1) (fmk_6_0 hP) v6 w) (fmk_6_0 hP) (by decide) rfl rfl cw_X5_size fw293 pn_X5_size (Nat.le_of_ble_eq_true rfl) (Nat.le_of_ble_eq_true rfl) (Nat.le_of_ble_eq_true rfl) rfl (fun v7 => (?_ : Tt g l z_X6_append (emIw M w) _ 67 [(0, .ref P), (1, .int a1), (2, .int a2), (3, .int a3), (4, .int a4), (5, .int a5)] [.int v7] (v6, w)))
    exact Tt.ret (Tr.iret rfl rfl)
  · refine Tt.go (fun _ => Tr.run 1 (pc' := 17) (lv' := [(0, .ref P), (1, .int a1), (2, .int a2), (3, .int a3), (4, .int a4), (5, .int a5)]) (st' := [.int (-1 : Int32)]) rfl) ?_
    exact Tt.ret (Tr.iret rfl rfl)
theorem c_X6_append (g : fm_G) (l : Launch) (hl : l.stackTraces = false) (P : Nat) (a1 : Int32) (a2 : Int32) (a3 : Int32) (a4 : Int32) (a5 : Int32) (hP : fm_kd g P = 6) (M : fm_Mem) (w : fm_W) : ∀ r, f_X6_append P a1 a2 a3 a4 a5 M = some r → fC g l z_X6_append [.ref P, .int a1, .int a2, .int a3, .int a4, .int a5] (M, w) (emIw M w r) := fun r hr => fC.of (by decide) rfl o_X6_append hl (Nat.le_of_ble_eq_true rfl) (t_X6_append g l hl P a1 a2 a3 a4 a5 hP M w r hr)
def k_J9_floorMod_7cf53 : List (Nat × Instr × Nat) := [(0, .iload_n 0, 1), (1, .iload_n 1, 1), (2, .irem, 1), (3, .istore_n 2, 1), (4, .iload_n 0, 1), (5, .iload_n 1, 1), (6, .ixor, 1), (7, .ifCond .ge 11, 3), (10, .iload_n 2, 1), (11, .ifCond .eq 7, 3), (14, .iload_n 2, 1), (15, .iload_n 1, 1), (16, .iadd, 1), (17, .ireturn, 1), (18, .iload_n 2, 1), (19, .ireturn, 1)]
def z_J9_floorMod_7cf53 : fm_Y := (yJ9_floorMod_7cf53, RJ9, cJ9_floorMod_7cf53, 3, (some .int), k_J9_floorMod_7cf53, 0, 0)
theorem o_J9_floorMod_7cf53 : fm_dec z_J9_floorMod_7cf53 := (by decide +kernel : ∀ q ∈ k_J9_floorMod_7cf53, decode cJ9_floorMod_7cf53 q.1 = .ok q.2)
theorem cw_J9_floorMod_7cf53 : fm_cwS z_J9_floorMod_7cf53 := ⟨⟨lw_in 396 (by decide +kernel) (by decide +kernel), lw_in 94 (by decide +kernel) (by decide +kernel), by decide, by decide⟩, lw_in 395 (by decide +kernel) (by decide +kernel)⟩
theorem pn_J9_floorMod_7cf53 : (parseMethodDescriptor z_J9_floorMod_7cf53.1.desc).map (fun d => d.parameters.length) = some 2 := by decide +kernel
def f_J9_floorMod_7cf53_18 (a0 : Int32) (a1 : Int32) (x2 : Int32) (M : fm_Mem) : Option (Int32) := some (x2)
set_option maxRecDepth 100000 in
set_option maxHeartbeats 4000000 in
theorem t_J9_floorMod_7cf53_18 (g : fm_G) (l : Launch) (hl : l.stackTraces = false) (a0 : Int32) (a1 : Int32)  (w : fm_W)  (x2 : Int32)  (M : fm_Mem) : Tt g l z_J9_floorMod_7cf53 (emI M w) (f_J9_floorMod_7cf53_18 a0 a1  x2 M) 18 [(2, .int x2)] [] (M, w) := by
  rw [f_J9_floorMod_7cf53_18]
  refine Tt.go (fun _ => Tr.run 1 (pc' := 19) (lv' := [(2, .int x2)]) (st' := [.int x2]) rfl) ?_
  exact Tt.ret (Tr.iret rfl rfl)
def f_J9_floorMod_7cf53 (a0 : Int32) (a1 : Int32) (M : fm_Mem) : Option (Int32) := fm_ck (fm_nz a1) (if 0 ≤ (a0 ^^^ a1) then (f_J9_floorMod_7cf53_18 a0 a1 (fm_rem a0 a1) M) else (if (fm_rem a0 a1) = 0 then (f_J9_floorMod_7cf53_18 a0 a1 (fm_rem a0 a1) M) else (some (((fm_rem a0 a1) + a1)))))
set_option maxRecDepth 100000 in
set_option maxHeartbeats 4000000 in
theorem t_J9_floorMod_7cf53 (g : fm_G) (l : Launch) (hl : l.stackTraces = false) (a0 : Int32) (a1 : Int32)  (M : fm_Mem) (w : fm_W) : Tt g l z_J9_floorMod_7cf53 (emI M w) (f_J9_floorMod_7cf53 a0 a1 M) 0 [(0, .int a0), (1, .int a1)] [] (M, w) := by
  rw [f_J9_floorMod_7cf53]
  refine Tt.go (fun _ => Tr.run 2 (pc' := 2) (lv' := [(0, .int a0), (1, .int a1)]) (st' := [.int a1, .int a0]) rfl) ?_
  refine Tt.ck (fun hz_1 => ?_)
  refine Tt.go (fun _ => Tr.irem rfl (fm_nz_ne hz_1)) (?_ : Tt g l z_J9_floorMod_7cf53 (emI M w) _ 3 [(0, .int a0), (1, .int a1)] [.int (fm_rem a0 a1)] (M, w))
  refine Tt.go (fun _ => Tr.run 4 (pc' := 7) (lv' := [(2, .int (fm_rem a0 a1)), (0, .int a0), (1, .int a1)]) (st' := [.int (a0 ^^^ a1)]) rfl) ?_
  refine Tt.if_ge (tgt := 18) rfl (by decide) ?_ ?_
  · refine Tt.go (fun _ => Tr.sub (lv' := [(2, .int (fm_rem a0 a1))]) [0] rfl) ?_
    exact t_J9_floorMod_7cf53_18 g l hl a0 a1 w (fm_rem a0 a1) M
  · refine Tt.go (fun _ => Tr.run 1 (pc' := 11) (lv' := [(2, .int (fm_rem a0 a1)), (0, .int a0), (1, .int a1)]) (st' := [.int (fm_rem a0 a1)]) rfl) ?_
    refine Tt.if_eq (tgt := 18) rfl (by decide) ?_ ?_
    · refine Tt.go (fun _ => Tr.sub (lv' := [(2, .int (fm_rem a0 a1))]) [0] rfl) ?_
      exact t_J9_floorMod_7cf53_18 g l hl a0 a1 w (fm_rem a0 a1) M
    · refine Tt.go (fun _ => Tr.run 3 (pc' := 17) (lv' := [(2, .int (fm_rem a0 a1)), (0, .int a0), (1, .int a1)]) (st' := [.int ((fm_rem a0 a1) + a1)]) rfl) ?_
      exact Tt.ret (Tr.iret rfl rfl)
theorem c_J9_floorMod_7cf53 (g : fm_G) (l : Launch) (hl : l.stackTraces = false) (a0 : Int32) (a1 : Int32)  (M : fm_Mem) (w : fm_W) : ∀ r, f_J9_floorMod_7cf53 a0 a1 M = some r → fC g l z_J9_floorMod_7cf53 [.int a0, .int a1] (M, w) (emI M w r) := fun r hr => fC.ofF (by decide +kernel) rfl o_J9_floorMod_7cf53 hl (Nat.le_of_ble_eq_true rfl) (t_J9_floorMod_7cf53 g l hl a0 a1  M w r hr)
def k_X6_pastOf : List (Nat × Instr × Nat) := [(0, .iload_n 1, 1), (1, .bipush 8, 2), (3, .invokestatic 272, 3), (6, .istore_n 2, 1), (7, .iload_n 2, 1), (8, .ifCond .lt 21, 3), (11, .iload_n 2, 1), (12, .aload_n 0, 1), (13, .getfield 30, 3), (16, .arraylength, 1), (17, .if_icmp .ge 12, 3), (20, .aload_n 0, 1), (21, .getfield 30, 3), (24, .iload_n 2, 1), (25, .aaload, 1), (26, .goto 7, 3), (29, .aload_n 0, 1), (30, .getfield 19, 3), (33, .areturn, 1)]
def z_X6_pastOf : fm_Y := (yX6_pastOf, RX6, cX6_pastOf, 3, (some (.object "CircleFlips$Plane")), k_X6_pastOf, 1, 22)
theorem o_X6_pastOf : fm_dec z_X6_pastOf := (by decide +kernel : ∀ q ∈ k_X6_pastOf, decode cX6_pastOf q.1 = .ok q.2)
theorem cw_X6_pastOf : fm_cwV z_X6_pastOf := ⟨⟨lw_in 393 (by decide +kernel) (by decide +kernel), lw_in 91 (by decide +kernel) (by decide +kernel), by decide, by decide⟩, lw_in 392 (by decide +kernel) (by decide +kernel), lw_in 1 (by decide +kernel) (by decide +kernel)⟩
theorem pn_X6_pastOf : (parseMethodDescriptor z_X6_pastOf.1.desc).map (fun d => d.parameters.length) = some 1 := by decide +kernel
def f_X6_pastOf_33 (P : Nat) (a1 : Int32) (s0 : Nat) (M : fm_Mem) : Option (Nat) := some (s0)
set_option maxRecDepth 100000 in
set_option maxHeartbeats 4000000 in
theorem t_X6_pastOf_33 (g : fm_G) (l : Launch) (hl : l.stackTraces = false) (P : Nat) (a1 : Int32) (hP : fm_kd g P = 6) (w : fm_W)  (s0 : Nat) (hs0 : fm_kd g s0 = 2) (M : fm_Mem) : Tt g l z_X6_pastOf (emA M w) (f_X6_pastOf_33 P a1  s0 M) 33 [] [.ref s0] (M, w) := by
  rw [f_X6_pastOf_33]
  exact Tt.ret (Tr.aret rfl rfl)
def f_X6_pastOf_29 (P : Nat) (a1 : Int32)  (M : fm_Mem) : Option (Nat) := (f_X6_pastOf_33 P a1 (P + 20) M)
set_option maxRecDepth 100000 in
set_option maxHeartbeats 4000000 in
theorem t_X6_pastOf_29 (g : fm_G) (l : Launch) (hl : l.stackTraces = false) (P : Nat) (a1 : Int32) (hP : fm_kd g P = 6) (w : fm_W)    (M : fm_Mem) : Tt g l z_X6_pastOf (emA M w) (f_X6_pastOf_29 P a1   M) 29 [(0, .ref P)] [] (M, w) := by
  rw [f_X6_pastOf_29]
  refine Tt.go (fun _ => Tr.run 1 (pc' := 30) (lv' := [(0, .ref P)]) (st' := [.ref P]) rfl) ?_
  refine Tt.go (fun _ => Tr.get fmc6 hP rfl fw268 (k := 1) (by decide) rfl) (?_ : Tt g l z_X6_pastOf (emA M w) _ 33 [(0, .ref P)] [.ref (P + 20)] (M, w))
  refine Tt.go (fun _ => Tr.sub (lv' := []) [] rfl) ?_
  exact t_X6_pastOf_33 g l hl P a1 hP w (P + 20) (fmk_6_1 hP) M
def f_X6_pastOf (P : Nat) (a1 : Int32) (M : fm_Mem) : Option (Nat) := Option.bind (f_J9_floorMod_7cf53 a1 (8 : Int32) M) (fun v1 => if v1 < 0 then (f_X6_pastOf_29 P a1 M) else (if (8 : Int32) ≤ v1 then (f_X6_pastOf_29 P a1 M) else (fm_ck (fm_in v1 8) (f_X6_pastOf_33 P a1 (P + 41 + 1 + 16 * Int32.toNatClampNeg v1) M))))
set_option maxRecDepth 100000 in
set_option maxHeartbeats 4000000 in
theorem t_X6_pastOf (g : fm_G) (l : Launch) (hl : l.stackTraces = false) (P : Nat) (a1 : Int32) (hP : fm_kd g P = 6) (M : fm_Mem) (w : fm_W) : Tt g l z_X6_pastOf (emA M w) (f_X6_pastOf P a1 M) 0 [(0, .ref P), (1, .int a1)] [] (M, w) := by
  rw [f_X6_pastOf]
  refine Tt.go (fun _ => Tr.run 2 (pc' := 3) (lv' := [(0, .ref P), (1, .int a1)]) (st' := [.int (8 : Int32), .int a1]) rfl) ?_
  refine Tt.callS (As := [.int a1, .int (8 : Int32)]) (rest := []) (c_J9_floorMod_7cf53 g l hl a1 (8 : Int32) M w) rfl cw_J9_floorMod_7cf53 fw394 pn_J9_floorMod_7cf53 (Nat.le_of_ble_eq_true rfl) (Nat.le_of_ble_eq_true rfl) (Nat.le_of_ble_eq_true rfl) rfl (fun v1 => (?_ : Tt g l z_X6_pastOf (emA M w) _ 6 [(0, .ref P), (1, .int a1)] [.int v1] (M, w)))
  refine Tt.go (fun _ => Tr.run 2 (pc' := 8) (lv' := [(2, .int v1), (0, .ref P), (1, .int a1)]) (st' := [.int v1]) rfl) ?_
  refine Tt.if_lt (tgt := 29) rfl (by decide) ?_ ?_
  · refine Tt.go (fun _ => Tr.sub (lv' := [(0, .ref P)]) [1] rfl) ?_
    exact t_X6_pastOf_29 g l hl P a1 hP w M
  · refine Tt.go (fun _ => Tr.run 2 (pc' := 13) (lv' := [(2, .int v1), (0, .ref P), (1, .int a1)]) (st' := [.ref P, .int v1]) rfl) ?_
    refine Tt.go (fun _ => Tr.get fmc6 hP rfl fw270 (k := 3) (by decide) rfl) (?_ : Tt g l z_X6_pastOf (emA M w) _ 16 [(2, .int v1), (0, .ref P), (1, .int a1)] [.ref (P + 41), .int v1] (M, w))
    refine Tt.go (fun _ => Tr.alenP (fmk_6_3 hP) rfl) (?_ : Tt g l z_X6_pastOf (emA M w) _ 17 [(2, .int v1), (0, .ref P), (1, .int a1)] [.int (8 : Int32), .int v1] (M, w))
    refine Tt.ic_ge (tgt := 29) rfl (by decide) ?_ ?_
    · refine Tt.go (fun _ => Tr.sub (lv' := [(0, .ref P)]) [1] rfl) ?_
      exact t_X6_pastOf_29 g l hl P a1 hP w M
    · refine Tt.go (fun _ => Tr.run 1 (pc' := 21) (lv' := [(2, .int v1), (0, .ref P), (1, .int a1)]) (st' := [.ref P]) rfl) ?_
      refine Tt.go (fun _ => Tr.get fmc6 hP rfl fw270 (k := 3) (by decide) rfl) (?_ : Tt g l z_X6_pastOf (emA M w) _ 24 [(2, .int v1), (0, .ref P), (1, .int a1)] [.ref (P + 41)] (M, w))
      refine Tt.go (fun _ => Tr.run 1 (pc' := 25) (lv' := [(2, .int v1), (0, .ref P), (1, .int a1)]) (st' := [.int v1, .ref (P + 41)]) rfl) ?_
      refine Tt.ck (fun hi_2 => ?_)
      refine Tt.go (fun _ => Tr.aald (fmk_6_3 hP) hi_2 rfl) (?_ : Tt g l z_X6_pastOf (emA M w) _ 26 [(2, .int v1), (0, .ref P), (1, .int a1)] [.ref (P + 41 + 1 + 16 * Int32.toNatClampNeg v1)] (M, w))
      refine Tt.go (fun _ => Tr.run 1 (pc' := 33) (lv' := [(2, .int v1), (0, .ref P), (1, .int a1)]) (st' := [.ref (P + 41 + 1 + 16 * Int32.toNatClampNeg v1)]) rfl) ?_
      refine Tt.go (fun _ => Tr.sub (lv' := []) [] rfl) ?_
      exact t_X6_pastOf_33 g l hl P a1 hP w (P + 41 + 1 + 16 * Int32.toNatClampNeg v1) (fmk_8 (fmk_6_3 hP) (fm_in8 hi_2)) M
theorem c_X6_pastOf (g : fm_G) (l : Launch) (hl : l.stackTraces = false) (P : Nat) (a1 : Int32) (hP : fm_kd g P = 6) (M : fm_Mem) (w : fm_W) : ∀ r, f_X6_pastOf P a1 M = some r → fC g l z_X6_pastOf [.ref P, .int a1] (M, w) (emA M w r) := fun r hr => fC.of (by decide) rfl o_X6_pastOf hl (Nat.le_of_ble_eq_true rfl) (t_X6_pastOf g l hl P a1 hP M w r hr)
theorem kd_X6_pastOf {g : fm_G} {P : Nat} {a1 : Int32} {M : fm_Mem} (hP : fm_kd g P = 6) {r : Nat} (h : f_X6_pastOf P a1 M = some r) : fm_kd g r = 2 := by
  have h20 : fm_kd g (P + 20) = 2 := fmk_6_1 hP
  have h41 : fm_kd g (P + 41) = 8 := fmk_6_3 hP
  unfold f_X6_pastOf at h
  cases hv : f_J9_floorMod_7cf53 a1 (8 : Int32) M with
  | none => rw [hv] at h; cases h
  | some v =>
    rw [hv] at h
    change (if v < 0 then (f_X6_pastOf_29 P a1 M) else (if (8 : Int32) ≤ v then (f_X6_pastOf_29 P a1 M) else (fm_ck (fm_in v 8) (f_X6_pastOf_33 P a1 (P + 41 + 1 + 16 * Int32.toNatClampNeg v) M)))) = some r at h
    split at h
    · have h2 : P + 20 = r := Option.some.inj h
      rw [← h2]; exact h20
    · split at h
      · have h2 : P + 20 = r := Option.some.inj h
        rw [← h2]; exact h20
      · obtain ⟨hi, h1⟩ := fm_ck_eq h
        have h2 : P + 41 + 1 + 16 * Int32.toNatClampNeg v = r := Option.some.inj h1
        rw [← h2]; exact fmk_8 h41 (fm_in8 hi)

def k_X6_remember : List (Nat × Instr × Nat) := [(0, .aload_n 0, 1), (1, .aload_n 0, 1), (2, .getfield 229, 3), (5, .invokevirtual 232, 3), (8, .aload_n 0, 1), (9, .getfield 19, 3), (12, .invokevirtual 60, 3), (15, .aload_n 0, 1), (16, .dup, 1), (17, .getfield 229, 3), (20, .iconst 1, 1), (21, .iadd, 1), (22, .putfield 229, 3), (25, .aload_n 0, 1), (26, .aload_n 0, 1), (27, .getfield 104, 3), (30, .iconst 1, 1), (31, .iadd, 1), (32, .bipush 8, 2), (34, .invokestatic 269, 3), (37, .putfield 104, 3), (40, .return_, 1)]
def z_X6_remember : fm_Y := (yX6_remember, RX6, cX6_remember, 1, none, k_X6_remember, 4, 104)
theorem o_X6_remember : fm_dec z_X6_remember := (by decide +kernel : ∀ q ∈ k_X6_remember, decode cX6_remember q.1 = .ok q.2)
theorem cw_X6_remember : fm_cwV z_X6_remember := ⟨⟨lw_in 823 (by decide +kernel) (by decide +kernel), lw_in 91 (by decide +kernel) (by decide +kernel), by decide, by decide⟩, lw_in 822 (by decide +kernel) (by decide +kernel), lw_in 22 (by decide +kernel) (by decide +kernel)⟩
theorem pn_X6_remember : (parseMethodDescriptor z_X6_remember.1.desc).map (fun d => d.parameters.length) = some 0 := by decide +kernel
def f_X6_remember (P : Nat) (M : fm_Mem) : Option (fm_Mem) := Option.bind (f_X6_pastOf P (M P 4) M) (fun v1 => Option.bind (f_X2_copyFrom v1 (P + 20) M) (fun v3 => some ((fm_up (fm_up v3 P 4 ((v3 P 4) + (1 : Int32))) P 5 (fm_min (((fm_up v3 P 4 ((v3 P 4) + (1 : Int32))) P 5) + (1 : Int32)) (8 : Int32))))))
set_option maxRecDepth 100000 in
set_option maxHeartbeats 4000000 in
theorem t_X6_remember (g : fm_G) (l : Launch) (hl : l.stackTraces = false) (P : Nat) (hP : fm_kd g P = 6) (M : fm_Mem) (w : fm_W) : Tt g l z_X6_remember (emVw M w) (f_X6_remember P M) 0 [(0, .ref P)] [] (M, w) := by
  rw [f_X6_remember]
  refine Tt.go (fun _ => Tr.run 2 (pc' := 2) (lv' := [(0, .ref P)]) (st' := [.ref P, .ref P]) rfl) ?_
  refine Tt.go (fun _ => Tr.get fmc6 hP rfl fw271 (k := 4) (by decide) rfl) (?_ : Tt g l z_X6_remember (emVw M w) _ 5 [(0, .ref P)] [.int (M P 4), .ref P] (M, w))
  refine Tt.callVr (As := [.int (M P 4)]) (rest := []) (c_X6_pastOf g l hl P (M P 4) hP M w) hP (by decide) rfl rfl cw_X6_pastOf fw390 pn_X6_pastOf (Nat.le_of_ble_eq_true rfl) (Nat.le_of_ble_eq_true rfl) (Nat.le_of_ble_eq_true rfl) rfl (fun v1 hq_2 => (?_ : Tt g l z_X6_remember (emVw M w) _ 8 [(0, .ref P)] [.ref v1] (M, w)))
  refine Tt.go (fun _ => Tr.run 1 (pc' := 9) (lv' := [(0, .ref P)]) (st' := [.ref P, .ref v1]) rfl) ?_
  refine Tt.go (fun _ => Tr.get fmc6 hP rfl fw268 (k := 1) (by decide) rfl) (?_ : Tt g l z_X6_remember (emVw M w) _ 12 [(0, .ref P)] [.ref (P + 20), .ref v1] (M, w))
  refine Tt.callV (As := [.ref (P + 20)]) (rest := []) (c_X2_copyFrom g l hl v1 (P + 20) (kd_X6_pastOf hP hq_2) (fmk_6_1 hP) M w) (kd_X6_pastOf hP hq_2) (by decide) rfl rfl cw_X2_copyFrom fw397 pn_X2_copyFrom (Nat.le_of_ble_eq_true rfl) (Nat.le_of_ble_eq_true rfl) (Nat.le_of_ble_eq_true rfl) rfl (fun v3 => (?_ : Tt g l z_X6_remember (emVw M w) _ 15 [(0, .ref P)] [] (v3, w)))
  refine Tt.go (fun _ => Tr.run 2 (pc' := 17) (lv' := [(0, .ref P)]) (st' := [.ref P, .ref P]) rfl) ?_
  refine Tt.go (fun _ => Tr.get fmc6 hP rfl fw271 (k := 4) (by decide) rfl) (?_ : Tt g l z_X6_remember (emVw M w) _ 20 [(0, .ref P)] [.int (v3 P 4), .ref P] (v3, w))
  refine Tt.go (fun _ => Tr.run 2 (pc' := 22) (lv' := [(0, .ref P)]) (st' := [.int ((v3 P 4) + (1 : Int32)), .ref P]) rfl) ?_
  refine Tt.go (fun _ => Tr.put fmc6 hP rfl fw271 (k := 4) (by decide) rfl rfl ⟨rfl, rfl⟩) (?_ : Tt g l z_X6_remember (emVw M w) _ 25 [(0, .ref P)] [] ((fm_up v3 P 4 ((v3 P 4) + (1 : Int32))), w))
  refine Tt.go (fun _ => Tr.run 2 (pc' := 27) (lv' := [(0, .ref P)]) (st' := [.ref P, .ref P]) rfl) ?_
  refine Tt.go (fun _ => Tr.get fmc6 hP rfl fw272 (k := 5) (by decide) rfl) (?_ : Tt g l z_X6_remember (emVw M w) _ 30 [(0, .ref P)] [.int ((fm_up v3 P 4 ((v3 P 4) + (1 : Int32))) P 5), .ref P] ((fm_up v3 P 4 ((v3 P 4) + (1 : Int32))), w))
  refine Tt.go (fun _ => Tr.run 3 (pc' := 34) (lv' := [(0, .ref P)]) (st' := [.int (8 : Int32), .int (((fm_up v3 P 4 ((v3 P 4) + (1 : Int32))) P 5) + (1 : Int32)), .ref P]) rfl) ?_
  refine Tt.go (fun _ => Tr.min rfl ⟨fw824, fw410, fw94, fw411⟩ (Nat.le_of_ble_eq_true rfl) (Nat.le_of_ble_eq_true rfl)) (?_ : Tt g l z_X6_remember (emVw M w) _ 37 [(0, .ref P)] [.int (fm_min (((fm_up v3 P 4 ((v3 P 4) + (1 : Int32))) P 5) + (1 : Int32)) (8 : Int32)), .ref P] ((fm_up v3 P 4 ((v3 P 4) + (1 : Int32))), w))
  refine Tt.go (fun _ => Tr.put fmc6 hP rfl fw272 (k := 5) (by decide) rfl rfl ⟨rfl, rfl⟩) (?_ : Tt g l z_X6_remember (emVw M w) _ 40 [(0, .ref P)] [] ((fm_up (fm_up v3 P 4 ((v3 P 4) + (1 : Int32))) P 5 (fm_min (((fm_up v3 P 4 ((v3 P 4) + (1 : Int32))) P 5) + (1 : Int32)) (8 : Int32))), w))
  exact Tt.ret (Tr.vret rfl rfl)
theorem c_X6_remember (g : fm_G) (l : Launch) (hl : l.stackTraces = false) (P : Nat) (hP : fm_kd g P = 6) (M : fm_Mem) (w : fm_W) : ∀ r, f_X6_remember P M = some r → fC g l z_X6_remember [.ref P] (M, w) (emVw M w r) := fun r hr => fC.of (by decide) rfl o_X6_remember hl (Nat.le_of_ble_eq_true rfl) (t_X6_remember g l hl P hP M w r hr)
def k_X6_load : List (Nat × Instr × Nat) := [(0, .iload_n 1, 1), (1, .ifCond .lt 14, 3), (4, .iload_n 1, 1), (5, .aload_n 0, 1), (6, .getfield 12, 3), (9, .invokevirtual 38, 3), (12, .if_icmp .le 11, 3), (15, .new 46, 3), (18, .dup, 1), (19, .invokespecial 48, 3), (22, .athrow, 1), (23, .aload_n 0, 1), (24, .getfield 12, 3), (27, .iload_n 1, 1), (28, .invokevirtual 49, 3), (31, .istore_n 2, 1), (32, .aload_n 0, 1), (33, .aload_n 0, 1), (34, .getfield 12, 3), (37, .getfield 53, 3), (40, .putfield 34, 3), (43, .iload_n 2, 1), (44, .ifCond .eq 5, 3), (47, .iload_n 2, 1), (48, .ireturn, 1), (49, .aload_n 0, 1), (50, .invokevirtual 56, 3), (53, .aload_n 0, 1), (54, .getfield 19, 3), (57, .aload_n 0, 1), (58, .getfield 12, 3), (61, .getfield 59, 3), (64, .invokevirtual 60, 3), (67, .aload_n 0, 1), (68, .getfield 26, 3), (71, .aload_n 0, 1), (72, .getfield 19, 3), (75, .getfield 64, 3), (78, .invokevirtual 68, 3), (81, .aload_n 0, 1), (82, .getfield 19, 3), (85, .getfield 64, 3), (88, .invokevirtual 72, 3), (91, .ireturn, 1)]
def z_X6_load : fm_Y := (yX6_load, RX6, cX6_load, 3, (some .int), k_X6_load, 10, 247)
theorem o_X6_load : fm_dec z_X6_load := (by decide +kernel : ∀ q ∈ k_X6_load, decode cX6_load q.1 = .ok q.2)
theorem cw_X6_load : fm_cwV z_X6_load := ⟨⟨lw_in 634 (by decide +kernel) (by decide +kernel), lw_in 91 (by decide +kernel) (by decide +kernel), by decide, by decide⟩, lw_in 632 (by decide +kernel) (by decide +kernel), lw_in 633 (by decide +kernel) (by decide +kernel)⟩
theorem pn_X6_load : (parseMethodDescriptor z_X6_load.1.desc).map (fun d => d.parameters.length) = some 1 := by decide +kernel
def f_X6_load_15 (P : Nat) (a1 : Int32)  (M : fm_Mem) : Option (Nat ⊕ (Int32 × fm_Mem)) := some (.inl 0)
set_option maxRecDepth 100000 in
set_option maxHeartbeats 4000000 in
theorem t_X6_load_15 (g : fm_G) (l : Launch) (hl : l.stackTraces = false) (P : Nat) (a1 : Int32) (hP : fm_kd g P = 6) (w : fm_W)    (M : fm_Mem) : Tt g l z_X6_load (exIw M w) (f_X6_load_15 P a1   M) 15 [] [] (M, w) := by
  rw [f_X6_load_15]
  exact Tt.ret (Tr.thr (k := 0) fx0 rfl rfl rfl rfl (Nat.le_of_ble_eq_true rfl) (Nat.le_of_ble_eq_true rfl))
def f_X6_load (P : Nat) (a1 : Int32) (M : fm_Mem) : Option (Nat ⊕ (Int32 × fm_Mem)) := if a1 < 0 then (f_X6_load_15 P a1 M) else (Option.bind (f_X5_size (P + 1) M) (fun v1 => if a1 ≤ v1 then (Option.bind (f_X5_read (P + 1) a1 M) (fun v2 => if v2.1 = 0 then (Option.bind (f_X6_remember P (fm_up v2.2 P 6 (v2.2 (P + 1) 9))) (fun v3 => Option.bind (f_X2_copyFrom (P + 20) (P + 1 + 3) v3) (fun v4 => Option.bind (f_X0_renew (P + 36) (P + 20 + 1) v4) (fun v5 => Option.bind (f_X3_size (P + 20 + 1) v5) (fun v6 => some (.inr ((v6, v5)))))))) else (some (.inr ((v2.1, (fm_up v2.2 P 6 (v2.2 (P + 1) 9)))))))) else (f_X6_load_15 P a1 M)))
set_option maxRecDepth 100000 in
set_option maxHeartbeats 4000000 in
theorem t_X6_load (g : fm_G) (l : Launch) (hl : l.stackTraces = false) (P : Nat) (a1 : Int32) (hP : fm_kd g P = 6) (M : fm_Mem) (w : fm_W) : Tt g l z_X6_load (exIw M w) (f_X6_load P a1 M) 0 [(0, .ref P), (1, .int a1)] [] (M, w) := by
  rw [f_X6_load]
  refine Tt.go (fun _ => Tr.run 1 (pc' := 1) (lv' := [(0, .ref P), (1, .int a1)]) (st' := [.int a1]) rfl) ?_
  refine Tt.if_lt (tgt := 15) rfl (by decide) ?_ ?_
  · refine Tt.go (fun _ => Tr.sub (lv' := []) [] rfl) ?_
    exact t_X6_load_15 g l hl P a1 hP w M
  · refine Tt.go (fun _ => Tr.run 2 (pc' := 6) (lv' := [(0, .ref P), (1, .int a1)]) (st' := [.ref P, .int a1]) rfl) ?_
    refine Tt.go (fun _ => Tr.get fmc6 hP rfl fw267 (k := 0) (by decide) rfl) (?_ : Tt g l z_X6_load (exIw M w) _ 9 [(0, .ref P), (1, .int a1)] [.ref (P + 1), .int a1] (M, w))
    refine Tt.callV (As := []) (rest := [.int a1]) (c_X5_size g l hl (P + 1) (fmk_6_0 hP) M w) (fmk_6_0 hP) (by decide) rfl rfl cw_X5_size fw293 pn_X5_size (Nat.le_of_ble_eq_true rfl) (Nat.le_of_ble_eq_true rfl) (Nat.le_of_ble_eq_true rfl) rfl (fun v1 => (?_ : Tt g l z_X6_load (exIw M w) _ 12 [(0, .ref P), (1, .int a1)] [.int v1, .int a1] (M, w)))
    refine Tt.ic_le (tgt := 23) rfl (by decide) ?_ ?_
    · refine Tt.go (fun _ => Tr.run 1 (pc' := 24) (lv' := [(0, .ref P), (1, .int a1)]) (st' := [.ref P]) rfl) ?_
      refine Tt.go (fun _ => Tr.get fmc6 hP rfl fw267 (k := 0) (by decide) rfl) (?_ : Tt g l z_X6_load (exIw M w) _ 27 [(0, .ref P), (1, .int a1)] [.ref (P + 1)] (M, w))
      refine Tt.go (fun _ => Tr.run 1 (pc' := 28) (lv' := [(0, .ref P), (1, .int a1)]) (st' := [.int a1, .ref (P + 1)]) rfl) ?_
      refine Tt.callV (As := [.int a1]) (rest := []) (c_X5_read g l hl (P + 1) a1 (fmk_6_0 hP) M w) (fmk_6_0 hP) (by decide) rfl rfl cw_X5_read fw635 pn_X5_read (Nat.le_of_ble_eq_true rfl) (Nat.le_of_ble_eq_true rfl) (Nat.le_of_ble_eq_true rfl) rfl (fun v2 => (?_ : Tt g l z_X6_load (exIw M w) _ 31 [(0, .ref P), (1, .int a1)] [.int v2.1] (v2.2, w)))
      refine Tt.go (fun _ => Tr.run 3 (pc' := 34) (lv' := [(2, .int v2.1), (0, .ref P), (1, .int a1)]) (st' := [.ref P, .ref P]) rfl) ?_
      refine Tt.go (fun _ => Tr.get fmc6 hP rfl fw267 (k := 0) (by decide) rfl) (?_ : Tt g l z_X6_load (exIw M w) _ 37 [(2, .int v2.1), (0, .ref P), (1, .int a1)] [.ref (P + 1), .ref P] (v2.2, w))
      refine Tt.go (fun _ => Tr.getN fmc5 (fmk_6_0 hP) rfl nw217 (k := 9) (by decide) rfl) (?_ : Tt g l z_X6_load (exIw M w) _ 40 [(2, .int v2.1), (0, .ref P), (1, .int a1)] [.int (v2.2 (P + 1) 9), .ref P] (v2.2, w))
      refine Tt.go (fun _ => Tr.put fmc6 hP rfl fw273 (k := 6) (by decide) rfl rfl ⟨rfl, rfl⟩) (?_ : Tt g l z_X6_load (exIw M w) _ 43 [(2, .int v2.1), (0, .ref P), (1, .int a1)] [] ((fm_up v2.2 P 6 (v2.2 (P + 1) 9)), w))
      refine Tt.go (fun _ => Tr.run 1 (pc' := 44) (lv' := [(2, .int v2.1), (0, .ref P), (1, .int a1)]) (st' := [.int v2.1]) rfl) ?_
      refine Tt.if_eq (tgt := 49) rfl (by decide) ?_ ?_
      · refine Tt.go (fun _ => Tr.run 1 (pc' := 50) (lv' := [(2, .int v2.1), (0, .ref P), (1, .int a1)]) (st' := [.ref P]) rfl) ?_
        refine Tt.callV (As := []) (rest := []) (c_X6_remember g l hl P hP (fm_up v2.2 P 6 (v2.2 (P + 1) 9)) w) hP (by decide) rfl rfl cw_X6_remember fw820 pn_X6_remember (Nat.le_of_ble_eq_true rfl) (Nat.le_of_ble_eq_true rfl) (Nat.le_of_ble_eq_true rfl) rfl (fun v3 => (?_ : Tt g l z_X6_load (exIw M w) _ 53 [(2, .int v2.1), (0, .ref P), (1, .int a1)] [] (v3, w)))
        refine Tt.go (fun _ => Tr.run 1 (pc' := 54) (lv' := [(2, .int v2.1), (0, .ref P), (1, .int a1)]) (st' := [.ref P]) rfl) ?_
        refine Tt.go (fun _ => Tr.get fmc6 hP rfl fw268 (k := 1) (by decide) rfl) (?_ : Tt g l z_X6_load (exIw M w) _ 57 [(2, .int v2.1), (0, .ref P), (1, .int a1)] [.ref (P + 20)] (v3, w))
        refine Tt.go (fun _ => Tr.run 1 (pc' := 58) (lv' := [(2, .int v2.1), (0, .ref P), (1, .int a1)]) (st' := [.ref P, .ref (P + 20)]) rfl) ?_
        refine Tt.go (fun _ => Tr.get fmc6 hP rfl fw267 (k := 0) (by decide) rfl) (?_ : Tt g l z_X6_load (exIw M w) _ 61 [(2, .int v2.1), (0, .ref P), (1, .int a1)] [.ref (P + 1), .ref (P + 20)] (v3, w))
        refine Tt.go (fun _ => Tr.getN fmc5 (fmk_6_0 hP) rfl nw209 (k := 1) (by decide) rfl) (?_ : Tt g l z_X6_load (exIw M w) _ 64 [(2, .int v2.1), (0, .ref P), (1, .int a1)] [.ref (P + 1 + 3), .ref (P + 20)] (v3, w))
        refine Tt.callV (As := [.ref (P + 1 + 3)]) (rest := []) (c_X2_copyFrom g l hl (P + 20) (P + 1 + 3) (fmk_6_1 hP) (fmk_5_1 (fmk_6_0 hP)) v3 w) (fmk_6_1 hP) (by decide) rfl rfl cw_X2_copyFrom fw397 pn_X2_copyFrom (Nat.le_of_ble_eq_true rfl) (Nat.le_of_ble_eq_true rfl) (Nat.le_of_ble_eq_true rfl) rfl (fun v4 => (?_ : Tt g l z_X6_load (exIw M w) _ 67 [(2, .int v2.1), (0, .ref P), (1, .int a1)] [] (v4, w)))
        refine Tt.go (fun _ => Tr.run 1 (pc' := 68) (lv' := [(2, .int v2.1), (0, .ref P), (1, .int a1)]) (st' := [.ref P]) rfl) ?_
        refine Tt.go (fun _ => Tr.get fmc6 hP rfl fw269 (k := 2) (by decide) rfl) (?_ : Tt g l z_X6_load (exIw M w) _ 71 [(2, .int v2.1), (0, .ref P), (1, .int a1)] [.ref (P + 36)] (v4, w))
        refine Tt.go (fun _ => Tr.run 1 (pc' := 72) (lv' := [(2, .int v2.1), (0, .ref P), (1, .int a1)]) (st' := [.ref P, .ref (P + 36)]) rfl) ?_
        refine Tt.go (fun _ => Tr.get fmc6 hP rfl fw268 (k := 1) (by decide) rfl) (?_ : Tt g l z_X6_load (exIw M w) _ 75 [(2, .int v2.1), (0, .ref P), (1, .int a1)] [.ref (P + 20), .ref (P + 36)] (v4, w))
        refine Tt.go (fun _ => Tr.getN fmc2 (fmk_6_1 hP) rfl nw186 (k := 0) (by decide) rfl) (?_ : Tt g l z_X6_load (exIw M w) _ 78 [(2, .int v2.1), (0, .ref P), (1, .int a1)] [.ref (P + 20 + 1), .ref (P + 36)] (v4, w))
        refine Tt.callV (As := [.ref (P + 20 + 1)]) (rest := []) (c_X0_renew g l hl (P + 36) (P + 20 + 1) (fmk_6_2 hP) (fmk_2_0 (fmk_6_1 hP)) v4 w) (fmk_6_2 hP) (by decide) rfl rfl cw_X0_renew fw420 pn_X0_renew (Nat.le_of_ble_eq_true rfl) (Nat.le_of_ble_eq_true rfl) (Nat.le_of_ble_eq_true rfl) rfl (fun v5 => (?_ : Tt g l z_X6_load (exIw M w) _ 81 [(2, .int v2.1), (0, .ref P), (1, .int a1)] [] (v5, w)))
        refine Tt.go (fun _ => Tr.run 1 (pc' := 82) (lv' := [(2, .int v2.1), (0, .ref P), (1, .int a1)]) (st' := [.ref P]) rfl) ?_
        refine Tt.go (fun _ => Tr.get fmc6 hP rfl fw268 (k := 1) (by decide) rfl) (?_ : Tt g l z_X6_load (exIw M w) _ 85 [(2, .int v2.1), (0, .ref P), (1, .int a1)] [.ref (P + 20)] (v5, w))
        refine Tt.go (fun _ => Tr.getN fmc2 (fmk_6_1 hP) rfl nw186 (k := 0) (by decide) rfl) (?_ : Tt g l z_X6_load (exIw M w) _ 88 [(2, .int v2.1), (0, .ref P), (1, .int a1)] [.ref (P + 20 + 1)] (v5, w))
        refine Tt.callV (As := []) (rest := []) (c_X3_size g l hl (P + 20 + 1) (fmk_2_0 (fmk_6_1 hP)) v5 w) (fmk_2_0 (fmk_6_1 hP)) (by decide) rfl rfl cw_X3_size fw368 pn_X3_size (Nat.le_of_ble_eq_true rfl) (Nat.le_of_ble_eq_true rfl) (Nat.le_of_ble_eq_true rfl) rfl (fun v6 => (?_ : Tt g l z_X6_load (exIw M w) _ 91 [(2, .int v2.1), (0, .ref P), (1, .int a1)] [.int v6] (v5, w)))
        exact Tt.ret (Tr.iret rfl rfl)
      · refine Tt.go (fun _ => Tr.run 1 (pc' := 48) (lv' := [(2, .int v2.1), (0, .ref P), (1, .int a1)]) (st' := [.int v2.1]) rfl) ?_
        exact Tt.ret (Tr.iret rfl rfl)
    · refine Tt.go (fun _ => Tr.sub (lv' := []) [] rfl) ?_
      exact t_X6_load_15 g l hl P a1 hP w M
theorem c_X6_load (g : fm_G) (l : Launch) (hl : l.stackTraces = false) (P : Nat) (a1 : Int32) (hP : fm_kd g P = 6) (M : fm_Mem) (w : fm_W) : ∀ r, f_X6_load P a1 M = some r → fC g l z_X6_load [.ref P, .int a1] (M, w) (exIw M w r) := fun r hr => fC.of (by decide) rfl o_X6_load hl (Nat.le_of_ble_eq_true rfl) (t_X6_load g l hl P a1 hP M w r hr)
