section
/-! THE LAW'S CASES, printed by wip/whole/cases.py -/
theorem fp_nn {x : UInt32} (h : fm_f32 x = true) : FP.Core.decode FP.Core.b32 x.toNat ≠ .nan := by
  unfold fm_f32 at h
  have h := UInt32.le_iff_toNat_le.mp (of_decide_eq_true h)
  rw [UInt32.toNat_and, show (0x7fffffff : UInt32).toNat = 2 ^ 31 - 1 from rfl, Nat.and_two_pow_sub_one_eq_mod] at h
  change x.toNat % 2147483648 ≤ 2139095040 at h
  unfold FP.Core.decode FP.Core.fieldE FP.Core.fieldT
  rw [fp_T, fp_E]
  intro z
  split at z
  · next h1 =>
    split at z
    · cases z
    · next h2 => omega
  · split at z <;> cases z
theorem f2d_ok {x : UInt32} (h : fm_f32 x = true) : fm_f64 (FP.f2d x) = true := by
  have hn := fp_nn h
  unfold FP.f2d
  rw [if_neg (show ¬ FP.Core.fIsNaN x = true from fun z => hn (of_decide_eq_true z))]
  unfold FP.Core.f2d FP.Core.convert
  cases hd : FP.Core.decode FP.Core.b32 x.toNat with
  | nan => exact absurd hd hn
  | inf s => cases s <;> decide +kernel
  | fin s c q => exact fp_n6 s c 1 q
theorem lg_0 {a b : Int64} (h : a = b) : lg_cmp a b = 0 := by
  subst h
  simp only [lg_cmp_eq]
def fl (x : Int32) : Int32 := if x = 0 then 0 else 1
theorem fl_01 (x : Int32) : fl x = 0 ∨ fl x = 1 := by
  unfold fl
  by_cases h : x = 0
  · exact Or.inl (if_pos h)
  · exact Or.inr (if_neg h)
abbrev llv (g : fm_G) (b i : Nat) : List (Nat × Value) := [(5, .int (iI (i : Int))), (4, .ref (g.1 + 178)), (3, .ref (g.1 + 177)), (2, .ref (g.1 + 170)), (1, .ref g.1), (0, .ref b)]
section CS
variable {g : fm_G} {l : Launch} {b L : Nat} {xs : Nat → Int32} {pc : Nat} {lv : List (Nat × Value)} {st rest : List Value} {μ ν : fm_St} {cells slots k i : Nat} {kl : List (Nat × Instr × Nat)}
theorem TL.f2d {x : UInt32} (hd : kd kl) (hx : fm_f32 x = true) (hl : fm_lk kl pc = some (.f2d, 1)) (kk : TL g l b L xs (pc + 1) lv (.double (FP.f2d x) :: rest) μ cells slots) : TL g l b L xs pc lv (.float x :: rest) μ cells slots := by
  intro p e s m below meth c H locs ls hX hP hS hv
  exact lv_f2d hX.1.1 hX.1.2.1 (hd.at hl) (fm_f64_n (f2d_ok hx)) (kk p e s m below meth c H locs ls hX hP hS hv)
theorem TL.flag {x : Int32} {off : Int} {tgt pcN : Nat} (hd : kd kl) (hl : fm_lk kl pc = some (.ifCond .eq off, 3)) (ht : (pc : Int) + off = (tgt : Int)) (h0 : fx_run kl 10 1 tgt lv rest = some (pcN, lv, .int 0 :: rest)) (h1 : fx_run kl 10 2 (pc + 3) lv rest = some (pcN, lv, .int 1 :: rest)) (kk : TL g l b L xs pcN lv (.int (fl x) :: rest) μ cells slots) : TL g l b L xs pc lv (.int x :: rest) μ cells slots := by
  refine TL.if_eq hd hl ht (fun q => ?_) (fun q => ?_)
  · rw [show fl x = 0 from if_pos q] at kk
    exact TL.run hd 1 h0 kk
  · rw [show fl x = 1 from if_neg q] at kk
    exact TL.run hd 2 h1 kk
theorem lw_ini : Cond.initialized "CircleFlipsLaw" ∈ lw_all := lw_in 90 (by decide +kernel) (by decide +kernel)
def k_c_append : List (Nat × Instr × Nat) := [(156, .aload_n 1, 1), (157, .aload_n 0, 1), (158, .iload 5, 2), (160, .iconst 1, 1), (161, .iadd, 1), (162, .iaload, 1), (163, .aload_n 0, 1), (164, .iload 5, 2), (166, .iconst 2, 1), (167, .iadd, 1), (168, .iaload, 1), (169, .aload_n 0, 1), (170, .iload 5, 2), (172, .iconst 3, 1), (173, .iadd, 1), (174, .iaload, 1), (175, .aload_n 0, 1), (176, .iload 5, 2), (178, .iconst 4, 1), (179, .iadd, 1), (180, .iaload, 1), (181, .aload_n 0, 1), (182, .iload 5, 2), (184, .iconst 5, 1), (185, .iadd, 1), (186, .iaload, 1), (187, .invokevirtual 79, 3), (190, .aload_n 2, 1), (191, .aload_n 0, 1), (192, .iload 5, 2), (194, .iconst 1, 1), (195, .iadd, 1), (196, .iaload, 1), (197, .aload_n 0, 1), (198, .iload 5, 2), (200, .iconst 2, 1), (201, .iadd, 1), (202, .iaload, 1), (203, .aload_n 0, 1), (204, .iload 5, 2), (206, .iconst 3, 1), (207, .iadd, 1), (208, .iaload, 1), (209, .aload_n 0, 1), (210, .iload 5, 2), (212, .iconst 4, 1), (213, .iadd, 1), (214, .iaload, 1), (215, .aload_n 0, 1), (216, .iload 5, 2), (218, .iconst 5, 1), (219, .iadd, 1), (220, .iaload, 1), (221, .invokevirtual 83, 3), (224, .if_icmp .eq 1277, 3), (227, .iconst 0, 1), (228, .ireturn, 1)]
theorem o_c_append : kd k_c_append := (by decide +kernel : ∀ q ∈ k_c_append, decode code q.1 = .ok q.2)
set_option maxHeartbeats 4000000 in
set_option maxRecDepth 100000 in
theorem cs_append (hl : l.stackTraces = false) (hk6 : k < 600) (hw : wA g.1 μ.1 k) (hi : i + 5 < L) (hc : cells + 1 ≤ 601024) (hs : slots + 6 ≤ 7293033) (kk : ∀ ν : fm_St, wA g.1 ν.1 (k + 1) → TL g l b L xs 1501 (llv g b i) [] ν (cells + 1) (slots + 6)) : TL g l b L xs 156 (llv g b i) [] μ cells slots := by
  refine TL.run o_c_append 1 (pc' := 157) (lv' := (llv g b i)) (st' := [.ref g.1]) rfl ?_
  refine TL.arg (i := i) (j := 1) (n := 4) (pc' := 162) (J := 1) o_c_append (by decide) (by omega) rfl rfl ?_
  refine TL.arg (i := i) (j := 2) (n := 4) (pc' := 168) (J := 2) o_c_append (by decide) (by omega) rfl rfl ?_
  refine TL.arg (i := i) (j := 3) (n := 4) (pc' := 174) (J := 3) o_c_append (by decide) (by omega) rfl rfl ?_
  refine TL.arg (i := i) (j := 4) (n := 4) (pc' := 180) (J := 4) o_c_append (by decide) (by omega) rfl rfl ?_
  refine TL.arg (i := i) (j := 5) (n := 4) (pc' := 186) (J := 5) o_c_append (by decide) (by omega) rfl rfl ?_
  obtain ⟨x, M1, r2, hC, hr, hx, hA⟩ := ln_append (μ := μ) hl hw (xs (i + 1)) (xs (i + 2)) (xs (i + 3)) (xs (i + 4)) (xs (i + 5))
  refine TL.callV o_c_append (hC) (kd6 g) (by decide) fmc6.1 rfl cw_X6_append (lw_in 289 (by decide +kernel) (by decide +kernel)) pn_X6_append (Nat.le_of_ble_eq_true rfl) (Nat.le_of_ble_eq_true rfl) (Nat.le_of_ble_eq_true rfl) (by omega) (by omega) rfl ?_
  refine TL.run o_c_append 1 (pc' := 191) (lv' := (llv g b i)) (st' := [.ref (g.1 + 170), .int x]) rfl ?_
  refine TL.arg (i := i) (j := 1) (n := 4) (pc' := 196) (J := 1) o_c_append (by decide) (by omega) rfl rfl ?_
  refine TL.arg (i := i) (j := 2) (n := 4) (pc' := 202) (J := 2) o_c_append (by decide) (by omega) rfl rfl ?_
  refine TL.arg (i := i) (j := 3) (n := 4) (pc' := 208) (J := 3) o_c_append (by decide) (by omega) rfl rfl ?_
  refine TL.arg (i := i) (j := 4) (n := 4) (pc' := 214) (J := 4) o_c_append (by decide) (by omega) rfl rfl ?_
  refine TL.arg (i := i) (j := 5) (n := 4) (pc' := 220) (J := 5) o_c_append (by decide) (by omega) rfl rfl ?_
  refine TL.callV o_c_append (c_X7_append g l hl (g.1 + 170) (xs (i + 1)) (xs (i + 2)) (xs (i + 3)) (xs (i + 4)) (xs (i + 5)) (kd7 g) M1 μ.2 r2 hr) (kd7 g) (by decide) fmc7.1 rfl cw_X7_append (lw_in 1086 (by decide +kernel) (by decide +kernel)) pn_X7_append (Nat.le_of_ble_eq_true rfl) (Nat.le_of_ble_eq_true rfl) (Nat.le_of_ble_eq_true rfl) (by omega) (by omega) rfl ?_
  exact TL.ic_eq (tgt := 1501) o_c_append hx.symm rfl (by decide) (TL.widen (Nat.le_succ _) (Nat.le_add_right _ _) (kk (r2.2, μ.2) hA))
def k_c_load : List (Nat × Instr × Nat) := [(229, .aload_n 1, 1), (230, .aload_n 0, 1), (231, .iload 5, 2), (233, .iconst 1, 1), (234, .iadd, 1), (235, .iaload, 1), (236, .aload_n 3, 1), (237, .invokestatic 84, 3), (240, .istore 6, 2), (242, .aload_n 2, 1), (243, .aload_n 0, 1), (244, .iload 5, 2), (246, .iconst 1, 1), (247, .iadd, 1), (248, .iaload, 1), (249, .invokevirtual 89, 3), (252, .istore 7, 2), (254, .aload_n 2, 1), (255, .invokevirtual 90, 3), (258, .iload 6, 2), (260, .if_icmp .eq 5, 3), (263, .iconst 0, 1), (264, .ireturn, 1), (265, .iload 6, 2), (267, .ifCond .ne 15, 3), (270, .aload_n 3, 1), (271, .iconst 0, 1), (272, .laload, 1), (273, .iload 7, 2), (275, .i2l, 1), (276, .lcmp, 1), (277, .ifCond .eq 5, 3), (280, .iconst 0, 1), (281, .ireturn, 1), (282, .goto 1219, 3)]
theorem o_c_load : kd k_c_load := (by decide +kernel : ∀ q ∈ k_c_load, decode code q.1 = .ok q.2)
set_option maxHeartbeats 4000000 in
set_option maxRecDepth 100000 in
theorem cs_load (hl : l.stackTraces = false) (hk6 : k < 600) (hw : wA g.1 μ.1 k) (hi : i + 5 < L) (hc : cells + 1 ≤ 601024) (hs : slots + 6 ≤ 7293033) (kk : ∀ ν : fm_St, wA g.1 ν.1 (k + 1) → TL g l b L xs 1501 (llv g b i) [] ν (cells + 1) (slots + 6)) : TL g l b L xs 229 (llv g b i) [] μ cells slots := by
  refine TL.run o_c_load 1 (pc' := 230) (lv' := (llv g b i)) (st' := [.ref g.1]) rfl ?_
  refine TL.arg (i := i) (j := 1) (n := 4) (pc' := 235) (J := 1) o_c_load (by decide) (by omega) rfl rfl ?_
  refine TL.run o_c_load 1 (pc' := 237) (lv' := (llv g b i)) (st' := [.ref (g.1 + 177), .int (xs (i + 1)), .ref g.1]) rfl ?_
  obtain ⟨K, M1, o1, r2, hC, hr, hth, hk0, hA⟩ := ls_load (μ := μ) hl hk6 hw (xs (i + 1))
  refine TL.callW (rest := []) o_c_load hC rfl (lw_in 627 (by decide +kernel) (by decide +kernel)) (lw_in 628 (by decide +kernel) (by decide +kernel)) lw_ini (lw_in 629 (by decide +kernel) (by decide +kernel)) ⟨by decide, by decide⟩ (show (parseMethodDescriptor z_L_load.1.desc).map (fun d => d.parameters.length) = some 3 by decide +kernel) (Nat.le_of_ble_eq_true rfl) (Nat.le_of_ble_eq_true rfl) (Nat.le_of_ble_eq_true rfl) hc hs rfl ?_
  refine TL.run o_c_load 2 (pc' := 243) (lv' := ((6, .int K) :: llv g b i)) (st' := [.ref (g.1 + 170)]) rfl ?_
  refine TL.arg (i := i) (j := 1) (n := 4) (pc' := 248) (J := 1) o_c_load (by decide) (by omega) rfl rfl ?_
  refine TL.callV o_c_load (c_X7_load g l hl (g.1 + 170) (xs (i + 1)) (kd7 g) M1 (o1, μ.2.2) r2 hr) (kd7 g) (by decide) fmc7.1 rfl cw_X7_load (lw_in 1098 (by decide +kernel) (by decide +kernel)) pn_X7_load (Nat.le_of_ble_eq_true rfl) (Nat.le_of_ble_eq_true rfl) (Nat.le_of_ble_eq_true rfl) (by omega) (by omega) rfl ?_
  refine TL.run o_c_load 2 (pc' := 255) (lv' := ((7, .int r2.1) :: (6, .int K) :: llv g b i)) (st' := [.ref (g.1 + 170)]) rfl ?_
  refine TL.callV o_c_load (c_X7_thrown g l hl (g.1 + 170) (kd7 g) r2.2 (o1, μ.2.2) _ rfl) (kd7 g) (by decide) fmc7.1 rfl cw_X7_thrown (lw_in 1082 (by decide +kernel) (by decide +kernel)) pn_X7_thrown (Nat.le_of_ble_eq_true rfl) (Nat.le_of_ble_eq_true rfl) (Nat.le_of_ble_eq_true rfl) (by omega) (by omega) rfl ?_
  refine TL.run o_c_load 1 (pc' := 260) (lv' := ((7, .int r2.1) :: (6, .int K) :: llv g b i)) (st' := [.int K, .int (r2.2 (g.1 + 170) 0)]) rfl ?_
  refine TL.ic_eq (tgt := 265) o_c_load hth rfl (by decide) ?_
  refine TL.run o_c_load 1 (pc' := 267) (lv' := ((7, .int r2.1) :: (6, .int K) :: llv g b i)) (st' := [.int K]) rfl ?_
  have fin : TL g l b L xs 282 ((7, .int r2.1) :: (6, .int K) :: llv g b i) [] (r2.2, o1, μ.2.2) (cells + 1) (slots + 6) := by
    refine TL.run o_c_load 1 (pc' := 1501) (lv' := ((7, .int r2.1) :: (6, .int K) :: llv g b i)) (st' := []) rfl ?_
    refine TL.sub (lv' := llv g b i) [2, 3, 4, 5, 6, 7] rfl ?_
    exact kk (r2.2, o1, μ.2.2) hA
  refine TL.if_ne (tgt := 282) o_c_load rfl (by decide) (fun _ => fin) (fun q => ?_)
  refine TL.run o_c_load 2 (pc' := 272) (lv' := ((7, .int r2.1) :: (6, .int K) :: llv g b i)) (st' := [.int 0, .ref (g.1 + 177)]) rfl ?_
  refine TL.lald o_c_load rfl ?_
  refine TL.run o_c_load 3 (pc' := 277) (lv' := ((7, .int r2.1) :: (6, .int K) :: llv g b i)) (st' := [.int (lg_cmp o1 (Int32.toInt64 r2.1))]) rfl ?_
  exact TL.if_eq (tgt := 282) o_c_load rfl (by decide) (fun _ => fin) (fun q2 => absurd (lg_0 (hk0 q)) q2)
def k_c_errorOffset : List (Nat × Instr × Nat) := [(285, .aload_n 1, 1), (286, .invokevirtual 93, 3), (289, .aload_n 2, 1), (290, .invokevirtual 96, 3), (293, .if_icmp .eq 1208, 3), (296, .iconst 0, 1), (297, .ireturn, 1)]
theorem o_c_errorOffset : kd k_c_errorOffset := (by decide +kernel : ∀ q ∈ k_c_errorOffset, decode code q.1 = .ok q.2)
set_option maxHeartbeats 4000000 in
set_option maxRecDepth 100000 in
theorem cs_errorOffset (hl : l.stackTraces = false) (hk6 : k < 600) (hw : wA g.1 μ.1 k) (hi : i + 5 < L) (hc : cells + 1 ≤ 601024) (hs : slots + 6 ≤ 7293033) (kk : ∀ ν : fm_St, wA g.1 ν.1 (k + 1) → TL g l b L xs 1501 (llv g b i) [] ν (cells + 1) (slots + 6)) : TL g l b L xs 285 (llv g b i) [] μ cells slots := by
  refine TL.run o_c_errorOffset 1 (pc' := 286) (lv' := (llv g b i)) (st' := [.ref g.1]) rfl ?_
  obtain ⟨x, M1, r2, hC, hr, hx, hA⟩ := ln_errorOffset (μ := μ) hl hw
  refine TL.callV o_c_errorOffset (hC) (kd6 g) (by decide) fmc6.1 rfl cw_X6_errorOffset (lw_in 305 (by decide +kernel) (by decide +kernel)) pn_X6_errorOffset (Nat.le_of_ble_eq_true rfl) (Nat.le_of_ble_eq_true rfl) (Nat.le_of_ble_eq_true rfl) (by omega) (by omega) rfl ?_
  refine TL.run o_c_errorOffset 1 (pc' := 290) (lv' := (llv g b i)) (st' := [.ref (g.1 + 170), .int x]) rfl ?_
  refine TL.callV o_c_errorOffset (c_X7_errorOffset g l hl (g.1 + 170) (kd7 g) M1 μ.2 r2 hr) (kd7 g) (by decide) fmc7.1 rfl cw_X7_errorOffset (lw_in 1094 (by decide +kernel) (by decide +kernel)) pn_X7_errorOffset (Nat.le_of_ble_eq_true rfl) (Nat.le_of_ble_eq_true rfl) (Nat.le_of_ble_eq_true rfl) (by omega) (by omega) rfl ?_
  exact TL.ic_eq (tgt := 1501) o_c_errorOffset hx.symm rfl (by decide) (TL.widen (Nat.le_succ _) (Nat.le_add_right _ _) (kk (r2.2, μ.2) hA))
def k_c_state : List (Nat × Instr × Nat) := [(298, .aload_n 1, 1), (299, .aload_n 0, 1), (300, .iload 5, 2), (302, .iconst 1, 1), (303, .iadd, 1), (304, .iaload, 1), (305, .aload_n 3, 1), (306, .invokestatic 97, 3), (309, .istore 6, 2), (311, .aload_n 2, 1), (312, .aload_n 0, 1), (313, .iload 5, 2), (315, .iconst 1, 1), (316, .iadd, 1), (317, .iaload, 1), (318, .invokevirtual 99, 3), (321, .istore 7, 2), (323, .aload_n 2, 1), (324, .invokevirtual 90, 3), (327, .iload 6, 2), (329, .if_icmp .eq 5, 3), (332, .iconst 0, 1), (333, .ireturn, 1), (334, .iload 6, 2), (336, .ifCond .ne 15, 3), (339, .aload_n 3, 1), (340, .iconst 0, 1), (341, .laload, 1), (342, .iload 7, 2), (344, .i2l, 1), (345, .lcmp, 1), (346, .ifCond .eq 5, 3), (349, .iconst 0, 1), (350, .ireturn, 1), (351, .goto 1150, 3)]
theorem o_c_state : kd k_c_state := (by decide +kernel : ∀ q ∈ k_c_state, decode code q.1 = .ok q.2)
set_option maxHeartbeats 4000000 in
set_option maxRecDepth 100000 in
theorem cs_state (hl : l.stackTraces = false) (hk6 : k < 600) (hw : wA g.1 μ.1 k) (hi : i + 5 < L) (hc : cells + 1 ≤ 601024) (hs : slots + 6 ≤ 7293033) (kk : ∀ ν : fm_St, wA g.1 ν.1 (k + 1) → TL g l b L xs 1501 (llv g b i) [] ν (cells + 1) (slots + 6)) : TL g l b L xs 298 (llv g b i) [] μ cells slots := by
  refine TL.run o_c_state 1 (pc' := 299) (lv' := (llv g b i)) (st' := [.ref g.1]) rfl ?_
  refine TL.arg (i := i) (j := 1) (n := 4) (pc' := 304) (J := 1) o_c_state (by decide) (by omega) rfl rfl ?_
  refine TL.run o_c_state 1 (pc' := 306) (lv' := (llv g b i)) (st' := [.ref (g.1 + 177), .int (xs (i + 1)), .ref g.1]) rfl ?_
  obtain ⟨K, M1, o1, r2, hC, hr, hth, hk0, hA⟩ := ls_state (μ := μ) hl hw (xs (i + 1))
  refine TL.callW (rest := []) o_c_state hC rfl (lw_in 826 (by decide +kernel) (by decide +kernel)) (lw_in 827 (by decide +kernel) (by decide +kernel)) lw_ini (lw_in 828 (by decide +kernel) (by decide +kernel)) ⟨by decide, by decide⟩ (show (parseMethodDescriptor z_L_state.1.desc).map (fun d => d.parameters.length) = some 3 by decide +kernel) (Nat.le_of_ble_eq_true rfl) (Nat.le_of_ble_eq_true rfl) (Nat.le_of_ble_eq_true rfl) hc hs rfl ?_
  refine TL.run o_c_state 2 (pc' := 312) (lv' := ((6, .int K) :: llv g b i)) (st' := [.ref (g.1 + 170)]) rfl ?_
  refine TL.arg (i := i) (j := 1) (n := 4) (pc' := 317) (J := 1) o_c_state (by decide) (by omega) rfl rfl ?_
  refine TL.callV o_c_state (c_X7_state g l hl (g.1 + 170) (xs (i + 1)) (kd7 g) M1 (o1, μ.2.2) r2 hr) (kd7 g) (by decide) fmc7.1 rfl cw_X7_state (lw_in 1269 (by decide +kernel) (by decide +kernel)) pn_X7_state (Nat.le_of_ble_eq_true rfl) (Nat.le_of_ble_eq_true rfl) (Nat.le_of_ble_eq_true rfl) (by omega) (by omega) rfl ?_
  refine TL.run o_c_state 2 (pc' := 324) (lv' := ((7, .int r2.1) :: (6, .int K) :: llv g b i)) (st' := [.ref (g.1 + 170)]) rfl ?_
  refine TL.callV o_c_state (c_X7_thrown g l hl (g.1 + 170) (kd7 g) r2.2 (o1, μ.2.2) _ rfl) (kd7 g) (by decide) fmc7.1 rfl cw_X7_thrown (lw_in 1082 (by decide +kernel) (by decide +kernel)) pn_X7_thrown (Nat.le_of_ble_eq_true rfl) (Nat.le_of_ble_eq_true rfl) (Nat.le_of_ble_eq_true rfl) (by omega) (by omega) rfl ?_
  refine TL.run o_c_state 1 (pc' := 329) (lv' := ((7, .int r2.1) :: (6, .int K) :: llv g b i)) (st' := [.int K, .int (r2.2 (g.1 + 170) 0)]) rfl ?_
  refine TL.ic_eq (tgt := 334) o_c_state hth rfl (by decide) ?_
  refine TL.run o_c_state 1 (pc' := 336) (lv' := ((7, .int r2.1) :: (6, .int K) :: llv g b i)) (st' := [.int K]) rfl ?_
  have fin : TL g l b L xs 351 ((7, .int r2.1) :: (6, .int K) :: llv g b i) [] (r2.2, o1, μ.2.2) (cells + 1) (slots + 6) := by
    refine TL.run o_c_state 1 (pc' := 1501) (lv' := ((7, .int r2.1) :: (6, .int K) :: llv g b i)) (st' := []) rfl ?_
    refine TL.sub (lv' := llv g b i) [2, 3, 4, 5, 6, 7] rfl ?_
    exact kk (r2.2, o1, μ.2.2) hA
  refine TL.if_ne (tgt := 351) o_c_state rfl (by decide) (fun _ => fin) (fun q => ?_)
  refine TL.run o_c_state 2 (pc' := 341) (lv' := ((7, .int r2.1) :: (6, .int K) :: llv g b i)) (st' := [.int 0, .ref (g.1 + 177)]) rfl ?_
  refine TL.lald o_c_state rfl ?_
  refine TL.run o_c_state 3 (pc' := 346) (lv' := ((7, .int r2.1) :: (6, .int K) :: llv g b i)) (st' := [.int (lg_cmp o1 (Int32.toInt64 r2.1))]) rfl ?_
  exact TL.if_eq (tgt := 351) o_c_state rfl (by decide) (fun _ => fin) (fun q2 => absurd (lg_0 (hk0 q)) q2)
def k_c_point : List (Nat × Instr × Nat) := [(354, .aload_n 1, 1), (355, .aload_n 0, 1), (356, .iload 5, 2), (358, .iconst 1, 1), (359, .iadd, 1), (360, .iaload, 1), (361, .aload_n 0, 1), (362, .iload 5, 2), (364, .iconst 2, 1), (365, .iadd, 1), (366, .iaload, 1), (367, .aload_n 3, 1), (368, .invokestatic 100, 3), (371, .istore 6, 2), (373, .aload_n 2, 1), (374, .aload_n 0, 1), (375, .iload 5, 2), (377, .iconst 1, 1), (378, .iadd, 1), (379, .iaload, 1), (380, .aload_n 0, 1), (381, .iload 5, 2), (383, .iconst 2, 1), (384, .iadd, 1), (385, .iaload, 1), (386, .invokevirtual 103, 3), (389, .istore 7, 2), (391, .aload_n 2, 1), (392, .invokevirtual 90, 3), (395, .iload 6, 2), (397, .if_icmp .eq 5, 3), (400, .iconst 0, 1), (401, .ireturn, 1), (402, .iload 6, 2), (404, .ifCond .ne 15, 3), (407, .aload_n 3, 1), (408, .iconst 0, 1), (409, .laload, 1), (410, .iload 7, 2), (412, .i2l, 1), (413, .lcmp, 1), (414, .ifCond .eq 5, 3), (417, .iconst 0, 1), (418, .ireturn, 1), (419, .goto 1082, 3)]
theorem o_c_point : kd k_c_point := (by decide +kernel : ∀ q ∈ k_c_point, decode code q.1 = .ok q.2)
set_option maxHeartbeats 4000000 in
set_option maxRecDepth 100000 in
theorem cs_point (hl : l.stackTraces = false) (hk6 : k < 600) (hw : wA g.1 μ.1 k) (hi : i + 5 < L) (hc : cells + 1 ≤ 601024) (hs : slots + 6 ≤ 7293033) (kk : ∀ ν : fm_St, wA g.1 ν.1 (k + 1) → TL g l b L xs 1501 (llv g b i) [] ν (cells + 1) (slots + 6)) : TL g l b L xs 354 (llv g b i) [] μ cells slots := by
  refine TL.run o_c_point 1 (pc' := 355) (lv' := (llv g b i)) (st' := [.ref g.1]) rfl ?_
  refine TL.arg (i := i) (j := 1) (n := 4) (pc' := 360) (J := 1) o_c_point (by decide) (by omega) rfl rfl ?_
  refine TL.arg (i := i) (j := 2) (n := 4) (pc' := 366) (J := 2) o_c_point (by decide) (by omega) rfl rfl ?_
  refine TL.run o_c_point 1 (pc' := 368) (lv' := (llv g b i)) (st' := [.ref (g.1 + 177), .int (xs (i + 2)), .int (xs (i + 1)), .ref g.1]) rfl ?_
  obtain ⟨K, M1, o1, r2, hC, hr, hth, hk0, hA⟩ := ls_point (μ := μ) hl hw (xs (i + 1)) (xs (i + 2))
  refine TL.callW (rest := []) o_c_point hC rfl (lw_in 830 (by decide +kernel) (by decide +kernel)) (lw_in 831 (by decide +kernel) (by decide +kernel)) lw_ini (lw_in 832 (by decide +kernel) (by decide +kernel)) ⟨by decide, by decide⟩ (show (parseMethodDescriptor z_L_point.1.desc).map (fun d => d.parameters.length) = some 4 by decide +kernel) (Nat.le_of_ble_eq_true rfl) (Nat.le_of_ble_eq_true rfl) (Nat.le_of_ble_eq_true rfl) hc hs rfl ?_
  refine TL.run o_c_point 2 (pc' := 374) (lv' := ((6, .int K) :: llv g b i)) (st' := [.ref (g.1 + 170)]) rfl ?_
  refine TL.arg (i := i) (j := 1) (n := 4) (pc' := 379) (J := 1) o_c_point (by decide) (by omega) rfl rfl ?_
  refine TL.arg (i := i) (j := 2) (n := 4) (pc' := 385) (J := 2) o_c_point (by decide) (by omega) rfl rfl ?_
  refine TL.callV o_c_point (c_X7_point g l hl (g.1 + 170) (xs (i + 1)) (xs (i + 2)) (kd7 g) M1 (o1, μ.2.2) r2 hr) (kd7 g) (by decide) fmc7.1 rfl cw_X7_point (lw_in 1311 (by decide +kernel) (by decide +kernel)) pn_X7_point (Nat.le_of_ble_eq_true rfl) (Nat.le_of_ble_eq_true rfl) (Nat.le_of_ble_eq_true rfl) (by omega) (by omega) rfl ?_
  refine TL.run o_c_point 2 (pc' := 392) (lv' := ((7, .int r2.1) :: (6, .int K) :: llv g b i)) (st' := [.ref (g.1 + 170)]) rfl ?_
  refine TL.callV o_c_point (c_X7_thrown g l hl (g.1 + 170) (kd7 g) r2.2 (o1, μ.2.2) _ rfl) (kd7 g) (by decide) fmc7.1 rfl cw_X7_thrown (lw_in 1082 (by decide +kernel) (by decide +kernel)) pn_X7_thrown (Nat.le_of_ble_eq_true rfl) (Nat.le_of_ble_eq_true rfl) (Nat.le_of_ble_eq_true rfl) (by omega) (by omega) rfl ?_
  refine TL.run o_c_point 1 (pc' := 397) (lv' := ((7, .int r2.1) :: (6, .int K) :: llv g b i)) (st' := [.int K, .int (r2.2 (g.1 + 170) 0)]) rfl ?_
  refine TL.ic_eq (tgt := 402) o_c_point hth rfl (by decide) ?_
  refine TL.run o_c_point 1 (pc' := 404) (lv' := ((7, .int r2.1) :: (6, .int K) :: llv g b i)) (st' := [.int K]) rfl ?_
  have fin : TL g l b L xs 419 ((7, .int r2.1) :: (6, .int K) :: llv g b i) [] (r2.2, o1, μ.2.2) (cells + 1) (slots + 6) := by
    refine TL.run o_c_point 1 (pc' := 1501) (lv' := ((7, .int r2.1) :: (6, .int K) :: llv g b i)) (st' := []) rfl ?_
    refine TL.sub (lv' := llv g b i) [2, 3, 4, 5, 6, 7] rfl ?_
    exact kk (r2.2, o1, μ.2.2) hA
  refine TL.if_ne (tgt := 419) o_c_point rfl (by decide) (fun _ => fin) (fun q => ?_)
  refine TL.run o_c_point 2 (pc' := 409) (lv' := ((7, .int r2.1) :: (6, .int K) :: llv g b i)) (st' := [.int 0, .ref (g.1 + 177)]) rfl ?_
  refine TL.lald o_c_point rfl ?_
  refine TL.run o_c_point 3 (pc' := 414) (lv' := ((7, .int r2.1) :: (6, .int K) :: llv g b i)) (st' := [.int (lg_cmp o1 (Int32.toInt64 r2.1))]) rfl ?_
  exact TL.if_eq (tgt := 419) o_c_point rfl (by decide) (fun _ => fin) (fun q2 => absurd (lg_0 (hk0 q)) q2)
def k_c_triangle : List (Nat × Instr × Nat) := [(422, .aload_n 1, 1), (423, .aload_n 0, 1), (424, .iload 5, 2), (426, .iconst 1, 1), (427, .iadd, 1), (428, .iaload, 1), (429, .aload_n 0, 1), (430, .iload 5, 2), (432, .iconst 2, 1), (433, .iadd, 1), (434, .iaload, 1), (435, .ifCond .eq 7, 3), (438, .iconst 1, 1), (439, .goto 4, 3), (442, .iconst 0, 1), (443, .aload_n 0, 1), (444, .iload 5, 2), (446, .iconst 3, 1), (447, .iadd, 1), (448, .iaload, 1), (449, .aload_n 3, 1), (450, .invokestatic 104, 3), (453, .istore 6, 2), (455, .aload_n 2, 1), (456, .aload_n 0, 1), (457, .iload 5, 2), (459, .iconst 1, 1), (460, .iadd, 1), (461, .iaload, 1), (462, .aload_n 0, 1), (463, .iload 5, 2), (465, .iconst 2, 1), (466, .iadd, 1), (467, .iaload, 1), (468, .ifCond .eq 7, 3), (471, .iconst 1, 1), (472, .goto 4, 3), (475, .iconst 0, 1), (476, .aload_n 0, 1), (477, .iload 5, 2), (479, .iconst 3, 1), (480, .iadd, 1), (481, .iaload, 1), (482, .invokevirtual 107, 3), (485, .istore 7, 2), (487, .aload_n 2, 1), (488, .invokevirtual 90, 3), (491, .iload 6, 2), (493, .if_icmp .eq 5, 3), (496, .iconst 0, 1), (497, .ireturn, 1), (498, .iload 6, 2), (500, .ifCond .ne 15, 3), (503, .aload_n 3, 1), (504, .iconst 0, 1), (505, .laload, 1), (506, .iload 7, 2), (508, .i2l, 1), (509, .lcmp, 1), (510, .ifCond .eq 5, 3), (513, .iconst 0, 1), (514, .ireturn, 1), (515, .goto 986, 3)]
theorem o_c_triangle : kd k_c_triangle := (by decide +kernel : ∀ q ∈ k_c_triangle, decode code q.1 = .ok q.2)
set_option maxHeartbeats 4000000 in
set_option maxRecDepth 100000 in
theorem cs_triangle (hl : l.stackTraces = false) (hk6 : k < 600) (hw : wA g.1 μ.1 k) (hi : i + 5 < L) (hc : cells + 1 ≤ 601024) (hs : slots + 6 ≤ 7293033) (kk : ∀ ν : fm_St, wA g.1 ν.1 (k + 1) → TL g l b L xs 1501 (llv g b i) [] ν (cells + 1) (slots + 6)) : TL g l b L xs 422 (llv g b i) [] μ cells slots := by
  refine TL.run o_c_triangle 1 (pc' := 423) (lv' := (llv g b i)) (st' := [.ref g.1]) rfl ?_
  refine TL.arg (i := i) (j := 1) (n := 4) (pc' := 428) (J := 1) o_c_triangle (by decide) (by omega) rfl rfl ?_
  refine TL.arg (i := i) (j := 2) (n := 4) (pc' := 434) (J := 2) o_c_triangle (by decide) (by omega) rfl rfl ?_
  refine TL.flag (tgt := 442) (pcN := 443) o_c_triangle rfl (by decide) rfl rfl ?_
  refine TL.arg (i := i) (j := 3) (n := 4) (pc' := 448) (J := 3) o_c_triangle (by decide) (by omega) rfl rfl ?_
  refine TL.run o_c_triangle 1 (pc' := 450) (lv' := (llv g b i)) (st' := [.ref (g.1 + 177), .int (xs (i + 3)), .int (fl (xs (i + 2))), .int (xs (i + 1)), .ref g.1]) rfl ?_
  obtain ⟨K, M1, o1, r2, hC, hr, hth, hk0, hA⟩ := ls_triangle (μ := μ) hl hw (xs (i + 1)) (fl (xs (i + 2))) (xs (i + 3)) (fl_01 _)
  refine TL.callW (rest := []) o_c_triangle hC rfl (lw_in 835 (by decide +kernel) (by decide +kernel)) (lw_in 836 (by decide +kernel) (by decide +kernel)) lw_ini (lw_in 837 (by decide +kernel) (by decide +kernel)) ⟨by decide, by decide⟩ (show (parseMethodDescriptor z_L_triangle.1.desc).map (fun d => d.parameters.length) = some 5 by decide +kernel) (Nat.le_of_ble_eq_true rfl) (Nat.le_of_ble_eq_true rfl) (Nat.le_of_ble_eq_true rfl) hc hs rfl ?_
  refine TL.run o_c_triangle 2 (pc' := 456) (lv' := ((6, .int K) :: llv g b i)) (st' := [.ref (g.1 + 170)]) rfl ?_
  refine TL.arg (i := i) (j := 1) (n := 4) (pc' := 461) (J := 1) o_c_triangle (by decide) (by omega) rfl rfl ?_
  refine TL.arg (i := i) (j := 2) (n := 4) (pc' := 467) (J := 2) o_c_triangle (by decide) (by omega) rfl rfl ?_
  refine TL.flag (tgt := 475) (pcN := 476) o_c_triangle rfl (by decide) rfl rfl ?_
  refine TL.arg (i := i) (j := 3) (n := 4) (pc' := 481) (J := 3) o_c_triangle (by decide) (by omega) rfl rfl ?_
  refine TL.callV o_c_triangle (c_X7_triangle g l hl (g.1 + 170) (xs (i + 1)) (fl (xs (i + 2))) (xs (i + 3)) (kd7 g) M1 (o1, μ.2.2) r2 hr) (kd7 g) (by decide) fmc7.1 rfl cw_X7_triangle (lw_in 1335 (by decide +kernel) (by decide +kernel)) pn_X7_triangle (Nat.le_of_ble_eq_true rfl) (Nat.le_of_ble_eq_true rfl) (Nat.le_of_ble_eq_true rfl) (by omega) (by omega) rfl ?_
  refine TL.run o_c_triangle 2 (pc' := 488) (lv' := ((7, .int r2.1) :: (6, .int K) :: llv g b i)) (st' := [.ref (g.1 + 170)]) rfl ?_
  refine TL.callV o_c_triangle (c_X7_thrown g l hl (g.1 + 170) (kd7 g) r2.2 (o1, μ.2.2) _ rfl) (kd7 g) (by decide) fmc7.1 rfl cw_X7_thrown (lw_in 1082 (by decide +kernel) (by decide +kernel)) pn_X7_thrown (Nat.le_of_ble_eq_true rfl) (Nat.le_of_ble_eq_true rfl) (Nat.le_of_ble_eq_true rfl) (by omega) (by omega) rfl ?_
  refine TL.run o_c_triangle 1 (pc' := 493) (lv' := ((7, .int r2.1) :: (6, .int K) :: llv g b i)) (st' := [.int K, .int (r2.2 (g.1 + 170) 0)]) rfl ?_
  refine TL.ic_eq (tgt := 498) o_c_triangle hth rfl (by decide) ?_
  refine TL.run o_c_triangle 1 (pc' := 500) (lv' := ((7, .int r2.1) :: (6, .int K) :: llv g b i)) (st' := [.int K]) rfl ?_
  have fin : TL g l b L xs 515 ((7, .int r2.1) :: (6, .int K) :: llv g b i) [] (r2.2, o1, μ.2.2) (cells + 1) (slots + 6) := by
    refine TL.run o_c_triangle 1 (pc' := 1501) (lv' := ((7, .int r2.1) :: (6, .int K) :: llv g b i)) (st' := []) rfl ?_
    refine TL.sub (lv' := llv g b i) [2, 3, 4, 5, 6, 7] rfl ?_
    exact kk (r2.2, o1, μ.2.2) hA
  refine TL.if_ne (tgt := 515) o_c_triangle rfl (by decide) (fun _ => fin) (fun q => ?_)
  refine TL.run o_c_triangle 2 (pc' := 505) (lv' := ((7, .int r2.1) :: (6, .int K) :: llv g b i)) (st' := [.int 0, .ref (g.1 + 177)]) rfl ?_
  refine TL.lald o_c_triangle rfl ?_
  refine TL.run o_c_triangle 3 (pc' := 510) (lv' := ((7, .int r2.1) :: (6, .int K) :: llv g b i)) (st' := [.int (lg_cmp o1 (Int32.toInt64 r2.1))]) rfl ?_
  exact TL.if_eq (tgt := 515) o_c_triangle rfl (by decide) (fun _ => fin) (fun q2 => absurd (lg_0 (hk0 q)) q2)
def k_c_circle : List (Nat × Instr × Nat) := [(518, .aload_n 1, 1), (519, .aload_n 0, 1), (520, .iload 5, 2), (522, .iconst 1, 1), (523, .iadd, 1), (524, .iaload, 1), (525, .aload_n 0, 1), (526, .iload 5, 2), (528, .iconst 2, 1), (529, .iadd, 1), (530, .iaload, 1), (531, .aload_n 0, 1), (532, .iload 5, 2), (534, .iconst 3, 1), (535, .iadd, 1), (536, .iaload, 1), (537, .aload_n 0, 1), (538, .iload 5, 2), (540, .iconst 4, 1), (541, .iadd, 1), (542, .iaload, 1), (543, .aload_n 3, 1), (544, .invokestatic 108, 3), (547, .istore 6, 2), (549, .aload_n 2, 1), (550, .aload_n 0, 1), (551, .iload 5, 2), (553, .iconst 1, 1), (554, .iadd, 1), (555, .iaload, 1), (556, .aload_n 0, 1), (557, .iload 5, 2), (559, .iconst 2, 1), (560, .iadd, 1), (561, .iaload, 1), (562, .aload_n 0, 1), (563, .iload 5, 2), (565, .iconst 3, 1), (566, .iadd, 1), (567, .iaload, 1), (568, .aload_n 0, 1), (569, .iload 5, 2), (571, .iconst 4, 1), (572, .iadd, 1), (573, .iaload, 1), (574, .invokevirtual 111, 3), (577, .istore 7, 2), (579, .aload_n 2, 1), (580, .invokevirtual 90, 3), (583, .iload 6, 2), (585, .if_icmp .eq 5, 3), (588, .iconst 0, 1), (589, .ireturn, 1), (590, .iload 6, 2), (592, .ifCond .ne 15, 3), (595, .aload_n 3, 1), (596, .iconst 0, 1), (597, .laload, 1), (598, .iload 7, 2), (600, .i2l, 1), (601, .lcmp, 1), (602, .ifCond .eq 5, 3), (605, .iconst 0, 1), (606, .ireturn, 1), (607, .goto 894, 3)]
theorem o_c_circle : kd k_c_circle := (by decide +kernel : ∀ q ∈ k_c_circle, decode code q.1 = .ok q.2)
set_option maxHeartbeats 4000000 in
set_option maxRecDepth 100000 in
theorem cs_circle (hl : l.stackTraces = false) (hk6 : k < 600) (hw : wA g.1 μ.1 k) (hi : i + 5 < L) (hc : cells + 1 ≤ 601024) (hs : slots + 6 ≤ 7293033) (kk : ∀ ν : fm_St, wA g.1 ν.1 (k + 1) → TL g l b L xs 1501 (llv g b i) [] ν (cells + 1) (slots + 6)) : TL g l b L xs 518 (llv g b i) [] μ cells slots := by
  refine TL.run o_c_circle 1 (pc' := 519) (lv' := (llv g b i)) (st' := [.ref g.1]) rfl ?_
  refine TL.arg (i := i) (j := 1) (n := 4) (pc' := 524) (J := 1) o_c_circle (by decide) (by omega) rfl rfl ?_
  refine TL.arg (i := i) (j := 2) (n := 4) (pc' := 530) (J := 2) o_c_circle (by decide) (by omega) rfl rfl ?_
  refine TL.arg (i := i) (j := 3) (n := 4) (pc' := 536) (J := 3) o_c_circle (by decide) (by omega) rfl rfl ?_
  refine TL.arg (i := i) (j := 4) (n := 4) (pc' := 542) (J := 4) o_c_circle (by decide) (by omega) rfl rfl ?_
  refine TL.run o_c_circle 1 (pc' := 544) (lv' := (llv g b i)) (st' := [.ref (g.1 + 177), .int (xs (i + 4)), .int (xs (i + 3)), .int (xs (i + 2)), .int (xs (i + 1)), .ref g.1]) rfl ?_
  obtain ⟨K, M1, o1, r2, hC, hr, hth, hk0, hA⟩ := ls_circle (μ := μ) hl hw (xs (i + 1)) (xs (i + 2)) (xs (i + 3)) (xs (i + 4))
  refine TL.callW (rest := []) o_c_circle hC rfl (lw_in 839 (by decide +kernel) (by decide +kernel)) (lw_in 840 (by decide +kernel) (by decide +kernel)) lw_ini (lw_in 841 (by decide +kernel) (by decide +kernel)) ⟨by decide, by decide⟩ (show (parseMethodDescriptor z_L_circle.1.desc).map (fun d => d.parameters.length) = some 6 by decide +kernel) (Nat.le_of_ble_eq_true rfl) (Nat.le_of_ble_eq_true rfl) (Nat.le_of_ble_eq_true rfl) hc hs rfl ?_
  refine TL.run o_c_circle 2 (pc' := 550) (lv' := ((6, .int K) :: llv g b i)) (st' := [.ref (g.1 + 170)]) rfl ?_
  refine TL.arg (i := i) (j := 1) (n := 4) (pc' := 555) (J := 1) o_c_circle (by decide) (by omega) rfl rfl ?_
  refine TL.arg (i := i) (j := 2) (n := 4) (pc' := 561) (J := 2) o_c_circle (by decide) (by omega) rfl rfl ?_
  refine TL.arg (i := i) (j := 3) (n := 4) (pc' := 567) (J := 3) o_c_circle (by decide) (by omega) rfl rfl ?_
  refine TL.arg (i := i) (j := 4) (n := 4) (pc' := 573) (J := 4) o_c_circle (by decide) (by omega) rfl rfl ?_
  refine TL.callV o_c_circle (c_X7_circle g l hl (g.1 + 170) (xs (i + 1)) (xs (i + 2)) (xs (i + 3)) (xs (i + 4)) (kd7 g) M1 (o1, μ.2.2) r2 hr) (kd7 g) (by decide) fmc7.1 rfl cw_X7_circle (lw_in 1358 (by decide +kernel) (by decide +kernel)) pn_X7_circle (Nat.le_of_ble_eq_true rfl) (Nat.le_of_ble_eq_true rfl) (Nat.le_of_ble_eq_true rfl) (by omega) (by omega) rfl ?_
  refine TL.run o_c_circle 2 (pc' := 580) (lv' := ((7, .int r2.1) :: (6, .int K) :: llv g b i)) (st' := [.ref (g.1 + 170)]) rfl ?_
  refine TL.callV o_c_circle (c_X7_thrown g l hl (g.1 + 170) (kd7 g) r2.2 (o1, μ.2.2) _ rfl) (kd7 g) (by decide) fmc7.1 rfl cw_X7_thrown (lw_in 1082 (by decide +kernel) (by decide +kernel)) pn_X7_thrown (Nat.le_of_ble_eq_true rfl) (Nat.le_of_ble_eq_true rfl) (Nat.le_of_ble_eq_true rfl) (by omega) (by omega) rfl ?_
  refine TL.run o_c_circle 1 (pc' := 585) (lv' := ((7, .int r2.1) :: (6, .int K) :: llv g b i)) (st' := [.int K, .int (r2.2 (g.1 + 170) 0)]) rfl ?_
  refine TL.ic_eq (tgt := 590) o_c_circle hth rfl (by decide) ?_
  refine TL.run o_c_circle 1 (pc' := 592) (lv' := ((7, .int r2.1) :: (6, .int K) :: llv g b i)) (st' := [.int K]) rfl ?_
  have fin : TL g l b L xs 607 ((7, .int r2.1) :: (6, .int K) :: llv g b i) [] (r2.2, o1, μ.2.2) (cells + 1) (slots + 6) := by
    refine TL.run o_c_circle 1 (pc' := 1501) (lv' := ((7, .int r2.1) :: (6, .int K) :: llv g b i)) (st' := []) rfl ?_
    refine TL.sub (lv' := llv g b i) [2, 3, 4, 5, 6, 7] rfl ?_
    exact kk (r2.2, o1, μ.2.2) hA
  refine TL.if_ne (tgt := 607) o_c_circle rfl (by decide) (fun _ => fin) (fun q => ?_)
  refine TL.run o_c_circle 2 (pc' := 597) (lv' := ((7, .int r2.1) :: (6, .int K) :: llv g b i)) (st' := [.int 0, .ref (g.1 + 177)]) rfl ?_
  refine TL.lald o_c_circle rfl ?_
  refine TL.run o_c_circle 3 (pc' := 602) (lv' := ((7, .int r2.1) :: (6, .int K) :: llv g b i)) (st' := [.int (lg_cmp o1 (Int32.toInt64 r2.1))]) rfl ?_
  exact TL.if_eq (tgt := 607) o_c_circle rfl (by decide) (fun _ => fin) (fun q2 => absurd (lg_0 (hk0 q)) q2)
def k_c_why : List (Nat × Instr × Nat) := [(610, .aload_n 1, 1), (611, .aload_n 0, 1), (612, .iload 5, 2), (614, .iconst 1, 1), (615, .iadd, 1), (616, .iaload, 1), (617, .aload_n 0, 1), (618, .iload 5, 2), (620, .iconst 2, 1), (621, .iadd, 1), (622, .iaload, 1), (623, .aload_n 3, 1), (624, .invokestatic 112, 3), (627, .istore 6, 2), (629, .aload_n 2, 1), (630, .aload_n 0, 1), (631, .iload 5, 2), (633, .iconst 1, 1), (634, .iadd, 1), (635, .iaload, 1), (636, .aload_n 0, 1), (637, .iload 5, 2), (639, .iconst 2, 1), (640, .iadd, 1), (641, .iaload, 1), (642, .invokevirtual 114, 3), (645, .istore 7, 2), (647, .aload_n 2, 1), (648, .invokevirtual 90, 3), (651, .iload 6, 2), (653, .if_icmp .eq 5, 3), (656, .iconst 0, 1), (657, .ireturn, 1), (658, .iload 6, 2), (660, .ifCond .ne 15, 3), (663, .aload_n 3, 1), (664, .iconst 0, 1), (665, .laload, 1), (666, .iload 7, 2), (668, .i2l, 1), (669, .lcmp, 1), (670, .ifCond .eq 5, 3), (673, .iconst 0, 1), (674, .ireturn, 1), (675, .goto 826, 3)]
theorem o_c_why : kd k_c_why := (by decide +kernel : ∀ q ∈ k_c_why, decode code q.1 = .ok q.2)
set_option maxHeartbeats 4000000 in
set_option maxRecDepth 100000 in
theorem cs_why (hl : l.stackTraces = false) (hk6 : k < 600) (hw : wA g.1 μ.1 k) (hi : i + 5 < L) (hc : cells + 1 ≤ 601024) (hs : slots + 6 ≤ 7293033) (kk : ∀ ν : fm_St, wA g.1 ν.1 (k + 1) → TL g l b L xs 1501 (llv g b i) [] ν (cells + 1) (slots + 6)) : TL g l b L xs 610 (llv g b i) [] μ cells slots := by
  refine TL.run o_c_why 1 (pc' := 611) (lv' := (llv g b i)) (st' := [.ref g.1]) rfl ?_
  refine TL.arg (i := i) (j := 1) (n := 4) (pc' := 616) (J := 1) o_c_why (by decide) (by omega) rfl rfl ?_
  refine TL.arg (i := i) (j := 2) (n := 4) (pc' := 622) (J := 2) o_c_why (by decide) (by omega) rfl rfl ?_
  refine TL.run o_c_why 1 (pc' := 624) (lv' := (llv g b i)) (st' := [.ref (g.1 + 177), .int (xs (i + 2)), .int (xs (i + 1)), .ref g.1]) rfl ?_
  obtain ⟨K, M1, o1, r2, hC, hr, hth, hk0, hA⟩ := ls_why (μ := μ) hl hw (xs (i + 1)) (xs (i + 2))
  refine TL.callW (rest := []) o_c_why hC rfl (lw_in 847 (by decide +kernel) (by decide +kernel)) (lw_in 848 (by decide +kernel) (by decide +kernel)) lw_ini (lw_in 849 (by decide +kernel) (by decide +kernel)) ⟨by decide, by decide⟩ (show (parseMethodDescriptor z_L_why.1.desc).map (fun d => d.parameters.length) = some 4 by decide +kernel) (Nat.le_of_ble_eq_true rfl) (Nat.le_of_ble_eq_true rfl) (Nat.le_of_ble_eq_true rfl) hc hs rfl ?_
  refine TL.run o_c_why 2 (pc' := 630) (lv' := ((6, .int K) :: llv g b i)) (st' := [.ref (g.1 + 170)]) rfl ?_
  refine TL.arg (i := i) (j := 1) (n := 4) (pc' := 635) (J := 1) o_c_why (by decide) (by omega) rfl rfl ?_
  refine TL.arg (i := i) (j := 2) (n := 4) (pc' := 641) (J := 2) o_c_why (by decide) (by omega) rfl rfl ?_
  refine TL.callV o_c_why (c_X7_why g l hl (g.1 + 170) (xs (i + 1)) (xs (i + 2)) (kd7 g) M1 (o1, μ.2.2) r2 hr) (kd7 g) (by decide) fmc7.1 rfl cw_X7_why (lw_in 1362 (by decide +kernel) (by decide +kernel)) pn_X7_why (Nat.le_of_ble_eq_true rfl) (Nat.le_of_ble_eq_true rfl) (Nat.le_of_ble_eq_true rfl) (by omega) (by omega) rfl ?_
  refine TL.run o_c_why 2 (pc' := 648) (lv' := ((7, .int r2.1) :: (6, .int K) :: llv g b i)) (st' := [.ref (g.1 + 170)]) rfl ?_
  refine TL.callV o_c_why (c_X7_thrown g l hl (g.1 + 170) (kd7 g) r2.2 (o1, μ.2.2) _ rfl) (kd7 g) (by decide) fmc7.1 rfl cw_X7_thrown (lw_in 1082 (by decide +kernel) (by decide +kernel)) pn_X7_thrown (Nat.le_of_ble_eq_true rfl) (Nat.le_of_ble_eq_true rfl) (Nat.le_of_ble_eq_true rfl) (by omega) (by omega) rfl ?_
  refine TL.run o_c_why 1 (pc' := 653) (lv' := ((7, .int r2.1) :: (6, .int K) :: llv g b i)) (st' := [.int K, .int (r2.2 (g.1 + 170) 0)]) rfl ?_
  refine TL.ic_eq (tgt := 658) o_c_why hth rfl (by decide) ?_
  refine TL.run o_c_why 1 (pc' := 660) (lv' := ((7, .int r2.1) :: (6, .int K) :: llv g b i)) (st' := [.int K]) rfl ?_
  have fin : TL g l b L xs 675 ((7, .int r2.1) :: (6, .int K) :: llv g b i) [] (r2.2, o1, μ.2.2) (cells + 1) (slots + 6) := by
    refine TL.run o_c_why 1 (pc' := 1501) (lv' := ((7, .int r2.1) :: (6, .int K) :: llv g b i)) (st' := []) rfl ?_
    refine TL.sub (lv' := llv g b i) [2, 3, 4, 5, 6, 7] rfl ?_
    exact kk (r2.2, o1, μ.2.2) hA
  refine TL.if_ne (tgt := 675) o_c_why rfl (by decide) (fun _ => fin) (fun q => ?_)
  refine TL.run o_c_why 2 (pc' := 665) (lv' := ((7, .int r2.1) :: (6, .int K) :: llv g b i)) (st' := [.int 0, .ref (g.1 + 177)]) rfl ?_
  refine TL.lald o_c_why rfl ?_
  refine TL.run o_c_why 3 (pc' := 670) (lv' := ((7, .int r2.1) :: (6, .int K) :: llv g b i)) (st' := [.int (lg_cmp o1 (Int32.toInt64 r2.1))]) rfl ?_
  exact TL.if_eq (tgt := 675) o_c_why rfl (by decide) (fun _ => fin) (fun q2 => absurd (lg_0 (hk0 q)) q2)
def k_c_badEdge : List (Nat × Instr × Nat) := [(678, .aload_n 1, 1), (679, .aload_n 3, 1), (680, .invokestatic 115, 3), (683, .istore 6, 2), (685, .aload_n 2, 1), (686, .invokevirtual 118, 3), (689, .istore 7, 2), (691, .aload_n 2, 1), (692, .invokevirtual 90, 3), (695, .iload 6, 2), (697, .if_icmp .eq 5, 3), (700, .iconst 0, 1), (701, .ireturn, 1), (702, .iload 6, 2), (704, .ifCond .ne 15, 3), (707, .aload_n 3, 1), (708, .iconst 0, 1), (709, .laload, 1), (710, .iload 7, 2), (712, .i2l, 1), (713, .lcmp, 1), (714, .ifCond .eq 5, 3), (717, .iconst 0, 1), (718, .ireturn, 1), (719, .goto 782, 3)]
theorem o_c_badEdge : kd k_c_badEdge := (by decide +kernel : ∀ q ∈ k_c_badEdge, decode code q.1 = .ok q.2)
set_option maxHeartbeats 4000000 in
set_option maxRecDepth 100000 in
theorem cs_badEdge (hl : l.stackTraces = false) (hk6 : k < 600) (hw : wA g.1 μ.1 k) (hi : i + 5 < L) (hc : cells + 1 ≤ 601024) (hs : slots + 6 ≤ 7293033) (kk : ∀ ν : fm_St, wA g.1 ν.1 (k + 1) → TL g l b L xs 1501 (llv g b i) [] ν (cells + 1) (slots + 6)) : TL g l b L xs 678 (llv g b i) [] μ cells slots := by
  refine TL.run o_c_badEdge 1 (pc' := 679) (lv' := (llv g b i)) (st' := [.ref g.1]) rfl ?_
  refine TL.run o_c_badEdge 1 (pc' := 680) (lv' := (llv g b i)) (st' := [.ref (g.1 + 177), .ref g.1]) rfl ?_
  obtain ⟨K, M1, o1, r2, hC, hr, hth, hk0, hA⟩ := ls_badEdge (μ := μ) hl hw
  refine TL.callW (rest := []) o_c_badEdge hC rfl (lw_in 855 (by decide +kernel) (by decide +kernel)) (lw_in 856 (by decide +kernel) (by decide +kernel)) lw_ini (lw_in 857 (by decide +kernel) (by decide +kernel)) ⟨by decide, by decide⟩ (show (parseMethodDescriptor z_L_badEdge.1.desc).map (fun d => d.parameters.length) = some 2 by decide +kernel) (Nat.le_of_ble_eq_true rfl) (Nat.le_of_ble_eq_true rfl) (Nat.le_of_ble_eq_true rfl) hc hs rfl ?_
  refine TL.run o_c_badEdge 2 (pc' := 686) (lv' := ((6, .int K) :: llv g b i)) (st' := [.ref (g.1 + 170)]) rfl ?_
  refine TL.callV o_c_badEdge (c_X7_badEdge g l hl (g.1 + 170) (kd7 g) M1 (o1, μ.2.2) r2 hr) (kd7 g) (by decide) fmc7.1 rfl cw_X7_badEdge (lw_in 1366 (by decide +kernel) (by decide +kernel)) pn_X7_badEdge (Nat.le_of_ble_eq_true rfl) (Nat.le_of_ble_eq_true rfl) (Nat.le_of_ble_eq_true rfl) (by omega) (by omega) rfl ?_
  refine TL.run o_c_badEdge 2 (pc' := 692) (lv' := ((7, .int r2.1) :: (6, .int K) :: llv g b i)) (st' := [.ref (g.1 + 170)]) rfl ?_
  refine TL.callV o_c_badEdge (c_X7_thrown g l hl (g.1 + 170) (kd7 g) r2.2 (o1, μ.2.2) _ rfl) (kd7 g) (by decide) fmc7.1 rfl cw_X7_thrown (lw_in 1082 (by decide +kernel) (by decide +kernel)) pn_X7_thrown (Nat.le_of_ble_eq_true rfl) (Nat.le_of_ble_eq_true rfl) (Nat.le_of_ble_eq_true rfl) (by omega) (by omega) rfl ?_
  refine TL.run o_c_badEdge 1 (pc' := 697) (lv' := ((7, .int r2.1) :: (6, .int K) :: llv g b i)) (st' := [.int K, .int (r2.2 (g.1 + 170) 0)]) rfl ?_
  refine TL.ic_eq (tgt := 702) o_c_badEdge hth rfl (by decide) ?_
  refine TL.run o_c_badEdge 1 (pc' := 704) (lv' := ((7, .int r2.1) :: (6, .int K) :: llv g b i)) (st' := [.int K]) rfl ?_
  have fin : TL g l b L xs 719 ((7, .int r2.1) :: (6, .int K) :: llv g b i) [] (r2.2, o1, μ.2.2) (cells + 1) (slots + 6) := by
    refine TL.run o_c_badEdge 1 (pc' := 1501) (lv' := ((7, .int r2.1) :: (6, .int K) :: llv g b i)) (st' := []) rfl ?_
    refine TL.sub (lv' := llv g b i) [2, 3, 4, 5, 6, 7] rfl ?_
    exact kk (r2.2, o1, μ.2.2) hA
  refine TL.if_ne (tgt := 719) o_c_badEdge rfl (by decide) (fun _ => fin) (fun q => ?_)
  refine TL.run o_c_badEdge 2 (pc' := 709) (lv' := ((7, .int r2.1) :: (6, .int K) :: llv g b i)) (st' := [.int 0, .ref (g.1 + 177)]) rfl ?_
  refine TL.lald o_c_badEdge rfl ?_
  refine TL.run o_c_badEdge 3 (pc' := 714) (lv' := ((7, .int r2.1) :: (6, .int K) :: llv g b i)) (st' := [.int (lg_cmp o1 (Int32.toInt64 r2.1))]) rfl ?_
  exact TL.if_eq (tgt := 719) o_c_badEdge rfl (by decide) (fun _ => fin) (fun q2 => absurd (lg_0 (hk0 q)) q2)
def k_c_at : List (Nat × Instr × Nat) := [(722, .aload_n 1, 1), (723, .aload_n 0, 1), (724, .iload 5, 2), (726, .iconst 1, 1), (727, .iadd, 1), (728, .iaload, 1), (729, .aload_n 0, 1), (730, .iload 5, 2), (732, .iconst 2, 1), (733, .iadd, 1), (734, .iaload, 1), (735, .aload_n 3, 1), (736, .invokestatic 119, 3), (739, .istore 6, 2), (741, .aload_n 2, 1), (742, .aload_n 0, 1), (743, .iload 5, 2), (745, .iconst 1, 1), (746, .iadd, 1), (747, .iaload, 1), (748, .aload_n 0, 1), (749, .iload 5, 2), (751, .iconst 2, 1), (752, .iadd, 1), (753, .iaload, 1), (754, .invokevirtual 121, 3), (757, .istore 7, 2), (759, .aload_n 2, 1), (760, .invokevirtual 90, 3), (763, .iload 6, 2), (765, .if_icmp .eq 5, 3), (768, .iconst 0, 1), (769, .ireturn, 1), (770, .iload 6, 2), (772, .ifCond .ne 15, 3), (775, .aload_n 3, 1), (776, .iconst 0, 1), (777, .laload, 1), (778, .iload 7, 2), (780, .i2l, 1), (781, .lcmp, 1), (782, .ifCond .eq 5, 3), (785, .iconst 0, 1), (786, .ireturn, 1), (787, .goto 714, 3)]
theorem o_c_at : kd k_c_at := (by decide +kernel : ∀ q ∈ k_c_at, decode code q.1 = .ok q.2)
set_option maxHeartbeats 4000000 in
set_option maxRecDepth 100000 in
theorem cs_at (hl : l.stackTraces = false) (hk6 : k < 600) (hw : wA g.1 μ.1 k) (hi : i + 5 < L) (hc : cells + 1 ≤ 601024) (hs : slots + 6 ≤ 7293033) (kk : ∀ ν : fm_St, wA g.1 ν.1 (k + 1) → TL g l b L xs 1501 (llv g b i) [] ν (cells + 1) (slots + 6)) : TL g l b L xs 722 (llv g b i) [] μ cells slots := by
  refine TL.run o_c_at 1 (pc' := 723) (lv' := (llv g b i)) (st' := [.ref g.1]) rfl ?_
  refine TL.arg (i := i) (j := 1) (n := 4) (pc' := 728) (J := 1) o_c_at (by decide) (by omega) rfl rfl ?_
  refine TL.arg (i := i) (j := 2) (n := 4) (pc' := 734) (J := 2) o_c_at (by decide) (by omega) rfl rfl ?_
  refine TL.run o_c_at 1 (pc' := 736) (lv' := (llv g b i)) (st' := [.ref (g.1 + 177), .int (xs (i + 2)), .int (xs (i + 1)), .ref g.1]) rfl ?_
  obtain ⟨K, M1, o1, r2, hC, hr, hth, hk0, hA⟩ := ls_at (μ := μ) hl hw (xs (i + 1)) (xs (i + 2))
  refine TL.callW (rest := []) o_c_at hC rfl (lw_in 882 (by decide +kernel) (by decide +kernel)) (lw_in 883 (by decide +kernel) (by decide +kernel)) lw_ini (lw_in 884 (by decide +kernel) (by decide +kernel)) ⟨by decide, by decide⟩ (show (parseMethodDescriptor z_L_at.1.desc).map (fun d => d.parameters.length) = some 4 by decide +kernel) (Nat.le_of_ble_eq_true rfl) (Nat.le_of_ble_eq_true rfl) (Nat.le_of_ble_eq_true rfl) hc hs rfl ?_
  refine TL.run o_c_at 2 (pc' := 742) (lv' := ((6, .int K) :: llv g b i)) (st' := [.ref (g.1 + 170)]) rfl ?_
  refine TL.arg (i := i) (j := 1) (n := 4) (pc' := 747) (J := 1) o_c_at (by decide) (by omega) rfl rfl ?_
  refine TL.arg (i := i) (j := 2) (n := 4) (pc' := 753) (J := 2) o_c_at (by decide) (by omega) rfl rfl ?_
  refine TL.callV o_c_at (c_X7_at g l hl (g.1 + 170) (xs (i + 1)) (xs (i + 2)) (kd7 g) M1 (o1, μ.2.2) r2 hr) (kd7 g) (by decide) fmc7.1 rfl cw_X7_at (lw_in 1374 (by decide +kernel) (by decide +kernel)) pn_X7_at (Nat.le_of_ble_eq_true rfl) (Nat.le_of_ble_eq_true rfl) (Nat.le_of_ble_eq_true rfl) (by omega) (by omega) rfl ?_
  refine TL.run o_c_at 2 (pc' := 760) (lv' := ((7, .int r2.1) :: (6, .int K) :: llv g b i)) (st' := [.ref (g.1 + 170)]) rfl ?_
  refine TL.callV o_c_at (c_X7_thrown g l hl (g.1 + 170) (kd7 g) r2.2 (o1, μ.2.2) _ rfl) (kd7 g) (by decide) fmc7.1 rfl cw_X7_thrown (lw_in 1082 (by decide +kernel) (by decide +kernel)) pn_X7_thrown (Nat.le_of_ble_eq_true rfl) (Nat.le_of_ble_eq_true rfl) (Nat.le_of_ble_eq_true rfl) (by omega) (by omega) rfl ?_
  refine TL.run o_c_at 1 (pc' := 765) (lv' := ((7, .int r2.1) :: (6, .int K) :: llv g b i)) (st' := [.int K, .int (r2.2 (g.1 + 170) 0)]) rfl ?_
  refine TL.ic_eq (tgt := 770) o_c_at hth rfl (by decide) ?_
  refine TL.run o_c_at 1 (pc' := 772) (lv' := ((7, .int r2.1) :: (6, .int K) :: llv g b i)) (st' := [.int K]) rfl ?_
  have fin : TL g l b L xs 787 ((7, .int r2.1) :: (6, .int K) :: llv g b i) [] (r2.2, o1, μ.2.2) (cells + 1) (slots + 6) := by
    refine TL.run o_c_at 1 (pc' := 1501) (lv' := ((7, .int r2.1) :: (6, .int K) :: llv g b i)) (st' := []) rfl ?_
    refine TL.sub (lv' := llv g b i) [2, 3, 4, 5, 6, 7] rfl ?_
    exact kk (r2.2, o1, μ.2.2) hA
  refine TL.if_ne (tgt := 787) o_c_at rfl (by decide) (fun _ => fin) (fun q => ?_)
  refine TL.run o_c_at 2 (pc' := 777) (lv' := ((7, .int r2.1) :: (6, .int K) :: llv g b i)) (st' := [.int 0, .ref (g.1 + 177)]) rfl ?_
  refine TL.lald o_c_at rfl ?_
  refine TL.run o_c_at 3 (pc' := 782) (lv' := ((7, .int r2.1) :: (6, .int K) :: llv g b i)) (st' := [.int (lg_cmp o1 (Int32.toInt64 r2.1))]) rfl ?_
  exact TL.if_eq (tgt := 787) o_c_at rfl (by decide) (fun _ => fin) (fun q2 => absurd (lg_0 (hk0 q)) q2)
def k_c_hit : List (Nat × Instr × Nat) := [(790, .aload_n 1, 1), (791, .aload_n 0, 1), (792, .iload 5, 2), (794, .iconst 1, 1), (795, .iadd, 1), (796, .iaload, 1), (797, .aload_n 0, 1), (798, .iload 5, 2), (800, .iconst 2, 1), (801, .iadd, 1), (802, .iaload, 1), (803, .aload_n 3, 1), (804, .invokestatic 122, 3), (807, .istore 6, 2), (809, .aload_n 2, 1), (810, .aload_n 0, 1), (811, .iload 5, 2), (813, .iconst 1, 1), (814, .iadd, 1), (815, .iaload, 1), (816, .aload_n 0, 1), (817, .iload 5, 2), (819, .iconst 2, 1), (820, .iadd, 1), (821, .iaload, 1), (822, .invokevirtual 124, 3), (825, .istore 7, 2), (827, .aload_n 2, 1), (828, .invokevirtual 90, 3), (831, .iload 6, 2), (833, .if_icmp .eq 5, 3), (836, .iconst 0, 1), (837, .ireturn, 1), (838, .iload 6, 2), (840, .ifCond .ne 15, 3), (843, .aload_n 3, 1), (844, .iconst 0, 1), (845, .laload, 1), (846, .iload 7, 2), (848, .i2l, 1), (849, .lcmp, 1), (850, .ifCond .eq 5, 3), (853, .iconst 0, 1), (854, .ireturn, 1), (855, .goto 646, 3)]
theorem o_c_hit : kd k_c_hit := (by decide +kernel : ∀ q ∈ k_c_hit, decode code q.1 = .ok q.2)
set_option maxHeartbeats 4000000 in
set_option maxRecDepth 100000 in
theorem cs_hit (hl : l.stackTraces = false) (hk6 : k < 600) (hw : wA g.1 μ.1 k) (hi : i + 5 < L) (hc : cells + 1 ≤ 601024) (hs : slots + 6 ≤ 7293033) (kk : ∀ ν : fm_St, wA g.1 ν.1 (k + 1) → TL g l b L xs 1501 (llv g b i) [] ν (cells + 1) (slots + 6)) : TL g l b L xs 790 (llv g b i) [] μ cells slots := by
  refine TL.run o_c_hit 1 (pc' := 791) (lv' := (llv g b i)) (st' := [.ref g.1]) rfl ?_
  refine TL.arg (i := i) (j := 1) (n := 4) (pc' := 796) (J := 1) o_c_hit (by decide) (by omega) rfl rfl ?_
  refine TL.arg (i := i) (j := 2) (n := 4) (pc' := 802) (J := 2) o_c_hit (by decide) (by omega) rfl rfl ?_
  refine TL.run o_c_hit 1 (pc' := 804) (lv' := (llv g b i)) (st' := [.ref (g.1 + 177), .int (xs (i + 2)), .int (xs (i + 1)), .ref g.1]) rfl ?_
  obtain ⟨K, M1, o1, r2, hC, hr, hth, hk0, hA⟩ := ls_hit (μ := μ) hl hw (xs (i + 1)) (xs (i + 2))
  refine TL.callW (rest := []) o_c_hit hC rfl (lw_in 901 (by decide +kernel) (by decide +kernel)) (lw_in 902 (by decide +kernel) (by decide +kernel)) lw_ini (lw_in 903 (by decide +kernel) (by decide +kernel)) ⟨by decide, by decide⟩ (show (parseMethodDescriptor z_L_hit.1.desc).map (fun d => d.parameters.length) = some 4 by decide +kernel) (Nat.le_of_ble_eq_true rfl) (Nat.le_of_ble_eq_true rfl) (Nat.le_of_ble_eq_true rfl) hc hs rfl ?_
  refine TL.run o_c_hit 2 (pc' := 810) (lv' := ((6, .int K) :: llv g b i)) (st' := [.ref (g.1 + 170)]) rfl ?_
  refine TL.arg (i := i) (j := 1) (n := 4) (pc' := 815) (J := 1) o_c_hit (by decide) (by omega) rfl rfl ?_
  refine TL.arg (i := i) (j := 2) (n := 4) (pc' := 821) (J := 2) o_c_hit (by decide) (by omega) rfl rfl ?_
  refine TL.callV o_c_hit (c_X7_hit g l hl (g.1 + 170) (xs (i + 1)) (xs (i + 2)) (kd7 g) M1 (o1, μ.2.2) r2 hr) (kd7 g) (by decide) fmc7.1 rfl cw_X7_hit (lw_in 1382 (by decide +kernel) (by decide +kernel)) pn_X7_hit (Nat.le_of_ble_eq_true rfl) (Nat.le_of_ble_eq_true rfl) (Nat.le_of_ble_eq_true rfl) (by omega) (by omega) rfl ?_
  refine TL.run o_c_hit 2 (pc' := 828) (lv' := ((7, .int r2.1) :: (6, .int K) :: llv g b i)) (st' := [.ref (g.1 + 170)]) rfl ?_
  refine TL.callV o_c_hit (c_X7_thrown g l hl (g.1 + 170) (kd7 g) r2.2 (o1, μ.2.2) _ rfl) (kd7 g) (by decide) fmc7.1 rfl cw_X7_thrown (lw_in 1082 (by decide +kernel) (by decide +kernel)) pn_X7_thrown (Nat.le_of_ble_eq_true rfl) (Nat.le_of_ble_eq_true rfl) (Nat.le_of_ble_eq_true rfl) (by omega) (by omega) rfl ?_
  refine TL.run o_c_hit 1 (pc' := 833) (lv' := ((7, .int r2.1) :: (6, .int K) :: llv g b i)) (st' := [.int K, .int (r2.2 (g.1 + 170) 0)]) rfl ?_
  refine TL.ic_eq (tgt := 838) o_c_hit hth rfl (by decide) ?_
  refine TL.run o_c_hit 1 (pc' := 840) (lv' := ((7, .int r2.1) :: (6, .int K) :: llv g b i)) (st' := [.int K]) rfl ?_
  have fin : TL g l b L xs 855 ((7, .int r2.1) :: (6, .int K) :: llv g b i) [] (r2.2, o1, μ.2.2) (cells + 1) (slots + 6) := by
    refine TL.run o_c_hit 1 (pc' := 1501) (lv' := ((7, .int r2.1) :: (6, .int K) :: llv g b i)) (st' := []) rfl ?_
    refine TL.sub (lv' := llv g b i) [2, 3, 4, 5, 6, 7] rfl ?_
    exact kk (r2.2, o1, μ.2.2) hA
  refine TL.if_ne (tgt := 855) o_c_hit rfl (by decide) (fun _ => fin) (fun q => ?_)
  refine TL.run o_c_hit 2 (pc' := 845) (lv' := ((7, .int r2.1) :: (6, .int K) :: llv g b i)) (st' := [.int 0, .ref (g.1 + 177)]) rfl ?_
  refine TL.lald o_c_hit rfl ?_
  refine TL.run o_c_hit 3 (pc' := 850) (lv' := ((7, .int r2.1) :: (6, .int K) :: llv g b i)) (st' := [.int (lg_cmp o1 (Int32.toInt64 r2.1))]) rfl ?_
  exact TL.if_eq (tgt := 855) o_c_hit rfl (by decide) (fun _ => fin) (fun q2 => absurd (lg_0 (hk0 q)) q2)
def k_c_corner : List (Nat × Instr × Nat) := [(858, .aload_n 1, 1), (859, .aload_n 0, 1), (860, .iload 5, 2), (862, .iconst 1, 1), (863, .iadd, 1), (864, .iaload, 1), (865, .aload_n 3, 1), (866, .invokestatic 125, 3), (869, .istore 6, 2), (871, .aload_n 2, 1), (872, .aload_n 0, 1), (873, .iload 5, 2), (875, .iconst 1, 1), (876, .iadd, 1), (877, .iaload, 1), (878, .invokevirtual 127, 3), (881, .istore 7, 2), (883, .aload_n 2, 1), (884, .invokevirtual 90, 3), (887, .iload 6, 2), (889, .if_icmp .eq 5, 3), (892, .iconst 0, 1), (893, .ireturn, 1), (894, .iload 6, 2), (896, .ifCond .ne 15, 3), (899, .aload_n 3, 1), (900, .iconst 0, 1), (901, .laload, 1), (902, .iload 7, 2), (904, .i2l, 1), (905, .lcmp, 1), (906, .ifCond .eq 5, 3), (909, .iconst 0, 1), (910, .ireturn, 1), (911, .goto 590, 3)]
theorem o_c_corner : kd k_c_corner := (by decide +kernel : ∀ q ∈ k_c_corner, decode code q.1 = .ok q.2)
set_option maxHeartbeats 4000000 in
set_option maxRecDepth 100000 in
theorem cs_corner (hl : l.stackTraces = false) (hk6 : k < 600) (hw : wA g.1 μ.1 k) (hi : i + 5 < L) (hc : cells + 1 ≤ 601024) (hs : slots + 6 ≤ 7293033) (kk : ∀ ν : fm_St, wA g.1 ν.1 (k + 1) → TL g l b L xs 1501 (llv g b i) [] ν (cells + 1) (slots + 6)) : TL g l b L xs 858 (llv g b i) [] μ cells slots := by
  refine TL.run o_c_corner 1 (pc' := 859) (lv' := (llv g b i)) (st' := [.ref g.1]) rfl ?_
  refine TL.arg (i := i) (j := 1) (n := 4) (pc' := 864) (J := 1) o_c_corner (by decide) (by omega) rfl rfl ?_
  refine TL.run o_c_corner 1 (pc' := 866) (lv' := (llv g b i)) (st' := [.ref (g.1 + 177), .int (xs (i + 1)), .ref g.1]) rfl ?_
  obtain ⟨K, M1, o1, r2, hC, hr, hth, hk0, hA⟩ := ls_corner (μ := μ) hl hw (xs (i + 1))
  refine TL.callW (rest := []) o_c_corner hC rfl (lw_in 908 (by decide +kernel) (by decide +kernel)) (lw_in 909 (by decide +kernel) (by decide +kernel)) lw_ini (lw_in 910 (by decide +kernel) (by decide +kernel)) ⟨by decide, by decide⟩ (show (parseMethodDescriptor z_L_corner.1.desc).map (fun d => d.parameters.length) = some 3 by decide +kernel) (Nat.le_of_ble_eq_true rfl) (Nat.le_of_ble_eq_true rfl) (Nat.le_of_ble_eq_true rfl) hc hs rfl ?_
  refine TL.run o_c_corner 2 (pc' := 872) (lv' := ((6, .int K) :: llv g b i)) (st' := [.ref (g.1 + 170)]) rfl ?_
  refine TL.arg (i := i) (j := 1) (n := 4) (pc' := 877) (J := 1) o_c_corner (by decide) (by omega) rfl rfl ?_
  refine TL.callV o_c_corner (c_X7_corner g l hl (g.1 + 170) (xs (i + 1)) (kd7 g) M1 (o1, μ.2.2) r2 hr) (kd7 g) (by decide) fmc7.1 rfl cw_X7_corner (lw_in 1386 (by decide +kernel) (by decide +kernel)) pn_X7_corner (Nat.le_of_ble_eq_true rfl) (Nat.le_of_ble_eq_true rfl) (Nat.le_of_ble_eq_true rfl) (by omega) (by omega) rfl ?_
  refine TL.run o_c_corner 2 (pc' := 884) (lv' := ((7, .int r2.1) :: (6, .int K) :: llv g b i)) (st' := [.ref (g.1 + 170)]) rfl ?_
  refine TL.callV o_c_corner (c_X7_thrown g l hl (g.1 + 170) (kd7 g) r2.2 (o1, μ.2.2) _ rfl) (kd7 g) (by decide) fmc7.1 rfl cw_X7_thrown (lw_in 1082 (by decide +kernel) (by decide +kernel)) pn_X7_thrown (Nat.le_of_ble_eq_true rfl) (Nat.le_of_ble_eq_true rfl) (Nat.le_of_ble_eq_true rfl) (by omega) (by omega) rfl ?_
  refine TL.run o_c_corner 1 (pc' := 889) (lv' := ((7, .int r2.1) :: (6, .int K) :: llv g b i)) (st' := [.int K, .int (r2.2 (g.1 + 170) 0)]) rfl ?_
  refine TL.ic_eq (tgt := 894) o_c_corner hth rfl (by decide) ?_
  refine TL.run o_c_corner 1 (pc' := 896) (lv' := ((7, .int r2.1) :: (6, .int K) :: llv g b i)) (st' := [.int K]) rfl ?_
  have fin : TL g l b L xs 911 ((7, .int r2.1) :: (6, .int K) :: llv g b i) [] (r2.2, o1, μ.2.2) (cells + 1) (slots + 6) := by
    refine TL.run o_c_corner 1 (pc' := 1501) (lv' := ((7, .int r2.1) :: (6, .int K) :: llv g b i)) (st' := []) rfl ?_
    refine TL.sub (lv' := llv g b i) [2, 3, 4, 5, 6, 7] rfl ?_
    exact kk (r2.2, o1, μ.2.2) hA
  refine TL.if_ne (tgt := 911) o_c_corner rfl (by decide) (fun _ => fin) (fun q => ?_)
  refine TL.run o_c_corner 2 (pc' := 901) (lv' := ((7, .int r2.1) :: (6, .int K) :: llv g b i)) (st' := [.int 0, .ref (g.1 + 177)]) rfl ?_
  refine TL.lald o_c_corner rfl ?_
  refine TL.run o_c_corner 3 (pc' := 906) (lv' := ((7, .int r2.1) :: (6, .int K) :: llv g b i)) (st' := [.int (lg_cmp o1 (Int32.toInt64 r2.1))]) rfl ?_
  exact TL.if_eq (tgt := 911) o_c_corner rfl (by decide) (fun _ => fin) (fun q2 => absurd (lg_0 (hk0 q)) q2)
def k_c_lift : List (Nat × Instr × Nat) := [(914, .aload_n 1, 1), (915, .invokevirtual 128, 3), (918, .aload_n 2, 1), (919, .invokevirtual 132, 3), (922, .lcmp, 1), (923, .ifCond .eq 578, 3), (926, .iconst 0, 1), (927, .ireturn, 1)]
theorem o_c_lift : kd k_c_lift := (by decide +kernel : ∀ q ∈ k_c_lift, decode code q.1 = .ok q.2)
set_option maxHeartbeats 4000000 in
set_option maxRecDepth 100000 in
theorem cs_lift (hl : l.stackTraces = false) (hk6 : k < 600) (hw : wA g.1 μ.1 k) (hi : i + 5 < L) (hc : cells + 1 ≤ 601024) (hs : slots + 6 ≤ 7293033) (kk : ∀ ν : fm_St, wA g.1 ν.1 (k + 1) → TL g l b L xs 1501 (llv g b i) [] ν (cells + 1) (slots + 6)) : TL g l b L xs 914 (llv g b i) [] μ cells slots := by
  refine TL.run o_c_lift 1 (pc' := 915) (lv' := (llv g b i)) (st' := [.ref g.1]) rfl ?_
  obtain ⟨x, M1, r2, hC, hr, hx, hA⟩ := ln_lift (μ := μ) hl hw
  refine TL.callV o_c_lift (hC) (kd6 g) (by decide) fmc6.1 rfl cw_X6_lift (lw_in 309 (by decide +kernel) (by decide +kernel)) pn_X6_lift (Nat.le_of_ble_eq_true rfl) (Nat.le_of_ble_eq_true rfl) (Nat.le_of_ble_eq_true rfl) (by omega) (by omega) rfl ?_
  refine TL.run o_c_lift 1 (pc' := 919) (lv' := (llv g b i)) (st' := [.ref (g.1 + 170), .long x]) rfl ?_
  refine TL.callV o_c_lift (c_X7_lift g l hl (g.1 + 170) (kd7 g) M1 μ.2 r2 hr) (kd7 g) (by decide) fmc7.1 rfl cw_X7_lift (lw_in 1394 (by decide +kernel) (by decide +kernel)) pn_X7_lift (Nat.le_of_ble_eq_true rfl) (Nat.le_of_ble_eq_true rfl) (Nat.le_of_ble_eq_true rfl) (by omega) (by omega) rfl ?_
  refine TL.run o_c_lift 1 (pc' := 923) (lv' := (llv g b i)) (st' := [.int (lg_cmp x r2.1)]) rfl ?_
  exact TL.if_eq (tgt := 1501) o_c_lift rfl (by decide) (fun _ => TL.widen (Nat.le_succ _) (Nat.le_add_right _ _) (kk (r2.2, μ.2) hA)) (fun q => absurd (lg_0 hx.symm) q)
def k_c_tree : List (Nat × Instr × Nat) := [(928, .aload_n 1, 1), (929, .invokevirtual 133, 3), (932, .aload_n 2, 1), (933, .invokevirtual 136, 3), (936, .lcmp, 1), (937, .ifCond .eq 564, 3), (940, .iconst 0, 1), (941, .ireturn, 1)]
theorem o_c_tree : kd k_c_tree := (by decide +kernel : ∀ q ∈ k_c_tree, decode code q.1 = .ok q.2)
set_option maxHeartbeats 4000000 in
set_option maxRecDepth 100000 in
theorem cs_tree (hl : l.stackTraces = false) (hk6 : k < 600) (hw : wA g.1 μ.1 k) (hi : i + 5 < L) (hc : cells + 1 ≤ 601024) (hs : slots + 6 ≤ 7293033) (kk : ∀ ν : fm_St, wA g.1 ν.1 (k + 1) → TL g l b L xs 1501 (llv g b i) [] ν (cells + 1) (slots + 6)) : TL g l b L xs 928 (llv g b i) [] μ cells slots := by
  refine TL.run o_c_tree 1 (pc' := 929) (lv' := (llv g b i)) (st' := [.ref g.1]) rfl ?_
  obtain ⟨x, M1, r2, hC, hr, hx, hA⟩ := ln_tree (μ := μ) hl hw
  refine TL.callV o_c_tree (hC) (kd6 g) (by decide) fmc6.1 rfl cw_X6_tree (lw_in 348 (by decide +kernel) (by decide +kernel)) pn_X6_tree (Nat.le_of_ble_eq_true rfl) (Nat.le_of_ble_eq_true rfl) (Nat.le_of_ble_eq_true rfl) (by omega) (by omega) rfl ?_
  refine TL.run o_c_tree 1 (pc' := 933) (lv' := (llv g b i)) (st' := [.ref (g.1 + 170), .long x]) rfl ?_
  refine TL.callV o_c_tree (c_X7_tree g l hl (g.1 + 170) (kd7 g) M1 μ.2 r2 hr) (kd7 g) (by decide) fmc7.1 rfl cw_X7_tree (lw_in 1406 (by decide +kernel) (by decide +kernel)) pn_X7_tree (Nat.le_of_ble_eq_true rfl) (Nat.le_of_ble_eq_true rfl) (Nat.le_of_ble_eq_true rfl) (by omega) (by omega) rfl ?_
  refine TL.run o_c_tree 1 (pc' := 937) (lv' := (llv g b i)) (st' := [.int (lg_cmp x r2.1)]) rfl ?_
  exact TL.if_eq (tgt := 1501) o_c_tree rfl (by decide) (fun _ => TL.widen (Nat.le_succ _) (Nat.le_add_right _ _) (kk (r2.2, μ.2) hA)) (fun q => absurd (lg_0 hx.symm) q)
def k_c_centre : List (Nat × Instr × Nat) := [(942, .aload_n 1, 1), (943, .aload_n 0, 1), (944, .iload 5, 2), (946, .iconst 1, 1), (947, .iadd, 1), (948, .iaload, 1), (949, .aload_n 0, 1), (950, .iload 5, 2), (952, .iconst 2, 1), (953, .iadd, 1), (954, .iaload, 1), (955, .ifCond .eq 7, 3), (958, .iconst 1, 1), (959, .goto 4, 3), (962, .iconst 0, 1), (963, .aload 4, 2), (965, .invokestatic 137, 3), (968, .istore 6, 2), (970, .aload_n 2, 1), (971, .aload_n 0, 1), (972, .iload 5, 2), (974, .iconst 1, 1), (975, .iadd, 1), (976, .iaload, 1), (977, .aload_n 0, 1), (978, .iload 5, 2), (980, .iconst 2, 1), (981, .iadd, 1), (982, .iaload, 1), (983, .ifCond .eq 7, 3), (986, .iconst 1, 1), (987, .goto 4, 3), (990, .iconst 0, 1), (991, .invokevirtual 140, 3), (994, .dstore 7, 2), (996, .aload_n 2, 1), (997, .invokevirtual 90, 3), (1000, .iload 6, 2), (1002, .if_icmp .eq 5, 3), (1005, .iconst 0, 1), (1006, .ireturn, 1), (1007, .iload 6, 2), (1009, .ifCond .ne 35, 3), (1012, .aload 4, 2), (1014, .iconst 0, 1), (1015, .daload, 1), (1016, .dload 7, 2), (1018, .dcmp .l, 1), (1019, .ifCond .eq 25, 3), (1022, .aload 4, 2), (1024, .iconst 0, 1), (1025, .daload, 1), (1026, .aload 4, 2), (1028, .iconst 0, 1), (1029, .daload, 1), (1030, .dcmp .l, 1), (1031, .ifCond .eq 11, 3), (1034, .dload 7, 2), (1036, .dload 7, 2), (1038, .dcmp .l, 1), (1039, .ifCond .ne 5, 3), (1042, .iconst 0, 1), (1043, .ireturn, 1), (1044, .goto 457, 3)]
theorem o_c_centre : kd k_c_centre := (by decide +kernel : ∀ q ∈ k_c_centre, decode code q.1 = .ok q.2)
set_option maxHeartbeats 4000000 in
set_option maxRecDepth 100000 in
theorem cs_centre (hl : l.stackTraces = false) (hk6 : k < 600) (hw : wA g.1 μ.1 k) (hi : i + 5 < L) (hc : cells + 1 ≤ 601024) (hs : slots + 6 ≤ 7293033) (kk : ∀ ν : fm_St, wA g.1 ν.1 (k + 1) → TL g l b L xs 1501 (llv g b i) [] ν (cells + 1) (slots + 6)) : TL g l b L xs 942 (llv g b i) [] μ cells slots := by
  refine TL.run o_c_centre 1 (pc' := 943) (lv' := (llv g b i)) (st' := [.ref g.1]) rfl ?_
  refine TL.arg (i := i) (j := 1) (n := 4) (pc' := 948) (J := 1) o_c_centre (by decide) (by omega) rfl rfl ?_
  refine TL.arg (i := i) (j := 2) (n := 4) (pc' := 954) (J := 2) o_c_centre (by decide) (by omega) rfl rfl ?_
  refine TL.flag (tgt := 962) (pcN := 963) o_c_centre rfl (by decide) rfl rfl ?_
  refine TL.run o_c_centre 1 (pc' := 965) (lv' := (llv g b i)) (st' := [.ref (g.1 + 178), .int (fl (xs (i + 2))), .int (xs (i + 1)), .ref g.1]) rfl ?_
  obtain ⟨K, M1, o1, r2, hC, hr, hth, hk0, hA⟩ := ls_centre (μ := μ) hl hw (xs (i + 1)) (fl (xs (i + 2))) (fl_01 _)
  refine TL.callW (rest := []) o_c_centre hC rfl (lw_in 919 (by decide +kernel) (by decide +kernel)) (lw_in 920 (by decide +kernel) (by decide +kernel)) lw_ini (lw_in 921 (by decide +kernel) (by decide +kernel)) ⟨by decide, by decide⟩ (show (parseMethodDescriptor z_L_centre.1.desc).map (fun d => d.parameters.length) = some 4 by decide +kernel) (Nat.le_of_ble_eq_true rfl) (Nat.le_of_ble_eq_true rfl) (Nat.le_of_ble_eq_true rfl) hc hs rfl ?_
  refine TL.run o_c_centre 2 (pc' := 971) (lv' := ((6, .int K) :: llv g b i)) (st' := [.ref (g.1 + 170)]) rfl ?_
  refine TL.arg (i := i) (j := 1) (n := 4) (pc' := 976) (J := 1) o_c_centre (by decide) (by omega) rfl rfl ?_
  refine TL.arg (i := i) (j := 2) (n := 4) (pc' := 982) (J := 2) o_c_centre (by decide) (by omega) rfl rfl ?_
  refine TL.flag (tgt := 990) (pcN := 991) o_c_centre rfl (by decide) rfl rfl ?_
  refine TL.callV o_c_centre (c_X7_centre g l hl (g.1 + 170) (xs (i + 1)) (fl (xs (i + 2))) (kd7 g) M1 (μ.2.1, o1) r2 hr) (kd7 g) (by decide) fmc7.1 rfl cw_X7_centre (lw_in 1414 (by decide +kernel) (by decide +kernel)) pn_X7_centre (Nat.le_of_ble_eq_true rfl) (Nat.le_of_ble_eq_true rfl) (Nat.le_of_ble_eq_true rfl) (by omega) (by omega) rfl ?_
  refine TL.run o_c_centre 2 (pc' := 997) (lv' := ((7, .double r2.1) :: (6, .int K) :: llv g b i)) (st' := [.ref (g.1 + 170)]) rfl ?_
  refine TL.callV o_c_centre (c_X7_thrown g l hl (g.1 + 170) (kd7 g) r2.2 (μ.2.1, o1) _ rfl) (kd7 g) (by decide) fmc7.1 rfl cw_X7_thrown (lw_in 1082 (by decide +kernel) (by decide +kernel)) pn_X7_thrown (Nat.le_of_ble_eq_true rfl) (Nat.le_of_ble_eq_true rfl) (Nat.le_of_ble_eq_true rfl) (by omega) (by omega) rfl ?_
  refine TL.run o_c_centre 1 (pc' := 1002) (lv' := ((7, .double r2.1) :: (6, .int K) :: llv g b i)) (st' := [.int K, .int (r2.2 (g.1 + 170) 0)]) rfl ?_
  refine TL.ic_eq (tgt := 1007) o_c_centre hth rfl (by decide) ?_
  refine TL.run o_c_centre 1 (pc' := 1009) (lv' := ((7, .double r2.1) :: (6, .int K) :: llv g b i)) (st' := [.int K]) rfl ?_
  have fin : TL g l b L xs 1044 ((7, .double r2.1) :: (6, .int K) :: llv g b i) [] (r2.2, μ.2.1, o1) (cells + 1) (slots + 6) := by
    refine TL.run o_c_centre 1 (pc' := 1501) (lv' := ((7, .double r2.1) :: (6, .int K) :: llv g b i)) (st' := []) rfl ?_
    refine TL.sub (lv' := llv g b i) [2, 3, 4, 5, 6, 7] rfl ?_
    exact kk (r2.2, μ.2.1, o1) hA
  refine TL.if_ne (tgt := 1044) o_c_centre rfl (by decide) (fun _ => fin) (fun q => ?_)
  obtain ⟨e1, -⟩ := hk0 q
  refine TL.run o_c_centre 2 (pc' := 1015) (lv' := ((7, .double r2.1) :: (6, .int K) :: llv g b i)) (st' := [.int 0, .ref (g.1 + 178)]) rfl ?_
  refine TL.dald o_c_centre rfl ?_
  refine TL.run o_c_centre 2 (pc' := 1019) (lv' := ((7, .double r2.1) :: (6, .int K) :: llv g b i)) (st' := [.int (Op.cmpValue (FP.dcmp o1 r2.1) .l)]) rfl ?_
  refine TL.if_eq (tgt := 1044) o_c_centre rfl (by decide) (fun _ => fin) (fun q2 => ?_)
  refine TL.run o_c_centre 2 (pc' := 1025) (lv' := ((7, .double r2.1) :: (6, .int K) :: llv g b i)) (st' := [.int 0, .ref (g.1 + 178)]) rfl ?_
  refine TL.dald o_c_centre rfl ?_
  refine TL.run o_c_centre 2 (pc' := 1029) (lv' := ((7, .double r2.1) :: (6, .int K) :: llv g b i)) (st' := [.int 0, .ref (g.1 + 178), .double o1]) rfl ?_
  refine TL.dald o_c_centre rfl ?_
  refine TL.run o_c_centre 1 (pc' := 1031) (lv' := ((7, .double r2.1) :: (6, .int K) :: llv g b i)) (st' := [.int (Op.cmpValue (FP.dcmp o1 o1) .l)]) rfl ?_
  refine TL.if_eq (tgt := 1042) o_c_centre rfl (by decide) (fun q3 => absurd (by rw [← e1]; exact q3) q2) (fun q3 => ?_)
  refine TL.run o_c_centre 3 (pc' := 1039) (lv' := ((7, .double r2.1) :: (6, .int K) :: llv g b i)) (st' := [.int (Op.cmpValue (FP.dcmp r2.1 r2.1) .l)]) rfl ?_
  exact TL.if_ne (tgt := 1044) o_c_centre rfl (by decide) (fun _ => fin) (fun q4 => absurd (by rw [e1]; exact q4) q2)
def k_c_roundness : List (Nat × Instr × Nat) := [(1047, .aload_n 1, 1), (1048, .aload_n 0, 1), (1049, .iload 5, 2), (1051, .iconst 1, 1), (1052, .iadd, 1), (1053, .iaload, 1), (1054, .aload_n 3, 1), (1055, .invokestatic 141, 3), (1058, .istore 6, 2), (1060, .aload_n 2, 1), (1061, .aload_n 0, 1), (1062, .iload 5, 2), (1064, .iconst 1, 1), (1065, .iadd, 1), (1066, .iaload, 1), (1067, .invokevirtual 143, 3), (1070, .istore 7, 2), (1072, .aload_n 2, 1), (1073, .invokevirtual 90, 3), (1076, .iload 6, 2), (1078, .if_icmp .eq 5, 3), (1081, .iconst 0, 1), (1082, .ireturn, 1), (1083, .iload 6, 2), (1085, .ifCond .ne 15, 3), (1088, .aload_n 3, 1), (1089, .iconst 0, 1), (1090, .laload, 1), (1091, .iload 7, 2), (1093, .i2l, 1), (1094, .lcmp, 1), (1095, .ifCond .eq 5, 3), (1098, .iconst 0, 1), (1099, .ireturn, 1), (1100, .goto 401, 3)]
theorem o_c_roundness : kd k_c_roundness := (by decide +kernel : ∀ q ∈ k_c_roundness, decode code q.1 = .ok q.2)
set_option maxHeartbeats 4000000 in
set_option maxRecDepth 100000 in
theorem cs_roundness (hl : l.stackTraces = false) (hk6 : k < 600) (hw : wA g.1 μ.1 k) (hi : i + 5 < L) (hc : cells + 1 ≤ 601024) (hs : slots + 6 ≤ 7293033) (kk : ∀ ν : fm_St, wA g.1 ν.1 (k + 1) → TL g l b L xs 1501 (llv g b i) [] ν (cells + 1) (slots + 6)) : TL g l b L xs 1047 (llv g b i) [] μ cells slots := by
  refine TL.run o_c_roundness 1 (pc' := 1048) (lv' := (llv g b i)) (st' := [.ref g.1]) rfl ?_
  refine TL.arg (i := i) (j := 1) (n := 4) (pc' := 1053) (J := 1) o_c_roundness (by decide) (by omega) rfl rfl ?_
  refine TL.run o_c_roundness 1 (pc' := 1055) (lv' := (llv g b i)) (st' := [.ref (g.1 + 177), .int (xs (i + 1)), .ref g.1]) rfl ?_
  obtain ⟨K, M1, o1, r2, hC, hr, hth, hk0, hA⟩ := ls_roundness (μ := μ) hl hw (xs (i + 1))
  refine TL.callW (rest := []) o_c_roundness hC rfl (lw_in 927 (by decide +kernel) (by decide +kernel)) (lw_in 928 (by decide +kernel) (by decide +kernel)) lw_ini (lw_in 929 (by decide +kernel) (by decide +kernel)) ⟨by decide, by decide⟩ (show (parseMethodDescriptor z_L_roundness.1.desc).map (fun d => d.parameters.length) = some 3 by decide +kernel) (Nat.le_of_ble_eq_true rfl) (Nat.le_of_ble_eq_true rfl) (Nat.le_of_ble_eq_true rfl) hc hs rfl ?_
  refine TL.run o_c_roundness 2 (pc' := 1061) (lv' := ((6, .int K) :: llv g b i)) (st' := [.ref (g.1 + 170)]) rfl ?_
  refine TL.arg (i := i) (j := 1) (n := 4) (pc' := 1066) (J := 1) o_c_roundness (by decide) (by omega) rfl rfl ?_
  refine TL.callV o_c_roundness (c_X7_roundness g l hl (g.1 + 170) (xs (i + 1)) (kd7 g) M1 (o1, μ.2.2) r2 hr) (kd7 g) (by decide) fmc7.1 rfl cw_X7_roundness (lw_in 1419 (by decide +kernel) (by decide +kernel)) pn_X7_roundness (Nat.le_of_ble_eq_true rfl) (Nat.le_of_ble_eq_true rfl) (Nat.le_of_ble_eq_true rfl) (by omega) (by omega) rfl ?_
  refine TL.run o_c_roundness 2 (pc' := 1073) (lv' := ((7, .int r2.1) :: (6, .int K) :: llv g b i)) (st' := [.ref (g.1 + 170)]) rfl ?_
  refine TL.callV o_c_roundness (c_X7_thrown g l hl (g.1 + 170) (kd7 g) r2.2 (o1, μ.2.2) _ rfl) (kd7 g) (by decide) fmc7.1 rfl cw_X7_thrown (lw_in 1082 (by decide +kernel) (by decide +kernel)) pn_X7_thrown (Nat.le_of_ble_eq_true rfl) (Nat.le_of_ble_eq_true rfl) (Nat.le_of_ble_eq_true rfl) (by omega) (by omega) rfl ?_
  refine TL.run o_c_roundness 1 (pc' := 1078) (lv' := ((7, .int r2.1) :: (6, .int K) :: llv g b i)) (st' := [.int K, .int (r2.2 (g.1 + 170) 0)]) rfl ?_
  refine TL.ic_eq (tgt := 1083) o_c_roundness hth rfl (by decide) ?_
  refine TL.run o_c_roundness 1 (pc' := 1085) (lv' := ((7, .int r2.1) :: (6, .int K) :: llv g b i)) (st' := [.int K]) rfl ?_
  have fin : TL g l b L xs 1100 ((7, .int r2.1) :: (6, .int K) :: llv g b i) [] (r2.2, o1, μ.2.2) (cells + 1) (slots + 6) := by
    refine TL.run o_c_roundness 1 (pc' := 1501) (lv' := ((7, .int r2.1) :: (6, .int K) :: llv g b i)) (st' := []) rfl ?_
    refine TL.sub (lv' := llv g b i) [2, 3, 4, 5, 6, 7] rfl ?_
    exact kk (r2.2, o1, μ.2.2) hA
  refine TL.if_ne (tgt := 1100) o_c_roundness rfl (by decide) (fun _ => fin) (fun q => ?_)
  refine TL.run o_c_roundness 2 (pc' := 1090) (lv' := ((7, .int r2.1) :: (6, .int K) :: llv g b i)) (st' := [.int 0, .ref (g.1 + 177)]) rfl ?_
  refine TL.lald o_c_roundness rfl ?_
  refine TL.run o_c_roundness 3 (pc' := 1095) (lv' := ((7, .int r2.1) :: (6, .int K) :: llv g b i)) (st' := [.int (lg_cmp o1 (Int32.toInt64 r2.1))]) rfl ?_
  exact TL.if_eq (tgt := 1100) o_c_roundness rfl (by decide) (fun _ => fin) (fun q2 => absurd (lg_0 (hk0 q)) q2)
def k_c_share : List (Nat × Instr × Nat) := [(1103, .aload_n 1, 1), (1104, .invokevirtual 144, 3), (1107, .f2d, 1), (1108, .dstore 6, 2), (1110, .aload_n 2, 1), (1111, .invokevirtual 148, 3), (1114, .f2d, 1), (1115, .dstore 8, 2), (1117, .dload 6, 2), (1119, .dload 8, 2), (1121, .dcmp .l, 1), (1122, .ifCond .eq 21, 3), (1125, .dload 6, 2), (1127, .dload 6, 2), (1129, .dcmp .l, 1), (1130, .ifCond .eq 11, 3), (1133, .dload 8, 2), (1135, .dload 8, 2), (1137, .dcmp .l, 1), (1138, .ifCond .ne 5, 3), (1141, .iconst 0, 1), (1142, .ireturn, 1), (1143, .goto 358, 3)]
theorem o_c_share : kd k_c_share := (by decide +kernel : ∀ q ∈ k_c_share, decode code q.1 = .ok q.2)
set_option maxHeartbeats 4000000 in
set_option maxRecDepth 100000 in
theorem cs_share (hl : l.stackTraces = false) (hk6 : k < 600) (hw : wA g.1 μ.1 k) (hi : i + 5 < L) (hc : cells + 1 ≤ 601024) (hs : slots + 6 ≤ 7293033) (kk : ∀ ν : fm_St, wA g.1 ν.1 (k + 1) → TL g l b L xs 1501 (llv g b i) [] ν (cells + 1) (slots + 6)) : TL g l b L xs 1103 (llv g b i) [] μ cells slots := by
  refine TL.run o_c_share 1 (pc' := 1104) (lv' := (llv g b i)) (st' := [.ref g.1]) rfl ?_
  obtain ⟨x, r2, hf, hC, hr, hx, hA⟩ := ln_share (μ := μ) hl hw
  subst hx
  refine TL.callV o_c_share (hC) (kd6 g) (by decide) fmc6.1 rfl cw_X6_share (lw_in 364 (by decide +kernel) (by decide +kernel)) pn_X6_share (Nat.le_of_ble_eq_true rfl) (Nat.le_of_ble_eq_true rfl) (Nat.le_of_ble_eq_true rfl) (by omega) (by omega) rfl ?_
  refine TL.f2d o_c_share hf rfl ?_
  refine TL.run o_c_share 2 (pc' := 1111) (lv' := ((6, .double (FP.f2d r2.1)) :: llv g b i)) (st' := [.ref (g.1 + 170)]) rfl ?_
  refine TL.callV o_c_share (c_X7_share g l hl (g.1 + 170) (kd7 g) μ.1 μ.2 r2 hr) (kd7 g) (by decide) fmc7.1 rfl cw_X7_share (lw_in 1433 (by decide +kernel) (by decide +kernel)) pn_X7_share (Nat.le_of_ble_eq_true rfl) (Nat.le_of_ble_eq_true rfl) (Nat.le_of_ble_eq_true rfl) (by omega) (by omega) rfl ?_
  refine TL.f2d o_c_share hf rfl ?_
  refine TL.run o_c_share 4 (pc' := 1122) (lv' := ((8, .double (FP.f2d r2.1)) :: (6, .double (FP.f2d r2.1)) :: llv g b i)) (st' := [.int (Op.cmpValue (FP.dcmp (FP.f2d r2.1) (FP.f2d r2.1)) .l)]) rfl ?_
  have fin : TL g l b L xs 1143 ((8, .double (FP.f2d r2.1)) :: (6, .double (FP.f2d r2.1)) :: llv g b i) [] (r2.2, μ.2) cells slots := by
    refine TL.run o_c_share 1 (pc' := 1501) (lv' := ((8, .double (FP.f2d r2.1)) :: (6, .double (FP.f2d r2.1)) :: llv g b i)) (st' := []) rfl ?_
    refine TL.sub (lv' := llv g b i) [2, 3, 4, 5, 6, 7] rfl ?_
    exact TL.widen (Nat.le_succ _) (Nat.le_add_right _ _) (kk (r2.2, μ.2) hA)
  refine TL.if_eq (tgt := 1143) o_c_share rfl (by decide) (fun _ => fin) (fun q => ?_)
  refine TL.run o_c_share 3 (pc' := 1130) (lv' := ((8, .double (FP.f2d r2.1)) :: (6, .double (FP.f2d r2.1)) :: llv g b i)) (st' := [.int (Op.cmpValue (FP.dcmp (FP.f2d r2.1) (FP.f2d r2.1)) .l)]) rfl ?_
  refine TL.if_eq (tgt := 1141) o_c_share rfl (by decide) (fun q3 => absurd q3 q) (fun q3 => ?_)
  refine TL.run o_c_share 3 (pc' := 1138) (lv' := ((8, .double (FP.f2d r2.1)) :: (6, .double (FP.f2d r2.1)) :: llv g b i)) (st' := [.int (Op.cmpValue (FP.dcmp (FP.f2d r2.1) (FP.f2d r2.1)) .l)]) rfl ?_
  exact TL.if_ne (tgt := 1143) o_c_share rfl (by decide) (fun _ => fin) (fun q4 => absurd q4 q)
def k_c_put : List (Nat × Instr × Nat) := [(1146, .aload_n 1, 1), (1147, .aload_n 0, 1), (1148, .iload 5, 2), (1150, .iconst 1, 1), (1151, .iadd, 1), (1152, .iaload, 1), (1153, .aload_n 0, 1), (1154, .iload 5, 2), (1156, .iconst 2, 1), (1157, .iadd, 1), (1158, .iaload, 1), (1159, .aload_n 3, 1), (1160, .invokestatic 149, 3), (1163, .istore 6, 2), (1165, .aload_n 2, 1), (1166, .aload_n 0, 1), (1167, .iload 5, 2), (1169, .iconst 1, 1), (1170, .iadd, 1), (1171, .iaload, 1), (1172, .aload_n 0, 1), (1173, .iload 5, 2), (1175, .iconst 2, 1), (1176, .iadd, 1), (1177, .iaload, 1), (1178, .invokevirtual 151, 3), (1181, .istore 7, 2), (1183, .aload_n 2, 1), (1184, .invokevirtual 90, 3), (1187, .iload 6, 2), (1189, .if_icmp .eq 5, 3), (1192, .iconst 0, 1), (1193, .ireturn, 1), (1194, .iload 6, 2), (1196, .ifCond .ne 15, 3), (1199, .aload_n 3, 1), (1200, .iconst 0, 1), (1201, .laload, 1), (1202, .iload 7, 2), (1204, .i2l, 1), (1205, .lcmp, 1), (1206, .ifCond .eq 5, 3), (1209, .iconst 0, 1), (1210, .ireturn, 1), (1211, .goto 290, 3)]
theorem o_c_put : kd k_c_put := (by decide +kernel : ∀ q ∈ k_c_put, decode code q.1 = .ok q.2)
set_option maxHeartbeats 4000000 in
set_option maxRecDepth 100000 in
theorem cs_put (hl : l.stackTraces = false) (hk6 : k < 600) (hw : wA g.1 μ.1 k) (hi : i + 5 < L) (hc : cells + 1 ≤ 601024) (hs : slots + 6 ≤ 7293033) (kk : ∀ ν : fm_St, wA g.1 ν.1 (k + 1) → TL g l b L xs 1501 (llv g b i) [] ν (cells + 1) (slots + 6)) : TL g l b L xs 1146 (llv g b i) [] μ cells slots := by
  refine TL.run o_c_put 1 (pc' := 1147) (lv' := (llv g b i)) (st' := [.ref g.1]) rfl ?_
  refine TL.arg (i := i) (j := 1) (n := 4) (pc' := 1152) (J := 1) o_c_put (by decide) (by omega) rfl rfl ?_
  refine TL.arg (i := i) (j := 2) (n := 4) (pc' := 1158) (J := 2) o_c_put (by decide) (by omega) rfl rfl ?_
  refine TL.run o_c_put 1 (pc' := 1160) (lv' := (llv g b i)) (st' := [.ref (g.1 + 177), .int (xs (i + 2)), .int (xs (i + 1)), .ref g.1]) rfl ?_
  obtain ⟨K, M1, o1, r2, hC, hr, hth, hk0, hA⟩ := ls_put (μ := μ) hl hk6 hw (xs (i + 1)) (xs (i + 2))
  refine TL.callW (rest := []) o_c_put hC rfl (lw_in 940 (by decide +kernel) (by decide +kernel)) (lw_in 941 (by decide +kernel) (by decide +kernel)) lw_ini (lw_in 942 (by decide +kernel) (by decide +kernel)) ⟨by decide, by decide⟩ (show (parseMethodDescriptor z_L_put.1.desc).map (fun d => d.parameters.length) = some 4 by decide +kernel) (Nat.le_of_ble_eq_true rfl) (Nat.le_of_ble_eq_true rfl) (Nat.le_of_ble_eq_true rfl) hc hs rfl ?_
  refine TL.run o_c_put 2 (pc' := 1166) (lv' := ((6, .int K) :: llv g b i)) (st' := [.ref (g.1 + 170)]) rfl ?_
  refine TL.arg (i := i) (j := 1) (n := 4) (pc' := 1171) (J := 1) o_c_put (by decide) (by omega) rfl rfl ?_
  refine TL.arg (i := i) (j := 2) (n := 4) (pc' := 1177) (J := 2) o_c_put (by decide) (by omega) rfl rfl ?_
  refine TL.callV o_c_put (c_X7_put g l hl (g.1 + 170) (xs (i + 1)) (xs (i + 2)) (kd7 g) M1 (o1, μ.2.2) r2 hr) (kd7 g) (by decide) fmc7.1 rfl cw_X7_put (lw_in 1437 (by decide +kernel) (by decide +kernel)) pn_X7_put (Nat.le_of_ble_eq_true rfl) (Nat.le_of_ble_eq_true rfl) (Nat.le_of_ble_eq_true rfl) (by omega) (by omega) rfl ?_
  refine TL.run o_c_put 2 (pc' := 1184) (lv' := ((7, .int r2.1) :: (6, .int K) :: llv g b i)) (st' := [.ref (g.1 + 170)]) rfl ?_
  refine TL.callV o_c_put (c_X7_thrown g l hl (g.1 + 170) (kd7 g) r2.2 (o1, μ.2.2) _ rfl) (kd7 g) (by decide) fmc7.1 rfl cw_X7_thrown (lw_in 1082 (by decide +kernel) (by decide +kernel)) pn_X7_thrown (Nat.le_of_ble_eq_true rfl) (Nat.le_of_ble_eq_true rfl) (Nat.le_of_ble_eq_true rfl) (by omega) (by omega) rfl ?_
  refine TL.run o_c_put 1 (pc' := 1189) (lv' := ((7, .int r2.1) :: (6, .int K) :: llv g b i)) (st' := [.int K, .int (r2.2 (g.1 + 170) 0)]) rfl ?_
  refine TL.ic_eq (tgt := 1194) o_c_put hth rfl (by decide) ?_
  refine TL.run o_c_put 1 (pc' := 1196) (lv' := ((7, .int r2.1) :: (6, .int K) :: llv g b i)) (st' := [.int K]) rfl ?_
  have fin : TL g l b L xs 1211 ((7, .int r2.1) :: (6, .int K) :: llv g b i) [] (r2.2, o1, μ.2.2) (cells + 1) (slots + 6) := by
    refine TL.run o_c_put 1 (pc' := 1501) (lv' := ((7, .int r2.1) :: (6, .int K) :: llv g b i)) (st' := []) rfl ?_
    refine TL.sub (lv' := llv g b i) [2, 3, 4, 5, 6, 7] rfl ?_
    exact kk (r2.2, o1, μ.2.2) hA
  refine TL.if_ne (tgt := 1211) o_c_put rfl (by decide) (fun _ => fin) (fun q => ?_)
  refine TL.run o_c_put 2 (pc' := 1201) (lv' := ((7, .int r2.1) :: (6, .int K) :: llv g b i)) (st' := [.int 0, .ref (g.1 + 177)]) rfl ?_
  refine TL.lald o_c_put rfl ?_
  refine TL.run o_c_put 3 (pc' := 1206) (lv' := ((7, .int r2.1) :: (6, .int K) :: llv g b i)) (st' := [.int (lg_cmp o1 (Int32.toInt64 r2.1))]) rfl ?_
  exact TL.if_eq (tgt := 1211) o_c_put rfl (by decide) (fun _ => fin) (fun q2 => absurd (lg_0 (hk0 q)) q2)
def k_c_take : List (Nat × Instr × Nat) := [(1214, .aload_n 1, 1), (1215, .aload_n 0, 1), (1216, .iload 5, 2), (1218, .iconst 1, 1), (1219, .iadd, 1), (1220, .iaload, 1), (1221, .aload_n 3, 1), (1222, .invokestatic 152, 3), (1225, .istore 6, 2), (1227, .aload_n 2, 1), (1228, .aload_n 0, 1), (1229, .iload 5, 2), (1231, .iconst 1, 1), (1232, .iadd, 1), (1233, .iaload, 1), (1234, .invokevirtual 154, 3), (1237, .istore 7, 2), (1239, .aload_n 2, 1), (1240, .invokevirtual 90, 3), (1243, .iload 6, 2), (1245, .if_icmp .eq 5, 3), (1248, .iconst 0, 1), (1249, .ireturn, 1), (1250, .iload 6, 2), (1252, .ifCond .ne 15, 3), (1255, .aload_n 3, 1), (1256, .iconst 0, 1), (1257, .laload, 1), (1258, .iload 7, 2), (1260, .i2l, 1), (1261, .lcmp, 1), (1262, .ifCond .eq 5, 3), (1265, .iconst 0, 1), (1266, .ireturn, 1), (1267, .goto 234, 3)]
theorem o_c_take : kd k_c_take := (by decide +kernel : ∀ q ∈ k_c_take, decode code q.1 = .ok q.2)
set_option maxHeartbeats 4000000 in
set_option maxRecDepth 100000 in
theorem cs_take (hl : l.stackTraces = false) (hk6 : k < 600) (hw : wA g.1 μ.1 k) (hi : i + 5 < L) (hc : cells + 1 ≤ 601024) (hs : slots + 6 ≤ 7293033) (kk : ∀ ν : fm_St, wA g.1 ν.1 (k + 1) → TL g l b L xs 1501 (llv g b i) [] ν (cells + 1) (slots + 6)) : TL g l b L xs 1214 (llv g b i) [] μ cells slots := by
  refine TL.run o_c_take 1 (pc' := 1215) (lv' := (llv g b i)) (st' := [.ref g.1]) rfl ?_
  refine TL.arg (i := i) (j := 1) (n := 4) (pc' := 1220) (J := 1) o_c_take (by decide) (by omega) rfl rfl ?_
  refine TL.run o_c_take 1 (pc' := 1222) (lv' := (llv g b i)) (st' := [.ref (g.1 + 177), .int (xs (i + 1)), .ref g.1]) rfl ?_
  obtain ⟨K, M1, o1, r2, hC, hr, hth, hk0, hA⟩ := ls_take (μ := μ) hl hk6 hw (xs (i + 1))
  refine TL.callW (rest := []) o_c_take hC rfl (lw_in 974 (by decide +kernel) (by decide +kernel)) (lw_in 975 (by decide +kernel) (by decide +kernel)) lw_ini (lw_in 976 (by decide +kernel) (by decide +kernel)) ⟨by decide, by decide⟩ (show (parseMethodDescriptor z_L_take.1.desc).map (fun d => d.parameters.length) = some 3 by decide +kernel) (Nat.le_of_ble_eq_true rfl) (Nat.le_of_ble_eq_true rfl) (Nat.le_of_ble_eq_true rfl) hc hs rfl ?_
  refine TL.run o_c_take 2 (pc' := 1228) (lv' := ((6, .int K) :: llv g b i)) (st' := [.ref (g.1 + 170)]) rfl ?_
  refine TL.arg (i := i) (j := 1) (n := 4) (pc' := 1233) (J := 1) o_c_take (by decide) (by omega) rfl rfl ?_
  refine TL.callV o_c_take (c_X7_take g l hl (g.1 + 170) (xs (i + 1)) (kd7 g) M1 (o1, μ.2.2) r2 hr) (kd7 g) (by decide) fmc7.1 rfl cw_X7_take (lw_in 1445 (by decide +kernel) (by decide +kernel)) pn_X7_take (Nat.le_of_ble_eq_true rfl) (Nat.le_of_ble_eq_true rfl) (Nat.le_of_ble_eq_true rfl) (by omega) (by omega) rfl ?_
  refine TL.run o_c_take 2 (pc' := 1240) (lv' := ((7, .int r2.1) :: (6, .int K) :: llv g b i)) (st' := [.ref (g.1 + 170)]) rfl ?_
  refine TL.callV o_c_take (c_X7_thrown g l hl (g.1 + 170) (kd7 g) r2.2 (o1, μ.2.2) _ rfl) (kd7 g) (by decide) fmc7.1 rfl cw_X7_thrown (lw_in 1082 (by decide +kernel) (by decide +kernel)) pn_X7_thrown (Nat.le_of_ble_eq_true rfl) (Nat.le_of_ble_eq_true rfl) (Nat.le_of_ble_eq_true rfl) (by omega) (by omega) rfl ?_
  refine TL.run o_c_take 1 (pc' := 1245) (lv' := ((7, .int r2.1) :: (6, .int K) :: llv g b i)) (st' := [.int K, .int (r2.2 (g.1 + 170) 0)]) rfl ?_
  refine TL.ic_eq (tgt := 1250) o_c_take hth rfl (by decide) ?_
  refine TL.run o_c_take 1 (pc' := 1252) (lv' := ((7, .int r2.1) :: (6, .int K) :: llv g b i)) (st' := [.int K]) rfl ?_
  have fin : TL g l b L xs 1267 ((7, .int r2.1) :: (6, .int K) :: llv g b i) [] (r2.2, o1, μ.2.2) (cells + 1) (slots + 6) := by
    refine TL.run o_c_take 1 (pc' := 1501) (lv' := ((7, .int r2.1) :: (6, .int K) :: llv g b i)) (st' := []) rfl ?_
    refine TL.sub (lv' := llv g b i) [2, 3, 4, 5, 6, 7] rfl ?_
    exact kk (r2.2, o1, μ.2.2) hA
  refine TL.if_ne (tgt := 1267) o_c_take rfl (by decide) (fun _ => fin) (fun q => ?_)
  refine TL.run o_c_take 2 (pc' := 1257) (lv' := ((7, .int r2.1) :: (6, .int K) :: llv g b i)) (st' := [.int 0, .ref (g.1 + 177)]) rfl ?_
  refine TL.lald o_c_take rfl ?_
  refine TL.run o_c_take 3 (pc' := 1262) (lv' := ((7, .int r2.1) :: (6, .int K) :: llv g b i)) (st' := [.int (lg_cmp o1 (Int32.toInt64 r2.1))]) rfl ?_
  exact TL.if_eq (tgt := 1267) o_c_take rfl (by decide) (fun _ => fin) (fun q2 => absurd (lg_0 (hk0 q)) q2)
def k_c_move : List (Nat × Instr × Nat) := [(1270, .aload_n 1, 1), (1271, .aload_n 0, 1), (1272, .iload 5, 2), (1274, .iconst 1, 1), (1275, .iadd, 1), (1276, .iaload, 1), (1277, .aload_n 0, 1), (1278, .iload 5, 2), (1280, .iconst 2, 1), (1281, .iadd, 1), (1282, .iaload, 1), (1283, .aload_n 0, 1), (1284, .iload 5, 2), (1286, .iconst 3, 1), (1287, .iadd, 1), (1288, .iaload, 1), (1289, .aload_n 3, 1), (1290, .invokestatic 155, 3), (1293, .istore 6, 2), (1295, .aload_n 2, 1), (1296, .aload_n 0, 1), (1297, .iload 5, 2), (1299, .iconst 1, 1), (1300, .iadd, 1), (1301, .iaload, 1), (1302, .aload_n 0, 1), (1303, .iload 5, 2), (1305, .iconst 2, 1), (1306, .iadd, 1), (1307, .iaload, 1), (1308, .aload_n 0, 1), (1309, .iload 5, 2), (1311, .iconst 3, 1), (1312, .iadd, 1), (1313, .iaload, 1), (1314, .invokevirtual 158, 3), (1317, .istore 7, 2), (1319, .aload_n 2, 1), (1320, .invokevirtual 90, 3), (1323, .iload 6, 2), (1325, .if_icmp .eq 5, 3), (1328, .iconst 0, 1), (1329, .ireturn, 1), (1330, .iload 6, 2), (1332, .ifCond .ne 15, 3), (1335, .aload_n 3, 1), (1336, .iconst 0, 1), (1337, .laload, 1), (1338, .iload 7, 2), (1340, .i2l, 1), (1341, .lcmp, 1), (1342, .ifCond .eq 5, 3), (1345, .iconst 0, 1), (1346, .ireturn, 1), (1347, .goto 154, 3)]
theorem o_c_move : kd k_c_move := (by decide +kernel : ∀ q ∈ k_c_move, decode code q.1 = .ok q.2)
set_option maxHeartbeats 4000000 in
set_option maxRecDepth 100000 in
theorem cs_move (hl : l.stackTraces = false) (hk6 : k < 600) (hw : wA g.1 μ.1 k) (hi : i + 5 < L) (hc : cells + 1 ≤ 601024) (hs : slots + 6 ≤ 7293033) (kk : ∀ ν : fm_St, wA g.1 ν.1 (k + 1) → TL g l b L xs 1501 (llv g b i) [] ν (cells + 1) (slots + 6)) : TL g l b L xs 1270 (llv g b i) [] μ cells slots := by
  refine TL.run o_c_move 1 (pc' := 1271) (lv' := (llv g b i)) (st' := [.ref g.1]) rfl ?_
  refine TL.arg (i := i) (j := 1) (n := 4) (pc' := 1276) (J := 1) o_c_move (by decide) (by omega) rfl rfl ?_
  refine TL.arg (i := i) (j := 2) (n := 4) (pc' := 1282) (J := 2) o_c_move (by decide) (by omega) rfl rfl ?_
  refine TL.arg (i := i) (j := 3) (n := 4) (pc' := 1288) (J := 3) o_c_move (by decide) (by omega) rfl rfl ?_
  refine TL.run o_c_move 1 (pc' := 1290) (lv' := (llv g b i)) (st' := [.ref (g.1 + 177), .int (xs (i + 3)), .int (xs (i + 2)), .int (xs (i + 1)), .ref g.1]) rfl ?_
  obtain ⟨K, M1, o1, r2, hC, hr, hth, hk0, hA⟩ := ls_move (μ := μ) hl hk6 hw (xs (i + 1)) (xs (i + 2)) (xs (i + 3))
  refine TL.callW (rest := []) o_c_move hC rfl (lw_in 987 (by decide +kernel) (by decide +kernel)) (lw_in 988 (by decide +kernel) (by decide +kernel)) lw_ini (lw_in 989 (by decide +kernel) (by decide +kernel)) ⟨by decide, by decide⟩ (show (parseMethodDescriptor z_L_move.1.desc).map (fun d => d.parameters.length) = some 5 by decide +kernel) (Nat.le_of_ble_eq_true rfl) (Nat.le_of_ble_eq_true rfl) (Nat.le_of_ble_eq_true rfl) hc hs rfl ?_
  refine TL.run o_c_move 2 (pc' := 1296) (lv' := ((6, .int K) :: llv g b i)) (st' := [.ref (g.1 + 170)]) rfl ?_
  refine TL.arg (i := i) (j := 1) (n := 4) (pc' := 1301) (J := 1) o_c_move (by decide) (by omega) rfl rfl ?_
  refine TL.arg (i := i) (j := 2) (n := 4) (pc' := 1307) (J := 2) o_c_move (by decide) (by omega) rfl rfl ?_
  refine TL.arg (i := i) (j := 3) (n := 4) (pc' := 1313) (J := 3) o_c_move (by decide) (by omega) rfl rfl ?_
  refine TL.callV o_c_move (c_X7_move g l hl (g.1 + 170) (xs (i + 1)) (xs (i + 2)) (xs (i + 3)) (kd7 g) M1 (o1, μ.2.2) r2 hr) (kd7 g) (by decide) fmc7.1 rfl cw_X7_move (lw_in 1449 (by decide +kernel) (by decide +kernel)) pn_X7_move (Nat.le_of_ble_eq_true rfl) (Nat.le_of_ble_eq_true rfl) (Nat.le_of_ble_eq_true rfl) (by omega) (by omega) rfl ?_
  refine TL.run o_c_move 2 (pc' := 1320) (lv' := ((7, .int r2.1) :: (6, .int K) :: llv g b i)) (st' := [.ref (g.1 + 170)]) rfl ?_
  refine TL.callV o_c_move (c_X7_thrown g l hl (g.1 + 170) (kd7 g) r2.2 (o1, μ.2.2) _ rfl) (kd7 g) (by decide) fmc7.1 rfl cw_X7_thrown (lw_in 1082 (by decide +kernel) (by decide +kernel)) pn_X7_thrown (Nat.le_of_ble_eq_true rfl) (Nat.le_of_ble_eq_true rfl) (Nat.le_of_ble_eq_true rfl) (by omega) (by omega) rfl ?_
  refine TL.run o_c_move 1 (pc' := 1325) (lv' := ((7, .int r2.1) :: (6, .int K) :: llv g b i)) (st' := [.int K, .int (r2.2 (g.1 + 170) 0)]) rfl ?_
  refine TL.ic_eq (tgt := 1330) o_c_move hth rfl (by decide) ?_
  refine TL.run o_c_move 1 (pc' := 1332) (lv' := ((7, .int r2.1) :: (6, .int K) :: llv g b i)) (st' := [.int K]) rfl ?_
  have fin : TL g l b L xs 1347 ((7, .int r2.1) :: (6, .int K) :: llv g b i) [] (r2.2, o1, μ.2.2) (cells + 1) (slots + 6) := by
    refine TL.run o_c_move 1 (pc' := 1501) (lv' := ((7, .int r2.1) :: (6, .int K) :: llv g b i)) (st' := []) rfl ?_
    refine TL.sub (lv' := llv g b i) [2, 3, 4, 5, 6, 7] rfl ?_
    exact kk (r2.2, o1, μ.2.2) hA
  refine TL.if_ne (tgt := 1347) o_c_move rfl (by decide) (fun _ => fin) (fun q => ?_)
  refine TL.run o_c_move 2 (pc' := 1337) (lv' := ((7, .int r2.1) :: (6, .int K) :: llv g b i)) (st' := [.int 0, .ref (g.1 + 177)]) rfl ?_
  refine TL.lald o_c_move rfl ?_
  refine TL.run o_c_move 3 (pc' := 1342) (lv' := ((7, .int r2.1) :: (6, .int K) :: llv g b i)) (st' := [.int (lg_cmp o1 (Int32.toInt64 r2.1))]) rfl ?_
  exact TL.if_eq (tgt := 1347) o_c_move rfl (by decide) (fun _ => fin) (fun q2 => absurd (lg_0 (hk0 q)) q2)
def k_c_flip : List (Nat × Instr × Nat) := [(1350, .aload_n 1, 1), (1351, .aload_n 0, 1), (1352, .iload 5, 2), (1354, .iconst 1, 1), (1355, .iadd, 1), (1356, .iaload, 1), (1357, .aload_n 0, 1), (1358, .iload 5, 2), (1360, .iconst 2, 1), (1361, .iadd, 1), (1362, .iaload, 1), (1363, .aload_n 3, 1), (1364, .invokestatic 159, 3), (1367, .istore 6, 2), (1369, .aload_n 2, 1), (1370, .aload_n 0, 1), (1371, .iload 5, 2), (1373, .iconst 1, 1), (1374, .iadd, 1), (1375, .iaload, 1), (1376, .aload_n 0, 1), (1377, .iload 5, 2), (1379, .iconst 2, 1), (1380, .iadd, 1), (1381, .iaload, 1), (1382, .invokevirtual 161, 3), (1385, .istore 7, 2), (1387, .aload_n 2, 1), (1388, .invokevirtual 90, 3), (1391, .iload 6, 2), (1393, .if_icmp .eq 5, 3), (1396, .iconst 0, 1), (1397, .ireturn, 1), (1398, .iload 6, 2), (1400, .ifCond .ne 15, 3), (1403, .aload_n 3, 1), (1404, .iconst 0, 1), (1405, .laload, 1), (1406, .iload 7, 2), (1408, .i2l, 1), (1409, .lcmp, 1), (1410, .ifCond .eq 5, 3), (1413, .iconst 0, 1), (1414, .ireturn, 1), (1415, .goto 86, 3)]
theorem o_c_flip : kd k_c_flip := (by decide +kernel : ∀ q ∈ k_c_flip, decode code q.1 = .ok q.2)
set_option maxHeartbeats 4000000 in
set_option maxRecDepth 100000 in
theorem cs_flip (hl : l.stackTraces = false) (hk6 : k < 600) (hw : wA g.1 μ.1 k) (hi : i + 5 < L) (hc : cells + 1 ≤ 601024) (hs : slots + 6 ≤ 7293033) (kk : ∀ ν : fm_St, wA g.1 ν.1 (k + 1) → TL g l b L xs 1501 (llv g b i) [] ν (cells + 1) (slots + 6)) : TL g l b L xs 1350 (llv g b i) [] μ cells slots := by
  refine TL.run o_c_flip 1 (pc' := 1351) (lv' := (llv g b i)) (st' := [.ref g.1]) rfl ?_
  refine TL.arg (i := i) (j := 1) (n := 4) (pc' := 1356) (J := 1) o_c_flip (by decide) (by omega) rfl rfl ?_
  refine TL.arg (i := i) (j := 2) (n := 4) (pc' := 1362) (J := 2) o_c_flip (by decide) (by omega) rfl rfl ?_
  refine TL.run o_c_flip 1 (pc' := 1364) (lv' := (llv g b i)) (st' := [.ref (g.1 + 177), .int (xs (i + 2)), .int (xs (i + 1)), .ref g.1]) rfl ?_
  obtain ⟨K, M1, o1, r2, hC, hr, hth, hk0, hA⟩ := ls_flip (μ := μ) hl hk6 hw (xs (i + 1)) (xs (i + 2))
  refine TL.callW (rest := []) o_c_flip hC rfl (lw_in 1003 (by decide +kernel) (by decide +kernel)) (lw_in 1004 (by decide +kernel) (by decide +kernel)) lw_ini (lw_in 1005 (by decide +kernel) (by decide +kernel)) ⟨by decide, by decide⟩ (show (parseMethodDescriptor z_L_flip.1.desc).map (fun d => d.parameters.length) = some 4 by decide +kernel) (Nat.le_of_ble_eq_true rfl) (Nat.le_of_ble_eq_true rfl) (Nat.le_of_ble_eq_true rfl) hc hs rfl ?_
  refine TL.run o_c_flip 2 (pc' := 1370) (lv' := ((6, .int K) :: llv g b i)) (st' := [.ref (g.1 + 170)]) rfl ?_
  refine TL.arg (i := i) (j := 1) (n := 4) (pc' := 1375) (J := 1) o_c_flip (by decide) (by omega) rfl rfl ?_
  refine TL.arg (i := i) (j := 2) (n := 4) (pc' := 1381) (J := 2) o_c_flip (by decide) (by omega) rfl rfl ?_
  refine TL.callV o_c_flip (c_X7_flip g l hl (g.1 + 170) (xs (i + 1)) (xs (i + 2)) (kd7 g) M1 (o1, μ.2.2) r2 hr) (kd7 g) (by decide) fmc7.1 rfl cw_X7_flip (lw_in 1457 (by decide +kernel) (by decide +kernel)) pn_X7_flip (Nat.le_of_ble_eq_true rfl) (Nat.le_of_ble_eq_true rfl) (Nat.le_of_ble_eq_true rfl) (by omega) (by omega) rfl ?_
  refine TL.run o_c_flip 2 (pc' := 1388) (lv' := ((7, .int r2.1) :: (6, .int K) :: llv g b i)) (st' := [.ref (g.1 + 170)]) rfl ?_
  refine TL.callV o_c_flip (c_X7_thrown g l hl (g.1 + 170) (kd7 g) r2.2 (o1, μ.2.2) _ rfl) (kd7 g) (by decide) fmc7.1 rfl cw_X7_thrown (lw_in 1082 (by decide +kernel) (by decide +kernel)) pn_X7_thrown (Nat.le_of_ble_eq_true rfl) (Nat.le_of_ble_eq_true rfl) (Nat.le_of_ble_eq_true rfl) (by omega) (by omega) rfl ?_
  refine TL.run o_c_flip 1 (pc' := 1393) (lv' := ((7, .int r2.1) :: (6, .int K) :: llv g b i)) (st' := [.int K, .int (r2.2 (g.1 + 170) 0)]) rfl ?_
  refine TL.ic_eq (tgt := 1398) o_c_flip hth rfl (by decide) ?_
  refine TL.run o_c_flip 1 (pc' := 1400) (lv' := ((7, .int r2.1) :: (6, .int K) :: llv g b i)) (st' := [.int K]) rfl ?_
  have fin : TL g l b L xs 1415 ((7, .int r2.1) :: (6, .int K) :: llv g b i) [] (r2.2, o1, μ.2.2) (cells + 1) (slots + 6) := by
    refine TL.run o_c_flip 1 (pc' := 1501) (lv' := ((7, .int r2.1) :: (6, .int K) :: llv g b i)) (st' := []) rfl ?_
    refine TL.sub (lv' := llv g b i) [2, 3, 4, 5, 6, 7] rfl ?_
    exact kk (r2.2, o1, μ.2.2) hA
  refine TL.if_ne (tgt := 1415) o_c_flip rfl (by decide) (fun _ => fin) (fun q => ?_)
  refine TL.run o_c_flip 2 (pc' := 1405) (lv' := ((7, .int r2.1) :: (6, .int K) :: llv g b i)) (st' := [.int 0, .ref (g.1 + 177)]) rfl ?_
  refine TL.lald o_c_flip rfl ?_
  refine TL.run o_c_flip 3 (pc' := 1410) (lv' := ((7, .int r2.1) :: (6, .int K) :: llv g b i)) (st' := [.int (lg_cmp o1 (Int32.toInt64 r2.1))]) rfl ?_
  exact TL.if_eq (tgt := 1415) o_c_flip rfl (by decide) (fun _ => fin) (fun q2 => absurd (lg_0 (hk0 q)) q2)
def k_c_mend : List (Nat × Instr × Nat) := [(1418, .aload_n 1, 1), (1419, .aload_n 0, 1), (1420, .iload 5, 2), (1422, .iconst 1, 1), (1423, .iadd, 1), (1424, .iaload, 1), (1425, .aload_n 3, 1), (1426, .invokestatic 162, 3), (1429, .istore 6, 2), (1431, .aload_n 2, 1), (1432, .aload_n 0, 1), (1433, .iload 5, 2), (1435, .iconst 1, 1), (1436, .iadd, 1), (1437, .iaload, 1), (1438, .invokevirtual 164, 3), (1441, .istore 7, 2), (1443, .aload_n 2, 1), (1444, .invokevirtual 90, 3), (1447, .iload 6, 2), (1449, .if_icmp .eq 5, 3), (1452, .iconst 0, 1), (1453, .ireturn, 1), (1454, .iload 6, 2), (1456, .ifCond .ne 15, 3), (1459, .aload_n 3, 1), (1460, .iconst 0, 1), (1461, .laload, 1), (1462, .iload 7, 2), (1464, .i2l, 1), (1465, .lcmp, 1), (1466, .ifCond .eq 5, 3), (1469, .iconst 0, 1), (1470, .ireturn, 1), (1471, .goto 30, 3)]
theorem o_c_mend : kd k_c_mend := (by decide +kernel : ∀ q ∈ k_c_mend, decode code q.1 = .ok q.2)
set_option maxHeartbeats 4000000 in
set_option maxRecDepth 100000 in
theorem cs_mend (hl : l.stackTraces = false) (hk6 : k < 600) (hw : wA g.1 μ.1 k) (hi : i + 5 < L) (hc : cells + 1 ≤ 601024) (hs : slots + 6 ≤ 7293033) (kk : ∀ ν : fm_St, wA g.1 ν.1 (k + 1) → TL g l b L xs 1501 (llv g b i) [] ν (cells + 1) (slots + 6)) : TL g l b L xs 1418 (llv g b i) [] μ cells slots := by
  refine TL.run o_c_mend 1 (pc' := 1419) (lv' := (llv g b i)) (st' := [.ref g.1]) rfl ?_
  refine TL.arg (i := i) (j := 1) (n := 4) (pc' := 1424) (J := 1) o_c_mend (by decide) (by omega) rfl rfl ?_
  refine TL.run o_c_mend 1 (pc' := 1426) (lv' := (llv g b i)) (st' := [.ref (g.1 + 177), .int (xs (i + 1)), .ref g.1]) rfl ?_
  obtain ⟨K, M1, o1, r2, hC, hr, hth, hk0, hA⟩ := ls_mend (μ := μ) hl hk6 hw (xs (i + 1))
  refine TL.callW (rest := []) o_c_mend hC rfl (lw_in 1011 (by decide +kernel) (by decide +kernel)) (lw_in 1012 (by decide +kernel) (by decide +kernel)) lw_ini (lw_in 1013 (by decide +kernel) (by decide +kernel)) ⟨by decide, by decide⟩ (show (parseMethodDescriptor z_L_mend.1.desc).map (fun d => d.parameters.length) = some 3 by decide +kernel) (Nat.le_of_ble_eq_true rfl) (Nat.le_of_ble_eq_true rfl) (Nat.le_of_ble_eq_true rfl) hc hs rfl ?_
  refine TL.run o_c_mend 2 (pc' := 1432) (lv' := ((6, .int K) :: llv g b i)) (st' := [.ref (g.1 + 170)]) rfl ?_
  refine TL.arg (i := i) (j := 1) (n := 4) (pc' := 1437) (J := 1) o_c_mend (by decide) (by omega) rfl rfl ?_
  refine TL.callV o_c_mend (c_X7_mend g l hl (g.1 + 170) (xs (i + 1)) (kd7 g) M1 (o1, μ.2.2) r2 hr) (kd7 g) (by decide) fmc7.1 rfl cw_X7_mend (lw_in 1461 (by decide +kernel) (by decide +kernel)) pn_X7_mend (Nat.le_of_ble_eq_true rfl) (Nat.le_of_ble_eq_true rfl) (Nat.le_of_ble_eq_true rfl) (by omega) (by omega) rfl ?_
  refine TL.run o_c_mend 2 (pc' := 1444) (lv' := ((7, .int r2.1) :: (6, .int K) :: llv g b i)) (st' := [.ref (g.1 + 170)]) rfl ?_
  refine TL.callV o_c_mend (c_X7_thrown g l hl (g.1 + 170) (kd7 g) r2.2 (o1, μ.2.2) _ rfl) (kd7 g) (by decide) fmc7.1 rfl cw_X7_thrown (lw_in 1082 (by decide +kernel) (by decide +kernel)) pn_X7_thrown (Nat.le_of_ble_eq_true rfl) (Nat.le_of_ble_eq_true rfl) (Nat.le_of_ble_eq_true rfl) (by omega) (by omega) rfl ?_
  refine TL.run o_c_mend 1 (pc' := 1449) (lv' := ((7, .int r2.1) :: (6, .int K) :: llv g b i)) (st' := [.int K, .int (r2.2 (g.1 + 170) 0)]) rfl ?_
  refine TL.ic_eq (tgt := 1454) o_c_mend hth rfl (by decide) ?_
  refine TL.run o_c_mend 1 (pc' := 1456) (lv' := ((7, .int r2.1) :: (6, .int K) :: llv g b i)) (st' := [.int K]) rfl ?_
  have fin : TL g l b L xs 1471 ((7, .int r2.1) :: (6, .int K) :: llv g b i) [] (r2.2, o1, μ.2.2) (cells + 1) (slots + 6) := by
    refine TL.run o_c_mend 1 (pc' := 1501) (lv' := ((7, .int r2.1) :: (6, .int K) :: llv g b i)) (st' := []) rfl ?_
    refine TL.sub (lv' := llv g b i) [2, 3, 4, 5, 6, 7] rfl ?_
    exact kk (r2.2, o1, μ.2.2) hA
  refine TL.if_ne (tgt := 1471) o_c_mend rfl (by decide) (fun _ => fin) (fun q => ?_)
  refine TL.run o_c_mend 2 (pc' := 1461) (lv' := ((7, .int r2.1) :: (6, .int K) :: llv g b i)) (st' := [.int 0, .ref (g.1 + 177)]) rfl ?_
  refine TL.lald o_c_mend rfl ?_
  refine TL.run o_c_mend 3 (pc' := 1466) (lv' := ((7, .int r2.1) :: (6, .int K) :: llv g b i)) (st' := [.int (lg_cmp o1 (Int32.toInt64 r2.1))]) rfl ?_
  exact TL.if_eq (tgt := 1471) o_c_mend rfl (by decide) (fun _ => fin) (fun q2 => absurd (lg_0 (hk0 q)) q2)
def k_c_undo : List (Nat × Instr × Nat) := [(1474, .aload_n 1, 1), (1475, .invokevirtual 165, 3), (1478, .aload_n 2, 1), (1479, .invokevirtual 168, 3), (1482, .if_icmp .eq 19, 3), (1485, .iconst 0, 1), (1486, .ireturn, 1)]
theorem o_c_undo : kd k_c_undo := (by decide +kernel : ∀ q ∈ k_c_undo, decode code q.1 = .ok q.2)
set_option maxHeartbeats 4000000 in
set_option maxRecDepth 100000 in
theorem cs_undo (hl : l.stackTraces = false) (hk6 : k < 600) (hw : wA g.1 μ.1 k) (hi : i + 5 < L) (hc : cells + 1 ≤ 601024) (hs : slots + 6 ≤ 7293033) (kk : ∀ ν : fm_St, wA g.1 ν.1 (k + 1) → TL g l b L xs 1501 (llv g b i) [] ν (cells + 1) (slots + 6)) : TL g l b L xs 1474 (llv g b i) [] μ cells slots := by
  refine TL.run o_c_undo 1 (pc' := 1475) (lv' := (llv g b i)) (st' := [.ref g.1]) rfl ?_
  obtain ⟨x, M1, r2, hC, hr, hx, hA⟩ := ln_undo (μ := μ) hl hk6 hw
  refine TL.callV o_c_undo (hC) (kd6 g) (by decide) fmc6.1 rfl cw_X6_undo (lw_in 386 (by decide +kernel) (by decide +kernel)) pn_X6_undo (Nat.le_of_ble_eq_true rfl) (Nat.le_of_ble_eq_true rfl) (Nat.le_of_ble_eq_true rfl) (by omega) (by omega) rfl ?_
  refine TL.run o_c_undo 1 (pc' := 1479) (lv' := (llv g b i)) (st' := [.ref (g.1 + 170), .int x]) rfl ?_
  refine TL.callV o_c_undo (c_X7_undo g l hl (g.1 + 170) (kd7 g) M1 μ.2 r2 hr) (kd7 g) (by decide) fmc7.1 rfl cw_X7_undo (lw_in 1465 (by decide +kernel) (by decide +kernel)) pn_X7_undo (Nat.le_of_ble_eq_true rfl) (Nat.le_of_ble_eq_true rfl) (Nat.le_of_ble_eq_true rfl) (by omega) (by omega) rfl ?_
  exact TL.ic_eq (tgt := 1501) o_c_undo hx.symm rfl (by decide) (TL.widen (Nat.le_succ _) (Nat.le_add_right _ _) (kk (r2.2, μ.2) hA))
def k_c_checksum : List (Nat × Instr × Nat) := [(1487, .aload_n 1, 1), (1488, .invokevirtual 169, 3), (1491, .aload_n 2, 1), (1492, .invokevirtual 172, 3), (1495, .lcmp, 1), (1496, .ifCond .eq 5, 3), (1499, .iconst 0, 1), (1500, .ireturn, 1)]
theorem o_c_checksum : kd k_c_checksum := (by decide +kernel : ∀ q ∈ k_c_checksum, decode code q.1 = .ok q.2)
set_option maxHeartbeats 4000000 in
set_option maxRecDepth 100000 in
theorem cs_checksum (hl : l.stackTraces = false) (hk6 : k < 600) (hw : wA g.1 μ.1 k) (hi : i + 5 < L) (hc : cells + 1 ≤ 601024) (hs : slots + 6 ≤ 7293033) (kk : ∀ ν : fm_St, wA g.1 ν.1 (k + 1) → TL g l b L xs 1501 (llv g b i) [] ν (cells + 1) (slots + 6)) : TL g l b L xs 1487 (llv g b i) [] μ cells slots := by
  refine TL.run o_c_checksum 1 (pc' := 1488) (lv' := (llv g b i)) (st' := [.ref g.1]) rfl ?_
  obtain ⟨x, M1, r2, hC, hr, hx, hA⟩ := ln_checksum (μ := μ) hl hw
  refine TL.callV o_c_checksum (hC) (kd6 g) (by decide) fmc6.1 rfl cw_X6_checksum (lw_in 449 (by decide +kernel) (by decide +kernel)) pn_X6_checksum (Nat.le_of_ble_eq_true rfl) (Nat.le_of_ble_eq_true rfl) (Nat.le_of_ble_eq_true rfl) (by omega) (by omega) rfl ?_
  refine TL.run o_c_checksum 1 (pc' := 1492) (lv' := (llv g b i)) (st' := [.ref (g.1 + 170), .long x]) rfl ?_
  refine TL.callV o_c_checksum (c_X7_checksum g l hl (g.1 + 170) (kd7 g) M1 μ.2 r2 hr) (kd7 g) (by decide) fmc7.1 rfl cw_X7_checksum (lw_in 1469 (by decide +kernel) (by decide +kernel)) pn_X7_checksum (Nat.le_of_ble_eq_true rfl) (Nat.le_of_ble_eq_true rfl) (Nat.le_of_ble_eq_true rfl) (by omega) (by omega) rfl ?_
  refine TL.run o_c_checksum 1 (pc' := 1496) (lv' := (llv g b i)) (st' := [.int (lg_cmp x r2.1)]) rfl ?_
  exact TL.if_eq (tgt := 1501) o_c_checksum rfl (by decide) (fun _ => TL.widen (Nat.le_succ _) (Nat.le_add_right _ _) (kk (r2.2, μ.2) hA)) (fun q => absurd (lg_0 hx.symm) q)
end CS
end
