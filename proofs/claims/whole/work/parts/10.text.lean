/-- the same for a method of a class that has natives, itself none -/
theorem fC.ofF {g : fm_G} {l : Launch} {z : fm_Y} {av : List Value} {μ ν : fm_St} {v : Option Value} (hz : plainFor z.1 = true) (ho : z.2.1 = z.1.cls) (hd : fm_dec z) (hl : l.stackTraces = false) (hL : (lg_sl av).length ≤ z.2.2.2.1)
    (k : Tr g l z (.inr v, ν) 0 (lv_args 0 av) [] μ) : fC g l z av μ (.inr v, ν) := by
  show MetFree l z.1 (headSpec (fm_wl z) (fm_R z (.inr v, ν))) (va_Pc av (fm_Pre g μ)) (fun _ _ _ _ _ => True) (fun a st o t => fm_Qr g v ν a st o t ∧ ∃ L, FrameEnd st o t L 0 0 ∧ ∀ q ∈ L, fm_A g q.base)
  refine MetFree.of_bodyRF (code := z.2.2.1) (maxLocals := z.2.2.2.1) (ret := z.2.2.2.2.1) hz ?_ ?_
  · intro args s m h hn
    obtain ⟨meth, c, h1, h2, h3, h4, h5, h6, -, -⟩ := Cond.code_spec hn (atoms_spec (ws := fm_wl z) h _ List.mem_cons_self)
    exact ⟨meth, c, h1, h2, h3, h4, h5, h6⟩
  · intro p e s m args below meth c s₁ B hml hv _ hsteps
    obtain ⟨rfl, hP, hK, hE⟩ := hv
    have hts := atoms_spec (ws := fm_wl z) B.pre
    have hv := lv_entry av hL
    have hown : s.vm.findClass z.2.1 = some m.cls := by rw [ho]; exact findClass_of_methodNamed B.named
    have hh0 : s₁.heap = s.heap := by rw [B.state]; rfl
    have K := k p e _ s m _ below meth c s.heap [] _ ⟨B.exec, B.bytes, hml, hown, fun w hw => hts w (List.mem_cons_of_mem _ hw), hK, hE, B.returns, B.notSynchronized, rfl, hl, (fun _ h => nomatch h), hd⟩ hP va_S.rf hv
    rw [← lg_entry_eq] at K
    obtain ⟨t, a1, o, b1, b2, b3⟩ := K s₁ hh0 (Stand.of_body B)
    exact ⟨t, o, hsteps.trans a1, b1, b2, ⟨b3.1, b3.2⟩⟩
/-! the JDK methods with contracts of their own -/
def k_S_floatToIntBits : List (Nat × Instr × Nat) := [(0, .fload_n 0, 1), (1, .invokestatic 59, 3), (4, .ifCond .ne 8, 3), (7, .fload_n 0, 1), (8, .invokestatic 74, 3), (11, .ireturn, 1), (12, .ldc 77, 2), (14, .ireturn, 1)]
def z_S_floatToIntBits : fm_Y := (yJxf58ca_floatToIntBits_5c35a, RJxf58ca, cJxf58ca_floatToIntBits_5c35a, 1, (some .int), k_S_floatToIntBits, 4, 120)
theorem o_S_floatToIntBits : fm_dec z_S_floatToIntBits := (by decide +kernel : ∀ q ∈ k_S_floatToIntBits, decode cJxf58ca_floatToIntBits_5c35a q.1 = .ok q.2)
theorem cw_S_floatToIntBits : fm_cwS z_S_floatToIntBits := ⟨⟨lw_in 1425 (by decide +kernel) (by decide +kernel), lw_in 113 (by decide +kernel) (by decide +kernel), by decide, by decide⟩, lw_in 1424 (by decide +kernel) (by decide +kernel)⟩
theorem pn_S_floatToIntBits : (parseMethodDescriptor z_S_floatToIntBits.1.desc).map (fun d => d.parameters.length) = some 1 := by decide +kernel
def k_S_length : List (Nat × Instr × Nat) := [(0, .aload_n 0, 1), (1, .getfield 9, 3), (4, .arraylength, 1), (5, .aload_n 0, 1), (6, .invokevirtual 335, 3), (9, .ishr, 1), (10, .ireturn, 1)]
def z_S_length : fm_Y := (yJ0_length_8abf5, RJ0, cJ0_length_8abf5, 1, (some .int), k_S_length, 4, 120)
theorem o_S_length : fm_dec z_S_length := (by decide +kernel : ∀ q ∈ k_S_length, decode cJ0_length_8abf5 q.1 = .ok q.2)
theorem cw_S_length : fm_cwV z_S_length := ⟨⟨lw_in 687 (by decide +kernel) (by decide +kernel), lw_in 104 (by decide +kernel) (by decide +kernel), by decide, by decide⟩, lw_in 685 (by decide +kernel) (by decide +kernel), lw_in 686 (by decide +kernel) (by decide +kernel)⟩
theorem pn_S_length : (parseMethodDescriptor z_S_length.1.desc).map (fun d => d.parameters.length) = some 0 := by decide +kernel
def k_S_charAt : List (Nat × Instr × Nat) := [(0, .aload_n 0, 1), (1, .invokevirtual 492, 3), (4, .ifCond .eq 12, 3), (7, .aload_n 0, 1), (8, .getfield 9, 3), (11, .iload_n 1, 1), (12, .invokestatic 495, 3), (15, .ireturn, 1), (16, .aload_n 0, 1), (17, .getfield 9, 3), (20, .iload_n 1, 1), (21, .invokestatic 498, 3), (24, .ireturn, 1)]
def z_S_charAt : fm_Y := (yJ0_charAt_5068e, RJ0, cJ0_charAt_5068e, 2, (some .char), k_S_charAt, 4, 120)
theorem o_S_charAt : fm_dec z_S_charAt := (by decide +kernel : ∀ q ∈ k_S_charAt, decode cJ0_charAt_5068e q.1 = .ok q.2)
theorem cw_S_charAt : fm_cwV z_S_charAt := ⟨⟨lw_in 697 (by decide +kernel) (by decide +kernel), lw_in 104 (by decide +kernel) (by decide +kernel), by decide, by decide⟩, lw_in 695 (by decide +kernel) (by decide +kernel), lw_in 696 (by decide +kernel) (by decide +kernel)⟩
theorem pn_S_charAt : (parseMethodDescriptor z_S_charAt.1.desc).map (fun d => d.parameters.length) = some 1 := by decide +kernel
def f_S_length (i : Nat) : Option Int32 := some (Int32.ofNat (fm_slen.getD i 0))
def f_S_charAt (i : Nat) (k : Int32) : Option Int32 := fm_ck (fm_in k (fm_slen.getD i 0)) (some ((fm_sbyt.getD i []).getD k.toNatClampNeg 0))
def f_S_floatToIntBits (x : UInt32) : Option Int32 := fm_ck (fm_f32 x) (some x.toInt32)
theorem c_S_length (g : fm_G) (l : Launch) (hl : l.stackTraces = false) (i : Nat) (hi : i < 6) (M : fm_Mem) (w : fm_W) : ∀ r, f_S_length i = some r → fC g l z_S_length [.ref (g.2.2.2.1 i)] (M, w) (emI M w r) := by sorry
theorem c_S_charAt (g : fm_G) (l : Launch) (hl : l.stackTraces = false) (i : Nat) (k : Int32) (hi : i < 6) (M : fm_Mem) (w : fm_W) : ∀ r, f_S_charAt i k = some r → fC g l z_S_charAt [.ref (g.2.2.2.1 i), .int k] (M, w) (emI M w r) := by sorry
theorem c_S_floatToIntBits (g : fm_G) (l : Launch) (hl : l.stackTraces = false) (x : UInt32) (M : fm_Mem) (w : fm_W) : ∀ r, f_S_floatToIntBits x = some r → fC g l z_S_floatToIntBits [.float x] (M, w) (emI M w r) := by sorry
