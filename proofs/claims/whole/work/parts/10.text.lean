section LDCWF
variable {p : Program} {l : Launch} {e : Env} {R : Room} {s : State} {m : MethodId} {args : Array Value} {below : List Frame} {meth : Method} {c : Code} {locs : List Loc} {cells slots : Nat}
theorem fm_ldcwF {T : State} (X : Stand p l e R s m args below meth c T locs cells slots) (hexec : p.tables.exec = Jvm.exec) {own : String} {index : Nat} {v : UInt32} (hown : s.vm.findClass own = some m.cls)
    (hconst : (Cond.constantFloat own index v).before args s = true) {g : JFrame} (hg : g.method = m) (hdg : decode c.code g.pc = .ok (.ldc_w index, 3)) :
    ∀ target, Steps p.tables e below (T.setTop { g with pc := g.pc + 3, stack := .float v :: g.stack }) target → Steps p.tables e below (T.setTop g) target := by
  obtain ⟨k, cf, hk, hcf, hcp⟩ := Cond.constantFloat_spec hown hconst
  obtain ⟨k', hk', he⟩ := X.warmed.alike.2.2 _ _ hk
  intro target hrest
  subst hg
  jvm_step X.here [hexec, hdg, ldc_w.wp_float (s := T) (f := g) X.here.top hk' (by rw [he]; exact hcf) hcp]
  exact hrest
end LDCWF
theorem Tr.ldcwF {g : fm_G} {l : Launch} {z : fm_Y} {o : fm_O} {pc : Nat} {lv : List (Nat × Value)} {rest : List Value} {μ : fm_St} {idx : Nat} {v : UInt32} (hl : fm_lk z.2.2.2.2.2.1 pc = some (.ldc_w idx, 3)) (hw : Cond.constantFloat z.2.1 idx v ∈ lw_all) (kk : Tr g l z o (pc + 3) lv (.float v :: rest) μ) : Tr g l z o pc lv rest μ := by
  intro p e R s m args below meth c H locs ls hA hP hS hv T hT X
  obtain ⟨t, a, b⟩ := kk p e R s m args below meth c H locs ls hA hP hS hv T hT X
  exact ⟨t, fm_ldcwF X hA.x hA.own (hA.ts _ hw) (g := F0 m pc ls rest) rfl (by rw [hA.b]; exact hA.dg hl) t a, b⟩
/-- the same for a method of a class that has natives, itself none -/
theorem fC.ofF {g : fm_G} {l : Launch} {z : fm_Y} {av : List Value} {μ ν : fm_St} {v : Option Value} (hz : plainFor z.1 = true) (ho : z.2.1 = z.1.cls) (hd : fm_dec z) (hl : l.stackTraces = false) (hL : (lg_sl av).length ≤ z.2.2.2.1)
    (k : Tr g l z (.inr v, ν) 0 (lv_args 0 av) [] μ) : fC g l z av μ (.inr v, ν) := by
  show MetFree l z.1 (headSpec (fm_wl z) (fm_R z (.inr v, ν))) (va_Pc av (fm_Pre g μ)) (fun _ _ _ _ _ => True) (fun a st o t => fm_Qr g v ν a st o t ∧ ∃ L, FrameEnd st o t L 0 0 ∧ ∀ q ∈ L, fm_A g q.base)
  refine MetFree.of_bodyRF (code := z.2.2.1) (maxLocals := z.2.2.2.1) (ret := z.2.2.2.2.1) hz ?_ ?_
  · intro args s m h hn
    obtain ⟨meth, c, h1, h2, h3, h4, h5, h6, -, -⟩ := Cond.code_spec hn (atoms_spec (ws := fm_wl z) h _ List.mem_cons_self)
    exact ⟨meth, c, h1, h2, h3, h4, h5, h6⟩
  · intro p e s m args below meth c s₁ B hml hv _ hsteps
    obtain ⟨rfl, hP, hK, hE⟩ := hv
    have hts := atoms_spec (ws := fm_wl z) B.pre
    have hv := lv_entry av hL
    have hown : s.vm.findClass z.2.1 = some m.cls := by rw [ho]; exact findClass_of_methodNamed B.named
    have hh0 : s₁.heap = s.heap := by rw [B.state]; rfl
    have K := k p e _ s m _ below meth c s.heap [] _ ⟨B.exec, B.bytes, hml, hown, fun w hw => hts w (List.mem_cons_of_mem _ hw), hK, hE, B.returns, B.notSynchronized, rfl, hl, (fun _ h => nomatch h), hd⟩ hP va_S.rf hv
    rw [← lg_entry_eq] at K
    obtain ⟨t, a1, o, b1, b2, b3⟩ := K s₁ hh0 (Stand.of_body B)
    exact ⟨t, o, hsteps.trans a1, b1, b2, ⟨b3.1, b3.2⟩⟩
/-! the JDK's methods that are reached -/
def k_S_chk3 : List (Nat × Instr × Nat) := [(0, .iload_n 0, 1), (1, .ifCond .lt 8, 3), (4, .iload_n 0, 1), (5, .iload_n 1, 1), (6, .if_icmp .lt 10, 3), (9, .aload_n 2, 1), (10, .iload_n 0, 1), (11, .iload_n 1, 1), (12, .invokestatic 95, 3), (15, .athrow, 1), (16, .iload_n 0, 1), (17, .ireturn, 1)]
def z_S_chk3 : fm_Y := (yJ3_checkIndex_8e157, RJ3, cJ3_checkIndex_8e157, 3, (some .int), k_S_chk3, 0, 0)
theorem o_S_chk3 : fm_dec z_S_chk3 := (by decide +kernel : ∀ q ∈ k_S_chk3, decode cJ3_checkIndex_8e157 q.1 = .ok q.2)
theorem cw_S_chk3 : fm_cwS z_S_chk3 := ⟨⟨lw_in 712 (by decide +kernel) (by decide +kernel), lw_in 106 (by decide +kernel) (by decide +kernel), by decide, by decide⟩, lw_in 711 (by decide +kernel) (by decide +kernel)⟩
theorem pn_S_chk3 : (parseMethodDescriptor z_S_chk3.1.desc).map (fun d => d.parameters.length) = some 3 := by decide +kernel
def k_S_chk : List (Nat × Instr × Nat) := [(0, .iload_n 0, 1), (1, .iload_n 1, 1), (2, .getstatic 1053, 3), (5, .invokestatic 1059, 3), (8, .pop, 1), (9, .return_, 1)]
def z_S_chk : fm_Y := (yJ0_checkIndex_df160, RJ0, cJ0_checkIndex_df160, 2, none, k_S_chk, 1, 40)
theorem o_S_chk : fm_dec z_S_chk := (by decide +kernel : ∀ q ∈ k_S_chk, decode cJ0_checkIndex_df160 q.1 = .ok q.2)
theorem cw_S_chk : fm_cwS z_S_chk := ⟨⟨lw_in 707 (by decide +kernel) (by decide +kernel), lw_in 104 (by decide +kernel) (by decide +kernel), by decide, by decide⟩, lw_in 706 (by decide +kernel) (by decide +kernel)⟩
theorem pn_S_chk : (parseMethodDescriptor z_S_chk.1.desc).map (fun d => d.parameters.length) = some 2 := by decide +kernel
def k_S_lat : List (Nat × Instr × Nat) := [(0, .iload_n 1, 1), (1, .aload_n 0, 1), (2, .arraylength, 1), (3, .invokestatic 9, 3), (6, .aload_n 0, 1), (7, .iload_n 1, 1), (8, .baload, 1), (9, .sipush 255, 3), (12, .iand, 1), (13, .i2c, 1), (14, .ireturn, 1)]
def z_S_lat : fm_Y := (yJ1_charAt_3b067, RJ1, cJ1_charAt_3b067, 2, (some .char), k_S_lat, 2, 80)
theorem o_S_lat : fm_dec z_S_lat := (by decide +kernel : ∀ q ∈ k_S_lat, decode cJ1_charAt_3b067 q.1 = .ok q.2)
theorem cw_S_lat : fm_cwS z_S_lat := ⟨⟨lw_in 704 (by decide +kernel) (by decide +kernel), lw_in 105 (by decide +kernel) (by decide +kernel), by decide, by decide⟩, lw_in 703 (by decide +kernel) (by decide +kernel)⟩
theorem pn_S_lat : (parseMethodDescriptor z_S_lat.1.desc).map (fun d => d.parameters.length) = some 2 := by decide +kernel
def k_S_coder : List (Nat × Instr × Nat) := [(0, .getstatic 38, 3), (3, .ifCond .eq 10, 3), (6, .aload_n 0, 1), (7, .getfield 15, 3), (10, .goto 4, 3), (13, .iconst 1, 1), (14, .ireturn, 1)]
def z_S_coder : fm_Y := (yJ0_coder_7d493, RJ0, cJ0_coder_7d493, 1, (some .byte), k_S_coder, 0, 0)
theorem o_S_coder : fm_dec z_S_coder := (by decide +kernel : ∀ q ∈ k_S_coder, decode cJ0_coder_7d493 q.1 = .ok q.2)
theorem cw_S_coder : fm_cwV z_S_coder := ⟨⟨lw_in 691 (by decide +kernel) (by decide +kernel), lw_in 104 (by decide +kernel) (by decide +kernel), by decide, by decide⟩, lw_in 689 (by decide +kernel) (by decide +kernel), lw_in 690 (by decide +kernel) (by decide +kernel)⟩
theorem pn_S_coder : (parseMethodDescriptor z_S_coder.1.desc).map (fun d => d.parameters.length) = some 0 := by decide +kernel
def k_S_isLat : List (Nat × Instr × Nat) := [(0, .getstatic 38, 3), (3, .ifCond .eq 14, 3), (6, .aload_n 0, 1), (7, .getfield 15, 3), (10, .ifCond .ne 7, 3), (13, .iconst 1, 1), (14, .goto 4, 3), (17, .iconst 0, 1), (18, .ireturn, 1)]
def z_S_isLat : fm_Y := (yJ0_isLatin1_aae02, RJ0, cJ0_isLatin1_aae02, 1, (some .boolean), k_S_isLat, 0, 0)
theorem o_S_isLat : fm_dec z_S_isLat := (by decide +kernel : ∀ q ∈ k_S_isLat, decode cJ0_isLatin1_aae02 q.1 = .ok q.2)
theorem cw_S_isLat : fm_cwV z_S_isLat := ⟨⟨lw_in 701 (by decide +kernel) (by decide +kernel), lw_in 104 (by decide +kernel) (by decide +kernel), by decide, by decide⟩, lw_in 699 (by decide +kernel) (by decide +kernel), lw_in 700 (by decide +kernel) (by decide +kernel)⟩
theorem pn_S_isLat : (parseMethodDescriptor z_S_isLat.1.desc).map (fun d => d.parameters.length) = some 0 := by decide +kernel
def k_S_isNaN : List (Nat × Instr × Nat) := [(0, .fload_n 0, 1), (1, .fload_n 0, 1), (2, .fcmp .l, 1), (3, .ifCond .eq 7, 3), (6, .iconst 1, 1), (7, .goto 4, 3), (10, .iconst 0, 1), (11, .ireturn, 1)]
def z_S_isNaN : fm_Y := (yJxf58ca_isNaN_12338, RJxf58ca, cJxf58ca_isNaN_12338, 1, (some .boolean), k_S_isNaN, 0, 0)
theorem o_S_isNaN : fm_dec z_S_isNaN := (by decide +kernel : ∀ q ∈ k_S_isNaN, decode cJxf58ca_isNaN_12338 q.1 = .ok q.2)
theorem cw_S_isNaN : fm_cwS z_S_isNaN := ⟨⟨lw_in 1428 (by decide +kernel) (by decide +kernel), lw_in 113 (by decide +kernel) (by decide +kernel), by decide, by decide⟩, lw_in 1427 (by decide +kernel) (by decide +kernel)⟩
theorem pn_S_isNaN : (parseMethodDescriptor z_S_isNaN.1.desc).map (fun d => d.parameters.length) = some 1 := by decide +kernel
def k_S_length : List (Nat × Instr × Nat) := [(0, .aload_n 0, 1), (1, .getfield 9, 3), (4, .arraylength, 1), (5, .aload_n 0, 1), (6, .invokevirtual 335, 3), (9, .ishr, 1), (10, .ireturn, 1)]
def z_S_length : fm_Y := (yJ0_length_8abf5, RJ0, cJ0_length_8abf5, 1, (some .int), k_S_length, 4, 120)
theorem o_S_length : fm_dec z_S_length := (by decide +kernel : ∀ q ∈ k_S_length, decode cJ0_length_8abf5 q.1 = .ok q.2)
theorem cw_S_length : fm_cwV z_S_length := ⟨⟨lw_in 687 (by decide +kernel) (by decide +kernel), lw_in 104 (by decide +kernel) (by decide +kernel), by decide, by decide⟩, lw_in 685 (by decide +kernel) (by decide +kernel), lw_in 686 (by decide +kernel) (by decide +kernel)⟩
theorem pn_S_length : (parseMethodDescriptor z_S_length.1.desc).map (fun d => d.parameters.length) = some 0 := by decide +kernel
def k_S_charAt : List (Nat × Instr × Nat) := [(0, .aload_n 0, 1), (1, .invokevirtual 492, 3), (4, .ifCond .eq 12, 3), (7, .aload_n 0, 1), (8, .getfield 9, 3), (11, .iload_n 1, 1), (12, .invokestatic 495, 3), (15, .ireturn, 1), (16, .aload_n 0, 1), (17, .getfield 9, 3), (20, .iload_n 1, 1), (21, .invokestatic 498, 3), (24, .ireturn, 1)]
def z_S_charAt : fm_Y := (yJ0_charAt_5068e, RJ0, cJ0_charAt_5068e, 2, (some .char), k_S_charAt, 4, 120)
theorem o_S_charAt : fm_dec z_S_charAt := (by decide +kernel : ∀ q ∈ k_S_charAt, decode cJ0_charAt_5068e q.1 = .ok q.2)
theorem cw_S_charAt : fm_cwV z_S_charAt := ⟨⟨lw_in 697 (by decide +kernel) (by decide +kernel), lw_in 104 (by decide +kernel) (by decide +kernel), by decide, by decide⟩, lw_in 695 (by decide +kernel) (by decide +kernel), lw_in 696 (by decide +kernel) (by decide +kernel)⟩
theorem pn_S_charAt : (parseMethodDescriptor z_S_charAt.1.desc).map (fun d => d.parameters.length) = some 1 := by decide +kernel
def k_S_floatToIntBits : List (Nat × Instr × Nat) := [(0, .fload_n 0, 1), (1, .invokestatic 59, 3), (4, .ifCond .ne 8, 3), (7, .fload_n 0, 1), (8, .invokestatic 74, 3), (11, .ireturn, 1), (12, .ldc 77, 2), (14, .ireturn, 1)]
def z_S_floatToIntBits : fm_Y := (yJxf58ca_floatToIntBits_5c35a, RJxf58ca, cJxf58ca_floatToIntBits_5c35a, 1, (some .int), k_S_floatToIntBits, 4, 120)
theorem o_S_floatToIntBits : fm_dec z_S_floatToIntBits := (by decide +kernel : ∀ q ∈ k_S_floatToIntBits, decode cJxf58ca_floatToIntBits_5c35a q.1 = .ok q.2)
theorem cw_S_floatToIntBits : fm_cwS z_S_floatToIntBits := ⟨⟨lw_in 1425 (by decide +kernel) (by decide +kernel), lw_in 113 (by decide +kernel) (by decide +kernel), by decide, by decide⟩, lw_in 1424 (by decide +kernel) (by decide +kernel)⟩
theorem pn_S_floatToIntBits : (parseMethodDescriptor z_S_floatToIntBits.1.desc).map (fun d => d.parameters.length) = some 1 := by decide +kernel

section TXT
variable {g : fm_G} {l : Launch} {z : fm_Y} {o : fm_O} {pc : Nat} {lv : List (Nat × Value)} {st rest : List Value} {μ : fm_St}
theorem Tr.nret {v : Int32} {ty : FieldType} (hl : fm_lk z.2.2.2.2.2.1 pc = some (.ireturn, 1)) (hr : z.2.2.2.2.1 = some ty) (hn : narrow ty (.int v) = .int v) : Tr g l z (.inr (some (.int v)), μ) pc lv [.int v] μ := by
  intro p e R s m args below meth c H locs ls hA hP hS hv
  exact W.zret hA.x hA.b (hA.ret.trans hr) hn (fun t ht hW => ⟨rfl, by rw [ht]; exact hP, hS.F ht⟩) hS.2.2 (hA.dg hl) hA.lock
theorem Tr.compact {idx : Nat} (hl : fm_lk z.2.2.2.2.2.1 pc = some (.getstatic idx, 3)) (hw : Cond.fieldLink z.2.1 idx "java/lang/String" "COMPACT_STRINGS" "Z" ∈ lw_all) (kk : Tr g l z o (pc + 3) lv (.int 1 :: rest) μ) : Tr g l z o pc lv rest μ := by
  intro p e R s m args below meth c H locs ls hA hP hS hv
  exact va_gets hA.x hA.b hA.e.2.2.1 hS hA.own (hA.ts _ hw) (fun _ h => h) (hA.dg hl) (kk p e R s m args below meth c H locs ls hA hP hS hv)
theorem Tr.sioobe {idx : Nat} (hl : fm_lk z.2.2.2.2.2.1 pc = some (.getstatic idx, 3)) (hw : Cond.fieldLink z.2.1 idx "jdk/internal/util/Preconditions" "SIOOBE_FORMATTER" "Ljava/util/function/BiFunction;" ∈ lw_all) (kk : ∀ q : Value, q.category = 1 → Tr g l z o (pc + 3) lv (q :: rest) μ) : Tr g l z o pc lv rest μ := by
  intro p e R s m args below meth c H locs ls hA hP hS hv
  rcases hA.e.2.2.2.1 with h | ⟨t, h⟩
  · exact va_gets hA.x hA.b h hS hA.own (hA.ts _ hw) (fun _ h => h) (hA.dg hl) (kk .null rfl p e R s m args below meth c H locs ls hA hP hS hv)
  · exact va_gets hA.x hA.b h hS hA.own (hA.ts _ hw) (fun _ h => h) (hA.dg hl) (kk (.ref t) rfl p e R s m args below meth c H locs ls hA hP hS hv)
theorem Tr.sval {i idx : Nat} (hi : i < 6) (hl : fm_lk z.2.2.2.2.2.1 pc = some (.getfield idx, 3)) (hw : Cond.fieldLink z.2.1 idx "java/lang/String" "value" "[B" ∈ lw_all) (kk : Tr g l z o (pc + 3) lv (.ref (g.2.2.2.2 i) :: rest) μ) : Tr g l z o pc lv (.ref (g.2.2.2.1 i) :: rest) μ := by
  intro p e R s m args below meth c H locs ls hA hP hS hv
  exact vk_getf hA.x hA.b ((hA.e.2.2.2.2.1 i hi).1 0 (by decide)).2.2.1 hS hA.own (hA.ts _ hw) (fun _ h => h) (hA.dg hl) (kk p e R s m args below meth c H locs ls hA hP hS hv)
theorem Tr.scod {i idx : Nat} (hi : i < 6) (hl : fm_lk z.2.2.2.2.2.1 pc = some (.getfield idx, 3)) (hw : Cond.fieldLink z.2.1 idx "java/lang/String" "coder" "B" ∈ lw_all) (kk : Tr g l z o (pc + 3) lv (.int 0 :: rest) μ) : Tr g l z o pc lv (.ref (g.2.2.2.1 i) :: rest) μ := by
  intro p e R s m args below meth c H locs ls hA hP hS hv
  exact vk_getf hA.x hA.b ((hA.e.2.2.2.2.1 i hi).1 0 (by decide)).2.1 hS hA.own (hA.ts _ hw) (fun _ h => h) (hA.dg hl) (kk p e R s m args below meth c H locs ls hA hP hS hv)
theorem Tr.slen {i : Nat} (hi : i < 6) (hl : fm_lk z.2.2.2.2.2.1 pc = some (.arraylength, 1)) (kk : Tr g l z o (pc + 1) lv (.int (Int32.ofNat (fm_slen.getD i 0)) :: rest) μ) : Tr g l z o pc lv (.ref (g.2.2.2.2 i) :: rest) μ := by
  intro p e R s m args below meth c H locs ls hA hP hS hv
  exact va_tlen hA.x hA.b ((hA.e.2.2.2.2.1 i hi).1 0 (by decide)).2.2.2 hS rfl (hA.dg hl) (kk p e R s m args below meth c H locs ls hA hP hS hv)
theorem Tr.sbyt {i : Nat} {k : Int32} (hi : i < 6) (hk : fm_in k (fm_slen.getD i 0) = true) (hl : fm_lk z.2.2.2.2.2.1 pc = some (.baload, 1)) (kk : Tr g l z o (pc + 1) lv (.int ((fm_sbyt.getD i []).getD k.toNatClampNeg 0) :: rest) μ) : Tr g l z o pc lv (.int k :: .ref (g.2.2.2.2 i) :: rest) μ := by
  intro p e R s m args below meth c H locs ls hA hP hS hv
  exact va_tb hA.x hA.b ((hA.e.2.2.2.2.1 i hi).1 0 (by decide)).2.2.2 hS (fm_in_vp hk) rfl (hA.dg hl) (kk p e R s m args below meth c H locs ls hA hP hS hv)
theorem Tr.i2c {x : Int32} (hl : fm_lk z.2.2.2.2.2.1 pc = some (.i2c, 1)) (kk : Tr g l z o (pc + 1) lv (.int (x.toUInt32 % 65536).toInt32 :: rest) μ) : Tr g l z o pc lv (.int x :: rest) μ :=
  fun p e R s m args below meth c H locs ls hA hP hS hv => lv_i2c hA.x hA.b (hA.dg hl) rfl (kk p e R s m args below meth c H locs ls hA hP hS hv)
theorem Tr.rawbits {x : UInt32} {idx : Nat} (hl : fm_lk z.2.2.2.2.2.1 pc = some (.invokestatic idx, 3)) (hw : Cond.methodLink z.2.1 idx ⟨"java/lang/Float", "floatToRawIntBits", "(F)I"⟩ ∈ lw_all) (hF : 1 ≤ z.2.2.2.2.2.2.1) (hLo : (rest.map fun v => v.category).sum + 15 ≤ z.2.2.2.2.2.2.2) (kk : Tr g l z o (pc + 3) lv (.int x.toInt32 :: rest) μ) : Tr g l z o pc lv (.float x :: rest) μ := by
  intro p e R s m args below meth c H locs ls hA hP hS hv
  have hR := hA.room
  subst hR
  exact vn_f2i hA.x hA.b (hA.ml.trans hv.1.symm) hA.own (hA.ts _ hw) (hA.ts _ (lw_in 1431 (by decide +kernel) (by decide +kernel))) (hA.ts _ (lw_in 1430 (by decide +kernel) (by decide +kernel))) (hA.ts _ (lw_in 113 (by decide +kernel) (by decide +kernel))) hF hLo (hA.dg hl) (kk p e _ s m args below meth c H locs ls hA hP hS hv)
end TXT
theorem c_S_coder (g : fm_G) (l : Launch) (hl : l.stackTraces = false) (i : Nat) (hi : i < 6) (μ : fm_St) : fC g l z_S_coder [.ref (g.2.2.2.1 i)] μ (.inr (some (.int 0)), μ) := by
  refine fC.ofF (by decide +kernel) rfl o_S_coder hl (Nat.le_of_ble_eq_true rfl) ?_
  refine Tr.compact rfl (lw_in 692 (by decide +kernel) (by decide +kernel)) ?_
  refine Tr.if_eq (tgt := 13) rfl (by decide) (fun h => absurd h (by decide)) (fun _ => ?_)
  refine Tr.run 1 (pc' := 7) (lv' := [(0, .ref (g.2.2.2.1 i))]) (st' := [.ref (g.2.2.2.1 i)]) rfl ?_
  refine Tr.scod hi rfl (lw_in 1495 (by decide +kernel) (by decide +kernel)) ?_
  refine Tr.run 1 (pc' := 14) (lv' := [(0, .ref (g.2.2.2.1 i))]) (st' := [.int 0]) rfl ?_
  exact Tr.nret rfl rfl (by decide +kernel)
theorem c_S_isLat (g : fm_G) (l : Launch) (hl : l.stackTraces = false) (i : Nat) (hi : i < 6) (μ : fm_St) : fC g l z_S_isLat [.ref (g.2.2.2.1 i)] μ (.inr (some (.int 1)), μ) := by
  refine fC.ofF (by decide +kernel) rfl o_S_isLat hl (Nat.le_of_ble_eq_true rfl) ?_
  refine Tr.compact rfl (lw_in 692 (by decide +kernel) (by decide +kernel)) ?_
  refine Tr.if_eq (tgt := 17) rfl (by decide) (fun h => absurd h (by decide)) (fun _ => ?_)
  refine Tr.run 1 (pc' := 7) (lv' := [(0, .ref (g.2.2.2.1 i))]) (st' := [.ref (g.2.2.2.1 i)]) rfl ?_
  refine Tr.scod hi rfl (lw_in 1495 (by decide +kernel) (by decide +kernel)) ?_
  refine Tr.if_ne (tgt := 17) rfl (by decide) (fun h => absurd rfl h) (fun _ => ?_)
  refine Tr.run 2 (pc' := 18) (lv' := [(0, .ref (g.2.2.2.1 i))]) (st' := [.int 1]) rfl ?_
  exact Tr.nret rfl rfl (by decide +kernel)
theorem c_S_chk3 (g : fm_G) (l : Launch) (hl : l.stackTraces = false) (k n : Int32) (q : Value) (hq : q.category = 1) (h0 : ¬ k < 0) (h1 : k < n) (μ : fm_St) : fC g l z_S_chk3 [.int k, .int n, q] μ (.inr (some (.int k)), μ) := by
  have hlv : lv_args 0 [.int k, .int n, q] = [(0, .int k), (1, .int n), (2, q)] := rfl
  have hsl : (lg_sl [.int k, .int n, q]).length = 3 := by
    cases q <;> first | rfl | (exact absurd (show (2 : Nat) = 1 from hq) (by decide))
  refine fC.ofF (by decide +kernel) rfl o_S_chk3 hl (by rw [hsl]; exact Nat.le_of_ble_eq_true rfl) ?_
  rw [hlv]
  refine Tr.run 1 (pc' := 1) (lv' := [(0, .int k), (1, .int n), (2, q)]) (st' := [.int k]) rfl ?_
  refine Tr.if_lt (tgt := 9) rfl (by decide) (fun h => absurd h h0) (fun _ => ?_)
  refine Tr.run 2 (pc' := 6) (lv' := [(0, .int k), (1, .int n), (2, q)]) (st' := [.int n, .int k]) rfl ?_
  refine Tr.ic_lt (tgt := 16) rfl (by decide) (fun _ => ?_) (fun h => absurd h1 h)
  refine Tr.run 1 (pc' := 17) (lv' := [(0, .int k), (1, .int n), (2, q)]) (st' := [.int k]) rfl ?_
  exact Tr.iret rfl rfl
theorem c_S_chk (g : fm_G) (l : Launch) (hl : l.stackTraces = false) (k n : Int32) (h0 : ¬ k < 0) (h1 : k < n) (μ : fm_St) : fC g l z_S_chk [.int k, .int n] μ (.inr none, μ) := by
  refine fC.ofF (by decide +kernel) rfl o_S_chk hl (Nat.le_of_ble_eq_true rfl) ?_
  refine Tr.run 2 (pc' := 2) (lv' := [(0, .int k), (1, .int n)]) (st' := [.int n, .int k]) rfl ?_
  refine Tr.sioobe rfl (lw_in 708 (by decide +kernel) (by decide +kernel)) (fun q hq => ?_)
  refine Tr.callS (As := [.int k, .int n, q]) (rest := []) (c_S_chk3 g l hl k n q hq h0 h1 μ) rfl cw_S_chk3 (lw_in 710 (by decide +kernel) (by decide +kernel)) pn_S_chk3 (Nat.le_of_ble_eq_true rfl) (Nat.le_of_ble_eq_true rfl) (Nat.le_of_ble_eq_true rfl) rfl ?_
  refine Tr.run 1 (pc' := 9) (lv' := [(0, .int k), (1, .int n)]) (st' := []) rfl ?_
  exact Tr.vret rfl rfl
theorem fm_sb_ok : ∀ i, i < 6 → ∀ j, j < fm_slen.getD i 0 → (((fm_sbyt.getD i []).getD j 0 &&& 255).toUInt32 % 65536).toInt32 = (fm_sbyt.getD i []).getD j 0 ∧ narrow .char (.int ((fm_sbyt.getD i []).getD j 0)) = .int ((fm_sbyt.getD i []).getD j 0) := by decide +kernel
theorem fm_in_nl {k : Int32} {n : Nat} (hn : n < 2 ^ 31) (h : fm_in k n = true) : ¬ k < 0 ∧ k < Int32.ofNat n ∧ k.toNatClampNeg < n := by
  unfold fm_in at h
  rw [Bool.and_eq_true, Bool.not_eq_true', decide_eq_false_iff_not, decide_eq_true_eq] at h
  refine ⟨h.1, ?_, h.2⟩
  have h0 : (0 : Int) ≤ k.toInt := by
    have h2 := h.1
    rw [Int32.lt_iff_toInt_lt] at h2
    exact Int.not_lt.mp h2
  rw [Int32.lt_iff_toInt_lt, Int32.toInt_ofNat_of_lt (by omega)]
  have h3 : k.toInt.toNat = k.toNatClampNeg := rfl
  omega
theorem c_S_lat (g : fm_G) (l : Launch) (hl : l.stackTraces = false) (i : Nat) (k : Int32) (hi : i < 6) (hk : fm_in k (fm_slen.getD i 0) = true) (μ : fm_St) : fC g l z_S_lat [.ref (g.2.2.2.2 i), .int k] μ (.inr (some (.int ((fm_sbyt.getD i []).getD k.toNatClampNeg 0))), μ) := by
  have hn : fm_slen.getD i 0 < 2 ^ 31 := by
    have h : ∀ i, i < 6 → fm_slen.getD i 0 < 2 ^ 31 := by decide +kernel
    exact h i hi
  obtain ⟨h0, h1, h2⟩ := fm_in_nl hn hk
  obtain ⟨h3, h4⟩ := fm_sb_ok i hi k.toNatClampNeg h2
  refine fC.ofF (by decide +kernel) rfl o_S_lat hl (Nat.le_of_ble_eq_true rfl) ?_
  refine Tr.run 2 (pc' := 2) (lv' := [(0, .ref (g.2.2.2.2 i)), (1, .int k)]) (st' := [.ref (g.2.2.2.2 i), .int k]) rfl ?_
  refine Tr.slen hi rfl ?_
  refine Tr.callS (As := [.int k, .int (Int32.ofNat (fm_slen.getD i 0))]) (rest := []) (c_S_chk g l hl k _ h0 h1 μ) rfl cw_S_chk (lw_in 705 (by decide +kernel) (by decide +kernel)) pn_S_chk (Nat.le_of_ble_eq_true rfl) (Nat.le_of_ble_eq_true rfl) (Nat.le_of_ble_eq_true rfl) rfl ?_
  refine Tr.run 2 (pc' := 8) (lv' := [(0, .ref (g.2.2.2.2 i)), (1, .int k)]) (st' := [.int k, .ref (g.2.2.2.2 i)]) rfl ?_
  refine Tr.sbyt hi hk rfl ?_
  refine Tr.run 2 (pc' := 13) (lv' := [(0, .ref (g.2.2.2.2 i)), (1, .int k)]) (st' := [.int ((fm_sbyt.getD i []).getD k.toNatClampNeg 0 &&& 255)]) rfl ?_
  refine Tr.i2c rfl ?_
  rw [h3]
  exact Tr.nret rfl rfl h4
theorem fm_bo0 : fm_bo 0 = true := by decide
theorem fm_bo1 : fm_bo 1 = true := by decide
def f_S_length (i : Nat) : Option Int32 := some (Int32.ofNat (fm_slen.getD i 0))
def f_S_charAt (i : Nat) (k : Int32) : Option Int32 := fm_ck (fm_in k (fm_slen.getD i 0)) (some ((fm_sbyt.getD i []).getD k.toNatClampNeg 0))
def f_S_floatToIntBits (x : UInt32) : Option Int32 := fm_ck (decide (Op.cmpValue (FP.fcmp x x) CmpOp.l = 0)) (some x.toInt32)
theorem c_S_length (g : fm_G) (l : Launch) (hl : l.stackTraces = false) (i : Nat) (hi : i < 6) (M : fm_Mem) (w : fm_W) : ∀ r, f_S_length i = some r → fC g l z_S_length [.ref (g.2.2.2.1 i)] (M, w) (emI M w r) := by
  intro r hr
  cases hr
  refine fC.ofF (by decide +kernel) rfl o_S_length hl (Nat.le_of_ble_eq_true rfl) ?_
  refine Tr.run 1 (pc' := 1) (lv' := [(0, .ref (g.2.2.2.1 i))]) (st' := [.ref (g.2.2.2.1 i)]) rfl ?_
  refine Tr.sval hi rfl (lw_in 1494 (by decide +kernel) (by decide +kernel)) ?_
  refine Tr.slen hi rfl ?_
  refine Tr.run 1 (pc' := 6) (lv' := [(0, .ref (g.2.2.2.1 i))]) (st' := [.ref (g.2.2.2.1 i), .int (Int32.ofNat (fm_slen.getD i 0))]) rfl ?_
  refine Tr.callT (As := []) (rest := [.int (Int32.ofNat (fm_slen.getD i 0))]) (c_S_coder g l hl i hi (M, w)) hi rfl rfl cw_S_coder (lw_in 688 (by decide +kernel) (by decide +kernel)) pn_S_coder (Nat.le_of_ble_eq_true rfl) (Nat.le_of_ble_eq_true rfl) (Nat.le_of_ble_eq_true rfl) rfl ?_
  have h : ∀ i, i < 6 → Int32.ofNat (fm_slen.getD i 0) >>> ((0 : Int32) &&& 31) = Int32.ofNat (fm_slen.getD i 0) := by decide +kernel
  refine Tr.run 1 (pc' := 10) (lv' := [(0, .ref (g.2.2.2.1 i))]) (st' := [.int (Int32.ofNat (fm_slen.getD i 0) >>> ((0 : Int32) &&& 31))]) rfl ?_
  rw [h i hi]
  exact Tr.iret rfl rfl
theorem c_S_charAt (g : fm_G) (l : Launch) (hl : l.stackTraces = false) (i : Nat) (k : Int32) (hi : i < 6) (M : fm_Mem) (w : fm_W) : ∀ r, f_S_charAt i k = some r → fC g l z_S_charAt [.ref (g.2.2.2.1 i), .int k] (M, w) (emI M w r) := by
  intro r hr
  obtain ⟨hk, h1⟩ := fm_ck_eq hr
  cases h1
  have hn : fm_slen.getD i 0 < 2 ^ 31 := by
    have h : ∀ i, i < 6 → fm_slen.getD i 0 < 2 ^ 31 := by decide +kernel
    exact h i hi
  obtain ⟨h0, h1, h2⟩ := fm_in_nl hn hk
  obtain ⟨h3, h4⟩ := fm_sb_ok i hi k.toNatClampNeg h2
  refine fC.ofF (by decide +kernel) rfl o_S_charAt hl (Nat.le_of_ble_eq_true rfl) ?_
  refine Tr.run 1 (pc' := 1) (lv' := [(0, .ref (g.2.2.2.1 i)), (1, .int k)]) (st' := [.ref (g.2.2.2.1 i)]) rfl ?_
  refine Tr.callT (As := []) (rest := []) (c_S_isLat g l hl i hi (M, w)) hi rfl rfl cw_S_isLat (lw_in 698 (by decide +kernel) (by decide +kernel)) pn_S_isLat (Nat.le_of_ble_eq_true rfl) (Nat.le_of_ble_eq_true rfl) (Nat.le_of_ble_eq_true rfl) rfl ?_
  refine Tr.if_eq (tgt := 16) rfl (by decide) (fun h => absurd h (by decide)) (fun _ => ?_)
  refine Tr.run 1 (pc' := 8) (lv' := [(0, .ref (g.2.2.2.1 i)), (1, .int k)]) (st' := [.ref (g.2.2.2.1 i)]) rfl ?_
  refine Tr.sval hi rfl (lw_in 1494 (by decide +kernel) (by decide +kernel)) ?_
  refine Tr.run 1 (pc' := 12) (lv' := [(0, .ref (g.2.2.2.1 i)), (1, .int k)]) (st' := [.int k, .ref (g.2.2.2.2 i)]) rfl ?_
  refine Tr.callS (As := [.ref (g.2.2.2.2 i), .int k]) (rest := []) (c_S_lat g l hl i k hi hk (M, w)) rfl cw_S_lat (lw_in 702 (by decide +kernel) (by decide +kernel)) pn_S_lat (Nat.le_of_ble_eq_true rfl) (Nat.le_of_ble_eq_true rfl) (Nat.le_of_ble_eq_true rfl) rfl ?_
  exact Tr.nret rfl rfl h4
theorem c_S_isNaN (g : fm_G) (l : Launch) (hl : l.stackTraces = false) (x : UInt32) (hx : Op.cmpValue (FP.fcmp x x) CmpOp.l = 0) (μ : fm_St) : fC g l z_S_isNaN [.float x] μ (.inr (some (.int 0)), μ) := by
  refine fC.ofF (by decide +kernel) rfl o_S_isNaN hl (Nat.le_of_ble_eq_true rfl) ?_
  refine Tr.run 3 (pc' := 3) (lv' := [(0, .float x)]) (st' := [.int (Op.cmpValue (FP.fcmp x x) CmpOp.l)]) rfl ?_
  rw [hx]
  refine Tr.if_eq (tgt := 10) rfl (by decide) (fun _ => ?_) (fun h => absurd rfl h)
  refine Tr.run 1 (pc' := 11) (lv' := [(0, .float x)]) (st' := [.int 0]) rfl ?_
  exact Tr.nret rfl rfl (by decide +kernel)
theorem c_S_floatToIntBits (g : fm_G) (l : Launch) (hl : l.stackTraces = false) (x : UInt32) (M : fm_Mem) (w : fm_W) : ∀ r, f_S_floatToIntBits x = some r → fC g l z_S_floatToIntBits [.float x] (M, w) (emI M w r) := by
  intro r hr
  obtain ⟨hk, h1⟩ := fm_ck_eq hr
  cases h1
  have hx := of_decide_eq_true hk
  refine fC.ofF (by decide +kernel) rfl o_S_floatToIntBits hl (Nat.le_of_ble_eq_true rfl) ?_
  refine Tr.run 1 (pc' := 1) (lv' := [(0, .float x)]) (st' := [.float x]) rfl ?_
  refine Tr.callS (As := [.float x]) (rest := []) (c_S_isNaN g l hl x hx (M, w)) rfl cw_S_isNaN (lw_in 1426 (by decide +kernel) (by decide +kernel)) pn_S_isNaN (Nat.le_of_ble_eq_true rfl) (Nat.le_of_ble_eq_true rfl) (Nat.le_of_ble_eq_true rfl) rfl ?_
  refine Tr.if_ne (tgt := 12) rfl (by decide) (fun h => absurd rfl h) (fun _ => ?_)
  refine Tr.run 1 (pc' := 8) (lv' := [(0, .float x)]) (st' := [.float x]) rfl ?_
  refine Tr.rawbits rfl (lw_in 1429 (by decide +kernel) (by decide +kernel)) (Nat.le_of_ble_eq_true rfl) (Nat.le_of_ble_eq_true rfl) ?_
  exact Tr.iret rfl rfl
