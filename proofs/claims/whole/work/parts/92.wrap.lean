section
section WR2
variable {g : fm_G} {l : Launch} {z y : fm_Y} {hh : List (Nat × Nat × Nat × Nat)} {av As : List Value} {b q pcC pcS pcR pcH idx N ci n0 kx : Nat} {T : u_T} {μ ν : fm_St} {lv lv' : List (Nat × Value)} {code : Int32}
/-- it returns a double: outD[0] is it, the answer is 0 -/
theorem wr_okD {x : UInt64} (hz : plainName z.1.cls = true) (ho : z.2.1 = z.1.cls) (hd : fm_dec z) (hret : z.2.2.2.2.1 = some .int) (hLa : (lg_sl av).length ≤ z.2.2.2.1) (hq : fm_kd g q = 10)
    (h0 : fx_run z.2.2.2.2.2.1 z.2.2.2.1 n0 0 (lv_args 0 av) [] = some (pcC, lv, As.reverse ++ .ref b :: [.int 0, .ref q])) (hC : fC g l y (.ref b :: As) μ (.inr (some (.double x)), ν)) (hkd : fm_kd g b = ci) (hci : ci < 8) (hc : vwCl[ci]? = some (y.1.cls, T, N)) (hl : fm_lk z.2.2.2.2.2.1 pcC = some (.invokevirtual idx, 3)) (hw : fm_cwV y) (hln : Cond.methodLink z.2.1 idx y.1 ∈ lw_all)
    (hn : (parseMethodDescriptor y.1.desc).map (fun d => d.parameters.length) = some As.length) (hF : y.2.2.2.2.2.2.1 + 1 ≤ z.2.2.2.2.2.2.1) (hLo : 8 + (y.2.2.2.1 + 11) + y.2.2.2.2.2.2.2 ≤ z.2.2.2.2.2.2.2)
    (hLs : fm_lk z.2.2.2.2.2.1 (pcC + 3) = some (.dastore, 1)) (h2 : fx_run z.2.2.2.2.2.1 z.2.2.2.1 2 (pcC + 3 + 1) lv [] = some (pcR, lv, [.int 0])) (hR1 : fm_lk z.2.2.2.2.2.1 pcR = some (.ireturn, 1)) : wC g l z hh av μ 0 (ν.1, ν.2.1, x) := by
  refine wh_of (cc := z.2.2.1) (maxL := z.2.2.2.1) (ret := z.2.2.2.2.1) (hh := hh) hz rfl ?_
  intro p e s m args below meth c s₁ B hml hv
  obtain ⟨rfl, ⟨hP, hK, hE⟩, hX⟩ := hv
  have hts' := atoms_spec (ws := fm_wh z hh) B.pre
  have hts : ∀ w ∈ lw_all, w.before _ s = true := fun w h => hts' w (List.mem_cons_of_mem _ h)
  have hv0 := lv_entry av hLa
  have hown : s.vm.findClass z.2.1 = some m.cls := by rw [ho]; exact findClass_of_methodNamed B.named
  have hS : va_S (fm_A g) s.heap s.heap [] := va_S.rf
  rw [lg_entry_eq]
  refine fx_runW B.exec B.bytes hd n0 h0 hv0 (fun ls hv1 => ?_)
  have hcw : CallW (nR z 1 6) s av.toArray z.2.1 y.1.cls idx y.1 y.2.2.1 y.2.2.2.1 y.2.2.2.2.1 (fm_wl y) (fm_R y (.inr (some (.double x)), ν)) 0 0 As.length := cwV As.length hts (fm_gV hw hln) rfl rfl rfl ⟨rfl, hw.1.2.2.1, hw.1.2.2.2, hn⟩ ⟨hF, hLo⟩
  have hr := va_runV (e := e) (below := below) (meth := meth) (locs := []) (cells := 0) (slots := 0) (g := F0 m pcC ls (As.reverse ++ .ref b :: [.int 0, .ref q])) (rest := [.int 0, .ref q]) ⟨B.exec, B.bytes, hml, hown, hts⟩ hC hcw ⟨fm_blind _, va_recv hK hP hc (by rw [fm_ws_at (fm_fld9 hkd hci), fm_cell_obj hkd hci]), fun U hU hW => ⟨rfl, fm_pre hP hK hE hS hU hW⟩⟩ rfl rfl hv1.1 rfl (lv_room (Nat.le_of_ble_eq_true rfl)) (hd (pcC, .invokevirtual idx, 3) (fm_lk_mem hl)) ⟨Nat.zero_le _, Nat.zero_le _⟩
  refine va_done hS hr (fun H1 locs1 hP1 hS1 => ?_)
  have h9 : fm_kd g q ≠ 9999 := by omega
  have dS : decode z.2.2.1 (pcC + 3) = .ok (.dastore, 1) := hd (pcC + 3, .dastore, 1) (fm_lk_mem hLs)
  refine va_dast (D := g.2.1) B.exec B.bytes hK hP1 (fm_D g ν) hS1 (q - g.1) 3 (cA := g.2.2.1.2.2.2) (n := 1) (f := fun _ => ν.2.2) (by rw [fm_ws_at h9, fm_c10 hq]) rfl (fm_in_vp (by decide)) dS (fun H2 locs2 hP2 hD2 hS2 => ?_)
  have hP3 := fm_setD (y := x) hq hP2 rfl
  refine fx_runW B.exec B.bytes hd 2 h2 hv1 (fun ls3 hv3 => ?_)
  refine W.widen (k := 1) (n := 6) (by omega) (by omega) ?_
  exact W.iret B.exec B.bytes (B.returns.trans hret) (fun t ht hW => ⟨rfl, by rw [ht]; exact hP3, hS2.F ht⟩) hS2.2.2 (hd (pcR, .ireturn, 1) (fm_lk_mem hR1)) B.notSynchronized
/-- it throws, and a handler answers -/
theorem wr_thr {lvH : Nat → List (Nat × Value)} {pre suf : List ExceptionTableEntry} {x : ExceptionTableEntry} (hlt : l.stackTraces = false) (hz : plainName z.1.cls = true) (ho : z.2.1 = z.1.cls) (hd : fm_dec z) (hret : z.2.2.2.2.1 = some .int) (hLa : (lg_sl av).length ≤ z.2.2.2.1)
    (h0 : fx_run z.2.2.2.2.2.1 z.2.2.2.1 n0 0 (lv_args 0 av) [] = some (pcC, lv, As.reverse ++ .ref b :: [.int 0, .ref q])) (hC : fC g l y (.ref b :: As) μ (.inl kx, ν)) (hkd : fm_kd g b = ci) (hci : ci < 8) (hc : vwCl[ci]? = some (y.1.cls, T, N)) (hl : fm_lk z.2.2.2.2.2.1 pcC = some (.invokevirtual idx, 3)) (hw : fm_cwV y) (hln : Cond.methodLink z.2.1 idx y.1 ∈ lw_all)
    (hn : (parseMethodDescriptor y.1.desc).map (fun d => d.parameters.length) = some As.length) (hF : y.2.2.2.2.2.2.1 + 1 ≤ z.2.2.2.2.2.2.1) (hLo : 8 + (y.2.2.2.1 + 11) + y.2.2.2.2.2.2.2 ≤ z.2.2.2.2.2.2.2)
    (hk4 : kx < 4) (hsplit : tableOf hh = pre ++ x :: suf) (hpre : ∀ w ∈ pre, w.catchType ≠ 0 ∧ ∃ j, j < 4 ∧ kx ≠ j ∧ Cond.classLink z.2.1 w.catchType (fm_exc j) ∈ lw_all) (hcov : covers x pcC = true) (hx0 : x.catchType ≠ 0) (hlnk : Cond.classLink z.2.1 x.catchType (fm_exc kx) ∈ lw_all) (hcst : Cond.castable (fm_exc kx) (fm_exc kx) ∈ lw_tbl)
    (h3 : ∀ q', fx_run z.2.2.2.2.2.1 z.2.2.2.1 2 x.handlerPc lv [.ref q'] = some (pcH, lvH q', [.int code])) (hR1 : fm_lk z.2.2.2.2.2.1 pcH = some (.ireturn, 1)) : wC g l z hh av μ code ν := by
  refine wh_of (cc := z.2.2.1) (maxL := z.2.2.2.1) (ret := z.2.2.2.2.1) (hh := hh) hz rfl ?_
  intro p e s m args below meth c s₁ B hml hv
  obtain ⟨rfl, ⟨hP, hK, hE⟩, hX⟩ := hv
  have hts' := atoms_spec (ws := fm_wh z hh) B.pre
  have htab : c.exceptionTable.toList = tableOf hh := vx_table (x := z.1) B (hts' _ List.mem_cons_self)
  have hts : ∀ w ∈ lw_all, w.before _ s = true := fun w h => hts' w (List.mem_cons_of_mem _ h)
  have hv0 := lv_entry av hLa
  have hown : s.vm.findClass z.2.1 = some m.cls := by rw [ho]; exact findClass_of_methodNamed B.named
  have hS : va_S (fm_A g) s.heap s.heap [] := va_S.rf
  rw [lg_entry_eq]
  refine fx_runW B.exec B.bytes hd n0 h0 hv0 (fun ls hv1 => ?_)
  have hcw : CallW (nR z 1 6) s av.toArray z.2.1 y.1.cls idx y.1 y.2.2.1 y.2.2.2.1 y.2.2.2.2.1 (fm_wl y) (fm_R y (.inl kx, ν)) 1 6 As.length := cwV As.length hts (fm_gV hw hln) rfl rfl rfl ⟨rfl, hw.1.2.2.1, hw.1.2.2.2, hn⟩ ⟨hF, hLo⟩
  have hr := vx_runV (e := e) (below := below) (meth := meth) (locs := []) (cells := 0) (slots := 0) (g := F0 m pcC ls (As.reverse ++ .ref b :: [.int 0, .ref q])) (rest := [.int 0, .ref q]) ⟨B.exec, B.bytes, hml, hown, hts⟩ hC hcw ⟨fm_blind _, va_recv hK hP hc (by rw [fm_ws_at (fm_fld9 hkd hci), fm_cell_obj hkd hci]), fun U hU hW => ⟨rfl, fm_pre hP hK hE hS hU hW⟩⟩ rfl rfl hv1.1 rfl (lv_room (Nat.le_of_ble_eq_true rfl)) (hd (pcC, .invokevirtual idx, 3) (fm_lk_mem hl)) ⟨Nat.le_refl _, Nat.le_refl _⟩
  intro X0 hT X
  rcases hr X0 hT X with ⟨v, st₀, t, T', L, h0, X', hL, e1, e2, hq, sg⟩ | ⟨q1, st₀, t, T', L, E, ce, h0, X', hL, e1, e2, ⟨hEx, hP', hz', hk⟩, hce, hcv, hcl, sg⟩
  · exact hq.elim
  · subst hEx
    rw [h0] at hz' hk
    have hS' : va_S (fm_A g) s.heap T'.heap ([] ++ L) := ⟨Nat.le_trans hS.1 (by rw [e1]; exact hz'), fun q h1 h2 => by rw [e1, hk q (Nat.lt_of_lt_of_le h1 hS.1) h2], fun q hq => by
      rcases List.mem_append.mp hq with h | h
      · exact hS.2.2 q h
      · exact hL q h⟩
    have ho : vx_W p l e (nR z 1 6) s m av.toArray below meth c T'.heap ([] ++ L) (0 + 1) (0 + 6) (MQ below (fm_Qr g (some (.int code)) ν) av.toArray s 1 6 (fm_A g)) (F0 m pcC ls [.int 0, .ref q]) q1 := by
      refine vx_catch (E := fm_exc kx) (name := fm_exc kx) (ce := ce) hown pre x suf (htab.trans hsplit) (fun w hw => ?_) hcov hx0 (hts _ hlnk) (fm_nw_use rfl (hE.2.2.2.2.2.2 _ hcst rfl)) (by rw [e1]; exact hce) hcv hcl ?_
      · obtain ⟨w0, j, j4, jk, wl⟩ := hpre w hw
        exact Or.inr ⟨w0, fm_exc j, hts _ wl, hX kx j hk4 j4 jk⟩
      · refine fx_runW B.exec B.bytes hd 2 (h3 q1) hv1 (fun ls3 hv3 => ?_)
        exact W.iret B.exec B.bytes (B.returns.trans hret) (fun t1 ht1 _ => ⟨rfl, by rw [ht1, e1]; exact hP', hS'.F ht1⟩) hS'.2.2 (hd (pcH, .ireturn, 1) (fm_lk_mem hR1)) B.notSynchronized
    obtain ⟨t2, a1, b1⟩ := ho T' rfl X'
    exact ⟨t2, sg.trans a1, b1⟩
end WR2
end
