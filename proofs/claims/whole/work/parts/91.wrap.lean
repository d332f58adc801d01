section
/-! THE LAW'S WRAPPERS: a call of the class's method that returns or throws; what is thrown is caught -/
theorem wh_of {l : Launch} {y : MethodName} {ws ws' : List Cond} {rm : Room} {Pc : Array Value → State → Prop} {Qc : Array Value → State → Outcome → State → Prop} {mc ms : Nat} {free : Addr → Prop} {cc : ByteArray} {maxL : Nat} {ret : Option FieldType} {hh : List (Nat × Nat × Nat × Nat)}
    (hy : plainName y.cls = true) (hw : ws = Cond.codeWith y cc maxL ret hh :: ws')
    (body : ∀ p e s m args below meth c s₁, BodyLoose p l y (headSpec ws rm) cc maxL ret e s m args below meth c s₁ → c.maxLocals = maxL → Pc args s →
      W p l e (headSpec ws rm).room s m args below meth c s.heap [] 0 0 (MQ below Qc args s mc ms free) (entryFrame m args maxL)) : Met l y ws rm Pc Qc mc ms free := by
  refine MetFree.of_bodyS (code := cc) (maxLocals := maxL) (ret := ret) hy ?_ ?_
  · intro args s m h hn
    obtain ⟨m9, meth, c, hn9, h1, h2, h3, h4, -, h5, h6, -⟩ := Cond.codeWith_spec (atoms_spec (ws := ws) h _ (by rw [hw]; exact List.mem_cons_self))
    cases hn.symm.trans hn9
    exact ⟨meth, c, h1, h2, h3, h4, h5, h6⟩
  · intro p e s m args below meth c s₁ B hml hP _
    have hh0 : s₁.heap = s.heap := by rw [B.state]; rfl
    obtain ⟨t, a1, o, b1, b2, b3⟩ := body p e s m args below meth c s₁ B hml hP s₁ hh0 (Stand.of_body B)
    exact ⟨t, o, a1, b1, b2, b3⟩
/-- none of the four is one of the others -/
def nX (U : State) : Prop := ∀ a b, a < 4 → b < 4 → a ≠ b → va_Nc (fm_exc a) (fm_exc b) U
theorem nX.moved {u U : State} (hvm : u.vm.Alike U.vm) (h : nX u) : nX U := fun a b h1 h2 h3 => (h a b h1 h2 h3).moved hvm
def fm_wh (z : fm_Y) (hh : List (Nat × Nat × Nat × Nat)) : List Cond := .codeWith z.1 z.2.2.1 z.2.2.2.1 z.2.2.2.2.1 hh :: lw_all
/-- a wrapper's contract: it answers r, and then the world is ν -/
def wC (g : fm_G) (l : Launch) (z : fm_Y) (hh : List (Nat × Nat × Nat × Nat)) (av : List Value) (μ : fm_St) (r : Int32) (ν : fm_St) : Prop :=
  Met l z.1 (fm_wh z hh) (nR z 1 6) (va_Pc av (fun U => fm_Pre g μ U ∧ nX U)) (fm_Qr g (some (.int r)) ν) 1 6 (fm_A g)
section VD
variable {p : Program} {l : Launch} {e : Env} {R : Room} {s : State} {m : MethodId} {args a : Array Value} {below : List Frame} {meth : Method} {c : Code} {H H0 : Heap} {locs : List Loc} {cells slots mc ms : Nat} {Q : State → Prop} {g : fm_G} {pc : Nat} {ls : Array Slot} {st rest : List Value} {v : Option Value} {ν : fm_St}
/-- behind a call that returns -/
theorem va_done (hS : va_S (fm_A g) s.heap H locs) (hr : va_Run p l e R s m args below meth c H locs cells slots mc ms (F0 m pc ls st) rest (fm_Qr g v ν a) (fm_A g)) (kk : ∀ (H' : Heap) (locs' : List Loc), fm_P g ν H' → va_S (fm_A g) s.heap H' locs' → W p l e R s m args below meth c H' locs' (cells + mc) (slots + ms) Q (F0 m (pc + 3) ls (v.toList ++ rest))) : W p l e R s m args below meth c H locs cells slots Q (F0 m pc ls st) := by
  intro T hT X
  obtain ⟨v', st₀, t, T', L, h0, X', hL, e1, e2, ⟨hv', hP', hz, hk⟩, sg⟩ := hr T hT X
  cases hv'
  rw [h0] at hz hk
  have hS' : va_S (fm_A g) s.heap T'.heap (locs ++ L) := ⟨Nat.le_trans hS.1 (by rw [e1]; exact hz), fun q h1 h2 => by rw [e1, hk q (Nat.lt_of_lt_of_le h1 hS.1) h2]; exact hS.2.1 q h1 h2, fun q hq => by
    rcases List.mem_append.mp hq with h | h
    · exact hS.2.2 q h
    · exact hL q h⟩
  obtain ⟨t2, a1, b1⟩ := kk T'.heap (locs ++ L) (by rw [e1]; exact hP') hS' T' rfl X'
  exact ⟨t2, sg t2 a1, b1⟩
end VD
theorem fm_k9 : ∀ i, i < 179 → (fm_tab.getD i 9999 = 9 ↔ i = 177) ∧ (fm_tab.getD i 9999 = 10 ↔ i = 178) := by decide +kernel
theorem fm_kd_i {g : fm_G} {i : Nat} : fm_kd g (g.1 + i) = fm_tab.getD i 9999 := by
  unfold fm_kd
  rw [if_pos (Nat.le_add_right _ _), show g.1 + i - g.1 = i by omega]
theorem fm_cell_w {g : fm_G} {M : fm_Mem} {w w' : Int64 × UInt64} {a : Nat} (h1 : ¬ fm_kd g a = 9) (h2 : ¬ fm_kd g a = 10) : fm_cell g (M, w) a = fm_cell g (M, w') a := by
  unfold fm_cell
  rw [if_neg h1, if_neg h1, if_neg h2, if_neg h2]
theorem fm_cell_w9 {g : fm_G} {M : fm_Mem} {v : Int64} {w w' : UInt64} {a : Nat} (h2 : ¬ fm_kd g a = 10) : fm_cell g (M, v, w) a = fm_cell g (M, v, w') a := by
  unfold fm_cell
  rw [if_neg h2, if_neg h2]
theorem fm_cell_w10 {g : fm_G} {M : fm_Mem} {v v' : Int64} {w : UInt64} {a : Nat} (h1 : ¬ fm_kd g a = 9) : fm_cell g (M, v, w) a = fm_cell g (M, v', w) a := by
  unfold fm_cell
  rw [if_neg h1, if_neg h1]
theorem fm_c9 {g : fm_G} {μ : fm_St} {q : Nat} (hq : fm_kd g q = 9) : fm_cell g μ q = .inl (g.2.2.1.2.2.1, 1, .inr (.inl (fun _ => μ.2.1))) := by
  unfold fm_cell
  rw [if_neg (by omega), if_neg (by omega), if_pos hq]
theorem fm_c10 {g : fm_G} {μ : fm_St} {q : Nat} (hq : fm_kd g q = 10) : fm_cell g μ q = .inl (g.2.2.1.2.2.2, 1, .inr (.inr (.inr (.inl (fun _ => μ.2.2))))) := by
  unfold fm_cell
  rw [if_neg (by omega), if_neg (by omega), if_neg (by omega), if_pos hq]
theorem fm_ws_len (g : fm_G) (μ : fm_St) : (fm_ws g μ).length = 179 := by unfold fm_ws; simp
theorem fm_setL {g : fm_G} {ν : fm_St} {q : Nat} {f : Nat → Int64} {y : Int64} {H : Heap} (hq : fm_kd g q = 9) (hP : va_P g.2.1 vwCl ((fm_ws g ν).set (q - g.1) (q, .inl (g.2.2.1.2.2.1, 1, .inr (.inl f)))) H) (hf : f 0 = y) : fm_P g (ν.1, y, ν.2.2) H := by
  obtain ⟨a1, a2⟩ := fm_kd_in (g := g) (a := q) (by omega)
  have e0 : g.1 + (q - g.1) = q := by omega
  have k0 : fm_tab.getD (q - g.1) 9999 = 9 := by rw [← fm_kd_i (g := g), e0]; exact hq
  have i0 := (fm_k9 _ a2).1.mp k0
  intro k qq hk
  rw [fm_ws_i] at hk
  split at hk
  · next h179 =>
    cases hk
    by_cases c : k = q - g.1
    · subst c
      have h := hP (q - g.1) (q, .inl (g.2.2.1.2.2.1, 1, .inr (.inl f))) (by rw [List.getElem?_set, if_pos rfl, fm_ws_len, if_pos a2])
      rw [e0, fm_c9 hq]
      have h' : H[q]? = some (vp_cell g.2.2.1.2.2.1 (1, .inr (.inl f))) := h
      show H[q]? = some (vp_cell g.2.2.1.2.2.1 (1, .inr (.inl (fun _ => y))))
      rw [h', vp_cell_l, vp_cell_l]
      exact congrArg some (arrV_cg (fun j hj => by rw [show j = 0 by omega, hf]))
    · have n9 : ¬ fm_kd g (g.1 + k) = 9 := fun z => by
        rw [fm_kd_i] at z
        have := (fm_k9 k h179).1.mp z
        omega
      have h := hP k (g.1 + k, fm_cell g ν (g.1 + k)) (by rw [List.getElem?_set, if_neg (fun z => c z.symm), fm_ws_i, if_pos h179])
      rw [fm_cell_w10 (g := g) (M := ν.1) (v := y) (v' := ν.2.1) (w := ν.2.2) n9]
      exact h
  · cases hk
theorem fm_setD {g : fm_G} {ν : fm_St} {q : Nat} {f : Nat → UInt64} {y : UInt64} {H : Heap} (hq : fm_kd g q = 10) (hP : va_P g.2.1 vwCl ((fm_ws g ν).set (q - g.1) (q, .inl (g.2.2.1.2.2.2, 1, .inr (.inr (.inr (.inl f)))))) H) (hf : f 0 = y) : fm_P g (ν.1, ν.2.1, y) H := by
  obtain ⟨a1, a2⟩ := fm_kd_in (g := g) (a := q) (by omega)
  have e0 : g.1 + (q - g.1) = q := by omega
  have k0 : fm_tab.getD (q - g.1) 9999 = 10 := by rw [← fm_kd_i (g := g), e0]; exact hq
  have i0 := (fm_k9 _ a2).2.mp k0
  intro k qq hk
  rw [fm_ws_i] at hk
  split at hk
  · next h179 =>
    cases hk
    by_cases c : k = q - g.1
    · subst c
      have h := hP (q - g.1) (q, .inl (g.2.2.1.2.2.2, 1, .inr (.inr (.inr (.inl f))))) (by rw [List.getElem?_set, if_pos rfl, fm_ws_len, if_pos a2])
      rw [e0, fm_c10 hq]
      have h' : H[q]? = some (vp_cell g.2.2.1.2.2.2 (1, .inr (.inr (.inr (.inl f))))) := h
      show H[q]? = some (vp_cell g.2.2.1.2.2.2 (1, .inr (.inr (.inr (.inl (fun _ => y))))))
      rw [h', vp_cell_d, vp_cell_d]
      exact congrArg some (arrV_cg (fun j hj => by rw [show j = 0 by omega, hf]))
    · have n9 : ¬ fm_kd g (g.1 + k) = 10 := fun z => by
        rw [fm_kd_i] at z
        have := (fm_k9 k h179).2.mp z
        omega
      have h := hP k (g.1 + k, fm_cell g ν (g.1 + k)) (by rw [List.getElem?_set, if_neg (fun z => c z.symm), fm_ws_i, if_pos h179])
      rw [fm_cell_w9 (g := g) (M := ν.1) (v := ν.2.1) (w := y) (w' := ν.2.2) n9]
      exact h
  · cases hk
section WR
variable {g : fm_G} {l : Launch} {z y : fm_Y} {hh : List (Nat × Nat × Nat × Nat)} {av As : List Value} {b q pcC pcS pcR pcH idx N ci n0 : Nat} {T : u_T} {μ ν : fm_St} {lv lv' : List (Nat × Value)} {x : Int32}
/-- it returns an int: out[0] is it, the answer is 0 -/
theorem wr_ok (hz : plainName z.1.cls = true) (ho : z.2.1 = z.1.cls) (hd : fm_dec z) (hret : z.2.2.2.2.1 = some .int) (hLa : (lg_sl av).length ≤ z.2.2.2.1) (hq : fm_kd g q = 9)
    (h0 : fx_run z.2.2.2.2.2.1 z.2.2.2.1 n0 0 (lv_args 0 av) [] = some (pcC, lv, As.reverse ++ .ref b :: [.int 0, .ref q])) (hC : fC g l y (.ref b :: As) μ (.inr (some (.int x)), ν)) (hkd : fm_kd g b = ci) (hci : ci < 8) (hc : vwCl[ci]? = some (y.1.cls, T, N)) (hl : fm_lk z.2.2.2.2.2.1 pcC = some (.invokevirtual idx, 3)) (hw : fm_cwV y) (hln : Cond.methodLink z.2.1 idx y.1 ∈ lw_all)
    (hn : (parseMethodDescriptor y.1.desc).map (fun d => d.parameters.length) = some As.length) (hF : y.2.2.2.2.2.2.1 + 1 ≤ z.2.2.2.2.2.2.1) (hLo : 8 + (y.2.2.2.1 + 11) + y.2.2.2.2.2.2.2 ≤ z.2.2.2.2.2.2.2)
    (h1 : fx_run z.2.2.2.2.2.1 z.2.2.2.1 1 (pcC + 3) lv [.int x, .int 0, .ref q] = some (pcS, lv, [.long x.toInt64, .int 0, .ref q])) (hLs : fm_lk z.2.2.2.2.2.1 pcS = some (.lastore, 1)) (h2 : fx_run z.2.2.2.2.2.1 z.2.2.2.1 2 (pcS + 1) lv [] = some (pcR, lv, [.int 0])) (hR1 : fm_lk z.2.2.2.2.2.1 pcR = some (.ireturn, 1)) : wC g l z hh av μ 0 (ν.1, x.toInt64, ν.2.2) := by
  refine wh_of (cc := z.2.2.1) (maxL := z.2.2.2.1) (ret := z.2.2.2.2.1) (hh := hh) hz rfl ?_
  intro p e s m args below meth c s₁ B hml hv
  obtain ⟨rfl, ⟨hP, hK, hE⟩, hX⟩ := hv
  have hts' := atoms_spec (ws := fm_wh z hh) B.pre
  have hts : ∀ w ∈ lw_all, w.before _ s = true := fun w h => hts' w (List.mem_cons_of_mem _ h)
  have hv0 := lv_entry av hLa
  have hown : s.vm.findClass z.2.1 = some m.cls := by rw [ho]; exact findClass_of_methodNamed B.named
  have hS : va_S (fm_A g) s.heap s.heap [] := va_S.rf
  rw [lg_entry_eq]
  refine fx_runW B.exec B.bytes hd n0 h0 hv0 (fun ls hv1 => ?_)
  have hcw : CallW (nR z 1 6) s av.toArray z.2.1 y.1.cls idx y.1 y.2.2.1 y.2.2.2.1 y.2.2.2.2.1 (fm_wl y) (fm_R y (.inr (some (.int x)), ν)) 0 0 As.length := cwV As.length hts (fm_gV hw hln) rfl rfl rfl ⟨rfl, hw.1.2.2.1, hw.1.2.2.2, hn⟩ ⟨hF, hLo⟩
  have hr := va_runV (e := e) (below := below) (meth := meth) (locs := []) (cells := 0) (slots := 0) (g := F0 m pcC ls (As.reverse ++ .ref b :: [.int 0, .ref q])) (rest := [.int 0, .ref q]) ⟨B.exec, B.bytes, hml, hown, hts⟩ hC hcw ⟨fm_blind _, va_recv hK hP hc (by rw [fm_ws_at (fm_fld9 hkd hci), fm_cell_obj hkd hci]), fun U hU hW => ⟨rfl, fm_pre hP hK hE hS hU hW⟩⟩ rfl rfl hv1.1 rfl (lv_room (Nat.le_of_ble_eq_true rfl)) (hd (pcC, .invokevirtual idx, 3) (fm_lk_mem hl)) ⟨Nat.zero_le _, Nat.zero_le _⟩
  refine va_done hS hr (fun H1 locs1 hP1 hS1 => ?_)
  refine fx_runW B.exec B.bytes hd 1 h1 hv1 (fun ls2 hv2 => ?_)
  have h9 : fm_kd g q ≠ 9999 := by omega
  have dS : decode z.2.2.1 pcS = .ok (.lastore, 1) := hd (pcS, .lastore, 1) (fm_lk_mem hLs)
  refine va_last (D := g.2.1) B.exec B.bytes hK hP1 (fm_D g ν) hS1 (q - g.1) 2 (cA := g.2.2.1.2.2.1) (n := 1) (f := fun _ => ν.2.1) (by rw [fm_ws_at h9, fm_c9 hq]) rfl (fm_in_vp (by decide)) dS (fun H2 locs2 hP2 hD2 hS2 => ?_)
  have hP3 := fm_setL (y := x.toInt64) hq hP2 rfl
  refine fx_runW B.exec B.bytes hd 2 h2 hv2 (fun ls3 hv3 => ?_)
  refine W.widen (k := 1) (n := 6) (by omega) (by omega) ?_
  exact W.iret B.exec B.bytes (B.returns.trans hret) (fun t ht hW => ⟨rfl, by rw [ht]; exact hP3, hS2.F ht⟩) hS2.2.2 (hd (pcR, .ireturn, 1) (fm_lk_mem hR1)) B.notSynchronized
end WR
end
