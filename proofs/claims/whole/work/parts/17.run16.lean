
section RUN16
variable {p : Program} {l : Launch} {e : Env} {R : Room} {s : State} {m : MethodId} {args : Array Value} {below : List Frame} {meth : Method} {c : Code} {H : Heap} {locs : List Loc} {cells slots : Nat}
variable {y : MethodName} {bytes cc : ByteArray} {maxL nL mc ms n index : Nat} {ret : Option FieldType} {ws : List Cond} {rm : Room} {Pc : Array Value → State → Prop} {Qc : Array Value → State → Outcome → State → Prop} {free : Addr → Prop} {Ts : List Cond} {own C : String} {b : Addr} {As rest : List Value} {g : JFrame}
/-- a call with more on the stack below its arguments than the kit's rows take -/
theorem fm_run16 (S : CallFix p m c cc nL s args Ts own) (hM : Met l y ws rm Pc Qc mc ms free) (cw : CallW R s args own C index y bytes maxL ret ws rm mc ms n) (hLo : 16 + (maxL + 11) + rm.locals ≤ R.locals) (hp : PreV s H C b Pc As)
    (hg : g.method = m) (hn : As.length = n) (hsize : g.locals.size = nL) (hstack : g.stack = As.reverse ++ .ref b :: rest) (hW : 2 * g.monitorRoom + (rest.map fun v => v.category).sum ≤ 16) (hdg : decode cc g.pc = .ok (.invokevirtual index, 3)) (hf : cells + mc ≤ R.cells ∧ slots + ms ≤ R.slots) :
    va_Run p l e R s m args below meth c H locs cells slots mc ms g rest (Qc (Value.ref b :: As).toArray) (free) := by
  have hini := cw.1.2.2.2.2.2.2.2.1
  have hK : Back l R p e below s args y 3 16 (PreOf R mc ms Pc) (PostOf Qc mc ms free) := back_of (bytes := bytes) (maxL := maxL) (ret := ret) hM hp.1 cw.1.1 cw.1.2.1 cw.1.2.2.1 hLo cw.1.2.2.2.2.1 cw.1.2.2.2.2.2.1 (fun a' U hW => word_at hW (Or.inl (by first | rfl | simp [Cond.onTables, Cond.keeps, Cond.steady])) hini)
  obtain ⟨⟨-, -, -, -, -, -, hcode, -, hy, hlen, hl⟩, hin, hse⟩ := cw
  obtain ⟨hx, hb, hml, ho, -⟩ := S
  obtain ⟨-, ⟨cellB, hcB, hoB, hclB⟩, hPc⟩ := hp
  intro T hT X
  obtain ⟨v, vm₁, ⟨U', l2, c2, s2⟩, hW₁, X', ⟨g', mk, t, L, e1, e2, hq, h1, hL, h2, h3⟩, st⟩ := callV X hx (C := C) (bytes := bytes) (maxL := maxL) (ret := ret) ho hl hin hse hcode hy hK (by rw [hT]; exact hcB) hoB hclB hg (hsize.trans hml.symm) (argsL := As) (rest := rest) (fun sig h => hn.trans (hlen sig h)) hstack hW (by rw [hb]; exact hdg)
    (fun vm₁ hW₁ => ⟨hf.1, hf.2, hPc (T.setVm vm₁) hT hW₁⟩)
  dsimp only [Pt.U, Pt.locs, Pt.cells, Pt.slots] at X' e1 e2 h1 h2 h3 st
  subst h1; subst h2; subst h3
  exact ⟨v, (T.setVm vm₁).calling g' mk (Value.ref b :: As).toArray, t, U', L, hT, X', hL, e1, e2, hq, st⟩
end RUN16
section TT16
variable {ρ τ : Type} {g : fm_G} {l : Launch} {z y : fm_Y} {em : ρ → fm_O} {pc : Nat} {lv : List (Nat × Value)} {st rest As : List Value} {μ ν : fm_St} {o : fm_O} {f : Option τ} {k : τ → Option ρ} {vl : τ → Option Value} {mm : τ → fm_St}
theorem fm_room16 {pc : Nat} {m : MethodId} {ls : Array Slot} {rest st : List Value} (h : (st.map fun v => v.category).sum ≤ 16) : 2 * (F0 m pc ls rest).monitorRoom + (st.map fun v => v.category).sum ≤ 16 := by
  show 2 * 0 + _ ≤ 16
  omega
theorem Tr.callV16 {b idx ci N : Nat} {T : u_T} {v : Option Value} (hC : fC g l y (.ref b :: As) μ (.inr v, ν)) (hkd : fm_kd g b = ci) (hci : ci < 8) (hc : vwCl[ci]? = some (y.1.cls, T, N)) (hl : fm_lk z.2.2.2.2.2.1 pc = some (.invokevirtual idx, 3)) (hw : fm_cwV y) (hln : Cond.methodLink z.2.1 idx y.1 ∈ lw_all)
    (hn : (parseMethodDescriptor y.1.desc).map (fun d => d.parameters.length) = some As.length) (hcat : (rest.map fun v => v.category).sum ≤ 16) (hF : y.2.2.2.2.2.2.1 + 1 ≤ z.2.2.2.2.2.2.1) (hLo : 16 + (y.2.2.2.1 + 11) + y.2.2.2.2.2.2.2 ≤ z.2.2.2.2.2.2.2) (hst : st = As.reverse ++ .ref b :: rest)
    (kk : Tr g l z o (pc + 3) lv (v.toList ++ rest) ν) : Tr g l z o pc lv st μ := by
  intro p e R s m args below meth c H locs ls hA hP hS hv
  have hR := hA.room
  have hL8 : 8 + (y.2.2.2.1 + 11) + y.2.2.2.2.2.2.2 ≤ z.2.2.2.2.2.2.2 := by omega
  have hcw : CallW R s args z.2.1 y.1.cls idx y.1 y.2.2.1 y.2.2.2.1 y.2.2.2.2.1 (fm_wl y) (fm_R y (.inr v, ν)) 0 0 As.length := by
    subst hR
    exact cwV As.length hA.ts (fm_gV hw hln) rfl rfl rfl ⟨rfl, hw.1.2.2.1, hw.1.2.2.2, hn⟩ ⟨hF, hL8⟩
  have hLR : 16 + (y.2.2.2.1 + 11) + (fm_R y (.inr v, ν)).locals ≤ R.locals := by subst hR; exact hLo
  refine fm_done hA hS hv (fm_run16 ⟨hA.x, hA.b, hA.ml, hA.own, hA.ts⟩ hC hcw hLR ⟨fm_blind _, va_recv hA.k hP hc (by rw [fm_ws_at (fm_fld9 hkd hci), fm_cell_obj hkd hci]), fun U hU hW => ⟨rfl, fm_pre hP hA.k hA.e hS hU hW⟩⟩ rfl rfl hv.1 hst (fm_room16 hcat) (hA.dg hl) ⟨Nat.zero_le _, Nat.zero_le _⟩) kk
theorem Tt.callV16 {b idx ci N : Nat} {T : u_T} (hC : ∀ r, f = some r → fC g l y (.ref b :: As) μ (fm_em vl mm r)) (hkd : fm_kd g b = ci) (hci : ci < 8) (hc : vwCl[ci]? = some (y.1.cls, T, N)) (hl : fm_lk z.2.2.2.2.2.1 pc = some (.invokevirtual idx, 3)) (hw : fm_cwV y) (hln : Cond.methodLink z.2.1 idx y.1 ∈ lw_all)
    (hn : (parseMethodDescriptor y.1.desc).map (fun d => d.parameters.length) = some As.length) (hcat : (rest.map fun v => v.category).sum ≤ 16) (hF : y.2.2.2.2.2.2.1 + 1 ≤ z.2.2.2.2.2.2.1) (hLo : 16 + (y.2.2.2.1 + 11) + y.2.2.2.2.2.2.2 ≤ z.2.2.2.2.2.2.2) (hst : st = As.reverse ++ .ref b :: rest)
    (kk : ∀ r, Tt g l z em (k r) (pc + 3) lv ((vl r).toList ++ rest) (mm r)) : Tt g l z em (f.bind k) pc lv st μ := by
  intro r hr
  cases hf : f with
  | none => rw [hf] at hr; cases hr
  | some x => rw [hf] at hr; exact Tr.callV16 (hC x hf) hkd hci hc hl hw hln hn hcat hF hLo hst (kk x r hr)
end TT16
