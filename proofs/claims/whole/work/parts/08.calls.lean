/-! CALLS, and the rules over answers T of a pure function -/
def fm_cw (y : fm_Y) : Prop := Cond.code y.1 y.2.2.1 y.2.2.2.1 y.2.2.2.2.1 ∈ lw_all ∧ Cond.initialized y.1.cls ∈ lw_all ∧ y.1.cls ≠ "java/lang/invoke/MethodHandle" ∧ y.1.cls ≠ "java/lang/invoke/VarHandle"
def fm_cwV (y : fm_Y) : Prop := fm_cw y ∧ Cond.instanceMethod y.1 ∈ lw_all ∧ Cond.selects y.1.cls y.1 y.1 ∈ lw_all
def fm_cwS (y : fm_Y) : Prop := fm_cw y ∧ Cond.static y.1 ∈ lw_all
section RULES4
variable {g : fm_G} {l : Launch} {z y : fm_Y} {o : fm_O} {pc : Nat} {lv : List (Nat × Value)} {st rest As : List Value} {μ ν : fm_St}
theorem fm_blind (av : List Value) : FrameBlind (va_Pc av (fm_Pre g μ)) := by
  intro a U G mk q
  obtain ⟨q0, qP, qK, qE⟩ := q
  exact ⟨q0, qP, va_K.moved (u := U) (U := U.calling G mk a) (Vm.Alike.refl U.vm) qK, fm_E.warm (s := U) (U := U.calling G mk a) (State.WarmedH.refl U) qE⟩
theorem fm_pre {s U : State} {H : Heap} {locs : List Loc} (hP : fm_P g μ H) (hK : fm_K g s) (hE : fm_E g s s.heap) (hS : va_S (fm_A g) s.heap H locs) (hU : U.heap = H) (hW : s.WarmedH U.vm) : fm_Pre g μ U :=
  ⟨by rw [hU]; exact hP, va_K.moved hW.alike hK, fm_E.warm hW (hE.kept (fun a h1 h2 => by rw [hU]; exact hS.2.1 a h1 h2))⟩
theorem fm_gV {own : String} {idx : Nat} (hw : fm_cwV y) (hln : Cond.methodLink own idx y.1 ∈ lw_all) : GoodIn lw_all (wsV own idx y.1.cls y.1 (fm_wl y)) := by
  refine lw_goodIn (fun w h => ?_)
  unfold wsV fm_wl at h
  rcases List.mem_append.mp h with h | h
  · rcases List.mem_cons.mp h with h | h
    · rw [h]; exact hln
    · rcases List.mem_cons.mp h with h | h
      · rw [h]; exact hw.2.1
      · rcases List.mem_cons.mp h with h | h
        · rw [h]; exact hw.2.2
        · rcases List.mem_cons.mp h with h | h
          · rw [h]; exact hw.1.2.1
          · exact absurd h List.not_mem_nil
  · rcases List.mem_cons.mp h with h | h
    · rw [h]; exact hw.1.1
    · exact h
theorem fm_gS {own : String} {idx : Nat} (hw : fm_cwS y) (hln : Cond.methodLink own idx y.1 ∈ lw_all) : GoodIn lw_all (va_wsS own idx y.1 (fm_wl y)) := by
  refine lw_goodIn (fun w h => ?_)
  unfold va_wsS fm_wl at h
  rcases List.mem_append.mp h with h | h
  · rcases List.mem_cons.mp h with h | h
    · rw [h]; exact hln
    · rcases List.mem_cons.mp h with h | h
      · rw [h]; exact hw.2
      · rcases List.mem_cons.mp h with h | h
        · rw [h]; exact hw.1.2.1
        · exact absurd h List.not_mem_nil
  · rcases List.mem_cons.mp h with h | h
    · rw [h]; exact hw.1.1
    · exact h
theorem fm_gN (hw : fm_cw y) : GoodIn lw_all (fm_wl y) := by
  refine lw_goodIn (fun w h => ?_)
  rcases List.mem_cons.mp h with h | h
  · rw [h]; exact hw.1
  · exact h
/-- a call's end, from the kit's va_Run -/
theorem fm_done {p : Program} {e : Env} {R : Room} {s : State} {m : MethodId} {args : Array Value} {below : List Frame} {meth : Method} {c : Code} {H : Heap} {locs : List Loc} {ls : Array Slot} {v : Option Value} {a : Array Value} (hA : fm_At z g l o p R s m args meth c) (hS : va_S (fm_A g) s.heap H locs) (hv : lv_has ls z.2.2.2.1 lv)
    (hr : va_Run p l e R s m args below meth c H locs 0 0 0 0 (F0 m pc ls st) rest (fm_Qr g v ν a) (fm_A g)) (kk : Tr g l z o (pc + 3) lv (v.toList ++ rest) ν) : W p l e R s m args below meth c H locs 0 0 (fm_Q g below args s o.2 o.1) (F0 m pc ls st) := by
  intro T hT X
  obtain ⟨v', st₀, t, T', L, h0, X', hL, e1, e2, ⟨hv', hP', hz, hk⟩, sg⟩ := hr T hT X
  cases hv'
  rw [h0] at hz hk
  have hS' : va_S (fm_A g) s.heap T'.heap (locs ++ L) := ⟨Nat.le_trans hS.1 (by rw [e1]; exact hz), fun q h1 h2 => by rw [e1, hk q (Nat.lt_of_lt_of_le h1 hS.1) h2]; exact hS.2.1 q h1 h2, fun q hq => by
    rcases List.mem_append.mp hq with h | h
    · exact hS.2.2 q h
    · exact hL q h⟩
  obtain ⟨t2, a1, b1⟩ := kk p e R s m args below meth c T'.heap (locs ++ L) ls hA (by rw [e1]; exact hP') hS' hv T' rfl X'
  exact ⟨t2, sg t2 a1, b1⟩
theorem Tr.callV {b idx ci N : Nat} {T : u_T} {v : Option Value} (hC : fC g l y (.ref b :: As) μ (.inr v, ν)) (hkd : fm_kd g b = ci) (hci : ci < 8) (hc : vwCl[ci]? = some (y.1.cls, T, N)) (hl : fm_lk z.2.2.2.2.2.1 pc = some (.invokevirtual idx, 3)) (hw : fm_cwV y) (hln : Cond.methodLink z.2.1 idx y.1 ∈ lw_all)
    (hn : (parseMethodDescriptor y.1.desc).map (fun d => d.parameters.length) = some As.length) (hcat : (rest.map fun v => v.category).sum ≤ 8) (hF : y.2.2.2.2.2.2.1 + 1 ≤ z.2.2.2.2.2.2.1) (hLo : 8 + (y.2.2.2.1 + 11) + y.2.2.2.2.2.2.2 ≤ z.2.2.2.2.2.2.2) (hst : st = As.reverse ++ .ref b :: rest)
    (kk : Tr g l z o (pc + 3) lv (v.toList ++ rest) ν) : Tr g l z o pc lv st μ := by
  intro p e R s m args below meth c H locs ls hA hP hS hv
  have hR := hA.room
  have hcw : CallW R s args z.2.1 y.1.cls idx y.1 y.2.2.1 y.2.2.2.1 y.2.2.2.2.1 (fm_wl y) (fm_R y (.inr v, ν)) 0 0 As.length := by
    subst hR
    exact cwV As.length hA.ts (fm_gV hw hln) rfl rfl rfl ⟨rfl, hw.1.2.2.1, hw.1.2.2.2, hn⟩ ⟨hF, hLo⟩
  refine fm_done hA hS hv (va_runV ⟨hA.x, hA.b, hA.ml, hA.own, hA.ts⟩ hC hcw ⟨fm_blind _, va_recv hA.k hP hc (by rw [fm_ws_at (fm_fld9 hkd hci), fm_cell_obj hkd hci]), fun U hU hW => ⟨rfl, fm_pre hP hA.k hA.e hS hU hW⟩⟩ rfl rfl hv.1 hst (lv_room hcat) (hA.dg hl) ⟨Nat.zero_le _, Nat.zero_le _⟩) kk
theorem Tr.callS {idx : Nat} {v : Option Value} (hC : fC g l y As μ (.inr v, ν)) (hl : fm_lk z.2.2.2.2.2.1 pc = some (.invokestatic idx, 3)) (hw : fm_cwS y) (hln : Cond.methodLink z.2.1 idx y.1 ∈ lw_all)
    (hn : (parseMethodDescriptor y.1.desc).map (fun d => d.parameters.length) = some As.length) (hcat : (rest.map fun v => v.category).sum ≤ 8) (hF : y.2.2.2.2.2.2.1 + 1 ≤ z.2.2.2.2.2.2.1) (hLo : 8 + (y.2.2.2.1 + 11) + y.2.2.2.2.2.2.2 ≤ z.2.2.2.2.2.2.2) (hst : st = As.reverse ++ rest)
    (kk : Tr g l z o (pc + 3) lv (v.toList ++ rest) ν) : Tr g l z o pc lv st μ := by
  intro p e R s m args below meth c H locs ls hA hP hS hv
  have hR := hA.room
  have hcw : CallB R s args z.2.1 idx y.1 y.2.2.1 y.2.2.2.1 y.2.2.2.2.1 (fm_wl y) (fm_R y (.inr v, ν)) 0 0 As.length ∧ (Cond.static y.1).before args s = true := by
    subst hR
    exact va_cwS As.length hA.ts (fm_gS hw hln) rfl rfl rfl ⟨hw.1.2.2.1, hw.1.2.2.2, hn⟩ ⟨hF, hLo⟩
  refine fm_done hA hS hv (va_runS ⟨hA.x, hA.b, hA.ml, hA.own, hA.ts⟩ hC hcw ⟨fm_blind _, fun U hU hW => ⟨rfl, fm_pre hP hA.k hA.e hS hU hW⟩⟩ rfl rfl hv.1 hst (lv_room hcat) (hA.dg hl) ⟨Nat.zero_le _, Nat.zero_le _⟩) kk
theorem Tr.callN {idx : Nat} {v : Option Value} {host : String} (hC : fC g l y As μ (.inr v, ν)) (hl : fm_lk z.2.2.2.2.2.1 pc = some (.invokestatic idx, 3)) (hw : fm_cwS y) (hln : Cond.methodLinkNest z.2.1 idx y.1 host ∈ lw_tbl)
    (hn : (parseMethodDescriptor y.1.desc).map (fun d => d.parameters.length) = some As.length) (hcat : (rest.map fun v => v.category).sum ≤ 8) (hF : y.2.2.2.2.2.2.1 + 1 ≤ z.2.2.2.2.2.2.1) (hLo : 8 + (y.2.2.2.1 + 11) + y.2.2.2.2.2.2.2 ≤ z.2.2.2.2.2.2.2) (hst : st = As.reverse ++ rest)
    (kk : Tr g l z o (pc + 3) lv (v.toList ++ rest) ν) : Tr g l z o pc lv st μ := by
  intro p e R s m args below meth c H locs ls hA hP hS hv
  have hR := hA.room
  have hcw : va_CN R s args z.2.1 idx y.1 host y.2.2.1 y.2.2.2.1 y.2.2.2.2.1 (fm_wl y) (fm_R y (.inr v, ν)) 0 0 As.length ∧ (Cond.static y.1).before args s = true ∧ True := by
    subst hR
    exact ⟨va_cnB As.length hA.ts (fm_gN hw.1) rfl rfl rfl (hA.e.2.2.2.2.2.2 _ hln rfl) (hA.ts _ hw.1.2.1) ⟨hw.1.2.2.1, hw.1.2.2.2, hn⟩ ⟨hF, hLo⟩, hA.ts _ hw.2, trivial⟩
  refine fm_done hA hS hv (va_runSN ⟨hA.x, hA.b, hA.ml, hA.own, hA.ts⟩ hC hcw ⟨fm_blind _, fun U hU hW => ⟨rfl, fm_pre hP hA.k hA.e hS hU hW⟩⟩ rfl rfl hv.1 hst (lv_room hcat) (hA.dg hl) ⟨Nat.zero_le _, Nat.zero_le _⟩) kk
/-- a callee throws, and nothing here catches it -/
theorem Tr.callX {b idx ci N k : Nat} {T : u_T} (hC : fC g l y (.ref b :: As) μ (.inl k, ν)) (hkd : fm_kd g b = ci) (hci : ci < 8) (hc : vwCl[ci]? = some (y.1.cls, T, N)) (hl : fm_lk z.2.2.2.2.2.1 pc = some (.invokevirtual idx, 3)) (hw : fm_cwV y) (hln : Cond.methodLink z.2.1 idx y.1 ∈ lw_all)
    (hn : (parseMethodDescriptor y.1.desc).map (fun d => d.parameters.length) = some As.length) (hcat : (rest.map fun v => v.category).sum ≤ 8) (hF : y.2.2.2.2.2.2.1 + 1 ≤ z.2.2.2.2.2.2.1) (hLo : 8 + (y.2.2.2.1 + 11) + y.2.2.2.2.2.2.2 ≤ z.2.2.2.2.2.2.2) (hst : st = As.reverse ++ .ref b :: rest) : Tr g l z (.inl k, ν) pc lv st μ := by
  intro p e R s m args below meth c H locs ls hA hP hS hv
  have hR := hA.room
  have hcw : CallW R s args z.2.1 y.1.cls idx y.1 y.2.2.1 y.2.2.2.1 y.2.2.2.2.1 (fm_wl y) (fm_R y (.inl k, ν)) 1 6 As.length := by
    subst hR
    exact cwV As.length hA.ts (fm_gV hw hln) rfl rfl rfl ⟨rfl, hw.1.2.2.1, hw.1.2.2.2, hn⟩ ⟨hF, hLo⟩
  have hfit : 0 + 1 ≤ R.cells ∧ 0 + 6 ≤ R.slots := by subst hR; exact ⟨Nat.le_refl _, Nat.le_refl _⟩
  have hr := vx_runV (e := e) (below := below) (meth := meth) (locs := locs) (cells := 0) (slots := 0) (g := F0 m pc ls st) (rest := rest) ⟨hA.x, hA.b, hA.ml, hA.own, hA.ts⟩ hC hcw ⟨fm_blind _, va_recv hA.k hP hc (by rw [fm_ws_at (fm_fld9 hkd hci), fm_cell_obj hkd hci]), fun U hU hW => ⟨rfl, fm_pre hP hA.k hA.e hS hU hW⟩⟩ rfl rfl hv.1 hst (lv_room hcat) (hA.dg hl) hfit
  intro X0 hT X
  rcases hr X0 hT X with ⟨v, st₀, t, T', L, h0, X', hL, e1, e2, hq, sg⟩ | ⟨q, st₀, t, T', L, E, ce, h0, X', hL, e1, e2, ⟨hE, hP', hz, hk⟩, hce, hcv, hcl, sg⟩
  · exact hq.elim
  · rw [h0] at hz hk
    have hS' : va_S (fm_A g) s.heap T'.heap (locs ++ L) := ⟨Nat.le_trans hS.1 (by rw [e1]; exact hz), fun q h1 h2 => by rw [e1, hk q (Nat.lt_of_lt_of_le h1 hS.1) h2]; exact hS.2.1 q h1 h2, fun q hq => by
      rcases List.mem_append.mp hq with h | h
      · exact hS.2.2 q h
      · exact hL q h⟩
    have ho : vx_W p l e R s m args below meth c T'.heap (locs ++ L) (0 + 1) (0 + 6) (vx_MQ below fm_No (fm_Qx g k ν) args s 1 6 (fm_A g)) (F0 m pc ls rest) q :=
      vx_out (E := E) (ce := ce) (fun x hx => (hA.exc k rfl x hx).elim) hA.lock (by rw [e1]; exact hce) hcv hcl (fun t1 ht1 _ => ⟨hE, by rw [ht1, e1]; exact hP', hS'.F ht1⟩) hS'.2.2 (Nat.le_refl _) (Nat.le_refl _)
    obtain ⟨t2, a1, b1⟩ := ho T' rfl X'
    exact ⟨t2, sg.trans a1, b1⟩
end RULES4
section TT
variable {ρ τ : Type} {g : fm_G} {l : Launch} {z y : fm_Y} {em : ρ → fm_O} {T T1 T2 : Option ρ} {pc pc' : Nat} {lv lv' : List (Nat × Value)} {st st' rest As : List Value} {μ μ' : fm_St}
theorem Tt.go (h : ∀ o, Tr g l z o pc' lv' st' μ' → Tr g l z o pc lv st μ) (k : Tt g l z em T pc' lv' st' μ') : Tt g l z em T pc lv st μ := fun r hr => h _ (k r hr)
theorem Tt.ret {r : ρ} (h : Tr g l z (em r) pc lv st μ) : Tt g l z em (some r) pc lv st μ := fun r' hr => by cases hr; exact h
theorem Tt.ck {b : Bool} (h : b = true → Tt g l z em T pc lv st μ) : Tt g l z em (fm_ck b T) pc lv st μ := fun r hr => h (fm_ck_eq hr).1 r (fm_ck_eq hr).2
theorem Tt.ite {c : Prop} [Decidable c] (h1 : c → Tt g l z em T1 pc lv st μ) (h2 : ¬ c → Tt g l z em T2 pc lv st μ) : Tt g l z em (if c then T1 else T2) pc lv st μ := by
  intro r hr
  by_cases h : c
  · rw [if_pos h] at hr; exact h1 h r hr
  · rw [if_neg h] at hr; exact h2 h r hr
theorem Tt.none : Tt g l z em (none : Option ρ) pc lv st μ := fun r hr => nomatch hr
end TT
/-! what a pure function answers: fm_em returns, fm_ex throws or returns -/
def fm_em {τ : Type} (vl : τ → Option Value) (mm : τ → fm_St) : τ → fm_O := fun x => (.inr (vl x), mm x)
def fm_ex {τ : Type} (μ : fm_St) (vl : τ → Option Value) (mm : τ → fm_St) : Nat ⊕ τ → fm_O
  | .inl k => (.inl k, μ)
  | .inr x => (.inr (vl x), mm x)
def fm_bx {τ ρ : Type} (f : Option (Nat ⊕ τ)) (k : τ → Option (Nat ⊕ ρ)) : Option (Nat ⊕ ρ) := match f with
  | none => none
  | some (.inl e) => some (.inl e)
  | some (.inr x) => k x
def fm_fuel : Nat := 5000
section TT2
variable {ρ τ : Type} {g : fm_G} {l : Launch} {z y : fm_Y} {em : ρ → fm_O} {pc : Nat} {lv : List (Nat × Value)} {st rest As : List Value} {μ : fm_St} {f : Option τ} {k : τ → Option ρ} {vl : τ → Option Value} {mm : τ → fm_St}
theorem Tt.callV {b idx ci N : Nat} {T : u_T} (hC : ∀ r, f = some r → fC g l y (.ref b :: As) μ (fm_em vl mm r)) (hkd : fm_kd g b = ci) (hci : ci < 8) (hc : vwCl[ci]? = some (y.1.cls, T, N)) (hl : fm_lk z.2.2.2.2.2.1 pc = some (.invokevirtual idx, 3)) (hw : fm_cwV y) (hln : Cond.methodLink z.2.1 idx y.1 ∈ lw_all)
    (hn : (parseMethodDescriptor y.1.desc).map (fun d => d.parameters.length) = some As.length) (hcat : (rest.map fun v => v.category).sum ≤ 8) (hF : y.2.2.2.2.2.2.1 + 1 ≤ z.2.2.2.2.2.2.1) (hLo : 8 + (y.2.2.2.1 + 11) + y.2.2.2.2.2.2.2 ≤ z.2.2.2.2.2.2.2) (hst : st = As.reverse ++ .ref b :: rest)
    (kk : ∀ r, Tt g l z em (k r) (pc + 3) lv ((vl r).toList ++ rest) (mm r)) : Tt g l z em (f.bind k) pc lv st μ := by
  intro r hr
  cases hf : f with
  | none => rw [hf] at hr; cases hr
  | some x => rw [hf] at hr; exact Tr.callV (hC x hf) hkd hci hc hl hw hln hn hcat hF hLo hst (kk x r hr)
theorem Tt.callS {idx : Nat} (hC : ∀ r, f = some r → fC g l y As μ (fm_em vl mm r)) (hl : fm_lk z.2.2.2.2.2.1 pc = some (.invokestatic idx, 3)) (hw : fm_cwS y) (hln : Cond.methodLink z.2.1 idx y.1 ∈ lw_all)
    (hn : (parseMethodDescriptor y.1.desc).map (fun d => d.parameters.length) = some As.length) (hcat : (rest.map fun v => v.category).sum ≤ 8) (hF : y.2.2.2.2.2.2.1 + 1 ≤ z.2.2.2.2.2.2.1) (hLo : 8 + (y.2.2.2.1 + 11) + y.2.2.2.2.2.2.2 ≤ z.2.2.2.2.2.2.2) (hst : st = As.reverse ++ rest)
    (kk : ∀ r, Tt g l z em (k r) (pc + 3) lv ((vl r).toList ++ rest) (mm r)) : Tt g l z em (f.bind k) pc lv st μ := by
  intro r hr
  cases hf : f with
  | none => rw [hf] at hr; cases hr
  | some x => rw [hf] at hr; exact Tr.callS (hC x hf) hl hw hln hn hcat hF hLo hst (kk x r hr)
theorem Tt.callN {idx : Nat} {host : String} (hC : ∀ r, f = some r → fC g l y As μ (fm_em vl mm r)) (hl : fm_lk z.2.2.2.2.2.1 pc = some (.invokestatic idx, 3)) (hw : fm_cwS y) (hln : Cond.methodLinkNest z.2.1 idx y.1 host ∈ lw_tbl)
    (hn : (parseMethodDescriptor y.1.desc).map (fun d => d.parameters.length) = some As.length) (hcat : (rest.map fun v => v.category).sum ≤ 8) (hF : y.2.2.2.2.2.2.1 + 1 ≤ z.2.2.2.2.2.2.1) (hLo : 8 + (y.2.2.2.1 + 11) + y.2.2.2.2.2.2.2 ≤ z.2.2.2.2.2.2.2) (hst : st = As.reverse ++ rest)
    (kk : ∀ r, Tt g l z em (k r) (pc + 3) lv ((vl r).toList ++ rest) (mm r)) : Tt g l z em (f.bind k) pc lv st μ := by
  intro r hr
  cases hf : f with
  | none => rw [hf] at hr; cases hr
  | some x => rw [hf] at hr; exact Tr.callN (hC x hf) hl hw hln hn hcat hF hLo hst (kk x r hr)
end TT2
section TT3
variable {ρ τ : Type} {g : fm_G} {l : Launch} {z y : fm_Y} {pc : Nat} {lv : List (Nat × Value)} {st rest As : List Value} {μ : fm_St} {f : Option (Nat ⊕ τ)} {k : τ → Option (Nat ⊕ ρ)} {vl : τ → Option Value} {mm : τ → fm_St} {vl' : ρ → Option Value} {mm' : ρ → fm_St}
theorem Tt.callX {b idx ci N : Nat} {T : u_T} (hC : ∀ r, f = some r → fC g l y (.ref b :: As) μ (fm_ex μ vl mm r)) (hkd : fm_kd g b = ci) (hci : ci < 8) (hc : vwCl[ci]? = some (y.1.cls, T, N)) (hl : fm_lk z.2.2.2.2.2.1 pc = some (.invokevirtual idx, 3)) (hw : fm_cwV y) (hln : Cond.methodLink z.2.1 idx y.1 ∈ lw_all)
    (hn : (parseMethodDescriptor y.1.desc).map (fun d => d.parameters.length) = some As.length) (hcat : (rest.map fun v => v.category).sum ≤ 8) (hF : y.2.2.2.2.2.2.1 + 1 ≤ z.2.2.2.2.2.2.1) (hLo : 8 + (y.2.2.2.1 + 11) + y.2.2.2.2.2.2.2 ≤ z.2.2.2.2.2.2.2) (hst : st = As.reverse ++ .ref b :: rest)
    (kk : ∀ r, Tt g l z (fm_ex μ vl' mm') (k r) (pc + 3) lv ((vl r).toList ++ rest) (mm r)) : Tt g l z (fm_ex μ vl' mm') (fm_bx f k) pc lv st μ := by
  intro r hr
  cases hf : f with
  | none => rw [hf] at hr; cases hr
  | some x =>
    rw [hf] at hr
    cases x with
    | inl e =>
      cases hr
      exact Tr.callX (k := e) (hC _ hf) hkd hci hc hl hw hln hn hcat hF hLo hst
    | inr x => exact Tr.callV (hC _ hf) hkd hci hc hl hw hln hn hcat hF hLo hst (kk x r hr)
end TT3
section BR
variable {ρ : Type} {g : fm_G} {l : Launch} {z : fm_Y} {em : ρ → fm_O} {T1 T2 : Option ρ} {pc : Nat} {lv : List (Nat × Value)} {st rest : List Value} {μ : fm_St}
theorem Tt.if_eq {x : Int32} {off : Int} {tgt : Nat} (hl : fm_lk z.2.2.2.2.2.1 pc = some (.ifCond .eq off, 3)) (ht : (pc : Int) + off = (tgt : Int)) (k1 : Tt g l z em T1 tgt lv rest μ) (k2 : Tt g l z em T2 (pc + 3) lv rest μ) : Tt g l z em (if x = 0 then T1 else T2) pc lv (.int x :: rest) μ := fun r hr => Tr.if_eq hl ht (fun q => k1 r (by rw [if_pos q] at hr; exact hr)) (fun q => k2 r (by rw [if_neg q] at hr; exact hr))
theorem Tt.if_ne {x : Int32} {off : Int} {tgt : Nat} (hl : fm_lk z.2.2.2.2.2.1 pc = some (.ifCond .ne off, 3)) (ht : (pc : Int) + off = (tgt : Int)) (k1 : Tt g l z em T1 (pc + 3) lv rest μ) (k2 : Tt g l z em T2 tgt lv rest μ) : Tt g l z em (if x = 0 then T1 else T2) pc lv (.int x :: rest) μ := fun r hr => Tr.if_ne hl ht (fun q => k2 r (by rw [if_neg q] at hr; exact hr)) (fun q => k1 r (by rw [if_pos q] at hr; exact hr))
theorem Tt.if_lt {x : Int32} {off : Int} {tgt : Nat} (hl : fm_lk z.2.2.2.2.2.1 pc = some (.ifCond .lt off, 3)) (ht : (pc : Int) + off = (tgt : Int)) (k1 : Tt g l z em T1 tgt lv rest μ) (k2 : Tt g l z em T2 (pc + 3) lv rest μ) : Tt g l z em (if x < 0 then T1 else T2) pc lv (.int x :: rest) μ := fun r hr => Tr.if_lt hl ht (fun q => k1 r (by rw [if_pos q] at hr; exact hr)) (fun q => k2 r (by rw [if_neg q] at hr; exact hr))
theorem Tt.if_ge {x : Int32} {off : Int} {tgt : Nat} (hl : fm_lk z.2.2.2.2.2.1 pc = some (.ifCond .ge off, 3)) (ht : (pc : Int) + off = (tgt : Int)) (k1 : Tt g l z em T1 tgt lv rest μ) (k2 : Tt g l z em T2 (pc + 3) lv rest μ) : Tt g l z em (if 0 ≤ x then T1 else T2) pc lv (.int x :: rest) μ := fun r hr => Tr.if_ge hl ht (fun q => k1 r (by rw [if_pos q] at hr; exact hr)) (fun q => k2 r (by rw [if_neg q] at hr; exact hr))
theorem Tt.if_gt {x : Int32} {off : Int} {tgt : Nat} (hl : fm_lk z.2.2.2.2.2.1 pc = some (.ifCond .gt off, 3)) (ht : (pc : Int) + off = (tgt : Int)) (k1 : Tt g l z em T1 tgt lv rest μ) (k2 : Tt g l z em T2 (pc + 3) lv rest μ) : Tt g l z em (if 0 < x then T1 else T2) pc lv (.int x :: rest) μ := fun r hr => Tr.if_gt hl ht (fun q => k1 r (by rw [if_pos q] at hr; exact hr)) (fun q => k2 r (by rw [if_neg q] at hr; exact hr))
theorem Tt.if_le {x : Int32} {off : Int} {tgt : Nat} (hl : fm_lk z.2.2.2.2.2.1 pc = some (.ifCond .le off, 3)) (ht : (pc : Int) + off = (tgt : Int)) (k1 : Tt g l z em T1 tgt lv rest μ) (k2 : Tt g l z em T2 (pc + 3) lv rest μ) : Tt g l z em (if x ≤ 0 then T1 else T2) pc lv (.int x :: rest) μ := fun r hr => Tr.if_le hl ht (fun q => k1 r (by rw [if_pos q] at hr; exact hr)) (fun q => k2 r (by rw [if_neg q] at hr; exact hr))
theorem Tt.ic_eq {x y : Int32} {off : Int} {tgt : Nat} (hl : fm_lk z.2.2.2.2.2.1 pc = some (.if_icmp .eq off, 3)) (ht : (pc : Int) + off = (tgt : Int)) (k1 : Tt g l z em T1 tgt lv rest μ) (k2 : Tt g l z em T2 (pc + 3) lv rest μ) : Tt g l z em (if x = y then T1 else T2) pc lv (.int y :: .int x :: rest) μ := fun r hr => Tr.ic_eq hl ht (fun q => k1 r (by rw [if_pos q] at hr; exact hr)) (fun q => k2 r (by rw [if_neg q] at hr; exact hr))
theorem Tt.ic_ne {x y : Int32} {off : Int} {tgt : Nat} (hl : fm_lk z.2.2.2.2.2.1 pc = some (.if_icmp .ne off, 3)) (ht : (pc : Int) + off = (tgt : Int)) (k1 : Tt g l z em T1 (pc + 3) lv rest μ) (k2 : Tt g l z em T2 tgt lv rest μ) : Tt g l z em (if x = y then T1 else T2) pc lv (.int y :: .int x :: rest) μ := fun r hr => Tr.ic_ne hl ht (fun q => k2 r (by rw [if_neg q] at hr; exact hr)) (fun q => k1 r (by rw [if_pos q] at hr; exact hr))
theorem Tt.ic_lt {x y : Int32} {off : Int} {tgt : Nat} (hl : fm_lk z.2.2.2.2.2.1 pc = some (.if_icmp .lt off, 3)) (ht : (pc : Int) + off = (tgt : Int)) (k1 : Tt g l z em T1 tgt lv rest μ) (k2 : Tt g l z em T2 (pc + 3) lv rest μ) : Tt g l z em (if x < y then T1 else T2) pc lv (.int y :: .int x :: rest) μ := fun r hr => Tr.ic_lt hl ht (fun q => k1 r (by rw [if_pos q] at hr; exact hr)) (fun q => k2 r (by rw [if_neg q] at hr; exact hr))
theorem Tt.ic_ge {x y : Int32} {off : Int} {tgt : Nat} (hl : fm_lk z.2.2.2.2.2.1 pc = some (.if_icmp .ge off, 3)) (ht : (pc : Int) + off = (tgt : Int)) (k1 : Tt g l z em T1 tgt lv rest μ) (k2 : Tt g l z em T2 (pc + 3) lv rest μ) : Tt g l z em (if y ≤ x then T1 else T2) pc lv (.int y :: .int x :: rest) μ := fun r hr => Tr.ic_ge hl ht (fun q => k1 r (by rw [if_pos q] at hr; exact hr)) (fun q => k2 r (by rw [if_neg q] at hr; exact hr))
theorem Tt.ic_gt {x y : Int32} {off : Int} {tgt : Nat} (hl : fm_lk z.2.2.2.2.2.1 pc = some (.if_icmp .gt off, 3)) (ht : (pc : Int) + off = (tgt : Int)) (k1 : Tt g l z em T1 tgt lv rest μ) (k2 : Tt g l z em T2 (pc + 3) lv rest μ) : Tt g l z em (if y < x then T1 else T2) pc lv (.int y :: .int x :: rest) μ := fun r hr => Tr.ic_gt hl ht (fun q => k1 r (by rw [if_pos q] at hr; exact hr)) (fun q => k2 r (by rw [if_neg q] at hr; exact hr))
theorem Tt.ic_le {x y : Int32} {off : Int} {tgt : Nat} (hl : fm_lk z.2.2.2.2.2.1 pc = some (.if_icmp .le off, 3)) (ht : (pc : Int) + off = (tgt : Int)) (k1 : Tt g l z em T1 tgt lv rest μ) (k2 : Tt g l z em T2 (pc + 3) lv rest μ) : Tt g l z em (if x ≤ y then T1 else T2) pc lv (.int y :: .int x :: rest) μ := fun r hr => Tr.ic_le hl ht (fun q => k1 r (by rw [if_pos q] at hr; exact hr)) (fun q => k2 r (by rw [if_neg q] at hr; exact hr))
end BR
