section
/-! THE LAW'S START: what it makes -/
def k_s : List (Nat × Instr × Nat) := [(0, .new 8, 3), (3, .dup, 1), (4, .invokespecial 75, 3), (7, .astore_n 1, 1), (8, .new 76, 3), (11, .dup, 1), (12, .invokespecial 78, 3), (15, .astore_n 2, 1), (16, .iconst 1, 1), (17, .newarray .long, 2), (19, .astore_n 3, 1), (20, .iconst 1, 1), (21, .newarray .double, 2), (23, .astore 4, 2), (25, .iconst 0, 1), (26, .istore 5, 2)]
theorem o_s : kd k_s := (by decide +kernel : ∀ q ∈ k_s, decode code q.1 = .ok q.2)
theorem w_arrJ : Cond.arrayClass (newarray.typeOf .long) ∈ lw_all := lw_in 1477 (by decide +kernel) (by decide +kernel)
theorem w_arrD : Cond.arrayClass (newarray.typeOf .double) ∈ lw_all := lw_in 1478 (by decide +kernel) (by decide +kernel)
def nJ (g : fm_G) (U : State) : Prop := (∀ c, U.vm.findClass ("[" ++ FieldType.long.toString) = some c → c = g.2.2.1.2.2.1) ∧ ∀ c, U.vm.findClass ("[" ++ FieldType.double.toString) = some c → c = g.2.2.1.2.2.2
def sX (g : fm_G) (l : Launch) (p : Program) (s : State) (m : MethodId) (meth : Method) (c : Code) (b L : Nat) (xs : Nat → Int32) : Prop := lw_At p s m meth c b L xs ∧ L ≤ 3072 ∧ l.stackTraces = false ∧ g.1 = s.heap.size ∧ va_K g.2.1 vwCl [] s ∧ nG g s ∧ nJ g s ∧ fm_E g s s.heap ∧ nX s
def TS (g : fm_G) (l : Launch) (b L : Nat) (xs : Nat → Int32) (pc : Nat) (lv : List (Nat × Value)) (st : List Value) (es : List va_E) (tys : List (ClassId × FieldType)) (cells slots : Nat) : Prop :=
  ∀ (p : Program) (e : Env) (s : State) (m : MethodId) (below : List Frame) (meth : Method) (c : Code) (H : Heap) (locs : List Loc) (ls : Array Slot),
    sX g l p s m meth c b L xs → H.size = g.1 + es.length → va_P g.2.1 vwCl (wsOf g.1 es) H → va_K g.2.1 vwCl tys s → va_S (fm_A g) s.heap H locs → lv_has ls 10 lv → W p l e room_1 s m #[Value.ref b] below meth c H locs cells slots (lw_Z below #[Value.ref b] s) (F0 m pc ls st)
section LS9
variable {g : fm_G} {l : Launch} {y : fm_Y} {b L : Nat} {xs : Nat → Int32} {es : List va_E} {tys : List (ClassId × FieldType)} {pc : Nat} {lv : List (Nat × Value)} {st rest : List Value} {cells slots : Nat} {k : List (Nat × Instr × Nat)}
theorem sX.ts {p : Program} {s : State} {m : MethodId} {meth : Method} {c : Code} (h : sX g l p s m meth c b L xs) : ∀ w ∈ lw_all, w.before #[Value.ref b] s = true := fun w hw => h.1.2.2.2.2.2.1 w (lw_allin w hw)
theorem TS.run (hd : kd k) (n : Nat) {pc' : Nat} {lv' : List (Nat × Value)} {st' : List Value} (h : fx_run k 10 n pc lv st = some (pc', lv', st')) (kk : TS g l b L xs pc' lv' st' es tys cells slots) : TS g l b L xs pc lv st es tys cells slots := by
  intro p e s m below meth c H locs ls hX hsz hP hK hS hv
  exact fx_runW hX.1.1 hX.1.2.1 hd n h hv (fun ls' hl' => kk p e s m below meth c H locs ls' hX hsz hP hK hS hl')
theorem TS.new {ci idx N : Nat} {C : String} {T : u_T} {ty : Nat → FieldType} {fs : List Value} (hd : kd k) (hc : fm_cls ci C T N ty) (hl : fm_lk k pc = some (.new idx, 3)) (w1 : Cond.classLink R_law idx C ∈ lw_all) (w2 : Cond.instantiable C N ∈ lw_all) (w3 : Cond.initialized C ∈ lw_all) (hfs : ∀ j, j < N → defaultValue (ty j) = vp_V fs j) (hcs : cells + 1 ≤ 601024) (hss : slots + N ≤ 7293033)
    (kk : TS g l b L xs (pc + 3) lv (.ref (g.1 + es.length) :: rest) (es ++ [.inr (ci, fs)]) tys (cells + 1) (slots + N)) : TS g l b L xs pc lv rest es tys cells slots := by
  intro p e s m below meth c H locs ls hX hsz hP hK hS hv
  have hts := hX.ts
  have hg := hX.2.2.2.1
  have hKn := hK.1 ci _ hc.1
  refine W.newcK hX.1.1 hX.1.2.1 hX.1.2.2.2.2.1 (hts _ w1) (hts _ w2) (hts _ w3) rfl (hd.at hl) hcs hss hKn.2.1 hsz fun H1 kC hkC e1 z1 o1 => ?_
  refine kk p e s m below meth c H1 locs ls hX (by rw [z1, List.length_append]; rfl) ?_ hK ⟨Nat.le_trans hS.1 (by omega), fun x h1 h2 => (o1 x (Nat.lt_of_lt_of_le h1 (by have := hS.1; omega))).trans (hS.2.1 x h1 h2), hS.2.2⟩ hv
  rw [wsOf_app]
  refine (hP.kept (fun k x hx => o1 x.1 (by have := wsOf_in hx; omega))).app (fun k x hx => ?_)
  have h1 := wsOf_in hx
  have hz : k < 1 := h1.2.1
  rw [show k = 0 by omega] at hx
  cases hx
  exact ⟨_, hc.1, (u_born ty hts hc.2.2.1 hKn hkC e1 hc.2.2.2.1).to hfs⟩
theorem TS.newa {at0 : ArrayType} {n : Int32} {N : Nat} {ty : FieldType} {a0 : vp_A} {id : ClassId} (hd : kd k) (hl : fm_lk k pc = some (.newarray at0, 2)) (hw : Cond.arrayClass (newarray.typeOf at0) ∈ lw_all) (hty : newarray.typeOf at0 = ty) (ha : ∀ cA : ClassId, vp_cell cA a0 = arrV cA N (fun _ => defaultValue ty)) (hid : ∀ s : State, nJ g s → ∀ c, s.vm.findClass ("[" ++ ty.toString) = some c → c = id) (hn : ¬ n < 0) (hN : n.toNatClampNeg = N) (hby : N * componentBytes (newarray.typeOf at0) ≤ 536870912) (hra : ∀ (s : State) (cA : ClassId), s.vm.findClass ("[" ++ ty.toString) = some cA → va_RA s cA ty) (hcs : cells + 1 ≤ 601024) (hss : slots + N ≤ 7293033)
    (kk : TS g l b L xs (pc + 2) lv (.ref (g.1 + es.length) :: rest) (es ++ [.inl (id, a0)]) (tys ++ [(id, ty)]) (cells + 1) (slots + N)) : TS g l b L xs pc lv (.int n :: rest) es tys cells slots := by
  intro p e s m below meth c H locs ls hX hsz hP hK hS hv
  have hts := hX.ts
  have hg := hX.2.2.2.1
  subst hty
  refine va_newaK (atype := at0) hX.1.1 hX.1.2.1 (hts _ hw) rfl (hd.at hl) rfl hn hN hby hcs hss hsz fun H1 cA e1 z1 o1 hAr hNm => ?_
  have hcA : cA = id := hid s hX.2.2.2.2.2.2.1 cA hNm
  subst hcA
  refine kk p e s m below meth c H1 locs ls hX (by rw [z1, List.length_append]; rfl) ?_ ⟨hK.1, fun k x hx => ?_⟩ ⟨Nat.le_trans hS.1 (by omega), fun x h1 h2 => (o1 x (Nat.lt_of_lt_of_le h1 (by have := hS.1; omega))).trans (hS.2.1 x h1 h2), hS.2.2⟩ hv
  · rw [wsOf_app]
    refine (hP.kept (fun k x hx => o1 x.1 (by have := wsOf_in hx; omega))).app (fun k x hx => ?_)
    have h1 := wsOf_in hx
    have hz : k < 1 := h1.2.1
    rw [show k = 0 by omega] at hx
    cases hx
    show H1[g.1 + es.length]? = some (vp_cell _ _)
    rw [ha]
    exact e1
  · by_cases hl : k < tys.length
    · rw [List.getElem?_append_left hl] at hx
      exact hK.2 k x hx
    · rw [List.getElem?_append_right (by omega)] at hx
      have hz : k - tys.length < 1 := (List.getElem?_eq_some_iff.mp hx).1
      rw [show k - tys.length = 0 by omega] at hx
      cases hx
      exact ⟨hAr, hra s _ hNm⟩
theorem TS.call {idx mc1 ms1 : Nat} {av : List Value} {e0 : va_E} {es1 : List va_E} {t1 : List (ClassId × FieldType)} (hd : kd k) (hC : nC g l y (g.1 + es.length) av e0 es1 t1 mc1 ms1) (hl : fm_lk k pc = some (.invokespecial idx, 3)) (hw : fm_cw y) (hi : y.1.name = "<init>") (hvt : y.2.2.2.2.1 = none) (w2 : Cond.instanceMethod y.1 ∈ lw_all) (hln : Cond.methodLink R_law idx y.1 ∈ lw_all)
    (hn : (parseMethodDescriptor y.1.desc).map (fun d => d.parameters.length) = some av.length) (hcat : (rest.map fun v => v.category).sum ≤ 8) (hF : y.2.2.2.2.2.2.1 + 1 ≤ 15) (hLo : 8 + (y.2.2.2.1 + 11) + y.2.2.2.2.2.2.2 ≤ 664) (hc : cells + mc1 ≤ 601024) (hs : slots + ms1 ≤ 7293033) (hst : st = av.reverse ++ .ref (g.1 + es.length) :: rest)
    (kk : TS g l b L xs (pc + 3) lv rest (es ++ es1) (tys ++ t1) (cells + mc1) (slots + ms1)) : TS g l b L xs pc lv st (es ++ [e0]) tys cells slots := by
  intro p e s m below meth c H locs ls hX hsz hP hK hS hv
  obtain ⟨⟨hx, hb, hr, hml, hown, -, -⟩, hL, hlt, hg, hK0, hG, hJ, hE, hNX⟩ := id hX
  have hts := hX.ts
  have hsz2 : H.size = g.1 + es.length + 1 := by rw [hsz, List.length_append]; rfl
  rw [wsOf_app] at hP
  have hP1 : va_P g.2.1 vwCl (wsOf (g.1 + es.length) [e0]) H := fun k q hk => hP ((wsOf g.1 es).length + k) q (by rw [List.getElem?_append_right (by omega), show (wsOf g.1 es).length + k - (wsOf g.1 es).length = k by omega]; exact hk)
  have hP0 : va_P g.2.1 vwCl (wsOf g.1 es) H := fun k q hk => hP k q (by rw [List.getElem?_append_left (List.getElem?_eq_some_iff.mp hk).1]; exact hk)
  have hcw : CallB room_1 s #[Value.ref b] R_law idx y.1 y.2.2.1 y.2.2.2.1 none (fm_wl y) (nR y mc1 ms1) mc1 ms1 av.length ∧ y.1.name = "<init>" ∧ (Cond.instanceMethod y.1).before #[Value.ref b] s = true := by
    obtain ⟨y1, y2, y3, y4, y5, y6, y7, y8⟩ := y
    change y5 = none at hvt
    subst hvt
    exact cwI av.length hts (fm_gN hw) rfl rfl rfl (hts _ hw.2.1) (hts _ hln) (hts _ w2) hi ⟨hw.2.2.1, hw.2.2.2, hn⟩ ⟨hF, hLo⟩
  have hr := va_runI (e := e) (below := below) (meth := meth) (locs := locs) (cells := cells) (slots := slots) (g := F0 m pc ls st) (rest := rest) ⟨hx, hb, hml, hown, hts⟩ hC hcw ⟨fun a U G mk q => by
      obtain ⟨q0, q1, qP, qK, qG⟩ := q
      exact ⟨q0, q1, qP, va_K.moved (u := U) (U := U.calling G mk a) (Vm.Alike.refl U.vm) qK, qG.moved (u := U) (U := U.calling G mk a) (Vm.Alike.refl U.vm)⟩, fun U hU hW => ⟨rfl, by rw [hU]; exact hsz2, by rw [hU]; exact hP1, va_K.moved hW.alike hK0, hG.moved hW.alike⟩⟩ rfl rfl hv.1 hst (lv_room hcat) (hd.at hl) ⟨hc, hs⟩
  intro T hT X
  obtain ⟨v', st₀, t, T', Lc, h0, X', hL9, e1, e2, ⟨hv', hsz3, hP3, hK3, hz, hk3⟩, sg⟩ := hr T hT X
  cases hv'
  rw [h0] at hz hk3
  have hS1 := hS.1
  have hS' : va_S (fm_A g) s.heap T'.heap (locs ++ Lc) := ⟨Nat.le_trans hS.1 (by rw [e1]; exact hz), fun q h1 h2 => by rw [e1, hk3 q (Nat.lt_of_lt_of_le h1 hS.1) (by omega)]; exact hS.2.1 q h1 h2, fun q hq => by
    rcases List.mem_append.mp hq with h | h
    · exact hS.2.2 q h
    · have := hL9 q h
      show g.1 ≤ q.base
      omega⟩
  have hP4 : va_P g.2.1 vwCl (wsOf g.1 (es ++ es1)) T'.heap := by
    rw [wsOf_app, e1]
    refine (hP0.kept (fun k x hx => hk3 x.1 (by have := wsOf_in hx; omega) (by have := wsOf_in hx; omega))).app hP3
  obtain ⟨t2, a1, b1⟩ := kk p e s m below meth c T'.heap (locs ++ Lc) ls hX (by rw [e1, hsz3, List.length_append]; omega) hP4 (hK.app (va_K.moved (by rw [← e2]; exact X'.warmed.alike.symm) hK3)) hS' hv T' rfl X'
  exact ⟨t2, sg t2 a1, b1⟩
end LS9
end
