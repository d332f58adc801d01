section
/-! more rules of constructors -/
section NS
variable {g : fm_G} {l : Launch} {z y : fm_Y} {P mc ms : Nat} {eF es : List va_E} {tF tys : List (ClassId × FieldType)} {pc : Nat} {lv : List (Nat × Value)} {st rest : List Value} {cells slots : Nat}
theorem Tn.obj {idx : Nat} (hl : fm_lk z.2.2.2.2.2.1 pc = some (.invokespecial idx, 3)) (w1 : Cond.methodLink z.2.1 idx objectInit ∈ lw_all) (w2 : Cond.instanceMethod objectInit ∈ lw_all) (w3 : Cond.code objectInit ⟨#[0xb1]⟩ 1 none ∈ lw_all) (hF : 1 ≤ z.2.2.2.2.2.2.1) (hL : 12 ≤ z.2.2.2.2.2.2.2)
    (k : Tn g l z P mc ms eF tF (pc + 3) lv [] es tys cells slots) : Tn g l z P mc ms eF tF pc lv [.ref P] es tys cells slots := by
  intro p e R s m args below meth c H locs ls hA hsz hP hK hS hv
  have hts := hA.2.2.2.2.1
  have hR := hA.2.2.2.2.2.2.2.2.2.1
  have hFR : 1 ≤ R.frames := by subst hR; exact hF
  have hLR : 12 ≤ R.locals := by subst hR; exact hL
  refine W.objInit hA.1 hA.2.1 hA.2.2.2.1 (hts _ w1) (hts _ w2) (hts _ w3) rfl (by rw [hA.2.2.1]; exact hv.1) rfl (hA.dg hl) hFR hLR ?_
  refine W.eq (g2 := F0 m (pc + 3) ls []) rfl ?_
  exact k p e R s m args below meth c H locs ls hA hsz hP hK hS hv
theorem Tn.putF {ci k idx N : Nat} {C : String} {T : u_T} {ty : Nat → FieldType} {fs : List Value} {a : Nat} {ft : FieldType} (hc : fm_cls ci C T N ty) (he : es[0]? = some (.inr (ci, fs))) (hl : fm_lk z.2.2.2.2.2.1 pc = some (.putfield idx, 3)) (w : Cond.fieldLink z.2.1 idx (T k).1 (T k).2.1 (T k).2.2.1 ∈ lw_all) (hk : k < N) (hfin : (T k).2.2.2 = true) (hdecl : (T k).1 = z.2.1) (hd : parseFieldDescriptor (T k).2.2.1 = some ft) (hn : narrow ft (.ref a) = .ref a) (hfit : fits ft (.ref a) = true) (hlf : k < fs.length)
    (kk : Tn g l z P mc ms eF tF (pc + 3) lv rest (es.set 0 (.inr (ci, fs.set k (.ref a)))) tys cells slots) : Tn g l z P mc ms eF tF pc lv (.ref a :: .ref P :: rest) es tys cells slots := by
  intro p e R s m args below meth c H locs ls hA hsz hP hK hS hv
  obtain ⟨hx, hb, hml, hown, hts, -, hG, hrt, hlk, hR, hin2, hdec, hs1⟩ := id hA
  obtain ⟨hc1, hc2, hin, hty, hnm⟩ := hc
  have hap := va_apart (own := z.2.1) hts hin ty hty hnm hK hc1
  have he0 := wsOf_at (P := P) he
  obtain ⟨r, h1, cell, q1, q2, q3, q4⟩ := hP 0 _ he0
  have hr : r = (C, T, N) := Option.some.inj (h1.symm.trans hc1)
  subst hr
  obtain ⟨hSl, hfc, kC, hkC, hkind⟩ := hK.1 ci _ hc1
  obtain ⟨cf, kf, fi, f, hi, hsl⟩ := hSl k hk
  have hlay := hts _ (hin _ (u_in_lay hk))
  unfold u_lay at hlay
  rw [if_pos hfin] at hlay
  have hst := (u_facts hfc hkC (u_lays hts hin hk) hi).1
  have hcf : m.cls = cf := by
    obtain ⟨_, _, c', _, _, _, -, -, hf', -, -, -, hown2, -⟩ := Cond.laysFinal_spec hlay
    have e1 : c' = cf := by have := hi.symm.trans hf'; simp at this; exact this.1.symm
    rw [hdecl] at hown2
    rw [← e1]; exact Option.some.inj (hown.symm.trans hown2)
  have h6 := u_fits hfc hkC hkind (Or.inr hlay) hi hd hn hfit
  refine W.putFinK hx hb hown (hts _ w) hi hst hcf hin2 (by rw [q2]; exact h6) q1 q3 (by rw [hsl]; exact k2_hasslot (q4 k hk)) rfl rfl (hA.dg hl) fun H' e1 e2 e3 => ?_
  rw [hsl] at e1 ⊢
  refine kk p e R s m args below meth c H' _ ls hA (by rw [e2, hsz, List.length_set]) ?_ hK (hS.put e2 e3 ((wsOf_D P es).2 0 _ he0)) hv
  have h9 := hP.set (wsOf_D P es) he0 (e := .inr (ci, fs.set k (.ref a))) ⟨_, hc1, t_OB.to (V := updV (vp_V fs) k (.ref a)) ⟨_, e1, q2, q3, t_set q4 hap hk (.ref a)⟩ (fun j _ => vp_updV_set hlf (.ref a) j)⟩ e3
  rw [wsOf_set] at h9
  exact h9
theorem Tn.putI {ci k idx N : Nat} {C : String} {T : u_T} {ty : Nat → FieldType} {fs : List Value} {v : Int32} (hc : fm_cls ci C T N ty) (he : es[0]? = some (.inr (ci, fs))) (hl : fm_lk z.2.2.2.2.2.1 pc = some (.putfield idx, 3)) (w : Cond.fieldLink z.2.1 idx (T k).1 (T k).2.1 (T k).2.2.1 ∈ lw_all) (hk : k < N) (hfin : (T k).2.2.2 = false) (hd : parseFieldDescriptor (T k).2.2.1 = some .int) (hlf : k < fs.length)
    (kk : Tn g l z P mc ms eF tF (pc + 3) lv rest (es.set 0 (.inr (ci, fs.set k (.int v)))) tys cells slots) : Tn g l z P mc ms eF tF pc lv (.int v :: .ref P :: rest) es tys cells slots := by
  intro p e R s m args below meth c H locs ls hA hsz hP hK hS hv
  obtain ⟨hx, hb, hml, hown, hts, -, hG, hrt, hlk, hR, hin2, hdec, hs1⟩ := id hA
  obtain ⟨hc1, hc2, hin, hty, hnm⟩ := hc
  have hap := va_apart (own := z.2.1) hts hin ty hty hnm hK hc1
  have he0 := wsOf_at (P := P) he
  obtain ⟨r, h1, cell, q1, q2, q3, q4⟩ := hP 0 _ he0
  have hr : r = (C, T, N) := Option.some.inj (h1.symm.trans hc1)
  subst hr
  obtain ⟨hSl, hfc, kC, hkC, hkind⟩ := hK.1 ci _ hc1
  obtain ⟨cf, kf, fi, f, hi, hsl⟩ := hSl k hk
  have hlay := hts _ (hin _ (u_in_lay hk))
  unfold u_lay at hlay
  rw [if_neg (by rw [hfin]; decide)] at hlay
  have hst := (u_facts hfc hkC (u_lays hts hin hk) hi).1
  have hn : narrow .int (.int v) = .int v := rfl
  have hfit : fits .int (.int v) = true := rfl
  have h6 := u_store hfc hkC hkind hlay hi hd hn hfit
  refine W.putK hx hb (f := f) ⟨hown, hts _ w, ⟨_, _, _, hi⟩, hst⟩ (by rw [q2]; exact h6) q1 q3 (by rw [hsl]; exact k2_hasslot (q4 k hk)) rfl rfl (hA.dg hl) fun H' e1 e2 e3 => ?_
  rw [hsl] at e1 ⊢
  refine kk p e R s m args below meth c H' _ ls hA (by rw [e2, hsz, List.length_set]) ?_ hK (hS.put e2 e3 ((wsOf_D P es).2 0 _ he0)) hv
  have h9 := hP.set (wsOf_D P es) he0 (e := .inr (ci, fs.set k (.int v))) ⟨_, hc1, t_OB.to (V := updV (vp_V fs) k (.int v)) ⟨_, e1, q2, q3, t_set q4 hap hk (.int v)⟩ (fun j _ => vp_updV_set hlf (.int v) j)⟩ e3
  rw [wsOf_set] at h9
  exact h9
theorem Tn.max {x y : Int32} {idx : Nat} (hl : fm_lk z.2.2.2.2.2.1 pc = some (.invokestatic idx, 3)) (hw : fm_mth z.2.1 idx Lib.Math.max.name Lib.Math.max.code 2 .int) (hF : 1 ≤ z.2.2.2.2.2.2.1) (hLo : (rest.map fun v => v.category).sum + 13 ≤ z.2.2.2.2.2.2.2) (hc : cells ≤ mc) (hs : slots ≤ ms) (kk : Tn g l z P mc ms eF tF (pc + 3) lv (.int (fm_max x y) :: rest) es tys cells slots) : Tn g l z P mc ms eF tF pc lv (.int y :: .int x :: rest) es tys cells slots := by
  intro p e R s m args below meth c H locs ls hA hsz hP hK hS hv
  obtain ⟨hx, hb, hml, hown, hts, -, hG, hrt, hlk, hR, hin2, hdec, hs1⟩ := id hA
  subst hR
  exact va_mmax hx hb (hml.trans hv.1.symm) hown (hts _ hw.1) (hts _ hw.2.1) (hts _ hw.2.2.1) (hts _ hw.2.2.2) hF hLo hc hs (hA.dg hl) (kk p e _ s m args below meth c H locs ls hA hsz hP hK hS hv)
theorem Tn.ret (is : List Nat) (hl : fm_lk z.2.2.2.2.2.1 pc = some (.return_, 1)) (hr : z.2.2.2.2.1 = none) (he : es = eF) (his : is.filterMap (fun i => tys[i]?) = tF) (hc : cells ≤ mc) (hs : slots ≤ ms) : Tn g l z P mc ms eF tF pc lv [] es tys cells slots := by
  intro p e R s m args below meth c H locs ls hA hsz hP hK hS hv
  obtain ⟨hx, hb, hml, hown, hts, -, hG, hrt, hlk, hR, hin2, hdec, hs1⟩ := id hA
  subst he
  refine W.widen (k := mc) (n := ms) hc hs ?_
  exact W.vret hx hb (hrt.trans hr) (fun t ht hW => ⟨rfl, by rw [ht]; exact hsz, by rw [ht]; exact hP, va_K.moved hW.alike (hK.sub is his), hS.F ht⟩) hS.2.2 (hA.dg hl) hlk
theorem Tn.call {idx mc1 ms1 : Nat} {av : List Value} {e0 : va_E} {es1 : List va_E} {t1 : List (ClassId × FieldType)} (hC : nC g l y (P + es.length) av e0 es1 t1 mc1 ms1) (hl : fm_lk z.2.2.2.2.2.1 pc = some (.invokespecial idx, 3)) (hw : fm_cw y) (hi : y.1.name = "<init>") (hvt : y.2.2.2.2.1 = none) (w2 : Cond.instanceMethod y.1 ∈ lw_all) (hln : Cond.methodLink z.2.1 idx y.1 ∈ lw_all)
    (hn : (parseMethodDescriptor y.1.desc).map (fun d => d.parameters.length) = some av.length) (hcat : (rest.map fun v => v.category).sum ≤ 8) (hF : y.2.2.2.2.2.2.1 + 1 ≤ z.2.2.2.2.2.2.1) (hLo : 8 + (y.2.2.2.1 + 11) + y.2.2.2.2.2.2.2 ≤ z.2.2.2.2.2.2.2) (hc : cells + mc1 ≤ mc) (hs : slots + ms1 ≤ ms) (hst : st = av.reverse ++ .ref (P + es.length) :: rest)
    (kk : Tn g l z P mc ms eF tF (pc + 3) lv rest (es ++ es1) (tys ++ t1) (cells + mc1) (slots + ms1)) : Tn g l z P mc ms eF tF pc lv st (es ++ [e0]) tys cells slots := by
  intro p e R s m args below meth c H locs ls hA hsz hP hK hS hv
  obtain ⟨hx, hb, hml, hown, hts, hK0, hG, hrt, hlk, hR, hin2, hdec, hs1⟩ := id hA
  have hsz2 : H.size = P + es.length + 1 := by rw [hsz, List.length_append]; rfl
  rw [wsOf_app] at hP
  have hP1 : va_P g.2.1 vwCl (wsOf (P + es.length) [e0]) H := fun k q hk => hP ((wsOf P es).length + k) q (by rw [List.getElem?_append_right (by omega), show (wsOf P es).length + k - (wsOf P es).length = k by omega]; exact hk)
  have hP0 : va_P g.2.1 vwCl (wsOf P es) H := fun k q hk => hP k q (by rw [List.getElem?_append_left (List.getElem?_eq_some_iff.mp hk).1]; exact hk)
  have hcw : CallB R s args z.2.1 idx y.1 y.2.2.1 y.2.2.2.1 none (fm_wl y) (nR y mc1 ms1) mc1 ms1 av.length ∧ y.1.name = "<init>" ∧ (Cond.instanceMethod y.1).before args s = true := by
    subst hR
    obtain ⟨y1, y2, y3, y4, y5, y6, y7, y8⟩ := y
    change y5 = none at hvt
    subst hvt
    exact cwI av.length hts (fm_gN hw) rfl rfl rfl (hts _ hw.2.1) (hts _ hln) (hts _ w2) hi ⟨hw.2.2.1, hw.2.2.2, hn⟩ ⟨hF, hLo⟩
  have hfit : cells + mc1 ≤ R.cells ∧ slots + ms1 ≤ R.slots := by subst hR; exact ⟨hc, hs⟩
  have hr := va_runI (e := e) (below := below) (meth := meth) (locs := locs) (cells := cells) (slots := slots) (g := F0 m pc ls st) (rest := rest) ⟨hx, hb, hml, hown, hts⟩ hC hcw ⟨fun a U G mk q => by
      obtain ⟨q0, q1, qP, qK, qG⟩ := q
      exact ⟨q0, q1, qP, va_K.moved (u := U) (U := U.calling G mk a) (Vm.Alike.refl U.vm) qK, qG.moved (u := U) (U := U.calling G mk a) (Vm.Alike.refl U.vm)⟩, fun U hU hW => ⟨rfl, by rw [hU]; exact hsz2, by rw [hU]; exact hP1, va_K.moved hW.alike hK0, hG.moved hW.alike⟩⟩ rfl rfl hv.1 hst (lv_room hcat) (hA.dg hl) hfit
  intro T hT X
  obtain ⟨v', st₀, t, T', L, h0, X', hL, e1, e2, ⟨hv', hsz3, hP3, hK3, hz, hk3⟩, sg⟩ := hr T hT X
  cases hv'
  rw [h0] at hz hk3
  have hS' : va_S (fun q => P ≤ q) s.heap T'.heap (locs ++ L) := ⟨Nat.le_trans hS.1 (by rw [e1]; exact hz), fun q h1 h2 => by rw [e1, hk3 q (Nat.lt_of_lt_of_le h1 hS.1) (by omega)]; exact hS.2.1 q h1 h2, fun q hq => by
    rcases List.mem_append.mp hq with h | h
    · exact hS.2.2 q h
    · have := hL q h
      show P ≤ q.base
      omega⟩
  have hP4 : va_P g.2.1 vwCl (wsOf P (es ++ es1)) T'.heap := by
    rw [wsOf_app, e1]
    refine (hP0.kept (fun k x hx => hk3 x.1 (by have := wsOf_in hx; omega) (by have := wsOf_in hx; omega))).app hP3
  obtain ⟨t2, a1, b1⟩ := kk p e R s m args below meth c T'.heap (locs ++ L) ls hA (by rw [e1, hsz3, List.length_append]; omega) hP4 (hK.app (va_K.moved (by rw [← e2]; exact X'.warmed.alike.symm) hK3)) hS' hv T' rfl X'
  exact ⟨t2, sg t2 a1, b1⟩
end NS
end
