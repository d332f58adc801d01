section
/-! CONSTRUCTORS: a block of cells that grows, from its object on -/
def wsOf : Nat → List va_E → va_W
  | _, [] => []
  | P, e :: r => (P, e) :: wsOf (P + 1) r
theorem wsOf_get : ∀ (es : List va_E) (P i : Nat), (wsOf P es)[i]? = es[i]?.map (fun e => (P + i, e))
  | [], _, _ => rfl
  | e :: r, P, 0 => rfl
  | e :: r, P, i + 1 => by
    rw [show wsOf P (e :: r) = (P, e) :: wsOf (P + 1) r from rfl, List.getElem?_cons_succ, List.getElem?_cons_succ, wsOf_get r (P + 1) i, show P + 1 + i = P + (i + 1) by omega]
theorem wsOf_at {es : List va_E} {P i : Nat} {e : va_E} (h : es[i]? = some e) : (wsOf P es)[i]? = some (P + i, e) := by rw [wsOf_get, h]; rfl
theorem wsOf_in {es : List va_E} {P i : Nat} {q : Nat × va_E} (h : (wsOf P es)[i]? = some q) : q.1 = P + i ∧ i < es.length ∧ es[i]? = some q.2 := by
  rw [wsOf_get] at h
  cases h1 : es[i]? with
  | none => rw [h1] at h; cases h
  | some e => rw [h1] at h; cases h; exact ⟨rfl, (List.getElem?_eq_some_iff.mp h1).1, rfl⟩
theorem wsOf_app : ∀ (es fs : List va_E) (P : Nat), wsOf P (es ++ fs) = wsOf P es ++ wsOf (P + es.length) fs
  | [], _, _ => rfl
  | e :: r, fs, P => by
    rw [List.cons_append, show wsOf P (e :: (r ++ fs)) = (P, e) :: wsOf (P + 1) (r ++ fs) from rfl, wsOf_app r fs (P + 1), show wsOf P (e :: r) = (P, e) :: wsOf (P + 1) r from rfl, List.cons_append, List.length_cons, show P + 1 + r.length = P + (r.length + 1) by omega]
theorem wsOf_set : ∀ (es : List va_E) (P i : Nat) (e : va_E), (wsOf P es).set i (P + i, e) = wsOf P (es.set i e)
  | [], _, _, _ => rfl
  | e' :: r, P, 0, e => rfl
  | e' :: r, P, i + 1, e => by
    rw [show wsOf P (e' :: r) = (P, e') :: wsOf (P + 1) r from rfl, List.set_cons_succ, List.set_cons_succ, show P + (i + 1) = P + 1 + i by omega, wsOf_set r (P + 1) i e]
    rfl
theorem wsOf_D (P : Nat) (es : List va_E) : va_D (fun q => P ≤ q) (wsOf P es) := ⟨fun i j p q hi hj h => by
  have h1 := (wsOf_in hi).1
  have h2 := (wsOf_in hj).1
  omega, fun k q hk => by
  have h1 := (wsOf_in hk).1
  show P ≤ q.1
  omega⟩
/-- what the block's arrays' classes are called -/
def nG (g : fm_G) (U : State) : Prop := (∀ c, U.vm.findClass ("[" ++ FieldType.int.toString) = some c → c = g.2.2.1.1) ∧ (∀ c, U.vm.findClass ("[" ++ (FieldType.object "CircleFlips$Plane").toString) = some c → c = g.2.2.1.2.1) ∧ va_AO "CircleFlips$Plane" U
theorem nG.moved {g : fm_G} {u U : State} (hvm : u.vm.Alike U.vm) (h : nG g u) : nG g U := ⟨fun c hc => h.1 c (by rw [hvm.findClass] at hc; exact hc), fun c hc => h.2.1 c (by rw [hvm.findClass] at hc; exact hc), h.2.2.moved hvm⟩
def nR (z : fm_Y) (mc ms : Nat) : Room := { frames := z.2.2.2.2.2.2.1, cells := mc, slots := ms, locals := z.2.2.2.2.2.2.2 }
def nQ (g : fm_G) (P : Nat) (es : List va_E) (tys : List (ClassId × FieldType)) : Array Value → State → Outcome → State → Prop := fun _ st oc t => oc = .returned none ∧ t.heap.size = P + es.length ∧ va_P g.2.1 vwCl (wsOf P es) t.heap ∧ va_K g.2.1 vwCl tys t ∧ va_F (fun q => P ≤ q) st t
/-- a constructor's contract: at P the object as it is born, nothing behind it -/
def nC (g : fm_G) (l : Launch) (z : fm_Y) (P : Nat) (av : List Value) (e0 : va_E) (es : List va_E) (tys : List (ClassId × FieldType)) (mc ms : Nat) : Prop :=
  Met l z.1 (fm_wl z) (nR z mc ms) (va_Pc (.ref P :: av) (fun U => U.heap.size = P + 1 ∧ va_P g.2.1 vwCl (wsOf P [e0]) U.heap ∧ va_K g.2.1 vwCl [] U ∧ nG g U)) (nQ g P es tys) mc ms (fun q => P ≤ q)
def nAt (z : fm_Y) (g : fm_G) (P mc ms : Nat) (p : Program) (R : Room) (s : State) (m : MethodId) (args : Array Value) (meth : Method) (c : Code) : Prop :=
  p.tables.exec = Jvm.exec ∧ c.code = z.2.2.1 ∧ c.maxLocals = z.2.2.2.1 ∧ s.vm.findClass z.2.1 = some m.cls ∧ (∀ w ∈ lw_all, w.before args s = true) ∧ va_K g.2.1 vwCl [] s ∧ nG g s ∧ meth.sig.returnType = z.2.2.2.2.1 ∧ meth.locks = false ∧ R = nR z mc ms ∧ meth.name = "<init>" ∧ fm_dec z ∧ s.heap.size = P + 1
def Tn (g : fm_G) (l : Launch) (z : fm_Y) (P mc ms : Nat) (eF : List va_E) (tF : List (ClassId × FieldType)) (pc : Nat) (lv : List (Nat × Value)) (st : List Value) (es : List va_E) (tys : List (ClassId × FieldType)) (cells slots : Nat) : Prop :=
  ∀ (p : Program) (e : Env) (R : Room) (s : State) (m : MethodId) (args : Array Value) (below : List Frame) (meth : Method) (c : Code) (H : Heap) (locs : List Loc) (ls : Array Slot),
    nAt z g P mc ms p R s m args meth c → H.size = P + es.length → va_P g.2.1 vwCl (wsOf P es) H → va_K g.2.1 vwCl tys s → va_S (fun q => P ≤ q) s.heap H locs → lv_has ls z.2.2.2.1 lv → W p l e R s m args below meth c H locs cells slots (MQ below (nQ g P eF tF) args s mc ms (fun q => P ≤ q)) (F0 m pc ls st)
/-- pure instructions, anywhere -/
theorem fx_runW {p : Program} {l : Launch} {e : Env} {R : Room} {s : State} {m : MethodId} {args : Array Value} {below : List Frame} {meth : Method} {c : Code} {H : Heap} {locs : List Loc} {cells slots : Nat} {Q : State → Prop} {cc : ByteArray} {k : List (Nat × Instr × Nat)} {nL : Nat} (hx : p.tables.exec = Jvm.exec) (hb : c.code = cc) (hd : ∀ q ∈ k, decode cc q.1 = .ok q.2) : ∀ (n : Nat) {pc pc' : Nat} {lv lv' : List (Nat × Value)} {st st' : List Value} {ls : Array Slot}, fx_run k nL n pc lv st = some (pc', lv', st') → lv_has ls nL lv → (∀ ls' : Array Slot, lv_has ls' nL lv' → W p l e R s m args below meth c H locs cells slots Q (F0 m pc' ls' st')) → W p l e R s m args below meth c H locs cells slots Q (F0 m pc ls st)
  | 0, _, _, _, _, _, _, ls, h, hl, kk => by cases h; exact kk ls hl
  | n + 1, pc, pc', lv, lv', st, st', ls, h, hl, kk => by
    unfold fx_run at h
    split at h
    · next off len hk =>
      cases hl3 : Nat.beq len 3 with
      | false => rw [hl3] at h; cases h
      | true =>
        have hl4 : len = 3 := Nat.eq_of_beq_eq_true hl3
        subst hl4
        change (match (pc : Int) + off with | .ofNat t => fx_run k nL n t lv st | .negSucc _ => none) = some (pc', lv', st') at h
        split at h
        · next t ht =>
          have hdg : decode cc pc = .ok (.goto off, 3) := hd (pc, .goto off, 3) (fm_lk_mem hk)
          exact lv_goto hx hb hdg ht (fx_runW hx hb hd n h hl kk)
        · cases h
    · next i len hne hk =>
      split at h
      · next lv1 st1 hs =>
        cases hl3 : Nat.beq len (fx_len i) with
        | false => rw [hl3] at h; cases h
        | true =>
          rw [hl3] at h
          have hl4 := Nat.eq_of_beq_eq_true hl3
          subst hl4
          have hdg : decode cc pc = .ok (i, fx_len i) := hd (pc, i, fx_len i) (fm_lk_mem hk)
          exact fx_sound hx hb hs hl hdg (fun ls' hl' => fx_runW hx hb hd n h hl' kk)
      · cases h
    · cases h
section NR
variable {g : fm_G} {l : Launch} {z : fm_Y} {P mc ms : Nat} {eF es : List va_E} {tF tys : List (ClassId × FieldType)} {pc : Nat} {lv : List (Nat × Value)} {st rest : List Value} {cells slots : Nat}
theorem nC.of {av : List Value} {e0 : va_E} (hz : plainName z.1.cls = true) (ho : z.2.1 = z.1.cls) (hi : z.1.name = "<init>") (hd : fm_dec z) (hL : (lg_sl (.ref P :: av)).length ≤ z.2.2.2.1)
    (k : Tn g l z P mc ms eF tF 0 (lv_args 0 (.ref P :: av)) [] [e0] [] 0 0) : nC g l z P av e0 eF tF mc ms := by
  refine Met.ofW (cc := z.2.2.1) (maxL := z.2.2.2.1) (ret := z.2.2.2.2.1) hz rfl ?_
  intro p e s m args below meth c s₁ B hml hv
  obtain ⟨rfl, hsz, hP, hK, hG⟩ := hv
  have hts := atoms_spec (ws := fm_wl z) B.pre
  have hv := lv_entry (.ref P :: av) hL
  have hown : s.vm.findClass z.2.1 = some m.cls := by rw [ho]; exact findClass_of_methodNamed B.named
  rw [lg_entry_eq]
  exact k p e _ s m _ below meth c s.heap [] _ ⟨B.exec, B.bytes, hml, hown, fun w hw => hts w (List.mem_cons_of_mem _ hw), hK, hG, B.returns, B.notSynchronized, rfl, (name_of_methodNamed B.named B.method).1.trans hi, hd, hsz⟩ hsz hP hK va_S.rf hv
theorem Tn.run (n : Nat) {pc' : Nat} {lv' : List (Nat × Value)} {st' : List Value} (h : fx_run z.2.2.2.2.2.1 z.2.2.2.1 n pc lv st = some (pc', lv', st')) (k : Tn g l z P mc ms eF tF pc' lv' st' es tys cells slots) : Tn g l z P mc ms eF tF pc lv st es tys cells slots := by
  intro p e R s m args below meth c H locs ls hA hsz hP hK hS hv
  exact fx_runW hA.1 hA.2.1 hA.2.2.2.2.2.2.2.2.2.2.2.1 n h hv (fun ls' hl' => k p e R s m args below meth c H locs ls' hA hsz hP hK hS hl')
theorem nAt.dg {p : Program} {R : Room} {s : State} {m : MethodId} {args : Array Value} {meth : Method} {c : Code} {len : Nat} {i : Instr} (h : nAt z g P mc ms p R s m args meth c) (hk : fm_lk z.2.2.2.2.2.1 pc = some (i, len)) : decode z.2.2.1 pc = .ok (i, len) := h.2.2.2.2.2.2.2.2.2.2.2.1 (pc, i, len) (fm_lk_mem hk)
theorem Tn.new {ci idx N : Nat} {C : String} {T : u_T} {ty : Nat → FieldType} {fs : List Value} (hc : fm_cls ci C T N ty) (hl : fm_lk z.2.2.2.2.2.1 pc = some (.new idx, 3)) (w1 : Cond.classLink z.2.1 idx C ∈ lw_all) (w2 : Cond.instantiable C N ∈ lw_all) (w3 : Cond.initialized C ∈ lw_all) (hfs : ∀ j, j < N → defaultValue (ty j) = vp_V fs j) (hcs : cells + 1 ≤ mc) (hss : slots + N ≤ ms)
    (k : Tn g l z P mc ms eF tF (pc + 3) lv (.ref (P + es.length) :: rest) (es ++ [.inr (ci, fs)]) tys (cells + 1) (slots + N)) : Tn g l z P mc ms eF tF pc lv rest es tys cells slots := by
  intro p e R s m args below meth c H locs ls hA hsz hP hK hS hv
  have hts := hA.2.2.2.2.1
  have hR := hA.2.2.2.2.2.2.2.2.2.1
  have hcR : cells + 1 ≤ R.cells := by subst hR; exact hcs
  have hsR : slots + N ≤ R.slots := by subst hR; exact hss
  have hKn := hK.1 ci _ hc.1
  refine W.newcK hA.1 hA.2.1 hA.2.2.2.1 (hts _ w1) (hts _ w2) (hts _ w3) rfl (hA.dg hl) hcR hsR hKn.2.1 hsz fun H1 kC hkC e1 z1 o1 => ?_
  refine k p e R s m args below meth c H1 locs ls hA (by rw [z1, List.length_append]; rfl) ?_ hK ⟨Nat.le_trans hS.1 (by omega), fun x h1 h2 => (o1 x (Nat.lt_of_lt_of_le h1 (by have := hS.1; omega))).trans (hS.2.1 x h1 h2), hS.2.2⟩ hv
  rw [wsOf_app]
  refine (hP.kept (fun k x hx => o1 x.1 (by have := wsOf_in hx; omega))).app (fun k x hx => ?_)
  have h1 := wsOf_in hx
  have hz : k < 1 := h1.2.1
  rw [show k = 0 by omega] at hx
  cases hx
  exact ⟨_, hc.1, (u_born ty hts hc.2.2.1 hKn hkC e1 hc.2.2.2.1).to hfs⟩
theorem Tn.newa {n : Int32} {N : Nat} (hl : fm_lk z.2.2.2.2.2.1 pc = some (.newarray .int, 2)) (hw : Cond.arrayClass (newarray.typeOf .int) ∈ lw_all) (hn : ¬ n < 0) (hN : n.toNatClampNeg = N) (hby : N * componentBytes (newarray.typeOf .int) ≤ 536870912) (hcs : cells + 1 ≤ mc) (hss : slots + N ≤ ms)
    (k : Tn g l z P mc ms eF tF (pc + 2) lv (.ref (P + es.length) :: rest) (es ++ [.inl (g.2.2.1.1, N, .inl (fun _ => 0))]) (tys ++ [(g.2.2.1.1, .int)]) (cells + 1) (slots + N)) : Tn g l z P mc ms eF tF pc lv (.int n :: rest) es tys cells slots := by
  intro p e R s m args below meth c H locs ls hA hsz hP hK hS hv
  have hts := hA.2.2.2.2.1
  have hR := hA.2.2.2.2.2.2.2.2.2.1
  have hcR : cells + 1 ≤ R.cells := by subst hR; exact hcs
  have hsR : slots + N ≤ R.slots := by subst hR; exact hss
  refine va_newaK (atype := .int) hA.1 hA.2.1 (hts _ hw) rfl (hA.dg hl) rfl hn hN hby hcR hsR hsz fun H1 cA e1 z1 o1 hAr hNm => ?_
  have hcA : cA = g.2.2.1.1 := hA.2.2.2.2.2.2.1.1 cA hNm
  subst hcA
  refine k p e R s m args below meth c H1 locs ls hA (by rw [z1, List.length_append]; rfl) ?_ ⟨hK.1, fun k x hx => ?_⟩ ⟨Nat.le_trans hS.1 (by omega), fun x h1 h2 => (o1 x (Nat.lt_of_lt_of_le h1 (by have := hS.1; omega))).trans (hS.2.1 x h1 h2), hS.2.2⟩ hv
  · rw [wsOf_app]
    refine (hP.kept (fun k x hx => o1 x.1 (by have := wsOf_in hx; omega))).app (fun k x hx => ?_)
    have h1 := wsOf_in hx
    have hz : k < 1 := h1.2.1
    rw [show k = 0 by omega] at hx
    cases hx
    exact e1
  · by_cases hl : k < tys.length
    · rw [List.getElem?_append_left hl] at hx
      exact hK.2 k x hx
    · rw [List.getElem?_append_right (by omega)] at hx
      have hz : k - tys.length < 1 := (List.getElem?_eq_some_iff.mp hx).1
      rw [show k - tys.length = 0 by omega] at hx
      cases hx
      exact ⟨hAr, hNm⟩
end NR
end
