/-! THE RULES: Tr: from this place the method comes to the outcome o. Everything of the machine is inside of Tr. -/
/-- a method: name, the class whose code it is, bytes, locals, answer's type, code, frames, room of locals -/
abbrev fm_Y : Type := MethodName × String × ByteArray × Nat × Option FieldType × List (Nat × Instr × Nat) × Nat × Nat
/-- thrown (0 IllegalArgument, 1 IllegalState, 2 IndexOutOfBounds, 3 NoSuchElement) or returned; the memory behind it -/
abbrev fm_O : Type := (Nat ⊕ Option Value) × fm_St
def fm_exc : Nat → String
  | 0 => "java/lang/IllegalArgumentException"
  | 1 => "java/lang/IllegalStateException"
  | 2 => "java/lang/IndexOutOfBoundsException"
  | _ => "java/util/NoSuchElementException"
def fm_nc : (Nat ⊕ Option Value) → Nat
  | .inl _ => 1
  | .inr _ => 0
def fm_R (z : fm_Y) (o : fm_O) : Room := { frames := z.2.2.2.2.2.2.1, cells := fm_nc o.1, slots := 6 * fm_nc o.1, locals := z.2.2.2.2.2.2.2 }
def fm_lk : List (Nat × Instr × Nat) → Nat → Option (Instr × Nat)
  | [], _ => none
  | q :: r, pc => bif Nat.beq q.1 pc then some q.2 else fm_lk r pc
theorem fm_lk_mem : ∀ {k : List (Nat × Instr × Nat)} {pc : Nat} {i : Instr × Nat}, fm_lk k pc = some i → (pc, i) ∈ k
  | [], _, _, h => by cases h
  | q :: r, pc, i, h => by
    unfold fm_lk at h
    cases hb : Nat.beq q.1 pc with
    | true =>
      rw [hb] at h
      have h1 : q.1 = pc := Nat.eq_of_beq_eq_true hb
      have h2 : q.2 = i := Option.some.inj h
      subst h1; subst h2
      exact List.mem_cons_self
    | false =>
      rw [hb] at h
      exact List.mem_cons_of_mem _ (fm_lk_mem h)
def fm_dec (z : fm_Y) : Prop := ∀ q ∈ z.2.2.2.2.2.1, decode z.2.2.1 q.1 = .ok q.2
def fm_Qr (g : fm_G) (v : Option Value) (μ : fm_St) : Array Value → State → Outcome → State → Prop := fun _ st oc t => oc = .returned v ∧ fm_P g μ t.heap ∧ va_F (fm_A g) st t
def fm_Qx (g : fm_G) (k : Nat) (μ : fm_St) : String → State → State → Prop := fun E st t => E = fm_exc k ∧ fm_P g μ t.heap ∧ va_F (fm_A g) st t
def fm_No : Array Value → State → Outcome → State → Prop := fun _ _ _ _ => False
def fm_Q (g : fm_G) (below : List Frame) (args : Array Value) (s : State) (μ : fm_St) : (Nat ⊕ Option Value) → State → Prop
  | .inr v => MQ below (fm_Qr g v μ) args s 0 0 (fm_A g)
  | .inl k => vx_MQ below fm_No (fm_Qx g k μ) args s 1 6 (fm_A g)
def fm_At (z : fm_Y) (g : fm_G) (l : Launch) (o : fm_O) (p : Program) (R : Room) (s : State) (m : MethodId) (args : Array Value) (meth : Method) (c : Code) : Prop :=
  p.tables.exec = Jvm.exec ∧ c.code = z.2.2.1 ∧ c.maxLocals = z.2.2.2.1 ∧ s.vm.findClass z.2.1 = some m.cls ∧ (∀ w ∈ lw_all, w.before args s = true) ∧ fm_K g s ∧ fm_E g s s.heap ∧ meth.sig.returnType = z.2.2.2.2.1 ∧ meth.locks = false ∧ R = fm_R z o ∧ l.stackTraces = false ∧ (∀ k, o.1 = .inl k → ∀ x ∈ c.exceptionTable.toList, False) ∧ fm_dec z
def Tr (g : fm_G) (l : Launch) (z : fm_Y) (o : fm_O) (pc : Nat) (lv : List (Nat × Value)) (st : List Value) (μ : fm_St) : Prop :=
  ∀ (p : Program) (e : Env) (R : Room) (s : State) (m : MethodId) (args : Array Value) (below : List Frame) (meth : Method) (c : Code) (H : Heap) (locs : List Loc) (ls : Array Slot),
    fm_At z g l o p R s m args meth c → fm_P g μ H → va_S (fm_A g) s.heap H locs → lv_has ls z.2.2.2.1 lv → W p l e R s m args below meth c H locs 0 0 (fm_Q g below args s o.2 o.1) (F0 m pc ls st)
def Tt {ρ : Type} (g : fm_G) (l : Launch) (z : fm_Y) (em : ρ → fm_O) (T : Option ρ) (pc : Nat) (lv : List (Nat × Value)) (st : List Value) (μ : fm_St) : Prop := ∀ r, T = some r → Tr g l z (em r) pc lv st μ
def fm_Pre (g : fm_G) (μ : fm_St) : State → Prop := fun U => fm_P g μ U.heap ∧ fm_K g U ∧ fm_E g U U.heap
def fm_wl (z : fm_Y) : List Cond := .code z.1 z.2.2.1 z.2.2.2.1 z.2.2.2.2.1 :: lw_all
/-- the contract of a call -/
def fC (g : fm_G) (l : Launch) (z : fm_Y) (av : List Value) (μ : fm_St) (o : fm_O) : Prop := match o.1 with
  | .inr v => Met l z.1 (fm_wl z) (fm_R z o) (va_Pc av (fm_Pre g μ)) (fm_Qr g v o.2) 0 0 (fm_A g)
  | .inl k => vx_Met l z.1 (fm_wl z) (fm_R z o) (va_Pc av (fm_Pre g μ)) fm_No (fm_Qx g k o.2) 1 6 (fm_A g)
theorem fC.of {g : fm_G} {l : Launch} {z : fm_Y} {av : List Value} {μ : fm_St} {o : fm_O} (hz : plainName z.1.cls = true) (ho : z.2.1 = z.1.cls) (hd : fm_dec z) (hl : l.stackTraces = false) (hL : (lg_sl av).length ≤ z.2.2.2.1)
    (k : Tr g l z o 0 (lv_args 0 av) [] μ) : fC g l z av μ o := by
  obtain ⟨o1, o2⟩ := o
  cases o1 with
  | inr v =>
    refine Met.ofW (cc := z.2.2.1) (maxL := z.2.2.2.1) (ret := z.2.2.2.2.1) hz rfl ?_
    intro p e s m args below meth c s₁ B hml hv
    obtain ⟨rfl, hP, hK, hE⟩ := hv
    have hts := atoms_spec (ws := fm_wl z) B.pre
    have hv := lv_entry av hL
    have hown : s.vm.findClass z.2.1 = some m.cls := by rw [ho]; exact findClass_of_methodNamed B.named
    rw [lg_entry_eq]
    exact k p e _ s m _ below meth c s.heap [] _ ⟨B.exec, B.bytes, hml, hown, fun w hw => hts w (List.mem_cons_of_mem _ hw), hK, hE, B.returns, B.notSynchronized, rfl, hl, (fun _ h => nomatch h), hd⟩ hP va_S.rf hv
  | inl v =>
    refine vx_ofW (cc := z.2.2.1) (maxL := z.2.2.2.1) (ret := z.2.2.2.2.1) hz rfl ?_
    intro p e s m args below meth c s₁ B hml hex hv
    obtain ⟨rfl, hP, hK, hE⟩ := hv
    have hts := atoms_spec (ws := fm_wl z) B.pre
    have hv := lv_entry av hL
    have hown : s.vm.findClass z.2.1 = some m.cls := by rw [ho]; exact findClass_of_methodNamed B.named
    rw [lg_entry_eq]
    exact k p e _ s m _ below meth c s.heap [] _ ⟨B.exec, B.bytes, hml, hown, fun w hw => hts w (List.mem_cons_of_mem _ hw), hK, hE, B.returns, B.notSynchronized, rfl, hl, fun _ _ => hex, hd⟩ hP va_S.rf hv
section AT
variable {z : fm_Y} {g : fm_G} {l : Launch} {o : fm_O} {p : Program} {R : Room} {s : State} {m : MethodId} {args : Array Value} {meth : Method} {c : Code}
theorem fm_At.x (h : fm_At z g l o p R s m args meth c) : p.tables.exec = Jvm.exec := h.1
theorem fm_At.b (h : fm_At z g l o p R s m args meth c) : c.code = z.2.2.1 := h.2.1
theorem fm_At.ml (h : fm_At z g l o p R s m args meth c) : c.maxLocals = z.2.2.2.1 := h.2.2.1
theorem fm_At.own (h : fm_At z g l o p R s m args meth c) : s.vm.findClass z.2.1 = some m.cls := h.2.2.2.1
theorem fm_At.ts (h : fm_At z g l o p R s m args meth c) : ∀ w ∈ lw_all, w.before args s = true := h.2.2.2.2.1
theorem fm_At.k (h : fm_At z g l o p R s m args meth c) : fm_K g s := h.2.2.2.2.2.1
theorem fm_At.e (h : fm_At z g l o p R s m args meth c) : fm_E g s s.heap := h.2.2.2.2.2.2.1
theorem fm_At.ret (h : fm_At z g l o p R s m args meth c) : meth.sig.returnType = z.2.2.2.2.1 := h.2.2.2.2.2.2.2.1
theorem fm_At.lock (h : fm_At z g l o p R s m args meth c) : meth.locks = false := h.2.2.2.2.2.2.2.2.1
theorem fm_At.room (h : fm_At z g l o p R s m args meth c) : R = fm_R z o := h.2.2.2.2.2.2.2.2.2.1
theorem fm_At.tr (h : fm_At z g l o p R s m args meth c) : l.stackTraces = false := h.2.2.2.2.2.2.2.2.2.2.1
theorem fm_At.exc (h : fm_At z g l o p R s m args meth c) : ∀ k, o.1 = .inl k → ∀ x ∈ c.exceptionTable.toList, False := h.2.2.2.2.2.2.2.2.2.2.2.1
theorem fm_At.dec (h : fm_At z g l o p R s m args meth c) : fm_dec z := h.2.2.2.2.2.2.2.2.2.2.2.2
theorem fm_At.dg {pc len : Nat} {i : Instr} (h : fm_At z g l o p R s m args meth c) (hk : fm_lk z.2.2.2.2.2.1 pc = some (i, len)) : decode z.2.2.1 pc = .ok (i, len) := h.dec (pc, i, len) (fm_lk_mem hk)
end AT
section RULES
variable {g : fm_G} {l : Launch} {z : fm_Y} {o : fm_O} {pc : Nat} {lv : List (Nat × Value)} {st rest : List Value} {μ : fm_St}
theorem Tr.sub {lv' : List (Nat × Value)} (ks : List Nat) (h : lv_pick lv ks = lv') (k : Tr g l z o pc lv' st μ) : Tr g l z o pc lv st μ :=
  fun p e R s m args below meth c H locs ls hA hP hS hl => k p e R s m args below meth c H locs ls hA hP hS (lv_sub hl ks h)
def fx_run (k : List (Nat × Instr × Nat)) (nL : Nat) : Nat → Nat → List (Nat × Value) → List Value → Option (Nat × List (Nat × Value) × List Value)
  | 0, pc, lv, st => some (pc, lv, st)
  | n + 1, pc, lv, st => match fm_lk k pc with
    | some (.goto off, len) => bif Nat.beq len 3 then (match (pc : Int) + off with
      | .ofNat t => fx_run k nL n t lv st
      | .negSucc _ => none) else none
    | some (i, len) => match fx_step nL i lv st with
      | some (lv', st') => bif Nat.beq len (fx_len i) then fx_run k nL n (pc + len) lv' st' else none
      | none => none
    | none => none
theorem Tr.run1 {i : Instr} {len : Nat} {lv' : List (Nat × Value)} {st' : List Value} (hk : fm_lk z.2.2.2.2.2.1 pc = some (i, len)) (h : fx_step z.2.2.2.1 i lv st = some (lv', st')) (hlen : len = fx_len i) (k : Tr g l z o (pc + len) lv' st' μ) : Tr g l z o pc lv st μ := by
  intro p e R s m args below meth c H locs ls hA hP hS hl
  subst hlen
  exact fx_sound hA.x hA.b h hl (hA.dg hk) (fun ls' hl' => k p e R s m args below meth c H locs ls' hA hP hS hl')
theorem Tr.goto {off : Int} {t : Nat} (hk : fm_lk z.2.2.2.2.2.1 pc = some (.goto off, 3)) (ht : (pc : Int) + off = (t : Int)) (k : Tr g l z o t lv st μ) : Tr g l z o pc lv st μ := by
  intro p e R s m args below meth c H locs ls hA hP hS hl
  exact lv_goto hA.x hA.b (hA.dg hk) ht (k p e R s m args below meth c H locs ls hA hP hS hl)
theorem Tr.run : ∀ (n : Nat) {pc pc' : Nat} {lv lv' : List (Nat × Value)} {st st' : List Value}, fx_run z.2.2.2.2.2.1 z.2.2.2.1 n pc lv st = some (pc', lv', st') → Tr g l z o pc' lv' st' μ → Tr g l z o pc lv st μ
  | 0, _, _, _, _, _, _, h, k => by cases h; exact k
  | n + 1, pc, pc', lv, lv', st, st', h, k => by
    unfold fx_run at h
    split at h
    · next off len hk =>
      cases hl3 : Nat.beq len 3 with
      | false => rw [hl3] at h; cases h
      | true =>
        have hl4 : len = 3 := Nat.eq_of_beq_eq_true hl3
        subst hl4
        change (match (pc : Int) + off with | .ofNat t => fx_run z.2.2.2.2.2.1 z.2.2.2.1 n t lv st | .negSucc _ => none) = some (pc', lv', st') at h
        split at h
        · next t ht => exact Tr.goto hk ht (Tr.run n h k)
        · cases h
    · next i len hne hk =>
      split at h
      · next lv1 st1 hs =>
        cases hl3 : Nat.beq len (fx_len i) with
        | false => rw [hl3] at h; cases h
        | true => rw [hl3] at h; exact Tr.run1 hk hs (Nat.eq_of_beq_eq_true hl3) (Tr.run n h k)
      · cases h
    · cases h
end RULES
