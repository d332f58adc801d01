/-! THE CLAIM OUT OF ONE WALK OF THE LAW'S BODY. Your part is whole_start (and what it stands on); all else here is the same for every law, but numbers. -/
def R_law : String := "CircleFlipsLaw"
def lw_P (b : Addr) (xs : List Int32) (args : Array Value) (s : State) : Prop := args = #[.ref b] ∧ s.IntsAt b xs ∧ xs.length ≤ 3072 ∧ (Jvm.Cond.and given_1 narrow_1).before args s = true
/-- what a walk over the start with the record d0 says of its end, said of the start itself -/
theorem lw_closed {s t : State} {o : Outcome} {d0 : Drawn} {L : List Loc} {k n : Nat} (hd0 : s.drawn.sameBut d0 lw_cs) (hv : ∃ v, o = .returned v) (hW : (s.setDrawn d0).WarmedH t.vm) (hs : (s.setDrawn d0).sameButNew ({ t with vm := s.vm } : State) L k n) : State.butDraws s t lw_cs (fun t1 => Framed s o t1 L k n) := by
  have h2 : t.drawn = d0 := congrArg State.drawn hs.1
  refine ⟨⟨hv, hW, State.sameButNew.setDrawn hs s.drawn⟩, ?_, by decide⟩
  rw [h2]
  exact hd0
def lw_Q (_ : Array Value) (s : State) (o : Outcome) (t : State) : Prop := o = .returned (some (.int 1)) ∧ State.butDraws s t lw_cs (fun t1 => Framed s o t1 [] 601024 7293033)
def lw_Z (below : List Frame) (a : Array Value) (s : State) : State → Prop := fun t => ∃ o, t.status = .running ∧ Ended t below o ∧ lw_Q a s o t
/-- the law's own end, with 1 on the stack, nothing written that was there before, its room as the claim has it; d0: the record of draws at this point (at the entry s.drawn: begin with 'refine W.base ?_' and 'have hd0 := Drawn.sameBut.refl s.drawn lw_cs') -/
theorem lw_ret {p : Program} {l : Launch} {e : Env} {s : State} {m : MethodId} {below : List Frame} {meth : Method} {c : Code} {b : Nat} {d0 : Drawn} (hd0 : s.drawn.sameBut d0 lw_cs) (hx : p.tables.exec = Jvm.exec) (hb : c.code = code) (hr : meth.sig.returnType = ret) (hlocks : meth.locks = false) {pc : Nat} {H : Heap} {ls : Array Slot} (hdg : decode code pc = .ok (.ireturn, 1)) : W p l e room_1 (s.setDrawn d0) m #[Value.ref b] below meth c H [] 601024 7293033 (lw_Z below #[Value.ref b] s) (F0 m pc ls [.int 1]) := by
  intro T hT X
  obtain ⟨fs, hret, hrun, hended, hW, hframe⟩ := X.leave (v := some (.int 1)) (hlocks := hlocks) (fun h => by rw [hr] at h; cases h)
  have hmeth' : T.vm.method? m = some meth := X.method'
  refine ⟨T.setFrames fs, ?_, .returned (some (.int 1)), hrun, hended, rfl, lw_closed hd0 ⟨_, rfl⟩ hW hframe⟩
  jvm_step X.here [X.here.top, hx, hb, hdg, hmeth', hr, ret, narrow_b1]
  (try refine ⟨rfl, ?_⟩); (try refine ⟨rfl, ?_⟩)
  first | (intro acts; rw [hret _ acts rfl rfl rfl]) | rw [hret _ _ rfl rfl rfl]
  exact Steps.refl _
/-- what holds at the law's entry: the machine, the code, the tables' words (any of lw_tbl by 'hts w (by decide +kernel)'), the script of L ints xs at the cell b, what the Statement gives of the start (any of its parts by flat_of_before) -/
def lw_At (p : Program) (s : State) (m : MethodId) (meth : Method) (c : Code) (b L : Nat) (xs : Nat → Int32) : Prop :=
  p.tables.exec = Jvm.exec ∧ c.code = code ∧ meth.sig.returnType = ret ∧ c.maxLocals = 10 ∧ s.vm.findClass R_law = some m.cls ∧ (∀ w ∈ lw_tbl, w.before #[Value.ref b] s = true) ∧ va_X b L xs s s.heap ∧ b < s.heap.size ∧ meth.locks = false ∧ (Jvm.Cond.and given_1 narrow_1).before #[Value.ref b] s = true
section
/-! THE LAW'S JUDGEMENT: at this place of the law, in this world -/
def lX (g : fm_G) (l : Launch) (p : Program) (s : State) (m : MethodId) (meth : Method) (c : Code) (b L : Nat) (xs : Nat → Int32) : Prop := lw_At p s m meth c b L xs ∧ L ≤ 3072 ∧ l.stackTraces = false ∧ g.1 = s.heap.size ∧ fm_K g s ∧ fm_E g s s.heap ∧ nX s
def TL (g : fm_G) (l : Launch) (b L : Nat) (xs : Nat → Int32) (pc : Nat) (lv : List (Nat × Value)) (st : List Value) (μ : fm_St) (cells slots : Nat) : Prop :=
  ∀ (p : Program) (e : Env) (s : State) (m : MethodId) (below : List Frame) (meth : Method) (c : Code) (H : Heap) (locs : List Loc) (ls : Array Slot),
    lX g l p s m meth c b L xs → fm_P g μ H → va_S (fm_A g) s.heap H locs → lv_has ls 10 lv → W p l e room_1 s m #[Value.ref b] below meth c H locs cells slots (lw_Z below #[Value.ref b] s) (F0 m pc ls st)
def kd (k : List (Nat × Instr × Nat)) : Prop := ∀ q ∈ k, decode code q.1 = .ok q.2
theorem kd.at {k : List (Nat × Instr × Nat)} {pc len : Nat} {i : Instr} (h : kd k) (hk : fm_lk k pc = some (i, len)) : decode code pc = .ok (i, len) := h (pc, i, len) (fm_lk_mem hk)
section LW
variable {g : fm_G} {l : Launch} {b L : Nat} {xs : Nat → Int32} {pc : Nat} {lv : List (Nat × Value)} {st rest : List Value} {μ ν : fm_St} {cells slots : Nat} {k : List (Nat × Instr × Nat)}
theorem lX.b9 {p : Program} {s : State} {m : MethodId} {meth : Method} {c : Code} (h : lX g l p s m meth c b L xs) : ¬ fm_A g b := by
  have h1 := h.1.2.2.2.2.2.2.2.1
  have h2 := h.2.2.2.1
  show ¬ g.1 ≤ b
  omega
theorem lX.ts {p : Program} {s : State} {m : MethodId} {meth : Method} {c : Code} (h : lX g l p s m meth c b L xs) : ∀ w ∈ lw_all, w.before #[Value.ref b] s = true := fun w hw => h.1.2.2.2.2.2.1 w (lw_allin w hw)
theorem TL.run (hd : kd k) (n : Nat) {pc' : Nat} {lv' : List (Nat × Value)} {st' : List Value} (h : fx_run k 10 n pc lv st = some (pc', lv', st')) (kk : TL g l b L xs pc' lv' st' μ cells slots) : TL g l b L xs pc lv st μ cells slots := by
  intro p e s m below meth c H locs ls hX hP hS hv
  exact fx_runW hX.1.1 hX.1.2.1 hd n h hv (fun ls' hl' => kk p e s m below meth c H locs ls' hX hP hS hl')
theorem TL.sub {lv' : List (Nat × Value)} (ks : List Nat) (h : lv_pick lv ks = lv') (kk : TL g l b L xs pc lv' st μ cells slots) : TL g l b L xs pc lv st μ cells slots :=
  fun p e s m below meth c H locs ls hX hP hS hv => kk p e s m below meth c H locs ls hX hP hS (lv_sub hv ks h)
theorem TL.widen {c2 s2 : Nat} (hc : cells ≤ c2) (hs : slots ≤ s2) (kk : TL g l b L xs pc lv st μ c2 s2) : TL g l b L xs pc lv st μ cells slots :=
  fun p e s m below meth c H locs ls hX hP hS hv => W.widen hc hs (kk p e s m below meth c H locs ls hX hP hS hv)
/-- the script's place n -/
theorem TL.sld {n : Nat} {x : Int32} (hd : kd k) (hx : x = iI n) (hn : n < L) (hl : fm_lk k pc = some (.iaload, 1)) (kk : TL g l b L xs (pc + 1) lv (.int (xs n) :: rest) μ cells slots) : TL g l b L xs pc lv (.int x :: .ref b :: rest) μ cells slots := by
  intro p e s m below meth c H locs ls hX hP hS hv
  have hL := hX.2.1
  subst hx
  refine va_sld hX.1.1 hX.1.2.1 hX.1.2.2.2.2.2.2.1 hX.1.2.2.2.2.2.2.2.1 hX.b9 hS (i := iI n) (fm_in_vp (in_t hn (by omega))) (hd.at hl) ?_
  rw [iI_nn (by omega), Int.toNat_natCast]
  exact kk p e s m below meth c H locs ls hX hP hS hv
theorem TL.slen (hd : kd k) (hl : fm_lk k pc = some (.arraylength, 1)) (kk : TL g l b L xs (pc + 1) lv (.int (iI L) :: rest) μ cells slots) : TL g l b L xs pc lv (.ref b :: rest) μ cells slots := by
  intro p e s m below meth c H locs ls hX hP hS hv
  exact va_slen hX.1.1 hX.1.2.1 hX.1.2.2.2.2.2.2.1 hX.1.2.2.2.2.2.2.2.1 hX.b9 hS (hd.at hl) (kk p e s m below meth c H locs ls hX hP hS hv)
/-- an argument: script[i + j] -/
theorem TL.arg {i j n pc' : Nat} {J : Int32} (hd : kd k) (hJ : J = iI j) (hij : i + j < L) (e : fx_run k 10 n pc lv st = some (pc', lv, .int (iI i + J) :: .ref b :: st)) (hl : fm_lk k pc' = some (.iaload, 1)) (kk : TL g l b L xs (pc' + 1) lv (.int (xs (i + j)) :: st) μ cells slots) : TL g l b L xs pc lv st μ cells slots :=
  TL.run hd n e (TL.sld hd (by rw [hJ, iI_add]; rfl) hij hl kk)
theorem fm_gSW {z : fm_Y} {hh : List (Nat × Nat × Nat × Nat)} {own : String} {idx : Nat} (h1 : Cond.methodLink own idx z.1 ∈ lw_all) (h2 : Cond.static z.1 ∈ lw_all) (h3 : Cond.initialized z.1.cls ∈ lw_all) (h4 : Cond.codeWith z.1 z.2.2.1 z.2.2.2.1 z.2.2.2.2.1 hh ∈ lw_all) : GoodIn lw_all (va_wsS own idx z.1 (fm_wh z hh)) := by
  refine lw_goodIn (fun w h => ?_)
  unfold va_wsS fm_wh at h
  rcases List.mem_append.mp h with h | h
  · rcases List.mem_cons.mp h with h | h
    · rw [h]; exact h1
    · rcases List.mem_cons.mp h with h | h
      · rw [h]; exact h2
      · rcases List.mem_cons.mp h with h | h
        · rw [h]; exact h3
        · exact absurd h List.not_mem_nil
  · rcases List.mem_cons.mp h with h | h
    · rw [h]; exact h4
    · exact h
/-- a wrapper's call -/
theorem TL.callW {z : fm_Y} {hh : List (Nat × Nat × Nat × Nat)} {av : List Value} {K : Int32} {idx : Nat} (hd : kd k) (hC : wC g l z hh av μ K ν) (hl : fm_lk k pc = some (.invokestatic idx, 3)) (h1 : Cond.methodLink R_law idx z.1 ∈ lw_all) (h2 : Cond.static z.1 ∈ lw_all) (h3 : Cond.initialized z.1.cls ∈ lw_all) (h4 : Cond.codeWith z.1 z.2.2.1 z.2.2.2.1 z.2.2.2.2.1 hh ∈ lw_all) (hcl : z.1.cls ≠ "java/lang/invoke/MethodHandle" ∧ z.1.cls ≠ "java/lang/invoke/VarHandle") (hn : (parseMethodDescriptor z.1.desc).map (fun d => d.parameters.length) = some av.length) (hcat : (rest.map fun v => v.category).sum ≤ 8) (hF : z.2.2.2.2.2.2.1 + 1 ≤ 15) (hLo : 8 + (z.2.2.2.1 + 11) + z.2.2.2.2.2.2.2 ≤ 664) (hc : cells + 1 ≤ 601024) (hs : slots + 6 ≤ 7293033) (hst : st = av.reverse ++ rest)
    (kk : TL g l b L xs (pc + 3) lv (.int K :: rest) ν (cells + 1) (slots + 6)) : TL g l b L xs pc lv st μ cells slots := by
  intro p e s m below meth c H locs ls hX hP hS hv
  obtain ⟨⟨hx, hb, hr, hml, hown, -, -⟩, hL, hlt, hg, hK, hE, hNX⟩ := id hX
  have hcw : vx_CSW room_1 s #[Value.ref b] R_law idx z.1 z.2.2.1 z.2.2.2.1 z.2.2.2.2.1 hh (fm_wh z hh) (nR z 1 6) 1 6 av.length := vx_cwSW av.length hX.ts (fm_gSW h1 h2 h3 h4) rfl rfl rfl ⟨hcl.1, hcl.2, hn⟩ ⟨hF, hLo⟩
  refine va_done hS (vx_runSW (e := e) (below := below) (meth := meth) (locs := locs) (cells := cells) (slots := slots) (g := F0 m pc ls st) (rest := rest) ⟨hx, hb, hml, hown, hX.ts⟩ hC hcw ⟨fun a U G mk q => by
      obtain ⟨q0, ⟨qP, qK, qE⟩, qX⟩ := q
      exact ⟨q0, ⟨qP, va_K.moved (u := U) (U := U.calling G mk a) (Vm.Alike.refl U.vm) qK, fm_E.warm (s := U) (U := U.calling G mk a) (State.WarmedH.refl U) qE⟩, qX.moved (u := U) (U := U.calling G mk a) (Vm.Alike.refl U.vm)⟩, fun U hU hW => ⟨rfl, fm_pre hP hK hE hS hU hW, hNX.moved hW.alike⟩⟩ rfl rfl hv.1 hst (lv_room hcat) (hd.at hl) ⟨hc, hs⟩) (fun H1 locs1 hP1 hS1 => kk p e s m below meth c H1 locs1 ls hX hP1 hS1 hv)
/-- a call that returns -/
theorem TL.callV {y : fm_Y} {As : List Value} {v : Option Value} {b' ci N idx : Nat} {T : u_T} (hd : kd k) (hC : fC g l y (.ref b' :: As) μ (.inr v, ν)) (hkd : fm_kd g b' = ci) (hci : ci < 8) (hc : vwCl[ci]? = some (y.1.cls, T, N)) (hl : fm_lk k pc = some (.invokevirtual idx, 3)) (hw : fm_cwV y) (hln : Cond.methodLink R_law idx y.1 ∈ lw_all)
    (hn : (parseMethodDescriptor y.1.desc).map (fun d => d.parameters.length) = some As.length) (hcat : (rest.map fun v => v.category).sum ≤ 8) (hF : y.2.2.2.2.2.2.1 + 1 ≤ 15) (hLo : 8 + (y.2.2.2.1 + 11) + y.2.2.2.2.2.2.2 ≤ 664) (hc0 : cells ≤ 601024) (hs0 : slots ≤ 7293033) (hst : st = As.reverse ++ .ref b' :: rest)
    (kk : TL g l b L xs (pc + 3) lv (v.toList ++ rest) ν cells slots) : TL g l b L xs pc lv st μ cells slots := by
  intro p e s m below meth c H locs ls hX hP hS hv
  obtain ⟨⟨hx, hb, hr, hml, hown, -, -⟩, hL, hlt, hg, hK, hE, hNX⟩ := id hX
  have hcw : CallW room_1 s #[Value.ref b] R_law y.1.cls idx y.1 y.2.2.1 y.2.2.2.1 y.2.2.2.2.1 (fm_wl y) (fm_R y (.inr v, ν)) 0 0 As.length := cwV As.length hX.ts (fm_gV hw hln) rfl rfl rfl ⟨rfl, hw.1.2.2.1, hw.1.2.2.2, hn⟩ ⟨hF, hLo⟩
  refine va_done (mc := 0) (ms := 0) hS (va_runV (e := e) (below := below) (meth := meth) (locs := locs) (cells := cells) (slots := slots) (g := F0 m pc ls st) (rest := rest) ⟨hx, hb, hml, hown, hX.ts⟩ hC hcw ⟨fm_blind _, va_recv hK hP hc (by rw [fm_ws_at (fm_fld9 hkd hci), fm_cell_obj hkd hci]), fun U hU hW => ⟨rfl, fm_pre hP hK hE hS hU hW⟩⟩ rfl rfl hv.1 hst (lv_room hcat) (hd.at hl) ⟨hc0, hs0⟩) (fun H1 locs1 hP1 hS1 => kk p e s m below meth c H1 locs1 ls hX hP1 hS1 hv)
theorem TL.lald (hd : kd k) (hl : fm_lk k pc = some (.laload, 1)) (kk : TL g l b L xs (pc + 1) lv (.long μ.2.1 :: rest) μ cells slots) : TL g l b L xs pc lv (.int 0 :: .ref (g.1 + 177) :: rest) μ cells slots := by
  intro p e s m below meth c H locs ls hX hP hS hv
  obtain ⟨⟨hx, hb, hr, hml, hown, -, -⟩, hL, hlt, hg, hK, hE, hNX⟩ := id hX
  exact va_lald (D := g.2.1) hx hb hK hP (g.1 + 177 - g.1) 2 (cA := g.2.2.1.2.2.1) (n := 1) (f := fun _ => μ.2.1) (by rw [fm_ws_at (by rw [kd9]; decide), fm_c9 (kd9 g)]) rfl (fm_in_vp (by decide)) (hd.at hl) (kk p e s m below meth c H locs ls hX hP hS hv)
theorem TL.dald (hd : kd k) (hl : fm_lk k pc = some (.daload, 1)) (kk : TL g l b L xs (pc + 1) lv (.double μ.2.2 :: rest) μ cells slots) : TL g l b L xs pc lv (.int 0 :: .ref (g.1 + 178) :: rest) μ cells slots := by
  intro p e s m below meth c H locs ls hX hP hS hv
  obtain ⟨⟨hx, hb, hr, hml, hown, -, -⟩, hL, hlt, hg, hK, hE, hNX⟩ := id hX
  exact va_dald (D := g.2.1) hx hb hK hP (g.1 + 178 - g.1) 3 (cA := g.2.2.1.2.2.2) (n := 1) (f := fun _ => μ.2.2) (by rw [fm_ws_at (by rw [kd10]; decide), fm_c10 (kd10 g)]) rfl (fm_in_vp (by decide)) (hd.at hl) (kk p e s m below meth c H locs ls hX hP hS hv)
theorem TL.ic_eq {x y : Int32} {off : Int} {tgt : Nat} (hd : kd k) (h : x = y) (hl : fm_lk k pc = some (.if_icmp .eq off, 3)) (ht : (pc : Int) + off = (tgt : Int)) (kk : TL g l b L xs tgt lv rest μ cells slots) : TL g l b L xs pc lv (.int y :: .int x :: rest) μ cells slots := by
  intro p e s m below meth c H locs ls hX hP hS hv
  exact lv_icmp_eq hX.1.1 hX.1.2.1 (hd.at hl) ht (fun _ => kk p e s m below meth c H locs ls hX hP hS hv) (fun q => absurd h q)
theorem TL.ic_gt {x y : Int32} {off : Int} {tgt : Nat} (hd : kd k) (hl : fm_lk k pc = some (.if_icmp .gt off, 3)) (ht : (pc : Int) + off = (tgt : Int)) (kt : y < x → TL g l b L xs tgt lv rest μ cells slots) (kf : ¬ y < x → TL g l b L xs (pc + 3) lv rest μ cells slots) : TL g l b L xs pc lv (.int y :: .int x :: rest) μ cells slots := by
  intro p e s m below meth c H locs ls hX hP hS hv
  exact lv_icmp_gt hX.1.1 hX.1.2.1 (hd.at hl) ht (fun q => kt q p e s m below meth c H locs ls hX hP hS hv) (fun q => kf q p e s m below meth c H locs ls hX hP hS hv)
theorem TL.if_ne {x : Int32} {off : Int} {tgt : Nat} (hd : kd k) (hl : fm_lk k pc = some (.ifCond .ne off, 3)) (ht : (pc : Int) + off = (tgt : Int)) (kt : ¬ x = 0 → TL g l b L xs tgt lv rest μ cells slots) (kf : x = 0 → TL g l b L xs (pc + 3) lv rest μ cells slots) : TL g l b L xs pc lv (.int x :: rest) μ cells slots := by
  intro p e s m below meth c H locs ls hX hP hS hv
  exact lv_if_ne hX.1.1 hX.1.2.1 (hd.at hl) ht (fun q => kt q p e s m below meth c H locs ls hX hP hS hv) (fun q => kf q p e s m below meth c H locs ls hX hP hS hv)
theorem TL.if_eq {x : Int32} {off : Int} {tgt : Nat} (hd : kd k) (hl : fm_lk k pc = some (.ifCond .eq off, 3)) (ht : (pc : Int) + off = (tgt : Int)) (kt : x = 0 → TL g l b L xs tgt lv rest μ cells slots) (kf : ¬ x = 0 → TL g l b L xs (pc + 3) lv rest μ cells slots) : TL g l b L xs pc lv (.int x :: rest) μ cells slots := by
  intro p e s m below meth c H locs ls hX hP hS hv
  exact lv_if_eq hX.1.1 hX.1.2.1 (hd.at hl) ht (fun q => kt q p e s m below meth c H locs ls hX hP hS hv) (fun q => kf q p e s m below meth c H locs ls hX hP hS hv)
/-- the law's end: true -/
theorem TL.fin (hd : kd k) (hl : fm_lk k pc = some (.ireturn, 1)) (hc : cells ≤ 601024) (hs : slots ≤ 7293033) : TL g l b L xs pc lv [.int 1] μ cells slots := by
  intro p e s m below meth c H locs ls hX hP hS hv
  obtain ⟨⟨hx, hb, hr, hml, hown, hw, hX0, hbl, hlk, hpre⟩, hL, hlt, hg, hK, hE, hNX⟩ := id hX
  refine va_forget (fun q hq => by rw [← hg]; exact hS.2.2 q hq) ?_
  refine W.widen (k := 601024) (n := 7293033) hc hs ?_
  refine W.base ?_
  exact lw_ret (Drawn.sameBut.refl s.drawn lw_cs) hx hb hr hlk (hd.at hl)
end LW
end
