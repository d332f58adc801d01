/-! CALLS AND ENDS -/
section RULES3
variable {g : fm_G} {l : Launch} {z : fm_Y} {o : fm_O} {pc : Nat} {lv : List (Nat × Value)} {st rest : List Value} {μ : fm_St}
theorem Tr.iret {v : Int32} (hl : fm_lk z.2.2.2.2.2.1 pc = some (.ireturn, 1)) (hr : z.2.2.2.2.1 = some .int) : Tr g l z (.inr (some (.int v)), μ) pc lv [.int v] μ := by
  intro p e R s m args below meth c H locs ls hA hP hS hv
  exact W.iret hA.x hA.b (hA.ret.trans hr) (fun t ht hW => ⟨rfl, by rw [ht]; exact hP, hS.F ht⟩) hS.2.2 (hA.dg hl) hA.lock
theorem Tr.zret {v : Int32} (hl : fm_lk z.2.2.2.2.2.1 pc = some (.ireturn, 1)) (hr : z.2.2.2.2.1 = some .boolean) (hb : fm_bo v = true) : Tr g l z (.inr (some (.int v)), μ) pc lv [.int v] μ := by
  intro p e R s m args below meth c H locs ls hA hP hS hv
  exact W.zret hA.x hA.b (hA.ret.trans hr) (fm_bo_nar hb).1 (fun t ht hW => ⟨rfl, by rw [ht]; exact hP, hS.F ht⟩) hS.2.2 (hA.dg hl) hA.lock
theorem Tr.lret {v : Int64} (hl : fm_lk z.2.2.2.2.2.1 pc = some (.lreturn, 1)) (hr : z.2.2.2.2.1 = some .long) : Tr g l z (.inr (some (.long v)), μ) pc lv [.long v] μ := by
  intro p e R s m args below meth c H locs ls hA hP hS hv
  exact W.lret hA.x hA.b (hA.ret.trans hr) (fun t ht hW => ⟨rfl, by rw [ht]; exact hP, hS.F ht⟩) hS.2.2 (hA.dg hl) hA.lock
theorem Tr.fret {v : UInt32} (hl : fm_lk z.2.2.2.2.2.1 pc = some (.freturn, 1)) (hr : z.2.2.2.2.1 = some .float) : Tr g l z (.inr (some (.float v)), μ) pc lv [.float v] μ := by
  intro p e R s m args below meth c H locs ls hA hP hS hv
  exact W.fret hA.x hA.b (hA.ret.trans hr) (fun t ht hW => ⟨rfl, by rw [ht]; exact hP, hS.F ht⟩) hS.2.2 (hA.dg hl) hA.lock
theorem Tr.dret {v : UInt64} (hl : fm_lk z.2.2.2.2.2.1 pc = some (.dreturn, 1)) (hr : z.2.2.2.2.1 = some .double) : Tr g l z (.inr (some (.double v)), μ) pc lv [.double v] μ := by
  intro p e R s m args below meth c H locs ls hA hP hS hv
  exact W.dret hA.x hA.b (hA.ret.trans hr) (fun t ht hW => ⟨rfl, by rw [ht]; exact hP, hS.F ht⟩) hS.2.2 (hA.dg hl) hA.lock
theorem Tr.aret {a : Nat} {C : String} (hl : fm_lk z.2.2.2.2.2.1 pc = some (.areturn, 1)) (hr : z.2.2.2.2.1 = some (.object C)) : Tr g l z (.inr (some (.ref a)), μ) pc lv [.ref a] μ := by
  intro p e R s m args below meth c H locs ls hA hP hS hv
  exact W.aret hA.x hA.b (hA.ret.trans hr) (Or.inl ⟨C, rfl⟩) (Or.inr ⟨a, rfl⟩) (fun t ht hW => ⟨rfl, by rw [ht]; exact hP, hS.F ht⟩) hS.2.2 (hA.dg hl) hA.lock
theorem Tr.vret (hl : fm_lk z.2.2.2.2.2.1 pc = some (.return_, 1)) (hr : z.2.2.2.2.1 = none) : Tr g l z (.inr none, μ) pc lv [] μ := by
  intro p e R s m args below meth c H locs ls hA hP hS hv
  exact W.vret hA.x hA.b (hA.ret.trans hr) (fun t ht hW => ⟨rfl, by rw [ht]; exact hP, hS.F ht⟩) hS.2.2 (hA.dg hl) hA.lock
/-- what a 'throw new E()' needs of the tables -/
def fm_xw (own : String) (ik ic : Nat) (k : Nat) : Prop := Bundle.fit (fm_exc k) = true ∧ Cond.classLink own ik (fm_exc k) ∈ lw_all ∧ Cond.initialized (fm_exc k) ∈ lw_all
  ∧ (∀ w ∈ vx_at0 own ic (fm_exc k) ["java/lang/RuntimeException", "java/lang/Exception"], w ∈ lw_tbl ∧ (goodWord w = true ∨ fm_isN w = true))
  ∧ ∀ w ∈ Cond.classLink own ik (fm_exc k) :: Cond.initialized (fm_exc k) :: vx_at0 own ic (fm_exc k) ["java/lang/RuntimeException", "java/lang/Exception"], vx_ot w = true
def fm_xwb (own : String) (ik ic : Nat) (k : Nat) : Bool := (Bundle.fit (fm_exc k) && lw_tbl.contains (Cond.classLink own ik (fm_exc k)) && goodWord (Cond.classLink own ik (fm_exc k)) && lw_tbl.contains (Cond.initialized (fm_exc k)) && goodWord (Cond.initialized (fm_exc k)))
  && (vx_at0 own ic (fm_exc k) ["java/lang/RuntimeException", "java/lang/Exception"]).all (fun w => lw_tbl.contains w && (goodWord w || fm_isN w))
  && (Cond.classLink own ik (fm_exc k) :: Cond.initialized (fm_exc k) :: vx_at0 own ic (fm_exc k) ["java/lang/RuntimeException", "java/lang/Exception"]).all vx_ot
theorem fm_xw_of {own : String} {ik ic k : Nat} (h : fm_xwb own ik ic k = true) : fm_xw own ik ic k := by
  unfold fm_xwb at h
  rw [Bool.and_eq_true, Bool.and_eq_true, Bool.and_eq_true, Bool.and_eq_true, Bool.and_eq_true, Bool.and_eq_true] at h
  obtain ⟨⟨⟨⟨⟨⟨h1, h2⟩, h3⟩, h4⟩, h5⟩, h6⟩, h7⟩ := h
  refine ⟨h1, List.mem_filter.mpr ⟨List.contains_iff_mem.mp h2, h3⟩, List.mem_filter.mpr ⟨List.contains_iff_mem.mp h4, h5⟩, fun w hw => ?_, fun w hw => List.all_eq_true.mp h7 w hw⟩
  have h8 := List.all_eq_true.mp h6 w hw
  rw [Bool.and_eq_true, Bool.or_eq_true] at h8
  exact ⟨List.contains_iff_mem.mp h8.1, h8.2⟩
theorem fx0 : fm_xw RX6 46 48 0 := fm_xw_of (by decide +kernel)
theorem fx1 : fm_xw RX6 213 215 1 := fm_xw_of (by decide +kernel)
theorem fx2 : fm_xw RX6 264 266 2 := fm_xw_of (by decide +kernel)
theorem fx3 : fm_xw RX6 176 178 3 := fm_xw_of (by decide +kernel)
theorem fm_hfits {z : fm_Y} {g : fm_G} {l : Launch} {o : fm_O} {p : Program} {R : Room} {s : State} {m : MethodId} {args : Array Value} {meth : Method} {c : Code} (hA : fm_At z g l o p R s m args meth c) {w : Cond} (h : w ∈ lw_tbl ∧ (goodWord w = true ∨ fm_isN w = true)) : w.before args s = true := by
  rcases h.2 with q | q
  · exact hA.ts w (List.mem_filter.mpr ⟨h.1, q⟩)
  · exact fm_nw_use q (hA.e.2.2.2.2.2.2 w h.1 q)
theorem Tr.thr {k ik ic : Nat} (hw : fm_xw z.2.1 ik ic k) (d0 : fm_lk z.2.2.2.2.2.1 pc = some (.new ik, 3)) (d3 : fm_lk z.2.2.2.2.2.1 (pc + 3) = some (.dup, 1)) (d4 : fm_lk z.2.2.2.2.2.1 (pc + 4) = some (.invokespecial ic, 3)) (d7 : fm_lk z.2.2.2.2.2.1 (pc + 7) = some (.athrow, 1))
    (hF : 6 ≤ z.2.2.2.2.2.2.1) (hL : (rest.map fun v => v.category).sum + 81 ≤ z.2.2.2.2.2.2.2) : Tr g l z (.inl k, μ) pc lv rest μ := by
  intro p e R s m args below meth c H locs ls hA hP hS hv
  obtain ⟨w1, w2, w3, w4, w5⟩ := hw
  have hR := hA.room
  subst hR
  exact vx_throw0 hA.x hA.b hA.tr hA.own w1 (by decide +kernel) (hA.ts _ w2) (hA.ts _ w3) (fun w h => fm_hfits hA (w4 w h)) w5 hA.e.1 hA.e.2.1 hS (hv.1.trans hA.ml.symm) (hA.dg d0) (hA.dg d3) (hA.dg d4) (hA.dg d7)
    (fun x hx => (hA.exc k rfl x hx).elim) (by show 2 + 3 < _; exact hF) (by show _ + (13 * (2 + 1) + 42) ≤ _; exact hL) (Nat.le_refl _) (Nat.le_refl _) hA.lock
    (fun t hvm hz hk => ⟨rfl, va_P.kept hP (fun j q hq => hk q.1 (hP j q hq).lt), Nat.le_trans hS.1 hz, fun q h1 h2 => (hk q (Nat.lt_of_lt_of_le h1 hS.1)).trans (hS.2.1 q h1 h2)⟩) hS.2.2 (Nat.le_refl _) (Nat.le_refl _)
end RULES3
