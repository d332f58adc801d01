section
/-! rules for CircleFlips's own constructor -/
section NU
variable {g : fm_G} {l : Launch} {z y : fm_Y} {P mc ms : Nat} {eF es : List va_E} {tF tys : List (ClassId × FieldType)} {pc : Nat} {lv : List (Nat × Value)} {st rest : List Value} {cells slots : Nat}
theorem Tn.widen {c2 s2 : Nat} (hc : cells ≤ c2) (hs : slots ≤ s2) (k : Tn g l z P mc ms eF tF pc lv st es tys c2 s2) : Tn g l z P mc ms eF tF pc lv st es tys cells slots := by
  intro p e R s m args below meth c H locs ls hA hsz hP hK hS hv
  exact W.widen hc hs (k p e R s m args below meth c H locs ls hA hsz hP hK hS hv)
theorem Tn.get0 {ci k idx N : Nat} {C : String} {T : u_T} {ty : Nat → FieldType} {fs : List Value} {v : Value} (hc : fm_cls ci C T N ty) (he : es[0]? = some (.inr (ci, fs))) (hv : fs[k]? = some v) (hl : fm_lk z.2.2.2.2.2.1 pc = some (.getfield idx, 3)) (w : Cond.fieldLink z.2.1 idx (T k).1 (T k).2.1 (T k).2.2.1 ∈ lw_all) (hk : k < N)
    (kk : Tn g l z P mc ms eF tF (pc + 3) lv (v :: rest) es tys cells slots) : Tn g l z P mc ms eF tF pc lv (.ref P :: rest) es tys cells slots := by
  intro p e R s m args below meth c H locs ls hA hsz hP hK hS hv2
  obtain ⟨hx, hb, hml, hown, hts, -, hG, hrt, hlk, hR, hin2, hdec, hs1⟩ := id hA
  exact va_get (D := g.2.1) hx hb hts hc.2.2.1 hown hK hP 0 (wsOf_at he) hc.1 k hk (hts _ w) (fun _ h => h) hv (hA.dg hl) (kk p e R s m args below meth c H locs ls hA hsz hP hK hS hv2)
theorem Tn.alenQ {q0 t0 : Nat} {x : vp_A} {cA : ClassId} {ty : FieldType} {v : Int32} (he : es[q0]? = some (.inl (cA, x))) (ht : tys[t0]? = some (cA, ty)) (hv : Int32.ofNat x.1 = v) (hl : fm_lk z.2.2.2.2.2.1 pc = some (.arraylength, 1)) (kk : Tn g l z P mc ms eF tF (pc + 1) lv (.int v :: rest) es tys cells slots) : Tn g l z P mc ms eF tF pc lv (.ref (P + q0) :: rest) es tys cells slots := by
  intro p e R s m args below meth c H locs ls hA hsz hP hK hS hv2
  obtain ⟨hx, hb, hml, hown, hts, -, hG, hrt, hlk, hR, hin2, hdec, hs1⟩ := id hA
  exact va_alen (D := g.2.1) hx hb hK hP q0 t0 (wsOf_at he) ht hv (hA.dg hl) (kk p e R s m args below meth c H locs ls hA hsz hP hK hS hv2)
theorem Tn.icge {x y : Int32} {off : Int} {tgt : Nat} (hl : fm_lk z.2.2.2.2.2.1 pc = some (.if_icmp .ge off, 3)) (ht : (pc : Int) + off = (tgt : Int)) (kt : y ≤ x → Tn g l z P mc ms eF tF tgt lv rest es tys cells slots) (kf : ¬ y ≤ x → Tn g l z P mc ms eF tF (pc + 3) lv rest es tys cells slots) : Tn g l z P mc ms eF tF pc lv (.int y :: .int x :: rest) es tys cells slots := by
  intro p e R s m args below meth c H locs ls hA hsz hP hK hS hv
  exact lv_icmp_ge hA.1 hA.2.1 (hA.dg hl) ht (fun q => kt q p e R s m args below meth c H locs ls hA hsz hP hK hS hv) (fun q => kf q p e R s m args below meth c H locs ls hA hsz hP hK hS hv)
theorem Tn.anew {n : Int32} {N idx : Nat} (hl : fm_lk z.2.2.2.2.2.1 pc = some (.anewarray idx, 3)) (w1 : Cond.classLink z.2.1 idx "CircleFlips$Plane" ∈ lw_all) (hn : ¬ n < 0) (hN : n.toNatClampNeg = N) (hby : N * 4 ≤ 536870912) (hcs : cells + 1 ≤ mc) (hss : slots + N ≤ ms)
    (k : Tn g l z P mc ms eF tF (pc + 3) lv (.ref (P + es.length) :: rest) (es ++ [.inl (g.2.2.1.2.1, N, .inr (.inr (.inr (.inr (fun _ => none)))))]) (tys ++ [(g.2.2.1.2.1, .object "CircleFlips$Plane")]) (cells + 1) (slots + N)) : Tn g l z P mc ms eF tF pc lv (.int n :: rest) es tys cells slots := by
  intro p e R s m args below meth c H locs ls hA hsz hP hK hS hv
  have hts := hA.2.2.2.2.1
  have hR := hA.2.2.2.2.2.2.2.2.2.1
  have hcR : cells + 1 ≤ R.cells := by subst hR; exact hcs
  have hsR : slots + N ≤ R.slots := by subst hR; exact hss
  subst hN
  refine W.anew hA.1 hA.2.1 hA.2.2.2.1 (hts _ w1) (va_AO.use hA.2.2.2.2.2.2.1.2.2) rfl (hA.dg hl) rfl hn hby hcR hsR fun cA kA comp f1 f2 f3 f4 => ?_
  have hcA : cA = g.2.2.1.2.1 := hA.2.2.2.2.2.2.1.2.1 cA f1
  subst hcA
  generalize hH1 : H.push ({ cls := g.2.2.1.2.1, slots := Array.replicate n.toNatClampNeg .null, vm := .none } : Cell) = H1
  have z1 : H1.size = H.size + 1 := by rw [← hH1, Array.size_push]
  have e1 : H1[H.size]? = some (arrV g.2.2.1.2.1 n.toNatClampNeg (fun _ => .null)) := by rw [← hH1, Array.getElem?_push_size, ← arrV_new]
  have o1 : ∀ q : Nat, q < H.size → H1[q]? = H[q]? := fun q hq => by rw [← hH1, Array.getElem?_push, if_neg (Nat.ne_of_lt hq)]
  have hAr : ArrOfT s g.2.2.1.2.1 (.object "CircleFlips$Plane") := fun N z => ⟨(fun k h => by cases h), kA, f2, comp, f3⟩
  rw [hsz] at e1
  refine W.eq (g2 := F0 m (pc + 3) ls (.ref (P + es.length) :: rest)) (congrArg (fun q => F0 m (pc + 3) ls (.ref q :: rest)) hsz) ?_
  refine k p e R s m args below meth c H1 locs ls hA (by rw [z1, hsz, List.length_append]; rfl) ?_ ⟨hK.1, fun k x hx => ?_⟩ ⟨Nat.le_trans hS.1 (by omega), fun x h1 h2 => (o1 x (Nat.lt_of_lt_of_le h1 hS.1)).trans (hS.2.1 x h1 h2), hS.2.2⟩ hv
  · rw [wsOf_app]
    refine (hP.kept (fun k x hx => o1 x.1 (by have := wsOf_in hx; omega))).app (fun k x hx => ?_)
    have h1 := wsOf_in hx
    have hz : k < 1 := h1.2.1
    rw [show k = 0 by omega] at hx
    cases hx
    show H1[P + es.length]? = some (vp_cell _ _)
    rw [vp_cell_q]
    exact e1
  · by_cases hl : k < tys.length
    · rw [List.getElem?_append_left hl] at hx
      exact hK.2 k x hx
    · rw [List.getElem?_append_right (by omega)] at hx
      have hz : k - tys.length < 1 := (List.getElem?_eq_some_iff.mp hx).1
      rw [show k - tys.length = 0 by omega] at hx
      cases hx
      exact ⟨hAr, kA, comp, f2, f3, f4, f1⟩
theorem Tn.aast {q0 t0 qk ci n : Nat} {r : vw_C} {cA : ClassId} {vs : List Value} {f : Nat → Option Nat} {i : Int32} (ha : es[q0]? = some (.inl (cA, n, .inr (.inr (.inr (.inr f)))))) (ht : tys[t0]? = some (cA, .object r.1)) (hv : es[qk]? = some (.inr (ci, vs))) (hc : vwCl[ci]? = some r) (hin : vp_in i n) (hl : fm_lk z.2.2.2.2.2.1 pc = some (.aastore, 1))
    (kk : Tn g l z P mc ms eF tF (pc + 1) lv rest (es.set q0 (.inl (cA, n, .inr (.inr (.inr (.inr (va_up f i.toNatClampNeg (some (P + qk)))))))))  tys cells slots) : Tn g l z P mc ms eF tF pc lv (.ref (P + qk) :: .int i :: .ref (P + q0) :: rest) es tys cells slots := by
  intro p e R s m args below meth c H locs ls hA hsz hP hK hS hv2
  obtain ⟨hx, hb, hml, hown, hts, -, hG, hrt, hlk, hR, hin2, hdec, hs1⟩ := id hA
  have hlt : i.toNatClampNeg < n := Nat.not_le.mp fun q => hin (Or.inr q)
  have h0 : ¬ i < 0 := fun q => hin (Or.inl q)
  have ha2 := wsOf_at (P := P) ha
  obtain ⟨r', hr', cellV, g1, g2, g3, -⟩ := hP qk _ (wsOf_at hv)
  have hcls := (hK.1 ci r hc).2
  obtain ⟨kA, comp, k1, k2, k3, -⟩ := (hK.2 t0 _ ht).2
  have hcomp : comp = g.2.1.1 ci := Option.some.inj (k3.symm.trans hcls.1)
  subst hcomp
  obtain ⟨kC, hkC, -⟩ := hcls.2
  refine W.aast hx hb (hP q0 _ ha2) (fun q h => by cases h) (fun h => by cases h) k1 k2 rfl hkC ⟨h0, by show _ < (arrV _ _ _).slots.size; rw [arrV_size]; exact hlt⟩ g1 (fun q h => by rw [g3] at h; cases h) (by rw [g2]; exact hkC) (by rw [g2]; exact va_assign hcls) rfl rfl (hA.dg hl) fun H1 e9 z9 oq => ?_
  refine kk p e R s m args below meth c H1 _ ls hA (by rw [z9, hsz, List.length_set]) ?_ hK (hS.put z9 oq ((wsOf_D P es).2 q0 _ ha2)) hv2
  have h9 := hP.set (wsOf_D P es) ha2 (e := .inl (cA, n, .inr (.inr (.inr (.inr (va_up f i.toNatClampNeg (some (P + qk)))))))) (by
    show H1[P + q0]? = some (vp_cell _ _)
    rw [e9]
    rw [vp_cell_q, vp_cell_q, arrV_store]
    congr 2
    funext q
    by_cases hq : q = i.toNatClampNeg
    · subst hq
      simp [updV, va_up, va_rf]
    · simp [updV, va_up, hq]) oq
  rw [wsOf_set] at h9
  exact h9
end NU
theorem arrV_cg {cA : ClassId} {n : Nat} {f f' : Nat → Value} (h : ∀ j, j < n → f j = f' j) : arrV cA n f = arrV cA n f' := by
  unfold arrV
  congr 1
  apply Array.ext
  · simp
  · intro i h1 h2
    simp at h1 h2 ⊢
    exact h i h1
end
