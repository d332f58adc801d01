section
/-! the whole state of both sides; calls that change it -/
def wI (A : Nat) (M : fm_Mem) (s : gPl) (h : Nat → gPl) (c u v : Nat) : Prop := gOkP s ∧ (∀ j, j < u → gOkP (h j)) ∧ (u ≤ 8 ∧ u ≤ c) ∧ wCl A M s h c u ∧ wRf (A + 170) M s h u v
def wW (A : Nat) (M : fm_Mem) (k : Nat) : Prop := ∃ s h c u v, c ≤ k ∧ wI A M s h c u v
/-- what the text and the error offset are made of stays -/
def frW (A : Nat) (M M' : fm_Mem) : Prop := ∀ b j, (b = A ∧ j = 6) ∨ (A + 1 ≤ b ∧ b ≤ A + 3) ∨ (b = A + 170 ∧ (j = 11 ∨ j = 15)) ∨ b = A + 176 → M' b j = M b j
def wT (A : Nat) (M : fm_Mem) : Prop := ∃ ln : Nat, ln ≤ 400 ∧ M (A + 1) 2 = iI ln ∧ M (A + 170) 11 = iI ln ∧ (∀ k, k < ln → M (A + 3) k = M (A + 176) k) ∧ M A 6 = M (A + 170) 15
theorem frW_t {A : Nat} {M M1 M2 : fm_Mem} (h : frW A M M1) (h' : frW A M1 M2) : frW A M M2 := fun b j z => (h' b j z).trans (h b j z)
theorem frW_Q {A : Nat} {M M' : fm_Mem} (f : frQ (A + 170) M M') : frW A M M' := fun b j z => f b j (by omega)
theorem wT_W {A : Nat} {M M' : fm_Mem} (h : wT A M) (f : frW A M M') : wT A M' := by
  obtain ⟨ln, h1, h2, h3, h4, h5⟩ := h
  exact ⟨ln, h1, (f _ _ (by omega)).trans h2, (f _ _ (by omega)).trans h3, fun k hk => by rw [f _ _ (by omega), f (A + 176) _ (by omega)]; exact h4 k hk, by rw [f _ _ (by omega), f (A + 170) _ (by omega)]; exact h5⟩
def chOk (A k : Nat) (cd : Nat → Int32) (M : fm_Mem) (oc : Option (Nat ⊕ (Int32 × fm_Mem))) (rf : fm_Mem → Option (Int32 × fm_Mem)) : Prop :=
  (∃ e r, oc = some (.inl e) ∧ rf M = some r ∧ r.2 (A + 170) 0 = cd e ∧ wW A r.2 k ∧ frW A M r.2) ∨ ∃ x M1 r, oc = some (.inr (x, M1)) ∧ rf M1 = some r ∧ r.2 (A + 170) 0 = 0 ∧ r.1 = x ∧ wW A r.2 (k + 1) ∧ frW A M r.2
section WO
variable {A R c u v k : Nat} {M M' : fm_Mem} {s : gPl} {h : Nat → gPl}
theorem wCl_fr (hw : wCl A M s h c u) (f : ∀ b, A + 20 ≤ b → b < A + 170 → M' b = M b) (f4 : M' A 4 = M A 4) (f5 : M' A 5 = M A 5) : wCl A M' s h c u := ⟨cKs_fr hw.1 (fun b p q => f b p (by omega)) f5, f4.trans hw.2.1, fun j hj => by
  have m9 := Nat.mod_lt (c - 1 - j) (show 8 > 0 by decide)
  exact cPl_L (hw.2.2 j hj) (fun b p q => f b (by omega) (by omega))⟩
theorem wRf_q (hw : wRf R M s h u v) (f : frQ R M M') (hk : rKs R M' v s u) : wRf R M' s h u v := ⟨hk, fun j hj => rVs_L (hw.2 j hj) (fun i p q => f (R + 1) i (by omega))⟩
theorem wI_q (hw : wI A M s h c u v) (f : frQ (A + 170) M M') (hk : rKs (A + 170) M' v s u) : wI A M' s h c u v := ⟨hw.1, hw.2.1, hw.2.2.1, wCl_fr hw.2.2.2.1 (fun b p q => by funext j; exact f b j (by omega)) (f A 4 (by omega)) (f A 5 (by omega)), wRf_q hw.2.2.2.2 f hk⟩
theorem frQ_l {x y : Int32} : frQ R M (fm_up (fm_up M R 0 x) R 0 y) := fun b j z => (up_i (by omega)).trans (up_i (by omega))
theorem ch_l (hw : wI A M s h c u v) (hk : c ≤ k) {cd : Nat → Int32} {oc : Option (Nat ⊕ (Int32 × fm_Mem))} {rf : fm_Mem → Option (Int32 × fm_Mem)} {e : Nat} {x : Int32} (h1 : oc = some (.inl e)) (h2 : rf M = some (x, fm_up (fm_up M (A + 170) 0 0) (A + 170) 0 (cd e))) : chOk A k cd M oc rf :=
  Or.inl ⟨e, _, h1, h2, up_s, ⟨s, h, c, u, v, hk, wI_q hw frQ_l ((hw.2.2.2.2.1.up (j := 0) _ (by omega)).up (j := 0) _ (by omega))⟩, frW_Q frQ_l⟩
theorem wCl_set {s' : gPl} (hw : wCl A M s h c u) (f : ∀ b, b < A + 20 ∨ A + 41 ≤ b → M' b = M b) (h1 : cPl (A + 20) M' s') (h2 : cHl (A + 36) M' s'.1.1 s'.1.2.1 s'.1.2.2) : wCl A M' s' h c u := ⟨⟨h1, h2, by rw [f A (by omega)]; exact hw.1.2.2⟩, by rw [f A (by omega)]; exact hw.2.1, fun j hj => cPl_L (hw.2.2 j hj) (fun b p q => f b (by omega))⟩
theorem wRf_set {s' : gPl} (hw : wRf R M s h u v) (hu : u ≤ 8) (f3 : M' R 3 = M R 3) (f4 : M' R 4 = M R 4) (f : ∀ j, j < 200 * v ∨ 200 * v + 200 ≤ j → M' (R + 1) j = M (R + 1) j) (hl : rld R M') (h1 : rVs R M' v s') : wRf R M' s' h u v := by
  obtain ⟨⟨k1, k2, k3, k4⟩, k5⟩ := hw
  have hv := k1.2
  refine ⟨⟨⟨f3.trans k1.1, hv⟩, h1, hl, f4.trans k4⟩, fun j hj => rVs_L (k5 j hj) (fun i p q => f i ?_)⟩
  have m9 := Nat.mod_lt (v + 8 - j) (show 9 > 0 by decide)
  have : (v + 8 - j) % 9 ≠ v := by omega
  omega
theorem rVs_T {n m d fl pu} {X Y : Nat → Int} {T T' D D' : Nat → Nat} {m' d' : Nat} (h1 : rVs R M v ((n, X, Y), (m, T), (d, D), fl, pu)) (e : m' = m) (e2 : ∀ i, i < m → T' i = T i) : rVs R M v ((n, X, Y), (m', T'), (d', D'), fl, pu) := by
  subst e
  obtain ⟨a1, ⟨b1, b2, b3⟩, a3⟩ := h1
  refine ⟨a1, ⟨b1, b2, fun t ht => ?_⟩, a3⟩
  rw [e2 t ht]
  exact b3 t ht
theorem ch_r {s' : gPl} (hw : wI A M s h c u v) (hk : c ≤ k) {cd : Nat → Int32} {oc : Option (Nat ⊕ (Int32 × fm_Mem))} {rf : fm_Mem → Option (Int32 × fm_Mem)} {M3 M9 : fm_Mem} {x r1 : Int32} (e1 : oc = some (.inr (x, M3))) (e2 : rf M3 = some (r1, M9)) (hx : r1 = x) (th : M9 (A + 170) 0 = 0) (g : gOkP s') (hw3 : wCl A M3 s' (pushH s h) (c + 1) (min (u + 1) 8)) (fr3 : frW A M M3) (fr9 : ∀ b j, b < A + 170 ∨ b = A + 176 ∨ (b = A + 170 ∧ (j = 11 ∨ j = 15)) → M9 b j = M3 b j) (hR9 : wRf (A + 170) M9 s' (pushH s h) (min (u + 1) 8) ((v + 1) % 9)) : chOk A k cd M oc rf := by
  obtain ⟨hs, hh, ⟨hu, huc⟩, hC, hR⟩ := hw
  refine Or.inr ⟨x, M3, (r1, M9), e1, e2, th, hx, ⟨s', pushH s h, c + 1, min (u + 1) 8, (v + 1) % 9, by omega, g, fun j hj => ?_, by omega, ?_, hR9⟩, fun b j z => ?_⟩
  · unfold pushH
    by_cases c0 : j = 0
    · rw [if_pos c0]; exact hs
    · rw [if_neg c0]; exact hh (j - 1) (by omega)
  · exact wCl_fr hw3 (fun b p q => by funext j; exact fr9 b j (by omega)) (fr9 _ _ (by omega)) (fr9 _ _ (by omega))
  · exact (fr9 b j (by omega)).trans (fr3 b j z)
theorem k_changed {n : Nat} {X Y : Nat → Int} {fl pu : Int} (hp : cpt (A + 20 + 1) M n X Y) (hb : gbd n X Y) (hd : gDis n X Y) (hf : M (A + 20) 3 = iI fl) (hpu : M (A + 20) 4 = iI pu) : pW (f_X6_pointsChanged A M) (fun M' => ∃ d D, gOkP ((n, X, Y), (d, D), (d, D), fl, pu) ∧ cPl (A + 20) M' ((n, X, Y), (d, D), (d, D), fl, pu) ∧ cHl (A + 36) M' n X Y ∧ ∀ b, b < A + 26 ∨ A + 41 ≤ b → M' b = M b) := by
  unfold f_X6_pointsChanged
  obtain ⟨M1, e1, d, D, a1, a2, a3, f1⟩ := k_renew hp hb hd
  obtain ⟨M2, e2, b1, f2⟩ := k_hrenew (P := A + 36) (R := A + 20 + 1) (M := M1) (cpt_fr hp (fun b p q => f1 b (by omega))) hb hd (by omega)
  rw [e1, bd_s, e2, bd_s]
  refine pW_some ⟨d, D, ⟨hp.2.1, hb, hd, dueL_Dr hp.2.1 hd a1, a1⟩, ⟨cpt_fr hp (fun b p q => by rw [f2 b (by omega), f1 b (by omega)]), cMs_fr a2 (fun b p q => f2 b (by omega)), cMs_fr a3 (fun b p q => f2 b (by omega)), ?_, ?_⟩, b1, fun b hb => by rw [f2 b (by omega), f1 b (by omega)]⟩
  · rw [f2 _ (by omega), f1 _ (by omega)]; exact hf
  · rw [f2 _ (by omega), f1 _ (by omega)]; exact hpu
theorem r_redraw {n d : Nat} {X Y : Nat → Int} {D : Nat → Nat} {fl pu : Int} (hp : rpt R M v n X Y) (hb : gbd n X Y) (hdi : gDis n X Y) (hD : dueL n X Y d D) (hl : rld R M) (hf : M (R + 1) (200 * v + 2) = iI fl) (hpu : M (R + 1) (200 * v + 3) = iI pu) : pW (f_X7_drawsAnew R M) (fun M' => rdu R M' n X Y d D ∧ rVs R M' v ((n, X, Y), (d, D), (d, D), fl, pu) ∧ (∀ j, j < 200 * v ∨ 200 * v + 200 ≤ j → M' (R + 1) j = M (R + 1) j) ∧ ∀ b j, (b ≠ R + 1 ∧ b ≠ R + 3 ∧ b ≠ R + 5 ∧ (b ≠ R ∨ (j ≠ 8 ∧ j ≠ 9))) → M' b j = M b j) := by
  refine pW_mono (r_draws hp hb hdi hl) (fun M' z => ?_)
  obtain ⟨d', D', z1, z2, z3⟩ := z
  obtain ⟨e, e2⟩ := dueL_eq z1.2.2.2.2.1 hD
  subst e
  refine ⟨rdu_is z1 hD, ⟨⟨hp.2.1, (z3 _ _ (by omega)).trans hp.2.2.1, fun k hk => ?_⟩, ⟨z2.2.1, z2.2.2.1, fun t ht => ?_⟩, (z3 _ _ (by omega)).trans hf, (z3 _ _ (by omega)).trans hpu⟩, fun j hj => z3 _ _ (by omega), fun b j hb => z3 _ _ (by omega)⟩
  · have hn := hp.2.1
    rw [z3 _ _ (by omega), z3 _ _ (by omega)]; exact hp.2.2.2 k hk
  · rw [← e2 t ht]; exact z2.2.2.2 t ht
theorem k_place0 {a b : Int} (ha : -2147483648 ≤ a ∧ a ≤ 2147483647) (hb : -2147483648 ≤ b ∧ b ≤ 2147483647) : f_X6_needPlace A (iI a) (iI b) M = some (if (0 ≤ a ∧ a ≤ 200) ∧ 0 ≤ b ∧ b ≤ 200 then .inr () else .inl 0) := by
  unfold f_X6_needPlace f_X6_needPlace_22
  rw [iI_200]
  simp (disch := omega) only [iI_lt, iI_le, iI_n0]
  by_cases h1 : a < 0
  · rw [if_pos h1, if_neg (by omega)]
  · by_cases h2 : 200 < a
    · rw [if_neg h1, if_pos h2, if_neg (by omega)]
    · by_cases h3 : b < 0
      · rw [if_neg h1, if_neg h2, if_pos h3, if_neg (by omega)]
      · by_cases h4 : b ≤ 200
        · rw [if_neg h1, if_neg h2, if_neg h3, if_pos h4, if_pos (by omega)]
        · rw [if_neg h1, if_neg h2, if_neg h3, if_neg h4, if_neg (by omega)]
theorem gok_push (hs : gOkP s) (hh : ∀ j, j < u → gOkP (h j)) : ∀ j, j < min (u + 1) 8 → gOkP (pushH s h j) := fun j hj => by
  unfold pushH
  by_cases c0 : j = 0
  · rw [if_pos c0]; exact hs
  · rw [if_neg c0]; exact hh (j - 1) (by omega)
theorem wRf_th (hw : wRf R M s h u v) (x : Int32) : wRf R (fm_up M R 0 x) s h u v := wRf_q hw (fun b j z => up_i (by omega)) (hw.1.up (j := 0) x (by omega))
theorem wRf_fr (hw : wRf R M s h u v) (f : ∀ b, R ≤ b → b < R + 6 → M' b = M b) : wRf R M' s h u v := ⟨⟨⟨by rw [f R (by omega) (by omega)]; exact hw.1.1.1, hw.1.1.2⟩, rVs_L hw.1.2.1 (fun j _ _ => by rw [f (R + 1) (by omega) (by omega)]), rld_0 hw.1.2.2.1 (fun b j z => by rw [f b (by omega) (by omega)]), by rw [f R (by omega) (by omega)]; exact hw.1.2.2.2⟩, fun j hj => rVs_L (hw.2 j hj) (fun i _ _ => by rw [f (R + 1) (by omega) (by omega)])⟩
/-- a place put in -/
theorem gbd_put {n : Nat} {X Y : Nat → Int} {x y : Int} (hb : gbd n X Y) (hx : 0 ≤ x ∧ x ≤ 200) (hy : 0 ≤ y ∧ y ≤ 200) : gbd (n + 1) (fun k => if k = n then x else X k) (fun k => if k = n then y else Y k) := fun k hk => by
  try dsimp only
  by_cases c : k = n
  · rw [if_pos c, if_pos c]; exact ⟨hx, hy⟩
  · rw [if_neg c, if_neg c]; exact hb k (by omega)
theorem gDis_put {n : Nat} {X Y : Nat → Int} {x y : Int} (hd : gDis n X Y) (hf : ∀ j, j < n → ¬ (X j = x ∧ Y j = y)) : gDis (n + 1) (fun k => if k = n then x else X k) (fun k => if k = n then y else Y k) := fun i j hi hj e1 e2 => by
  dsimp only at e1 e2
  by_cases c : i = n
  · by_cases c2 : j = n
    · omega
    · rw [if_pos c, if_neg c2] at e1 e2
      exact absurd ⟨e1.symm, e2.symm⟩ (hf j (by omega))
  · by_cases c2 : j = n
    · rw [if_neg c, if_pos c2] at e1 e2
      exact absurd ⟨e1, e2⟩ (hf i (by omega))
    · rw [if_neg c, if_neg c2] at e1 e2
      exact hd i j (by omega) (by omega) e1 e2
theorem iI_n200 : (200 : Int32) = iI 200 := iI_200
theorem q_put (hw : wI A M s h c u v) (hk : c ≤ k) (hk6 : k < 600) (a b : Int32) : chOk A k (fun e => if e = 0 then 1 else 2) M (f_X6_put A a b M) (fun M1 => f_X7_put (A + 170) a b M1) := by
  obtain ⟨x, hx, rfl⟩ := i_ex a
  obtain ⟨y, hy, rfl⟩ := i_ex b
  obtain ⟨hs, hh, ⟨hu, huc⟩, hC, hR⟩ := id hw
  obtain ⟨⟨n, X, Y⟩, ⟨m, T⟩, ⟨d, D⟩, fl, pu⟩ := s
  obtain ⟨hn, hb, hdi, hd, hD⟩ := id hs
  have cp := hC.1.1.1
  have e1 : ∀ M : fm_Mem, f_X7_isIn (iI x) 0 200 M = some (if 0 ≤ x ∧ x ≤ 200 then 1 else 0) := fun M => r_in 0 200 iI_0 iI_200 hx (by omega) (by omega)
  have e2 : ∀ M : fm_Mem, f_X7_isIn (iI y) 0 200 M = some (if 0 ≤ y ∧ y ≤ 200 then 1 else 0) := fun M => r_in 0 200 iI_0 iI_200 hy (by omega) (by omega)
  have h0 : ∀ M : fm_Mem, fm_up M (A + 170) 0 0 (A + 170) 0 = 0 := fun M => up_s
  by_cases c1 : (0 ≤ x ∧ x ≤ 200) ∧ 0 ≤ y ∧ y ≤ 200
  · -- in range
    have rp : ∀ M1, wRf (A + 170) M1 ((n, X, Y), (m, T), (d, D), fl, pu) h u v → rpt (A + 170) (fm_up M1 (A + 170) 0 0) v n X Y := fun M1 z => (rKs_K hs (wRf_th z 0).1).1
    have ef := k_find cp hb hx hy
    have pre : ∀ M1, wRf (A + 170) M1 ((n, X, Y), (m, T), (d, D), fl, pu) h u v → f_X7_put (A + 170) (iI x) (iI y) M1 = if (20 : Int32) ≤ iI n then f_X7_put_64 (A + 170) (iI x) (iI y) (fm_up M1 (A + 170) 0 0) else if iI (gFi (fun p => decide (X p = x ∧ Y p = y)) n) = -1 then f_X7_put_65 (A + 170) (iI x) (iI y) 1 (fm_up M1 (A + 170) 0 0) else f_X7_put_64 (A + 170) (iI x) (iI y) (fm_up M1 (A + 170) 0 0) := fun M1 z => by
      unfold f_X7_put f_X7_put_33
      rw [e1, if_pos c1.1, bd_s, if_neg n10, e2, if_pos c1.2, bd_s, if_neg n10, r_right1 (h0 M1), bd_s, if_neg (n1 _)]
      try dsimp only
      rw [r_points (rp M1 z), bd_s, r_find (rp M1 z) hb hx hy, bd_s]
    have bad : ∀ M1, f_X7_put_64 (A + 170) (iI x) (iI y) (fm_up M1 (A + 170) 0 0) = some (0, fm_up (fm_up M1 (A + 170) 0 0) (A + 170) 0 2) := fun M1 => by
      unfold f_X7_put_64 f_X7_put_65 f_X7_put_72
      rw [r_right0 (h0 M1) (by decide), bd_s, if_pos rfl]
    have gf := gFi_r (fun p => decide (X p = x ∧ Y p = y)) n
    unfold f_X6_put f_X6_put_32
    rw [k_place0 hx hy, if_pos c1, bx_r, k_size cp, bd_s]
    by_cases c2 : 20 ≤ n
    · rw [if_pos (by rw [iI_20, iI_le (by omega) (by omega)]; omega)]
      refine ch_l hw hk rfl (x := 0) ?_
      try dsimp only
      rw [pre M hR, if_pos (by rw [iI_20, iI_le (by omega) (by omega)]; omega), bad]
      rfl
    · rw [if_neg (by rw [iI_20, iI_le (by omega) (by omega)]; omega), ef, bd_s]
      rcases gf with ⟨g1, g2⟩ | ⟨i, i1, i2, -, -⟩
      · -- it is put in
        rw [g1, if_pos (show iI (-1) < 0 by decide)]
        obtain ⟨M1, m1, w1, w6, w2⟩ := k_remember hC hu huc (by omega)
        obtain ⟨M2, m2, p1, p2⟩ := k_padd w1.1.1.1 (show n < 20 by omega) x y
        have f4 : M2 (A + 20) 4 = iI pu := by rw [p2 _ (by omega)]; exact w1.1.1.2.2.2.2
        have f3 : M2 (A + 20) 3 = iI fl := by rw [p2 _ (by omega)]; exact w1.1.1.2.2.2.1
        have nb := gbd_put hb c1.1 c1.2
        have nd := gDis_put hdi (x := x) (y := y) (fun j hj z => by have := g2 j hj; rw [decide_eq_true z] at this; cases this)
        obtain ⟨M3, m3, d', D', q1, q2, q3, q4⟩ := k_changed (A := A) (M := fm_up M2 (A + 20) 4 (iI pu + 1)) (n := n + 1) (fl := fl) (pu := pu + 1) (cpt_fr p1 (fun b p q => up_ne (by omega))) nb nd ((up_i (by omega)).trans f3) (up_s.trans (iI_add pu 1))
        rw [m1, bd_s, m2, bd_s, f4, m3, bd_s, k_size q2.1, bd_s]
        have hw3 : wCl A M3 ((n + 1, (fun k => if k = n then x else X k), (fun k => if k = n then y else Y k)), (d', D'), (d', D'), fl, pu + 1) (pushH ((n, X, Y), (m, T), (d, D), fl, pu) h) (c + 1) (min (u + 1) 8) := wCl_set w1 (fun b hb => by rw [q4 b (by omega), up_ne (by omega), p2 b (by omega)]) q2 q3
        -- the reference
        have hR3 : wRf (A + 170) M3 ((n, X, Y), (m, T), (d, D), fl, pu) h u v := wRf_fr hR (fun b p q => by rw [q4 b (by omega), up_ne (by omega), p2 b (by omega), w2 b (by omega) (by omega)])
        obtain ⟨M4, m4, v1, v2⟩ := r_change (wRf_th hR3 0) hu
        have hv := v1.1.1.2
        have kp := (rKs_K hs v1.1).1
        have h18 : (v + 1) % 9 ≤ 8 := hv
        have a1 := r_put kp.1 (show 10 + 2 * n < 200 by omega) (iI x)
        have rv5 : rvn (A + 170) (fm_up M4 (A + 170 + 1) (200 * ((v + 1) % 9) + (10 + 2 * n)) (iI x)) ((v + 1) % 9) := ⟨(up_i (by omega)).trans kp.1.1, hv⟩
        have a2 := r_put rv5 (show 10 + 2 * n + 1 < 200 by omega) (iI y)
        have rv6 : rvn (A + 170) (fm_up (fm_up M4 (A + 170 + 1) (200 * ((v + 1) % 9) + (10 + 2 * n)) (iI x)) (A + 170 + 1) (200 * ((v + 1) % 9) + (10 + 2 * n + 1)) (iI y)) ((v + 1) % 9) := ⟨(up_i (by omega)).trans rv5.1, hv⟩
        have a3 := r_put rv6 (show 0 < 200 by omega) (iI ((n + 1 : Nat) : Int))
        have rv7 : rvn (A + 170) (fm_up (fm_up (fm_up M4 (A + 170 + 1) (200 * ((v + 1) % 9) + (10 + 2 * n)) (iI x)) (A + 170 + 1) (200 * ((v + 1) % 9) + (10 + 2 * n + 1)) (iI y)) (A + 170 + 1) (200 * ((v + 1) % 9) + 0) (iI ((n + 1 : Nat) : Int))) ((v + 1) % 9) := ⟨(up_i (by omega)).trans rv6.1, hv⟩
        have a4 := r_get rv7 (show 3 < 200 by omega)
        have g7 : fm_up (fm_up (fm_up M4 (A + 170 + 1) (200 * ((v + 1) % 9) + (10 + 2 * n)) (iI x)) (A + 170 + 1) (200 * ((v + 1) % 9) + (10 + 2 * n + 1)) (iI y)) (A + 170 + 1) (200 * ((v + 1) % 9) + 0) (iI ((n + 1 : Nat) : Int)) (A + 170 + 1) (200 * ((v + 1) % 9) + 3) = iI pu := by
          rw [up_i (by omega), up_i (by omega), up_i (by omega)]; exact v1.1.2.1.2.2.2
        rw [g7] at a4
        have a5 := r_put rv7 (show 3 < 200 by omega) (iI (pu + 1))
        generalize hM8 : fm_up (fm_up (fm_up (fm_up M4 (A + 170 + 1) (200 * ((v + 1) % 9) + (10 + 2 * n)) (iI x)) (A + 170 + 1) (200 * ((v + 1) % 9) + (10 + 2 * n + 1)) (iI y)) (A + 170 + 1) (200 * ((v + 1) % 9) + 0) (iI ((n + 1 : Nat) : Int))) (A + 170 + 1) (200 * ((v + 1) % 9) + 3) (iI (pu + 1)) = M8 at *
        have f8 : ∀ b j, (b ≠ A + 170 + 1 ∨ j < 200 * ((v + 1) % 9) ∨ 200 * ((v + 1) % 9) + 200 ≤ j) → M8 b j = M4 b j := fun b j z => by
          rw [← hM8, up_i (by omega), up_i (by omega), up_i (by omega), up_i (by omega)]
        have rv8 : rvn (A + 170) M8 ((v + 1) % 9) := ⟨(f8 _ _ (by omega)).trans kp.1.1, hv⟩
        have rp8 : rpt (A + 170) M8 ((v + 1) % 9) (n + 1) (fun k => if k = n then x else X k) (fun k => if k = n then y else Y k) := by
          refine ⟨rv8, by omega, by rw [← hM8, up_i (by omega)]; exact up_s, fun i hi => ?_⟩
          try dsimp only
          by_cases e : i = n
          · subst e
            rw [if_pos rfl, if_pos rfl, ← hM8]
            exact ⟨by rw [up_i (by omega), up_i (by omega), up_i (by omega)]; exact up_s, by rw [up_i (by omega), up_i (by omega)]; exact up_s⟩
          · rw [if_neg e, if_neg e, ← hM8]
            exact ⟨by rw [up_i (by omega), up_i (by omega), up_i (by omega), up_i (by omega)]; exact (kp.2.2.2 i (by omega)).1, by rw [up_i (by omega), up_i (by omega), up_i (by omega), up_i (by omega)]; exact (kp.2.2.2 i (by omega)).2⟩
        obtain ⟨M9, m9, s1, s2, s3, s4⟩ := r_redraw rp8 nb nd q1.2.2.2.2 (rld_0 v1.1.2.2.1 (fun b j z => f8 b j (by omega))) (fl := fl) (pu := pu + 1) (by rw [← hM8, up_i (by omega), up_i (by omega), up_i (by omega), up_i (by omega)]; exact v1.1.2.1.2.2.1) (by rw [← hM8]; exact up_s)
        have hn1 : n + 1 ≤ 20 := by omega
        have st : ∀ b j, b < A + 170 ∨ b = A + 176 ∨ (b = A + 170 ∧ (j = 11 ∨ j = 15)) → M9 b j = M3 b j := fun b j z => by
          rw [s4 b j (by omega), f8 b j (by omega), v2 b j (by omega), up_i (by omega)]
        refine ch_r hw hk rfl (r1 := iI n) (M9 := M9) ?_ ?_ ?_ q1 hw3 (fun b j z => ?_) st (wRf_set v1 (by omega) (by rw [s4 _ _ (by omega), f8 _ _ (by omega)]) (by rw [s4 _ _ (by omega), f8 _ _ (by omega)]) (fun j hj => by rw [s3 j (by omega), f8 _ _ (by omega)]) (rdu_ld hn1 nb s1) s2)
        · try dsimp only
          rw [pre M3 hR3, if_neg (by rw [iI_20, iI_le (by omega) (by omega)]; omega), g1, if_pos (by decide)]
          unfold f_X7_put_65
          rw [r_right1 (h0 M3), bd_s, if_neg (n1 _)]
          try dsimp only
          rw [m4, bd_s, r_points kp, bd_s, iI_10, iI_2, iI_mul, iI_add, show (10 : Int) + 2 * (n : Int) = ((10 + 2 * n : Nat) : Int) by omega, a1, bd_s, iI_s, a2, bd_s, show (0 : Int32) = iI ((0 : Nat) : Int) from rfl, iI_s, a3, bd_s, show (3 : Int32) = iI ((3 : Nat) : Int) from rfl, a4, bd_s, iI_1, iI_add, a5, bd_s, m9, bd_s]
        · rw [iI_1, iI_sub, show ((n + 1 : Nat) : Int) - 1 = (n : Int) by omega]
        · rw [s4 _ _ (by omega), f8 _ _ (by omega), v2 _ _ (by omega)]
          exact up_s
        · rw [q4 b (by omega), up_ne (by omega), p2 b (by omega)]
          by_cases eA : b = A
          · rw [eA, show j = 6 by omega]; exact w6
          · by_cases e7 : b = A + 170 ∨ b = A + 176
            · rw [w2 b eA (by omega)]
            · rw [w2 b eA (by omega)]
      · rw [i2, if_neg (by rw [iI_n0 (by omega)]; omega)]
        refine ch_l hw hk rfl (x := 0) ?_
        try dsimp only
        rw [pre M hR, if_neg (by rw [iI_20, iI_le (by omega) (by omega)]; omega), i2, if_neg (by rw [iI_em (by omega)]; omega), bad]
        rfl
  · unfold f_X6_put
    rw [k_place0 hx hy, if_neg c1, bx_l]
    refine ch_l hw hk rfl (x := 0) ?_
    unfold f_X7_put f_X7_put_32 f_X7_put_33 f_X7_put_72
    rw [e1, bd_s]
    by_cases c2 : 0 ≤ x ∧ x ≤ 200
    · rw [if_pos c2, if_neg n10, e2, if_neg (fun z => c1 ⟨c2, z⟩), bd_s, if_pos rfl, r_right0 (h0 M) (by decide), bd_s, if_pos rfl]
      rfl
    · rw [if_neg c2, if_pos rfl, r_right0 (h0 M) (by decide), bd_s, if_pos rfl]
      rfl
end WO
end
