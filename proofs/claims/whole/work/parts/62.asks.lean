section
/-! what a call answers, by both sides: questions -/
def frQ (R : Nat) (M M' : fm_Mem) : Prop := ∀ b j, (b ≠ R + 3 ∧ b ≠ R + 5 ∧ (b ≠ R ∨ (j ≠ 0 ∧ j ≠ 8 ∧ j ≠ 9))) → M' b j = M b j
def oR (cd : Nat → Int32) (th r : Int32) : Nat ⊕ Int32 → Prop
  | .inl k => th = cd k
  | .inr x => th = 0 ∧ r = x
def qOk (R v u : Nat) (cd : Nat → Int32) (s : gPl) (M : fm_Mem) (oc : Option (Nat ⊕ Int32)) (orr : Option (Int32 × fm_Mem)) : Prop := ∃ o r, oc = some o ∧ orr = some r ∧ oR cd (r.2 R 0) r.1 o ∧ frQ R M r.2 ∧ rKs R r.2 v s u
theorem i_ex (a : Int32) : ∃ z : Int, (-2147483648 ≤ z ∧ z ≤ 2147483647) ∧ a = iI z := by
  have h1 := Int32.le_toInt a
  have h2 := Int32.toInt_lt a
  exact ⟨a.toInt, ⟨h1, by omega⟩, (iI_of a).symm⟩
theorem n10 : ¬ (1 : Int32) = 0 := by decide
theorem n1 (M : fm_Mem) : ¬ ((1 : Int32), M).1 = 0 := n10
section QK
variable {R v u : Nat} {cd : Nat → Int32} {s : gPl} {M M1 : fm_Mem} {oc : Option (Nat ⊕ Int32)} {orr : Option (Int32 × fm_Mem)}
theorem frQ_0 {x : Int32} (f : frL R (fm_up M R 0 x) M1) : frQ R M M1 := fun b j z => (f b j (by omega)).trans (up_i (by omega))
theorem qOk_r {x : Int32} (e : oc = some (.inr x)) (h : pW orr (fun r => r.1 = x ∧ frL R (fm_up M R 0 0) r.2 ∧ rKs R r.2 v s u)) : qOk R v u cd s M oc orr := by
  obtain ⟨r, er, h1, h2, h3⟩ := h
  exact ⟨_, r, e, er, ⟨(h2 R 0 (by omega)).trans up_s, h1⟩, frQ_0 h2, h3⟩
theorem qOk_l {k : Nat} {x : Int32} (e : oc = some (.inl k)) (f : frL R (fm_up M R 0 0) M1) (hk : rKs R M1 v s u) (h : orr = some (x, fm_up M1 R 0 (cd k))) : qOk R v u cd s M oc orr := by
  refine ⟨_, _, e, h, up_s, fun b j z => ?_, hk.up _ (by omega)⟩
  exact (up_i (by omega)).trans ((f b j (by omega)).trans (up_i (by omega)))
theorem r_right1 (h0 : M R 0 = 0) (k : Int32) : f_X7_right R 1 k M = some (1, M) := by
  unfold f_X7_right f_X7_right_16 f_X7_right_28
  rw [if_pos h0, if_neg (by decide), if_pos h0, bo_1, ck_t]
theorem r_right0 (h0 : M R 0 = 0) {k : Int32} (hk : ¬ k = 0) : f_X7_right R 0 k M = some (0, fm_up M R 0 k) := by
  unfold f_X7_right f_X7_right_16 f_X7_right_28
  rw [if_pos h0, if_pos rfl, up_s, if_neg hk, bo_0, ck_t]
theorem r_in {a : Int} {x y : Int32} (b c : Int) (hx : x = iI b) (hy : y = iI c) (ha : -2147483648 ≤ a ∧ a ≤ 2147483647) (hb : -2147483648 ≤ b ∧ b ≤ 2147483647) (hc : -2147483648 ≤ c ∧ c ≤ 2147483647) : f_X7_isIn (iI a) x y M = some (if b ≤ a ∧ a ≤ c then 1 else 0) := by
  subst hx hy
  exact r_isIn ha hb hc
end QK
section QS
variable {A R v u n m d : Nat} {M : fm_Mem} {X Y : Nat → Int} {T D : Nat → Nat} {fl pu : Int}
theorem q_state {s : gPl} (hs : gOkP s) (hC : cKs A M s u) (hR : rKs R M v s u) (a : Int32) : qOk R v u (fun _ => 1) s M (f_X6_state A a M) (f_X7_state R a M) := by
  obtain ⟨z, hz, rfl⟩ := i_ex a
  obtain ⟨⟨n, X, Y⟩, ⟨m, T⟩, ⟨d, D⟩, fl, pu⟩ := s
  have h0 : fm_up M R 0 0 R 0 = 0 := up_s
  have hR0 := hR.up (j := 0) 0 (by omega)
  have er : f_X7_isIn (iI z) 0 11 (fm_up M R 0 0) = some (if 0 ≤ z ∧ z ≤ 11 then 1 else 0) := r_in 0 11 iI_0 iI_11 hz (by omega) (by omega)
  by_cases c : 0 ≤ z ∧ z ≤ 11
  · obtain ⟨w, rfl⟩ : ∃ w : Nat, z = (w : Int) := ⟨z.toNat, by omega⟩
    obtain ⟨x, e1, e2⟩ := t_state (v := v) (R := R) hs hC (show w ≤ 11 by omega)
    refine qOk_r e1 ?_
    unfold f_X7_state f_X7_state_29
    rw [er, if_pos c, bd_s, r_right1 h0, bd_s, if_neg (n1 _)]
    exact pW_bind (pW_mono (e2 _ hR0) (fun r y => pW_some y))
  · refine qOk_l (k := 0) (x := 0) ?_ frL_r hR0 ?_
    · unfold f_X6_state f_X6_state_10
      by_cases c1 : z < 0
      · rw [if_pos (show iI z < 0 by rw [iI_n0 hz]; exact c1)]
      · rw [if_neg (show ¬ iI z < 0 by rw [iI_n0 hz]; exact c1), if_neg (show ¬ iI z ≤ 11 by rw [iI_11, iI_le hz (by omega)]; omega)]
    · unfold f_X7_state f_X7_state_29
      rw [er, if_neg c, bd_s, r_right0 h0 (by decide), bd_s, if_pos rfl]
theorem q_point {s : gPl} (hs : gOkP s) (hC : cKs A M s u) (hR : rKs R M v s u) (a b : Int32) : qOk R v u (fun k => if k = 2 then 1 else 2) s M (f_X6_point A a b M) (f_X7_point R a b M) := by
  obtain ⟨z, hz, rfl⟩ := i_ex a
  obtain ⟨y, hy, rfl⟩ := i_ex b
  obtain ⟨⟨n, X, Y⟩, ⟨m, T⟩, ⟨d, D⟩, fl, pu⟩ := s
  have h0 : fm_up M R 0 0 R 0 = 0 := up_s
  have hR0 := hR.up (j := 0) 0 (by omega)
  have kK := rKs_K hs hR0
  have er : f_X7_isIn (iI y) 0 6 (fm_up M R 0 0) = some (if 0 ≤ y ∧ y ≤ 6 then 1 else 0) := r_in 0 6 iI_0 iI_6 hy (by omega) (by omega)
  have ep := r_isPoint kK.1 hz
  by_cases c : 0 ≤ z ∧ z < n
  · obtain ⟨p, rfl⟩ : ∃ p : Nat, z = (p : Int) := ⟨z.toNat, by omega⟩
    by_cases c2 : 0 ≤ y ∧ y ≤ 6
    · obtain ⟨w, rfl⟩ : ∃ w : Nat, y = (w : Int) := ⟨y.toNat, by omega⟩
      obtain ⟨x, e1, e2⟩ := t_point (v := v) (R := R) hs hC (show p < n by omega) (show w ≤ 6 by omega)
      refine qOk_r e1 ?_
      unfold f_X7_point f_X7_point_43
      rw [ep, if_pos c, bd_s, r_right1 h0, bd_s, if_neg (n1 _), er, if_pos c2, bd_s, r_right1 h0, bd_s, if_neg (n1 _)]
      exact pW_bind (pW_mono (e2 _ hR0) (fun r y => pW_some y))
    · refine qOk_l (k := 0) (x := 0) ?_ frL_r hR0 ?_
      · unfold f_X6_point f_X6_point_15
        rw [k_need hC.1.1 hz, if_pos c, bx_r]
        by_cases c1 : y < 0
        · rw [if_pos (show iI y < 0 by rw [iI_n0 hy]; exact c1)]
        · rw [if_neg (show ¬ iI y < 0 by rw [iI_n0 hy]; exact c1), if_neg (show ¬ iI y ≤ 6 by rw [iI_6, iI_le hy (by omega)]; omega)]
      · unfold f_X7_point f_X7_point_42 f_X7_point_43
        rw [ep, if_pos c, bd_s, r_right1 h0, bd_s, if_neg (n1 _), er, if_neg c2, bd_s, r_right0 h0 (by decide), bd_s, if_pos rfl]
        rfl
  · refine qOk_l (k := 2) (x := 0) ?_ frL_r hR0 ?_
    · unfold f_X6_point
      rw [k_need hC.1.1 hz, if_neg c, bx_l]
    · unfold f_X7_point f_X7_point_42 f_X7_point_43
      rw [ep, if_neg c, bd_s, r_right0 h0 (by decide), bd_s, if_pos rfl]
      rfl
/-- the reference's test of a triangle's index -/
theorem r_isTri {M0 M1 : fm_Mem} {sf : Int32} {mm : Nat} (e : f_X7_many R sf M0 = some (iI mm, M1)) (hm : mm ≤ 40) {z : Int} (hz : -2147483648 ≤ z ∧ z ≤ 2147483647) : f_X7_isTriangle R (iI z) sf M0 = some (if 0 ≤ z ∧ z < mm then 1 else 0, M1) := by
  unfold f_X7_isTriangle
  rw [e, bd_s]
  dsimp only
  rw [show iI (mm : Int) - 1 = iI ((mm : Int) - 1) by rw [iI_1, iI_sub], r_in 0 ((mm : Int) - 1) iI_0 rfl hz (by omega) (by omega), bd_s]
  by_cases c : 0 ≤ z ∧ z < mm
  · rw [if_pos c, if_pos (by omega), bo_1, ck_t]
  · rw [if_neg c, if_neg (by omega), bo_0, ck_t]
theorem q_tri0 (hs : gOkP ((n, X, Y), (m, T), (d, D), fl, pu)) (hC : cKs A M ((n, X, Y), (m, T), (d, D), fl, pu) u) (a2 : Int32) {Q mm : Nat} {TT : Nat → Nat} {sf : Int32} {M1 : fm_Mem} (hm : cMs Q M mm TT) (hv : tV n mm TT) (f : frL R (fm_up M R 0 0) M1) (hR : rKs R M1 v ((n, X, Y), (m, T), (d, D), fl, pu) u) (hr : rTri R M1 sf mm TT) (hM0 : f_X7_many R sf (fm_up M R 0 0) = some (iI mm, M1)) (hM : f_X7_many R sf M1 = some (iI mm, M1)) (a b : Int32) : qOk R v u (fun k => if k = 2 then 1 else 2) ((n, X, Y), (m, T), (d, D), fl, pu) M (f_X6_triangle_21 A a a2 b Q M) (f_X7_triangle R a sf b M) := by
  obtain ⟨z, hz, rfl⟩ := i_ex a
  obtain ⟨y, hy, rfl⟩ := i_ex b
  have h0 : M1 R 0 = 0 := (f R 0 (by omega)).trans up_s
  have kK := rKs_K hs hR
  have hmm := hm.2.1
  have er : f_X7_isIn (iI y) 0 6 M1 = some (if 0 ≤ y ∧ y ≤ 6 then 1 else 0) := r_in 0 6 iI_0 iI_6 hy (by omega) (by omega)
  have et := r_isTri hM0 (by omega) hz
  have ec : f_X6_needTriangle A Q (iI z) M = some (if 0 ≤ z ∧ z < mm then .inr () else .inl 2) := by
    unfold f_X6_needTriangle f_X6_needTriangle_12
    rw [k_msize hm, bd_s]
    simp (disch := omega) only [iI_n0, iI_lt]
    by_cases h1 : z < 0
    · rw [if_pos h1, if_neg (by omega)]
    · by_cases h2 : z < mm
      · rw [if_neg h1, if_pos h2, if_pos (by omega)]
      · rw [if_neg h1, if_neg h2, if_neg (by omega)]
  by_cases c : 0 ≤ z ∧ z < mm
  · obtain ⟨t, rfl⟩ : ∃ t : Nat, z = (t : Int) := ⟨z.toNat, by omega⟩
    by_cases c2 : 0 ≤ y ∧ y ≤ 6
    · obtain ⟨w, rfl⟩ : ∃ w : Nat, y = (w : Int) := ⟨y.toNat, by omega⟩
      obtain ⟨x, e1, e2⟩ := t_tri a2 hC.1.1 hs.2.1 hm hv kK.1 hr hM (show t < mm by omega) (show w ≤ 6 by omega)
      refine qOk_r e1 ?_
      unfold f_X7_triangle f_X7_triangle_45
      rw [et, if_pos c, bd_s, r_right1 h0, bd_s, if_neg (n1 _), er, if_pos c2, bd_s, r_right1 h0, bd_s, if_neg (n1 _), e2, bd_s]
      exact pW_some ⟨rfl, f, hR⟩
    · refine qOk_l (k := 0) (x := 0) ?_ f hR ?_
      · unfold f_X6_triangle_21 f_X6_triangle_40
        rw [ec, if_pos c, bx_r]
        by_cases c1 : y < 0
        · rw [if_pos (show iI y < 0 by rw [iI_n0 hy]; exact c1)]
        · rw [if_neg (show ¬ iI y < 0 by rw [iI_n0 hy]; exact c1), if_neg (show ¬ iI y ≤ 6 by rw [iI_6, iI_le hy (by omega)]; omega)]
      · unfold f_X7_triangle f_X7_triangle_44 f_X7_triangle_45
        rw [et, if_pos c, bd_s, r_right1 h0, bd_s, if_neg (n1 _), er, if_neg c2, bd_s, r_right0 h0 (by decide), bd_s, if_pos rfl]
        rfl
  · refine qOk_l (k := 2) (x := 0) ?_ f hR ?_
    · unfold f_X6_triangle_21
      rw [ec, if_neg c, bx_l]
    · unfold f_X7_triangle f_X7_triangle_44 f_X7_triangle_45
      rw [et, if_neg c, bd_s, r_right0 h0 (by decide), bd_s, if_pos rfl]
      rfl
theorem q_triangle {s : gPl} (hs : gOkP s) (hC : cKs A M s u) (hR : rKs R M v s u) (a b : Int32) {f : Int32} (hf : f = 0 ∨ f = 1) : qOk R v u (fun k => if k = 2 then 1 else 2) s M (f_X6_triangle A a f b M) (f_X7_triangle R a f b M) := by
  obtain ⟨⟨n, X, Y⟩, ⟨m, T⟩, ⟨d, D⟩, fl, pu⟩ := s
  have hR0 := hR.up (j := 0) 0 (by omega)
  have kK := rKs_K hs hR0
  unfold f_X6_triangle
  rcases hf with rfl | rfl
  · rw [if_pos rfl]
    exact q_tri0 hs hC 0 hC.1.2.1 kK.hv frL_r hR0 (rtr_tri kK.2.1) (r_many0 kK.2.1) (r_many0 kK.2.1) a b
  · rw [if_neg (by decide)]
    obtain ⟨⟨x, M1⟩, e, y1, y2, y3, y4⟩ := r_manyK kK hs.2.2.2.2
    dsimp only at y1 y2 y3 y4
    subst y1
    exact q_tri0 hs hC 1 hC.1.2.2.1 hs.2.2.2.2.1 y3 (hR0.L y3 y4.2.2.1) (rdu_tri y2) e (r_many1 y4.1 y2) a b
theorem q_circle {s : gPl} (hs : gOkP s) (hC : cKs A M s u) (hR : rKs R M v s u) (a b c e : Int32) : qOk R v u (fun _ => 1) s M (f_X6_circle A a b c e M) (f_X7_circle R a b c e M) := by
  obtain ⟨z1, hz1, rfl⟩ := i_ex a
  obtain ⟨z2, hz2, rfl⟩ := i_ex b
  obtain ⟨z3, hz3, rfl⟩ := i_ex c
  obtain ⟨z4, hz4, rfl⟩ := i_ex e
  obtain ⟨⟨n, X, Y⟩, ⟨m, T⟩, ⟨d, D⟩, fl, pu⟩ := s
  have h0 : fm_up M R 0 0 R 0 = 0 := up_s
  have hR0 := hR.up (j := 0) 0 (by omega)
  have kK := rKs_K hs hR0
  have hb := hs.2.1
  unfold f_X6_circle f_X7_circle f_X7_circle_43 f_X7_circle_44 f_X7_circle_78
  rw [k_need hC.1.1 hz1, r_isPoint kK.1 hz1, bd_s]
  by_cases c1 : 0 ≤ z1 ∧ z1 < n
  · rw [if_pos c1, if_pos c1, bx_r, k_need hC.1.1 hz2, r_isPoint kK.1 hz2, if_neg n10, bd_s]
    by_cases c2 : 0 ≤ z2 ∧ z2 < n
    · rw [if_pos c2, if_pos c2, bx_r, k_need hC.1.1 hz3, r_isPoint kK.1 hz3, if_neg n10, bd_s]
      by_cases c3 : 0 ≤ z3 ∧ z3 < n
      · rw [if_pos c3, if_pos c3, bx_r, k_need hC.1.1 hz4, r_isPoint kK.1 hz4, if_neg n10, bd_s]
        by_cases c4 : 0 ≤ z4 ∧ z4 < n
        · rw [if_pos c4, if_pos c4, bx_r, if_neg n10, r_right1 h0, bd_s, if_neg (n1 _)]
          obtain ⟨p, rfl⟩ : ∃ p : Nat, z1 = (p : Int) := ⟨z1.toNat, by omega⟩
          obtain ⟨q, rfl⟩ : ∃ q : Nat, z2 = (q : Int) := ⟨z2.toNat, by omega⟩
          obtain ⟨r, rfl⟩ : ∃ r : Nat, z3 = (r : Int) := ⟨z3.toNat, by omega⟩
          obtain ⟨s, rfl⟩ : ∃ s : Nat, z4 = (s : Int) := ⟨z4.toNat, by omega⟩
          have tb := gT_bd hb (show p < n by omega) (show q < n by omega) (show r < n by omega)
          have bs := hb s (by omega)
          rw [k_turn hC.1.1 (by omega) (by omega) (by omega), bd_s, r_turn kK.1 hb (by omega) (by omega) (by omega), bd_s, k_x hC.1.1 (by omega), bd_s, k_y hC.1.1 (by omega), bd_s, k_circle hC.1.1 hb (by omega) (by omega) (by omega) (by omega) (by omega), bd_s, r_circleBy kK.1 hb (by omega) (by omega) (by omega) (by omega), bd_s]
          simp (disch := omega) only [lg_cmp_eq, iI_e0, iL_0, iL_eq]
          by_cases t0 : gT X Y p q r = 0
          · rw [if_pos t0, if_pos t0]
            exact qOk_r rfl (pW_some ⟨rfl, frL_r, hR0⟩)
          · rw [if_neg t0, if_neg t0]
            exact qOk_r rfl (pW_some ⟨rfl, frL_r, hR0⟩)
        · rw [if_neg c4, if_neg c4, bx_l, if_pos rfl, r_right0 h0 (by decide), bd_s, if_pos rfl]
          exact qOk_l rfl frL_r hR0 rfl
      · rw [if_neg c3, if_neg c3, bx_l, if_pos rfl, r_right0 h0 (by decide), bd_s, if_pos rfl]
        exact qOk_l rfl frL_r hR0 rfl
    · rw [if_neg c2, if_neg c2, bx_l, if_pos rfl, r_right0 h0 (by decide), bd_s, if_pos rfl]
      exact qOk_l rfl frL_r hR0 rfl
  · rw [if_neg c1, if_neg c1, bx_l, if_pos rfl, r_right0 h0 (by decide), bd_s, if_pos rfl]
    exact qOk_l rfl frL_r hR0 rfl
theorem q_why {s : gPl} (hs : gOkP s) (hC : cKs A M s u) (hR : rKs R M v s u) (a b : Int32) : qOk R v u (fun _ => 1) s M (f_X6_why A a b M) (f_X7_why R a b M) := by
  obtain ⟨z1, hz1, rfl⟩ := i_ex a
  obtain ⟨z2, hz2, rfl⟩ := i_ex b
  obtain ⟨⟨n, X, Y⟩, ⟨m, T⟩, ⟨d, D⟩, fl, pu⟩ := s
  have h0 : fm_up M R 0 0 R 0 = 0 := up_s
  have hR0 := hR.up (j := 0) 0 (by omega)
  have kK := rKs_K hs hR0
  have hn := hs.1
  have hb := hs.2.1
  unfold f_X6_why f_X7_why f_X7_why_26 f_X7_why_27 f_X7_why_44
  rw [k_need hC.1.1 hz1, r_isPoint kK.1 hz1, bd_s]
  by_cases c1 : 0 ≤ z1 ∧ z1 < n
  · rw [if_pos c1, if_pos c1, bx_r, k_need hC.1.1 hz2, r_isPoint kK.1 hz2, if_neg n10, bd_s]
    by_cases c2 : 0 ≤ z2 ∧ z2 < n
    · rw [if_pos c2, if_pos c2, bx_r, if_neg n10, r_right1 h0, bd_s, if_neg (n1 _)]
      obtain ⟨p, rfl⟩ : ∃ p : Nat, z1 = (p : Int) := ⟨z1.toNat, by omega⟩
      obtain ⟨q, rfl⟩ : ∃ q : Nat, z2 = (q : Int) := ⟨z2.toNat, by omega⟩
      rw [k_ref hC.1.1 hC.1.2.1 hb kK.hv (show p < n by omega) (show q < n by omega), bd_s, r_why kK.1 kK.2.1 hb kK.hv (fun p q h1 h2 => gDr_2 hs.2.2.2.1 hn h1 h2) (show p < n by omega) (show q < n by omega), bd_s]
      exact qOk_r rfl (pW_some ⟨rfl, frL_r, hR0⟩)
    · rw [if_neg c2, if_neg c2, bx_l, if_pos rfl, r_right0 h0 (by decide), bd_s, if_pos rfl]
      exact qOk_l rfl frL_r hR0 rfl
  · rw [if_neg c1, if_neg c1, bx_l, if_pos rfl, r_right0 h0 (by decide), bd_s, if_pos rfl]
    exact qOk_l rfl frL_r hR0 rfl
theorem gFB_r {X Y : Nat → Int} {r : Int} (hn : n ≤ 20) (h : gFB n X Y m T r) : -1 ≤ r ∧ r < 2000 := by
  rcases h with ⟨e, -⟩ | ⟨p, q, h1, h2, e, -⟩ <;> omega
theorem q_badEdge {s : gPl} (hs : gOkP s) (hC : cKs A M s u) (hR : rKs R M v s u) : qOk R v u (fun _ => 1) s M (f_X6_badEdge A M) (f_X7_badEdge R M) := by
  obtain ⟨⟨n, X, Y⟩, ⟨m, T⟩, ⟨d, D⟩, fl, pu⟩ := s
  have h0 : fm_up M R 0 0 R 0 = 0 := up_s
  have hR0 := hR.up (j := 0) 0 (by omega)
  have kK := rKs_K hs hR0
  have hb := hs.2.1
  obtain ⟨r1, e1, z, rfl, g1⟩ := k_fbad hC.1.1 hC.1.2.1 hb kK.hv
  obtain ⟨⟨r2, M2⟩, e2, y1, z', y2, g2⟩ := r_fbad kK.1 kK.2.1 hb kK.hv
  dsimp only at y1 y2
  subst y1 y2
  have ez := gFB_eq g1 g2
  subst ez
  have hz := gFB_r hs.1 g1
  unfold f_X6_badEdge f_X7_badEdge f_X7_badEdge_21 f_X7_badEdge_33
  rw [e1, bd_s, e2, bd_s]
  dsimp only
  simp (disch := omega) only [iI_g0, iI_em]
  by_cases c : z = -1
  · rw [if_neg (by omega), if_pos c, r_right0 h0 (by decide), bd_s, if_pos rfl]
    exact qOk_l rfl frL_r hR0 rfl
  · rw [if_pos (by omega), if_neg c, r_right1 h0, bd_s, if_neg (n1 _)]
    exact qOk_r rfl (pW_some ⟨rfl, frL_r, hR0⟩)
end QS
end
