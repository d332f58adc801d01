section
/-! move, by both sides -/
section MO
variable {A R c u v k : Nat} {M M' : fm_Mem} {s : gPl} {h : Nat → gPl}
theorem q_move (hw : wI A M s h c u v) (hk : c ≤ k) (hk6 : k < 600) (a b1 b2 : Int32) : chOk A k (fun e => if e = 2 then 1 else if e = 0 then 2 else 3) M (f_X6_move A a b1 b2 M) (fun M1 => f_X7_move (A + 170) a b1 b2 M1) := by
  obtain ⟨z, hz, rfl⟩ := i_ex a
  obtain ⟨x, hx, rfl⟩ := i_ex b1
  obtain ⟨y, hy, rfl⟩ := i_ex b2
  obtain ⟨hs, hh, ⟨hu, huc⟩, hC, hR⟩ := id hw
  obtain ⟨⟨n, X, Y⟩, ⟨m, T⟩, ⟨d, D⟩, fl, pu⟩ := s
  obtain ⟨hn, hb, hdi, hd, hD⟩ := id hs
  have h0 : ∀ M : fm_Mem, fm_up M (A + 170) 0 0 (A + 170) 0 = 0 := fun M => up_s
  have rp : ∀ M1, wRf (A + 170) M1 ((n, X, Y), (m, T), (d, D), fl, pu) h u v → rpt (A + 170) (fm_up M1 (A + 170) 0 0) v n X Y := fun M1 z => (rKs_K hs (wRf_th z 0).1).1
  have ex : ∀ M : fm_Mem, f_X7_isIn (iI x) 0 200 M = some (if 0 ≤ x ∧ x ≤ 200 then 1 else 0) := fun M => r_in 0 200 iI_0 iI_200 hx (by omega) (by omega)
  have ey : ∀ M : fm_Mem, f_X7_isIn (iI y) 0 200 M = some (if 0 ≤ y ∧ y ≤ 200 then 1 else 0) := fun M => r_in 0 200 iI_0 iI_200 hy (by omega) (by omega)
  unfold f_X6_move
  rw [k_need hC.1.1.1 hz]
  by_cases c1 : 0 ≤ z ∧ z < n
  · rw [if_pos c1, bx_r, k_place0 hx hy]
    obtain ⟨p, rfl⟩ : ∃ p : Nat, z = (p : Int) := ⟨z.toNat, by omega⟩
    have hp : p < n := by omega
    by_cases c2 : (0 ≤ x ∧ x ≤ 200) ∧ 0 ≤ y ∧ y ≤ 200
    · rw [if_pos c2, bx_r, k_find hC.1.1.1 hb hx hy, bd_s]
      have gf := gFi_r (fun p => decide (X p = x ∧ Y p = y)) n
      have pre : ∀ M1, wRf (A + 170) M1 ((n, X, Y), (m, T), (d, D), fl, pu) h u v → f_X7_move (A + 170) (iI (p : Int)) (iI x) (iI y) M1 = if iI (gFi (fun p => decide (X p = x ∧ Y p = y)) n) = -1 then f_X7_move_76 (A + 170) (iI (p : Int)) (iI x) (iI y) (fm_up M1 (A + 170) 0 0) else if iI (gFi (fun p => decide (X p = x ∧ Y p = y)) n) = iI (p : Int) then f_X7_move_76 (A + 170) (iI (p : Int)) (iI x) (iI y) (fm_up M1 (A + 170) 0 0) else f_X7_move_81 (A + 170) (iI (p : Int)) (iI x) (iI y) 0 (fm_up M1 (A + 170) 0 0) := fun M1 z => by
        unfold f_X7_move f_X7_move_46
        rw [r_isPoint (rp M1 z) hz, if_pos c1, bd_s, r_right1 (h0 M1), bd_s, if_neg (n1 _)]
        dsimp only
        rw [ex, if_pos c2.1, bd_s, if_neg n10, ey, if_pos c2.2, bd_s, if_neg n10, r_right1 (h0 M1), bd_s, if_neg (n1 _)]
        dsimp only
        rw [r_find (rp M1 z) hb hx hy, bd_s]
      -- the good case
      have good : (∀ j, j < n → j ≠ p → ¬ (X j = x ∧ Y j = y)) → (∀ M1, wRf (A + 170) M1 ((n, X, Y), (m, T), (d, D), fl, pu) h u v → f_X7_move (A + 170) (iI (p : Int)) (iI x) (iI y) M1 = f_X7_move_76 (A + 170) (iI (p : Int)) (iI x) (iI y) (fm_up M1 (A + 170) 0 0)) → chOk A k (fun e => if e = 2 then 1 else if e = 0 then 2 else 3) M (f_X6_move_44 A (iI (p : Int)) (iI x) (iI y) M) (fun M1 => f_X7_move (A + 170) (iI (p : Int)) (iI x) (iI y) M1) := fun hf hpre => by
        obtain ⟨M1, m1, w1, w6, w2⟩ := k_remember hC hu huc (by omega)
        obtain ⟨M2, m2, p1, p2⟩ := k_pput w1.1.1.1 hp x y
        have f4 : M2 (A + 20) 4 = iI pu := by rw [p2 _ (by omega)]; exact w1.1.1.2.2.2.2
        have f3 : M2 (A + 20) 3 = iI fl := by rw [p2 _ (by omega)]; exact w1.1.1.2.2.2.1
        have nb := mv_gbd (p := p) hb c2.1 c2.2
        have nd := mv_gDis (p := p) hdi hf
        obtain ⟨M3, m3, d', D', q1, q2, q3, q4⟩ := k_changed p1 nb nd f3 f4
        have hw3 : wCl A M3 ((n, (fun k => if k = p then x else X k), (fun k => if k = p then y else Y k)), (d', D'), (d', D'), fl, pu) (pushH ((n, X, Y), (m, T), (d, D), fl, pu) h) (c + 1) (min (u + 1) 8) := wCl_set w1 (fun b hb => by rw [q4 b (by omega), p2 b (by omega)]) q2 q3
        have sl : cPl (A + 42 + 16 * (c % 8)) M3 ((n, X, Y), (m, T), (d, D), fl, pu) := by
          have := hw3.2.2 0 (by omega)
          rw [show c + 1 - 1 - 0 = c by omega] at this
          exact this
        have m8 := Nat.mod_lt c (show 8 > 0 by decide)
        have e44 : f_X6_move_44 A (iI (p : Int)) (iI x) (iI y) M = some (.inr (iI ((gct (fun t => decide (¬ ∃ i, i < d ∧ D i = D' t)) d' : Nat) : Int), M3)) := by
          unfold f_X6_move_44
          rw [m1, bd_s, m2, bd_s, m3, bd_s, hw3.2.1, iI_1, iI_sub, show ((c + 1 : Nat) : Int) - 1 = (c : Int) by omega, k_past (by omega), bd_s, k_tbeyond q2.2.2.1 q1.2.2.2.2.1 hn sl.2.2.1 hD.1 hn, bd_s]
        have hR3 := wRf_hR3 (M' := M3) hR (fun b z => by rw [q4 b (by omega), p2 b (by omega), w2 b (by omega) (by omega)])
        obtain ⟨M4, m4, v1, v2⟩ := r_change (wRf_th hR3 0) hu
        have hv := v1.1.1.2
        have k4 := rKs_K hs v1.1
        obtain ⟨M5, m5, l1, l2, l3⟩ := rK_lay k4 hD
        have d35 := l1.2.2.2.1
        have kp := l3.1
        -- the copies
        have loop : pW (f_X7_move_107 (A + 170) (iI (p : Int)) (iI x) (iI y) fm_fuel (iI (d : Int)) (iI ((0 : Nat) : Int)) M5) (fun r => ∃ M8 M9 : fm_Mem, r = (iI ((gct (fun t => decide (¬ ∃ i, i < d ∧ D i = D' t)) d' : Nat) : Int), M9) ∧ rdu (A + 170) M9 n (fun k => if k = p then x else X k) (fun k => if k = p then y else Y k) d' D' ∧ rVs (A + 170) M9 ((v + 1) % 9) ((n, (fun k => if k = p then x else X k), (fun k => if k = p then y else Y k)), (d', D'), (d', D'), fl, pu) ∧ (∀ j, j < 200 * ((v + 1) % 9) ∨ 200 * ((v + 1) % 9) + 200 ≤ j → M9 (A + 170 + 1) j = M8 (A + 170 + 1) j) ∧ (∀ b j, (b ≠ A + 170 + 1 ∧ b ≠ A + 170 + 3 ∧ b ≠ A + 170 + 5 ∧ (b ≠ A + 170 ∨ (j ≠ 8 ∧ j ≠ 9))) → M9 b j = M8 b j) ∧ ∀ b j, b ≠ A + 170 + 4 → (b ≠ A + 170 + 1 ∨ j < 200 * ((v + 1) % 9) ∨ 200 * ((v + 1) % 9) + 200 ≤ j) → M8 b j = M5 b j) := by
          refine pW_lp (fun w i (M6 : fm_Mem) => f_X7_move_107 (A + 170) (iI (p : Int)) (iI x) (iI y) w (iI (d : Int)) (iI i) M6) (fun i M6 => (∀ b j, b ≠ A + 170 + 4 → M6 b j = M5 b j) ∧ ∀ t, t < i → M6 (A + 170 + 4) t = M5 (A + 170 + 3) t) (3 * d) ?_ fm_fuel 0 M5 ⟨fun _ _ _ => rfl, fun t ht => absurd ht (Nat.not_lt_zero t)⟩ (Nat.zero_le _) (by unfold fm_fuel; omega)
          intro w i M6 hi hI kk
          obtain ⟨f6, c6⟩ := hI
          rw [f_X7_move_107, iI_3, iI_mul]
          refine pW_if (fun q => ?_) (fun q => ?_)
          · rw [iI_le (by omega) (by omega)] at q
            have ei : i = 3 * d := by omega
            subst ei
            have rv6 : rvn (A + 170) M6 ((v + 1) % 9) := ⟨(f6 _ _ (by omega)).trans kp.1.1, hv⟩
            rw [iI_10, iI_2, iI_mul, iI_add, show (10 : Int) + 2 * (p : Int) = ((10 + 2 * p : Nat) : Int) by omega, r_put rv6 (by omega), bd_s, iI_s]
            have rv7 : rvn (A + 170) (fm_up M6 (A + 170 + 1) (200 * ((v + 1) % 9) + (10 + 2 * p)) (iI x)) ((v + 1) % 9) := ⟨(up_i (by omega)).trans rv6.1, hv⟩
            rw [r_put rv7 (by omega), bd_s]
            generalize hM8 : fm_up (fm_up M6 (A + 170 + 1) (200 * ((v + 1) % 9) + (10 + 2 * p)) (iI x)) (A + 170 + 1) (200 * ((v + 1) % 9) + (10 + 2 * p + 1)) (iI y) = M8 at *
            have f8 : ∀ b j, b ≠ A + 170 + 4 → (b ≠ A + 170 + 1 ∨ j < 200 * ((v + 1) % 9) ∨ 200 * ((v + 1) % 9) + 200 ≤ j) → M8 b j = M5 b j := fun b j z1 z2 => by
              rw [← hM8, up_i (by omega), up_i (by omega)]; exact f6 b j z1
            have g8 : ∀ j, j ≠ 200 * ((v + 1) % 9) + (10 + 2 * p) → j ≠ 200 * ((v + 1) % 9) + (10 + 2 * p + 1) → M8 (A + 170 + 1) j = M5 (A + 170 + 1) j := fun j z1 z2 => by
              rw [← hM8, up_i (by omega), up_i (by omega)]; exact f6 _ j (by omega)
            have rp8 : rpt (A + 170) M8 ((v + 1) % 9) n (fun k => if k = p then x else X k) (fun k => if k = p then y else Y k) := by
              refine ⟨⟨(f8 _ _ (by omega) (by omega)).trans kp.1.1, hv⟩, hn, (g8 _ (by omega) (by omega)).trans kp.2.2.1, fun j hj => ?_⟩
              dsimp only
              by_cases cj : j = p
              · subst cj
                rw [if_pos rfl, if_pos rfl, ← hM8]
                exact ⟨by rw [up_i (by omega)]; exact up_s, up_s⟩
              · rw [if_neg cj, if_neg cj, g8 _ (by omega) (by omega), g8 _ (by omega) (by omega)]
                exact kp.2.2.2 j hj
            obtain ⟨M9, m9, s1, s2, s3, s4⟩ := r_redraw rp8 nb nd q1.2.2.2.2 (rld_0 l3.2.2.1 (fun b j z => f8 b j (by omega) (by omega))) (fl := fl) (pu := pu) (by rw [g8 _ (by omega) (by omega), l2 _ _ (by omega)]; exact v1.1.2.1.2.2.1) (by rw [g8 _ (by omega) (by omega), l2 _ _ (by omega)]; exact v1.1.2.1.2.2.2)
            have bf : ∀ t, t < d → M9 (A + 170 + 4) (3 * t) = iI ((D t / 400 : Nat) : Int) ∧ M9 (A + 170 + 4) (3 * t + 1) = iI ((D t / 20 % 20 : Nat) : Int) ∧ M9 (A + 170 + 4) (3 * t + 2) = iI ((D t % 20 : Nat) : Int) := fun t ht => by
              have b8 : ∀ j, j < 3 * d → M9 (A + 170 + 4) j = M5 (A + 170 + 3) j := fun j hj => by
                rw [s4 _ _ (by omega), ← hM8, up_i (by omega), up_i (by omega)]; exact c6 j hj
              rw [b8 _ (by omega), b8 _ (by omega), b8 _ (by omega)]
              exact l1.2.2.2.2.2 t ht
            rw [m9, bd_s, r_unlike (by omega) (by have := s1.2.2.2.1; omega) (fun t ht => tV_lt hD.1 hn ht) (fun t ht => tV_lt q1.2.2.2.2.1 hn ht) s1.2.2.1 bf s1.2.2.2.2.2, bd_s]
            exact pW_some ⟨M8, M9, rfl, s1, s2, s3, s4, f8⟩
          · rw [iI_le (by omega) (by omega)] at q
            rw [in_t (show i < 120 by omega) (by omega), ck_t, ck_t, iI_nn (by omega), Int.toNat_natCast, iI_s, f6 (A + 170 + 3) _ (by omega)]
            refine kk _ (by omega) ⟨fun b j z => (up_i (by omega)).trans (f6 b j z), fun t ht => ?_⟩
            by_cases e : t = i
            · subst e; exact up_s
            · rw [up_i (by omega)]; exact c6 t (by omega)
        obtain ⟨r, er, M8, M9, rfl, s1, s2, s3, s4, f8⟩ := loop
        have f59 : ∀ b j, b ≠ A + 170 + 3 → b ≠ A + 170 + 4 → b ≠ A + 170 + 5 → (b ≠ A + 170 ∨ (j ≠ 8 ∧ j ≠ 9)) → (b ≠ A + 170 + 1 ∨ j < 200 * ((v + 1) % 9) ∨ 200 * ((v + 1) % 9) + 200 ≤ j) → M9 b j = M4 b j := fun b j z1 z2 z3 z4 z5 => by
          by_cases eb : b = A + 170 + 1
          · subst eb
            rw [s3 j (by omega), f8 _ _ (by omega) z5, l2 _ _ (by omega)]
          · rw [s4 b j (by omega), f8 _ _ (by omega) z5, l2 _ _ (by omega)]
        refine ch_r hw hk e44 (r1 := iI ((gct (fun t => decide (¬ ∃ i, i < d ∧ D i = D' t)) d' : Nat) : Int)) (M9 := M9) ?_ rfl ?_ q1 hw3 (fun b j z => ?_) (fun b j z => ?_) (wRf_set v1 (by omega) (f59 _ _ (by omega) (by omega) (by omega) (by omega) (by omega)) (f59 _ _ (by omega) (by omega) (by omega) (by omega) (by omega)) (fun j hj => f59 _ _ (by omega) (by omega) (by omega) (by omega) (by omega)) (rdu_ld hn nb s1) s2)
        · show f_X7_move (A + 170) (iI (p : Int)) (iI x) (iI y) M3 = _
          rw [hpre M3 hR3]
          unfold f_X7_move_76 f_X7_move_81
          rw [r_right1 (h0 M3), bd_s, if_neg (n1 _)]
          dsimp only
          rw [m4, bd_s, m5, bd_s, l1.2.2.1]
          exact er
        · rw [f59 _ _ (by omega) (by omega) (by omega) (by omega) (by omega), v2 _ _ (by omega)]
          exact up_s
        · show M3 b j = M b j
          rw [q4 b (by omega), p2 b (by omega)]
          by_cases eA : b = A
          · rw [eA, show j = 6 by omega]; exact w6
          · rw [w2 b eA (by omega)]
        · rw [f59 b j (by omega) (by omega) (by omega) (by omega) (by omega), v2 b j (by omega), up_i (by omega)]
      rcases gf with ⟨g1, g2⟩ | ⟨i, i1, i2, i3, i4⟩
      · rw [g1, if_pos (show iI (-1) < 0 by decide)]
        refine good (fun j hj _ zz => by have := g2 j hj; rw [decide_eq_true zz] at this; cases this) (fun M1 z1 => ?_)
        rw [pre M1 z1, g1, if_pos (by decide)]
      · by_cases ip : i = p
        · subst ip
          rw [i2, if_neg (by rw [iI_n0 (by omega)]; omega), if_pos rfl]
          refine good (fun j hj jn zz => jn ?_) (fun M1 z1 => ?_)
          · have w := of_decide_eq_true i3
            exact hdi j i hj i1 (zz.1.trans w.1.symm) (zz.2.trans w.2.symm)
          · rw [pre M1 z1, i2, if_neg (by rw [iI_em (by omega)]; omega), if_pos rfl]
        · rw [i2, if_neg (by rw [iI_n0 (by omega)]; omega), if_neg (by rw [iI_eq (by omega) (by omega)]; omega)]
          refine ch_l hw hk rfl (x := 0) ?_
          show f_X7_move (A + 170) (iI (p : Int)) (iI x) (iI y) M = _
          rw [pre M hR, i2, if_neg (by rw [iI_em (by omega)]; omega), if_neg (by rw [iI_eq (by omega) (by omega)]; omega)]
          unfold f_X7_move_81
          rw [r_right0 (h0 M) (by decide), bd_s, if_pos rfl]
          rfl
    · rw [if_neg c2, bx_l]
      refine ch_l hw hk rfl (x := 0) ?_
      show f_X7_move (A + 170) (iI (p : Int)) (iI x) (iI y) M = _
      unfold f_X7_move f_X7_move_45 f_X7_move_46 f_X7_move_53
      rw [r_isPoint (rp M hR) hz, if_pos c1, bd_s, r_right1 (h0 M), bd_s, if_neg (n1 _)]
      dsimp only
      rw [ex, bd_s]
      by_cases c3 : 0 ≤ x ∧ x ≤ 200
      · rw [if_pos c3, if_neg n10, ey, if_neg (fun z => c2 ⟨c3, z⟩), bd_s, if_pos rfl, r_right0 (h0 M) (by decide), bd_s, if_pos rfl]
        rfl
      · rw [if_neg c3, if_pos rfl, r_right0 (h0 M) (by decide), bd_s, if_pos rfl]
        rfl
  · rw [if_neg c1, bx_l]
    refine ch_l hw hk rfl (x := 0) ?_
    show f_X7_move (A + 170) (iI z) (iI x) (iI y) M = _
    unfold f_X7_move f_X7_move_53
    rw [r_isPoint (rp M hR) hz, if_neg c1, bd_s, r_right0 (h0 M) (by decide), bd_s, if_pos rfl]
    rfl
end MO
end
