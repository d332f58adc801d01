section
/-! take, flip, mend, undo, by both sides -/
section TK
variable {A R c u v k : Nat} {M M' : fm_Mem} {s : gPl} {h : Nat → gPl}
theorem wRf_hR3 (hR : wRf (A + 170) M s h u v) (f : ∀ b, A + 170 ≤ b → M' b = M b) : wRf (A + 170) M' s h u v := wRf_fr hR (fun b p q => f b p)
theorem cut_gbd {n : Nat} {X Y : Nat → Int} {p : Nat} (hb : gbd n X Y) : gbd (n - 1) (fun k => if k < p then X k else X (k + 1)) (fun k => if k < p then Y k else Y (k + 1)) := fun k hk => by
  dsimp only
  by_cases c : k < p
  · rw [if_pos c, if_pos c]; exact hb k (by omega)
  · rw [if_neg c, if_neg c]; exact hb (k + 1) (by omega)
theorem cut_gDis {n : Nat} {X Y : Nat → Int} {p : Nat} (hd : gDis n X Y) : gDis (n - 1) (fun k => if k < p then X k else X (k + 1)) (fun k => if k < p then Y k else Y (k + 1)) := fun i j hi hj e1 e2 => by
  dsimp only at e1 e2
  by_cases c : i < p
  · by_cases c2 : j < p
    · rw [if_pos c, if_pos c2] at e1 e2; exact hd i j (by omega) (by omega) e1 e2
    · rw [if_pos c, if_neg c2] at e1 e2; have := hd i (j + 1) (by omega) (by omega) e1 e2; omega
  · by_cases c2 : j < p
    · rw [if_neg c, if_pos c2] at e1 e2; have := hd (i + 1) j (by omega) (by omega) e1 e2; omega
    · rw [if_neg c, if_neg c2] at e1 e2; have := hd (i + 1) (j + 1) (by omega) (by omega) e1 e2; omega
theorem cO_e (X Y : Nat → Int) (j : Nat) : cO X Y (2 * j) = X j := by
  unfold cO
  rw [if_pos (by omega), show 2 * j / 2 = j by omega]
theorem cO_o (X Y : Nat → Int) (j : Nat) : cO X Y (2 * j + 1) = Y j := by
  unfold cO
  rw [if_neg (by omega), show (2 * j + 1) / 2 = j by omega]
theorem q_take (hw : wI A M s h c u v) (hk : c ≤ k) (hk6 : k < 600) (a : Int32) : chOk A k (fun _ => 1) M (f_X6_take A a M) (fun M1 => f_X7_take (A + 170) a M1) := by
  obtain ⟨z, hz, rfl⟩ := i_ex a
  obtain ⟨hs, hh, ⟨hu, huc⟩, hC, hR⟩ := id hw
  obtain ⟨⟨n, X, Y⟩, ⟨m, T⟩, ⟨d, D⟩, fl, pu⟩ := s
  obtain ⟨hn, hb, hdi, hd, hD⟩ := id hs
  have h0 : ∀ M : fm_Mem, fm_up M (A + 170) 0 0 (A + 170) 0 = 0 := fun M => up_s
  have rp : ∀ M1, wRf (A + 170) M1 ((n, X, Y), (m, T), (d, D), fl, pu) h u v → rpt (A + 170) (fm_up M1 (A + 170) 0 0) v n X Y := fun M1 z => (rKs_K hs (wRf_th z 0).1).1
  by_cases c1 : 0 ≤ z ∧ z < n
  · obtain ⟨p, rfl⟩ : ∃ p : Nat, z = (p : Int) := ⟨z.toNat, by omega⟩
    have hp : p < n := by omega
    obtain ⟨M1, m1, w1, w6, w2⟩ := k_remember hC hu huc (by omega)
    obtain ⟨M2, m2, p1, p2⟩ := k_prem w1.1.1.1 hp
    have f4 : M2 (A + 20) 4 = iI pu := by rw [p2 _ (by omega)]; exact w1.1.1.2.2.2.2
    have f3 : M2 (A + 20) 3 = iI fl := by rw [p2 _ (by omega)]; exact w1.1.1.2.2.2.1
    have nb := cut_gbd (p := p) hb
    have nd := cut_gDis (p := p) hdi
    obtain ⟨M3, m3, d', D', q1, q2, q3, q4⟩ := k_changed p1 nb nd f3 f4
    have hw3 : wCl A M3 ((n - 1, (fun k => if k < p then X k else X (k + 1)), (fun k => if k < p then Y k else Y (k + 1))), (d', D'), (d', D'), fl, pu) (pushH ((n, X, Y), (m, T), (d, D), fl, pu) h) (c + 1) (min (u + 1) 8) := wCl_set w1 (fun b hb => by rw [q4 b (by omega), p2 b (by omega)]) q2 q3
    have hR3 := wRf_hR3 (M' := M3) hR (fun b z => by rw [q4 b (by omega), p2 b (by omega), w2 b (by omega) (by omega)])
    obtain ⟨M4, m4, v1, v2⟩ := r_change (wRf_th hR3 0) hu
    have hv := v1.1.1.2
    have kp := (rKs_K hs v1.1).1
    have co4 : ∀ t, t < 2 * n → M4 (A + 170 + 1) (200 * ((v + 1) % 9) + (10 + t)) = iI (cO X Y t) := fun t ht => r_co kp ht
    have loop : pW (f_X7_take_28 (A + 170) (iI (p : Int)) fm_fuel (iI ((2 * p : Nat) : Int)) M4) (fun r => ∃ M8 M9 : fm_Mem, r = (iI d', M9) ∧ rdu (A + 170) M9 (n - 1) (fun k => if k < p then X k else X (k + 1)) (fun k => if k < p then Y k else Y (k + 1)) d' D' ∧ rVs (A + 170) M9 ((v + 1) % 9) ((n - 1, (fun k => if k < p then X k else X (k + 1)), (fun k => if k < p then Y k else Y (k + 1))), (d', D'), (d', D'), fl, pu) ∧ (∀ j, j < 200 * ((v + 1) % 9) ∨ 200 * ((v + 1) % 9) + 200 ≤ j → M9 (A + 170 + 1) j = M8 (A + 170 + 1) j) ∧ (∀ b j, (b ≠ A + 170 + 1 ∧ b ≠ A + 170 + 3 ∧ b ≠ A + 170 + 5 ∧ (b ≠ A + 170 ∨ (j ≠ 8 ∧ j ≠ 9))) → M9 b j = M8 b j) ∧ ∀ b j, (b ≠ A + 170 + 1 ∨ j < 200 * ((v + 1) % 9) ∨ 200 * ((v + 1) % 9) + 200 ≤ j) → M8 b j = M4 b j) := by
      refine pW_lp (fun x i (M5 : fm_Mem) => f_X7_take_28 (A + 170) (iI (p : Int)) x (iI ((2 * p + i : Nat) : Int)) M5) (fun i M5 => (∀ b j, (b ≠ A + 170 + 1 ∨ j < 200 * ((v + 1) % 9) + 10 ∨ 200 * ((v + 1) % 9) + 50 ≤ j) → M5 b j = M4 b j) ∧ ∀ t, t < 2 * n → M5 (A + 170 + 1) (200 * ((v + 1) % 9) + (10 + t)) = iI (if 2 * p ≤ t ∧ t < 2 * p + i then cO X Y (t + 2) else cO X Y t)) (2 * n - 2 - 2 * p) ?_ fm_fuel 0 M4 ⟨fun _ _ _ => rfl, fun t ht => by rw [if_neg (by omega)]; exact co4 t ht⟩ (Nat.zero_le _) (by unfold fm_fuel; omega)
      intro x i M5 hi hI kk
      obtain ⟨f5, c5⟩ := hI
      have rv5 : rvn (A + 170) M5 ((v + 1) % 9) := ⟨(f5 _ _ (by omega)).trans kp.1.1, hv⟩
      have ep : f_X7_points (A + 170) M5 = some (iI n) := by
        unfold f_X7_points
        rw [show (0 : Int32) = iI ((0 : Nat) : Int) from rfl, r_get rv5 (by omega), bd_s, f5 _ _ (by omega)]
        exact congrArg some kp.2.2.1
      rw [f_X7_take_28, ep, bd_s, iI_2, iI_mul, iI_add]
      refine pW_if (fun q => ?_) (fun q => ?_)
      · rw [iI_le (by omega) (by omega)] at q
        have ei : i = 2 * n - 2 - 2 * p := by omega
        subst ei
        rw [bd_s, iI_1, iI_sub, show (0 : Int32) = iI ((0 : Nat) : Int) from rfl, r_put rv5 (show 0 < 200 by omega), bd_s, show (n : Int) - 1 = ((n - 1 : Nat) : Int) by omega]
        generalize hM8 : fm_up M5 (A + 170 + 1) (200 * ((v + 1) % 9) + 0) (iI ((n - 1 : Nat) : Int)) = M8 at *
        have f8 : ∀ b j, (b ≠ A + 170 + 1 ∨ j < 200 * ((v + 1) % 9) ∨ 200 * ((v + 1) % 9) + 200 ≤ j) → M8 b j = M4 b j := fun b j z => by
          rw [← hM8, up_i (by omega)]; exact f5 b j (by omega)
        have rp8 : rpt (A + 170) M8 ((v + 1) % 9) (n - 1) (fun k => if k < p then X k else X (k + 1)) (fun k => if k < p then Y k else Y (k + 1)) := by
          refine ⟨⟨(f8 _ _ (by omega)).trans kp.1.1, hv⟩, by omega, by rw [← hM8]; exact up_s, fun j hj => ?_⟩
          dsimp only
          rw [← hM8, up_i (by omega), up_i (by omega), show 10 + 2 * j + 1 = 10 + (2 * j + 1) by omega, c5 _ (by omega), c5 _ (by omega)]
          by_cases cj : j < p
          · rw [if_pos cj, if_pos cj, if_neg (show ¬ (2 * p ≤ 2 * j ∧ 2 * j < 2 * p + (2 * n - 2 - 2 * p)) by omega), if_neg (show ¬ (2 * p ≤ 2 * j + 1 ∧ 2 * j + 1 < 2 * p + (2 * n - 2 - 2 * p)) by omega), cO_e, cO_o]
            exact ⟨rfl, rfl⟩
          · rw [if_neg cj, if_neg cj, if_pos (show 2 * p ≤ 2 * j ∧ 2 * j < 2 * p + (2 * n - 2 - 2 * p) by omega), if_pos (show 2 * p ≤ 2 * j + 1 ∧ 2 * j + 1 < 2 * p + (2 * n - 2 - 2 * p) by omega), show 2 * j + 2 = 2 * (j + 1) by omega, show 2 * j + 1 + 2 = 2 * (j + 1) + 1 by omega, cO_e, cO_o]
            exact ⟨rfl, rfl⟩
        obtain ⟨M9, m9, s1, s2, s3, s4⟩ := r_redraw rp8 nb nd q1.2.2.2.2 (rld_0 v1.1.2.2.1 (fun b j z => f8 b j (by omega))) (fl := fl) (pu := pu) (by rw [← hM8, up_i (by omega), f5 _ _ (by omega)]; exact v1.1.2.1.2.2.1) (by rw [← hM8, up_i (by omega), f5 _ _ (by omega)]; exact v1.1.2.1.2.2.2)
        rw [m9, bd_s, s1.2.2.1]
        exact pW_some ⟨M8, M9, rfl, s1, s2, s3, s4, f8⟩
      · rw [iI_le (by omega) (by omega)] at q
        rw [iI_10, iI_add, iI_add, show (10 : Int) + ((2 * p + i : Nat) : Int) + 2 = ((10 + (2 * p + i + 2) : Nat) : Int) by omega, r_get rv5 (by omega), bd_s, show (10 : Int) + ((2 * p + i : Nat) : Int) = ((10 + (2 * p + i) : Nat) : Int) by omega, r_put rv5 (by omega), bd_s, iI_s]
        refine kk _ (by omega) ⟨fun b j z => (up_i (by omega)).trans (f5 b j z), fun t ht => ?_⟩
        by_cases e : t = 2 * p + i
        · subst e
          rw [up_s, c5 _ (by omega), if_neg (by omega), if_pos (by omega)]
        · rw [up_i (by omega), c5 t ht]
          by_cases c7 : 2 * p ≤ t ∧ t < 2 * p + i
          · rw [if_pos c7, if_pos (by omega)]
          · rw [if_neg c7, if_neg (by omega)]
    obtain ⟨r, er, M8, M9, rfl, s1, s2, s3, s4, f8⟩ := loop
    have st : ∀ b j, b < A + 170 ∨ b = A + 176 ∨ (b = A + 170 ∧ (j = 11 ∨ j = 15)) → M9 b j = M3 b j := fun b j z => by
      rw [s4 b j (by omega), f8 b j (by omega), v2 b j (by omega), up_i (by omega)]
    unfold f_X6_take
    rw [k_need hC.1.1.1 hz, if_pos c1, bx_r, m1, bd_s, m2, bd_s, m3, bd_s, k_msize q2.2.2.1, bd_s]
    refine ch_r hw hk rfl (r1 := iI d') (M9 := M9) ?_ rfl ?_ q1 hw3 (fun b j z => ?_) st (wRf_set v1 (by omega) (by rw [s4 _ _ (by omega), f8 _ _ (by omega)]) (by rw [s4 _ _ (by omega), f8 _ _ (by omega)]) (fun j hj => by rw [s3 j (by omega), f8 _ _ (by omega)]) (rdu_ld (show n - 1 ≤ 20 by omega) nb s1) s2)
    · show f_X7_take (A + 170) (iI (p : Int)) M3 = _
      unfold f_X7_take
      rw [r_isPoint (rp M3 hR3) hz, if_pos c1, bd_s, r_right1 (h0 M3), bd_s, if_neg (n1 _)]
      dsimp only
      rw [m4, bd_s, iI_2, iI_mul, show (2 : Int) * (p : Int) = ((2 * p : Nat) : Int) by omega, er]
    · rw [s4 _ _ (by omega), f8 _ _ (by omega), v2 _ _ (by omega)]
      exact up_s
    · rw [q4 b (by omega), p2 b (by omega)]
      by_cases eA : b = A
      · rw [eA, show j = 6 by omega]; exact w6
      · rw [w2 b eA (by omega)]
  · unfold f_X6_take
    rw [k_need hC.1.1.1 hz, if_neg c1, bx_l]
    refine ch_l hw hk rfl (x := 0) ?_
    show f_X7_take (A + 170) (iI z) M = _
    unfold f_X7_take
    rw [r_isPoint (rp M hR) hz, if_neg c1, bd_s, r_right0 (h0 M) (by decide), bd_s, if_pos rfl]
theorem wRf_frm {s' : gPl} {M9 M4 : fm_Mem} (hw : wRf R M4 s h u v) (hu : u ≤ 8) (f : ∀ b j, b ≠ R + 1 ∨ j < 200 * v ∨ 200 * v + 200 ≤ j → M9 b j = M4 b j) (h1 : rVs R M9 v s') : wRf R M9 s' h u v := wRf_set hw hu (f _ _ (by omega)) (f _ _ (by omega)) (fun j hj => f _ _ (by omega)) (rld_0 hw.1.2.2.1 (fun b j z => f b j (by omega))) h1
theorem q_flip (hw : wI A M s h c u v) (hk : c ≤ k) (hk6 : k < 600) (a b : Int32) : chOk A k (fun e => if e = 2 then 1 else 2) M (f_X6_flip A a b M) (fun M1 => f_X7_flip (A + 170) a b M1) := by
  obtain ⟨z1, hz1, rfl⟩ := i_ex a
  obtain ⟨z2, hz2, rfl⟩ := i_ex b
  obtain ⟨hs, hh, ⟨hu, huc⟩, hC, hR⟩ := id hw
  obtain ⟨⟨n, X, Y⟩, ⟨m, T⟩, ⟨d, D⟩, fl, pu⟩ := s
  obtain ⟨hn, hb, hdi, hd, hD⟩ := id hs
  have h0 : ∀ M : fm_Mem, fm_up M (A + 170) 0 0 (A + 170) 0 = 0 := fun M => up_s
  have rp : ∀ M1, wRf (A + 170) M1 ((n, X, Y), (m, T), (d, D), fl, pu) h u v → rK (A + 170) (fm_up M1 (A + 170) 0 0) v n X Y m T := fun M1 z => rKs_K hs (wRf_th z 0).1
  unfold f_X6_flip
  rw [k_need hC.1.1.1 hz1]
  by_cases c1 : 0 ≤ z1 ∧ z1 < n
  · rw [if_pos c1, bx_r, k_need hC.1.1.1 hz2]
    by_cases c2 : 0 ≤ z2 ∧ z2 < n
    · rw [if_pos c2, bx_r]
      obtain ⟨p, rfl⟩ : ∃ p : Nat, z1 = (p : Int) := ⟨z1.toNat, by omega⟩
      obtain ⟨q, rfl⟩ : ∃ q : Nat, z2 = (q : Int) := ⟨z2.toNat, by omega⟩
      have hp : p < n := by omega
      have hq : q < n := by omega
      have pre : ∀ M1, wRf (A + 170) M1 ((n, X, Y), (m, T), (d, D), fl, pu) h u v → f_X7_flip (A + 170) (iI (p : Int)) (iI (q : Int)) M1 = if iI (gRef X Y m T p q) = 0 then f_X7_flip_49 (A + 170) (iI (p : Int)) (iI (q : Int)) 1 (fm_up M1 (A + 170) 0 0) else f_X7_flip_49 (A + 170) (iI (p : Int)) (iI (q : Int)) 0 (fm_up M1 (A + 170) 0 0) := fun M1 z => by
        have kK := rp M1 z
        unfold f_X7_flip f_X7_flip_27
        rw [r_isPoint kK.1 hz1, if_pos c1, bd_s, if_neg n10, r_isPoint kK.1 hz2, if_pos c2, bd_s, if_neg n10, r_right1 (h0 M1), bd_s, if_neg (n1 _)]
        dsimp only
        rw [r_why kK.1 kK.2.1 hb kK.hv (fun p q h1 h2 => gDr_2 hd hn h1 h2) hp hq, bd_s]
      have rr : -1 ≤ gRef X Y m T p q ∧ gRef X Y m T p q ≤ 3 := by unfold gRef; repeat (first | omega | split)
      rw [k_ref hC.1.1.1 hC.1.1.2.1 hb hd.1 hp hq, bd_s]
      by_cases c3 : gRef X Y m T p q = 0
      · have e3 : iI (gRef X Y m T p q) = 0 := by rw [c3]; rfl
        rw [if_pos e3]
        obtain ⟨M1, m1, w1, w6, w2⟩ := k_remember hC hu huc (by omega)
        obtain ⟨⟨x2, M2⟩, m2, T', t1, t2, t3, t4, t5, t6, t7⟩ := k_flip w1.1.1.2.1 hb hdi hn hd hp hq c3
        dsimp only at t3 t4 t5 t6 t7
        rw [m1, bd_s, m2, bd_s]
        have cpl : cPl (A + 20) M2 ((n, X, Y), (m, T'), (d, D), fl + 1, pu) := ⟨cpt_fr w1.1.1.1 (fun b p q => t7 b (by omega) (by omega)), t4, cMs_fr w1.1.1.2.2.1 (fun b p q => t7 b (by omega) (by omega)), by rw [t5, w1.1.1.2.2.2.1, iI_1, iI_add], by rw [t6 4 (by omega)]; exact w1.1.1.2.2.2.2⟩
        have fr2 : ∀ b, b < A + 20 ∨ A + 41 ≤ b → M2 b = M1 b := fun b hb => t7 b (by omega) (by omega)
        have hl : cHl (A + 36) M2 n X Y := cHl_fr w1.1.2.1 (fun b p q => t7 b (by omega) (by omega))
        have hw3 : wCl A M2 ((n, X, Y), (m, T'), (d, D), fl + 1, pu) (pushH ((n, X, Y), (m, T), (d, D), fl, pu) h) (c + 1) (min (u + 1) 8) := wCl_set w1 fr2 cpl hl
        have hR3 := wRf_hR3 (M' := M2) hR (fun b z => by rw [fr2 b (by omega), w2 b (by omega) (by omega)])
        obtain ⟨M4, m4, v1, v2⟩ := r_change (wRf_th hR3 0) hu
        have k4 := rKs_K hs v1.1
        obtain ⟨⟨x5, M5⟩, m5, T'', r1, r2, r3, r4, r5, r6⟩ := r_flips k4.2.1 hb hdi hn hd hp hq c3 v1.1.2.1.2.2.1
        dsimp only at r3 r4 r5 r6
        have ee := gFl_eq t1 r1
        have f5 : ∀ b j, b ≠ A + 170 + 1 ∨ j < 200 * ((v + 1) % 9) ∨ 200 * ((v + 1) % 9) + 200 ≤ j → M5 b j = M4 b j := fun b j z => r6 b j (by omega)
        have rv : rVs (A + 170) M5 ((v + 1) % 9) ((n, X, Y), (m, T'), (d, D), fl + 1, pu) := by
          have b4 := v1.1.2.1
          obtain ⟨⟨h1, h2, h3⟩, ⟨h4, h5, h6⟩, h7, h8⟩ := b4
          have r4' := rtr_cong r4 (fun i hi => (ee i hi).symm)
          exact ⟨⟨h1, (r6 _ _ (by omega)).trans h2, fun k hk => by rw [r6 _ _ (by omega), r6 _ _ (by omega)]; exact h3 k hk⟩, r4'.2, r5, (r6 _ _ (by omega)).trans h8⟩
        refine ch_r hw hk rfl (r1 := x2) (M9 := M5) ?_ rfl ?_ ⟨hn, hb, hdi, t2, hD⟩ hw3 (fun b j z => ?_) (fun b j z => ?_) (wRf_frm v1 (by omega) f5 rv)
        · show f_X7_flip (A + 170) (iI (p : Int)) (iI (q : Int)) M2 = _
          rw [pre M2 hR3, if_pos e3]
          unfold f_X7_flip_49
          rw [r_right1 (h0 M2), bd_s, if_neg (n1 _)]
          dsimp only
          rw [m4, bd_s, m5, bd_s]
          dsimp only
          rw [r3, t3]
        · rw [f5 _ _ (by omega), v2 _ _ (by omega)]
          exact up_s
        · show M2 b j = M b j
          rw [t7 b (by omega) (by omega)]
          by_cases eA : b = A
          · rw [eA, show j = 6 by omega]; exact w6
          · rw [w2 b eA (by omega)]
        · rw [f5 b j (by omega), v2 b j (by omega), up_i (by omega)]
      · have e3 : ¬ iI (gRef X Y m T p q) = 0 := by rw [iI_e0 (by omega)]; exact c3
        rw [if_neg e3]
        refine ch_l hw hk rfl (x := 0) ?_
        show f_X7_flip (A + 170) (iI (p : Int)) (iI (q : Int)) M = _
        rw [pre M hR, if_neg e3]
        unfold f_X7_flip_49 f_X7_flip_56
        rw [r_right0 (h0 M) (by decide), bd_s, if_pos rfl]
        rfl
    · rw [if_neg c2, bx_l]
      refine ch_l hw hk rfl (x := 0) ?_
      show f_X7_flip (A + 170) (iI z1) (iI z2) M = _
      unfold f_X7_flip f_X7_flip_26 f_X7_flip_27 f_X7_flip_56
      rw [r_isPoint (rp M hR).1 hz1, if_pos c1, bd_s, if_neg n10, r_isPoint (rp M hR).1 hz2, if_neg c2, bd_s, if_pos rfl, r_right0 (h0 M) (by decide), bd_s, if_pos rfl]
      rfl
  · rw [if_neg c1, bx_l]
    refine ch_l hw hk rfl (x := 0) ?_
    show f_X7_flip (A + 170) (iI z1) (iI z2) M = _
    unfold f_X7_flip f_X7_flip_26 f_X7_flip_27 f_X7_flip_56
    rw [r_isPoint (rp M hR).1 hz1, if_neg c1, bd_s, if_pos rfl, r_right0 (h0 M) (by decide), bd_s, if_pos rfl]
    rfl
end TK
end
