section
/-! mend, undo, move, by both sides -/
def unOk (A k : Nat) (M : fm_Mem) (oc : Option (Int32 × fm_Mem)) (rf : fm_Mem → Option (Int32 × fm_Mem)) : Prop := ∃ x M1 r, oc = some (x, M1) ∧ rf M1 = some r ∧ r.1 = x ∧ wW A r.2 k ∧ frW A M r.2
section MV
variable {A R c u v k : Nat} {M M' : fm_Mem} {s : gPl} {h : Nat → gPl}
theorem q_mend (hw : wI A M s h c u v) (hk : c ≤ k) (hk6 : k < 600) (a : Int32) : chOk A k (fun _ => 1) M (f_X6_mend A a M) (fun M1 => f_X7_mend (A + 170) a M1) := by
  obtain ⟨z, hz, rfl⟩ := i_ex a
  obtain ⟨hs, hh, ⟨hu, huc⟩, hC, hR⟩ := id hw
  obtain ⟨⟨n, X, Y⟩, ⟨m, T⟩, ⟨d, D⟩, fl, pu⟩ := s
  obtain ⟨hn, hb, hdi, hd, hD⟩ := id hs
  have h0 : ∀ M : fm_Mem, fm_up M (A + 170) 0 0 (A + 170) 0 = 0 := fun M => up_s
  have ei : ∀ M : fm_Mem, f_X7_isIn (iI z) 1 500 M = some (if 1 ≤ z ∧ z ≤ 500 then 1 else 0) := fun M => r_in 1 500 iI_1 (by decide) hz (by omega) (by omega)
  unfold f_X6_mend f_X6_mend_12
  by_cases c1 : 1 ≤ z ∧ z ≤ 500
  · obtain ⟨a, rfl⟩ : ∃ a : Nat, z = (a : Int) := ⟨z.toNat, by omega⟩
    rw [if_neg (by rw [iI_1, iI_lt (by omega) (by omega)]; omega), if_pos (by rw [show (500 : Int32) = iI 500 by decide, iI_le (by omega) (by omega)]; omega)]
    obtain ⟨M1, m1, w1, w6, w2⟩ := k_remember hC hu huc (by omega)
    obtain ⟨x0, m0, z0, rfl, g0⟩ := k_fbad w1.1.1.1 w1.1.1.2.1 hb hd.1
    obtain ⟨o, m2, i, M2, rfl, st1, t2, t4, t5, t6, t7⟩ := k_mend w1.1.1.1 w1.1.1.2.1 hb hdi hd w1.1.1.2.2.2.1 (show a ≤ 500 by omega) g0
    rw [m1, bd_s, m0, bd_s, m2]
    have cpl : cPl (A + 20) M2 ((n, X, Y), (m, mT n X Y m T i), (d, D), fl + i, pu) := ⟨cpt_fr w1.1.1.1 (fun b p q => t7 b (by omega) (by omega)), t4, cMs_fr w1.1.1.2.2.1 (fun b p q => t7 b (by omega) (by omega)), t5, t6.trans w1.1.1.2.2.2.2⟩
    have fr2 : ∀ b, b < A + 20 ∨ A + 41 ≤ b → M2 b = M1 b := fun b hb => t7 b (by omega) (by omega)
    have hl : cHl (A + 36) M2 n X Y := cHl_fr w1.1.2.1 (fun b p q => t7 b (by omega) (by omega))
    have hw3 : wCl A M2 ((n, X, Y), (m, mT n X Y m T i), (d, D), fl + i, pu) (pushH ((n, X, Y), (m, T), (d, D), fl, pu) h) (c + 1) (min (u + 1) 8) := wCl_set w1 fr2 cpl hl
    have hR3 := wRf_hR3 (M' := M2) hR (fun b z => by rw [fr2 b (by omega), w2 b (by omega) (by omega)])
    obtain ⟨M4, m4, v1, v2⟩ := r_change (wRf_th hR3 0) hu
    have k4 := rKs_K hs v1.1
    obtain ⟨⟨x5, M5⟩, m5, y1, z5, y2, g5⟩ := r_fbad k4.1 k4.2.1 hb hd.1
    dsimp only at y1 y2
    subst y1 y2
    have ez := gFB_eq g5 g0
    subst ez
    obtain ⟨o, m6, i', M6, rfl, st2, r4, r5, r6⟩ := r_mend k4.1 k4.2.1 hb hdi hd v1.1.2.1.2.2.1 (show a ≤ 500 by omega) g5
    have ii := mStop_eq st1 st2
    subst ii
    have f5 : ∀ b j, b ≠ A + 170 + 1 ∨ j < 200 * ((v + 1) % 9) ∨ 200 * ((v + 1) % 9) + 200 ≤ j → M6 b j = M5 b j := fun b j z => r6 b j (by omega)
    have rv : rVs (A + 170) M6 ((v + 1) % 9) ((n, X, Y), (m, mT n X Y m T i), (d, D), fl + i, pu) := by
      have b4 := v1.1.2.1
      obtain ⟨⟨h1, h2, h3⟩, ⟨h4, h5, h6⟩, h7, h8⟩ := b4
      exact ⟨⟨h1, (r6 _ _ (by omega)).trans h2, fun k hk => by rw [r6 _ _ (by omega), r6 _ _ (by omega)]; exact h3 k hk⟩, r4.2, r5, (r6 _ _ (by omega)).trans h8⟩
    refine ch_r hw hk rfl (r1 := iI ((i : Nat) : Int)) (M9 := M6) ?_ rfl ?_ ⟨hn, hb, hdi, t2, hD⟩ hw3 (fun b j z => ?_) (fun b j z => ?_) (wRf_frm v1 (by omega) f5 rv)
    · show f_X7_mend (A + 170) (iI (a : Int)) M2 = _
      unfold f_X7_mend
      rw [ei, if_pos c1, bd_s, r_right1 (h0 M2), bd_s, if_neg (n1 _)]
      dsimp only
      rw [m4, bd_s, m5, bd_s]
      exact m6
    · rw [f5 _ _ (by omega), v2 _ _ (by omega)]
      exact up_s
    · show M2 b j = M b j
      rw [t7 b (by omega) (by omega)]
      by_cases eA : b = A
      · rw [eA, show j = 6 by omega]; exact w6
      · rw [w2 b eA (by omega)]
    · rw [f5 b j (by omega), v2 b j (by omega), up_i (by omega)]
  · refine ch_l hw hk (e := 0) ?_ (x := 0) ?_
    · by_cases c2 : z < 1
      · rw [if_pos (by rw [iI_1, iI_lt (by omega) (by omega)]; exact c2)]
      · rw [if_neg (by rw [iI_1, iI_lt (by omega) (by omega)]; exact c2), if_neg (by rw [show (500 : Int32) = iI 500 by decide, iI_le (by omega) (by omega)]; omega)]
    · show f_X7_mend (A + 170) (iI z) M = _
      unfold f_X7_mend
      rw [ei, if_neg c1, bd_s, r_right0 (h0 M) (by decide), bd_s, if_pos rfl]
theorem q_undo (hw : wI A M s h c u v) (hk : c ≤ k) (hk6 : k < 600) : unOk A k M (f_X6_undo A M) (fun M1 => f_X7_undo (A + 170) M1) := by
  obtain ⟨hs, hh, ⟨hu, huc⟩, hC, hR⟩ := id hw
  have h0 : ∀ M : fm_Mem, fm_up M (A + 170) 0 0 (A + 170) 0 = 0 := fun M => up_s
  have e5 := hC.1.2.2
  have e4 := hC.2.1
  unfold f_X6_undo
  by_cases c0 : u = 0
  · subst c0
    rw [if_pos (by rw [e5]; rfl)]
    refine ⟨_, M, (-1, fm_up M (A + 170) 0 0), rfl, ?_, rfl, ⟨s, h, c, 0, v, hk, wI_q hw (fun b j z => up_i (by omega)) (hR.1.up (j := 0) _ (by omega))⟩, fun b j z => up_i (by omega)⟩
    show f_X7_undo (A + 170) M = _
    unfold f_X7_undo
    rw [if_pos (by rw [up_i (by omega), hR.1.2.2.2]; rfl)]
  · have g5 : ∀ x : Int32, fm_up (fm_up M A 5 x) A 4 (fm_up M A 5 x A 4 - 1) A 4 = iI ((c - 1 : Nat) : Int) := fun x => by
      rw [up_s, up_i (by omega), e4, iI_1, iI_sub, show (c : Int) - 1 = ((c - 1 : Nat) : Int) by omega]
    rw [if_neg (by rw [e5, iI_e0 (by omega)]; omega), g5, k_past (by omega), bd_s, e5, iI_1, iI_sub, show (u : Int) - 1 = ((u - 1 : Nat) : Int) by omega]
    have m8 := Nat.mod_lt (c - 1) (show 8 > 0 by decide)
    generalize hM1 : fm_up (fm_up M A 5 (iI ((u - 1 : Nat) : Int))) A 4 (fm_up M A 5 (iI ((u - 1 : Nat) : Int)) A 4 - iI 1) = M1 at *
    have f1 : ∀ b, b ≠ A → M1 b = M b := fun b hb => by rw [← hM1, up_ne hb, up_ne hb]
    have a5 : M1 A 5 = iI ((u - 1 : Nat) : Int) := by rw [← hM1, up_i (by omega), up_s]
    have a4 : M1 A 4 = iI ((c - 1 : Nat) : Int) := by
      rw [← hM1, up_s, up_i (by omega), e4, iI_sub, show (c : Int) - 1 = ((c - 1 : Nat) : Int) by omega]
    have a6 : M1 A 6 = M A 6 := by rw [← hM1, up_i (by omega), up_i (by omega)]
    have q0 : cPl (A + 42 + 16 * ((c - 1) % 8)) M1 (h 0) := cPl_L (hC.2.2 0 (by omega)) (fun b p q => f1 b (by omega))
    obtain ⟨M2, m2, b1, b2⟩ := k_pcpy (P := A + 20) q0 (by omega)
    have g0 := hh 0 (by omega)
    obtain ⟨M3, m3, d1, d2⟩ := k_hrenew (P := A + 36) (R := A + 20 + 1) (M := M2) (n := (h 0).1.1) (X := (h 0).1.2.1) (Y := (h 0).1.2.2) b1.1 g0.2.1 g0.2.2.1 (by omega)
    rw [m2, bd_s, m3, bd_s]
    have s3 : ∀ b, b < A + 20 ∨ A + 41 ≤ b → M3 b = M1 b := fun b hb => by rw [d2 b (by omega), b2 b (by omega)]
    have a53 : M3 A 5 = iI ((u - 1 : Nat) : Int) := by rw [s3 A (by omega)]; exact a5
    have hw3 : wCl A M3 (h 0) (fun j => h (j + 1)) (c - 1) (u - 1) := by
      refine ⟨⟨cPl_L b1 (fun b p q => d2 b (by omega)), d1, a53⟩, by rw [s3 A (by omega)]; exact a4, fun j hj => ?_⟩
      have m9 := Nat.mod_lt (c - 1 - 1 - j) (show 8 > 0 by decide)
      have := hC.2.2 (j + 1) (by omega)
      rw [show c - 1 - (j + 1) = c - 1 - 1 - j by omega] at this
      exact cPl_L this (fun b p q => by rw [s3 b (by omega), f1 b (by omega)])
    have hR3 := wRf_hR3 (M' := M3) hR (fun b z => by rw [s3 b (by omega), f1 b (by omega)])
    have hv := hR3.1.1.2
    have hR4 := wRf_th hR3 0
    have r4 := hR4.1.2.2.2
    have r3 := hR4.1.1.1
    have er : f_X7_undo (A + 170) M3 = some (iI ((u - 1 : Nat) : Int), fm_up (fm_up (fm_up M3 (A + 170) 0 0) (A + 170) 4 (iI ((u - 1 : Nat) : Int))) (A + 170) 3 (iI (((v + 8) % 9 : Nat) : Int))) := by
      unfold f_X7_undo
      have x3 : ∀ y : Int32, fm_up (fm_up M3 (A + 170) 0 0) (A + 170) 4 y (A + 170) 3 = iI v := fun y => by rw [up_i (by omega)]; exact r3
      rw [r4, if_neg (by rw [iI_e0 (by omega)]; omega), x3, show (9 : Int32) = iI ((9 : Nat) : Int) by decide, iI_1, iI_sub, iI_add, iI_sub, show (u : Int) - 1 = ((u - 1 : Nat) : Int) by omega, show (v : Int) + ((9 : Nat) : Int) - 1 = ((v + 8 : Nat) : Int) by omega, iI_rem (by omega) (by omega), up_i (by omega), up_s]
    have m9 := Nat.mod_lt (v + 8) (show 9 > 0 by decide)
    generalize hM4 : fm_up (fm_up (fm_up M3 (A + 170) 0 0) (A + 170) 4 (iI ((u - 1 : Nat) : Int))) (A + 170) 3 (iI (((v + 8) % 9 : Nat) : Int)) = M4 at *
    have f4 : ∀ b j, b ≠ A + 170 ∨ (j ≠ 0 ∧ j ≠ 3 ∧ j ≠ 4) → M4 b j = M3 b j := fun b j z => by rw [← hM4, up_i (by omega), up_i (by omega), up_i (by omega)]
    refine ⟨_, M3, (_, M4), rfl, er, a53.symm, ⟨h 0, fun j => h (j + 1), c - 1, u - 1, (v + 8) % 9, by omega, g0, fun j hj => hh (j + 1) (by omega), by omega, wCl_fr hw3 (fun b p q => by funext j; exact f4 b j (by omega)) (f4 _ _ (by omega)) (f4 _ _ (by omega)), ⟨⟨?_, by omega⟩, ?_, ?_, ?_⟩, fun j hj => ?_⟩, fun b j z => ?_⟩
    · rw [← hM4]; exact up_s
    · have := hR3.2 0 (by omega)
      exact rVs_L this (fun i p q => f4 _ _ (by omega))
    · exact rld_0 hR3.1.2.2.1 (fun b j z => f4 b j (by omega))
    · show M4 (A + 170) 4 = _
      rw [← hM4, up_i (by omega)]; exact up_s
    · have := hR3.2 (j + 1) (by omega)
      rw [show ((v + 8) % 9 + 8 - j) % 9 = (v + 8 - (j + 1)) % 9 by omega]
      exact rVs_L this (fun i p q => f4 _ _ (by omega))
    · show M4 b j = M b j
      rw [f4 b j (by omega), s3 b (by omega)]
      by_cases eA : b = A
      · rw [eA, show j = 6 by omega]; exact a6
      · rw [f1 b eA]
/-- the due triangles that were none before -/
theorem r_unlike {d d' : Nat} {D D' : Nat → Nat} (hd : d ≤ 40) (hd' : d' ≤ 40) (h8 : ∀ t, t < d → D t < 8000) (h8' : ∀ t, t < d' → D' t < 8000) (e8 : M R 8 = iI d') (hb : ∀ t, t < d → M (R + 4) (3 * t) = iI ((D t / 400 : Nat) : Int) ∧ M (R + 4) (3 * t + 1) = iI ((D t / 20 % 20 : Nat) : Int) ∧ M (R + 4) (3 * t + 2) = iI ((D t % 20 : Nat) : Int)) (ha : ∀ t, t < d' → M (R + 3) (3 * t) = iI ((D' t / 400 : Nat) : Int) ∧ M (R + 3) (3 * t + 1) = iI ((D' t / 20 % 20 : Nat) : Int) ∧ M (R + 3) (3 * t + 2) = iI ((D' t % 20 : Nat) : Int)) : f_X7_unlike R (iI d) M = some (iI ((gct (fun t => decide (¬ ∃ i, i < d ∧ D i = D' t)) d' : Nat) : Int)) := by
  unfold f_X7_unlike
  rw [show f_X7_unlike_4 R (iI d) fm_fuel 0 0 M = f_X7_unlike_4 R (iI d) fm_fuel (iI ((0 : Nat) : Int)) (iI ((0 : Nat) : Int)) M from rfl]
  refine pW_eq (pW_lp (fun u t (x : Nat) => f_X7_unlike_4 R (iI d) u (iI x) (iI t) M) (fun t x => x = gct (fun t => decide (¬ ∃ i, i < d ∧ D i = D' t)) t) d' ?_ fm_fuel 0 0 rfl (Nat.zero_le _) (by unfold fm_fuel; omega))
  intro u t x ht hI k
  have hx := gct_bd (fun t => decide (¬ ∃ i, i < d ∧ D i = D' t)) t
  rw [f_X7_unlike_4, e8]
  refine pW_if (fun q => ?_) (fun q => ?_)
  · rw [iI_le (by omega) (by omega)] at q
    have e : t = d' := by omega
    subst e
    exact pW_some (by rw [hI])
  · rw [iI_le (by omega) (by omega)] at q
    have htd : t < d' := by omega
    obtain ⟨a1, a2, a3⟩ := ha t htd
    have h8t := h8' t htd
    rw [show f_X7_unlike_18 R (iI d) (fun x2 x3 M => f_X7_unlike_4 R (iI d) u x2 x3 M) fm_fuel (iI x) (iI t) 1 0 M = f_X7_unlike_18 R (iI d) (fun x2 x3 M => f_X7_unlike_4 R (iI d) u x2 x3 M) fm_fuel (iI x) (iI t) (if true then 1 else 0) (iI ((0 : Nat) : Int)) M from rfl]
    refine pW_lp (fun w o (b : Bool) => f_X7_unlike_18 R (iI d) (fun x2 x3 M => f_X7_unlike_4 R (iI d) u x2 x3 M) w (iI x) (iI t) (if b then 1 else 0) (iI o) M) (fun o b => b = true ↔ ¬ ∃ i, i < o ∧ D i = D' t) d ?_ fm_fuel 0 true ⟨fun _ ⟨i, hi, _⟩ => absurd hi (Nat.not_lt_zero i), fun _ => rfl⟩ (Nat.zero_le _) (by unfold fm_fuel; omega)
    intro w o b ho hJ kk
    have eb : ((if b = true then (1 : Int32) else 0) = 0) = (b = false) := by cases b <;> simp
    rw [f_X7_unlike_18]
    refine pW_if (fun q2 => ?_) (fun q2 => ?_)
    · rw [iI_le (by omega) (by omega)] at q2
      have e : o = d := by omega
      subst e
      unfold f_X7_unlike_121
      refine pW_if (fun q3 => ?_) (fun q3 => ?_)
      · rw [eb] at q3
        rw [iI_p0, iI_s]
        exact k x htd (by rw [gct_s, ← hI, decide_eq_false (fun z => by have := hJ.mpr z; rw [q3] at this; cases this)]; rfl)
      · rw [eb] at q3
        have bt : b = true := by cases b with | true => rfl | false => exact absurd rfl q3
        rw [iI_s, iI_s]
        exact k (x + 1) htd (by rw [gct_s, ← hI, decide_eq_true (hJ.mp bt)]; rfl)
    · rw [iI_le (by omega) (by omega)] at q2
      have hod : o < d := by omega
      unfold f_X7_unlike_101 f_X7_unlike_97 f_X7_unlike_102
      rw [iI_s]
      have no : (b = false ∨ D o = D' t) → pW (f_X7_unlike_18 R (iI d) (fun x2 x3 M => f_X7_unlike_4 R (iI d) u x2 x3 M) w (iI x) (iI t) 0 (iI ((o + 1 : Nat) : Int)) M) (fun r => r = iI ((gct (fun t => decide (¬ ∃ i, i < d ∧ D i = D' t)) d' : Nat) : Int)) := fun z => kk false hod ⟨fun e => (by cases e), fun e => by
        rcases z with z | z
        · have := hJ.mpr (fun ⟨i, hi, ei⟩ => e ⟨i, by omega, ei⟩)
          rw [z] at this; cases this
        · exact absurd ⟨o, by omega, z⟩ e⟩
      have yes : b = true → D o ≠ D' t → pW (f_X7_unlike_18 R (iI d) (fun x2 x3 M => f_X7_unlike_4 R (iI d) u x2 x3 M) w (iI x) (iI t) 1 (iI ((o + 1 : Nat) : Int)) M) (fun r => r = iI ((gct (fun t => decide (¬ ∃ i, i < d ∧ D i = D' t)) d' : Nat) : Int)) := fun z1 z2 => kk true hod ⟨fun _ ⟨i, hi, ei⟩ => by
        by_cases e : i = o
        · subst e; exact z2 ei
        · exact hJ.mp z1 ⟨i, by omega, ei⟩, fun _ => rfl⟩
      refine pW_if (fun q3 => ?_) (fun q3 => ?_)
      · rw [eb] at q3
        exact no (Or.inl q3)
      · rw [eb] at q3
        have bt : b = true := by cases b with | true => rfl | false => exact absurd rfl q3
        obtain ⟨b1, b2, b3⟩ := hb o hod
        have h8o := h8 o hod
        rw [iI_3, iI_mul, iI_mul, iI_1, iI_2, iI_add, iI_add, iI_add, iI_add, show (3 : Int) * (o : Int) = ((3 * o : Nat) : Int) by omega, show (3 : Int) * (t : Int) = ((3 * t : Nat) : Int) by omega, show ((3 * o : Nat) : Int) + 1 = ((3 * o + 1 : Nat) : Int) by omega, show ((3 * o : Nat) : Int) + 2 = ((3 * o + 2 : Nat) : Int) by omega, show ((3 * t : Nat) : Int) + 1 = ((3 * t + 1 : Nat) : Int) by omega, show ((3 * t : Nat) : Int) + 2 = ((3 * t + 2 : Nat) : Int) by omega]
        simp (disch := omega) only [in_t, ck_t, iI_nn, Int.toNat_natCast, b1, b2, b3, a1, a2, a3, iI_eq]
        refine pW_if (fun y1 => pW_if (fun y2 => pW_if (fun y3 => no (Or.inr (by omega))) (fun y3 => yes bt (by omega))) (fun y2 => yes bt (by omega))) (fun y1 => yes bt (by omega))
theorem mv_gbd {n : Nat} {X Y : Nat → Int} {p : Nat} {x y : Int} (hb : gbd n X Y) (hx : 0 ≤ x ∧ x ≤ 200) (hy : 0 ≤ y ∧ y ≤ 200) : gbd n (fun k => if k = p then x else X k) (fun k => if k = p then y else Y k) := fun k hk => by
  dsimp only
  by_cases c : k = p
  · rw [if_pos c, if_pos c]; exact ⟨hx, hy⟩
  · rw [if_neg c, if_neg c]; exact hb k hk
theorem mv_gDis {n : Nat} {X Y : Nat → Int} {p : Nat} {x y : Int} (hd : gDis n X Y) (hf : ∀ j, j < n → j ≠ p → ¬ (X j = x ∧ Y j = y)) : gDis n (fun k => if k = p then x else X k) (fun k => if k = p then y else Y k) := fun i j hi hj e1 e2 => by
  dsimp only at e1 e2
  by_cases c : i = p
  · by_cases c2 : j = p
    · omega
    · rw [if_pos c, if_neg c2] at e1 e2
      exact absurd ⟨e1.symm, e2.symm⟩ (hf j hj c2)
  · by_cases c2 : j = p
    · rw [if_neg c, if_pos c2] at e1 e2
      exact absurd ⟨e1, e2⟩ (hf i hi c)
    · rw [if_neg c, if_neg c2] at e1 e2
      exact hd i j hi hj e1 e2
end MV
end
