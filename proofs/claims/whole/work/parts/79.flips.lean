section
/-! flips of a text, statements, the whole text: both sides in step -/
section FP
variable {P R v L j : Nat} {tx : Nat → Int32} {Mc Mr M M' Mc' Mr' : fm_Mem} {dr : Bool} {s : gPl} {code off : Int}
theorem ES_64 (h : ES P tx L code off M) (x : Int32) : pW (f_X5_readFlip_64 P x M) (fun M' => ES P tx L code off M' ∧ frCp P M M') := by
  have hc := h.2.2.1
  unfold f_X5_readFlip_64 f_X5_readFlip_84
  rw [hc.1, if_neg (show ¬ iI code = 0 by rw [iI_e0 (by omega)]; omega)]
  exact pW_bind (pW_mono (ES_adv h) (fun r z => pW_some z))
theorem L_flip {j0 e : Nat} (hx : cTx P Mc tx L) (hr : rTx R Mr tx L) (he : e ≤ L) (hj : j0 < e) (h4 : Mc P 4 = iI e) (h13 : Mr R 13 = iI e) (hE : Mc P 8 = iI 0 ∧ Mc P 9 = iI (-1) ∧ Mr R 14 = iI 0 ∧ Mr R 15 = iI (-1)) (hp : PL P R v true s Mc (fm_up Mr R 18 1)) : pW (f_X5_readFlip P Mc) (fun Mc' => pW (f_X7_readsFlip_11 R Mr) (fun r => OutP P R v tx L j0 Mc Mr Mc' r)) := by
  obtain ⟨⟨n, X, Y⟩, ⟨m, T⟩, ⟨d, D⟩, fl, pu⟩ := s
  obtain ⟨hn, hb, hdi, hd, hD, -⟩ := id hp.2.2.1
  unfold f_X5_readFlip f_X7_readsFlip_11
  have f18 : frRp R v Mr (fm_up Mr R 18 1) := fun b k z => up_i (by omega)
  have hr0 : rTx R (fm_up Mr R 18 1) tx L := rTx_fr hr (fun b k z => up_i (by omega))
  have h130 : fm_up Mr R 18 1 R 13 = iI e := (up_i (by omega)).trans h13
  have hE0 : Mc P 8 = iI 0 ∧ Mc P 9 = iI (-1) ∧ fm_up Mr R 18 1 R 14 = iI 0 ∧ fm_up Mr R 18 1 R 15 = iI (-1) := ⟨hE.1, hE.2.1, (up_i (by omega)).trans hE.2.2.1, (up_i (by omega)).trans hE.2.2.2⟩
  generalize hM0 : fm_up Mr R 18 1 = M0 at *
  obtain ⟨Mc1, e1, j1, ej1, cs1, fT1⟩ := CS_next hx hr0 he h4 h130 hE0
  have hp1 : PL P R v true ((n, X, Y), (m, T), (d, D), fl, pu) Mc1 M0 := PL_fr hp (fun b k z => fT1 b k (by omega)) (fun _ _ _ => rfl)
  have rp0 : rpt R M0 v n X Y := ⟨hp1.2.1.1, hp1.2.1.2.1.1⟩
  rw [e1, bd_s, k_size hp1.1.1, bd_s, r_points rp0, bd_s, iI_1, iI_sub]
  obtain ⟨Mc2, e2, ⟨v2, Mr2⟩, er2, out2⟩ := L_num cs1 (PL_pts hp1) (g := (n : Int) - 1) (by omega)
  rw [e2, bd_s]
  rw [show (0 : Int32) = iI 0 from rfl] at er2
  rw [show f_X7_reads R 0 (iI ((n : Int) - 1)) M0 = some (v2, Mr2) from er2, bd_s]
  dsimp only at out2 ⊢
  rcases out2 with ⟨rfl, rfl, e', x, hx', ⟨jL, je, eL⟩, ⟨c4, c7⟩, ⟨r16, r17, r13, r14, r15⟩, fS2⟩ | ⟨code, es, rfl, r14, r15, fC, fS2⟩
  · have hp2 : PL P R v true ((n, X, Y), (m, T), (d, D), fl, pu) Mc2 Mr2 := PL_fr hp1 (fun b k _ => rfl) fS2
    have rp2 : rpt R Mr2 v n X Y := ⟨hp2.2.1.1, hp2.2.1.2.1.1⟩
    have hr2 : rTx R Mr2 tx L := rTx_fr hr0 (fun b k z => fS2 b k (by omega))
    obtain ⟨Mc3, e3, j2, ej2, cs2, fT3⟩ := CS_next cs1.2.2.2.1 hr2 eL c4 r13 ⟨cs1.2.2.1.1, cs1.2.2.1.2.1, r14, r15⟩
    have hp3 : PL P R v true ((n, X, Y), (m, T), (d, D), fl, pu) Mc3 Mr2 := PL_fr hp2 (fun b k z => fT3 b k (by omega)) (fun _ _ _ => rfl)
    obtain ⟨Mc4, e4, ⟨v4, Mr4⟩, er4, out4⟩ := L_num cs2 (PL_pts hp3) (g := (n : Int) - 1) (by omega)
    rw [if_neg n10, e3, bd_s, e4, bd_s, r_points rp2, bd_s, iI_sub, show f_X7_reads R 0 (iI ((n : Int) - 1)) Mr2 = some (v4, Mr4) from er4, bd_s]
    dsimp only at out4 ⊢
    rcases out4 with ⟨rfl, rfl, e'', y, hy', ⟨jL2, je2, eL2⟩, ⟨c42, c72⟩, ⟨r162, r172, r132, r142, r152⟩, fS4⟩ | ⟨code, es, rfl, r142, r152, fC4, fS4⟩
    · obtain ⟨p, rfl⟩ : ∃ p : Nat, x = (p : Int) := ⟨x.toNat, by omega⟩
      obtain ⟨q, rfl⟩ : ∃ q : Nat, y = (q : Int) := ⟨y.toNat, by omega⟩
      have hpn : p < n := by omega
      have hqn : q < n := by omega
      have hp4 : PL P R v true ((n, X, Y), (m, T), (d, D), fl, pu) Mc4 Mr4 := PL_fr hp3 (fun b k _ => rfl) fS4
      have rp4 : rpt R Mr4 v n X Y := ⟨hp4.2.1.1, hp4.2.1.2.1.1⟩
      have rt4 : rtr R Mr4 v m T := ⟨hp4.2.1.1, hp4.2.1.2.1.2.1⟩
      have hr4 : rTx R Mr4 tx L := rTx_fr hr2 (fun b k z => fS4 b k (by omega))
      have rr : -1 ≤ gRef X Y m T p q ∧ gRef X Y m T p q ≤ 3 := by unfold gRef; repeat (first | omega | split)
      rw [if_neg n10, cs2.2.2.1.1, if_pos (show iI 0 = 0 by decide), c7, c72, r16, r162, k_ref hp4.1.1 hp4.1.2.1 hb hd.1 hpn hqn, bd_s, r_why rp4 rt4 hb hd.1 (fun p q h1 h2 => gDr_2 hd hn h1 h2) hpn hqn, bd_s]
      dsimp only
      simp (disch := omega) only [iI_e0]
      by_cases c : gRef X Y m T p q = 0
      · rw [if_pos c, if_pos c]
        unfold f_X5_readFlip_64 f_X5_readFlip_84
        rw [cs2.2.2.1.1, if_pos (show iI 0 = 0 by decide), c72]
        obtain ⟨⟨x5, M5⟩, m5, T', t1, t2, t3, t4, t5, t6, t7⟩ := k_flip hp4.1.2.1 hb hdi hn hd hpn hqn c
        dsimp only at t3 t4 t5 t6 t7
        obtain ⟨⟨x6, M6⟩, m6, T'', s1, s2, s3, s4, s5, s6⟩ := r_flips rt4 hb hdi hn hd hpn hqn c hp4.2.1.2.1.2.2.1
        dsimp only at s3 s4 s5 s6
        have ee := gFl_eq t1 s1
        rw [m5, bd_s, r162, m6, bd_s]
        dsimp only
        have fS6 : ∀ b k, (b ≠ R + 1) → M6 b k = Mr4 b k := fun b k z => s6 b k (by omega)
        have hr6 : rTx R M6 tx L := rTx_fr hr4 (fun b k z => fS6 b k (by omega))
        have fp5 : frCp P Mc4 M5 := fun b k z => by rw [t7 b (by omega) (by omega)]
        have P5 : ∀ k, M5 P k = Mc4 P k := fun k => by rw [t7 P (by omega) (by omega)]
        obtain ⟨Mc7, e7, j3, ej3, cs3, fT7⟩ := CS_next (Mc := M5) (cTx_fr cs2.2.2.2.1 fp5) hr6 eL2 ((P5 _).trans c42) ((fS6 _ _ (by omega)).trans r132) ⟨(P5 _).trans cs2.2.2.1.1, (P5 _).trans cs2.2.2.1.2.1, (fS6 _ _ (by omega)).trans r142, (fS6 _ _ (by omega)).trans r152⟩
        have g12 : 100 * gE1 m T p q + gE2 m T p q < 100000 := by
          have h2 : eN m T p q = 2 := by
            refine Classical.byContradiction fun z => ?_
            unfold gRef at c
            rw [if_neg z] at c
            split at c <;> omega
          obtain ⟨a1, a2, -⟩ := gE_two h2
          omega
        rw [e7, bd_s, s3, if_neg (show ¬ iI ((100 * gE1 m T p q + gE2 m T p q : Nat) : Int) < 0 by rw [iI_n0 (by omega)]; omega)]
        unfold f_X7_readsFlip_95
        rw [show fm_bo (iI 1) = true by decide, ck_t]
        have c7f : ∀ b, b ≠ P → Mc7 b = M5 b := fun b hb' => by funext k; exact fT7 b k (Or.inl hb')
        have hp7 : PL P R v true ((n, X, Y), (m, T'), (d, D), fl + 1, pu) Mc7 M6 := by
          obtain ⟨⟨p0, p2, p3, p5, p6⟩, ⟨k1, k2, k3⟩, -, k5, k6'⟩ := hp4
          refine ⟨⟨cpt_fr p0 (fun b a b' => by rw [c7f b (by omega), t7 b (by omega) (by omega)]), cMs_fr t4 (fun b a b' => c7f b (by omega)), cMs_fr p3 (fun b a b' => by rw [c7f b (by omega), t7 b (by omega) (by omega)]), by rw [c7f _ (by omega), t5, p5, iI_1, iI_add], by rw [c7f _ (by omega), t6 4 (by omega)]; exact p6⟩, ⟨⟨(fS6 _ _ (by omega)).trans k1.1, k1.2⟩, ?_, rld_0 k3 (fun b k z => fS6 b k (by omega))⟩, ⟨hn, hb, hdi, t2, hD, fun z => (by cases z)⟩, by rw [fT7 _ _ (by omega), P5]; exact k5, (fS6 _ _ (by omega)).trans k6'⟩
          obtain ⟨⟨b1, b2, b3⟩, ⟨b4, b5, b6⟩, b7, b8⟩ := k2
          have r4' := rtr_cong s4 (fun i hi => (ee i hi).symm)
          exact ⟨⟨b1, (s6 _ _ (by omega)).trans b2, fun k hk => by rw [s6 _ _ (by omega), s6 _ _ (by omega)]; exact b3 k hk⟩, r4'.2, s5, (s6 _ _ (by omega)).trans b8⟩
        exact pW_some (pW_some ⟨⟨frCp_t (frCp_T fT1) (frCp_t (frCp_T fT3) (frCp_t fp5 (frCp_T fT7))), frRp_t f18 (frRp_t (frRp_S (frS_t fS2 fS4)) (fun b k z => s6 b k (by omega)))⟩, Or.inl ⟨j3, true, _, by omega, cs3, hp7, (show ¬ iI 1 = 0 by decide)⟩⟩)
      · rw [if_neg c, if_neg c]
        obtain ⟨Mc5, e5, es, f5⟩ := CS_fail cs2 (PL_pts hp3) (c := -6) (by omega)
        obtain ⟨Mr5, g1, g2, g3, g4⟩ := r_fail2 (R := R) (c := -6) r142 (o := j2) rfl
        rw [i_m6, e5, bd_s, r172, g1, bd_s]
        dsimp only
        rw [bo_0, ck_t]
        exact pW_mono (ES_64 es _) (fun Mc6 z => pW_some ⟨⟨frCp_t (frCp_T fT1) (frCp_t (frCp_T fT3) (frCp_t f5 z.2)), frRp_t f18 (frRp_S (frS_t fS2 (frS_t fS4 g4)))⟩, Or.inr ⟨-6, j2, z.1, rfl, g2, g3, rvn_S hp4.2.1.1 g4, rld_S hp4.2.1.2.2 g4⟩⟩)
    · have hc8 := es.2.2.1
      rw [if_pos rfl, hc8.1, if_neg (show ¬ iI code = 0 by rw [iI_e0 (by omega)]; omega)]
      exact pW_mono (ES_64 es _) (fun Mc6 z => pW_some ⟨⟨frCp_t (frCp_T fT1) (frCp_t (frCp_T fT3) (frCp_t fC4 z.2)), frRp_t f18 (frRp_S (frS_t fS2 fS4))⟩, Or.inr ⟨code, j2, z.1, rfl, r142, r152, rvn_S hp3.2.1.1 fS4, rld_S hp3.2.1.2.2 fS4⟩⟩)
  · rw [if_pos rfl]
    obtain ⟨Mc3, e3, es3, f3⟩ := ES_adv es
    have hc8 := es3.2.2.1
    rw [e3, bd_s, ES_num es3, bd_s, hc8.1, if_neg (show ¬ iI code = 0 by rw [iI_e0 (by omega)]; omega)]
    exact pW_mono (ES_64 es3 _) (fun Mc6 z => pW_some ⟨⟨frCp_t (frCp_T fT1) (frCp_t fC (frCp_t f3 z.2)), frRp_t f18 (frRp_S fS2)⟩, Or.inr ⟨code, j1, z.1, rfl, r14, r15, rvn_S hp1.2.1.1 fS2, rld_S hp1.2.1.2.2 fS2⟩⟩)
/-- the drawing is made -/
theorem L_draw (hp : PL P R v false s Mc Mr) : pW (f_X2_renew (P + 3) (fm_up Mc P 10 1)) (fun Mc' => pW (f_X7_drawsAnew R Mr) (fun Mr' => ∃ s', gOkP s' ∧ cPl (P + 3) Mc' s' ∧ (rvn R Mr' v ∧ rVs R Mr' v s' ∧ rld R Mr') ∧ wOk true s' ∧ Mc' P 10 = iI 1 ∧ (∀ b k, (b ≤ P ∨ b = P + 1 ∨ b = P + 2 ∨ P + 19 ≤ b) → (b ≠ P ∨ k ≠ 10) → Mc' b k = Mc b k) ∧ ∀ b k, (b ≠ R + 1 ∧ b ≠ R + 3 ∧ b ≠ R + 5 ∧ (b ≠ R ∨ (k ≠ 8 ∧ k ≠ 9))) ∨ (b = R + 1 ∧ (k < 200 * v ∨ 200 * v + 200 ≤ k)) → Mr' b k = Mr b k)) := by
  obtain ⟨⟨n, X, Y⟩, ⟨m, T⟩, ⟨d, D⟩, fl, pu⟩ := s
  obtain ⟨⟨p0, p2, p3, p5, p6⟩, ⟨k1, k2, k3⟩, ⟨hn, hb, hdi, -, -, -⟩, k5, k6⟩ := hp
  obtain ⟨Mc', e, d', D', a1, a2, a3, a4⟩ := k_renew (P := P + 3) (M := fm_up Mc P 10 1) (cpt_fr p0 (fun b a b' => up_ne (by omega))) hb hdi
  obtain ⟨Mr', e', s1, s2, s3, s4⟩ := r_redraw ⟨k1, k2.1⟩ hb hdi a1 k3 k2.2.2.1 k2.2.2.2
  have g : gOkP ((n, X, Y), (d', D'), (d', D'), fl, pu) := ⟨hn, hb, hdi, dueL_Dr hn hdi a1, a1⟩
  refine pW_of e (pW_of e' ⟨((n, X, Y), (d', D'), (d', D'), fl, pu), g, ⟨cpt_fr p0 (fun b a b' => by rw [a4 b (by omega), up_ne (by omega)]), a2, a3, ?_, ?_⟩, ⟨⟨(s4 _ _ (by omega)).trans k1.1, k1.2⟩, s2, rdu_ld hn hb s1⟩, ⟨hn, hb, hdi, g.2.2.2.1, fun _ => a1, fun z => (by cases z)⟩, ?_, fun b k z y => ?_, fun b k z => ?_⟩)
  · rw [a4 _ (by omega), up_i (by omega)]; exact p5
  · rw [a4 _ (by omega), up_i (by omega)]; exact p6
  · rw [a4 _ (by omega), up_s]; rfl
  · rw [a4 b (by omega), up_i (by omega)]
  · rcases z with z | z
    · exact s4 b k z
    · rw [z.1]; exact s3 k z.2
end FP
end
