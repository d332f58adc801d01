section
/-! places of a text, both sides in step -/
theorem gDr_0 (n : Nat) (X Y : Nat → Int) (T : Nat → Nat) : gDr n X Y 0 T := ⟨⟨fun i j _ h2 => absurd h2 (Nat.not_lt_zero j), fun i hi => absurd hi (Nat.not_lt_zero i)⟩, ⟨fun t d => by obtain ⟨i, hi, -⟩ := d; exact absurd hi (Nat.not_lt_zero i), fun t t' d => by obtain ⟨i, hi, -⟩ := d; exact absurd hi (Nat.not_lt_zero i)⟩⟩
section PP
variable {P R v L j : Nat} {tx : Nat → Int32} {Mc Mr M M' Mc' Mr' : fm_Mem} {dr : Bool} {s : gPl} {code off : Int} {k6 : Int32 → fm_Mem → Option fm_Mem} {x1 x2 : Int32}
theorem OutP_t {j1 : Nat} {Mc1 Mr1 : fm_Mem} {r : Int32 × fm_Mem} (h : OutP P R v tx L j1 Mc1 Mr1 Mc' r) (hj : j ≤ j1) (f : frCp P Mc Mc1) (g : frRp R v Mr Mr1) : OutP P R v tx L j Mc Mr Mc' r := by
  refine ⟨⟨frCp_t f h.1.1, frRp_t g h.1.2⟩, ?_⟩
  rcases h.2 with ⟨j', dr, s, a, b⟩ | z
  · exact Or.inl ⟨j', dr, s, by omega, b⟩
  · exact Or.inr z
theorem ES_122 (h : ES P tx L code off M) (hk : ∀ M', ES P tx L code off M' → pW (k6 (x1 + 1) M') (fun M'' => ES P tx L code off M'' ∧ frCp P M' M'')) : pW (f_X5_readPlaces_122 P k6 x1 M) (fun M'' => ES P tx L code off M'' ∧ frCp P M M'') := by
  unfold f_X5_readPlaces_122
  refine pW_bind (pW_mono (ES_adv h) (fun M1 z => pW_mono (hk M1 z.1) (fun M2 y => ⟨y.1, frCp_t z.2 y.2⟩)))
theorem ES_100 (h : ES P tx L code off M) (hk : ∀ M', ES P tx L code off M' → pW (k6 (x1 + 1) M') (fun M'' => ES P tx L code off M'' ∧ frCp P M' M'')) : pW (f_X5_readPlaces_100 P k6 x1 x2 M) (fun M'' => ES P tx L code off M'' ∧ frCp P M M'') := by
  have hc := h.2.2.1
  unfold f_X5_readPlaces_100
  rw [hc.1, if_neg (by rw [iI_e0 (by omega)]; omega)]
  exact ES_122 h hk
theorem ES_find (h : ES P tx L code off M) (a b : Int32) : ∃ z, f_X3_find (P + 3 + 1) a b M = some z := by
  obtain ⟨n, X, Y, h1, h2⟩ := h.2.2.2
  obtain ⟨x, hx, rfl⟩ := i_ex a
  obtain ⟨y, hy, rfl⟩ := i_ex b
  exact ⟨_, k_find h1 h2 hx hy⟩
theorem ES_60b (h : ES P tx L code off M) (a b : Int32) (hk : ∀ M', ES P tx L code off M' → pW (k6 (x1 + 1) M') (fun M'' => ES P tx L code off M'' ∧ frCp P M' M'')) : pW (Option.bind (f_X3_find (P + 3 + 1) a b M) (fun v3 => if v3 < 0 then f_X5_readPlaces_100 P k6 x1 a M else Option.bind (f_X5_fail P (-4 : Int32) M) (fun v4 => f_X5_readPlaces_100 P k6 x1 a v4))) (fun M'' => ES P tx L code off M'' ∧ frCp P M M'') := by
  obtain ⟨z, e⟩ := ES_find h a b
  rw [e, bd_s, ES_fail h, bd_s]
  exact pW_if (fun _ => ES_100 h hk) (fun _ => ES_100 h hk)
theorem ES_60 (h : ES P tx L code off M) (hk : ∀ M', ES P tx L code off M' → pW (k6 (x1 + 1) M') (fun M'' => ES P tx L code off M'' ∧ frCp P M' M'')) : pW (f_X5_readPlaces_60 P k6 x1 M) (fun M'' => ES P tx L code off M'' ∧ frCp P M M'') := by
  unfold f_X5_readPlaces_60
  refine pW_bind (pW_mono (ES_adv h) (fun M1 z => ?_))
  rw [ES_num z.1, bd_s]
  exact pW_mono (ES_60b z.1 _ _ hk) (fun M2 y => ⟨y.1, frCp_t z.2 y.2⟩)
theorem ES_6 (uc : Nat) (h : ES P tx L code off M) (x : Int32) : pW (f_X5_readPlaces_6 P (uc + 1) x M) (fun M'' => ES P tx L code off M'' ∧ frCp P M M'') := by
  have hc := h.2.2.1
  rw [f_X5_readPlaces_6]
  unfold f_X5_readPlaces_132
  rw [hc.1, if_neg (show ¬ iI code = 0 by rw [iI_e0 (by omega)]; omega)]
  exact pW_if (fun _ => pW_some ⟨h, frCp_r⟩) (fun _ => pW_some ⟨h, frCp_r⟩)
theorem i_m4 : (-4 : Int32) = iI (-4) := by decide
theorem i_m5 : (-5 : Int32) = iI (-5) := by decide
theorem i_m6 : (-6 : Int32) = iI (-6) := by decide
theorem r_fail2 (h : M R 14 = iI 0) {c : Int} {y : Int32} {o : Nat} (ho : y = iI (o : Int)) : ∃ M', f_X7_fails R (iI c) y M = some (0, M') ∧ M' R 14 = iI c ∧ M' R 15 = iI (o : Int) ∧ frS R M M' := ⟨_, r_fails h _ _, by rw [up_i (by omega), up_s], by rw [up_s]; exact ho, fun b k z => by rw [up_i (by omega), up_i (by omega)]⟩
theorem L_places (a1 : Int32) (w : Nat) : ∀ (uc ur i j n : Nat) (X Y : Nat → Int) (m : Nat) (T : Nat → Nat) (d : Nat) (D : Nat → Nat) (fl pu : Int) (Mc Mr : fm_Mem), 21 - n ≤ w → w ≤ uc → w ≤ ur → i ≤ n → CS P R tx L j Mc Mr → PL P R v false ((n, X, Y), (m, T), (d, D), fl, pu) Mc Mr → pW (f_X5_readPlaces_32 P (fun x1 M => f_X5_readPlaces_6 P uc x1 M) (iI i) Mc) (fun Mc' => pW (f_X7_readsPoints_15 R a1 (ur + 1) Mr) (fun r => OutP P R v tx L j Mc Mr Mc' r)) := by
  induction w with
  | zero =>
    intro uc ur i j n X Y m T d D fl pu Mc Mr h1 h2 h3 h4 hc hp
    have := hp.2.2.1.1
    omega
  | succ w ih =>
    intro uc ur i j n X Y m T d D fl pu Mc Mr h1 h2 h3 h4 hc hp
    obtain ⟨u', rfl⟩ : ∃ u', uc = u' + 1 := ⟨uc - 1, by omega⟩
    obtain ⟨t', rfl⟩ : ∃ t', ur = t' + 1 := ⟨ur - 1, by omega⟩
    have hw := hp.2.2.1
    obtain ⟨hn, hb, hdi, hdr, -, hm0⟩ := hw
    obtain ⟨m0, d0⟩ := hm0 rfl
    have hk : ∀ (code off : Int) M', ES P tx L code off M' → pW (f_X5_readPlaces_6 P (u' + 1) (iI (i : Int) + 1) M') (fun M'' => ES P tx L code off M'' ∧ frCp P M' M'') := fun code off M' z => ES_6 u' z _
    have cp := hp.1.1
    obtain ⟨Mc1, e1, ⟨v1, Mr1⟩, er1, out1⟩ := L_num hc (PL_pts hp) (g := 200) (by omega)
    have er1' : f_X7_reads R 0 200 Mr = some (v1, Mr1) := er1
    have e1' : f_X5_needNumber P 200 Mc = some Mc1 := e1
    unfold f_X5_readPlaces_32
    rw [f_X7_readsPoints_15, e1', bd_s, er1', bd_s]
    dsimp only at out1 ⊢
    rcases out1 with ⟨rfl, rfl, e, x, hx, ⟨jL, je, eL⟩, ⟨c4, c7⟩, ⟨r16, r17, r13, r14, r15⟩, fS1⟩ | ⟨code, es, rfl, r14, r15, fC, fS1⟩
    · -- the first number is one
      have hp1 : PL P R v false ((n, X, Y), (m, T), (d, D), fl, pu) Mc1 Mr1 := PL_fr hp (fun b k _ => rfl) fS1
      have rp1 : rpt R Mr1 v n X Y := ⟨hp1.2.1.1, hp1.2.1.2.1.1⟩
      have hr1 : rTx R Mr1 tx L := rTx_fr hc.2.2.2.2 (fun b k z => fS1 b k (by omega))
      rw [k_size cp, bd_s, if_neg n10, r_points rp1, bd_s, r17, i_m5]
      simp (disch := omega) only [iI_20, iI_lt, iI_eq]
      by_cases n20 : n = 20
      · rw [if_neg (by omega), if_pos (by omega)]
        obtain ⟨Mc2, e2, es, f2⟩ := CS_fail hc (PL_pts hp) (c := -5) (by omega)
        obtain ⟨Mr2, g1, g2, g3, g4⟩ := r_fail2 (R := R) (c := -5) r14 (o := j) rfl
        rw [e2, bd_s, g1, bd_s]
        dsimp only
        rw [bo_0, ck_t]
        refine pW_mono (ES_60 es (hk _ _)) (fun Mc3 z => pW_some ⟨⟨frCp_t f2 z.2, frRp_S (frS_t fS1 g4)⟩, Or.inr ⟨-5, j, z.1, rfl, g2, g3, rvn_S hp1.2.1.1 g4, rld_S hp1.2.1.2.2 g4⟩⟩)
      · rw [if_pos (by omega), if_neg (by omega)]
        unfold f_X5_readPlaces_60
        obtain ⟨Mc2, e2, j2, ej2, cs2, fT2⟩ := CS_next (P := P) (R := R) (Mr := Mr1) hc.2.2.2.1 hr1 eL c4 r13 ⟨hc.2.2.1.1, hc.2.2.1.2.1, r14, r15⟩
        have hp2 : PL P R v false ((n, X, Y), (m, T), (d, D), fl, pu) Mc2 Mr1 := PL_fr hp1 (fun b k z => fT2 b k (by omega)) (fun _ _ _ => rfl)
        obtain ⟨Mc3, e3, ⟨v3, Mr3⟩, er3, out3⟩ := L_num cs2 (PL_pts hp2) (g := 200) (by omega)
        have er3' : f_X7_reads R 0 200 Mr1 = some (v3, Mr3) := er3
        have e3' : f_X5_needNumber P 200 Mc2 = some Mc3 := e3
        rw [e2, bd_s, e3', bd_s, er3', bd_s]
        dsimp only at out3 ⊢
        rcases out3 with ⟨rfl, rfl, e', y, hy, ⟨jL2, je2, eL2⟩, ⟨c42, c72⟩, ⟨r162, r172, r132, r142, r152⟩, fS3⟩ | ⟨code, es, rfl, r142, r152, fC, fS3⟩
        · have hp3 : PL P R v false ((n, X, Y), (m, T), (d, D), fl, pu) Mc3 Mr3 := PL_fr hp2 (fun b k _ => rfl) fS3
          have rp3 : rpt R Mr3 v n X Y := ⟨hp3.2.1.1, hp3.2.1.2.1.1⟩
          have hr3 : rTx R Mr3 tx L := rTx_fr hr1 (fun b k z => fS3 b k (by omega))
          have cp3 : cpt (P + 3 + 1) Mc3 n X Y := hp3.1.1
          rw [if_neg n10, c7, c72, r16, r162, k_find cp3 hb (by omega) (by omega), bd_s, r_find rp3 hb (by omega) (by omega), bd_s, r172, i_m4]
          rcases gFi_r (fun p => decide (X p = x ∧ Y p = y)) n with ⟨q1, q2⟩ | ⟨p, q1, q2, -, -⟩
          · -- a new point
            rw [q1, if_pos (show iI (-1) < 0 by decide), if_pos (show iI (-1) = -1 by decide)]
            unfold f_X5_readPlaces_100 f_X5_readPlaces_122
            rw [cs2.2.2.1.1, if_pos (show iI 0 = 0 by decide), c72]
            obtain ⟨Mc4, e4, p4, f4⟩ := k_padd cp3 (show n < 20 by omega) x y
            rw [e4, bd_s]
            -- the reference puts it down
            have b01 := r_put rp3.1 (show 10 + 2 * n < 200 by omega) (iI x)
            generalize hM8 : fm_up Mr3 (R + 1) (200 * v + (10 + 2 * n)) (iI x) = M8 at *
            have f8 : ∀ b k, (b ≠ R + 1 ∨ (k ≠ 200 * v + (10 + 2 * n))) → M8 b k = Mr3 b k := fun b k z => by rw [← hM8, up_i (by omega)]
            have rv8 : rvn R M8 v := ⟨(f8 _ _ (by omega)).trans rp3.1.1, rp3.1.2⟩
            have ep8 : f_X7_points R M8 = some (iI n) := by
              unfold f_X7_points
              rw [show (0 : Int32) = iI ((0 : Nat) : Int) from rfl, r_get rv8 (by omega), bd_s, f8 _ _ (by omega)]
              exact congrArg some rp3.2.2.1
            have a2 := r_put rv8 (show 10 + 2 * n + 1 < 200 by omega) (iI y)
            generalize hM10 : fm_up M8 (R + 1) (200 * v + (10 + 2 * n + 1)) (iI y) = M10 at *
            have f10 : ∀ b k, (b ≠ R + 1 ∨ (k ≠ 200 * v + (10 + 2 * n) ∧ k ≠ 200 * v + (10 + 2 * n + 1))) → M10 b k = Mr3 b k := fun b k z => by rw [← hM10, up_i (by omega)]; exact f8 b k (by omega)
            have rv10 : rvn R M10 v := ⟨(f10 _ _ (by omega)).trans rp3.1.1, rp3.1.2⟩
            have ep10 : f_X7_points R M10 = some (iI n) := by
              unfold f_X7_points
              rw [show (0 : Int32) = iI ((0 : Nat) : Int) from rfl, r_get rv10 (by omega), bd_s, f10 _ _ (by omega)]
              exact congrArg some rp3.2.2.1
            have a3 := r_put rv10 (show 0 < 200 by omega) (iI ((n + 1 : Nat) : Int))
            generalize hM12 : fm_up M10 (R + 1) (200 * v + 0) (iI ((n + 1 : Nat) : Int)) = M12 at *
            have f12 : ∀ b k, (b ≠ R + 1 ∨ (k ≠ 200 * v ∧ k ≠ 200 * v + (10 + 2 * n) ∧ k ≠ 200 * v + (10 + 2 * n + 1))) → M12 b k = Mr3 b k := fun b k z => by rw [← hM12, up_i (by omega)]; exact f10 b k (by omega)
            have hr12 : rTx R M12 tx L := rTx_fr hr3 (fun b k z => f12 b k (by omega))
            have fp4 : frCp P Mc3 Mc4 := fun b k z => by rw [f4 b (by omega)]
            obtain ⟨Mc5, e5, j3, ej3, cs3, fT5⟩ := CS_next (P := P) (R := R) (Mr := M12) (cTx_fr cs2.2.2.2.1 fp4) hr12 eL2 (by rw [f4 P (by omega)]; exact c42) ((f12 _ _ (by omega)).trans r132) ⟨by rw [f4 P (by omega)]; exact cs2.2.2.1.1, by rw [f4 P (by omega)]; exact cs2.2.2.1.2.1, (f12 _ _ (by omega)).trans r142, (f12 _ _ (by omega)).trans r152⟩
            rw [e5, bd_s, r_points rp3, bd_s, iI_10, iI_2, iI_mul, iI_add, show (10 : Int) + 2 * (n : Int) = ((10 + 2 * n : Nat) : Int) by omega, b01, bd_s, ep8, bd_s, iI_mul, iI_add, show (10 : Int) + 2 * (n : Int) = ((10 + 2 * n : Nat) : Int) by omega, show iI ((10 + 2 * n : Nat) : Int) + 1 = iI ((10 + 2 * n + 1 : Nat) : Int) from iI_s _, f8 _ _ (by omega), r162, a2, bd_s, ep10, bd_s, show iI (n : Int) + 1 = iI ((n + 1 : Nat) : Int) from iI_s n, show (0 : Int32) = iI ((0 : Nat) : Int) from rfl, a3, bd_s]
            obtain ⟨i3, h133, rn3⟩ := cs3.2.1
            obtain ⟨⟨v13, M13⟩, e13, j3', n0, n1', n2, n3⟩ := r_here hr12 h133 (by have := rn3.1; have := rn3.2.1; omega)
            dsimp only at n1' n2 n3
            have ej := rnP_eq n0 rn3
            subst ej
            rw [e13, bd_s]
            dsimp only
            rw [r_dg, bd_s]
            have fS13 : frS R M12 M13 := fun b k z => n3 b k (by omega)
            have f13 : frRp R v Mr M13 := frRp_t (frRp_S (frS_t fS1 fS3)) (frRp_t (fun b k z => f12 b k (by omega)) (frRp_S fS13))
            have fC5 : frCp P Mc1 Mc5 := frCp_t (frCp_T fT2) (frCp_t fp4 (frCp_T fT5))
            have hR13 : rTx R M13 tx L := rTx_fr hr12 (fun b k z => n3 b k (by omega))
            have cs13 : CS P R tx L j3' Mc5 M13 := ⟨cs3.1, ⟨j3', n2, ⟨Nat.le_refl _, rn3.2.1, fun k a b => absurd b (by omega), rn3.2.2.2⟩⟩, ⟨cs3.2.2.1.1, cs3.2.2.1.2.1, (n3 _ _ (by omega)).trans cs3.2.2.1.2.2.1, (n3 _ _ (by omega)).trans cs3.2.2.1.2.2.2⟩, cs3.2.2.2.1, hR13⟩
            have nb := gbd_put hb (x := x) (y := y) (by omega) (by omega)
            have nd := gDis_put hdi (x := x) (y := y) (fun j hj z => by have := q2 j hj; rw [decide_eq_true z] at this; cases this)
            have c5f : ∀ b, b ≠ P → Mc5 b = Mc4 b := fun b hb' => by funext k; exact fT5 b k (Or.inl hb')
            have hp13 : PL P R v false ((n + 1, (fun k => if k = n then x else X k), (fun k => if k = n then y else Y k)), (m, T), (d, D), fl, pu) Mc5 M13 := by
              obtain ⟨⟨p0, p2, p3, p5, p6⟩, ⟨k1, k2, k3⟩, -, k5, k6'⟩ := hp3
              refine ⟨⟨cpt_fr p4 (fun b a b' => c5f b (by omega)), cMs_fr p2 (fun b a b' => by rw [c5f b (by omega), f4 b (by omega)]), cMs_fr p3 (fun b a b' => by rw [c5f b (by omega), f4 b (by omega)]), by rw [c5f _ (by omega), f4 _ (by omega)]; exact p5, by rw [c5f _ (by omega), f4 _ (by omega)]; exact p6⟩, ⟨⟨(n3 _ _ (by omega)).trans ((f12 _ _ (by omega)).trans k1.1), k1.2⟩, ?_, rld_0 k3 (fun b k z => (n3 b k (by omega)).trans (f12 b k (by omega)))⟩, ⟨by omega, nb, nd, by subst m0; exact gDr_0 _ _ _ _, fun z => (by cases z), fun _ => ⟨m0, d0⟩⟩, by rw [fT5 _ _ (by omega), f4 P (by omega)]; exact k5, (n3 _ _ (by omega)).trans ((f12 _ _ (by omega)).trans k6')⟩
              obtain ⟨⟨b1, b2, b3⟩, ⟨b4, b5, b6⟩, b7, b8⟩ := k2
              refine ⟨⟨by omega, ?_, fun q hq => ?_⟩, ⟨b4, ?_, fun t ht => by omega⟩, ?_, ?_⟩
              · rw [n3 _ _ (by omega), ← hM12]; exact up_s
              · rw [n3 _ _ (by omega), n3 _ _ (by omega)]
                dsimp only
                by_cases eq : q = n
                · subst eq
                  rw [if_pos rfl, if_pos rfl, ← hM12, up_i (by omega), up_i (by omega), ← hM10, up_s, up_i (by omega), ← hM8, up_s]
                  exact ⟨rfl, rfl⟩
                · rw [if_neg eq, if_neg eq, f12 _ _ (by omega), f12 _ _ (by omega)]
                  exact b3 q (by omega)
              · rw [n3 _ _ (by omega), f12 _ _ (by omega)]; exact b5
              · rw [n3 _ _ (by omega), f12 _ _ (by omega)]; exact b7
              · rw [n3 _ _ (by omega), f12 _ _ (by omega)]; exact b8
            obtain ⟨K, K5, K0, K6, -, -, K2⟩ := Tok_k cs3.1
            rw [f_X5_readPlaces_6, show iI (i : Int) + 1 = iI ((i + 1 : Nat) : Int) from iI_s i, if_neg (by rw [iI_400, iI_le (by omega) (by omega)]; omega), cs3.2.2.1.1, if_pos (show iI 0 = 0 by decide), if_neg (by rw [iI_e0 (by omega)]; omega), K5]
            unfold f_X5_readPlaces_132
            by_cases dgc : j3' < L ∧ dg (tx j3') = true
            · rw [if_pos (by rw [iI_2, iI_eq (by omega) (by omega)]; exact K2.mpr dgc), n1', if_pos dgc.1, dgc.2]
              rw [if_neg (show ¬ (if true = true then (1 : Int32) else 0) = iI ((0 : Nat) : Int) by decide)]
              refine pW_mono (ih u' t' (i + 1) j3' (n + 1) _ _ m T d D fl pu Mc5 M13 (by omega) (by omega) (by omega) (by omega) cs13 hp13) (fun Mc' z => pW_mono z (fun r z' => OutP_t z' (by omega) fC5 f13))
            · rw [if_neg (by rw [iI_2, iI_eq (by omega) (by omega)]; exact fun z => dgc (K2.mp z))]
              have dgf : dg v13 = false := by
                rw [n1']
                by_cases lt : j3' < L
                · rw [if_pos lt]
                  cases e : dg (tx j3') with
                  | false => rfl
                  | true => exact absurd ⟨lt, e⟩ dgc
                · rw [if_neg lt]; decide
              rw [dgf, if_pos (show (if false = true then (1 : Int32) else 0) = iI ((0 : Nat) : Int) by decide)]
              exact pW_some (pW_some ⟨⟨fC5, f13⟩, Or.inl ⟨j3', false, _, by omega, cs13, hp13, n10⟩⟩)
          · -- it is taken
            rw [q2, if_neg (show ¬ iI (p : Int) < 0 by rw [iI_n0 (by omega)]; omega), if_neg (show ¬ iI (p : Int) = -1 by rw [iI_em (by omega)]; omega)]
            obtain ⟨Mc4, e4, es, f4⟩ := CS_fail cs2 (PL_pts hp2) (c := -4) (by omega)
            obtain ⟨Mr4, g1, g2, g3, g4⟩ := r_fail2 (R := R) (c := -4) r142 (o := j2) rfl
            rw [e4, bd_s, g1, bd_s]
            dsimp only
            rw [bo_0, ck_t]
            refine pW_mono (ES_100 es (hk _ _)) (fun Mc5 z => pW_some ⟨⟨frCp_t (frCp_T fT2) (frCp_t f4 z.2), frRp_S (frS_t fS1 (frS_t fS3 g4))⟩, Or.inr ⟨-4, j2, z.1, rfl, g2, g3, rvn_S hp3.2.1.1 g4, rld_S hp3.2.1.2.2 g4⟩⟩)
        · rw [if_pos rfl]
          refine pW_mono (ES_60b es _ _ (hk _ _)) (fun Mc4 z => pW_some ⟨⟨frCp_t (frCp_T fT2) (frCp_t fC z.2), frRp_S (frS_t fS1 fS3)⟩, Or.inr ⟨code, j2, z.1, rfl, r142, r152, rvn_S hp2.2.1.1 fS3, rld_S hp2.2.1.2.2 fS3⟩⟩)
    · rw [if_pos rfl]
      obtain ⟨n', X', Y', cp', -⟩ := es.2.2.2
      rw [k_size cp', bd_s, ES_fail es, bd_s]
      have := fun Mc' (z : ES P tx L code j Mc' ∧ frCp P Mc1 Mc') => (pW_some (α := Int32 × fm_Mem) (r := (0, Mr1)) (Q := fun r => OutP P R v tx L j Mc Mr Mc' r) ⟨⟨frCp_t fC z.2, frRp_S fS1⟩, Or.inr ⟨code, j, z.1, rfl, r14, r15, rvn_S hp.2.1.1 fS1, rld_S hp.2.1.2.2 fS1⟩⟩)
      exact pW_if (fun _ => pW_mono (ES_60 es (hk _ _)) this) (fun _ => pW_mono (ES_60 es (hk _ _)) this)
end PP
end
