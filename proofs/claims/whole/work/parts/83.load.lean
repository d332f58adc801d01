section
/-! load, by both sides, from state to state -/
section LQ
variable {A R c u v k L : Nat} {M M' : fm_Mem} {s : gPl} {h : Nat → gPl} {tx : Nat → Int32}
/-- the reference begins to load, from any memory that it lies in -/
theorem r_prep (hR : wRf R M s h u v) (ht : ∀ k, k < L → M (R + 6) k = tx k) {ln : Nat} (h11 : M R 11 = iI ln) (hL : L ≤ ln) (hln : ln ≤ 400) : ∃ Mp : fm_Mem, (∀ b k, (b ≠ R + 2 ∧ (b ≠ R ∨ (k ≠ 0 ∧ k ≠ 11 ∧ k ≠ 12 ∧ k ≠ 13 ∧ k ≠ 14 ∧ k ≠ 15))) → Mp b k = M b k) ∧ (∀ k, k < 200 → Mp (R + 2) k = M (R + 1) (200 * v + k)) ∧ (Mp R 0 = 0 ∧ Mp R 11 = iI 0 ∧ Mp R 13 = iI 0 ∧ Mp R 14 = iI 0 ∧ Mp R 15 = iI (-1)) ∧ rTx R Mp tx L ∧ f_X7_load R (iI L) M = Option.bind (f_X7_readsText R Mp) (fun v1 => if v1.1 = 0 then f_X7_load_86 R (iI L) fm_fuel (0 : Int32) v1.2 else f_X7_load_128 R (iI L) fm_fuel (fm_rem ((v1.2 R 3) + (1 : Int32)) (9 : Int32)) (0 : Int32) v1.2) := by
  have hv := hR.1.1
  have hv2 := hv.2
  generalize hMs : fm_up (fm_up (fm_up (fm_up (fm_up (fm_up M R 0 0) R 12 (iI (L : Int))) R 13 0) R 11 0) R 14 0) R 15 (-1) = Ms
  have fs : ∀ b k, (b ≠ R ∨ (k ≠ 0 ∧ k ≠ 11 ∧ k ≠ 12 ∧ k ≠ 13 ∧ k ≠ 14 ∧ k ≠ 15)) → Ms b k = M b k := fun b k z => by rw [← hMs, up_i (by omega), up_i (by omega), up_i (by omega), up_i (by omega), up_i (by omega), up_i (by omega)]
  have s0 : Ms R 0 = 0 := by rw [← hMs, up_i (by omega), up_i (by omega), up_i (by omega), up_i (by omega), up_i (by omega), up_s]
  have s12 : Ms R 12 = iI L := by rw [← hMs, up_i (by omega), up_i (by omega), up_i (by omega), up_i (by omega), up_s]
  have s13 : Ms R 13 = iI 0 := by rw [← hMs, up_i (by omega), up_i (by omega), up_i (by omega), up_s]; rfl
  have s11 : Ms R 11 = iI 0 := by rw [← hMs, up_i (by omega), up_i (by omega), up_s]; rfl
  have s14 : Ms R 14 = iI 0 := by rw [← hMs, up_i (by omega), up_s]; rfl
  have s15 : Ms R 15 = iI (-1) := by rw [← hMs, up_s]; rfl
  have hvs : rvn R Ms v := ⟨(fs _ _ (by omega)).trans hv.1, hv.2⟩
  obtain ⟨Mp, f1, c1, e1⟩ := r_prep1 (a := iI (L : Int)) hvs 200 0 4799 Ms rfl (fun _ _ _ => rfl) (fun k z => absurd z (Nat.not_lt_zero k))
  refine ⟨Mp, fun b k z => (f1 b k (by omega)).trans (fs b k (by omega)), fun k hk => (c1 k hk).trans (fs _ _ (by omega)), ⟨(f1 _ _ (by omega)).trans s0, (f1 _ _ (by omega)).trans s11, (f1 _ _ (by omega)).trans s13, (f1 _ _ (by omega)).trans s14, (f1 _ _ (by omega)).trans s15⟩, ⟨(f1 _ _ (by omega)).trans s12, by omega, fun k hk => (f1 _ _ (by omega)).trans ((fs _ _ (by omega)).trans (ht k hk))⟩, ?_⟩
  unfold f_X7_load
  have e11 : fm_up M R 0 0 R 11 = iI ln := (up_i (by omega)).trans h11
  rw [e11, r_in 0 (ln : Int) iI_0 rfl (by omega) (by omega) (by omega), if_pos (by omega), bd_s, r_right1 up_s, bd_s, if_neg (n1 _)]
  dsimp only
  rw [hMs]
  exact e1
theorem q_load (hw : wI A M s h c u v) (hT : wT A M) (hB : wB A M) (hk : c ≤ k) (hk6 : k < 600) (a : Int32) : ldOk A k (fun _ => 1) M (f_X6_load A a M) (fun M1 => f_X7_load (A + 170) a M1) := by
  obtain ⟨z, hz, rfl⟩ := i_ex a
  obtain ⟨hs, hh, ⟨hu, huc⟩, hC, hR⟩ := id hw
  obtain ⟨ln, t1, t2, t3, t4, t5⟩ := id hT
  have esz : ∀ M : fm_Mem, f_X5_size (A + 1) M = some (M (A + 1) 2) := fun M => rfl
  by_cases c1 : 0 ≤ z ∧ z ≤ ln
  · obtain ⟨L, rfl⟩ : ∃ L : Nat, z = (L : Int) := ⟨z.toNat, by omega⟩
    have hLl : L ≤ ln := by omega
    have hbt : ∀ k, k < L → ¬ M (A + 3) k = -1 := fun k hk => hB k (by omega)
    have htx : ∀ k, k < L → M (A + 1 + 2) k = M (A + 3) k := fun k hk => rfl
    have htr : ∀ k, k < L → M (A + 170 + 6) k = M (A + 3) k := fun k hk => (t4 k (by omega)).symm
    -- the class's run
    obtain ⟨Mp, -, -, ⟨-, -, b13, b14, b15⟩, brT, -⟩ := r_prep hR htr t3 hLl t1
    obtain ⟨Mp0, g1, g2, ⟨g0, g11, g13, g14, g15⟩, gT, -⟩ := r_prep hR htr t3 hLl t1
    have hv := hR.1.1
    have hv2 := hv.2
    have hvp : rvn (A + 170) Mp0 v := ⟨(g1 _ _ (by omega)).trans hv.1, hv.2⟩
    have hlp : rld (A + 170) Mp0 := rld_0 hR.1.2.2.1 (fun b k z => g1 b k (by omega))
    obtain ⟨M1, f1, f12, rc, erc, rr0, err0, fin0⟩ := L_read (P := A + 1) (M := M) hbt (by omega) htx gT g13 g14 g15 hvp hlp
    -- what the reference does, from a memory that is alike for it
    have ref : ∀ M3 : fm_Mem, (∀ b, A + 170 ≤ b → M3 b = M b) → ∃ Mp : fm_Mem, (∀ b k, (b ≠ A + 170 + 2 ∧ (b ≠ A + 170 ∨ (k ≠ 0 ∧ k ≠ 11 ∧ k ≠ 12 ∧ k ≠ 13 ∧ k ≠ 14 ∧ k ≠ 15))) → Mp b k = M3 b k) ∧ (∀ k, k < 200 → Mp (A + 170 + 2) k = M3 (A + 170 + 1) (200 * v + k)) ∧ (Mp (A + 170) 0 = 0 ∧ Mp (A + 170) 11 = iI 0) ∧ wRf (A + 170) M3 s h u v ∧ ∃ rr, f_X7_readsText (A + 170) Mp = some rr ∧ FinP (A + 1) (A + 170) v M1 Mp rc rr ∧ f_X7_load (A + 170) (iI L) M3 = (if rr.1 = 0 then f_X7_load_86 (A + 170) (iI L) fm_fuel (0 : Int32) rr.2 else f_X7_load_128 (A + 170) (iI L) fm_fuel (fm_rem ((rr.2 (A + 170) 3) + (1 : Int32)) (9 : Int32)) (0 : Int32) rr.2) := fun M3 h3 => by
      have hR3 := wRf_hR3 (M' := M3) hR h3
      obtain ⟨Mp, p1, p2, ⟨p0, p11, p13, p14, p15⟩, pT, pe⟩ := r_prep (tx := fun k => M (A + 3) k) hR3 (fun k hk => by rw [h3 _ (by omega)]; exact htr k hk) (by rw [h3 _ (by omega)]; exact t3) hLl t1
      have hv3 := hR3.1.1
      have hvp : rvn (A + 170) Mp v := ⟨(p1 _ _ (by omega)).trans hv3.1, hv3.2⟩
      have hlp : rld (A + 170) Mp := rld_0 hR3.1.2.2.1 (fun b k z => p1 b k (by omega))
      obtain ⟨M1', f1', f12', rc', erc', rr, err, fin⟩ := L_read (P := A + 1) (M := M) hbt (by omega) htx pT p13 p14 p15 hvp hlp
      have e0 : rc' = rc := Option.some.inj (erc'.symm.trans erc)
      subst e0
      refine ⟨Mp, p1, p2, ⟨p0, p11⟩, hR3, rr, err, ⟨⟨fun b k z => ?_, fin.1.2⟩, fin.2⟩, by rw [pe, err, bd_s]⟩
      by_cases zz : b = A + 1
      · have w0 := fin0.1.1 b k z
        exact w0
      · have w0 := fin0.1.1 b k z
        exact w0
    have fc0 := fin0.1.1
    have low : ∀ b, b < A + 1 ∨ A + 20 ≤ b → rc.2 b = M b := fun b hb => by
      funext k
      rw [fc0 b k (by omega), f1 b k (by omega)]
    have tx3 : rc.2 (A + 3) = M (A + 3) := by
      funext k
      rw [fc0 (A + 3) k (by omega), f1 (A + 3) k (by omega)]
    have sz2 : rc.2 (A + 1) 2 = iI 0 := (fc0 (A + 1) 2 (by omega)).trans f12
    unfold f_X6_load
    rw [if_neg (show ¬ iI (L : Int) < 0 by rw [iI_n0 (by omega)]; omega), esz, bd_s, t2, if_pos (show iI (L : Int) ≤ iI (ln : Int) by rw [iI_le (by omega) (by omega)]; omega), erc, bd_s]
    have f6 : ∀ x b, b ≠ A → fm_up rc.2 A 6 x b = rc.2 b := fun x b hb => up_ne hb
    rcases fin0.2 with ⟨s', g, cpl, -, -, -, r1, -, r9, -⟩ | ⟨code, off, ⟨cd1, cd2⟩, r1, -, r9, -, -, -, -⟩
    · -- it is read
      rw [if_pos r1, r9]
      have hC2 : wCl A (fm_up rc.2 A 6 (iI (-1))) s h c u := wCl_fr hC (fun b p q => by rw [up_ne (by omega), low b (by omega)]) (by rw [up_i (by omega), low A (by omega)]) (by rw [up_i (by omega), low A (by omega)])
      obtain ⟨M3, m3, w1, w6, w2⟩ := k_remember hC2 hu huc (by omega)
      have w66 : M3 A 6 = iI (-1) := w6.trans up_s
      have cpl3 : cPl (A + 1 + 3) M3 s' := cPl_L cpl (fun b p q => by rw [w2 b (by omega) (by omega), up_ne (by omega)])
      obtain ⟨M4, m4, d1, d2⟩ := k_pcpy (P := A + 20) cpl3 (by omega)
      obtain ⟨⟨n, X, Y⟩, ⟨m, T⟩, ⟨d, D⟩, fl, pu⟩ := s'
      obtain ⟨M5, m5, q1, q2⟩ := k_hrenew (P := A + 36) (R := A + 20 + 1) (M := M4) d1.1 g.2.1 g.2.2.1 (by omega)
      have cpl5 : cPl (A + 20) M5 ((n, X, Y), (m, T), (d, D), fl, pu) := cPl_L d1 (fun b p q => q2 b (by omega))
      rw [m3, bd_s, m4, bd_s, m5, bd_s, k_size cpl5.1, bd_s]
      have hw5 : wCl A M5 ((n, X, Y), (m, T), (d, D), fl, pu) (pushH s h) (c + 1) (min (u + 1) 8) := wCl_set w1 (fun b hb => by rw [q2 b (by omega), d2 b (by omega)]) cpl5 q1
      have up5 : ∀ b, A + 170 ≤ b → M5 b = M b := fun b hb => by rw [q2 b (by omega), d2 b (by omega), w2 b (by omega) (by omega), up_ne (by omega), low b (by omega)]
      have lo5 : ∀ b, b = A + 1 ∨ b = A + 2 ∨ b = A + 3 → M5 b = rc.2 b := fun b hb => by rw [q2 b (by omega), d2 b (by omega), w2 b (by omega) (by omega), up_ne (by omega)]
      have A5 : M5 A 6 = iI (-1) := by rw [q2 A (by omega), d2 A (by omega)]; exact w66
      obtain ⟨Mq, p1, p2, ⟨p0, p11⟩, hR5, rr, err, fin, pe⟩ := ref M5 up5
      rcases fin.2 with ⟨s2, g', cpl', rv', rn', rl', r1', rr1, r9', rr15⟩ | ⟨code, off, ⟨cd1, cd2⟩, r1', -⟩
      · rw [if_neg rr1] at pe
        -- both planes are the same
        have e34 : rr.2 (A + 170) 3 = iI v := rn'.1
        rw [e34, iI_s, show (9 : Int32) = iI ((9 : Nat) : Int) by decide, iI_rem (by omega) (by omega)] at pe
        have h4 : rr.2 (A + 170) 4 = iI u := (fin.1.2 _ _ (by omega)).trans ((p1 _ _ (by omega)).trans hR5.1.2.2.2)
        obtain ⟨⟨n2, X2, Y2⟩, ⟨m2, T2⟩, ⟨d2', D2⟩, fl2, pu2⟩ := s2
        obtain ⟨r7, e7, y1, y2, y3, y4, y5⟩ := r_commit (a := iI (L : Int)) rn' h4 hu rv'.1.2.1
        have M7v : ∀ k, k < 200 → r7.2 (A + 170 + 1) (200 * v + k) = M5 (A + 170 + 1) (200 * v + k) := fun k hk => (y3 k hk).1.trans ((fin.1.2 _ _ (by omega)).trans (p2 k hk))
        have m9 := Nat.mod_lt (v + 1) (show 9 > 0 by decide)
        have rvN : rVs (A + 170) r7.2 ((v + 1) % 9) ((n2, X2, Y2), (m2, T2), (d2', D2), fl2, pu2) := by
          obtain ⟨⟨a1, a2, a3⟩, ⟨a4, a5, a6⟩, a7, a8⟩ := rv'
          refine ⟨⟨a1, (y3 0 (by omega)).2.trans a2, fun k hk => ?_⟩, ⟨a4, (y3 1 (by omega)).2.trans a5, fun t ht => ?_⟩, (y3 2 (by omega)).2.trans a7, (y3 3 (by omega)).2.trans a8⟩
          · rw [(y3 _ (by omega)).2, show 10 + 2 * k + 1 = 10 + (2 * k + 1) by omega, (y3 _ (by omega)).2]; exact a3 k hk
          · rw [(y3 _ (by omega)).2, show 60 + 3 * t + 1 = 60 + (3 * t + 1) by omega, show 60 + 3 * t + 2 = 60 + (3 * t + 2) by omega, (y3 _ (by omega)).2, (y3 _ (by omega)).2]; exact a6 t ht
        -- equal numbers of both descriptions
        have ec1 := cpl.1
        have ec2 := cpl'.1
        have hn1 := g.1
        have hn2 := g'.1
        have en : n2 = n := by
          have := ec1.1.symm.trans ec2.1
          rw [iI_eq (by omega) (by omega)] at this
          omega
        subst en
        have eXY : ∀ k, k < n2 → X2 k = X k ∧ Y2 k = Y k := fun k hk => by
          have b1 := g.2.1 k hk
          have b2 := g'.2.1 k hk
          have x1 := (ec1.2.2 k hk).1.symm.trans (ec2.2.2 k hk).1
          have x2 := (ec1.2.2 k hk).2.symm.trans (ec2.2.2 k hk).2
          rw [iI_eq (by omega) (by omega)] at x1 x2
          omega
        have mm1 := cpl.2.1.2.1
        have mm2 := cpl'.2.1.2.1
        have em : m2 = m := by
          have := cpl.2.1.1.symm.trans cpl'.2.1.1
          rw [iI_eq (by omega) (by omega)] at this
          omega
        subst em
        have eTT : ∀ t, t < m2 → T2 t = T t := fun t ht => by
          have b1 := tV_lt g.2.2.2.1.1 hn1 ht
          have b2 := tV_lt g'.2.2.2.1.1 hn2 ht
          have x1 := (cpl.2.1.2.2.1 t ht).symm.trans (cpl'.2.1.2.2.1 t ht)
          rw [iI_eq (by omega) (by omega)] at x1
          omega
        have rvE : rVs (A + 170) r7.2 ((v + 1) % 9) ((n2, X, Y), (m2, T), (d, D), fl, pu) := by
          obtain ⟨⟨a1, a2, a3⟩, ⟨a4, a5, a6⟩, a7, a8⟩ := rvN
          refine ⟨⟨a1, a2, fun k hk => ?_⟩, ⟨a4, a5, fun t ht => ?_⟩, a7.trans ?_, a8.trans ?_⟩
          · rw [← (eXY k hk).1, ← (eXY k hk).2]; exact a3 k hk
          · rw [← eTT t ht]; exact a6 t ht
          · exact cpl'.2.2.2.1.symm.trans cpl.2.2.2.1
          · exact cpl'.2.2.2.2.symm.trans cpl.2.2.2.2
        have fr7 : ∀ b k, (b ≠ A + 170 + 1 ∧ b ≠ A + 170 + 2 ∧ b ≠ A + 170 + 3 ∧ b ≠ A + 170 + 5 ∧ b ≠ A + 170) → r7.2 b k = M5 b k := fun b k z => (y2 b k (by omega) (by omega)).trans ((fin.1.2 b k (by omega)).trans (p1 b k (by omega)))
        have fr170 : ∀ k, k = 0 ∨ k = 11 → r7.2 (A + 170) k = Mq (A + 170) k := fun k z => (y2 _ k (by omega) (by omega)).trans (fin.1.2 _ k (by omega))
        refine Or.inr ⟨iI (n2 : Int), M5, r7, rfl, pe.trans e7, ?_, y1, ⟨((n2, X, Y), (m2, T), (d, D), fl, pu), pushH s h, c + 1, min (u + 1) 8, (v + 1) % 9, by omega, g, gok_push hs hh, by omega, wCl_fr hw5 (fun b p q => by funext j; exact fr7 b j (by omega)) (fr7 _ _ (by omega)) (fr7 _ _ (by omega)), ⟨⟨⟨y4, by omega⟩, rvE, ?_, y5⟩, fun j hj => ?_⟩⟩, ⟨0, by omega, ?_, ?_, fun k z => absurd z (Nat.not_lt_zero k), ?_⟩, fun k hk => ?_⟩
        · exact (fr170 0 (by omega)).trans p0
        · exact rld_0 rl' (fun b j z => y2 b j (by omega) (by omega))
        · unfold pushH
          by_cases c0 : j = 0
          · subst c0
            rw [if_pos rfl, show ((v + 1) % 9 + 8 - 0) % 9 = v by omega]
            exact rVs_L hR5.1.2.1 (fun i p q => by rw [show i = 200 * v + (i - 200 * v) by omega]; exact M7v _ (by omega))
          · rw [if_neg c0, show ((v + 1) % 9 + 8 - j) % 9 = (v + 8 - (j - 1)) % 9 by omega]
            have nv1 : (v + 8 - (j - 1)) % 9 ≠ v := by omega
            have nv2 : (v + 8 - (j - 1)) % 9 ≠ (v + 1) % 9 := by omega
            exact rVs_L (hR5.2 (j - 1) (by omega)) (fun i p q => (y2 _ _ (by omega) (by omega)).trans ((fin.1.2 _ _ (by omega)).trans (p1 _ _ (by omega))))
        · exact (fr7 _ _ (by omega)).trans (by rw [lo5 _ (by omega)]; exact sz2)
        · exact (fr170 11 (by omega)).trans p11
        · rw [fr7 A 6 (by omega), A5]
          exact ((y2 _ _ (by omega) (by omega)).trans rr15).symm
        · rw [fr7 (A + 3) k (by omega), lo5 _ (by omega), tx3]; exact hB k hk
      · exfalso
        rw [r1'] at r1
        rw [iI_e0 (by omega)] at r1
        omega
    · -- an error
      have r1n : ¬ rc.1 = 0 := by rw [r1, iI_e0 (by omega)]; omega
      rw [if_neg r1n, r9, r1]
      have up5 : ∀ b, A + 170 ≤ b → fm_up rc.2 A 6 (iI off) b = M b := fun b hb => by rw [up_ne (by omega), low b (by omega)]
      obtain ⟨Mq, p1, p2, ⟨p0, p11⟩, hR5, rr, err, fin, pe⟩ := ref (fm_up rc.2 A 6 (iI off)) up5
      rcases fin.2 with ⟨s2, g', cpl', rv', rn', rl', r1', -⟩ | ⟨code', off', ⟨cd1', cd2'⟩, r1', rr1, r9', r14, r15, rn', rl'⟩
      · exact absurd r1' r1n
      · rw [if_pos rr1] at pe
        have ec : code' = code := by
          have := r1'.symm.trans r1
          rw [iI_eq (by omega) (by omega)] at this
          exact this
        have eo : iI off' = iI off := r9'.symm.trans r9
        obtain ⟨r7, e7, y1, y2, y3⟩ := r_rest (a := iI (L : Int)) rn'
        have hC2 : wCl A (fm_up rc.2 A 6 (iI off)) s h c u := wCl_fr hC (fun b p q => by rw [up_ne (by omega), low b (by omega)]) (by rw [up_i (by omega), low A (by omega)]) (by rw [up_i (by omega), low A (by omega)])
        have fr7 : ∀ b k, (b ≠ A + 170 + 1 ∧ b ≠ A + 170 + 2 ∧ b ≠ A + 170 + 3 ∧ b ≠ A + 170 + 5 ∧ b ≠ A + 170) → r7.2 b k = fm_up rc.2 A 6 (iI off) b k := fun b k z => (y2 b k (by omega)).trans ((fin.1.2 b k (by omega)).trans (p1 b k (by omega)))
        have fr170 : ∀ k, k ≤ 7 ∨ k = 11 → r7.2 (A + 170) k = Mq (A + 170) k := fun k z => (y2 _ k (by omega)).trans (fin.1.2 _ k (by omega))
        have M7v : ∀ k, k < 200 → r7.2 (A + 170 + 1) (200 * v + k) = fm_up rc.2 A 6 (iI off) (A + 170 + 1) (200 * v + k) := fun k hk => (y3 k hk).trans ((fin.1.2 _ _ (by omega)).trans (p2 k hk))
        have m9 := Nat.mod_lt (v + 1) (show 9 > 0 by decide)
        refine Or.inr ⟨iI code, _, r7, rfl, pe.trans e7, ?_, y1.trans (r14.trans (by rw [ec])), ⟨s, h, c, u, v, by omega, hs, hh, ⟨hu, huc⟩, wCl_fr hC2 (fun b p q => by funext j; exact fr7 b j (by omega)) (fr7 _ _ (by omega)) (fr7 _ _ (by omega)), ⟨⟨⟨?_, hv2⟩, ?_, ?_, ?_⟩, fun j hj => ?_⟩⟩, ⟨0, by omega, ?_, ?_, fun k z => absurd z (Nat.not_lt_zero k), ?_⟩, fun k hk => ?_⟩
        · exact (fr170 0 (by omega)).trans p0
        · exact (y2 _ _ (by omega)).trans rn'.1
        · exact rVs_L hR5.1.2.1 (fun i p q => by rw [show i = 200 * v + (i - 200 * v) by omega]; exact M7v _ (by omega))
        · exact rld_0 rl' (fun b j z => y2 b j (by omega))
        · exact (fr170 4 (by omega)).trans ((p1 _ _ (by omega)).trans hR5.1.2.2.2)
        · have nv1 : (v + 8 - j) % 9 ≠ v := by omega
          exact rVs_L (hR5.2 j hj) (fun i p q => (y2 _ _ (by omega)).trans ((fin.1.2 _ _ (by omega)).trans (p1 _ _ (by omega))))
        · exact (fr7 _ _ (by omega)).trans (by rw [up_ne (by omega)]; exact sz2)
        · exact (fr170 11 (by omega)).trans p11
        · rw [fr7 A 6 (by omega), up_s]
          exact eo.symm.trans (((y2 _ _ (by omega)).trans r15).symm)
        · rw [fr7 (A + 3) k (by omega), up_ne (by omega), tx3]; exact hB k hk
  · have h0 : fm_up M (A + 170) 0 0 (A + 170) 0 = 0 := up_s
    have fq : frQ (A + 170) M (fm_up (fm_up M (A + 170) 0 0) (A + 170) 0 1) := frQ_l
    refine Or.inl ⟨0, (0, fm_up (fm_up M (A + 170) 0 0) (A + 170) 0 1), ?_, ?_, up_s, ⟨s, h, c, u, v, hk, wI_q hw fq ((hR.1.up (j := 0) _ (by omega)).up (j := 0) _ (by omega))⟩, wT_W hT (frW_Q fq), wB_W hB (frW_Q fq)⟩
    · unfold f_X6_load f_X6_load_15
      by_cases c2 : z < 0
      · rw [if_pos (by rw [iI_n0 (by omega)]; exact c2)]
      · rw [if_neg (by rw [iI_n0 (by omega)]; exact c2), esz, bd_s, t2, if_neg (by rw [iI_le (by omega) (by omega)]; omega)]
    · show f_X7_load (A + 170) (iI z) M = _
      unfold f_X7_load
      have e11 : fm_up M (A + 170) 0 0 (A + 170) 11 = iI ln := (up_i (by omega)).trans t3
      rw [e11, r_in 0 (ln : Int) iI_0 rfl hz (by omega) (by omega), if_neg c1, bd_s, r_right0 h0 (by decide), bd_s, if_pos rfl]
end LQ
end
