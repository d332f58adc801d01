section
/-! statements and the whole text, both sides in step -/
def FinP (P R v : Nat) (Mc Mr : fm_Mem) (rc rr : Int32 × fm_Mem) : Prop := (frCp P Mc rc.2 ∧ frRp R v Mr rr.2) ∧ ((∃ s, gOkP s ∧ cPl (P + 3) rc.2 s ∧ rVs R rr.2 v s ∧ rvn R rr.2 v ∧ rld R rr.2 ∧ rc.1 = 0 ∧ ¬ rr.1 = 0 ∧ rc.2 P 9 = iI (-1) ∧ rr.2 R 15 = iI (-1)) ∨ ∃ code off, (-10 ≤ code ∧ code < 0) ∧ rc.1 = iI code ∧ rr.1 = 0 ∧ rc.2 P 9 = iI off ∧ rr.2 R 14 = iI code ∧ rr.2 R 15 = iI off ∧ rvn R rr.2 v ∧ rld R rr.2)
section ST
variable {P R v L j : Nat} {tx : Nat → Int32} {Mc Mr M M' Mc' Mr' : fm_Mem} {dr : Bool} {s : gPl} {code off : Int}
theorem FinP_t {Mc1 Mr1 : fm_Mem} {rc rr : Int32 × fm_Mem} (h : FinP P R v Mc1 Mr1 rc rr) (f : frCp P Mc Mc1) (g : frRp R v Mr Mr1) : FinP P R v Mc Mr rc rr := ⟨⟨frCp_t f h.1.1, frRp_t g h.1.2⟩, h.2⟩
theorem ES_96 (h : ES P tx L code off M) (a : Int32) : f_X5_read_96 P a M = some (iI code, M) := by
  have hc := h.2.2.1
  unfold f_X5_read_96 f_X5_draw f_X5_draw_26
  rw [hc.1, if_neg (show ¬ iI code = 0 by rw [iI_e0 (by omega)]; omega), bd_s, hc.1]
theorem ES_17 (h : ES P tx L code off M) (a x : Int32) (u : Nat) : f_X5_read_17 P a (u + 1) x M = some (iI code, M) := by
  have hc := h.2.2.1
  rw [f_X5_read_17, hc.1, if_neg (show ¬ iI code = 0 by rw [iI_e0 (by omega)]; omega), ES_96 h]
  by_cases c : (400 : Int32) ≤ x
  · rw [if_pos c]
  · rw [if_neg c]
theorem Es_fin {r : Int32 × fm_Mem} (h : ES P tx L code off Mc') (f : frCp P Mc Mc') (g : frRp R v Mr r.2) (h1 : r.1 = 0) (h2 : r.2 R 14 = iI code) (h3 : r.2 R 15 = iI off) (h4 : rvn R r.2 v) (h5 : rld R r.2) : FinP P R v Mc Mr (iI code, Mc') (0, r.2) := ⟨⟨f, g⟩, Or.inr ⟨code, off, ⟨h.2.2.1.2.2.1, h.2.2.1.2.2.2⟩, rfl, rfl, h.2.2.1.2.1, h2, h3, h4, h5⟩⟩
/-- behind a statement -/
theorem L_after (a : Int32) {u t i j0 : Nat} {r : Int32 × fm_Mem} (h : OutP P R v tx L j0 Mc Mr Mc' r) (hu : 0 < u) (hi : i ≤ j0)
    (ih : ∀ (j : Nat) (dr : Bool) (s : gPl) (Mc1 Mr1 : fm_Mem), j0 < j → i + 1 ≤ j → CS P R tx L j Mc1 Mr1 → PL P R v dr s Mc1 Mr1 → pW (f_X5_read_17 P a u (iI ((i + 1 : Nat) : Int)) Mc1) (fun rc => pW (f_X7_readsText_57 R t Mr1) (fun rr => FinP P R v Mc1 Mr1 rc rr))) :
    pW (f_X5_read_85 P a (fun x2 M => f_X5_read_17 P a u x2 M) (iI i) Mc') (fun rc => pW (f_X7_readsText_110 R (fun M => f_X7_readsText_57 R t M) r.1 r.2) (fun rr => FinP P R v Mc Mr rc rr)) := by
  obtain ⟨u', rfl⟩ : ∃ u', u = u' + 1 := ⟨u - 1, by omega⟩
  unfold f_X5_read_85 f_X7_readsText_110 f_X7_readsText_124
  obtain ⟨⟨fc, fr⟩, ⟨j1, dr, s, hj, cs, pl, r1⟩ | ⟨code, off, es, r1, r14, r15, hv, hl⟩⟩ := h
  · rw [if_neg r1]
    obtain ⟨Mc2, e2, r2, er2, ⟨fc2, fr2⟩, o⟩ := L_semi cs pl
    rw [e2, bd_s, er2, bd_s]
    rcases o with ⟨j2, dr2, s2, hj2, cs2, pl2, r21⟩ | ⟨code, off, es, r21, r14, r15, hv, hl⟩
    · rw [if_neg r21, iI_s]
      exact pW_mono (ih j2 dr2 s2 Mc2 r2.2 (by omega) (by omega) cs2 pl2) (fun rc z => pW_mono z (fun rr z' => FinP_t z' (frCp_t fc fc2) (frRp_t fr fr2)))
    · rw [if_pos r21]
      dsimp only
      rw [ES_17 es]
      exact pW_some (pW_some (Es_fin es (frCp_t fc fc2) (frRp_t fr fr2) r21 r14 r15 hv hl))
  · rw [if_pos r1]
    obtain ⟨Mc2, e2, es2, f2⟩ := ES_need es 1
    rw [e2, bd_s]
    dsimp only
    rw [ES_17 es2]
    exact pW_some (pW_some (Es_fin es2 (frCp_t fc f2) fr r1 r14 r15 hv hl))
theorem wd_e (tx : Nat → Int32) (j e i : Nat) (hi : i < 3) : wdB tx j e (i + 3) = wdB tx j e i := by
  have h1 : ∀ i, i < 3 → slen (i + 3) = slen i := by decide
  have h2 : ∀ i, i < 3 → ∀ k, byt (i + 3) k = byt i k := fun i hi k => by
    obtain rfl | rfl | rfl : i = 0 ∨ i = 1 ∨ i = 2 := by omega
    · rfl
    · rfl
    · rfl
  unfold wdB
  simp only [h1 i hi, h2 i hi]
theorem wd_n {tx : Nat → Int32} {j e i : Nat} (hi : i < 6) (h : e = j) : wdB tx j e i = false := decide_eq_false (fun z => by
  have h1 : ∀ i, i < 6 → 2 ≤ slen i := by decide
  have := h1 i hi
  have := z.1
  omega)
theorem kW_3 {tx : Nat → Int32} {j e : Nat} : kW tx j e = 3 ↔ wdB tx j e 0 = true := by
  unfold kW
  cases wdB tx j e 0 <;> cases wdB tx j e 1 <;> cases wdB tx j e 2 <;> decide
theorem wd_01 {tx : Nat → Int32} {j e : Nat} (h : wdB tx j e 1 = true) : wdB tx j e 0 = false := decide_eq_false (fun z => by
  have := (of_decide_eq_true h).1
  have h0 : slen 0 = 5 := by decide
  have h1 : slen 1 = 2 := by decide
  have := z.1
  omega)
theorem wd_02 {tx : Nat → Int32} {j e : Nat} (h : wdB tx j e 2 = true) : wdB tx j e 0 = false ∧ wdB tx j e 1 = false := by
  have := (of_decide_eq_true h).1
  have h0 : slen 0 = 5 := by decide
  have h1 : slen 1 = 2 := by decide
  have h2 : slen 2 = 4 := by decide
  exact ⟨decide_eq_false (fun z => by have := z.1; omega), decide_eq_false (fun z => by have := z.1; omega)⟩
/-- which word begins here, by both sides -/
theorem Tok_w (h : Tok P tx L j M) {e w : Nat} (hw : w < 3) (he : rnP sm tx L j e) : (∃ K : Int, M P 5 = iI K ∧ (0 ≤ K ∧ K ≤ 6) ∧ (K = 3 + w ↔ wdB tx j e w = true)) ∧ (wdB tx j e w = true → M P 4 = iI e ∧ j < e) := by
  have wl : wdB tx j e w = true → j + 2 ≤ e := fun z => by
    have h1 : ∀ i, i < 3 → 2 ≤ slen i := by decide
    have := h1 w hw
    have := (of_decide_eq_true z).1
    omega
  have nl : (j < L → sm (tx j) = false) → wdB tx j e w = false := fun z => by
    refine wd_n (by omega) ?_
    refine Classical.byContradiction fun y => ?_
    have lt : j < e := by have := he.1; omega
    have := he.2.2.1 j (Nat.le_refl _) lt
    rw [z (by have := he.2.1; omega)] at this; cases this
  rcases h.2 with ⟨a, b, c⟩ | ⟨a, b, c, e', d, f, g⟩ | ⟨a, b, c, e', d, f, g⟩ | ⟨a, b, c, d, e'⟩
  · have z := nl (fun y => by omega)
    rw [z]
    exact ⟨⟨0, b, by omega, ⟨fun y => by omega, fun y => by cases y⟩⟩, fun y => by cases y⟩
  · have z := nl (fun y => by
      have := dg_r b
      unfold sm
      refine decide_eq_false (fun w => w.1 ?_)
      rw [i_lt, show (97 : Int32).toInt = 97 by decide]
      omega)
    rw [z]
    exact ⟨⟨2, c, by omega, ⟨fun y => by omega, fun y => by cases y⟩⟩, fun y => by cases y⟩
  · have ee := rnP_eq d he
    subst ee
    have kr := kW_r tx j e'
    refine ⟨⟨kW tx j e', g, by omega, ?_⟩, fun z => ⟨f, by have := wl z; omega⟩⟩
    unfold kW
    obtain rfl | rfl | rfl : w = 0 ∨ w = 1 ∨ w = 2 := by omega
    · cases wdB tx j e' 0 <;> cases wdB tx j e' 1 <;> cases wdB tx j e' 2 <;> decide
    · have := @wd_01 tx j e'
      cases h0 : wdB tx j e' 0 <;> cases h1 : wdB tx j e' 1 <;> cases h2 : wdB tx j e' 2 <;> first | decide | exact absurd h0 (by rw [this h1]; decide)
    · have := @wd_02 tx j e'
      cases h0 : wdB tx j e' 0 <;> cases h1 : wdB tx j e' 1 <;> cases h2 : wdB tx j e' 2 <;> first | decide | exact absurd h1 (by rw [(this h2).2]; decide) | exact absurd h0 (by rw [(this h2).1]; decide)
  · have z := nl (fun _ => c)
    rw [z]
    by_cases y : tx j = 59
    · rw [if_pos y] at e'
      exact ⟨⟨1, e', by omega, ⟨fun y => by omega, fun y => by cases y⟩⟩, fun y => by cases y⟩
    · rw [if_neg y] at e'
      exact ⟨⟨6, e', by omega, ⟨fun y => by omega, fun y => by cases y⟩⟩, fun y => by cases y⟩
theorem L_end (a : Int32) (h : CS P R tx L j Mc Mr) (hp : PL P R v dr s Mc Mr) : pW (f_X5_read_96 P a Mc) (fun rc => pW (if Mr R 18 = 0 then Option.bind (f_X7_drawsAnew R Mr) (fun v2 => f_X7_readsText_140 R v2) else f_X7_readsText_140 R Mr) (fun rr => FinP P R v Mc Mr rc rr)) := by
  unfold f_X5_read_96 f_X5_draw f_X5_draw_26 f_X7_readsText_140
  rw [h.2.2.1.1, if_pos (show iI 0 = 0 by decide), hp.2.2.2.1, hp.2.2.2.2]
  cases dr with
  | true =>
    rw [if_neg (by decide), if_neg (by decide), bd_s, h.2.2.1.1]
    obtain ⟨⟨n, X, Y⟩, ⟨m, T⟩, ⟨d, D⟩, fl, pu⟩ := s
    have hw := hp.2.2.1
    exact pW_some (pW_some ⟨⟨frCp_r, frRp_r⟩, Or.inl ⟨((n, X, Y), (m, T), (d, D), fl, pu), ⟨hw.1, hw.2.1, hw.2.2.1, hw.2.2.2.1, hw.2.2.2.2.1 rfl⟩, hp.1, hp.2.1.2.1, hp.2.1.1, hp.2.1.2.2, rfl, n10, h.2.2.1.2.1, h.2.2.1.2.2.2⟩⟩)
  | false =>
    rw [if_pos (by decide), if_pos (by decide)]
    obtain ⟨Mc1, e1, Mr1, er1, s', g, c1, ⟨c2, c3, c4⟩, -, c5, f1, f2⟩ := L_draw hp
    rw [e1, bd_s, bd_s, er1, bd_s, f1 P 8 (by omega) (by omega), h.2.2.1.1]
    exact pW_some (pW_some ⟨⟨fun b k z => f1 b k (by omega) (by omega), fun b k z => f2 b k (by omega)⟩, Or.inl ⟨s', g, c1, c3, c2, c4, rfl, n10, (f1 P 9 (by omega) (by omega)).trans h.2.2.1.2.1, (f2 R 15 (by omega)).trans h.2.2.1.2.2.2⟩⟩)
theorem L_loop (hb : ∀ k, k < L → ¬ tx k = -1) (a : Int32) (w : Nat) : ∀ (uc ur i j : Nat) (dr : Bool) (s : gPl) (Mc Mr : fm_Mem), L - j < w → w ≤ uc → w ≤ ur → i ≤ j → uc ≤ 5000 → CS P R tx L j Mc Mr → PL P R v dr s Mc Mr → pW (f_X5_read_17 P a uc (iI i) Mc) (fun rc => pW (f_X7_readsText_57 R ur Mr) (fun rr => FinP P R v Mc Mr rc rr)) := by
  induction w with
  | zero => intro uc ur i j dr s Mc Mr h1; omega
  | succ w ih =>
    intro uc ur i j dr s Mc Mr h1 h2 h3 h4 h5 hc hp
    obtain ⟨u, rfl⟩ : ∃ u, uc = u + 1 := ⟨uc - 1, by omega⟩
    obtain ⟨t, rfl⟩ : ∃ t, ur = t + 1 := ⟨ur - 1, by omega⟩
    obtain ⟨tk, ⟨i0, h13, rn⟩, hE, hx, hr⟩ := id hc
    have hL := hx.2.1
    obtain ⟨jL, -⟩ := Tok_n tk
    obtain ⟨K, K5, K0, K6, k0, k1, k2⟩ := Tok_k tk
    obtain ⟨⟨v1, Mr1⟩, er1, j', n0, n1', n2, n3⟩ := r_here hr h13 (by have := rn.1; have := rn.2.1; omega)
    dsimp only at n1' n2 n3
    have ej := rnP_eq n0 rn
    subst ej
    have fS1 : frS R Mr Mr1 := fun b k z => n3 b k (by omega)
    have hr1 : rTx R Mr1 tx L := rTx_fr hr (fun b k z => n3 b k (by omega))
    have rnj : rnP sp32 tx L j' j' := ⟨Nat.le_refl _, jL, fun k a b => absurd b (by omega), rn.2.2.2⟩
    have hE1 : Mc P 8 = iI 0 ∧ Mc P 9 = iI (-1) ∧ Mr1 R 14 = iI 0 ∧ Mr1 R 15 = iI (-1) := ⟨hE.1, hE.2.1, (n3 _ _ (by omega)).trans hE.2.2.1, (n3 _ _ (by omega)).trans hE.2.2.2⟩
    have cs1 : CS P R tx L j' Mc Mr1 := ⟨tk, ⟨j', n2, rnj⟩, hE1, hx, hr1⟩
    have hp1 : PL P R v dr s Mc Mr1 := PL_fr hp (fun _ _ _ => rfl) fS1
    rw [f_X5_read_17, f_X7_readsText_57, er1, bd_s]
    dsimp only
    by_cases jE : j' = L
    · -- the end
      have K00 := k0.mpr jE
      subst K00
      rw [n1', if_neg (show ¬ j' < L by omega), if_pos rfl, K5, hE.1, if_pos (show iI 0 = 0 by decide), if_pos (show iI 0 = 0 by decide)]
      have := pW_mono (L_end a cs1 hp1) (fun rc z => pW_mono z (fun rr z' => FinP_t (Mc := Mc) (Mr := Mr) z' frCp_r (frRp_S fS1)))
      exact pW_if (fun _ => this) (fun _ => this)
    · have jlt : j' < L := by omega
      have Kn : K ≠ 0 := fun z => jE (k0.mp z)
      have i400 : i < 400 := by omega
      rw [if_neg (show ¬ (400 : Int32) ≤ iI (i : Int) by rw [iI_400, iI_le (by omega) (by omega)]; omega), hE.1, if_pos (show iI 0 = 0 by decide), K5, if_neg (show ¬ iI K = 0 by rw [iI_e0 (by omega)]; exact Kn), n1', if_pos jlt, if_neg (hb j' jlt)]
      obtain ⟨⟨v3, Mr3⟩, er3, f3, e, re, o3⟩ := r_takes (w := 4) hr1 n2 rnj (by omega)
      dsimp only at f3 o3
      rw [er3, bd_s]
      dsimp only
      have e41 : wdB tx j' e 4 = wdB tx j' e 1 := wd_e tx j' e 1 (by omega)
      have e52 : wdB tx j' e 5 = wdB tx j' e 2 := wd_e tx j' e 2 (by omega)
      rw [e41] at o3
      have fS3 : frS R Mr1 Mr3 := fun b k z => f3 b k (by omega)
      have hr3 : rTx R Mr3 tx L := rTx_fr hr1 (fun b k z => f3 b k (by omega))
      obtain ⟨⟨K1, K15, K1r, K1w⟩, K1e⟩ := Tok_w tk (show 1 < 3 by omega) re
      obtain ⟨⟨K2, K25, K2r, K2w⟩, K2e⟩ := Tok_w tk (show 2 < 3 by omega) re
      have q1 : K1 = K := by rw [K5, iI_eq (by omega) (by omega)] at K15; omega
      have q2 : K2 = K := by rw [K5, iI_eq (by omega) (by omega)] at K25; omega
      subst q1 q2
      have aft : ∀ (Mc' : fm_Mem) (r : Int32 × fm_Mem), OutP P R v tx L j' Mc Mr Mc' r → pW (f_X5_read_85 P a (fun x2 M => f_X5_read_17 P a u x2 M) (iI i) Mc') (fun rc => pW (f_X7_readsText_110 R (fun M => f_X7_readsText_57 R t M) r.1 r.2) (fun rr => FinP P R v Mc Mr rc rr)) := fun Mc' r o => L_after a o (by omega) h4 (fun j2 dr2 s2 Mc2 Mr2 z1 z2 cs2 pl2 => ih u t (i + 1) j2 dr2 s2 Mc2 Mr2 (by omega) (by omega) (by omega) (by omega) (by omega) cs2 pl2)
      -- an error at the beginning of the statement
      have bad : ∀ (Mr4 : fm_Mem), frS R Mr Mr4 → Mr4 R 14 = iI 0 → pW (f_X5_fail P (-2) Mc) (fun Mc' => pW (f_X7_fails R (-2) (Mr1 R 13) Mr4) (fun r => OutP P R v tx L j' Mc Mr Mc' r)) := fun Mr4 f4 h14 => by
        obtain ⟨Mc5, e5, es, f5⟩ := CS_fail hc (PL_pts hp) (c := -2) (by omega)
        obtain ⟨Mr5, g1, g2, g3, g4⟩ := r_fail2 (R := R) (c := -2) h14 (o := j') n2
        rw [i_m2, e5, g1]
        exact pW_some (pW_some ⟨⟨f5, frRp_S (frS_t f4 g4)⟩, Or.inr ⟨-2, j', es, rfl, g2, g3, rvn_S hp.2.1.1 (frS_t f4 g4), rld_S hp.2.1.2.2 (frS_t f4 g4)⟩⟩)
      by_cases wA : wdB tx j' e 1 = true
      · -- at
        have K4 := K1w.mpr wA
        rcases o3 with ⟨-, o31, o32⟩ | ⟨o3, -⟩
        · subst o31
          have f13 : frS R Mr Mr3 := frS_t fS1 fS3
          obtain ⟨c4, je⟩ := K1e wA
          rw [if_neg n10, if_pos (show iI K2 = 4 by rw [show (4 : Int32) = iI 4 by decide, iI_eq (by omega) (by omega)]; omega), hp.2.2.2.1]
          unfold f_X7_readsPoints
          rw [show Mr3 R 18 = iI (if dr then 1 else 0) from (f3 _ _ (by omega)).trans ((n3 _ _ (by omega)).trans hp.2.2.2.2)]
          cases dr with
          | false =>
            rw [if_pos (by decide), if_pos (by decide)]
            obtain ⟨Mc4, e4, j1, ej1, cs4, fT4⟩ := CS_next (P := P) (R := R) (Mr := Mr3) hx hr3 re.2.1 c4 o32 ⟨hE.1, hE.2.1, (f3 _ _ (by omega)).trans hE1.2.2.1, (f3 _ _ (by omega)).trans hE1.2.2.2⟩
            have hp4 : PL P R v false s Mc4 Mr3 := PL_fr hp (fun b k z => fT4 b k (by omega)) f13
            obtain ⟨⟨n, X, Y⟩, ⟨m, T⟩, ⟨d, D⟩, fl, pu⟩ := s
            have hn := hp4.2.2.1.1
            obtain ⟨Mc5, e5, r5, er5, o5⟩ := L_places (Mr1 R 13) 30 4999 4999 0 j1 n X Y m T d D fl pu Mc4 Mr3 (by omega) (by omega) (by omega) (by omega) cs4 hp4
            have e6 : f_X5_readPlaces P Mc = some Mc5 := by
              unfold f_X5_readPlaces
              rw [e4, bd_s, show fm_fuel = 4999 + 1 from rfl, f_X5_readPlaces_6, if_neg (by decide), cs4.2.2.1.1, if_pos (by decide), if_pos rfl]
              exact e5
            have er6 : f_X7_readsPoints_15 R (Mr1 R 13) fm_fuel Mr3 = some r5 := er5
            rw [e6, bd_s, er6, bd_s]
            exact aft Mc5 r5 (OutP_t o5 (by omega) (frCp_T fT4) (frRp_S f13))
          | true =>
            rw [if_neg (by decide), if_neg (by decide)]
            unfold f_X5_read_60
            rw [K5, if_neg (show ¬ iI K2 = 5 by rw [iI_5, iI_eq (by omega) (by omega)]; omega)]
            obtain ⟨Mc5, e5, r5, er5, o5⟩ := bad Mr3 f13 ((f3 _ _ (by omega)).trans hE1.2.2.1)
            rw [e5, bd_s, er5, bd_s]
            have z0 : r5.1 = 0 := by
              rcases o5.2 with ⟨j9, dr9, s9, h9, cs9, pl9, r9⟩ | ⟨code, off, es, r1, -⟩
              · exfalso
                obtain ⟨Mr5, g1, -⟩ := r_fail2 (R := R) (c := -2) (y := Mr1 R 13) (M := Mr3) ((f3 _ _ (by omega)).trans hE1.2.2.1) (o := j') n2
                rw [i_m2, g1] at er5
                exact r9 (by rw [← Option.some.inj er5])
              · exact r1
            rw [show fm_bo r5.1 = true by rw [z0]; rfl, ck_t, bd_s]
            exact aft Mc5 r5 o5
        · rw [wA] at o3; cases o3
      · have wA' : wdB tx j' e 1 = false := by cases y : wdB tx j' e 1 with | false => rfl | true => exact absurd y wA
        have K4 : ¬ K2 = 4 := fun z => wA (K1w.mp (by omega))
        rcases o3 with ⟨o3, -⟩ | ⟨-, o31, o32⟩
        · rw [wA'] at o3; cases o3
        subst o31
        rw [if_pos rfl, if_neg (show ¬ iI K2 = 4 by rw [show (4 : Int32) = iI 4 by decide, iI_eq (by omega) (by omega)]; omega)]
        unfold f_X5_read_60
        rw [K5]
        obtain ⟨⟨v4, Mr4⟩, er4, f4, e', re', o4⟩ := r_takes (w := 5) hr3 o32 rnj (by omega)
        dsimp only at f4 o4
        have ee := rnP_eq re' re
        subst ee
        rw [e52] at o4
        rw [er4, bd_s]
        dsimp only
        have fS4 : frS R Mr3 Mr4 := fun b k z => f4 b k (by omega)
        have f14 : frS R Mr Mr4 := frS_t fS1 (frS_t fS3 fS4)
        have h144 : Mr4 R 14 = iI 0 := (f4 _ _ (by omega)).trans ((f3 _ _ (by omega)).trans hE1.2.2.1)
        have hr4 : rTx R Mr4 tx L := rTx_fr hr3 (fun b k z => f4 b k (by omega))
        by_cases wF : wdB tx j' e' 2 = true
        · -- flip
          have K55 := K2w.mpr wF
          rcases o4 with ⟨-, o41, o42⟩ | ⟨o4, -⟩
          · subst o41
            obtain ⟨c4, je⟩ := K2e wF
            rw [if_neg n10, if_pos (show iI K2 = 5 by rw [iI_5, iI_eq (by omega) (by omega)]; omega)]
            have hE4 : Mc P 8 = iI 0 ∧ Mc P 9 = iI (-1) ∧ Mr4 R 14 = iI 0 ∧ Mr4 R 15 = iI (-1) := ⟨hE.1, hE.2.1, h144, (f4 _ _ (by omega)).trans ((f3 _ _ (by omega)).trans hE1.2.2.2)⟩
            have hp4 : PL P R v dr s Mc Mr4 := PL_fr hp (fun _ _ _ => rfl) f14
            unfold f_X7_readsFlip f_X5_draw f_X5_draw_26
            rw [hE.1, if_pos (show iI 0 = 0 by decide), hp4.2.2.2.1, hp4.2.2.2.2]
            cases dr with
            | true =>
              rw [if_neg (by decide), if_neg (by decide), bd_s]
              have hp5 : PL P R v true s Mc (fm_up Mr4 R 18 1) := by
                obtain ⟨a1, ⟨a2, a3, a4⟩, a5, a6, a7⟩ := hp4
                exact ⟨a1, ⟨⟨(up_i (by omega)).trans a2.1, a2.2⟩, rVs_L a3 (fun i p q => up_i (by omega)), rld_0 a4 (fun b k z => up_i (by omega))⟩, a5, a6, up_s⟩
              obtain ⟨Mc5, e5, r5, er5, o5⟩ := L_flip (j0 := j') hx hr4 re'.2.1 je c4 o42 hE4 hp5
              rw [e5, bd_s, er5, bd_s]
              exact aft Mc5 r5 (OutP_t o5 (Nat.le_refl _) frCp_r (frRp_S f14))
            | false =>
              rw [if_pos (by decide), if_pos (by decide)]
              obtain ⟨Mc5, e5, Mr5, er5, s', g, c1, c2, c3, c5, f5, g5⟩ := L_draw hp4
              rw [e5, bd_s, bd_s, er5, bd_s]
              have fC5 : frCp P Mc Mc5 := fun b k z => f5 b k (by omega) (by omega)
              have hp5 : PL P R v true s' Mc5 (fm_up Mr5 R 18 1) := ⟨c1, ⟨⟨(up_i (by omega)).trans c2.1.1, c2.1.2⟩, rVs_L c2.2.1 (fun i p q => up_i (by omega)), rld_0 c2.2.2 (fun b k z => up_i (by omega))⟩, c3, c5, up_s⟩
              have hE5 : Mc5 P 8 = iI 0 ∧ Mc5 P 9 = iI (-1) ∧ Mr5 R 14 = iI 0 ∧ Mr5 R 15 = iI (-1) := ⟨(f5 _ _ (by omega) (by omega)).trans hE4.1, (f5 _ _ (by omega) (by omega)).trans hE4.2.1, (g5 _ _ (by omega)).trans hE4.2.2.1, (g5 _ _ (by omega)).trans hE4.2.2.2⟩
              obtain ⟨Mc6, e6, r6, er6, o6⟩ := L_flip (j0 := j') (cTx_fr hx fC5) (rTx_fr hr4 (fun b k z => g5 b k (by omega))) re'.2.1 je ((f5 _ _ (by omega) (by omega)).trans c4) ((g5 _ _ (by omega)).trans o42) hE5 hp5
              rw [e6, bd_s, er6, bd_s]
              exact aft Mc6 r6 (OutP_t o6 (Nat.le_refl _) fC5 (frRp_t (frRp_S f14) (fun b k z => g5 b k (by omega))))
          · rw [wF] at o4; cases o4
        · have wF' : wdB tx j' e' 2 = false := by cases y : wdB tx j' e' 2 with | false => rfl | true => exact absurd y wF
          have K55 : ¬ K2 = 5 := fun z => wF (K2w.mp (by omega))
          rcases o4 with ⟨o4, -⟩ | ⟨-, o41, o42⟩
          · rw [wF'] at o4; cases o4
          subst o41
          rw [if_pos rfl, if_neg (show ¬ iI K2 = 5 by rw [iI_5, iI_eq (by omega) (by omega)]; omega)]
          obtain ⟨Mc5, e5, r5, er5, o5⟩ := bad Mr4 f14 h144
          rw [e5, bd_s, er5, bd_s]
          exact aft Mc5 r5 o5
end ST
end
