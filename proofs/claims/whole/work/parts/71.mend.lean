section
/-! mending, by both sides -/
section ME
variable {A R n m v : Nat} {M : fm_Mem} {X Y : Nat → Int} {T : Nat → Nat}
/-- where mending stops -/
def mStop (n : Nat) (X Y : Nat → Int) (m : Nat) (T : Nat → Nat) (a i : Nat) : Prop := i ≤ a ∧ (∀ j, j < i → ¬ gFB n X Y m (mT n X Y m T j) (-1)) ∧ (i = a ∨ gFB n X Y m (mT n X Y m T i) (-1))
theorem mStop_eq {a i j : Nat} (h : mStop n X Y m T a i) (h' : mStop n X Y m T a j) : i = j := by
  obtain ⟨h1, h2, h3⟩ := h
  obtain ⟨k1, k2, k3⟩ := h'
  rcases Nat.lt_trichotomy i j with z | z | z
  · rcases h3 with y | y
    · omega
    · exact absurd y (k2 i z)
  · exact z
  · rcases k3 with y | y
    · omega
    · exact absurd y (h2 j z)
theorem iI_100n : (100 : Int32) = iI ((100 : Nat) : Int) := iI_100
theorem k_mend (hp : cpt (A + 20 + 1) M n X Y) (hm : cMs (A + 20 + 6) M m T) (hb : gbd n X Y) (hdi : gDis n X Y) (hd : gDr n X Y m T) {fl : Int} (hf : M (A + 20) 3 = iI fl) {a : Nat} (ha : a ≤ 500) {z : Int} (hz : gFB n X Y m T z) : pW (f_X6_mend_34 A (iI a) fm_fuel 0 (iI z) M) (fun o => ∃ i M', o = .inr (iI ((i : Nat) : Int), M') ∧ mStop n X Y m T a i ∧ gDr n X Y m (mT n X Y m T i) ∧ cMs (A + 20 + 6) M' m (mT n X Y m T i) ∧ M' (A + 20) 3 = iI (fl + i) ∧ M' (A + 20) 4 = M (A + 20) 4 ∧ ∀ b, b ≠ A + 20 → b < A + 26 ∨ A + 31 ≤ b → M' b = M b) := by
  have hn := hp.2.1
  rw [show f_X6_mend_34 A (iI a) fm_fuel 0 (iI z) M = f_X6_mend_34 A (iI a) fm_fuel (iI ((0 : Nat) : Int)) (iI z) M from rfl]
  refine pW_lp (fun u i (s : Int × fm_Mem) => f_X6_mend_34 A (iI a) u (iI i) (iI s.1) s.2) (fun i s => gFB n X Y m (mT n X Y m T i) s.1 ∧ (∀ j, j < i → ¬ gFB n X Y m (mT n X Y m T j) (-1)) ∧ gDr n X Y m (mT n X Y m T i) ∧ cMs (A + 20 + 6) s.2 m (mT n X Y m T i) ∧ s.2 (A + 20) 3 = iI (fl + i) ∧ s.2 (A + 20) 4 = M (A + 20) 4 ∧ ∀ b, b ≠ A + 20 → b < A + 26 ∨ A + 31 ≤ b → s.2 b = M b) a ?_ fm_fuel 0 (z, M) ⟨hz, fun j hj => absurd hj (Nat.not_lt_zero j), hd, hm, (by show M (A + 20) 3 = _; rw [hf, show fl + ((0 : Nat) : Int) = fl by omega]), rfl, fun _ _ _ => rfl⟩ (Nat.zero_le _) (by unfold fm_fuel; omega)
  rintro u i ⟨z, M1⟩ hi ⟨hz, hN, hd1, hm1, hf1, hp1, fr⟩ k
  dsimp only at hz hN hd1 hm1 hf1 hp1 fr k ⊢
  have zr := gFB_r hn hz
  have cp1 : cpt (A + 20 + 1) M1 n X Y := cpt_fr hp (fun b p q => fr b (by omega) (by omega))
  rw [f_X6_mend_34]
  refine pW_if (fun q => ?_) (fun q => ?_)
  · rw [iI_le (by omega) (by omega)] at q
    exact pW_some ⟨i, M1, rfl, ⟨hi, hN, Or.inl (by omega)⟩, hd1, hm1, hf1, hp1, fr⟩
  · rw [iI_le (by omega) (by omega)] at q
    refine pW_if (fun q2 => ?_) (fun q2 => ?_)
    · rw [iI_n0 (by omega)] at q2
      have ez : z = -1 := by omega
      subst ez
      exact pW_some ⟨i, M1, rfl, ⟨hi, hN, Or.inr hz⟩, hd1, hm1, hf1, hp1, fr⟩
    · rw [iI_n0 (by omega)] at q2
      have hz' := id hz
      rcases hz with ⟨e, -⟩ | ⟨p, q', h1, h2, e, h3, -⟩
      · omega
      · have ref := gBad_ref hd1 hn (show p < 20 by omega) (show q' < 20 by omega) h3
        have e1 : z = ((100 * p + q' : Nat) : Int) := by omega
        rw [e1, iI_100n, iI_div (by omega) (by omega), iI_rem (by omega) (by omega), show (100 * p + q') / 100 = p by omega, show (100 * p + q') % 100 = q' by omega]
        obtain ⟨⟨x2, M2⟩, m2, T', t1, t2, t3, t4, t5, t6, t7⟩ := k_flip (P := A + 20) hm1 hb hdi hn hd1 (show p < n by omega) h2 ref
        dsimp only at t3 t4 t5 t6 t7
        rw [m2, bd_s]
        dsimp only
        have hz2 : gFB n X Y m (mT n X Y m T i) (100 * (p : Int) + q') := by rw [← e]; exact hz'
        have sm := mT_s hn h1 h2 hz2 t1
        have dr2 := gDr_T t2 sm
        have cm2 := cMs_cong t4 sm
        have cp2 : cpt (A + 20 + 1) M2 n X Y := cpt_fr cp1 (fun b p q => t7 b (by omega) (by omega))
        obtain ⟨x3, m3, z3, rfl, g3⟩ := k_fbad cp2 cm2 hb dr2.1
        rw [m3, bd_s, iI_s]
        refine k (z3, M2) (by omega) ⟨g3, fun j hj => ?_, dr2, cm2, (by show M2 (A + 20) 3 = _; rw [t5, hf1, iI_1, iI_add, show fl + (i : Int) + 1 = fl + ((i + 1 : Nat) : Int) by omega]), (t6 4 (by omega)).trans hp1, fun b b1 b2 => (t7 b b1 (by omega)).trans (fr b b1 b2)⟩
        by_cases ej : j = i
        · subst ej
          exact fun w => by have := gFB_eq w hz'; omega
        · exact hN j (by omega)
theorem r_mend (hp : rpt R M v n X Y) (hm : rtr R M v m T) (hb : gbd n X Y) (hdi : gDis n X Y) (hd : gDr n X Y m T) {fl : Int} (hf : M (R + 1) (200 * v + 2) = iI fl) {a : Nat} (ha : a ≤ 500) {z : Int} (hz : gFB n X Y m T z) : pW (f_X7_mend_34 R (iI a) fm_fuel 0 (iI z) M) (fun o => ∃ i M', o = (iI ((i : Nat) : Int), M') ∧ mStop n X Y m T a i ∧ rtr R M' v m (mT n X Y m T i) ∧ M' (R + 1) (200 * v + 2) = iI (fl + i) ∧ ∀ b j, (b ≠ R + 1 ∨ (j ≠ 200 * v + 2 ∧ (j < 200 * v + 60 ∨ 200 * v + 180 ≤ j))) → M' b j = M b j) := by
  have hn := hp.2.1
  rw [show f_X7_mend_34 R (iI a) fm_fuel 0 (iI z) M = f_X7_mend_34 R (iI a) fm_fuel (iI ((0 : Nat) : Int)) (iI z) M from rfl]
  refine pW_lp (fun u i (s : Int × fm_Mem) => f_X7_mend_34 R (iI a) u (iI i) (iI s.1) s.2) (fun i s => gFB n X Y m (mT n X Y m T i) s.1 ∧ (∀ j, j < i → ¬ gFB n X Y m (mT n X Y m T j) (-1)) ∧ gDr n X Y m (mT n X Y m T i) ∧ rtr R s.2 v m (mT n X Y m T i) ∧ s.2 (R + 1) (200 * v + 2) = iI (fl + i) ∧ ∀ b j, (b ≠ R + 1 ∨ (j ≠ 200 * v + 2 ∧ (j < 200 * v + 60 ∨ 200 * v + 180 ≤ j))) → s.2 b j = M b j) a ?_ fm_fuel 0 (z, M) ⟨hz, fun j hj => absurd hj (Nat.not_lt_zero j), hd, hm, (by show M (R + 1) (200 * v + 2) = _; rw [hf, show fl + ((0 : Nat) : Int) = fl by omega]), fun _ _ _ => rfl⟩ (Nat.zero_le _) (by unfold fm_fuel; omega)
  rintro u i ⟨z, M1⟩ hi ⟨hz, hN, hd1, hm1, hf1, fr⟩ k
  dsimp only at hz hN hd1 hm1 hf1 fr k ⊢
  have zr := gFB_r hn hz
  have rp1 : rpt R M1 v n X Y := by
    refine ⟨⟨(fr R 3 (by omega)).trans hp.1.1, hp.1.2⟩, hn, (fr _ _ (by omega)).trans hp.2.2.1, fun k hk => ?_⟩
    rw [fr _ _ (by omega), fr _ _ (by omega)]; exact hp.2.2.2 k hk
  rw [f_X7_mend_34]
  unfold f_X7_mend_78 f_X7_mend_71
  refine pW_if (fun q => ?_) (fun q => ?_)
  · rw [iI_le (by omega) (by omega)] at q
    exact pW_some ⟨i, M1, rfl, ⟨hi, hN, Or.inl (by omega)⟩, hm1, hf1, fr⟩
  · rw [iI_le (by omega) (by omega)] at q
    refine pW_if (fun q2 => ?_) (fun q2 => ?_)
    · rw [iI_em (by omega)] at q2
      subst q2
      exact pW_some ⟨i, M1, rfl, ⟨hi, hN, Or.inr hz⟩, hm1, hf1, fr⟩
    · rw [iI_em (by omega)] at q2
      have hz' := id hz
      rcases hz with ⟨e, -⟩ | ⟨p, q', h1, h2, e, h3, -⟩
      · omega
      · have ref := gBad_ref hd1 hn (show p < 20 by omega) (show q' < 20 by omega) h3
        have e1 : z = ((100 * p + q' : Nat) : Int) := by omega
        rw [e1, iI_100n, iI_div (by omega) (by omega), iI_rem (by omega) (by omega), show (100 * p + q') / 100 = p by omega, show (100 * p + q') % 100 = q' by omega]
        obtain ⟨⟨x2, M2⟩, m2, T', t1, t2, t3, t4, t5, t7⟩ := r_flips hm1 hb hdi hn hd1 (show p < n by omega) h2 ref hf1
        dsimp only at t3 t4 t5 t7
        rw [m2, bd_s]
        dsimp only
        have hz2 : gFB n X Y m (mT n X Y m T i) (100 * (p : Int) + q') := by rw [← e]; exact hz'
        have sm := mT_s hn h1 h2 hz2 t1
        have dr2 := gDr_T t2 sm
        have cm2 := rtr_cong t4 sm
        have rp2 : rpt R M2 v n X Y := by
          refine ⟨⟨(t7 R 3 (by omega)).trans rp1.1.1, hp.1.2⟩, hn, (t7 _ _ (by omega)).trans rp1.2.2.1, fun k hk => ?_⟩
          rw [t7 _ _ (by omega), t7 _ _ (by omega)]; exact rp1.2.2.2 k hk
        obtain ⟨⟨x3, M3⟩, m3, y1, z3, y2, g3⟩ := r_fbad rp2 cm2 hb dr2.1
        dsimp only at y1 y2
        subst y1 y2
        have e12 : gE1 m (mT n X Y m T i) p q' < 20 ∧ gE2 m (mT n X Y m T i) p q' < 20 := by
          obtain ⟨g1, g2, -⟩ := gE_two (of_decide_eq_true h3).1
          omega
        rw [t3, if_neg (by rw [iI_n0 (by omega)]; omega), m3, bd_s, iI_s]
        refine k (z3, M3) (by omega) ⟨g3, fun j hj => ?_, dr2, cm2, (by show M3 (R + 1) (200 * v + 2) = _; rw [t5, show fl + (i : Int) + 1 = fl + ((i + 1 : Nat) : Int) by omega]), fun b j w => (t7 b j (by omega)).trans (fr b j w)⟩
        by_cases ej : j = i
        · subst ej
          exact fun w => by have := gFB_eq w hz'; omega
        · exact hN j (by omega)
end ME
end
