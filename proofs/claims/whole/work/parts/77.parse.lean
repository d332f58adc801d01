section
/-! reading a text: both sides in step -/
def frT (P : Nat) (M M' : fm_Mem) : Prop := ∀ b k, (b ≠ P ∨ (k ≠ 4 ∧ k ≠ 5 ∧ k ≠ 6 ∧ k ≠ 7)) → M' b k = M b k
def frS (R : Nat) (M M' : fm_Mem) : Prop := ∀ b k, (b ≠ R ∨ (k ≠ 13 ∧ k ≠ 14 ∧ k ≠ 15 ∧ k ≠ 16 ∧ k ≠ 17)) → M' b k = M b k
def frCp (P : Nat) (M M' : fm_Mem) : Prop := ∀ b k, (b < P ∨ b = P + 1 ∨ b = P + 2 ∨ P + 19 ≤ b ∨ (b = P ∧ k ≤ 3)) → M' b k = M b k
def frRp (R v : Nat) (M M' : fm_Mem) : Prop := ∀ b k, ((b ≠ R ∧ b ≠ R + 1 ∧ b ≠ R + 3 ∧ b ≠ R + 5) ∨ (b = R ∧ (k ≤ 7 ∨ k = 10 ∨ k = 11 ∨ k = 12)) ∨ (b = R + 1 ∧ (k < 200 * v ∨ 200 * v + 200 ≤ k))) → M' b k = M b k
theorem frCp_r {P : Nat} {M : fm_Mem} : frCp P M M := fun _ _ _ => rfl
theorem frCp_t {P : Nat} {M M1 M2 : fm_Mem} (h : frCp P M M1) (h' : frCp P M1 M2) : frCp P M M2 := fun b k z => (h' b k z).trans (h b k z)
theorem frCp_T {P : Nat} {M M' : fm_Mem} (h : frT P M M') : frCp P M M' := fun b k z => h b k (by omega)
theorem frRp_r {R v : Nat} {M : fm_Mem} : frRp R v M M := fun _ _ _ => rfl
theorem frRp_t {R v : Nat} {M M1 M2 : fm_Mem} (h : frRp R v M M1) (h' : frRp R v M1 M2) : frRp R v M M2 := fun b k z => (h' b k z).trans (h b k z)
theorem frRp_S {R v : Nat} {M M' : fm_Mem} (h : frS R M M') : frRp R v M M' := fun b k z => h b k (by omega)
theorem frS_t {R : Nat} {M M1 M2 : fm_Mem} (h : frS R M M1) (h' : frS R M1 M2) : frS R M M2 := fun b k z => (h' b k z).trans (h b k z)
def wOk (dr : Bool) : gPl → Prop
  | ((n, X, Y), (m, T), (d, D), _, _) => n ≤ 20 ∧ gbd n X Y ∧ gDis n X Y ∧ gDr n X Y m T ∧ (dr = true → dueL n X Y d D) ∧ (dr = false → m = 0 ∧ d = 0)
/-- the planes of both sides while a text is read -/
def PL (P R v : Nat) (dr : Bool) (s : gPl) (Mc Mr : fm_Mem) : Prop := cPl (P + 3) Mc s ∧ (rvn R Mr v ∧ rVs R Mr v s ∧ rld R Mr) ∧ wOk dr s ∧ Mc P 10 = iI (if dr then 1 else 0) ∧ Mr R 18 = iI (if dr then 1 else 0)
def CS (P R : Nat) (tx : Nat → Int32) (L j : Nat) (Mc Mr : fm_Mem) : Prop := Tok P tx L j Mc ∧ (∃ i : Nat, Mr R 13 = iI i ∧ rnP sp32 tx L i j) ∧ (Mc P 8 = iI 0 ∧ Mc P 9 = iI (-1) ∧ Mr R 14 = iI 0 ∧ Mr R 15 = iI (-1)) ∧ cTx P Mc tx L ∧ rTx R Mr tx L
/-- the class goes on behind an error -/
def ES (P : Nat) (tx : Nat → Int32) (L : Nat) (code off : Int) (M : fm_Mem) : Prop := cTx P M tx L ∧ (∃ i : Nat, i ≤ L ∧ M P 4 = iI i) ∧ (M P 8 = iI code ∧ M P 9 = iI off ∧ -10 ≤ code ∧ code < 0) ∧ ∃ n X Y, cpt (P + 3 + 1) M n X Y ∧ gbd n X Y
def OutP (P R v : Nat) (tx : Nat → Int32) (L j0 : Nat) (Mc Mr Mc' : fm_Mem) (r : Int32 × fm_Mem) : Prop := (frCp P Mc Mc' ∧ frRp R v Mr r.2) ∧ ((∃ j dr s, j0 < j ∧ CS P R tx L j Mc' r.2 ∧ PL P R v dr s Mc' r.2 ∧ ¬ r.1 = 0) ∨ ∃ code off, ES P tx L code off Mc' ∧ r.1 = 0 ∧ r.2 R 14 = iI code ∧ r.2 R 15 = iI off ∧ rvn R r.2 v ∧ rld R r.2)
section PA
variable {P R v L j : Nat} {tx : Nat → Int32} {Mc Mr M M' Mc' Mr' : fm_Mem} {dr : Bool} {s : gPl} {code off : Int}
theorem cTx_fr (h : cTx P M tx L) (f : frCp P M M') : cTx P M' tx L := ⟨(f _ _ (by omega)).trans h.1, h.2.1, fun k hk => (f _ _ (by omega)).trans (h.2.2 k hk)⟩
theorem PL_fr (h : PL P R v dr s Mc Mr) (f : ∀ b k, (b ≠ P ∨ (k ≠ 4 ∧ k ≠ 5 ∧ k ≠ 6 ∧ k ≠ 7 ∧ k ≠ 8 ∧ k ≠ 9)) → Mc' b k = Mc b k) (g : frS R Mr Mr') : PL P R v dr s Mc' Mr' := ⟨cPl_L h.1 (fun b p q => by funext k; exact f b k (by omega)), ⟨⟨(g _ _ (by omega)).trans h.2.1.1.1, h.2.1.1.2⟩, rVs_L h.2.1.2.1 (fun i p q => g _ _ (by omega)), rld_0 h.2.1.2.2 (fun b k z => g b k (by omega))⟩, h.2.2.1, (f _ _ (by omega)).trans h.2.2.2.1, (g _ _ (by omega)).trans h.2.2.2.2⟩
theorem kW_r (tx : Nat → Int32) (j e : Nat) : 3 ≤ kW tx j e ∧ kW tx j e ≤ 6 := by
  unfold kW
  split
  · omega
  · split
    · omega
    · split <;> omega
theorem Tok_n (h : Tok P tx L j M) : j ≤ L ∧ ∃ i, i ≤ L ∧ j ≤ i ∧ M P 4 = iI i := by
  rcases h.2 with ⟨a, b, c⟩ | ⟨a, b, c, e, d, f, g⟩ | ⟨a, b, c, e, d, f, g⟩ | ⟨a, b, c, d, e⟩
  · exact ⟨by omega, L, by omega, by omega, c⟩
  · exact ⟨by omega, e, d.2.1, d.1, f⟩
  · exact ⟨by omega, e, d.2.1, d.1, f⟩
  · exact ⟨by omega, j + 1, by omega, by omega, d⟩
theorem dg59 : dg 59 = false := by decide
theorem sm59 : sm 59 = false := by decide
theorem Tok_k (h : Tok P tx L j M) : ∃ K : Int, M P 5 = iI K ∧ 0 ≤ K ∧ K ≤ 6 ∧ (K = 0 ↔ j = L) ∧ (K = 1 ↔ j < L ∧ tx j = 59) ∧ (K = 2 ↔ j < L ∧ dg (tx j) = true) := by
  rcases h.2 with ⟨a, b, c⟩ | ⟨a, b, c, e, d, f, g⟩ | ⟨a, b, c, e, d, f, g⟩ | ⟨a, b, c, d, e⟩
  · exact ⟨0, b, by omega, by omega, by omega, by omega, by omega⟩
  · refine ⟨2, c, by omega, by omega, by omega, ⟨fun z => absurd z (by decide), fun z => ?_⟩, ⟨fun _ => ⟨a, b⟩, fun _ => rfl⟩⟩
    rw [z.2, dg59] at b; cases b
  · have := kW_r tx j e
    refine ⟨kW tx j e, g, by omega, by omega, by omega, ⟨fun z => by omega, fun z => ?_⟩, ⟨fun z => by omega, fun z => ?_⟩⟩
    · rw [z.2, sm59] at c; cases c
    · rw [z.2] at b; cases b
  · by_cases z : tx j = 59
    · rw [if_pos z] at e
      refine ⟨1, e, by omega, by omega, by omega, ⟨fun _ => ⟨a, z⟩, fun _ => rfl⟩, ⟨fun y => absurd y (by decide), fun y => ?_⟩⟩
      rw [y.2] at b; cases b
    · rw [if_neg z] at e
      refine ⟨6, e, by omega, by omega, by omega, ⟨fun y => absurd y (by decide), fun y => absurd y.2 z⟩, ⟨fun y => absurd y (by decide), fun y => ?_⟩⟩
      rw [y.2] at b; cases b
theorem ES_adv (h : ES P tx L code off M) : pW (f_X5_advance P M) (fun M' => ES P tx L code off M' ∧ frCp P M M') := by
  obtain ⟨h1, ⟨i, hi, h2⟩, h3, n, X, Y, h4, h5⟩ := h
  refine pW_mono (k_adv h1 h2 hi) (fun M' z => ?_)
  obtain ⟨⟨j, -, tk⟩, fr⟩ := z
  obtain ⟨-, i', hi', -, e4⟩ := Tok_n tk
  have fT : frT P M M' := fr
  exact ⟨⟨cTx_fr h1 (frCp_T fT), ⟨i', hi', e4⟩, ⟨(fr _ _ (by omega)).trans h3.1, (fr _ _ (by omega)).trans h3.2.1, h3.2.2⟩, n, X, Y, cpt_fr h4 (fun b p q => by funext k; exact fr b k (by omega)), h5⟩, frCp_T fT⟩
theorem ES_fail (h : ES P tx L code off M) (c : Int32) : f_X5_fail P c M = some M := by
  have hc := h.2.2.1
  unfold f_X5_fail f_X5_fail_20
  rw [hc.1, if_neg (by rw [iI_e0 (by omega)]; omega)]
theorem ES_num (h : ES P tx L code off M) (g : Int32) : f_X5_needNumber P g M = some M := by
  unfold f_X5_needNumber f_X5_needNumber_31
  rw [ES_fail h, ES_fail h, bd_s]
  by_cases c : M P 5 = 2
  · rw [if_pos c]
    by_cases c2 : M P 7 ≤ g
    · rw [if_pos c2]
    · rw [if_neg c2]
  · rw [if_neg c]
theorem ES_need (h : ES P tx L code off M) (a : Int32) : pW (f_X5_need P a M) (fun M' => ES P tx L code off M' ∧ frCp P M M') := by
  have k := ES_adv h
  unfold f_X5_need f_X5_need_14
  rw [ES_fail h, bd_s]
  have : pW (Option.bind (f_X5_advance P M) (fun v1 => some v1)) (fun M' => ES P tx L code off M' ∧ frCp P M M') := pW_bind (pW_mono k (fun r z => pW_some z))
  exact pW_if (fun _ => this) (fun _ => this)
/-- an error is marked -/
theorem CS_fail (h : CS P R tx L j Mc Mr) (hp : ∃ n X Y, cpt (P + 3 + 1) Mc n X Y ∧ gbd n X Y) {c : Int} (hc : -10 ≤ c ∧ c < 0) : pW (f_X5_fail P (iI c) Mc) (fun M' => ES P tx L c j M' ∧ frCp P Mc M') := by
  obtain ⟨tk, -, ⟨e8, e9, -, -⟩, hx, -⟩ := h
  obtain ⟨n, X, Y, hp1, hp2⟩ := hp
  obtain ⟨-, i, hi, -, e4⟩ := Tok_n tk
  unfold f_X5_fail f_X5_fail_20
  rw [e8, if_pos (show iI 0 = 0 by decide)]
  have fr : ∀ b k, (b ≠ P ∨ (k ≠ 8 ∧ k ≠ 9)) → fm_up (fm_up Mc P 8 (iI c)) P 9 (fm_up Mc P 8 (iI c) P 6) b k = Mc b k := fun b k z => by rw [up_i (by omega), up_i (by omega)]
  refine pW_some ⟨⟨⟨(fr _ _ (by omega)).trans hx.1, hx.2.1, fun k hk => (fr _ _ (by omega)).trans (hx.2.2 k hk)⟩, ⟨i, hi, (fr _ _ (by omega)).trans e4⟩, ⟨?_, ?_, hc⟩, n, X, Y, cpt_fr hp1 (fun b p q => by funext k; exact fr b k (by omega)), hp2⟩, fun b k z => fr b k (by omega)⟩
  · rw [up_i (by omega), up_s]
  · rw [up_s, up_i (by omega)]; exact tk.1
/-- the token is behind, the next one comes -/
theorem CS_next {e : Nat} (hx : cTx P Mc tx L) (hr : rTx R Mr tx L) (he : e ≤ L) (h4 : Mc P 4 = iI e) (h13 : Mr R 13 = iI e) (hE : Mc P 8 = iI 0 ∧ Mc P 9 = iI (-1) ∧ Mr R 14 = iI 0 ∧ Mr R 15 = iI (-1)) : pW (f_X5_advance P Mc) (fun Mc' => ∃ j, e ≤ j ∧ CS P R tx L j Mc' Mr ∧ frT P Mc Mc') := by
  refine pW_mono (k_adv hx h4 he) (fun M' z => ?_)
  obtain ⟨⟨j, rn, tk⟩, fr⟩ := z
  have fT : frT P Mc M' := fr
  exact ⟨j, rn.1, ⟨tk, ⟨e, h13, rn⟩, ⟨(fr _ _ (by omega)).trans hE.1, (fr _ _ (by omega)).trans hE.2.1, hE.2.2⟩, cTx_fr hx (frCp_T fT), hr⟩, fT⟩
theorem PL_pts (h : PL P R v dr s Mc Mr) : ∃ n X Y, cpt (P + 3 + 1) Mc n X Y ∧ gbd n X Y := by
  obtain ⟨⟨n, X, Y⟩, ⟨m, T⟩, ⟨d, D⟩, fl, pu⟩ := s
  exact ⟨n, X, Y, h.1.1, h.2.2.1.2.1⟩
theorem rEr_S (h : rEr R Mr Mr' code off) : frS R Mr Mr' := h.2.2
theorem rld_S (h : rld R Mr) (f : frS R Mr Mr') : rld R Mr' := rld_0 h (fun b k z => f b k (by omega))
theorem rvn_S (h : rvn R Mr v) (f : frS R Mr Mr') : rvn R Mr' v := ⟨(f _ _ (by omega)).trans h.1, h.2⟩
/-- the semicolon -/
theorem L_semi (h : CS P R tx L j Mc Mr) (hp : PL P R v dr s Mc Mr) : pW (f_X5_need P 1 Mc) (fun Mc' => pW (f_X7_sign R 59 Mr) (fun r => OutP P R v tx L j Mc Mr Mc' r)) := by
  obtain ⟨tk, ⟨i, h13, rn⟩, hE, hx, hr⟩ := id h
  obtain ⟨K, k5, k0, k6, -, k1, -⟩ := Tok_k tk
  obtain ⟨r, er, sg⟩ := r_sign59 hr h13 rn hE.2.2.1
  unfold f_X5_need f_X5_need_14
  rw [k5]
  by_cases c : j < L ∧ tx j = 59
  · rw [if_pos (by rw [iI_1, iI_eq (by omega) (by omega)]; exact k1.mpr c)]
    have e4 : Mc P 4 = iI ((j + 1 : Nat) : Int) := by
      rcases tk.2 with ⟨a, -⟩ | ⟨a, b, -⟩ | ⟨a, b, b2, -⟩ | ⟨a, b, b2, d, e⟩
      · omega
      · rw [c.2, dg59] at b; cases b
      · rw [c.2, sm59] at b2; cases b2
      · exact d
    rcases sg with ⟨-, -, s1, s2, s3⟩ | ⟨s0, -⟩
    · have fS : frS R Mr r.2 := fun b k z => s3 b k (by omega)
      refine pW_bind (pW_mono (CS_next (R := R) (Mr := r.2) hx (rTx_fr hr (fun b k z => s3 b k (by omega))) (show j + 1 ≤ L by omega) e4 s2 ⟨hE.1, hE.2.1, (s3 _ _ (by omega)).trans hE.2.2.1, (s3 _ _ (by omega)).trans hE.2.2.2⟩) (fun Mc' z => ?_))
      obtain ⟨j', hj', cs, fT⟩ := z
      exact pW_some (pW_of er ⟨⟨frCp_T fT, frRp_S fS⟩, Or.inl ⟨j', dr, s, by omega, cs, PL_fr hp (fun b k z => fT b k (by omega)) fS, by rw [s1]; decide⟩⟩)
    · exact absurd c s0
  · rw [if_neg (by rw [iI_1, iI_eq (by omega) (by omega)]; exact fun z => c (k1.mp z))]
    rcases sg with ⟨s0, s00, -⟩ | ⟨-, s1, s2⟩
    · exact absurd ⟨s0, s00⟩ c
    · obtain ⟨M1, m1, es, f1⟩ := CS_fail h (PL_pts hp) (c := -2) (by omega)
      rw [i_m2, m1, bd_s]
      refine pW_bind (pW_mono (ES_adv es) (fun M2 z => pW_some (pW_of er ⟨⟨frCp_t f1 z.2, frRp_S (rEr_S s2)⟩, Or.inr ⟨-2, j, z.1, s1, s2.1, s2.2.1, rvn_S hp.2.1.1 (rEr_S s2), rld_S hp.2.1.2.2 (rEr_S s2)⟩⟩)))
/-- a number -/
theorem L_num (h : CS P R tx L j Mc Mr) (hp : ∃ n X Y, cpt (P + 3 + 1) Mc n X Y ∧ gbd n X Y) {g : Int} (hg : -1 ≤ g ∧ g ≤ 200) : pW (f_X5_needNumber P (iI g) Mc) (fun Mc' => pW (f_X7_reads R 0 (iI g) Mr) (fun r => (Mc' = Mc ∧ r.1 = 1 ∧ ∃ (e : Nat) (x : Int), (0 ≤ x ∧ x ≤ g) ∧ (j < L ∧ j < e ∧ e ≤ L) ∧ (Mc P 4 = iI e ∧ Mc P 7 = iI x) ∧ (r.2 R 16 = iI x ∧ r.2 R 17 = iI j ∧ r.2 R 13 = iI e ∧ r.2 R 14 = iI 0 ∧ r.2 R 15 = iI (-1)) ∧ frS R Mr r.2) ∨ (∃ code, ES P tx L code j Mc' ∧ r.1 = 0 ∧ r.2 R 14 = iI code ∧ r.2 R 15 = iI j ∧ frCp P Mc Mc' ∧ frS R Mr r.2))) := by
  obtain ⟨tk, ⟨i, h13, rn⟩, hE, hx, hr⟩ := id h
  obtain ⟨K, k5, k0, k6, -, -, k2⟩ := Tok_k tk
  obtain ⟨r, er, sg⟩ := r_reads hr h13 rn hE.2.2.1 hg
  unfold f_X5_needNumber f_X5_needNumber_31
  rw [k5]
  by_cases c : j < L ∧ dg (tx j) = true
  · rw [if_pos (by rw [iI_2, iI_eq (by omega) (by omega)]; exact k2.mpr c)]
    rcases sg with ⟨s0, -⟩ | ⟨-, -, e, re, sg⟩
    · exact absurd c s0
    · have tke : Mc P 4 = iI e ∧ Mc P 7 = iI (cN tx j (e - j)) := by
        rcases tk.2 with ⟨a, -⟩ | ⟨a, b, b2, e', d, f, f2⟩ | ⟨a, b, b2, -⟩ | ⟨a, b, b2, d, e'⟩
        · omega
        · have := rnP_eq d re
          subst this
          exact ⟨f, f2⟩
        · rw [c.2] at b; cases b
        · rw [c.2] at b; cases b
      have dgs : ∀ k, k < e - j → dg (tx (j + k)) = true := fun k hk => re.2.2.1 _ (by omega) (by omega)
      have nvv := nv (tx := tx) (j := j) (e - j) dgs
      have cr := cN_r (e - j) dgs
      obtain ⟨n1', n2'⟩ := nv_le nvv hg.2
      rw [tke.2]
      by_cases c2 : cN tx j (e - j) ≤ g
      · rw [if_pos (by rw [iI_le (by omega) (by omega)]; exact c2)]
        rcases sg with ⟨s0, -⟩ | ⟨-, s1, s2, s3, s4, s5, s6⟩
        · exact absurd (n1'.mp c2) s0
        · have je : j < e := by
            refine Classical.byContradiction fun z => ?_
            have ej : e = j := by have := re.1; omega
            have := re.2.2.2 (by omega)
            rw [ej, c.2] at this; cases this
          have := n1'.mp c2
          exact pW_some (pW_of er (Or.inl ⟨rfl, s1, e, rN tx j (e - j), by omega, ⟨c.1, je, re.2.1⟩, ⟨tke.1, by rw [n2' c2]⟩, ⟨s2, s3, s4, s5, (s6 _ _ (by omega)).trans hE.2.2.2⟩, fun b k z => s6 b k (by omega)⟩))
      · rw [if_neg (by rw [iI_le (by omega) (by omega)]; exact c2)]
        rcases sg with ⟨-, s1, s2⟩ | ⟨s0, -⟩
        · obtain ⟨M1, m1, es, f1⟩ := CS_fail h hp (c := -3) (by omega)
          rw [i_m3, m1, bd_s]
          exact pW_some (pW_of er (Or.inr ⟨-3, es, s1, s2.1, s2.2.1, f1, rEr_S s2⟩))
        · exact absurd (n1'.mpr s0) c2
  · rw [if_neg (by rw [iI_2, iI_eq (by omega) (by omega)]; exact fun z => c (k2.mp z))]
    rcases sg with ⟨-, s1, s2⟩ | ⟨s0, s00, -⟩
    · obtain ⟨M1, m1, es, f1⟩ := CS_fail h hp (c := -2) (by omega)
      rw [i_m2, m1, bd_s]
      exact pW_some (pW_of er (Or.inr ⟨-2, es, s1, s2.1, s2.2.1, f1, rEr_S s2⟩))
    · exact absurd ⟨s0, s00⟩ c
end PA
end
