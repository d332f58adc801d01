/-! the reference: due triangles, laid anew when points are others -/
def rdu (P : Nat) (M : fm_Mem) (n : Nat) (X Y : Nat → Int) (d : Nat) (D : Nat → Nat) : Prop := M P 9 = iI n ∧ (∀ k, k < n → M (P + 5) (2 * k) = iI (X k) ∧ M (P + 5) (2 * k + 1) = iI (Y k)) ∧ M P 8 = iI d ∧ d ≤ 35 ∧ dueL n X Y d D ∧ ∀ t, t < d → M (P + 3) (3 * t) = iI ((D t / 400 : Nat) : Int) ∧ M (P + 3) (3 * t + 1) = iI ((D t / 20 % 20 : Nat) : Int) ∧ M (P + 3) (3 * t + 2) = iI ((D t % 20 : Nat) : Int)
def rld (P : Nat) (M : fm_Mem) : Prop := M P 9 = iI (-1) ∨ ∃ n X Y d D, n ≤ 20 ∧ gbd n X Y ∧ rdu P M n X Y d D
/-- what the laying of due triangles may change -/
def frL (P : Nat) (M M' : fm_Mem) : Prop := ∀ b j, (b ≠ P + 3 ∧ b ≠ P + 5 ∧ (b ≠ P ∨ (j ≠ 8 ∧ j ≠ 9))) → M' b j = M b j
theorem rpt_L {P v n : Nat} {M M' : fm_Mem} {X Y : Nat → Int} (h : rpt P M v n X Y) (f : frL P M M') : rpt P M' v n X Y := by
  refine ⟨⟨(f P 3 (by omega)).trans h.1.1, h.1.2⟩, h.2.1, (f (P + 1) _ (by omega)).trans h.2.2.1, fun k hk => ?_⟩
  rw [f (P + 1) _ (by omega), f (P + 1) _ (by omega)]
  exact h.2.2.2 k hk
section RD
variable {P v n : Nat} {M : fm_Mem} {X Y : Nat → Int}
theorem r_isDue (h : rpt P M v n X Y) (hb : gbd n X Y) {a b c : Nat} (h1 : a < b) (h2 : b < c) (h3 : c < n) : pW (f_X7_isDue P (iI a) (iI b) (iI c) M) (fun v => v = 0 ↔ ¬ gDue n X Y a b c) := by
  have hn := h.2.1
  have ha : a < n := by omega
  have hb' : b < n := by omega
  have t0 := gT_bd hb ha hb' h3
  have rot := gT_rot X Y a b c
  unfold f_X7_isDue
  rw [r_turn h hb ha hb' h3, bd_s, iL_0]
  simp only [lg_cmp_eq]
  simp (disch := omega) only [iL_eq]
  have z1 : ¬ (1 : Int32) = 0 := by decide
  refine pW_if (fun q => ?_) (fun q => ?_)
  · exact pW_some ⟨fun _ hd => hd.2.2.2.1 q, fun _ => rfl⟩
  have q' : gT X Y b c a ≠ 0 := by rw [rot]; exact q
  rw [iI_0]
  refine pW_lp (fun u i (_ : Unit) => f_X7_isDue_21 P (iI a) (iI b) (iI c) u (iI i) M) (fun i _ => ∀ d, d < i → d ≠ a → d ≠ b → d ≠ c → gI X Y a b c (X d) (Y d) ≤ 0 ∧ (gI X Y a b c (X d) (Y d) = 0 → a < d ∧ 0 < gT X Y b c d * gT X Y b c a)) n ?_ fm_fuel 0 () (fun j hj => absurd hj (Nat.not_lt_zero j)) (Nat.zero_le _) (by unfold fm_fuel; omega)
  intro u i s hi hI k
  rw [f_X7_isDue_21, r_points h, bd_s]
  simp (disch := omega) only [iI_le]
  refine pW_if (fun q1 => ?_) (fun q1 => ?_)
  · have e : i = n := by omega
    subst e
    refine pW_some ⟨fun e => absurd e z1, fun e => absurd ⟨h1, h2, h3, q, hI⟩ e⟩
  · have hin : i < n := by omega
    have ti := gT_bd hb hb' h3 hin
    have ta := gT_bd hb hb' h3 ha
    have si := gSg_r (gI X Y a b c (X i) (Y i))
    have ui := gSg_r (gT X Y b c i)
    have ua := gSg_r (gT X Y b c a)
    have st : (i = a ∨ i = b ∨ i = c ∨ (gI X Y a b c (X i) (Y i) ≤ 0 ∧ (gI X Y a b c (X i) (Y i) = 0 → a < i ∧ 0 < gT X Y b c i * gT X Y b c a))) → ∀ d, d < i + 1 → d ≠ a → d ≠ b → d ≠ c → gI X Y a b c (X d) (Y d) ≤ 0 ∧ (gI X Y a b c (X d) (Y d) = 0 → a < d ∧ 0 < gT X Y b c d * gT X Y b c a) := fun z d hd n1 n2 n3 => by
      by_cases e : d = i
      · subst e
        rcases z with y | y | y | y
        · exact absurd y n1
        · exact absurd y n2
        · exact absurd y n3
        · exact y
      · exact hI d (by omega) n1 n2 n3
    have no : i ≠ a → i ≠ b → i ≠ c → (gI X Y a b c (X i) (Y i) ≤ 0 → gI X Y a b c (X i) (Y i) = 0 ∧ (i < a ∨ ¬ 0 < gT X Y b c i * gT X Y b c a)) → ¬ gDue n X Y a b c := fun n1 n2 n3 z hd => by
      have := hd.2.2.2.2 i hin n1 n2 n3
      have y := z this.1
      have w := this.2 y.1
      rcases y.2 with x | x
      · omega
      · exact x w.2
    rw [r_circleBy h hb ha hb' h3 hin, bd_s, r_turn h hb hb' h3 hin, bd_s, r_sign (by omega), bd_s, r_turn h hb hb' h3 ha, bd_s, r_sign (by omega), bd_s]
    simp only [f_X7_isDue_102, f_X7_isDue_104, iI_s]
    simp (disch := omega) only [iI_0, iI_le, iI_eq, iI_lt]
    simp only [gSg_eq q', gSg_0, gSg_p]
    refine pW_if (fun q2 => k () hin (st (by omega))) (fun q2 => pW_if (fun q3 => k () hin (st (by omega))) (fun q3 => pW_if (fun q4 => k () hin (st (by omega))) (fun q4 => pW_if (fun q5 => ?_) (fun q5 => pW_if (fun q6 => pW_if (fun q7 => ?_) (fun q7 => pW_if (fun q8 => ?_) (fun q8 => ?_))) (fun q6 => ?_)))))
    · exact pW_some ⟨fun _ => no (by omega) (by omega) (by omega) (fun z => by omega), fun _ => rfl⟩
    · exact pW_some ⟨fun _ => no (by omega) (by omega) (by omega) (fun _ => ⟨q6, Or.inl (by omega)⟩), fun _ => rfl⟩
    · exact k () hin (st (Or.inr (Or.inr (Or.inr ⟨by omega, fun _ => ⟨by omega, q8⟩⟩))))
    · exact pW_some ⟨fun _ => no (by omega) (by omega) (by omega) (fun _ => ⟨q6, Or.inr q8⟩), fun _ => rfl⟩
    · exact k () hin (st (Or.inr (Or.inr (Or.inr ⟨by omega, fun e => absurd e q6⟩))))
/-- the coordinates as they lie -/
def cO (X Y : Nat → Int) (k : Nat) : Int := if k % 2 = 0 then X (k / 2) else Y (k / 2)
theorem cO_bd (hb : gbd n X Y) {k : Nat} (hk : k < 2 * n) : 0 ≤ cO X Y k ∧ cO X Y k ≤ 200 := by
  have := hb (k / 2) (by omega)
  unfold cO
  split <;> omega
theorem r_co (h : rpt P M v n X Y) {k : Nat} (hk : k < 2 * n) : M (P + 1) (200 * v + (10 + k)) = iI (cO X Y k) := by
  have := h.2.2.2 (k / 2) (by omega)
  unfold cO
  split
  · rw [← this.1, show 10 + 2 * (k / 2) = 10 + k by omega]
  · rw [← this.2, show 10 + 2 * (k / 2) + 1 = 10 + k by omega]
theorem r_isLaid (h : rpt P M v n X Y) : pW (f_X7_isLaid P M) (fun r => (r = 0 ∧ ¬ (M P 9 = iI n ∧ ∀ k, k < 2 * n → M (P + 5) k = iI (cO X Y k))) ∨ (r = 1 ∧ M P 9 = iI n ∧ ∀ k, k < 2 * n → M (P + 5) k = iI (cO X Y k))) := by
  have hn := h.2.1
  have z1 : ¬ (1 : Int32) = 0 := by decide
  unfold f_X7_isLaid f_X7_isLaid_16
  rw [r_points h, bd_s]
  refine pW_if (fun q => ?_) (fun q => ?_)
  · rw [iI_0]
    refine pW_lp (fun u i (s : Int32) => f_X7_isLaid_19 P u s (iI i) M) (fun i s => (s = 1 ∧ ∀ k, k < i → M (P + 5) k = iI (cO X Y k)) ∨ (s = 0 ∧ ∃ k, k < 2 * n ∧ M (P + 5) k ≠ iI (cO X Y k))) (2 * n) ?_ fm_fuel 0 1 (Or.inl ⟨rfl, fun k hk => absurd hk (Nat.not_lt_zero k)⟩) (Nat.zero_le _) (by unfold fm_fuel; omega)
    intro u i s hi hI kk
    rw [f_X7_isLaid_19, r_points h, bd_s, iI_2, iI_mul, iI_10, iI_add, show (10 : Int) + (i : Int) = ((10 + i : Nat) : Int) by omega, show (2 : Int) * (n : Int) = ((2 * n : Nat) : Int) by omega]
    simp (disch := omega) only [iI_le, f_X7_isLaid_62, f_X7_isLaid_55, iI_s]
    rcases hI with ⟨rfl, hI⟩ | ⟨rfl, k0, hk0, hne⟩
    · rw [bo_1, ck_t, if_neg z1]
      refine pW_if (fun q1 => ?_) (fun q1 => ?_)
      · have e : i = 2 * n := by omega
        subst e
        exact pW_some (Or.inr ⟨rfl, q, hI⟩)
      · rw [in_t (show i < 40 by omega) (by omega), ck_t, r_get h.1 (by omega), bd_s, r_co h (by omega), iI_nn (by omega), Int.toNat_natCast]
        refine pW_if (fun q2 => ?_) (fun q2 => ?_)
        · refine kk 1 (by omega) (Or.inl ⟨rfl, fun k hk => ?_⟩)
          by_cases e : k = i
          · rw [e]; exact q2
          · exact hI k (by omega)
        · exact kk 0 (by omega) (Or.inr ⟨rfl, i, by omega, q2⟩)
    · rw [bo_0, ck_t, if_pos rfl]
      have : pW (some (0 : Int32)) (fun r => (r = 0 ∧ ¬ (M P 9 = iI n ∧ ∀ k, k < 2 * n → M (P + 5) k = iI (cO X Y k))) ∨ (r = 1 ∧ M P 9 = iI n ∧ ∀ k, k < 2 * n → M (P + 5) k = iI (cO X Y k))) := pW_some (Or.inl ⟨rfl, fun z => hne (z.2 k0 hk0)⟩)
      split <;> exact this
  · rw [show fm_fuel = 4999 + 1 from rfl, f_X7_isLaid_19, r_points h, bd_s, if_pos rfl]
    simp only [f_X7_isLaid_62, bo_0, ck_t]
    have : pW (some (0 : Int32)) (fun r => (r = 0 ∧ ¬ (M P 9 = iI n ∧ ∀ k, k < 2 * n → M (P + 5) k = iI (cO X Y k))) ∨ (r = 1 ∧ M P 9 = iI n ∧ ∀ k, k < 2 * n → M (P + 5) k = iI (cO X Y k))) := pW_some (Or.inl ⟨rfl, fun z => q z.1⟩)
    split <;> exact this
theorem rdu_co {d : Nat} {D : Nat → Nat} (h : rdu P M n X Y d D) {k : Nat} (hk : k < 2 * n) : M (P + 5) k = iI (cO X Y k) := by
  have := h.2.1 (k / 2) (by omega)
  unfold cO
  split
  · rw [← this.1, show 2 * (k / 2) = k by omega]
  · rw [← this.2, show 2 * (k / 2) + 1 = k by omega]
theorem r_lay_id (h : rpt P M v n X Y) {d : Nat} {D : Nat → Nat} (hd : rdu P M n X Y d D) : f_X7_laysDue P M = some M := by
  obtain ⟨r, e, hr⟩ := r_isLaid h
  unfold f_X7_laysDue
  rw [e, bd_s]
  rcases hr with ⟨_, z⟩ | ⟨rfl, _⟩
  · exact absurd ⟨hd.1, fun k hk => rdu_co hd hk⟩ z
  · rw [if_neg (by decide)]
theorem r_adds {d a b c : Nat} (hd : M P 8 = iI d) (h : d < 40) : f_X7_adds P (iI a) (iI b) (iI c) M = some (fm_up (fm_up (fm_up (fm_up M (P + 3) (3 * d) (iI a)) (P + 3) (3 * d + 1) (iI b)) (P + 3) (3 * d + 2) (iI c)) P 8 (iI ((d + 1 : Nat) : Int))) := by
  unfold f_X7_adds
  have e0 : (3 : Int32) * M P 8 = iI ((3 * d : Nat) : Int) := by rw [hd, iI_3, iI_mul]; congr 1
  have e1 : (3 : Int32) * M P 8 + 1 = iI ((3 * d + 1 : Nat) : Int) := by rw [e0, iI_1, iI_add]; congr 1
  have e2 : (3 : Int32) * M P 8 + 2 = iI ((3 * d + 2 : Nat) : Int) := by rw [e0, iI_2, iI_add]; congr 1
  have ne : P ≠ P + 3 := by omega
  simp only [up_ne ne]
  rw [e1, e2, e0, in_t (by omega) (by omega), in_t (by omega) (by omega), in_t (by omega) (by omega), iI_nn (by omega), iI_nn (by omega), iI_nn (by omega), Int.toNat_natCast, Int.toNat_natCast, Int.toNat_natCast, hd, iI_s]
  rfl
def rdT (P : Nat) (M : fm_Mem) (d : Nat) (D : Nat → Nat) : Prop := M P 8 = iI d ∧ ∀ t, t < d → M (P + 3) (3 * t) = iI ((D t / 400 : Nat) : Int) ∧ M (P + 3) (3 * t + 1) = iI ((D t / 20 % 20 : Nat) : Int) ∧ M (P + 3) (3 * t + 2) = iI ((D t % 20 : Nat) : Int)
theorem r_lay (h : rpt P M v n X Y) (hb : gbd n X Y) (hdi : gDis n X Y) (hl : rld P M) : pW (f_X7_laysDue P M) (fun M' => (∃ d D, rdu P M' n X Y d D) ∧ frL P M M') := by
  have hn := h.2.1
  obtain ⟨r, e, hr⟩ := r_isLaid h
  unfold f_X7_laysDue
  rw [e, bd_s]
  rcases hr with ⟨rfl, z⟩ | ⟨rfl, z1, z2⟩
  · rw [if_pos rfl, r_points h, bd_s, iI_0]
    refine pW_lp (fun u i (M1 : fm_Mem) => f_X7_laysDue_18 P u (iI i) M1) (fun i M1 => frL P M M1 ∧ M1 P 9 = iI n ∧ ∀ k, k < i → M1 (P + 5) k = iI (cO X Y k)) (2 * n) ?_ fm_fuel 0 (fm_up M P 9 (iI n)) ⟨fun b j z => up_i (by omega), up_s, fun k hk => absurd hk (Nat.not_lt_zero k)⟩ (Nat.zero_le _) (by unfold fm_fuel; omega)
    intro u i M1 hi hI kk
    obtain ⟨f1, c1, c2⟩ := hI
    have h1 := rpt_L h f1
    rw [f_X7_laysDue_18, r_points h1, bd_s, iI_2, iI_mul, iI_10, iI_add, show (10 : Int) + (i : Int) = ((10 + i : Nat) : Int) by omega, show (2 : Int) * (n : Int) = ((2 * n : Nat) : Int) by omega]
    simp (disch := omega) only [iI_le, iI_s]
    refine pW_if (fun q1 => ?_) (fun q1 => ?_)
    · have e : i = 2 * n := by omega
      subst e
      clear kk
      -- the due triangles
      have I0 : dueP n X Y 0 0 (fun _ => 0) := ⟨⟨fun i j _ hj => by omega, fun i hi => by omega⟩, fun a b c _ _ _ => ⟨fun ⟨i, hi, _⟩ => by omega, fun z => by omega⟩⟩
      have S0 : frL P M (fm_up M1 P 8 0) ∧ fm_up M1 P 8 0 P 9 = iI n ∧ (∀ k, k < 2 * n → fm_up M1 P 8 0 (P + 5) k = iI (cO X Y k)) ∧ rdT P (fm_up M1 P 8 0) 0 (fun _ => 0) := ⟨fun b j z => (up_i (by omega)).trans (f1 b j z), (up_i (by omega)).trans c1, fun k hk => (up_i (by omega)).trans (c2 k hk), up_s, fun t ht => by omega⟩
      rw [iI_0] at S0 ⊢
      refine pW_lp (fun u i (z : fm_Mem × Nat × (Nat → Nat)) => f_X7_laysDue_55 P u (iI i) z.1) (fun i z => dueP n X Y (i * 400) z.2.1 z.2.2 ∧ frL P M z.1 ∧ z.1 P 9 = iI n ∧ (∀ k, k < 2 * n → z.1 (P + 5) k = iI (cO X Y k)) ∧ rdT P z.1 z.2.1 z.2.2) n ?_ fm_fuel 0 (fm_up M1 P 8 (iI 0), 0, fun _ => 0) ⟨by rw [Nat.zero_mul]; exact I0, S0⟩ (Nat.zero_le _) (by unfold fm_fuel; omega)
      intro u a z ha hI k
      obtain ⟨M1, d, D⟩ := z
      obtain ⟨p1, g1⟩ := hI
      dsimp only at p1 g1 k ⊢
      rw [f_X7_laysDue_55, r_points (rpt_L h g1.1), bd_s]
      simp (disch := omega) only [iI_le, iI_s]
      refine pW_if (fun q1 => ?_) (fun q1 => ?_)
      · have e : a = n := by omega
        subst e
        refine pW_some ⟨⟨d, D, g1.2.1, fun k hk => ?_, g1.2.2.2.1, gDr_m (dueP_Dr hn hdi p1) hn hb hdi, ⟨p1.1, fun a b c h1 h2 h3 => ?_⟩, g1.2.2.2.2⟩, g1.1⟩
        · have w1 := g1.2.2.1 (2 * k) (by omega)
          have w2 := g1.2.2.1 (2 * k + 1) (by omega)
          unfold cO at w1 w2
          rw [if_pos (by omega), show 2 * k / 2 = k by omega] at w1
          rw [if_neg (by omega), show (2 * k + 1) / 2 = k by omega] at w2
          exact ⟨w1, w2⟩
        · rw [p1.2 a b c h1 h2 h3]
          exact ⟨fun z => z.1, fun z => ⟨z, by omega⟩⟩
      · refine pW_lp (fun w j (z : fm_Mem × Nat × (Nat → Nat)) => f_X7_laysDue_67 P (fun x1 M => f_X7_laysDue_55 P u x1 M) w (iI a) (iI j) z.1) (fun j z => a < j ∧ dueP n X Y ((a * 20 + j) * 20) z.2.1 z.2.2 ∧ frL P M z.1 ∧ z.1 P 9 = iI n ∧ (∀ k, k < 2 * n → z.1 (P + 5) k = iI (cO X Y k)) ∧ rdT P z.1 z.2.1 z.2.2) n ?_ fm_fuel (a + 1) (M1, d, D) ⟨by omega, dueP_K p1 (fun a' b' c' k1 k2 k3 => by omega), g1⟩ (by omega) (by unfold fm_fuel; omega)
        intro w b z hb1 hI kb
        obtain ⟨M1, d, D⟩ := z
        obtain ⟨hab, p1, g1⟩ := hI
        dsimp only at p1 g1 kb ⊢
        rw [f_X7_laysDue_67, r_points (rpt_L h g1.1), bd_s]
        simp (disch := omega) only [iI_le, iI_s]
        refine pW_if (fun q2 => ?_) (fun q2 => ?_)
        · exact k (M1, d, D) (by omega) ⟨dueP_K p1 (fun a' b' c' k1 k2 k3 => by rcases Nat.lt_trichotomy a' a with z | z | z <;> omega), g1⟩
        · refine pW_lp (fun y l (z : fm_Mem × Nat × (Nat → Nat)) => f_X7_laysDue_79 P (fun x1 M => f_X7_laysDue_55 P u x1 M) (fun x1 x2 M => f_X7_laysDue_67 P (fun x1 M => f_X7_laysDue_55 P u x1 M) w x1 x2 M) y (iI a) (iI b) (iI l) z.1) (fun l z => b < l ∧ dueP n X Y ((a * 20 + b) * 20 + l) z.2.1 z.2.2 ∧ frL P M z.1 ∧ z.1 P 9 = iI n ∧ (∀ k, k < 2 * n → z.1 (P + 5) k = iI (cO X Y k)) ∧ rdT P z.1 z.2.1 z.2.2) n ?_ fm_fuel (b + 1) (M1, d, D) ⟨by omega, dueP_K p1 (fun a' b' c' k1 k2 k3 => by omega), g1⟩ (by omega) (by unfold fm_fuel; omega)
          intro y c z hc1 hI kc
          obtain ⟨M1, d, D⟩ := z
          obtain ⟨hbc, p1, g1⟩ := hI
          dsimp only at p1 g1 kc ⊢
          rw [f_X7_laysDue_79, r_points (rpt_L h g1.1), bd_s]
          simp (disch := omega) only [iI_le, iI_s, f_X7_laysDue_104]
          refine pW_if (fun q3 => ?_) (fun q3 => ?_)
          · exact kb (M1, d, D) (by omega) ⟨by omega, dueP_K p1 (fun a' b' c' k1 k2 k3 => by omega), g1⟩
          · have hcn : c < n := by omega
            obtain ⟨v, ev, hv⟩ := r_isDue (rpt_L h g1.1) hb hab hbc hcn
            rw [ev, bd_s]
            refine pW_if (fun q4 => ?_) (fun q4 => ?_)
            · exact kc (M1, d, D) hcn ⟨by omega, dueP_no p1 hn hcn (hv.mp q4) hbc, g1⟩
            · have hdue : gDue n X Y a b c := Classical.byContradiction (fun z => q4 (hv.mpr z))
              have hlt := dueP_tP p1
              have hk : tP d D ((a * 20 + b) * 20 + c) d := ⟨Nat.le_refl d, hlt, fun z => by omega⟩
              have p2 := dueP_in p1 hn hab hbc hcn hdue hk
              have hd35 := gDr_m (dueP_Dr hn hdi p2) hn hb hdi
              obtain ⟨g2, g3, g4, g5, g6⟩ := g1
              rw [r_adds g5 (by omega), bd_s]
              generalize hM2 : fm_up (fm_up (fm_up (fm_up M1 (P + 3) (3 * d) (iI a)) (P + 3) (3 * d + 1) (iI b)) (P + 3) (3 * d + 2) (iI c)) P 8 (iI ((d + 1 : Nat) : Int)) = M2
              have w1 : ∀ b j, (b ≠ P + 3 ∧ (b ≠ P ∨ j ≠ 8)) → M2 b j = M1 b j := fun b j z => by
                rw [← hM2, up_i (by omega), up_ne z.1, up_ne z.1, up_ne z.1]
              refine kc (M2, d + 1, gIn D d ((a * 20 + b) * 20 + c)) hcn ⟨by omega, p2, fun b' j z => (w1 b' j (by omega)).trans (g2 b' j z), (w1 P 9 (by omega)).trans g3, fun k hk => (w1 (P + 5) k (by omega)).trans (g4 k hk), ?_, fun t ht => ?_⟩
              · dsimp only
                rw [← hM2, up_s]
              · dsimp only at ht ⊢
                rw [← hM2, up_ne (show P + 3 ≠ P by omega)]
                unfold gIn
                by_cases e : t = d
                · subst e
                  rw [if_neg (by omega), if_pos rfl]
                  refine ⟨?_, ?_, ?_⟩
                  · rw [up_i (by omega), up_i (by omega), up_s, show ((a * 20 + b) * 20 + c) / 400 = a by omega]
                  · rw [up_i (by omega), up_s, show ((a * 20 + b) * 20 + c) / 20 % 20 = b by omega]
                  · rw [up_s, show ((a * 20 + b) * 20 + c) % 20 = c by omega]
                · rw [if_pos (by omega), up_i (by omega), up_i (by omega), up_i (by omega), up_i (by omega), up_i (by omega), up_i (by omega), up_i (by omega), up_i (by omega), up_i (by omega)]
                  exact g6 t (by omega)
    · rw [r_get h1.1 (by omega), bd_s, in_t (show i < 40 by omega) (by omega), ck_t, r_co h1 (by omega), iI_nn (by omega), Int.toNat_natCast]
      refine kk _ (by omega) ⟨fun b j z => (up_i (by omega)).trans (f1 b j z), (up_i (by omega)).trans c1, fun k hk => ?_⟩
      rw [up_at]
      by_cases e : k = i
      · rw [if_pos e, e]
      · rw [if_neg e]; exact c2 k (by omega)
  · rw [if_neg (by decide)]
    refine pW_some ⟨?_, fun _ _ _ => rfl⟩
    rcases hl with e | ⟨n', X', Y', d, D, hn', hb', h'⟩
    · rw [z1, iI_eq (by omega) (by omega)] at e; omega
    · have nn : n' = n := by
        have := h'.1
        rw [z1, iI_eq (by omega) (by omega)] at this
        omega
      subst nn
      have co : ∀ k, k < n' → X' k = X k ∧ Y' k = Y k := fun k hk => by
        have w1 := z2 (2 * k) (by omega)
        have w2 := z2 (2 * k + 1) (by omega)
        unfold cO at w1 w2
        rw [if_pos (by omega), show 2 * k / 2 = k by omega, (h'.2.1 k hk).1] at w1
        rw [if_neg (by omega), show (2 * k + 1) / 2 = k by omega, (h'.2.1 k hk).2] at w2
        have b1 := hb k hk
        have b2 := hb' k hk
        rw [iI_eq (by omega) (by omega)] at w1 w2
        exact ⟨w1, w2⟩
      refine ⟨d, D, h'.1, fun k hk => by rw [← (co k hk).1, ← (co k hk).2]; exact h'.2.1 k hk, h'.2.2.1, h'.2.2.2.1, ⟨h'.2.2.2.2.1.1, fun a b c k1 k2 k3 => by rw [h'.2.2.2.2.1.2 a b c k1 k2 k3]; exact gDue_cong co⟩, h'.2.2.2.2.2⟩
/-- the reference's due triangles, read -/
theorem r_many1 (h : rpt P M v n X Y) {d : Nat} {D : Nat → Nat} (hd : rdu P M n X Y d D) : f_X7_many P 1 M = some (iI d, M) := by
  unfold f_X7_many f_X7_many_8 f_X7_many_24
  rw [if_neg (by decide), r_lay_id h hd, bd_s, if_neg (by decide), hd.2.2.1]
theorem rdu_tri {d : Nat} {D : Nat → Nat} (hd : rdu P M n X Y d D) : rTri P M 1 d D := by
  intro t ht
  have hm := hd.2.2.2.1
  have e := hd.2.2.2.2.2 t ht
  unfold f_X7_endOf f_X7_endOf_29
  rw [if_neg (by decide), if_neg (by decide), if_neg (by decide), iI_3, iI_mul, iI_0, iI_1, iI_2, iI_add, iI_add, iI_add]
  rw [show (3 : Int) * (t : Int) + 0 = ((3 * t : Nat) : Int) by omega, show (3 : Int) * (t : Int) + 1 = ((3 * t + 1 : Nat) : Int) by omega, show (3 : Int) * (t : Int) + 2 = ((3 * t + 2 : Nat) : Int) by omega]
  rw [in_t (by omega) (by omega), in_t (by omega) (by omega), in_t (by omega) (by omega), iI_nn (by omega), iI_nn (by omega), iI_nn (by omega), Int.toNat_natCast, Int.toNat_natCast, Int.toNat_natCast, e.1, e.2.1, e.2.2]
  exact ⟨rfl, rfl, rfl⟩
theorem r_many_lay {M' : fm_Mem} (e : f_X7_laysDue P M = some M') (e' : f_X7_laysDue P M' = some M') : f_X7_many P 1 M = f_X7_many P 1 M' := by
  unfold f_X7_many
  rw [if_neg (by decide), if_neg (by decide), e, e']
/-- the drawing is made of the due triangles -/
theorem r_draws (h : rpt P M v n X Y) (hb : gbd n X Y) (hdi : gDis n X Y) (hl : rld P M) : pW (f_X7_drawsAnew P M) (fun M' => ∃ d D, rdu P M' n X Y d D ∧ rtr P M' v d D ∧ ∀ b j, (b ≠ P + 3 ∧ b ≠ P + 5 ∧ (b ≠ P ∨ (j ≠ 8 ∧ j ≠ 9)) ∧ (b ≠ P + 1 ∨ (j ≠ 200 * v + 1 ∧ (j < 200 * v + 60 ∨ 200 * v + 180 ≤ j)))) → M' b j = M b j) := by
  obtain ⟨M1, e1, ⟨d, D, hd⟩, f1⟩ := r_lay h hb hdi hl
  have h1 := rpt_L h f1
  have hm := hd.2.2.2.1
  unfold f_X7_drawsAnew
  rw [e1, bd_s, iI_1, show iI 1 = iI ((1 : Nat) : Int) from rfl, r_put h1.1 (by omega), bd_s, hd.2.2.1, iI_0]
  refine pW_lp (fun u i (M2 : fm_Mem) => f_X7_drawsAnew_15 P u (iI i) M2) (fun i M2 => (∀ b j, (b ≠ P + 1 ∨ (j ≠ 200 * v + 1 ∧ (j < 200 * v + 60 ∨ 200 * v + 180 ≤ j))) → M2 b j = M1 b j) ∧ M2 (P + 1) (200 * v + 1) = iI d ∧ ∀ k, k < i → M2 (P + 1) (200 * v + (60 + k)) = M1 (P + 3) k) (3 * d) ?_ fm_fuel 0 (fm_up M1 (P + 1) (200 * v + 1) (iI d)) ⟨fun b j z => up_i (by omega), up_s, fun k hk => absurd hk (Nat.not_lt_zero k)⟩ (Nat.zero_le _) (by unfold fm_fuel; omega)
  intro u i M2 hi hI kk
  obtain ⟨f2, c1, c2⟩ := hI
  rw [f_X7_drawsAnew_15, f2 P 8 (by omega), hd.2.2.1, iI_3, iI_mul, iI_60, iI_add, show (60 : Int) + (i : Int) = ((60 + i : Nat) : Int) by omega, show (3 : Int) * (d : Int) = ((3 * d : Nat) : Int) by omega]
  simp (disch := omega) only [iI_le, iI_s]
  refine pW_if (fun q => ?_) (fun q => ?_)
  · have e : i = 3 * d := by omega
    subst e
    refine pW_some ⟨d, D, ?_, ⟨⟨(f2 P 3 (by omega)).trans h1.1.1, h1.1.2⟩, by omega, c1, fun t ht => ?_⟩, fun b j z => (f2 b j (by omega)).trans (f1 b j (by omega))⟩
    · refine ⟨(f2 P 9 (by omega)).trans hd.1, fun k hk => ?_, (f2 P 8 (by omega)).trans hd.2.2.1, hm, hd.2.2.2.2.1, fun t ht => ?_⟩
      · rw [f2 (P + 5) _ (by omega), f2 (P + 5) _ (by omega)]; exact hd.2.1 k hk
      · rw [f2 (P + 3) _ (by omega), f2 (P + 3) _ (by omega), f2 (P + 3) _ (by omega)]; exact hd.2.2.2.2.2 t ht
    · rw [show 60 + 3 * t + 1 = 60 + (3 * t + 1) by omega, show 60 + 3 * t + 2 = 60 + (3 * t + 2) by omega, c2 _ (by omega), c2 _ (by omega), c2 _ (by omega)]
      exact hd.2.2.2.2.2 t ht
  · have hv2 : rvn P M2 v := ⟨(f2 P 3 (by omega)).trans h1.1.1, h1.1.2⟩
    rw [in_t (show i < 120 by omega) (by omega), ck_t, iI_nn (by omega), Int.toNat_natCast, r_put hv2 (by omega), bd_s]
    refine kk _ (by omega) ⟨fun b j z => (up_i (by omega)).trans (f2 b j z), (up_i (by omega)).trans c1, fun k hk => ?_⟩
    by_cases e : k = i
    · subst e
      rw [up_s, f2 (P + 3) _ (by omega)]
    · rw [up_i (by omega)]; exact c2 k (by omega)
end RD
