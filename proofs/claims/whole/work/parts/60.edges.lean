section
/-! the reference answers over its version; edges, counted by both sides -/
theorem frL_r {P : Nat} {M : fm_Mem} : frL P M M := fun _ _ _ => rfl
theorem frL_t {P : Nat} {M M1 M2 : fm_Mem} (h : frL P M M1) (h' : frL P M1 M2) : frL P M M2 := fun b j z => (h' b j z).trans (h b j z)
theorem rtr_L {P v m : Nat} {M M' : fm_Mem} {T : Nat → Nat} (h : rtr P M v m T) (f : frL P M M') : rtr P M' v m T := by
  refine ⟨⟨(f P 3 (by omega)).trans h.1.1, h.1.2⟩, h.2.1, (f (P + 1) _ (by omega)).trans h.2.2.1, fun t ht => ?_⟩
  rw [f (P + 1) _ (by omega), f (P + 1) _ (by omega), f (P + 1) _ (by omega)]
  exact h.2.2.2 t ht
/-- the reference's version, what was laid, and what holds of them -/
def rK (P : Nat) (M : fm_Mem) (v n : Nat) (X Y : Nat → Int) (m : Nat) (T : Nat → Nat) : Prop := rpt P M v n X Y ∧ rtr P M v m T ∧ rld P M ∧ gbd n X Y ∧ gDis n X Y ∧ gDr n X Y m T
theorem i_or0 (x : Int32) : x ||| 0 = x := b_ext (fun i _ => by rw [b_or, b_0, Bool.or_false])
theorem iI_e0 {a : Int} (h : -2147483648 ≤ a ∧ a ≤ 2147483647) : (iI a = (0 : Int32)) = (a = 0) := by rw [iI_0, iI_eq h (by omega)]
theorem iI_e1 {a : Int} (h : -2147483648 ≤ a ∧ a ≤ 2147483647) : (iI a = (1 : Int32)) = (a = 1) := by rw [iI_1, iI_eq h (by omega)]
theorem iI_e2 {a : Int} (h : -2147483648 ≤ a ∧ a ≤ 2147483647) : (iI a = (2 : Int32)) = (a = 2) := by rw [iI_2, iI_eq h (by omega)]
theorem iI_e3 {a : Int} (h : -2147483648 ≤ a ∧ a ≤ 2147483647) : (iI a = (3 : Int32)) = (a = 3) := by rw [iI_3, iI_eq h (by omega)]
theorem iI_em {a : Int} (h : -2147483648 ≤ a ∧ a ≤ 2147483647) : (iI a = (-1 : Int32)) = (a = -1) := by rw [iI_m1, iI_eq h (by omega)]
theorem iI_l0 {a : Int} (h : -2147483648 ≤ a ∧ a ≤ 2147483647) : (iI a ≤ (0 : Int32)) = (a ≤ 0) := by rw [iI_0, iI_le h (by omega)]
theorem iI_g0 {a : Int} (h : -2147483648 ≤ a ∧ a ≤ 2147483647) : ((0 : Int32) ≤ iI a) = (0 ≤ a) := by rw [iI_0, iI_le (by omega) h]
theorem iI_n0 {a : Int} (h : -2147483648 ≤ a ∧ a ≤ 2147483647) : (iI a < (0 : Int32)) = (a < 0) := by rw [iI_0, iI_lt h (by omega)]
theorem iI_p0 (a : Int) : iI a + (0 : Int32) = iI a := by rw [iI_0, iI_add, Int.add_zero]
/-- a count over the pairs -/
def nE (n : Nat) (f : Nat → Nat → Bool) : Nat := gsm (fun p => gct (fun q => decide (p < q) && f p q) n) n
theorem nE_cong {n : Nat} {f g : Nat → Nat → Bool} (h : ∀ p q, p < q → q < n → f p q = g p q) : nE n f = nE n g := gsm_cong (fun p hp => gct_cong (fun q hq => by
  by_cases c : p < q
  · rw [h p q c hq]
  · rw [decide_eq_false c, Bool.false_and, Bool.false_and]))
theorem gsm_z (f : Nat → Nat) {m : Nat} : ∀ n, m ≤ n → (∀ i, m ≤ i → i < n → f i = 0) → gsm f n = gsm f m
  | 0, h, _ => by rw [show m = 0 by omega]
  | n + 1, h, h1 => by
    by_cases e : m = n + 1
    · rw [e]
    · rw [gsm_s, gsm_z f n (by omega) (fun i h2 h3 => h1 i h2 (by omega)), h1 n (by omega) (by omega)]; rfl
theorem nE_z {n : Nat} {f : Nat → Nat → Bool} (hn : n ≤ 20) (hz : ∀ p q, p < q → n ≤ q → q < 20 → f p q = false) : nE 20 f = nE n f := by
  unfold nE
  rw [gsm_z (m := n) _ 20 hn (fun i h1 h2 => (gct_0 _ _).mpr (fun q hq => by
    by_cases c : i < q
    · rw [hz i q c (by omega) hq, Bool.and_false]
    · rw [decide_eq_false c, Bool.false_and]))]
  exact gsm_cong (fun p hp => gct_z _ 20 hn (fun q h1 h2 => by
    rw [hz p q (by omega) h1 h2, Bool.and_false]))
theorem gct_rows (g : Nat → Bool) : ∀ k, gct g (20 * k) = gsm (fun p => gct (fun q => g (20 * p + q)) 20) k
  | 0 => rfl
  | k + 1 => by rw [show 20 * (k + 1) = 20 * k + 20 by omega, gct_sh, gct_rows g k, gsm_s]
theorem gct_400 (f : Nat → Nat → Bool) : gct (fun e => decide (e / 20 < e % 20) && f (e / 20) (e % 20)) 400 = nE 20 f := by
  rw [show (400 : Nat) = 20 * 20 from rfl, gct_rows]
  exact gsm_cong (fun p hp => gct_cong (fun q hq => by
    show (decide ((20 * p + q) / 20 < (20 * p + q) % 20) && f ((20 * p + q) / 20) ((20 * p + q) % 20)) = (decide (p < q) && f p q)
    rw [show (20 * p + q) / 20 = p by omega, show (20 * p + q) % 20 = q by omega]))
theorem gct_ad {f g h : Nat → Bool} : ∀ n, (∀ i, i < n → (if f i then 1 else 0) + (if g i then 1 else 0) = (if h i then 1 else 0 : Nat)) → gct f n + gct g n = gct h n
  | 0, _ => rfl
  | n + 1, e => by
    have a := gct_ad n (fun i hi => e i (by omega))
    have b := e n (by omega)
    rw [gct_s, gct_s, gct_s]
    omega
theorem nE_ad {n : Nat} {f g h : Nat → Nat → Bool} (e : ∀ p q, p < q → q < n → (if f p q then 1 else 0) + (if g p q then 1 else 0) = (if h p q then 1 else 0 : Nat)) : nE n f + nE n g = nE n h := by
  unfold nE
  rw [← gsm_add]
  refine gsm_cong (fun p hp => gct_ad n (fun q hq => ?_))
  show (if (decide (p < q) && f p q) = true then 1 else 0) + (if (decide (p < q) && g p q) = true then 1 else 0) = (if (decide (p < q) && h p q) = true then 1 else 0 : Nat)
  by_cases c : p < q
  · rw [decide_eq_true c, Bool.true_and, Bool.true_and, Bool.true_and]; exact e p q c hq
  · rw [decide_eq_false c, Bool.false_and, Bool.false_and, Bool.false_and]; rfl
theorem eN_n {n m : Nat} {T : Nat → Nat} (hv : tV n m T) (hn : n ≤ 20) {p q : Nat} (hp : p < 20) (hq : q < 20) (h : n ≤ q) : eN m T p q = 0 := eN_0.mp (fun i _ => by
  cases c : eT m T p q i with
  | false => rfl
  | true => have := (eT_v hv hn hp hq c).2.2.2.2.1; omega)
theorem eE_cnt (m : Nat) (T : Nat → Nat) {k : Nat} (hk : k ≠ 0) : gct (fun e => decide (eE m T e = k)) 400 = nE 20 (fun p q => decide (eN m T p q = k)) := by
  rw [← gct_400]
  refine gct_cong (fun e _ => ?_)
  show decide (eE m T e = k) = (decide (e / 20 < e % 20) && decide (eN m T (e / 20) (e % 20) = k))
  unfold eE
  by_cases c : e / 20 < e % 20
  · rw [if_pos c, decide_eq_true c, Bool.true_and]
  · rw [if_neg c, decide_eq_false c, Bool.false_and]; exact decide_eq_false (Ne.symm hk)
/-- what the reference counts: all edges, those of one triangle, bad ones, those that are no due ones -/
def fW (X Y : Nat → Int) (m : Nat) (T : Nat → Nat) (d : Nat) (D : Nat → Nat) (w p q : Nat) : Bool := decide (eN m T p q ≠ 0 ∧ (w = 0 ∨ (w = 1 ∧ eN m T p q = 1) ∨ (w = 2 ∧ gBad X Y m T p q = true) ∨ (w = 3 ∧ eN d D p q = 0)))
theorem fW_2 {n : Nat} (X Y : Nat → Int) (m : Nat) (T : Nat → Nat) (d : Nat) (D : Nat → Nat) : nE n (fW X Y m T d D 2) = gNB n X Y m T := nE_cong (fun p q _ _ => by
  unfold fW
  cases c : gBad X Y m T p q with
  | false => exact decide_eq_false (fun z => by rcases z.2 with z | z | z | z <;> simp at z)
  | true => exact decide_eq_true ⟨by have := (of_decide_eq_true c).1; omega, Or.inr (Or.inr (Or.inl ⟨rfl, rfl⟩))⟩)
section KE
variable {P n m : Nat} {M : fm_Mem} {X Y : Nat → Int} {T : Nat → Nat} {d : Nat} {D : Nat → Nat}
theorem k_edges0 (h : cMs P M m T) (hd : gDr n X Y m T) (hn : n ≤ 20) : f_X1_edges P M = some (iI (nE n (fW X Y m T d D 0) : Nat)) := by
  have e : gct (fun e => decide (eE m T e = 1)) 400 + gct (fun e => decide (eE m T e = 2)) 400 = nE n (fW X Y m T d D 0) := by
    rw [eE_cnt m T (by omega), eE_cnt m T (by omega)]
    rw [nE_ad (h := fun p q => decide (eN m T p q ≠ 0)) (fun p q _ hq => by
      have := gDr_2 hd hn (show p < 20 by omega) hq
      rcases (show eN m T p q = 0 ∨ eN m T p q = 1 ∨ eN m T p q = 2 by omega) with z | z | z <;> rw [z] <;> rfl)]
    rw [nE_z hn (fun p q hp h1 h2 => decide_eq_false (fun z => z (eN_n hd.1 hn (by omega) h2 h1)))]
    exact nE_cong (fun p q _ _ => decide_eq_decide.mpr ⟨fun z => ⟨z, Or.inl rfl⟩, fun z => z.1⟩)
  unfold f_X1_edges
  rw [iI_1, iI_2, show iI 1 = iI ((1 : Nat) : Int) from rfl, show iI 2 = iI ((2 : Nat) : Int) from rfl, k_edgesOf h (by omega), bd_s, k_edgesOf h (by omega), bd_s, iI_add, ← e, Int.natCast_add]
theorem k_edges1 (h : cMs P M m T) (hd : gDr n X Y m T) (hn : n ≤ 20) : f_X1_edgesOf P 1 M = some (iI (nE n (fW X Y m T d D 1) : Nat)) := by
  rw [iI_1, show iI 1 = iI ((1 : Nat) : Int) from rfl, k_edgesOf h (by omega), eE_cnt m T (by omega)]
  rw [nE_z hn (fun p q hp h1 h2 => decide_eq_false (fun z => by rw [eN_n hd.1 hn (by omega) h2 h1] at z; cases z))]
  rw [nE_cong (fun p q _ _ => show decide (eN m T p q = 1) = fW X Y m T d D 1 p q from decide_eq_decide.mpr ⟨fun z => ⟨by omega, Or.inr (Or.inl ⟨rfl, z⟩)⟩, fun z => by rcases z.2 with y | y | y | y <;> omega⟩)]
theorem k_edgesB {R : Nat} (h : cMs P M m T) (h' : cMs R M d D) (hv : tV n m T) (hn : n ≤ 20) : f_X1_edgesBeyond P R M = some (iI (nE n (fW X Y m T d D 3) : Nat)) := by
  rw [k_beyond h h']
  have e : gct (fun e => decide (eE m T e ≠ 0 ∧ eE d D e = 0)) 400 = nE 20 (fun p q => decide (eN m T p q ≠ 0 ∧ eN d D p q = 0)) := by
    rw [← gct_400]
    refine gct_cong (fun e _ => ?_)
    show decide (eE m T e ≠ 0 ∧ eE d D e = 0) = (decide (e / 20 < e % 20) && decide (eN m T (e / 20) (e % 20) ≠ 0 ∧ eN d D (e / 20) (e % 20) = 0))
    unfold eE
    by_cases c : e / 20 < e % 20
    · rw [if_pos c, if_pos c, decide_eq_true c, Bool.true_and]
    · rw [if_neg c, if_neg c, decide_eq_false c, Bool.false_and]; exact decide_eq_false (fun z => z.1 rfl)
  rw [e, nE_z hn (fun p q hp h1 h2 => decide_eq_false (fun z => z.1 (eN_n hv hn (by omega) h2 h1)))]
  rw [nE_cong (fun p q _ _ => show decide (eN m T p q ≠ 0 ∧ eN d D p q = 0) = fW X Y m T d D 3 p q from decide_eq_decide.mpr ⟨fun z => ⟨z.1, Or.inr (Or.inr (Or.inr ⟨rfl, z.2⟩))⟩, fun z => ⟨z.1, by rcases z.2 with y | y | y | y <;> omega⟩⟩)]
end KE
section RK
variable {P v n m : Nat} {M M' : fm_Mem} {X Y : Nat → Int} {T : Nat → Nat} {d : Nat} {D : Nat → Nat}
theorem rK.L (h : rK P M v n X Y m T) (f : frL P M M') (l : rld P M') : rK P M' v n X Y m T := ⟨rpt_L h.1 f, rtr_L h.2.1 f, l, h.2.2.2⟩
theorem rK.hn (h : rK P M v n X Y m T) : n ≤ 20 := h.1.2.1
theorem rK.hv (h : rK P M v n X Y m T) : tV n m T := h.2.2.2.2.2.1
theorem rdu_is {d' : Nat} {D' : Nat → Nat} (h : rdu P M n X Y d' D') (hD : dueL n X Y d D) : rdu P M n X Y d D := by
  obtain ⟨h1, h2, h3, h4, h5, h6⟩ := h
  obtain ⟨e, e2⟩ := dueL_eq hD h5
  subst e
  refine ⟨h1, h2, h3, h4, hD, fun t ht => ?_⟩
  rw [e2 t ht]; exact h6 t ht
theorem rdu_ld (hn : n ≤ 20) (hb : gbd n X Y) (h : rdu P M n X Y d D) : rld P M := Or.inr ⟨n, X, Y, d, D, hn, hb, h⟩
theorem rK_lay (h : rK P M v n X Y m T) (hD : dueL n X Y d D) : pW (f_X7_laysDue P M) (fun M' => rdu P M' n X Y d D ∧ frL P M M' ∧ rK P M' v n X Y m T) :=
  pW_mono (r_lay h.1 h.2.2.2.1 h.2.2.2.2.1 h.2.2.1) (fun M' z => by
    obtain ⟨⟨d', D', z1⟩, z2⟩ := z
    have z3 := rdu_is z1 hD
    exact ⟨z3, z2, h.L z2 (rdu_ld h.1.2.1 h.2.2.2.1 z3)⟩)
theorem r_manyK (h : rK P M v n X Y m T) (hD : dueL n X Y d D) : pW (f_X7_many P 1 M) (fun r => r.1 = iI d ∧ rdu P r.2 n X Y d D ∧ frL P M r.2 ∧ rK P r.2 v n X Y m T) := by
  obtain ⟨M', e, z1, z2, z3⟩ := rK_lay h hD
  rw [r_many_lay e (r_lay_id z3.1 z1), r_many1 z3.1 z1]
  exact pW_some ⟨rfl, z1, z2, z3⟩
theorem r_edgeK (h : rK P M v n X Y m T) (hD : dueL n X Y d D) {p q : Nat} (hp : p < 20) (hq : q < 20) : pW (f_X7_edgeMany P 1 (iI p) (iI q) M) (fun r => r.1 = iI (eN d D p q) ∧ rdu P r.2 n X Y d D ∧ frL P M r.2 ∧ rK P r.2 v n X Y m T) := by
  obtain ⟨M', e, z1, z2, z3⟩ := rK_lay h hD
  have e2 : f_X7_edgeMany P 1 (iI p) (iI q) M = f_X7_edgeMany P 1 (iI p) (iI q) M' := by
    unfold f_X7_edgeMany
    rw [show fm_fuel = 4999 + 1 from rfl, f_X7_edgeMany_6, f_X7_edgeMany_6, r_many_lay e (r_lay_id z3.1 z1)]
  rw [e2, r_edge (rdu_tri z1) (r_many1 z3.1 z1) hD.1 h.1.2.1 (by have := z1.2.2.2.1; omega) hp hq]
  exact pW_some ⟨rfl, z1, z2, z3⟩
theorem r_edge0 (h : rK P M v n X Y m T) {p q : Nat} (hp : p < 20) (hq : q < 20) : f_X7_edgeMany P 0 (iI p) (iI q) M = some (iI (eN m T p q), M) := r_edge (rtr_tri h.2.1) (r_many0 h.2.1) h.hv h.hn h.2.1.2.1 hp hq
theorem r_edges (h : rK P M v n X Y m T) (hD : dueL n X Y d D) {w : Nat} (hw : w < 4) : pW (f_X7_edges P (iI w) M) (fun r => r.1 = iI (nE n (fW X Y m T d D w) : Nat) ∧ frL P M r.2 ∧ rK P r.2 v n X Y m T) := by
  have hn := h.1.2.1
  unfold f_X7_edges
  rw [iI_0]
  refine pW_lp (fun u p (s : Nat × fm_Mem) => f_X7_edges_4 P (iI w) u (iI s.1) (iI p) s.2) (fun p s => s.1 = gsm (fun p => gct (fun q => decide (p < q) && fW X Y m T d D w p q) n) p ∧ frL P M s.2 ∧ rK P s.2 v n X Y m T) n ?_ fm_fuel 0 (0, M) ⟨rfl, frL_r, h⟩ (Nat.zero_le _) (by unfold fm_fuel; omega)
  rintro u p ⟨s, M1⟩ hpp ⟨hI, f1, k1⟩ k
  dsimp only at hI f1 k1 k ⊢
  rw [f_X7_edges_4, r_points k1.1, bd_s]
  simp (disch := omega) only [iI_le, iI_s]
  refine pW_if (fun q1 => ?_) (fun q1 => ?_)
  · have e : p = n := by omega
    subst e
    exact pW_some ⟨by rw [hI]; rfl, f1, k1⟩
  · refine pW_lp (fun w' q (s : Nat × fm_Mem) => f_X7_edges_17 P (iI w) (fun x2 x3 M => f_X7_edges_4 P (iI w) u x2 x3 M) w' (iI s.1) (iI p) (iI q) s.2) (fun q s' => p < q ∧ s'.1 = s + gct (fun q => decide (p < q) && fW X Y m T d D w p q) q ∧ frL P M s'.2 ∧ rK P s'.2 v n X Y m T) n ?_ fm_fuel (p + 1) (s, M1) ⟨by omega, by rw [gct_lo _ _ _ (Nat.le_refl _)]; rfl, f1, k1⟩ (by omega) (by unfold fm_fuel; omega)
    rintro w' q ⟨s', M2⟩ hq ⟨hJ1, hJ2, f2, k2⟩ kk
    dsimp only at hJ2 f2 k2 kk ⊢
    rw [f_X7_edges_17, r_points k2.1, bd_s]
    simp (disch := omega) only [iI_le, iI_s]
    refine pW_if (fun q2 => ?_) (fun q2 => ?_)
    · have e : q = n := by omega
      subst e
      exact k (s', M2) (by omega) ⟨by rw [gsm_s, hJ2, hI], f2, k2⟩
    · have hE : eN m T p q ≤ 20 := gct_bd _ _
      have hE' : eN d D p q ≤ 20 := gct_bd _ _
      have st := fun (M3 : fm_Mem) (f3 : frL P M M3) (k3 : rK P M3 v n X Y m T) (e : fW X Y m T d D w p q = false) => kk (s', M3) (by omega) ⟨by omega, by rw [gct_s, e, Bool.and_false, hJ2]; rfl, f3, k3⟩
      have st1 := fun (M3 : fm_Mem) (f3 : frL P M M3) (k3 : rK P M3 v n X Y m T) (e : fW X Y m T d D w p q = true) => kk (s' + 1, M3) (by omega) ⟨by omega, by rw [gct_s, e, decide_eq_true hJ1, hJ2]; rfl, f3, k3⟩
      dsimp only at st st1
      rw [r_edge0 k2 (by omega) (by omega), bd_s]
      simp (disch := omega) only [f_X7_edges_98, f_X7_edges_91, f_X7_edges_95, f_X7_edges_96, f_X7_edges_75, f_X7_edges_60, iI_e0, iI_e1, iI_e2, iI_e3, iI_s, iI_p0]
      refine pW_if (fun c0 => ?_) (fun c0 => ?_)
      · exact st M2 f2 k2 (decide_eq_false (fun z => z.1 (by omega)))
      · obtain rfl | rfl | rfl | rfl : w = 0 ∨ w = 1 ∨ w = 2 ∨ w = 3 := by omega
        · exact pW_if (fun _ => st1 M2 f2 k2 (decide_eq_true ⟨by omega, Or.inl rfl⟩)) (fun c => absurd rfl c)
        · refine pW_if (fun c => absurd c (by omega)) (fun _ => pW_if (fun _ => pW_if (fun c1 => ?_) (fun c1 => ?_)) (fun c => absurd rfl c))
          · exact st1 M2 f2 k2 (decide_eq_true ⟨by omega, Or.inr (Or.inl ⟨rfl, by omega⟩)⟩)
          · refine pW_if (fun c => absurd c (by omega)) (fun _ => pW_if (fun c => absurd c (by omega)) (fun _ => ?_))
            exact st M2 f2 k2 (decide_eq_false (fun z => by rcases z.2 with y | y | y | y <;> omega))
        · refine pW_if (fun c => absurd c (by omega)) (fun _ => pW_if (fun c => absurd c (by omega)) (fun _ => pW_if (fun _ => ?_) (fun c => absurd rfl c)))
          rw [r_bad k2.1 k2.2.1 h.2.2.2.1 k2.hv (by omega) (by omega), bd_s]
          cases hB : gBad X Y m T p q with
          | false =>
            rw [if_pos (show (if false = true then (1 : Int32) else 0) = 0 by decide)]
            refine pW_if (fun c => absurd c (by omega)) (fun _ => ?_)
            exact st M2 f2 k2 (decide_eq_false (fun z => by rcases z.2 with y | y | y | y <;> first | omega | (rw [hB] at y; cases y.2)))
          | true =>
            rw [if_neg (show ¬ (if true = true then (1 : Int32) else 0) = 0 by decide)]
            exact st1 M2 f2 k2 (decide_eq_true ⟨by omega, Or.inr (Or.inr (Or.inl ⟨rfl, hB⟩))⟩)
        · refine pW_if (fun c => absurd c (by omega)) (fun _ => pW_if (fun c => absurd c (by omega)) (fun _ => pW_if (fun c => absurd c (by omega)) (fun _ => pW_if (fun _ => ?_) (fun c => absurd rfl c))))
          obtain ⟨⟨x1, M3⟩, e, y1, y2, y3, y4⟩ := r_edgeK k2 hD (show p < 20 by omega) (show q < 20 by omega)
          dsimp only at y1 y2 y3 y4
          rw [e, bd_s]
          dsimp only
          rw [y1]
          simp (disch := omega) only [iI_e0]
          refine pW_if (fun c1 => ?_) (fun c1 => ?_)
          · exact st1 M3 (frL_t f2 y3) y4 (decide_eq_true ⟨by omega, Or.inr (Or.inr (Or.inr ⟨rfl, by omega⟩))⟩)
          · exact st M3 (frL_t f2 y3) y4 (decide_eq_false (fun z => by rcases z.2 with y | y | y | y <;> omega))
theorem r_friends (h : rK P M v n X Y m T) {s : Int32} {p : Nat} (e : Nat → Nat) (he : ∀ q, e q ≤ 20) (hz : ∀ q, n ≤ q → q < 20 → e q = 0) (hE : ∀ M2, rK P M2 v n X Y m T → ∀ q, q < n → pW (f_X7_edgeMany P s (iI p) (iI q) M2) (fun r => r.1 = iI (e q) ∧ frL P M2 r.2 ∧ rK P r.2 v n X Y m T)) : pW (f_X7_friends P s (iI p) M) (fun r => r.1 = bS (fun q => decide (q < 20 ∧ e q ≠ 0)) ∧ frL P M r.2 ∧ rK P r.2 v n X Y m T) := by
  have hn := h.1.2.1
  unfold f_X7_friends
  rw [show f_X7_friends_5 P s (iI p) fm_fuel 0 0 M = f_X7_friends_5 P s (iI p) fm_fuel (bS (fun _ => false)) (iI ((0 : Nat) : Int)) M by rw [← bS_0]; rfl]
  refine pW_lp (fun u q (s' : (Nat → Bool) × fm_Mem) => f_X7_friends_5 P s (iI p) u (bS s'.1) (iI q) s'.2) (fun q s' => (∀ i, i < 32 → s'.1 i = decide (i < q ∧ e i ≠ 0)) ∧ frL P M s'.2 ∧ rK P s'.2 v n X Y m T) n ?_ fm_fuel 0 (fun _ => false, M) ⟨fun i _ => (decide_eq_false (by omega)).symm, frL_r, h⟩ (Nat.zero_le _) (by unfold fm_fuel; omega)
  rintro u q ⟨s', M1⟩ hq ⟨hI, f1, k1⟩ k
  dsimp only at hI f1 k1 k ⊢
  rw [f_X7_friends_5, r_points k1.1, bd_s]
  simp (disch := omega) only [iI_le, iI_s]
  refine pW_if (fun q1 => ?_) (fun q1 => ?_)
  · refine pW_some ⟨bS_cong (fun i hi => ?_), f1, k1⟩
    rw [hI i hi]
    by_cases c : i < n
    · exact decide_eq_decide.mpr ⟨fun z => ⟨by omega, z.2⟩, fun z => ⟨by omega, z.2⟩⟩
    · exact (decide_eq_false (by omega)).trans (decide_eq_false (fun z => z.2 (hz i (by omega) z.1))).symm
  · obtain ⟨⟨x1, M2⟩, e1, y1, y2, y3⟩ := hE M1 k1 q (by omega)
    dsimp only at y1 y2 y3
    have hq20 := he q
    rw [e1, bd_s]
    dsimp only
    rw [y1]
    simp (disch := omega) only [iI_l0, f_X7_friends_34, iI_s]
    refine pW_if (fun c => ?_) (fun c => ?_)
    · rw [i_or0]
      refine k (s', M2) (by omega) ⟨fun i hi => (hI i hi).trans (decide_eq_decide.mpr ⟨fun z => ⟨by omega, z.2⟩, fun z => ⟨?_, z.2⟩⟩), frL_t f1 y2, y3⟩
      rcases Nat.lt_or_eq_of_le (Nat.le_of_lt_succ z.1) with w | w
      · exact w
      · subst w; exact absurd z.2 (by omega)
    · rw [bS_or1 s' (show q < 32 by omega)]
      refine k (_, M2) (by omega) ⟨fun i hi => ?_, frL_t f1 y2, y3⟩
      show (s' i || decide (i = q)) = _
      rw [hI i hi]
      by_cases w : i = q
      · subst w
        rw [decide_eq_true (p := i = i) rfl, Bool.or_true]
        exact (decide_eq_true ⟨by omega, by omega⟩).symm
      · rw [decide_eq_false w, Bool.or_false]
        exact decide_eq_decide.mpr ⟨fun z => ⟨by omega, z.2⟩, fun z => ⟨by omega, z.2⟩⟩
theorem r_friends0 (h : rK P M v n X Y m T) {p : Nat} (hp : p < n) : pW (f_X7_friends P 0 (iI p) M) (fun r => r.1 = bS (fun q => decide (q < 20 ∧ eN m T p q ≠ 0)) ∧ frL P M r.2 ∧ rK P r.2 v n X Y m T) := by
  have hn := h.hn
  exact r_friends h (fun q => eN m T p q) (fun q => gct_bd _ _) (fun q h1 h2 => eN_n h.hv hn (by omega) h2 h1) (fun M2 k2 q hq => pW_of (r_edge0 k2 (by omega) (by omega)) ⟨rfl, frL_r, k2⟩)
theorem r_friends1 (h : rK P M v n X Y m T) (hD : dueL n X Y d D) {p : Nat} (hp : p < n) : pW (f_X7_friends P 1 (iI p) M) (fun r => r.1 = bS (fun q => decide (q < 20 ∧ eN d D p q ≠ 0)) ∧ frL P M r.2 ∧ rK P r.2 v n X Y m T) := by
  have hn := h.hn
  exact r_friends h (fun q => eN d D p q) (fun q => gct_bd _ _) (fun q h1 h2 => eN_n hD.1 hn (by omega) h2 h1) (fun M2 k2 q hq => pW_mono (r_edgeK k2 hD (by omega) (by omega)) (fun r z => ⟨z.1, z.2.2.1, z.2.2.2⟩))
end RK
/-! neighbours of a triangle -/
section BS
variable {P n m : Nat} {M : fm_Mem} {T : Nat → Nat} {s : Int32}
def en (a b c k : Nat) : Nat := if k = 0 then a else if k = 1 then b else c
def cm (T : Nat → Nat) (o a b c : Nat) : Nat := gct (fun k => inT T o (en a b c k)) 3
theorem cm_v (T : Nat → Nat) (o a b c : Nat) : cm T o a b c = (if inT T o a then 1 else 0) + (if inT T o b then 1 else 0) + (if inT T o c then 1 else 0) := by
  show 0 + (if inT T o a then 1 else 0) + (if inT T o b then 1 else 0) + (if inT T o c then 1 else 0) = _
  rw [Nat.zero_add]
theorem bes_pt (hv : tV n m T) (hn : n ≤ 20) {t a b c : Nat} (ht : t < m) (h1 : a < b) (h2 : b < c) (h3 : c < n) (e : T t = (a * 20 + b) * 20 + c) {o : Nat} (ho : o < m) : (if (decide (a ≠ b) && (inT T o a && inT T o b)) = true then 1 else 0) + (if (decide (b ≠ c) && (inT T o b && inT T o c)) = true then 1 else 0) + (if (decide (a ≠ c) && (inT T o a && inT T o c)) = true then 1 else 0) = (if decide (o ≠ t ∧ cm T o a b c = 2) = true then 1 else 0 : Nat) + (if o = t then 3 else 0) := by
  rw [cm_v, decide_eq_true (show a ≠ b by omega), decide_eq_true (show b ≠ c by omega), decide_eq_true (show a ≠ c by omega), Bool.true_and, Bool.true_and, Bool.true_and]
  have et : T t = tC a b c := by rw [tC_a h1 h2]; exact e
  by_cases ot : o = t
  · subst ot
    obtain ⟨i1, i2, i3⟩ := inT_of hv hn ho (show a < 20 by omega) (show b < 20 by omega) (show c < 20 by omega) (by omega) (by omega) (by omega) et
    rw [i1, i2, i3, if_pos rfl, decide_eq_false (fun z => z.1 rfl)]
    simp
  · have no : ¬ (inT T o a = true ∧ inT T o b = true ∧ inT T o c = true) := fun z => by
      obtain ⟨r, r1, r2, r3, r4, r5, r6, -⟩ := inT_2 hv hn ho (show a ≠ b by omega) z.1 z.2.1
      have w := inT_o ho r2 r3 r1 (by omega) r4 r5 r6 z.2.2
      have rc : r = c := by omega
      subst rc
      rcases Nat.lt_or_gt_of_ne ot with y | y
      · have := hv.1 o t y ht; omega
      · have := hv.1 t o y ho; omega
    have eK : ∀ K : Nat, decide (o ≠ t ∧ K = 2) = decide (K = 2) := fun K => decide_eq_decide.mpr ⟨fun z => z.2, fun z => ⟨ot, z⟩⟩
    rw [if_neg ot, Nat.add_zero, eK]
    generalize inT T o a = x1 at no ⊢
    generalize inT T o b = x2 at no ⊢
    generalize inT T o c = x3 at no ⊢
    revert no
    cases x1 <;> cases x2 <;> cases x3 <;> decide
theorem bes_ct (hv : tV n m T) (hn : n ≤ 20) {t a b c : Nat} (ht : t < m) (h1 : a < b) (h2 : b < c) (h3 : c < n) (e : T t = (a * 20 + b) * 20 + c) : ∀ k, k ≤ m → gct (fun t => decide (a ≠ b) && (inT T t a && inT T t b)) k + gct (fun t => decide (b ≠ c) && (inT T t b && inT T t c)) k + gct (fun t => decide (a ≠ c) && (inT T t a && inT T t c)) k = gct (fun o => decide (o ≠ t ∧ cm T o a b c = 2)) k + (if t < k then 3 else 0)
  | 0, _ => rfl
  | k + 1, hk => by
    have ih := bes_ct hv hn ht h1 h2 h3 e k (by omega)
    have p := bes_pt hv hn ht h1 h2 h3 e (show k < m by omega)
    rw [gct_s, gct_s, gct_s, gct_s]
    have q : (if t < k + 1 then 3 else 0) = (if t < k then 3 else 0) + (if k = t then 3 else 0 : Nat) := by
      by_cases c1 : t < k
      · rw [if_pos (by omega), if_pos c1, if_neg (by omega)]
      · by_cases c2 : k = t
        · rw [if_pos (by omega), if_neg c1, if_pos c2]
        · rw [if_neg (by omega), if_neg c1, if_neg c2]
    omega
theorem bes_eq (hv : tV n m T) (hn : n ≤ 20) {t a b c : Nat} (ht : t < m) (h1 : a < b) (h2 : b < c) (h3 : c < n) (e : T t = (a * 20 + b) * 20 + c) : ((gct (fun o => decide (o ≠ t ∧ cm T o a b c = 2)) m : Nat) : Int) = (eN m T a b : Int) + (eN m T b c : Int) + (eN m T a c : Int) - 3 := by
  have h := bes_ct hv hn ht h1 h2 h3 e m (Nat.le_refl _)
  rw [eN_in hv hn (by omega) (by omega), eN_in hv hn (by omega) (by omega), eN_in hv hn (by omega) (by omega), if_pos ht] at h
  omega
theorem r_besides (h : rTri P M s m T) (hM : f_X7_many P s M = some (iI m, M)) (hv : tV n m T) (hn : n ≤ 20) (hm : m ≤ 40) {t a b c : Nat} (ht : t < m) (h1 : a < b) (h2 : b < c) (h3 : c < n) (e : T t = (a * 20 + b) * 20 + c) : f_X7_besides P (iI t) s M = some (iI ((eN m T a b : Int) + (eN m T b c : Int) + (eN m T a c : Int) - 3), M) := by
  have h8 : ∀ t, t < m → T t < 8000 := fun t ht => tV_lt hv hn ht
  have g1 : T t / 400 = a := by omega
  have g2 : T t / 20 % 20 = b := by omega
  have g3 : T t % 20 = c := by omega
  rw [← bes_eq hv hn ht h1 h2 h3 e]
  refine pW_eq (pW_lp (fun u o (x : Nat) => f_X7_besides_5 P (iI t) s u (iI x) (iI o) M) (fun o x => x = gct (fun o => decide (o ≠ t ∧ cm T o a b c = 2)) o) m ?_ fm_fuel 0 0 rfl (Nat.zero_le _) (by unfold fm_fuel; omega))
  intro u o x ho hI k
  have hx := gct_bd (fun o => decide (o ≠ t ∧ cm T o a b c = 2)) o
  rw [f_X7_besides_5, hM, bd_s]
  simp (disch := omega) only [iI_le]
  refine pW_if (fun q => ?_) (fun q => ?_)
  · have e : o = m := by omega
    subst e
    exact pW_some (by rw [hI])
  · refine pW_lp (fun w i (y : Nat) => f_X7_besides_21 P (iI t) s (fun x3 x4 M => f_X7_besides_5 P (iI t) s u x3 x4 M) w (iI x) (iI o) (iI y) (iI i) M) (fun i y => y = gct (fun k => inT T o (en a b c k)) i) 3 ?_ fm_fuel 0 0 rfl (Nat.zero_le _) (by unfold fm_fuel; omega)
    intro w i y hi hJ kk
    have hy := gct_bd (fun k => inT T o (en a b c k)) i
    rw [f_X7_besides_21, iI_3]
    simp (disch := omega) only [iI_le, iI_eq, iI_e2, f_X7_besides_78, f_X7_besides_79, f_X7_besides_52, iI_s, iI_p0]
    refine pW_if (fun q2 => ?_) (fun q2 => ?_)
    · have e3 : i = 3 := by omega
      subst e3
      have k0 := fun (z : decide (o ≠ t ∧ cm T o a b c = 2) = false) => k x (by omega) (by rw [gct_s, z, ← hI]; rfl)
      have k1 := fun (z : decide (o ≠ t ∧ cm T o a b c = 2) = true) => k (x + 1) (by omega) (by rw [gct_s, z, ← hI]; rfl)
      have hc : cm T o a b c = y := hJ.symm
      refine pW_if (fun q3 => k0 (decide_eq_false (fun z => z.1 (by omega)))) (fun q3 => pW_if (fun q4 => ?_) (fun q4 => k0 (decide_eq_false (fun z => q4 (by omega)))))
      exact k1 (decide_eq_true ⟨by omega, by omega⟩)
    · have eo : f_X7_endOf P s (iI t) (iI i) M = some (iI (en a b c i)) := by
        obtain ⟨z1, z2, z3⟩ := h t ht
        obtain rfl | rfl | rfl : i = 0 ∨ i = 1 ∨ i = 2 := by omega
        · exact z1.trans (by rw [g1]; rfl)
        · exact z2.trans (by rw [g2]; rfl)
        · exact z3.trans (by rw [g3]; rfl)
      have hen : en a b c i < 20 := by unfold en; repeat (first | omega | split)
      rw [eo, bd_s, r_has h h8 (show o < m by omega) (by omega), bd_s]
      cases c1 : inT T o (en a b c i) with
      | false =>
        rw [if_pos (by decide)]
        exact kk y (by omega) (by rw [gct_s, c1, ← hJ]; rfl)
      | true =>
        rw [if_neg (by decide)]
        exact kk (y + 1) (by omega) (by rw [gct_s, c1, ← hJ]; rfl)
end BS
theorem r_besK {P v n m : Nat} {M : fm_Mem} {X Y : Nat → Int} {T : Nat → Nat} {d : Nat} {D : Nat → Nat} (h : rK P M v n X Y m T) (hD : dueL n X Y d D) {t a b c : Nat} (ht : t < d) (h1 : a < b) (h2 : b < c) (h3 : c < n) (e : D t = (a * 20 + b) * 20 + c) : pW (f_X7_besides P (iI t) 1 M) (fun r => r.1 = iI ((eN d D a b : Int) + (eN d D b c : Int) + (eN d D a c : Int) - 3) ∧ frL P M r.2 ∧ rK P r.2 v n X Y m T) := by
  obtain ⟨M', e1, z1, z2, z3⟩ := rK_lay h hD
  have e2 : f_X7_besides P (iI t) 1 M = f_X7_besides P (iI t) 1 M' := by
    unfold f_X7_besides
    rw [show fm_fuel = 4999 + 1 from rfl, f_X7_besides_5, f_X7_besides_5, r_many_lay e1 (r_lay_id z3.1 z1)]
  rw [e2, r_besides (rdu_tri z1) (r_many1 z3.1 z1) hD.1 h.hn (by have := z1.2.2.2.1; omega) ht h1 h2 h3 e]
  exact pW_some ⟨rfl, z2, z3⟩
end
