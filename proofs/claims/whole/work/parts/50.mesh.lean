/-! the class's Mesh: add, remove, clear, copyFrom; counts of edges -/
theorem gPm_lt' {a b c p u v n : Nat} (h : gPm a b c p u v) (hp : p < n) (hu : u < n) (hv : v < n) : a < n ∧ b < n ∧ c < n := by
  unfold gPm at h
  rcases h with z | z | z | z | z | z <;> obtain ⟨rfl, rfl, rfl⟩ := z <;> exact ⟨by assumption, by assumption, by assumption⟩
section MA
variable {P m n : Nat} {M : fm_Mem} {T : Nat → Nat}
theorem k_edges3 {p q r : Nat} (hp : p < 20) (hq : q < 20) (hr : r < 20) (h1 : p ≠ q) (h2 : p ≠ r) (h3 : q ≠ r) (h : ∀ u w, u < 20 → w < 20 → M (P + 4) (20 * u + w) = bS (fun i => decide (u < w) && eT m T u w i)) :
    ∃ M1 M2 M', f_X1_changeEdge P (iI p) (iI q) (iI r) M = some M1 ∧ f_X1_changeEdge P (iI q) (iI r) (iI p) M1 = some M2 ∧ f_X1_changeEdge P (iI r) (iI p) (iI q) M2 = some M' ∧ (∀ b, b ≠ P + 4 → M' b = M b) ∧ ∀ u w, u < 20 → w < 20 → M' (P + 4) (20 * u + w) = bS (fun i => decide (u < w) && (eT m T u w i ^^ decide (i < 20 ∧ tC u w i = tC p q r))) := by
  obtain ⟨M', e, g1, g2⟩ := k_edges hp hq hr h1 h2 h3 h
  have e1 := k_edge (P := P) (M := M) (r := r) hp hq
  refine ⟨_, _, M', e1, k_edge hq hr, ?_, g1, g2⟩
  rw [e1, bd_s, k_edge hq hr, bd_s] at e
  exact e
theorem eT_in {k c u w i : Nat} (hk : k ≤ m) (hx : ∀ i, i < m → T i ≠ c) (huw : u ≠ w) : eT (m + 1) (gIn T k c) u w i = (eT m T u w i ^^ decide (i < 20 ∧ tC u w i = c)) := by
  unfold eT
  by_cases h : i < 20 ∧ tC u w i = c
  · rw [decide_eq_true h, decide_eq_true ⟨huw, h.1, (gIn_mem hk).mpr (Or.inl h.2)⟩, decide_eq_false (fun z => by
      obtain ⟨_, _, j, hj, e⟩ := z
      exact hx j hj (e.trans h.2))]
    rfl
  · rw [decide_eq_false h, Bool.xor_false]
    apply decide_eq_decide.mpr
    rw [gIn_mem hk]
    constructor
    · rintro ⟨a, b, c | c⟩
      · exact absurd ⟨b, c⟩ h
      · exact ⟨a, b, c⟩
    · rintro ⟨a, b, c⟩; exact ⟨a, b, Or.inr c⟩
theorem eT_out {k u w i : Nat} (hk : k < m) (hs : ∀ i j, i < j → j < m → T i < T j) (huw : u ≠ w) : eT (m - 1) (gOut T k) u w i = (eT m T u w i ^^ decide (i < 20 ∧ tC u w i = T k)) := by
  unfold eT
  by_cases h : i < 20 ∧ tC u w i = T k
  · rw [decide_eq_true h, decide_eq_true (p := u ≠ w ∧ i < 20 ∧ ∃ j, j < m ∧ T j = tC u w i) ⟨huw, h.1, k, hk, h.2.symm⟩, decide_eq_false (fun z => by
      obtain ⟨_, _, z⟩ := z
      exact ((gOut_mem hk hs).mp z).1 h.2)]
    rfl
  · rw [decide_eq_false h, Bool.xor_false]
    apply decide_eq_decide.mpr
    rw [gOut_mem hk hs]
    constructor
    · rintro ⟨a, b, c⟩; exact ⟨a, b, c.2⟩
    · rintro ⟨a, b, c⟩; exact ⟨a, b, fun z => h ⟨b, z⟩, c⟩
theorem k_add (h : cMs P M m T) (hv : tV n m T) (hn : n ≤ 20) (hm : m < 35) {p q r : Nat} (hp : p < n) (hq : q < n) (hr : r < n) (h1 : p ≠ q) (h2 : p ≠ r) (h3 : q ≠ r) (hx : ∀ i, i < m → T i ≠ tC p q r) : pW (f_X1_add P (iI p) (iI q) (iI r) M) (fun M' => ∃ k, tP m T (tC p q r) k ∧ cMs P M' (m + 1) (gIn T k (tC p q r)) ∧ ∀ b, b < P ∨ P + 5 ≤ b → M' b = M b) := by
  have hc : tC p q r < 8000 := by
    obtain ⟨a, b, c, k3, k4, k5, k6⟩ := tC_o h1 h2 h3
    have := gPm_lt' k5 hp hq hr
    omega
  unfold f_X1_add f_X1_add_67
  rw [k_code (by omega) (by omega) (by omega), bd_s]
  obtain ⟨v, ev, k, ek, hk⟩ := k_place h hv hn (show tC p q r < 2147483648 by omega)
  subst ek
  have hk1 := hk.1
  rw [if_neg (by rw [h.1, iI_35, iI_le (by omega) (by omega)]; omega), ev, bd_s, h.1]
  obtain ⟨M1, e1, a1, a2⟩ := k_ins (P := P + 1) (n := 35) (M := M) (x := iI ((tC p q r : Nat) : Int)) hk1 hm (by omega)
  rw [e1, bd_s, a1 P (by omega), h.1, iI_s]
  have hth : ∀ u w, u < 20 → w < 20 → fm_up M1 P 2 (iI ((m + 1 : Nat) : Int)) (P + 4) (20 * u + w) = bS (fun i => decide (u < w) && eT m T u w i) := fun u w hu hw => by
    rw [up_ne (by omega), a1 (P + 4) (by omega)]; exact h.2.2.2 u w hu hw
  obtain ⟨N1, N2, N3, b1, b2, b3, b4, b5⟩ := k_edges3 (P := P) (M := fm_up M1 P 2 (iI ((m + 1 : Nat) : Int))) (m := m) (T := T) (p := p) (q := q) (r := r) (by omega) (by omega) (by omega) h1 h2 h3 hth
  rw [b1, bd_s, b2, bd_s, b3, bd_s]
  refine pW_some ⟨k, hk, ⟨?_, by omega, fun t ht => ?_, fun u w hu hw => ?_⟩, fun b hb => ?_⟩
  · rw [b4 P (by omega), up_s]
  · rw [b4 (P + 2) (by omega), up_ne (by omega), show P + 2 = P + 1 + 1 from rfl, a2]
    unfold gIn
    by_cases c1 : t < k
    · rw [if_pos c1, if_pos c1]; exact h.2.2.1 t (by omega)
    · by_cases c2 : t = k
      · rw [if_neg c1, if_pos c2, if_neg c1, if_pos c2]
      · rw [if_neg c1, if_neg c2, if_pos (by omega), if_neg c1, if_neg c2]
        exact h.2.2.1 (t - 1) (by omega)
  · rw [b5 u w hu hw]
    apply bS_cong
    intro i hi
    by_cases c : u < w
    · rw [eT_in hk1 hx (by omega)]
    · rw [decide_eq_false c]; rfl
  · rw [b4 b (by omega), up_ne (by omega), a1 b (by omega)]
theorem k_rem (h : cMs P M m T) (hv : tV n m T) (hn : n ≤ 20) {p q r j : Nat} (hp : p < n) (hq : q < n) (hr : r < n) (h1 : p ≠ q) (h2 : p ≠ r) (h3 : q ≠ r) (hj : j < m) (hx : T j = tC p q r) : pW (f_X1_remove P (iI p) (iI q) (iI r) M) (fun M' => cMs P M' (m - 1) (gOut T j) ∧ ∀ b, b < P ∨ P + 5 ≤ b → M' b = M b) := by
  have hm := h.2.1
  have hc := tV_lt hv hn hj
  rw [hx] at hc
  unfold f_X1_remove f_X1_remove_79
  rw [k_code (by omega) (by omega) (by omega), bd_s]
  obtain ⟨v, ev, k, ek, hk1, hk2, hk3⟩ := k_place h hv hn (show tC p q r < 2147483648 by omega)
  subst ek
  have kj : k = j := by
    rcases Nat.lt_trichotomy k j with z | z | z
    · have := hk3 (by omega)
      have := hv.1 k j z hj
      omega
    · exact z
    · have := hk2 j z; omega
  subst kj
  rw [ev, bd_s, if_neg (by rw [h.1, iI_le (by omega) (by omega)]; omega), k_mg h hj, bd_s, hx, if_pos rfl]
  obtain ⟨M1, e1, a1, a2⟩ := k_del (P := P + 1) (n := 35) (M := M) (k := k) (by omega) (by omega)
  rw [e1, bd_s, a1 P (by omega), h.1, iI_1, iI_sub, show ((m : Nat) : Int) - 1 = ((m - 1 : Nat) : Int) by omega]
  have hth : ∀ u w, u < 20 → w < 20 → fm_up M1 P 2 (iI ((m - 1 : Nat) : Int)) (P + 4) (20 * u + w) = bS (fun i => decide (u < w) && eT m T u w i) := fun u w hu hw => by
    rw [up_ne (by omega), a1 (P + 4) (by omega)]; exact h.2.2.2 u w hu hw
  obtain ⟨N1, N2, N3, b1, b2, b3, b4, b5⟩ := k_edges3 (P := P) (M := fm_up M1 P 2 (iI ((m - 1 : Nat) : Int))) (m := m) (T := T) (p := p) (q := q) (r := r) (by omega) (by omega) (by omega) h1 h2 h3 hth
  rw [b1, bd_s, b2, bd_s, b3, bd_s]
  refine pW_some ⟨⟨?_, by omega, fun t ht => ?_, fun u w hu hw => ?_⟩, fun b hb => ?_⟩
  · rw [b4 P (by omega), up_s]
  · rw [b4 (P + 2) (by omega), up_ne (by omega), show P + 2 = P + 1 + 1 from rfl, a2]
    unfold gOut
    by_cases c1 : t < k
    · rw [if_pos c1, if_pos c1]; exact h.2.2.1 t (by omega)
    · rw [if_neg c1, if_pos (by omega), if_neg c1]; exact h.2.2.1 (t + 1) (by omega)
  · rw [b5 u w hu hw]
    apply bS_cong
    intro i hi
    by_cases c : u < w
    · rw [eT_out hj hv.1 (by omega), hx]
    · rw [decide_eq_false c]; rfl
  · rw [b4 b (by omega), up_ne (by omega), a1 b (by omega)]
theorem eT_m0 (T : Nat → Nat) (u w i : Nat) : eT 0 T u w i = false := decide_eq_false (fun z => by
  obtain ⟨_, _, j, hj, _⟩ := z
  omega)
theorem k_mclr (T : Nat → Nat) : pW (f_X1_clear P M) (fun M' => cMs P M' 0 T ∧ ∀ b, b < P ∨ P + 5 ≤ b → M' b = M b) := by
  unfold f_X1_clear
  obtain ⟨M1, e1, a1, a2⟩ := k_clr (P := P + 3) (n := 400) (M := fm_up M P 2 0) (by omega)
  rw [e1, bd_s]
  refine pW_some ⟨⟨?_, by omega, fun t ht => by omega, fun u w hu hw => ?_⟩, fun b hb => ?_⟩
  · rw [a1 P (by omega), up_s]; rfl
  · rw [show P + 4 = P + 3 + 1 from rfl, a2 _ (by omega), bS_0]
    exact bS_cong (fun i _ => by rw [eT_m0, Bool.and_false])
  · rw [a1 b (by omega), up_ne (by omega)]
theorem k_mcpy {R : Nat} (h : cMs R M m T) (hd : P + 5 ≤ R ∨ R + 5 ≤ P) : pW (f_X1_copyFrom P R M) (fun M' => cMs P M' m T ∧ ∀ b, b < P ∨ P + 5 ≤ b → M' b = M b) := by
  have hm := h.2.1
  unfold f_X1_copyFrom
  rw [k_cpy (by omega), bd_s, k_cpy (by omega), bd_s]
  refine pW_some ⟨⟨?_, hm, fun t ht => ?_, fun u w hu hw => ?_⟩, fun b hb => ?_⟩
  · rw [up_s, cp_ne (by omega), cp_ne (by omega)]; exact h.1
  · rw [up_ne (by omega), cp_ne (by omega), show P + 2 = P + 1 + 1 from rfl, cp_at, if_pos (by omega)]; exact h.2.2.1 t ht
  · rw [up_ne (by omega), show P + 4 = P + 3 + 1 from rfl, cp_at, if_pos (by omega), cp_ne (by omega)]; exact h.2.2.2 u w hu hw
  · rw [up_ne (by omega), cp_ne (by omega), cp_ne (by omega)]
theorem cMs_fr {M' : fm_Mem} (h : cMs P M m T) (hf : ∀ b, P ≤ b → b < P + 5 → M' b = M b) : cMs P M' m T := by
  unfold cMs
  rw [hf P (by omega) (by omega), hf (P + 2) (by omega) (by omega), hf (P + 4) (by omega) (by omega)]
  exact h
theorem cMs_cong {T' : Nat → Nat} (h : cMs P M m T) (he : ∀ i, i < m → T i = T' i) : cMs P M m T' := by
  refine ⟨h.1, h.2.1, fun t ht => by rw [← he t ht]; exact h.2.2.1 t ht, fun u w hu hw => ?_⟩
  rw [h.2.2.2 u w hu hw]
  apply bS_cong
  intro i _
  congr 1
  apply decide_eq_decide.mpr
  constructor
  · rintro ⟨a, b, j, hj, e⟩; exact ⟨a, b, j, hj, by rw [← he j hj]; exact e⟩
  · rintro ⟨a, b, j, hj, e⟩; exact ⟨a, b, j, hj, by rw [he j hj]; exact e⟩
/-- how many triangles the edge with this number has -/
def eE (m : Nat) (T : Nat → Nat) (e : Nat) : Nat := if e / 20 < e % 20 then eN m T (e / 20) (e % 20) else 0
theorem k_eget (h : cMs P M m T) {e : Nat} (he : e < 400) : f_X4_get (P + 3) 400 (iI e) M = some (bS (fun r => decide (e / 20 < e % 20) && eT m T (e / 20) (e % 20) r)) := by
  rw [k_get (by omega) (by omega)]
  have := h.2.2.2 (e / 20) (e % 20) (by omega) (by omega)
  rw [show 20 * (e / 20) + e % 20 = e by omega] at this
  exact congrArg some this
theorem eE_c (m : Nat) (T : Nat → Nat) (e : Nat) : gct (fun r => decide (e / 20 < e % 20) && eT m T (e / 20) (e % 20) r) 20 = eE m T e := by
  unfold eE eN
  by_cases c : e / 20 < e % 20
  · rw [if_pos c]; exact gct_cong (fun j _ => by rw [decide_eq_true c, Bool.true_and])
  · rw [if_neg c]; exact (gct_0 _ _).mpr (fun j _ => by rw [decide_eq_false c, Bool.false_and])
theorem eE_z (m : Nat) (T : Nat → Nat) (e : Nat) : (bS (fun r => decide (e / 20 < e % 20) && eT m T (e / 20) (e % 20) r) = 0) = (eE m T e = 0) := by
  rw [← eE_c, bS_z, gct_0]
  refine propext ⟨fun h i hi => h i (by omega), fun h i _ => ?_⟩
  by_cases z : i < 20
  · exact h i z
  · rw [eT_20 (by omega), Bool.and_false]
theorem k_edgesOf (h : cMs P M m T) {k : Nat} (hk : k ≤ 2) : f_X1_edgesOf P (iI k) M = some (iI ((gct (fun e => decide (eE m T e = k)) 400 : Nat) : Int)) := by
  refine pW_eq (pW_lp (fun u i (s : Nat) => f_X1_edgesOf_4 P (iI k) u (iI s) (iI i) M) (fun i s => s = gct (fun e => decide (eE m T e = k)) i) 400 ?_ fm_fuel 0 0 rfl (Nat.zero_le _) (by unfold fm_fuel; omega))
  intro u i s hi hI kk
  rw [f_X1_edgesOf_4, iI_400]
  simp (disch := omega) only [iI_le]
  refine pW_if (fun q => ?_) (fun q => ?_)
  · have e : i = 400 := by omega
    subst e
    exact pW_some (by rw [hI])
  · have hE : eE m T i ≤ 20 := by rw [← eE_c]; exact gct_bd _ _
    rw [k_eget h (by omega), bd_s, k_bitsS _ (fun j h1 _ => by rw [eT_20 h1, Bool.and_false]), eE_c, bd_s]
    simp (disch := omega) only [iI_eq, f_X1_edgesOf_29, iI_s]
    refine pW_if (fun q1 => ?_) (fun q1 => ?_)
    · exact kk (s + 1) (by omega) (by rw [gct_s, ← hI, decide_eq_true (by omega)]; rfl)
    · exact kk s (by omega) (by rw [gct_s, ← hI, decide_eq_false (by omega)]; rfl)
theorem k_beyond {R m' : Nat} {T' : Nat → Nat} (h : cMs P M m T) (h' : cMs R M m' T') : f_X1_edgesBeyond P R M = some (iI ((gct (fun e => decide (eE m T e ≠ 0 ∧ eE m' T' e = 0)) 400 : Nat) : Int)) := by
  refine pW_eq (pW_lp (fun u i (s : Nat) => f_X1_edgesBeyond_4 P R u (iI s) (iI i) M) (fun i s => s = gct (fun e => decide (eE m T e ≠ 0 ∧ eE m' T' e = 0)) i) 400 ?_ fm_fuel 0 0 rfl (Nat.zero_le _) (by unfold fm_fuel; omega))
  intro u i s hi hI kk
  rw [f_X1_edgesBeyond_4, iI_400]
  simp (disch := omega) only [iI_le]
  refine pW_if (fun q => ?_) (fun q => ?_)
  · have e : i = 400 := by omega
    subst e
    exact pW_some (by rw [hI])
  · rw [k_eget h (by omega), bd_s, k_eget h' (by omega), bd_s]
    simp only [eE_z, f_X1_edgesBeyond_36, iI_s]
    refine pW_if (fun q1 => ?_) (fun q1 => pW_if (fun q2 => ?_) (fun q2 => ?_))
    · exact kk s (by omega) (by rw [gct_s, ← hI, decide_eq_false (by omega)]; rfl)
    · exact kk (s + 1) (by omega) (by rw [gct_s, ← hI, decide_eq_true ⟨q1, q2⟩]; rfl)
    · exact kk s (by omega) (by rw [gct_s, ← hI, decide_eq_false (by omega)]; rfl)
theorem k_tbeyond {R m' : Nat} {T' : Nat → Nat} (h : cMs P M m T) (hv : tV n m T) (hn : n ≤ 20) (h' : cMs R M m' T') {n' : Nat} (hv' : tV n' m' T') (hn' : n' ≤ 20) : f_X1_trianglesBeyond P R M = some (iI ((gct (fun t => decide (¬ ∃ i, i < m' ∧ T' i = T t)) m : Nat) : Int)) := by
  have hm := h.2.1
  refine pW_eq (pW_lp (fun u i (s : Nat) => f_X1_trianglesBeyond_4 P R u (iI s) (iI i) M) (fun i s => s = gct (fun t => decide (¬ ∃ i, i < m' ∧ T' i = T t)) i) m ?_ fm_fuel 0 0 rfl (Nat.zero_le _) (by unfold fm_fuel; omega))
  intro u i s hi hI kk
  rw [f_X1_trianglesBeyond_4, h.1]
  simp (disch := omega) only [iI_le]
  refine pW_if (fun q => ?_) (fun q => ?_)
  · have e : i = m := by omega
    subst e
    exact pW_some (by rw [hI])
  · have hT := tV_lt hv hn (show i < m by omega)
    rw [k_mg h (by omega), bd_s, k_holds h' hv' hn' (by omega), bd_s]
    simp only [f_X1_trianglesBeyond_30, iI_s]
    by_cases c : ∃ j, j < m' ∧ T' j = T i
    · rw [if_pos c, if_neg (by decide)]
      exact kk s (by omega) (by rw [gct_s, ← hI, decide_eq_false (fun z => z c)]; rfl)
    · rw [if_neg c, if_pos rfl]
      exact kk (s + 1) (by omega) (by rw [gct_s, ← hI, decide_eq_true c]; rfl)
theorem k_beside (h : cMs P M m T) {t a b c : Nat} (ht : t < m) (ha : a < 20) (hb : b < 20) (hc : c < 20) (e : T t = (a * 20 + b) * 20 + c) : f_X1_beside P (iI t) M = some (iI ((eN m T a b : Int) + (eN m T b c : Int) + (eN m T a c : Int) - 3)) := by
  obtain ⟨e1, e2, e3⟩ := k_abc h ht hb hc ha e
  have z : ∀ p q, ∀ i, 20 ≤ i → i < 32 → eT m T p q i = false := fun p q i h1 _ => eT_20 h1
  unfold f_X1_beside
  rw [e1, bd_s, e2, bd_s, e3, bd_s, k_th h ha hb, bd_s, k_bitsS _ (z a b), bd_s, k_th h hb hc, bd_s, k_bitsS _ (z b c), bd_s, k_th h ha hc, bd_s, k_bitsS _ (z a c), bd_s, iI_3, iI_add, iI_add, iI_sub]
  rfl
end MA
