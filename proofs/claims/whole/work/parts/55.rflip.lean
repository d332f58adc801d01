/-! the reference: reasons, bad edges, flips -/
/-- one row of the reference's versions may differ between places lo and hi -/
def frR (P v lo hi : Nat) (M M' : fm_Mem) : Prop := ∀ b j, (b ≠ P + 1 ∨ j < 200 * v + lo ∨ 200 * v + hi ≤ j) → M' b j = M b j
theorem frR_t {P v lo hi : Nat} {M M1 M2 : fm_Mem} (h : frR P v lo hi M M1) (h' : frR P v lo hi M1 M2) : frR P v lo hi M M2 := fun b j z => (h' b j z).trans (h b j z)
theorem frR_w {P v lo hi lo' hi' : Nat} {M M1 : fm_Mem} (h : frR P v lo hi M M1) (h1 : lo' ≤ lo) (h2 : hi ≤ hi') : frR P v lo' hi' M M1 := fun b j z => h b j (by omega)
theorem frR_r {P v lo hi : Nat} {M : fm_Mem} : frR P v lo hi M M := fun _ _ _ => rfl
theorem frR_up {P v lo hi k : Nat} {M : fm_Mem} {x : Int32} (h1 : lo ≤ k) (h2 : k < hi) : frR P v lo hi M (fm_up M (P + 1) (200 * v + k) x) := fun b j z => up_i (by omega)
section RB
variable {P v n m : Nat} {M : fm_Mem} {X Y : Nat → Int} {T : Nat → Nat}
theorem r_why (hp : rpt P M v n X Y) (hm : rtr P M v m T) (hb : gbd n X Y) (hv : tV n m T) (hle : ∀ p q, p < 20 → q < 20 → eN m T p q ≤ 2) {p q : Nat} (hpn : p < n) (hqn : q < n) : f_X7_whyNot P (iI p) (iI q) M = some (iI (gRef X Y m T p q), M) := by
  have hn := hp.2.1
  have hE := hle p q (by omega) (by omega)
  unfold f_X7_whyNot gRef
  rw [r_edge (rtr_tri hm) (r_many0 hm) hv hn hm.2.1 (by omega) (by omega), bd_s, iI_2, iI_3]
  simp (disch := omega) only [iI_le, f_X7_whyNot_22, f_X7_whyNot_74]
  by_cases h0 : eN m T p q = 0
  · rw [if_neg (by omega), if_pos (by rw [iI_0, iI_eq (by omega) (by omega)]; omega), if_pos h0]; rfl
  · rw [if_neg h0]
    by_cases h2 : eN m T p q = 2
    · rw [if_pos (by omega), if_pos h2]
      obtain ⟨g1, g2, g3, g4, g5, -, -⟩ := gE_two h2
      have v1 := eT_v hv hn (by omega) (by omega) g3
      have v2 := eT_v hv hn (by omega) (by omega) g4
      have ⟨l1, l2⟩ := r_third hm hv hn (show p < 20 by omega) (show q < 20 by omega) h2
      rw [l1, bd_s, l2, bd_s]
      clear l1 l2
      generalize gE1 m T p q = c at *
      generalize gE2 m T p q = d at *
      have t1 := gT_bd hb v1.2.2.2.2.2.1 v2.2.2.2.2.2.1 hpn
      have t2 := gT_bd hb v1.2.2.2.2.2.1 v2.2.2.2.2.2.1 hqn
      have s1 := gSg_r (gT X Y c d p * gT X Y c d q)
      rw [r_turn hp hb v1.2.2.2.2.2.1 v2.2.2.2.2.2.1 hpn, bd_s, r_sign (by omega), bd_s, r_turn hp hb v1.2.2.2.2.2.1 v2.2.2.2.2.2.1 hqn, bd_s, r_sign (by omega), bd_s, iI_mul, gSg_mul, iI_0]
      simp (disch := omega) only [iI_lt, gSg_n]
      split <;> rfl
    · rw [if_neg (by omega), if_neg (by rw [iI_0, iI_eq (by omega) (by omega)]; omega), if_neg h2]
theorem r_bad (hp : rpt P M v n X Y) (hm : rtr P M v m T) (hb : gbd n X Y) (hv : tV n m T) {p q : Nat} (hpn : p < n) (hqn : q < n) : f_X7_isBad P (iI p) (iI q) M = some (if gBad X Y m T p q then 1 else 0, M) := by
  have hn := hp.2.1
  have hE : eN m T p q ≤ 20 := gct_bd _ _
  unfold f_X7_isBad gBad
  rw [r_edge (rtr_tri hm) (r_many0 hm) hv hn hm.2.1 (by omega) (by omega), bd_s, iI_2]
  simp (disch := omega) only [iI_eq, f_X7_isBad_38, f_X7_isBad_39, bo_0, bo_1, ck_t]
  by_cases h2 : eN m T p q = 2
  · rw [if_pos (by omega)]
    obtain ⟨g1, g2, g3, g4, g5, -, -⟩ := gE_two h2
    have v1 := eT_v hv hn (by omega) (by omega) g3
    have v2 := eT_v hv hn (by omega) (by omega) g4
    have ⟨l1, l2⟩ := r_third hm hv hn (show p < 20 by omega) (show q < 20 by omega) h2
    rw [l1, bd_s, l2, bd_s]
    clear l1 l2
    generalize gE1 m T p q = c at *
    generalize gE2 m T p q = d at *
    have s1 := gSg_r (gI X Y p q c (X d) (Y d))
    rw [r_circleBy hp hb hpn hqn v1.2.2.2.2.2.1 v2.2.2.2.2.2.1, bd_s]
    simp (disch := omega) only [iI_0, iI_le]
    by_cases hx : 0 < gI X Y p q c (X d) (Y d)
    · rw [if_neg (by have := (gSg_p _).mpr hx; omega), decide_eq_true ⟨h2, hx⟩]; rfl
    · rw [if_pos (by
        refine Classical.byContradiction fun z => hx ((gSg_p _).mp (by omega))), decide_eq_false (fun z => hx z.2)]; rfl
  · rw [if_neg (by omega), decide_eq_false (fun z => h2 z.1)]; rfl
theorem r_fbad (hp : rpt P M v n X Y) (hm : rtr P M v m T) (hb : gbd n X Y) (hv : tV n m T) : pW (f_X7_firstBad P M) (fun r => r.2 = M ∧ ∃ z, r.1 = iI z ∧ gFB n X Y m T z) := by
  have hn := hp.2.1
  unfold f_X7_firstBad
  rw [iI_0]
  refine pW_lp (fun u p (_ : Unit) => f_X7_firstBad_2 P u (iI p) M) (fun p _ => ∀ p' q', p' < q' → q' < n → p' < p → gBad X Y m T p' q' = false) n ?_ fm_fuel 0 () (fun p' q' _ _ z => absurd z (Nat.not_lt_zero p')) (Nat.zero_le _) (by unfold fm_fuel; omega)
  intro u p s hpp hI k
  rw [f_X7_firstBad_2, r_points hp, bd_s]
  simp (disch := omega) only [iI_le, iI_s]
  refine pW_if (fun q1 => ?_) (fun q1 => ?_)
  · exact pW_some ⟨rfl, -1, iI_m1, Or.inl ⟨rfl, fun p' q' h1 h2 => hI p' q' h1 h2 (by omega)⟩⟩
  · refine pW_lp (fun w q (_ : Unit) => f_X7_firstBad_14 P (fun x1 M => f_X7_firstBad_2 P u x1 M) w (iI p) (iI q) M) (fun q _ => p < q ∧ ∀ p' q', p' < q' → q' < n → (p' < p ∨ (p' = p ∧ q' < q)) → gBad X Y m T p' q' = false) n ?_ fm_fuel (p + 1) () ⟨by omega, fun p' q' h1 h2 h3 => hI p' q' h1 h2 (by omega)⟩ (by omega) (by unfold fm_fuel; omega)
    intro w q s' hq hJ kk
    rw [f_X7_firstBad_14, r_points hp, bd_s]
    simp (disch := omega) only [iI_le, iI_s]
    refine pW_if (fun q2 => ?_) (fun q2 => ?_)
    · exact k () (by omega) (fun p' q' h1 h2 h3 => hJ.2 p' q' h1 h2 (by omega))
    · rw [r_bad hp hm hb hv (by omega) (by omega), bd_s]
      cases hB : gBad X Y m T p q with
      | false =>
        rw [if_pos (show (if false = true then (1 : Int32) else 0) = 0 by decide)]
        refine kk () (by omega) ⟨by omega, fun p' q' h1 h2 h3 => ?_⟩
        by_cases e : p' = p ∧ q' = q
        · rw [e.1, e.2]; exact hB
        · exact hJ.2 p' q' h1 h2 (by omega)
      | true =>
        rw [if_neg (show ¬ (if true = true then (1 : Int32) else 0) = 0 by decide), iI_100, iI_mul, iI_add]
        exact pW_some ⟨rfl, _, rfl, Or.inr ⟨p, q, hJ.1, by omega, rfl, hB, hJ.2⟩⟩
/-! storage of triangles in any order -/
theorem rtr_cong {T' : Nat → Nat} (h : rtr P M v m T) (he : ∀ i, i < m → T i = T' i) : rtr P M v m T' := ⟨h.1, h.2.1, h.2.2.1, fun t ht => by rw [← he t ht]; exact h.2.2.2 t ht⟩
/-- the three numbers of a triangle are laid -/
theorem r_lays3 (h : rtr P M v m T) {t a b c : Nat} (ht : t < m) (hb : b < 20) (hc : c < 20) : pW (f_X7_lays3 P (iI t) (iI a) (iI b) (iI c) M) (fun M' => rtr P M' v m (fun i => if i = t then (a * 20 + b) * 20 + c else T i) ∧ frR P v (60 + 3 * t) (63 + 3 * t) M M') := by
  have hm := h.2.1
  have hN : ∀ M1, frR P v (60 + 3 * t) (63 + 3 * t) M M1 → rvn P M1 v := fun M1 f => ⟨(f P 3 (by omega)).trans h.1.1, h.1.2⟩
  unfold f_X7_lays3
  rw [iI_60, iI_3, iI_1, iI_2, iI_mul, iI_add, iI_add, iI_add, show (60 : Int) + 3 * (t : Int) = ((60 + 3 * t : Nat) : Int) by omega, show ((60 + 3 * t : Nat) : Int) + 1 = ((60 + 3 * t + 1 : Nat) : Int) by omega, show ((60 + 3 * t : Nat) : Int) + 2 = ((60 + 3 * t + 2 : Nat) : Int) by omega]
  have f1 : frR P v (60 + 3 * t) (63 + 3 * t) M (fm_up M (P + 1) (200 * v + (60 + 3 * t)) (iI a)) := frR_up (by omega) (by omega)
  have f2 := frR_t f1 (frR_up (P := P) (v := v) (lo := 60 + 3 * t) (hi := 63 + 3 * t) (k := 60 + 3 * t + 1) (M := fm_up M (P + 1) (200 * v + (60 + 3 * t)) (iI a)) (x := iI b) (by omega) (by omega))
  have f3 := frR_t f2 (frR_up (P := P) (v := v) (lo := 60 + 3 * t) (hi := 63 + 3 * t) (k := 60 + 3 * t + 2) (M := fm_up (fm_up M (P + 1) (200 * v + (60 + 3 * t)) (iI a)) (P + 1) (200 * v + (60 + 3 * t + 1)) (iI b)) (x := iI c) (by omega) (by omega))
  rw [r_put h.1 (by omega), bd_s, r_put (hN _ f1) (by omega), bd_s, r_put (hN _ f2) (by omega), bd_s]
  refine pW_some ⟨⟨hN _ f3, hm, (f3 (P + 1) _ (by omega)).trans h.2.2.1, fun i hi => ?_⟩, f3⟩
  by_cases e : i = t
  · subst e
    simp only [if_pos]
    rw [show ((a * 20 + b) * 20 + c) / 400 = a by omega, show ((a * 20 + b) * 20 + c) / 20 % 20 = b by omega, show ((a * 20 + b) * 20 + c) % 20 = c by omega]
    refine ⟨?_, ?_, ?_⟩
    · rw [up_i (by omega), up_i (by omega), up_s]
    · rw [up_i (by omega), up_s]
    · rw [up_s]
  · simp only [if_neg e]
    rw [f3 (P + 1) _ (by omega), f3 (P + 1) _ (by omega), f3 (P + 1) _ (by omega)]
    exact h.2.2.2 i hi
theorem r_code (h : rtr P M v m T) {t : Nat} (ht : t < m) (h8 : T t < 8000) : f_X7_codeOf P (iI t) M = some (iI (T t)) := by
  obtain ⟨e1, e2, e3⟩ := rtr_tri h t ht
  unfold f_X7_codeOf
  rw [e1, bd_s, e2, bd_s, e3, bd_s, iI_400, iI_20, iI_mul, iI_mul, iI_add, iI_add]
  congr 2
  omega
theorem r_before (h : rtr P M v m T) {t o : Nat} (ht : t < m) (ho : o < m) (h8 : T t < 8000) (h9 : T o < 8000) : f_X7_isBefore P (iI t) (iI o) M = some (if T t < T o then 1 else 0) := by
  unfold f_X7_isBefore f_X7_isBefore_18
  rw [r_code h ht h8, bd_s, r_code h ho h9, bd_s, bo_0, bo_1, ck_t, ck_t]
  simp (disch := omega) only [iI_le]
  by_cases c : T t < T o
  · rw [if_neg (by omega), if_pos c]
  · rw [if_pos (by omega), if_neg c]
theorem r_swaps (h : rtr P M v m T) {t o : Nat} (ht : t < m) (ho : o < m) (hto : t ≠ o) : pW (f_X7_swaps P (iI t) (iI o) M) (fun M' => rtr P M' v m (fun i => if i = t then T o else if i = o then T t else T i) ∧ frR P v 60 180 M M') := by
  have hm := h.2.1
  -- the place of one of the three numbers
  let C : Nat → Nat → Int32 := fun k c => if k = 0 then iI ((c / 400 : Nat) : Int) else if k = 1 then iI ((c / 20 % 20 : Nat) : Int) else iI ((c % 20 : Nat) : Int)
  have hM : ∀ i k, i < m → k < 3 → M (P + 1) (200 * v + (60 + 3 * i + k)) = C k (T i) := fun i k hi hk => by
    obtain ⟨z1, z2, z3⟩ := h.2.2.2 i hi
    have : k = 0 ∨ k = 1 ∨ k = 2 := by omega
    rcases this with rfl | rfl | rfl
    · exact z1
    · exact z2
    · exact z3
  unfold f_X7_swaps
  rw [iI_0]
  refine pW_lp (fun u k (M1 : fm_Mem) => f_X7_swaps_2 P (iI t) (iI o) u (iI k) M1) (fun k M1 => frR P v 60 180 M M1 ∧ ∀ i j, i < m → j < 3 → M1 (P + 1) (200 * v + (60 + 3 * i + j)) = C j (if j < k then (if i = t then T o else if i = o then T t else T i) else T i)) 3 ?_ fm_fuel 0 M ⟨frR_r, fun i j hi hj => by rw [if_neg (by omega)]; exact hM i j hi hj⟩ (Nat.zero_le _) (by unfold fm_fuel; omega)
  intro u k M1 hk hI kk
  obtain ⟨f1, m1⟩ := hI
  have hv1 : rvn P M1 v := ⟨(f1 P 3 (by omega)).trans h.1.1, h.1.2⟩
  rw [f_X7_swaps_2, iI_3]
  simp (disch := omega) only [iI_le, iI_s]
  refine pW_if (fun q => ?_) (fun q => ?_)
  · have e : k = 3 := by omega
    subst e
    refine pW_some ⟨⟨hv1, hm, (f1 (P + 1) _ (by omega)).trans h.2.2.1, fun i hi => ?_⟩, f1⟩
    have a0 := m1 i 0 hi (by omega)
    have a1 := m1 i 1 hi (by omega)
    have a2 := m1 i 2 hi (by omega)
    rw [if_pos (by omega)] at a0 a1 a2
    exact ⟨a0, a1, a2⟩
  · have gE : ∀ M2 i, rvn P M2 v → i < m → f_X7_endOf P 0 (iI i) (iI k) M2 = some (M2 (P + 1) (200 * v + (60 + 3 * i + k))) := fun M2 i h2 hi => by
      unfold f_X7_endOf f_X7_endOf_29
      rw [if_pos rfl, iI_60, iI_3, iI_mul, iI_add, iI_add, show (60 : Int) + 3 * (i : Int) + (k : Int) = ((60 + 3 * i + k : Nat) : Int) by omega, r_get h2 (by omega)]
      rfl
    rw [gE M1 t hv1 ht, bd_s, gE M1 o hv1 ho, bd_s, iI_60, iI_mul, iI_mul, iI_add, iI_add, iI_add, iI_add, show (60 : Int) + 3 * (t : Int) + (k : Int) = ((60 + 3 * t + k : Nat) : Int) by omega, show (60 : Int) + 3 * (o : Int) + (k : Int) = ((60 + 3 * o + k : Nat) : Int) by omega, r_put hv1 (by omega), bd_s]
    have f2 : frR P v 60 180 M1 (fm_up M1 (P + 1) (200 * v + (60 + 3 * t + k)) (M1 (P + 1) (200 * v + (60 + 3 * o + k)))) := frR_up (by omega) (by omega)
    rw [r_put ⟨(f2 P 3 (by omega)).trans hv1.1, hv1.2⟩ (by omega), bd_s]
    refine kk _ (by omega) ⟨frR_t f1 (frR_t f2 (frR_up (by omega) (by omega))), fun i j hi hj => ?_⟩
    by_cases ej : j = k
    · subst ej
      rw [if_pos (by omega)]
      by_cases eo : i = o
      · subst eo
        rw [up_s, m1 t j ht hj, if_neg (by omega), if_neg (fun z => hto z.symm), if_pos rfl]
      · by_cases et : i = t
        · subst et
          rw [up_i (by omega), up_s, m1 o j ho hj, if_neg (by omega), if_pos rfl]
        · rw [up_i (by omega), up_i (by omega), m1 i j hi hj, if_neg (by omega), if_neg et, if_neg eo]
    · rw [up_i (by omega), up_i (by omega), m1 i j hi hj]
      by_cases c : j < k
      · rw [if_pos c, if_pos (show j < k + 1 by omega)]
      · rw [if_neg c, if_neg (show ¬ j < k + 1 by omega)]
theorem gIn_sw (S : Nat → Nat) (k c : Nat) : ∀ i, (fun i => if i = k + 1 then gIn S (k + 1) c k else if i = k then gIn S (k + 1) c (k + 1) else gIn S (k + 1) c i) i = gIn S k c i := fun i => by
  dsimp only
  unfold gIn
  by_cases a : i = k + 1
  · rw [if_pos a, if_pos (by omega), if_neg (by omega), if_neg (by omega), a]; rfl
  · by_cases b : i = k
    · rw [if_neg a, if_pos b, if_neg (by omega), if_pos rfl, if_neg (by omega), if_pos b]
    · rw [if_neg a, if_neg b]
      by_cases d : i < k
      · rw [if_pos (by omega), if_pos d]
      · rw [if_neg (by omega), if_neg a, if_neg d, if_neg b]
theorem gIn_sw2 (S : Nat → Nat) (k c : Nat) : ∀ i, (fun i => if i = k then gIn S k c (k + 1) else if i = k + 1 then gIn S k c k else gIn S k c i) i = gIn S (k + 1) c i := fun i => by
  dsimp only
  unfold gIn
  by_cases a : i = k
  · rw [if_pos a, if_neg (by omega), if_neg (by omega), if_pos (by omega), a]; rfl
  · by_cases b : i = k + 1
    · rw [if_neg a, if_pos b, if_neg (by omega), if_pos rfl, if_neg (by omega), if_pos b]
    · rw [if_neg a, if_neg b]
      by_cases d : i < k
      · rw [if_pos d, if_pos (by omega)]
      · rw [if_neg d, if_neg a, if_neg (by omega), if_neg b]
/-- a triangle becomes another one and goes to its place -/
theorem r_becomes (h : rtr P M v m T) (hv : tV n m T) (hn : n ≤ 20) {t p q r : Nat} (ht : t < m) (hp : p < n) (hq : q < n) (hr : r < n) (h1 : p ≠ q) (h2 : p ≠ r) (h3 : q ≠ r) (hx : ∀ i, i < m → T i ≠ tC p q r) : pW (f_X7_becomes P (iI t) (iI p) (iI q) (iI r) M) (fun M' => ∃ k, tP (m - 1) (gOut T t) (tC p q r) k ∧ rtr P M' v m (gIn (gOut T t) k (tC p q r)) ∧ frR P v 60 180 M M') := by
  have hm := h.2.1
  obtain ⟨a, b, c, k1, k2, k3, k4⟩ := tC_o h1 h2 h3
  have kn := gPm_lt' k3 hp hq hr
  have VO := gOut_V hv ht
  have S8 : ∀ i, i < m - 1 → gOut T t i < 8000 := fun i hi => tV_lt VO hn hi
  have nx : ∀ i, i < m - 1 → gOut T t i ≠ tC p q r := fun i hi e => by
    obtain ⟨-, j, hj, y⟩ := (gOut_mem ht hv.1).mp ⟨i, hi, e⟩
    exact hx j hj y
  have c8 : tC p q r < 8000 := by omega
  have G8 : ∀ k, k ≤ m - 1 → ∀ i, i < m → gIn (gOut T t) k (tC p q r) i < 8000 := fun k hk i hi => by
    unfold gIn
    by_cases x : i < k
    · rw [if_pos x]; exact S8 i (by omega)
    · by_cases y : i = k
      · rw [if_neg x, if_pos y]; exact c8
      · rw [if_neg x, if_neg y]; exact S8 (i - 1) (by omega)
  unfold f_X7_becomes
  rw [mi_n (p := q) (q := r) (by omega) (by omega), mx_n (p := q) (q := r) (by omega) (by omega), mi_n (p := p) (by omega) (by omega), mx_n (p := p) (by omega) (by omega)]
  simp only [iI_add, iI_sub]
  have em : min p (min q r) = a ∧ max p (max q r) = c ∧ p + q + r = a + b + c := by
    unfold gPm at k3
    rcases k3 with z | z | z | z | z | z <;> omega
  rw [em.1, em.2.1, show ((p : Int) + (q : Int) + (r : Int) - ((a : Nat) : Int) - ((c : Nat) : Int)) = ((b : Nat) : Int) by omega]
  obtain ⟨M1, x1, t1, f1⟩ := r_lays3 h (a := a) ht (show b < 20 by omega) (show c < 20 by omega)
  rw [x1, bd_s]
  have t1' : rtr P M1 v m (gIn (gOut T t) t (tC p q r)) := rtr_cong t1 (fun i hi => by
    unfold gIn gOut
    by_cases e : i = t
    · rw [if_pos e, if_neg (by omega), if_pos e, k4]
    · by_cases l : i < t
      · rw [if_neg e, if_pos l, if_pos l]
      · rw [if_neg e, if_neg l, if_neg e, if_neg (by omega), show i - 1 + 1 = i by omega])
  have f1' : frR P v 60 180 M M1 := frR_w f1 (by omega) (by omega)
  clear t1 f1 x1
  -- down
  refine pW_lm (fun u (z : Nat × fm_Mem) => f_X7_becomes_48 P (iI t) (iI p) (iI q) (iI r) u (iI z.1) z.2) (fun z => z.1 ≤ m - 1 ∧ rtr P z.2 v m (gIn (gOut T t) z.1 (tC p q r)) ∧ frR P v 60 180 M z.2) (fun z => z.1) ?_ fm_fuel (t, M1) ⟨by dsimp only; omega, t1', f1'⟩ (by unfold fm_fuel; dsimp only; omega)
  intro u z hI kk
  obtain ⟨j, M2⟩ := z
  obtain ⟨jm, t2, f2⟩ := hI
  dsimp only at jm t2 f2 kk ⊢
  have up : (∀ i, i < j → gOut T t i < tC p q r) → pW (f_X7_becomes_82 P (iI t) (iI p) (iI q) (iI r) fm_fuel (iI j) M2) (fun M' => ∃ k, tP (m - 1) (gOut T t) (tC p q r) k ∧ rtr P M' v m (gIn (gOut T t) k (tC p q r)) ∧ frR P v 60 180 M M') := fun lo => by
    refine pW_lp (fun u l (M3 : fm_Mem) => f_X7_becomes_82 P (iI t) (iI p) (iI q) (iI r) u (iI l) M3) (fun l M3 => (∀ i, i < l → gOut T t i < tC p q r) ∧ rtr P M3 v m (gIn (gOut T t) l (tC p q r)) ∧ frR P v 60 180 M M3) (m - 1) ?_ fm_fuel j M2 ⟨lo, t2, f2⟩ jm (by unfold fm_fuel; omega)
    intro w l M3 hl hJ kl
    obtain ⟨l1, t3, f3⟩ := hJ
    rw [f_X7_becomes_82, iI_s, show f_X7_get P 1 M3 = some (iI m) by rw [iI_1]; exact (r_get t3.1 (k := 1) (by omega)).trans (congrArg some t3.2.2.1), bd_s]
    simp (disch := omega) only [iI_le, f_X7_becomes_123]
    refine pW_if (fun q1 => ?_) (fun q1 => ?_)
    · exact pW_some ⟨l, ⟨by omega, l1, fun z => by omega⟩, t3, f3⟩
    · rw [r_before t3 (show l + 1 < m by omega) (show l < m by omega) (G8 l (by omega) _ (by omega)) (G8 l (by omega) _ (by omega)), bd_s]
      have e1 : gIn (gOut T t) l (tC p q r) (l + 1) = gOut T t l := by unfold gIn; rw [if_neg (by omega), if_neg (by omega)]; rfl
      have e2 : gIn (gOut T t) l (tC p q r) l = tC p q r := by unfold gIn; rw [if_neg (by omega), if_pos rfl]
      rw [e1, e2]
      by_cases lt : gOut T t l < tC p q r
      · rw [if_pos lt, if_neg (by decide)]
        obtain ⟨M4, x4, t4, f4⟩ := r_swaps t3 (t := l) (o := l + 1) (by omega) (by omega) (by omega)
        rw [x4, bd_s]
        refine kl M4 (by omega) ⟨fun i hi => ?_, rtr_cong t4 (fun i _ => gIn_sw2 _ l _ i), frR_t f3 f4⟩
        by_cases il : i = l
        · rw [il]; exact lt
        · exact l1 i (by omega)
      · rw [if_neg lt, if_pos rfl]
        exact pW_some ⟨l, ⟨by omega, l1, fun z => by omega⟩, t3, f3⟩
  rw [f_X7_becomes_48, iI_m1, iI_1, iI_sub, iI_add]
  by_cases j0 : j = 0
  · subst j0
    rw [if_pos (by rw [iI_0, iI_le (by omega) (by omega)]; omega)]
    exact up (fun i hi => absurd hi (Nat.not_lt_zero i))
  · obtain ⟨l, rfl⟩ : ∃ l, j = l + 1 := ⟨j - 1, by omega⟩
    rw [if_neg (by rw [iI_0, iI_le (by omega) (by omega)]; omega), show ((l + 1 : Nat) : Int) - 1 = ((l : Nat) : Int) by omega, show ((l + 1 : Nat) : Int) + -1 = ((l : Nat) : Int) by omega, r_before t2 (show l + 1 < m by omega) (show l < m by omega) (G8 _ jm _ (by omega)) (G8 _ jm _ (by omega)), bd_s]
    have e1 : gIn (gOut T t) (l + 1) (tC p q r) (l + 1) = tC p q r := by unfold gIn; rw [if_neg (by omega), if_pos rfl]
    have e2 : gIn (gOut T t) (l + 1) (tC p q r) l = gOut T t l := by unfold gIn; rw [if_pos (by omega)]
    rw [e1, e2]
    have ne := nx l (by omega)
    by_cases lt : tC p q r < gOut T t l
    · rw [if_pos lt, if_neg (by decide)]
      obtain ⟨M4, x4, t4, f4⟩ := r_swaps t2 (t := l + 1) (o := l) (by omega) (by omega) (by omega)
      rw [x4, bd_s]
      exact kk (l, M4) ⟨by dsimp only; omega, rtr_cong t4 (fun i _ => gIn_sw _ l _ i), frR_t f2 f4⟩ (by dsimp only; omega)
    · rw [if_neg lt, if_pos rfl]
      refine up (fun i hi => ?_)
      by_cases il : i = l
      · rw [il]; omega
      · have := VO.1 i l (by omega) (by omega); omega
theorem r_flips (h : rtr P M v m T) (hb : gbd n X Y) (hdi : gDis n X Y) (hn : n ≤ 20) (hd : gDr n X Y m T) {p q : Nat} (hpn : p < n) (hqn : q < n) (hr : gRef X Y m T p q = 0) {fl : Int} (hfl : M (P + 1) (200 * v + 2) = iI fl) : pW (f_X7_flips P (iI p) (iI q) M) (fun r => ∃ T', gFl n m T T' p q ∧ gDr n X Y m T' ∧ r.1 = iI ((100 * gE1 m T p q + gE2 m T p q : Nat) : Int) ∧ rtr P r.2 v m T' ∧ r.2 (P + 1) (200 * v + 2) = iI (fl + 1) ∧ (∀ b j, (b ≠ P + 1 ∨ (j ≠ 200 * v + 2 ∧ (j < 200 * v + 60 ∨ 200 * v + 180 ≤ j))) → r.2 b j = M b j)) := by
  have h2 : eN m T p q = 2 := by
    unfold gRef at hr
    refine Classical.byContradiction fun z => ?_
    rw [if_neg z] at hr
    split at hr <;> omega
  have hx : gT X Y (gE1 m T p q) (gE2 m T p q) p * gT X Y (gE1 m T p q) (gE2 m T p q) q < 0 := by
    unfold gRef at hr
    refine Classical.byContradiction fun z => ?_
    rw [if_neg (by omega), if_pos h2, if_neg z] at hr
    omega
  obtain ⟨g1, g2, g3, g4, g5, -, -⟩ := gE_two h2
  have ⟨l1, l2⟩ := r_third h hd.1 hn (show p < 20 by omega) (show q < 20 by omega) h2
  unfold f_X7_flips gFl
  rw [l1, bd_s, l2, bd_s]
  clear l1 l2
  have v1 := eT_v hd.1 hn (by omega) (by omega) g3
  have v2 := eT_v hd.1 hn (by omega) (by omega) g4
  have F := flip_fact hd hn (by omega) (by omega) g3 g4 (by omega) hx
  generalize gE1 m T p q = c at *
  generalize gE2 m T p q = d at *
  obtain ⟨pq, pc, qc, pn, qn, cn, i1, hi1, e1⟩ := v1
  obtain ⟨-, pd, qd, -, -, dn, i2, hi2, e2⟩ := v2
  obtain ⟨F1, F2, F3, F4⟩ := F
  have cd : tC p q c ≠ tC p q d := by
    have := tC_mono (p := p) (q := q) (r := c) (r' := d) (by omega) (by omega) (by omega) (by omega) pq pc qc pd qd g1
    omega
  rw [r_twith h hd.1 hn (show p < 20 by omega) (show q < 20 by omega) (show c < 20 by omega) pq pc qc hi1 e1, bd_s]
  obtain ⟨M1, x1, k1, hk1, t1, f1⟩ := r_becomes h hd.1 hn hi1 hpn cn dn pc pd (by omega) F1
  rw [x1, bd_s]
  have V0 := gOut_V hd.1 hi1
  have B0 : ∀ x, (∃ i, i < m - 1 ∧ gOut T i1 i = x) ↔ x ≠ tC p q c ∧ ∃ i, i < m ∧ T i = x := fun x => by rw [gOut_mem hi1 hd.1.1, e1]
  have o1 := tC_o pc pd (show c ≠ d by omega)
  have V1 := gIn_V V0 hk1 (by obtain ⟨a, b, e, y1, y2, y3, y4⟩ := o1; exact ⟨a, b, e, y1, y2, (gPm_lt' y3 hpn cn dn).2.2, y4⟩) (fun i hi e => by
    obtain ⟨-, j, hj, y⟩ := (B0 _).mp ⟨i, hi, e⟩
    exact F1 j hj y)
  have B1 := fun x => (gIn_mem (T := gOut T i1) (c := tC p c d) (x := x) hk1.1)
  rw [show m - 1 + 1 = m by omega] at V1 B1
  have B1' : ∀ x, (∃ i, i < m ∧ gIn (gOut T i1) k1 (tC p c d) i = x) ↔ x = tC p c d ∨ (x ≠ tC p q c ∧ ∃ i, i < m ∧ T i = x) := fun x => by rw [B1 x, B0 x]
  obtain ⟨i3, hi3, e3⟩ := (B1' (tC p q d)).mpr (Or.inr ⟨fun e => cd e.symm, i2, hi2, e2⟩)
  rw [r_twith t1 V1 hn (show p < 20 by omega) (show q < 20 by omega) (show d < 20 by omega) pq pd qd hi3 e3, bd_s]
  have no3 : ∀ i, i < m → gIn (gOut T i1) k1 (tC p c d) i ≠ tC q c d := fun i hi e => by
    rcases (B1' _).mp ⟨i, hi, e⟩ with y | ⟨-, j, hj, y⟩
    · exact F3 y.symm
    · exact F2 j hj y
  obtain ⟨M2, x2, k2, hk2, t2, f2⟩ := r_becomes t1 V1 hn hi3 hqn cn dn qc qd (by omega) no3
  rw [x2, bd_s]
  have V2 := gOut_V V1 hi3
  have o2 := tC_o qc qd (show c ≠ d by omega)
  have B2 : ∀ x, (∃ i, i < m - 1 ∧ gOut (gIn (gOut T i1) k1 (tC p c d)) i3 i = x) ↔ x ≠ tC p q d ∧ (x = tC p c d ∨ (x ≠ tC p q c ∧ ∃ i, i < m ∧ T i = x)) := fun x => by rw [gOut_mem hi3 V1.1, e3, B1']
  have V3 := gIn_V V2 hk2 (by obtain ⟨a, b, e, y1, y2, y3, y4⟩ := o2; exact ⟨a, b, e, y1, y2, (gPm_lt' y3 hqn cn dn).2.2, y4⟩) (fun i hi e => by
    obtain ⟨-, y⟩ := (B2 _).mp ⟨i, hi, e⟩
    rcases y with y | ⟨-, j, hj, y⟩
    · exact F3 y.symm
    · exact F2 j hj y)
  have B3 := fun x => (gIn_mem (T := gOut (gIn (gOut T i1) k1 (tC p c d)) i3) (c := tC q c d) (x := x) hk2.1)
  rw [show m - 1 + 1 = m by omega] at V3 B3
  have pd' : tC p c d ≠ tC p q d := fun e => F1 i2 hi2 (by rw [e2, ← e])
  have B4 : ∀ x, (∃ i, i < m ∧ gIn (gOut (gIn (gOut T i1) k1 (tC p c d)) i3) k2 (tC q c d) i = x) ↔ ((∃ i, i < m ∧ T i = x) ∧ x ≠ tC p q c ∧ x ≠ tC p q d) ∨ x = tC p c d ∨ x = tC q c d := fun x => by
    rw [B3 x, B2 x]
    constructor
    · rintro (y | ⟨y1, y | ⟨y2, y3⟩⟩)
      · exact Or.inr (Or.inr y)
      · exact Or.inr (Or.inl y)
      · exact Or.inl ⟨y3, y2, y1⟩
    · rintro (⟨y1, y2, y3⟩ | y | y)
      · exact Or.inr ⟨y3, Or.inr ⟨y2, y1⟩⟩
      · exact Or.inr ⟨by rw [y]; exact pd', Or.inl y⟩
      · exact Or.inl y
  have f12 := frR_t f1 f2
  have g2' : f_X7_get P 2 M2 = some (iI fl) := by rw [iI_2]; exact (r_get t2.1 (k := 2) (by omega)).trans (congrArg some ((f12 (P + 1) _ (by omega)).trans hfl))
  rw [g2', bd_s, iI_1, iI_add, iI_2, show iI 2 = iI ((2 : Nat) : Int) from rfl, r_put t2.1 (by omega), bd_s, mi_n (by omega) (by omega), mx_n (by omega) (by omega), Nat.min_eq_left (by omega), Nat.max_eq_right (by omega), iI_100, iI_mul, iI_add]
  refine pW_some ⟨_, ⟨V3, B4⟩, F4 m _ V3 (fun x hx => (B4 x).mp hx), ?_, ?_, ?_, fun b j z => ?_⟩
  · dsimp only
    congr 1
  · refine ⟨⟨by dsimp only; rw [up_ne (by omega)]; exact t2.1.1, t2.1.2⟩, t2.2.1, ?_, fun i hi => ?_⟩
    · dsimp only; rw [up_i (by omega)]; exact t2.2.2.1
    · dsimp only
      have := t2.2.1
      rw [up_i (by omega), up_i (by omega), up_i (by omega)]
      exact t2.2.2.2 i hi
  · dsimp only; rw [up_s]
  · dsimp only
    rw [up_i (by omega)]
    exact f12 b j (by omega)
end RB
