/-! the reference's triangles, read -/
def rtr (P : Nat) (M : fm_Mem) (v m : Nat) (T : Nat → Nat) : Prop := rvn P M v ∧ m ≤ 40 ∧ M (P + 1) (200 * v + 1) = iI m ∧ ∀ t, t < m → M (P + 1) (200 * v + (60 + 3 * t)) = iI ((T t / 400 : Nat) : Int) ∧ M (P + 1) (200 * v + (60 + 3 * t + 1)) = iI ((T t / 20 % 20 : Nat) : Int) ∧ M (P + 1) (200 * v + (60 + 3 * t + 2)) = iI ((T t % 20 : Nat) : Int)
/-- the triangles of one kind can be read -/
def rTri (P : Nat) (M : fm_Mem) (s : Int32) (m : Nat) (T : Nat → Nat) : Prop := ∀ t, t < m → f_X7_endOf P s (iI t) 0 M = some (iI ((T t / 400 : Nat) : Int)) ∧ f_X7_endOf P s (iI t) 1 M = some (iI ((T t / 20 % 20 : Nat) : Int)) ∧ f_X7_endOf P s (iI t) 2 M = some (iI ((T t % 20 : Nat) : Int))
/-- p is a point of the triangle t -/
def inT (T : Nat → Nat) (t p : Nat) : Bool := decide (T t / 400 = p ∨ T t / 20 % 20 = p ∨ T t % 20 = p)
section RT
variable {P v m n : Nat} {M : fm_Mem} {T : Nat → Nat} {s : Int32}
theorem rtr_tri (h : rtr P M v m T) : rTri P M 0 m T := by
  intro t ht
  have hm := h.2.1
  have e := h.2.2.2 t ht
  unfold f_X7_endOf f_X7_endOf_29
  simp only [if_true]
  rw [iI_60, iI_3, iI_mul, iI_0, iI_1, iI_2, iI_add, iI_add, iI_add, iI_add]
  rw [show (60 : Int) + 3 * (t : Int) + 0 = ((60 + 3 * t : Nat) : Int) by omega, show (60 : Int) + 3 * (t : Int) + 1 = ((60 + 3 * t + 1 : Nat) : Int) by omega, show (60 : Int) + 3 * (t : Int) + 2 = ((60 + 3 * t + 2 : Nat) : Int) by omega]
  rw [r_get h.1 (by omega), r_get h.1 (by omega), r_get h.1 (by omega), e.1, e.2.1, e.2.2]
  exact ⟨rfl, rfl, rfl⟩
theorem r_many0 (h : rtr P M v m T) : f_X7_many P 0 M = some (iI m, M) := by
  unfold f_X7_many f_X7_many_8 f_X7_many_24
  rw [if_pos rfl, if_pos rfl, iI_1, show (iI 1) = iI ((1 : Nat) : Int) from rfl, r_get h.1 (by omega), h.2.2.1]
  rfl
theorem r_has (h : rTri P M s m T) (hv : ∀ t, t < m → T t < 8000) {t p : Nat} (ht : t < m) (hp : p < 2147483648) : f_X7_has P s (iI t) (iI p) M = some (if inT T t p then 1 else 0) := by
  obtain ⟨e1, e2, e3⟩ := h t ht
  have := hv t ht
  unfold f_X7_has f_X7_has_33 f_X7_has_38 inT
  rw [e1, bd_s, e2, bd_s, e3, bd_s, bo_0, bo_1, ck_t, ck_t]
  simp (disch := omega) only [iI_eq]
  by_cases a : T t / 400 = p
  · rw [if_pos (by omega), decide_eq_true (Or.inl a)]; rfl
  · by_cases b : T t / 20 % 20 = p
    · rw [if_neg (by omega), if_pos (by omega), decide_eq_true (Or.inr (Or.inl b))]; rfl
    · by_cases c : T t % 20 = p
      · rw [if_neg (by omega), if_neg (by omega), if_pos (by omega), decide_eq_true (Or.inr (Or.inr c))]; rfl
      · rw [if_neg (by omega), if_neg (by omega), if_neg (by omega), decide_eq_false (by omega)]; rfl
/-- two points of a triangle and its third -/
theorem inT_2 (h : tV n m T) (hn : n ≤ 20) {t p q : Nat} (ht : t < m) (hpq : p ≠ q) (hp : inT T t p = true) (hq : inT T t q = true) : ∃ r, r < 20 ∧ p < 20 ∧ q < 20 ∧ p ≠ r ∧ q ≠ r ∧ T t = tC p q r ∧ T t / 400 + T t / 20 % 20 + T t % 20 = p + q + r := by
  obtain ⟨a, b, c, h1, h2, h3, h4⟩ := h.2 t ht
  have p1 := of_decide_eq_true hp
  have q1 := of_decide_eq_true hq
  have ea : T t / 400 = a := by clear p1 q1; omega
  have eb : T t / 20 % 20 = b := by clear p1 q1; omega
  have ec : T t % 20 = c := by clear p1 q1; omega
  rw [ea, eb, ec] at p1 q1 ⊢
  rw [h4, ← tC_a h1 h2]
  clear ea eb ec h4 hp hq
  have b20 : b < 20 := by clear p1 q1; omega
  have c20 : c < 20 := by clear p1 q1; omega
  have a20 : a < 20 := by clear p1 q1; omega
  rcases p1 with rfl | rfl | rfl <;> rcases q1 with rfl | rfl | rfl
  · exact absurd rfl hpq
  · exact ⟨c, c20, a20, b20, by omega, by omega, rfl, rfl⟩
  · exact ⟨b, b20, a20, c20, by omega, by omega, (tC_sw2 _ _ _).symm, by omega⟩
  · exact ⟨c, c20, b20, a20, by omega, by omega, (tC_sw _ _ _).symm, by omega⟩
  · exact absurd rfl hpq
  · exact ⟨a, a20, b20, c20, by omega, by omega, (tC_rot _ _ _).symm, by omega⟩
  · exact ⟨b, b20, c20, a20, by omega, by omega, tC_rot _ _ _, by omega⟩
  · exact ⟨a, a20, c20, b20, by omega, by omega, by rw [tC_sw, tC_rot], by omega⟩
  · exact absurd rfl hpq
theorem inT_of (h : tV n m T) (hn : n ≤ 20) {t p q r : Nat} (ht : t < m) (hp : p < 20) (hq : q < 20) (hr : r < 20) (h1 : p ≠ q) (h2 : p ≠ r) (h3 : q ≠ r) (e : T t = tC p q r) : inT T t p = true ∧ inT T t q = true ∧ inT T t r = true := by
  obtain ⟨a, b, c, k1, k2, k3, k4⟩ := tC_o h1 h2 h3
  have := gPm_lt' k3 hp hq hr
  rw [k4] at e
  unfold inT
  rw [show T t / 400 = a by omega, show T t / 20 % 20 = b by omega, show T t % 20 = c by omega]
  unfold gPm at k3
  rcases k3 with z | z | z | z | z | z <;> obtain ⟨rfl, rfl, rfl⟩ := z <;> simp
theorem inT_o {t p q r x : Nat} (ht : t < m) (hp : p < 20) (hq : q < 20) (hr : r < 20) (h1 : p ≠ q) (h2 : p ≠ r) (h3 : q ≠ r) (e : T t = tC p q r) (hx : inT T t x = true) : x = p ∨ x = q ∨ x = r := by
  obtain ⟨a, b, c, k1, k2, k3, k4⟩ := tC_o h1 h2 h3
  have := gPm_lt' k3 hp hq hr
  rw [k4] at e
  have hx := of_decide_eq_true hx
  rw [show T t / 400 = a by omega, show T t / 20 % 20 = b by omega, show T t % 20 = c by omega] at hx
  clear e k4
  unfold gPm at k3
  rcases k3 with z | z | z | z | z | z <;> omega
/-- as many triangles as third points -/
theorem eN_in (h : tV n m T) (hn : n ≤ 20) {p q : Nat} (hp : p < 20) (hq : q < 20) : gct (fun t => decide (p ≠ q) && (inT T t p && inT T t q)) m = eN m T p q := by
  have th : ∀ t, t < m → (decide (p ≠ q) && (inT T t p && inT T t q)) = true → ∃ r, r < 20 ∧ p ≠ r ∧ q ≠ r ∧ p ≠ q ∧ T t = tC p q r := fun t ht e => by
    rw [Bool.and_eq_true, Bool.and_eq_true, decide_eq_true_iff] at e
    obtain ⟨r, r1, r2, r3, r4, r5, r6, r7⟩ := inT_2 h hn ht e.1 e.2.1 e.2.2
    exact ⟨r, r1, r4, r5, e.1, r6⟩
  unfold eN
  apply Nat.le_antisymm
  · refine gct_inj (fun t => (gFi (fun r => decide (T t = tC p q r)) 20).toNat) (fun t ht e => ?_) (fun t t' ht ht' e e' ee => ?_)
    · obtain ⟨r, r1, r2, r3, r4, r5⟩ := th t ht e
      rcases gFi_r (fun r => decide (T t = tC p q r)) 20 with ⟨_, z⟩ | ⟨i, hi, z1, z2, _⟩
      · have := z r r1; rw [decide_eq_true r5] at this; cases this
      · rw [z1, Int.toNat_natCast]
        exact ⟨hi, decide_eq_true ⟨r4, hi, t, ht, of_decide_eq_true z2⟩⟩
    · have key : ∀ t, t < m → (decide (p ≠ q) && (inT T t p && inT T t q)) = true → T t = tC p q (gFi (fun r => decide (T t = tC p q r)) 20).toNat := fun t ht e => by
        obtain ⟨r, r1, r2, r3, r4, r5⟩ := th t ht e
        rcases gFi_r (fun r => decide (T t = tC p q r)) 20 with ⟨_, z⟩ | ⟨i, hi, z1, z2, _⟩
        · have := z r r1; rw [decide_eq_true r5] at this; cases this
        · rw [z1, Int.toNat_natCast]; exact of_decide_eq_true z2
      have e1 := key t ht e
      have e2 := key t' ht' e'
      rw [← ee, ← e1] at e2
      rcases Nat.lt_trichotomy t t' with z | z | z
      · have := h.1 t t' z ht'; omega
      · exact z
      · have := h.1 t' t z ht; omega
  · have key : ∀ r, r < 20 → eT m T p q r = true → ∃ i, i < m ∧ gFi (fun i => decide (T i = tC p q r)) m = (i : Int) ∧ T i = tC p q r := fun r hr e => by
      obtain ⟨_, _, j, hj, e2⟩ := of_decide_eq_true e
      rcases gFi_r (fun i => decide (T i = tC p q r)) m with ⟨_, z⟩ | ⟨i, hi, z1, z2, _⟩
      · have := z j hj; rw [decide_eq_true e2] at this; cases this
      · exact ⟨i, hi, z1, of_decide_eq_true z2⟩
    refine gct_inj (fun r => (gFi (fun i => decide (T i = tC p q r)) m).toNat) (fun r hr e => ?_) (fun r r' hr hr' e e' ee => ?_)
    · obtain ⟨i, hi, z1, z2⟩ := key r hr e
      rw [z1, Int.toNat_natCast]
      obtain ⟨n1, n2, n3, -⟩ := eT_v h hn hp hq e
      have := inT_of h hn hi hp hq hr n1 n2 n3 z2
      exact ⟨hi, by rw [decide_eq_true n1, this.1, this.2.1]; rfl⟩
    · obtain ⟨i, hi, z1, z2⟩ := key r hr e
      obtain ⟨i', hi', z1', z2'⟩ := key r' hr' e'
      rw [z1, z1', Int.toNat_natCast, Int.toNat_natCast] at ee
      subst ee
      rw [z2] at z2'
      obtain ⟨n1, n2, n3, -⟩ := eT_v h hn hp hq e
      obtain ⟨-, n4, n5, -⟩ := eT_v h hn hp hq e'
      rcases Nat.lt_trichotomy r r' with z | z | z
      · have := tC_mono hp hq hr hr' n1 n2 n3 n4 n5 z; omega
      · exact z
      · have := tC_mono hp hq hr' hr n1 n4 n5 n2 n3 z; omega
theorem r_edge (h : rTri P M s m T) (hM : f_X7_many P s M = some (iI m, M)) (hv : tV n m T) (hn : n ≤ 20) (hm : m ≤ 40) {p q : Nat} (hp : p < 20) (hq : q < 20) : f_X7_edgeMany P s (iI p) (iI q) M = some (iI (eN m T p q), M) := by
  rw [← eN_in hv hn hp hq]
  refine pW_eq (pW_lp (fun u i (c : Nat) => f_X7_edgeMany_6 P s (iI p) (iI q) u (iI c) (iI i) M) (fun i c => c = gct (fun t => decide (p ≠ q) && (inT T t p && inT T t q)) i) m ?_ fm_fuel 0 0 rfl (Nat.zero_le _) (by unfold fm_fuel; omega))
  intro u i c hi hI k
  have z0 : iI (c : Int) + 0 = iI (c : Int) := by rw [iI_0, iI_add, Int.add_zero]
  rw [f_X7_edgeMany_6, hM, bd_s]
  simp (disch := omega) only [iI_le, iI_eq, f_X7_edgeMany_49, f_X7_edgeMany_50, iI_s, z0]
  refine pW_if (fun q1 => ?_) (fun q1 => ?_)
  · have e : i = m := by omega
    subst e
    exact pW_some (by rw [hI])
  · have him : i < m := by omega
    have h8 : ∀ t, t < m → T t < 8000 := fun t ht => tV_lt hv hn ht
    refine pW_if (fun q2 => ?_) (fun q2 => ?_)
    · exact k c him (by rw [gct_s, ← hI, decide_eq_false (show ¬ p ≠ q by omega), Bool.false_and]; rfl)
    · rw [r_has h h8 him (by omega), bd_s, r_has h h8 him (by omega), bd_s]
      have pq : p ≠ q := by omega
      cases e1 : inT T i p with
      | false => exact k c him (by rw [gct_s, e1, Bool.false_and, Bool.and_false, hI]; rfl)
      | true =>
        rw [if_neg (by decide)]
        cases e2 : inT T i q with
        | false => exact k c him (by rw [gct_s, e1, e2, Bool.and_false, Bool.and_false, hI]; rfl)
        | true => exact k (c + 1) him (by rw [gct_s, ← hI, e1, e2, decide_eq_true pq]; rfl)
/-- where the two triangles of an edge are -/
theorem e2_at (hv : tV n m T) (hn : n ≤ 20) {p q : Nat} (hp : p < 20) (hq : q < 20) (h2 : eN m T p q = 2) : ∃ i j, i < j ∧ j < m ∧ T i = tC p q (gE1 m T p q) ∧ T j = tC p q (gE2 m T p q) ∧ p ≠ q ∧ (∀ t, t < m → ((inT T t p && inT T t q) = true ↔ t = i ∨ t = j)) ∧ T i / 400 + T i / 20 % 20 + T i % 20 = p + q + gE1 m T p q ∧ T j / 400 + T j / 20 % 20 + T j % 20 = p + q + gE2 m T p q := by
  obtain ⟨g1, g2, g3, g4, g5, -, -⟩ := gE_two h2
  generalize gE1 m T p q = c at *
  generalize gE2 m T p q = d at *
  obtain ⟨pq, pc, qc, pn, qn, cn, i, hi, e1⟩ := eT_v hv hn hp hq g3
  obtain ⟨-, pd, qd, -, -, dn, j, hj, e2⟩ := eT_v hv hn hp hq g4
  have lt := tC_mono hp hq (show c < 20 by omega) g2 pq pc qc pd qd g1
  have ij : i < j := by
    rcases Nat.lt_trichotomy i j with z | z | z
    · exact z
    · rw [z] at e1; omega
    · have := hv.1 j i z hi; omega
  have A := inT_of hv hn hi hp hq (show c < 20 by omega) pq pc qc e1
  have B := inT_of hv hn hj hp hq g2 pq pd qd e2
  have sum : ∀ t r, t < m → r < 20 → p ≠ r → q ≠ r → T t = tC p q r → T t / 400 + T t / 20 % 20 + T t % 20 = p + q + r := fun t r ht hr h1 h2 e => by
    have A := inT_of hv hn ht hp hq hr pq h1 h2 e
    obtain ⟨r', r1, r2, r3, r4, r5, r6, r7⟩ := inT_2 hv hn ht pq A.1 A.2.1
    rw [r7]
    rw [r6] at e
    rcases Nat.lt_trichotomy r r' with z | z | z
    · have := tC_mono hp hq hr r1 pq h1 h2 r4 r5 z; omega
    · rw [z]
    · have := tC_mono hp hq r1 hr pq r4 r5 h1 h2 z; omega
  refine ⟨i, j, ij, hj, e1, e2, pq, fun t ht => ⟨fun e => ?_, fun e => ?_⟩, sum i c hi (by omega) pc qc e1, sum j d hj g2 pd qd e2⟩
  · rw [Bool.and_eq_true] at e
    obtain ⟨r, r1, r2, r3, r4, r5, r6, r7⟩ := inT_2 hv hn ht pq e.1 e.2
    have uniq : ∀ k, k < m → T k = T t → t = k := fun k hk ee => by
      rcases Nat.lt_trichotomy t k with z | z | z
      · have := hv.1 t k z hk; omega
      · exact z
      · have := hv.1 k t z ht; omega
    rcases g5 r (decide_eq_true ⟨pq, r1, t, ht, r6⟩) with z | z
    · exact Or.inl (uniq i hi (by rw [e1, r6, z]))
    · exact Or.inr (uniq j hj (by rw [e2, r6, z]))
  · rcases e with z | z
    · rw [z, A.1, A.2.1]; rfl
    · rw [z, B.1, B.2.1]; rfl
theorem r_third (h : rtr P M v m T) (hv : tV n m T) (hn : n ≤ 20) {p q : Nat} (hp : p < 20) (hq : q < 20) (h2 : eN m T p q = 2) : f_X7_third P (iI p) (iI q) 0 M = some (iI (gE1 m T p q)) ∧ f_X7_third P (iI p) (iI q) 1 M = some (iI (gE2 m T p q)) := by
  have hm := h.2.1
  have ht := rtr_tri h
  have h8 : ∀ t, t < m → T t < 8000 := fun t ht => tV_lt hv hn ht
  obtain ⟨i, j, ij, hj, e1, e2, pq, A, s1, s2⟩ := e2_at hv hn hp hq h2
  have g1 : f_X7_get P 1 M = some (iI m) := by rw [iI_1]; exact (r_get h.1 (k := 1) (by omega)).trans (congrArg some h.2.2.1)
  have val : ∀ t r, t < m → T t / 400 + T t / 20 % 20 + T t % 20 = p + q + r → iI ((T t / 400 : Nat) : Int) + iI ((T t / 20 % 20 : Nat) : Int) + iI ((T t % 20 : Nat) : Int) - iI p - iI q = iI (r : Int) := fun t r _ e => by
    rw [iI_add, iI_add, iI_sub, iI_sub]; congr 1; omega
  have no : ∀ t, t < m → t ≠ i → t ≠ j → inT T t p = true → inT T t q = false := fun t ht n1 n2 e => by
    cases z : inT T t q with
    | false => rfl
    | true => have := (A t ht).mp (by rw [e, z]; rfl); omega
  have yes : ∀ t, t < m → (t = i ∨ t = j) → inT T t p = true ∧ inT T t q = true := fun t ht z => by
    have := (A t ht).mpr z
    rwa [Bool.and_eq_true] at this
  unfold f_X7_third
  constructor
  · rw [iI_0]
    refine pW_eq (pW_lp (fun u t (_ : Unit) => f_X7_third_6 P (iI p) (iI q) (iI 0) u (iI 0) (iI t) M) (fun t _ => t ≤ i) m ?_ fm_fuel 0 () (Nat.zero_le _) (Nat.zero_le _) (by unfold fm_fuel; omega))
    intro u t s ht1 hI k
    rw [f_X7_third_6, g1, bd_s]
    simp (disch := omega) only [iI_le, iI_eq, f_X7_third_81, iI_s]
    rw [if_neg (by omega), ← iI_0, r_has ht h8 (by omega) (by omega), bd_s, r_has ht h8 (by omega) (by omega), bd_s]
    by_cases e : t = i
    · obtain ⟨y1, y2⟩ := yes t (by omega) (Or.inl e)
      obtain ⟨z1, z2, z3⟩ := ht t (by omega)
      rw [y1, y2, if_neg (by decide), if_neg (by decide), if_pos trivial, z1, bd_s, z2, bd_s, z3, bd_s]
      subst e
      exact pW_some (val t _ (by omega) s1)
    · cases y1 : inT T t p with
      | false => exact k () (by omega) (by omega)
      | true =>
        rw [no t (by omega) e (by omega) y1, if_neg (by decide)]
        exact k () (by omega) (by omega)
  · rw [iI_1, iI_0]
    refine pW_eq (pW_lp (fun u t (c : Nat) => f_X7_third_6 P (iI p) (iI q) (iI 1) u (iI c) (iI t) M) (fun t c => (t ≤ i ∧ c = 0) ∨ (i < t ∧ t ≤ j ∧ c = 1)) m ?_ fm_fuel 0 0 (Or.inl ⟨Nat.zero_le _, rfl⟩) (Nat.zero_le _) (by unfold fm_fuel; omega))
    intro u t c ht1 hI k
    rw [f_X7_third_6, g1, bd_s]
    simp (disch := omega) only [iI_le, iI_eq, f_X7_third_81, iI_s]
    rw [if_neg (by omega), r_has ht h8 (by omega) (by omega), bd_s, r_has ht h8 (by omega) (by omega), bd_s]
    by_cases e : t = i
    · obtain ⟨y1, y2⟩ := yes t (by omega) (Or.inl e)
      rw [y1, y2, if_neg (by decide), if_neg (by decide), if_neg (by omega)]
      exact k (c + 1) (by omega) (Or.inr ⟨by omega, by omega, by omega⟩)
    · by_cases e' : t = j
      · obtain ⟨y1, y2⟩ := yes t (by omega) (Or.inr e')
        obtain ⟨z1, z2, z3⟩ := ht t (by omega)
        rw [y1, y2, if_neg (by decide), if_neg (by decide), if_pos (by omega), z1, bd_s, z2, bd_s, z3, bd_s]
        subst e'
        exact pW_some (val t _ (by omega) s2)
      · have st : (t + 1 ≤ i ∧ c = 0) ∨ (i < t + 1 ∧ t + 1 ≤ j ∧ c = 1) := by omega
        cases y1 : inT T t p with
        | false => exact k c (by omega) st
        | true =>
          rw [no t (by omega) e e' y1, if_neg (by decide)]
          exact k c (by omega) st
theorem r_twith (h : rtr P M v m T) (hv : tV n m T) (hn : n ≤ 20) {p q r j : Nat} (hp : p < 20) (hq : q < 20) (hr : r < 20) (h1 : p ≠ q) (h2 : p ≠ r) (h3 : q ≠ r) (hj : j < m) (e : T j = tC p q r) : f_X7_triangleWith P (iI p) (iI q) (iI r) M = some (iI j) := by
  have hm := h.2.1
  have ht := rtr_tri h
  have h8 : ∀ t, t < m → T t < 8000 := fun t ht => tV_lt hv hn ht
  have g1 : f_X7_get P 1 M = some (iI m) := by rw [iI_1]; exact (r_get h.1 (k := 1) (by omega)).trans (congrArg some h.2.2.1)
  refine pW_eq (pW_lp (fun u t (_ : Unit) => f_X7_triangleWith_3 P (iI p) (iI q) (iI r) u (iI t) M) (fun t _ => t ≤ j) m ?_ fm_fuel 0 () (Nat.zero_le _) (Nat.zero_le _) (by unfold fm_fuel; omega))
  intro u t s ht1 hI k
  rw [f_X7_triangleWith_3, g1, bd_s]
  simp (disch := omega) only [iI_le, f_X7_triangleWith_49, iI_s]
  rw [if_neg (by omega), r_has ht h8 (by omega) (by omega), bd_s, r_has ht h8 (by omega) (by omega), bd_s, r_has ht h8 (by omega) (by omega), bd_s]
  by_cases z : t = j
  · subst z
    obtain ⟨a, b, c⟩ := inT_of hv hn hj hp hq hr h1 h2 h3 e
    rw [a, b, c, if_neg (by decide), if_neg (by decide), if_neg (by decide)]
    exact pW_some rfl
  · cases y1 : inT T t p with
    | false => exact k () (by omega) (by omega)
    | true =>
      rw [if_neg (by decide)]
      cases y2 : inT T t q with
      | false => exact k () (by omega) (by omega)
      | true =>
        rw [if_neg (by decide)]
        cases y3 : inT T t r with
        | false => exact k () (by omega) (by omega)
        | true =>
          exfalso
          obtain ⟨r', r1, r2, r3, r4, r5, r6, r7⟩ := inT_2 hv hn (show t < m by omega) h1 y1 y2
          have lt := hv.1 t j (by omega) hj
          rcases inT_o (show t < m by omega) hp hq r1 h1 r4 r5 r6 y3 with w | w | w
          · exact h2 w.symm
          · exact h3 w.symm
          · rw [r6, ← w, e] at lt; omega
end RT
