/-! the class's Mesh: m triangles, the numbers of which are T 0 < T 1 < ..; the third points of edges -/
theorem mi_n {p q : Nat} (hp : p < 2147483648) (hq : q < 2147483648) : fm_min (iI p) (iI q) = iI ((min p q : Nat) : Int) := by
  unfold fm_min
  by_cases h : q < p
  · rw [if_pos (by rw [iI_lt (by omega) (by omega)]; omega), Nat.min_eq_right (by omega)]
  · rw [if_neg (by rw [iI_lt (by omega) (by omega)]; omega), Nat.min_eq_left (by omega)]
theorem mx_n {p q : Nat} (hp : p < 2147483648) (hq : q < 2147483648) : fm_max (iI p) (iI q) = iI ((max p q : Nat) : Int) := by
  unfold fm_max
  by_cases h : p < q
  · rw [if_pos (by rw [iI_lt (by omega) (by omega)]; omega), Nat.max_eq_right (by omega)]
  · rw [if_neg (by rw [iI_lt (by omega) (by omega)]; omega), Nat.max_eq_left (by omega)]
theorem iI_div {a b : Nat} (ha : a < 2147483648) (hb : b < 2147483648) : iI (a : Int) / iI (b : Int) = iI ((a / b : Nat) : Int) := by
  apply Int32.toInt_inj.mp
  have h1 : a / b ≤ a := Nat.div_le_self a b
  rw [Int32.toInt_div, iI_t (by omega), iI_t (by omega), ← Int.ofNat_tdiv]
  generalize a / b = q at *
  rw [iI_t (by omega)]
  exact i_bm (by omega)
theorem iI_rem {a b : Nat} (ha : a < 2147483648) (hb : b < 2147483648) : fm_rem (iI (a : Int)) (iI (b : Int)) = iI ((a % b : Nat) : Int) := by
  unfold fm_rem
  rw [iI_div ha hb, iI_mul, iI_sub]
  congr 1
  have h := Nat.div_add_mod a b
  rw [Nat.mul_comm] at h
  have h2 : ((a / b * b + a % b : Nat) : Int) = (a : Int) := by rw [h]
  rw [Int.natCast_add, Int.natCast_mul] at h2
  omega
/-- the number of a triangle -/
def tC (p q r : Nat) : Nat := (min p (min q r) * 20 + (p + q + r - min p (min q r) - max p (max q r))) * 20 + max p (max q r)
theorem tC_a {a b c : Nat} (h1 : a < b) (h2 : b < c) : tC a b c = (a * 20 + b) * 20 + c := by
  unfold tC
  rw [show min a (min b c) = a by omega, show max a (max b c) = c by omega, show a + b + c - a - c = b by omega]
theorem tC_sw (p q r : Nat) : tC q p r = tC p q r := by
  unfold tC
  rw [show min q (min p r) = min p (min q r) by omega, show max q (max p r) = max p (max q r) by omega, Nat.add_comm q p]
theorem tC_rot (p q r : Nat) : tC q r p = tC p q r := by
  unfold tC
  rw [show min q (min r p) = min p (min q r) by omega, show max q (max r p) = max p (max q r) by omega, show q + r + p = p + q + r by omega]
/-- three different points in their order -/
theorem tC_o {p q r : Nat} (h1 : p ≠ q) (h2 : p ≠ r) (h3 : q ≠ r) : ∃ a b c, a < b ∧ b < c ∧ gPm a b c p q r ∧ tC p q r = (a * 20 + b) * 20 + c := by
  unfold gPm
  rcases Nat.lt_or_gt_of_ne h1 with a | a
  · rcases Nat.lt_or_gt_of_ne h3 with b | b
    · exact ⟨p, q, r, a, b, by omega, tC_a a b⟩
    · rcases Nat.lt_or_gt_of_ne h2 with c | c
      · exact ⟨p, r, q, c, b, by omega, by rw [← tC_a c b, ← tC_rot p q r, ← tC_rot, tC_sw]⟩
      · exact ⟨r, p, q, c, a, by omega, by rw [← tC_a c a, ← tC_rot r p q]⟩
  · rcases Nat.lt_or_gt_of_ne h2 with b | b
    · exact ⟨q, p, r, a, b, by omega, by rw [← tC_a a b, tC_sw]⟩
    · rcases Nat.lt_or_gt_of_ne h3 with c | c
      · exact ⟨q, r, p, c, b, by omega, by rw [← tC_a c b, ← tC_rot p q r]⟩
      · exact ⟨r, q, p, c, a, by omega, by rw [← tC_a c a, ← tC_rot r q p, tC_sw]⟩
theorem tC_inj {a b c a' b' c' : Nat} (h2 : b < 20) (h3 : c < 20) (h4 : b' < 20) (h5 : c' < 20) (h : (a * 20 + b) * 20 + c = (a' * 20 + b') * 20 + c') : a = a' ∧ b = b' ∧ c = c' := by omega
/-- the same edge -/
abbrev sE (p q u w : Nat) : Prop := (p = u ∧ q = w) ∨ (p = w ∧ q = u)
theorem sE_ix {p q u w : Nat} (hp : p < 20) (hq : q < 20) (hu : u < 20) (hw : w < 20) (h : p ≠ q) (h4 : u < w) : 20 * min p q + max p q = 20 * u + w ↔ sE p q u w := by
  rcases Nat.lt_or_gt_of_ne h with z | z
  · rw [Nat.min_eq_left (Nat.le_of_lt z), Nat.max_eq_right (Nat.le_of_lt z)]; omega
  · rw [Nat.min_eq_right (Nat.le_of_lt z), Nat.max_eq_left (Nat.le_of_lt z)]; omega
theorem tC_uwu {u w : Nat} (h : u < w) : tC u w u = (u * 20 + u) * 20 + w ∧ tC u w w = (u * 20 + w) * 20 + w := by
  unfold tC
  rw [show min u (min w u) = u by omega, show max u (max w u) = w by omega, show u + w + u - u - w = u by omega, show min u (min w w) = u by omega, show max u (max w w) = w by omega, show u + w + w - u - w = w by omega]
  exact ⟨rfl, rfl⟩
/-- one number: the same three points -/
theorem tC_iff {p q r u w i : Nat} (hp : p < 20) (hq : q < 20) (hr : r < 20) (hu : u < 20) (hw : w < 20) (hi : i < 20) (h1 : p ≠ q) (h2 : p ≠ r) (h3 : q ≠ r) (h4 : u < w) : tC u w i = tC p q r ↔ (sE p q u w ∧ i = r) ∨ (sE q r u w ∧ i = p) ∨ (sE r p u w ∧ i = q) := by
  constructor
  · intro e
    obtain ⟨a, b, c, k3, k4, k5, k6⟩ := tC_o h1 h2 h3
    rw [k6] at e
    have k7 : b < 20 ∧ c < 20 := by
      unfold gPm at k5
      rcases k5 with z | z | z | z | z | z <;> obtain ⟨rfl, rfl, rfl⟩ := z <;> exact ⟨by assumption, by assumption⟩
    by_cases k1 : u = i
    · subst k1
      rw [(tC_uwu h4).1] at e
      have := tC_inj hu hw k7.1 k7.2 e
      clear k5
      omega
    by_cases k2 : w = i
    · subst k2
      rw [(tC_uwu h4).2] at e
      have := tC_inj hw hw k7.1 k7.2 e
      clear k5
      omega
    obtain ⟨a', b', c', l3, l4, l5, l6⟩ := tC_o (p := u) (q := w) (r := i) (by omega) k1 k2
    have k8 : b' < 20 ∧ c' < 20 := by
      unfold gPm at l5
      rcases l5 with z | z | z | z | z | z <;> obtain ⟨rfl, rfl, rfl⟩ := z <;> exact ⟨by assumption, by assumption⟩
    rw [l6] at e
    obtain ⟨rfl, rfl, rfl⟩ := tC_inj k8.1 k8.2 k7.1 k7.2 e
    unfold gPm at k5 l5
    have l7 : (u = a' ∧ w = b' ∧ i = c') ∨ (u = b' ∧ w = c' ∧ i = a') ∨ (u = a' ∧ w = c' ∧ i = b') := by
      clear k5
      rcases l5 with z | z | z | z | z | z <;> omega
    clear l5 e l6 k6
    rcases k5 with z | z | z | z | z | z <;> obtain ⟨rfl, rfl, rfl⟩ := z <;> rcases l7 with y | y | y <;> obtain ⟨rfl, rfl, rfl⟩ := y <;> simp [sE]
  · rintro (⟨a, c⟩ | ⟨a, c⟩ | ⟨a, c⟩)
    · rcases a with ⟨rfl, rfl⟩ | ⟨rfl, rfl⟩
      · rw [c]
      · rw [c, tC_sw]
    · rcases a with ⟨rfl, rfl⟩ | ⟨rfl, rfl⟩
      · rw [c, tC_rot]
      · rw [c, tC_sw, tC_rot]
    · rcases a with ⟨rfl, rfl⟩ | ⟨rfl, rfl⟩
      · rw [c, tC_rot r p q]
      · rw [c, tC_sw r p q, tC_rot r p q]
/-- r is a third point of the edge p, q -/
def eT (m : Nat) (T : Nat → Nat) (p q r : Nat) : Bool := decide (p ≠ q ∧ r < 20 ∧ ∃ i, i < m ∧ T i = tC p q r)
theorem eT_sw (m : Nat) (T : Nat → Nat) (p q r : Nat) : eT m T q p r = eT m T p q r := by
  unfold eT
  rw [tC_sw]
  exact decide_eq_decide.mpr ⟨fun h => ⟨h.1.symm, h.2⟩, fun h => ⟨h.1.symm, h.2⟩⟩
def cMs (P : Nat) (M : fm_Mem) (m : Nat) (T : Nat → Nat) : Prop := M P 2 = iI m ∧ m ≤ 35 ∧ (∀ t, t < m → M (P + 2) t = iI (T t)) ∧ ∀ u w, u < 20 → w < 20 → M (P + 4) (20 * u + w) = bS (fun r => decide (u < w) && eT m T u w r)
/-- triangles of n points in their order -/
def tV (n m : Nat) (T : Nat → Nat) : Prop := (∀ i j, i < j → j < m → T i < T j) ∧ ∀ i, i < m → ∃ a b c, a < b ∧ b < c ∧ c < n ∧ T i = (a * 20 + b) * 20 + c
theorem tV_lt {n m : Nat} {T : Nat → Nat} (h : tV n m T) (hn : n ≤ 20) {i : Nat} (hi : i < m) : T i < 8000 := by
  obtain ⟨a, b, c, h1, h2, h3, h4⟩ := h.2 i hi
  omega
/-- what an edge's third points are -/
theorem eT_v {n m : Nat} {T : Nat → Nat} (h : tV n m T) (hn : n ≤ 20) {p q r : Nat} (hp : p < 20) (hq : q < 20) (he : eT m T p q r = true) : p ≠ q ∧ p ≠ r ∧ q ≠ r ∧ p < n ∧ q < n ∧ r < n ∧ ∃ i, i < m ∧ T i = tC p q r := by
  obtain ⟨e1, e2, i, e3, e4⟩ := of_decide_eq_true he
  obtain ⟨a, b, c, h1, h2, h3, h4⟩ := h.2 i e3
  rw [h4] at e4
  have key : ∀ u w, u < 20 → w < 20 → u < w → tC u w r = (a * 20 + b) * 20 + c → u ≠ r ∧ w ≠ r ∧ u < n ∧ w < n ∧ r < n := fun u w hu hw huw e => by
    rw [← tC_a h1 h2] at e
    rcases (tC_iff (p := a) (q := b) (r := c) (by omega) (by omega) (by omega) hu hw e2 (by omega) (by omega) (by omega) huw).mp e with ⟨y | y, z⟩ | ⟨y | y, z⟩ | ⟨y | y, z⟩ <;> omega
  rcases Nat.lt_or_gt_of_ne e1 with z | z
  · have := key p q hp hq z e4.symm
    exact ⟨e1, this.1, this.2.1, this.2.2.1, this.2.2.2.1, this.2.2.2.2, i, e3, h4.trans e4⟩
  · have := key q p hq hp z (by rw [tC_sw]; exact e4.symm)
    exact ⟨e1, this.2.1, this.1, this.2.2.2.1, this.2.2.1, this.2.2.2.2, i, e3, h4.trans e4⟩
section MS
variable {P m n : Nat} {M : fm_Mem} {T : Nat → Nat}
theorem k_msize (h : cMs P M m T) : f_X1_size P M = some (iI m) := congrArg some h.1
theorem k_mg (h : cMs P M m T) {t : Nat} (ht : t < m) : f_X4_get (P + 1) 35 (iI t) M = some (iI (T t)) := (k_get (by have := h.2.1; omega) (by omega)).trans (congrArg some (h.2.2.1 t ht))
theorem k_abc (h : cMs P M m T) {t a b c : Nat} (ht : t < m) (hb : b < 20) (hc : c < 20) (ha : a < 20) (e : T t = (a * 20 + b) * 20 + c) : f_X1_a P (iI t) M = some (iI a) ∧ f_X1_b P (iI t) M = some (iI b) ∧ f_X1_c P (iI t) M = some (iI c) := by
  unfold f_X1_a f_X1_b f_X1_c
  rw [k_mg h ht, bd_s, bd_s, bd_s, e, iI_400, iI_20]
  refine ⟨?_, ?_, ?_⟩
  · exact (congrArg some (iI_div (a := (a * 20 + b) * 20 + c) (b := 400) (by omega) (by omega))).trans (by rw [show ((a * 20 + b) * 20 + c) / 400 = a by omega])
  · rw [show iI (((a * 20 + b) * 20 + c : Nat) : Int) / iI 20 = iI ((((a * 20 + b) * 20 + c) / 20 : Nat) : Int) from iI_div (b := 20) (by omega) (by omega)]
    exact (congrArg some (iI_rem (a := ((a * 20 + b) * 20 + c) / 20) (b := 20) (by omega) (by omega))).trans (by rw [show ((a * 20 + b) * 20 + c) / 20 % 20 = b by omega])
  · exact (congrArg some (iI_rem (a := (a * 20 + b) * 20 + c) (b := 20) (by omega) (by omega))).trans (by rw [show ((a * 20 + b) * 20 + c) % 20 = c by omega])
theorem k_code {p q r : Nat} (hp : p < 20) (hq : q < 20) (hr : r < 20) : f_X1_codeOf (iI p) (iI q) (iI r) M = some (iI ((tC p q r : Nat) : Int)) := by
  unfold f_X1_codeOf tC
  rw [mi_n (p := q) (q := r) (by omega) (by omega), mx_n (p := q) (q := r) (by omega) (by omega), mi_n (p := p) (by omega) (by omega), mx_n (p := p) (by omega) (by omega), iI_20]
  simp only [iI_add, iI_sub, iI_mul]
  congr 2
  omega
theorem k_th (h : cMs P M m T) {p q : Nat} (hp : p < 20) (hq : q < 20) : f_X1_thirdsOf P (iI p) (iI q) M = some (bS (eT m T p q)) := by
  unfold f_X1_thirdsOf
  rw [mi_n (by omega) (by omega), mx_n (by omega) (by omega), iI_20, iI_mul, iI_add, show ((min p q : Nat) : Int) * 20 + ((max p q : Nat) : Int) = ((20 * min p q + max p q : Nat) : Int) by omega, k_get (by omega) (by omega), bd_s, show P + 3 + 1 = P + 4 from rfl, h.2.2.2 _ _ (by omega) (by omega)]
  congr 1
  apply bS_cong
  intro i _
  by_cases e : p = q
  · subst e
    rw [decide_eq_false (by omega), Bool.false_and]
    unfold eT
    rw [decide_eq_false (by simp)]
  · rw [decide_eq_true (by omega), Bool.true_and]
    by_cases l : p < q
    · rw [show min p q = p by omega, show max p q = q by omega]
    · rw [show min p q = q by omega, show max p q = p by omega, eT_sw]
/-- where a number comes in the order -/
def tP (m : Nat) (T : Nat → Nat) (c k : Nat) : Prop := k ≤ m ∧ (∀ i, i < k → T i < c) ∧ (k < m → c ≤ T k)
theorem k_place (h : cMs P M m T) (hv : tV n m T) (hn : n ≤ 20) {c : Nat} (hc : c < 2147483648) : pW (f_X1_placeOf P (iI c) M) (fun r => ∃ k, r = iI ((k : Nat) : Int) ∧ tP m T c k) := by
  have hm := h.2.1
  unfold f_X1_placeOf
  rw [iI_0]
  refine pW_lp (fun u i (_ : Unit) => f_X1_placeOf_2 P (iI c) u (iI i) M) (fun i _ => ∀ j, j < i → T j < c) m ?_ fm_fuel 0 () (fun j hj => absurd hj (Nat.not_lt_zero j)) (Nat.zero_le _) (by unfold fm_fuel; omega)
  intro u i s hi hI k
  rw [f_X1_placeOf_2, h.1]
  simp (disch := omega) only [iI_le, f_X1_placeOf_28]
  refine pW_if (fun q => ?_) (fun q => ?_)
  · exact pW_some ⟨i, rfl, hi, hI, fun z => by omega⟩
  · have him : i < m := by omega
    have hT := tV_lt hv hn him
    rw [k_mg h him, bd_s]
    simp (disch := omega) only [iI_le, iI_s]
    refine pW_if (fun q1 => ?_) (fun q1 => ?_)
    · exact pW_some ⟨i, rfl, hi, hI, fun z => by omega⟩
    · exact k () him (fun j hj => by
        by_cases e : j = i
        · rw [e]; omega
        · exact hI j (by omega))
theorem k_holds (h : cMs P M m T) (hv : tV n m T) (hn : n ≤ 20) {c : Nat} (hc : c < 2147483648) : f_X1_holds P (iI c) M = some (if ∃ i, i < m ∧ T i = c then 1 else 0) := by
  obtain ⟨r, er, k, ek, k1, k2, k3⟩ := k_place h hv hn hc
  subst ek
  unfold f_X1_holds
  rw [er, bd_s, h.1]
  have hm := h.2.1
  simp (disch := omega) only [iI_le, f_X1_holds_30, f_X1_holds_31, bo_0, bo_1, ck_t]
  have no : (∀ i, k ≤ i → i < m → T i ≠ c) → ¬ ∃ i, i < m ∧ T i = c := fun z ⟨i, hi, e⟩ => by
    by_cases hk : i < k
    · have := k2 i hk; omega
    · exact z i (by omega) hi e
  by_cases q : k < m
  · rw [if_neg (by omega), k_mg h q, bd_s]
    have hT := tV_lt hv hn q
    simp (disch := omega) only [iI_eq]
    by_cases e : T k = c
    · rw [if_pos (by omega), if_pos ⟨k, q, e⟩]
    · rw [if_neg (by omega), if_neg (no (fun i h1 h2 e2 => by
        by_cases z : k = i
        · subst z; exact e e2
        · have := hv.1 k i (by omega) h2
          have := k3 q
          omega))]
  · rw [if_pos (by omega), if_neg (no (fun i h1 h2 => by omega))]
theorem gct_0 (p : Nat → Bool) : ∀ n, gct p n = 0 ↔ ∀ i, i < n → p i = false
  | 0 => ⟨fun _ i hi => absurd hi (Nat.not_lt_zero i), fun _ => rfl⟩
  | n + 1 => by
    rw [gct_s]
    constructor
    · intro h i hi
      have h1 := (gct_0 p n).mp (by omega)
      by_cases e : i = n
      · subst e
        cases hp : p i with
        | false => rfl
        | true => rw [hp, if_pos rfl] at h; omega
      · exact h1 i (by omega)
    · intro h
      rw [(gct_0 p n).mpr (fun i hi => h i (by omega)), h n (by omega)]; rfl
/-- how many triangles an edge has -/
def eN (m : Nat) (T : Nat → Nat) (p q : Nat) : Nat := gct (eT m T p q) 20
theorem eT_20 {m : Nat} {T : Nat → Nat} {p q i : Nat} (h : 20 ≤ i) : eT m T p q i = false := decide_eq_false (by omega)
theorem eN_0 {m : Nat} {T : Nat → Nat} {p q : Nat} : (∀ i, i < 32 → eT m T p q i = false) ↔ eN m T p q = 0 := by
  unfold eN
  rw [gct_0]
  exact ⟨fun h i hi => h i (by omega), fun h i _ => by
    by_cases z : i < 20
    · exact h i z
    · exact eT_20 (by omega)⟩
theorem eN_sw (m : Nat) (T : Nat → Nat) (p q : Nat) : eN m T q p = eN m T p q := gct_cong (fun j _ => eT_sw m T p q j)
theorem k_joined (h : cMs P M m T) {p : Nat} (hp : p < 20) : f_X1_joined P (iI p) M = some (bS (fun q => decide (q < 20 ∧ eN m T p q ≠ 0))) := by
  unfold f_X1_joined
  rw [show f_X1_joined_4 P (iI p) fm_fuel 0 0 M = f_X1_joined_4 P (iI p) fm_fuel (bS (fun _ => false)) (iI ((0 : Nat) : Int)) M by rw [← bS_0]; rfl]
  refine pW_eq (pW_lp (fun u i (s : Nat → Bool) => f_X1_joined_4 P (iI p) u (bS s) (iI i) M) (fun i s => ∀ q, q < 32 → s q = decide (q < i ∧ eN m T p q ≠ 0)) 20 ?_ fm_fuel 0 (fun _ => false) (fun q _ => by rw [decide_eq_false (by omega)]) (Nat.zero_le _) (by unfold fm_fuel; omega))
  intro u i s hi hI k
  rw [f_X1_joined_4, iI_20]
  simp (disch := omega) only [iI_le]
  refine pW_if (fun q => ?_) (fun q => ?_)
  · have e : i = 20 := by omega
    subst e
    exact pW_some (bS_cong hI)
  · have hi20 : i < 20 := by omega
    have hi32 : i < 32 := by omega
    rw [k_th h hp hi20, bd_s]
    simp only [bS_z, f_X1_joined_25, iI_s, eN_0]
    refine pW_if (fun q1 => ?_) (fun q1 => ?_)
    · refine k s hi20 (fun q hq => ?_)
      rw [hI q hq]
      apply decide_eq_decide.mpr
      by_cases e : q = i
      · subst e; omega
      · omega
    · rw [bS_or1 s hi32]
      refine k _ hi20 (fun q hq => ?_)
      rw [hI q hq]
      by_cases e : q = i
      · subst e
        rw [decide_eq_true rfl, Bool.or_true, decide_eq_true ⟨by omega, q1⟩]
      · rw [decide_eq_false e, Bool.or_false]
        exact decide_eq_decide.mpr (by omega)
end MS
