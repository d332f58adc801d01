/-! drawings as rising numbers: facts of order, edges and sides -/
def tri (c : Nat) : gTri := (c / 400, c / 20 % 20, c % 20)
theorem tri_c {a b c : Nat} (hb : b < 20) (hc : c < 20) : tri ((a * 20 + b) * 20 + c) = (a, b, c) := by
  unfold tri
  rw [show ((a * 20 + b) * 20 + c) / 400 = a by omega, show ((a * 20 + b) * 20 + c) / 20 % 20 = b by omega, show ((a * 20 + b) * 20 + c) % 20 = c by omega]
/-- the same numbers in a rising row: the same row -/
theorem tS_le {m m' : Nat} {T T' : Nat → Nat} (h : ∀ i j, i < j → j < m → T i < T j) (h' : ∀ i j, i < j → j < m' → T' i < T' j) (he : ∀ x, (∃ i, i < m ∧ T i = x) → ∃ i, i < m' ∧ T' i = x) : ∀ i, i < m → ∃ j, j < m' ∧ i ≤ j ∧ T' j = T i := by
  intro i
  induction i with
  | zero =>
    intro hi
    obtain ⟨j, hj, e⟩ := he (T 0) ⟨0, hi, rfl⟩
    exact ⟨j, hj, Nat.zero_le j, e⟩
  | succ i ih =>
    intro hi
    obtain ⟨j, hj, h1, e⟩ := ih (by omega)
    obtain ⟨k, hk, e2⟩ := he (T (i + 1)) ⟨i + 1, hi, rfl⟩
    have := h i (i + 1) (by omega) hi
    refine ⟨k, hk, ?_, e2⟩
    rcases Nat.lt_or_ge j k with z | z
    · omega
    · exfalso
      rcases Nat.lt_or_eq_of_le z with y | y
      · have := h' k j y hj; omega
      · subst y; omega
theorem tS_eq {m m' : Nat} {T T' : Nat → Nat} (h : ∀ i j, i < j → j < m → T i < T j) (h' : ∀ i j, i < j → j < m' → T' i < T' j) (he : ∀ x, (∃ i, i < m ∧ T i = x) ↔ ∃ i, i < m' ∧ T' i = x) : m = m' ∧ ∀ i, i < m → T i = T' i := by
  have a := tS_le h h' (fun x => (he x).mp)
  have b := tS_le h' h (fun x => (he x).mpr)
  have hm : m = m' := by
    rcases Nat.lt_trichotomy m m' with z | z | z
    · obtain ⟨j, hj, h1, _⟩ := b (m' - 1) (by omega); omega
    · exact z
    · obtain ⟨j, hj, h1, _⟩ := a (m - 1) (by omega); omega
  subst hm
  have le : ∀ {T T' : Nat → Nat}, (∀ i j, i < j → j < m → T i < T j) → (∀ i j, i < j → j < m → T' i < T' j) → (∀ i, i < m → ∃ j, j < m ∧ i ≤ j ∧ T' j = T i) → ∀ i, i < m → T' i ≤ T i := fun h h' a i hi => by
    obtain ⟨j, hj, h1, e⟩ := a i hi
    rcases Nat.lt_or_eq_of_le h1 with z | z
    · have := h' i j z hj; omega
    · subst z; omega
  exact ⟨rfl, fun i hi => Nat.le_antisymm (le h' h b i hi) (le h h' a i hi)⟩
theorem tC_sw2 (p q r : Nat) : tC p r q = tC p q r := by rw [← tC_rot p r q, tC_sw q r p, tC_rot p q r]
/-- the numbers of a triangle with two points grow with its third -/
theorem tC_3 {p q r : Nat} (h : p < q) (hp : p ≠ r) (hq : q ≠ r) : (r < p ∧ tC p q r = (r * 20 + p) * 20 + q) ∨ (p < r ∧ r < q ∧ tC p q r = (p * 20 + r) * 20 + q) ∨ (q < r ∧ tC p q r = (p * 20 + q) * 20 + r) := by
  rcases Nat.lt_or_gt_of_ne hp with a | a
  · rcases Nat.lt_or_gt_of_ne hq with b | b
    · exact Or.inr (Or.inr ⟨b, tC_a h b⟩)
    · exact Or.inr (Or.inl ⟨a, b, by rw [← tC_a a b, ← tC_rot p q r, ← tC_rot, tC_sw]⟩)
  · exact Or.inl ⟨a, by rw [← tC_a a h, ← tC_rot r p q]⟩
theorem tC_mono {p q r r' : Nat} (hp : p < 20) (hq : q < 20) (hr : r < 20) (hr' : r' < 20) (h : p ≠ q) (h1 : p ≠ r) (h2 : q ≠ r) (h3 : p ≠ r') (h4 : q ≠ r') (hlt : r < r') : tC p q r < tC p q r' := by
  have key : ∀ p q, p < 20 → q < 20 → p < q → p ≠ r → q ≠ r → p ≠ r' → q ≠ r' → tC p q r < tC p q r' := fun p q hp hq h h1 h2 h3 h4 => by
    rcases tC_3 h h1 h2 with ⟨z1, z⟩ | ⟨z1, z2, z⟩ | ⟨z1, z⟩ <;> rcases tC_3 h h3 h4 with ⟨y1, y⟩ | ⟨y1, y2, y⟩ | ⟨y1, y⟩ <;> rw [z, y] <;> omega
  rcases Nat.lt_or_gt_of_ne h with a | a
  · exact key p q hp hq a h1 h2 h3 h4
  · rw [tC_sw q p r, tC_sw q p r']
    exact key q p hq hp a h2 h1 h4 h3
section TV
variable {n m : Nat} {T : Nat → Nat} {X Y : Nat → Int}
theorem tV_tri (h : tV n m T) (hn : n ≤ 20) {i : Nat} (hi : i < m) : ∃ a b c, a < b ∧ b < c ∧ c < n ∧ T i = (a * 20 + b) * 20 + c ∧ tri (T i) = (a, b, c) := by
  obtain ⟨a, b, c, h1, h2, h3, h4⟩ := h.2 i hi
  exact ⟨a, b, c, h1, h2, h3, h4, by rw [h4, tri_c (by omega) (by omega)]⟩
theorem tri_gPt {c p q r : Nat} {t : gTri} (h1 : t.1 < t.2.1) (h2 : t.2.1 < t.2.2) (h3 : t.2.2 < 20) (hc : c = (t.1 * 20 + t.2.1) * 20 + t.2.2) (hp : p < 20) (hq : q < 20) (hr : r < 20) : gPt t p q r ↔ p ≠ q ∧ p ≠ r ∧ q ≠ r ∧ tC p q r = c := by
  obtain ⟨a, b, d⟩ := t
  unfold gPt
  dsimp only at h1 h2 h3 hc ⊢
  constructor
  · intro h
    have hh := h
    unfold gPm at hh
    refine ⟨?_, ?_, ?_, ?_⟩
    · rcases hh with z | z | z | z | z | z <;> omega
    · rcases hh with z | z | z | z | z | z <;> omega
    · rcases hh with z | z | z | z | z | z <;> omega
    · rw [hc, ← tC_a h1 h2]
      rcases hh with z | z | z | z | z | z <;> obtain ⟨rfl, rfl, rfl⟩ := z
      · rfl
      · exact tC_rot _ _ _
      · exact (tC_rot _ _ _).symm
      · exact (tC_sw2 _ _ _).symm
      · rw [tC_rot, tC_sw2]
      · exact tC_sw _ _ _
  · rintro ⟨n1, n2, n3, e⟩
    obtain ⟨a', b', d', k1, k2, k3, k4⟩ := tC_o n1 n2 n3
    have k5 := gPm_lt' k3 hp hq hr
    rw [k4, hc] at e
    obtain ⟨rfl, rfl, rfl⟩ := tC_inj k5.2.1 k5.2.2 (by omega) h3 e
    exact k3
/-- an edge's third points are those of its triangles -/
theorem eT_iff (h : tV n m T) (hn : n ≤ 20) {p q r : Nat} (hp : p < 20) (hq : q < 20) (hr : r < 20) : eT m T p q r = true ↔ ∃ i, i < m ∧ gPt (tri (T i)) p q r := by
  constructor
  · intro he
    obtain ⟨n1, n2, n3, -, -, -, i, hi, e⟩ := eT_v h hn hp hq he
    obtain ⟨a, b, c, k1, k2, k3, k4, k5⟩ := tV_tri h hn hi
    refine ⟨i, hi, ?_⟩
    rw [k5]
    exact (tri_gPt (t := (a, b, c)) (c := T i) k1 k2 (by dsimp only; omega) k4 hp hq hr).mpr ⟨n1, n2, n3, e.symm⟩
  · rintro ⟨i, hi, e⟩
    obtain ⟨a, b, c, k1, k2, k3, k4, k5⟩ := tV_tri h hn hi
    rw [k5] at e
    obtain ⟨n1, n2, n3, e2⟩ := (tri_gPt (t := (a, b, c)) (c := T i) k1 k2 (by dsimp only; omega) k4 hp hq hr).mp e
    exact decide_eq_true ⟨n1, hr, i, hi, e2.symm⟩
/-- a drawing of n points -/
def gDr (n : Nat) (X Y : Nat → Int) (m : Nat) (T : Nat → Nat) : Prop := tV n m T ∧ gInv n X Y (fun t => ∃ i, i < m ∧ tri (T i) = t)
theorem gInv_sub {D D' : gTri → Prop} (h : gInv n X Y D) (hs : ∀ t, D' t → D t) : gInv n X Y D' := ⟨fun t d => h.1 t (hs t d), fun t t' d d' => h.2 t t' (hs t d) (hs t' d')⟩
def gDis (n : Nat) (X Y : Nat → Int) : Prop := ∀ i j, i < n → j < n → X i = X j → Y i = Y j → i = j
theorem gK_inj (hb : gbd n X Y) (hd : gDis n X Y) : ∀ i j, i < n → j < n → gK X Y i = gK X Y j → i = j := fun i j hi hj e => by
  have b1 := hb i hi
  have b2 := hb j hj
  unfold gK at e
  exact hd i j hi hj (by omega) (by omega)
theorem gDr_m (h : gDr n X Y m T) (hn : n ≤ 20) (hb : gbd n X Y) (hd : gDis n X Y) : m ≤ 35 := by
  by_cases h0 : 0 < m
  · have := gCount (gK_inj hb hd) (k := m) (T := fun i => tri (T i)) (fun i j hij hj e => by
      obtain ⟨a, b, c, k1, k2, k3, k4, k5⟩ := tV_tri h.1 hn (show i < m by omega)
      obtain ⟨a', b', c', l1, l2, l3, l4, l5⟩ := tV_tri h.1 hn hj
      rw [k5, l5] at e
      have := h.1.1 i j hij hj
      cases e
      omega) h.2 h0
    omega
  · omega
theorem gDr_side (h : gDr n X Y m T) (hn : n ≤ 20) {p q c d : Nat} (hp : p < 20) (hq : q < 20) (hc : eT m T p q c = true) (hd : eT m T p q d = true) (hcd : c ≠ d) : gT X Y p q c ≠ 0 ∧ (0 < gT X Y p q c → gT X Y p q d < 0) ∧ (gT X Y p q c < 0 → 0 < gT X Y p q d) := by
  have c20 := (of_decide_eq_true hc).2.1
  have d20 := (of_decide_eq_true hd).2.1
  obtain ⟨i, hi, e1⟩ := (eT_iff h.1 hn hp hq c20).mp hc
  obtain ⟨j, hj, e2⟩ := (eT_iff h.1 hn hp hq d20).mp hd
  refine ⟨gOk_T (h.2.1 _ ⟨i, hi, rfl⟩) e1, fun z => gInv_side h.2 ⟨i, hi, rfl⟩ ⟨j, hj, rfl⟩ e1 e2 hcd z, fun z => ?_⟩
  have := gInv_side h.2 ⟨i, hi, rfl⟩ ⟨j, hj, rfl⟩ (gPt_s (gPt_r e1)) (gPt_s (gPt_r e2)) hcd (by rw [gT_sw2]; omega)
  rw [gT_sw2] at this
  omega
/-- no edge has more than two triangles -/
theorem gDr_2 (h : gDr n X Y m T) (hn : n ≤ 20) {p q : Nat} (hp : p < 20) (hq : q < 20) : eN m T p q ≤ 2 := by
  unfold eN
  refine gct_inj (q := fun _ => true) (m := 2) (fun r => if 0 < gT X Y p q r then 0 else 1) (fun i _ _ => by split <;> exact ⟨by omega, rfl⟩) (fun i j hi hj ei ej e => ?_)
  refine Classical.byContradiction fun ne => ?_
  have k := gDr_side h hn hp hq ei ej ne
  by_cases z : 0 < gT X Y p q i
  · have := k.2.1 z
    rw [if_pos z, if_neg (by omega)] at e
    omega
  · have := k.2.2 (by omega)
    rw [if_neg z, if_pos this] at e
    omega
/-- the third points in their order -/
theorem gct_1 {p : Nat → Bool} {n : Nat} (h : gct p n ≠ 0) : ∃ c, c < n ∧ p c = true ∧ (∀ i, i < c → p i = false) ∧ gFi p n = (c : Int) := by
  rcases gFi_r p n with ⟨e, z⟩ | ⟨i, hi, e, z1, z2⟩
  · exact absurd ((gct_0 p n).mpr z) h
  · exact ⟨i, hi, z1, z2, e⟩
theorem gct_del {p : Nat → Bool} {n c : Nat} (hc : c < n) (h : p c = true) : gct p n = gct (fun i => p i && !decide (i = c)) n + 1 := by
  induction n with
  | zero => omega
  | succ n ih =>
    rw [gct_s, gct_s]
    by_cases e : c = n
    · subst e
      rw [h, if_pos rfl, gct_cong (q := fun i => p i && !decide (i = c)) (fun j hj => by rw [decide_eq_false (show ¬ j = c by omega)]; simp)]
      simp
    · rw [ih (by omega), decide_eq_false (show ¬ n = c by omega)]
      simp only [Bool.not_false, Bool.and_true]
      omega
theorem eN_two {p q : Nat} (h : eN m T p q = 2) : ∃ c d, c < d ∧ d < 20 ∧ eT m T p q c = true ∧ eT m T p q d = true ∧ (∀ i, eT m T p q i = true → i = c ∨ i = d) ∧ gFi (eT m T p q) 20 = (c : Int) ∧ gFi (fun i => eT m T p q i && !decide (i = c)) 20 = (d : Int) := by
  unfold eN at h
  obtain ⟨c, hc, c1, c2, c3⟩ := gct_1 (p := eT m T p q) (n := 20) (by omega)
  have h2 := gct_del hc c1
  obtain ⟨d, hd, d1, d2, d3⟩ := gct_1 (p := fun i => eT m T p q i && !decide (i = c)) (n := 20) (by omega)
  have h3 := gct_del (p := fun i => eT m T p q i && !decide (i = c)) hd d1
  have h4 := (gct_0 (fun i => (eT m T p q i && !decide (i = c)) && !decide (i = d)) 20).mp (by omega)
  rw [Bool.and_eq_true, Bool.not_eq_true', decide_eq_false_iff_not] at d1
  refine ⟨c, d, ?_, hd, c1, d1.1, fun i ei => ?_, c3, d3⟩
  · rcases Nat.lt_trichotomy c d with z | z | z
    · exact z
    · exact absurd z.symm d1.2
    · have := c2 d z; rw [d1.1] at this; cases this
  · have i20 := (of_decide_eq_true ei).2.1
    have := h4 i i20
    rw [ei] at this
    by_cases a : i = c
    · exact Or.inl a
    · by_cases b : i = d
      · exact Or.inr b
      · rw [decide_eq_false a, decide_eq_false b] at this
        cases this
end TV
/-! the due triangles in their order -/
def dueL (n : Nat) (X Y : Nat → Int) (d : Nat) (D : Nat → Nat) : Prop := tV n d D ∧ ∀ a b c, a < b → b < c → c < n → ((∃ i, i < d ∧ D i = (a * 20 + b) * 20 + c) ↔ gDue n X Y a b c)
theorem dueL_eq {n : Nat} {X Y : Nat → Int} {d d' : Nat} {D D' : Nat → Nat} (h : dueL n X Y d D) (h' : dueL n X Y d' D') : d = d' ∧ ∀ i, i < d → D i = D' i := by
  have le : ∀ {d d' : Nat} {D D' : Nat → Nat}, dueL n X Y d D → dueL n X Y d' D' → ∀ x, (∃ i, i < d ∧ D i = x) → ∃ i, i < d' ∧ D' i = x := fun h h' x ⟨i, hi, e⟩ => by
    obtain ⟨a, b, c, h1, h2, h3, h4⟩ := h.1.2 i hi
    have := (h.2 a b c h1 h2 h3).mp ⟨i, hi, h4⟩
    obtain ⟨j, hj, e2⟩ := (h'.2 a b c h1 h2 h3).mpr this
    exact ⟨j, hj, by rw [e2, ← h4, e]⟩
  exact tS_eq h.1.1 h'.1.1 (fun x => ⟨le h h' x, le h' h x⟩)
theorem dueL_Dr {n : Nat} {X Y : Nat → Int} {d : Nat} {D : Nat → Nat} (hn : n ≤ 20) (hd : gDis n X Y) (h : dueL n X Y d D) : gDr n X Y d D := by
  refine ⟨h.1, gInv_sub (gInv_due hd) (fun t ht => ?_)⟩
  obtain ⟨i, hi, e⟩ := ht
  obtain ⟨a, b, c, h1, h2, h3, h4, h5⟩ := tV_tri h.1 hn hi
  rw [← e, h5]
  exact (h.2 a b c h1 h2 h3).mp ⟨i, hi, h4⟩
theorem gT_cong {n : Nat} {X Y X' Y' : Nat → Int} (h : ∀ k, k < n → X k = X' k ∧ Y k = Y' k) {p q r : Nat} (hp : p < n) (hq : q < n) (hr : r < n) : gT X Y p q r = gT X' Y' p q r := by
  unfold gT
  rw [(h p hp).1, (h p hp).2, (h q hq).1, (h q hq).2, (h r hr).1, (h r hr).2]
theorem gI_cong {n : Nat} {X Y X' Y' : Nat → Int} (h : ∀ k, k < n → X k = X' k ∧ Y k = Y' k) {p q r : Nat} (hp : p < n) (hq : q < n) (hr : r < n) (x y : Int) : gI X Y p q r x y = gI X' Y' p q r x y := by
  unfold gI
  rw [gT_cong h hp hq hr, (h p hp).1, (h p hp).2, (h q hq).1, (h q hq).2, (h r hr).1, (h r hr).2]
theorem gDue_cong {n : Nat} {X Y X' Y' : Nat → Int} (h : ∀ k, k < n → X k = X' k ∧ Y k = Y' k) {a b c : Nat} : gDue n X Y a b c ↔ gDue n X' Y' a b c := by
  have one : ∀ {X Y X' Y' : Nat → Int}, (∀ k, k < n → X k = X' k ∧ Y k = Y' k) → gDue n X Y a b c → gDue n X' Y' a b c := fun h k => by
    obtain ⟨k1, k2, k3, k4, k5⟩ := k
    refine ⟨k1, k2, k3, ?_, fun d hd n1 n2 n3 => ?_⟩
    · rw [← gT_cong h (by omega) (by omega) k3]; exact k4
    · have := k5 d hd n1 n2 n3
      rw [gI_cong h (by omega) (by omega) k3, (h d hd).1, (h d hd).2, gT_cong h (by omega) k3 hd, gT_cong h (show b < n by omega) k3 (show a < n by omega)] at this
      exact this
  exact ⟨one h, one (fun k hk => ⟨(h k hk).1.symm, (h k hk).2.symm⟩)⟩
