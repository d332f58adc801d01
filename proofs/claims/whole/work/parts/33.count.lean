/-! no drawing has more than 2n - 5 triangles -/
theorem g_holes : ∀ (m n : Nat) (f : Nat → Nat), (∀ i, i < n → f i < m) → (∀ i j, i < j → j < n → f i ≠ f j) → n ≤ m := by
  intro m
  induction m with
  | zero =>
    intro n f h1 _
    rcases Nat.eq_zero_or_pos n with h | h
    · omega
    · exact absurd (h1 0 h) (Nat.not_lt_zero _)
  | succ m ih =>
    intro n f h1 h2
    by_cases hx : ∃ i, i < n ∧ f i = m
    · obtain ⟨a, ha, hfa⟩ := hx
      have hg := ih (n - 1) (fun i => if i < a then f i else f (i + 1)) (by
        intro i hi
        by_cases q : i < a
        · simp only [if_pos q]
          have b1 := h1 i (by omega)
          have b2 := h2 i a q ha
          omega
        · simp only [if_neg q]
          have b1 := h1 (i + 1) (by omega)
          have b2 := h2 a (i + 1) (by omega) (by omega)
          omega) (by
        intro i j hij hj
        by_cases q : i < a
        · by_cases q2 : j < a
          · simp only [if_pos q, if_pos q2]; exact h2 i j hij (by omega)
          · simp only [if_pos q, if_neg q2]; exact h2 i (j + 1) (by omega) (by omega)
        · have q2 : ¬ j < a := by omega
          simp only [if_neg q, if_neg q2]; exact h2 (i + 1) (j + 1) (by omega) (by omega))
      omega
    · have hg := ih n f (fun i hi => by
        have b1 := h1 i hi
        have b2 : f i ≠ m := fun e => hx ⟨i, hi, e⟩
        omega) h2
      omega
theorem g_argmax (f : Nat → Int) : ∀ n, 0 < n → ∃ m, m < n ∧ ∀ i, i < n → f i ≤ f m
  | 0, h => absurd h (Nat.lt_irrefl 0)
  | 1, _ => ⟨0, by omega, fun i hi => by rw [show i = 0 by omega]; exact Int.le_refl _⟩
  | n + 2, _ => by
    obtain ⟨m, hm, h⟩ := g_argmax f (n + 1) (by omega)
    rcases Int.le_total (f (n + 1)) (f m) with q | q
    · exact ⟨m, by omega, fun i hi => by
        rcases Nat.lt_or_ge i (n + 1) with q2 | q2
        · exact h i q2
        · rw [show i = n + 1 by omega]; exact q⟩
    · exact ⟨n + 1, by omega, fun i hi => by
        rcases Nat.lt_or_ge i (n + 1) with q2 | q2
        · exact Int.le_trans (h i q2) q
        · rw [show i = n + 1 by omega]; exact Int.le_refl _⟩
/-- places from left to right, of those above one another from below -/
def gK (X Y : Nat → Int) (i : Nat) : Int := 1000 * X i + Y i
theorem gK_up (X Y : Nat → Int) (i j : Nat) : gC (X i - X j) (Y i - Y j) (-1) 1000 = gK X Y i - gK X Y j := by unfold gC gK; grind
theorem gK_up2 (X Y : Nat → Int) (i j : Nat) : gC (-1) 1000 (X i - X j) (Y i - Y j) = gK X Y j - gK X Y i := by unfold gC gK; grind
theorem gK_dn (X Y : Nat → Int) (i j : Nat) : gC (X i - X j) (Y i - Y j) 1 (-1000) = gK X Y j - gK X Y i := by unfold gC gK; grind
theorem gK_dn2 (X Y : Nat → Int) (i j : Nat) : gC 1 (-1000) (X i - X j) (Y i - Y j) = gK X Y i - gK X Y j := by unfold gC gK; grind
/-- m is the middle corner of t, its long side above (s = 0) or below (s = 1) -/
def gMid (X Y : Nat → Int) (t : gTri) (m s : Nat) : Prop := ∃ x r, gPt t m r x ∧ gK X Y x < gK X Y m ∧ gK X Y m < gK X Y r ∧ ((s = 0 ∧ 0 < gT X Y m r x) ∨ (s = 1 ∧ 0 < gT X Y m x r))
theorem gMid_ex {n : Nat} {X Y : Nat → Int} (hk : ∀ i j, i < n → j < n → gK X Y i = gK X Y j → i = j) {t : gTri} (h : gOk n X Y t) : ∃ m s, s < 2 ∧ m < n ∧ gMid X Y t m s := by
  have core : ∀ m x r, gPt t m r x → gK X Y x < gK X Y m → gK X Y m < gK X Y r → ∃ m s, s < 2 ∧ m < n ∧ gMid X Y t m s := by
    intro m x r hp h1 h2
    have hl := (gPt_ne h hp).2.2.2.1
    have h0 := gOk_T h hp
    rcases Int.lt_trichotomy (gT X Y m r x) 0 with q | q | q
    · exact ⟨m, 1, by omega, hl, x, r, hp, h1, h2, Or.inr ⟨rfl, by rw [gT_sw]; omega⟩⟩
    · exact absurd q h0
    · exact ⟨m, 0, by omega, hl, x, r, hp, h1, h2, Or.inl ⟨rfl, q⟩⟩
  obtain ⟨a, b, c⟩ := t
  have hp : gPt (a, b, c) a b c := Or.inl ⟨rfl, rfl, rfl⟩
  obtain ⟨nab, nac, nbc, la, lb, lc⟩ := gPt_ne h hp
  have k1 : gK X Y a ≠ gK X Y b := fun e => nab (hk a b la lb e)
  have k2 : gK X Y a ≠ gK X Y c := fun e => nac (hk a c la lc e)
  have k3 : gK X Y b ≠ gK X Y c := fun e => nbc (hk b c lb lc e)
  by_cases q1 : gK X Y a < gK X Y b
  · by_cases q2 : gK X Y b < gK X Y c
    · exact core b a c (gPt_r hp) q1 q2
    · by_cases q3 : gK X Y a < gK X Y c
      · exact core c a b (gPt_s (gPt_r (gPt_r hp))) q3 (by omega)
      · exact core a c b hp (by omega) q1
  · by_cases q2 : gK X Y a < gK X Y c
    · exact core a b c (gPt_s hp) (by omega) q2
    · by_cases q3 : gK X Y b < gK X Y c
      · exact core c b a (gPt_r (gPt_r hp)) q3 (by omega)
      · exact core b c a (gPt_s (gPt_r hp)) (by omega) (by omega)
theorem gMid_one {n : Nat} {X Y : Nat → Int} {D : gTri → Prop} (h : gInv n X Y D) {t t' : gTri} (d : D t) (d' : D t') {m s : Nat} (h1 : gMid X Y t m s) (h2 : gMid X Y t' m s) : t = t' := by
  obtain ⟨x, r, hp, a1, a2, a3⟩ := h1
  obtain ⟨x', r', hp', b1, b2, b3⟩ := h2
  rcases a3 with ⟨e1, a3⟩ | ⟨e1, a3⟩ <;> rcases b3 with ⟨e2, b3⟩ | ⟨e2, b3⟩
  · exact h.2 t t' d d' m r x r' x' (-1) 1000 hp hp' a3 b3 ⟨by rw [gK_up]; omega, by rw [gK_up2]; omega⟩ ⟨by rw [gK_up]; omega, by rw [gK_up2]; omega⟩
  · omega
  · omega
  · exact h.2 t t' d d' m x r x' r' 1 (-1000) (gPt_s hp) (gPt_s hp') a3 b3 ⟨by rw [gK_dn]; omega, by rw [gK_dn2]; omega⟩ ⟨by rw [gK_dn]; omega, by rw [gK_dn2]; omega⟩
theorem gT_line (X Y : Nat → Int) (l r a b : Nat) : gC (X r - X l) (Y r - Y l) (X b - X a) (Y b - Y a) = gT X Y l r b - gT X Y l r a := by unfold gT gC; grind
theorem gK_line (X Y : Nat → Int) (l r : Nat) : gC (X r - X l) (Y r - Y l) (-1) 1000 = gK X Y r - gK X Y l := gK_up X Y r l
theorem gK_line2 (X Y : Nat → Int) (l r : Nat) : gC (X r - X l) (Y r - Y l) 1 (-1000) = gK X Y l - gK X Y r := gK_dn X Y r l
/-- a point that lies farthest from the line through l and r isn't the middle of one with its long side beyond -/
theorem gMid_far {n : Nat} {X Y : Nat → Int} {l r m : Nat} (hlr : gK X Y l < gK X Y r) {t : gTri} (ht : gOk n X Y t) (hm : ∀ x, x < n → gT X Y l r x ≤ gT X Y l r m) (h : gMid X Y t m 0) : False := by
  obtain ⟨x, y, hp, a1, a2, a3⟩ := h
  have a4 : 0 < gT X Y m y x := by omega
  have hl := gPt_ne ht hp
  have e := g_plk (X r - X l) (Y r - Y l) (X x - X m) (Y x - Y m) (X y - X m) (Y y - Y m) (-1) 1000
  rw [gK_line, gT_line X Y l r m y, gT_line X Y l r m x, gK_up, gK_up2] at e
  have h1 := Int.mul_pos (show 0 < gK X Y r - gK X Y l by omega) (show 0 < gC (X y - X m) (Y y - Y m) (X x - X m) (Y x - Y m) from a4)
  have h2 := Int.mul_nonpos_of_nonpos_of_nonneg (show gT X Y l r y - gT X Y l r m ≤ 0 by have := hm y hl.2.2.2.2.1; omega) (show 0 ≤ gK X Y m - gK X Y x by omega)
  have h3 := Int.mul_nonpos_of_nonpos_of_nonneg (show gT X Y l r x - gT X Y l r m ≤ 0 by have := hm x hl.2.2.2.2.2; omega) (show 0 ≤ gK X Y y - gK X Y m by omega)
  omega
theorem gMid_near {n : Nat} {X Y : Nat → Int} {l r m : Nat} (hlr : gK X Y l < gK X Y r) {t : gTri} (ht : gOk n X Y t) (hm : ∀ x, x < n → gT X Y l r m ≤ gT X Y l r x) (h : gMid X Y t m 1) : False := by
  obtain ⟨x, y, hp, a1, a2, a3⟩ := h
  have a4 : 0 < gT X Y m x y := by omega
  have hl := gPt_ne ht hp
  have e := g_plk (X r - X l) (Y r - Y l) (X y - X m) (Y y - Y m) (X x - X m) (Y x - Y m) 1 (-1000)
  rw [gK_line2, gT_line X Y l r m x, gT_line X Y l r m y, gK_dn, gK_dn2] at e
  have h1 := Int.mul_pos (show 0 < gK X Y r - gK X Y l by omega) (show 0 < gC (X x - X m) (Y x - Y m) (X y - X m) (Y y - Y m) from a4)
  have h2 := Int.mul_nonneg (show 0 ≤ gT X Y l r x - gT X Y l r m by have := hm x hl.2.2.2.2.2; omega) (show 0 ≤ gK X Y y - gK X Y m by omega)
  have h3 := Int.mul_nonneg (show 0 ≤ gT X Y l r y - gT X Y l r m by have := hm y hl.2.2.2.2.1; omega) (show 0 ≤ gK X Y m - gK X Y x by omega)
  have h4 : (gK X Y l - gK X Y r) * gC (X x - X m) (Y x - Y m) (X y - X m) (Y y - Y m) = - ((gK X Y r - gK X Y l) * gC (X x - X m) (Y x - Y m) (X y - X m) (Y y - Y m)) := by rw [← Int.neg_mul]; congr 1; omega
  omega
/-- three points of a line through two places are no triangle -/
theorem gT_flat {X Y : Nat → Int} {l r a b c : Nat} (hlr : gK X Y l < gK X Y r) (h1 : gT X Y l r a = 0) (h2 : gT X Y l r b = 0) (h3 : gT X Y l r c = 0) : gT X Y a b c = 0 := by
  have e := g_plk (X b - X a) (Y b - Y a) (X c - X a) (Y c - Y a) (X r - X l) (Y r - Y l) (-1) 1000
  rw [gK_line X Y l r, gT_line X Y l r a c, h1, h3, gC_sw (X r - X l) (Y r - Y l) (X b - X a) (Y b - Y a), gT_line X Y l r a b, h1, h2] at e
  have e2 : gT X Y a b c * (gK X Y r - gK X Y l) = 0 := by
    have e3 : gT X Y a b c = gC (X b - X a) (Y b - Y a) (X c - X a) (Y c - Y a) := rfl
    rw [e3]
    simp only [Int.sub_self, Int.sub_zero, Int.mul_zero, Int.neg_zero, Int.zero_mul, Int.zero_add] at e
    exact e.symm
  rcases Int.mul_eq_zero.mp e2 with q | q
  · exact q
  · omega
theorem gCount {n : Nat} {X Y : Nat → Int} (hk : ∀ i j, i < n → j < n → gK X Y i = gK X Y j → i = j) {k : Nat} {T : Nat → gTri} (hT : ∀ i j, i < j → j < k → T i ≠ T j) (h : gInv n X Y (fun t => ∃ i, i < k ∧ T i = t)) (h0 : 0 < k) : k + 5 ≤ 2 * n := by
  have ok0 := h.1 (T 0) ⟨0, h0, rfl⟩
  have hn : 0 < n := by have := ok0.2.2.1; omega
  obtain ⟨l, hl, ml⟩ := g_argmax (fun i => - gK X Y i) n hn
  obtain ⟨r, hr, mr⟩ := g_argmax (fun i => gK X Y i) n hn
  have ml : ∀ i, i < n → - gK X Y i ≤ - gK X Y l := ml
  have mr : ∀ i, i < n → gK X Y i ≤ gK X Y r := mr
  have hlr : gK X Y l < gK X Y r := by
    have a1 := ok0.1; have a2 := ok0.2.1; have a3 := ok0.2.2.1
    have b1 := ml (T 0).1 (by omega); have b2 := mr (T 0).1 (by omega)
    have b3 := ml (T 0).2.1 (by omega); have b4 := mr (T 0).2.1 (by omega)
    have b5 : gK X Y (T 0).1 ≠ gK X Y (T 0).2.1 := fun e => by have := hk _ _ (by omega) (by omega) e; omega
    omega
  have hself : gT X Y l r l = 0 ∧ gT X Y l r r = 0 := by unfold gT gC; exact ⟨by grind, by grind⟩
  -- the point that has one side less
  have hex : ∃ m s, s < 2 ∧ m < n ∧ m ≠ l ∧ m ≠ r ∧ ∀ t, gOk n X Y t → ¬ gMid X Y t m s := by
    obtain ⟨m, hm, mm⟩ := g_argmax (fun i => gT X Y l r i) n hn
    obtain ⟨m2, hm2, mm2⟩ := g_argmax (fun i => - gT X Y l r i) n hn
    have mm : ∀ i, i < n → gT X Y l r i ≤ gT X Y l r m := mm
    have mm2 : ∀ i, i < n → - gT X Y l r i ≤ - gT X Y l r m2 := mm2
    by_cases q : 0 < gT X Y l r m
    · exact ⟨m, 0, by omega, hm, fun e => by rw [e] at q; omega, fun e => by rw [e] at q; omega, fun t ht hg => gMid_far hlr ht mm hg⟩
    · by_cases q2 : gT X Y l r m2 < 0
      · exact ⟨m2, 1, by omega, hm2, fun e => by rw [e] at q2; omega, fun e => by rw [e] at q2; omega, fun t ht hg => gMid_near hlr ht (fun x hx => by have := mm2 x hx; omega) hg⟩
      · exfalso
        have z : ∀ i, i < n → gT X Y l r i = 0 := fun i hi => by have := mm i hi; have := mm2 i hi; omega
        have a1 := ok0.1; have a2 := ok0.2.1; have a3 := ok0.2.2.1
        exact ok0.2.2.2 (gT_flat hlr (z _ (by omega)) (z _ (by omega)) (z _ a3))
  obtain ⟨m0, s0, hs0, hm0, nl0, nr0, no0⟩ := hex
  have hx : ∀ i, ∃ c : Nat, i < k → ∃ m s, s < 2 ∧ m < n ∧ gMid X Y (T i) m s ∧ c = 2 * m + s := by
    intro i
    by_cases hi : i < k
    · obtain ⟨m, s, h1, h2, h3⟩ := gMid_ex hk (h.1 (T i) ⟨i, hi, rfl⟩)
      exact ⟨2 * m + s, fun _ => ⟨m, s, h1, h2, h3, rfl⟩⟩
    · exact ⟨0, fun q => absurd q hi⟩
  obtain ⟨f, hf⟩ := Classical.axiomOfChoice hx
  have hf2 : ∀ i, i < k → f i < 2 * n ∧ f i ≠ 2 * l ∧ f i ≠ 2 * l + 1 ∧ f i ≠ 2 * r ∧ f i ≠ 2 * r + 1 ∧ f i ≠ 2 * m0 + s0 := by
    intro i hi
    obtain ⟨m, s, h1, h2, h3, h4⟩ := hf i hi
    have hoi := h.1 (T i) ⟨i, hi, rfl⟩
    have nl : m ≠ l := by
      intro e
      obtain ⟨x, y, hp, a1, a2, -⟩ := h3
      have := ml x (gPt_ne hoi hp).2.2.2.2.2
      rw [e] at a1; omega
    have nr : m ≠ r := by
      intro e
      obtain ⟨x, y, hp, a1, a2, -⟩ := h3
      have := mr y (gPt_ne hoi hp).2.2.2.2.1
      rw [e] at a2; omega
    have n0 : ¬ (m = m0 ∧ s = s0) := by
      rintro ⟨e1, e2⟩
      subst e1; subst e2
      exact no0 (T i) hoi h3
    omega
  have hf3 : ∀ i j, i < j → j < k → f i ≠ f j := by
    intro i j hij hj e
    obtain ⟨m, s, h1, h2, h3, h4⟩ := hf i (by omega)
    obtain ⟨m', s', h1', h2', h3', h4'⟩ := hf j hj
    have e1 : m = m' := by omega
    have e2 : s = s' := by omega
    subst e1; subst e2
    exact hT i j hij hj (gMid_one h ⟨i, by omega, rfl⟩ ⟨j, hj, rfl⟩ h3 h3')
  have hlr2 : l ≠ r := fun e => by rw [e] at hlr; omega
  refine g_holes (2 * n) (k + 5) (fun i => if i < k then f i else if i = k then 2 * l else if i = k + 1 then 2 * l + 1 else if i = k + 2 then 2 * r else if i = k + 3 then 2 * r + 1 else 2 * m0 + s0) (fun i hi => ?_) (fun i j hij hj => ?_)
  · by_cases q : i < k
    · rw [if_pos q]; exact (hf2 i q).1
    · rw [if_neg q]
      repeat' split
      all_goals omega
  · by_cases q : j < k
    · rw [if_pos q, if_pos (show i < k by omega)]; exact hf3 i j hij q
    · rw [if_neg q]
      by_cases q2 : i < k
      · rw [if_pos q2]
        have := hf2 i q2
        repeat' split
        all_goals omega
      · rw [if_neg q2]
        repeat' split
        all_goals omega
