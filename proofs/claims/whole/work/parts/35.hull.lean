/-! corners of a set of points, as the reference tells them; the corner behind one -/
def gd2 (ux uy vx vy : Int) : Int := ux * vx + uy * vy
/-- p between q and r -/
def hBt (X Y : Nat → Int) (p q r : Nat) : Prop := gT X Y p q r = 0 ∧ gd2 (X q - X p) (Y q - Y p) (X r - X p) (Y r - Y p) < 0
/-- p within q, r, s -/
def hWi (X Y : Nat → Int) (p q r s : Nat) : Prop := (0 < gT X Y q r p ∧ 0 < gT X Y r s p ∧ 0 < gT X Y s q p) ∨ (gT X Y q r p < 0 ∧ gT X Y r s p < 0 ∧ gT X Y s q p < 0)
def hCo (X Y : Nat → Int) (S : Nat → Prop) (p : Nat) : Prop := S p ∧ (∀ q r, S q → S r → q ≠ p → r ≠ p → q ≠ r → ¬ hBt X Y p q r) ∧ ∀ q r s, S q → S r → S s → q ≠ p → r ≠ p → s ≠ p → ¬ hWi X Y p q r s
/-- b is the corner behind p: the others lie to the left, or on the way to it -/
def hNx (X Y : Nat → Int) (S : Nat → Prop) (p b : Nat) : Prop := S b ∧ b ≠ p ∧ ∀ s, S s → s ≠ p → 0 < gT X Y p b s ∨ (gT X Y p b s = 0 ∧ gN (X s - X p) (Y s - Y p) ≤ gN (X b - X p) (Y b - Y p))
theorem h_lin (ux uy vx vy a b : Int) : gN vx vy * (a * ux + b * uy) = gd2 ux uy vx vy * (a * vx + b * vy) + gC vx vy ux uy * (b * vx - a * vy) := by unfold gN gd2 gC; grind
theorem h_bar (ux uy vx vy wx wy a b : Int) : gC vx vy wx wy * (a * ux + b * uy) + gC wx wy ux uy * (a * vx + b * vy) + gC ux uy vx vy * (a * wx + b * wy) = 0 := by unfold gC; grind
theorem gN_pos {x y : Int} (h : ¬ (x = 0 ∧ y = 0)) : 0 < gN x y := by
  rcases Int.lt_or_eq_of_le (gN_nn x y) with q | q
  · exact q
  · exact absurd (gN_0 q.symm) h
/-- the first point from left to right is a corner -/
theorem hCo_min {X Y : Nat → Int} {S : Nat → Prop} {p : Nat} (hp : S p) (hm : ∀ q, S q → q ≠ p → gK X Y p < gK X Y q) : hCo X Y S p := by
  have hk : ∀ q, S q → q ≠ p → 0 < 1000 * (X q - X p) + 1 * (Y q - Y p) := fun q h1 h2 => by
    have := hm q h1 h2
    unfold gK at this
    omega
  refine ⟨hp, fun q r hq hr nq nr _ hb => ?_, fun q r s hq hr hs nq nr ns hw => ?_⟩
  · have e := h_lin (X q - X p) (Y q - Y p) (X r - X p) (Y r - Y p) 1000 1
    have h0 : gC (X r - X p) (Y r - Y p) (X q - X p) (Y q - Y p) = 0 := by
      have := hb.1
      rw [gC_sw]
      have h2 : gC (X q - X p) (Y q - Y p) (X r - X p) (Y r - Y p) = 0 := this
      omega
    rw [h0, Int.zero_mul, Int.add_zero] at e
    have h1 := hk q hq nq
    have h2 := hk r hr nr
    have h3 : 0 < gN (X r - X p) (Y r - Y p) := gN_pos (fun q => by omega)
    have h4 := Int.mul_pos h3 h1
    have h5 := Int.mul_neg_of_neg_of_pos hb.2 h2
    omega
  · have e := h_bar (X q - X p) (Y q - Y p) (X r - X p) (Y r - Y p) (X s - X p) (Y s - Y p) 1000 1
    have h1 := hk q hq nq
    have h2 := hk r hr nr
    have h3 := hk s hs ns
    have a1 : gC (X q - X p) (Y q - Y p) (X r - X p) (Y r - Y p) = gT X Y q r p := (gT_rot X Y p q r).symm
    have a2 : gC (X r - X p) (Y r - Y p) (X s - X p) (Y s - Y p) = gT X Y r s p := (gT_rot X Y p r s).symm
    have a3 : gC (X s - X p) (Y s - Y p) (X q - X p) (Y q - Y p) = gT X Y s q p := (gT_rot X Y p s q).symm
    rw [a1, a2, a3] at e
    rcases hw with ⟨w1, w2, w3⟩ | ⟨w1, w2, w3⟩
    · have := Int.mul_pos w2 h1
      have := Int.mul_pos w3 h2
      have := Int.mul_pos w1 h3
      omega
    · have := Int.mul_neg_of_neg_of_pos w2 h1
      have := Int.mul_neg_of_neg_of_pos w3 h2
      have := Int.mul_neg_of_neg_of_pos w1 h3
      omega
theorem gT_at (X Y : Nat → Int) (p b s : Nat) : gT X Y p b s = (- (Y b - Y p)) * (X s - X b) + (X b - X p) * (Y s - Y b) := by unfold gT gC; grind
theorem h_dd (ex ey ux uy vx vy : Int) : gd2 ex ey ux uy * gd2 ex ey vx vy = gN ex ey * gd2 ux uy vx vy - gC ex ey ux uy * gC ex ey vx vy := by unfold gd2 gN gC; grind
theorem h_cc (ex ey ux uy vx vy : Int) : gN ex ey * gC ux uy vx vy = gd2 ex ey ux uy * gC ex ey vx vy - gC ex ey ux uy * gd2 ex ey vx vy := by unfold gd2 gN gC; grind
/-- a place of the line, not farther than b, lies behind b -/
theorem h_back {X Y : Nat → Int} {p b s : Nat} (hd : ¬ (X s - X b = 0 ∧ Y s - Y b = 0)) (h : gN (X s - X p) (Y s - Y p) ≤ gN (X b - X p) (Y b - Y p)) : gd2 (X b - X p) (Y b - Y p) (X s - X b) (Y s - Y b) < 0 := by
  have e : gN (X s - X p) (Y s - Y p) = gN (X b - X p) (Y b - Y p) + 2 * gd2 (X b - X p) (Y b - Y p) (X s - X b) (Y s - Y b) + gN (X s - X b) (Y s - Y b) := by unfold gN gd2; grind
  have := gN_pos hd
  omega
/-- what lies behind a corner is a corner -/
theorem hNx_co {X Y : Nat → Int} {S : Nat → Prop} {p b : Nat} (hd : ∀ i j, S i → S j → X i = X j → Y i = Y j → i = j) (hp : S p) (h : hNx X Y S p b) : hCo X Y S b := by
  obtain ⟨hb, nb, hl⟩ := h
  have hself : gT X Y p b p = 0 := by unfold gT gC; grind
  have hge : ∀ s, S s → 0 ≤ gT X Y p b s := fun s hs => by
    by_cases q : s = p
    · rw [q, hself]; exact Int.le_refl _
    · rcases hl s hs q with k | k
      · exact Int.le_of_lt k
      · rw [k.1]; exact Int.le_refl _
  have hE : 0 < gN (X b - X p) (Y b - Y p) := gN_pos (fun q => nb (hd b p hb hp (by omega) (by omega)))
  have hne : ∀ s, S s → s ≠ b → ¬ (X s - X b = 0 ∧ Y s - Y b = 0) := fun s hs ns q => ns (hd s b hs hb (by omega) (by omega))
  have hbk : ∀ s, S s → s ≠ b → gT X Y p b s = 0 → gd2 (X b - X p) (Y b - Y p) (X s - X b) (Y s - Y b) < 0 := fun s hs ns h0 => by
    refine h_back (hne s hs ns) ?_
    by_cases q : s = p
    · rw [q, Int.sub_self, Int.sub_self]; unfold gN; simp; exact Int.add_nonneg (g_sq _) (g_sq _)
    · rcases hl s hs q with k | k
      · omega
      · exact k.2
  have hcr : ∀ s, gC (X b - X p) (Y b - Y p) (X s - X b) (Y s - Y b) = gT X Y p b s := fun s => by unfold gT gC; grind
  refine ⟨hb, fun q r hq hr nq nr _ hbt => ?_, fun q r s hq hr hs nq nr ns hw => ?_⟩
  · have e := h_lin (X q - X b) (Y q - Y b) (X r - X b) (Y r - Y b) (- (Y b - Y p)) (X b - X p)
    have h0 : gC (X r - X b) (Y r - Y b) (X q - X b) (Y q - Y b) = 0 := by
      have h2 : gC (X q - X b) (Y q - Y b) (X r - X b) (Y r - Y b) = 0 := hbt.1
      rw [gC_sw]; omega
    rw [h0, Int.zero_mul, Int.add_zero, ← gT_at, ← gT_at] at e
    have g1 := hge q hq
    have g2 := hge r hr
    have hN := gN_pos (hne r hr nr)
    have m1 := Int.mul_nonneg (Int.le_of_lt hN) g1
    have m2 := Int.mul_nonpos_of_nonpos_of_nonneg (Int.le_of_lt hbt.2) g2
    have z1 : gT X Y p b q = 0 := g_pz hN (by omega)
    have z2 : gT X Y p b r = 0 := by
      have m3 : gd2 (X q - X b) (Y q - Y b) (X r - X b) (Y r - Y b) * gT X Y p b r = 0 := by omega
      rcases Int.mul_eq_zero.mp m3 with k | k
      · have := hbt.2; omega
      · exact k
    have b1 := hbk q hq nq z1
    have b2 := hbk r hr nr z2
    have d := h_dd (X b - X p) (Y b - Y p) (X q - X b) (Y q - Y b) (X r - X b) (Y r - Y b)
    rw [hcr q, z1, Int.zero_mul, Int.sub_zero] at d
    have p1 := Int.mul_pos_of_neg_of_neg b1 b2
    have p2 := Int.mul_neg_of_pos_of_neg hE hbt.2
    omega
  · have e := h_bar (X q - X b) (Y q - Y b) (X r - X b) (Y r - Y b) (X s - X b) (Y s - Y b) (- (Y b - Y p)) (X b - X p)
    rw [← gT_at, ← gT_at, ← gT_at] at e
    have a1 : gC (X q - X b) (Y q - Y b) (X r - X b) (Y r - Y b) = gT X Y q r b := (gT_rot X Y b q r).symm
    have a2 : gC (X r - X b) (Y r - Y b) (X s - X b) (Y s - Y b) = gT X Y r s b := (gT_rot X Y b r s).symm
    have a3 : gC (X s - X b) (Y s - Y b) (X q - X b) (Y q - Y b) = gT X Y s q b := (gT_rot X Y b s q).symm
    rw [a1, a2, a3] at e
    have g1 := hge q hq
    have g2 := hge r hr
    have g3 := hge s hs
    have zz : gT X Y p b q = 0 ∧ gT X Y p b r = 0 := by
      rcases hw with ⟨w1, w2, w3⟩ | ⟨w1, w2, w3⟩
      · have m1 := Int.mul_nonneg (Int.le_of_lt w2) g1
        have m2 := Int.mul_nonneg (Int.le_of_lt w3) g2
        have m3 := Int.mul_nonneg (Int.le_of_lt w1) g3
        exact ⟨g_pz w2 (by omega), g_pz w3 (by omega)⟩
      · have m1 := Int.mul_nonpos_of_nonpos_of_nonneg (Int.le_of_lt w2) g1
        have m2 := Int.mul_nonpos_of_nonpos_of_nonneg (Int.le_of_lt w3) g2
        have m3 := Int.mul_nonpos_of_nonpos_of_nonneg (Int.le_of_lt w1) g3
        constructor
        · rcases Int.mul_eq_zero.mp (show gT X Y r s b * gT X Y p b q = 0 by omega) with k | k <;> omega
        · rcases Int.mul_eq_zero.mp (show gT X Y s q b * gT X Y p b r = 0 by omega) with k | k <;> omega
    have c := h_cc (X b - X p) (Y b - Y p) (X q - X b) (Y q - Y b) (X r - X b) (Y r - Y b)
    rw [hcr q, hcr r, zz.1, zz.2, Int.mul_zero, Int.zero_mul, Int.sub_zero, a1] at c
    have c0 := g_pz hE c
    rcases hw with ⟨w1, _, _⟩ | ⟨w1, _, _⟩ <;> omega
theorem h_sq {D A B : Int} (h : D * D = A * B) (hd : 0 < D) (ha : D ≤ A) (hb : D ≤ B) : A = D ∧ B = D := by
  have hA : 0 < A := by omega
  have e : A * (B - D) + D * (A - D) = 0 := by grind
  have m1 := Int.mul_nonneg (Int.le_of_lt hA) (show 0 ≤ B - D by omega)
  have m2 := Int.mul_nonneg (Int.le_of_lt hd) (show 0 ≤ A - D by omega)
  have z1 := g_pz hA (show A * (B - D) = 0 by omega)
  have z2 := g_pz hd (show D * (A - D) = 0 by omega)
  omega
theorem h_lag (ux uy vx vy : Int) : gd2 ux uy vx vy * gd2 ux uy vx vy + gC ux uy vx vy * gC ux uy vx vy = gN ux uy * gN vx vy := by unfold gd2 gC gN; grind
/-- no two corners have the same corner behind them -/
theorem hNx_inj {X Y : Nat → Int} {S : Nat → Prop} {p q b : Nat} (hd : ∀ i j, S i → S j → X i = X j → Y i = Y j → i = j) (cp : hCo X Y S p) (cq : hCo X Y S q) (hp : hNx X Y S p b) (hq : hNx X Y S q b) : p = q := by
  by_cases e : p = q
  · exact e
  exfalso
  obtain ⟨sb, bp, lp⟩ := hp
  obtain ⟨_, bq, lq⟩ := hq
  have sw : gT X Y q b p = - gT X Y p b q := by unfold gT gC; grind
  have k1 := lp q cq.1 (Ne.symm e)
  have k2 := lq p cp.1 e
  have hz : gT X Y p b q = 0 ∧ gN (X q - X p) (Y q - Y p) ≤ gN (X b - X p) (Y b - Y p) ∧ gN (X p - X q) (Y p - Y q) ≤ gN (X b - X q) (Y b - Y q) := by
    rcases k1 with k | k <;> rcases k2 with j | j
    · omega
    · omega
    · omega
    · exact ⟨k.1, k.2, j.2⟩
  obtain ⟨hz, kn, jn⟩ := hz
  have t1 : gT X Y q p b = 0 := by unfold gT gC at hz ⊢; grind
  have t2 : gT X Y p q b = 0 := by unfold gT gC at hz ⊢; grind
  have t3 : gC (X p - X b) (Y p - Y b) (X q - X b) (Y q - Y b) = 0 := by unfold gT gC at hz; unfold gC; grind
  have d1 := cq.2.1 p b cp.1 sb e bq (Ne.symm bp)
  have d2 := cp.2.1 q b cq.1 sb (Ne.symm e) bp (Ne.symm bq)
  have e1 : 0 ≤ gd2 (X p - X q) (Y p - Y q) (X b - X q) (Y b - Y q) := Int.not_lt.mp (fun z => d1 ⟨t1, z⟩)
  have e2 : 0 ≤ gd2 (X q - X p) (Y q - Y p) (X b - X p) (Y b - Y p) := Int.not_lt.mp (fun z => d2 ⟨t2, z⟩)
  have i1 : gd2 (X p - X q) (Y p - Y q) (X b - X q) (Y b - Y q) = gN (X q - X b) (Y q - Y b) - gd2 (X p - X b) (Y p - Y b) (X q - X b) (Y q - Y b) := by unfold gd2 gN; grind
  have i2 : gd2 (X q - X p) (Y q - Y p) (X b - X p) (Y b - Y p) = gN (X p - X b) (Y p - Y b) - gd2 (X p - X b) (Y p - Y b) (X q - X b) (Y q - Y b) := by unfold gd2 gN; grind
  have i3 : gN (X q - X p) (Y q - Y p) = gN (X p - X b) (Y p - Y b) + gN (X q - X b) (Y q - Y b) - 2 * gd2 (X p - X b) (Y p - Y b) (X q - X b) (Y q - Y b) := by unfold gd2 gN; grind
  have i4 : gN (X b - X p) (Y b - Y p) = gN (X p - X b) (Y p - Y b) := by unfold gN; grind
  have hu : 0 < gN (X q - X b) (Y q - Y b) := gN_pos (fun z => bq (hd b q sb cq.1 (by omega) (by omega)))
  have l := h_lag (X p - X b) (Y p - Y b) (X q - X b) (Y q - Y b)
  rw [t3, Int.mul_zero, Int.add_zero] at l
  have r := h_sq l (by omega) (by omega) (by omega)
  have n0 : gN (X q - X p) (Y q - Y p) = 0 := by omega
  have n1 := gN_0 n0
  exact e (hd p q cp.1 cq.1 (by omega) (by omega))
theorem h_pr {a b : Int} (ha : 0 < a) (h : 0 < a * b) : 0 < b := by
  rw [Int.mul_comm] at h
  exact g_pos_of_mul h ha
/-- two others on one line with a corner lie on the same side of it -/
theorem hCo_same {X Y : Nat → Int} {S : Nat → Prop} {p q r : Nat} (hd : ∀ i j, S i → S j → X i = X j → Y i = Y j → i = j) (cp : hCo X Y S p) (hq : S q) (hr : S r) (nq : q ≠ p) (nr : r ≠ p) (h0 : gT X Y p q r = 0) : 0 < gd2 (X q - X p) (Y q - Y p) (X r - X p) (Y r - Y p) := by
  have hu : 0 < gN (X q - X p) (Y q - Y p) := gN_pos (fun z => nq (hd q p hq cp.1 (by omega) (by omega)))
  have hv : 0 < gN (X r - X p) (Y r - Y p) := gN_pos (fun z => nr (hd r p hr cp.1 (by omega) (by omega)))
  by_cases e : q = r
  · subst e
    exact hu
  have hn : 0 ≤ gd2 (X q - X p) (Y q - Y p) (X r - X p) (Y r - Y p) := Int.not_lt.mp (fun z => cp.2.1 q r hq hr nq nr e ⟨h0, z⟩)
  have l := h_lag (X q - X p) (Y q - Y p) (X r - X p) (Y r - Y p)
  have h1 : gC (X q - X p) (Y q - Y p) (X r - X p) (Y r - Y p) = 0 := h0
  rw [h1, Int.mul_zero, Int.add_zero] at l
  have m := Int.mul_pos hu hv
  rcases Int.lt_or_eq_of_le hn with k | k
  · exact k
  · rw [← k, Int.mul_zero] at l
    omega
/-- one step of the search for the corner behind p -/
theorem hNx_step {X Y : Nat → Int} {S T : Nat → Prop} {p b q : Nat} (hd : ∀ i j, S i → S j → X i = X j → Y i = Y j → i = j) (hT : ∀ s, T s → S s) (cp : hCo X Y S p) (h : hNx X Y T p b) (hq : S q) (nq : q ≠ p) (hn : gT X Y p b q < 0 ∨ (gT X Y p b q = 0 ∧ gN (X b - X p) (Y b - Y p) < gN (X q - X p) (Y q - Y p))) : hNx X Y (fun s => T s ∨ s = q) p q := by
  obtain ⟨tb, nb, hl⟩ := h
  have sb := hT b tb
  have hu : 0 < gN (X b - X p) (Y b - Y p) := gN_pos (fun z => nb (hd b p sb cp.1 (by omega) (by omega)))
  have hv : 0 < gN (X q - X p) (Y q - Y p) := gN_pos (fun z => nq (hd q p hq cp.1 (by omega) (by omega)))
  refine ⟨Or.inr rfl, nq, fun s hs ns => ?_⟩
  rcases hs with ts | rfl
  rotate_left
  · exact Or.inr ⟨by unfold gT gC; grind, Int.le_refl _⟩
  have ss := hT s ts
  have c := h_cc (X b - X p) (Y b - Y p) (X q - X p) (Y q - Y p) (X s - X p) (Y s - Y p)
  have a1 : gC (X b - X p) (Y b - Y p) (X q - X p) (Y q - Y p) = gT X Y p b q := rfl
  have a2 : gC (X b - X p) (Y b - Y p) (X s - X p) (Y s - Y p) = gT X Y p b s := rfl
  have a3 : gC (X q - X p) (Y q - Y p) (X s - X p) (Y s - Y p) = gT X Y p q s := rfl
  rw [a1, a2, a3] at c
  rcases hn with n1 | ⟨n1, n2⟩
  · rcases hl s ts ns with k | ⟨k1, k2⟩
    · refine Or.inl ?_
      rcases Int.lt_trichotomy (gT X Y p q s) 0 with z | z | z
      · exfalso
        refine cp.2.2 b q s sb hq ss nb nq ns (Or.inr ⟨?_, ?_, ?_⟩)
        · rw [gT_rot X Y p b q]; exact n1
        · rw [gT_rot X Y p q s]; exact z
        · have : gT X Y s b p = - gT X Y p b s := by unfold gT gC; grind
          omega
      · exfalso
        have g := hCo_same hd cp hq ss nq ns z
        have d := h_cc (X q - X p) (Y q - Y p) (X b - X p) (Y b - Y p) (X s - X p) (Y s - Y p)
        have b1 : gC (X q - X p) (Y q - Y p) (X b - X p) (Y b - Y p) = - gT X Y p b q := by unfold gT gC; grind
        rw [a2, a3, z, b1, Int.mul_zero] at d
        have m1 := Int.mul_pos hv k
        have m2 := Int.mul_pos (show 0 < - gT X Y p b q by omega) g
        omega
      · exact z
    · refine Or.inl ?_
      have g := hCo_same hd cp sb ss nb ns k1
      rw [k1, Int.mul_zero] at c
      have m := Int.mul_neg_of_neg_of_pos n1 g
      exact h_pr hu (by omega)
  · have g := hCo_same hd cp sb hq nb nq n1
    rw [n1, Int.zero_mul, Int.sub_zero] at c
    rcases hl s ts ns with k | ⟨k1, k2⟩
    · have m := Int.mul_pos g k
      exact Or.inl (h_pr hu (by omega))
    · rw [k1, Int.mul_zero] at c
      exact Or.inr ⟨g_pz hu c, by omega⟩
/-- no three corners lie on one line -/
theorem hCo_3 {X Y : Nat → Int} {S : Nat → Prop} {p q r : Nat} (hd : ∀ i j, S i → S j → X i = X j → Y i = Y j → i = j) (cp : hCo X Y S p) (cq : hCo X Y S q) (cr : hCo X Y S r) (pq : p ≠ q) (pr : p ≠ r) (qr : q ≠ r) (h0 : gT X Y p q r = 0) : False := by
  have t1 : gT X Y q p r = 0 := by unfold gT gC at h0 ⊢; grind
  have t2 : gT X Y r p q = 0 := by unfold gT gC at h0 ⊢; grind
  have g0 := hCo_same hd cp cq.1 cr.1 (Ne.symm pq) (Ne.symm pr) h0
  have g1 := hCo_same hd cq cp.1 cr.1 pq (Ne.symm qr) t1
  have g2 := hCo_same hd cr cp.1 cq.1 pr qr t2
  have i1 : gd2 (X p - X q) (Y p - Y q) (X r - X q) (Y r - Y q) = gN (X q - X p) (Y q - Y p) - gd2 (X q - X p) (Y q - Y p) (X r - X p) (Y r - Y p) := by unfold gd2 gN; grind
  have i2 : gd2 (X p - X r) (Y p - Y r) (X q - X r) (Y q - Y r) = gN (X r - X p) (Y r - Y p) - gd2 (X q - X p) (Y q - Y p) (X r - X p) (Y r - Y p) := by unfold gd2 gN; grind
  have l := h_lag (X q - X p) (Y q - Y p) (X r - X p) (Y r - Y p)
  have h1 : gC (X q - X p) (Y q - Y p) (X r - X p) (Y r - Y p) = 0 := h0
  rw [h1, Int.mul_zero, Int.add_zero] at l
  have s := h_sq l g0 (by omega) (by omega)
  omega
/-- a closed way of next corners goes through all corners -/
theorem hRing {X Y : Nat → Int} {S : Nat → Prop} (hd : ∀ i j, S i → S j → X i = X j → Y i = Y j → i = j) {c : Nat → Nat} {m : Nat} (hm : 0 < m) (hc : ∀ i, i < m → hCo X Y S (c i)) (hn : ∀ i, i < m → hNx X Y S (c i) (c (i + 1))) (hz : c m = c 0) (hf : ∀ i, 0 < i → i < m → c i ≠ c 0) {v : Nat} (cv : hCo X Y S v) : ∃ i, i < m ∧ c i = v := by
  apply Classical.byContradiction
  intro hne
  have hv : ∀ i, i < m → c i ≠ v := fun i h q => hne ⟨i, h, q⟩
  have hc' : ∀ i, i ≤ m → hCo X Y S (c i) := fun i h => by
    rcases Nat.lt_or_eq_of_le h with k | k
    · exact hc i k
    · rw [k, hz]; exact hc 0 hm
  have hv' : ∀ i, i ≤ m → c i ≠ v := fun i h => by
    rcases Nat.lt_or_eq_of_le h with k | k
    · exact hv i k
    · rw [k, hz]; exact hv 0 hm
  have pos : ∀ i, i < m → 0 < gT X Y (c i) (c (i + 1)) v := fun i h => by
    rcases (hn i h).2.2 v cv.1 (Ne.symm (hv i h)) with k | k
    · exact k
    · exact (hCo_3 hd (hc i h) (hc' (i + 1) h) cv (Ne.symm (hn i h).2.1) (hv i h) (hv' (i + 1) h) k.1).elim
  have fan : ∀ i, i + 1 < m → 0 < gT X Y (c 0) (c (i + 1)) v := by
    intro i
    induction i with
    | zero => intro h; exact pos 0 hm
    | succ i ih =>
      intro h
      have k := ih (by omega)
      have p := pos (i + 1) (by omega)
      have sw : gT X Y (c (i + 1 + 1)) (c 0) v = - gT X Y (c 0) (c (i + 1 + 1)) v := by unfold gT gC; grind
      rcases Int.lt_trichotomy (gT X Y (c 0) (c (i + 1 + 1)) v) 0 with z | z | z
      · exact (cv.2.2 (c 0) (c (i + 1)) (c (i + 1 + 1)) (hc 0 hm).1 (hc (i + 1) (by omega)).1 (hc (i + 1 + 1) h).1 (hv 0 hm) (hv (i + 1) (by omega)) (hv (i + 1 + 1) h) (Or.inl ⟨k, p, by omega⟩)).elim
      · exact (hCo_3 hd (hc 0 hm) (hc (i + 1 + 1) h) cv (Ne.symm (hf (i + 1 + 1) (by omega) h)) (hv 0 hm) (hv (i + 1 + 1) h) z).elim
      · exact z
  match m, hm with
  | 1, _ =>
    have := (hn 0 (by omega)).2.1
    exact this hz
  | m + 2, _ =>
    have a := fan m (by omega)
    have b := pos (m + 1) (by omega)
    have e : c (m + 1 + 1) = c 0 := hz
    rw [e] at b
    have sw : gT X Y (c (m + 1)) (c 0) v = - gT X Y (c 0) (c (m + 1)) v := by unfold gT gC; grind
    omega
/-- what lies behind p, told by corners alone -/
theorem hNx_strict {X Y : Nat → Int} {S : Nat → Prop} {p b o : Nat} (hd : ∀ i j, S i → S j → X i = X j → Y i = Y j → i = j) (cp : hCo X Y S p) (h : hNx X Y S p b) (co : hCo X Y S o) (np : o ≠ p) (nb : o ≠ b) : 0 < gT X Y p b o := by
  rcases h.2.2 o co.1 np with k | k
  · exact k
  · exact (hCo_3 hd cp (hNx_co hd cp.1 h) co (Ne.symm h.2.1) (Ne.symm np) (Ne.symm nb) k.1).elim
theorem hNx_only {X Y : Nat → Int} {S : Nat → Prop} {p b t : Nat} (hd : ∀ i j, S i → S j → X i = X j → Y i = Y j → i = j) (cp : hCo X Y S p) (h : hNx X Y S p b) (ct : hCo X Y S t) (nt : t ≠ p) (ht : ∀ o, hCo X Y S o → o ≠ p → o ≠ t → 0 < gT X Y p t o) : t = b := by
  by_cases e : t = b
  · exact e
  have a1 := hNx_strict hd cp h ct nt e
  have a2 := ht b (hNx_co hd cp.1 h) h.2.1 (Ne.symm e)
  have sw : gT X Y p b t = - gT X Y p t b := by unfold gT gC; grind
  omega
/-- the first in the order from left to right: from one point alone -/
theorem hNx_one {X Y : Nat → Int} {S : Nat → Prop} {p q : Nat} (hq : S q) (nq : q ≠ p) : hNx X Y (fun s => s = q) p q := by
  refine ⟨rfl, nq, fun s hs _ => ?_⟩
  subst hs
  exact Or.inr ⟨by unfold gT gC; grind, Int.le_refl _⟩
/-- the search goes on: q is no better -/
theorem hNx_stay {X Y : Nat → Int} {T : Nat → Prop} {p b q : Nat} (h : hNx X Y T p b) (hn : ¬ (gT X Y p b q < 0 ∨ (gT X Y p b q = 0 ∧ gN (X b - X p) (Y b - Y p) < gN (X q - X p) (Y q - Y p)))) : hNx X Y (fun s => T s ∨ s = q) p b := by
  obtain ⟨tb, nb, hl⟩ := h
  refine ⟨Or.inl tb, nb, fun s hs ns => ?_⟩
  rcases hs with k | k
  · exact hl s k ns
  · subst k
    have h1 : ¬ gT X Y p b s < 0 := fun z => hn (Or.inl z)
    by_cases z : gT X Y p b s = 0
    · exact Or.inr ⟨z, Int.not_lt.mp (fun w => hn (Or.inr ⟨z, w⟩))⟩
    · exact Or.inl (by omega)
theorem hNx_cong {X Y : Nat → Int} {S T : Nat → Prop} {p b : Nat} (hST : ∀ s, s ≠ p → (S s ↔ T s)) (h : hNx X Y S p b) : hNx X Y T p b := by
  obtain ⟨sb, nb, hl⟩ := h
  exact ⟨(hST b nb).mp sb, nb, fun s hs ns => hl s ((hST s ns).mpr hs) ns⟩
def hIt (f : Nat → Nat) (a : Nat) : Nat → Nat
  | 0 => a
  | i + 1 => f (hIt f a i)
theorem hIt_P {f : Nat → Nat} {a : Nat} {P : Nat → Prop} (ha : P a) (hf : ∀ i, P i → P (f i)) : ∀ i, P (hIt f a i)
  | 0 => ha
  | i + 1 => hf _ (hIt_P ha hf i)
theorem hIt_cancel {f : Nat → Nat} {a : Nat} {P : Nat → Prop} (ha : P a) (hf : ∀ i, P i → P (f i)) (hi : ∀ i j, P i → P j → f i = f j → i = j) (d : Nat) : ∀ i, hIt f a i = hIt f a (i + d) → hIt f a d = a := by
  intro i
  induction i with
  | zero => intro h; rw [Nat.zero_add] at h; exact h.symm
  | succ i ih =>
    intro h
    refine ih (hi _ _ (hIt_P ha hf i) (hIt_P ha hf (i + d)) ?_)
    have e : i + 1 + d = i + d + 1 := by omega
    rw [e] at h
    exact h
/-- going on with a one-to-one step within n places comes back to where it began -/
theorem hOrbit {f : Nat → Nat} {a n : Nat} {P : Nat → Prop} (hP : ∀ i, P i → i < n) (ha : P a) (hf : ∀ i, P i → P (f i)) (hi : ∀ i j, P i → P j → f i = f j → i = j) : ∃ m, 0 < m ∧ m ≤ n ∧ hIt f a m = a ∧ (∀ i, 0 < i → i < m → hIt f a i ≠ a) ∧ ∀ i j, i < j → j < m → hIt f a i ≠ hIt f a j := by
  have first : ∀ k, (∃ m, 0 < m ∧ m ≤ k ∧ hIt f a m = a ∧ ∀ i, 0 < i → i < m → hIt f a i ≠ a) ∨ ∀ m, 0 < m → m ≤ k → hIt f a m ≠ a := by
    intro k
    induction k with
    | zero => exact Or.inr (fun m h1 h2 => by omega)
    | succ k ih =>
      rcases ih with ⟨m, h1, h2, h3, h4⟩ | h
      · exact Or.inl ⟨m, h1, by omega, h3, h4⟩
      · by_cases e : hIt f a (k + 1) = a
        · exact Or.inl ⟨k + 1, by omega, Nat.le_refl _, e, fun i h1 h2 => h i h1 (by omega)⟩
        · refine Or.inr (fun m h1 h2 => ?_)
          rcases Nat.lt_or_eq_of_le h2 with q | q
          · exact h m h1 (by omega)
          · rw [q]; exact e
  rcases first n with ⟨m, h1, h2, h3, h4⟩ | h
  · refine ⟨m, h1, h2, h3, h4, fun i j hij hj q => ?_⟩
    have e : j = i + (j - i) := by omega
    rw [e] at q
    exact h4 (j - i) (by omega) (by omega) (hIt_cancel ha hf hi (j - i) i q)
  · exfalso
    have := g_holes n (n + 1) (hIt f a) (fun i _ => hP _ (hIt_P ha hf i)) (fun i j hij hj q => by
      have e : j = i + (j - i) := by omega
      rw [e] at q
      exact h (j - i) (by omega) (by omega) (hIt_cancel ha hf hi (j - i) i q))
    omega
/-- k is better than b, seen from p -/
abbrev hBetter (X Y : Nat → Int) (p b k : Nat) : Prop := gT X Y p b k < 0 ∨ (gT X Y p b k = 0 ∧ gN (X b - X p) (Y b - Y p) < gN (X k - X p) (Y k - Y p))
/-- the search for the corner behind p -/
def hSc (X Y : Nat → Int) (s : Nat → Bool) (p : Nat) : Nat → Nat
  | 0 => p
  | k + 1 => if s k = true ∧ k ≠ p ∧ hBetter X Y p (hSc X Y s p k) k then k else hSc X Y s p k
theorem hSc_inv {X Y : Nat → Int} {s : Nat → Bool} {p : Nat} (hd : ∀ i j, s i = true → s j = true → X i = X j → Y i = Y j → i = j) (cp : hCo X Y (fun i => s i = true) p) : ∀ k, (hSc X Y s p k = p ∧ ∀ i, i < k → s i = true → i = p) ∨ hNx X Y (fun i => s i = true ∧ i < k) p (hSc X Y s p k) := by
  intro k
  induction k with
  | zero => exact Or.inl ⟨rfl, fun i h => by omega⟩
  | succ k ih =>
    have hs : hSc X Y s p (k + 1) = if s k = true ∧ k ≠ p ∧ hBetter X Y p (hSc X Y s p k) k then k else hSc X Y s p k := rfl
    by_cases hk : s k = true ∧ k ≠ p
    · rcases ih with ⟨e, h⟩ | h
      · have hB : hBetter X Y p (hSc X Y s p k) k := by
          rw [e]
          refine Or.inr ⟨by unfold gT gC; grind, ?_⟩
          have := gN_pos (x := X k - X p) (y := Y k - Y p) (fun z => hk.2 (hd k p hk.1 cp.1 (by omega) (by omega)))
          have z : gN (X p - X p) (Y p - Y p) = 0 := by unfold gN; grind
          omega
        rw [hs, if_pos ⟨hk.1, hk.2, hB⟩]
        refine Or.inr (hNx_cong (S := fun i => i = k) (fun i hi => ?_) (hNx_one rfl hk.2))
        constructor
        · intro q
          have q : i = k := q
          subst q
          exact ⟨hk.1, by omega⟩
        · intro q
          show i = k
          rcases Nat.lt_or_eq_of_le (Nat.le_of_lt_succ q.2) with w | w
          · exact absurd (h i w q.1) hi
          · exact w
      · have cg : ∀ i, i ≠ p → (((s i = true ∧ i < k) ∨ i = k) ↔ (s i = true ∧ i < k + 1)) := fun i _ => by
          constructor
          · intro q
            rcases q with q | q
            · exact ⟨q.1, by omega⟩
            · subst q; exact ⟨hk.1, by omega⟩
          · intro q
            rcases Nat.lt_or_eq_of_le (Nat.le_of_lt_succ q.2) with w | w
            · exact Or.inl ⟨q.1, w⟩
            · exact Or.inr w
        by_cases hB : hBetter X Y p (hSc X Y s p k) k
        · rw [hs, if_pos ⟨hk.1, hk.2, hB⟩]
          exact Or.inr (hNx_cong cg (hNx_step (S := fun i => s i = true) (T := fun i => s i = true ∧ i < k) hd (fun i q => q.1) cp h hk.1 hk.2 hB))
        · rw [hs, if_neg (fun q => hB q.2.2)]
          exact Or.inr (hNx_cong cg (hNx_stay h hB))
    · rw [hs, if_neg (fun q => hk ⟨q.1, q.2.1⟩)]
      rcases ih with ⟨e, h⟩ | h
      · refine Or.inl ⟨e, fun i hi q => ?_⟩
        rcases Nat.lt_or_eq_of_le (Nat.le_of_lt_succ hi) with w | w
        · exact h i w q
        · subst w
          exact Classical.byContradiction (fun z => hk ⟨q, z⟩)
      · refine Or.inr (hNx_cong (fun i hi => ?_) h)
        constructor
        · intro q; exact ⟨q.1, by omega⟩
        · intro q
          rcases Nat.lt_or_eq_of_le (Nat.le_of_lt_succ q.2) with w | w
          · exact ⟨q.1, w⟩
          · subst w; exact absurd ⟨q.1, hi⟩ hk
theorem hSc_nx {X Y : Nat → Int} {s : Nat → Bool} {n p q : Nat} (hn : ∀ i, s i = true → i < n) (hd : ∀ i j, s i = true → s j = true → X i = X j → Y i = Y j → i = j) (cp : hCo X Y (fun i => s i = true) p) (hq : s q = true) (nq : q ≠ p) : hNx X Y (fun i => s i = true) p (hSc X Y s p n) := by
  rcases hSc_inv hd cp n with ⟨_, h⟩ | h
  · exact absurd (h q (hn q hq) hq) nq
  · exact hNx_cong (fun i _ => ⟨fun k => k.1, fun k => ⟨k, hn i k⟩⟩) h
/-- the walk from a corner: it closes within n steps and meets each corner once -/
theorem hWalk {X Y : Nat → Int} {s : Nat → Bool} {n a : Nat} (hn : ∀ i, s i = true → i < n) (hd : ∀ i j, s i = true → s j = true → X i = X j → Y i = Y j → i = j) (ca : hCo X Y (fun i => s i = true) a) : ∃ m, 0 < m ∧ m ≤ n ∧ hIt (fun p => hSc X Y s p n) a m = a ∧ (∀ i, 0 < i → i < m → hIt (fun p => hSc X Y s p n) a i ≠ a) ∧ (∀ i j, i < j → j < m → hIt (fun p => hSc X Y s p n) a i ≠ hIt (fun p => hSc X Y s p n) a j) ∧ (∀ i, hCo X Y (fun i => s i = true) (hIt (fun p => hSc X Y s p n) a i)) ∧ ∀ v, hCo X Y (fun i => s i = true) v → ∃ i, i < m ∧ hIt (fun p => hSc X Y s p n) a i = v := by
  by_cases hq : ∃ q, s q = true ∧ q ≠ a
  · obtain ⟨q, hq, nq⟩ := hq
    have nx : ∀ p, hCo X Y (fun i => s i = true) p → hNx X Y (fun i => s i = true) p (hSc X Y s p n) := fun p cp => by
      by_cases e : q = p
      · exact hSc_nx hn hd cp ca.1 (fun z => nq (e.trans z.symm))
      · exact hSc_nx hn hd cp hq e
    have hf : ∀ p, hCo X Y (fun i => s i = true) p → hCo X Y (fun i => s i = true) (hSc X Y s p n) := fun p cp => hNx_co hd cp.1 (nx p cp)
    have hi : ∀ p r, hCo X Y (fun i => s i = true) p → hCo X Y (fun i => s i = true) r → hSc X Y s p n = hSc X Y s r n → p = r := fun p r cp cr e => hNx_inj hd cp cr (nx p cp) (by rw [e]; exact nx r cr)
    obtain ⟨m, h1, h2, h3, h4, h5⟩ := hOrbit (f := fun p => hSc X Y s p n) (P := hCo X Y (fun i => s i = true)) (fun i c => hn i c.1) ca hf hi
    have hc := fun i => hIt_P (f := fun p => hSc X Y s p n) (P := hCo X Y (fun i => s i = true)) ca hf i
    exact ⟨m, h1, h2, h3, h4, h5, hc, fun v cv => hRing hd h1 (fun i _ => hc i) (fun i _ => nx _ (hc i)) h3 h4 cv⟩
  · have al : ∀ i, s i = true → i = a := fun i h => Classical.byContradiction (fun z => hq ⟨i, h, z⟩)
    have fa : hSc X Y s a n = a := by
      rcases hSc_inv hd ca n with ⟨e, _⟩ | h
      · exact e
      · exact absurd (al _ h.1.1) h.2.1
    have fi : ∀ i, hIt (fun p => hSc X Y s p n) a i = a := fun i => by
      induction i with
      | zero => rfl
      | succ i ih => show hSc X Y s (hIt (fun p => hSc X Y s p n) a i) n = a; rw [ih]; exact fa
    have := hn a ca.1
    exact ⟨1, by omega, by omega, fi 1, fun i h1 h2 => by omega, fun i j h1 h2 => by omega, fun i => by rw [fi i]; exact ca, fun v cv => ⟨0, by omega, (al v cv.1).symm⟩⟩
