section
/-! take, undo, flip, mend -/
theorem g_quad_id (px py qx qy dx dy : Int) : gC dx dy qx qy * gC px py dx dy * gN (px - qx) (py - qy) = gC px py qx qy * gG px py qx qy dx dy + (gC dx dy qx qy + gC px py dx dy - gC px py qx qy) * (gG px py qx qy dx dy + gC px py qx qy * gN dx dy) := by unfold gG gN gC; grind
theorem g_quad0 {px py qx qy dx dy : Int} (hk : 0 < gC px py qx qy) (hg : 0 < gG px py qx qy dx dy) (hc : gC px py qx qy - gC dx dy qx qy - gC px py dx dy < 0) : 0 < gC dx dy qx qy ∧ 0 < gC px py dx dy := by
  have id1 := g_quad_id px py qx qy dx dy
  have nW := gN_nn (px - qx) (py - qy)
  have nd := gN_nn dx dy
  have m1 := Int.mul_pos hk hg
  have m2 := Int.mul_nonneg (Int.le_of_lt hk) nd
  have m3 := Int.mul_pos (show 0 < gC dx dy qx qy + gC px py dx dy - gC px py qx qy by omega) (show 0 < gG px py qx qy dx dy + gC px py qx qy * gN dx dy by omega)
  have m4 : 0 < gC dx dy qx qy * gC px py dx dy * gN (px - qx) (py - qy) := by omega
  have m5 : 0 < gC dx dy qx qy * gC px py dx dy := by
    refine Classical.byContradiction fun z => ?_
    have := Int.mul_nonpos_of_nonpos_of_nonneg (show gC dx dy qx qy * gC px py dx dy ≤ 0 by omega) nW
    omega
  generalize gC dx dy qx qy = a at *
  generalize gC px py dx dy = b at *
  rcases Int.lt_trichotomy a 0 with z | z | z
  · have : 0 < b := by omega
    have := Int.mul_neg_of_neg_of_pos z this
    omega
  · subst z; rw [Int.zero_mul] at m5; omega
  · refine ⟨z, Classical.byContradiction fun y => ?_⟩
    have := Int.mul_nonpos_of_nonneg_of_nonpos (Int.le_of_lt z) (show b ≤ 0 by omega)
    omega
theorem g_quad {X Y : Nat → Int} {p q c d : Nat} (h1 : 0 < gT X Y p q c) (h2 : gT X Y p q d < 0) (h3 : 0 < gI X Y p q c (X d) (Y d)) : gT X Y c d p * gT X Y c d q < 0 := by
  have e1 : gT X Y c p q = gT X Y p q c := by rw [← gT_rot X Y c p q]
  have e2 : gI X Y p q c (X d) (Y d) = gP X Y c p q d * gT X Y c p q := by rw [← gI_P]; rw [gI_rot X Y c p q]
  rw [e2, e1] at h3
  have h4 := g_pos_of_mul h3 h1
  have e3 := gT_chord X Y c p q d
  rw [e3] at h2
  have h5 : 0 < gC (X p - X c) (Y p - Y c) (X q - X c) (Y q - Y c) := by rw [← e1] at h1; exact h1
  obtain ⟨a, b⟩ := g_quad0 h5 h4 (by omega)
  have e4 : gT X Y c d q = gC (X d - X c) (Y d - Y c) (X q - X c) (Y q - Y c) := rfl
  have e5 : gT X Y c d p = - gC (X p - X c) (Y p - Y c) (X d - X c) (Y d - Y c) := by rw [← gC_sw]; rfl
  rw [e4, e5, Int.neg_mul]
  have := Int.mul_pos b a
  omega
theorem gBad_ref {n m : Nat} {X Y : Nat → Int} {T : Nat → Nat} (hd : gDr n X Y m T) (hn : n ≤ 20) {p q : Nat} (hp : p < 20) (hq : q < 20) (h : gBad X Y m T p q = true) : gRef X Y m T p q = 0 := by
  obtain ⟨h2, h3⟩ := of_decide_eq_true h
  obtain ⟨g1, g2, g3, g4, g5, -, -⟩ := gE_two h2
  obtain ⟨s1, s2, s3⟩ := gDr_side hd hn hp hq g3 g4 (by omega)
  have key : gT X Y (gE1 m T p q) (gE2 m T p q) p * gT X Y (gE1 m T p q) (gE2 m T p q) q < 0 := by
    generalize gE1 m T p q = c at *
    generalize gE2 m T p q = d at *
    rcases Int.lt_trichotomy (gT X Y p q c) 0 with z | z | z
    · have y := s3 z
      rw [Int.mul_comm]
      refine g_quad (by rw [gT_sw2]; omega) (by rw [gT_sw2]; omega) ?_
      rw [gI_pm (X := X) (Y := Y) (show gPm p q c q p c from Or.inr (Or.inr (Or.inr (Or.inr (Or.inr ⟨rfl, rfl, rfl⟩)))))]
      exact h3
    · exact absurd z s1
    · exact g_quad z (s2 z) h3
  unfold gRef
  rw [if_neg (by omega), if_pos h2, if_pos key]
/-! the row of drawings that mending goes through -/
noncomputable def mT (n : Nat) (X Y : Nat → Int) (m : Nat) (T : Nat → Nat) : Nat → (Nat → Nat)
  | 0 => T
  | i + 1 => Classical.epsilon (fun T' => ∃ p q : Nat, p < q ∧ q < n ∧ gFB n X Y m (mT n X Y m T i) (100 * (p : Int) + q) ∧ gFl n m (mT n X Y m T i) T' p q)
theorem gFl_T {n m : Nat} {T T' T'' : Nat → Nat} {p q : Nat} (h : gFl n m T T' p q) (hv : tV n m T'') (e : ∀ i, i < m → T'' i = T' i) : gFl n m T T'' p q := by
  refine ⟨hv, fun x => ?_⟩
  rw [← h.2 x]
  constructor
  · rintro ⟨i, hi, z⟩; exact ⟨i, hi, by rw [← e i hi]; exact z⟩
  · rintro ⟨i, hi, z⟩; exact ⟨i, hi, by rw [e i hi]; exact z⟩
theorem mT_s {n m : Nat} {X Y : Nat → Int} {T T' : Nat → Nat} {i p q : Nat} (hn : n ≤ 20) (hp : p < q) (hq : q < n) (hb : gFB n X Y m (mT n X Y m T i) (100 * (p : Int) + q)) (hf : gFl n m (mT n X Y m T i) T' p q) : ∀ t, t < m → T' t = mT n X Y m T (i + 1) t := by
  have ex : ∃ T' : Nat → Nat, ∃ p q : Nat, p < q ∧ q < n ∧ gFB n X Y m (mT n X Y m T i) (100 * (p : Int) + q) ∧ gFl n m (mT n X Y m T i) T' p q := ⟨T', p, q, hp, hq, hb, hf⟩
  obtain ⟨p', q', h1, h2, h3, h4⟩ := Classical.epsilon_spec ex
  have e := gFB_eq hb h3
  have ep : p' = p := by omega
  have eq : q' = q := by omega
  subst ep eq
  exact gFl_eq hf h4
theorem gDr_T {n m : Nat} {X Y : Nat → Int} {T T' : Nat → Nat} (h : gDr n X Y m T) (e : ∀ i, i < m → T i = T' i) : gDr n X Y m T' := by
  refine ⟨⟨fun i j h1 h2 => by rw [← e i (by omega), ← e j h2]; exact h.1.1 i j h1 h2, fun i hi => by rw [← e i hi]; exact h.1.2 i hi⟩, gInv_sub h.2 (fun t ⟨i, hi, z⟩ => ⟨i, hi, by rw [e i hi]; exact z⟩)⟩
theorem eT_cg {m : Nat} {T T' : Nat → Nat} (e : ∀ i, i < m → T i = T' i) (p q r : Nat) : eT m T p q r = eT m T' p q r := by
  unfold eT
  refine decide_eq_decide.mpr ⟨?_, ?_⟩
  · rintro ⟨a, b, i, hi, z⟩; exact ⟨a, b, i, hi, by rw [← e i hi]; exact z⟩
  · rintro ⟨a, b, i, hi, z⟩; exact ⟨a, b, i, hi, by rw [e i hi]; exact z⟩
theorem gBad_cg {m : Nat} {X Y : Nat → Int} {T T' : Nat → Nat} (e : ∀ i, i < m → T i = T' i) (p q : Nat) : gBad X Y m T p q = gBad X Y m T' p q := by
  have e1 : eT m T p q = eT m T' p q := funext (fun r => eT_cg e p q r)
  unfold gBad eN gE2 gE1
  rw [e1]
theorem gFB_cg {n m : Nat} {X Y : Nat → Int} {T T' : Nat → Nat} (e : ∀ i, i < m → T i = T' i) {z : Int} (h : gFB n X Y m T z) : gFB n X Y m T' z := by
  have eb : ∀ p q, gBad X Y m T p q = gBad X Y m T' p q := gBad_cg e
  unfold gFB at *
  simp only [eb] at h
  exact h
end
