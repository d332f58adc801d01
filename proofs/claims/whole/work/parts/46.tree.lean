/-! the least tree, as the class and as the reference find it -/
def gD (X Y : Nat → Int) (p q : Nat) : Int := gN (X p - X q) (Y p - Y q)
theorem gD_sy (X Y : Nat → Int) (p q : Nat) : gD X Y p q = gD X Y q p := by unfold gD gN; grind
def gW (X Y : Nat → Int) (p q : Nat) : Nat := (gD X Y p q).toNat
/-- the first k of a least tree, the set that they are, the sum -/
def gPre (n : Nat) (X Y : Nat → Int) (k : Nat) (s : Nat → Bool) (S : Int) : Prop := ∃ v wt : Nat → Nat, (∀ i, i < k → v i < n) ∧ (∀ i j, i < j → j < k → v i ≠ v j) ∧
  (∀ i, 1 ≤ i → i < k → (∃ j, j < i ∧ gW X Y (v j) (v i) = wt i) ∧ ∀ j, j < i → ∀ q, q < n → (∀ l, l < i → v l ≠ q) → wt i ≤ gW X Y (v j) q) ∧
  (∀ p, s p = true ↔ ∃ i, i < k ∧ v i = p) ∧ S = (gsm wt k : Int) ∧ wt 0 = 0 ∧ ∀ i, wt i ≤ 80000
theorem gsm_s (f : Nat → Nat) (n : Nat) : gsm f (n + 1) = gsm f n + f n := rfl
theorem gPre_1 {n : Nat} {X Y : Nat → Int} (hn : 0 < n) : gPre n X Y 1 (fun p => decide (p = 0)) 0 := by
  refine ⟨fun _ => 0, fun _ => 0, fun i _ => hn, fun i j h1 h2 => by omega, fun i h1 h2 => by omega, fun p => ?_, by rw [gsm_s]; rfl, rfl, fun i => Nat.zero_le 80000⟩
  rw [decide_eq_true_iff]
  exact ⟨fun e => ⟨0, by omega, e.symm⟩, fun ⟨i, _, e⟩ => e.symm⟩
theorem gPre_st {n : Nat} {X Y : Nat → Int} {k : Nat} {s : Nat → Bool} {S : Int} (h : gPre n X Y k s S) (hk : 1 ≤ k) {p : Nat} {g : Int} (hp : p < n) (hs : s p = false) (hg : 0 ≤ g ∧ g ≤ 80000) (h1 : ∃ q, q < n ∧ s q = true ∧ g = gD X Y p q) (h2 : ∀ p', p' < n → s p' = false → ∀ q, q < n → s q = true → g ≤ gD X Y p' q) : gPre n X Y (k + 1) (fun i => s i || decide (i = p)) (S + g) := by
  obtain ⟨v, wt, a1, a2, a3, a4, a5, a6, a7⟩ := h
  have np : ∀ i, i < k → v i ≠ p := fun i hi e => by
    have := (a4 p).mpr ⟨i, hi, e⟩
    rw [hs] at this; cases this
  have ev : ∀ i, i < k → (fun i => if i = k then p else v i) i = v i := fun i hi => if_neg (by omega)
  have ew : ∀ i, i < k → (fun i => if i = k then g.toNat else wt i) i = wt i := fun i hi => if_neg (by omega)
  refine ⟨fun i => if i = k then p else v i, fun i => if i = k then g.toNat else wt i, fun i hi => ?_, fun i j hij hj => ?_, fun i hi1 hi => ?_, fun q => ?_, ?_, ?_, fun i => ?_⟩
  · by_cases e : i = k
    · simp only [if_pos e]; exact hp
    · simp only [if_neg e]; exact a1 i (by omega)
  · by_cases e : j = k
    · simp only [if_pos e, if_neg (show ¬ i = k by omega)]; exact np i (by omega)
    · simp only [if_neg e, if_neg (show ¬ i = k by omega)]; exact a2 i j hij (by omega)
  · by_cases e : i = k
    · subst e
      simp only [eq_self, if_true]
      obtain ⟨q, hq, sq, eg⟩ := h1
      obtain ⟨l, hl, el⟩ := (a4 q).mp sq
      refine ⟨⟨l, hl, ?_⟩, fun j hj q' hq' hn => ?_⟩
      · simp only [if_neg (show ¬ l = i by omega)]
        rw [el]; unfold gW; rw [gD_sy, ← eg]
      · simp only [if_neg (show ¬ j = i by omega)]
        have s1 : s q' = false := by
          cases hq2 : s q' with
          | false => rfl
          | true =>
            obtain ⟨l2, hl2, el2⟩ := (a4 q').mp hq2
            have := hn l2 hl2
            simp only [if_neg (show ¬ l2 = i by omega)] at this
            exact absurd el2 this
        have := h2 q' hq' s1 (v j) (a1 j hj) ((a4 _).mpr ⟨j, hj, rfl⟩)
        unfold gW
        rw [gD_sy]
        omega
    · simp only [if_neg e]
      obtain ⟨⟨l, hl, el⟩, b2⟩ := a3 i hi1 (by omega)
      refine ⟨⟨l, hl, ?_⟩, fun j hj q hq hn => ?_⟩
      · simp only [if_neg (show ¬ l = k by omega)]; exact el
      · simp only [if_neg (show ¬ j = k by omega)]
        exact b2 j hj q hq (fun l hl => by have := hn l hl; simp only [if_neg (show ¬ l = k by omega)] at this; exact this)
  · simp only [Bool.or_eq_true, decide_eq_true_iff]
    constructor
    · rintro (e | e)
      · obtain ⟨i, hi, ei⟩ := (a4 q).mp e
        exact ⟨i, by omega, by rw [if_neg (by omega)]; exact ei⟩
      · exact ⟨k, by omega, by rw [if_pos rfl]; exact e.symm⟩
    · rintro ⟨i, hi, ei⟩
      by_cases e : i = k
      · rw [if_pos e] at ei; exact Or.inr ei.symm
      · rw [if_neg e] at ei; exact Or.inl ((a4 q).mpr ⟨i, by omega, ei⟩)
  · rw [gsm_s, gsm_cong (g := wt) (fun i hi => if_neg (by omega)), if_pos rfl, a5]
    omega
  · show (if 0 = k then g.toNat else wt 0) = 0
    rw [if_neg (by omega)]; exact a6
  · show (if i = k then g.toNat else wt i) ≤ 80000
    have := a7 i
    split <;> omega
/-- of a part that isn't all there is one that isn't in it -/
theorem gPre_ex {n : Nat} {X Y : Nat → Int} {k : Nat} {s : Nat → Bool} {S : Int} (h : gPre n X Y k s S) (hk : k < n) : ∃ p, p < n ∧ s p = false := by
  obtain ⟨v, wt, a1, a2, a3, a4, -⟩ := h
  refine Classical.byContradiction fun hx => ?_
  have hall : ∀ p, p < n → ∃ i, i < k ∧ v i = p := fun p hp => (a4 p).mp (by
    cases e : s p with
    | true => rfl
    | false => exact absurd ⟨p, hp, e⟩ hx)
  have := g_holes k n (fun p => if hp : p < n then Classical.choose (hall p hp) else 0) (fun p hp => by
    simp only [dif_pos hp]; exact (Classical.choose_spec (hall p hp)).1) (fun p q hpq hq e => by
    simp only [dif_pos hq, dif_pos (show p < n by omega)] at e
    have e1 := (Classical.choose_spec (hall p (by omega))).2
    have e2 := (Classical.choose_spec (hall q hq)).2
    rw [e] at e1
    omega)
  omega
theorem gPre_eq {n : Nat} {X Y : Nat → Int} {s s' : Nat → Bool} {S S' : Int} (hn : 0 < n) (h : gPre n X Y n s S) (h' : gPre n X Y n s' S') : S = S' := by
  obtain ⟨v, wt, a1, a2, a3, a4, a5, a6, a7⟩ := h
  obtain ⟨v', wt', b1, b2, b3, b4, b5, b6, b7⟩ := h'
  have := gPrim_sum (w := gW X Y) (B := 80000) (fun a b => by unfold gW; rw [gD_sy]) (v := v) (wt := wt) (v' := v') (wt' := wt') ⟨a1, a2, a3⟩ ⟨b1, b2, b3⟩ hn a7 b7 a6 b6
  omega
theorem gPre_S {n : Nat} {X Y : Nat → Int} {k : Nat} {s : Nat → Bool} {S : Int} (h : gPre n X Y k s S) : 0 ≤ S ∧ S ≤ 80000 * k := by
  obtain ⟨v, wt, -, -, -, -, a5, -, a7⟩ := h
  subst a5
  have : ∀ k, gsm wt k ≤ 80000 * k := fun k => by
    induction k with
    | zero => exact Nat.le_refl _
    | succ k ih => rw [gsm_s]; have := a7 k; omega
  have := this k
  omega
section LT
variable {P v n : Nat} {M : fm_Mem} {X Y : Nat → Int}
theorem gD_bd (hb : gbd n X Y) {p q : Nat} (hp : p < n) (hq : q < n) : 0 ≤ gD X Y p q ∧ gD X Y p q ≤ 80000 := gN_bd hb hp hq
def gGap (X Y : Nat → Int) (s : Nat → Bool) (p i : Nat) (g : Int) : Prop := -1 ≤ g ∧ g ≤ 80000 ∧ (g = -1 → ∀ q, q < i → s q = false) ∧ (g ≠ -1 → (∃ q, q < i ∧ s q = true ∧ g = gD X Y p q) ∧ ∀ q, q < i → s q = true → g ≤ gD X Y p q)
theorem k_gap (h : cpt P M n X Y) (hb : gbd n X Y) {s : Nat → Bool} {p : Nat} (hp : p < n) : pW (f_X3_gapTo P (bS s) (iI p) M) (fun r => ∃ g, r = iI g ∧ gGap X Y s p n g) := by
  have hn := h.2.1
  unfold f_X3_gapTo
  rw [iI_m1, iI_0]
  refine pW_lp (fun u i (g : Int) => f_X3_gapTo_5 P (bS s) (iI p) u (iI g) (iI i) M) (fun i g => gGap X Y s p i g) n ?_ fm_fuel 0 (-1) ⟨by omega, by omega, fun _ q hq => absurd hq (Nat.not_lt_zero q), fun e => absurd rfl e⟩ (Nat.zero_le _) (by unfold fm_fuel; omega)
  intro u i g hi hI k
  obtain ⟨g1, g2, g3, g4⟩ := hI
  rw [f_X3_gapTo_5, h.1]
  have hi32 : i < 32 := by omega
  simp (disch := omega) only [iI_le, f_X3_gapTo_46, f_X3_gapTo_38, iI_s, bS_tst s hi32]
  refine pW_if (fun q => ?_) (fun q => ?_)
  · have e : i = n := by omega
    subst e
    exact pW_some ⟨g, rfl, g1, g2, g3, g4⟩
  · have hin : i < n := by omega
    have bd := gD_bd hb hp hin
    simp (disch := omega) only [iI_0, iI_lt, k_dist h hp hin, bd_s]
    rw [show gN (X p - X i) (Y p - Y i) = gD X Y p i from rfl]
    simp (disch := omega) only [iI_le]
    have st : gGap X Y s p i g → s i = false → gGap X Y s p (i + 1) g := fun z e => by
      obtain ⟨z1, z2, z3, z4⟩ := z
      refine ⟨z1, z2, fun c q hq => ?_, fun c => ?_⟩
      · by_cases qi : q = i
        · rw [qi]; exact e
        · exact z3 c q (by omega)
      · obtain ⟨⟨q, hq, q1, q2⟩, q3⟩ := z4 c
        refine ⟨⟨q, by omega, q1, q2⟩, fun q hq sq => ?_⟩
        by_cases qi : q = i
        · rw [qi, e] at sq; cases sq
        · exact q3 q (by omega) sq
    refine pW_if (fun q1 => k g hin (st ⟨g1, g2, g3, g4⟩ q1)) (fun q1 => ?_)
    have si : s i = true := by cases e : s i with | true => rfl | false => exact absurd e q1
    refine pW_if (fun q2 => ?_) (fun q2 => pW_if (fun q3 => ?_) (fun q3 => ?_))
    · have g0 : g = -1 := by omega
      refine k _ hin ⟨by omega, by omega, fun c => by omega, fun _ => ⟨⟨i, by omega, si, rfl⟩, fun q hq sq => ?_⟩⟩
      by_cases qi : q = i
      · rw [qi]; exact Int.le_refl _
      · have := g3 g0 q (by omega); rw [sq] at this; cases this
    · obtain ⟨⟨q, hq, z1, z2⟩, z3⟩ := g4 (by omega)
      refine k g hin ⟨g1, g2, fun c => by omega, fun _ => ⟨⟨q, by omega, z1, z2⟩, fun q hq sq => ?_⟩⟩
      by_cases qi : q = i
      · rw [qi]; exact q3
      · exact z3 q (by omega) sq
    · obtain ⟨-, z3⟩ := g4 (by omega)
      refine k _ hin ⟨by omega, by omega, fun c => by omega, fun _ => ⟨⟨i, by omega, si, rfl⟩, fun q hq sq => ?_⟩⟩
      by_cases qi : q = i
      · rw [qi]; exact Int.le_refl _
      · have := z3 q (by omega) sq; omega
/-- the best point outside of s among the first i, and its distance -/
def gBest (n : Nat) (X Y : Nat → Int) (s : Nat → Bool) (i : Nat) (b g : Int) : Prop := 0 ≤ g ∧ g ≤ 80000 ∧ -1 ≤ b ∧ b < n ∧ (b = -1 → ∀ p, p < i → s p = true) ∧ (b ≠ -1 → s b.toNat = false ∧ (∃ q, q < n ∧ s q = true ∧ g = gD X Y b.toNat q) ∧ ∀ p, p < i → s p = false → ∀ q, q < n → s q = true → g ≤ gD X Y p q)
theorem k_tree (h : cpt P M n X Y) (hb : gbd n X Y) : pW (f_X3_leastTree P M) (fun r => ∃ S, r = iL S ∧ (n = 0 → S = 0) ∧ (0 < n → ∃ s, gPre n X Y n s S)) := by
  have hn := h.2.1
  unfold f_X3_leastTree
  rw [iL_0, iI_1]
  by_cases n0 : n = 0
  · subst n0
    rw [show fm_fuel = 4999 + 1 from rfl, f_X3_leastTree_7, h.1]
    simp (disch := omega) only [iI_le]
    rw [if_pos (by omega)]
    exact pW_some ⟨0, rfl, fun _ => rfl, fun c => absurd c (Nat.lt_irrefl 0)⟩
  have e1 : iI 1 = bS (fun p => decide (p = 0)) := by rw [← iI_1]; exact b_ext (fun i hi => by rw [b_1 i hi, b_S _ hi])
  have hl := pW_lp (Q := fun r => ∃ S, r = iL S ∧ (n = 0 → S = 0) ∧ (0 < n → ∃ s, gPre n X Y n s S)) (fun u i (z : Int × (Nat → Bool)) => f_X3_leastTree_7 P u (iL z.1) (bS z.2) (iI i) M) (fun i z => 1 ≤ i ∧ gPre n X Y i z.2 z.1) n ?_ fm_fuel 1 (0, fun p => decide (p = 0)) ⟨by omega, gPre_1 (by omega)⟩ (by omega) (by unfold fm_fuel; omega)
  · dsimp only at hl
    rw [← e1] at hl
    exact hl
  intro u i z hi hI k
  obtain ⟨S, s⟩ := z
  obtain ⟨hi1, hG⟩ := hI
  dsimp only at hG k ⊢
  have hS := gPre_S hG
  rw [f_X3_leastTree_7, h.1]
  simp (disch := omega) only [iI_le]
  refine pW_if (fun q => ?_) (fun q => ?_)
  · have e : i = n := by omega
    subst e
    exact pW_some ⟨S, rfl, fun c => by omega, fun _ => ⟨s, hG⟩⟩
  · have hin : i < n := by omega
    rw [iI_m1, iI_0]
    refine pW_lp (fun w j (z : Int × Int) => f_X3_leastTree_25 P (fun x1 x3 x4 M => f_X3_leastTree_7 P u x1 x3 x4 M) w (iL S) (bS s) (iI i) (iI z.1) (iI z.2) (iI j) M) (fun j z => gBest n X Y s j z.1 z.2) n ?_ fm_fuel 0 (-1, 0) ⟨by omega, by omega, by omega, by omega, fun _ p hp => absurd hp (Nat.not_lt_zero p), fun c => absurd rfl c⟩ (Nat.zero_le _) (by unfold fm_fuel; omega)
    intro w j z hj hJ kk
    obtain ⟨b, g⟩ := z
    dsimp only at hJ kk ⊢
    obtain ⟨c1, c2, c3, c4, c5, c6⟩ := hJ
    have hj32 : j < 32 := by omega
    rw [f_X3_leastTree_25, h.1]
    simp (disch := omega) only [iI_le, f_X3_leastTree_101, f_X3_leastTree_54, f_X3_leastTree_73, f_X3_leastTree_81, iI_s, bS_tst s hj32]
    refine pW_if (fun q1 => ?_) (fun q1 => ?_)
    · have ej : j = n := by omega
      subst ej
      obtain ⟨p0, hp0, sp0⟩ := gPre_ex hG hin
      have bn : b ≠ -1 := fun c => by have := c5 c p0 hp0; rw [sp0] at this; cases this
      obtain ⟨d1, d2, d3⟩ := c6 bn
      obtain ⟨b', rfl⟩ : ∃ b' : Nat, b = b' := ⟨b.toNat, by omega⟩
      rw [Int.toNat_natCast] at d1 d2
      rw [if_pos (by rw [iI_0, iI_le (by omega) (by omega)]; omega), bS_or1 s (by omega), iL_i (by omega), iL_add]
      exact k (S + g, fun i => s i || decide (i = b')) hin ⟨by omega, gPre_st hG hi1 (by omega) d1 ⟨c1, c2⟩ d2 d3⟩
    · have hjn : j < n := by omega
      have skip : s j = true → gBest n X Y s (j + 1) b g := fun e => ⟨c1, c2, c3, c4, fun c p hp => by
          by_cases pj : p = j
          · rw [pj]; exact e
          · exact c5 c p (by omega), fun c => by
          obtain ⟨d1, d2, d3⟩ := c6 c
          refine ⟨d1, d2, fun p hp sp => ?_⟩
          by_cases pj : p = j
          · rw [pj, e] at sp; cases sp
          · exact d3 p (by omega) sp⟩
      refine pW_if (fun q2 => ?_) (fun q2 => ?_)
      · obtain ⟨r, er, t, et, ht⟩ := k_gap h hb (s := s) hjn
        subst et
        rw [er, bd_s]
        obtain ⟨t1, t2, t3, t4⟩ := ht
        obtain ⟨a, ha, sa⟩ : ∃ a, a < n ∧ s a = true := by
          obtain ⟨v', wt, a1, -, -, a4, -⟩ := hG
          exact ⟨v' 0, a1 0 (by omega), (a4 _).mpr ⟨0, by omega, rfl⟩⟩
        have tn : t ≠ -1 := fun c => by have := t3 c a ha; rw [sa] at this; cases this
        obtain ⟨t5, t6⟩ := t4 tn
        simp (disch := omega) only [iI_0, iI_lt, iI_le]
        have take : (b = -1 ∨ t < g) → gBest n X Y s (j + 1) j t := fun c => ⟨by omega, t2, by omega, by omega, fun z => by omega, fun _ => by
          rw [Int.toNat_natCast]
          refine ⟨q2, t5, fun p hp sp q hq sq => ?_⟩
          by_cases pj : p = j
          · rw [pj]; exact t6 q hq sq
          · by_cases bb : b = -1
            · have := c5 bb p (by omega); rw [sp] at this; cases this
            · have := (c6 bb).2.2 p (by omega) sp q hq sq
              omega⟩
        refine pW_if (fun q3 => absurd q3 (by omega)) (fun q3 => pW_if (fun q4 => ?_) (fun q4 => pW_if (fun q5 => ?_) (fun q5 => ?_)))
        · exact kk (j, t) hjn (take (Or.inl (by omega)))
        · refine kk (b, g) hjn ⟨c1, c2, c3, c4, fun c => by omega, fun c => ?_⟩
          obtain ⟨d1, d2, d3⟩ := c6 c
          refine ⟨d1, d2, fun p hp sp q hq sq => ?_⟩
          by_cases pj : p = j
          · rw [pj]; have := t6 q hq sq; omega
          · exact d3 p (by omega) sp q hq sq
        · exact kk (j, t) hjn (take (Or.inr (by omega)))
      · have sj : s j = true := by cases e : s j with | true => rfl | false => exact absurd e q2
        simp (disch := omega) only [iI_0, iI_m1, iI_lt, iI_le]
        rw [if_pos (by omega)]
        exact kk (b, g) hjn (skip sj)
theorem r_isOf (s : Nat → Bool) {p : Nat} (hp : p < 32) : f_X7_isOf (bS s) (iI p) M = some (if s p then 1 else 0) := by
  simp only [f_X7_isOf, f_X7_isOf_14, bS_tst1 s hp, bo_0, bo_1, ck_t]
  cases s p <;> rfl
/-- the best pair among those before (i, j) -/
def gBst2 (n : Nat) (X Y : Nat → Int) (s : Nat → Bool) (i j : Nat) (b g : Int) : Prop := 0 ≤ g ∧ g ≤ 80000 ∧ -1 ≤ b ∧ b < n ∧ (b = -1 → ∀ p q, (p < i ∨ (p = i ∧ q < j)) → p < n → q < n → s p = true → s q = true) ∧ (b ≠ -1 → s b.toNat = false ∧ (∃ q, q < n ∧ s q = true ∧ g = gD X Y b.toNat q) ∧ ∀ p q, (p < i ∨ (p = i ∧ q < j)) → p < n → q < n → s p = true → s q = false → g ≤ gD X Y p q)
theorem r_tree (h : rpt P M v n X Y) (hb : gbd n X Y) : pW (f_X7_treeOf P M) (fun r => ∃ S, r = iL S ∧ (n = 0 → S = 0) ∧ (0 < n → ∃ s, gPre n X Y n s S)) := by
  have hn := h.2.1
  unfold f_X7_treeOf
  rw [iL_0, iI_1]
  by_cases n0 : n = 0
  · subst n0
    rw [show fm_fuel = 4999 + 1 from rfl, f_X7_treeOf_7, r_points h, bd_s]
    simp (disch := omega) only [iI_le]
    rw [if_pos (by omega)]
    exact pW_some ⟨0, rfl, fun _ => rfl, fun c => absurd c (Nat.lt_irrefl 0)⟩
  have e1 : iI 1 = bS (fun p => decide (p = 0)) := by rw [← iI_1]; exact b_ext (fun i hi => by rw [b_1 i hi, b_S _ hi])
  have hl := pW_lp (Q := fun r => ∃ S, r = iL S ∧ (n = 0 → S = 0) ∧ (0 < n → ∃ s, gPre n X Y n s S)) (fun u i (z : Int × (Nat → Bool)) => f_X7_treeOf_7 P u (iL z.1) (bS z.2) (iI i) M) (fun i z => 1 ≤ i ∧ gPre n X Y i z.2 z.1) n ?_ fm_fuel 1 (0, fun p => decide (p = 0)) ⟨by omega, gPre_1 (by omega)⟩ (by omega) (by unfold fm_fuel; omega)
  · dsimp only at hl
    rw [← e1] at hl
    exact hl
  intro u i z hi hI k
  obtain ⟨S, s⟩ := z
  obtain ⟨hi1, hG⟩ := hI
  dsimp only at hG k ⊢
  have hS := gPre_S hG
  rw [f_X7_treeOf_7, r_points h, bd_s]
  simp (disch := omega) only [iI_le]
  refine pW_if (fun q => ?_) (fun q => ?_)
  · have e : i = n := by omega
    subst e
    exact pW_some ⟨S, rfl, fun c => by omega, fun _ => ⟨s, hG⟩⟩
  · have hin : i < n := by omega
    rw [iI_m1, iI_0, iL_0]
    refine pW_lp (fun w j (z : Int × Int) => f_X7_treeOf_25 P (fun x1 x3 x4 M => f_X7_treeOf_7 P u x1 x3 x4 M) w (iL S) (bS s) (iI i) (iI z.1) (iL z.2) (iI j) M) (fun j z => gBst2 n X Y s j 0 z.1 z.2) n ?_ fm_fuel 0 (-1, 0) ⟨by omega, by omega, by omega, by omega, fun _ p q hp => by omega, fun c => absurd rfl c⟩ (Nat.zero_le _) (by unfold fm_fuel; omega)
    intro w j z hj hJ kk
    obtain ⟨b, g⟩ := z
    dsimp only at hJ kk ⊢
    rw [f_X7_treeOf_25, r_points h, bd_s]
    simp (disch := omega) only [iI_le]
    refine pW_if (fun q1 => ?_) (fun q1 => ?_)
    · have ej : j = n := by omega
      subst ej
      obtain ⟨c1, c2, c3, c4, c5, c6⟩ := hJ
      obtain ⟨p0, hp0, sp0⟩ := gPre_ex hG hin
      obtain ⟨a0, ha0, sa0⟩ : ∃ a, a < j ∧ s a = true := by
        obtain ⟨v', wt, a1, -, -, a4, -⟩ := hG
        exact ⟨v' 0, a1 0 (by omega), (a4 _).mpr ⟨0, by omega, rfl⟩⟩
      have bn : b ≠ -1 := fun c => by have := c5 c a0 p0 (Or.inl ha0) ha0 hp0 sa0; rw [sp0] at this; cases this
      obtain ⟨d1, d2, d3⟩ := c6 bn
      obtain ⟨b', rfl⟩ : ∃ b' : Nat, b = b' := ⟨b.toNat, by omega⟩
      rw [Int.toNat_natCast] at d1 d2
      rw [bS_or1 s (by omega), iL_add, iI_s]
      exact k (S + g, fun i => s i || decide (i = b')) hin ⟨by omega, gPre_st hG hi1 (by omega) d1 ⟨c1, c2⟩ d2 (fun p' hp' sp' q' hq' sq' => by rw [gD_sy]; exact d3 q' p' (Or.inl hq') hq' hp' sq' sp')⟩
    · have hjn : j < n := by omega
      rw [iI_0]
      refine pW_lp (fun w l (z : Int × Int) => f_X7_treeOf_37 P (fun x1 x3 x4 M => f_X7_treeOf_7 P u x1 x3 x4 M) (fun x1 x3 x4 x5 x6 x8 M => f_X7_treeOf_25 P (fun x1 x3 x4 M => f_X7_treeOf_7 P u x1 x3 x4 M) _ x1 x3 x4 x5 x6 x8 M) w (iL S) (bS s) (iI i) (iI z.1) (iL z.2) (iI j) (iI l) M) (fun l z => gBst2 n X Y s j l z.1 z.2) n ?_ fm_fuel 0 (b, g) hJ (Nat.zero_le _) (by unfold fm_fuel; omega)
      intro y l z hl hL kl
      obtain ⟨b, g⟩ := z
      dsimp only at hL kl ⊢
      obtain ⟨c1, c2, c3, c4, c5, c6⟩ := hL
      rw [f_X7_treeOf_37, r_points h, bd_s]
      simp (disch := omega) only [iI_le]
      refine pW_if (fun q2 => ?_) (fun q2 => ?_)
      · have el : l = n := by omega
        subst el
        rw [iI_s]
        exact kk (b, g) hjn ⟨c1, c2, c3, c4, fun c p q hp hpn hqn => c5 c p q (by omega) hpn hqn, fun c => by
          obtain ⟨d1, d2, d3⟩ := c6 c
          exact ⟨d1, d2, fun p q hp hpn hqn => d3 p q (by omega) hpn hqn⟩⟩
      · have hln : l < n := by omega
        have hD := gD_bd hb hjn hln
        have skip : ¬ (s j = true ∧ s l = false) → gBst2 n X Y s j (l + 1) b g := fun e => ⟨c1, c2, c3, c4, fun c p q hp hpn hqn sp => by
            by_cases pj : p = j ∧ q = l
            · rw [pj.2]; rw [pj.1] at sp
              cases el : s l with
              | true => rfl
              | false => exact absurd ⟨sp, el⟩ e
            · exact c5 c p q (by omega) hpn hqn sp, fun c => by
            obtain ⟨d1, d2, d3⟩ := c6 c
            refine ⟨d1, d2, fun p q hp hpn hqn sp sq => ?_⟩
            by_cases pj : p = j ∧ q = l
            · rw [pj.1] at sp; rw [pj.2] at sq; exact absurd ⟨sp, sq⟩ e
            · exact d3 p q (by omega) hpn hqn sp sq⟩
        simp (disch := omega) only [r_isOf, bd_s, f_X7_treeOf_101, f_X7_treeOf_87, iI_s, r_apart h hb hjn hln]
        rw [show gN (X j - X l) (Y j - Y l) = gD X Y j l from rfl]
        cases sj : s j with
        | false => exact kl (b, g) hln (skip (by rw [sj]; simp))
        | true =>
          cases sl : s l with
          | true => exact kl (b, g) hln (skip (by rw [sl]; simp))
          | false =>
            rw [if_neg (by decide), if_pos (by decide)]
            have take : (b = -1 ∨ gD X Y j l ≤ g) → gBst2 n X Y s j (l + 1) l (gD X Y j l) := fun c => ⟨by omega, by omega, by omega, by omega, fun z => by omega, fun _ => by
              rw [Int.toNat_natCast]
              refine ⟨sl, ⟨j, hjn, sj, gD_sy X Y j l⟩, fun p q hp hpn hqn sp sq => ?_⟩
              by_cases pj : p = j ∧ q = l
              · rw [pj.1, pj.2]; exact Int.le_refl _
              · by_cases bb : b = -1
                · have := c5 bb p q (by omega) hpn hqn sp; rw [sq] at this; cases this
                · have := (c6 bb).2.2 p q (by omega) hpn hqn sp sq
                  omega⟩
            simp (disch := omega) only [iI_m1, iI_eq, lg_cmp_lt, iL_lt]
            refine pW_if (fun q3 => ?_) (fun q3 => pW_if (fun q4 => ?_) (fun q4 => ?_))
            · exact kl ((l : Int), gD X Y j l) hln (take (Or.inl q3))
            · exact kl ((l : Int), gD X Y j l) hln (take (Or.inr (by omega)))
            · refine kl (b, g) hln ⟨c1, c2, c3, c4, fun c => by omega, fun c => ?_⟩
              obtain ⟨d1, d2, d3⟩ := c6 c
              refine ⟨d1, d2, fun p q hp hpn hqn sp sq => ?_⟩
              by_cases pj : p = j ∧ q = l
              · rw [pj.1, pj.2]; omega
              · exact d3 p q (by omega) hpn hqn sp sq
end LT
