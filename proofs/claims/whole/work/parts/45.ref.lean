/-! the reference's points against integers -/
def rvn (P : Nat) (M : fm_Mem) (v : Nat) : Prop := M P 3 = iI v ∧ v ≤ 8
def rpt (P : Nat) (M : fm_Mem) (v n : Nat) (X Y : Nat → Int) : Prop := rvn P M v ∧ n ≤ 20 ∧ M (P + 1) (200 * v) = iI n ∧ ∀ k, k < n → M (P + 1) (200 * v + (10 + 2 * k)) = iI (X k) ∧ M (P + 1) (200 * v + (10 + 2 * k + 1)) = iI (Y k)
section RP
variable {P v n : Nat} {M : fm_Mem} {X Y : Nat → Int}
theorem r_get (h : rvn P M v) {k : Nat} (hk : k < 200) : f_X7_get P (iI k) M = some (M (P + 1) (200 * v + k)) := by
  have h2 := h.2
  unfold f_X7_get
  rw [h.1, iI_200, iI_mul, iI_add, show (200 : Int) * (v : Int) + (k : Int) = ((200 * v + k : Nat) : Int) by omega, in_t (by omega) (by omega), iI_nn (by omega), Int.toNat_natCast]
  rfl
theorem r_put (h : rvn P M v) {k : Nat} (hk : k < 200) (x : Int32) : f_X7_put0 P (iI k) x M = some (fm_up M (P + 1) (200 * v + k) x) := by
  have h2 := h.2
  unfold f_X7_put0
  rw [h.1, iI_200, iI_mul, iI_add, show (200 : Int) * (v : Int) + (k : Int) = ((200 * v + k : Nat) : Int) by omega, in_t (by omega) (by omega), iI_nn (by omega), Int.toNat_natCast]
  rfl
theorem r_isIn {a b c : Int} (ha : -2147483648 ≤ a ∧ a ≤ 2147483647) (hb : -2147483648 ≤ b ∧ b ≤ 2147483647) (hc : -2147483648 ≤ c ∧ c ≤ 2147483647) : f_X7_isIn (iI a) (iI b) (iI c) M = some (if b ≤ a ∧ a ≤ c then 1 else 0) := by
  simp (disch := omega) only [f_X7_isIn, f_X7_isIn_14, f_X7_isIn_15, iI_lt, bo_0, bo_1, ck_t]
  by_cases h1 : a < b
  · rw [if_pos h1, if_neg (by omega)]
  · by_cases h2 : c < a
    · rw [if_neg h1, if_pos h2, if_neg (by omega)]
    · rw [if_neg h1, if_neg h2, if_pos (by omega)]
theorem r_points (h : rpt P M v n X Y) : f_X7_points P M = some (iI n) := by
  unfold f_X7_points
  rw [iI_0]
  exact (congrArg (fun o => Option.bind o fun v1 => some v1) (r_get h.1 (k := 0) (by omega))).trans (congrArg some h.2.2.1)
theorem r_isPoint (h : rpt P M v n X Y) {a : Int} (ha : -2147483648 ≤ a ∧ a ≤ 2147483647) : f_X7_isPoint P (iI a) M = some (if 0 ≤ a ∧ a < n then 1 else 0) := by
  have hn := h.2.1
  unfold f_X7_isPoint
  rw [r_points h, bd_s, iI_0, iI_1, iI_sub, r_isIn ha (by omega) (by omega)]
  by_cases h1 : 0 ≤ a ∧ a < n
  · rw [if_pos (by omega), if_pos h1]; rfl
  · rw [if_neg (by omega), if_neg h1]; rfl
theorem r_x (h : rpt P M v n X Y) {k : Nat} (hk : k < n) : f_X7_x P (iI k) M = some (iI (X k)) := by
  have hn := h.2.1
  unfold f_X7_x
  rw [iI_10, iI_2, iI_mul, iI_add, show (10 : Int) + 2 * (k : Int) = ((10 + 2 * k : Nat) : Int) by omega, r_get h.1 (by omega), (h.2.2.2 k hk).1]
  rfl
theorem r_y (h : rpt P M v n X Y) {k : Nat} (hk : k < n) : f_X7_y P (iI k) M = some (iI (Y k)) := by
  have hn := h.2.1
  unfold f_X7_y
  rw [iI_10, iI_2, iI_1, iI_mul, iI_add, iI_add, show (10 : Int) + 2 * (k : Int) + 1 = ((10 + 2 * k + 1 : Nat) : Int) by omega, r_get h.1 (by omega), (h.2.2.2 k hk).2]
  rfl
theorem r_find (h : rpt P M v n X Y) (hb : gbd n X Y) {x y : Int} (hx : -2147483648 ≤ x ∧ x ≤ 2147483647) (hy : -2147483648 ≤ y ∧ y ≤ 2147483647) : f_X7_pointAt P (iI x) (iI y) M = some (iI (gFi (fun p => decide (X p = x ∧ Y p = y)) n)) := by
  have hn := h.2.1
  refine pW_eq (pW_lp (fun u i (_ : Unit) => f_X7_pointAt_2 P (iI x) (iI y) u (iI i) M) (fun i _ => ∀ j, j < i → decide (X j = x ∧ Y j = y) = false) n ?_ fm_fuel 0 () (fun j hj => absurd hj (Nat.not_lt_zero j)) (Nat.zero_le _) (by unfold fm_fuel; omega))
  intro u i s hi hI k
  rw [f_X7_pointAt_2, r_points h, bd_s]
  simp (disch := omega) only [iI_le, f_X7_pointAt_30]
  refine pW_if (fun c => ?_) (fun c => ?_)
  · have e : i = n := by omega
    subst e
    exact pW_some (by rw [gFi_no hI]; rfl)
  · have hin : i < n := by omega
    have b := hb i hin
    simp (disch := omega) only [r_x h hin, r_y h hin, bd_s, iI_eq, iI_s]
    have st : ¬ (X i = x ∧ Y i = y) → ∀ j, j < i + 1 → decide (X j = x ∧ Y j = y) = false := fun c j hj => by
      by_cases q : j = i
      · subst q; exact decide_eq_false c
      · exact hI j (by omega)
    refine pW_if (fun c1 => pW_if (fun c2 => ?_) (fun c2 => ?_)) (fun c1 => ?_)
    · exact pW_some (by rw [gFi_at hin (decide_eq_true ⟨c1, c2⟩) hI])
    · exact k () hin (st (fun q => c2 q.2))
    · exact k () hin (st (fun q => c1 q.1))
theorem gT_bd (hb : gbd n X Y) {p q r : Nat} (hp : p < n) (hq : q < n) (hr : r < n) : -80000 ≤ gT X Y p q r ∧ gT X Y p q r ≤ 80000 := by
  have b1 := hb p hp
  have b2 := hb q hq
  have b3 := hb r hr
  unfold gT gC
  have m1 := g_mb (a := X q - X p) (b := Y r - Y p) 200 200 (by omega) (by omega)
  have m2 := g_mb (a := Y q - Y p) (b := X r - X p) 200 200 (by omega) (by omega)
  omega
theorem r_turnOf (a b c d e f : Int) : f_X7_turnOf (iL a) (iL b) (iL c) (iL d) (iL e) (iL f) M = some (iL (gC (c - a) (d - b) (e - a) (f - b))) := by
  unfold f_X7_turnOf
  simp only [iL_sub, iL_mul]
  unfold gC
  rw [Int.mul_comm (d - b) (e - a)]
theorem r_turn (h : rpt P M v n X Y) (hb : gbd n X Y) {p q r : Nat} (hp : p < n) (hq : q < n) (hr : r < n) : f_X7_turn P (iI p) (iI q) (iI r) M = some (iL (gT X Y p q r)) := by
  have b1 := hb p hp
  have b2 := hb q hq
  have b3 := hb r hr
  simp (disch := omega) only [f_X7_turn, r_x h hp, r_y h hp, r_x h hq, r_y h hq, r_x h hr, r_y h hr, bd_s, iL_i, r_turnOf]
  rfl
theorem r_sign {z : Int} (hz : -9223372036854775808 ≤ z ∧ z ≤ 9223372036854775807) : f_X7_signOf (iL z) M = some (iI (gSg z)) := by
  unfold f_X7_signOf f_X7_signOf_21 gSg
  simp (disch := omega) only [lg_cmp_le, lg_cmp_ge, iL_0, iL_le]
  by_cases h1 : 0 < z
  · rw [if_neg (by omega), if_pos h1]; rfl
  · rw [if_pos (by omega), if_neg h1]
    by_cases h2 : z < 0
    · rw [if_neg (by omega), if_pos h2]; rfl
    · rw [if_pos (by omega), if_neg h2]; rfl
theorem gSg_mul (a b : Int) : gSg a * gSg b = gSg (a * b) := by
  unfold gSg
  rcases Int.lt_trichotomy a 0 with h | h | h
  · rcases Int.lt_trichotomy b 0 with k | k | k
    · have := Int.mul_pos_of_neg_of_neg h k
      rw [if_neg (by omega), if_pos h, if_neg (by omega), if_pos k, if_pos this]; rfl
    · subst k; rw [Int.mul_zero]; simp
    · have := Int.mul_neg_of_neg_of_pos h k
      rw [if_neg (by omega), if_pos h, if_pos k, if_neg (by omega), if_pos this]; rfl
  · subst h; rw [Int.zero_mul]; simp
  · rcases Int.lt_trichotomy b 0 with k | k | k
    · have := Int.mul_neg_of_pos_of_neg h k
      rw [if_pos h, if_neg (by omega), if_pos k, if_neg (by omega), if_pos this]; rfl
    · subst k; rw [Int.mul_zero]; simp
    · have := Int.mul_pos h k
      rw [if_pos h, if_pos k, if_pos this]; rfl
theorem gDt_bd (hb : gbd n X Y) {a b c : Nat} (ha : a < n) (hb' : b < n) (hc : c < n) {x y : Int} (hx : -1000 ≤ x ∧ x ≤ 1000) (hy : -1000 ≤ y ∧ y ≤ 1000) : -24883200000000 ≤ gDt (X a - x) (Y a - y) (X b - x) (Y b - y) (X c - x) (Y c - y) ∧ gDt (X a - x) (Y a - y) (X b - x) (Y b - y) (X c - x) (Y c - y) ≤ 24883200000000 := by
  have b1 := hb a ha
  have b2 := hb b hb'
  have b3 := hb c hc
  have hN : ∀ {u v : Int}, -1200 ≤ u ∧ u ≤ 1200 → -1200 ≤ v ∧ v ≤ 1200 → -2880000 ≤ gN u v ∧ gN u v ≤ 2880000 := by
    intro u v hu hv
    unfold gN
    have m1 := g_mb (a := u) (b := u) 1200 1200 (by omega) (by omega)
    have m2 := g_mb (a := v) (b := v) 1200 1200 (by omega) (by omega)
    omega
  have hC : ∀ {u v w z : Int}, -1200 ≤ u ∧ u ≤ 1200 → -1200 ≤ v ∧ v ≤ 1200 → -1200 ≤ w ∧ w ≤ 1200 → -1200 ≤ z ∧ z ≤ 1200 → -2880000 ≤ gC u v w z ∧ gC u v w z ≤ 2880000 := by
    intro u v w z hu hv hw hz
    unfold gC
    have m1 := g_mb (a := u) (b := z) 1200 1200 (by omega) (by omega)
    have m2 := g_mb (a := v) (b := w) 1200 1200 (by omega) (by omega)
    omega
  unfold gDt
  have n1 := hN (u := X a - x) (v := Y a - y) (by omega) (by omega)
  have n2 := hN (u := X b - x) (v := Y b - y) (by omega) (by omega)
  have n3 := hN (u := X c - x) (v := Y c - y) (by omega) (by omega)
  have c1 := hC (u := X b - x) (v := Y b - y) (w := X c - x) (z := Y c - y) (by omega) (by omega) (by omega) (by omega)
  have c2 := hC (u := X a - x) (v := Y a - y) (w := X c - x) (z := Y c - y) (by omega) (by omega) (by omega) (by omega)
  have c3 := hC (u := X a - x) (v := Y a - y) (w := X b - x) (z := Y b - y) (by omega) (by omega) (by omega) (by omega)
  have m1 := g_mb 2880000 2880000 n1 c1
  have m2 := g_mb 2880000 2880000 n2 c2
  have m3 := g_mb 2880000 2880000 n3 c3
  omega
theorem gDt_ref (ax ay bx b_y cx cy : Int) : ax * (b_y * (cx * cx + cy * cy) - cy * (bx * bx + b_y * b_y)) - ay * (bx * (cx * cx + cy * cy) - cx * (bx * bx + b_y * b_y)) + (ax * ax + ay * ay) * (bx * cy - cx * b_y) = gDt ax ay bx b_y cx cy := by
  unfold gDt gN gC; grind
theorem r_circle (h : rpt P M v n X Y) (hb : gbd n X Y) {a b c : Nat} (ha : a < n) (hb' : b < n) (hc : c < n) {x y : Int} (hx : -1000 ≤ x ∧ x ≤ 1000) (hy : -1000 ≤ y ∧ y ≤ 1000) : f_X7_circleOf P (iI a) (iI b) (iI c) (iL x) (iL y) M = some (iI (gSg (gI X Y a b c x y))) := by
  have b1 := hb a ha
  have b2 := hb b hb'
  have b3 := hb c hc
  have hz := gDt_bd hb ha hb' hc hx hy
  have ht := gT_bd hb ha hb' hc
  simp (disch := omega) only [f_X7_circleOf, r_x h ha, r_y h ha, r_x h hb', r_y h hb', r_x h hc, r_y h hc, bd_s, iL_i, iL_sub, iL_mul, iL_add, r_turn h hb ha hb' hc]
  rw [gDt_ref, r_sign (by omega), bd_s, r_sign (by omega), bd_s, iI_mul, gSg_mul]
  rfl
theorem r_circleBy (h : rpt P M v n X Y) (hb : gbd n X Y) {a b c d : Nat} (ha : a < n) (hb' : b < n) (hc : c < n) (hd : d < n) : f_X7_circleBy P (iI a) (iI b) (iI c) (iI d) M = some (iI (gSg (gI X Y a b c (X d) (Y d)))) := by
  have b1 := hb d hd
  simp (disch := omega) only [f_X7_circleBy, r_x h hd, r_y h hd, bd_s, iL_i]
  rw [r_circle h hb ha hb' hc (by omega) (by omega)]
  rfl
theorem r_apart (h : rpt P M v n X Y) (hb : gbd n X Y) {p q : Nat} (hp : p < n) (hq : q < n) : f_X7_apart P (iI p) (iI q) M = some (iL (gN (X p - X q) (Y p - Y q))) := by
  have b1 := hb p hp
  have b2 := hb q hq
  simp (disch := omega) only [f_X7_apart, r_x h hp, r_y h hp, r_x h hq, r_y h hq, bd_s, iI_sub, iL_i, iL_mul, iL_add]
  rfl
theorem r_sq (h : rpt P M v n X Y) (hb : gbd n X Y) {a : Nat} (ha : a < n) : f_X7_square P (iI a) M = some (iL (gN (X a) (Y a))) := by
  have b1 := hb a ha
  simp (disch := omega) only [f_X7_square, r_x h ha, r_y h ha, bd_s, iL_i, iL_mul, iL_add]
  rfl
theorem r_near (h : rpt P M v n X Y) (hb : gbd n X Y) {a : Nat} (ha : a < n) : f_X7_nearestTo P (iI a) M = some (iI (gNe X Y a n)) := by
  have hn := h.2.1
  unfold f_X7_nearestTo
  rw [iI_m1, iI_0]
  refine pW_eq (pW_lp (fun u i (s : Int) => f_X7_nearestTo_4 P (iI a) u (iI s) (iI i) M) (fun i s => s = gNe X Y a i) n ?_ fm_fuel 0 (-1) rfl (Nat.zero_le _) (by unfold fm_fuel; omega))
  intro u i s hi hI k
  have hr := gNe_r X Y a i
  rw [f_X7_nearestTo_4, r_points h, bd_s, iI_m1]
  simp (disch := omega) only [iI_le, iI_lt, iI_eq, f_X7_nearestTo_40, f_X7_nearestTo_38, iI_s]
  refine pW_if (fun q => ?_) (fun q => ?_)
  · have e : i = n := by omega
    subst e
    exact pW_some (by rw [hI])
  · have hin : i < n := by omega
    refine pW_if (fun q1 => ?_) (fun q1 => pW_if (fun q2 => ?_) (fun q2 => ?_))
    · exact k s hin (by rw [gNe_s, if_pos (by omega), hI])
    · exact k i hin (by rw [gNe_s, if_neg (by omega), ← hI, if_pos (Or.inl (by omega))])
    · obtain ⟨j, rfl⟩ : ∃ j : Nat, s = j := ⟨s.toNat, by omega⟩
      have hj : j < n := by omega
      have b1 := gN_bd hb ha hin
      have b2 := gN_bd hb ha hj
      simp (disch := omega) only [r_apart h hb ha hin, r_apart h hb ha hj, bd_s, lg_cmp_ge, iL_le]
      refine pW_if (fun q3 => ?_) (fun q3 => ?_)
      · exact k j hin (by rw [gNe_s, if_neg (by omega), ← hI, Int.toNat_natCast, if_neg (by omega)])
      · exact k i hin (by rw [gNe_s, if_neg (by omega), ← hI, Int.toNat_natCast, if_pos (Or.inr (by omega))])
theorem r_on (h : rpt P M v n X Y) (hb : gbd n X Y) {a b c : Nat} (ha : a < n) (hb' : b < n) (hc : c < n) {d : Int} (hd : -2147483648 ≤ d ∧ d ≤ 2147483647) : f_X7_onCircle P (iI a) (iI b) (iI c) (iI d) M = some (iI (gct (fun p => decide (p ≠ a ∧ p ≠ b ∧ p ≠ c ∧ gSg (gI X Y a b c (X p) (Y p)) = d)) n)) := by
  have hn := h.2.1
  refine pW_eq (pW_lp (fun u i (s : Nat) => f_X7_onCircle_6 P (iI a) (iI b) (iI c) (iI d) u (iI s) (iI i) M) (fun i s => s = gct (fun p => decide (p ≠ a ∧ p ≠ b ∧ p ≠ c ∧ gSg (gI X Y a b c (X p) (Y p)) = d)) i) n ?_ fm_fuel 0 0 rfl (Nat.zero_le _) (by unfold fm_fuel; omega))
  intro u i s hi hI k
  have hs := gct_bd (fun p => decide (p ≠ a ∧ p ≠ b ∧ p ≠ c ∧ gSg (gI X Y a b c (X p) (Y p)) = d)) i
  rw [f_X7_onCircle_6, r_points h, bd_s]
  have z0 : iI (s : Int) + 0 = iI (s : Int) := by rw [iI_0, iI_add, Int.add_zero]
  simp (disch := omega) only [iI_le, iI_eq, f_X7_onCircle_54, f_X7_onCircle_53, iI_s, z0]
  refine pW_if (fun q => ?_) (fun q => ?_)
  · have e : i = n := by omega
    subst e
    exact pW_some (by rw [hI])
  · have hin : i < n := by omega
    have b2 := gSg_r (gI X Y a b c (X i) (Y i))
    simp (disch := omega) only [bd_s, r_circleBy h hb ha hb' hc hin, iI_eq]
    have st : ¬ (i ≠ a ∧ i ≠ b ∧ i ≠ c ∧ gSg (gI X Y a b c (X i) (Y i)) = d) → s = gct (fun p => decide (p ≠ a ∧ p ≠ b ∧ p ≠ c ∧ gSg (gI X Y a b c (X p) (Y p)) = d)) (i + 1) := fun z => by
      rw [gct_s, decide_eq_false z, hI]; rfl
    refine pW_if (fun q1 => k s hin (st (by omega))) (fun q1 => pW_if (fun q2 => k s hin (st (by omega))) (fun q2 => pW_if (fun q3 => k s hin (st (by omega))) (fun q3 => pW_if (fun q4 => ?_) (fun q4 => k s hin (st (by omega))))))
    exact k (s + 1) hin (by rw [gct_s, decide_eq_true (by refine ⟨?_, ?_, ?_, q4⟩ <;> omega), hI]; rfl)
end RP
