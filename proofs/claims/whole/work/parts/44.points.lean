/-! the class's Points: find, count, nearest, covers -/
def gFi (c : Nat → Bool) : Nat → Int
  | 0 => -1
  | n + 1 => if gFi c n < 0 then (if c n then (n : Int) else -1) else gFi c n
theorem gFi_no {c : Nat → Bool} : ∀ {n : Nat}, (∀ j, j < n → c j = false) → gFi c n = -1
  | 0, _ => rfl
  | n + 1, h => by
    show (if gFi c n < 0 then (if c n then (n : Int) else -1) else gFi c n) = -1
    rw [gFi_no (fun j hj => h j (by omega)), h n (by omega)]; rfl
theorem gFi_at {c : Nat → Bool} : ∀ {n i : Nat}, i < n → c i = true → (∀ j, j < i → c j = false) → gFi c n = (i : Int)
  | 0, i, h, _, _ => absurd h (Nat.not_lt_zero i)
  | n + 1, i, h, h1, h2 => by
    show (if gFi c n < 0 then (if c n then (n : Int) else -1) else gFi c n) = (i : Int)
    by_cases hi : i < n
    · rw [gFi_at hi h1 h2, if_neg (by omega)]
    · have e : i = n := by omega
      subst e
      rw [gFi_no h2, h1]; rfl
theorem gFi_r (c : Nat → Bool) (n : Nat) : (gFi c n = -1 ∧ ∀ j, j < n → c j = false) ∨ ∃ i, i < n ∧ gFi c n = (i : Int) ∧ c i = true ∧ ∀ j, j < i → c j = false := by
  induction n with
  | zero => exact Or.inl ⟨rfl, fun j hj => absurd hj (Nat.not_lt_zero j)⟩
  | succ n ih =>
    rcases ih with ⟨e, h⟩ | ⟨i, hi, e, h1, h2⟩
    · cases hc : c n with
      | true => exact Or.inr ⟨n, by omega, gFi_at (by omega) hc h, hc, h⟩
      | false =>
        have h3 : ∀ j, j < n + 1 → c j = false := fun j hj => by
          by_cases q : j = n
          · rw [q]; exact hc
          · exact h j (by omega)
        exact Or.inl ⟨gFi_no h3, h3⟩
    · exact Or.inr ⟨i, by omega, gFi_at (by omega) h1 h2, h1, h2⟩
theorem gFi_cong {c d : Nat → Bool} : ∀ {n : Nat}, (∀ j, j < n → c j = d j) → gFi c n = gFi d n
  | 0, _ => rfl
  | n + 1, h => by
    show (if gFi c n < 0 then (if c n then (n : Int) else -1) else gFi c n) = (if gFi d n < 0 then (if d n then (n : Int) else -1) else gFi d n)
    rw [gFi_cong (fun j hj => h j (by omega)), h n (by omega)]
theorem gct_bd (p : Nat → Bool) : ∀ n, gct p n ≤ n
  | 0 => Nat.le_refl _
  | n + 1 => by
    have h := gct_bd p n
    show gct p n + (if p n then 1 else 0) ≤ n + 1
    split <;> omega
theorem gct_s (p : Nat → Bool) (n : Nat) : gct p (n + 1) = gct p n + (if p n then 1 else 0) := rfl
theorem gct_cong {p q : Nat → Bool} : ∀ {n : Nat}, (∀ j, j < n → p j = q j) → gct p n = gct q n
  | 0, _ => rfl
  | n + 1, h => by rw [gct_s, gct_s, gct_cong (fun j hj => h j (by omega)), h n (by omega)]
/-- the nearest point to a among the first -/
def gNe (X Y : Nat → Int) (a : Nat) : Nat → Int
  | 0 => -1
  | k + 1 => if k = a then gNe X Y a k else if gNe X Y a k < 0 ∨ gN (X a - X k) (Y a - Y k) < gN (X a - X (gNe X Y a k).toNat) (Y a - Y (gNe X Y a k).toNat) then (k : Int) else gNe X Y a k
theorem gNe_s (X Y : Nat → Int) (a k : Nat) : gNe X Y a (k + 1) = if k = a then gNe X Y a k else if gNe X Y a k < 0 ∨ gN (X a - X k) (Y a - Y k) < gN (X a - X (gNe X Y a k).toNat) (Y a - Y (gNe X Y a k).toNat) then (k : Int) else gNe X Y a k := rfl
theorem gNe_r (X Y : Nat → Int) (a : Nat) : ∀ k, gNe X Y a k = -1 ∨ (0 ≤ gNe X Y a k ∧ gNe X Y a k < k)
  | 0 => Or.inl rfl
  | k + 1 => by
    have h := gNe_r X Y a k
    unfold gNe
    repeat (first | omega | split)
theorem gN_bd {n : Nat} {X Y : Nat → Int} (hb : gbd n X Y) {p q : Nat} (hp : p < n) (hq : q < n) : 0 ≤ gN (X p - X q) (Y p - Y q) ∧ gN (X p - X q) (Y p - Y q) ≤ 80000 := by
  have b1 := hb p hp
  have b2 := hb q hq
  refine ⟨gN_nn _ _, ?_⟩
  unfold gN
  have m1 := g_mb (a := X p - X q) (b := X p - X q) 200 200 (by omega) (by omega)
  have m2 := g_mb (a := Y p - Y q) (b := Y p - Y q) 200 200 (by omega) (by omega)
  omega
section CQ
variable {P n : Nat} {M : fm_Mem} {X Y : Nat → Int}
theorem k_find (h : cpt P M n X Y) (hb : gbd n X Y) {x y : Int} (hx : -2147483648 ≤ x ∧ x ≤ 2147483647) (hy : -2147483648 ≤ y ∧ y ≤ 2147483647) : f_X3_find P (iI x) (iI y) M = some (iI (gFi (fun p => decide (X p = x ∧ Y p = y)) n)) := by
  have hn := h.2.1
  refine pW_eq (pW_lp (fun u i (_ : Unit) => f_X3_find_2 P (iI x) (iI y) u (iI i) M) (fun i _ => ∀ j, j < i → decide (X j = x ∧ Y j = y) = false) n ?_ fm_fuel 0 () (fun j hj => absurd hj (Nat.not_lt_zero j)) (Nat.zero_le _) (by unfold fm_fuel; omega))
  intro u i s hi hI k
  rw [f_X3_find_2, h.1]
  simp (disch := omega) only [iI_le, f_X3_find_36]
  refine pW_if (fun c => ?_) (fun c => ?_)
  · have e : i = n := by omega
    subst e
    exact pW_some (by rw [gFi_no hI]; rfl)
  · have hin : i < n := by omega
    have b := hb i hin
    simp (disch := omega) only [k_gx h hin, k_gy h hin, bd_s, iI_eq, iI_s]
    have st : ¬ (X i = x ∧ Y i = y) → ∀ j, j < i + 1 → decide (X j = x ∧ Y j = y) = false := fun c j hj => by
      by_cases q : j = i
      · subst q; exact decide_eq_false c
      · exact hI j (by omega)
    refine pW_if (fun c1 => pW_if (fun c2 => ?_) (fun c2 => ?_)) (fun c1 => ?_)
    · exact pW_some (by rw [gFi_at hin (decide_eq_true ⟨c1, c2⟩) hI])
    · exact k () hin (st (fun q => c2 q.2))
    · exact k () hin (st (fun q => c1 q.1))
theorem k_count (h : cpt P M n X Y) (hb : gbd n X Y) {a b c : Nat} (ha : a < n) (hb' : b < n) (hc : c < n) {d : Int} (hd : -2147483648 ≤ d ∧ d ≤ 2147483647) : f_X3_countCircle P (iI a) (iI b) (iI c) (iI d) M = some (iI (gct (fun p => decide (p ≠ a ∧ p ≠ b ∧ p ≠ c ∧ gSg (gI X Y a b c (X p) (Y p)) = d)) n)) := by
  have hn := h.2.1
  refine pW_eq (pW_lp (fun u i (s : Nat) => f_X3_countCircle_6 P (iI a) (iI b) (iI c) (iI d) u (iI s) (iI i) M) (fun i s => s = gct (fun p => decide (p ≠ a ∧ p ≠ b ∧ p ≠ c ∧ gSg (gI X Y a b c (X p) (Y p)) = d)) i) n ?_ fm_fuel 0 0 rfl (Nat.zero_le _) (by unfold fm_fuel; omega))
  intro u i s hi hI k
  have hs := gct_bd (fun p => decide (p ≠ a ∧ p ≠ b ∧ p ≠ c ∧ gSg (gI X Y a b c (X p) (Y p)) = d)) i
  rw [f_X3_countCircle_6, h.1]
  simp (disch := omega) only [iI_le, iI_eq, f_X3_countCircle_66, iI_s]
  refine pW_if (fun q => ?_) (fun q => ?_)
  · have e : i = n := by omega
    subst e
    exact pW_some (by rw [hI])
  · have hin : i < n := by omega
    have b1 := hb i hin
    have b2 := gSg_r (gI X Y a b c (X i) (Y i))
    simp (disch := omega) only [k_gx h hin, k_gy h hin, bd_s, k_circle h hb ha hb' hc, iI_eq]
    have st : ¬ (i ≠ a ∧ i ≠ b ∧ i ≠ c ∧ gSg (gI X Y a b c (X i) (Y i)) = d) → s = gct (fun p => decide (p ≠ a ∧ p ≠ b ∧ p ≠ c ∧ gSg (gI X Y a b c (X p) (Y p)) = d)) (i + 1) := fun z => by
      rw [gct_s, decide_eq_false z, hI]; rfl
    refine pW_if (fun q1 => k s hin (st (by omega))) (fun q1 => pW_if (fun q2 => k s hin (st (by omega))) (fun q2 => pW_if (fun q3 => k s hin (st (by omega))) (fun q3 => pW_if (fun q4 => ?_) (fun q4 => k s hin (st (by omega))))))
    exact k (s + 1) hin (by rw [gct_s, decide_eq_true (by refine ⟨?_, ?_, ?_, q4⟩ <;> omega), hI]; rfl)
theorem k_near (h : cpt P M n X Y) (hb : gbd n X Y) {a : Nat} (ha : a < n) : f_X3_nearest P (iI a) M = some (iI (gNe X Y a n)) := by
  have hn := h.2.1
  unfold f_X3_nearest
  rw [iI_m1, iI_0]
  refine pW_eq (pW_lp (fun u i (s : Int) => f_X3_nearest_4 P (iI a) u (iI s) (iI i) M) (fun i s => s = gNe X Y a i) n ?_ fm_fuel 0 (-1) rfl (Nat.zero_le _) (by unfold fm_fuel; omega))
  intro u i s hi hI k
  have hr := gNe_r X Y a i
  rw [f_X3_nearest_4, h.1, iI_0]
  simp (disch := omega) only [iI_le, iI_lt, iI_eq, f_X3_nearest_38, f_X3_nearest_36, iI_s]
  refine pW_if (fun q => ?_) (fun q => ?_)
  · have e : i = n := by omega
    subst e
    exact pW_some (by rw [hI])
  · have hin : i < n := by omega
    refine pW_if (fun q1 => ?_) (fun q1 => pW_if (fun q2 => ?_) (fun q2 => ?_))
    · exact k s hin (by rw [gNe_s, if_pos (by omega), hI])
    · exact k i hin (by rw [gNe_s, if_neg (by omega), ← hI, if_pos (Or.inl q2)])
    · obtain ⟨j, rfl⟩ : ∃ j : Nat, s = j := ⟨s.toNat, by omega⟩
      have hj : j < n := by omega
      have b1 := gN_bd hb ha hin
      have b2 := gN_bd hb ha hj
      simp (disch := omega) only [k_dist h ha hin, k_dist h ha hj, bd_s, iI_le]
      refine pW_if (fun q3 => ?_) (fun q3 => ?_)
      · exact k j hin (by rw [gNe_s, if_neg (by omega), ← hI, Int.toNat_natCast, if_neg (by omega)])
      · exact k i hin (by rw [gNe_s, if_neg (by omega), ← hI, Int.toNat_natCast, if_pos (Or.inr (by omega))])
/-- within a triangle or on its edges, as the class tells it -/
def gCv (X Y : Nat → Int) (a b c : Nat) (x y : Int) : Prop := (0 ≤ gC (X b - X a) (Y b - Y a) (x - X a) (y - Y a) ∧ 0 ≤ gC (X c - X b) (Y c - Y b) (x - X b) (y - Y b) ∧ 0 ≤ gC (X a - X c) (Y a - Y c) (x - X c) (y - Y c)) ∨ (gC (X b - X a) (Y b - Y a) (x - X a) (y - Y a) ≤ 0 ∧ gC (X c - X b) (Y c - Y b) (x - X b) (y - Y b) ≤ 0 ∧ gC (X a - X c) (Y a - Y c) (x - X c) (y - Y c) ≤ 0)
theorem gC_bd (hb : gbd n X Y) {p q : Nat} (hp : p < n) (hq : q < n) {x y : Int} (hx : -1000 ≤ x ∧ x ≤ 1000) (hy : -1000 ≤ y ∧ y ≤ 1000) : -480000 ≤ gC (X q - X p) (Y q - Y p) (x - X p) (y - Y p) ∧ gC (X q - X p) (Y q - Y p) (x - X p) (y - Y p) ≤ 480000 := by
  have b1 := hb p hp
  have b2 := hb q hq
  unfold gC
  have m1 := g_mb (a := X q - X p) (b := y - Y p) 200 1200 (by omega) (by omega)
  have m2 := g_mb (a := Y q - Y p) (b := x - X p) 200 1200 (by omega) (by omega)
  omega
theorem k_cov (h : cpt P M n X Y) (hb : gbd n X Y) {a b c : Nat} (ha : a < n) (hb' : b < n) (hc : c < n) {x y : Int} (hx : -1000 ≤ x ∧ x ≤ 1000) (hy : -1000 ≤ y ∧ y ≤ 1000) : ∃ v, f_X3_covers P (iI a) (iI b) (iI c) (iI x) (iI y) M = some v ∧ (v = 0 ∨ v = 1) ∧ (v = 0 ↔ ¬ gCv X Y a b c x y) := by
  have b1 := gC_bd hb ha hb' hx hy
  have b2 := gC_bd hb hb' hc hx hy
  have b3 := gC_bd hb hc ha hx hy
  unfold gCv
  refine (?_ : pW (f_X3_covers P (iI a) (iI b) (iI c) (iI x) (iI y) M) (fun v => (v = 0 ∨ v = 1) ∧ (v = 0 ↔ ¬ _)))
  simp only [f_X3_covers, f_X3_covers_51, f_X3_covers_66, f_X3_covers_70, f_X3_covers_71, k_turnTo h ha hb', k_turnTo h hb' hc, k_turnTo h hc ha, bd_s, bo_0, bo_1, ck_t]
  generalize gC (X b - X a) (Y b - Y a) (x - X a) (y - Y a) = t1 at *
  generalize gC (X c - X b) (Y c - Y b) (x - X b) (y - Y b) = t2 at *
  generalize gC (X a - X c) (Y a - Y c) (x - X c) (y - Y c) = t3 at *
  simp only [show (iI t1 < (0 : Int32)) = (t1 < 0) from by rw [iI_0, iI_lt (by omega) (by omega)], show (iI t2 < (0 : Int32)) = (t2 < 0) from by rw [iI_0, iI_lt (by omega) (by omega)], show ((0 : Int32) < iI t1) = (0 < t1) from by rw [iI_0, iI_lt (by omega) (by omega)], show ((0 : Int32) < iI t2) = (0 < t2) from by rw [iI_0, iI_lt (by omega) (by omega)], show ((0 : Int32) < iI t3) = (0 < t3) from by rw [iI_0, iI_lt (by omega) (by omega)], show ((0 : Int32) ≤ iI t3) = (0 ≤ t3) from by rw [iI_0, iI_le (by omega) (by omega)]]
  have z : ¬ (1 : Int32) = 0 := by decide
  have r0 : ∀ {R : Prop}, ¬ R → pW (some (0 : Int32)) (fun v => (v = 0 ∨ v = 1) ∧ (v = 0 ↔ ¬ R)) := fun q => pW_some ⟨Or.inl rfl, ⟨fun _ => q, fun _ => rfl⟩⟩
  have r1 : ∀ {R : Prop}, R → pW (some (1 : Int32)) (fun v => (v = 0 ∨ v = 1) ∧ (v = 0 ↔ ¬ R)) := fun q => pW_some ⟨Or.inr rfl, ⟨fun e => absurd e z, fun e => absurd q e⟩⟩
  repeat' (first | (refine r0 ?_; omega) | (refine r1 ?_; omega) | refine pW_if (fun _ => ?_) (fun _ => ?_))
theorem k_sq (h : cpt P M n X Y) (hb : gbd n X Y) {a : Nat} (ha : a < n) : f_X3_square P (iI a) M = some (iL (gN (X a) (Y a))) := by
  have b1 := hb a ha
  simp (disch := omega) only [f_X3_square, k_gx h ha, k_gy h ha, bd_s, iL_i, iL_mul, iL_add]
  rfl
end CQ
