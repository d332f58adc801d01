/-! the class's Row and Mesh: putting in and taking out -/
theorem up_at {M : fm_Mem} {a k : Nat} {x : Int32} (j : Nat) : fm_up M a k x a j = if j = k then x else M a j := by
  unfold fm_up
  by_cases h : j = k
  · rw [if_pos ⟨rfl, h⟩, if_pos h]
  · rw [if_neg (fun q => h q.2), if_neg h]
theorem up_ne {M : fm_Mem} {a b k : Nat} {x : Int32} (h : b ≠ a) : fm_up M a k x b = M b := fm_up_ne h
theorem up_i {M : fm_Mem} {a b k j : Nat} {x : Int32} (h : b ≠ a ∨ j ≠ k) : fm_up M a k x b j = M b j := by
  unfold fm_up
  rw [if_neg (by omega)]
theorem up_s {M : fm_Mem} {a k : Nat} {x : Int32} : fm_up M a k x a k = x := by
  unfold fm_up
  rw [if_pos ⟨rfl, rfl⟩]
section RW
variable {P n : Nat} {M : fm_Mem}
theorem k_ins {k m : Nat} {x : Int32} (hk : k ≤ m) (hm : m < n) (hn : n ≤ 400) : pW (f_X4_insert P n (iI k) (iI m) x M) (fun M' => (∀ b, b ≠ P + 1 → M' b = M b) ∧ ∀ j, M' (P + 1) j = if j < k then M (P + 1) j else if j = k then x else if j ≤ m then M (P + 1) (j - 1) else M (P + 1) j) := by
  unfold f_X4_insert
  rw [iI_n, iI_1, iI_sub, show ((n : Nat) : Int) - 1 = ((n - 1 : Nat) : Int) by omega, mi_n (by omega) (by omega), Nat.min_eq_left (by omega)]
  refine pW_lm (fun u (z : Nat × fm_Mem) => f_X4_insert_13 P n (iI k) (iI m) x u (iI z.1) z.2) (fun z => k ≤ z.1 ∧ z.1 ≤ m ∧ (∀ b, b ≠ P + 1 → z.2 b = M b) ∧ ∀ j, z.2 (P + 1) j = if j ≤ z.1 then M (P + 1) j else if j ≤ m then M (P + 1) (j - 1) else M (P + 1) j) (fun z => z.1) ?_ fm_fuel (m, M) ⟨hk, Nat.le_refl _, fun _ _ => rfl, fun j => by by_cases h : j ≤ m <;> simp [h]⟩ (by unfold fm_fuel; show m < 5000; omega)
  intro u z hI kk
  obtain ⟨i, M1⟩ := z
  obtain ⟨h1, h2, h3, h4⟩ := hI
  dsimp only at h1 h2 h3 h4 kk ⊢
  rw [f_X4_insert_13, iI_m1, iI_1, iI_sub, iI_add]
  simp (disch := omega) only [iI_le]
  refine pW_if (fun q => ?_) (fun q => ?_)
  · have e : i = k := by omega
    subst e
    rw [k_set (by omega) (by omega), bd_s]
    refine pW_some ⟨fun b hb => by rw [up_ne hb]; exact h3 b hb, fun j => ?_⟩
    rw [up_at, h4]
    by_cases c1 : j < i
    · rw [if_neg (by omega), if_pos (by omega), if_pos c1]
    · by_cases c2 : j = i
      · rw [if_pos c2, if_neg c1, if_pos c2]
      · rw [if_neg c2, if_neg (by omega), if_neg c1, if_neg c2]
  · rw [show ((i : Nat) : Int) - 1 = ((i - 1 : Nat) : Int) by omega, show ((i : Nat) : Int) + -1 = ((i - 1 : Nat) : Int) by omega, k_get (by omega) (by omega), bd_s, k_set (by omega) (by omega), bd_s]
    refine kk (i - 1, fm_up M1 (P + 1) i (M1 (P + 1) (i - 1))) ⟨by dsimp only; omega, by dsimp only; omega, fun b hb => (up_ne hb).trans (h3 b hb), fun j => ?_⟩ (by dsimp only; omega)
    dsimp only
    rw [up_at, h4, h4]
    by_cases c1 : j = i
    · subst c1
      rw [if_pos rfl, if_pos (by omega), if_neg (by omega), if_pos (by omega)]
    · by_cases c2 : j < i
      · rw [if_neg c1, if_pos (by omega), if_pos (by omega)]
      · rw [if_neg c1, if_neg (show ¬ j ≤ i by omega), if_neg (show ¬ j ≤ i - 1 by omega)]
theorem k_del {k : Nat} (hk : k < n) (hn : n ≤ 400) : pW (f_X4_remove P n (iI k) M) (fun M' => (∀ b, b ≠ P + 1 → M' b = M b) ∧ ∀ j, M' (P + 1) j = if j < k then M (P + 1) j else if j + 1 < n then M (P + 1) (j + 1) else M (P + 1) j) := by
  unfold f_X4_remove
  rw [iI_0, show (iI 0) = iI ((0 : Nat) : Int) from rfl, mx_n (by omega) (by omega), Nat.max_eq_left (by omega)]
  refine pW_lp (fun u i (M1 : fm_Mem) => f_X4_remove_6 P n (iI k) u (iI i) M1) (fun i M1 => k ≤ i ∧ (∀ b, b ≠ P + 1 → M1 b = M b) ∧ ∀ j, M1 (P + 1) j = if j < k then M (P + 1) j else if j < i then M (P + 1) (j + 1) else M (P + 1) j) (n - 1) ?_ fm_fuel k M ⟨Nat.le_refl _, fun _ _ => rfl, fun j => by by_cases h : j < k <;> simp [h]⟩ (by omega) (by unfold fm_fuel; omega)
  intro u i M1 hi hI kk
  obtain ⟨h1, h2, h3⟩ := hI
  rw [f_X4_remove_6, iI_s, iI_n]
  simp (disch := omega) only [iI_le]
  refine pW_if (fun q => ?_) (fun q => ?_)
  · refine pW_some ⟨h2, fun j => ?_⟩
    rw [h3]
    by_cases c1 : j < k
    · rw [if_pos c1, if_pos c1]
    · by_cases c2 : j < i
      · rw [if_neg c1, if_pos c2, if_neg c1, if_pos (by omega)]
      · rw [if_neg c1, if_neg c2, if_neg c1, if_neg (by omega)]
  · rw [k_get (by omega) (by omega), bd_s, k_set (by omega) (by omega), bd_s]
    refine kk _ (by omega) ⟨by omega, fun b hb => by rw [up_ne hb]; exact h2 b hb, fun j => ?_⟩
    rw [up_at, h3, h3]
    by_cases c1 : j = i
    · subst c1
      rw [if_pos rfl, if_neg (by omega), if_neg (by omega), if_neg (by omega), if_pos (by omega)]
    · by_cases c2 : j < k
      · rw [if_neg c1, if_pos c2, if_pos c2]
      · by_cases c3 : j < i
        · rw [if_neg c1, if_neg c2, if_pos c3, if_neg c2, if_pos (by omega)]
        · rw [if_neg c1, if_neg c2, if_neg c3, if_neg c2, if_neg (by omega)]
theorem k_clr (hn : n ≤ 400) : pW (f_X4_clear P n M) (fun M' => (∀ b, b ≠ P + 1 → M' b = M b) ∧ ∀ j, j < n → M' (P + 1) j = 0) := by
  unfold f_X4_clear
  rw [iI_0]
  refine pW_lp (fun u i (M1 : fm_Mem) => f_X4_clear_2 P n u (iI i) M1) (fun i M1 => (∀ b, b ≠ P + 1 → M1 b = M b) ∧ ∀ j, j < i → M1 (P + 1) j = 0) n ?_ fm_fuel 0 M ⟨fun _ _ => rfl, fun j hj => absurd hj (Nat.not_lt_zero j)⟩ (by omega) (by unfold fm_fuel; omega)
  intro u i M1 hi hI kk
  obtain ⟨h2, h3⟩ := hI
  rw [f_X4_clear_2, iI_s, iI_n]
  simp (disch := omega) only [iI_le]
  refine pW_if (fun q => ?_) (fun q => ?_)
  · exact pW_some ⟨h2, fun j hj => h3 j (by omega)⟩
  · rw [in_t (by omega) (by omega), ck_t, iI_nn (by omega), Int.toNat_natCast]
    refine kk _ (by omega) ⟨fun b hb => by rw [up_ne hb]; exact h2 b hb, fun j hj => ?_⟩
    rw [up_at]
    by_cases c1 : j = i
    · rw [if_pos c1]
    · rw [if_neg c1]; exact h3 j (by omega)
theorem k_cpy {r : Nat} (hn : n ≤ 400) : f_X4_copyFrom P n r n M = some (fm_cp M (r + 1) (P + 1) n) := by
  unfold f_X4_copyFrom
  rw [iI_n, mi_n (by omega) (by omega), Nat.min_self, iI_nn (by omega), Int.toNat_natCast]
  have : fm_cin (iI n) n n = true := by
    unfold fm_cin
    rw [iI_nn (by omega), Int.toNat_natCast, iI_0, Bool.and_eq_true, Bool.not_eq_true', decide_eq_false_iff_not, iI_lt (by omega) (by omega), Bool.and_eq_true, decide_eq_true_iff]
    omega
  rw [this]
  rfl
theorem cp_at {a b j : Nat} : fm_cp M a b n b j = if j < n then M a j else M b j := by
  unfold fm_cp
  by_cases h : j < n
  · rw [if_pos ⟨rfl, h⟩, if_pos h]
  · rw [if_neg (fun q => h q.2), if_neg h]
theorem cp_ne {a b c : Nat} (h : c ≠ b) : fm_cp M a b n c = M c := by
  funext j; unfold fm_cp; rw [if_neg (fun q => h q.1)]
end RW
/-- a number comes in at k; goes out at k -/
def gIn (T : Nat → Nat) (k c : Nat) : Nat → Nat := fun i => if i < k then T i else if i = k then c else T (i - 1)
def gOut (T : Nat → Nat) (k : Nat) : Nat → Nat := fun i => if i < k then T i else T (i + 1)
theorem gIn_mem {m k c x : Nat} {T : Nat → Nat} (hk : k ≤ m) : (∃ i, i < m + 1 ∧ gIn T k c i = x) ↔ x = c ∨ ∃ i, i < m ∧ T i = x := by
  unfold gIn
  constructor
  · rintro ⟨i, hi, e⟩
    by_cases h1 : i < k
    · rw [if_pos h1] at e; exact Or.inr ⟨i, by omega, e⟩
    · by_cases h2 : i = k
      · rw [if_neg h1, if_pos h2] at e; exact Or.inl e.symm
      · rw [if_neg h1, if_neg h2] at e; exact Or.inr ⟨i - 1, by omega, e⟩
  · rintro (e | ⟨i, hi, e⟩)
    · exact ⟨k, by omega, by rw [if_neg (by omega), if_pos rfl]; exact e.symm⟩
    · by_cases h1 : i < k
      · exact ⟨i, by omega, by rw [if_pos h1]; exact e⟩
      · exact ⟨i + 1, by omega, by rw [if_neg (by omega), if_neg (by omega), Nat.add_sub_cancel]; exact e⟩
theorem gOut_mem {m k x : Nat} {T : Nat → Nat} (hk : k < m) (hs : ∀ i j, i < j → j < m → T i < T j) : (∃ i, i < m - 1 ∧ gOut T k i = x) ↔ x ≠ T k ∧ ∃ i, i < m ∧ T i = x := by
  unfold gOut
  constructor
  · rintro ⟨i, hi, e⟩
    by_cases h1 : i < k
    · rw [if_pos h1] at e
      have := hs i k h1 hk
      exact ⟨by omega, i, by omega, e⟩
    · rw [if_neg h1] at e
      have := hs k (i + 1) (by omega) (by omega)
      exact ⟨by omega, i + 1, by omega, e⟩
  · rintro ⟨h1, i, hi, e⟩
    by_cases h2 : i < k
    · exact ⟨i, by omega, by rw [if_pos h2]; exact e⟩
    · have h3 : i ≠ k := fun z => h1 (by rw [← e, z])
      exact ⟨i - 1, by omega, by rw [if_neg (by omega), show i - 1 + 1 = i by omega]; exact e⟩
theorem gIn_V {n m k c : Nat} {T : Nat → Nat} (h : tV n m T) (hp : tP m T c k) (hc : ∃ a b d, a < b ∧ b < d ∧ d < n ∧ c = (a * 20 + b) * 20 + d) (hn : ∀ i, i < m → T i ≠ c) : tV n (m + 1) (gIn T k c) := by
  obtain ⟨p1, p2, p3⟩ := hp
  have up : ∀ i, k ≤ i → i < m → c < T i := fun i h1 h2 => by
    have e := hn i h2
    have := p3 (by omega)
    by_cases z : k = i
    · subst z; omega
    · have := h.1 k i (by omega) h2
      omega
  unfold gIn
  refine ⟨fun i j hij hj => ?_, fun i hi => ?_⟩
  · dsimp only
    by_cases a1 : j < k
    · rw [if_pos a1, if_pos (by omega)]; exact h.1 i j hij (by omega)
    · by_cases a2 : j = k
      · rw [if_neg a1, if_pos a2, if_pos (by omega)]; exact p2 i (by omega)
      · rw [if_neg a1, if_neg a2]
        by_cases b1 : i < k
        · rw [if_pos b1]
          exact h.1 i (j - 1) (by omega) (by omega)
        · by_cases b2 : i = k
          · rw [if_neg b1, if_pos b2]; exact up (j - 1) (by omega) (by omega)
          · rw [if_neg b1, if_neg b2]; exact h.1 (i - 1) (j - 1) (by omega) (by omega)
  · dsimp only
    by_cases b1 : i < k
    · rw [if_pos b1]; exact h.2 i (by omega)
    · by_cases b2 : i = k
      · rw [if_neg b1, if_pos b2]; exact hc
      · rw [if_neg b1, if_neg b2]; exact h.2 (i - 1) (by omega)
theorem gOut_V {n m k : Nat} {T : Nat → Nat} (h : tV n m T) (hk : k < m) : tV n (m - 1) (gOut T k) := by
  unfold gOut
  refine ⟨fun i j hij hj => ?_, fun i hi => ?_⟩
  · dsimp only
    by_cases a1 : j < k
    · rw [if_pos a1, if_pos (by omega)]; exact h.1 i j hij (by omega)
    · rw [if_neg a1]
      by_cases b1 : i < k
      · rw [if_pos b1]; exact h.1 i (j + 1) (by omega) (by omega)
      · rw [if_neg b1]; exact h.1 (i + 1) (j + 1) (by omega) (by omega)
  · dsimp only
    by_cases b1 : i < k
    · rw [if_pos b1]; exact h.2 i (by omega)
    · rw [if_neg b1]; exact h.2 (i + 1) (by omega)
/-! what the edges hold when the triangle p, q, r comes in or goes out -/
section ME
variable {P m n : Nat} {M : fm_Mem} {T : Nat → Nat}
theorem k_edge {p q r : Nat} (hp : p < 20) (hq : q < 20) : f_X1_changeEdge P (iI p) (iI q) (iI r) M = some (fm_up M (P + 4) (20 * min p q + max p q) (M (P + 4) (20 * min p q + max p q) ^^^ ((1 : Int32) <<< (iI r &&& 31)))) := by
  unfold f_X1_changeEdge
  rw [mi_n (by omega) (by omega), mx_n (by omega) (by omega), iI_20, iI_mul, iI_add, show ((min p q : Nat) : Int) * 20 + ((max p q : Nat) : Int) = ((20 * min p q + max p q : Nat) : Int) by omega, k_get (by omega) (by omega), bd_s, k_set (by omega) (by omega)]
  rfl
theorem k_edges {p q r : Nat} (hp : p < 20) (hq : q < 20) (hr : r < 20) (h1 : p ≠ q) (h2 : p ≠ r) (h3 : q ≠ r) (h : ∀ u w, u < 20 → w < 20 → M (P + 4) (20 * u + w) = bS (fun i => decide (u < w) && eT m T u w i)) :
    pW (Option.bind (f_X1_changeEdge P (iI p) (iI q) (iI r) M) (fun v4 => Option.bind (f_X1_changeEdge P (iI q) (iI r) (iI p) v4) (fun v5 => f_X1_changeEdge P (iI r) (iI p) (iI q) v5))) (fun M' => (∀ b, b ≠ P + 4 → M' b = M b) ∧ ∀ u w, u < 20 → w < 20 → M' (P + 4) (20 * u + w) = bS (fun i => decide (u < w) && (eT m T u w i ^^ decide (i < 20 ∧ tC u w i = tC p q r)))) := by
  rw [k_edge hp hq, bd_s, k_edge hq hr, bd_s, k_edge hr hp]
  refine pW_some ⟨fun b hb => by rw [up_ne hb, up_ne hb, up_ne hb], fun u w hu hw => ?_⟩
  apply b_ext
  intro i hi
  rw [b_S _ hi]
  have st : ∀ (M0 : fm_Mem) (p q r : Nat), p < 20 → q < 20 → r < 20 → p ≠ q → bt (fm_up M0 (P + 4) (20 * min p q + max p q) (M0 (P + 4) (20 * min p q + max p q) ^^^ ((1 : Int32) <<< (iI r &&& 31))) (P + 4) (20 * u + w)) i = (bt (M0 (P + 4) (20 * u + w)) i ^^ decide (20 * min p q + max p q = 20 * u + w ∧ i = r)) := by
    intro M0 p q r hp hq hr hpq
    rw [up_at]
    by_cases c : 20 * u + w = 20 * min p q + max p q
    · rw [if_pos c, b_xor, b_one (by omega) hi, ← c]
      congr 1
      exact decide_eq_decide.mpr ⟨fun z => ⟨rfl, z⟩, fun z => z.2⟩
    · rw [if_neg c, decide_eq_false (fun z => c z.1.symm), Bool.xor_false]
  rw [st _ r p q hr hp hq (by omega), st _ q r p hq hr hp (by omega), st _ p q r hp hq hr h1, h u w hu hw, b_S _ hi]
  by_cases huw : u < w
  · rw [decide_eq_true huw, Bool.true_and, Bool.true_and]
    have x1 := sE_ix hp hq hu hw h1 huw
    have x2 := sE_ix hq hr hu hw h3 huw
    have x3 := sE_ix hr hp hu hw (by omega) huw
    simp only [x1, x2, x3]
    by_cases hi20 : i < 20
    · have x4 := tC_iff hp hq hr hu hw hi20 h1 h2 h3 huw
      have e : decide (i < 20 ∧ tC u w i = tC p q r) = (decide (sE p q u w ∧ i = r) ^^ (decide (sE q r u w ∧ i = p) ^^ decide (sE r p u w ∧ i = q))) := by
        by_cases c1 : i = r
        · subst c1
          rw [decide_eq_false (p := sE q i u w ∧ i = p) (by omega), decide_eq_false (p := sE i p u w ∧ i = q) (by omega), Bool.xor_false, Bool.xor_false]
          exact decide_eq_decide.mpr (by rw [x4]; constructor <;> omega)
        · by_cases c2 : i = p
          · subst c2
            rw [decide_eq_false (p := sE i q u w ∧ i = r) (by omega), decide_eq_false (p := sE r i u w ∧ i = q) (by omega), Bool.xor_false, Bool.false_xor]
            exact decide_eq_decide.mpr (by rw [x4]; constructor <;> omega)
          · rw [decide_eq_false (p := sE p q u w ∧ i = r) (by omega), decide_eq_false (p := sE q r u w ∧ i = p) (by omega), Bool.false_xor, Bool.false_xor]
            exact decide_eq_decide.mpr (by rw [x4]; constructor <;> omega)
      rw [e, Bool.xor_assoc, Bool.xor_assoc]
    · rw [decide_eq_false (p := i < 20 ∧ _) (by omega), decide_eq_false (p := sE p q u w ∧ i = r) (by omega), decide_eq_false (p := sE q r u w ∧ i = p) (by omega), decide_eq_false (p := sE r p u w ∧ i = q) (by omega)]
      simp only [Bool.xor_false]
  · have no : ∀ x y, x ≠ y → x < 20 → y < 20 → 20 * min x y + max x y ≠ 20 * u + w := by omega
    rw [decide_eq_false huw, Bool.false_and, Bool.false_and, decide_eq_false (fun z => no p q h1 hp hq z.1), decide_eq_false (fun z => no q r h3 hq hr z.1), decide_eq_false (fun z => no r p (by omega) hr hp z.1)]
    rfl
end ME
