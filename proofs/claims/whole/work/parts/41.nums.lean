/-! numbers of the machine as images of integers; answers of pure functions; loops -/
def iI (z : Int) : Int32 := Int32.ofInt z
def iL (z : Int) : Int64 := Int64.ofInt z
theorem iI_of (x : Int32) : iI x.toInt = x := Int32.ofInt_toInt x
theorem iI_n (k : Nat) : Int32.ofNat k = iI k := Int32.ofInt_eq_ofNat.symm
theorem iI_add (a b : Int) : iI a + iI b = iI (a + b) := (Int32.ofInt_add a b).symm
theorem iI_sub (a b : Int) : iI a - iI b = iI (a - b) := (Int32.ofInt_sub a b).symm
theorem iI_mul (a b : Int) : iI a * iI b = iI (a * b) := (Int32.ofInt_mul a b).symm
theorem iI_neg (a : Int) : - iI a = iI (-a) := (Int32.ofInt_neg a).symm
theorem iI_t {a : Int} (h : -2147483648 ≤ a ∧ a ≤ 2147483647) : (iI a).toInt = a := Int32.toInt_ofInt_of_le (by omega) (by omega)
theorem iI_lt {a b : Int} (ha : -2147483648 ≤ a ∧ a ≤ 2147483647) (hb : -2147483648 ≤ b ∧ b ≤ 2147483647) : (iI a < iI b) = (a < b) := by rw [i_lt, iI_t ha, iI_t hb]
theorem iI_le {a b : Int} (ha : -2147483648 ≤ a ∧ a ≤ 2147483647) (hb : -2147483648 ≤ b ∧ b ≤ 2147483647) : (iI a ≤ iI b) = (a ≤ b) := by rw [i_le, iI_t ha, iI_t hb]
theorem iI_eq {a b : Int} (ha : -2147483648 ≤ a ∧ a ≤ 2147483647) (hb : -2147483648 ≤ b ∧ b ≤ 2147483647) : (iI a = iI b) = (a = b) := by rw [i_eq, iI_t ha, iI_t hb]
theorem iI_nn {a : Int} (h : 0 ≤ a ∧ a ≤ 2147483647) : (iI a).toNatClampNeg = a.toNat := by
  show (iI a).toInt.toNat = _
  rw [iI_t (by omega)]
theorem iI_s (i : Nat) : iI (i : Int) + 1 = iI ((i + 1 : Nat) : Int) := iI_add i 1
theorem iI_0 : (0 : Int32) = iI 0 := by decide
theorem iI_1 : (1 : Int32) = iI 1 := by decide
theorem iI_2 : (2 : Int32) = iI 2 := by decide
theorem iI_3 : (3 : Int32) = iI 3 := by decide
theorem iI_4 : (4 : Int32) = iI 4 := by decide
theorem iI_5 : (5 : Int32) = iI 5 := by decide
theorem iI_6 : (6 : Int32) = iI 6 := by decide
theorem iI_m1 : (-1 : Int32) = iI (-1) := by decide
theorem iI_9 : (9 : Int32) = iI 9 := by decide
theorem iI_10 : (10 : Int32) = iI 10 := by decide
theorem iI_11 : (11 : Int32) = iI 11 := by decide
theorem iI_20 : (20 : Int32) = iI 20 := by decide
theorem iI_35 : (35 : Int32) = iI 35 := by decide
theorem iI_60 : (60 : Int32) = iI 60 := by decide
theorem iI_100 : (100 : Int32) = iI 100 := by decide
theorem iI_200 : (200 : Int32) = iI 200 := by decide
theorem iI_400 : (400 : Int32) = iI 400 := by decide
theorem iL_of (x : Int64) : iL x.toInt = x := Int64.ofInt_toInt x
theorem iL_add (a b : Int) : iL a + iL b = iL (a + b) := (Int64.ofInt_add a b).symm
theorem iL_sub (a b : Int) : iL a - iL b = iL (a - b) := (Int64.ofInt_sub a b).symm
theorem iL_mul (a b : Int) : iL a * iL b = iL (a * b) := (Int64.ofInt_mul a b).symm
theorem iL_t {a : Int} (h : -9223372036854775808 ≤ a ∧ a ≤ 9223372036854775807) : (iL a).toInt = a := Int64.toInt_ofInt_of_le (by omega) (by omega)
theorem iL_i {a : Int} (h : -2147483648 ≤ a ∧ a ≤ 2147483647) : Int32.toInt64 (iI a) = iL a := by
  apply Int64.toInt_inj.mp
  rw [j_of, iI_t h, iL_t (by omega)]
theorem iL_lt {a b : Int} (ha : -9223372036854775808 ≤ a ∧ a ≤ 9223372036854775807) (hb : -9223372036854775808 ≤ b ∧ b ≤ 9223372036854775807) : (iL a < iL b) = (a < b) := by
  rw [show (iL a < iL b) = ((iL a).toInt < (iL b).toInt) from propext Int64.lt_iff_toInt_lt, iL_t ha, iL_t hb]
theorem iL_le {a b : Int} (ha : -9223372036854775808 ≤ a ∧ a ≤ 9223372036854775807) (hb : -9223372036854775808 ≤ b ∧ b ≤ 9223372036854775807) : (iL a ≤ iL b) = (a ≤ b) := by
  rw [show (iL a ≤ iL b) = ((iL a).toInt ≤ (iL b).toInt) from propext Int64.le_iff_toInt_le, iL_t ha, iL_t hb]
theorem iL_eq {a b : Int} (ha : -9223372036854775808 ≤ a ∧ a ≤ 9223372036854775807) (hb : -9223372036854775808 ≤ b ∧ b ≤ 9223372036854775807) : (iL a = iL b) = (a = b) := by
  rw [show (iL a = iL b) = ((iL a).toInt = (iL b).toInt) from propext Int64.toInt_inj.symm, iL_t ha, iL_t hb]
theorem iL_0 : (0 : Int64) = iL 0 := by decide
theorem iL_1 : (1 : Int64) = iL 1 := by decide
theorem iL_31 : (31 : Int64) = iL 31 := by decide
/-! o ends, with Q -/
def pW {α : Type} (o : Option α) (Q : α → Prop) : Prop := ∃ r, o = some r ∧ Q r
section PW
variable {α β σ : Type} {Q : α → Prop}
theorem pW_some {r : α} (h : Q r) : pW (some r) Q := ⟨r, rfl, h⟩
theorem pW_of {o : Option α} {r : α} (e : o = some r) (h : Q r) : pW o Q := ⟨r, e, h⟩
theorem pW_eq {o : Option α} {r : α} (h : pW o (fun x => x = r)) : o = some r := by
  obtain ⟨x, e, rfl⟩ := h
  exact e
theorem pW_bind {o : Option β} {f : β → Option α} (h : pW o (fun v => pW (f v) Q)) : pW (Option.bind o f) Q := by
  obtain ⟨v, e, h1⟩ := h
  rw [e]
  exact h1
theorem pW_b {o : Option β} {v : β} {f : β → Option α} (e : o = some v) (h : pW (f v) Q) : pW (Option.bind o f) Q := by
  rw [e]
  exact h
theorem pW_if {c : Prop} [Decidable c] {a b : Option α} (h1 : c → pW a Q) (h2 : ¬ c → pW b Q) : pW (if c then a else b) Q := by
  by_cases h : c
  · rw [if_pos h]; exact h1 h
  · rw [if_neg h]; exact h2 h
theorem pW_ck {b : Bool} {o : Option α} (h : b = true) (k : pW o Q) : pW (fm_ck b o) Q := by
  rw [h]
  exact k
theorem pW_mono {o : Option α} {R : α → Prop} (h : pW o Q) (k : ∀ r, Q r → R r) : pW o R := by
  obtain ⟨r, e, h1⟩ := h
  exact ⟨r, e, k r h1⟩
/-- a loop that counts up to N -/
theorem pW_lp (L : Nat → Nat → σ → Option α) (I : Nat → σ → Prop) (N : Nat) (step : ∀ u i s, i ≤ N → I i s → (∀ s', i < N → I (i + 1) s' → pW (L u (i + 1) s') Q) → pW (L (u + 1) i s) Q) :
    ∀ u i s, I i s → i ≤ N → N < u + i → pW (L u i s) Q := by
  intro u
  induction u with
  | zero => intro i s _ h1 h2; omega
  | succ u ih =>
    intro i s hI h1 h2
    exact step u i s h1 hI (fun s' h3 h4 => ih (i + 1) s' h4 (by omega) (by omega))
/-- a loop whose measure falls -/
theorem pW_lm (L : Nat → σ → Option α) (I : σ → Prop) (m : σ → Nat) (step : ∀ u s, I s → (∀ s', I s' → m s' < m s → pW (L u s') Q) → pW (L (u + 1) s) Q) :
    ∀ u s, I s → m s < u → pW (L u s) Q := by
  intro u
  induction u with
  | zero => intro s _ h1; omega
  | succ u ih =>
    intro s hI h1
    exact step u s hI (fun s' h3 h4 => ih s' h3 (by omega))
end PW
theorem bd_s {α β : Type} (v : α) (f : α → Option β) : Option.bind (some v) f = f v := rfl
theorem ck_t {α : Type} (o : Option α) : fm_ck true o = o := rfl
theorem bo_0 : fm_bo 0 = true := by decide
theorem bo_1 : fm_bo 1 = true := by decide
theorem fuel_lt {k : Nat} (h : k < 5000) : k < fm_fuel := h
/-! Row: reading, writing -/
theorem in_t {n k : Nat} (h : k < n) (hn : n < 9000) : fm_in (iI k) n = true := by
  unfold fm_in
  rw [iI_nn (by omega), iI_0, Bool.and_eq_true, Bool.not_eq_true', decide_eq_false_iff_not, decide_eq_true_iff, iI_lt (by omega) (by omega)]
  omega
theorem k_get {P n k : Nat} {M : fm_Mem} (hk : k < n) (hn : n < 9000) : f_X4_get P n (iI k) M = some (M (P + 1) k) := by
  rw [← iI_n]; exact q_get hk (by omega)
theorem k_set {P n k : Nat} {v : Int32} {M : fm_Mem} (hk : k < n) (hn : n < 9000) : f_X4_set P n (iI k) v M = some (fm_up M (P + 1) k v) := by
  unfold f_X4_set f_X4_set_20
  rw [if_neg (by rw [iI_0, iI_lt (by omega) (by omega)]; omega), if_neg (by rw [iI_n, iI_le (by omega) (by omega)]; omega), in_t hk hn, iI_nn (by omega)]
  rfl
