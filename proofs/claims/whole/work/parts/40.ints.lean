/-! integers of the machine, read as integers -/
theorem i_lt (a b : Int32) : (a < b) = (a.toInt < b.toInt) := propext Int32.lt_iff_toInt_lt
theorem i_le (a b : Int32) : (a ≤ b) = (a.toInt ≤ b.toInt) := propext Int32.le_iff_toInt_le
theorem i_eq (a b : Int32) : (a = b) = (a.toInt = b.toInt) := propext Int32.toInt_inj.symm
theorem i_bm {x : Int} (h : -2147483648 ≤ x ∧ x ≤ 2147483647) : Int.bmod x 4294967296 = x := Int.bmod_eq_of_le (by omega) (by omega)
theorem i_add (a b : Int32) (h : -2147483648 ≤ a.toInt + b.toInt ∧ a.toInt + b.toInt ≤ 2147483647) : (a + b).toInt = a.toInt + b.toInt := by rw [Int32.toInt_add]; exact i_bm h
theorem i_sub (a b : Int32) (h : -2147483648 ≤ a.toInt - b.toInt ∧ a.toInt - b.toInt ≤ 2147483647) : (a - b).toInt = a.toInt - b.toInt := by rw [Int32.toInt_sub]; exact i_bm h
theorem i_mul (a b : Int32) (h : -2147483648 ≤ a.toInt * b.toInt ∧ a.toInt * b.toInt ≤ 2147483647) : (a * b).toInt = a.toInt * b.toInt := by rw [Int32.toInt_mul]; exact i_bm h
theorem i_on {k : Nat} (h : k < 2147483648) : (Int32.ofNat k).toInt = k := Int32.toInt_ofNat_of_lt h
theorem i_onn {k : Nat} (h : k < 2147483648) : (Int32.ofNat k).toNatClampNeg = k := by
  show (Int32.ofNat k).toInt.toNat = k
  rw [i_on h]; rfl
theorem i_mb {a b : Int} (h1 : -1000 ≤ a ∧ a ≤ 1000) (h2 : -1000 ≤ b ∧ b ≤ 1000) : -1000000 ≤ a * b ∧ a * b ≤ 1000000 := by
  have m1 := Int.mul_nonneg (show 0 ≤ 1000 - a by omega) (show 0 ≤ 1000 - b by omega)
  have m2 := Int.mul_nonneg (show 0 ≤ 1000 + a by omega) (show 0 ≤ 1000 + b by omega)
  have m3 := Int.mul_nonneg (show 0 ≤ 1000 - a by omega) (show 0 ≤ 1000 + b by omega)
  have m4 := Int.mul_nonneg (show 0 ≤ 1000 + a by omega) (show 0 ≤ 1000 - b by omega)
  have e1 : (1000 - a) * (1000 - b) = 1000000 - 1000 * a - 1000 * b + a * b := by grind
  have e2 : (1000 + a) * (1000 + b) = 1000000 + 1000 * a + 1000 * b + a * b := by grind
  have e3 : (1000 - a) * (1000 + b) = 1000000 - 1000 * a + 1000 * b - a * b := by grind
  have e4 : (1000 + a) * (1000 - b) = 1000000 + 1000 * a - 1000 * b - a * b := by grind
  omega
theorem q_get {P n k : Nat} {M : fm_Mem} (hk : k < n) (hn : n < 2147483648) : f_X4_get P n (Int32.ofNat k) M = some (M (P + 1) k) := by
  have a : (Int32.ofNat k).toInt = k := i_on (by omega)
  have b : (Int32.ofNat n).toInt = n := i_on hn
  have n1 : ¬ Int32.ofNat k < 0 := by rw [i_lt, a]; show ¬ (k : Int) < 0; omega
  have n2 : ¬ Int32.ofNat n ≤ Int32.ofNat k := by rw [i_le, a, b]; omega
  have n3 : fm_in (Int32.ofNat k) n = true := by unfold fm_in; rw [i_onn (by omega)]; simp [n1, hk]
  unfold f_X4_get
  rw [if_neg n1, if_neg n2, n3, i_onn (by omega)]
  rfl
/-- the places of the points that lie at P, as integers -/
def pX (P : Nat) (M : fm_Mem) : Nat → Int := fun k => (M (P + 2) k).toInt
def pY (P : Nat) (M : fm_Mem) : Nat → Int := fun k => (M (P + 4) k).toInt
/-- all 20 rooms hold places of the plane -/
def pIn (P : Nat) (M : fm_Mem) : Prop := ∀ k, k < 20 → (0 ≤ pX P M k ∧ pX P M k ≤ 999) ∧ 0 ≤ pY P M k ∧ pY P M k ≤ 999
theorem q_cross {a b c d : Int32} {M : fm_Mem} (ha : -1000 ≤ a.toInt ∧ a.toInt ≤ 1000) (hb : -1000 ≤ b.toInt ∧ b.toInt ≤ 1000) (hc : -1000 ≤ c.toInt ∧ c.toInt ≤ 1000) (hd : -1000 ≤ d.toInt ∧ d.toInt ≤ 1000) : ∃ v, f_X3_cross a b c d M = some v ∧ v.toInt = gC a.toInt b.toInt c.toInt d.toInt := by
  have m1 := i_mb ha hd
  have m2 := i_mb hb hc
  have e1 : (a * d).toInt = a.toInt * d.toInt := i_mul a d (by omega)
  have e2 : (b * c).toInt = b.toInt * c.toInt := i_mul b c (by omega)
  refine ⟨a * d - b * c, rfl, ?_⟩
  rw [i_sub _ _ (by omega), e1, e2]
  unfold gC
  grind
theorem q_turn {P p q r : Nat} {M : fm_Mem} (h : pIn P M) (hp : p < 20) (hq : q < 20) (hr : r < 20) : ∃ v, f_X3_turn P (Int32.ofNat p) (Int32.ofNat q) (Int32.ofNat r) M = some v ∧ v.toInt = gT (pX P M) (pY P M) p q r := by
  have h1 := h p hp
  have h2 := h q hq
  have h3 := h r hr
  unfold pX pY at h1 h2 h3
  have s1 := i_sub (M (P + 2) q) (M (P + 2) p) (by omega)
  have s2 := i_sub (M (P + 4) q) (M (P + 4) p) (by omega)
  have s3 := i_sub (M (P + 2) r) (M (P + 2) p) (by omega)
  have s4 := i_sub (M (P + 4) r) (M (P + 4) p) (by omega)
  obtain ⟨v, e, ev⟩ := q_cross (M := M) (a := M (P + 2) q - M (P + 2) p) (b := M (P + 4) q - M (P + 4) p) (c := M (P + 2) r - M (P + 2) p) (d := M (P + 4) r - M (P + 4) p) (by omega) (by omega) (by omega) (by omega)
  refine ⟨v, ?_, ?_⟩
  · unfold f_X3_turn
    rw [q_get (P := P + 1) hp (by omega), q_get (P := P + 3) hp (by omega), q_get (P := P + 1) hq (by omega), q_get (P := P + 3) hq (by omega), q_get (P := P + 1) hr (by omega), q_get (P := P + 3) hr (by omega)]
    show Option.bind (f_X3_cross (M (P + 2) q - M (P + 2) p) (M (P + 4) q - M (P + 4) p) (M (P + 2) r - M (P + 2) p) (M (P + 4) r - M (P + 4) p) M) (fun v7 => some v7) = some v
    rw [e]; rfl
  · rw [ev, s1, s2, s3, s4]; rfl
theorem q_dist {P p q : Nat} {M : fm_Mem} (h : pIn P M) (hp : p < 20) (hq : q < 20) : ∃ v, f_X3_distance P (Int32.ofNat p) (Int32.ofNat q) M = some v ∧ v.toInt = gN (pX P M q - pX P M p) (pY P M q - pY P M p) := by
  have h1 := h p hp
  have h2 := h q hq
  unfold pX pY at h1 h2
  have s1 := i_sub (M (P + 2) p) (M (P + 2) q) (by omega)
  have s2 := i_sub (M (P + 4) p) (M (P + 4) q) (by omega)
  have m1 := i_mb (a := (M (P + 2) p).toInt - (M (P + 2) q).toInt) (b := (M (P + 2) p).toInt - (M (P + 2) q).toInt) (by omega) (by omega)
  have m2 := i_mb (a := (M (P + 4) p).toInt - (M (P + 4) q).toInt) (b := (M (P + 4) p).toInt - (M (P + 4) q).toInt) (by omega) (by omega)
  have e1 := i_mul (M (P + 2) p - M (P + 2) q) (M (P + 2) p - M (P + 2) q) (by rw [s1]; omega)
  have e2 := i_mul (M (P + 4) p - M (P + 4) q) (M (P + 4) p - M (P + 4) q) (by rw [s2]; omega)
  rw [s1] at e1
  rw [s2] at e2
  refine ⟨(M (P + 2) p - M (P + 2) q) * (M (P + 2) p - M (P + 2) q) + (M (P + 4) p - M (P + 4) q) * (M (P + 4) p - M (P + 4) q), ?_, ?_⟩
  · unfold f_X3_distance
    rw [q_get (P := P + 1) hp (by omega), q_get (P := P + 1) hq (by omega), q_get (P := P + 3) hp (by omega), q_get (P := P + 3) hq (by omega)]
    rfl
  · rw [i_add _ _ (by rw [e1, e2]; omega), e1, e2]
    unfold gN pX pY
    grind
theorem j_bm {x : Int} (h : -9223372036854775808 ≤ x ∧ x ≤ 9223372036854775807) : Int.bmod x 18446744073709551616 = x := Int.bmod_eq_of_le (by omega) (by omega)
theorem j_add (a b : Int64) (h : -9223372036854775808 ≤ a.toInt + b.toInt ∧ a.toInt + b.toInt ≤ 9223372036854775807) : (a + b).toInt = a.toInt + b.toInt := by rw [Int64.toInt_add]; exact j_bm h
theorem j_sub (a b : Int64) (h : -9223372036854775808 ≤ a.toInt - b.toInt ∧ a.toInt - b.toInt ≤ 9223372036854775807) : (a - b).toInt = a.toInt - b.toInt := by rw [Int64.toInt_sub]; exact j_bm h
theorem j_mul (a b : Int64) (h : -9223372036854775808 ≤ a.toInt * b.toInt ∧ a.toInt * b.toInt ≤ 9223372036854775807) : (a * b).toInt = a.toInt * b.toInt := by rw [Int64.toInt_mul]; exact j_bm h
theorem j_of (a : Int32) : (Int32.toInt64 a).toInt = a.toInt := Int32.toInt_toInt64 a
theorem j_cross {a b c d e f : Int64} {M : fm_Mem} (ha : 0 ≤ a.toInt ∧ a.toInt ≤ 999) (hb : 0 ≤ b.toInt ∧ b.toInt ≤ 999) (hc : 0 ≤ c.toInt ∧ c.toInt ≤ 999) (hd : 0 ≤ d.toInt ∧ d.toInt ≤ 999) (he : 0 ≤ e.toInt ∧ e.toInt ≤ 999) (hf : 0 ≤ f.toInt ∧ f.toInt ≤ 999) : ∃ v, f_X7_turnOf a b c d e f M = some v ∧ v.toInt = gC (c.toInt - a.toInt) (d.toInt - b.toInt) (e.toInt - a.toInt) (f.toInt - b.toInt) := by
  have s1 := j_sub c a (by omega)
  have s2 := j_sub d b (by omega)
  have s3 := j_sub e a (by omega)
  have s4 := j_sub f b (by omega)
  have m1 := i_mb (a := c.toInt - a.toInt) (b := f.toInt - b.toInt) (by omega) (by omega)
  have m2 := i_mb (a := d.toInt - b.toInt) (b := e.toInt - a.toInt) (by omega) (by omega)
  have e1 := j_mul (c - a) (f - b) (by rw [s1, s4]; omega)
  have e2 := j_mul (d - b) (e - a) (by rw [s2, s3]; omega)
  rw [s1, s4] at e1
  rw [s2, s3] at e2
  refine ⟨(c - a) * (f - b) - (d - b) * (e - a), rfl, ?_⟩
  rw [j_sub _ _ (by rw [e1, e2]; omega), e1, e2]
  rfl
/-- the version of the reference that lies at P begins at this place -/
def rA (P : Nat) (M : fm_Mem) (k : Nat) : Int32 := M (P + 1) (200 * (M P 3).toInt.toNat + k)
/-- the number of versions stays small -/
def rIn (P : Nat) (M : fm_Mem) : Prop := 0 ≤ (M P 3).toInt ∧ (M P 3).toInt ≤ 8
theorem q_rget {P k : Nat} {a : Int32} {M : fm_Mem} (h : rIn P M) (hk : k < 200) (ha : a.toInt = k) : f_X7_get P a M = some (rA P M k) := by
  obtain ⟨h1, h2⟩ := h
  have t : ((200 : Int32)).toInt = 200 := by decide
  have e1 : ((200 : Int32) * M P 3).toInt = 200 * (M P 3).toInt := by rw [i_mul _ _ (by rw [t]; omega), t]
  have e2 : ((200 : Int32) * M P 3 + a).toInt = 200 * (M P 3).toInt + k := by rw [i_add _ _ (by rw [e1, ha]; omega), e1, ha]
  have e3 : ((200 : Int32) * M P 3 + a).toNatClampNeg = 200 * (M P 3).toInt.toNat + k := by
    show ((200 : Int32) * M P 3 + a).toInt.toNat = _
    rw [e2]; omega
  have n1 : ¬ ((200 : Int32) * M P 3 + a) < 0 := by rw [i_lt, e2]; show ¬ _ < (0 : Int); omega
  have n3 : fm_in ((200 : Int32) * M P 3 + a) 1800 = true := by
    unfold fm_in
    rw [e3, Bool.and_eq_true]
    exact ⟨by simp [n1], decide_eq_true (by omega)⟩
  unfold f_X7_get
  rw [n3, e3]
  rfl
