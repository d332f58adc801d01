/-! integers of the machine, read as integers -/
theorem i_lt (a b : Int32) : (a < b) = (a.toInt < b.toInt) := propext Int32.lt_iff_toInt_lt
theorem i_le (a b : Int32) : (a ≤ b) = (a.toInt ≤ b.toInt) := propext Int32.le_iff_toInt_le
theorem i_eq (a b : Int32) : (a = b) = (a.toInt = b.toInt) := propext Int32.toInt_inj.symm
theorem i_bm {x : Int} (h : -2147483648 ≤ x ∧ x ≤ 2147483647) : Int.bmod x 4294967296 = x := Int.bmod_eq_of_le (by omega) (by omega)
theorem i_add (a b : Int32) (h : -2147483648 ≤ a.toInt + b.toInt ∧ a.toInt + b.toInt ≤ 2147483647) : (a + b).toInt = a.toInt + b.toInt := by rw [Int32.toInt_add]; exact i_bm h
theorem i_sub (a b : Int32) (h : -2147483648 ≤ a.toInt - b.toInt ∧ a.toInt - b.toInt ≤ 2147483647) : (a - b).toInt = a.toInt - b.toInt := by rw [Int32.toInt_sub]; exact i_bm h
theorem i_mul (a b : Int32) (h : -2147483648 ≤ a.toInt * b.toInt ∧ a.toInt * b.toInt ≤ 2147483647) : (a * b).toInt = a.toInt * b.toInt := by rw [Int32.toInt_mul]; exact i_bm h
theorem i_on {k : Nat} (h : k < 2147483648) : (Int32.ofNat k).toInt = k := Int32.toInt_ofNat_of_lt h
theorem i_onn {k : Nat} (h : k < 2147483648) : (Int32.ofNat k).toNatClampNeg = k := by
  show (Int32.ofNat k).toInt.toNat = k
  rw [i_on h]; rfl
theorem i_mb {a b : Int} (h1 : -1000 ≤ a ∧ a ≤ 1000) (h2 : -1000 ≤ b ∧ b ≤ 1000) : -1000000 ≤ a * b ∧ a * b ≤ 1000000 := by
  have m1 := Int.mul_nonneg (show 0 ≤ 1000 - a by omega) (show 0 ≤ 1000 - b by omega)
  have m2 := Int.mul_nonneg (show 0 ≤ 1000 + a by omega) (show 0 ≤ 1000 + b by omega)
  have m3 := Int.mul_nonneg (show 0 ≤ 1000 - a by omega) (show 0 ≤ 1000 + b by omega)
  have m4 := Int.mul_nonneg (show 0 ≤ 1000 + a by omega) (show 0 ≤ 1000 - b by omega)
  have e1 : (1000 - a) * (1000 - b) = 1000000 - 1000 * a - 1000 * b + a * b := by grind
  have e2 : (1000 + a) * (1000 + b) = 1000000 + 1000 * a + 1000 * b + a * b := by grind
  have e3 : (1000 - a) * (1000 + b) = 1000000 - 1000 * a + 1000 * b - a * b := by grind
  have e4 : (1000 + a) * (1000 - b) = 1000000 + 1000 * a - 1000 * b - a * b := by grind
  omega
theorem q_get {P n k : Nat} {M : fm_Mem} (hk : k < n) (hn : n < 2147483648) : f_X4_get P n (Int32.ofNat k) M = some (M (P + 1) k) := by
  have a : (Int32.ofNat k).toInt = k := i_on (by omega)
  have b : (Int32.ofNat n).toInt = n := i_on hn
  have n1 : ¬ Int32.ofNat k < 0 := by rw [i_lt, a]; show ¬ (k : Int) < 0; omega
  have n2 : ¬ Int32.ofNat n ≤ Int32.ofNat k := by rw [i_le, a, b]; omega
  have n3 : fm_in (Int32.ofNat k) n = true := by unfold fm_in; rw [i_onn (by omega)]; simp [n1, hk]
  unfold f_X4_get
  rw [if_neg n1, if_neg n2, n3, i_onn (by omega)]
  rfl
