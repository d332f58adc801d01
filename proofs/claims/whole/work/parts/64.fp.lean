section
/-! floats: just what both sides ask of them -/
theorem fp_log {c k : Nat} (h1 : 2 ^ k ≤ c) (h2 : c < 2 ^ (k + 1)) : c.log2 = k := (Nat.log2_eq_iff (by have := Nat.two_pow_pos k; omega)).mpr ⟨h1, h2⟩
theorem fp_lead {A B k j : Nat} (h1 : 2 ^ k ≤ A) (h2 : A < 2 ^ (k + 1)) (h3 : 2 ^ j ≤ B) (h4 : B < 2 ^ (j + 1)) : FP.Core.leading A B = if B * 2 ^ ((k : Int) - (j : Int)).toNat ≤ A * 2 ^ (-((k : Int) - (j : Int))).toNat then (k : Int) - (j : Int) else (k : Int) - (j : Int) - 1 := by
  unfold FP.Core.leading
  rw [fp_log h1 h2, fp_log h3 h4]
theorem fp_lead1 {A k : Nat} (h1 : 2 ^ k ≤ A) (h2 : A < 2 ^ (k + 1)) : FP.Core.leading A 1 = (k : Int) := by
  rw [fp_lead h1 h2 (show 2 ^ 0 ≤ 1 by decide) (show 1 < 2 ^ (0 + 1) by decide), show (k : Int) - ((0 : Nat) : Int) = (k : Int) by omega, Int.toNat_natCast, show (-(k : Int)).toNat = 0 by omega, if_pos (by rw [Nat.one_mul, Nat.pow_zero, Nat.mul_one]; exact h1)]
theorem fp_r2 {f : FP.Core.Fmt} {w : Nat} (hp : f.p = w + 1) {s : Bool} {c j : Nat} {e : Int} (h1 : 2 ^ w ≤ c) (h2 : c < 2 ^ (w + 1)) (h3 : f.qmin ≤ e + j) (h4 : e + j ≤ f.qmax) : FP.Core.roundRatio f s (c * 2 ^ j) 1 e = .fin s c (e + j) := by
  have pj := Nat.two_pow_pos j
  have pw := Nat.two_pow_pos w
  have hl : FP.Core.leading (c * 2 ^ j) 1 = ((w + j : Nat) : Int) := fp_lead1 (by rw [Nat.pow_add]; exact Nat.mul_le_mul_right _ h1) (by rw [show w + j + 1 = (w + 1) + j by omega, Nat.pow_add 2 (w + 1) j]; exact Nat.mul_lt_mul_of_pos_right h2 pj)
  unfold FP.Core.roundRatio
  rw [if_neg (by have := Nat.mul_pos (show 0 < c by omega) pj; omega)]
  have hq : FP.Core.quantum f (c * 2 ^ j) 1 e = e + j := by
    unfold FP.Core.quantum
    rw [hl, hp]
    rw [Int.max_eq_right (by omega)]
    omega
  rw [hq]
  unfold FP.Core.roundAt FP.Core.unitsNum FP.Core.unitsDen
  rw [show (e - (e + (j : Int))).toNat = 0 by omega, show (e + (j : Int) - e).toNat = j by omega, Nat.pow_zero, Nat.mul_one, Nat.one_mul]
  have hn : FP.Core.nearest (c * 2 ^ j) (2 ^ j) = c := by
    unfold FP.Core.nearest
    rw [Nat.mul_mod_left, Nat.mul_zero, if_pos pj, Nat.mul_div_cancel _ pj]
  rw [hn]
  unfold FP.Core.settle FP.Core.bound
  rw [hp, if_pos h2, if_pos h4]
theorem fp_pw {A k w : Nat} (h1 : 2 ^ k ≤ A) (h2 : A < 2 ^ (k + 1)) (hk : k ≤ w) : 2 ^ w ≤ A * 2 ^ (w - k) ∧ A * 2 ^ (w - k) < 2 ^ (w + 1) := by
  have p := Nat.two_pow_pos (w - k)
  have e1 : 2 ^ w = 2 ^ k * 2 ^ (w - k) := by rw [← Nat.pow_add, show k + (w - k) = w by omega]
  have e2 : 2 ^ (w + 1) = 2 ^ (k + 1) * 2 ^ (w - k) := by rw [← Nat.pow_add, show k + 1 + (w - k) = w + 1 by omega]
  rw [e1, e2]
  exact ⟨Nat.mul_le_mul_right _ h1, Nat.mul_lt_mul_of_pos_right h2 p⟩
theorem fp_r1 {f : FP.Core.Fmt} {w : Nat} (hp : f.p = w + 1) {s : Bool} {A k : Nat} {e : Int} (h1 : 2 ^ k ≤ A) (h2 : A < 2 ^ (k + 1)) (hk : k ≤ w) (h3 : f.qmin ≤ e + k - w) (h4 : e + k - w ≤ f.qmax) : FP.Core.roundRatio f s A 1 e = .fin s (A * 2 ^ (w - k)) (e + k - w) := by
  have pk := Nat.two_pow_pos k
  obtain ⟨-, b2⟩ := fp_pw h1 h2 hk
  unfold FP.Core.roundRatio
  rw [if_neg (by omega)]
  have hq : FP.Core.quantum f A 1 e = e + k - w := by
    unfold FP.Core.quantum
    rw [fp_lead1 h1 h2, hp]
    rw [Int.max_eq_right (by omega)]
    omega
  rw [hq]
  unfold FP.Core.roundAt FP.Core.unitsNum FP.Core.unitsDen
  rw [show (e - (e + (k : Int) - (w : Int))).toNat = w - k by omega, show (e + (k : Int) - (w : Int) - e).toNat = 0 by omega, Nat.pow_zero, Nat.mul_one]
  have hn : ∀ x, FP.Core.nearest x 1 = x := fun x => by
    unfold FP.Core.nearest
    rw [Nat.mod_one, Nat.mul_zero, if_pos (by decide), Nat.div_one]
  rw [hn]
  unfold FP.Core.settle FP.Core.bound
  rw [hp, if_pos b2, if_pos h4]
theorem fp_T : FP.Core.b32.tails = 8388608 := by decide
theorem fp_E : FP.Core.b32.exps = 256 := by decide
theorem fp_q : FP.Core.b32.qmin = -149 := by decide
theorem fp_Q : FP.Core.b32.qmax = 104 := by decide
theorem fp_p : FP.Core.b32.p = 23 + 1 := rfl
theorem fp_T6 : FP.Core.b64.tails = 4503599627370496 := by decide
theorem fp_E6 : FP.Core.b64.exps = 2048 := by decide
theorem fp_q6 : FP.Core.b64.qmin = -1074 := by decide
theorem fp_Q6 : FP.Core.b64.qmax = 971 := by decide
theorem fp_p6 : FP.Core.b64.p = 52 + 1 := rfl
theorem fp_bo (s : Bool) : s.toNat ≤ 1 ∧ (s.toNat % 2 == 1) = s := by cases s <;> decide
/-- the data of a float's fields -/
theorem fp_dec (s : Bool) {E T : Nat} (h1 : 0 < E) (h2 : E < 255) (h3 : T < 8388608) : FP.Core.decode FP.Core.b32 ((s.toNat * 256 + E) * 8388608 + T) = .fin s (8388608 + T) ((E : Int) - 150) := by
  have a := fp_bo s
  unfold FP.Core.decode FP.Core.fieldE FP.Core.fieldT FP.Core.fieldS
  rw [fp_T, fp_E, fp_q, show ((s.toNat * 256 + E) * 8388608 + T) / 8388608 = s.toNat * 256 + E by omega, show ((s.toNat * 256 + E) * 8388608 + T) % 8388608 = T by omega, show (s.toNat * 256 + E) % 256 = E by omega, show (s.toNat * 256 + E) / 256 = s.toNat by omega, if_neg (by omega), if_neg (by omega), a.2]
  congr 1
  omega
theorem fp_dec6 (s : Bool) {E T : Nat} (h1 : 0 < E) (h2 : E < 2047) (h3 : T < 4503599627370496) : FP.Core.decode FP.Core.b64 ((s.toNat * 2048 + E) * 4503599627370496 + T) = .fin s (4503599627370496 + T) ((E : Int) - 1075) := by
  have a := fp_bo s
  unfold FP.Core.decode FP.Core.fieldE FP.Core.fieldT FP.Core.fieldS
  rw [fp_T6, fp_E6, fp_q6, show ((s.toNat * 2048 + E) * 4503599627370496 + T) / 4503599627370496 = s.toNat * 2048 + E by omega, show ((s.toNat * 2048 + E) * 4503599627370496 + T) % 4503599627370496 = T by omega, show (s.toNat * 2048 + E) % 2048 = E by omega, show (s.toNat * 2048 + E) / 2048 = s.toNat by omega, if_neg (by omega), if_neg (by omega), a.2]
  congr 1
  omega
theorem fp_enc (s : Bool) {c : Nat} {q : Int} (h1 : 8388608 ≤ c) (h2 : c < 16777216) (h3 : -149 ≤ q) : FP.Core.encode FP.Core.b32 (.fin s c q) = (s.toNat * 256 + (q + 150).toNat) * 8388608 + (c - 8388608) := by
  simp only [FP.Core.encode, FP.Core.assemble, fp_T, fp_E, fp_q]
  rw [if_neg (by omega), show (q - -149).toNat + 1 = (q + 150).toNat by omega]
theorem fp_enc6 (s : Bool) {c : Nat} {q : Int} (h1 : 4503599627370496 ≤ c) (h2 : c < 9007199254740992) (h3 : -1074 ≤ q) : FP.Core.encode FP.Core.b64 (.fin s c q) = (s.toNat * 2048 + (q + 1075).toNat) * 4503599627370496 + (c - 4503599627370496) := by
  simp only [FP.Core.encode, FP.Core.assemble, fp_T6, fp_E6, fp_q6]
  rw [if_neg (by omega), show (q - -1074).toNat + 1 = (q + 1075).toNat by omega]
/-- what the machine's float with these data is -/
theorem fp_rt (s : Bool) {c : Nat} {q : Int} (h1 : 8388608 ≤ c) (h2 : c < 16777216) (h3 : -149 ≤ q) (h4 : q ≤ 104) : FP.Core.decode FP.Core.b32 (UInt32.ofNat (FP.Core.encode FP.Core.b32 (.fin s c q))).toNat = .fin s c q := by
  have a := fp_bo s
  rw [fp_enc s h1 h2 h3, UInt32.toNat_ofNat_of_lt' (show _ < 4294967296 by omega), fp_dec s (by omega) (by omega) (by omega), show 8388608 + (c - 8388608) = c by omega, show (((q + 150).toNat : Nat) : Int) - 150 = q by omega]
theorem fp_rt6 (s : Bool) {c : Nat} {q : Int} (h1 : 4503599627370496 ≤ c) (h2 : c < 9007199254740992) (h3 : -1074 ≤ q) (h4 : q ≤ 971) : FP.Core.decode FP.Core.b64 (UInt64.ofNat (FP.Core.encode FP.Core.b64 (.fin s c q))).toNat = .fin s c q := by
  have a := fp_bo s
  rw [fp_enc6 s h1 h2 h3, UInt64.toNat_ofNat_of_lt' (show _ < 18446744073709551616 by omega), fp_dec6 s (by omega) (by omega) (by omega), show 4503599627370496 + (c - 4503599627370496) = c by omega, show (((q + 1075).toNat : Nat) : Int) - 1075 = q by omega]
theorem fp_ok {x : UInt32} (h : FP.Core.decode FP.Core.b32 x.toNat ≠ .nan) : fm_f32 x = true := by
  unfold fm_f32
  refine decide_eq_true (UInt32.le_iff_toNat_le.mpr ?_)
  rw [UInt32.toNat_and, show (0x7fffffff : UInt32).toNat = 2 ^ 31 - 1 from rfl, Nat.and_two_pow_sub_one_eq_mod]
  show x.toNat % 2147483648 ≤ 2139095040
  refine Classical.byContradiction (fun z => h ?_)
  unfold FP.Core.decode FP.Core.fieldE FP.Core.fieldT
  rw [fp_T, fp_E, if_pos (by omega), if_neg (by omega)]
theorem fp_ok6 {x : UInt64} (h : FP.Core.decode FP.Core.b64 x.toNat ≠ .nan) : fm_f64 x = true := by
  unfold fm_f64
  refine decide_eq_true (UInt64.le_iff_toNat_le.mpr ?_)
  rw [UInt64.toNat_and, show (0x7fffffffffffffff : UInt64).toNat = 2 ^ 63 - 1 from rfl, Nat.and_two_pow_sub_one_eq_mod]
  show x.toNat % 9223372036854775808 ≤ 9218868437227405312
  refine Classical.byContradiction (fun z => h ?_)
  unfold FP.Core.decode FP.Core.fieldE FP.Core.fieldT
  rw [fp_T6, fp_E6, if_pos (by omega), if_neg (by omega)]
/-- a double that is rounded from a ratio is a number -/
theorem fp_n6 (s : Bool) (A B : Nat) (e : Int) : fm_f64 (UInt64.ofNat (FP.Core.encode FP.Core.b64 (FP.Core.roundRatio FP.Core.b64 s A B e))) = true := by
  have a := fp_bo s
  have key : ∀ E T, (E < 2047 ∧ T < 4503599627370496) ∨ (E = 2047 ∧ T = 0) → fm_f64 (UInt64.ofNat ((s.toNat * 2048 + E) * 4503599627370496 + T)) = true := fun E T h => by
    unfold fm_f64
    refine decide_eq_true (UInt64.le_iff_toNat_le.mpr ?_)
    rw [UInt64.toNat_and, show (0x7fffffffffffffff : UInt64).toNat = 2 ^ 63 - 1 from rfl, Nat.and_two_pow_sub_one_eq_mod, UInt64.toNat_ofNat_of_lt' (show _ < 18446744073709551616 by omega)]
    show _ % 9223372036854775808 ≤ 9218868437227405312
    omega
  have fin : ∀ c q, c < 9007199254740992 → -1074 ≤ q → q ≤ 971 → fm_f64 (UInt64.ofNat (FP.Core.encode FP.Core.b64 (.fin s c q))) = true := fun c q h1 h2 h3 => by
    simp only [FP.Core.encode, FP.Core.assemble, fp_T6, fp_E6, fp_q6]
    by_cases z : c < 4503599627370496
    · rw [if_pos z]; exact key 0 c (by omega)
    · rw [if_neg z]; exact key _ _ (by omega)
  have bd : ∀ c q, c < 9007199254740992 → -1074 ≤ q → fm_f64 (UInt64.ofNat (FP.Core.encode FP.Core.b64 (FP.Core.bound FP.Core.b64 s c q))) = true := fun c q h1 h2 => by
    unfold FP.Core.bound
    rw [fp_Q6]
    by_cases z : q ≤ 971
    · rw [if_pos z]; exact fin c q h1 h2 z
    · rw [if_neg z]
      simp only [FP.Core.encode, FP.Core.assemble, fp_T6, fp_E6]
      exact key 2047 0 (by omega)
  unfold FP.Core.roundRatio
  by_cases z : A = 0
  · rw [if_pos z, fp_q6]; exact fin 0 _ (by omega) (by omega) (by omega)
  · rw [if_neg z]
    have hq : -1074 ≤ FP.Core.quantum FP.Core.b64 A B e := by
      unfold FP.Core.quantum
      rw [fp_q6]
      exact Int.le_max_left _ _
    unfold FP.Core.roundAt FP.Core.settle
    generalize FP.Core.nearest _ _ = c
    generalize FP.Core.quantum FP.Core.b64 A B e = q at *
    by_cases y : c < 2 ^ FP.Core.b64.p
    · rw [if_pos y]; exact bd c q y hq
    · rw [if_neg y, fp_T6]; exact bd _ _ (by omega) (by omega)
theorem fp_n (s : Bool) (A B : Nat) (e : Int) : fm_f32 (UInt32.ofNat (FP.Core.encode FP.Core.b32 (FP.Core.roundRatio FP.Core.b32 s A B e))) = true := by
  have a := fp_bo s
  have key : ∀ E T, (E < 255 ∧ T < 8388608) ∨ (E = 255 ∧ T = 0) → fm_f32 (UInt32.ofNat ((s.toNat * 256 + E) * 8388608 + T)) = true := fun E T h => by
    unfold fm_f32
    refine decide_eq_true (UInt32.le_iff_toNat_le.mpr ?_)
    rw [UInt32.toNat_and, show (0x7fffffff : UInt32).toNat = 2 ^ 31 - 1 from rfl, Nat.and_two_pow_sub_one_eq_mod, UInt32.toNat_ofNat_of_lt' (show _ < 4294967296 by omega)]
    show _ % 2147483648 ≤ 2139095040
    omega
  have fin : ∀ c q, c < 16777216 → -149 ≤ q → q ≤ 104 → fm_f32 (UInt32.ofNat (FP.Core.encode FP.Core.b32 (.fin s c q))) = true := fun c q h1 h2 h3 => by
    simp only [FP.Core.encode, FP.Core.assemble, fp_T, fp_E, fp_q]
    by_cases z : c < 8388608
    · rw [if_pos z]; exact key 0 c (by omega)
    · rw [if_neg z]; exact key _ _ (by omega)
  have bd : ∀ c q, c < 16777216 → -149 ≤ q → fm_f32 (UInt32.ofNat (FP.Core.encode FP.Core.b32 (FP.Core.bound FP.Core.b32 s c q))) = true := fun c q h1 h2 => by
    unfold FP.Core.bound
    rw [fp_Q]
    by_cases z : q ≤ 104
    · rw [if_pos z]; exact fin c q h1 h2 z
    · rw [if_neg z]
      simp only [FP.Core.encode, FP.Core.assemble, fp_T, fp_E]
      exact key 255 0 (by omega)
  unfold FP.Core.roundRatio
  by_cases z : A = 0
  · rw [if_pos z, fp_q]; exact fin 0 _ (by omega) (by omega) (by omega)
  · rw [if_neg z]
    have hq : -149 ≤ FP.Core.quantum FP.Core.b32 A B e := by
      unfold FP.Core.quantum
      rw [fp_q]
      exact Int.le_max_left _ _
    unfold FP.Core.roundAt FP.Core.settle
    generalize FP.Core.nearest _ _ = c
    generalize FP.Core.quantum FP.Core.b32 A B e = q at *
    by_cases y : c < 2 ^ FP.Core.b32.p
    · rw [if_pos y]; exact bd c q y hq
    · rw [if_neg y, fp_T]; exact bd _ _ (by omega) (by omega)
/-! whole numbers as floats -/
theorem fp_k {A : Nat} (h : A ≠ 0) : 2 ^ A.log2 ≤ A ∧ A < 2 ^ (A.log2 + 1) := (Nat.log2_eq_iff h).mp rfl
theorem fp_klt {A w : Nat} (h : A ≠ 0) (h2 : A < 2 ^ (w + 1)) : A.log2 ≤ w := by
  have := (fp_k h).1
  refine Nat.le_of_lt_succ (Classical.byContradiction fun z => ?_)
  have := Nat.pow_le_pow_right (show 0 < 2 by decide) (show w + 1 ≤ A.log2 by omega)
  omega
theorem fp_i2f (z : Int) (h : -2147483648 ≤ z ∧ z ≤ 2147483647) : FP.i2f (iI z) = FP.l2f (iL z) := by
  show UInt32.ofNat (FP.Core.fromInt FP.Core.b32 (iI z).toInt) = UInt32.ofNat (FP.Core.fromInt FP.Core.b32 (iL z).toInt)
  rw [iI_t h, iL_t (by omega)]
theorem fp_i2d (z : Int) (h : -2147483648 ≤ z ∧ z ≤ 2147483647) : FP.i2d (iI z) = FP.l2d (iL z) := by
  show UInt64.ofNat (FP.Core.fromInt FP.Core.b64 (iI z).toInt) = UInt64.ofNat (FP.Core.fromInt FP.Core.b64 (iL z).toInt)
  rw [iI_t h, iL_t (by omega)]
theorem fp_l2f (z : Int) (h0 : z ≠ 0) (h : z.natAbs < 16777216) : FP.Core.decode FP.Core.b32 (FP.l2f (iL z)).toNat = .fin (decide (z < 0)) (z.natAbs * 2 ^ (23 - z.natAbs.log2)) ((z.natAbs.log2 : Int) - 23) := by
  have a0 : z.natAbs ≠ 0 := by omega
  obtain ⟨h1, h2⟩ := fp_k a0
  have h3 := fp_klt (w := 23) a0 h
  obtain ⟨b1, b2⟩ := fp_pw h1 h2 h3
  show FP.Core.decode FP.Core.b32 (UInt32.ofNat (FP.Core.encode FP.Core.b32 (FP.Core.roundRatio FP.Core.b32 (decide ((iL z).toInt < 0)) (iL z).toInt.natAbs 1 0))).toNat = _
  rw [iL_t (by omega), fp_r1 fp_p h1 h2 h3 (by rw [fp_q]; omega) (by rw [fp_Q]; omega), fp_rt _ b1 b2 (by omega) (by omega)]
  congr 1
  omega
theorem fp_l2d (z : Int) (h0 : z ≠ 0) (h : z.natAbs < 9007199254740992) : FP.Core.decode FP.Core.b64 (FP.l2d (iL z)).toNat = .fin (decide (z < 0)) (z.natAbs * 2 ^ (52 - z.natAbs.log2)) ((z.natAbs.log2 : Int) - 52) := by
  have a0 : z.natAbs ≠ 0 := by omega
  obtain ⟨h1, h2⟩ := fp_k a0
  have h3 := fp_klt (w := 52) a0 h
  obtain ⟨b1, b2⟩ := fp_pw h1 h2 h3
  show FP.Core.decode FP.Core.b64 (UInt64.ofNat (FP.Core.encode FP.Core.b64 (FP.Core.roundRatio FP.Core.b64 (decide ((iL z).toInt < 0)) (iL z).toInt.natAbs 1 0))).toNat = _
  rw [iL_t (by omega), fp_r1 fp_p6 h1 h2 h3 (by rw [fp_q6]; omega) (by rw [fp_Q6]; omega), fp_rt6 _ b1 b2 (by omega) (by omega)]
  congr 1
  omega
theorem fp_l2d0 : FP.Core.decode FP.Core.b64 (FP.l2d (iL 0)).toNat = .fin false 0 (-1074) := by decide +kernel
theorem fp_l2f0 : FP.Core.decode FP.Core.b32 (FP.l2f (iL 0)).toNat = .fin false 0 (-149) := by decide +kernel
/-- an order of whole numbers -/
theorem fp_lt {a b : Int} (h : a < b) : compare a b = .lt := by
  show compareOfLessAndEq a b = .lt
  unfold compareOfLessAndEq
  rw [if_pos h]
theorem fp_eq (a : Int) : compare a a = .eq := by
  show compareOfLessAndEq a a = .eq
  unfold compareOfLessAndEq
  rw [if_neg (by omega), if_pos rfl]
theorem fp_gt {a b : Int} (h : b < a) : compare a b = .gt := by
  show compareOfLessAndEq a b = .gt
  unfold compareOfLessAndEq
  rw [if_neg (by omega), if_neg (by omega)]
end
