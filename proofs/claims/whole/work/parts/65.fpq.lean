section
/-! centre, roundness, share, by both sides -/
theorem fp_c2 : FP.Core.decode FP.Core.b32 FP.fconst2.toNat = .fin false 8388608 (-22) := by decide +kernel
theorem fp_c1 : FP.Core.decode FP.Core.b32 FP.fconst1.toNat = .fin false 8388608 (-23) := by decide +kernel
theorem fp_c23 : FP.Core.decode FP.Core.b32 (1258291200 : UInt32).toNat = .fin false 8388608 0 := by decide +kernel
theorem fp_d2 : FP.Core.decode FP.Core.b64 (4611686018427387904 : UInt64).toNat = .fin false 4503599627370496 (-51) := by decide +kernel
theorem fp_d0 : FP.Core.decode FP.Core.b64 FP.dconst0.toNat = .fin false 0 (-1074) := by decide +kernel
theorem fp_mul2 {x : UInt32} {C : Nat} {Q : Int} (h : FP.Core.decode FP.Core.b32 x.toNat = .fin false C Q) (h1 : 8388608 ≤ C) (h2 : C < 16777216) (h3 : -149 ≤ Q) (h4 : Q < 104) : FP.Core.decode FP.Core.b32 (FP.fmul x FP.fconst2).toNat = .fin false C (Q + 1) := by
  show FP.Core.decode FP.Core.b32 (UInt32.ofNat (FP.Core.encode FP.Core.b32 (FP.Core.round FP.Core.b32 (FP.Core.exactProduct (FP.Core.decode FP.Core.b32 x.toNat) (FP.Core.decode FP.Core.b32 FP.fconst2.toNat))))).toNat = _
  rw [h, fp_c2]
  show FP.Core.decode FP.Core.b32 (UInt32.ofNat (FP.Core.encode FP.Core.b32 (FP.Core.roundRatio FP.Core.b32 false (C * 2 ^ 23) 1 (Q + -22)))).toNat = _
  rw [fp_r2 fp_p h1 h2 (by rw [fp_q]; omega) (by rw [fp_Q]; omega), fp_rt _ h1 h2 (by omega) (by omega), show Q + -22 + ((23 : Nat) : Int) = Q + 1 by omega]
theorem fp_cmp1 {x : UInt32} {C : Nat} {Q : Int} (h : FP.Core.decode FP.Core.b32 x.toNat = .fin false C Q) (h1 : 8388608 ≤ C) (h2 : C < 16777216) (h4 : Q ≤ -23) : (0 ≤ Op.cmpValue (FP.fcmp x FP.fconst1) .g) = (Q = -23) := by
  have e : FP.fcmp x FP.fconst1 = some (compare ((C * 2 ^ (Q - min Q (-23)).toNat : Nat) : Int) ((8388608 * 2 ^ (-23 - min Q (-23)).toNat : Nat) : Int)) := by
    show FP.Core.order (FP.Core.decode FP.Core.b32 x.toNat) (FP.Core.decode FP.Core.b32 FP.fconst1.toNat) = _
    rw [h, fp_c1]
    rfl
  rw [e]
  by_cases z : Q = -23
  · subst z
    refine propext ⟨fun _ => rfl, fun _ => ?_⟩
    rw [show (-23 - min (-23) (-23) : Int).toNat = 0 by decide, Nat.pow_zero, Nat.mul_one, Nat.mul_one]
    by_cases y : C = 8388608
    · subst y; rw [fp_eq]; decide
    · rw [fp_gt (by omega)]; decide
  · rw [show min Q (-23) = Q by omega, show (Q - Q).toNat = 0 by omega, Nat.pow_zero, Nat.mul_one]
    have p := Nat.pow_le_pow_right (show 0 < 2 by decide) (show 1 ≤ (-23 - Q).toNat by omega)
    rw [fp_lt (by omega)]
    exact propext ⟨fun w => absurd w (by decide), fun w => absurd w z⟩
theorem fp_sub1 {x : UInt32} {C : Nat} (h : FP.Core.decode FP.Core.b32 x.toNat = .fin false C (-23)) (h1 : 8388608 ≤ C) : FP.fsub x FP.fconst1 = UInt32.ofNat (FP.Core.encode FP.Core.b32 (FP.Core.roundRatio FP.Core.b32 false (C - 8388608) 1 (-23))) := by
  show UInt32.ofNat (FP.Core.encode FP.Core.b32 (FP.Core.round FP.Core.b32 (FP.Core.exactSum (FP.Core.decode FP.Core.b32 x.toNat) (FP.Core.negate (FP.Core.decode FP.Core.b32 FP.fconst1.toNat))))) = _
  rw [h, fp_c1]
  have e : FP.Core.exactSum (.fin false C (-23)) (FP.Core.negate (.fin false 8388608 (-23))) = .fin false (C - 8388608) (-23) := by
    show FP.Core.Datum.fin (FP.Core.sumSign false true (FP.Core.sumUnits false C (-23) true 8388608 (-23) (min (-23) (-23)))) (FP.Core.sumUnits false C (-23) true 8388608 (-23) (min (-23) (-23))).natAbs (min (-23) (-23)) = _
    have v : FP.Core.sumUnits false C (-23) true 8388608 (-23) (min (-23) (-23)) = (C : Int) - 8388608 := by
      show ((C * 2 ^ 0 : Nat) : Int) + -((8388608 * 2 ^ 0 : Nat) : Int) = _
      omega
    rw [v, show (min (-23) (-23) : Int) = -23 by decide, show ((C : Int) - 8388608).natAbs = C - 8388608 by omega]
    congr 1
    unfold FP.Core.sumSign
    by_cases z : (C : Int) - 8388608 = 0
    · rw [if_pos z]; rfl
    · rw [if_neg z]; exact decide_eq_false (by omega)
  rw [e]
  rfl
theorem fp_tail {x : UInt32} {C : Nat} (h : FP.Core.decode FP.Core.b32 x.toNat = .fin false C (-23)) (h1 : 8388608 ≤ C) (h2 : C < 16777216) : fm_f32 (FP.fsub x FP.fconst1) = true ∧ fm_f32 (FP.fmul (FP.fsub x FP.fconst1) 1258291200) = true ∧ FP.f2i (FP.fmul (FP.fsub x FP.fconst1) 1258291200) = iI ((C - 8388608 : Nat) : Int) := by
  rw [fp_sub1 h h1]
  refine ⟨fp_n _ _ _ _, ?_⟩
  by_cases z : C = 8388608
  · subst z
    constructor <;> decide +kernel
  · have a0 : C - 8388608 ≠ 0 := by omega
    obtain ⟨k1, k2⟩ := fp_k a0
    have k3 := fp_klt (w := 22) a0 (by omega)
    obtain ⟨b1, b2⟩ := fp_pw (w := 23) k1 k2 (by omega)
    generalize hk : (C - 8388608).log2 = k at *
    generalize hc : C - 8388608 = c at *
    rw [fp_r1 fp_p k1 k2 (by omega) (by rw [fp_q]; omega) (by rw [fp_Q]; omega)]
    have d1 := fp_rt false b1 b2 (q := -23 + (k : Int) - ((23 : Nat) : Int)) (by omega) (by omega)
    generalize hy : UInt32.ofNat (FP.Core.encode FP.Core.b32 (.fin false (c * 2 ^ (23 - k)) (-23 + (k : Int) - ((23 : Nat) : Int)))) = y at *
    have d2 : FP.Core.decode FP.Core.b32 (FP.fmul y 1258291200).toNat = .fin false (c * 2 ^ (23 - k)) ((k : Int) - 23) := by
      show FP.Core.decode FP.Core.b32 (UInt32.ofNat (FP.Core.encode FP.Core.b32 (FP.Core.round FP.Core.b32 (FP.Core.exactProduct (FP.Core.decode FP.Core.b32 y.toNat) (FP.Core.decode FP.Core.b32 (1258291200 : UInt32).toNat))))).toNat = _
      rw [d1, fp_c23]
      show FP.Core.decode FP.Core.b32 (UInt32.ofNat (FP.Core.encode FP.Core.b32 (FP.Core.roundRatio FP.Core.b32 false (c * 2 ^ (23 - k) * 2 ^ 23) 1 (-23 + (k : Int) - ((23 : Nat) : Int) + 0)))).toNat = _
      rw [fp_r2 fp_p b1 b2 (by rw [fp_q]; omega) (by rw [fp_Q]; omega), fp_rt _ b1 b2 (by omega) (by omega), show -23 + (k : Int) - ((23 : Nat) : Int) + 0 + ((23 : Nat) : Int) = (k : Int) - 23 by omega]
    refine ⟨fp_ok (by rw [d2]; intro w; cases w), ?_⟩
    show Int32.ofInt (FP.Core.toInt (-2 ^ 31) (2 ^ 31 - 1) (FP.Core.decode FP.Core.b32 (FP.fmul y 1258291200).toNat)) = Int32.ofInt _
    rw [d2]
    refine congrArg Int32.ofInt ?_
    show max (-2 ^ 31) (min (2 ^ 31 - 1) (((c * 2 ^ (23 - k) * 2 ^ ((k : Int) - 23).toNat / 2 ^ (-((k : Int) - 23)).toNat : Nat) : Nat) : Int)) = ((c : Nat) : Int)
    rw [show ((k : Int) - 23).toNat = 0 by omega, show (-((k : Int) - 23)).toNat = 23 - k by omega, Nat.pow_zero, Nat.mul_one, Nat.mul_div_cancel _ (Nat.two_pow_pos _)]
    have : (c : Int) < 16777216 := by omega
    omega
theorem fp_inv {N C : Nat} {Q : Int} (hN : N < 4294967296) (h : FP.Core.decode FP.Core.b32 N = .fin false C Q) (h1 : 8388608 ≤ C) : -149 ≤ Q ∧ (N : Int) = (150 + Q) * 8388608 + ((C - 8388608 : Nat) : Int) := by
  unfold FP.Core.decode FP.Core.fieldE FP.Core.fieldT FP.Core.fieldS at h
  rw [fp_T, fp_E, fp_q] at h
  by_cases c1 : N / 8388608 % 256 = 256 - 1
  · rw [if_pos c1] at h
    split at h <;> cases h
  · rw [if_neg c1] at h
    by_cases c2 : N / 8388608 % 256 = 0
    · rw [if_pos c2] at h
      injection h with h3 h4 h5
      omega
    · rw [if_neg c2] at h
      injection h with h3 h4 h5
      have h6 : ¬ N / 8388608 / 256 % 2 = 1 := fun z => by rw [z] at h3; cases h3
      omega
theorem u_i (x : UInt32) : x.toInt32 = iI ((x.toNat : Nat) : Int) := by
  rw [← iI_n]
  apply Int32.toBitVec_inj.mp
  show x.toBitVec = BitVec.ofNat 32 x.toBitVec.toNat
  simp
theorem k_bits32 {x : UInt32} {C : Nat} {Q : Int} {M : fm_Mem} (h : FP.Core.decode FP.Core.b32 x.toNat = .fin false C Q) (h1 : 8388608 ≤ C) (h2 : C < 16777216) (h3 : -100 ≤ Q) (h4 : Q ≤ -23) : f_X6_bitsOf x M = some x.toInt32 := by
  unfold f_X6_bitsOf
  have hv := (fp_inv (by have := x.toNat_lt; omega) h h1).2
  rw [show (127 : Int32) = iI (127 - ((0 : Nat) : Int)) by decide]
  obtain ⟨N, hN⟩ : ∃ N : Nat, (N : Int) = -23 - Q := ⟨(-23 - Q).toNat, by omega⟩
  refine pW_eq (pW_lp (fun u i (y : UInt32) => f_X6_bitsOf_5 x u y (iI (127 - (i : Int))) M) (fun i y => FP.Core.decode FP.Core.b32 y.toNat = .fin false C (Q + i)) N ?_ fm_fuel 0 x (by rw [show Q + ((0 : Nat) : Int) = Q by omega]; exact h) (Nat.zero_le _) (by unfold fm_fuel; omega))
  intro u i y hi hI k
  rw [f_X6_bitsOf_5]
  simp only [fp_cmp1 hI h1 h2 (by omega)]
  refine pW_if (fun c => ?_) (fun c => ?_)
  · have eQ : Q + i = -23 := c
    rw [eQ] at hI
    obtain ⟨t1, t2, t3⟩ := fp_tail hI h1 h2
    unfold f_X6_bitsOf_26
    rw [t1, t2, t3, ck_t, ck_t, show (8388608 : Int32) = iI 8388608 by decide, iI_mul, iI_add, u_i]
    refine pW_some ?_
    congr 1
    have : 127 - (i : Int) = 150 + Q := by omega
    rw [this, hv]
  · refine pW_if (fun c1 => ?_) (fun _ => ?_)
    · rw [iI_1, iI_le (by omega) (by omega)] at c1; omega
    · have d := fp_mul2 hI h1 h2 (by omega) (by omega)
      rw [fp_ok (by rw [d]; intro w; cases w), ck_t, iI_m1, iI_add, show 127 - (i : Int) + -1 = 127 - ((i + 1 : Nat) : Int) by omega]
      exact k _ (by omega) (by rw [show Q + ((i + 1 : Nat) : Int) = Q + i + 1 by omega]; exact d)
/-- a quotient below a half, of whole numbers -/
theorem fp_quo {a b : Int} (ha : 0 < a) (hab : 2 * a < b) (hb : b < 16777216) : ∃ C Q, FP.Core.decode FP.Core.b32 (FP.fdiv (FP.l2f (iL a)) (FP.l2f (iL b))).toNat = .fin false C Q ∧ 8388608 ≤ C ∧ C < 16777216 ∧ -100 ≤ Q ∧ Q ≤ -24 := by
  have da := fp_l2f a (by omega) (by omega)
  have db := fp_l2f b (by omega) (by omega)
  obtain ⟨A, rfl⟩ : ∃ A : Nat, a = (A : Int) := ⟨a.toNat, by omega⟩
  obtain ⟨B, rfl⟩ : ∃ B : Nat, b = (B : Int) := ⟨b.toNat, by omega⟩
  rw [Int.natAbs_natCast, decide_eq_false (by omega)] at da db
  have a0 : A ≠ 0 := by omega
  have b0 : B ≠ 0 := by omega
  obtain ⟨a1, a2⟩ := fp_k a0
  obtain ⟨b1, b2⟩ := fp_k b0
  have a3 := fp_klt (w := 23) a0 (by omega)
  have b3 := fp_klt (w := 23) b0 (by omega)
  obtain ⟨n1, n2⟩ := fp_pw a1 a2 a3
  obtain ⟨m1, m2⟩ := fp_pw b1 b2 b3
  generalize A.log2 = k at *
  generalize B.log2 = j at *
  have kj : k + 1 ≤ j := by
    refine Nat.le_of_lt_succ (Classical.byContradiction fun z => ?_)
    have := Nat.pow_le_pow_right (show 0 < 2 by decide) (show j + 1 ≤ k + 1 by omega)
    have e : 2 ^ (k + 1) = 2 * 2 ^ k := by rw [Nat.pow_succ]; omega
    omega
  have near : k + 1 = j → A * 2 ^ (23 - k) < B * 2 ^ (23 - j) := fun e => by
    have e2 : 2 ^ (23 - k) = 2 * 2 ^ (23 - j) := by rw [show 23 - k = (23 - j) + 1 by omega, Nat.pow_succ]; omega
    rw [e2, ← Nat.mul_assoc]
    exact Nat.mul_lt_mul_of_pos_right (by omega) (Nat.two_pow_pos _)
  generalize A * 2 ^ (23 - k) = c at *
  generalize B * 2 ^ (23 - j) = d at *
  have e0 : FP.Core.decode FP.Core.b32 (FP.fdiv (FP.l2f (iL A)) (FP.l2f (iL B))).toNat = FP.Core.decode FP.Core.b32 (UInt32.ofNat (FP.Core.encode FP.Core.b32 (FP.Core.roundRatio FP.Core.b32 false c d ((k : Int) - 23 - ((j : Int) - 23))))).toNat := by
    show FP.Core.decode FP.Core.b32 (UInt32.ofNat (FP.Core.encode FP.Core.b32 (FP.Core.quotient FP.Core.b32 (FP.Core.decode FP.Core.b32 (FP.l2f (iL A)).toNat) (FP.Core.decode FP.Core.b32 (FP.l2f (iL B)).toNat)))).toNat = _
    rw [da, db]
    show FP.Core.decode FP.Core.b32 (UInt32.ofNat (FP.Core.encode FP.Core.b32 (if d = 0 then _ else FP.Core.roundRatio FP.Core.b32 false c d ((k : Int) - 23 - ((j : Int) - 23))))).toNat = _
    rw [if_neg (by omega)]
  rw [e0]
  generalize he : (k : Int) - 23 - ((j : Int) - 23) = e at *
  have fin : ∀ x q, 8388608 * d ≤ x → x < 16777216 * d → -100 ≤ q → q ≤ -25 → ∃ C Q, FP.Core.decode FP.Core.b32 (UInt32.ofNat (FP.Core.encode FP.Core.b32 (FP.Core.settle FP.Core.b32 false (FP.Core.nearest x d) q))).toNat = .fin false C Q ∧ 8388608 ≤ C ∧ C < 16777216 ∧ -100 ≤ Q ∧ Q ≤ -24 := fun x q h1 h2 h3 h4 => by
    have q1 : 8388608 ≤ x / d := (Nat.le_div_iff_mul_le (by omega)).mpr h1
    have q2 : x / d < 16777216 := (Nat.div_lt_iff_lt_mul (by omega)).mpr h2
    have q3 : FP.Core.nearest x d = x / d ∨ FP.Core.nearest x d = x / d + 1 := by
      unfold FP.Core.nearest
      split
      · exact Or.inl rfl
      · split
        · exact Or.inr rfl
        · have := Nat.mod_lt (x / d) (show 2 > 0 by decide); omega
    unfold FP.Core.settle FP.Core.bound
    rw [show FP.Core.b32.p = 24 from rfl, fp_Q, fp_T]
    by_cases z : FP.Core.nearest x d < 2 ^ 24
    · rw [if_pos z, if_pos (by omega), fp_rt false (by omega) z (by omega) (by omega)]
      exact ⟨_, _, rfl, by omega, z, by omega, by omega⟩
    · rw [if_neg z, if_pos (by omega), fp_rt false (by omega) (by omega) (by omega) (by omega)]
      exact ⟨_, _, rfl, by omega, by omega, by omega, by omega⟩
  unfold FP.Core.roundRatio
  rw [if_neg (by omega)]
  have hl := fp_lead n1 n2 m1 m2
  rw [show (((23 : Nat) : Int) - ((23 : Nat) : Int)).toNat = 0 by decide, show (-(((23 : Nat) : Int) - ((23 : Nat) : Int))).toNat = 0 by decide, Nat.pow_zero, Nat.mul_one, Nat.mul_one] at hl
  unfold FP.Core.roundAt FP.Core.quantum FP.Core.unitsNum FP.Core.unitsDen
  rw [hl, fp_q, show ((FP.Core.b32.p : Nat) : Int) = 24 from rfl]
  by_cases dc : d ≤ c
  · rw [if_pos dc]
    have e1 : e ≤ -2 := by
      rcases Nat.lt_or_ge (k + 1) j with y | y
      · omega
      · have := near (by omega); omega
    rw [show max (-149 : Int) (((23 : Nat) : Int) - ((23 : Nat) : Int) + e - (24 - 1)) = e - 23 by omega, show (e - (e - 23)).toNat = 23 by omega, show (e - 23 - e).toNat = 0 by omega, Nat.pow_zero, Nat.mul_one]
    exact fin _ _ (by omega) (by omega) (by omega) (by omega)
  · rw [if_neg dc]
    rw [show max (-149 : Int) (((23 : Nat) : Int) - ((23 : Nat) : Int) - 1 + e - (24 - 1)) = e - 24 by omega, show (e - (e - 24)).toNat = 24 by omega, show (e - 24 - e).toNat = 0 by omega, Nat.pow_zero, Nat.mul_one]
    exact fin _ _ (by omega) (by omega) (by omega) (by omega)
end
