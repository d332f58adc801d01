/-! how many bits: Integer.bitCount and the reference's own count -/
def pcS (k x : Int32) : Int32 := (Int32.toUInt32 x >>> (Int32.toUInt32 k &&& Int32.toUInt32 31)).toInt32
def pc1 (x : Int32) : Int32 := x - (pcS 1 x &&& 1431655765)
def pc2 (x : Int32) : Int32 := (x &&& 858993459) + (pcS 2 x &&& 858993459)
def pc3 (x : Int32) : Int32 := (x + pcS 4 x) &&& 252645135
def pc4 (x : Int32) : Int32 := x + pcS 8 x
def pc5 (x : Int32) : Int32 := (x + pcS 16 x) &&& 63
theorem pc_eq (x : Int32) (M : fm_Mem) : f_J6_bitCount_0f7a4 x M = some (pc5 (pc4 (pc3 (pc2 (pc1 x))))) := rfl
def nN (x : Int32) : Nat := x.toBitVec.toNat
theorem nN_lt (x : Int32) : nN x < 4294967296 := x.toBitVec.isLt
theorem nN_sub {a b : Int32} (h : nN b ≤ nN a) : nN (a - b) = nN a - nN b := by
  have h1 := nN_lt a
  unfold nN at *
  rw [Int32.toBitVec_sub, BitVec.toNat_sub]
  omega
theorem nN_add {a b : Int32} (h : nN a + nN b < 4294967296) : nN (a + b) = nN a + nN b := by
  unfold nN at *
  rw [Int32.toBitVec_add, BitVec.toNat_add]
  omega
theorem nN_and (a b : Int32) : nN (a &&& b) = nN a &&& nN b := by
  unfold nN
  rw [Int32.toBitVec_and, BitVec.toNat_and]
theorem nN_sh {k : Int32} {j : Nat} (hk : ((Int32.toUInt32 k &&& Int32.toUInt32 31).toBitVec % 32).toNat = j) (x : Int32) : nN (pcS k x) = nN x / 2 ^ j := by
  unfold pcS nN
  show (x.toBitVec >>> ((Int32.toUInt32 k &&& Int32.toUInt32 31).toBitVec % 32)).toNat = _
  rw [BitVec.ushiftRight_eq', BitVec.toNat_ushiftRight, hk, Nat.shiftRight_eq_div_pow]
theorem lane (w a b c d : Nat) (hb : b < 2 ^ w) (hd : d < 2 ^ w) : (2 ^ w * a + b) &&& (2 ^ w * c + d) = 2 ^ w * (a &&& c) + (b &&& d) := by
  have hl : b &&& d < 2 ^ w := Nat.and_lt_two_pow _ hd
  apply Nat.eq_of_testBit_eq
  intro i
  rw [Nat.testBit_and, Nat.testBit_two_pow_mul_add _ hb, Nat.testBit_two_pow_mul_add _ hd, Nat.testBit_two_pow_mul_add _ hl]
  by_cases h : i < w
  · rw [if_pos h, if_pos h, if_pos h, Nat.testBit_and]
  · rw [if_neg h, if_neg h, if_neg h, Nat.testBit_and]
theorem lane16 (a b c d : Nat) (hb : b < 16) (hd : d < 16) : (16 * a + b) &&& (16 * c + d) = 16 * (a &&& c) + (b &&& d) := lane 4 a b c d hb hd
def m5 : Nat → Nat
  | 0 => 0
  | k + 1 => 16 * m5 k + 5
def m3 : Nat → Nat
  | 0 => 0
  | k + 1 => 16 * m3 k + 3
def p4 (d : Nat) : Nat := gct (Nat.testBit d) 4
def pS1 (k x : Nat) : Nat := x - ((x / 2) &&& m5 k)
def pS2 (k x : Nat) : Nat := (pS1 k x &&& m3 k) + ((pS1 k x / 4) &&& m3 k)
theorem p_d1 : ∀ d, d < 16 → ∀ b, b < 2 → ((8 * b + d / 2) &&& 5) = ((d / 2) &&& 5) ∧ ((d / 2) &&& 5) ≤ d ∧ d - ((d / 2) &&& 5) < 16 := by decide +kernel
theorem p_d2 : ∀ e, e < 16 → ∀ b, b < 4 → ((4 * b + e / 4) &&& 3) = e / 4 := by decide +kernel
theorem p_d3 : ∀ d, d < 16 → ((d - ((d / 2) &&& 5)) &&& 3) + (d - ((d / 2) &&& 5)) / 4 = p4 d ∧ p4 d ≤ 4 := by decide +kernel
theorem pS1_s (k y d : Nat) (hd : d < 16) : pS1 (k + 1) (16 * y + d) = 16 * pS1 k y + (d - ((d / 2) &&& 5)) := by
  unfold pS1
  have e : (16 * y + d) / 2 = 16 * (y / 2) + (8 * (y % 2) + d / 2) := by omega
  have h1 := p_d1 d hd (y % 2) (by omega)
  have h2 : (y / 2) &&& m5 k ≤ y / 2 := Nat.and_le_left
  rw [e, show m5 (k + 1) = 16 * m5 k + 5 from rfl, lane16 _ _ _ _ (by omega) (by omega), h1.1]
  omega
theorem pS2_s (k y d : Nat) (hd : d < 16) : pS2 (k + 1) (16 * y + d) = 16 * pS2 k y + p4 d := by
  have h1 := p_d1 d hd 0 (by omega)
  unfold pS2
  rw [pS1_s k y d hd]
  generalize he : d - ((d / 2) &&& 5) = e
  have e16 : e < 16 := by rw [← he]; exact h1.2.2
  have h3 := (p_d3 d hd).1
  rw [he] at h3
  have q : (16 * pS1 k y + e) / 4 = 16 * (pS1 k y / 4) + (4 * (pS1 k y % 4) + e / 4) := by omega
  have h2 := p_d2 e e16 (pS1 k y % 4) (by omega)
  rw [q, show m3 (k + 1) = 16 * m3 k + 3 from rfl, lane16 _ _ _ _ e16 (by omega), lane16 _ _ _ _ (by omega) (by omega), h2]
  omega
theorem pS2_0 (x : Nat) : pS2 0 x = 0 := by unfold pS2 m3; rw [Nat.and_zero, Nat.and_zero]
theorem gct_sh (p : Nat → Bool) (a : Nat) : ∀ k, gct p (a + k) = gct p a + gct (fun i => p (a + i)) k
  | 0 => rfl
  | k + 1 => by rw [← Nat.add_assoc, gct_s, gct_sh p a k, gct_s]; omega
theorem p4_g (k y d : Nat) (hd : d < 16) : gct (Nat.testBit (16 * y + d)) (4 + k) = p4 d + gct (Nat.testBit y) k := by
  have hd' : d < 2 ^ 4 := hd
  rw [gct_sh]
  congr 1
  · apply gct_cong
    intro j hj
    show (2 ^ 4 * y + d).testBit j = _
    rw [Nat.testBit_two_pow_mul_add _ hd', if_pos hj]
  · apply gct_cong
    intro j hj
    show (2 ^ 4 * y + d).testBit (4 + j) = _
    rw [Nat.testBit_two_pow_mul_add _ hd', if_neg (by omega)]
    congr 1
    omega
theorem p_dig {x : Nat} (hx : x < 4294967296) : ∃ a b c d e f g h : Nat, (a < 16 ∧ b < 16 ∧ c < 16 ∧ d < 16 ∧ e < 16 ∧ f < 16 ∧ g < 16 ∧ h < 16) ∧ x = 16 * (16 * (16 * (16 * (16 * (16 * (16 * (16 * 0 + h) + g) + f) + e) + d) + c) + b) + a := by
  refine ⟨x % 16, x / 16 % 16, x / 256 % 16, x / 4096 % 16, x / 65536 % 16, x / 1048576 % 16, x / 16777216 % 16, x / 268435456, by omega, by omega⟩
theorem p_end : ∀ a, a < 9 → (a &&& 15) = a := by decide +kernel
theorem lane256 (a b c d : Nat) (hb : b < 256) (hd : d < 256) : (256 * a + b) &&& (256 * c + d) = 256 * (a &&& c) + (b &&& d) := lane 8 a b c d hb hd
theorem p_15 (a b : Nat) (ha : a < 16) (hb : b < 16) : (16 * b + a) &&& 15 = a := by
  have := lane16 b a 0 15 ha (by omega)
  rw [Nat.mul_zero, Nat.zero_add, Nat.and_zero, Nat.mul_zero, Nat.zero_add] at this
  rw [this]
  exact (by decide +kernel : ∀ a, a < 16 → (a &&& 15) = a) a ha
theorem d16 (y a : Nat) (h : a < 16) : (16 * y + a) / 16 = y := by omega
theorem d256 (y a : Nat) (h : a < 256) : (256 * y + a) / 256 = y := by omega
theorem d64k (y a : Nat) (h : a < 65536) : (65536 * y + a) / 65536 = y := by omega
theorem p_b8 {a b c d e f g h : Nat} (ha : a ≤ 15) (hb : b ≤ 15) (hc : c ≤ 15) (hd : d ≤ 15) (he : e ≤ 15) (hf : f ≤ 15) (hg : g ≤ 15) (hh : h ≤ 15) : 16 * (16 * (16 * (16 * (16 * (16 * (16 * (16 * 0 + h) + g) + f) + e) + d) + c) + b) + a < 4294967296 := by omega
theorem p_l1 (a b c d e f g h : Nat) : (16 * (16 * (16 * (16 * (16 * (16 * (16 * (16 * 0 + h) + g) + f) + e) + d) + c) + b) + a) + (16 * (16 * (16 * (16 * (16 * (16 * (16 * 0 + h) + g) + f) + e) + d) + c) + b) = 16 * (16 * (16 * (16 * (16 * (16 * (16 * (16 * 0 + h) + (g + h)) + (f + g)) + (e + f)) + (d + e)) + (c + d)) + (b + c)) + (a + b) := by omega
theorem p_l2 (a b c d e f g h : Nat) : 16 * (16 * (16 * (16 * (16 * (16 * (16 * (16 * 0 + h) + g) + f) + e) + d) + c) + b) + a = 256 * (256 * (256 * (16 * h + g) + (16 * f + e)) + (16 * d + c)) + (16 * b + a) := by omega
theorem p_l3 (a b c d : Nat) : (256 * (256 * (256 * d + c) + b) + a) + (256 * (256 * d + c) + b) = 256 * (256 * (256 * d + (c + d)) + (b + c)) + (a + b) := by omega
theorem p_b4 {a b c d : Nat} (ha : a ≤ 255) (hb : b ≤ 255) (hc : c ≤ 255) (hd : d ≤ 255) : 256 * (256 * (256 * d + c) + b) + a < 4294967296 := by omega
theorem p_l4 (a b c d : Nat) : 256 * (256 * (256 * d + c) + b) + a = 65536 * (256 * d + c) + (256 * b + a) := by omega
theorem p_l5 (a b c d : Nat) : (256 * (256 * (256 * d + c) + b) + a) + (256 * d + c) = 64 * (4 * (256 * (256 * d + c) + b) + 4 * d) + (a + c) := by omega
theorem p_s3 {x a b c d e f g h : Nat} (ha : a ≤ 4) (hb : b ≤ 4) (hc : c ≤ 4) (hd : d ≤ 4) (he : e ≤ 4) (hf : f ≤ 4) (hg : g ≤ 4) (hh : h ≤ 4) (hx : x = 16 * (16 * (16 * (16 * (16 * (16 * (16 * (16 * 0 + h) + g) + f) + e) + d) + c) + b) + a) : x + x / 16 < 4294967296 ∧ (x + x / 16) &&& 252645135 = 256 * (256 * (256 * (g + h) + (e + f)) + (c + d)) + (a + b) := by
  rw [hx, d16 _ _ (by clear hx; omega), p_l1]
  refine ⟨p_b8 (by clear hx; omega) (by clear hx; omega) (by clear hx; omega) (by clear hx; omega) (by clear hx; omega) (by clear hx; omega) (by clear hx; omega) (by clear hx; omega), ?_⟩
  rw [p_l2, show 252645135 = 256 * (256 * (256 * 15 + 15) + 15) + 15 from rfl]
  clear hx
  rw [lane256 _ _ _ _ (by omega) (by omega), lane256 _ _ _ _ (by omega) (by omega), lane256 _ _ _ _ (by omega) (by omega), p_15 _ _ (by omega) (by omega), p_15 _ _ (by omega) (by omega), p_15 _ _ (by omega) (by omega), p_15 _ _ (by omega) (by omega)]
theorem p_s4 {x a b c d : Nat} (ha : a ≤ 8) (hb : b ≤ 8) (hc : c ≤ 8) (hd : d ≤ 8) (hx : x = 256 * (256 * (256 * d + c) + b) + a) : x + x / 256 < 4294967296 ∧ x + x / 256 = 256 * (256 * (256 * d + (c + d)) + (b + c)) + (a + b) := by
  rw [hx, d256 _ _ (by clear hx; omega), p_l3]
  exact ⟨p_b4 (by clear hx; omega) (by clear hx; omega) (by clear hx; omega) (by clear hx; omega), rfl⟩
theorem p_s5 {x a b c d : Nat} (ha : a ≤ 16) (hb : b ≤ 16) (hc : c ≤ 16) (hd : d ≤ 16) (hx : x = 256 * (256 * (256 * d + c) + b) + a) : x + x / 65536 < 4294967296 ∧ (x + x / 65536) % 64 = a + c := by
  have e : x / 65536 = 256 * d + c := by rw [hx, p_l4, d64k _ _ (by clear hx; omega)]
  rw [e, hx]
  clear e hx
  constructor
  · omega
  · rw [p_l5, Nat.mul_add_mod, Nat.mod_eq_of_lt (by omega)]
theorem pc_s12 (x : Int32) : nN (pc2 (pc1 x)) = pS2 8 (nN x) ∨ ¬ pS2 8 (nN x) < 4294967296 := by
  have s1 : nN (pc1 x) = pS1 8 (nN x) := by
    have e1 : nN (pcS 1 x &&& 1431655765) = (nN x / 2) &&& m5 8 := by rw [nN_and, nN_sh (j := 1) (by decide +kernel)]; rfl
    have h1 : (nN x / 2) &&& m5 8 ≤ nN x / 2 := Nat.and_le_left
    have h2 : nN x / 2 ≤ nN x := Nat.div_le_self _ _
    unfold pc1 pS1
    rw [nN_sub (by rw [e1]; exact Nat.le_trans h1 h2), e1]
  by_cases hb : pS2 8 (nN x) < 4294967296
  · left
    have e1 : nN (pc1 x &&& 858993459) = (pS1 8 (nN x)) &&& m3 8 := by rw [nN_and, s1]; rfl
    have e2 : nN (pcS 2 (pc1 x) &&& 858993459) = (pS1 8 (nN x) / 4) &&& m3 8 := by rw [nN_and, nN_sh (j := 2) (by decide +kernel), s1]; rfl
    have e3 : nN (pc1 x &&& 858993459) + nN (pcS 2 (pc1 x) &&& 858993459) = pS2 8 (nN x) := by rw [e1, e2]; rfl
    unfold pc2
    rw [nN_add (by rw [e3]; exact hb), e3]
  · right; exact hb
theorem pc_val (x : Int32) : nN (pc5 (pc4 (pc3 (pc2 (pc1 x))))) = gct (bt x) 32 := by
  obtain ⟨a, b, c, d, e, f, g, h, ⟨ha, hb, hc, hd, he, hf, hg, hh⟩, hx⟩ := p_dig (nN_lt x)
  have qa := (p_d3 a ha).2
  have qb := (p_d3 b hb).2
  have qc := (p_d3 c hc).2
  have qd := (p_d3 d hd).2
  have qe := (p_d3 e he).2
  have qf := (p_d3 f hf).2
  have qg := (p_d3 g hg).2
  have qh := (p_d3 h hh).2
  have hG : gct (bt x) 32 = p4 a + (p4 b + (p4 c + (p4 d + (p4 e + (p4 f + (p4 g + (p4 h + 0))))))) := by
    have e1 : gct (bt x) 32 = gct (Nat.testBit (nN x)) (4 + (4 + (4 + (4 + (4 + (4 + (4 + (4 + 0)))))))) := gct_cong (fun j hj => BitVec.testBit_toNat _ |>.symm)
    rw [e1, hx, p4_g _ _ _ ha, p4_g _ _ _ hb, p4_g _ _ _ hc, p4_g _ _ _ hd, p4_g _ _ _ he, p4_g _ _ _ hf, p4_g _ _ _ hg, p4_g _ _ _ hh]
    rfl
  have hS2 : pS2 8 (nN x) = 16 * (16 * (16 * (16 * (16 * (16 * (16 * (16 * 0 + p4 h) + p4 g) + p4 f) + p4 e) + p4 d) + p4 c) + p4 b) + p4 a := by
    rw [hx, pS2_s _ _ _ ha, pS2_s _ _ _ hb, pS2_s _ _ _ hc, pS2_s _ _ _ hd, pS2_s _ _ _ he, pS2_s _ _ _ hf, pS2_s _ _ _ hg, pS2_s _ _ _ hh, pS2_0]
  have s2 := (pc_s12 x).resolve_right (fun z => z (by rw [hS2]; clear hx hS2 hG; exact p_b8 (by omega) (by omega) (by omega) (by omega) (by omega) (by omega) (by omega) (by omega)))
  rw [hG]
  clear hx hG ha hb hc hd he hf hg hh
  rw [hS2] at s2
  clear hS2
  generalize p4 a = a at *
  generalize p4 b = b at *
  generalize p4 c = c at *
  generalize p4 d = d at *
  generalize p4 e = e at *
  generalize p4 f = f at *
  generalize p4 g = g at *
  generalize p4 h = h at *
  generalize pc2 (pc1 x) = y at *
  have s3 := p_s3 qa qb qc qd qe qf qg qh s2
  have e3 : nN (pc3 y) = 256 * (256 * (256 * (g + h) + (e + f)) + (c + d)) + (a + b) := by
    have e1 : nN (pcS 4 y) = nN y / 16 := nN_sh (j := 4) (by decide +kernel) y
    unfold pc3
    rw [nN_and, nN_add (by rw [e1]; exact s3.1), e1]
    exact s3.2
  clear s2 s3
  have s4 := p_s4 (by clear e3; omega) (by clear e3; omega) (by clear e3; omega) (by clear e3; omega) e3
  have e4 : nN (pc4 (pc3 y)) = 256 * (256 * (256 * (g + h) + (e + f + (g + h))) + (c + d + (e + f))) + (a + b + (c + d)) := by
    have e1 : nN (pcS 8 (pc3 y)) = nN (pc3 y) / 256 := nN_sh (j := 8) (by decide +kernel) _
    unfold pc4
    rw [nN_add (by rw [e1]; exact s4.1), e1]
    exact s4.2
  clear e3 s4
  have s5 := p_s5 (by clear e4; omega) (by clear e4; omega) (by clear e4; omega) (by clear e4; omega) e4
  have e1 : nN (pcS 16 (pc4 (pc3 y))) = nN (pc4 (pc3 y)) / 65536 := nN_sh (j := 16) (by decide +kernel) _
  unfold pc5
  rw [nN_and, nN_add (by rw [e1]; exact s5.1), e1, show nN 63 = 2 ^ 6 - 1 by decide +kernel, Nat.and_two_pow_sub_one_eq_mod]
  refine s5.2.trans ?_
  clear s5 e1 e4
  omega
theorem k_bits (x : Int32) (M : fm_Mem) : f_J6_bitCount_0f7a4 x M = some (iI (gct (bt x) 32)) := by
  rw [pc_eq, ← pc_val]
  congr 1
  generalize pc5 (pc4 (pc3 (pc2 (pc1 x)))) = y
  apply Int32.toBitVec_inj.mp
  rw [← iI_n]
  show y.toBitVec = BitVec.ofNat 32 y.toBitVec.toNat
  simp
theorem gct_z (p : Nat → Bool) {m : Nat} : ∀ n, m ≤ n → (∀ i, m ≤ i → i < n → p i = false) → gct p n = gct p m
  | 0, h, _ => by rw [show m = 0 by omega]
  | n + 1, h, h1 => by
    by_cases e : m = n + 1
    · rw [e]
    · rw [gct_s, gct_z p n (by omega) (fun i h2 h3 => h1 i h2 (by omega)), h1 n (by omega) (by omega)]; rfl
theorem k_bitsS (f : Nat → Bool) (hf : ∀ i, 20 ≤ i → i < 32 → f i = false) (M : fm_Mem) : f_J6_bitCount_0f7a4 (bS f) M = some (iI (gct f 20)) := by
  rw [k_bits, gct_cong (q := f) (fun j hj => b_S f hj), gct_z f 32 (by omega) hf]
theorem r_bits (f : Nat → Bool) (M : fm_Mem) : f_X7_bits (bS f) M = some (iI (gct f 20)) := by
  refine pW_eq (pW_lp (fun u i (s : Nat) => f_X7_bits_4 (bS f) u (iI s) (iI i) M) (fun i s => s = gct f i) 20 ?_ fm_fuel 0 0 rfl (Nat.zero_le _) (by unfold fm_fuel; omega))
  intro u i s hi hI k
  have h32 : i < 32 := by omega
  rw [f_X7_bits_4, bS_val f h32, iI_add, iI_s, iI_20]
  simp (disch := omega) only [iI_le]
  refine pW_if (fun q => ?_) (fun q => ?_)
  · have e : i = 20 := by omega
    subst e
    exact pW_some (by rw [hI])
  · have := k (s + (if f i then 1 else 0)) (by omega) (by rw [gct_s, hI])
    rw [show ((s : Int) + (if f i then 1 else 0)) = ((s + (if f i then 1 else 0) : Nat) : Int) by split <;> omega]
    exact this
