/-! sets of points as bits (the rows bt, b_ext .. b_sshr began as rows of the kit's BITS to paste) -/
def bt (x : Int32) (i : Nat) : Bool := x.toBitVec.getLsbD i
theorem b_ext {x y : Int32} (h : ∀ i, i < 32 → bt x i = bt y i) : x = y := Int32.toBitVec_inj.mp (BitVec.eq_of_getLsbD_eq (fun i hi => h i hi))
theorem b_or (x y : Int32) (i : Nat) : bt (x ||| y) i = (bt x i || bt y i) := by unfold bt; rw [Int32.toBitVec_or, BitVec.getLsbD_or]
theorem b_and (x y : Int32) (i : Nat) : bt (x &&& y) i = (bt x i && bt y i) := by unfold bt; rw [Int32.toBitVec_and, BitVec.getLsbD_and]
theorem b_xor (x y : Int32) (i : Nat) : bt (x ^^^ y) i = (bt x i ^^ bt y i) := by unfold bt; rw [Int32.toBitVec_xor, BitVec.getLsbD_xor]
theorem b_m1 : ∀ i, i < 32 → bt (-1) i = true := by decide +kernel
theorem b_0 (i : Nat) : bt 0 i = false := BitVec.getLsbD_zero
theorem b_1 : ∀ i, i < 32 → bt 1 i = decide (i = 0) := by decide +kernel
theorem s_l : ∀ n, n < 32 → ((nI n &&& 31).toBitVec.smod 32).toNat = n := by decide +kernel
theorem b_shl (n : Nat) (hn : n < 32) (x : Int32) {i : Nat} (hi : i < 32) : bt (x <<< (nI n &&& 31)) i = (decide (n ≤ i) && bt x (i - n)) := by
  unfold bt
  rw [Int32.toBitVec_shiftLeft]
  show (x.toBitVec <<< ((nI n &&& 31).toBitVec.smod 32).toNat).getLsbD i = _
  rw [s_l n hn, BitVec.getLsbD_shiftLeft]
  rcases Nat.lt_or_ge i n with h | h
  · simp [h, Nat.not_le.mpr h]
  · simp [hi, h, Nat.not_lt.mpr h]
theorem b_sshr (n : Nat) (hn : n < 32) (x : Int32) {i : Nat} (hi : i < 32) : bt (x >>> (nI n &&& 31)) i = if n + i < 32 then bt x (n + i) else bt x 31 := by
  unfold bt
  rw [Int32.toBitVec_shiftRight]
  show (x.toBitVec.sshiftRight ((nI n &&& 31).toBitVec.smod 32).toNat).getLsbD i = _
  rw [s_l n hn, BitVec.getLsbD_sshiftRight, BitVec.msb_eq_getLsbD_last]
  simp [hi]
theorem nI_i (n : Nat) : iI (n : Int) = nI n := (iI_n n).symm
theorem b_and1 (y : Int32) : (y &&& 1 = 0) = (bt y 0 = false) := by
  apply propext
  constructor
  · intro h
    have h1 := b_and y 1 0
    rw [h, b_0, b_1 0 (by omega)] at h1
    simpa using h1.symm
  · intro h
    apply b_ext
    intro i hi
    rw [b_and, b_1 i hi, b_0]
    by_cases hz : i = 0
    · subst hz; rw [h]; rfl
    · rw [decide_eq_false hz, Bool.and_false]
theorem b_and1' (y : Int32) : (y &&& 1 = 1) = (bt y 0 = true) := by
  apply propext
  constructor
  · intro h
    have h1 := b_and y 1 0
    rw [h, b_1 0 (by omega)] at h1
    simpa using h1.symm
  · intro h
    apply b_ext
    intro i hi
    rw [b_and, b_1 i hi]
    by_cases hz : i = 0
    · subst hz; rw [h]; rfl
    · rw [decide_eq_false hz, Bool.and_false]
/-- is p in x -/
theorem b_tst (x : Int32) {p : Nat} (hp : p < 32) : ((x >>> (iI p &&& 31)) &&& 1 = 0) = (bt x p = false) := by
  rw [b_and1, nI_i, b_sshr p hp x (by omega), Nat.add_zero, if_pos hp]
theorem b_tst1 (x : Int32) {p : Nat} (hp : p < 32) : ((x >>> (iI p &&& 31)) &&& 1 = 1) = (bt x p = true) := by
  rw [b_and1', nI_i, b_sshr p hp x (by omega), Nat.add_zero, if_pos hp]
theorem b_val (x : Int32) {p : Nat} (hp : p < 32) : ((x >>> (iI p &&& 31)) &&& 1) = iI (if bt x p then 1 else 0) := by
  cases h : bt x p with
  | true =>
    rw [if_pos rfl, (show ((x >>> (iI p &&& 31)) &&& 1) = 1 from by rw [b_tst1 x hp]; exact h)]; rfl
  | false =>
    rw [if_neg (by decide), (show ((x >>> (iI p &&& 31)) &&& 1) = 0 from by rw [b_tst x hp]; exact h)]; rfl
theorem b_one {p i : Nat} (hp : p < 32) (hi : i < 32) : bt ((1 : Int32) <<< (iI p &&& 31)) i = decide (i = p) := by
  rw [nI_i, b_shl p hp 1 hi]
  by_cases h : p ≤ i
  · rw [b_1 (i - p) (by omega), decide_eq_true h, Bool.true_and]
    exact decide_eq_decide.mpr (by omega)
  · rw [decide_eq_false h, decide_eq_false (by omega), Bool.false_and]
theorem b_not (x : Int32) {i : Nat} (hi : i < 32) : bt (x ^^^ (-1)) i = !bt x i := by
  rw [b_xor, b_m1 i hi, Bool.xor_true]
theorem b_z {x : Int32} : x = 0 ↔ ∀ i, i < 32 → bt x i = false := by
  constructor
  · intro h i _; rw [h, b_0]
  · intro h; apply b_ext; intro i hi; rw [h i hi, b_0]
/-! the number whose bits are told -/
def gMk (f : Nat → Bool) : Nat → Nat
  | 0 => 0
  | k + 1 => gMk f k + (if f k then 2 ^ k else 0)
theorem gMk_lt (f : Nat → Bool) : ∀ k, gMk f k < 2 ^ k
  | 0 => Nat.one_pos
  | k + 1 => by
    have h := gMk_lt f k
    show gMk f k + (if f k then 2 ^ k else 0) < 2 ^ (k + 1)
    rw [Nat.pow_succ]
    split <;> omega
theorem gMk_bit (f : Nat → Bool) : ∀ k i, (gMk f k).testBit i = (decide (i < k) && f i)
  | 0, i => by show Nat.testBit 0 i = _; simp
  | k + 1, i => by
    have ih := gMk_bit f k
    have hl := gMk_lt f k
    show (gMk f k + (if f k then 2 ^ k else 0)).testBit i = _
    cases hf : f k with
    | false =>
      simp only [Bool.false_eq_true, if_false, Nat.add_zero]
      rw [ih]
      by_cases h : i = k
      · subst h; simp [hf]
      · have e : decide (i < k) = decide (i < k + 1) := decide_eq_decide.mpr (by omega)
        rw [e]
    | true =>
      simp only [if_true]
      rw [Nat.add_comm]
      rcases Nat.lt_trichotomy i k with h | h | h
      · rw [Nat.testBit_two_pow_add_gt h, ih, decide_eq_true h, decide_eq_true (show i < k + 1 by omega)]
      · subst h
        rw [Nat.testBit_two_pow_add_eq, ih, decide_eq_false (Nat.lt_irrefl i), decide_eq_true (show i < i + 1 by omega), hf]
        rfl
      · rw [decide_eq_false (show ¬ i < k + 1 by omega), Bool.false_and]
        apply Nat.testBit_lt_two_pow
        have : (2 : Nat) ^ (k + 1) ≤ 2 ^ i := Nat.pow_le_pow_right (by omega) h
        rw [Nat.pow_succ] at this
        omega
def bS (f : Nat → Bool) : Int32 := Int32.ofNat (gMk f 32)
theorem b_S (f : Nat → Bool) {i : Nat} (hi : i < 32) : bt (bS f) i = f i := by
  unfold bt bS
  show (BitVec.ofNat 32 (gMk f 32)).getLsbD i = f i
  rw [BitVec.getLsbD_ofNat, gMk_bit, decide_eq_true hi, Bool.true_and, Bool.true_and]
theorem bS_of (x : Int32) : bS (bt x) = x := b_ext (fun i hi => b_S _ hi)
theorem bS_cong {f g : Nat → Bool} (h : ∀ i, i < 32 → f i = g i) : bS f = bS g := b_ext (fun i hi => by rw [b_S f hi, b_S g hi, h i hi])
theorem bS_or1 (f : Nat → Bool) {p : Nat} (hp : p < 32) : bS f ||| ((1 : Int32) <<< (iI p &&& 31)) = bS (fun i => f i || decide (i = p)) := b_ext (fun i hi => by rw [b_or, b_S f hi, b_one hp hi, b_S _ hi])
theorem bS_xor1 (f : Nat → Bool) {p : Nat} (hp : p < 32) : bS f ^^^ ((1 : Int32) <<< (iI p &&& 31)) = bS (fun i => f i ^^ decide (i = p)) := b_ext (fun i hi => by rw [b_xor, b_S f hi, b_one hp hi, b_S _ hi])
theorem bS_sub (f g : Nat → Bool) : bS f &&& (bS g ^^^ (-1)) = bS (fun i => f i && !g i) := b_ext (fun i hi => by rw [b_and, b_not _ hi, b_S f hi, b_S g hi, b_S _ hi])
theorem bS_sub1 (f : Nat → Bool) {p : Nat} (hp : p < 32) : bS f &&& (((1 : Int32) <<< (iI p &&& 31)) ^^^ (-1)) = bS (fun i => f i && !decide (i = p)) := b_ext (fun i hi => by rw [b_and, b_not _ hi, b_S f hi, b_one hp hi, b_S _ hi])
theorem bS_z (f : Nat → Bool) : (bS f = 0) = ∀ i, i < 32 → f i = false := propext ⟨fun h i hi => by rw [← b_S f hi, h, b_0], fun h => b_z.mpr (fun i hi => by rw [b_S f hi, h i hi])⟩
theorem bS_0 : (0 : Int32) = bS (fun _ => false) := b_ext (fun i hi => by rw [b_S _ hi, b_0])
/-- the set of the first n -/
theorem bS_all : ∀ n : Nat, n < 21 → ((1 : Int32) <<< (iI (n : Int) &&& 31)) - 1 = bS (fun i => decide (i < n)) := by decide +kernel
theorem bS_tst (f : Nat → Bool) {p : Nat} (hp : p < 32) : ((bS f >>> (iI p &&& 31)) &&& 1 = 0) = (f p = false) := by rw [b_tst _ hp, b_S f hp]
theorem bS_tst1 (f : Nat → Bool) {p : Nat} (hp : p < 32) : ((bS f >>> (iI p &&& 31)) &&& 1 = 1) = (f p = true) := by rw [b_tst1 _ hp, b_S f hp]
theorem bS_val (f : Nat → Bool) {p : Nat} (hp : p < 32) : ((bS f >>> (iI p &&& 31)) &&& 1) = iI (if f p then 1 else 0) := by rw [b_val _ hp, b_S f hp]
