section
/-! reading a text: tokens, by both sides -/
def rnP (p : Int32 → Bool) (tx : Nat → Int32) (L i e : Nat) : Prop := i ≤ e ∧ e ≤ L ∧ (∀ k, i ≤ k → k < e → p (tx k) = true) ∧ (e < L → p (tx e) = false)
theorem rnP_eq {p : Int32 → Bool} {tx : Nat → Int32} {L i e e' : Nat} (h : rnP p tx L i e) (h' : rnP p tx L i e') : e = e' := by
  obtain ⟨a1, a2, a3, a4⟩ := h
  obtain ⟨b1, b2, b3, b4⟩ := h'
  rcases Nat.lt_trichotomy e e' with z | z | z
  · have := a4 (by omega); rw [b3 e a1 z] at this; cases this
  · exact z
  · have := b4 (by omega); rw [a3 e' b1 z] at this; cases this
theorem rnP_in {p : Int32 → Bool} {tx : Nat → Int32} {L i i' e : Nat} (h : rnP p tx L i e) (h1 : i ≤ i') (h2 : i' ≤ e) : rnP p tx L i' e := ⟨h2, h.2.1, fun k a b => h.2.2.1 k (by omega) b, h.2.2.2⟩
def sp32 (b : Int32) : Bool := decide (b = 32)
def dg (b : Int32) : Bool := decide (¬ b < 48 ∧ ¬ 57 < b)
def sm (b : Int32) : Bool := decide (¬ b < 97 ∧ ¬ 122 < b)
theorem k_dg (b : Int32) (M : fm_Mem) : f_X5_isDigit b M = some (if dg b then 1 else 0) := by
  unfold f_X5_isDigit f_X5_isDigit_16 f_X5_isDigit_17 dg
  rw [bo_0, bo_1, ck_t, ck_t]
  by_cases h1 : b < 48
  · rw [if_pos h1, decide_eq_false (fun z => z.1 h1)]; rfl
  · by_cases h2 : 57 < b
    · rw [if_neg h1, if_pos h2, decide_eq_false (fun z => z.2 h2)]; rfl
    · rw [if_neg h1, if_neg h2, decide_eq_true ⟨h1, h2⟩]; rfl
theorem k_sm (b : Int32) (M : fm_Mem) : f_X5_isLetter b M = some (if sm b then 1 else 0) := by
  unfold f_X5_isLetter f_X5_isLetter_16 f_X5_isLetter_17 sm
  rw [bo_0, bo_1, ck_t, ck_t]
  by_cases h1 : b < 97
  · rw [if_pos h1, decide_eq_false (fun z => z.1 h1)]; rfl
  · by_cases h2 : 122 < b
    · rw [if_neg h1, if_pos h2, decide_eq_false (fun z => z.2 h2)]; rfl
    · rw [if_neg h1, if_neg h2, decide_eq_true ⟨h1, h2⟩]; rfl
theorem r_dg (b : Int32) (M : fm_Mem) : f_X7_isDigit b M = some (if dg b then 1 else 0) := by
  unfold f_X7_isDigit f_X7_isDigit_16 f_X7_isDigit_17 dg
  rw [bo_0, bo_1, ck_t, ck_t]
  by_cases h1 : b < 48
  · rw [if_pos h1, decide_eq_false (fun z => z.1 h1)]; rfl
  · by_cases h2 : 57 < b
    · rw [if_neg h1, if_pos h2, decide_eq_false (fun z => z.2 h2)]; rfl
    · rw [if_neg h1, if_neg h2, decide_eq_true ⟨h1, h2⟩]; rfl
theorem r_sm (b : Int32) (M : fm_Mem) : f_X7_isSmall b M = some (if sm b then 1 else 0) := by
  unfold f_X7_isSmall f_X7_isSmall_16 f_X7_isSmall_17 sm
  rw [bo_0, bo_1, ck_t, ck_t]
  by_cases h1 : b < 97
  · rw [if_pos h1, decide_eq_false (fun z => z.1 h1)]; rfl
  · by_cases h2 : 122 < b
    · rw [if_neg h1, if_pos h2, decide_eq_false (fun z => z.2 h2)]; rfl
    · rw [if_neg h1, if_neg h2, decide_eq_true ⟨h1, h2⟩]; rfl
theorem bi0 {b : Bool} : ((if b = true then (1 : Int32) else 0) = 0) = (b = false) := by cases b <;> simp
theorem dg_r {b : Int32} (h : dg b = true) : 48 ≤ b.toInt ∧ b.toInt ≤ 57 := by
  have h1 := of_decide_eq_true h
  rw [i_lt, i_lt] at h1
  have a : (48 : Int32).toInt = 48 := by decide
  have c : (57 : Int32).toInt = 57 := by decide
  omega
/-- the numbers that both sides make of digits -/
def cN (tx : Nat → Int32) (j : Nat) : Nat → Int
  | 0 => 0
  | t + 1 => min (cN tx j t * 10 + (tx (j + t)).toInt - 48) 1000
def rN (tx : Nat → Int32) (j : Nat) : Nat → Int
  | 0 => 0
  | t + 1 => if 100000 < rN tx j t then rN tx j t else 10 * rN tx j t + (tx (j + t)).toInt - 48
theorem cN_r {tx : Nat → Int32} {j : Nat} : ∀ t, (∀ k, k < t → dg (tx (j + k)) = true) → 0 ≤ cN tx j t ∧ cN tx j t ≤ 1000
  | 0, _ => ⟨Int.le_refl _, by show (0 : Int) ≤ 1000; omega⟩
  | t + 1, h => by
    have ih := cN_r t (fun k hk => h k (by omega))
    have d := dg_r (h t (by omega))
    unfold cN
    omega
theorem nv {tx : Nat → Int32} {j : Nat} : ∀ t, (∀ k, k < t → dg (tx (j + k)) = true) → (cN tx j t = rN tx j t ∧ 0 ≤ rN tx j t ∧ rN tx j t < 1000) ∨ (cN tx j t = 1000 ∧ 1000 ≤ rN tx j t ∧ rN tx j t ≤ 2000000)
  | 0, _ => Or.inl ⟨rfl, Int.le_refl _, by show (0 : Int) < 1000; omega⟩
  | t + 1, h => by
    have ih := nv t (fun k hk => h k (by omega))
    have d := dg_r (h t (by omega))
    unfold cN rN
    rcases ih with ⟨a, b, c⟩ | ⟨a, b, c⟩
    · rw [if_neg (by omega)]; omega
    · by_cases z : 100000 < rN tx j t
      · rw [if_pos z]; omega
      · rw [if_neg z]; omega
theorem nv_le {c r g : Int} (h : (c = r ∧ 0 ≤ r ∧ r < 1000) ∨ (c = 1000 ∧ 1000 ≤ r ∧ r ≤ 2000000)) (hg : g ≤ 200) : (c ≤ g ↔ 0 ≤ r ∧ r ≤ g) ∧ (c ≤ g → c = r) := by omega
def slen (i : Nat) : Nat := fm_slen.getD i 0
def byt (i k : Nat) : Int32 := (fm_sbyt.getD i []).getD k 0
def wdB (tx : Nat → Int32) (j e i : Nat) : Bool := decide (e = j + slen i ∧ ∀ k, k < slen i → tx (j + k) = byt i k)
def kW (tx : Nat → Int32) (j e : Nat) : Int := if wdB tx j e 0 then 3 else if wdB tx j e 1 then 4 else if wdB tx j e 2 then 5 else 6
theorem slen_b : ∀ i, i < 6 → slen i ≤ 5 := by decide
theorem s_len (i : Nat) : f_S_length i = some (iI (slen i)) := congrArg some (iI_n _)
theorem s_chr {i k : Nat} (hi : i < 6) (hk : k < slen i) : f_S_charAt i (iI k) = some (byt i k) := by
  have := slen_b i hi
  unfold f_S_charAt
  rw [in_t (show k < fm_slen.getD i 0 from hk) (show slen i < 9000 by omega), ck_t, iI_nn (by omega), Int.toNat_natCast]
  rfl
def cTx (P : Nat) (M : fm_Mem) (tx : Nat → Int32) (L : Nat) : Prop := M P 3 = iI L ∧ L ≤ 400 ∧ ∀ k, k < L → M (P + 2) k = tx k
def rTx (R : Nat) (M : fm_Mem) (tx : Nat → Int32) (L : Nat) : Prop := M R 12 = iI L ∧ L ≤ 400 ∧ ∀ k, k < L → M (R + 6) k = tx k
/-- the class's token that begins at j -/
def Tok (P : Nat) (tx : Nat → Int32) (L j : Nat) (M : fm_Mem) : Prop := M P 6 = iI j ∧ ((j = L ∧ M P 5 = iI 0 ∧ M P 4 = iI L) ∨ (j < L ∧ dg (tx j) = true ∧ M P 5 = iI 2 ∧ ∃ e, rnP dg tx L j e ∧ M P 4 = iI e ∧ M P 7 = iI (cN tx j (e - j))) ∨ (j < L ∧ dg (tx j) = false ∧ sm (tx j) = true ∧ ∃ e, rnP sm tx L j e ∧ M P 4 = iI e ∧ M P 5 = iI (kW tx j e)) ∨ (j < L ∧ dg (tx j) = false ∧ sm (tx j) = false ∧ M P 4 = iI ((j + 1 : Nat) : Int) ∧ M P 5 = iI (if tx j = 59 then 1 else 6)))
section LX
variable {P R L : Nat} {tx : Nat → Int32} {M : fm_Mem}
theorem c_tx (h : cTx P M tx L) {k : Nat} (hk : k < L) : f_X4_get (P + 1) 400 (iI k) M = some (tx k) := (k_get (by have := h.2.1; omega) (by omega)).trans (congrArg some (h.2.2 k hk))
theorem k_isWord (h : cTx P M tx L) {j e i : Nat} (hi : i < 6) (h6 : M P 6 = iI j) (h4 : M P 4 = iI e) (hj : j ≤ e) (he : e ≤ L) : f_X5_isWord P i M = some (if wdB tx j e i then 1 else 0) := by
  have sl := slen_b i hi
  have hL := h.2.1
  unfold f_X5_isWord
  rw [s_len, bd_s, h4, h6, iI_sub]
  by_cases c : e = j + slen i
  · rw [if_pos (by rw [iI_eq (by omega) (by omega)]; omega)]
    rw [show f_X5_isWord_20 P i fm_fuel 0 M = f_X5_isWord_20 P i fm_fuel (iI ((0 : Nat) : Int)) M from rfl]
    refine pW_eq (pW_lp (fun u k (_ : Unit) => f_X5_isWord_20 P i u (iI k) M) (fun k _ => ∀ k', k' < k → tx (j + k') = byt i k') (slen i) ?_ fm_fuel 0 () (fun k' z => absurd z (Nat.not_lt_zero k')) (Nat.zero_le _) (by unfold fm_fuel; omega))
    intro u k _ hk hI kk
    rw [f_X5_isWord_20, s_len, bd_s]
    refine pW_if (fun q => ?_) (fun q => ?_)
    · rw [iI_le (by omega) (by omega)] at q
      have ek : k = slen i := by omega
      subst ek
      exact pW_some (by rw [show wdB tx j e i = true from decide_eq_true ⟨c, hI⟩]; rfl)
    · rw [iI_le (by omega) (by omega)] at q
      rw [h6, iI_add, show (j : Int) + (k : Int) = ((j + k : Nat) : Int) by omega, c_tx h (by omega), bd_s, s_chr hi (by omega), bd_s, iI_s]
      refine pW_if (fun q2 => ?_) (fun q2 => ?_)
      · refine kk () (by omega) (fun k' hk' => ?_)
        by_cases e' : k' = k
        · rw [e']; exact q2
        · exact hI k' (by omega)
      · exact pW_some (by rw [show wdB tx j e i = false from decide_eq_false (fun z => q2 (z.2 k (by omega)))]; rfl)
  · rw [if_neg (by rw [iI_eq (by omega) (by omega)]; omega), show wdB tx j e i = false from decide_eq_false (fun z => c z.1)]
    rfl
theorem k_num (h : cTx P M tx L) {j : Nat} (h4 : M P 4 = iI j) (hj : j < L) (h6 : M P 6 = iI j) (hd : dg (tx j) = true) : pW (f_X5_readNumber P M) (fun M' => Tok P tx L j M' ∧ ∀ b k, (b ≠ P ∨ (k ≠ 4 ∧ k ≠ 5 ∧ k ≠ 6 ∧ k ≠ 7)) → M' b k = M b k) := by
  have hL := h.2.1
  unfold f_X5_readNumber
  refine pW_lp (fun u t (M1 : fm_Mem) => f_X5_readNumber_10 P u M1) (fun t M1 => (∀ k, k < t → dg (tx (j + k)) = true) ∧ M1 P 4 = iI ((j + t : Nat) : Int) ∧ M1 P 5 = iI 2 ∧ M1 P 6 = iI j ∧ M1 P 7 = iI (cN tx j t) ∧ ∀ b k, (b ≠ P ∨ (k ≠ 4 ∧ k ≠ 5 ∧ k ≠ 6 ∧ k ≠ 7)) → M1 b k = M b k) (L - j) ?_ fm_fuel 0 (fm_up (fm_up M P 5 2) P 7 0) ⟨fun k z => absurd z (Nat.not_lt_zero k), by rw [up_i (by omega), up_i (by omega)]; exact h4, by rw [up_i (by omega), up_s]; rfl, by rw [up_i (by omega), up_i (by omega)]; exact h6, by rw [up_s]; rfl, fun b k z => by rw [up_i (by omega), up_i (by omega)]⟩ (Nat.zero_le _) (by unfold fm_fuel; omega)
  intro u t M1 ht hI kk
  obtain ⟨i1, i2, i3, i4, i5, i6⟩ := hI
  have h1 : cTx P M1 tx L := ⟨(i6 _ _ (by omega)).trans h.1, hL, fun k hk => (i6 _ _ (by omega)).trans (h.2.2 k hk)⟩
  have done : (j + t < L → dg (tx (j + t)) = false) → pW (f_X5_readNumber_83 P M1) (fun M' => Tok P tx L j M' ∧ ∀ b k, (b ≠ P ∨ (k ≠ 4 ∧ k ≠ 5 ∧ k ≠ 6 ∧ k ≠ 7)) → M' b k = M b k) := fun z => pW_some ⟨⟨i4, Or.inr (Or.inl ⟨hj, hd, i3, j + t, ⟨by omega, by omega, fun k a b => by have := i1 (k - j) (by omega); rw [show j + (k - j) = k by omega] at this; exact this, z⟩, i2, by rw [i5, show j + t - j = t by omega]⟩)⟩, i6⟩
  rw [f_X5_readNumber_10, h1.1, i2]
  refine pW_if (fun q => ?_) (fun q => ?_)
  · rw [iI_le (by omega) (by omega)] at q
    exact done (fun z => by omega)
  · rw [iI_le (by omega) (by omega)] at q
    rw [c_tx h1 (show j + t < L by omega), bd_s, k_dg, bd_s, bd_s]
    simp only [bi0]
    refine pW_if (fun q2 => done (fun _ => q2)) (fun q2 => ?_)
    have dt : dg (tx (j + t)) = true := by cases e : dg (tx (j + t)) with | true => rfl | false => exact absurd e q2
    have dr := dg_r dt
    have cr := cN_r t i1
    have ev : fm_min (iI (cN tx j t) * 10 + tx (j + t) - 48) 1000 = iI (cN tx j (t + 1)) := by
      have e1 : iI (cN tx j t) * 10 + tx (j + t) - 48 = iI (cN tx j t * 10 + (tx (j + t)).toInt - 48) := by
        rw [← iI_sub, ← iI_add, ← iI_mul, iI_of, iI_10, show (48 : Int32) = iI 48 by decide]
      rw [e1]
      unfold fm_min
      rw [iI_1000]
      by_cases z : 1000 < cN tx j t * 10 + (tx (j + t)).toInt - 48
      · rw [if_pos (by rw [iI_lt (by omega) (by omega)]; exact z), show cN tx j (t + 1) = min (cN tx j t * 10 + (tx (j + t)).toInt - 48) 1000 from rfl, Int.min_eq_right (by omega)]
      · rw [if_neg (by rw [iI_lt (by omega) (by omega)]; exact z), show cN tx j (t + 1) = min (cN tx j t * 10 + (tx (j + t)).toInt - 48) 1000 from rfl, Int.min_eq_left (by omega)]
    rw [i5, ev]
    refine kk _ (by omega) ⟨fun k hk => ?_, ?_, ?_, ?_, ?_, fun b k z => ?_⟩
    · by_cases e : k = t
      · rw [e]; exact dt
      · exact i1 k (by omega)
    · rw [up_s, up_i (by omega), i2, iI_s]; rfl
    · rw [up_i (by omega), up_i (by omega)]; exact i3
    · rw [up_i (by omega), up_i (by omega)]; exact i4
    · rw [up_i (by omega), up_s]
    · rw [up_i (by omega), up_i (by omega)]; exact i6 b k z
theorem k_word (h : cTx P M tx L) {j : Nat} (h4 : M P 4 = iI j) (hj : j < L) (h6 : M P 6 = iI j) (hd : dg (tx j) = false) (hs : sm (tx j) = true) : pW (f_X5_readWord P M) (fun M' => Tok P tx L j M' ∧ ∀ b k, (b ≠ P ∨ (k ≠ 4 ∧ k ≠ 5 ∧ k ≠ 6 ∧ k ≠ 7)) → M' b k = M b k) := by
  have hL := h.2.1
  unfold f_X5_readWord
  refine pW_lp (fun u t (M1 : fm_Mem) => f_X5_readWord_0 P u M1) (fun t M1 => (∀ k, k < t → sm (tx (j + k)) = true) ∧ M1 P 4 = iI ((j + t : Nat) : Int) ∧ M1 P 6 = iI j ∧ ∀ b k, (b ≠ P ∨ (k ≠ 4 ∧ k ≠ 5 ∧ k ≠ 6 ∧ k ≠ 7)) → M1 b k = M b k) (L - j) ?_ fm_fuel 0 M ⟨fun k z => absurd z (Nat.not_lt_zero k), h4, h6, fun b k z => rfl⟩ (Nat.zero_le _) (by unfold fm_fuel; omega)
  intro u t M1 ht hI kk
  obtain ⟨i1, i2, i4, i6⟩ := hI
  have h1 : cTx P M1 tx L := ⟨(i6 _ _ (by omega)).trans h.1, hL, fun k hk => (i6 _ _ (by omega)).trans (h.2.2 k hk)⟩
  have done : (j + t < L → sm (tx (j + t)) = false) → pW (f_X5_readWord_41 P M1) (fun M' => Tok P tx L j M' ∧ ∀ b k, (b ≠ P ∨ (k ≠ 4 ∧ k ≠ 5 ∧ k ≠ 6 ∧ k ≠ 7)) → M' b k = M b k) := fun z => by
    have fin : ∀ K : Int32, K = iI (kW tx j (j + t)) → pW (f_X5_readWord_94 P (fm_up M1 P 5 K)) (fun M' => Tok P tx L j M' ∧ ∀ b k, (b ≠ P ∨ (k ≠ 4 ∧ k ≠ 5 ∧ k ≠ 6 ∧ k ≠ 7)) → M' b k = M b k) := fun K eK => pW_some ⟨⟨(up_i (by omega)).trans i4, Or.inr (Or.inr (Or.inl ⟨hj, hd, hs, j + t, ⟨by omega, by omega, fun k a b => by have := i1 (k - j) (by omega); rw [show j + (k - j) = k by omega] at this; exact this, z⟩, (up_i (by omega)).trans i2, up_s.trans eK⟩))⟩, fun b k y => (up_i (by omega)).trans (i6 b k y)⟩
    unfold f_X5_readWord_41 f_X5_readWord_91
    rw [k_isWord h1 (show 0 < 6 by omega) i4 i2 (by omega) (by omega), bd_s, k_isWord h1 (show 1 < 6 by omega) i4 i2 (by omega) (by omega), bd_s, k_isWord h1 (show 2 < 6 by omega) i4 i2 (by omega) (by omega), bd_s]
    simp only [bi0]
    unfold kW at fin
    refine pW_if (fun q0 => pW_if (fun q1 => pW_if (fun q2 => fin _ ?_) (fun q2 => fin _ ?_)) (fun q1 => fin _ ?_)) (fun q0 => fin _ ?_)
    · rw [q0, q1, q2]; rfl
    · rw [q0, q1, if_neg (by decide), if_neg (by decide), if_pos (by cases e : wdB tx j (j + t) 2 with | true => rfl | false => exact absurd e q2)]; rfl
    · rw [q0, if_neg (by decide), if_pos (by cases e : wdB tx j (j + t) 1 with | true => rfl | false => exact absurd e q1)]; rfl
    · rw [if_pos (by cases e : wdB tx j (j + t) 0 with | true => rfl | false => exact absurd e q0)]; rfl
  rw [f_X5_readWord_0, h1.1, i2]
  refine pW_if (fun q => ?_) (fun q => ?_)
  · rw [iI_le (by omega) (by omega)] at q
    exact done (fun z => by omega)
  · rw [iI_le (by omega) (by omega)] at q
    rw [c_tx h1 (show j + t < L by omega), bd_s, k_sm, bd_s]
    simp only [bi0]
    refine pW_if (fun q2 => done (fun _ => q2)) (fun q2 => ?_)
    have dt : sm (tx (j + t)) = true := by cases e : sm (tx (j + t)) with | true => rfl | false => exact absurd e q2
    refine kk _ (by omega) ⟨fun k hk => ?_, ?_, ?_, fun b k z => ?_⟩
    · by_cases e : k = t
      · rw [e]; exact dt
      · exact i1 k (by omega)
    · rw [up_s, iI_s]; rfl
    · rw [up_i (by omega)]; exact i4
    · rw [up_i (by omega)]; exact i6 b k z
theorem k_adv (h : cTx P M tx L) {i : Nat} (h4 : M P 4 = iI i) (hi : i ≤ L) : pW (f_X5_advance P M) (fun M' => (∃ j, rnP sp32 tx L i j ∧ Tok P tx L j M') ∧ ∀ b k, (b ≠ P ∨ (k ≠ 4 ∧ k ≠ 5 ∧ k ≠ 6 ∧ k ≠ 7)) → M' b k = M b k) := by
  have hL := h.2.1
  unfold f_X5_advance
  refine pW_lp (fun u t (M1 : fm_Mem) => f_X5_advance_0 P u M1) (fun t M1 => (∀ k, k < t → sp32 (tx (i + k)) = true) ∧ M1 P 4 = iI ((i + t : Nat) : Int) ∧ ∀ b k, (b ≠ P ∨ (k ≠ 4 ∧ k ≠ 5 ∧ k ≠ 6 ∧ k ≠ 7)) → M1 b k = M b k) (L - i) ?_ fm_fuel 0 M ⟨fun k z => absurd z (Nat.not_lt_zero k), h4, fun b k z => rfl⟩ (Nat.zero_le _) (by unfold fm_fuel; omega)
  intro u t M1 ht hI kk
  obtain ⟨i1, i2, i6⟩ := hI
  have h1 : cTx P M1 tx L := ⟨(i6 _ _ (by omega)).trans h.1, hL, fun k hk => (i6 _ _ (by omega)).trans (h.2.2 k hk)⟩
  have done : (i + t < L → sp32 (tx (i + t)) = false) → pW (f_X5_advance_40 P M1) (fun M' => (∃ j, rnP sp32 tx L i j ∧ Tok P tx L j M') ∧ ∀ b k, (b ≠ P ∨ (k ≠ 4 ∧ k ≠ 5 ∧ k ≠ 6 ∧ k ≠ 7)) → M' b k = M b k) := fun z => by
    have rn : rnP sp32 tx L i (i + t) := ⟨by omega, by omega, fun k a b => by have := i1 (k - i) (by omega); rw [show i + (k - i) = k by omega] at this; exact this, z⟩
    generalize hj : i + t = j at *
    unfold f_X5_advance_40 f_X5_advance_138 f_X5_advance_151
    have g4 : fm_up M1 P 6 (M1 P 4) P 4 = iI j := (up_i (by omega)).trans i2
    have g3 : fm_up M1 P 6 (M1 P 4) P 3 = iI L := (up_i (by omega)).trans h1.1
    have g6 : fm_up M1 P 6 (M1 P 4) P 6 = iI j := up_s.trans i2
    have fr : ∀ b k, (b ≠ P ∨ (k ≠ 4 ∧ k ≠ 5 ∧ k ≠ 6 ∧ k ≠ 7)) → fm_up M1 P 6 (M1 P 4) b k = M b k := fun b k y => (up_i (by omega)).trans (i6 b k y)
    have h2 : cTx P (fm_up M1 P 6 (M1 P 4)) tx L := ⟨g3, hL, fun k hk => (fr _ _ (by omega)).trans (h.2.2 k hk)⟩
    rw [g4, g3]
    generalize fm_up M1 P 6 (M1 P 4) = M2 at *
    refine pW_if (fun q => ?_) (fun q => ?_)
    · rw [iI_lt (by omega) (by omega)] at q
      have hjL : j < L := by omega
      rw [c_tx h2 hjL, bd_s, k_dg, bd_s, bd_s, k_sm, bd_s, bd_s]
      simp only [bi0]
      refine pW_if (fun q2 => pW_if (fun q3 => ?_) (fun q3 => ?_)) (fun q2 => ?_)
      · have fin : ∀ K : Int32, K = iI (if tx j = 59 then 1 else 6) → pW (some (fm_up (fm_up M2 P 5 K) P 4 (fm_up M2 P 5 K P 4 + 1))) (fun M' => (∃ j, rnP sp32 tx L i j ∧ Tok P tx L j M') ∧ ∀ b k, (b ≠ P ∨ (k ≠ 4 ∧ k ≠ 5 ∧ k ≠ 6 ∧ k ≠ 7)) → M' b k = M b k) := fun K eK => pW_some ⟨⟨j, rn, (by rw [up_i (by omega), up_i (by omega)]; exact g6), Or.inr (Or.inr (Or.inr ⟨hjL, q2, q3, by rw [up_s, up_i (by omega), g4, iI_s], by rw [up_i (by omega), up_s]; exact eK⟩))⟩, fun b k y => by rw [up_i (by omega), up_i (by omega)]; exact fr b k y⟩
        refine pW_if (fun q4 => fin _ ?_) (fun q4 => fin _ ?_)
        · rw [if_pos q4]; rfl
        · rw [if_neg q4]; rfl
      · have st : sm (tx j) = true := by cases e : sm (tx j) with | true => rfl | false => exact absurd e q3
        exact pW_bind (pW_mono (k_word h2 g4 hjL g6 q2 st) (fun r y => pW_some ⟨⟨j, rn, y.1⟩, fun b k w => (y.2 b k w).trans (fr b k w)⟩))
      · have dt : dg (tx j) = true := by cases e : dg (tx j) with | true => rfl | false => exact absurd e q2
        exact pW_bind (pW_mono (k_num h2 g4 hjL g6 dt) (fun r y => pW_some ⟨⟨j, rn, y.1⟩, fun b k w => (y.2 b k w).trans (fr b k w)⟩))
    · rw [iI_lt (by omega) (by omega)] at q
      have hjL : j = L := by omega
      exact pW_some ⟨⟨j, rn, (up_i (by omega)).trans g6, Or.inl ⟨hjL, up_s, (up_i (by omega)).trans (g4.trans (by rw [hjL]))⟩⟩, fun b k y => (up_i (by omega)).trans (fr b k y)⟩
  rw [f_X5_advance_0, h1.1, i2]
  refine pW_if (fun q => ?_) (fun q => ?_)
  · rw [iI_le (by omega) (by omega)] at q
    exact done (fun z => by omega)
  · rw [iI_le (by omega) (by omega)] at q
    rw [c_tx h1 (show i + t < L by omega), bd_s]
    refine pW_if (fun q2 => ?_) (fun q2 => done (fun _ => decide_eq_false q2))
    refine kk _ (by omega) ⟨fun k hk => ?_, ?_, fun b k z => ?_⟩
    · by_cases e : k = t
      · rw [e]; exact decide_eq_true q2
      · exact i1 k (by omega)
    · rw [up_s, iI_s]; rfl
    · rw [up_i (by omega)]; exact i6 b k z
end LX
end
