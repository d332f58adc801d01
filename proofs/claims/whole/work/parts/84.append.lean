section
/-! append, the error offset, and the first state -/
def bY (a x : Int32) : Int32 := (a >>> (x &&& 31)) &&& 255
theorem bY_n (a x : Int32) : ¬ bY a x = -1 := fun e => by
  have e2 : bY a x &&& 256 = (-1 : Int32) &&& 256 := by rw [e]
  unfold bY at e2
  rw [Int32.and_assoc, show (255 : Int32) &&& 256 = 0 by decide, Int32.and_zero] at e2
  exact absurd e2 (by decide)
def jn (n : Nat) (w w2 : Nat → Int32) : Nat → Int32 := fun k => if k < n then w k else w2 (k - n)
def apd (T b j L n : Nat) (w : Nat → Int32) (M M' : fm_Mem) : Prop := M' b j = iI ((L + n : Nat) : Int) ∧ (∀ k, k < n → M' T (L + k) = w k) ∧ ∀ b' i, (b' ≠ T ∨ i < L ∨ L + n ≤ i) → (b' ≠ b ∨ i ≠ j) → M' b' i = M b' i
theorem apd_j {T b j L n n2 : Nat} {w w2 : Nat → Int32} {M M1 M2 : fm_Mem} (hT : T ≠ b) (h : apd T b j L n w M M1) (h2 : apd T b j (L + n) n2 w2 M1 M2) : apd T b j L (n + n2) (jn n w w2) M M2 := by
  obtain ⟨a1, a2, a3⟩ := h
  obtain ⟨b1, b2, b3⟩ := h2
  refine ⟨b1.trans (by rw [Nat.add_assoc]), fun k hk => ?_, fun b' i z1 z2 => (b3 b' i (by omega) z2).trans (a3 b' i (by omega) z2)⟩
  unfold jn
  by_cases c : k < n
  · rw [if_pos c, b3 T (L + k) (by omega) (by omega)]; exact a2 k c
  · rw [if_neg c, show L + k = L + n + (k - n) by omega]; exact b2 (k - n) (by omega)
theorem apd_1 {T b j L : Nat} {x : Int32} {M : fm_Mem} (hT : T ≠ b) : apd T b j L 1 (fun _ => x) M (fm_up (fm_up M T L x) b j (iI ((L + 1 : Nat) : Int))) := ⟨up_s, fun k hk => by rw [up_ne hT, show L + k = L by omega]; exact up_s, fun b' i z1 z2 => (up_i (by omega)).trans (up_i (by omega))⟩
def bw (a : Int32) : Nat → Int32 := jn 3 (jn 2 (jn 1 (fun _ => bY a 24) (fun _ => bY a (24 + -8))) (fun _ => bY a (24 + -8 + -8))) (fun _ => bY a (24 + -8 + -8 + -8))
def jn_n {n : Nat} {w w2 : Nat → Int32} (h : ∀ k, ¬ w k = -1) (h2 : ∀ k, ¬ w2 k = -1) : ∀ k, ¬ jn n w w2 k = -1 := fun k => by
  unfold jn
  by_cases c : k < n
  · rw [if_pos c]; exact h k
  · rw [if_neg c]; exact h2 _
theorem bw_n (a : Int32) : ∀ k, ¬ bw a k = -1 := jn_n (jn_n (jn_n (fun _ => bY_n a _) (fun _ => bY_n a _)) (fun _ => bY_n a _)) (fun _ => bY_n a _)
theorem fuel5 : ∃ f, fm_fuel = f + 5 := ⟨fm_fuel - 5, by unfold fm_fuel; omega⟩
section AP
variable {P R L : Nat} {M : fm_Mem} {a x : Int32}
theorem c_word1 {f : Nat} (hx : ¬ x < 0) (h : M P 2 = iI L) (hL : L < 400) : f_X5_addWord_3 P a (f + 1) x M = f_X5_addWord_3 P a f (x + -8) (fm_up (fm_up M (P + 2) L (bY a x)) P 2 (iI ((L + 1 : Nat) : Int))) := by
  rw [f_X5_addWord_3, if_neg hx, h, k_set hL (by omega), bd_s]
  show f_X5_addWord_3 P a f (x + -8) (fm_up (fm_up M (P + 2) L (bY a x)) P 2 (fm_up M (P + 2) L (bY a x) P 2 + 1)) = _
  rw [up_ne (M := M) (show P ≠ P + 2 by omega), h, iI_s]
theorem c_word (h : M P 2 = iI L) (hL : L + 4 ≤ 400) : pW (f_X5_addWord P a M) (fun M' => apd (P + 2) P 2 L 4 (bw a) M M') := by
  obtain ⟨f, hf⟩ := fuel5
  unfold f_X5_addWord
  rw [hf, c_word1 (by decide) h (by omega), c_word1 (by decide) up_s (by omega), c_word1 (by decide) up_s (by omega), c_word1 (by decide) up_s (by omega), f_X5_addWord_3, if_pos (by decide)]
  exact pW_some (apd_j (by omega) (apd_j (by omega) (apd_j (by omega) (apd_1 (by omega)) (apd_1 (by omega))) (apd_1 (by omega))) (apd_1 (by omega)))
theorem r_word1 {f : Nat} (hx : ¬ x < 0) (h : M R 11 = iI L) (hL : L < 400) : f_X7_four_3 R a (f + 1) x M = f_X7_four_3 R a f (x + -8) (fm_up (fm_up M (R + 6) L (bY a x)) R 11 (iI ((L + 1 : Nat) : Int))) := by
  rw [f_X7_four_3, if_neg hx, h, in_4 hL, ck_t, iI_nn (by omega), Int.toNat_natCast]
  show f_X7_four_3 R a f (x + -8) (fm_up (fm_up M (R + 6) L (bY a x)) R 11 (fm_up M (R + 6) L (bY a x) R 11 + 1)) = _
  rw [up_ne (M := M) (show R ≠ R + 6 by omega), h, iI_s]
theorem r_word (h : M R 11 = iI L) (hL : L + 4 ≤ 400) : pW (f_X7_four R a M) (fun M' => apd (R + 6) R 11 L 4 (bw a) M M') := by
  obtain ⟨f, hf⟩ := fuel5
  unfold f_X7_four
  rw [hf, r_word1 (by decide) h (by omega), r_word1 (by decide) up_s (by omega), r_word1 (by decide) up_s (by omega), r_word1 (by decide) up_s (by omega), f_X7_four_3, if_pos (by decide)]
  exact pW_some (apd_j (by omega) (apd_j (by omega) (apd_j (by omega) (apd_1 (by omega)) (apd_1 (by omega))) (apd_1 (by omega))) (apd_1 (by omega)))
end AP
def fw (a b c d e : Int32) : Nat → Int32 := jn 16 (jn 12 (jn 8 (jn 4 (bw a) (bw b)) (bw c)) (bw d)) (bw e)
theorem fw_n (a b c d e : Int32) : ∀ k, ¬ fw a b c d e k = -1 := jn_n (jn_n (jn_n (jn_n (bw_n a) (bw_n b)) (bw_n c)) (bw_n d)) (bw_n e)
section AQ
variable {A R c u v k ln : Nat} {M : fm_Mem} {s : gPl} {h : Nat → gPl} {a1 a2 a3 a4 a5 : Int32}
theorem c_append (e : M (A + 1) 2 = iI ln) (hl : ln + 20 ≤ 400) : pW (f_X6_append A a1 a2 a3 a4 a5 M) (fun r => r.1 = iI ((ln + 20 : Nat) : Int) ∧ apd (A + 3) (A + 1) 2 ln 20 (fw a1 a2 a3 a4 a5) M r.2) := by
  unfold f_X6_append f_X5_size
  rw [e, bd_s, if_pos (by rw [iI_20, iI_add, show (400 : Int32) = iI 400 by decide, iI_le (by omega) (by omega)]; omega)]
  obtain ⟨M1, m1, p1⟩ := c_word (a := a1) e (by omega)
  obtain ⟨M2, m2, p2⟩ := c_word (a := a2) p1.1 (by omega)
  obtain ⟨M3, m3, p3⟩ := c_word (a := a3) p2.1 (by omega)
  obtain ⟨M4, m4, p4⟩ := c_word (a := a4) p3.1 (by omega)
  obtain ⟨M5, m5, p5⟩ := c_word (a := a5) p4.1 (by omega)
  rw [m1, bd_s, m2, bd_s, m3, bd_s, m4, bd_s, m5, bd_s, bd_s]
  exact pW_some ⟨p5.1, apd_j (by omega) (apd_j (by omega) (apd_j (by omega) (apd_j (by omega) p1 p2) p3) p4) p5⟩
theorem r_append (e : M R 11 = iI ln) (hl : ln + 20 ≤ 400) : pW (f_X7_append R a1 a2 a3 a4 a5 M) (fun r => r.1 = iI ((ln + 20 : Nat) : Int) ∧ apd (R + 6) R 11 ln 20 (fw a1 a2 a3 a4 a5) (fm_up M R 0 0) r.2) := by
  unfold f_X7_append
  have e' : fm_up M R 0 0 R 11 = iI ln := (up_i (by omega)).trans e
  rw [e', if_pos (by rw [iI_20, iI_add, show (400 : Int32) = iI 400 by decide, iI_le (by omega) (by omega)]; omega)]
  obtain ⟨M1, m1, p1⟩ := r_word (a := a1) e' (by omega)
  obtain ⟨M2, m2, p2⟩ := r_word (a := a2) p1.1 (by omega)
  obtain ⟨M3, m3, p3⟩ := r_word (a := a3) p2.1 (by omega)
  obtain ⟨M4, m4, p4⟩ := r_word (a := a4) p3.1 (by omega)
  obtain ⟨M5, m5, p5⟩ := r_word (a := a5) p4.1 (by omega)
  rw [m1, bd_s, m2, bd_s, m3, bd_s, m4, bd_s, m5, bd_s]
  exact pW_some ⟨p5.1, apd_j (by omega) (apd_j (by omega) (apd_j (by omega) (apd_j (by omega) p1 p2) p3) p4) p5⟩
/-- the two sides, the text and its bytes -/
def wA (A : Nat) (M : fm_Mem) (k : Nat) : Prop := wW A M k ∧ wT A M ∧ wB A M
theorem wW_le {k k' : Nat} (h : wW A M k) (hk : k ≤ k') : wW A M k' := by
  obtain ⟨s, h, c, u, v, h1, h2⟩ := h
  exact ⟨s, h, c, u, v, by omega, h2⟩
theorem wA_le {k k' : Nat} (h : wA A M k) (hk : k ≤ k') : wA A M k' := ⟨wW_le h.1 hk, h.2⟩
def apOk (A k : Nat) (oc : Option (Int32 × fm_Mem)) (rf : fm_Mem → Option (Int32 × fm_Mem)) : Prop := ∃ x M1 r, oc = some (x, M1) ∧ rf M1 = some r ∧ r.1 = x ∧ wA A r.2 k
theorem wRf_ap {M' : fm_Mem} (hw : wRf (A + 170) M s h u v) (f : ∀ b i, A + 170 ≤ b → b < A + 176 → (b ≠ A + 170 ∨ i ≠ 11) → (b ≠ A + 170 ∨ i ≠ 0) → M' b i = M b i) : wRf (A + 170) M' s h u v := ⟨⟨⟨(f _ _ (by omega) (by omega) (by omega) (by omega)).trans hw.1.1.1, hw.1.1.2⟩, rVs_L hw.1.2.1 (fun j _ _ => f _ _ (by omega) (by omega) (by omega) (by omega)), rld_0 hw.1.2.2.1 (fun b j z => f b j (by omega) (by omega) (by omega) (by omega)), (f _ _ (by omega) (by omega) (by omega) (by omega)).trans hw.1.2.2.2⟩, fun j hj => rVs_L (hw.2 j hj) (fun i _ _ => f _ _ (by omega) (by omega) (by omega) (by omega))⟩
theorem q_append (hw : wA A M k) (a1 a2 a3 a4 a5 : Int32) : apOk A k (f_X6_append A a1 a2 a3 a4 a5 M) (fun M1 => f_X7_append (A + 170) a1 a2 a3 a4 a5 M1) := by
  obtain ⟨⟨s, h, c, u, v, hk, w1, w2, w3, w4, w5⟩, ⟨ln, t1, t2, t3, t4, t5⟩, hB⟩ := hw
  by_cases c1 : ln + 20 ≤ 400
  · obtain ⟨⟨x, M1⟩, m1, p1, p2, p3, p4⟩ := c_append (a1 := a1) (a2 := a2) (a3 := a3) (a4 := a4) (a5 := a5) t2 c1
    dsimp only at p1 p2 p3 p4
    have e11 : M1 (A + 170) 11 = iI ln := (p4 _ _ (by omega) (by omega)).trans t3
    obtain ⟨⟨y, M2⟩, m2, q1, q2, q3, q4⟩ := r_append (a1 := a1) (a2 := a2) (a3 := a3) (a4 := a4) (a5 := a5) e11 c1
    dsimp only at q1 q2 q3 q4
    have f2 : ∀ b i, (b ≠ A + 176 ∨ i < ln ∨ ln + 20 ≤ i) → (b ≠ A + 170 ∨ i ≠ 11) → (b ≠ A + 170 ∨ i ≠ 0) → M2 b i = M1 b i := fun b i z1 z2 z3 => (q4 b i z1 z2).trans (up_i (by omega))
    have f3 : ∀ b i, (b ≠ A + 176 ∨ i < ln ∨ ln + 20 ≤ i) → (b ≠ A + 170 ∨ i ≠ 11) → (b ≠ A + 170 ∨ i ≠ 0) → (b ≠ A + 3 ∨ i < ln ∨ ln + 20 ≤ i) → (b ≠ A + 1 ∨ i ≠ 2) → M2 b i = M b i := fun b i z1 z2 z3 z4 z5 => (f2 b i z1 z2 z3).trans (p4 b i z4 z5)
    refine ⟨x, M1, (y, M2), m1, m2, q1.trans p1.symm, ⟨s, h, c, u, v, hk, w1, w2, w3, wCl_fr w4 (fun b _ _ => by funext j; exact f3 b j (by omega) (by omega) (by omega) (by omega) (by omega)) (f3 _ _ (by omega) (by omega) (by omega) (by omega) (by omega)) (f3 _ _ (by omega) (by omega) (by omega) (by omega) (by omega)), wRf_ap w5 (fun b i z1 z2 z3 z4 => f3 b i (by omega) z3 z4 (by omega) (by omega))⟩, ⟨ln + 20, c1, (f2 _ _ (by omega) (by omega) (by omega)).trans p2, q2, fun i hi => ?_, (f3 _ _ (by omega) (by omega) (by omega) (by omega) (by omega)).trans (t5.trans (f3 _ _ (by omega) (by omega) (by omega) (by omega) (by omega)).symm)⟩, fun i hi => ?_⟩
    · dsimp only
      rw [f2 (A + 3) i (by omega) (by omega) (by omega)]
      by_cases c2 : i < ln
      · rw [p4 _ _ (by omega) (by omega), t4 i c2]
        exact (f3 _ _ (by omega) (by omega) (by omega) (by omega) (by omega)).symm
      · rw [show i = ln + (i - ln) by omega, p3 _ (by omega)]
        exact (q3 _ (by omega)).symm
    · dsimp only
      rw [f2 (A + 3) i (by omega) (by omega) (by omega)]
      by_cases c2 : i < ln ∨ ln + 20 ≤ i
      · rw [p4 _ _ (by omega) (by omega)]; exact hB i hi
      · rw [show i = ln + (i - ln) by omega, p3 _ (by omega)]; exact fw_n _ _ _ _ _ _
  · have cn : ¬ iI (ln : Int) + (20 : Int32) ≤ 400 := by
      rw [iI_20, iI_add, show (400 : Int32) = iI 400 by decide, iI_le (by omega) (by omega)]; omega
    have f3 : ∀ b i, (b ≠ A + 170 ∨ i ≠ 0) → fm_up M (A + 170) 0 0 b i = M b i := fun b i z => up_i (by omega)
    refine ⟨-1, M, (-1, fm_up M (A + 170) 0 0), ?_, ?_, rfl, ⟨s, h, c, u, v, hk, w1, w2, w3, wCl_fr w4 (fun b _ _ => up_ne (by omega)) (f3 _ _ (by omega)) (f3 _ _ (by omega)), wRf_ap w5 (fun b i z1 z2 z3 z4 => f3 b i z4)⟩, ⟨ln, t1, (f3 _ _ (by omega)).trans t2, (f3 _ _ (by omega)).trans t3, fun i hi => ?_, (f3 _ _ (by omega)).trans (t5.trans (f3 _ _ (by omega)).symm)⟩, fun i hi => ?_⟩
    · unfold f_X6_append f_X5_size
      rw [t2, bd_s, if_neg cn]
    · show f_X7_append _ _ _ _ _ _ _ = _
      unfold f_X7_append
      rw [f3 _ _ (by omega), t3, if_neg cn]
    · exact (f3 _ _ (by omega)).trans ((t4 i hi).trans (f3 _ _ (by omega)).symm)
    · exact fun e => hB i hi ((f3 _ _ (by omega)).symm.trans e)
theorem q_eoff (hw : wA A M k) : apOk A k ((f_X6_errorOffset A M).map (fun x => (x, M))) (fun M1 => f_X7_errorOffset (A + 170) M1) := by
  obtain ⟨⟨s, h, c, u, v, hk, w1, w2, w3, w4, w5⟩, ⟨ln, t1, t2, t3, t4, t5⟩, hB⟩ := hw
  have f3 : ∀ b i, (b ≠ A + 170 ∨ i ≠ 0) → fm_up M (A + 170) 0 0 b i = M b i := fun b i z => up_i (by omega)
  refine ⟨M A 6, M, (fm_up M (A + 170) 0 0 (A + 170) 15, fm_up M (A + 170) 0 0), rfl, rfl, (f3 _ _ (by omega)).trans t5.symm, ⟨s, h, c, u, v, hk, w1, w2, w3, wCl_fr w4 (fun b _ _ => up_ne (by omega)) (f3 _ _ (by omega)) (f3 _ _ (by omega)), wRf_ap w5 (fun b i z1 z2 z3 z4 => f3 b i z4)⟩, ⟨ln, t1, (f3 _ _ (by omega)).trans t2, (f3 _ _ (by omega)).trans t3, fun i hi => ?_, (f3 _ _ (by omega)).trans (t5.trans (f3 _ _ (by omega)).symm)⟩, fun i hi => ?_⟩
  · exact (f3 _ _ (by omega)).trans ((t4 i hi).trans (f3 _ _ (by omega)).symm)
  · exact fun e => hB i hi ((f3 _ _ (by omega)).symm.trans e)
end AQ
end
