/-! layers of hulls, and the class's Hull -/
noncomputable def cB (X Y : Nat → Int) (s : Nat → Bool) (p : Nat) : Bool := @decide (hCo X Y (fun i => s i = true) p) (Classical.propDecidable _)
theorem cB_t {X Y : Nat → Int} {s : Nat → Bool} {p : Nat} : cB X Y s p = true ↔ hCo X Y (fun i => s i = true) p := @decide_eq_true_iff _ (Classical.propDecidable _)
theorem cB_s {X Y : Nat → Int} {s : Nat → Bool} {p : Nat} (h : cB X Y s p = true) : s p = true := (cB_t.mp h).1
/-- what is left behind k layers -/
noncomputable def hS (n : Nat) (X Y : Nat → Int) : Nat → Nat → Bool
  | 0 => fun p => decide (p < n)
  | k + 1 => fun p => hS n X Y k p && !cB X Y (hS n X Y k) p
theorem hS_0 (n : Nat) (X Y : Nat → Int) (p : Nat) : hS n X Y 0 p = decide (p < n) := rfl
theorem hS_s (n : Nat) (X Y : Nat → Int) (k p : Nat) : hS n X Y (k + 1) p = (hS n X Y k p && !cB X Y (hS n X Y k) p) := rfl
theorem hS_n {n : Nat} {X Y : Nat → Int} : ∀ {k p : Nat}, hS n X Y k p = true → p < n
  | 0, _, h => of_decide_eq_true h
  | k + 1, p, h => by
    rw [hS_s, Bool.and_eq_true] at h
    exact hS_n h.1
theorem hS_dn {n : Nat} {X Y : Nat → Int} {k p : Nat} : ∀ {j}, hS n X Y (k + j) p = true → hS n X Y k p = true
  | 0, h => h
  | j + 1, h => by
    rw [← Nat.add_assoc, hS_s, Bool.and_eq_true] at h
    exact hS_dn h.1
theorem h_min {n : Nat} {X Y : Nat → Int} {s : Nat → Bool} (hb : gbd n X Y) (hd : gDis n X Y) (hs : ∀ i, s i = true → i < n) {p : Nat} (hp : s p = true) (hm : ∀ q, q < n → s q = true → gK X Y p ≤ gK X Y q) : hCo X Y (fun i => s i = true) p := by
  refine hCo_min hp (fun q hq ne => ?_)
  have h1 := hm q (hs q hq) hq
  rcases Int.lt_or_eq_of_le h1 with z | z
  · exact z
  · exact absurd (gK_inj hb hd q p (hs q hq) (hs p hp) z.symm) ne
theorem h_argm {n : Nat} {s : Nat → Bool} (f : Nat → Int) (h : ∃ q, q < n ∧ s q = true) : ∃ p, p < n ∧ s p = true ∧ ∀ q, q < n → s q = true → f p ≤ f q := by
  induction n with
  | zero => obtain ⟨q, hq, _⟩ := h; omega
  | succ n ih =>
    by_cases hx : ∃ q, q < n ∧ s q = true
    · obtain ⟨p, h1, h2, h3⟩ := ih hx
      by_cases c : s n = true ∧ f n < f p
      · exact ⟨n, by omega, c.1, fun q hq sq => by
          by_cases e : q = n
          · rw [e]; exact Int.le_refl _
          · have := h3 q (by omega) sq; omega⟩
      · refine ⟨p, by omega, h2, fun q hq sq => ?_⟩
        by_cases e : q = n
        · rw [e] at sq ⊢
          have : ¬ f n < f p := fun z => c ⟨sq, z⟩
          omega
        · exact h3 q (by omega) sq
    · obtain ⟨q, hq, sq⟩ := h
      have : q = n := by
        refine Classical.byContradiction fun z => hx ⟨q, by omega, sq⟩
      subst this
      refine ⟨q, by omega, sq, fun r hr sr => ?_⟩
      have : r = q := by
        refine Classical.byContradiction fun z => hx ⟨r, by omega, sr⟩
      rw [this]; exact Int.le_refl _
/-- each layer takes something away -/
theorem hS_ct {n : Nat} {X Y : Nat → Int} (hb : gbd n X Y) (hd : gDis n X Y) : ∀ k, gct (hS n X Y k) n + k ≤ n ∨ ∀ p, hS n X Y k p = false
  | 0 => Or.inl (gct_bd _ _)
  | k + 1 => by
    by_cases hx : ∃ q, q < n ∧ hS n X Y k q = true
    · obtain ⟨p, h1, h2, h3⟩ := h_argm (gK X Y) hx
      have c := cB_t.mpr (h_min hb hd (fun i => hS_n) h2 h3)
      rcases hS_ct hb hd k with z | z
      · left
        have le : gct (hS n X Y (k + 1)) n ≤ gct (fun i => hS n X Y k i && !decide (i = p)) n := gct_inj (fun i => i) (fun i hi e => ⟨hi, by
          rw [hS_s, Bool.and_eq_true, Bool.not_eq_true'] at e
          rw [e.1, decide_eq_false (fun w => by rw [w, c] at e; cases e.2)]; rfl⟩) (fun i j _ _ _ _ e => e)
        have := gct_del h1 h2
        omega
      · rw [z p] at h2; cases h2
    · right
      intro p
      rw [hS_s]
      cases e : hS n X Y k p with
      | false => rfl
      | true => exact absurd ⟨p, hS_n e, e⟩ hx
/-- how many layers: the first that is empty -/
theorem hS_end {n : Nat} {X Y : Nat → Int} (hb : gbd n X Y) (hd : gDis n X Y) : ∃ K, K ≤ n ∧ (∀ p, hS n X Y K p = false) ∧ ∀ k, k < K → ∃ p, hS n X Y k p = true := by
  have h1 : ∀ p, hS n X Y n p = false := by
    rcases hS_ct hb hd n with z | z
    · intro p
      cases e : hS n X Y n p with
      | false => rfl
      | true =>
        have := (gct_0 (hS n X Y n) n).mp (by omega) p (hS_n e)
        rw [e] at this; cases this
    · exact z
  have key : ∀ j, j ≤ n → (∀ p, hS n X Y j p = false) → ∃ K, K ≤ j ∧ (∀ p, hS n X Y K p = false) ∧ ∀ k, k < K → ∃ p, hS n X Y k p = true := by
    intro j
    induction j with
    | zero => intro _ h; exact ⟨0, Nat.le_refl _, h, fun k hk => absurd hk (Nat.not_lt_zero k)⟩
    | succ j ih =>
      intro hj h
      by_cases c : ∀ p, hS n X Y j p = false
      · obtain ⟨K, k1, k2, k3⟩ := ih (by omega) c
        exact ⟨K, by omega, k2, k3⟩
      · refine ⟨j + 1, Nat.le_refl _, h, fun k hk => ?_⟩
        have : ∃ p, hS n X Y j p = true := Classical.byContradiction fun z => c (fun p => by
          cases e : hS n X Y j p with
          | false => rfl
          | true => exact absurd ⟨p, e⟩ z)
        obtain ⟨p, hp⟩ := this
        exact ⟨p, hS_dn (j := j - k) (by rw [show k + (j - k) = j by omega]; exact hp)⟩
  obtain ⟨K, k1, k2, k3⟩ := key n (Nat.le_refl n) h1
  exact ⟨K, k1, k2, k3⟩
/-- p is in the layer l -/
def hLy (n : Nat) (X Y : Nat → Int) (p l : Nat) : Prop := hS n X Y l p = true ∧ cB X Y (hS n X Y l) p = true
theorem hLy_eq {n : Nat} {X Y : Nat → Int} {p l l' : Nat} (h : hLy n X Y p l) (h' : hLy n X Y p l') : l = l' := by
  have key : ∀ {l l'}, hLy n X Y p l → hLy n X Y p l' → ¬ l < l' := fun {l l'} h h' z => by
    have := hS_dn (k := l + 1) (j := l' - (l + 1)) (by rw [show l + 1 + (l' - (l + 1)) = l' by omega]; exact h'.1)
    rw [hS_s, h.2, Bool.and_eq_true] at this
    cases this.2
  have a := key h h'
  have b := key h' h
  omega
section HC
variable {P R n : Nat} {M : fm_Mem} {X Y : Nat → Int}
theorem k_left (h : cpt R M n X Y) (hb : gbd n X Y) {s : Nat → Bool} (hs : ∃ q, q < n ∧ s q = true) : pW (f_X0_leftmost R (bS s) M) (fun r => ∃ p, r = iI ((p : Nat) : Int) ∧ p < n ∧ s p = true ∧ ∀ q, q < n → s q = true → gK X Y p ≤ gK X Y q) := by
  have hn := h.2.1
  rcases gFi_r s 20 with ⟨_, z⟩ | ⟨i0, hi0, e0, z1, z2⟩
  · obtain ⟨q, hq, sq⟩ := hs
    rw [z q (by omega)] at sq; cases sq
  have i0n : i0 < n := by
    obtain ⟨q, hq, sq⟩ := hs
    refine Classical.byContradiction fun z => ?_
    rw [z2 q (by omega)] at sq; cases sq
  unfold f_X0_leftmost
  rw [k_low s hi0 e0, bd_s, iI_s]
  refine pW_lp (fun u i (b : Nat) => f_X0_leftmost_9 R (bS s) u (iI b) (iI i) M) (fun i b => b < i ∧ b < n ∧ s b = true ∧ ∀ q, q < i → s q = true → gK X Y b ≤ gK X Y q) n ?_ fm_fuel (i0 + 1) i0 ⟨by omega, i0n, z1, fun q hq sq => by
    by_cases e : q = i0
    · rw [e]; exact Int.le_refl _
    · rw [z2 q (by omega)] at sq; cases sq⟩ (by omega) (by unfold fm_fuel; omega)
  intro u i b hi hI k
  obtain ⟨b1, b2, b3, b4⟩ := hI
  have h32 : i < 32 := by omega
  rw [f_X0_leftmost_9, k_size h, bd_s]
  simp (disch := omega) only [iI_le, f_X0_leftmost_63, f_X0_leftmost_61, iI_s]
  refine pW_if (fun q1 => ?_) (fun q1 => ?_)
  · have e : i = n := by omega
    subst e
    exact pW_some ⟨b, rfl, b2, b3, b4⟩
  · have hin : i < n := by omega
    have bi := hb i hin
    have bb := hb b b2
    rw [k_x h hin, bd_s, k_x h b2, bd_s, k_y h hin, bd_s, k_y h b2, bd_s, iI_sub]
    simp only [bS_tst s h32]
    simp (disch := omega) only [iI_0, iI_le, iI_lt, iI_eq]
    have stay : (s i = true → ¬ gK X Y i < gK X Y b) → pW (f_X0_leftmost_9 R (bS s) u (iI b) (iI ((i + 1 : Nat) : Int)) M) (fun r => ∃ p, r = iI ((p : Nat) : Int) ∧ p < n ∧ s p = true ∧ ∀ q, q < n → s q = true → gK X Y p ≤ gK X Y q) := fun z => k b hin ⟨by omega, b2, b3, fun q hq sq => by
      by_cases e : q = i
      · rw [e] at sq ⊢; have := z sq; omega
      · exact b4 q (by omega) sq⟩
    have take : s i = true → gK X Y i < gK X Y b → pW (f_X0_leftmost_9 R (bS s) u (iI i) (iI ((i + 1 : Nat) : Int)) M) (fun r => ∃ p, r = iI ((p : Nat) : Int) ∧ p < n ∧ s p = true ∧ ∀ q, q < n → s q = true → gK X Y p ≤ gK X Y q) := fun si z => k i hin ⟨by omega, hin, si, fun q hq sq => by
      by_cases e : q = i
      · rw [e]; exact Int.le_refl _
      · have := b4 q (by omega) sq; omega⟩
    unfold gK at stay take
    refine pW_if (fun q2 => stay (fun z => by rw [q2] at z; cases z)) (fun q2 => ?_)
    have si : s i = true := by cases e : s i with | true => rfl | false => exact absurd e q2
    refine pW_if (fun q3 => take si (by omega)) (fun q3 => pW_if (fun q4 => pW_if (fun q5 => stay (fun _ => by omega)) (fun q5 => take si (by omega))) (fun q4 => stay (fun _ => by omega)))
theorem gN_neg (a b : Int) : gN (-a) (-b) = gN a b := by unfold gN; rw [Int.neg_mul_neg, Int.neg_mul_neg]
theorem gN_sw (X Y : Nat → Int) (p q : Nat) : gN (X p - X q) (Y p - Y q) = gN (X q - X p) (Y q - Y p) := by
  rw [← gN_neg (X q - X p), show -(X q - X p) = X p - X q by omega, show -(Y q - Y p) = Y p - Y q by omega]
theorem k_next (h : cpt R M n X Y) (hb : gbd n X Y) (s : Nat → Bool) {p : Nat} (hp : p < n) : f_X0_nextCorner R (bS s) (iI p) M = some (iI (hSc X Y s p n)) ∧ hSc X Y s p n < n := by
  have hn := h.2.1
  have z1 : ¬ (1 : Int32) = 0 := by decide
  have hlt : ∀ k, k ≤ n → hSc X Y s p k < n := fun k => by
    induction k with
    | zero => intro _; exact hp
    | succ k ih =>
      intro hk
      show (if s k = true ∧ k ≠ p ∧ hBetter X Y p (hSc X Y s p k) k then k else hSc X Y s p k) < n
      split
      · omega
      · exact ih (by omega)
  refine ⟨?_, hlt n (Nat.le_refl n)⟩
  refine pW_eq (pW_lp (fun u i (b : Nat) => f_X0_nextCorner_5 R (bS s) (iI p) u (iI b) (iI i) M) (fun i b => b = hSc X Y s p i) n ?_ fm_fuel 0 p rfl (Nat.zero_le _) (by unfold fm_fuel; omega))
  intro u i b hi hI k
  have hbn : b < n := by rw [hI]; exact hlt i hi
  have h32 : i < 32 := by omega
  rw [f_X0_nextCorner_5, k_size h, bd_s]
  simp (disch := omega) only [iI_le, iI_eq, f_X0_nextCorner_80, f_X0_nextCorner_77, f_X0_nextCorner_60, iI_s, bS_tst s h32, if_true, if_neg z1]
  refine pW_if (fun q1 => ?_) (fun q1 => ?_)
  · have e : i = n := by omega
    subst e
    exact pW_some (by rw [hI])
  · have hin : i < n := by omega
    have step : hSc X Y s p (i + 1) = if s i = true ∧ i ≠ p ∧ hBetter X Y p b i then i else b := by rw [hI]; rfl
    have t0 := gT_bd hb hp hbn hin
    have d1 := gN_bd hb hp hin
    have d2 := gN_bd hb hp hbn
    rw [k_turn h hp hbn hin, bd_s, k_dist h hp hin, bd_s, k_dist h hp hbn, bd_s, gN_sw X Y p i, gN_sw X Y p b]
    rw [gN_sw X Y p i] at d1
    rw [gN_sw X Y p b] at d2
    simp (disch := omega) only [iI_0, iI_le, iI_lt, iI_eq]
    have stay : ¬ (s i = true ∧ i ≠ p ∧ hBetter X Y p b i) → pW (f_X0_nextCorner_5 R (bS s) (iI p) u (iI b) (iI ((i + 1 : Nat) : Int)) M) (fun x => x = iI (hSc X Y s p n)) := fun z => k b hin (by rw [step, if_neg z])
    have take : s i = true → i ≠ p → hBetter X Y p b i → pW (f_X0_nextCorner_5 R (bS s) (iI p) u (iI i) (iI ((i + 1 : Nat) : Int)) M) (fun x => x = iI (hSc X Y s p n)) := fun a b c => k i hin (by rw [step, if_pos ⟨a, b, c⟩])
    unfold hBetter at stay take
    refine pW_if (fun q2 => stay (fun z => by rw [q2] at z; cases z.1)) (fun q2 => ?_)
    have si : s i = true := by cases e : s i with | true => rfl | false => exact absurd e q2
    refine pW_if (fun q3 => stay (fun z => by omega)) (fun q3 => ?_)
    have ip : i ≠ p := by omega
    refine pW_if (fun q4 => pW_if (fun q5 => take si ip (Or.inl q5)) (fun q5 => pW_if (fun q6 => stay (fun z => by omega)) (fun q6 => stay (fun z => by omega)))) (fun q4 => pW_if (fun q5 => take si ip (Or.inl q5)) (fun q5 => pW_if (fun q6 => take si ip (Or.inr ⟨q6, by omega⟩)) (fun q6 => stay (fun z => by omega))))
/-- going round the corners of s -/
theorem k_peel (h : cpt R M n X Y) (hb : gbd n X Y) (hd : gDis n X Y) (hR : R + 5 ≤ P ∨ P + 5 ≤ R) {s : Nat → Bool} (hs : ∀ i, s i = true → i < n) (hne : ∃ q, q < n ∧ s q = true) {lc rs : Nat} (hlc : M P 3 = iI lc) (hl : lc < 100) (hrs : M P 2 = iI rs) (h0 : lc = 0 → rs = 0) :
    pW (f_X0_peel P R (bS s) M) (fun r => r.1 = bS (cB X Y s) ∧ (∀ b, b < P ∨ P + 5 ≤ b → r.2 b = M b) ∧ r.2 P 3 = iI lc ∧ (∀ p, p < 20 → r.2 (P + 2) p = if cB X Y s p then iI lc else M (P + 2) p) ∧
      (lc ≠ 0 → r.2 P 2 = iI rs ∧ ∀ j, r.2 (P + 4) j = M (P + 4) j) ∧
      (lc = 0 → ∃ a m, a < n ∧ 0 < m ∧ m ≤ n ∧ hCo X Y (fun i => s i = true) a ∧ hIt (fun p => hSc X Y s p n) a m = a ∧ (∀ i j, i < j → j < m → hIt (fun p => hSc X Y s p n) a i ≠ hIt (fun p => hSc X Y s p n) a j) ∧ (∀ i, hCo X Y (fun i => s i = true) (hIt (fun p => hSc X Y s p n) a i)) ∧ (∀ v, hCo X Y (fun i => s i = true) v → ∃ i, i < m ∧ hIt (fun p => hSc X Y s p n) a i = v) ∧ r.2 P 2 = iI m ∧ ∀ j, j < m → r.2 (P + 4) j = iI (hIt (fun p => hSc X Y s p n) a j))) := by
  have hn := h.2.1
  unfold f_X0_peel
  obtain ⟨v, ev, a, ea, an, sa, amin⟩ := k_left h hb hne
  subst ea
  rw [ev, bd_s]
  have ca := h_min hb hd hs sa amin
  obtain ⟨m, m0, mn, w1, w2, w3, w4, w5⟩ := hWalk hs (fun i j hi hj => hd i j (hs i hi) (hs j hj)) ca
  generalize hc : hIt (fun p => hSc X Y s p n) a = c at *
  have c0 : c 0 = a := by rw [← hc]; rfl
  have cs : ∀ i, hSc X Y s (c i) n = c (i + 1) := fun i => by rw [← hc]; rfl
  have cn : ∀ i, c i < n := fun i => hs _ (w4 i).1
  have fin : ∀ p, cB X Y s p = true ↔ ∃ j, j < m ∧ c j = p := fun p => by
    rw [cB_t]
    exact ⟨w5 p, fun ⟨j, hj, e⟩ => by rw [← e]; exact w4 j⟩
  rw [show (0 : Int32) = iI ((0 : Nat) : Int) from rfl, show f_X0_peel_15 P R (bS s) fm_fuel (iI a) (iI a) (iI ((0 : Nat) : Int)) (iI ((0 : Nat) : Int)) M = f_X0_peel_15 P R (bS s) fm_fuel (iI a) (iI (c 0)) (bS (fun _ => false)) (iI ((0 : Nat) : Int)) M by rw [← bS_0, c0]; rfl]
  refine pW_lp (fun u i (z : (Nat → Bool) × fm_Mem) => f_X0_peel_15 P R (bS s) u (iI a) (iI (c i)) (bS z.1) (iI i) z.2) (fun i z => i < m ∧ (∀ p, z.1 p = true ↔ ∃ j, j < i ∧ c j = p) ∧ (∀ b, b < P ∨ P + 5 ≤ b → z.2 b = M b) ∧ z.2 P 3 = iI lc ∧ (∀ p, p < 20 → z.2 (P + 2) p = if z.1 p then iI lc else M (P + 2) p) ∧ (lc ≠ 0 → z.2 P 2 = iI rs ∧ ∀ j, z.2 (P + 4) j = M (P + 4) j) ∧ (lc = 0 → z.2 P 2 = iI i ∧ ∀ j, j < i → z.2 (P + 4) j = iI (c j))) n ?_ fm_fuel 0 (fun _ => false, M) ⟨m0, fun p => ⟨fun z => (by cases z), fun ⟨j, hj, _⟩ => (by omega)⟩, fun _ _ => rfl, hlc, fun p _ => rfl, fun _ => ⟨hrs, fun _ => rfl⟩, fun z => ⟨by show M P 2 = _; rw [hrs, h0 z], fun j hj => by omega⟩⟩ (Nat.zero_le _) (by unfold fm_fuel; omega)
  intro u i z hi hI k
  obtain ⟨F, M1⟩ := z
  obtain ⟨im, f1, fr, l1, l2, r1, r2⟩ := hI
  dsimp only at f1 fr l1 l2 r1 r2 k ⊢
  have hp1 : ∀ M', (∀ b, b < P ∨ P + 5 ≤ b → M' b = M b) → cpt R M' n X Y := fun M' f => cpt_fr h (fun b h1 h2 => f b (by omega))
  have cin := cn i
  rw [f_X0_peel_15, k_size (hp1 M1 fr), bd_s]
  simp (disch := omega) only [iI_le]
  rw [if_neg (by omega), k_set (by omega) (by omega), bd_s, up_ne (show P ≠ P + 1 + 1 by omega), l1]
  have F' : ∀ p, (F p || decide (p = c i)) = true ↔ ∃ j, j < i + 1 ∧ c j = p := fun p => by
    rw [Bool.or_eq_true, decide_eq_true_iff, f1]
    constructor
    · rintro (⟨j, hj, e⟩ | e)
      · exact ⟨j, by omega, e⟩
      · exact ⟨i, by omega, e.symm⟩
    · rintro ⟨j, hj, e⟩
      by_cases z : j = i
      · right; rw [← e, z]
      · left; exact ⟨j, by omega, e⟩
  -- what stands behind this step
  have go : ∀ M2, (∀ b, b < P ∨ P + 5 ≤ b → M2 b = M b) → M2 P 3 = iI lc → (∀ p, p < 20 → M2 (P + 2) p = if (F p || decide (p = c i)) then iI lc else M (P + 2) p) → (lc ≠ 0 → M2 P 2 = iI rs ∧ ∀ j, M2 (P + 4) j = M (P + 4) j) → (lc = 0 → M2 P 2 = iI ((i + 1 : Nat) : Int) ∧ ∀ j, j < i + 1 → M2 (P + 4) j = iI (c j)) → pW (f_X0_peel_76 P R (bS s) (fun x3 x4 x5 x6 M => f_X0_peel_15 P R (bS s) u x3 x4 x5 x6 M) (iI a) (iI (c i)) (bS F ||| ((1 : Int32) <<< (iI (c i) &&& 31))) (iI i) M2) (fun r => r.1 = bS (cB X Y s) ∧ (∀ b, b < P ∨ P + 5 ≤ b → r.2 b = M b) ∧ r.2 P 3 = iI lc ∧ (∀ p, p < 20 → r.2 (P + 2) p = if cB X Y s p then iI lc else M (P + 2) p) ∧
      (lc ≠ 0 → r.2 P 2 = iI rs ∧ ∀ j, r.2 (P + 4) j = M (P + 4) j) ∧
      (lc = 0 → ∃ a m, a < n ∧ 0 < m ∧ m ≤ n ∧ hCo X Y (fun i => s i = true) a ∧ hIt (fun p => hSc X Y s p n) a m = a ∧ (∀ i j, i < j → j < m → hIt (fun p => hSc X Y s p n) a i ≠ hIt (fun p => hSc X Y s p n) a j) ∧ (∀ i, hCo X Y (fun i => s i = true) (hIt (fun p => hSc X Y s p n) a i)) ∧ (∀ v, hCo X Y (fun i => s i = true) v → ∃ i, i < m ∧ hIt (fun p => hSc X Y s p n) a i = v) ∧ r.2 P 2 = iI m ∧ ∀ j, j < m → r.2 (P + 4) j = iI (hIt (fun p => hSc X Y s p n) a j))) := fun M2 g1 g2 g3 g4 g5 => by
    unfold f_X0_peel_76
    rw [(k_next (hp1 M2 g1) hb s cin).1, bd_s, cs, bS_or1 F (by omega)]
    have cn1 := cn (i + 1)
    simp (disch := omega) only [iI_eq, f_X0_peel_100, iI_s]
    refine pW_if (fun q => ?_) (fun q => ?_)
    · have e : i + 1 = m := by
        rcases Nat.lt_or_eq_of_le (show i + 1 ≤ m by omega) with y | y
        · exact absurd (show c (i + 1) = a by omega) (w2 (i + 1) (by omega) y)
        · exact y
      have eq : ∀ p, (F p || decide (p = c i)) = cB X Y s p := fun p => by
        rw [Bool.eq_iff_iff, F', fin, e]
      refine pW_some ⟨bS_cong (fun p _ => eq p), g1, g2, fun p hp => by rw [← eq p]; exact g3 p hp, g4, fun z => ⟨a, m, an, m0, mn, ca, ?_⟩⟩
      rw [hc]
      rw [e] at g5
      exact ⟨w1, w3, w4, w5, (g5 z).1, (g5 z).2⟩
    · have lt : i + 1 < m := by
        rcases Nat.lt_or_eq_of_le (show i + 1 ≤ m by omega) with y | y
        · exact y
        · exact absurd (show (c (i + 1) : Int) = (a : Int) by rw [y, w1]) q
      exact k (fun p => F p || decide (p = c i), M2) (by omega) ⟨lt, F', g1, g2, g3, g4, g5⟩
  have fr2 : ∀ b, b < P ∨ P + 5 ≤ b → fm_up M1 (P + 1 + 1) (c i) (iI lc) b = M b := fun b hb => (up_ne (by omega)).trans (fr b hb)
  have lay : ∀ p, p < 20 → fm_up M1 (P + 1 + 1) (c i) (iI lc) (P + 2) p = if (F p || decide (p = c i)) then iI lc else M (P + 2) p := fun p hp => by
    rw [show P + 1 + 1 = P + 2 from rfl, up_at]
    by_cases e : p = c i
    · rw [if_pos e, decide_eq_true e, Bool.or_true, if_pos rfl]
    · rw [if_neg e, decide_eq_false e, Bool.or_false]; exact l2 p hp
  simp (disch := omega) only [iI_0, iI_eq]
  by_cases l0 : lc = 0
  · have rr := (r2 l0).1
    rw [if_pos (by omega), rr, k_set (by omega) (by omega), bd_s, up_ne (show P ≠ P + 3 + 1 by omega), up_ne (show P ≠ P + 1 + 1 by omega), rr, iI_s]
    refine go _ (fun b hb => (up_ne (by omega)).trans ((up_ne (by omega)).trans (fr2 b hb))) ?_ (fun p hp => ?_) (fun z => absurd l0 z) (fun _ => ⟨up_s, fun j hj => ?_⟩)
    · rw [up_i (by omega), up_ne (by omega), up_ne (by omega)]; exact l1
    · rw [up_ne (by omega), up_ne (by omega)]; exact lay p hp
    · rw [up_ne (by omega), show P + 3 + 1 = P + 4 from rfl, up_at]
      by_cases e : j = i
      · rw [if_pos e, e]
      · rw [if_neg e, up_ne (by omega)]; exact (r2 l0).2 j (by omega)
  · rw [if_neg (by omega)]
    refine go _ fr2 (by rw [up_ne (by omega)]; exact l1) lay (fun _ => ⟨?_, fun j => ?_⟩) (fun z => absurd z l0)
    · rw [up_ne (by omega)]; exact (r1 l0).1
    · rw [up_ne (by omega)]; exact (r1 l0).2 j
end HC
