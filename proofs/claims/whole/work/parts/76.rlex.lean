section
/-! reading a text: the reference's steps -/
section RX
variable {R L : Nat} {tx : Nat → Int32} {M : fm_Mem}
theorem in_4 {k : Nat} (h : k < 400) : fm_in (iI k) 400 = true := in_t h (by omega)
theorem r_here (h : rTx R M tx L) {i : Nat} (hi : M R 13 = iI i) (hiL : i ≤ L) : pW (f_X7_here R M) (fun r => ∃ j, rnP sp32 tx L i j ∧ r.1 = (if j < L then tx j else -1) ∧ r.2 R 13 = iI j ∧ ∀ b k, (b ≠ R ∨ k ≠ 13) → r.2 b k = M b k) := by
  have hL := h.2.1
  unfold f_X7_here
  refine pW_lp (fun u t (M1 : fm_Mem) => f_X7_here_0 R u M1) (fun t M1 => (∀ k, k < t → sp32 (tx (i + k)) = true) ∧ M1 R 13 = iI ((i + t : Nat) : Int) ∧ ∀ b k, (b ≠ R ∨ k ≠ 13) → M1 b k = M b k) (L - i) ?_ fm_fuel 0 M ⟨fun k z => absurd z (Nat.not_lt_zero k), hi, fun b k z => rfl⟩ (Nat.zero_le _) (by unfold fm_fuel; omega)
  intro u t M1 ht hI kk
  obtain ⟨i1, i2, i6⟩ := hI
  have h1 : rTx R M1 tx L := ⟨(i6 _ _ (by omega)).trans h.1, hL, fun k hk => (i6 _ _ (by omega)).trans (h.2.2 k hk)⟩
  have done : (i + t < L → sp32 (tx (i + t)) = false) → pW (f_X7_here_38 R M1) (fun r => ∃ j, rnP sp32 tx L i j ∧ r.1 = (if j < L then tx j else -1) ∧ r.2 R 13 = iI j ∧ ∀ b k, (b ≠ R ∨ k ≠ 13) → r.2 b k = M b k) := fun z => by
    have rn : rnP sp32 tx L i (i + t) := ⟨by omega, by omega, fun k a b => by have := i1 (k - i) (by omega); rw [show i + (k - i) = k by omega] at this; exact this, z⟩
    unfold f_X7_here_38 f_X7_here_62
    rw [h1.1, i2]
    refine pW_if (fun q => ?_) (fun q => ?_)
    · rw [iI_le (by omega) (by omega)] at q
      exact pW_some ⟨i + t, rn, by rw [if_neg (by omega)], i2, i6⟩
    · rw [iI_le (by omega) (by omega)] at q
      rw [in_4 (by omega), ck_t, iI_nn (by omega), Int.toNat_natCast, h1.2.2 _ (by omega)]
      exact pW_some ⟨i + t, rn, by rw [if_pos (by omega)], i2, i6⟩
  rw [f_X7_here_0, h1.1, i2]
  refine pW_if (fun q => ?_) (fun q => ?_)
  · rw [iI_le (by omega) (by omega)] at q
    exact done (fun z => by omega)
  · rw [iI_le (by omega) (by omega)] at q
    rw [in_4 (by omega), ck_t, iI_nn (by omega), Int.toNat_natCast, h1.2.2 _ (by omega), iI_s]
    refine pW_if (fun q2 => ?_) (fun q2 => done (fun _ => decide_eq_false q2))
    refine kk _ (by omega) ⟨fun k hk => ?_, ?_, fun b k z => ?_⟩
    · by_cases e : k = t
      · rw [e]; exact decide_eq_true q2
      · exact i1 k (by omega)
    · exact up_s
    · rw [up_i (by omega)]; exact i6 b k z
theorem rTx_fr {M' : fm_Mem} (h : rTx R M tx L) (f : ∀ b k, (b = R ∧ k = 12) ∨ b = R + 6 → M' b k = M b k) : rTx R M' tx L := ⟨(f _ _ (by omega)).trans h.1, h.2.1, fun k hk => (f _ _ (by omega)).trans (h.2.2 k hk)⟩
/-- a word is taken, or not -/
theorem r_takes (h : rTx R M tx L) {i j w : Nat} (hi : M R 13 = iI i) (hj : rnP sp32 tx L i j) (hw : w < 6) : pW (f_X7_takes R w M) (fun r => (∀ b k, (b ≠ R ∨ k ≠ 13) → r.2 b k = M b k) ∧ ∃ e, rnP sm tx L j e ∧ ((wdB tx j e w = true ∧ r.1 = 1 ∧ r.2 R 13 = iI e) ∨ (wdB tx j e w = false ∧ r.1 = 0 ∧ r.2 R 13 = iI j))) := by
  have hL := h.2.1
  have sl := slen_b w hw
  unfold f_X7_takes
  obtain ⟨⟨x0, M0⟩, e0, j', n0, -, n2, n3⟩ := r_here h hi (by have := hj.1; have := hj.2.1; omega)
  dsimp only at n2 n3
  have ej := rnP_eq n0 hj
  subst ej
  have h0 := rTx_fr h (fun b k z => n3 b k (by omega))
  have hjL := hj.2.1
  rw [e0, bd_s]
  dsimp only
  rw [show f_X7_takes_7 R w fm_fuel 0 M0 = f_X7_takes_7 R w fm_fuel (iI ((0 : Nat) : Int)) M0 from rfl]
  refine pW_lp (fun u t (_ : Unit) => f_X7_takes_7 R w u (iI t) M0) (fun t _ => ∀ k, k < t → sm (tx (j' + k)) = true) (L - j') ?_ fm_fuel 0 () (fun k z => absurd z (Nat.not_lt_zero k)) (Nat.zero_le _) (by unfold fm_fuel; omega)
  intro u t _ ht hI kk
  have done : (j' + t < L → sm (tx (j' + t)) = false) → pW (f_X7_takes_43 R w (iI t) M0) (fun r => (∀ b k, (b ≠ R ∨ k ≠ 13) → r.2 b k = M b k) ∧ ∃ e, rnP sm tx L j' e ∧ ((wdB tx j' e w = true ∧ r.1 = 1 ∧ r.2 R 13 = iI e) ∨ (wdB tx j' e w = false ∧ r.1 = 0 ∧ r.2 R 13 = iI j'))) := fun z => by
    have rn : rnP sm tx L j' (j' + t) := ⟨by omega, by omega, fun k a b => by have := hI (k - j') (by omega); rw [show j' + (k - j') = k by omega] at this; exact this, z⟩
    have no : wdB tx j' (j' + t) w = false → pW (some ((0 : Int32), M0)) (fun r => (∀ b k, (b ≠ R ∨ k ≠ 13) → r.2 b k = M b k) ∧ ∃ e, rnP sm tx L j' e ∧ ((wdB tx j' e w = true ∧ r.1 = 1 ∧ r.2 R 13 = iI e) ∨ (wdB tx j' e w = false ∧ r.1 = 0 ∧ r.2 R 13 = iI j'))) := fun y => pW_some ⟨n3, j' + t, rn, Or.inr ⟨y, rfl, n2⟩⟩
    unfold f_X7_takes_43
    rw [s_len, bd_s]
    refine pW_if (fun q => ?_) (fun q => ?_)
    · rw [iI_eq (by omega) (by omega)] at q
      rw [show f_X7_takes_55 R w fm_fuel (iI t) 0 M0 = f_X7_takes_55 R w fm_fuel (iI t) (iI ((0 : Nat) : Int)) M0 from rfl]
      refine pW_lp (fun u k (_ : Unit) => f_X7_takes_55 R w u (iI t) (iI k) M0) (fun k _ => ∀ k', k' < k → tx (j' + k') = byt w k') t ?_ fm_fuel 0 () (fun k' z => absurd z (Nat.not_lt_zero k')) (Nat.zero_le _) (by unfold fm_fuel; omega)
      intro u' k _ hk hJ kl
      rw [f_X7_takes_55]
      refine pW_if (fun q2 => ?_) (fun q2 => ?_)
      · rw [iI_le (by omega) (by omega)] at q2
        have ek : k = t := by omega
        subst ek
        have wt : wdB tx j' (j' + k) w = true := decide_eq_true ⟨by omega, fun k' hk' => hJ k' (by omega)⟩
        exact pW_some ⟨fun b k y => (up_i (by omega)).trans (n3 b k y), j' + k, rn, Or.inl ⟨wt, rfl, up_s.trans (by rw [n2, iI_add]; congr 1)⟩⟩
      · rw [iI_le (by omega) (by omega)] at q2
        rw [n2, iI_add, show (j' : Int) + (k : Int) = ((j' + k : Nat) : Int) by omega, in_4 (by omega), ck_t, iI_nn (by omega), Int.toNat_natCast, h0.2.2 _ (by omega), s_chr hw (by omega), bd_s, iI_s]
        refine pW_if (fun q3 => ?_) (fun q3 => ?_)
        · refine kl () (by omega) (fun k' hk' => ?_)
          by_cases e' : k' = k
          · rw [e']; exact q3
          · exact hJ k' (by omega)
        · exact no (decide_eq_false (fun y => q3 (y.2 k (by omega))))
    · rw [iI_eq (by omega) (by omega)] at q
      exact no (decide_eq_false (fun y => by have := y.1; omega))
  rw [f_X7_takes_7, h0.1, n2, iI_add, show (j' : Int) + (t : Int) = ((j' + t : Nat) : Int) by omega]
  refine pW_if (fun q => ?_) (fun q => ?_)
  · rw [iI_le (by omega) (by omega)] at q
    exact done (fun z => by omega)
  · rw [iI_le (by omega) (by omega)] at q
    rw [in_4 (by omega), ck_t, iI_nn (by omega), Int.toNat_natCast, h0.2.2 _ (by omega), r_sm, bd_s, iI_s]
    simp only [bi0]
    refine pW_if (fun q2 => done (fun _ => q2)) (fun q2 => ?_)
    refine kk () (by omega) (fun k hk => ?_)
    by_cases e : k = t
    · rw [e]; cases y : sm (tx (j' + t)) with | true => rfl | false => exact absurd y q2
    · exact hI k (by omega)
theorem i_m2 : (-2 : Int32) = iI (-2) := by decide
theorem i_m3 : (-3 : Int32) = iI (-3) := by decide
theorem r_fails (h : M R 14 = iI 0) (a b : Int32) : f_X7_fails R a b M = some (0, fm_up (fm_up M R 14 a) R 15 b) := by
  unfold f_X7_fails
  rw [h, if_pos (show iI 0 = 0 by decide)]
/-- the reference's mark of an error -/
def rEr (R : Nat) (M M' : fm_Mem) (code off : Int) : Prop := M' R 14 = iI code ∧ M' R 15 = iI off ∧ ∀ b k, (b ≠ R ∨ (k ≠ 13 ∧ k ≠ 14 ∧ k ≠ 15 ∧ k ≠ 16 ∧ k ≠ 17)) → M' b k = M b k
theorem r_sign59 (h : rTx R M tx L) {i j : Nat} (hi : M R 13 = iI i) (hj : rnP sp32 tx L i j) (he : M R 14 = iI 0) : pW (f_X7_sign R 59 M) (fun r => (j < L ∧ tx j = 59 ∧ r.1 = 1 ∧ r.2 R 13 = iI ((j + 1 : Nat) : Int) ∧ ∀ b k, (b ≠ R ∨ k ≠ 13) → r.2 b k = M b k) ∨ (¬ (j < L ∧ tx j = 59) ∧ r.1 = 0 ∧ rEr R M r.2 (-2) j)) := by
  have hL := h.2.1
  unfold f_X7_sign
  obtain ⟨⟨x0, M0⟩, e0, j', n0, n1, n2, n3⟩ := r_here h hi (by have := hj.1; have := hj.2.1; omega)
  dsimp only at n1 n2 n3
  have ej := rnP_eq n0 hj
  subst ej
  rw [e0, bd_s]
  dsimp only
  refine pW_if (fun q => ?_) (fun q => ?_)
  · have hjL : j' < L := by
      refine Classical.byContradiction fun z => ?_
      rw [n1, if_neg z] at q
      exact absurd q (by decide)
    rw [n1, if_pos hjL] at q
    exact pW_some (Or.inl ⟨hjL, q, rfl, up_s.trans ((congrArg (· + 1) n2).trans (iI_s j')), fun b k z => (up_i (by omega)).trans (n3 b k z)⟩)
  · rw [r_fails ((n3 _ _ (by omega)).trans he), bd_s]
    dsimp only
    rw [bo_0, ck_t]
    refine pW_some (Or.inr ⟨fun z => q (by rw [n1, if_pos z.1]; exact z.2), rfl, (up_i (by omega)).trans (up_s.trans i_m2), up_s.trans n2, fun b k z => ?_⟩)
    show fm_up (fm_up M0 R 14 (-2)) R 15 (M0 R 13) b k = M b k
    rw [up_i (by omega), up_i (by omega)]
    exact n3 b k (by omega)
/-- a number is read -/
theorem r_reads (h : rTx R M tx L) {i j : Nat} (hi : M R 13 = iI i) (hj : rnP sp32 tx L i j) (he : M R 14 = iI 0) {g : Int} (hg : -1 ≤ g ∧ g ≤ 200) : pW (f_X7_reads R 0 (iI g) M) (fun r => (¬ (j < L ∧ dg (tx j) = true) ∧ r.1 = 0 ∧ rEr R M r.2 (-2) j) ∨ (j < L ∧ dg (tx j) = true ∧ ∃ e, rnP dg tx L j e ∧ ((¬ (0 ≤ rN tx j (e - j) ∧ rN tx j (e - j) ≤ g) ∧ r.1 = 0 ∧ rEr R M r.2 (-3) j) ∨ ((0 ≤ rN tx j (e - j) ∧ rN tx j (e - j) ≤ g) ∧ r.1 = 1 ∧ r.2 R 16 = iI (rN tx j (e - j)) ∧ r.2 R 17 = iI j ∧ r.2 R 13 = iI e ∧ r.2 R 14 = iI 0 ∧ ∀ b k, (b ≠ R ∨ (k ≠ 13 ∧ k ≠ 16 ∧ k ≠ 17)) → r.2 b k = M b k)))) := by
  have hL := h.2.1
  unfold f_X7_reads
  obtain ⟨⟨x0, M0⟩, e0, j', n0, n1, n2, n3⟩ := r_here h hi (by have := hj.1; have := hj.2.1; omega)
  dsimp only at n1 n2 n3
  have ej := rnP_eq n0 hj
  subst ej
  have h0 := rTx_fr h (fun b k z => n3 b k (by omega))
  rw [e0, bd_s]
  dsimp only
  rw [r_dg, bd_s]
  simp only [bi0]
  refine pW_if (fun q => ?_) (fun q => ?_)
  · rw [r_fails ((n3 _ _ (by omega)).trans he), bd_s]
    dsimp only
    rw [bo_0, ck_t]
    refine pW_some (Or.inl ⟨fun z => ?_, rfl, (up_i (by omega)).trans (up_s.trans i_m2), up_s.trans n2, fun b k z => ?_⟩)
    · rw [n1, if_pos z.1, z.2] at q; cases q
    · show fm_up (fm_up M0 R 14 (-2)) R 15 (M0 R 13) b k = M b k
      rw [up_i (by omega), up_i (by omega)]
      exact n3 b k (by omega)
  · have hjL : j' < L := by
      refine Classical.byContradiction fun z => q ?_
      rw [n1, if_neg z]; rfl
    rw [n1, if_pos hjL] at q
    have dj : dg (tx j') = true := by cases e : dg (tx j') with | true => rfl | false => exact absurd e q
    refine pW_lp (fun u t (M1 : fm_Mem) => f_X7_reads_34 R 0 (iI g) u M1) (fun t M1 => (∀ k, k < t → dg (tx (j' + k)) = true) ∧ M1 R 13 = iI ((j' + t : Nat) : Int) ∧ M1 R 16 = iI (rN tx j' t) ∧ M1 R 17 = iI j' ∧ ∀ b k, (b ≠ R ∨ (k ≠ 13 ∧ k ≠ 16 ∧ k ≠ 17)) → M1 b k = M b k) (L - j') ?_ fm_fuel 0 (fm_up (fm_up M0 R 17 (M0 R 13)) R 16 0) ⟨fun k z => absurd z (Nat.not_lt_zero k), by rw [up_i (by omega), up_i (by omega)]; exact n2, by rw [up_s]; rfl, by rw [up_i (by omega), up_s]; exact n2, fun b k z => by rw [up_i (by omega), up_i (by omega)]; exact n3 b k (by omega)⟩ (Nat.zero_le _) (by unfold fm_fuel; omega)
    intro u t M1 ht hI kk
    obtain ⟨i1, i2, i3, i4, i6⟩ := hI
    have h1 := rTx_fr h (M' := M1) (fun b k z => i6 b k (by omega))
    have nvt := nv t i1
    have done : (j' + t < L → dg (tx (j' + t)) = false) → pW (f_X7_reads_113 R 0 (iI g) M1) (fun r => (¬ (j' < L ∧ dg (tx j') = true) ∧ r.1 = 0 ∧ rEr R M r.2 (-2) j') ∨ (j' < L ∧ dg (tx j') = true ∧ ∃ e, rnP dg tx L j' e ∧ ((¬ (0 ≤ rN tx j' (e - j') ∧ rN tx j' (e - j') ≤ g) ∧ r.1 = 0 ∧ rEr R M r.2 (-3) j') ∨ ((0 ≤ rN tx j' (e - j') ∧ rN tx j' (e - j') ≤ g) ∧ r.1 = 1 ∧ r.2 R 16 = iI (rN tx j' (e - j')) ∧ r.2 R 17 = iI j' ∧ r.2 R 13 = iI e ∧ r.2 R 14 = iI 0 ∧ ∀ b k, (b ≠ R ∨ (k ≠ 13 ∧ k ≠ 16 ∧ k ≠ 17)) → r.2 b k = M b k)))) := fun z => by
      have rn : rnP dg tx L j' (j' + t) := ⟨by omega, by omega, fun k a b => by have := i1 (k - j') (by omega); rw [show j' + (k - j') = k by omega] at this; exact this, z⟩
      have e14 : M1 R 14 = iI 0 := (i6 _ _ (by omega)).trans he
      have ete : j' + t - j' = t := by omega
      unfold f_X7_reads_113 f_X7_reads_138 f_X7_reads_143
      rw [i3, r_in 0 g iI_0 rfl (by omega) (by omega) (by omega), bd_s]
      by_cases c : 0 ≤ rN tx j' t ∧ rN tx j' t ≤ g
      · rw [if_pos c, if_neg n10, bo_1, ck_t]
        exact pW_some (Or.inr ⟨hjL, dj, j' + t, rn, Or.inr ⟨by rw [ete]; exact c, rfl, by rw [ete]; exact i3, i4, i2, e14, i6⟩⟩)
      · rw [if_neg c, if_pos rfl, r_fails e14, bd_s, if_pos rfl]
        dsimp only
        rw [bo_0, ck_t]
        refine pW_some (Or.inr ⟨hjL, dj, j' + t, rn, Or.inl ⟨by rw [ete]; exact c, rfl, (up_i (by omega)).trans (up_s.trans i_m3), up_s.trans i4, fun b k z => ?_⟩⟩)
        show fm_up (fm_up M1 R 14 (-3)) R 15 (M1 R 17) b k = M b k
        rw [up_i (by omega), up_i (by omega)]
        exact i6 b k (by omega)
    rw [f_X7_reads_34, h1.1, i2]
    refine pW_if (fun q => ?_) (fun q => ?_)
    · rw [iI_le (by omega) (by omega)] at q
      exact done (fun z => by omega)
    · rw [iI_le (by omega) (by omega)] at q
      rw [in_4 (by omega), ck_t, iI_nn (by omega), Int.toNat_natCast, h1.2.2 _ (by omega), r_dg, bd_s]
      simp only [bi0]
      refine pW_if (fun q2 => done (fun _ => q2)) (fun q2 => ?_)
      have dt : dg (tx (j' + t)) = true := by cases e : dg (tx (j' + t)) with | true => rfl | false => exact absurd e q2
      have dr := dg_r dt
      have nx : ∀ y : Int32, y = iI (rN tx j' (t + 1)) → pW (f_X7_reads_97 R 0 (iI g) (fun M => f_X7_reads_34 R 0 (iI g) u M) y M1) (fun r => (¬ (j' < L ∧ dg (tx j') = true) ∧ r.1 = 0 ∧ rEr R M r.2 (-2) j') ∨ (j' < L ∧ dg (tx j') = true ∧ ∃ e, rnP dg tx L j' e ∧ ((¬ (0 ≤ rN tx j' (e - j') ∧ rN tx j' (e - j') ≤ g) ∧ r.1 = 0 ∧ rEr R M r.2 (-3) j') ∨ ((0 ≤ rN tx j' (e - j') ∧ rN tx j' (e - j') ≤ g) ∧ r.1 = 1 ∧ r.2 R 16 = iI (rN tx j' (e - j')) ∧ r.2 R 17 = iI j' ∧ r.2 R 13 = iI e ∧ r.2 R 14 = iI 0 ∧ ∀ b k, (b ≠ R ∨ (k ≠ 13 ∧ k ≠ 16 ∧ k ≠ 17)) → r.2 b k = M b k)))) := fun y ey => by
        unfold f_X7_reads_97
        refine kk _ (by omega) ⟨fun k hk => ?_, ?_, ?_, ?_, fun b k z => ?_⟩
        · by_cases e : k = t
          · rw [e]; exact dt
          · exact i1 k (by omega)
        · rw [up_s, up_i (by omega), i2, iI_s]; rfl
        · rw [up_i (by omega), up_s]; exact ey
        · rw [up_i (by omega), up_i (by omega)]; exact i4
        · rw [up_i (by omega), up_i (by omega)]; exact i6 b k z
      rw [i3]
      refine pW_if (fun q3 => ?_) (fun q3 => ?_)
      · rw [show (100000 : Int32) = iI 100000 by decide, iI_le (by omega) (by omega)] at q3
        rw [ck_t]
        refine nx _ ?_
        rw [show rN tx j' (t + 1) = if 100000 < rN tx j' t then rN tx j' t else 10 * rN tx j' t + (tx (j' + t)).toInt - 48 from rfl, if_neg (by omega), ← iI_sub, ← iI_add, ← iI_mul, iI_of, iI_10, show (48 : Int32) = iI 48 by decide]
      · rw [show (100000 : Int32) = iI 100000 by decide, iI_le (by omega) (by omega)] at q3
        refine nx _ ?_
        rw [show rN tx j' (t + 1) = if 100000 < rN tx j' t then rN tx j' t else 10 * rN tx j' t + (tx (j' + t)).toInt - 48 from rfl, if_pos (by omega)]
end RX
end
