section
/-! changes of points, copies of planes, what is kept for undo -/
section PC
variable {P Q n m d : Nat} {M : fm_Mem} {X Y : Nat → Int} {T D : Nat → Nat} {fl pu : Int}
theorem k_pset (h : cpt P M n X Y) {p : Nat} (hp : p < 20) (x y : Int) : pW (f_X3_set P (iI p) (iI x) (iI y) M) (fun M' => M' P 2 = M P 2 ∧ M' (P + 2) p = iI x ∧ M' (P + 4) p = iI y ∧ ∀ b j, (b ≠ P + 2 ∧ b ≠ P + 4) ∨ j ≠ p → M' b j = M b j) := by
  unfold f_X3_set
  rw [k_set hp (by omega), bd_s, k_set hp (by omega), bd_s]
  refine pW_some ⟨?_, ?_, ?_, fun b j z => ?_⟩
  · rw [up_i (by omega), up_i (by omega)]
  · rw [up_i (by omega), up_s]
  · rw [up_s]
  · rw [up_i (by omega), up_i (by omega)]
theorem k_padd (h : cpt P M n X Y) (hn : n < 20) (x y : Int) : pW (f_X3_add P (iI x) (iI y) M) (fun M' => cpt P M' (n + 1) (fun k => if k = n then x else X k) (fun k => if k = n then y else Y k) ∧ ∀ b, b < P ∨ P + 5 ≤ b → M' b = M b) := by
  unfold f_X3_add f_X3_add_29
  rw [h.1, if_neg (by rw [iI_20, iI_le (by omega) (by omega)]; omega)]
  obtain ⟨M', e, a1, a2, a3, a4⟩ := k_pset h hn x y
  rw [e, bd_s, a1, h.1, iI_s]
  refine pW_some ⟨⟨up_s, by omega, fun k hk => ?_⟩, fun b hb => ?_⟩
  · rw [up_i (by omega), up_i (by omega)]
    by_cases c : k = n
    · subst c; dsimp only; rw [if_pos rfl, if_pos rfl]; exact ⟨a2, a3⟩
    · dsimp only; rw [if_neg c, if_neg c, a4 _ _ (Or.inr c), a4 _ _ (Or.inr c)]; exact h.2.2 k (by omega)
  · funext j
    rw [up_i (by omega), a4 _ _ (by omega)]
theorem k_pput (h : cpt P M n X Y) {p : Nat} (hp : p < n) (x y : Int) : pW (f_X3_set P (iI p) (iI x) (iI y) M) (fun M' => cpt P M' n (fun k => if k = p then x else X k) (fun k => if k = p then y else Y k) ∧ ∀ b, b < P ∨ P + 5 ≤ b → M' b = M b) := by
  have hn := h.2.1
  refine pW_mono (k_pset h (show p < 20 by omega) x y) (fun M' z => ?_)
  obtain ⟨a1, a2, a3, a4⟩ := z
  refine ⟨⟨a1.trans h.1, hn, fun k hk => ?_⟩, fun b hb => ?_⟩
  · by_cases c : k = p
    · subst c; dsimp only; rw [if_pos rfl, if_pos rfl]; exact ⟨a2, a3⟩
    · dsimp only; rw [if_neg c, if_neg c, a4 _ _ (Or.inr c), a4 _ _ (Or.inr c)]; exact h.2.2 k hk
  · funext j
    rw [a4 _ _ (by omega)]
theorem k_prem (h : cpt P M n X Y) {p : Nat} (hp : p < n) : pW (f_X3_remove P (iI p) M) (fun M' => cpt P M' (n - 1) (fun k => if k < p then X k else X (k + 1)) (fun k => if k < p then Y k else Y (k + 1)) ∧ ∀ b, b < P ∨ P + 5 ≤ b → M' b = M b) := by
  have hn := h.2.1
  unfold f_X3_remove
  obtain ⟨M1, e1, a1, a2⟩ := k_del (P := P + 1) (M := M) (show p < 20 by omega) (by omega)
  obtain ⟨M2, e2, c1, c2⟩ := k_del (P := P + 3) (M := M1) (show p < 20 by omega) (by omega)
  rw [e1, bd_s, e2, bd_s, c1 P (by omega), a1 P (by omega), h.1, iI_1, iI_sub, show (0 : Int32) = iI ((0 : Nat) : Int) from rfl, show (n : Int) - 1 = ((n - 1 : Nat) : Int) by omega, mx_n (by omega) (by omega), show max (n - 1) 0 = n - 1 by omega]
  refine pW_some ⟨⟨up_s, by omega, fun k hk => ?_⟩, fun b hb => ?_⟩
  · rw [up_i (by omega), up_i (by omega), c1 (P + 2) (by omega), a2 k, c2 k, a1 (P + 4) (by omega)]
    have x1 := h.2.2 k (by omega)
    have x2 := h.2.2 (k + 1) (by omega)
    by_cases c : k < p
    · dsimp only; rw [if_pos c, if_pos c, if_pos c, if_pos c]; exact x1
    · dsimp only; rw [if_neg c, if_neg c, if_neg c, if_neg c, if_pos (by omega), if_pos (by omega)]; exact x2
  · funext j
    rw [up_i (by omega), c1 b (by omega), a1 b (by omega)]
theorem k_ptcpy {r : Nat} (h : cpt r M n X Y) (hd : P + 5 ≤ r ∨ r + 5 ≤ P) : pW (f_X3_copyFrom P r M) (fun M' => cpt P M' n X Y ∧ ∀ b, b < P ∨ P + 5 ≤ b → M' b = M b) := by
  have hn := h.2.1
  unfold f_X3_copyFrom
  rw [k_cpy (by omega), bd_s, k_cpy (by omega), bd_s]
  refine pW_some ⟨⟨?_, hn, fun k hk => ?_⟩, fun b hb => ?_⟩
  · rw [up_s, cp_ne (by omega), cp_ne (by omega)]; exact h.1
  · have x := h.2.2 k hk
    rw [up_i (by omega), up_i (by omega), cp_ne (show P + 2 ≠ P + 3 + 1 by omega), show P + 2 = P + 1 + 1 from rfl, cp_at, if_pos (by omega), show P + 4 = P + 3 + 1 from rfl, cp_at, if_pos (by omega), cp_ne (show r + 3 + 1 ≠ P + 1 + 1 by omega)]
    exact x
  · funext j
    rw [up_i (by omega), cp_ne (by omega), cp_ne (by omega)]
theorem k_pcpy {r : Nat} {s : gPl} (h : cPl r M s) (hd : P + 16 ≤ r ∨ r + 16 ≤ P) : pW (f_X2_copyFrom P r M) (fun M' => cPl P M' s ∧ ∀ b, b < P ∨ P + 16 ≤ b → M' b = M b) := by
  obtain ⟨⟨n, X, Y⟩, ⟨m, T⟩, ⟨d, D⟩, fl, pu⟩ := s
  obtain ⟨h1, h2, h3, h4, h5⟩ := h
  unfold f_X2_copyFrom
  obtain ⟨M1, e1, a1, f1⟩ := k_ptcpy (P := P + 1) h1 (by omega)
  obtain ⟨M2, e2, a2, f2⟩ := k_mcpy (P := P + 6) (M := M1) (cMs_fr h2 (fun b p q => f1 b (by omega))) (by omega)
  obtain ⟨M3, e3, a3, f3⟩ := k_mcpy (P := P + 11) (M := M2) (cMs_fr h3 (fun b p q => by rw [f2 b (by omega), f1 b (by omega)])) (by omega)
  rw [e1, bd_s, e2, bd_s, e3, bd_s]
  have fr : ∀ x y b, b ≠ P → fm_up (fm_up M3 P 3 x) P 4 y b = M3 b := fun x y b hb => by rw [up_ne hb, up_ne hb]
  refine pW_some ⟨⟨cpt_fr a1 (fun b p q => by rw [fr _ _ b (by omega), f3 b (by omega), f2 b (by omega)]), cMs_fr a2 (fun b p q => by rw [fr _ _ b (by omega), f3 b (by omega)]), cMs_fr a3 (fun b p q => by rw [fr _ _ b (by omega)]), ?_, ?_⟩, fun b hb => by rw [fr _ _ b (by omega), f3 b (by omega), f2 b (by omega), f1 b (by omega)]⟩
  · rw [up_i (by omega), up_s, f3 r (by omega), f2 r (by omega), f1 r (by omega)]; exact h4
  · rw [up_s, up_i (by omega), f3 r (by omega), f2 r (by omega), f1 r (by omega)]; exact h5
theorem k_clear {T0 : Nat → Nat} {X0 Y0 : Nat → Int} : pW (f_X2_clear P M) (fun M' => cPl P M' ((0, X0, Y0), (0, T0), (0, T0), 0, 0) ∧ ∀ b, b < P ∨ P + 16 ≤ b → M' b = M b) := by
  unfold f_X2_clear f_X3_clear
  rw [bd_s]
  obtain ⟨M2, e2, a2, f2⟩ := k_mclr (P := P + 6) (M := fm_up M (P + 1) 2 0) T0
  obtain ⟨M3, e3, a3, f3⟩ := k_mclr (P := P + 11) (M := M2) T0
  rw [e2, bd_s, e3, bd_s]
  have fr : ∀ x y b, b ≠ P → fm_up (fm_up M3 P 3 x) P 4 y b = M3 b := fun x y b hb => by rw [up_ne hb, up_ne hb]
  refine pW_some ⟨⟨⟨?_, by omega, fun k hk => absurd hk (Nat.not_lt_zero k)⟩, cMs_fr a2 (fun b p q => by rw [fr _ _ b (by omega), f3 b (by omega)]), cMs_fr a3 (fun b p q => by rw [fr _ _ b (by omega)]), ?_, ?_⟩, fun b hb => by rw [fr _ _ b (by omega), f3 b (by omega), f2 b (by omega), up_ne (by omega)]⟩
  · rw [fr _ _ _ (by omega), f3 _ (by omega), f2 _ (by omega), up_s]; rfl
  · rw [up_i (by omega), up_s]; rfl
  · rw [up_s]; rfl
end PC
/-! the ring of the class's older planes -/
theorem x_8 : ∀ c : Nat, c < 601 → (0 : Int32) ≤ (iI (c : Int) ^^^ 8) := by decide +kernel
def pushH (s : gPl) (h : Nat → gPl) : Nat → gPl := fun j => if j = 0 then s else h (j - 1)
section RM
variable {A R v c u : Nat} {M : fm_Mem} {s : gPl} {h : Nat → gPl}
theorem k_past (hc : c ≤ 600) : f_X6_pastOf A (iI c) M = some (A + 42 + 16 * (c % 8)) := by
  unfold f_X6_pastOf f_J9_floorMod_7cf53 f_J9_floorMod_7cf53_18
  rw [show fm_nz 8 = true by decide, ck_t, if_pos (x_8 c (by omega)), show (8 : Int32) = iI ((8 : Nat) : Int) by decide, iI_rem (by omega) (by omega), bd_s, if_neg (by rw [iI_n0 (by omega)]; omega), if_neg (by rw [iI_le (by omega) (by omega)]; omega), in_t (by omega) (by omega), ck_t]
  unfold f_X6_pastOf_33
  rw [iI_nn (by omega), Int.toNat_natCast]
/-- the class at its planes -/
def wCl (A : Nat) (M : fm_Mem) (s : gPl) (h : Nat → gPl) (c u : Nat) : Prop := cKs A M s u ∧ M A 4 = iI c ∧ ∀ j, j < u → cPl (A + 42 + 16 * ((c - 1 - j) % 8)) M (h j)
/-- the reference at its versions -/
def wRf (R : Nat) (M : fm_Mem) (s : gPl) (h : Nat → gPl) (u v : Nat) : Prop := rKs R M v s u ∧ ∀ j, j < u → rVs R M ((v + 8 - j) % 9) (h j)
theorem cKs_fr {M' : fm_Mem} (hk : cKs A M s u) (f : ∀ b, A + 20 ≤ b → b < A + 41 → M' b = M b) (f5 : M' A 5 = M A 5) : cKs A M' s u := ⟨cPl_L hk.1 (fun b p q => f b (by omega) (by omega)), cHl_fr hk.2.1 (fun b p q => f b (by omega) (by omega)), f5.trans hk.2.2⟩
theorem k_remember (hw : wCl A M s h c u) (hu : u ≤ 8) (huc : u ≤ c) (hc : c < 600) : pW (f_X6_remember A M) (fun M' => wCl A M' s (pushH s h) (c + 1) (min (u + 1) 8) ∧ M' A 6 = M A 6 ∧ ∀ b, b ≠ A → b < A + 42 ∨ A + 170 ≤ b → M' b = M b) := by
  obtain ⟨⟨k1, k2, k3⟩, k4, k5⟩ := hw
  have m8 := Nat.mod_lt c (show 8 > 0 by decide)
  unfold f_X6_remember
  rw [k4, k_past (by omega), bd_s]
  obtain ⟨M1, e1, a1, f1⟩ := k_pcpy (P := A + 42 + 16 * (c % 8)) k1 (by omega)
  rw [e1, bd_s]
  have e4 : M1 A 4 = iI c := by rw [f1 A (by omega)]; exact k4
  have e5 : M1 A 5 = iI u := by rw [f1 A (by omega)]; exact k3
  rw [e4, iI_s, up_i (show A ≠ A ∨ 5 ≠ 4 by omega), e5, iI_s, show (8 : Int32) = iI ((8 : Nat) : Int) by decide, mi_n (by omega) (by omega)]
  have fr : ∀ x y b, b ≠ A → fm_up (fm_up M1 A 4 x) A 5 y b = M1 b := fun x y b hb => by rw [up_ne hb, up_ne hb]
  refine pW_some ⟨⟨⟨?_, ?_, ?_⟩, ?_, fun j hj => ?_⟩, ?_, fun b b0 hb => by rw [fr _ _ b b0, f1 b (by omega)]⟩
  · exact cPl_L k1 (fun b p q => by rw [fr _ _ b (by omega), f1 b (by omega)])
  · exact cHl_fr k2 (fun b p q => by rw [fr _ _ b (by omega), f1 b (by omega)])
  · exact up_s
  · rw [up_i (by omega), up_s]
  · unfold pushH
    by_cases c0 : j = 0
    · subst c0
      rw [if_pos rfl, show (c + 1 - 1 - 0) % 8 = c % 8 by omega]
      exact cPl_L a1 (fun b p q => fr _ _ b (by omega))
    · rw [if_neg c0, show (c + 1 - 1 - j) % 8 = (c - 1 - (j - 1)) % 8 by omega]
      have m9 := Nat.mod_lt (c - 1 - (j - 1)) (show 8 > 0 by decide)
      exact cPl_L (k5 (j - 1) (by omega)) (fun b p q => by rw [fr _ _ b (by omega), f1 b (by omega)])
  · rw [up_i (by omega), up_i (by omega), f1 A (by omega)]
theorem r_change (hw : wRf R M s h u v) (hu : u ≤ 8) : pW (f_X7_change R M) (fun M' => wRf R M' s (pushH s h) (min (u + 1) 8) ((v + 1) % 9) ∧ ∀ b j, (b ≠ R + 1 ∧ (b ≠ R ∨ (j ≠ 3 ∧ j ≠ 4))) → M' b j = M b j) := by
  obtain ⟨⟨k1, k2, k3, k4⟩, k5⟩ := hw
  have hv := k1.2
  have m9 := Nat.mod_lt (v + 1) (show 9 > 0 by decide)
  have mv : (v + 1) % 9 ≠ v := by omega
  unfold f_X7_change
  rw [k1.1, iI_s, show (9 : Int32) = iI ((9 : Nat) : Int) by decide, iI_rem (by omega) (by omega), iI_0]
  refine pW_lp (fun x k (M1 : fm_Mem) => f_X7_change_12 R x (iI ((((v + 1) % 9 : Nat)) : Int)) (iI k) M1) (fun k M1 => (∀ b j, b ≠ R + 1 ∨ j < 200 * ((v + 1) % 9) ∨ 200 * ((v + 1) % 9) + 200 ≤ j → M1 b j = M b j) ∧ ∀ j, j < k → M1 (R + 1) (200 * ((v + 1) % 9) + j) = M (R + 1) (200 * v + j)) 200 ?_ fm_fuel 0 M ⟨fun _ _ _ => rfl, fun j hj => absurd hj (Nat.not_lt_zero j)⟩ (Nat.zero_le _) (by unfold fm_fuel; omega)
  intro x k M1 hk hI kk
  obtain ⟨f1, c1⟩ := hI
  rw [f_X7_change_12]
  refine pW_if (fun q => ?_) (fun q => ?_)
  · rw [iI_200, iI_le (by omega) (by omega)] at q
    have ek : k = 200 := by omega
    subst ek
    have e4 : fm_up M1 R 3 (iI ((((v + 1) % 9 : Nat)) : Int)) R 4 = iI u := by rw [up_i (by omega), f1 R 4 (by omega)]; exact k4
    have fin : ∀ y, y = iI ((min (u + 1) 8 : Nat) : Int) → pW (f_X7_change_70 R y (fm_up M1 R 3 (iI ((((v + 1) % 9 : Nat)) : Int)))) (fun M' => wRf R M' s (pushH s h) (min (u + 1) 8) ((v + 1) % 9) ∧ ∀ b j, (b ≠ R + 1 ∧ (b ≠ R ∨ (j ≠ 3 ∧ j ≠ 4))) → M' b j = M b j) := fun y ey => by
      unfold f_X7_change_70
      have fr : ∀ b j, (b ≠ R ∨ (j ≠ 3 ∧ j ≠ 4)) → fm_up (fm_up M1 R 3 (iI ((((v + 1) % 9 : Nat)) : Int))) R 4 y b j = M1 b j := fun b j z => by rw [up_i (by omega), up_i (by omega)]
      refine pW_some ⟨⟨⟨⟨by rw [up_i (by omega), up_s], by omega⟩, ?_, ?_, by rw [up_s]; exact ey⟩, fun j hj => ?_⟩, fun b j z => by rw [fr b j (by omega), f1 b j (by omega)]⟩
      · have cpv : ∀ j, j < 200 → fm_up (fm_up M1 R 3 (iI ((((v + 1) % 9 : Nat)) : Int))) R 4 y (R + 1) (200 * ((v + 1) % 9) + j) = M (R + 1) (200 * v + j) := fun j hj => by rw [fr _ _ (by omega)]; exact c1 j hj
        obtain ⟨⟨n, X, Y⟩, ⟨m, T⟩, ⟨d, D⟩, fl, pu⟩ := s
        obtain ⟨⟨h1, h2, h3⟩, ⟨h4, h5, h6⟩, h7, h8⟩ := k2
        refine ⟨⟨h1, (cpv 0 (by omega)).trans h2, fun k hk => ?_⟩, ⟨h4, (cpv 1 (by omega)).trans h5, fun t ht => ?_⟩, (cpv 2 (by omega)).trans h7, (cpv 3 (by omega)).trans h8⟩
        · rw [cpv _ (by omega), cpv _ (by omega)]; exact h3 k hk
        · rw [cpv _ (by omega), show 60 + 3 * t + 1 = 60 + (3 * t + 1) by omega, show 60 + 3 * t + 2 = 60 + (3 * t + 2) by omega, cpv _ (by omega), cpv _ (by omega)]; exact h6 t ht
      · exact rld_0 k3 (fun b j z => by rw [fr b j (by omega), f1 b j (by omega)])
      · unfold pushH
        by_cases c0 : j = 0
        · subst c0
          rw [if_pos rfl, show ((v + 1) % 9 + 8 - 0) % 9 = v by omega]
          exact rVs_L k2 (fun i p q => by rw [fr _ _ (by omega), f1 _ _ (by omega)])
        · rw [if_neg c0, show ((v + 1) % 9 + 8 - j) % 9 = (v + 8 - (j - 1)) % 9 by omega]
          exact rVs_L (k5 (j - 1) (by omega)) (fun i p q => by rw [fr _ _ (by omega), f1 _ _ (by omega)])
    refine pW_if (fun q2 => ?_) (fun q2 => ?_)
    · rw [e4] at q2 ⊢
      rw [show (8 : Int32) = iI 8 by decide, iI_le (by omega) (by omega)] at q2
      exact fin _ (by rw [show min (u + 1) 8 = u by omega])
    · rw [e4] at q2 ⊢
      rw [show (8 : Int32) = iI 8 by decide, iI_le (by omega) (by omega)] at q2
      exact fin _ ((iI_s u).trans (by rw [show min (u + 1) 8 = u + 1 by omega]))
  · rw [iI_200, iI_le (by omega) (by omega)] at q
    have hv1 : rvn R M1 v := ⟨(f1 R 3 (by omega)).trans k1.1, hv⟩
    rw [r_get hv1 (by omega), bd_s, iI_200, iI_mul, iI_add, show (200 : Int) * (((v + 1) % 9 : Nat) : Int) + (k : Int) = ((200 * ((v + 1) % 9) + k : Nat) : Int) by omega, in_t (by omega) (by omega), ck_t, iI_nn (by omega), Int.toNat_natCast, iI_s]
    refine kk _ (by omega) ⟨fun b j z => (up_i (by omega)).trans (f1 b j z), fun j hj => ?_⟩
    by_cases e : j = k
    · subst e; rw [up_s]; exact f1 _ _ (by omega)
    · rw [up_i (by omega)]; exact c1 j (by omega)
end RM
end
