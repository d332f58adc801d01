section
/-! load, by both sides -/
def wB (A : Nat) (M : fm_Mem) : Prop := ∀ k, k < 400 → ¬ M (A + 3) k = -1
def ldOk (A k : Nat) (cd : Nat → Int32) (M : fm_Mem) (oc : Option (Nat ⊕ (Int32 × fm_Mem))) (rf : fm_Mem → Option (Int32 × fm_Mem)) : Prop := (∃ e r, oc = some (.inl e) ∧ rf M = some r ∧ r.2 (A + 170) 0 = cd e ∧ wW A r.2 k ∧ wT A r.2 ∧ wB A r.2) ∨ ∃ x M1 r, oc = some (.inr (x, M1)) ∧ rf M1 = some r ∧ r.2 (A + 170) 0 = 0 ∧ r.1 = x ∧ wW A r.2 (k + 1) ∧ wT A r.2 ∧ wB A r.2
theorem wB_W {A : Nat} {M M' : fm_Mem} (h : wB A M) (f : frW A M M') : wB A M' := fun k hk => by rw [f _ _ (by omega)]; exact h k hk
section LO
variable {R v u L : Nat} {M Mx Ms : fm_Mem} {a : Int32}
theorem r_prep1 (hv : rvn R Ms v) : ∀ (n i w : Nat) (M' : fm_Mem), i + n = 200 → (∀ b k, b ≠ R + 2 → M' b k = Ms b k) → (∀ k, k < i → M' (R + 2) k = Ms (R + 1) (200 * v + k)) → ∃ Mp : fm_Mem, (∀ b k, b ≠ R + 2 → Mp b k = Ms b k) ∧ (∀ k, k < 200 → Mp (R + 2) k = Ms (R + 1) (200 * v + k)) ∧ f_X7_load_51 R a (w + n + 1) (iI i) M' = Option.bind (f_X7_readsText R Mp) (fun v1 => if v1.1 = 0 then f_X7_load_86 R a fm_fuel (0 : Int32) v1.2 else f_X7_load_128 R a fm_fuel (fm_rem ((v1.2 R 3) + (1 : Int32)) (9 : Int32)) (0 : Int32) v1.2)
  | 0, i, w, M', h, f, c => by
    have e : i = 200 := by omega
    subst e
    refine ⟨M', f, c, ?_⟩
    rw [f_X7_load_51, if_pos (show (200 : Int32) ≤ iI ((200 : Nat) : Int) by decide)]
  | n + 1, i, w, M', h, f, c => by
    have hv2 := hv.2
    have hv' : rvn R M' v := ⟨(f _ _ (by omega)).trans hv.1, hv.2⟩
    rw [f_X7_load_51, if_neg (by rw [iI_200, iI_le (by omega) (by omega)]; omega), r_get hv' (by omega), bd_s, in_t (show i < 200 by omega) (by omega), ck_t, iI_nn (by omega), Int.toNat_natCast, iI_s]
    refine r_prep1 hv n (i + 1) w _ (by omega) (fun b k z => (up_i (by omega)).trans (f b k z)) (fun k hk => ?_)
    by_cases e : k = i
    · subst e; rw [up_s]; exact f _ _ (by omega)
    · rw [up_i (by omega)]; exact c k (by omega)
theorem r_rest (hv : rvn R M v) : pW (f_X7_load_86 R a fm_fuel 0 M) (fun r => r.1 = M R 14 ∧ (∀ b k, (b ≠ R + 1 ∨ k < 200 * v ∨ 200 * v + 200 ≤ k) → r.2 b k = M b k) ∧ ∀ k, k < 200 → r.2 (R + 1) (200 * v + k) = M (R + 2) k) := by
  have hv2 := hv.2
  refine pW_lp (fun w i (M' : fm_Mem) => f_X7_load_86 R a w (iI i) M') (fun i M' => (∀ b k, (b ≠ R + 1 ∨ k < 200 * v ∨ 200 * v + 200 ≤ k) → M' b k = M b k) ∧ ∀ k, k < i → M' (R + 1) (200 * v + k) = M (R + 2) k) 200 ?_ fm_fuel 0 M ⟨fun _ _ _ => rfl, fun k z => absurd z (Nat.not_lt_zero k)⟩ (Nat.zero_le _) (by unfold fm_fuel; omega)
  intro w i M' hi hI kk
  obtain ⟨f, c⟩ := hI
  have hv' : rvn R M' v := ⟨(f _ _ (by omega)).trans hv.1, hv.2⟩
  rw [f_X7_load_86]
  refine pW_if (fun q => ?_) (fun q => ?_)
  · rw [iI_200, iI_le (by omega) (by omega)] at q
    have e : i = 200 := by omega
    subst e
    exact pW_some ⟨f _ _ (by omega), f, c⟩
  · rw [iI_200, iI_le (by omega) (by omega)] at q
    rw [in_t (show i < 200 by omega) (by omega), ck_t, iI_nn (by omega), Int.toNat_natCast, r_put hv' (by omega), bd_s, iI_s]
    refine kk _ (by omega) ⟨fun b k z => (up_i (by omega)).trans (f b k z), fun k hk => ?_⟩
    by_cases e : k = i
    · subst e; rw [up_s]; exact f _ _ (by omega)
    · rw [up_i (by omega)]; exact c k (by omega)
theorem r_commit (hv : rvn R M v) (h4 : M R 4 = iI u) (hu : u ≤ 8) {n : Nat} (hn : M (R + 1) (200 * v) = iI n) : pW (f_X7_load_128 R a fm_fuel (iI ((((v + 1) % 9 : Nat)) : Int)) 0 M) (fun r => r.1 = iI n ∧ (∀ b k, (b ≠ R + 1 ∨ ((k < 200 * v ∨ 200 * v + 200 ≤ k) ∧ (k < 200 * ((v + 1) % 9) ∨ 200 * ((v + 1) % 9) + 200 ≤ k))) → (b ≠ R ∨ (k ≠ 3 ∧ k ≠ 4)) → r.2 b k = M b k) ∧ (∀ k, k < 200 → r.2 (R + 1) (200 * v + k) = M (R + 2) k ∧ r.2 (R + 1) (200 * ((v + 1) % 9) + k) = M (R + 1) (200 * v + k)) ∧ r.2 R 3 = iI (((v + 1) % 9 : Nat) : Int) ∧ r.2 R 4 = iI ((min (u + 1) 8 : Nat) : Int)) := by
  have hv2 := hv.2
  have m9 := Nat.mod_lt (v + 1) (show 9 > 0 by decide)
  have mv : (v + 1) % 9 ≠ v := by omega
  refine pW_lp (fun w i (M' : fm_Mem) => f_X7_load_128 R a w (iI ((((v + 1) % 9 : Nat)) : Int)) (iI i) M') (fun i M' => (∀ b k, (b ≠ R + 1 ∨ ((k < 200 * v ∨ 200 * v + i ≤ k) ∧ (k < 200 * ((v + 1) % 9) ∨ 200 * ((v + 1) % 9) + 200 ≤ k))) → M' b k = M b k) ∧ ∀ k, k < i → M' (R + 1) (200 * v + k) = M (R + 2) k ∧ M' (R + 1) (200 * ((v + 1) % 9) + k) = M (R + 1) (200 * v + k)) 200 ?_ fm_fuel 0 M ⟨fun _ _ _ => rfl, fun k z => absurd z (Nat.not_lt_zero k)⟩ (Nat.zero_le _) (by unfold fm_fuel; omega)
  intro w i M' hi hI kk
  obtain ⟨f, c⟩ := hI
  have hv' : rvn R M' v := ⟨(f _ _ (by omega)).trans hv.1, hv.2⟩
  rw [f_X7_load_128]
  refine pW_if (fun q => ?_) (fun q => ?_)
  · rw [iI_200, iI_le (by omega) (by omega)] at q
    have e : i = 200 := by omega
    subst e
    have e4 : fm_up M' R 3 (iI ((((v + 1) % 9 : Nat)) : Int)) R 4 = iI u := by rw [up_i (by omega), f _ _ (by omega)]; exact h4
    have fin : ∀ y, y = iI ((min (u + 1) 8 : Nat) : Int) → pW (f_X7_load_202 R a y (fm_up M' R 3 (iI ((((v + 1) % 9 : Nat)) : Int)))) (fun r => r.1 = iI n ∧ (∀ b k, (b ≠ R + 1 ∨ ((k < 200 * v ∨ 200 * v + 200 ≤ k) ∧ (k < 200 * ((v + 1) % 9) ∨ 200 * ((v + 1) % 9) + 200 ≤ k))) → (b ≠ R ∨ (k ≠ 3 ∧ k ≠ 4)) → r.2 b k = M b k) ∧ (∀ k, k < 200 → r.2 (R + 1) (200 * v + k) = M (R + 2) k ∧ r.2 (R + 1) (200 * ((v + 1) % 9) + k) = M (R + 1) (200 * v + k)) ∧ r.2 R 3 = iI (((v + 1) % 9 : Nat) : Int) ∧ r.2 R 4 = iI ((min (u + 1) 8 : Nat) : Int)) := fun y ey => by
      unfold f_X7_load_202
      have fr : ∀ b k, (b ≠ R ∨ (k ≠ 3 ∧ k ≠ 4)) → fm_up (fm_up M' R 3 (iI ((((v + 1) % 9 : Nat)) : Int))) R 4 y b k = M' b k := fun b k z => by rw [up_i (by omega), up_i (by omega)]
      have r3 : fm_up (fm_up M' R 3 (iI ((((v + 1) % 9 : Nat)) : Int))) R 4 y R 3 = iI (((v + 1) % 9 : Nat) : Int) := by rw [up_i (by omega), up_s]
      have rv : rvn R (fm_up (fm_up M' R 3 (iI ((((v + 1) % 9 : Nat)) : Int))) R 4 y) ((v + 1) % 9) := ⟨r3, by omega⟩
      unfold f_X7_points
      rw [show (0 : Int32) = iI ((0 : Nat) : Int) from rfl, r_get rv (by omega), bd_s, bd_s]
      refine pW_some ⟨?_, fun b k z1 z2 => ?_, fun k hk => ?_, r3, up_s.trans ey⟩
      · exact (fr _ _ (by omega)).trans ((c 0 (by omega)).2.trans hn)
      · exact (fr b k z2).trans (f b k z1)
      · exact ⟨(fr _ _ (by omega)).trans (c k hk).1, (fr _ _ (by omega)).trans (c k hk).2⟩
    refine pW_if (fun q2 => ?_) (fun q2 => ?_)
    · rw [e4] at q2 ⊢
      rw [show (8 : Int32) = iI 8 by decide, iI_le (by omega) (by omega)] at q2
      exact fin _ (by rw [show min (u + 1) 8 = u by omega])
    · rw [e4] at q2 ⊢
      rw [show (8 : Int32) = iI 8 by decide, iI_le (by omega) (by omega)] at q2
      exact fin _ ((iI_s u).trans (by rw [show min (u + 1) 8 = u + 1 by omega]))
  · rw [iI_200, iI_le (by omega) (by omega)] at q
    rw [r_get hv' (by omega), bd_s, iI_200, iI_mul, iI_add, show (200 : Int) * (((v + 1) % 9 : Nat) : Int) + (i : Int) = ((200 * ((v + 1) % 9) + i : Nat) : Int) by omega, in_t (by omega) (by omega), ck_t, in_t (show i < 200 by omega) (by omega), ck_t, iI_nn (by omega), iI_nn (by omega), Int.toNat_natCast, Int.toNat_natCast, up_i (show R + 2 ≠ R + 1 ∨ i ≠ 200 * ((v + 1) % 9) + i by omega)]
    have hv'' : rvn R (fm_up M' (R + 1) (200 * ((v + 1) % 9) + i) (M' (R + 1) (200 * v + i))) v := ⟨(up_i (by omega)).trans hv'.1, hv.2⟩
    rw [r_put hv'' (by omega), bd_s, iI_s]
    refine kk _ (by omega) ⟨fun b k z => by rw [up_i (by omega), up_i (by omega)]; exact f b k (by omega), fun k hk => ?_⟩
    by_cases e : k = i
    · subst e
      refine ⟨by rw [up_s]; exact f _ _ (by omega), ?_⟩
      rw [up_i (by omega), up_s]
      exact f _ _ (by omega)
    · rw [up_i (by omega), up_i (by omega), up_i (by omega), up_i (by omega)]
      exact c k (by omega)
end LO
end
