section
/-! the whole text; load -/
def zM (R v i : Nat) (M : fm_Mem) : fm_Mem := fun b k => if b = R + 1 ∧ 200 * v ≤ k ∧ k < 200 * v + i then 0 else M b k
section LD
variable {P R v L : Nat} {tx : Nat → Int32} {M Mr : fm_Mem}
theorem zM_0 : zM R v 0 M = M := by
  funext b k
  unfold zM
  rw [if_neg (by omega)]
theorem zM_s {i : Nat} : fm_up (zM R v i M) (R + 1) (200 * v + i) 0 = zM R v (i + 1) M := by
  funext b k
  unfold fm_up zM
  by_cases c : b = R + 1 ∧ k = 200 * v + i
  · rw [if_pos c, if_pos (by omega)]
  · rw [if_neg c]
    by_cases d : b = R + 1 ∧ 200 * v ≤ k ∧ k < 200 * v + i
    · rw [if_pos d, if_pos (by omega)]
    · rw [if_neg d, if_neg (by omega)]
theorem zM_f {i b k : Nat} (h : b ≠ R + 1 ∨ k < 200 * v ∨ 200 * v + i ≤ k) : zM R v i M b k = M b k := if_neg (by omega)
theorem r_zero (hv : rvn R M v) : ∀ (n i u : Nat), i + n = 200 → f_X7_readsText_22 R (u + n + 1) (iI i) (zM R v i M) = Option.bind (f_X7_sign R (59 : Int32) (fm_up (zM R v 200 M) R 18 (0 : Int32))) (fun v1 => if v1.1 = 0 then some ((0 : Int32), v1.2) else f_X7_readsText_57 R fm_fuel v1.2)
  | 0, i, u, h => by
    have e : i = 200 := by omega
    subst e
    rw [f_X7_readsText_22, if_pos (show (200 : Int32) ≤ iI ((200 : Nat) : Int) by decide)]
  | n + 1, i, u, h => by
    have hv2 := hv.2
    have hv' : rvn R (zM R v i M) v := ⟨(zM_f (by omega)).trans hv.1, hv.2⟩
    rw [f_X7_readsText_22, if_neg (by rw [iI_200, iI_le (by omega) (by omega)]; omega), r_put hv' (by omega), bd_s, zM_s, iI_s]
    exact r_zero hv n (i + 1) u (by omega)
theorem L_read (hb : ∀ k, k < L → ¬ tx k = -1) (hL : L ≤ 400) (ht : ∀ k, k < L → M (P + 2) k = tx k) (hr : rTx R Mr tx L) (h13 : Mr R 13 = iI 0) (h14 : Mr R 14 = iI 0) (h15 : Mr R 15 = iI (-1)) (hv : rvn R Mr v) (hl : rld R Mr) : ∃ M1 : fm_Mem, (∀ b k, (b < P ∨ b = P + 1 ∨ b = P + 2 ∨ P + 19 ≤ b) → M1 b k = M b k) ∧ M1 P 2 = iI 0 ∧ pW (f_X5_read P (iI L) M) (fun rc => pW (f_X7_readsText R Mr) (fun rr => FinP P R v M1 Mr rc rr)) := by
  obtain ⟨M0, e0, p0, f0⟩ := k_clear (P := P + 3) (M := M) (T0 := fun _ => 0) (X0 := fun _ => 0) (Y0 := fun _ => 0)
  unfold f_X5_read f_X5_begin f_X7_readsText
  rw [e0, bd_s]
  generalize hM1 : fm_up (fm_up (fm_up (fm_up (fm_up (fm_up M0 P 3 (iI (L : Int))) P 2 0) P 4 0) P 8 0) P 9 (-1)) P 10 0 = M1
  have f1 : ∀ b, b ≠ P → M1 b = M0 b := fun b hb => by rw [← hM1, up_ne hb, up_ne hb, up_ne hb, up_ne hb, up_ne hb, up_ne hb]
  have a3 : M1 P 3 = iI L := by rw [← hM1, up_i (by omega), up_i (by omega), up_i (by omega), up_i (by omega), up_i (by omega), up_s]
  have a2 : M1 P 2 = iI 0 := by rw [← hM1, up_i (by omega), up_i (by omega), up_i (by omega), up_i (by omega), up_s]; rfl
  have a4 : M1 P 4 = iI ((0 : Nat) : Int) := by rw [← hM1, up_i (by omega), up_i (by omega), up_i (by omega), up_s]; rfl
  have a8 : M1 P 8 = iI 0 := by rw [← hM1, up_i (by omega), up_i (by omega), up_s]; rfl
  have a9 : M1 P 9 = iI (-1) := by rw [← hM1, up_i (by omega), up_s]; rfl
  have a10 : M1 P 10 = iI (if false then 1 else 0) := by rw [← hM1, up_s]; rfl
  have fM : ∀ b k, (b < P ∨ b = P + 1 ∨ b = P + 2 ∨ P + 19 ≤ b) → M1 b k = M b k := fun b k z => by rw [f1 b (by omega), f0 b (by omega)]
  have hx : cTx P M1 tx L := ⟨a3, hL, fun k hk => (fM _ _ (by omega)).trans (ht k hk)⟩
  refine ⟨M1, fM, a2, ?_⟩
  have p1 : cPl (P + 3) M1 ((0, fun _ => 0, fun _ => 0), (0, fun _ => 0), (0, fun _ => 0), 0, 0) := cPl_L p0 (fun b p q => f1 b (by omega))
  obtain ⟨Mc1, e1, j, -, cs1, fT1⟩ := CS_next (P := P) (R := R) (Mr := Mr) (e := 0) hx hr (by omega) a4 h13 ⟨a8, a9, h14, h15⟩
  have pc1 : cPl (P + 3) Mc1 ((0, fun _ => 0, fun _ => 0), (0, fun _ => 0), (0, fun _ => 0), 0, 0) := cPl_L p1 (fun b p q => by funext k; exact fT1 b k (by omega))
  have pts : ∃ n X Y, cpt (P + 3 + 1) Mc1 n X Y ∧ gbd n X Y := ⟨0, _, _, pc1.1, fun k hk => absurd hk (Nat.not_lt_zero k)⟩
  obtain ⟨i0, i13, rn⟩ := cs1.2.1
  obtain ⟨⟨v3, Mr3⟩, er3, f3, e, re, o3⟩ := r_takes (w := 3) hr i13 rn (by omega)
  dsimp only at f3 o3
  rw [e1, bd_s, bd_s, er3, bd_s]
  rw [wd_e tx j e 0 (by omega)] at o3
  obtain ⟨⟨K, K5, K6, Kw⟩, Ke⟩ := Tok_w cs1.1 (show 0 < 3 by omega) re
  have fS3 : frS R Mr Mr3 := fun b k z => f3 b k (by omega)
  have ff : fm_fuel = 4999 + 1 := rfl
  rcases o3 with ⟨w3, o31, o32⟩ | ⟨w3, o31, o32⟩
  · -- the word is there
    subst o31
    have K3 := Kw.mpr w3
    obtain ⟨c4, je⟩ := Ke w3
    unfold f_X5_need f_X5_need_14
    rw [if_neg n10, K5, if_pos (show iI K = 3 by rw [iI_3, iI_eq (by omega) (by omega)]; omega)]
    dsimp only
    have hv3 : rvn R Mr3 v := rvn_S hv fS3
    have hv2 := hv3.2
    have ez := r_zero hv3 200 0 4799 rfl
    rw [zM_0] at ez
    rw [show f_X7_readsText_22 R fm_fuel 0 Mr3 = f_X7_readsText_22 R (4799 + 200 + 1) (iI ((0 : Nat) : Int)) Mr3 from rfl, ez]
    generalize hM5 : fm_up (zM R v 200 Mr3) R 18 0 = Mr5
    have f5 : ∀ b k, (b ≠ R ∨ k ≠ 18) → (b ≠ R + 1 ∨ k < 200 * v ∨ 200 * v + 200 ≤ k) → Mr5 b k = Mr3 b k := fun b k z1 z2 => by rw [← hM5, up_i (by omega), zM_f z2]
    have z5 : ∀ k, k < 200 → Mr5 (R + 1) (200 * v + k) = 0 := fun k hk => by
      rw [← hM5, up_i (by omega)]
      exact if_pos (by omega)
    have hr5 : rTx R Mr5 tx L := rTx_fr hr (fun b k z => (f5 b k (by omega) (by omega)).trans (f3 b k (by omega)))
    obtain ⟨Mc2, e2, j2, ej2, cs2, fT2⟩ := CS_next (P := P) (R := R) (Mr := Mr5) cs1.2.2.2.1 hr5 re.2.1 c4 ((f5 _ _ (by omega) (by omega)).trans o32) ⟨cs1.2.2.1.1, cs1.2.2.1.2.1, (f5 _ _ (by omega) (by omega)).trans ((f3 _ _ (by omega)).trans h14), (f5 _ _ (by omega) (by omega)).trans ((f3 _ _ (by omega)).trans h15)⟩
    have pl2 : PL P R v false ((0, fun _ => 0, fun _ => 0), (0, fun _ => 0), (0, fun _ => 0), 0, 0) Mc2 Mr5 := by
      refine ⟨cPl_L pc1 (fun b p q => by funext k; exact fT2 b k (by omega)), ⟨⟨(f5 _ _ (by omega) (by omega)).trans hv3.1, hv3.2⟩, ⟨⟨by omega, z5 0 (by omega), fun k hk => absurd hk (Nat.not_lt_zero k)⟩, ⟨by omega, z5 1 (by omega), fun t ht => absurd ht (Nat.not_lt_zero t)⟩, z5 2 (by omega), z5 3 (by omega)⟩, rld_0 hl (fun b k z => (f5 b k (by omega) (by omega)).trans (f3 b k (by omega)))⟩, ⟨by omega, fun k hk => absurd hk (Nat.not_lt_zero k), fun i j hi => absurd hi (Nat.not_lt_zero i), gDr_0 _ _ _ _, fun z => (by cases z), fun _ => ⟨rfl, rfl⟩⟩, (fT2 _ _ (by omega)).trans ((fT1 _ _ (by omega)).trans a10), by rw [← hM5, up_s]; rfl⟩
    have frR5 : frRp R v Mr Mr5 := fun b k z => (f5 b k (by omega) (by omega)).trans (f3 b k (by omega))
    have fC2 : frCp P M1 Mc2 := frCp_t (frCp_T fT1) (frCp_T fT2)
    obtain ⟨Mc6, e6, r6, er6, ⟨g1, g2⟩, o6⟩ := L_semi cs2 pl2
    unfold f_X5_need f_X5_need_14 at e6
    rw [e2, bd_s, bd_s, e6, bd_s, er6, bd_s]
    rcases o6 with ⟨j7, dr7, s7, hj7, cs7, pl7, r7⟩ | ⟨code, off, es, r7, r14, r15, hv7, hl7⟩
    · rw [if_neg r7]
      exact pW_mono (L_loop hb (iI (L : Int)) 5000 5000 5000 0 j7 dr7 s7 Mc6 r6.2 (by omega) (by omega) (by omega) (by omega) (by omega) cs7 pl7) (fun rc z => pW_mono z (fun rr z' => FinP_t z' (frCp_t fC2 g1) (frRp_t frR5 g2)))
    · rw [if_pos r7, ff, ES_17 es]
      exact pW_some (pW_some (Es_fin es (frCp_t fC2 g1) (frRp_t frR5 g2) r7 r14 r15 hv7 hl7))
  · subst o31
    have K3 : ¬ K = 3 := fun z => by rw [Kw.mp (by omega)] at w3; cases w3
    obtain ⟨Mc2, e2, es, f2⟩ := CS_fail cs1 pts (c := -2) (by omega)
    obtain ⟨Mr4, g1, g2, g3, g4⟩ := r_fail2 (R := R) (M := Mr3) (c := -2) ((f3 _ _ (by omega)).trans h14) (o := j) o32
    unfold f_X5_need f_X5_need_14
    rw [if_pos rfl, K5, if_neg (show ¬ iI K = 3 by rw [iI_3, iI_eq (by omega) (by omega)]; exact K3), i_m2, e2, bd_s]
    obtain ⟨Mc3, e3, es3, f33⟩ := ES_adv es
    obtain ⟨Mc4, e4, es4, f44⟩ := ES_need es3 1
    unfold f_X5_need f_X5_need_14 at e4
    rw [i_m2] at e4
    dsimp only
    rw [e3, bd_s, bd_s, e4, bd_s, ff, ES_17 es4, g1, bd_s]
    dsimp only
    rw [bo_0, ck_t]
    exact pW_some (pW_some (Es_fin (r := (0, Mr4)) es4 (frCp_t (frCp_T fT1) (frCp_t f2 (frCp_t f33 f44))) (frRp_S (frS_t fS3 g4)) rfl g2 g3 (rvn_S hv (frS_t fS3 g4)) (rld_S hl (frS_t fS3 g4))))
end LD
end
