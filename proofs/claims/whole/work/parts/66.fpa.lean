section
/-! centre, roundness, share -/
def qOkD (R v u : Nat) (s : gPl) (M : fm_Mem) (oc : Option (Nat ⊕ UInt64)) (orr : Option (UInt64 × fm_Mem)) : Prop := ∃ o r, oc = some o ∧ orr = some r ∧ (match o with | .inl k => k = 2 ∧ r.2 R 0 = 1 | .inr x => r.2 R 0 = 0 ∧ r.1 = x ∧ fm_f64 x = true) ∧ frQ R M r.2 ∧ rKs R r.2 v s u
def qOkF (R v u : Nat) (s : gPl) (M : fm_Mem) (oc : Option UInt32) (orr : Option (UInt32 × fm_Mem)) : Prop := ∃ x r, oc = some x ∧ orr = some r ∧ r.1 = x ∧ fm_f32 x = true ∧ frQ R M r.2 ∧ rKs R r.2 v s u
theorem fp_dfin (z : Int) (h : z.natAbs < 9007199254740992) : ∃ s c q, FP.Core.decode FP.Core.b64 (FP.l2d (iL z)).toNat = .fin s c q := by
  by_cases h0 : z = 0
  · subst h0; exact ⟨_, _, _, fp_l2d0⟩
  · exact ⟨_, _, _, fp_l2d z h0 h⟩
theorem fp_ffin (z : Int) (h : z.natAbs < 16777216) : ∃ s c q, FP.Core.decode FP.Core.b32 (FP.l2f (iL z)).toNat = .fin s c q := by
  by_cases h0 : z = 0
  · subst h0; exact ⟨_, _, _, fp_l2f0⟩
  · exact ⟨_, _, _, fp_l2f z h0 h⟩
theorem fp_under {t : Int} (h0 : t ≠ 0) (h : t.natAbs < 9007199254740992) : ∃ s c q, FP.Core.decode FP.Core.b64 (FP.dmul 4611686018427387904 (FP.l2d (iL t))).toNat = .fin s c q ∧ 4503599627370496 ≤ c := by
  have d := fp_l2d t h0 h
  obtain ⟨k1, k2⟩ := fp_k (show t.natAbs ≠ 0 by omega)
  have k3 := fp_klt (w := 52) (show t.natAbs ≠ 0 by omega) h
  obtain ⟨b1, b2⟩ := fp_pw k1 k2 k3
  generalize t.natAbs.log2 = k at *
  generalize t.natAbs * 2 ^ (52 - k) = c at *
  refine ⟨decide (t < 0), c, (k : Int) - 51, ?_, b1⟩
  show FP.Core.decode FP.Core.b64 (UInt64.ofNat (FP.Core.encode FP.Core.b64 (FP.Core.round FP.Core.b64 (FP.Core.exactProduct (FP.Core.decode FP.Core.b64 (4611686018427387904 : UInt64).toNat) (FP.Core.decode FP.Core.b64 (FP.l2d (iL t)).toNat))))).toNat = _
  rw [d, fp_d2]
  show FP.Core.decode FP.Core.b64 (UInt64.ofNat (FP.Core.encode FP.Core.b64 (FP.Core.roundRatio FP.Core.b64 (false != decide (t < 0)) (4503599627370496 * c) 1 (-51 + ((k : Int) - 52))))).toNat = _
  rw [Nat.mul_comm 4503599627370496 c, show c * 4503599627370496 = c * 2 ^ 52 by omega, fp_r2 fp_p6 b1 b2 (by rw [fp_q6]; omega) (by rw [fp_Q6]; omega), fp_rt6 _ b1 b2 (by omega) (by omega), show -51 + ((k : Int) - 52) + ((52 : Nat) : Int) = (k : Int) - 51 by omega]
  congr 1
  cases decide (t < 0) <;> rfl
theorem fp_ddiv {x y : UInt64} {s s' : Bool} {c c' : Nat} {q q' : Int} (hx : FP.Core.decode FP.Core.b64 x.toNat = .fin s c q) (hy : FP.Core.decode FP.Core.b64 y.toNat = .fin s' c' q') (h : c' ≠ 0) : fm_f64 (FP.ddiv x y) = true := by
  show fm_f64 (UInt64.ofNat (FP.Core.encode FP.Core.b64 (FP.Core.quotient FP.Core.b64 (FP.Core.decode FP.Core.b64 x.toNat) (FP.Core.decode FP.Core.b64 y.toNat)))) = true
  rw [hx, hy]
  show fm_f64 (UInt64.ofNat (FP.Core.encode FP.Core.b64 (if c' = 0 then _ else FP.Core.roundRatio FP.Core.b64 (s != s') c c' (q - q')))) = true
  rw [if_neg h]
  exact fp_n6 _ _ _ _
theorem fp_fdiv {x y : UInt32} {s s' : Bool} {c c' : Nat} {q q' : Int} (hx : FP.Core.decode FP.Core.b32 x.toNat = .fin s c q) (hy : FP.Core.decode FP.Core.b32 y.toNat = .fin s' c' q') (h : c' ≠ 0) : fm_f32 (FP.fdiv x y) = true := by
  show fm_f32 (UInt32.ofNat (FP.Core.encode FP.Core.b32 (FP.Core.quotient FP.Core.b32 (FP.Core.decode FP.Core.b32 x.toNat) (FP.Core.decode FP.Core.b32 y.toNat)))) = true
  rw [hx, hy]
  show fm_f32 (UInt32.ofNat (FP.Core.encode FP.Core.b32 (if c' = 0 then _ else FP.Core.roundRatio FP.Core.b32 (s != s') c c' (q - q')))) = true
  rw [if_neg h]
  exact fp_n _ _ _ _
theorem fp_dz {y : UInt64} {s : Bool} {c : Nat} {q : Int} (hy : FP.Core.decode FP.Core.b64 y.toNat = .fin s c q) (h : c ≠ 0) : ¬ Op.cmpValue (FP.dcmp y FP.dconst0) .l = 0 := by
  have e : FP.dcmp y FP.dconst0 = some (compare (FP.Core.signed s (c * 2 ^ (q - min q (-1074)).toNat)) (FP.Core.signed false (0 * 2 ^ (-1074 - min q (-1074)).toNat))) := by
    show FP.Core.order (FP.Core.decode FP.Core.b64 y.toNat) (FP.Core.decode FP.Core.b64 FP.dconst0.toNat) = _
    rw [hy, fp_d0]
    rfl
  have p := Nat.mul_pos (show 0 < c by omega) (Nat.two_pow_pos (q - min q (-1074)).toNat)
  rw [e, Nat.zero_mul]
  generalize c * 2 ^ (q - min q (-1074)).toNat = w at *
  have e0 : FP.Core.signed false 0 = 0 := rfl
  rw [e0]
  cases s with
  | false => rw [show FP.Core.signed false w = (w : Int) from rfl, fp_gt (by omega)]; decide
  | true => rw [show FP.Core.signed true w = -(w : Int) from rfl, fp_lt (by omega)]; decide
section CE
variable {A R v u n m d : Nat} {M : fm_Mem} {X Y : Nat → Int} {T D : Nat → Nat} {fl pu : Int}
def ovX (X Y : Nat → Int) (a b c : Nat) : Int := gN (X a) (Y a) * (Y b - Y c) + gN (X b) (Y b) * (Y c - Y a) + gN (X c) (Y c) * (Y a - Y b)
def ovY (X Y : Nat → Int) (a b c : Nat) : Int := gN (X a) (Y a) * (X c - X b) + gN (X b) (Y b) * (X a - X c) + gN (X c) (Y c) * (X b - X a)
theorem gN_b1 (hb : gbd n X Y) {a : Nat} (ha : a < n) : 0 ≤ gN (X a) (Y a) ∧ gN (X a) (Y a) ≤ 80000 := by
  have b := hb a ha
  refine ⟨gN_nn _ _, ?_⟩
  unfold gN
  have m1 := g_mb (a := X a) (b := X a) 200 200 (by omega) (by omega)
  have m2 := g_mb (a := Y a) (b := Y a) 200 200 (by omega) (by omega)
  omega
theorem ov_bd (hb : gbd n X Y) {a b c : Nat} (ha : a < n) (hb' : b < n) (hc : c < n) : (ovX X Y a b c).natAbs < 9007199254740992 ∧ (ovY X Y a b c).natAbs < 9007199254740992 := by
  have b1 := hb a ha
  have b2 := hb b hb'
  have b3 := hb c hc
  have g1 := gN_b1 hb ha
  have g2 := gN_b1 hb hb'
  have g3 := gN_b1 hb hc
  unfold ovX ovY
  have m1 := g_mb (a := gN (X a) (Y a)) (b := Y b - Y c) 80000 200 (by omega) (by omega)
  have m2 := g_mb (a := gN (X b) (Y b)) (b := Y c - Y a) 80000 200 (by omega) (by omega)
  have m3 := g_mb (a := gN (X c) (Y c)) (b := Y a - Y b) 80000 200 (by omega) (by omega)
  have m4 := g_mb (a := gN (X a) (Y a)) (b := X c - X b) 80000 200 (by omega) (by omega)
  have m5 := g_mb (a := gN (X b) (Y b)) (b := X a - X c) 80000 200 (by omega) (by omega)
  have m6 := g_mb (a := gN (X c) (Y c)) (b := X b - X a) 80000 200 (by omega) (by omega)
  omega
theorem q_centre {s : gPl} (hs : gOkP s) (hC : cKs A M s u) (hR : rKs R M v s u) (a : Int32) {f : Int32} (hf : f = 0 ∨ f = 1) : qOkD R v u s M (f_X6_centre A a f M) (f_X7_centre R a f M) := by
  obtain ⟨z, hz, rfl⟩ := i_ex a
  obtain ⟨⟨n, X, Y⟩, ⟨m, T⟩, ⟨d, D⟩, fl, pu⟩ := s
  have hR0 := hR.up (j := 0) 0 (by omega)
  have kK := rKs_K hs hR0
  have hb := hs.2.1
  obtain ⟨⟨x, M1⟩, e, y1, y2, y3, y4⟩ := r_manyK kK hs.2.2.2.2
  dsimp only at y1 y2 y3 y4
  subst y1
  have hR1 := hR0.L y3 y4.2.2.1
  have h0 : M1 R 0 = 0 := (y3 R 0 (by omega)).trans up_s
  have hm := hC.1.2.2.1
  have hd35 := hm.2.1
  have et := r_isTri e (by omega) hz
  unfold f_X6_centre f_X7_centre
  rw [et, bd_s]
  unfold f_X6_needTriangle f_X6_needTriangle_12
  rw [k_msize hm, bd_s]
  simp (disch := omega) only [iI_n0, iI_lt]
  by_cases c : 0 ≤ z ∧ z < d
  · obtain ⟨t, rfl⟩ : ∃ t : Nat, z = (t : Int) := ⟨z.toNat, by omega⟩
    have ht : t < d := by omega
    obtain ⟨a, b, c', h1, h2, h3, eD⟩ := hs.2.2.2.2.1.2 t ht
    have hn := hs.1
    have ha : a < n := by omega
    have hb' : b < n := by omega
    obtain ⟨e1, e2, e3⟩ := k_abc hm ht (show b < 20 by omega) (show c' < 20 by omega) (show a < 20 by omega) eD
    obtain ⟨w1, w2, w3⟩ := y2.2.2.2.2.2 t ht
    rw [show D t / 400 = a by omega] at w1
    rw [show D t / 20 % 20 = b by omega] at w2
    rw [show D t % 20 = c' by omega] at w3
    have cp := hC.1.1
    have rp := y4.1
    have b1 := hb a ha
    have b2 := hb b hb'
    have b3 := hb c' h3
    have tb := gT_bd hb ha hb' h3
    have tn : gT X Y a b c' ≠ 0 := by
      have := (hs.2.2.2.2.2 a b c' h1 h2 h3).mp ⟨t, ht, eD⟩
      exact this.2.2.2.1
    have ob := ov_bd hb ha hb' h3
    obtain ⟨us, uc, uq, ue, ug⟩ := fp_under tn (by omega)
    rw [if_neg (by omega), if_pos (by omega), if_pos c, bx_r, e1, bd_s, e2, bd_s, e3, bd_s, r_right1 h0, bd_s, if_neg (n1 _)]
    rw [iI_3, iI_mul, show (1 : Int32) = iI 1 from rfl, show (2 : Int32) = iI 2 from rfl, iI_add, iI_add, show (3 : Int) * (t : Int) = ((3 * t : Nat) : Int) by omega, show ((3 * t : Nat) : Int) + 1 = ((3 * t + 1 : Nat) : Int) by omega, show ((3 * t : Nat) : Int) + 2 = ((3 * t + 2 : Nat) : Int) by omega, in_t (by omega) (by omega), in_t (by omega) (by omega), in_t (by omega) (by omega), ck_t, ck_t, ck_t, iI_nn (by omega), iI_nn (by omega), iI_nn (by omega), Int.toNat_natCast, Int.toNat_natCast, Int.toNat_natCast]
    dsimp only
    rw [w1, w2, w3]
    simp only [k_sq cp hb ha, k_sq cp hb hb', k_sq cp hb h3, k_x cp ha, k_x cp hb', k_x cp h3, k_y cp ha, k_y cp hb', k_y cp h3, r_sq rp hb ha, r_sq rp hb hb', r_sq rp hb h3, r_x rp ha, r_x rp hb', r_x rp h3, r_y rp ha, r_y rp hb', r_y rp h3, bd_s, iI_sub]
    rw [iL_i (a := X a - X c') (by omega), iL_i (a := X c' - X b) (by omega), iL_i (a := X b - X a) (by omega), iL_i (a := Y b - Y c') (by omega), iL_i (a := Y c' - Y a) (by omega), iL_i (a := Y a - Y b) (by omega)]
    simp only [iL_mul, iL_add]
    have fin : ∀ ov : Int, ov.natAbs < 9007199254740992 → qOkD R v u ((n, X, Y), (m, T), (d, D), fl, pu) M (f_X6_centre_200 A (iI (t : Int)) f (iI a) (iI b) (iI c') (iL ov) M) (f_X7_centre_193 R (iI (t : Int)) f (iI a) (iI b) (iI c') (iL ov) M1) := fun ov hov => by
      obtain ⟨os, oc, oq, oe⟩ := fp_dfin ov hov
      have dv := fp_ddiv oe ue (by omega)
      unfold f_X6_centre_200 f_X6_centre_235 f_X7_centre_193
      rw [k_turn cp ha hb' h3, bd_s, r_turn rp hb ha hb' h3, bd_s, fp_i2d _ (by omega), fp_ok6 (by rw [ue]; intro w; cases w), ck_t, ck_t, if_neg (fp_dz ue (by omega)), dv, ck_t, ck_t]
      exact ⟨_, _, rfl, rfl, ⟨h0, rfl, dv⟩, frQ_0 y3, hR1⟩
    rcases hf with rfl | rfl
    · rw [if_pos rfl, if_pos rfl]
      exact fin (ovY X Y a b c') ob.2
    · rw [if_neg n10, if_neg n10]
      exact fin (ovX X Y a b c') ob.1
  · rw [if_neg c, r_right0 h0 (by decide), bd_s, if_pos rfl]
    refine ⟨.inl 2, _, ?_, rfl, ⟨rfl, up_s⟩, fun b j z => (up_i (by omega)).trans (frQ_0 y3 b j z), hR1.up _ (by omega)⟩
    by_cases c1 : z < 0
    · rw [if_pos c1, bx_l]
    · rw [if_neg c1, if_neg (by omega), bx_l]
theorem q_share {s : gPl} (hs : gOkP s) (hC : cKs A M s u) (hR : rKs R M v s u) : qOkF R v u s M (f_X6_share A M) (f_X7_share R M) := by
  obtain ⟨⟨n, X, Y⟩, ⟨m, T⟩, ⟨d, D⟩, fl, pu⟩ := s
  have hR0 := hR.up (j := 0) 0 (by omega)
  have kK := rKs_K hs hR0
  have hn := hs.1
  unfold f_X6_share f_X6_share_33 f_X7_share f_X7_share_28
  rw [k_size hC.1.1, bd_s, r_points kK.1, bd_s]
  simp (disch := omega) only [iI_e0]
  by_cases c : n = 0
  · rw [if_pos (by omega), if_pos (by omega)]
    exact ⟨_, _, rfl, rfl, rfl, by decide +kernel, frQ_0 frL_r, hR0⟩
  · rw [if_neg (by omega), if_neg (by omega), k_edges0 (X := X) (Y := Y) (d := d) (D := D) hC.1.2.1 hs.2.2.2.1 hn, bd_s]
    obtain ⟨⟨x, M1⟩, e, y1, y2, y3⟩ := r_edges kK hs.2.2.2.2 (show 0 < 4 by omega)
    dsimp only at y1 y2 y3
    have e' : f_X7_edges R 0 (fm_up M R 0 0) = some (x, M1) := e
    rw [e', bd_s]
    dsimp only
    rw [r_points y3.1, bd_s, y1]
    have eb : nE n (fW X Y m T d D 0) ≤ 400 := by
      have : ∀ k, gsm (fun p => gct (fun q => decide (p < q) && fW X Y m T d D 0 p q) n) k ≤ n * k := fun k => by
        induction k with
        | zero => exact Nat.le_refl _
        | succ k ih =>
          have := gct_bd (fun q => decide (k < q) && fW X Y m T d D 0 k q) n
          rw [gsm_s, Nat.mul_succ]
          omega
      have h1 := this n
      have h2 := Nat.mul_le_mul hn hn
      unfold nE
      omega
    obtain ⟨os, oc, oq, oe⟩ := fp_ffin ((nE n (fW X Y m T d D 0) : Nat) : Int) (by omega)
    have de := fp_l2f (n : Int) (by omega) (by omega)
    obtain ⟨k1, k2⟩ := fp_k (show (n : Int).natAbs ≠ 0 by omega)
    have k3 := fp_klt (w := 23) (show (n : Int).natAbs ≠ 0 by omega) (by omega)
    obtain ⟨b1, b2⟩ := fp_pw k1 k2 k3
    have dv := fp_fdiv oe de (by omega)
    rw [fp_i2f _ (by omega), fp_i2f _ (by omega), dv, ck_t, ck_t]
    exact ⟨_, _, rfl, rfl, rfl, dv, frQ_0 y2, hR0.L y2 y3.2.2.1⟩
theorem rnd_lt {a b c : Nat} (h : gT X Y a b c ≠ 0) : 2 * (gT X Y a b c).natAbs < gN (X a - X b) (Y a - Y b) + gN (X b - X c) (Y b - Y c) + gN (X c - X a) (Y c - Y a) := by
  have e1 : 2 * (gN (X a - X b) (Y a - Y b) + gN (X b - X c) (Y b - Y c) + gN (X c - X a) (Y c - Y a) - 2 * gT X Y a b c) = gN (2 * (X b - X a) - ((X c - X a) + (Y c - Y a))) (2 * (Y b - Y a) - ((Y c - Y a) - (X c - X a))) + 2 * gN (X c - X a) (Y c - Y a) := by unfold gT gC gN; grind
  have e2 : 2 * (gN (X a - X b) (Y a - Y b) + gN (X b - X c) (Y b - Y c) + gN (X c - X a) (Y c - Y a) + 2 * gT X Y a b c) = gN (2 * (X b - X a) - ((X c - X a) - (Y c - Y a))) (2 * (Y b - Y a) - ((Y c - Y a) + (X c - X a))) + 2 * gN (X c - X a) (Y c - Y a) := by unfold gT gC gN; grind
  have p1 := gN_nn (2 * (X b - X a) - ((X c - X a) + (Y c - Y a))) (2 * (Y b - Y a) - ((Y c - Y a) - (X c - X a)))
  have p2 := gN_nn (2 * (X b - X a) - ((X c - X a) - (Y c - Y a))) (2 * (Y b - Y a) - ((Y c - Y a) + (X c - X a)))
  have p3 : 0 < gN (X c - X a) (Y c - Y a) := by
    refine gN_pos (fun z => h ?_)
    unfold gT
    rw [z.1, z.2]
    unfold gC
    omega
  omega
theorem q_roundness {s : gPl} (hs : gOkP s) (hC : cKs A M s u) (hR : rKs R M v s u) (a : Int32) : qOk R v u (fun _ => 1) s M (f_X6_roundness A a M) (f_X7_roundness R a M) := by
  obtain ⟨z, hz, rfl⟩ := i_ex a
  obtain ⟨⟨n, X, Y⟩, ⟨m, T⟩, ⟨d, D⟩, fl, pu⟩ := s
  have h0 : fm_up M R 0 0 R 0 = 0 := up_s
  have hR0 := hR.up (j := 0) 0 (by omega)
  have kK := rKs_K hs hR0
  have hb := hs.2.1
  have hm := hC.1.2.1
  have hd35 := hm.2.1
  have et := r_isTri (r_many0 kK.2.1) (by omega) hz
  unfold f_X6_roundness f_X7_roundness
  rw [et, bd_s]
  unfold f_X6_needTriangle f_X6_needTriangle_12
  rw [k_msize hm, bd_s]
  simp (disch := omega) only [iI_n0, iI_lt]
  by_cases c : 0 ≤ z ∧ z < m
  · obtain ⟨t, rfl⟩ : ∃ t : Nat, z = (t : Int) := ⟨z.toNat, by omega⟩
    have ht : t < m := by omega
    obtain ⟨a, b, c', h1, h2, h3, eD⟩ := kK.hv.2 t ht
    have hn := hs.1
    have ha : a < n := by omega
    have hb' : b < n := by omega
    obtain ⟨e1, e2, e3⟩ := k_abc hm ht (show b < 20 by omega) (show c' < 20 by omega) (show a < 20 by omega) eD
    obtain ⟨w1, w2, w3⟩ := rtr_tri kK.2.1 t ht
    have g1 : T t / 400 = a := by omega
    have g2 : T t / 20 % 20 = b := by omega
    have g3 : T t % 20 = c' := by omega
    rw [g1] at w1
    rw [g2] at w2
    rw [g3] at w3
    have tn := (hs.2.2.2.1.2.1 (tri (T t)) ⟨t, ht, rfl⟩).2.2.2
    unfold tri at tn
    dsimp only at tn
    rw [g1, g2, g3] at tn
    have cp := hC.1.1
    have rp := kK.1
    have tb := gT_bd hb ha hb' h3
    have d1 := gN_bd hb ha hb'
    have d2 := gN_bd hb hb' h3
    have d3 := gN_bd hb h3 ha
    have lt := rnd_lt tn
    rw [if_neg (by omega), if_pos (by omega), if_pos c, bx_r, e1, bd_s, e2, bd_s, e3, bd_s, r_right1 h0, bd_s, if_neg (n1 _)]
    dsimp only
    rw [w1, bd_s, w2, bd_s, w3, bd_s, k_dist cp ha hb', bd_s, k_dist cp hb' h3, bd_s, k_dist cp h3 ha, bd_s, k_turn cp ha hb' h3, bd_s, r_turn rp hb ha hb' h3, bd_s, r_apart rp hb ha hb', bd_s, r_apart rp hb hb' h3, bd_s, r_apart rp hb h3 ha, bd_s, ab_i (by omega), ab_l (by omega), iI_add, iI_add, iL_add, iL_add, fp_i2f _ (by omega), fp_i2f _ (by omega)]
    obtain ⟨C, Q, f1, f2, f3, f4, f5⟩ := fp_quo (a := ((gT X Y a b c').natAbs : Int)) (b := gN (X a - X b) (Y a - Y b) + gN (X b - X c') (Y b - Y c') + gN (X c' - X a) (Y c' - Y a)) (by omega) (by omega) (by omega)
    generalize FP.fdiv (FP.l2f (iL ((gT X Y a b c').natAbs : Int))) (FP.l2f (iL (gN (X a - X b) (Y a - Y b) + gN (X b - X c') (Y b - Y c') + gN (X c' - X a) (Y c' - Y a)))) = w at *
    simp (disch := omega) only [iI_e0]
    rw [if_neg (by omega), fp_ok (by rw [f1]; intro w; cases w), ck_t, ck_t, k_bits32 f1 f2 f3 f4 (by omega), bd_s]
    have cm : Op.cmpValue (FP.fcmp w w) CmpOp.l = 0 := by
      have : FP.fcmp w w = some .eq := by
        show FP.Core.order (FP.Core.decode FP.Core.b32 w.toNat) (FP.Core.decode FP.Core.b32 w.toNat) = _
        rw [f1]
        show some (compare _ _) = some .eq
        rw [fp_eq]
      rw [this]; rfl
    unfold f_S_floatToIntBits
    rw [decide_eq_true cm, ck_t, bd_s]
    exact qOk_r rfl (pW_some ⟨rfl, frL_r, hR0⟩)
  · rw [if_neg c, r_right0 h0 (by decide), bd_s, if_pos rfl]
    refine qOk_l (k := 2) (x := 0) ?_ frL_r hR0 rfl
    by_cases c1 : z < 0
    · rw [if_pos c1, bx_l]
    · rw [if_neg c1, if_neg (by omega), bx_l]
end CE
end
