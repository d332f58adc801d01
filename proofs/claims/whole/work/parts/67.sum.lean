section
/-! the checksum, by both sides -/
def aS (o : Option (Nat ⊕ Int32)) : Int32 := match o with
  | some (.inr x) => x
  | _ => 0
def rowS (f : Nat → Int32) (s : Int64) : Nat → Int64
  | 0 => s
  | w + 1 => 31 * rowS f s w + Int32.toInt64 (f w)
def colS (f : Nat → Nat → Int32) (s : Int64) : Nat → Int64
  | 0 => s
  | p + 1 => rowS (f p) (colS f s p) 7
def staS (f : Nat → Int32) : Nat → Int64
  | 0 => 0
  | w + 1 => if w = 9 then staS f w else 31 * staS f w + Int32.toInt64 (f w)
section CS
variable {A R v u n m d : Nat} {M : fm_Mem} {X Y : Nat → Int} {T D : Nat → Nat} {fl pu : Int}
theorem k_wtri (f : Int32) {mm : Nat} (hm : mm ≤ 40) (ht : ∀ t w : Nat, t < mm → w ≤ 6 → f_X6_triangle A (iI (t : Int)) f (iI (w : Int)) M = some (.inr (aS (f_X6_triangle A (iI (t : Int)) f (iI (w : Int)) M)))) (a : Int64) : f_X6_withTriangles_27 A a f (iI mm) M = some (.inr (colS (fun t w => aS (f_X6_triangle A (iI (t : Int)) f (iI (w : Int)) M)) a mm)) := by
  unfold f_X6_withTriangles_27
  rw [iI_0]
  refine pW_eq (pW_lp (fun u t (s : Int64) => f_X6_withTriangles_35 A a f u (iI mm) s (iI t) M) (fun t s => s = colS (fun t w => aS (f_X6_triangle A (iI (t : Int)) f (iI (w : Int)) M)) a t) mm ?_ fm_fuel 0 a rfl (Nat.zero_le _) (by unfold fm_fuel; omega))
  intro u t s hi hI k
  rw [f_X6_withTriangles_35]
  simp (disch := omega) only [iI_le]
  refine pW_if (fun c => ?_) (fun c => ?_)
  · have e : t = mm := by omega
    subst e
    exact pW_some (by rw [hI])
  · rw [iI_0]
    refine pW_lp (fun x w (s' : Int64) => f_X6_withTriangles_45 A a f (fun x4 x5 x7 M => f_X6_withTriangles_35 A a f u x4 x5 x7 M) x (iI mm) s' (iI t) (iI w) M) (fun w s' => s' = rowS (fun w => aS (f_X6_triangle A (iI (t : Int)) f (iI (w : Int)) M)) s w) 7 ?_ fm_fuel 0 s rfl (Nat.zero_le _) (by unfold fm_fuel; omega)
    intro x w s' hw hJ kk
    rw [f_X6_withTriangles_45]
    refine pW_if (fun c2 => ?_) (fun c2 => ?_)
    · rw [iI_6, iI_lt (by omega) (by omega)] at c2
      have e : w = 7 := by omega
      subst e
      rw [iI_s]
      exact k s' (by omega) (by rw [hJ, hI]; rfl)
    · rw [iI_6, iI_lt (by omega) (by omega)] at c2
      rw [ht t w (by omega) (by omega), bx_r, iI_s]
      exact kk _ (by omega) (by rw [hJ]; rfl)
theorem k_sum {s : gPl} (hs : gOkP s) (hC : cKs A M s u) (lf tr : Int64) (el : f_X6_lift A M = some lf) (er : f_X6_tree A M = some tr)
    (h1 : ∀ w : Nat, w ≤ 11 → f_X6_state A (iI (w : Int)) M = some (.inr (aS (f_X6_state A (iI (w : Int)) M)))) (h2 : ∀ p w : Nat, p < s.1.1 → w ≤ 6 → f_X6_point A (iI (p : Int)) (iI (w : Int)) M = some (.inr (aS (f_X6_point A (iI (p : Int)) (iI (w : Int)) M))))
    (h3 : ∀ t w : Nat, t < s.2.1.1 → w ≤ 6 → f_X6_triangle A (iI (t : Int)) 0 (iI (w : Int)) M = some (.inr (aS (f_X6_triangle A (iI (t : Int)) 0 (iI (w : Int)) M)))) (h4 : ∀ t w : Nat, t < s.2.2.1.1 → w ≤ 6 → f_X6_triangle A (iI (t : Int)) 1 (iI (w : Int)) M = some (.inr (aS (f_X6_triangle A (iI (t : Int)) 1 (iI (w : Int)) M)))) :
    f_X6_checksum A M = some (.inr (31 * (31 * colS (fun t w => aS (f_X6_triangle A (iI (t : Int)) 1 (iI (w : Int)) M)) (colS (fun t w => aS (f_X6_triangle A (iI (t : Int)) 0 (iI (w : Int)) M)) (colS (fun p w => aS (f_X6_point A (iI (p : Int)) (iI (w : Int)) M)) (staS (fun w => aS (f_X6_state A (iI (w : Int)) M)) 12) s.1.1) s.2.1.1) s.2.2.1.1 + lf) + tr)) := by
  obtain ⟨⟨n, X, Y⟩, ⟨m, T⟩, ⟨d, D⟩, fl, pu⟩ := s
  dsimp only at h2 h3 h4 ⊢
  have hn := hs.1
  have hm := hC.1.2.1.2.1
  have hd := hC.1.2.2.1.2.1
  unfold f_X6_checksum
  rw [show f_X6_checksum_4 A fm_fuel 0 0 M = f_X6_checksum_4 A fm_fuel 0 (iI ((0 : Nat) : Int)) M from rfl]
  refine pW_eq (pW_lp (fun u w (s : Int64) => f_X6_checksum_4 A u s (iI w) M) (fun w s => s = staS (fun w => aS (f_X6_state A (iI (w : Int)) M)) w) 12 ?_ fm_fuel 0 0 rfl (Nat.zero_le _) (by unfold fm_fuel; omega))
  intro u w s hw hI k
  rw [f_X6_checksum_4]
  refine pW_if (fun c => ?_) (fun c => ?_)
  · rw [iI_11, iI_lt (by omega) (by omega)] at c
    have e : w = 12 := by omega
    subst e
    rw [← hI, show f_X6_checksum_37 A fm_fuel s 0 M = f_X6_checksum_37 A fm_fuel s (iI ((0 : Nat) : Int)) M from rfl]
    refine pW_lp (fun u p (s' : Int64) => f_X6_checksum_37 A u s' (iI p) M) (fun p s' => s' = colS (fun p w => aS (f_X6_point A (iI (p : Int)) (iI (w : Int)) M)) s p) n ?_ fm_fuel 0 s rfl (Nat.zero_le _) (by unfold fm_fuel; omega)
    intro u p s' hp hJ kk
    rw [f_X6_checksum_37, k_size hC.1.1, bd_s]
    refine pW_if (fun c2 => ?_) (fun c2 => ?_)
    · rw [iI_le (by omega) (by omega)] at c2
      have e : p = n := by omega
      subst e
      unfold f_X6_withTriangles
      rw [if_pos rfl, k_msize hC.1.2.1, bd_s, k_wtri 0 (by omega) h3, bx_r, if_neg n10, k_msize hC.1.2.2.1, bd_s, k_wtri 1 (by omega) h4, bx_r, el, bd_s, er, bd_s, ← hJ]
      exact pW_some rfl
    · rw [iI_le (by omega) (by omega)] at c2
      rw [show f_X6_checksum_54 A (fun x1 x3 M => f_X6_checksum_37 A u x1 x3 M) fm_fuel s' (iI p) 0 M = f_X6_checksum_54 A (fun x1 x3 M => f_X6_checksum_37 A u x1 x3 M) fm_fuel s' (iI p) (iI ((0 : Nat) : Int)) M from rfl]
      refine pW_lp (fun x w (z : Int64) => f_X6_checksum_54 A (fun x1 x3 M => f_X6_checksum_37 A u x1 x3 M) x z (iI p) (iI w) M) (fun w z => z = rowS (fun w => aS (f_X6_point A (iI (p : Int)) (iI (w : Int)) M)) s' w) 7 ?_ fm_fuel 0 s' rfl (Nat.zero_le _) (by unfold fm_fuel; omega)
      intro x w z hw hL kl
      rw [f_X6_checksum_54]
      refine pW_if (fun c3 => ?_) (fun c3 => ?_)
      · rw [iI_6, iI_lt (by omega) (by omega)] at c3
        have e : w = 7 := by omega
        subst e
        rw [iI_s]
        exact kk z (by omega) (by rw [hL, hJ]; rfl)
      · rw [iI_6, iI_lt (by omega) (by omega)] at c3
        rw [h2 p w (by omega) (by omega), bx_r, iI_s]
        exact kl _ (by omega) (by rw [hL]; rfl)
  · rw [iI_11, iI_lt (by omega) (by omega)] at c
    refine pW_if (fun c2 => ?_) (fun c2 => ?_)
    · rw [iI_9, iI_eq (by omega) (by omega)] at c2
      unfold f_X6_checksum_29
      rw [iI_s]
      exact k s (by omega) (by rw [hI, staS, if_pos (by omega)])
    · rw [iI_9, iI_eq (by omega) (by omega)] at c2
      rw [h1 w (by omega), bx_r]
      unfold f_X6_checksum_29
      rw [iI_s]
      exact k _ (by omega) (by rw [hI, staS, if_neg (by omega)])
/-- the reference's sum over the triangles of a kind -/
theorem r_kind {s : gPl} {W : gPl} {Q : Int64 × fm_Mem → Prop} {k89 : Int64 → Int32 → fm_Mem → Option (Int64 × fm_Mem)} {kd : Nat} (hkd : kd < 2) {mm : Nat} (hm : mm ≤ 40) (f : Nat → Nat → Int32) (a : Int64)
    (hM : ∀ M1, rKs R M1 v W u → pW (f_X7_many R (iI kd) M1) (fun r => r.1 = iI mm ∧ frL R M1 r.2 ∧ rKs R r.2 v W u ∧ ∀ t w : Nat, t < mm → w ≤ 6 → pW (f_X7_toldOfTriangle R (iI (t : Int)) (iI kd) (iI (w : Int)) r.2) (fun q => q.1 = f t w ∧ q.2 = r.2)))
    (hE : ∀ s M1, s = colS f a mm → frL R M M1 → rKs R M1 v W u → pW (k89 s (iI ((kd + 1 : Nat) : Int)) M1) Q) (hR : rKs R M v W u) : pW (f_X7_checksum_97 R k89 fm_fuel a (iI kd) 0 M) Q := by
  rw [iI_0]
  refine pW_lp (fun u t (z : Int64 × fm_Mem) => f_X7_checksum_97 R k89 u z.1 (iI kd) (iI t) z.2) (fun t z => z.1 = colS f a t ∧ frL R M z.2 ∧ rKs R z.2 v W u) mm ?_ fm_fuel 0 (a, M) ⟨rfl, frL_r, hR⟩ (Nat.zero_le _) (by unfold fm_fuel; omega)
  rintro x t ⟨s, M1⟩ ht ⟨hI, f1, k1⟩ k
  dsimp only at hI f1 k1 k ⊢
  have ek : (if iI (kd : Int) = (1 : Int32) then f_X7_checksum_110 R k89 (fun x1 x3 x4 M => f_X7_checksum_97 R k89 x x1 x3 x4 M) s (iI kd) (iI t) 1 (iI t) M1 else f_X7_checksum_110 R k89 (fun x1 x3 x4 M => f_X7_checksum_97 R k89 x x1 x3 x4 M) s (iI kd) (iI t) 0 (iI t) M1) = f_X7_checksum_110 R k89 (fun x1 x3 x4 M => f_X7_checksum_97 R k89 x x1 x3 x4 M) s (iI kd) (iI t) (iI kd) (iI t) M1 := by
    obtain rfl | rfl : kd = 0 ∨ kd = 1 := by omega
    · rw [if_neg (by decide)]; rfl
    · rw [if_pos (by decide)]; rfl
  rw [f_X7_checksum_97, ek, f_X7_checksum_110]
  obtain ⟨⟨y, M2⟩, e, y1, y2, y3, y4⟩ := hM M1 k1
  dsimp only at y1 y2 y3 y4
  subst y1
  rw [e, bd_s]
  dsimp only
  refine pW_if (fun c => ?_) (fun c => ?_)
  · rw [iI_le (by omega) (by omega)] at c
    have e : t = mm := by omega
    subst e
    rw [iI_s]
    exact hE s M2 hI (frL_t f1 y2) y3
  · rw [iI_le (by omega) (by omega)] at c
    rw [iI_0]
    refine pW_lp (fun w' w (z : Int64) => f_X7_checksum_119 R k89 (fun x1 x3 x4 M => f_X7_checksum_97 R k89 x x1 x3 x4 M) w' z (iI kd) (iI t) (iI w) M2) (fun w z => z = rowS (f t) s w) 7 ?_ fm_fuel 0 s rfl (Nat.zero_le _) (by unfold fm_fuel; omega)
    intro w' w z hw hJ kk
    rw [f_X7_checksum_119]
    refine pW_if (fun c2 => ?_) (fun c2 => ?_)
    · rw [show (7 : Int32) = iI 7 by decide, iI_le (by omega) (by omega)] at c2
      have e : w = 7 := by omega
      subst e
      rw [iI_s]
      exact k (z, M2) (by omega) ⟨by rw [hJ, hI]; rfl, frL_t f1 y2, y3⟩
    · rw [show (7 : Int32) = iI 7 by decide, iI_le (by omega) (by omega)] at c2
      have ek2 : (if iI (kd : Int) = (1 : Int32) then f_X7_checksum_140 R k89 (fun x1 x3 x4 M => f_X7_checksum_97 R k89 x x1 x3 x4 M) (fun x1 x3 x4 x5 M => f_X7_checksum_119 R k89 (fun x1 x3 x4 M => f_X7_checksum_97 R k89 x x1 x3 x4 M) w' x1 x3 x4 x5 M) (iI kd) (iI t) (iI w) 1 (iI t) z M2 else f_X7_checksum_140 R k89 (fun x1 x3 x4 M => f_X7_checksum_97 R k89 x x1 x3 x4 M) (fun x1 x3 x4 x5 M => f_X7_checksum_119 R k89 (fun x1 x3 x4 M => f_X7_checksum_97 R k89 x x1 x3 x4 M) w' x1 x3 x4 x5 M) (iI kd) (iI t) (iI w) 0 (iI t) z M2) = f_X7_checksum_140 R k89 (fun x1 x3 x4 M => f_X7_checksum_97 R k89 x x1 x3 x4 M) (fun x1 x3 x4 x5 M => f_X7_checksum_119 R k89 (fun x1 x3 x4 M => f_X7_checksum_97 R k89 x x1 x3 x4 M) w' x1 x3 x4 x5 M) (iI kd) (iI t) (iI w) (iI kd) (iI t) z M2 := by
        obtain rfl | rfl : kd = 0 ∨ kd = 1 := by omega
        · rw [if_neg (by decide)]; rfl
        · rw [if_pos (by decide)]; rfl
      rw [ek2, f_X7_checksum_140]
      obtain ⟨⟨q, M3⟩, e3, q1, q2⟩ := y4 t w (by omega) (by omega)
      dsimp only at q1 q2
      subst q1 q2
      rw [e3, bd_s]
      dsimp only
      unfold f_X7_joins
      rw [bd_s, iI_s]
      exact kk _ (by omega) (by rw [hJ]; rfl)
theorem q_checksum {s : gPl} (hs : gOkP s) (hC : cKs A M s u) (hR : rKs R M v s u) : ∃ x r, f_X6_checksum A M = some (.inr x) ∧ f_X7_checksum R M = some r ∧ r.1 = x ∧ frQ R M r.2 ∧ rKs R r.2 v s u := by
  have hR0 := hR.up (j := 0) 0 (by omega)
  obtain ⟨⟨n, X, Y⟩, ⟨m, T⟩, ⟨d, D⟩, fl, pu⟩ := s
  have hb := hs.2.1
  have hn := hs.1
  have kK := rKs_K hs hR0
  obtain ⟨tr, e1, e2⟩ := t_tree (R := R) (v := v) hC.1.1 hb
  have cm := hC.1.2.1
  have cd := hC.1.2.2.1
  have s1 : ∀ w : Nat, w ≤ 11 → f_X6_state A (iI (w : Int)) M = some (.inr (aS (f_X6_state A (iI (w : Int)) M))) ∧ ∀ M1, rKs R M1 v ((n, X, Y), (m, T), (d, D), fl, pu) u → pW (f_X7_toldOf R (iI w) M1) (fun r => r.1 = aS (f_X6_state A (iI (w : Int)) M) ∧ frL R M1 r.2 ∧ rKs R r.2 v ((n, X, Y), (m, T), (d, D), fl, pu) u) := fun w hw => by
    obtain ⟨x, a1, a2⟩ := t_state (v := v) (R := R) hs hC hw
    rw [a1]
    exact ⟨rfl, a2⟩
  have s2 : ∀ p w : Nat, p < n → w ≤ 6 → f_X6_point A (iI (p : Int)) (iI (w : Int)) M = some (.inr (aS (f_X6_point A (iI (p : Int)) (iI (w : Int)) M))) ∧ ∀ M1, rKs R M1 v ((n, X, Y), (m, T), (d, D), fl, pu) u → pW (f_X7_toldOfPoint R (iI p) (iI w) M1) (fun r => r.1 = aS (f_X6_point A (iI (p : Int)) (iI (w : Int)) M) ∧ frL R M1 r.2 ∧ rKs R r.2 v ((n, X, Y), (m, T), (d, D), fl, pu) u) := fun p w hp hw => by
    obtain ⟨x, a1, a2⟩ := t_point (v := v) (R := R) hs hC hp hw
    rw [a1]
    exact ⟨rfl, a2⟩
  have s3 : ∀ M1, rKs R M1 v ((n, X, Y), (m, T), (d, D), fl, pu) u → ∀ t w : Nat, t < m → w ≤ 6 → f_X6_triangle A (iI (t : Int)) 0 (iI (w : Int)) M = some (.inr (aS (f_X6_triangle A (iI (t : Int)) 0 (iI (w : Int)) M))) ∧ f_X7_toldOfTriangle R (iI t) 0 (iI w) M1 = some (aS (f_X6_triangle A (iI (t : Int)) 0 (iI (w : Int)) M), M1) := fun M1 h1 t w ht hw => by
    have k1 := rKs_K hs h1
    obtain ⟨x, a1, a2⟩ := t_tri 0 hC.1.1 hb cm k1.hv k1.1 (rtr_tri k1.2.1) (r_many0 k1.2.1) ht hw
    have a3 : f_X6_triangle A (iI (t : Int)) 0 (iI (w : Int)) M = some (.inr x) := by unfold f_X6_triangle; rw [if_pos rfl]; exact a1
    rw [a3]
    exact ⟨rfl, a2⟩
  have s4 : ∀ M1, rKs R M1 v ((n, X, Y), (m, T), (d, D), fl, pu) u → rdu R M1 n X Y d D → ∀ t w : Nat, t < d → w ≤ 6 → f_X6_triangle A (iI (t : Int)) 1 (iI (w : Int)) M = some (.inr (aS (f_X6_triangle A (iI (t : Int)) 1 (iI (w : Int)) M))) ∧ f_X7_toldOfTriangle R (iI t) 1 (iI w) M1 = some (aS (f_X6_triangle A (iI (t : Int)) 1 (iI (w : Int)) M), M1) := fun M1 h1 h2 t w ht hw => by
    have k1 := rKs_K hs h1
    obtain ⟨x, a1, a2⟩ := t_tri 1 hC.1.1 hb cd hs.2.2.2.2.1 k1.1 (rdu_tri h2) (r_many1 k1.1 h2) ht hw
    have a3 : f_X6_triangle A (iI (t : Int)) 1 (iI (w : Int)) M = some (.inr x) := by unfold f_X6_triangle; rw [if_neg n10]; exact a1
    rw [a3]
    exact ⟨rfl, a2⟩
  obtain ⟨⟨z0, Mz⟩, ez, z1, z2, z3, z4⟩ := r_manyK kK hs.2.2.2.2
  dsimp only at z1 z2 z3 z4
  have hRz := hR0.L z3 z4.2.2.1
  have el := k_lift hC.1.1 hb cm kK.hv
  have ec := k_sum hs hC _ _ el e1 (fun w hw => (s1 w hw).1) (fun p w hp hw => (s2 p w hp hw).1) (fun t w ht hw => (s3 _ hR0 t w ht hw).1) (fun t w ht hw => (s4 _ hRz z2 t w ht hw).1)
  have goal : pW (f_X7_checksum R M) (fun r => r.1 = 31 * (31 * colS (fun t w => aS (f_X6_triangle A (iI (t : Int)) 1 (iI (w : Int)) M)) (colS (fun t w => aS (f_X6_triangle A (iI (t : Int)) 0 (iI (w : Int)) M)) (colS (fun p w => aS (f_X6_point A (iI (p : Int)) (iI (w : Int)) M)) (staS (fun w => aS (f_X6_state A (iI (w : Int)) M)) 12) n) m) d + iL (gLf X Y T m)) + tr ∧ frL R (fm_up M R 0 0) r.2 ∧ rKs R r.2 v ((n, X, Y), (m, T), (d, D), fl, pu) u) := by
    unfold f_X7_checksum
    rw [show f_X7_checksum_9 R fm_fuel 0 0 (fm_up M R 0 0) = f_X7_checksum_9 R fm_fuel 0 (iI ((0 : Nat) : Int)) (fm_up M R 0 0) from rfl]
    refine pW_lp (fun x w (s : Int64 × fm_Mem) => f_X7_checksum_9 R x s.1 (iI w) s.2) (fun w s => s.1 = staS (fun w => aS (f_X6_state A (iI (w : Int)) M)) w ∧ frL R (fm_up M R 0 0) s.2 ∧ rKs R s.2 v ((n, X, Y), (m, T), (d, D), fl, pu) u) 12 ?_ fm_fuel 0 (0, fm_up M R 0 0) ⟨rfl, frL_r, hR0⟩ (Nat.zero_le _) (by unfold fm_fuel; omega)
    rintro x w ⟨s, M1⟩ hw ⟨hI, f1, k1⟩ k
    dsimp only at hI f1 k1 k ⊢
    rw [f_X7_checksum_9]
    refine pW_if (fun c => ?_) (fun c => ?_)
    · rw [show (12 : Int32) = iI 12 by decide, iI_le (by omega) (by omega)] at c
      have e : w = 12 := by omega
      subst e
      rw [show f_X7_checksum_44 R fm_fuel s 0 M1 = f_X7_checksum_44 R fm_fuel s (iI ((0 : Nat) : Int)) M1 from rfl]
      refine pW_lp (fun x p (s' : Int64 × fm_Mem) => f_X7_checksum_44 R x s'.1 (iI p) s'.2) (fun p s' => s'.1 = colS (fun p w => aS (f_X6_point A (iI (p : Int)) (iI (w : Int)) M)) s p ∧ frL R (fm_up M R 0 0) s'.2 ∧ rKs R s'.2 v ((n, X, Y), (m, T), (d, D), fl, pu) u) n ?_ fm_fuel 0 (s, M1) ⟨rfl, f1, k1⟩ (Nat.zero_le _) (by unfold fm_fuel; omega)
      rintro x p ⟨s', M2⟩ hp ⟨hJ, f2, k2⟩ kk
      dsimp only at hJ f2 k2 kk ⊢
      have kK2 := rKs_K hs k2
      rw [f_X7_checksum_44, r_points kK2.1, bd_s]
      refine pW_if (fun c2 => ?_) (fun c2 => ?_)
      · rw [iI_le (by omega) (by omega)] at c2
        have e : p = n := by omega
        subst e
        rw [show fm_fuel = 4997 + 1 + 1 + 1 from rfl, f_X7_checksum_89, if_neg (show ¬ (2 : Int32) ≤ 0 by decide)]
        refine r_kind (W := ((p, X, Y), (m, T), (d, D), fl, pu)) (u := u) (s := ((p, X, Y), (m, T), (d, D), fl, pu)) (kd := 0) (by omega) (show m ≤ 40 by have := cm.2.1; omega) (fun t w => aS (f_X6_triangle A (iI (t : Int)) 0 (iI (w : Int)) M)) s' (fun M3 k3 => pW_of (r_many0 (rKs_K hs k3).2.1) ⟨rfl, frL_r, k3, fun t w ht hw => pW_of (s3 M3 k3 t w ht hw).2 ⟨rfl, rfl⟩⟩) (fun a3 M3 h3 f3 k3 => ?_) k2
        rw [f_X7_checksum_89, if_neg (show ¬ (2 : Int32) ≤ iI ((0 + 1 : Nat) : Int) by decide)]
        refine r_kind (W := ((p, X, Y), (m, T), (d, D), fl, pu)) (u := u) (s := ((p, X, Y), (m, T), (d, D), fl, pu)) (kd := 1) (by omega) (show d ≤ 40 by have := cd.2.1; omega) (fun t w => aS (f_X6_triangle A (iI (t : Int)) 1 (iI (w : Int)) M)) a3 (fun M4 k4 => ?_) (fun a4 M4 h4 f4 k4 => ?_) k3
        · obtain ⟨⟨y0, M5⟩, ey, y1, y2, y3, y4⟩ := r_manyK (rKs_K hs k4) hs.2.2.2.2
          dsimp only at y1 y2 y3 y4
          exact pW_of ey ⟨y1, y3, k4.L y3 y4.2.2.1, fun t w ht hw => pW_of (s4 M5 (k4.L y3 y4.2.2.1) y2 t w ht hw).2 ⟨rfl, rfl⟩⟩
        · have kK4 := rKs_K hs k4
          rw [f_X7_checksum_89, if_pos (show (2 : Int32) ≤ iI ((1 + 1 : Nat) : Int) by decide), r_liftOf kK4.1 hb kK4.2.1 kK4.hv, bd_s]
          unfold f_X7_joins
          rw [bd_s, e2 _ kK4.1, bd_s, bd_s]
          refine pW_some ⟨?_, frL_t f2 (frL_t f3 f4), k4⟩
          rw [h4, h3, hJ, hI]
      · rw [iI_le (by omega) (by omega)] at c2
        rw [show f_X7_checksum_55 R (fun x1 x3 M => f_X7_checksum_44 R x x1 x3 M) fm_fuel s' (iI p) 0 M2 = f_X7_checksum_55 R (fun x1 x3 M => f_X7_checksum_44 R x x1 x3 M) fm_fuel s' (iI p) (iI ((0 : Nat) : Int)) M2 from rfl]
        refine pW_lp (fun x' w (z : Int64 × fm_Mem) => f_X7_checksum_55 R (fun x1 x3 M => f_X7_checksum_44 R x x1 x3 M) x' z.1 (iI p) (iI w) z.2) (fun w z => z.1 = rowS (fun w => aS (f_X6_point A (iI (p : Int)) (iI (w : Int)) M)) s' w ∧ frL R (fm_up M R 0 0) z.2 ∧ rKs R z.2 v ((n, X, Y), (m, T), (d, D), fl, pu) u) 7 ?_ fm_fuel 0 (s', M2) ⟨rfl, f2, k2⟩ (Nat.zero_le _) (by unfold fm_fuel; omega)
        rintro x' w ⟨z, M3⟩ hw ⟨hL, f3, k3⟩ kl
        dsimp only at hL f3 k3 kl ⊢
        rw [f_X7_checksum_55]
        refine pW_if (fun c3 => ?_) (fun c3 => ?_)
        · rw [show (7 : Int32) = iI 7 by decide, iI_le (by omega) (by omega)] at c3
          have e : w = 7 := by omega
          subst e
          rw [iI_s]
          exact kk (z, M3) (by omega) ⟨by rw [hL, hJ]; rfl, f3, k3⟩
        · rw [show (7 : Int32) = iI 7 by decide, iI_le (by omega) (by omega)] at c3
          obtain ⟨⟨y, M4⟩, ey, y1, y2, y3⟩ := (s2 p w (by omega) (by omega)).2 M3 k3
          dsimp only at y1 y2 y3
          rw [ey, bd_s]
          dsimp only
          unfold f_X7_joins
          rw [bd_s, iI_s]
          exact kl (_, M4) (by omega) ⟨by rw [y1, hL]; rfl, frL_t f3 y2, y3⟩
    · rw [show (12 : Int32) = iI 12 by decide, iI_le (by omega) (by omega)] at c
      unfold f_X7_checksum_35
      refine pW_if (fun c2 => ?_) (fun c2 => ?_)
      · rw [iI_9, iI_eq (by omega) (by omega)] at c2
        rw [iI_s]
        exact k (s, M1) (by omega) ⟨by rw [hI, staS, if_pos (by omega)], f1, k1⟩
      · rw [iI_9, iI_eq (by omega) (by omega)] at c2
        obtain ⟨⟨y, M4⟩, ey, y1, y2, y3⟩ := (s1 w (by omega)).2 M1 k1
        dsimp only at y1 y2 y3
        rw [ey, bd_s]
        dsimp only
        unfold f_X7_joins
        rw [bd_s, iI_s]
        exact k (_, M4) (by omega) ⟨by rw [y1, hI, staS, if_neg (by omega)], frL_t f1 y2, y3⟩
  obtain ⟨r, er, g1, g2, g3⟩ := goal
  exact ⟨_, r, ec, er, g1, frQ_0 g2, g3⟩
end CS
end
