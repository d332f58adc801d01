section
/-! at, hit, corner, lift, tree, by both sides -/
def qOkL (R v u : Nat) (s : gPl) (M : fm_Mem) (oc : Option Int64) (orr : Option (Int64 × fm_Mem)) : Prop := ∃ x r, oc = some x ∧ orr = some r ∧ r.1 = x ∧ frQ R M r.2 ∧ rKs R r.2 v s u
theorem qOkL_r {R v u : Nat} {s : gPl} {M : fm_Mem} {x : Int64} {oc : Option Int64} {orr : Option (Int64 × fm_Mem)} (e : oc = some x) (h : pW orr (fun r => r.1 = x ∧ frL R (fm_up M R 0 0) r.2 ∧ rKs R r.2 v s u)) : qOkL R v u s M oc orr := by
  obtain ⟨r, er, h1, h2, h3⟩ := h
  exact ⟨_, r, e, er, h1, frQ_0 h2, h3⟩
theorem gC_sum (X Y : Nat → Int) (a b c : Nat) (x y : Int) : gC (X b - X a) (Y b - Y a) (x - X a) (y - Y a) + gC (X c - X b) (Y c - Y b) (x - X b) (y - Y b) + gC (X a - X c) (Y a - Y c) (x - X c) (y - Y c) = gT X Y a b c := by
  unfold gT gC; grind
section AT
variable {A R v u n m d : Nat} {M M1 : fm_Mem} {X Y : Nat → Int} {T D : Nat → Nat} {fl pu : Int}
theorem r_holds (h : rpt R M v n X Y) (hb : gbd n X Y) (hr : rTri R M 0 m T) {t a b c : Nat} (ht : t < m) (h1 : a < b) (h2 : b < c) (h3 : c < n) (e : T t = (a * 20 + b) * 20 + c) (h0 : gT X Y a b c ≠ 0) {x y : Int} (hx : -1000 ≤ x ∧ x ≤ 1000) (hy : -1000 ≤ y ∧ y ≤ 1000) : pW (f_X7_holds R (iI t) (iI x) (iI y) M) (fun w => w = 0 ↔ ¬ gCv X Y a b c x y) := by
  have hn := h.2.1
  obtain ⟨z1, z2, z3⟩ := hr t ht
  rw [show T t / 400 = a by omega] at z1
  rw [show T t / 20 % 20 = b by omega] at z2
  rw [show T t % 20 = c by omega] at z3
  have ha' : a < n := by omega
  have hb' : b < n := by omega
  have ba := hb a ha'
  have bb := hb b hb'
  have bc := hb c h3
  have tb := gT_bd hb ha' hb' h3
  have b1 := gC_bd hb ha' hb' hx hy
  have b2 := gC_bd hb hb' h3 hx hy
  have b3 := gC_bd hb h3 ha' hx hy
  have sm := gC_sum X Y a b c x y
  have z10 : ¬ (1 : Int32) = 0 := by decide
  unfold f_X7_holds f_X7_holds_178 f_X7_holds_179
  rw [z1, bd_s, z2, bd_s, z3, bd_s, r_turn h hb ha' hb' h3, bd_s, r_sign (by omega), bd_s]
  simp only [r_x h ha', r_y h ha', r_x h hb', r_y h hb', r_x h h3, r_y h h3, bd_s]
  rw [iL_i (a := X a) (by omega), iL_i (a := Y a) (by omega), iL_i (a := X b) (by omega), iL_i (a := Y b) (by omega), iL_i (a := X c) (by omega), iL_i (a := Y c) (by omega), iL_i (a := x) (by omega), iL_i (a := y) (by omega), r_turnOf, bd_s, r_turnOf, bd_s, r_turnOf, bd_s]
  unfold gCv
  have s1 := gSg_p (gT X Y a b c)
  have s2 := gSg_n (gT X Y a b c)
  have s3 := gSg_r (gT X Y a b c)
  generalize gT X Y a b c = t0 at *
  generalize gC (X b - X a) (Y b - Y a) (x - X a) (y - Y a) = t1 at *
  generalize gC (X c - X b) (Y c - Y b) (x - X b) (y - Y b) = t2 at *
  generalize gC (X a - X c) (Y a - Y c) (x - X c) (y - Y c) = t3 at *
  have sg : gSg t0 = 1 ∧ 0 < t0 ∨ gSg t0 = -1 ∧ t0 < 0 := by omega
  rw [iL_i (by omega), bo_0, bo_1, ck_t, ck_t]
  simp only [lg_cmp_lt, iL_mul, iL_0]
  rcases sg with ⟨sg, st⟩ | ⟨sg, st⟩
  · rw [sg, Int.one_mul, Int.one_mul, Int.one_mul]
    simp (disch := omega) only [iL_lt]
    refine pW_if (fun q1 => pW_some ⟨fun _ => by omega, fun _ => rfl⟩) (fun q1 => pW_if (fun q2 => pW_some ⟨fun _ => by omega, fun _ => rfl⟩) (fun q2 => pW_if (fun q3 => pW_some ⟨fun _ => by omega, fun _ => rfl⟩) (fun q3 => pW_some ⟨fun z => absurd z z10, fun z => absurd (Or.inl ⟨by omega, by omega, by omega⟩) z⟩)))
  · rw [sg, Int.neg_mul, Int.neg_mul, Int.neg_mul, Int.one_mul, Int.one_mul, Int.one_mul]
    simp (disch := omega) only [iL_lt]
    refine pW_if (fun q1 => pW_some ⟨fun _ => by omega, fun _ => rfl⟩) (fun q1 => pW_if (fun q2 => pW_some ⟨fun _ => by omega, fun _ => rfl⟩) (fun q2 => pW_if (fun q3 => pW_some ⟨fun _ => by omega, fun _ => rfl⟩) (fun q3 => pW_some ⟨fun z => absurd z z10, fun z => absurd (Or.inr ⟨by omega, by omega, by omega⟩) z⟩)))
/-- does the triangle with this index cover the place -/
noncomputable def gCb (X Y : Nat → Int) (T : Nat → Nat) (x y : Int) (t : Nat) : Bool := @decide (gCv X Y (T t / 400) (T t / 20 % 20) (T t % 20) x y) (Classical.propDecidable _)
theorem gCb_t {x y : Int} {t : Nat} : gCb X Y T x y t = true ↔ gCv X Y (T t / 400) (T t / 20 % 20) (T t % 20) x y := @decide_eq_true_iff _ (Classical.propDecidable _)
theorem gCb_f {x y : Int} {t : Nat} : gCb X Y T x y t = false ↔ ¬ gCv X Y (T t / 400) (T t / 20 % 20) (T t % 20) x y := @decide_eq_false_iff_not _ (Classical.propDecidable _)
theorem k_at (cp : cpt (A + 20 + 1) M n X Y) (hb : gbd n X Y) (cm : cMs (A + 20 + 6) M m T) (hd : gDr n X Y m T) {x y : Int} (hx : -1000 ≤ x ∧ x ≤ 1000) (hy : -1000 ≤ y ∧ y ≤ 1000) : f_X6_at_17 A (iI x) (iI y) fm_fuel 0 M = some (.inr (iI (gFi (gCb X Y T x y) m))) := by
  have hn := cp.2.1
  have hm := cm.2.1
  rw [iI_0]
  refine pW_eq (pW_lp (fun u i (_ : Unit) => f_X6_at_17 A (iI x) (iI y) u (iI i) M) (fun i _ => ∀ j, j < i → gCb X Y T x y j = false) m ?_ fm_fuel 0 () (fun j hj => absurd hj (Nat.not_lt_zero j)) (Nat.zero_le _) (by unfold fm_fuel; omega))
  intro u i s hi hI k
  rw [f_X6_at_17, k_msize cm, bd_s]
  simp (disch := omega) only [iI_le, iI_s]
  refine pW_if (fun c => ?_) (fun c => ?_)
  · have e : i = m := by omega
    subst e
    exact pW_some (by rw [gFi_no hI]; rfl)
  · have him : i < m := by omega
    obtain ⟨a, b, c', h1, h2, h3, e⟩ := hd.1.2 i him
    obtain ⟨e1, e2, e3⟩ := k_abc cm him (show b < 20 by omega) (show c' < 20 by omega) (show a < 20 by omega) e
    obtain ⟨w, ew, w01, hw⟩ := k_cov cp hb (show a < n by omega) (show b < n by omega) h3 hx hy
    have g1 : T i / 400 = a := by omega
    have g2 : T i / 20 % 20 = b := by omega
    have g3 : T i % 20 = c' := by omega
    rw [e1, bd_s, e2, bd_s, e3, bd_s, ew, bd_s]
    refine pW_if (fun q => ?_) (fun q => ?_)
    · refine k () him (fun j hj => ?_)
      by_cases z : j = i
      · subst z; rw [gCb_f, g1, g2, g3]; exact hw.mp q
      · exact hI j (by omega)
    · have ct : gCb X Y T x y i = true := by
        rw [gCb_t, g1, g2, g3]
        exact Classical.byContradiction fun z => q (hw.mpr z)
      exact pW_some (by rw [gFi_at him ct hI])
theorem r_at (h : rpt R M v n X Y) (hb : gbd n X Y) (hr : rtr R M v m T) (hd : gDr n X Y m T) {x y : Int} (hx : -1000 ≤ x ∧ x ≤ 1000) (hy : -1000 ≤ y ∧ y ≤ 1000) : f_X7_at_48 R (iI x) (iI y) fm_fuel 0 M = some (iI (gFi (gCb X Y T x y) m), M) := by
  have hn := h.2.1
  have hm := hr.2.1
  rw [iI_0]
  refine pW_eq (pW_lp (fun u i (_ : Unit) => f_X7_at_48 R (iI x) (iI y) u (iI i) M) (fun i _ => ∀ j, j < i → gCb X Y T x y j = false) m ?_ fm_fuel 0 () (fun j hj => absurd hj (Nat.not_lt_zero j)) (Nat.zero_le _) (by unfold fm_fuel; omega))
  intro u i s hi hI k
  rw [f_X7_at_48, show (1 : Int32) = iI ((1 : Nat) : Int) from rfl, r_get hr.1 (by omega), bd_s, hr.2.2.1, show iI ((1 : Nat) : Int) = 1 from rfl]
  simp (disch := omega) only [iI_le, iI_s]
  refine pW_if (fun c => ?_) (fun c => ?_)
  · have e : i = m := by omega
    subst e
    exact pW_some (by rw [gFi_no hI]; rfl)
  · have him : i < m := by omega
    obtain ⟨a, b, c', h1, h2, h3, e⟩ := hd.1.2 i him
    have g1 : T i / 400 = a := by omega
    have g2 : T i / 20 % 20 = b := by omega
    have g3 : T i % 20 = c' := by omega
    have ok := (hd.2.1 (tri (T i)) ⟨i, him, rfl⟩).2.2.2
    unfold tri at ok
    dsimp only at ok
    rw [g1, g2, g3] at ok
    obtain ⟨w, ew, hw⟩ := r_holds h hb (rtr_tri hr) him h1 h2 h3 e ok hx hy
    rw [ew, bd_s]
    refine pW_if (fun q => ?_) (fun q => ?_)
    · refine k () him (fun j hj => ?_)
      by_cases z : j = i
      · subst z; rw [gCb_f, g1, g2, g3]; exact hw.mp q
      · exact hI j (by omega)
    · have ct : gCb X Y T x y i = true := by
        rw [gCb_t, g1, g2, g3]
        exact Classical.byContradiction fun z => q (hw.mpr z)
      exact pW_some (by rw [gFi_at him ct hI])
theorem iI_m1000 : (-1000 : Int32) = iI (-1000) := by decide
theorem iI_1000 : (1000 : Int32) = iI 1000 := by decide
theorem k_asked {a b : Int} (ha : -2147483648 ≤ a ∧ a ≤ 2147483647) (hb : -2147483648 ≤ b ∧ b ≤ 2147483647) : f_X6_needAsked A (iI a) (iI b) M = some (if (-1000 ≤ a ∧ a ≤ 1000) ∧ -1000 ≤ b ∧ b ≤ 1000 then .inr () else .inl 0) := by
  unfold f_X6_needAsked f_X6_needAsked_28
  rw [iI_m1000, iI_1000]
  simp (disch := omega) only [iI_lt, iI_le]
  by_cases h1 : a < -1000
  · rw [if_pos h1, if_neg (by omega)]
  · by_cases h2 : 1000 < a
    · rw [if_neg h1, if_pos h2, if_neg (by omega)]
    · by_cases h3 : b < -1000
      · rw [if_neg h1, if_neg h2, if_pos h3, if_neg (by omega)]
      · by_cases h4 : b ≤ 1000
        · rw [if_neg h1, if_neg h2, if_neg h3, if_pos h4, if_pos (by omega)]
        · rw [if_neg h1, if_neg h2, if_neg h3, if_neg h4, if_neg (by omega)]
theorem q_at {s : gPl} (hs : gOkP s) (hC : cKs A M s u) (hR : rKs R M v s u) (a b : Int32) : qOk R v u (fun _ => 1) s M (f_X6_at A a b M) (f_X7_at R a b M) := by
  obtain ⟨x, hx, rfl⟩ := i_ex a
  obtain ⟨y, hy, rfl⟩ := i_ex b
  obtain ⟨⟨n, X, Y⟩, ⟨m, T⟩, ⟨d, D⟩, fl, pu⟩ := s
  have h0 : fm_up M R 0 0 R 0 = 0 := up_s
  have hR0 := hR.up (j := 0) 0 (by omega)
  have kK := rKs_K hs hR0
  have e1 : f_X7_isIn (iI x) (-1000) 1000 (fm_up M R 0 0) = some (if -1000 ≤ x ∧ x ≤ 1000 then 1 else 0) := r_in (-1000) 1000 iI_m1000 iI_1000 hx (by omega) (by omega)
  have e2 : f_X7_isIn (iI y) (-1000) 1000 (fm_up M R 0 0) = some (if -1000 ≤ y ∧ y ≤ 1000 then 1 else 0) := r_in (-1000) 1000 iI_m1000 iI_1000 hy (by omega) (by omega)
  unfold f_X6_at f_X7_at f_X7_at_36 f_X7_at_37
  rw [k_asked hx hy, e1, bd_s]
  by_cases c1 : -1000 ≤ x ∧ x ≤ 1000
  · rw [if_pos c1, if_neg n10, e2, bd_s]
    by_cases c2 : -1000 ≤ y ∧ y ≤ 1000
    · rw [if_pos ⟨c1, c2⟩, if_pos c2, bx_r, if_neg n10, r_right1 h0, bd_s, if_neg (n1 _), k_at hC.1.1 hs.2.1 hC.1.2.1 hs.2.2.2.1 c1 c2, r_at kK.1 hs.2.1 kK.2.1 hs.2.2.2.1 c1 c2]
      exact qOk_r rfl (pW_some ⟨rfl, frL_r, hR0⟩)
    · rw [if_neg (fun z => c2 z.2), if_neg c2, bx_l, if_pos rfl, r_right0 h0 (by decide), bd_s, if_pos rfl]
      exact qOk_l rfl frL_r hR0 rfl
  · rw [if_neg (fun z => c1 z.1), if_neg c1, bx_l, if_pos rfl, r_right0 h0 (by decide), bd_s, if_pos rfl]
    exact qOk_l rfl frL_r hR0 rfl
/-- is the place within the circle of the triangle with this index -/
def gHt (X Y : Nat → Int) (D : Nat → Nat) (x y : Int) (t : Nat) : Bool := decide (0 < gI X Y (D t / 400) (D t / 20 % 20) (D t % 20) x y)
theorem k_hit (cp : cpt (A + 20 + 1) M n X Y) (hb : gbd n X Y) (cm : cMs (A + 20 + 11) M d D) (hv : tV n d D) {x y : Int} (hx : -1000 ≤ x ∧ x ≤ 1000) (hy : -1000 ≤ y ∧ y ≤ 1000) : f_X6_hit_20 A (iI x) (iI y) fm_fuel 0 0 M = some (.inr (iI ((gct (gHt X Y D x y) d : Nat) : Int))) := by
  have hn := cp.2.1
  have hm := cm.2.1
  refine pW_eq (pW_lp (fun u i (s : Nat) => f_X6_hit_20 A (iI x) (iI y) u (iI s) (iI i) M) (fun i s => s = gct (gHt X Y D x y) i) d ?_ fm_fuel 0 0 rfl (Nat.zero_le _) (by unfold fm_fuel; omega))
  intro u i s hi hI k
  rw [f_X6_hit_20, k_msize cm, bd_s]
  simp (disch := omega) only [iI_le, iI_s, f_X6_hit_65]
  refine pW_if (fun c => ?_) (fun c => ?_)
  · have e : i = d := by omega
    subst e
    exact pW_some (by rw [hI])
  · have him : i < d := by omega
    obtain ⟨a, b, c', h1, h2, h3, e⟩ := hv.2 i him
    obtain ⟨e1, e2, e3⟩ := k_abc cm him (show b < 20 by omega) (show c' < 20 by omega) (show a < 20 by omega) e
    have g : gHt X Y D x y i = decide (0 < gI X Y a b c' x y) := by
      unfold gHt
      rw [show D i / 400 = a by omega, show D i / 20 % 20 = b by omega, show D i % 20 = c' by omega]
    have sr := gSg_r (gI X Y a b c' x y)
    have sp := gSg_p (gI X Y a b c' x y)
    rw [e1, bd_s, e2, bd_s, e3, bd_s, k_circle cp hb (by omega) (by omega) h3 hx hy, bd_s]
    simp (disch := omega) only [iI_l0]
    refine pW_if (fun q => ?_) (fun q => ?_)
    · exact k s him (by rw [gct_s, ← hI, g, decide_eq_false (by omega)]; rfl)
    · exact k (s + 1) him (by rw [gct_s, ← hI, g, decide_eq_true (by omega)]; rfl)
theorem r_hit (h : rpt R M v n X Y) (hb : gbd n X Y) (hdu : rdu R M n X Y d D) {x y : Int} (hx : -1000 ≤ x ∧ x ≤ 1000) (hy : -1000 ≤ y ∧ y ≤ 1000) : f_X7_hit_51 R (iI x) (iI y) fm_fuel 0 0 M = some (iI ((gct (gHt X Y D x y) d : Nat) : Int), M) := by
  have hn := h.2.1
  have hm := hdu.2.2.2.1
  refine pW_eq (pW_lp (fun u i (s : Nat) => f_X7_hit_51 R (iI x) (iI y) u (iI s) (iI i) M) (fun i s => s = gct (gHt X Y D x y) i) d ?_ fm_fuel 0 0 rfl (Nat.zero_le _) (by unfold fm_fuel; omega))
  intro u i s hi hI k
  have s0 : iI (s : Int) + 0 = iI (s : Int) := iI_p0 _
  rw [f_X7_hit_51, r_many1 h hdu, bd_s]
  simp (disch := omega) only [iI_le, iI_s, f_X7_hit_109, s0]
  refine pW_if (fun c => ?_) (fun c => ?_)
  · have e : i = d := by omega
    subst e
    exact pW_some (by rw [hI])
  · have him : i < d := by omega
    obtain ⟨a, b, c', h1, h2, h3, e⟩ := hdu.2.2.2.2.1.1.2 i him
    obtain ⟨y1, y2, y3⟩ := hdu.2.2.2.2.2 i him
    have g1 : D i / 400 = a := by omega
    have g2 : D i / 20 % 20 = b := by omega
    have g3 : D i % 20 = c' := by omega
    rw [g1] at y1
    rw [g2] at y2
    rw [g3] at y3
    have g : gHt X Y D x y i = decide (0 < gI X Y a b c' x y) := by
      unfold gHt
      rw [g1, g2, g3]
    have sr := gSg_r (gI X Y a b c' x y)
    have sp := gSg_p (gI X Y a b c' x y)
    rw [iI_3, iI_mul, show (1 : Int32) = iI 1 from rfl, show (2 : Int32) = iI 2 from rfl, iI_add, iI_add, show (3 : Int) * (i : Int) = ((3 * i : Nat) : Int) by omega, show ((3 * i : Nat) : Int) + 1 = ((3 * i + 1 : Nat) : Int) by omega, show ((3 * i : Nat) : Int) + 2 = ((3 * i + 2 : Nat) : Int) by omega, in_t (by omega) (by omega), in_t (by omega) (by omega), in_t (by omega) (by omega), ck_t, ck_t, ck_t, iI_nn (by omega), iI_nn (by omega), iI_nn (by omega), Int.toNat_natCast, Int.toNat_natCast, Int.toNat_natCast, y1, y2, y3, iL_i (by omega), iL_i (by omega), r_circle h hb (by omega) (by omega) h3 hx hy, bd_s]
    simp (disch := omega) only [iI_l0]
    refine pW_if (fun q => ?_) (fun q => ?_)
    · exact k s him (by rw [gct_s, ← hI, g, decide_eq_false (by omega)]; rfl)
    · have := k (s + 1) him (by rw [gct_s, ← hI, g, decide_eq_true (by omega)]; rfl)
      exact this
theorem q_hit {s : gPl} (hs : gOkP s) (hC : cKs A M s u) (hR : rKs R M v s u) (a b : Int32) : qOk R v u (fun _ => 1) s M (f_X6_hit A a b M) (f_X7_hit R a b M) := by
  obtain ⟨x, hx, rfl⟩ := i_ex a
  obtain ⟨y, hy, rfl⟩ := i_ex b
  obtain ⟨⟨n, X, Y⟩, ⟨m, T⟩, ⟨d, D⟩, fl, pu⟩ := s
  have h0 : fm_up M R 0 0 R 0 = 0 := up_s
  have hR0 := hR.up (j := 0) 0 (by omega)
  have kK := rKs_K hs hR0
  have e1 : f_X7_isIn (iI x) (-1000) 1000 (fm_up M R 0 0) = some (if -1000 ≤ x ∧ x ≤ 1000 then 1 else 0) := r_in (-1000) 1000 iI_m1000 iI_1000 hx (by omega) (by omega)
  have e2 : f_X7_isIn (iI y) (-1000) 1000 (fm_up M R 0 0) = some (if -1000 ≤ y ∧ y ≤ 1000 then 1 else 0) := r_in (-1000) 1000 iI_m1000 iI_1000 hy (by omega) (by omega)
  unfold f_X6_hit f_X7_hit f_X7_hit_36 f_X7_hit_37
  rw [k_asked hx hy, e1, bd_s]
  by_cases c1 : -1000 ≤ x ∧ x ≤ 1000
  · rw [if_pos c1, if_neg n10, e2, bd_s]
    by_cases c2 : -1000 ≤ y ∧ y ≤ 1000
    · rw [if_pos ⟨c1, c2⟩, if_pos c2, bx_r, if_neg n10, r_right1 h0, bd_s, if_neg (n1 _), k_hit hC.1.1 hs.2.1 hC.1.2.2.1 hs.2.2.2.2.1 c1 c2]
      obtain ⟨M1, e, y1, y2, y3⟩ := rK_lay kK hs.2.2.2.2
      have e3 : f_X7_hit_51 R (iI x) (iI y) fm_fuel 0 0 (fm_up M R 0 0) = f_X7_hit_51 R (iI x) (iI y) fm_fuel 0 0 M1 := by
        rw [show fm_fuel = 4999 + 1 from rfl, f_X7_hit_51, f_X7_hit_51, r_many_lay e (r_lay_id y3.1 y1)]
      rw [show f_X7_hit_51 R (iI x) (iI y) fm_fuel 0 0 (1, fm_up M R 0 0).2 = f_X7_hit_51 R (iI x) (iI y) fm_fuel 0 0 (fm_up M R 0 0) from rfl, e3, r_hit y3.1 hs.2.1 y1 c1 c2]
      exact qOk_r rfl (pW_some ⟨rfl, y2, hR0.L y2 y3.2.2.1⟩)
    · rw [if_neg (fun z => c2 z.2), if_neg c2, bx_l, if_pos rfl, r_right0 h0 (by decide), bd_s, if_pos rfl]
      exact qOk_l rfl frL_r hR0 rfl
  · rw [if_neg (fun z => c1 z.1), if_neg c1, bx_l, if_pos rfl, r_right0 h0 (by decide), bd_s, if_pos rfl]
    exact qOk_l rfl frL_r hR0 rfl
/-! corners in their order -/
theorem r_walk (h : rpt R M v n X Y) (hb : gbd n X Y) (hdi : gDis n X Y) {p k : Nat} (hk : k < 100) (hp : ∀ i, hCo X Y (fun i => hS n X Y 0 i = true) (hIt (fun p => hSc X Y (hS n X Y 0) p n) p i)) : f_X7_corner_58 R (iI k) fm_fuel (bS (cB X Y (hS n X Y 0))) (iI p) 0 M = some (iI ((hIt (fun p => hSc X Y (hS n X Y 0) p n) p k : Nat) : Int), M) := by
  refine pW_eq (pW_lp (fun u i (s : Nat) => f_X7_corner_58 R (iI k) u (bS (cB X Y (hS n X Y 0))) (iI s) (iI i) M) (fun i s => s = hIt (fun p => hSc X Y (hS n X Y 0) p n) p i) k ?_ fm_fuel 0 p rfl (Nat.zero_le _) (by unfold fm_fuel; omega))
  intro u i s hi hI kk
  rw [f_X7_corner_58]
  simp (disch := omega) only [iI_le, iI_s]
  refine pW_if (fun c => ?_) (fun c => ?_)
  · have e : i = k := by omega
    subst e
    exact pW_some (by rw [hI])
  · rw [r_behind h hb hdi (by rw [hI]; exact hp i), bd_s]
    exact kk _ (by omega) (by rw [hI]; rfl)
theorem q_corner {s : gPl} (hs : gOkP s) (hC : cKs A M s u) (hR : rKs R M v s u) (a : Int32) : qOk R v u (fun _ => 1) s M (f_X6_corner A a M) (f_X7_corner R a M) := by
  obtain ⟨z, hz, rfl⟩ := i_ex a
  obtain ⟨⟨n, X, Y⟩, ⟨m, T⟩, ⟨d, D⟩, fl, pu⟩ := s
  have h0 : fm_up M R 0 0 R 0 = 0 := up_s
  have hR0 := hR.up (j := 0) 0 (by omega)
  have kK := rKs_K hs hR0
  have hn := hs.1
  have hh : cHl (A + 36) M n X Y := hC.2.1
  have eN0 := k_ncor hn hh
  have cb := gct_bd (cB X Y (hS n X Y 0)) 20
  have er : f_X7_isIn (iI z) 0 (iI ((gct (cB X Y (hS n X Y 0)) 20 : Nat) : Int) - 1) (fm_up M R 0 0) = some (if 0 ≤ z ∧ z ≤ ((gct (cB X Y (hS n X Y 0)) 20 : Nat) : Int) - 1 then 1 else 0) := r_in 0 _ iI_0 (by rw [iI_1, iI_sub]) hz (by omega) (by omega)
  unfold f_X6_corner f_X6_corner_15 f_X7_corner
  rw [show f_X0_corners (A + 36) M = some (M (A + 36) 2) from rfl, bd_s, eN0, r_points kK.1, bd_s, r_ncor kK.1 hs.2.1, bd_s, r_bits, bd_s, er, bd_s]
  simp (disch := omega) only [iI_n0, iI_lt]
  by_cases c : 0 ≤ z ∧ z ≤ ((gct (cB X Y (hS n X Y 0)) 20 : Nat) : Int) - 1
  · rw [if_neg (by omega), if_pos (by omega), if_pos c, r_right1 h0, bd_s, if_neg (n1 _)]
    obtain ⟨k, rfl⟩ : ∃ k : Nat, z = (k : Int) := ⟨z.toNat, by omega⟩
    rcases hh.2.2 with ⟨n0, e0⟩ | ⟨npos, a, mm, hg, e0, hc⟩
    · rw [eN0, iI_eq (by omega) (by omega)] at e0; omega
    · have em := ring_ct hn hg
      obtain ⟨p, cp, pm, ec⟩ := k_cornerAt hh hn hg e0 hc (show k < mm by omega)
      rw [ec, bd_s]
      have hpn : p < n := hS_n cp.1
      obtain ⟨i0, -, ei0⟩ := hg.2.2.2.2.2.2.2 p cp
      have hall : ∀ i, hCo X Y (fun i => hS n X Y 0 i = true) (hIt (fun p => hSc X Y (hS n X Y 0) p n) p i) := fun i => by
        rw [← ei0, ← hIt_add]
        exact hg.2.2.2.2.2.2.1 (i0 + i)
      refine qOk_r rfl ?_
      refine pW_lp (fun u i (_ : Unit) => f_X7_corner_41 R (iI k) u (bS (cB X Y (hS n X Y 0))) (iI i) (fm_up M R 0 0)) (fun i _ => ∀ j, j < i → cB X Y (hS n X Y 0) j = false) p ?_ fm_fuel 0 () (fun j hj => absurd hj (Nat.not_lt_zero j)) (Nat.zero_le _) (by unfold fm_fuel; omega)
      intro u i s hi hI kk
      rw [f_X7_corner_41, r_isOf _ (by omega), bd_s, iI_s]
      cases ci : cB X Y (hS n X Y 0) i with
      | false =>
        rw [if_pos (by decide)]
        have ip : i ≠ p := fun e => by
          subst e
          rw [cB_t.mpr cp] at ci; cases ci
        refine kk () (by omega) (fun j hj => ?_)
        by_cases e : j = i
        · rw [e]; exact ci
        · exact hI j (by omega)
      | true =>
        rw [if_neg (show ¬ (if true = true then (1 : Int32) else 0) = 0 by decide)]
        have ip : i = p := by
          have := pm i (cB_t.mp ci)
          omega
        subst ip
        rw [r_walk kK.1 hs.2.1 hs.2.2.1 (by omega) hall]
        exact pW_some ⟨rfl, frL_r, hR0⟩
  · rw [if_neg c, r_right0 h0 (by decide), bd_s, if_pos rfl]
    refine qOk_l (k := 3) (x := 0) ?_ frL_r hR0 rfl
    by_cases c1 : z < 0
    · rw [if_pos c1]
    · rw [if_neg c1, if_neg (by omega)]
/-! lift and tree -/
def gLf (X Y : Nat → Int) (T : Nat → Nat) : Nat → Int
  | 0 => 0
  | t + 1 => gLf X Y T t + (gT X Y (T t / 400) (T t / 20 % 20) (T t % 20)).natAbs * (gN (X (T t / 400)) (Y (T t / 400)) + gN (X (T t / 20 % 20)) (Y (T t / 20 % 20)) + gN (X (T t % 20)) (Y (T t % 20)))
theorem k_lift (cp : cpt (A + 20 + 1) M n X Y) (hb : gbd n X Y) (cm : cMs (A + 20 + 6) M m T) (hv : tV n m T) : f_X6_lift A M = some (iL (gLf X Y T m)) := by
  have hn := cp.2.1
  have hm := cm.2.1
  unfold f_X6_lift
  rw [iL_0, iI_0]
  refine pW_eq (pW_lp (fun u i (s : Int) => f_X6_lift_21 A u (iL s) (iI i) M) (fun i s => s = gLf X Y T i) m ?_ fm_fuel 0 0 rfl (Nat.zero_le _) (by unfold fm_fuel; omega))
  intro u i s hi hI k
  rw [f_X6_lift_21, k_msize cm, bd_s]
  simp (disch := omega) only [iI_le, iI_s]
  refine pW_if (fun c => ?_) (fun c => ?_)
  · have e : i = m := by omega
    subst e
    exact pW_some (by rw [hI])
  · have him : i < m := by omega
    obtain ⟨a, b, c', h1, h2, h3, e⟩ := hv.2 i him
    obtain ⟨e1, e2, e3⟩ := k_abc cm him (show b < 20 by omega) (show c' < 20 by omega) (show a < 20 by omega) e
    have tb := gT_bd hb (show a < n by omega) (show b < n by omega) h3
    rw [e1, bd_s, e2, bd_s, e3, bd_s, k_sq cp hb (by omega), bd_s, k_sq cp hb (by omega), bd_s, k_sq cp hb h3, bd_s, k_turn cp (by omega) (by omega) h3, bd_s, ab_i (by omega), iL_i (by omega), iL_add, iL_add, iL_mul, iL_add]
    refine k _ him ?_
    rw [hI, gLf, show T i / 400 = a by omega, show T i / 20 % 20 = b by omega, show T i % 20 = c' by omega]
theorem r_liftOf (h : rpt R M v n X Y) (hb : gbd n X Y) (hr : rtr R M v m T) (hv : tV n m T) : f_X7_liftOf R M = some (iL (gLf X Y T m)) := by
  have hn := h.2.1
  have hm := hr.2.1
  unfold f_X7_liftOf
  rw [iL_0, iI_0]
  refine pW_eq (pW_lp (fun u i (s : Int) => f_X7_liftOf_4 R u (iL s) (iI i) M) (fun i s => s = gLf X Y T i) m ?_ fm_fuel 0 0 rfl (Nat.zero_le _) (by unfold fm_fuel; omega))
  intro u i s hi hI k
  have eg : f_X7_get R 1 M = some (iI m) := (r_get (k := 1) hr.1 (by omega)).trans (congrArg some hr.2.2.1)
  rw [f_X7_liftOf_4, eg, bd_s]
  simp (disch := omega) only [iI_le, iI_s]
  refine pW_if (fun c => ?_) (fun c => ?_)
  · have e : i = m := by omega
    subst e
    exact pW_some (by rw [hI])
  · have him : i < m := by omega
    obtain ⟨a, b, c', h1, h2, h3, e⟩ := hv.2 i him
    obtain ⟨z1, z2, z3⟩ := rtr_tri hr i him
    rw [show T i / 400 = a by omega] at z1
    rw [show T i / 20 % 20 = b by omega] at z2
    rw [show T i % 20 = c' by omega] at z3
    have tb := gT_bd hb (show a < n by omega) (show b < n by omega) h3
    rw [z1, bd_s, z2, bd_s, z3, bd_s, r_turn h hb (by omega) (by omega) h3, bd_s, r_sq h hb (by omega), bd_s, r_sq h hb (by omega), bd_s, r_sq h hb h3, bd_s, ab_l (by omega), iL_add, iL_add, iL_mul, iL_add]
    refine k _ him ?_
    rw [hI, gLf, show T i / 400 = a by omega, show T i / 20 % 20 = b by omega, show T i % 20 = c' by omega]
theorem t_tree (cp : cpt (A + 20 + 1) M n X Y) (hb : gbd n X Y) : ∃ x, f_X6_tree A M = some x ∧ ∀ M1, rpt R M1 v n X Y → f_X7_treeOf R M1 = some x := by
  obtain ⟨r, e, S, rfl, s0, s1⟩ := k_tree cp hb
  refine ⟨iL S, by unfold f_X6_tree; rw [e, bd_s], fun M1 h => ?_⟩
  obtain ⟨r', e', S', rfl, s0', s1'⟩ := r_tree h hb
  rw [e']
  by_cases n0 : n = 0
  · rw [s0 n0, s0' n0]
  · obtain ⟨q, hq⟩ := s1 (by omega)
    obtain ⟨q', hq'⟩ := s1' (by omega)
    rw [gPre_eq (by omega) hq hq']
theorem q_lift {s : gPl} (hs : gOkP s) (hC : cKs A M s u) (hR : rKs R M v s u) : qOkL R v u s M (f_X6_lift A M) (f_X7_lift R M) := by
  obtain ⟨⟨n, X, Y⟩, ⟨m, T⟩, ⟨d, D⟩, fl, pu⟩ := s
  have hR0 := hR.up (j := 0) 0 (by omega)
  have kK := rKs_K hs hR0
  refine qOkL_r (k_lift hC.1.1 hs.2.1 hC.1.2.1 kK.hv) ?_
  unfold f_X7_lift
  rw [r_liftOf kK.1 hs.2.1 kK.2.1 kK.hv, bd_s]
  exact pW_some ⟨rfl, frL_r, hR0⟩
theorem q_tree {s : gPl} (hs : gOkP s) (hC : cKs A M s u) (hR : rKs R M v s u) : qOkL R v u s M (f_X6_tree A M) (f_X7_tree R M) := by
  obtain ⟨⟨n, X, Y⟩, ⟨m, T⟩, ⟨d, D⟩, fl, pu⟩ := s
  have hR0 := hR.up (j := 0) 0 (by omega)
  have kK := rKs_K hs hR0
  obtain ⟨x, e1, e2⟩ := t_tree (R := R) (v := v) hC.1.1 hs.2.1
  refine qOkL_r e1 ?_
  unfold f_X7_tree
  rw [e2 _ kK.1, bd_s]
  exact pW_some ⟨rfl, frL_r, hR0⟩
end AT
end
