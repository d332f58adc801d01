/-! the reference's corners, layers and ring -/
theorem hBt_sw {X Y : Nat → Int} {p q r : Nat} (h : hBt X Y p q r) : hBt X Y p r q := by
  unfold hBt gd2 at *
  rw [gT_sw X Y p q r, Int.mul_comm (X r - X p), Int.mul_comm (Y r - Y p)]
  exact ⟨by omega, h.2⟩
theorem hWi_rot {X Y : Nat → Int} {p q r s : Nat} (h : hWi X Y p q r s) : hWi X Y p r s q := by
  unfold hWi at *
  omega
theorem hWi_sw {X Y : Nat → Int} {p q r s : Nat} (h : hWi X Y p q r s) : hWi X Y p r q s := by
  unfold hWi at *
  have e1 := gT_sw2 X Y q r p
  have e2 := gT_sw2 X Y r s p
  have e3 := gT_sw2 X Y s q p
  omega
theorem gT_pp (X Y : Nat → Int) (q p : Nat) : gT X Y q q p = 0 := by unfold gT gC; grind
theorem hWi_ne {X Y : Nat → Int} {p q r s : Nat} (h : hWi X Y p q r s) : q ≠ r ∧ r ≠ s ∧ q ≠ s := by
  refine ⟨fun e => ?_, fun e => ?_, fun e => ?_⟩
  · subst e; have := gT_pp X Y q p; unfold hWi at h; omega
  · subst e; have := gT_pp X Y r p; unfold hWi at h; omega
  · subst e; have := gT_pp X Y q p; unfold hWi at h; omega
/-- what the reference asks of each pair -/
def hGo (n : Nat) (X Y : Nat → Int) (s : Nat → Bool) (p q r : Nat) : Prop := q ≠ p → r ≠ p → s q = true → s r = true → ¬ hBt X Y p q r ∧ ∀ o, r < o → o < n → o ≠ p → s o = true → ¬ hWi X Y p q r o
theorem hGo_co {n : Nat} {X Y : Nat → Int} {s : Nat → Bool} (hs : ∀ i, s i = true → i < n) {p : Nat} (hp : s p = true) : hCo X Y (fun i => s i = true) p ↔ ∀ q r, q < r → r < n → hGo n X Y s p q r := by
  constructor
  · intro h q r h1 h2 n1 n2 s1 s2
    exact ⟨h.2.1 q r s1 s2 n1 n2 (by omega), fun o h3 h4 n3 s3 => h.2.2 q r o s1 s2 s3 n1 n2 n3⟩
  · intro h
    refine ⟨hp, fun q r sq sr nq nr qr b => ?_, fun q r o sq sr so nq nr no w => ?_⟩
    · rcases Nat.lt_or_gt_of_ne qr with z | z
      · exact (h q r z (hs r sr) nq nr sq sr).1 b
      · exact (h r q z (hs q sq) nr nq sr sq).1 (hBt_sw b)
    · obtain ⟨d1, d2, d3⟩ := hWi_ne w
      have key : ∀ a b c, a < b → b < c → s a = true → s b = true → s c = true → a ≠ p → b ≠ p → c ≠ p → ¬ hWi X Y p a b c := fun a b c h1 h2 sa sb sc na nb nc => (h a b h1 (hs b sb) na nb sa sb).2 c h2 (hs c sc) nc sc
      rcases Nat.lt_or_gt_of_ne d1 with z | z
      · rcases Nat.lt_or_gt_of_ne d2 with y | y
        · exact key q r o z y sq sr so nq nr no w
        · rcases Nat.lt_or_gt_of_ne d3 with x | x
          · exact key q o r x y sq so sr nq no nr (hWi_sw (hWi_rot (hWi_rot w)))
          · exact key o q r x z so sq sr no nq nr (hWi_rot (hWi_rot w))
      · rcases Nat.lt_or_gt_of_ne d3 with y | y
        · exact key r q o z y sr sq so nr nq no (hWi_sw w)
        · rcases Nat.lt_or_gt_of_ne d2 with x | x
          · exact key r o q x y sr so sq nr no nq (hWi_rot w)
          · exact key o r q x z so sr sq no nr nq (hWi_rot (hWi_rot (hWi_sw w)))
section RH
variable {P v n : Nat} {M : fm_Mem} {X Y : Nat → Int}
theorem r_between (h : rpt P M v n X Y) (hb : gbd n X Y) {p q r : Nat} (hp : p < n) (hq : q < n) (hr : r < n) : pW (f_X7_isBetween P (iI p) (iI q) (iI r) M) (fun w => w = 0 ↔ ¬ hBt X Y p q r) := by
  have t0 := gT_bd hb hp hq hr
  have b1 := hb p hp
  have b2 := hb q hq
  have b3 := hb r hr
  have z1 : ¬ (1 : Int32) = 0 := by decide
  have m1 := g_mb (a := X q - X p) (b := X r - X p) 200 200 (by omega) (by omega)
  have m2 := g_mb (a := Y q - Y p) (b := Y r - Y p) 200 200 (by omega) (by omega)
  unfold f_X7_isBetween hBt gd2
  rw [r_turn h hb hp hq hr, bd_s, r_x h hq, bd_s, r_x h hp, bd_s, r_x h hr, bd_s, bd_s, r_y h hq, bd_s, r_y h hp, bd_s, r_y h hr, bd_s, bd_s, iI_sub, iI_sub, iI_sub, iI_sub, iL_i (by omega), iL_i (by omega), iL_i (by omega), iL_i (by omega), iL_mul, iL_mul, iL_add, iL_0, f_X7_isBetween_79, f_X7_isBetween_79, bo_0, bo_1, ck_t, ck_t]
  simp only [lg_cmp_eq, lg_cmp_ge]
  simp (disch := omega) only [iL_eq, iL_le]
  refine pW_if (fun q1 => pW_if (fun q2 => pW_some ⟨fun _ z => ?_, fun _ => rfl⟩) (fun q2 => pW_some ⟨fun e => absurd e z1, fun z => absurd ⟨q1, by omega⟩ z⟩)) (fun q1 => pW_some ⟨fun _ z => q1 z.1, fun _ => rfl⟩)
  have := z.2
  omega
theorem r_within (h : rpt P M v n X Y) (hb : gbd n X Y) {p q r s : Nat} (hp : p < n) (hq : q < n) (hr : r < n) (hs : s < n) : pW (f_X7_isWithin P (iI p) (iI q) (iI r) (iI s) M) (fun w => w = 0 ↔ ¬ hWi X Y p q r s) := by
  have t1 := gT_bd hb hq hr hp
  have t2 := gT_bd hb hr hs hp
  have t3 := gT_bd hb hs hq hp
  have u1 := gSg_r (gT X Y q r p)
  have u2 := gSg_r (gT X Y r s p)
  have u3 := gSg_r (gT X Y s q p)
  have z1 : ¬ (1 : Int32) = 0 := by decide
  unfold f_X7_isWithin hWi
  rw [r_turn h hb hq hr hp, bd_s, r_sign (by omega), bd_s, r_turn h hb hr hs hp, bd_s, r_sign (by omega), bd_s, r_turn h hb hs hq hp, bd_s, r_sign (by omega), bd_s, f_X7_isWithin_53, f_X7_isWithin_54, f_X7_isWithin_54, bo_0, bo_1, ck_t, ck_t]
  simp (disch := omega) only [iI_0, iI_eq]
  rw [← iI_0]
  have s1 := gSg_p (gT X Y q r p)
  have s2 := gSg_n (gT X Y q r p)
  have s3 := gSg_p (gT X Y r s p)
  have s4 := gSg_n (gT X Y r s p)
  have s5 := gSg_p (gT X Y s q p)
  have s6 := gSg_n (gT X Y s q p)
  generalize gSg (gT X Y q r p) = g1 at *
  generalize gSg (gT X Y r s p) = g2 at *
  generalize gSg (gT X Y s q p) = g3 at *
  rw [← s1, ← s2, ← s3, ← s4, ← s5, ← s6]
  clear s1 s2 s3 s4 s5 s6 t1 t2 t3
  refine pW_if (fun q1 => pW_some ⟨fun _ => by omega, fun _ => rfl⟩) (fun q1 => pW_if (fun q2 => pW_if (fun q3 => pW_some ⟨fun e => absurd e z1, fun z => absurd (by omega) z⟩) (fun q3 => pW_some ⟨fun _ => by omega, fun _ => rfl⟩)) (fun q2 => pW_some ⟨fun _ => by omega, fun _ => rfl⟩))
theorem r_isCorner (h : rpt P M v n X Y) (hb : gbd n X Y) (s : Nat → Bool) {p : Nat} (hp : p < n) : pW (f_X7_isCorner P (bS s) (iI p) M) (fun w => w = 0 ↔ ¬ ∀ q r, q < r → r < n → hGo n X Y s p q r) := by
  have hn := h.2.1
  have z1 : ¬ (1 : Int32) = 0 := by decide
  have ff : ∀ {b : Bool}, ¬ b = false → b = true := fun {b} z => by cases b with | true => rfl | false => exact absurd rfl z
  have one : ¬ ((if true = true then (1 : Int32) else 0) = 0) := by decide
  have zero : (if false = true then (1 : Int32) else 0) = 0 := by decide
  unfold f_X7_isCorner
  rw [iI_0]
  refine pW_lp (fun u i (_ : Unit) => f_X7_isCorner_2 P (bS s) (iI p) u (iI i) M) (fun i _ => ∀ q r, q < i → q < r → r < n → hGo n X Y s p q r) n ?_ fm_fuel 0 () (fun q r hq => absurd hq (Nat.not_lt_zero q)) (Nat.zero_le _) (by unfold fm_fuel; omega)
  intro u q _ hq hI k
  rw [f_X7_isCorner_2, r_points h, bd_s]
  simp (disch := omega) only [iI_le, iI_s]
  refine pW_if (fun q1 => ?_) (fun q1 => ?_)
  · exact pW_some ⟨fun e => absurd e z1, fun z => absurd (fun q r h1 h2 => hI q r (by omega) h1 h2) z⟩
  · have hqn : q < n := by omega
    have q32 : q < 32 := by omega
    refine pW_lp (fun w r (_ : Unit) => f_X7_isCorner_15 P (bS s) (iI p) (fun x3 M => f_X7_isCorner_2 P (bS s) (iI p) u x3 M) w (iI q) (iI r) M) (fun r _ => q < r ∧ ∀ r', q < r' → r' < r → hGo n X Y s p q r') n ?_ fm_fuel (q + 1) () ⟨by omega, fun r' h1 h2 => by omega⟩ (by omega) (by unfold fm_fuel; omega)
    intro w r _ hr hJ kk
    obtain ⟨qr, hJ⟩ := hJ
    rw [f_X7_isCorner_15, r_points h, bd_s]
    simp (disch := omega) only [iI_le, iI_eq, iI_s, f_X7_isCorner_119]
    refine pW_if (fun q2 => ?_) (fun q2 => ?_)
    · exact k () hqn (fun q' r' h1 h2 h3 => by
        by_cases e : q' = q
        · rw [e]; exact hJ r' (by omega) (by omega)
        · exact hI q' r' (by omega) h2 h3)
    · have hrn : r < n := by omega
      have r32 : r < 32 := by omega
      have next : hGo n X Y s p q r → pW (f_X7_isCorner_15 P (bS s) (iI p) (fun x3 M => f_X7_isCorner_2 P (bS s) (iI p) u x3 M) w (iI q) (iI ((r + 1 : Nat) : Int)) M) (fun w => w = iI 0 ↔ ¬ ∀ q r, q < r → r < n → hGo n X Y s p q r) := fun z => kk () hrn ⟨by omega, fun r' h1 h2 => by
        by_cases e : r' = r
        · rw [e]; exact z
        · exact hJ r' h1 (by omega)⟩
      refine pW_if (fun q3 => next (fun n1 => absurd (by omega) n1)) (fun q3 => pW_if (fun q4 => next (fun _ n1 => absurd (by omega) n1)) (fun q4 => ?_))
      rw [r_isOf s q32, bd_s, r_isOf s r32, bd_s]
      cases sq : s q with
      | false =>
        rw [if_pos zero]
        exact next (fun _ _ y => by rw [sq] at y; cases y)
      | true =>
        rw [if_neg one]
        cases sr : s r with
        | false =>
          rw [if_pos zero]
          exact next (fun _ _ _ y => by rw [sr] at y; cases y)
        | true =>
          rw [if_neg one]
          obtain ⟨v1, e1, hv1⟩ := r_between h hb hp hqn hrn
          rw [e1, bd_s]
          refine pW_if (fun q5 => ?_) (fun q5 => ?_)
          · have nb := hv1.mp q5
            refine pW_lp (fun y o (_ : Unit) => f_X7_isCorner_74 P (bS s) (iI p) (fun x3 M => f_X7_isCorner_2 P (bS s) (iI p) u x3 M) (fun x3 x4 M => f_X7_isCorner_15 P (bS s) (iI p) (fun x3 M => f_X7_isCorner_2 P (bS s) (iI p) u x3 M) w x3 x4 M) y (iI q) (iI r) (iI o) M) (fun o _ => r < o ∧ ∀ o', r < o' → o' < o → o' ≠ p → s o' = true → ¬ hWi X Y p q r o') n ?_ fm_fuel (r + 1) () ⟨by omega, fun o' h1 h2 => by omega⟩ (by omega) (by unfold fm_fuel; omega)
            intro y o _ ho hK kl
            obtain ⟨ro, hK⟩ := hK
            rw [f_X7_isCorner_74, r_points h, bd_s]
            simp (disch := omega) only [iI_le, iI_eq, iI_s, f_X7_isCorner_119, f_X7_isCorner_113]
            refine pW_if (fun q6 => ?_) (fun q6 => ?_)
            · exact next (fun _ _ _ _ => ⟨nb, fun o' h1 h2 h3 h4 => hK o' h1 (by omega) h3 h4⟩)
            · have hon : o < n := by omega
              have o32 : o < 32 := by omega
              have go : (o ≠ p → s o = true → ¬ hWi X Y p q r o) → pW (f_X7_isCorner_74 P (bS s) (iI p) (fun x3 M => f_X7_isCorner_2 P (bS s) (iI p) u x3 M) (fun x3 x4 M => f_X7_isCorner_15 P (bS s) (iI p) (fun x3 M => f_X7_isCorner_2 P (bS s) (iI p) u x3 M) w x3 x4 M) y (iI q) (iI r) (iI ((o + 1 : Nat) : Int)) M) (fun w => w = iI 0 ↔ ¬ ∀ q r, q < r → r < n → hGo n X Y s p q r) := fun z => kl () hon ⟨by omega, fun o' h1 h2 h3 h4 => by
                by_cases e : o' = o
                · rw [e] at h3 h4 ⊢; exact z h3 h4
                · exact hK o' h1 (by omega) h3 h4⟩
              refine pW_if (fun q7 => go (fun n1 => absurd (by omega) n1)) (fun q7 => ?_)
              rw [r_isOf s o32, bd_s]
              cases so : s o with
              | false =>
                rw [if_pos zero]
                exact go (fun _ y => by rw [so] at y; cases y)
              | true =>
                rw [if_neg one]
                obtain ⟨v2, e2, hv2⟩ := r_within h hb hp hqn hrn hon
                rw [e2, bd_s]
                refine pW_if (fun q8 => go (fun _ _ => hv2.mp q8)) (fun q8 => pW_some ⟨fun _ z => ?_, fun _ => iI_0⟩)
                exact q8 (hv2.mpr ((z q r qr hrn (by omega) (by omega) sq sr).2 o ro hon (by omega) so))
          · refine pW_some ⟨fun _ z => ?_, fun _ => iI_0⟩
            exact q5 (hv1.mpr (z q r qr hrn (by omega) (by omega) sq sr).1)
theorem r_corners (h : rpt P M v n X Y) (hb : gbd n X Y) {s : Nat → Bool} (hs : ∀ i, s i = true → i < n) : f_X7_cornersOf P (bS s) M = some (bS (cB X Y s)) := by
  have hn := h.2.1
  have one : ¬ ((if true = true then (1 : Int32) else 0) = 0) := by decide
  have zero : (if false = true then (1 : Int32) else 0) = 0 := by decide
  unfold f_X7_cornersOf
  rw [show f_X7_cornersOf_4 P (bS s) fm_fuel 0 0 M = f_X7_cornersOf_4 P (bS s) fm_fuel (bS (fun _ => false)) (iI ((0 : Nat) : Int)) M by rw [← bS_0]; rfl]
  refine pW_eq (pW_lp (fun u i (F : Nat → Bool) => f_X7_cornersOf_4 P (bS s) u (bS F) (iI i) M) (fun i F => ∀ p, F p = (decide (p < i) && cB X Y s p)) n ?_ fm_fuel 0 (fun _ => false) (fun p => by rw [decide_eq_false (Nat.not_lt_zero p), Bool.false_and]) (Nat.zero_le _) (by unfold fm_fuel; omega))
  intro u i F hi hI k
  have or0 : bS F ||| 0 = bS F := by
    apply b_ext; intro j hj; rw [b_or, b_0, Bool.or_false]
  rw [f_X7_cornersOf_4, r_points h, bd_s]
  simp (disch := omega) only [iI_le, iI_s, f_X7_cornersOf_36, f_X7_cornersOf_37, or0]
  refine pW_if (fun q1 => ?_) (fun q1 => ?_)
  · refine pW_some (bS_cong (fun p _ => ?_))
    rw [hI p]
    cases e : cB X Y s p with
    | false => rw [Bool.and_false]
    | true => rw [Bool.and_true, decide_eq_true (by have := hs p (cB_s e); omega)]
  · have hin : i < n := by omega
    have i32 : i < 32 := by omega
    have st : cB X Y s i = false → pW (f_X7_cornersOf_4 P (bS s) u (bS F) (iI ((i + 1 : Nat) : Int)) M) (fun x => x = bS (cB X Y s)) := fun z => k F hin (fun p => by
      rw [hI p]
      by_cases e : p = i
      · rw [e, z, Bool.and_false, Bool.and_false]
      · rw [show decide (p < i) = decide (p < i + 1) from decide_eq_decide.mpr (by omega)])
    rw [r_isOf s i32, bd_s]
    cases si : s i with
    | false =>
      rw [if_pos zero]
      refine st ?_
      cases e : cB X Y s i with
      | false => rfl
      | true => rw [cB_s e] at si; cases si
    | true =>
      rw [if_neg one]
      obtain ⟨w, ew, hw⟩ := r_isCorner h hb s hin
      rw [ew, bd_s]
      rw [← hGo_co hs si, ← cB_t] at hw
      refine pW_if (fun q2 => ?_) (fun q2 => ?_)
      · refine st ?_
        cases e : cB X Y s i with
        | false => rfl
        | true => exact absurd e (hw.mp q2)
      · have ci : cB X Y s i = true := Classical.byContradiction (fun z => q2 (hw.mpr z))
        rw [bS_or1 F i32]
        refine k _ hin (fun p => ?_)
        rw [hI p]
        by_cases e : p = i
        · rw [e, ci, decide_eq_true rfl, Bool.or_true, decide_eq_true (by omega)]; rfl
        · rw [decide_eq_false e, Bool.or_false, show decide (p < i) = decide (p < i + 1) from decide_eq_decide.mpr (by omega)]
/-- layers: of a point, and how many there are -/
theorem r_layer (h : rpt P M v n X Y) (hb : gbd n X Y) (hd : gDis n X Y) {K : Nat} (hK : gLys n X Y K) : f_X7_layerOf P (-1) M = some (iI K) ∧ ∀ p l, p < n → hLy n X Y p l → f_X7_layerOf P (iI p) M = some (iI l) := by
  have hn := h.2.1
  have one : ¬ ((if true = true then (1 : Int32) else 0) = 0) := by decide
  have zero : (if false = true then (1 : Int32) else 0) = 0 := by decide
  have init : ∀ a, f_X7_layerOf P a M = f_X7_layerOf_11 P a fm_fuel (bS (hS n X Y 0)) (iI ((0 : Nat) : Int)) M := fun a => by
    unfold f_X7_layerOf
    rw [r_points h, bd_s, bS_all n (by omega)]
    rfl
  constructor
  · rw [init, iI_m1]
    refine pW_eq (pW_lp (fun u k (_ : Unit) => f_X7_layerOf_11 P (iI (-1)) u (bS (hS n X Y k)) (iI k) M) (fun k _ => k ≤ K) n ?_ fm_fuel 0 () (Nat.zero_le _) (Nat.zero_le _) (by unfold fm_fuel; omega))
    intro u k _ hk hI kk
    rw [f_X7_layerOf_11]
    refine pW_if (fun q => ?_) (fun q => ?_) <;> rw [hS_z hn] at q
    · refine pW_some ?_
      rcases Nat.lt_or_eq_of_le hI with y | y
      · obtain ⟨p, hp⟩ := hK.2.2 k y
        rw [q p] at hp; cases hp
      · rw [y]
    · have kK : k < K := by
        rcases Nat.lt_or_eq_of_le hI with y | y
        · exact y
        · exact absurd (by rw [y]; exact hK.2.1) q
      have := hK.1
      rw [r_corners h hb (fun i hi => hS_n hi), bd_s, if_pos (by rw [iI_0, iI_lt (by omega) (by omega)]; omega)]
      simp only [f_X7_layerOf_37, bS_sub, iI_s]
      exact kk () (by omega) (by omega)
  · intro p l hp hl
    rw [init]
    refine pW_eq (pW_lp (fun u k (_ : Unit) => f_X7_layerOf_11 P (iI p) u (bS (hS n X Y k)) (iI k) M) (fun k _ => k ≤ l) n ?_ fm_fuel 0 () (Nat.zero_le _) (Nat.zero_le _) (by unfold fm_fuel; omega))
    intro u k _ hk hI kk
    have pk : hS n X Y k p = true := hS_dn (j := l - k) (by rw [show k + (l - k) = l by omega]; exact hl.1)
    rw [f_X7_layerOf_11]
    refine pW_if (fun q => ?_) (fun q => ?_) <;> rw [hS_z hn] at q
    · rw [q p] at pk; cases pk
    · rw [r_corners h hb (fun i hi => hS_n hi), bd_s, if_neg (by rw [iI_0, iI_lt (by omega) (by omega)]; omega), r_isOf _ (by omega), bd_s]
      simp only [f_X7_layerOf_37, bS_sub, iI_s]
      cases e : cB X Y (hS n X Y k) p with
      | true =>
        rw [if_neg one]
        exact pW_some (by rw [hLy_eq (l := k) (l' := l) ⟨pk, e⟩ hl])
      | false =>
        rw [if_pos zero]
        have kl : k < l := by
          rcases Nat.lt_or_eq_of_le hI with y | y
          · exact y
          · rw [y, hl.2] at e; cases e
        have kn : k < n := by
          rcases hS_ct hb hd k with z | z
          · have : gct (hS n X Y k) n ≠ 0 := fun z => by
              have := (gct_0 _ _).mp z p hp
              rw [pk] at this; cases this
            omega
          · rw [z p] at pk; cases pk
        exact kk () kn (by omega)
/-- the corner behind one: the class's and the reference's are the same -/
theorem r_behind (h : rpt P M v n X Y) (hb : gbd n X Y) (hd : gDis n X Y) {p : Nat} (cp : hCo X Y (fun i => hS n X Y 0 i = true) p) : f_X7_behind P (bS (cB X Y (hS n X Y 0))) (iI p) M = some (iI (hSc X Y (hS n X Y 0) p n)) := by
  have hn := h.2.1
  have hp : p < n := hS_n cp.1
  have one : ¬ ((if true = true then (1 : Int32) else 0) = 0) := by decide
  have zero : (if false = true then (1 : Int32) else 0) = 0 := by decide
  have z1 : ¬ (1 : Int32) = 0 := by decide
  have hs : ∀ i, hS n X Y 0 i = true → i < n := fun i hi => hS_n hi
  have hdd : ∀ i j, hS n X Y 0 i = true → hS n X Y 0 j = true → X i = X j → Y i = Y j → i = j := fun i j hi hj => hd i j (hs i hi) (hs j hj)
  -- which one qualifies
  have ok : ∀ t, hCo X Y (fun i => hS n X Y 0 i = true) t → t ≠ p → (∀ o, hCo X Y (fun i => hS n X Y 0 i = true) o → o ≠ p → o ≠ t → 0 < gT X Y p t o) → t = hSc X Y (hS n X Y 0) p n := fun t ct nt ht => hNx_only hdd cp (hSc_nx hs hdd cp ct.1 nt) ct nt ht
  have ex : (∃ q, q < n ∧ q ≠ p) → hCo X Y (fun i => hS n X Y 0 i = true) (hSc X Y (hS n X Y 0) p n) ∧ hSc X Y (hS n X Y 0) p n ≠ p ∧ ∀ o, hCo X Y (fun i => hS n X Y 0 i = true) o → o ≠ p → o ≠ hSc X Y (hS n X Y 0) p n → 0 < gT X Y p (hSc X Y (hS n X Y 0) p n) o := fun ⟨q, hq, nq⟩ => by
    have nx := hSc_nx hs hdd cp (show hS n X Y 0 q = true by rw [hS_0]; exact decide_eq_true hq) nq
    exact ⟨hNx_co hdd cp.1 nx, nx.2.1, fun o co no nb => hNx_strict hdd cp nx co no nb⟩
  have self : (¬ ∃ q, q < n ∧ q ≠ p) → hSc X Y (hS n X Y 0) p n = p := fun z => by
    rcases hSc_inv hdd cp n with ⟨e, _⟩ | y
    · exact e
    · exact absurd ⟨_, hs _ y.1.1, y.2.1⟩ z
  have sn : hSc X Y (hS n X Y 0) p n < n := by
    by_cases z : ∃ q, q < n ∧ q ≠ p
    · exact hs _ (ex z).1.1
    · rw [self z]; exact hp
  generalize hb' : hSc X Y (hS n X Y 0) p n = b at *
  unfold f_X7_behind
  rw [iI_0]
  refine pW_eq (pW_lp (fun u i (_ : Unit) => f_X7_behind_2 P (bS (cB X Y (hS n X Y 0))) (iI p) u (iI i) M) (fun i _ => (∃ q, q < n ∧ q ≠ p) → i ≤ b) n ?_ fm_fuel 0 () (fun _ => Nat.zero_le _) (Nat.zero_le _) (by unfold fm_fuel; omega))
  intro u t _ ht hI k
  rw [f_X7_behind_2, r_points h, bd_s]
  simp (disch := omega) only [iI_le, iI_eq, iI_s, f_X7_behind_100]
  refine pW_if (fun q1 => ?_) (fun q1 => ?_)
  · refine pW_some ?_
    rw [self (fun z => by have := hI z; omega)]
  · have htn : t < n := by omega
    have t32 : t < 32 := by omega
    have next : ((∃ q, q < n ∧ q ≠ p) → t ≠ b) → pW (f_X7_behind_2 P (bS (cB X Y (hS n X Y 0))) (iI p) u (iI ((t + 1 : Nat) : Int)) M) (fun x => x = iI b) := fun z => k () htn (fun y => by have := hI y; have := z y; omega)
    refine pW_if (fun q2 => next (fun y e => (ex y).2.1 (by omega))) (fun q2 => ?_)
    have tp : t ≠ p := by omega
    rw [r_isOf _ t32, bd_s]
    cases ct : cB X Y (hS n X Y 0) t with
    | false =>
      rw [if_pos zero]
      exact next (fun y e => by rw [← cB_t] at ex; rw [e, (ex y).1] at ct; cases ct)
    | true =>
      rw [if_neg one]
      have ct' := cB_t.mp ct
      refine pW_lp (fun w o (is : Bool) => f_X7_behind_32 P (bS (cB X Y (hS n X Y 0))) (iI p) (fun x3 M => f_X7_behind_2 P (bS (cB X Y (hS n X Y 0))) (iI p) u x3 M) w (iI t) (if is then 1 else 0) (iI o) M) (fun o is => is = true ↔ ∀ o', o' < o → hCo X Y (fun i => hS n X Y 0 i = true) o' → o' ≠ p → o' ≠ t → 0 < gT X Y p t o') n ?_ fm_fuel 0 true ⟨fun _ o' ho => absurd ho (Nat.not_lt_zero o'), fun _ => rfl⟩ (Nat.zero_le _) (by unfold fm_fuel; omega)
      intro w o is ho hJ kk
      rw [f_X7_behind_32, r_points h, bd_s]
      simp (disch := omega) only [iI_le, iI_eq, iI_s, f_X7_behind_100, f_X7_behind_84, f_X7_behind_80, f_X7_behind_85]
      have e0 : ((if is then (1 : Int32) else 0) = 0) = (is = false) := by cases is <;> simp
      simp only [e0]
      refine pW_if (fun q3 => pW_if (fun q4 => ?_) (fun q4 => ?_)) (fun q3 => ?_)
      · refine next (fun y e => ?_)
        have : is = true := hJ.mpr (fun o' _ co no nt => by rw [e] at nt ⊢; exact (ex y).2.2 o' co no nt)
        rw [q4] at this; cases this
      · have it : is = true := by cases e : is with | true => rfl | false => exact absurd e q4
        refine pW_some ?_
        rw [ok t ct' tp (fun o co no nt => hJ.mp it o (by have := hs o co.1; omega) co no nt)]
      · have hon : o < n := by omega
        have o32 : o < 32 := by omega
        have no : ¬ (is = true ∧ (hCo X Y (fun i => hS n X Y 0 i = true) o → o ≠ p → o ≠ t → 0 < gT X Y p t o)) → pW (f_X7_behind_32 P (bS (cB X Y (hS n X Y 0))) (iI p) (fun x3 M => f_X7_behind_2 P (bS (cB X Y (hS n X Y 0))) (iI p) u x3 M) w (iI t) 0 (iI ((o + 1 : Nat) : Int)) M) (fun x => x = iI b) := fun z => kk false hon ⟨fun e => (by cases e), fun y => absurd ⟨hJ.mpr (fun o' h1 => y o' (by omega)), y o (by omega)⟩ z⟩
        have yes : is = true → (hCo X Y (fun i => hS n X Y 0 i = true) o → o ≠ p → o ≠ t → 0 < gT X Y p t o) → pW (f_X7_behind_32 P (bS (cB X Y (hS n X Y 0))) (iI p) (fun x3 M => f_X7_behind_2 P (bS (cB X Y (hS n X Y 0))) (iI p) u x3 M) w (iI t) 1 (iI ((o + 1 : Nat) : Int)) M) (fun x => x = iI b) := fun it z => kk true hon ⟨fun _ o' h1 co n1 n2 => by
          by_cases e : o' = o
          · rw [e] at co n1 n2 ⊢; exact z co n1 n2
          · exact hJ.mp it o' (by omega) co n1 n2, fun _ => rfl⟩
        refine pW_if (fun q4 => no (fun z => by rw [q4] at z; cases z.1)) (fun q4 => ?_)
        have it : is = true := by cases e : is with | true => rfl | false => exact absurd e q4
        refine pW_if (fun q5 => yes it (fun _ n1 => absurd (by omega) n1)) (fun q5 => pW_if (fun q6 => yes it (fun _ _ n1 => absurd (by omega) n1)) (fun q6 => ?_))
        rw [r_isOf _ o32, bd_s]
        cases co : cB X Y (hS n X Y 0) o with
        | false =>
          rw [if_pos zero]
          exact yes it (fun c => by rw [cB_t.mpr c] at co; cases co)
        | true =>
          rw [if_neg one]
          have t0 := gT_bd hb hp htn hon
          rw [r_turn h hb hp htn hon, bd_s, iL_0]
          simp only [lg_cmp_le]
          simp (disch := omega) only [iL_le]
          refine pW_if (fun q7 => no (fun z => ?_)) (fun q7 => yes it (fun _ _ _ => by omega))
          have := z.2 (cB_t.mp co) (by omega) (by omega)
          omega
end RH
