section
/-! the two sides' states of one plane; what they tell of it -/
abbrev gPl : Type := (Nat × (Nat → Int) × (Nat → Int)) × (Nat × (Nat → Nat)) × (Nat × (Nat → Nat)) × Int × Int
def gOkP : gPl → Prop
  | ((n, X, Y), (m, T), (d, D), _, _) => n ≤ 20 ∧ gbd n X Y ∧ gDis n X Y ∧ gDr n X Y m T ∧ dueL n X Y d D
def cPl (P : Nat) (M : fm_Mem) : gPl → Prop
  | ((n, X, Y), (m, T), (d, D), fl, pu) => cpt (P + 1) M n X Y ∧ cMs (P + 6) M m T ∧ cMs (P + 11) M d D ∧ M P 3 = iI fl ∧ M P 4 = iI pu
def rVs (R : Nat) (M : fm_Mem) (v : Nat) : gPl → Prop
  | ((n, X, Y), (m, T), _, fl, pu) => (n ≤ 20 ∧ M (R + 1) (200 * v) = iI n ∧ ∀ k, k < n → M (R + 1) (200 * v + (10 + 2 * k)) = iI (X k) ∧ M (R + 1) (200 * v + (10 + 2 * k + 1)) = iI (Y k)) ∧ (m ≤ 40 ∧ M (R + 1) (200 * v + 1) = iI m ∧ ∀ t, t < m → M (R + 1) (200 * v + (60 + 3 * t)) = iI ((T t / 400 : Nat) : Int) ∧ M (R + 1) (200 * v + (60 + 3 * t + 1)) = iI ((T t / 20 % 20 : Nat) : Int) ∧ M (R + 1) (200 * v + (60 + 3 * t + 2)) = iI ((T t % 20 : Nat) : Int)) ∧ M (R + 1) (200 * v + 2) = iI fl ∧ M (R + 1) (200 * v + 3) = iI pu
theorem rVs_L {R v : Nat} {M M' : fm_Mem} {s : gPl} (h : rVs R M v s) (f : ∀ j, 200 * v ≤ j → j < 200 * v + 200 → M' (R + 1) j = M (R + 1) j) : rVs R M' v s := by
  obtain ⟨⟨n, X, Y⟩, ⟨m, T⟩, ⟨d, D⟩, fl, pu⟩ := s
  obtain ⟨⟨h1, h2, h3⟩, ⟨h4, h5, h6⟩, h7, h8⟩ := h
  refine ⟨⟨h1, (f _ (by omega) (by omega)).trans h2, fun k hk => ?_⟩, ⟨h4, (f _ (by omega) (by omega)).trans h5, fun t ht => ?_⟩, (f _ (by omega) (by omega)).trans h7, (f _ (by omega) (by omega)).trans h8⟩
  · rw [f _ (by omega) (by omega), f _ (by omega) (by omega)]; exact h3 k hk
  · rw [f _ (by omega) (by omega), f _ (by omega) (by omega), f _ (by omega) (by omega)]; exact h6 t ht
theorem cPl_L {P : Nat} {M M' : fm_Mem} {s : gPl} (h : cPl P M s) (f : ∀ b, P ≤ b → b < P + 16 → M' b = M b) : cPl P M' s := by
  obtain ⟨⟨n, X, Y⟩, ⟨m, T⟩, ⟨d, D⟩, fl, pu⟩ := s
  obtain ⟨h1, h2, h3, h4, h5⟩ := h
  exact ⟨cpt_fr h1 (fun b p q => f b (by omega) (by omega)), cMs_fr h2 (fun b p q => f b (by omega) (by omega)), cMs_fr h3 (fun b p q => f b (by omega) (by omega)), by rw [f P (by omega) (by omega)]; exact h4, by rw [f P (by omega) (by omega)]; exact h5⟩
/-- the reference at its version -/
def rKs (R : Nat) (M : fm_Mem) (v : Nat) (s : gPl) (u : Nat) : Prop := rvn R M v ∧ rVs R M v s ∧ rld R M ∧ M R 4 = iI u
/-- the class at its plane -/
def cKs (A : Nat) (M : fm_Mem) (s : gPl) (u : Nat) : Prop := cPl (A + 20) M s ∧ cHl (A + 36) M s.1.1 s.1.2.1 s.1.2.2 ∧ M A 5 = iI u
theorem rKs.L {R v u : Nat} {M M' : fm_Mem} {s : gPl} (h : rKs R M v s u) (f : frL R M M') (l : rld R M') : rKs R M' v s u := ⟨⟨(f R 3 (by omega)).trans h.1.1, h.1.2⟩, rVs_L h.2.1 (fun j _ _ => f (R + 1) j (by omega)), l, (f R 4 (by omega)).trans h.2.2.2⟩
theorem rld_0 {R : Nat} {M M' : fm_Mem} (h : rld R M) (f : ∀ b j, (b = R + 5 ∨ b = R + 3 ∨ (b = R ∧ (j = 8 ∨ j = 9))) → M' b j = M b j) : rld R M' := by
  rcases h with h | ⟨n, X, Y, d, D, h1, h2, h3, h4, h5, h6, h7, h8⟩
  · exact Or.inl ((f R 9 (by omega)).trans h)
  · refine Or.inr ⟨n, X, Y, d, D, h1, h2, (f R 9 (by omega)).trans h3, fun k hk => ?_, (f R 8 (by omega)).trans h5, h6, h7, fun t ht => ?_⟩
    · rw [f (R + 5) _ (by omega), f (R + 5) _ (by omega)]; exact h4 k hk
    · rw [f (R + 3) _ (by omega), f (R + 3) _ (by omega), f (R + 3) _ (by omega)]; exact h8 t ht
theorem rKs.up {R v u : Nat} {M : fm_Mem} {s : gPl} (h : rKs R M v s u) {j : Nat} (x : Int32) (hj : j ≠ 3 ∧ j ≠ 4 ∧ j ≠ 8 ∧ j ≠ 9) : rKs R (fm_up M R j x) v s u := ⟨⟨(up_i (by omega)).trans h.1.1, h.1.2⟩, rVs_L h.2.1 (fun j _ _ => up_i (by omega)), rld_0 h.2.2.1 (fun b j z => up_i (by omega)), (up_i (by omega)).trans h.2.2.2⟩
section TP
variable {A R v u n m d : Nat} {M M1 : fm_Mem} {X Y : Nat → Int} {T D : Nat → Nat} {fl pu : Int}
theorem rKs_K (hs : gOkP ((n, X, Y), (m, T), (d, D), fl, pu)) (h : rKs R M v ((n, X, Y), (m, T), (d, D), fl, pu) u) : rK R M v n X Y m T := ⟨⟨h.1, h.2.1.1⟩, ⟨h.1, h.2.1.2.1⟩, h.2.2.1, hs.2.1, hs.2.2.1, hs.2.2.2.1⟩
theorem gct_t (n : Nat) : gct (fun _ => true) n = n := by
  induction n with
  | zero => rfl
  | succ n ih => rw [gct_s, ih]; rfl
theorem ring_ct {a k : Nat} (hn : n ≤ 20) (h : gRing n X Y a k) : gct (cB X Y (hS n X Y 0)) 20 = k := by
  obtain ⟨-, -, -, -, -, h1, h2, h3⟩ := h
  have le1 : gct (cB X Y (hS n X Y 0)) 20 ≤ gct (fun _ => true) k := by
    refine gct_inj (fun x => (gFi (fun i => decide (hIt (fun p => hSc X Y (hS n X Y 0) p n) a i = x)) k).toNat) (fun x _ hx => ?_) (fun x y _ _ hx hy e => ?_)
    · obtain ⟨i, hi, e⟩ := h3 x (cB_t.mp hx)
      rcases gFi_r (fun i => decide (hIt (fun p => hSc X Y (hS n X Y 0) p n) a i = x)) k with ⟨-, z⟩ | ⟨j, hj, ej, -, -⟩
      · exact absurd (z i hi) (by rw [decide_eq_true e]; decide)
      · rw [ej, Int.toNat_natCast]; exact ⟨hj, rfl⟩
    · have key : ∀ x, cB X Y (hS n X Y 0) x = true → hIt (fun p => hSc X Y (hS n X Y 0) p n) a (gFi (fun i => decide (hIt (fun p => hSc X Y (hS n X Y 0) p n) a i = x)) k).toNat = x := fun x hx => by
        obtain ⟨i, hi, e⟩ := h3 x (cB_t.mp hx)
        rcases gFi_r (fun i => decide (hIt (fun p => hSc X Y (hS n X Y 0) p n) a i = x)) k with ⟨-, z⟩ | ⟨j, hj, ej, zj, -⟩
        · exact absurd (z i hi) (by rw [decide_eq_true e]; decide)
        · rw [ej, Int.toNat_natCast]; exact of_decide_eq_true zj
      rw [← key x hx, ← key y hy]
      rw [e]
  have le2 : gct (fun _ => true) k ≤ gct (cB X Y (hS n X Y 0)) 20 := by
    refine gct_inj (fun i => hIt (fun p => hSc X Y (hS n X Y 0) p n) a i) (fun i hi _ => ?_) (fun i j hi hj _ _ e => ?_)
    · have c := h2 i
      have b := hS_n c.1
      exact ⟨by omega, cB_t.mpr c⟩
    · rcases Nat.lt_trichotomy i j with z | z | z
      · exact absurd e (h1 i j z hj)
      · exact z
      · exact absurd e.symm (h1 j i z hi)
  rw [gct_t] at le1 le2
  omega
/-- how many corners, as both sides tell it -/
theorem k_ncor (hn : n ≤ 20) (h : cHl A M n X Y) : M A 2 = iI ((gct (cB X Y (hS n X Y 0)) 20 : Nat) : Int) := by
  rcases h.2.2 with ⟨z, e⟩ | ⟨-, a, k, hr, e, -⟩
  · subst z
    rw [e, (gct_0 _ _).mpr (fun i _ => by
      cases c : cB X Y (hS 0 X Y 0) i with
      | false => rfl
      | true => exact absurd (hS_n (cB_s c)) (Nat.not_lt_zero i))]
    rfl
  · rw [e, ring_ct hn hr]
theorem r_ncor (h : rpt R M v n X Y) (hb : gbd n X Y) : f_X7_cornersOf R (((1 : Int32) <<< (iI (n : Int) &&& 31)) - 1) M = some (bS (cB X Y (hS n X Y 0))) := by
  have hn := h.2.1
  rw [bS_all n (by omega)]
  exact r_corners h hb (s := hS n X Y 0) (fun i z => hS_n z)

theorem t_state (hs : gOkP ((n, X, Y), (m, T), (d, D), fl, pu)) (hC : cKs A M ((n, X, Y), (m, T), (d, D), fl, pu) u) {w : Nat} (hw : w ≤ 11) : ∃ x, f_X6_state A (iI w) M = some (.inr x) ∧ ∀ M1, rKs R M1 v ((n, X, Y), (m, T), (d, D), fl, pu) u → pW (f_X7_toldOf R (iI w) M1) (fun r => r.1 = x ∧ frL R M1 r.2 ∧ rKs R r.2 v ((n, X, Y), (m, T), (d, D), fl, pu) u) := by
  obtain ⟨⟨cp, cm1, cm2, cf, cu⟩, hh, hu⟩ := hC
  obtain ⟨hn, hb, hdi, hd, hD⟩ := id hs
  have hq : ∀ M1, rKs R M1 v ((n, X, Y), (m, T), (d, D), fl, pu) u → ∀ w, w < 4 → pW (f_X7_edges R (iI ((w : Nat) : Int)) M1) (fun r => r.1 = iI ((nE n (fW X Y m T d D w) : Nat) : Int) ∧ frL R M1 r.2 ∧ rKs R r.2 v ((n, X, Y), (m, T), (d, D), fl, pu) u) := fun M1 k1 w hw => pW_mono (r_edges (rKs_K hs k1) hD hw) (fun r z => ⟨z.1, z.2.1, k1.L z.2.1 z.2.2.2.2.1⟩)
  obtain rfl | rfl | rfl | rfl | rfl | rfl | rfl | rfl | rfl | rfl | rfl | rfl : w = 0 ∨ w = 1 ∨ w = 2 ∨ w = 3 ∨ w = 4 ∨ w = 5 ∨ w = 6 ∨ w = 7 ∨ w = 8 ∨ w = 9 ∨ w = 10 ∨ w = 11 := by omega
  · refine ⟨iI n, by unfold f_X6_state; rw [if_neg (by decide), if_pos (by decide), if_pos (by decide), k_size cp, bd_s], fun M1 k1 => ?_⟩
    have kK := rKs_K hs k1
    unfold f_X7_toldOf
    rw [if_pos (by decide), r_points kK.1, bd_s]
    exact pW_some ⟨rfl, frL_r, k1⟩
  · refine ⟨iI m, by unfold f_X6_state; rw [if_neg (by decide), if_pos (by decide), if_neg (by decide), if_pos (by decide), k_msize cm1, bd_s], fun M1 k1 => ?_⟩
    have kK := rKs_K hs k1
    unfold f_X7_toldOf
    rw [if_neg (by decide), if_pos (by decide), show (1 : Int32) = iI ((1 : Nat) : Int) from rfl, r_get k1.1 (by omega), bd_s, kK.2.1.2.2.1]
    exact pW_some ⟨rfl, frL_r, k1⟩
  · refine ⟨iI ((nE n (fW X Y m T d D 0) : Nat) : Int), by unfold f_X6_state; rw [if_neg (by decide), if_pos (by decide), if_neg (by decide), if_neg (by decide), if_pos (by decide), k_edges0 (X := X) (Y := Y) (d := d) (D := D) cm1 hd hn, bd_s], fun M1 k1 => ?_⟩
    unfold f_X7_toldOf
    rw [if_neg (by decide), if_neg (by decide), if_pos (by decide)]
    exact pW_bind (pW_mono (hq M1 k1 0 (by omega)) (fun r z => pW_some z))
  · refine ⟨iI ((nE n (fW X Y m T d D 1) : Nat) : Int), by unfold f_X6_state; rw [if_neg (by decide), if_pos (by decide), if_neg (by decide), if_neg (by decide), if_neg (by decide), if_pos (by decide), k_edges1 (X := X) (Y := Y) (d := d) (D := D) cm1 hd hn, bd_s], fun M1 k1 => ?_⟩
    unfold f_X7_toldOf
    rw [if_neg (by decide), if_neg (by decide), if_neg (by decide), if_pos (by decide)]
    exact pW_bind (pW_mono (hq M1 k1 1 (by omega)) (fun r z => pW_some z))
  · refine ⟨iI ((nE n (fW X Y m T d D 2) : Nat) : Int), by unfold f_X6_state; rw [if_neg (by decide), if_pos (by decide), if_neg (by decide), if_neg (by decide), if_neg (by decide), if_neg (by decide), if_pos (by decide), k_nbad cp cm1 hb hd.1, bd_s, ← fW_2 X Y m T d D], fun M1 k1 => ?_⟩
    unfold f_X7_toldOf
    rw [if_neg (by decide), if_neg (by decide), if_neg (by decide), if_neg (by decide), if_pos (by decide)]
    exact pW_bind (pW_mono (hq M1 k1 2 (by omega)) (fun r z => pW_some z))
  · refine ⟨iI d, by unfold f_X6_state; rw [if_neg (by decide), if_pos (by decide), if_neg (by decide), if_neg (by decide), if_neg (by decide), if_neg (by decide), if_neg (by decide), if_pos (by decide), k_msize cm2, bd_s], fun M1 k1 => ?_⟩
    have kK := rKs_K hs k1
    unfold f_X7_toldOf
    rw [if_neg (by decide), if_neg (by decide), if_neg (by decide), if_neg (by decide), if_neg (by decide), if_pos (by decide)]
    exact pW_bind (pW_mono (r_manyK kK hD) (fun r z => pW_some ⟨z.1, z.2.2.1, k1.L z.2.2.1 z.2.2.2.2.2.1⟩))
  · refine ⟨iI ((nE n (fW X Y m T d D 3) : Nat) : Int), by unfold f_X6_state; rw [if_neg (by decide), if_pos (by decide), if_neg (by decide), if_neg (by decide), if_neg (by decide), if_neg (by decide), if_neg (by decide), if_neg (by decide), if_pos (by decide), k_edgesB (X := X) (Y := Y) cm1 cm2 hd.1 hn, bd_s], fun M1 k1 => ?_⟩
    unfold f_X7_toldOf
    rw [if_neg (by decide), if_neg (by decide), if_neg (by decide), if_neg (by decide), if_neg (by decide), if_neg (by decide), if_pos (by decide)]
    exact pW_bind (pW_mono (hq M1 k1 3 (by omega)) (fun r z => pW_some z))
  · refine ⟨iI ((gct (cB X Y (hS n X Y 0)) 20 : Nat) : Int), by unfold f_X6_state; rw [if_neg (by decide), if_pos (by decide), if_neg (by decide), if_neg (by decide), if_neg (by decide), if_neg (by decide), if_neg (by decide), if_neg (by decide), if_neg (by decide), if_pos (by decide), show f_X0_corners (A + 36) M = some (M (A + 36) 2) from rfl, bd_s, k_ncor hn hh], fun M1 k1 => ?_⟩
    have kK := rKs_K hs k1
    unfold f_X7_toldOf
    rw [if_neg (by decide), if_neg (by decide), if_neg (by decide), if_neg (by decide), if_neg (by decide), if_neg (by decide), if_neg (by decide), if_pos (by decide), r_points kK.1, bd_s, r_ncor kK.1 hb, bd_s, r_bits, bd_s]
    exact pW_some ⟨rfl, frL_r, k1⟩
  · obtain ⟨K, eK, gK⟩ := hh.1
    refine ⟨iI ((K : Nat) : Int), by unfold f_X6_state; rw [if_neg (by decide), if_pos (by decide), if_neg (by decide), if_neg (by decide), if_neg (by decide), if_neg (by decide), if_neg (by decide), if_neg (by decide), if_neg (by decide), if_neg (by decide), if_pos (by decide), show f_X0_layers (A + 36) M = some (M (A + 36) 3) from rfl, bd_s, eK], fun M1 k1 => ?_⟩
    have kK := rKs_K hs k1
    unfold f_X7_toldOf
    rw [if_neg (by decide), if_neg (by decide), if_neg (by decide), if_neg (by decide), if_neg (by decide), if_neg (by decide), if_neg (by decide), if_neg (by decide), if_pos (by decide), (r_layer kK.1 hb hdi gK).1, bd_s]
    exact pW_some ⟨rfl, frL_r, k1⟩
  · refine ⟨iI u, by unfold f_X6_state; rw [if_neg (by decide), if_pos (by decide), if_neg (by decide), if_neg (by decide), if_neg (by decide), if_neg (by decide), if_neg (by decide), if_neg (by decide), if_neg (by decide), if_neg (by decide), if_neg (by decide), if_pos (by decide), hu], fun M1 k1 => ?_⟩
    have kK := rKs_K hs k1
    unfold f_X7_toldOf
    rw [if_neg (by decide), if_neg (by decide), if_neg (by decide), if_neg (by decide), if_neg (by decide), if_neg (by decide), if_neg (by decide), if_neg (by decide), if_neg (by decide), if_pos (by decide), k1.2.2.2]
    exact pW_some ⟨rfl, frL_r, k1⟩
  · refine ⟨iI fl, by unfold f_X6_state; rw [if_neg (by decide), if_pos (by decide), if_neg (by decide), if_neg (by decide), if_neg (by decide), if_neg (by decide), if_neg (by decide), if_neg (by decide), if_neg (by decide), if_neg (by decide), if_neg (by decide), if_neg (by decide), if_pos (by decide), cf], fun M1 k1 => ?_⟩
    have kK := rKs_K hs k1
    unfold f_X7_toldOf
    rw [if_neg (by decide), if_neg (by decide), if_neg (by decide), if_neg (by decide), if_neg (by decide), if_neg (by decide), if_neg (by decide), if_neg (by decide), if_neg (by decide), if_neg (by decide), if_pos (by decide), show (2 : Int32) = iI ((2 : Nat) : Int) from rfl, r_get k1.1 (by omega), bd_s, k1.2.1.2.2.1]
    exact pW_some ⟨rfl, frL_r, k1⟩
  · refine ⟨iI pu, by unfold f_X6_state; rw [if_neg (by decide), if_pos (by decide), if_neg (by decide), if_neg (by decide), if_neg (by decide), if_neg (by decide), if_neg (by decide), if_neg (by decide), if_neg (by decide), if_neg (by decide), if_neg (by decide), if_neg (by decide), if_neg (by decide), cu], fun M1 k1 => ?_⟩
    have kK := rKs_K hs k1
    unfold f_X7_toldOf
    rw [if_neg (by decide), if_neg (by decide), if_neg (by decide), if_neg (by decide), if_neg (by decide), if_neg (by decide), if_neg (by decide), if_neg (by decide), if_neg (by decide), if_neg (by decide), if_neg (by decide), show (3 : Int32) = iI ((3 : Nat) : Int) from rfl, r_get k1.1 (by omega), bd_s, k1.2.1.2.2.2]
    exact pW_some ⟨rfl, frL_r, k1⟩
theorem k_need (hp : cpt (A + 20 + 1) M n X Y) {z : Int} (hz : -2147483648 ≤ z ∧ z ≤ 2147483647) : f_X6_needPoint A (iI z) M = some (if 0 ≤ z ∧ z < n then .inr () else .inl 2) := by
  have hn := hp.2.1
  unfold f_X6_needPoint f_X6_needPoint_18
  rw [k_size hp, bd_s]
  simp (disch := omega) only [iI_n0, iI_lt]
  by_cases h1 : z < 0
  · rw [if_pos h1, if_neg (by omega)]
  · by_cases h2 : z < n
    · rw [if_neg h1, if_pos h2, if_pos (by omega)]
    · rw [if_neg h1, if_neg h2, if_neg (by omega)]
theorem bx_r {τ ρ : Type} (x : τ) (k : τ → Option (Nat ⊕ ρ)) : fm_bx (some (.inr x)) k = k x := rfl
theorem bx_l {τ ρ : Type} (e : Nat) (k : τ → Option (Nat ⊕ ρ)) : fm_bx (some (.inl e)) k = some (.inl e) := rfl
theorem t_point (hs : gOkP ((n, X, Y), (m, T), (d, D), fl, pu)) (hC : cKs A M ((n, X, Y), (m, T), (d, D), fl, pu) u) {p w : Nat} (hp : p < n) (hw : w ≤ 6) : ∃ x, f_X6_point A (iI p) (iI w) M = some (.inr x) ∧ ∀ M1, rKs R M1 v ((n, X, Y), (m, T), (d, D), fl, pu) u → pW (f_X7_toldOfPoint R (iI p) (iI w) M1) (fun r => r.1 = x ∧ frL R M1 r.2 ∧ rKs R r.2 v ((n, X, Y), (m, T), (d, D), fl, pu) u) := by
  obtain ⟨⟨cp, cm1, cm2, cf, cu⟩, hh, hu⟩ := hC
  obtain ⟨hn, hb, hdi, hd, hD⟩ := id hs
  have z20 : ∀ (m : Nat) (T : Nat → Nat) (i : Nat), 20 ≤ i → i < 32 → decide (i < 20 ∧ eN m T p i ≠ 0) = false := fun m T i h1 _ => decide_eq_false (by omega)
  unfold f_X6_point f_X7_toldOfPoint
  rw [k_need cp (by omega), if_pos (by omega), bx_r]
  obtain rfl | rfl | rfl | rfl | rfl | rfl | rfl : w = 0 ∨ w = 1 ∨ w = 2 ∨ w = 3 ∨ w = 4 ∨ w = 5 ∨ w = 6 := by omega
  · refine ⟨iI (X p), by rw [if_neg (by decide), if_pos (by decide), if_pos (by decide), k_x cp hp, bd_s], fun M1 k1 => ?_⟩
    have kK := rKs_K hs k1
    rw [if_pos (by decide), r_x kK.1 hp, bd_s]
    exact pW_some ⟨rfl, frL_r, k1⟩
  · refine ⟨iI (Y p), by rw [if_neg (by decide), if_pos (by decide), if_neg (by decide), if_pos (by decide), k_y cp hp, bd_s], fun M1 k1 => ?_⟩
    have kK := rKs_K hs k1
    rw [if_neg (by decide), if_pos (by decide), r_y kK.1 hp, bd_s]
    exact pW_some ⟨rfl, frL_r, k1⟩
  · refine ⟨iI ((gct (fun q => decide (q < 20 ∧ eN m T p q ≠ 0)) 20 : Nat) : Int), by rw [if_neg (by decide), if_pos (by decide), if_neg (by decide), if_neg (by decide), if_pos (by decide), k_joined cm1 (by omega), bd_s, k_bitsS _ (z20 m T), bd_s], fun M1 k1 => ?_⟩
    have kK := rKs_K hs k1
    rw [if_neg (by decide), if_neg (by decide), if_pos (by decide)]
    exact pW_bind (pW_mono (r_friends0 kK hp) (fun r z => by rw [z.1, r_bits, bd_s]; exact pW_some ⟨rfl, z.2.1, k1.L z.2.1 z.2.2.2.2.1⟩))
  · refine ⟨iI ((gct (fun q => decide (q < 20 ∧ eN d D p q ≠ 0)) 20 : Nat) : Int), by rw [if_neg (by decide), if_pos (by decide), if_neg (by decide), if_neg (by decide), if_neg (by decide), if_pos (by decide), k_joined cm2 (by omega), bd_s, k_bitsS _ (z20 d D), bd_s], fun M1 k1 => ?_⟩
    have kK := rKs_K hs k1
    rw [if_neg (by decide), if_neg (by decide), if_neg (by decide), if_pos (by decide)]
    exact pW_bind (pW_mono (r_friends1 kK hD hp) (fun r z => by rw [z.1, r_bits, bd_s]; exact pW_some ⟨rfl, z.2.1, k1.L z.2.1 z.2.2.2.2.1⟩))
  · obtain ⟨l, l1, l2, l3⟩ := hh.2.1 p hp
    obtain ⟨K, eK, gK⟩ := hh.1
    refine ⟨iI ((l : Nat) : Int), by unfold f_X0_layerOf; rw [if_neg (by decide), if_pos (by decide), if_neg (by decide), if_neg (by decide), if_neg (by decide), if_neg (by decide), if_pos (by decide), k_get (by omega) (by omega), bd_s, bd_s, l2], fun M1 k1 => ?_⟩
    have kK := rKs_K hs k1
    rw [if_neg (by decide), if_neg (by decide), if_neg (by decide), if_neg (by decide), if_pos (by decide), (r_layer kK.1 hb hdi gK).2 p l hp l3, bd_s]
    exact pW_some ⟨rfl, frL_r, k1⟩
  · refine ⟨bS (fun q => decide (q < 20 ∧ eN m T p q ≠ 0)), by rw [if_neg (by decide), if_pos (by decide), if_neg (by decide), if_neg (by decide), if_neg (by decide), if_neg (by decide), if_neg (by decide), if_pos (by decide), k_joined cm1 (by omega), bd_s], fun M1 k1 => ?_⟩
    have kK := rKs_K hs k1
    rw [if_neg (by decide), if_neg (by decide), if_neg (by decide), if_neg (by decide), if_neg (by decide), if_pos (by decide)]
    exact pW_bind (pW_mono (r_friends0 kK hp) (fun r z => by exact pW_some ⟨z.1, z.2.1, k1.L z.2.1 z.2.2.2.2.1⟩))
  · refine ⟨iI (gNe X Y p n), by rw [if_neg (by decide), if_pos (by decide), if_neg (by decide), if_neg (by decide), if_neg (by decide), if_neg (by decide), if_neg (by decide), if_neg (by decide), k_near cp hb hp, bd_s], fun M1 k1 => ?_⟩
    have kK := rKs_K hs k1
    rw [if_neg (by decide), if_neg (by decide), if_neg (by decide), if_neg (by decide), if_neg (by decide), if_neg (by decide), r_near kK.1 hb hp, bd_s]
    exact pW_some ⟨rfl, frL_r, k1⟩
theorem ab_i {z : Int} (h : -2147483648 < z ∧ z ≤ 2147483647) : fm_abs (iI z) = iI z.natAbs := by
  unfold fm_abs
  by_cases c : 0 ≤ z
  · rw [if_pos (by rw [iI_g0 (by omega)]; exact c), show (z.natAbs : Int) = z by omega]
  · rw [if_neg (by rw [iI_g0 (by omega)]; exact c), iI_0, iI_sub, show (z.natAbs : Int) = 0 - z by omega]
theorem iL_neg (a : Int) : - iL a = iL (-a) := (Int64.ofInt_neg a).symm
theorem ab_l {z : Int} (h : -2147483648 < z ∧ z ≤ 2147483647) : fm_absL (iL z) = iL z.natAbs := by
  unfold fm_absL
  by_cases c : 0 < z
  · rw [if_pos (by rw [iL_0, iL_lt (by omega) (by omega)]; exact c), show (z.natAbs : Int) = z by omega]
  · rw [if_neg (by rw [iL_0, iL_lt (by omega) (by omega)]; exact c), iL_neg, show (z.natAbs : Int) = - z by omega]
theorem l_i (z : Int) (h : -2147483648 ≤ z ∧ z ≤ 2147483647) : Int64.toInt32 (iL z) = iI z := by
  rw [← iL_i h]
  exact Int32.toInt32_toInt64 (iI z)
/-- what is told of a triangle of either kind -/
theorem t_tri {Q mm : Nat} {TT : Nat → Nat} {sf : Int32} (a2 : Int32) (cp : cpt (A + 20 + 1) M n X Y) (hb : gbd n X Y) (hm : cMs Q M mm TT) (hv : tV n mm TT) (h : rpt R M1 v n X Y) (hr : rTri R M1 sf mm TT) (hM : f_X7_many R sf M1 = some (iI mm, M1)) {t w : Nat} (ht : t < mm) (hw : w ≤ 6) : ∃ x, f_X6_triangle_21 A (iI t) a2 (iI w) Q M = some (.inr x) ∧ f_X7_toldOfTriangle R (iI t) sf (iI w) M1 = some (x, M1) := by
  have hn := h.2.1
  have hmm := hm.2.1
  obtain ⟨a, b, c, h1, h2, h3, e⟩ := hv.2 t ht
  obtain ⟨e1, e2, e3⟩ := k_abc hm ht (show b < 20 by omega) (show c < 20 by omega) (show a < 20 by omega) e
  obtain ⟨z1, z2, z3⟩ := hr t ht
  rw [show TT t / 400 = a by omega] at z1
  rw [show TT t / 20 % 20 = b by omega] at z2
  rw [show TT t % 20 = c by omega] at z3
  have tb := gT_bd hb (show a < n by omega) (show b < n by omega) h3
  unfold f_X6_triangle_21 f_X7_toldOfTriangle f_X7_toldOfTriangle_68
  rw [show f_X6_needTriangle A Q (iI t) M = some (.inr ()) from by
    unfold f_X6_needTriangle
    rw [k_msize hm, bd_s, if_neg (by rw [iI_n0 (by omega)]; omega), if_pos (by rw [iI_lt (by omega) (by omega)]; omega)], bx_r, e1, bd_s, e2, bd_s, e3, bd_s, z1, bd_s, z2, bd_s, z3, bd_s]
  obtain rfl | rfl | rfl | rfl | rfl | rfl | rfl : w = 0 ∨ w = 1 ∨ w = 2 ∨ w = 3 ∨ w = 4 ∨ w = 5 ∨ w = 6 := by omega
  · refine ⟨iI a, by rw [if_neg (by decide), if_pos (by decide), if_pos (by decide)], ?_⟩
    rw [if_pos (by decide), show iI ((0 : Nat) : Int) = (0 : Int32) by decide, z1, bd_s]
  · refine ⟨iI b, by rw [if_neg (by decide), if_pos (by decide), if_neg (by decide), if_pos (by decide)], ?_⟩
    rw [if_neg (by decide), if_pos (by decide), show iI ((1 : Nat) : Int) = (1 : Int32) by decide, z2, bd_s]
  · refine ⟨iI c, by rw [if_neg (by decide), if_pos (by decide), if_neg (by decide), if_neg (by decide), if_pos (by decide)], ?_⟩
    rw [if_neg (by decide), if_neg (by decide), if_pos (by decide), show iI ((2 : Nat) : Int) = (2 : Int32) by decide, z3, bd_s]
  · refine ⟨iI (gT X Y a b c).natAbs, by rw [if_neg (by decide), if_pos (by decide), if_neg (by decide), if_neg (by decide), if_neg (by decide), if_pos (by decide), k_turn cp (by omega) (by omega) h3, bd_s, ab_i (by omega)], ?_⟩
    rw [if_neg (by decide), if_neg (by decide), if_neg (by decide), if_pos (by decide), r_turn h hb (by omega) (by omega) h3, bd_s, ab_l (by omega), l_i _ (by omega)]
  · refine ⟨iI ((gct (fun p => decide (p ≠ a ∧ p ≠ b ∧ p ≠ c ∧ gSg (gI X Y a b c (X p) (Y p)) = 1)) n : Nat) : Int), by rw [if_neg (by decide), if_pos (by decide), if_neg (by decide), if_neg (by decide), if_neg (by decide), if_neg (by decide), if_pos (by decide), iI_1, k_count cp hb (by omega) (by omega) h3 (by omega), bd_s], ?_⟩
    rw [if_neg (by decide), if_neg (by decide), if_neg (by decide), if_neg (by decide), if_pos (by decide), iI_1, r_on h hb (by omega) (by omega) h3 (by omega), bd_s]
  · refine ⟨iI ((gct (fun p => decide (p ≠ a ∧ p ≠ b ∧ p ≠ c ∧ gSg (gI X Y a b c (X p) (Y p)) = 0)) n : Nat) : Int), by rw [if_neg (by decide), if_pos (by decide), if_neg (by decide), if_neg (by decide), if_neg (by decide), if_neg (by decide), if_neg (by decide), if_pos (by decide), iI_0, k_count cp hb (by omega) (by omega) h3 (by omega), bd_s], ?_⟩
    rw [if_neg (by decide), if_neg (by decide), if_neg (by decide), if_neg (by decide), if_neg (by decide), if_pos (by decide), iI_0, r_on h hb (by omega) (by omega) h3 (by omega), bd_s]
  · refine ⟨iI ((eN mm TT a b : Int) + (eN mm TT b c : Int) + (eN mm TT a c : Int) - 3), by rw [if_neg (by decide), if_pos (by decide), if_neg (by decide), if_neg (by decide), if_neg (by decide), if_neg (by decide), if_neg (by decide), if_neg (by decide), k_beside hm ht (by omega) (by omega) (by omega) e, bd_s], ?_⟩
    rw [if_neg (by decide), if_neg (by decide), if_neg (by decide), if_neg (by decide), if_neg (by decide), if_neg (by decide), r_besides hr hM hv hn (by omega) ht h1 h2 h3 e, bd_s]
end TP
end
