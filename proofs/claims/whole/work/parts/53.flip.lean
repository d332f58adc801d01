/-! the class's Plane: refusals, bad edges, flips -/
def gE1 (m : Nat) (T : Nat → Nat) (p q : Nat) : Nat := (gFi (eT m T p q) 20).toNat
def gE2 (m : Nat) (T : Nat → Nat) (p q : Nat) : Nat := (gFi (fun i => eT m T p q i && !decide (i = gE1 m T p q)) 20).toNat
theorem gE_two {m : Nat} {T : Nat → Nat} {p q : Nat} (h : eN m T p q = 2) : gE1 m T p q < gE2 m T p q ∧ gE2 m T p q < 20 ∧ eT m T p q (gE1 m T p q) = true ∧ eT m T p q (gE2 m T p q) = true ∧ (∀ i, eT m T p q i = true → i = gE1 m T p q ∨ i = gE2 m T p q) ∧ gFi (eT m T p q) 20 = (gE1 m T p q : Int) ∧ gFi (fun i => eT m T p q i && !decide (i = gE1 m T p q)) 20 = (gE2 m T p q : Int) := by
  obtain ⟨c, d, h1, h2, h3, h4, h5, h6, h7⟩ := eN_two h
  have ec : gE1 m T p q = c := by unfold gE1; rw [h6]; exact Int.toNat_natCast c
  have ed : gE2 m T p q = d := by unfold gE2; rw [ec, h7]; exact Int.toNat_natCast d
  rw [ed, ec]
  exact ⟨h1, h2, h3, h4, h5, h6, h7⟩
def gBad (X Y : Nat → Int) (m : Nat) (T : Nat → Nat) (p q : Nat) : Bool := decide (eN m T p q = 2 ∧ 0 < gI X Y p q (gE1 m T p q) (X (gE2 m T p q)) (Y (gE2 m T p q)))
def gRef (X Y : Nat → Int) (m : Nat) (T : Nat → Nat) (p q : Nat) : Int := if eN m T p q = 0 then 1 else if eN m T p q = 2 then (if gT X Y (gE1 m T p q) (gE2 m T p q) p * gT X Y (gE1 m T p q) (gE2 m T p q) q < 0 then 0 else 3) else 2
/-- the first bad edge, as a number, or -1 -/
def gFB (n : Nat) (X Y : Nat → Int) (m : Nat) (T : Nat → Nat) (r : Int) : Prop := (r = -1 ∧ ∀ p q, p < q → q < n → gBad X Y m T p q = false) ∨ ∃ p q : Nat, p < q ∧ q < n ∧ r = 100 * p + q ∧ gBad X Y m T p q = true ∧ ∀ p' q', p' < q' → q' < n → (p' < p ∨ (p' = p ∧ q' < q)) → gBad X Y m T p' q' = false
theorem gFB_eq {n : Nat} {X Y : Nat → Int} {m : Nat} {T : Nat → Nat} {r r' : Int} (h : gFB n X Y m T r) (h' : gFB n X Y m T r') : r = r' := by
  rcases h with ⟨e, h⟩ | ⟨p, q, h1, h2, e, h3, h4⟩ <;> rcases h' with ⟨e', h'⟩ | ⟨p', q', h1', h2', e', h3', h4'⟩
  · rw [e, e']
  · rw [h p' q' h1' h2'] at h3'; cases h3'
  · rw [h' p q h1 h2] at h3; cases h3
  · have a : ¬ (p' < p ∨ (p' = p ∧ q' < q)) := fun z => by rw [h4 p' q' h1' h2' z] at h3'; cases h3'
    have b : ¬ (p < p' ∨ (p = p' ∧ q < q')) := fun z => by rw [h4' p q h1 h2 z] at h3; cases h3
    omega
section PM
variable {P n m : Nat} {M : fm_Mem} {X Y : Nat → Int} {T : Nat → Nat}
theorem k_low (f : Nat → Bool) {c : Nat} (hc : c < 20) (h : gFi f 20 = (c : Int)) : f_X6_lowest (bS f) M = some (iI c) := by
  rcases gFi_r f 20 with ⟨e, _⟩ | ⟨i, hi, e, z1, z2⟩
  · omega
  have ic : i = c := by omega
  subst ic
  unfold f_X6_lowest
  rw [iI_0]
  refine pW_eq (pW_lp (fun u j (_ : Unit) => f_X6_lowest_2 (bS f) u (iI j) M) (fun j _ => j ≤ i) 20 ?_ fm_fuel 0 () (Nat.zero_le _) (Nat.zero_le _) (by unfold fm_fuel; omega))
  intro u j s hj hI k
  have h32 : j < 32 := by omega
  rw [f_X6_lowest_2, iI_20]
  simp (disch := omega) only [iI_le, iI_s, bS_tst f h32]
  refine pW_if (fun q => by omega) (fun q => pW_if (fun q1 => ?_) (fun q1 => ?_))
  · exact k () (by omega) (by
      rcases Nat.lt_or_eq_of_le hI with y | y
      · exact y
      · subst y; rw [z1] at q1; cases q1)
  · rcases Nat.lt_or_eq_of_le hI with y | y
    · exact absurd (z2 j y) q1
    · subst y; exact pW_some rfl
theorem k_12 {p q : Nat} (h : eN m T p q = 2) : f_X6_lowest (bS (eT m T p q)) M = some (iI (gE1 m T p q)) ∧ f_X6_lowest (bS (eT m T p q) &&& (((1 : Int32) <<< (iI (gE1 m T p q) &&& 31)) ^^^ (-1))) M = some (iI (gE2 m T p q)) := by
  obtain ⟨h1, h2, h3, h4, h5, h6, h7⟩ := gE_two h
  rw [bS_sub1 _ (by omega)]
  exact ⟨k_low _ (by omega) h6, k_low _ h2 h7⟩
theorem k_ref (hp : cpt (P + 1) M n X Y) (hm : cMs (P + 6) M m T) (hb : gbd n X Y) (hv : tV n m T) {p q : Nat} (hpn : p < n) (hqn : q < n) : f_X2_refusal P (iI p) (iI q) M = some (iI (gRef X Y m T p q)) := by
  have hn := hp.2.1
  have hE : eN m T p q ≤ 20 := gct_bd _ _
  unfold f_X2_refusal gRef
  rw [k_th hm (by omega) (by omega), bd_s, k_bitsS _ (fun i h1 _ => eT_20 h1), bd_s, show gct (eT m T p q) 20 = eN m T p q from rfl]
  rw [iI_1, iI_2, iI_3]
  simp only [bS_z, eN_0]
  simp (disch := omega) only [iI_eq]
  by_cases h0 : eN m T p q = 0
  · rw [if_pos h0, if_pos h0]
  · rw [if_neg h0, if_neg h0]
    by_cases h2 : eN m T p q = 2
    · rw [if_pos (by omega), if_pos h2]
      obtain ⟨g1, g2, g3, g4, g5, -, -⟩ := gE_two h2
      have v1 := eT_v hv hn (by omega) (by omega) g3
      have v2 := eT_v hv hn (by omega) (by omega) g4
      have ⟨l1, l2⟩ := k_12 (M := M) h2
      rw [← iI_1, l1, bd_s, l2, bd_s]
      generalize gE1 m T p q = c at *
      generalize gE2 m T p q = d at *
      have t1 := gT_bd hb v1.2.2.2.2.2.1 v2.2.2.2.2.2.1 hpn
      have t2 := gT_bd hb v1.2.2.2.2.2.1 v2.2.2.2.2.2.1 hqn
      have s1 := gSg_r (gT X Y c d p * gT X Y c d q)
      rw [k_turn hp v1.2.2.2.2.2.1 v2.2.2.2.2.2.1 hpn, bd_s, iL_i (by omega), k_sign (by omega), bd_s, k_turn hp v1.2.2.2.2.2.1 v2.2.2.2.2.2.1 hqn, bd_s, iL_i (by omega), k_sign (by omega), bd_s, iI_mul, gSg_mul]
      simp (disch := omega) only [iI_0, iI_le, f_X2_refusal_86]
      by_cases hx : gT X Y c d p * gT X Y c d q < 0
      · rw [if_pos hx, if_neg (by have := (gSg_n _).mpr hx; omega)]
      · rw [if_neg hx, if_pos (by
          refine Classical.byContradiction fun z => hx ((gSg_n _).mp (by omega)))]
    · rw [if_neg (by omega), if_neg h2]
theorem k_bad (hp : cpt (P + 1) M n X Y) (hm : cMs (P + 6) M m T) (hb : gbd n X Y) (hv : tV n m T) {p q : Nat} (hpn : p < n) (hqn : q < n) : f_X2_isBad P (iI p) (iI q) M = some (if gBad X Y m T p q then 1 else 0) := by
  have hn := hp.2.1
  have hE : eN m T p q ≤ 20 := gct_bd _ _
  unfold f_X2_isBad gBad
  rw [k_th hm (by omega) (by omega), bd_s, k_bitsS _ (fun i h1 _ => eT_20 h1), bd_s, show gct (eT m T p q) 20 = eN m T p q from rfl, iI_2]
  simp (disch := omega) only [iI_eq]
  by_cases h2 : eN m T p q = 2
  · rw [if_pos (by omega)]
    obtain ⟨g1, g2, g3, g4, g5, -, -⟩ := gE_two h2
    have v1 := eT_v hv hn (by omega) (by omega) g3
    have v2 := eT_v hv hn (by omega) (by omega) g4
    have ⟨l1, l2⟩ := k_12 (M := M) h2
    rw [l1, bd_s, l2, bd_s]
    generalize gE1 m T p q = c at *
    generalize gE2 m T p q = d at *
    have bd := hb d v2.2.2.2.2.2.1
    have s1 := gSg_r (gI X Y p q c (X d) (Y d))
    rw [k_x hp v2.2.2.2.2.2.1, bd_s, k_y hp v2.2.2.2.2.2.1, bd_s, k_circle hp hb hpn hqn v1.2.2.2.2.2.1 (by omega) (by omega), bd_s, iI_0]
    simp (disch := omega) only [iI_le, f_X2_isBad_76]
    by_cases hx : 0 < gI X Y p q c (X d) (Y d)
    · rw [if_neg (by have := (gSg_p _).mpr hx; omega), decide_eq_true ⟨h2, hx⟩]; rfl
    · rw [if_pos (by
        refine Classical.byContradiction fun z => hx ((gSg_p _).mp (by omega))), decide_eq_false (fun z => hx z.2)]; rfl
  · rw [if_neg (by omega), decide_eq_false (fun z => h2 z.1)]; rfl
/-- how many bad edges -/
def gNB (n : Nat) (X Y : Nat → Int) (m : Nat) (T : Nat → Nat) : Nat := gsm (fun p => gct (fun q => decide (p < q) && gBad X Y m T p q) n) n
theorem gct_lo (f : Nat → Bool) (p : Nat) : ∀ k, k ≤ p + 1 → gct (fun q => decide (p < q) && f q) k = 0 := fun k hk => (gct_0 _ _).mpr (fun i hi => by rw [decide_eq_false (by omega), Bool.false_and])
theorem k_nbad (hp : cpt (P + 1) M n X Y) (hm : cMs (P + 6) M m T) (hb : gbd n X Y) (hv : tV n m T) : f_X2_badEdges P M = some (iI (gNB n X Y m T)) := by
  have hn := hp.2.1
  refine pW_eq (pW_lp (fun u p (s : Nat) => f_X2_badEdges_4 P u (iI s) (iI p) M) (fun p s => s = gsm (fun p => gct (fun q => decide (p < q) && gBad X Y m T p q) n) p) n ?_ fm_fuel 0 0 rfl (Nat.zero_le _) (by unfold fm_fuel; omega))
  intro u p s hpp hI k
  rw [f_X2_badEdges_4, k_size hp, bd_s]
  simp (disch := omega) only [iI_le, iI_s]
  refine pW_if (fun q1 => ?_) (fun q1 => ?_)
  · have e : p = n := by omega
    subst e
    exact pW_some (by rw [hI]; rfl)
  · refine pW_lp (fun w q (s : Nat) => f_X2_badEdges_19 P (fun x1 x2 M => f_X2_badEdges_4 P u x1 x2 M) w (iI s) (iI p) (iI q) M) (fun q s' => p < q ∧ s' = s + gct (fun q => decide (p < q) && gBad X Y m T p q) q) n ?_ fm_fuel (p + 1) s ⟨by omega, by rw [gct_lo _ _ _ (Nat.le_refl _)]; rfl⟩ (by omega) (by unfold fm_fuel; omega)
    intro w q s' hq hJ kk
    rw [f_X2_badEdges_19, k_size hp, bd_s]
    simp (disch := omega) only [iI_le, iI_s, f_X2_badEdges_42]
    refine pW_if (fun q2 => ?_) (fun q2 => ?_)
    · have e : q = n := by omega
      subst e
      exact k s' (by omega) (by rw [gsm_s, hJ.2, hI])
    · rw [k_bad hp hm hb hv (by omega) (by omega), bd_s]
      cases hB : gBad X Y m T p q with
      | false =>
        rw [if_pos (by decide)]
        exact kk s' (by omega) ⟨by omega, by rw [gct_s, hB, Bool.and_false, hJ.2]; rfl⟩
      | true =>
        rw [if_neg (by decide)]
        exact kk (s' + 1) (by omega) ⟨by omega, by rw [gct_s, hB, decide_eq_true hJ.1, hJ.2]; rfl⟩
theorem k_fbad (hp : cpt (P + 1) M n X Y) (hm : cMs (P + 6) M m T) (hb : gbd n X Y) (hv : tV n m T) : pW (f_X2_firstBad P M) (fun r => ∃ z, r = iI z ∧ gFB n X Y m T z) := by
  have hn := hp.2.1
  unfold f_X2_firstBad
  rw [iI_0]
  refine pW_lp (fun u p (_ : Unit) => f_X2_firstBad_2 P u (iI p) M) (fun p _ => ∀ p' q', p' < q' → q' < n → p' < p → gBad X Y m T p' q' = false) n ?_ fm_fuel 0 () (fun p' q' _ _ z => absurd z (Nat.not_lt_zero p')) (Nat.zero_le _) (by unfold fm_fuel; omega)
  intro u p s hpp hI k
  rw [f_X2_firstBad_2, k_size hp, bd_s]
  simp (disch := omega) only [iI_le, iI_s]
  refine pW_if (fun q1 => ?_) (fun q1 => ?_)
  · exact pW_some ⟨-1, iI_m1, Or.inl ⟨rfl, fun p' q' h1 h2 => hI p' q' h1 h2 (by omega)⟩⟩
  · refine pW_lp (fun w q (_ : Unit) => f_X2_firstBad_17 P (fun x1 M => f_X2_firstBad_2 P u x1 M) w (iI p) (iI q) M) (fun q _ => p < q ∧ ∀ p' q', p' < q' → q' < n → (p' < p ∨ (p' = p ∧ q' < q)) → gBad X Y m T p' q' = false) n ?_ fm_fuel (p + 1) () ⟨by omega, fun p' q' h1 h2 h3 => hI p' q' h1 h2 (by omega)⟩ (by omega) (by unfold fm_fuel; omega)
    intro w q s' hq hJ kk
    rw [f_X2_firstBad_17, k_size hp, bd_s]
    simp (disch := omega) only [iI_le, iI_s]
    refine pW_if (fun q2 => ?_) (fun q2 => ?_)
    · exact k () (by omega) (fun p' q' h1 h2 h3 => hJ.2 p' q' h1 h2 (by omega))
    · rw [k_bad hp hm hb hv (by omega) (by omega), bd_s]
      cases hB : gBad X Y m T p q with
      | false =>
        rw [if_pos (by decide)]
        refine kk () (by omega) ⟨by omega, fun p' q' h1 h2 h3 => ?_⟩
        by_cases e : p' = p ∧ q' = q
        · rw [e.1, e.2]; exact hB
        · exact hJ.2 p' q' h1 h2 (by omega)
      | true =>
        rw [if_neg (by decide), iI_100, iI_mul, iI_add]
        exact pW_some ⟨_, rfl, Or.inr ⟨p, q, hJ.1, by omega, rfl, hB, hJ.2⟩⟩
end PM
/-! a flip -/
theorem tri_D {n m : Nat} {T : Nat → Nat} (h : tV n m T) (hn : n ≤ 20) {p q r : Nat} (hp : p < 20) (hq : q < 20) (hr : r < 20) (h1 : p ≠ q) (h2 : p ≠ r) (h3 : q ≠ r) {i : Nat} (hi : i < m) : tri (T i) = tri (tC p q r) ↔ T i = tC p q r := by
  obtain ⟨a, b, c, k1, k2, k3, k4, k5⟩ := tV_tri h hn hi
  obtain ⟨a', b', c', l1, l2, l3, l4⟩ := tC_o h1 h2 h3
  have := gPm_lt' l3 hp hq hr
  rw [k5, k4, l4, tri_c this.2.1 this.2.2]
  constructor
  · intro e; cases e; rfl
  · intro e
    obtain ⟨rfl, rfl, rfl⟩ := tC_inj (by omega) (by omega) this.2.1 this.2.2 e
    rfl
theorem tri_P {p q r : Nat} (hp : p < 20) (hq : q < 20) (hr : r < 20) (h1 : p ≠ q) (h2 : p ≠ r) (h3 : q ≠ r) : gPt (tri (tC p q r)) p q r ∧ (tri (tC p q r)).1 < (tri (tC p q r)).2.1 ∧ (tri (tC p q r)).2.1 < (tri (tC p q r)).2.2 := by
  obtain ⟨a', b', c', l1, l2, l3, l4⟩ := tC_o h1 h2 h3
  have := gPm_lt' l3 hp hq hr
  rw [l4, tri_c this.2.1 this.2.2]
  exact ⟨l3, l1, l2⟩
theorem flip_fact {n m : Nat} {X Y : Nat → Int} {T : Nat → Nat} (h : gDr n X Y m T) (hn : n ≤ 20) {p q c d : Nat} (hp : p < 20) (hq : q < 20) (hc : eT m T p q c = true) (hd : eT m T p q d = true) (hcd : c ≠ d) (hx : gT X Y c d p * gT X Y c d q < 0) :
    (∀ i, i < m → T i ≠ tC p c d) ∧ (∀ i, i < m → T i ≠ tC q c d) ∧ tC p c d ≠ tC q c d ∧ ∀ m' T', tV n m' T' → (∀ x, (∃ i, i < m' ∧ T' i = x) → ((∃ i, i < m ∧ T i = x) ∧ x ≠ tC p q c ∧ x ≠ tC p q d) ∨ x = tC p c d ∨ x = tC q c d) → gDr n X Y m' T' := by
  have v1 := eT_v h.1 hn hp hq hc
  have v2 := eT_v h.1 hn hp hq hd
  obtain ⟨pq, pc, qc, pn, qn, cn, i1, hi1, e1⟩ := v1
  obtain ⟨-, pd, qd, -, -, dn, i2, hi2, e2⟩ := v2
  have c20 : c < 20 := by omega
  have d20 : d < 20 := by omega
  have t1 := tri_P hp hq c20 pq pc qc
  have t2 := tri_P hp hq d20 pq pd qd
  have n1 := tri_P hp c20 d20 pc pd hcd
  have n2 := tri_P hq c20 d20 qc qd hcd
  have D1 : ∃ i, i < m ∧ tri (T i) = tri (tC p q c) := ⟨i1, hi1, by rw [e1]⟩
  have D2 : ∃ i, i < m ∧ tri (T i) = tri (tC p q d) := ⟨i2, hi2, by rw [e2]⟩
  have G := fun D' hD => gFlip (D' := D') h.2 D1 D2 t1.1 t2.1 hcd hx n1.1 n2.1 ⟨n1.2.1, n1.2.2⟩ ⟨n2.2.1, n2.2.2⟩ hD
  have g0 := G (fun t => ((∃ i, i < m ∧ tri (T i) = t) ∧ t ≠ tri (tC p q c) ∧ t ≠ tri (tC p q d)) ∨ t = tri (tC p c d) ∨ t = tri (tC q c d)) (fun t ht => ht)
  refine ⟨fun i hi e => g0.2.1 ⟨i, hi, by rw [e]⟩, fun i hi e => g0.2.2.1 ⟨i, hi, by rw [e]⟩, fun e => g0.2.2.2 (by rw [e]), fun m' T' hv hT => ⟨hv, (G _ (fun t ht => ?_)).1⟩⟩
  obtain ⟨j, hj, e⟩ := ht
  rcases hT (T' j) ⟨j, hj, rfl⟩ with ⟨⟨i, hi, y⟩, z1, z2⟩ | z | z
  · left
    rw [← e, ← y]
    exact ⟨⟨i, hi, rfl⟩, fun w => z1 (by rw [← y]; exact (tri_D h.1 hn hp hq c20 pq pc qc hi).mp w), fun w => z2 (by rw [← y]; exact (tri_D h.1 hn hp hq d20 pq pd qd hi).mp w)⟩
  · right; left; rw [← e, z]
  · right; right; rw [← e, z]
/-- T' comes of T by a flip of p, q -/
def gFl (n m : Nat) (T T' : Nat → Nat) (p q : Nat) : Prop := tV n m T' ∧ ∀ x, (∃ i, i < m ∧ T' i = x) ↔ ((∃ i, i < m ∧ T i = x) ∧ x ≠ tC p q (gE1 m T p q) ∧ x ≠ tC p q (gE2 m T p q)) ∨ x = tC p (gE1 m T p q) (gE2 m T p q) ∨ x = tC q (gE1 m T p q) (gE2 m T p q)
theorem gFl_eq {n m : Nat} {T T' T'' : Nat → Nat} {p q : Nat} (h : gFl n m T T' p q) (h' : gFl n m T T'' p q) : ∀ i, i < m → T' i = T'' i := (tS_eq h.1.1 h'.1.1 (fun x => by rw [h.2 x, h'.2 x])).2
section PF
variable {P n m : Nat} {M : fm_Mem} {X Y : Nat → Int} {T : Nat → Nat}
theorem k_flip (hm : cMs (P + 6) M m T) (hb : gbd n X Y) (hdi : gDis n X Y) (hn : n ≤ 20) (hd : gDr n X Y m T) {p q : Nat} (hpn : p < n) (hqn : q < n) (hr : gRef X Y m T p q = 0) : pW (f_X2_flipEdge P (iI p) (iI q) M) (fun r => ∃ T', gFl n m T T' p q ∧ gDr n X Y m T' ∧ r.1 = iI ((100 * gE1 m T p q + gE2 m T p q : Nat) : Int) ∧ cMs (P + 6) r.2 m T' ∧ r.2 P 3 = M P 3 + 1 ∧ (∀ j, j ≠ 3 → r.2 P j = M P j) ∧ ∀ b, b ≠ P → b < P + 6 ∨ P + 11 ≤ b → r.2 b = M b) := by
  have h2 : eN m T p q = 2 := by
    unfold gRef at hr
    refine Classical.byContradiction fun z => ?_
    rw [if_neg z] at hr
    split at hr <;> omega
  have hx : gT X Y (gE1 m T p q) (gE2 m T p q) p * gT X Y (gE1 m T p q) (gE2 m T p q) q < 0 := by
    unfold gRef at hr
    refine Classical.byContradiction fun z => ?_
    rw [if_neg (by omega), if_pos h2, if_neg z] at hr
    omega
  obtain ⟨g1, g2, g3, g4, g5, -, -⟩ := gE_two h2
  have ⟨l1, l2⟩ := k_12 (M := M) h2
  unfold f_X2_flipEdge gFl
  rw [k_th hm (by omega) (by omega), bd_s, l1, bd_s, l2, bd_s]
  clear l1 l2
  have v1 := eT_v hd.1 hn (by omega) (by omega) g3
  have v2 := eT_v hd.1 hn (by omega) (by omega) g4
  have F := flip_fact hd hn (by omega) (by omega) g3 g4 (by omega) hx
  generalize gE1 m T p q = c at *
  generalize gE2 m T p q = d at *
  obtain ⟨pq, pc, qc, pn, qn, cn, i1, hi1, e1⟩ := v1
  obtain ⟨-, pd, qd, -, -, dn, i2, hi2, e2⟩ := v2
  obtain ⟨F1, F2, F3, F4⟩ := F
  have hm35 := gDr_m hd hn hb hdi
  have cd : tC p q c ≠ tC p q d := by
    have := tC_mono (p := p) (q := q) (r := c) (r' := d) (by omega) (by omega) (by omega) (by omega) pq pc qc pd qd g1
    omega
  obtain ⟨M1, x1, m1, f1⟩ := k_rem hm hd.1 hn hpn hqn cn pq pc qc hi1 e1
  have V1 := gOut_V hd.1 hi1
  have B1 : ∀ x, (∃ i, i < m - 1 ∧ gOut T i1 i = x) ↔ x ≠ tC p q c ∧ ∃ i, i < m ∧ T i = x := fun x => by rw [gOut_mem hi1 hd.1.1, e1]
  obtain ⟨j2, hj2, e2'⟩ := (B1 (tC p q d)).mpr ⟨fun e => cd e.symm, i2, hi2, e2⟩
  obtain ⟨M2, x2, m2, f2⟩ := k_rem m1 V1 hn hpn hqn dn pq pd qd hj2 e2'
  have V2 := gOut_V V1 hj2
  have B2 : ∀ x, (∃ i, i < m - 1 - 1 ∧ gOut (gOut T i1) j2 i = x) ↔ x ≠ tC p q d ∧ x ≠ tC p q c ∧ ∃ i, i < m ∧ T i = x := fun x => by rw [gOut_mem hj2 V1.1, e2', B1]
  obtain ⟨M3, x3, k3, hk3, m3, f3⟩ := k_add m2 V2 hn (by omega) hpn cn dn pc pd (by omega) (fun i hi e => by
    obtain ⟨-, -, j, hj, y⟩ := (B2 _).mp ⟨i, hi, e⟩
    exact F1 j hj y)
  have o3 := tC_o pc pd (show c ≠ d by omega)
  have V3 := gIn_V V2 hk3 (by obtain ⟨a, b, e, y1, y2, y3, y4⟩ := o3; exact ⟨a, b, e, y1, y2, (gPm_lt' y3 hpn cn dn).2.2, y4⟩) (fun i hi e => by
    obtain ⟨-, -, j, hj, y⟩ := (B2 _).mp ⟨i, hi, e⟩
    exact F1 j hj y)
  have B3 : ∀ x, (∃ i, i < m - 1 - 1 + 1 ∧ gIn (gOut (gOut T i1) j2) k3 (tC p c d) i = x) ↔ x = tC p c d ∨ (x ≠ tC p q d ∧ x ≠ tC p q c ∧ ∃ i, i < m ∧ T i = x) := fun x => by rw [gIn_mem hk3.1, B2]
  have no4 : ∀ i, i < m - 1 - 1 + 1 → gIn (gOut (gOut T i1) j2) k3 (tC p c d) i ≠ tC q c d := fun i hi e => by
    rcases (B3 _).mp ⟨i, hi, e⟩ with y | ⟨-, -, j, hj, y⟩
    · exact F3 y.symm
    · exact F2 j hj y
  obtain ⟨M4, x4, k4, hk4, m4, f4⟩ := k_add m3 V3 hn (by omega) hqn cn dn qc qd (by omega) no4
  have o4 := tC_o qc qd (show c ≠ d by omega)
  have V4 := gIn_V V3 hk4 (by obtain ⟨a, b, e, y1, y2, y3, y4⟩ := o4; exact ⟨a, b, e, y1, y2, (gPm_lt' y3 hqn cn dn).2.2, y4⟩) no4
  have m2' : 2 ≤ m := by
    refine Classical.byContradiction fun z => ?_
    have : i1 = i2 := by omega
    rw [this, e2] at e1
    exact cd e1.symm
  rw [show m - 1 - 1 + 1 + 1 = m by omega] at m4 V4
  have B4 : ∀ x, (∃ i, i < m ∧ gIn (gIn (gOut (gOut T i1) j2) k3 (tC p c d)) k4 (tC q c d) i = x) ↔ ((∃ i, i < m ∧ T i = x) ∧ x ≠ tC p q c ∧ x ≠ tC p q d) ∨ x = tC p c d ∨ x = tC q c d := fun x => by
    have := gIn_mem (T := gIn (gOut (gOut T i1) j2) k3 (tC p c d)) (c := tC q c d) (x := x) hk4.1
    rw [show m - 1 - 1 + 1 + 1 = m by omega] at this
    rw [this, B3]
    constructor
    · rintro (y | y | ⟨y1, y2, y3⟩)
      · exact Or.inr (Or.inr y)
      · exact Or.inr (Or.inl y)
      · exact Or.inl ⟨y3, y2, y1⟩
    · rintro (⟨y1, y2, y3⟩ | y | y)
      · exact Or.inr (Or.inr ⟨y3, y2, y1⟩)
      · exact Or.inr (Or.inl y)
      · exact Or.inl y
  rw [x1, bd_s, x2, bd_s, x3, bd_s, x4, bd_s]
  refine pW_some ⟨_, ⟨V4, B4⟩, F4 m _ V4 (fun x hx => (B4 x).mp hx), ?_, cMs_fr m4 (fun b y1 y2 => up_ne (by omega)), ?_, fun j hj => ?_, fun b y1 y2 => ?_⟩
  · dsimp only
    rw [iI_100, iI_mul, iI_add]
    congr 1
  · dsimp only
    rw [up_s, f4 P (by omega), f3 P (by omega), f2 P (by omega), f1 P (by omega)]
  · dsimp only
    rw [up_i (Or.inr hj), f4 P (by omega), f3 P (by omega), f2 P (by omega), f1 P (by omega)]
  · dsimp only
    rw [up_ne y1, f4 b (by omega), f3 b (by omega), f2 b (by omega), f1 b (by omega)]
end PF
