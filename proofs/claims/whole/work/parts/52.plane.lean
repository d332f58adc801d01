/-! the class's Plane: due triangles and the drawing made of them -/
theorem gI_self (X Y : Nat → Int) (a b c : Nat) : gI X Y a b c (X a) (Y a) = 0 ∧ gI X Y a b c (X b) (Y b) = 0 ∧ gI X Y a b c (X c) (Y c) = 0 := by
  have h := gP_self X Y a b c
  rw [gI_P, gI_P, gI_P, h.1, h.2.1, h.2.2, Int.zero_mul]
  exact ⟨rfl, rfl, rfl⟩
theorem gSg_eq {u v : Int} (hv : v ≠ 0) : gSg u = gSg v ↔ 0 < u * v := by
  rw [← gSg_p, ← gSg_mul]
  have hv' : gSg v ≠ 0 := fun e => hv ((gSg_0 v).mp e)
  have h1 := gSg_r u
  have h2 := gSg_r v
  have c1 : gSg u = -1 ∨ gSg u = 0 ∨ gSg u = 1 := by omega
  have c2 : gSg v = -1 ∨ gSg v = 1 := by omega
  rcases c1 with a | a | a <;> rcases c2 with b | b <;> rw [a, b] <;> decide
/-- due triangles whose numbers are below K -/
def dueP (n : Nat) (X Y : Nat → Int) (K d : Nat) (D : Nat → Nat) : Prop := tV n d D ∧ ∀ a b c, a < b → b < c → c < n → ((∃ i, i < d ∧ D i = (a * 20 + b) * 20 + c) ↔ gDue n X Y a b c ∧ (a * 20 + b) * 20 + c < K)
theorem dueP_K {n : Nat} {X Y : Nat → Int} {K K' d : Nat} {D : Nat → Nat} (h : dueP n X Y K d D) (hK : ∀ a b c, a < b → b < c → c < n → ((a * 20 + b) * 20 + c < K ↔ (a * 20 + b) * 20 + c < K')) : dueP n X Y K' d D :=
  ⟨h.1, fun a b c h1 h2 h3 => by rw [h.2 a b c h1 h2 h3, hK a b c h1 h2 h3]⟩
theorem dueP_Dr {n : Nat} {X Y : Nat → Int} {K d : Nat} {D : Nat → Nat} (hn : n ≤ 20) (hd : gDis n X Y) (h : dueP n X Y K d D) : gDr n X Y d D := by
  refine ⟨h.1, gInv_sub (gInv_due hd) (fun t ht => ?_)⟩
  obtain ⟨i, hi, e⟩ := ht
  obtain ⟨a, b, c, h1, h2, h3, h4, h5⟩ := tV_tri h.1 hn hi
  rw [← e, h5]
  exact ((h.2 a b c h1 h2 h3).mp ⟨i, hi, h4⟩).1
theorem dueP_no {n : Nat} {X Y : Nat → Int} {a b c d : Nat} {D : Nat → Nat} (h : dueP n X Y ((a * 20 + b) * 20 + c) d D) (hn : n ≤ 20) (h2 : c < n) (hx : ¬ gDue n X Y a b c) (hb : b < c) : dueP n X Y ((a * 20 + b) * 20 + (c + 1)) d D :=
  ⟨h.1, fun a' b' c' k1 k2 k3 => by
    rw [h.2 a' b' c' k1 k2 k3]
    constructor
    · rintro ⟨z1, z2⟩; exact ⟨z1, by omega⟩
    · rintro ⟨z1, z2⟩
      refine ⟨z1, ?_⟩
      rcases Nat.lt_or_eq_of_le (show (a' * 20 + b') * 20 + c' ≤ (a * 20 + b) * 20 + c by omega) with y | y
      · exact y
      · obtain ⟨rfl, rfl, rfl⟩ := tC_inj (by omega) (by omega) (by omega) (by omega) y
        exact absurd z1 hx⟩
theorem dueP_tP {n : Nat} {X Y : Nat → Int} {K d : Nat} {D : Nat → Nat} (h : dueP n X Y K d D) : (∀ i, i < d → D i < K) := fun i hi => by
  obtain ⟨a, b, c, h1, h2, h3, h4⟩ := h.1.2 i hi
  rw [h4]
  exact ((h.2 a b c h1 h2 h3).mp ⟨i, hi, h4⟩).2
theorem dueP_in {n : Nat} {X Y : Nat → Int} {a b c d k : Nat} {D : Nat → Nat} (h : dueP n X Y ((a * 20 + b) * 20 + c) d D) (hn : n ≤ 20) (h1 : a < b) (h2 : b < c) (h3 : c < n) (hx : gDue n X Y a b c) (hk : tP d D ((a * 20 + b) * 20 + c) k) : dueP n X Y ((a * 20 + b) * 20 + (c + 1)) (d + 1) (gIn D k ((a * 20 + b) * 20 + c)) := by
  have hlt := dueP_tP h
  refine ⟨gIn_V h.1 hk ⟨a, b, c, h1, h2, h3, rfl⟩ (fun i hi e => by have := hlt i hi; omega), fun a' b' c' k1 k2 k3 => ?_⟩
  rw [gIn_mem hk.1, h.2 a' b' c' k1 k2 k3]
  constructor
  · rintro (e | ⟨z1, z2⟩)
    · obtain ⟨rfl, rfl, rfl⟩ := tC_inj (by omega) (by omega) (by omega) (by omega) e
      exact ⟨hx, by omega⟩
    · exact ⟨z1, by omega⟩
  · rintro ⟨z1, z2⟩
    rcases Nat.lt_or_eq_of_le (show (a' * 20 + b') * 20 + c' ≤ (a * 20 + b) * 20 + c by omega) with y | y
    · exact Or.inr ⟨z1, y⟩
    · exact Or.inl y
section PL
variable {P n : Nat} {M : fm_Mem} {X Y : Nat → Int}
theorem cpt_fr {M' : fm_Mem} (h : cpt P M n X Y) (hf : ∀ b, P ≤ b → b < P + 5 → M' b = M b) : cpt P M' n X Y := by
  unfold cpt
  rw [hf P (by omega) (by omega), hf (P + 2) (by omega) (by omega), hf (P + 4) (by omega) (by omega)]
  exact h
theorem k_isDue (h : cpt (P + 1) M n X Y) (hb : gbd n X Y) {a b c : Nat} (h1 : a < b) (h2 : b < c) (h3 : c < n) : pW (f_X2_isDue P (iI a) (iI b) (iI c) M) (fun v => v = 0 ↔ ¬ gDue n X Y a b c) := by
  have hn := h.2.1
  have ha : a < n := by omega
  have hb' : b < n := by omega
  have t0 := gT_bd hb hb' h3 ha
  have s0 := gSg_r (gT X Y b c a)
  have rot := gT_rot X Y a b c
  unfold f_X2_isDue
  rw [k_turn h hb' h3 ha, bd_s, iL_i (by omega), k_sign (by omega), bd_s]
  have z1 : ¬ (1 : Int32) = 0 := by decide
  refine pW_if (fun q => ?_) (fun q => ?_)
  · refine pW_some ⟨fun _ hd => ?_, fun _ => rfl⟩
    rw [iI_0, iI_eq (by omega) (by omega), gSg_0] at q
    exact hd.2.2.2.1 (by omega)
  rw [iI_0, iI_eq (by omega) (by omega), gSg_0] at q
  refine pW_lp (fun u i (_ : Unit) => f_X2_isDue_26 P (iI a) (iI b) (iI c) u (iI (gSg (gT X Y b c a))) (iI i) M) (fun i _ => ∀ d, d < i → d ≠ a → d ≠ b → d ≠ c → gI X Y a b c (X d) (Y d) ≤ 0 ∧ (gI X Y a b c (X d) (Y d) = 0 → a < d ∧ 0 < gT X Y b c d * gT X Y b c a)) n ?_ fm_fuel 0 () (fun j hj => absurd hj (Nat.not_lt_zero j)) (Nat.zero_le _) (by unfold fm_fuel; omega)
  intro u i s hi hI k
  rw [f_X2_isDue_26, k_size h, bd_s]
  simp (disch := omega) only [iI_le]
  refine pW_if (fun q1 => ?_) (fun q1 => ?_)
  · have e : i = n := by omega
    subst e
    refine pW_some ⟨fun e => absurd e z1, fun e => absurd ⟨h1, h2, h3, by omega, hI⟩ e⟩
  · have hin : i < n := by omega
    have bi := hb i hin
    have ti := gT_bd hb hb' h3 hin
    have si := gSg_r (gI X Y a b c (X i) (Y i))
    have ui := gSg_r (gT X Y b c i)
    have sf := gI_self X Y a b c
    rw [k_x h hin, bd_s, k_y h hin, bd_s, k_circle h hb ha hb' h3 (by omega) (by omega), bd_s]
    have st : (i = a ∨ i = b ∨ i = c ∨ (gI X Y a b c (X i) (Y i) ≤ 0 ∧ (gI X Y a b c (X i) (Y i) = 0 → a < i ∧ 0 < gT X Y b c i * gT X Y b c a))) → ∀ d, d < i + 1 → d ≠ a → d ≠ b → d ≠ c → gI X Y a b c (X d) (Y d) ≤ 0 ∧ (gI X Y a b c (X d) (Y d) = 0 → a < d ∧ 0 < gT X Y b c d * gT X Y b c a) := fun z d hd n1 n2 n3 => by
      by_cases e : d = i
      · subst e
        rcases z with y | y | y | y
        · exact absurd y n1
        · exact absurd y n2
        · exact absurd y n3
        · exact y
      · exact hI d (by omega) n1 n2 n3
    have no : i ≠ a → i ≠ b → i ≠ c → (gI X Y a b c (X i) (Y i) ≤ 0 → gI X Y a b c (X i) (Y i) = 0 ∧ (i < a ∨ ¬ 0 < gT X Y b c i * gT X Y b c a)) → ¬ gDue n X Y a b c := fun n1 n2 n3 z hd => by
      have := hd.2.2.2.2 i hin n1 n2 n3
      have y := z this.1
      have w := this.2 y.1
      rcases y.2 with x | x
      · omega
      · exact x w.2
    simp only [f_X2_isDue_102, f_X2_isDue_103, f_X2_isDue_138, f_X2_isDue_136, if_true, if_neg z1, iI_s]
    simp (disch := omega) only [iI_0, iI_le, iI_eq, iI_lt]
    refine pW_if (fun q2 => pW_if (fun q3 => pW_if (fun q4 => k () hin (st (by omega))) (fun q4 => pW_if (fun q5 => k () hin (st (by omega))) (fun q5 => pW_if (fun q6 => k () hin (st (by omega))) (fun q6 => ?_)))) (fun q3 => ?_)) (fun q2 => ?_)
    · rw [gSg_0] at q3
      refine pW_if (fun q7 => ?_) (fun q7 => ?_)
      · exact pW_some ⟨fun _ => no (by omega) (by omega) (by omega) (fun _ => ⟨q3, Or.inl (by omega)⟩), fun _ => rfl⟩
      · rw [k_turn h hb' h3 hin, bd_s, iL_i (by omega), k_sign (by omega), bd_s]
        simp (disch := omega) only [iI_eq]
        simp only [gSg_eq q]
        refine pW_if (fun q8 => ?_) (fun q8 => ?_)
        · exact k () hin (st (Or.inr (Or.inr (Or.inr ⟨by omega, fun _ => ⟨by omega, q8⟩⟩))))
        · exact pW_some ⟨fun _ => no (by omega) (by omega) (by omega) (fun _ => ⟨q3, Or.inr q8⟩), fun _ => rfl⟩
    · have e1 : gI X Y a b c (X i) (Y i) < 0 := by rw [← gSg_n]; omega
      exact k () hin (st (Or.inr (Or.inr (Or.inr ⟨by omega, fun e => by omega⟩))))
    · have e1 : 0 < gI X Y a b c (X i) (Y i) := by rw [← gSg_p]; omega
      refine pW_some ⟨fun _ => no ?_ ?_ ?_ (fun e => by omega), fun _ => rfl⟩
      · intro e; rw [e] at e1; omega
      · intro e; rw [e] at e1; omega
      · intro e; rw [e] at e1; omega
/-- the due triangles are found; the drawing is made of them -/
theorem k_renew (h : cpt (P + 1) M n X Y) (hb : gbd n X Y) (hd : gDis n X Y) : pW (f_X2_renew P M) (fun M' => ∃ d D, dueL n X Y d D ∧ cMs (P + 6) M' d D ∧ cMs (P + 11) M' d D ∧ ∀ b, b < P + 6 ∨ P + 16 ≤ b → M' b = M b) := by
  have hn := h.2.1
  unfold f_X2_renew
  obtain ⟨M0, e0, m0, f0⟩ := k_mclr (P := P + 11) (M := M) (fun _ => 0)
  rw [e0, bd_s, iI_0]
  have I0 : dueP n X Y 0 0 (fun _ => 0) := ⟨⟨fun i j _ hj => by omega, fun i hi => by omega⟩, fun a b c _ _ _ => ⟨fun ⟨i, hi, _⟩ => by omega, fun z => by omega⟩⟩
  have bad : ∀ M', (∀ b, b < P + 11 ∨ P + 16 ≤ b → M' b = M b) → cpt (P + 1) M' n X Y := fun M' f => cpt_fr h (fun b h1 h2 => f b (by omega))
  refine pW_lp (fun u i (z : fm_Mem × Nat × (Nat → Nat)) => f_X2_renew_9 P u (iI i) z.1) (fun i z => dueP n X Y (i * 400) z.2.1 z.2.2 ∧ cMs (P + 11) z.1 z.2.1 z.2.2 ∧ ∀ b, b < P + 11 ∨ P + 16 ≤ b → z.1 b = M b) n ?_ fm_fuel 0 (M0, 0, fun _ => 0) ⟨by rw [Nat.zero_mul]; exact I0, m0, fun b hb => f0 b (by omega)⟩ (Nat.zero_le _) (by unfold fm_fuel; omega)
  intro u a z ha hI k
  obtain ⟨M1, d, D⟩ := z
  obtain ⟨p1, c1, f1⟩ := hI
  dsimp only at p1 c1 f1 k ⊢
  rw [f_X2_renew_9, k_size (bad M1 f1), bd_s]
  simp (disch := omega) only [iI_le, iI_s]
  refine pW_if (fun q1 => ?_) (fun q1 => ?_)
  · have e : a = n := by omega
    subst e
    obtain ⟨M2, e2, m2, f2⟩ := k_mcpy (P := P + 6) (R := P + 11) c1 (by omega)
    rw [e2, bd_s]
    refine pW_some ⟨d, D, ⟨p1.1, fun a b c h1 h2 h3 => ?_⟩, m2, cMs_fr c1 (fun b h1 h2 => f2 b (by omega)), fun b hb => by rw [f2 b (by omega), f1 b (by omega)]⟩
    rw [p1.2 a b c h1 h2 h3]
    exact ⟨fun z => z.1, fun z => ⟨z, by omega⟩⟩
  · refine pW_lp (fun w j (z : fm_Mem × Nat × (Nat → Nat)) => f_X2_renew_24 P (fun x1 M => f_X2_renew_9 P u x1 M) w (iI a) (iI j) z.1) (fun j z => a < j ∧ dueP n X Y ((a * 20 + j) * 20) z.2.1 z.2.2 ∧ cMs (P + 11) z.1 z.2.1 z.2.2 ∧ ∀ b, b < P + 11 ∨ P + 16 ≤ b → z.1 b = M b) n ?_ fm_fuel (a + 1) (M1, d, D) ⟨by omega, dueP_K p1 (fun a' b' c' k1 k2 k3 => by omega), c1, f1⟩ (by omega) (by unfold fm_fuel; omega)
    intro w b z hb1 hI kb
    obtain ⟨M1, d, D⟩ := z
    obtain ⟨hab, p1, c1, f1⟩ := hI
    dsimp only at p1 c1 f1 kb ⊢
    rw [f_X2_renew_24, k_size (bad M1 f1), bd_s]
    simp (disch := omega) only [iI_le, iI_s]
    refine pW_if (fun q2 => ?_) (fun q2 => ?_)
    · exact k (M1, d, D) (by omega) ⟨dueP_K p1 (fun a' b' c' k1 k2 k3 => by rcases Nat.lt_trichotomy a' a with z | z | z <;> omega), c1, f1⟩
    · refine pW_lp (fun y l (z : fm_Mem × Nat × (Nat → Nat)) => f_X2_renew_39 P (fun x1 M => f_X2_renew_9 P u x1 M) (fun x1 x2 M => f_X2_renew_24 P (fun x1 M => f_X2_renew_9 P u x1 M) w x1 x2 M) y (iI a) (iI b) (iI l) z.1) (fun l z => b < l ∧ dueP n X Y ((a * 20 + b) * 20 + l) z.2.1 z.2.2 ∧ cMs (P + 11) z.1 z.2.1 z.2.2 ∧ ∀ b, b < P + 11 ∨ P + 16 ≤ b → z.1 b = M b) n ?_ fm_fuel (b + 1) (M1, d, D) ⟨by omega, dueP_K p1 (fun a' b' c' k1 k2 k3 => by omega), c1, f1⟩ (by omega) (by unfold fm_fuel; omega)
      intro y c z hc1 hI kc
      obtain ⟨M1, d, D⟩ := z
      obtain ⟨hbc, p1, c1, f1⟩ := hI
      dsimp only at p1 c1 f1 kc ⊢
      rw [f_X2_renew_39, k_size (bad M1 f1), bd_s]
      simp (disch := omega) only [iI_le, iI_s, f_X2_renew_70]
      refine pW_if (fun q3 => ?_) (fun q3 => ?_)
      · exact kb (M1, d, D) (by omega) ⟨by omega, dueP_K p1 (fun a' b' c' k1 k2 k3 => by omega), c1, f1⟩
      · have hcn : c < n := by omega
        obtain ⟨v, ev, hv⟩ := k_isDue (bad M1 f1) hb hab hbc hcn
        rw [ev, bd_s]
        refine pW_if (fun q4 => ?_) (fun q4 => ?_)
        · exact kc (M1, d, D) hcn ⟨by omega, dueP_no p1 hn hcn (hv.mp q4) hbc, c1, f1⟩
        · have hdue : gDue n X Y a b c := Classical.byContradiction (fun z => q4 (hv.mpr z))
          have hlt := dueP_tP p1
          have hd35 : d < 35 := by
            have := gDr_m (dueP_Dr hn hd (dueP_in p1 hn hab hbc hcn hdue ⟨Nat.le_refl d, hlt, fun z => by omega⟩)) hn hb hd
            omega
          obtain ⟨M2, e2, k0, hk0, m2, f2⟩ := k_add c1 p1.1 hn hd35 (p := a) (q := b) (r := c) (by omega) (by omega) hcn (by omega) (by omega) (by omega) (fun i hi e => by have := hlt i hi; rw [tC_a hab hbc] at e; omega)
          rw [e2, bd_s]
          rw [tC_a hab hbc] at hk0 m2
          exact kc (M2, d + 1, gIn D k0 ((a * 20 + b) * 20 + c)) hcn ⟨by omega, dueP_in p1 hn hab hbc hcn hdue hk0, m2, fun b hb => (f2 b (by omega)).trans (f1 b hb)⟩
end PL
