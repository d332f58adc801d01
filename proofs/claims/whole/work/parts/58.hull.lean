/-! the class's Hull: renew, layerOf, cornerAt -/
/-- the ring of corners from a on -/
def gRing (n : Nat) (X Y : Nat → Int) (a m : Nat) : Prop := a < n ∧ 0 < m ∧ m ≤ n ∧ hCo X Y (fun i => hS n X Y 0 i = true) a ∧ hIt (fun p => hSc X Y (hS n X Y 0) p n) a m = a ∧ (∀ i j, i < j → j < m → hIt (fun p => hSc X Y (hS n X Y 0) p n) a i ≠ hIt (fun p => hSc X Y (hS n X Y 0) p n) a j) ∧ (∀ i, hCo X Y (fun i => hS n X Y 0 i = true) (hIt (fun p => hSc X Y (hS n X Y 0) p n) a i)) ∧ ∀ v, hCo X Y (fun i => hS n X Y 0 i = true) v → ∃ i, i < m ∧ hIt (fun p => hSc X Y (hS n X Y 0) p n) a i = v
def gLys (n : Nat) (X Y : Nat → Int) (K : Nat) : Prop := K ≤ n ∧ (∀ p, hS n X Y K p = false) ∧ ∀ k, k < K → ∃ p, hS n X Y k p = true
theorem gLys_eq {n : Nat} {X Y : Nat → Int} {K K' : Nat} (h : gLys n X Y K) (h' : gLys n X Y K') : K = K' := by
  have key : ∀ {K K'}, gLys n X Y K → gLys n X Y K' → ¬ K < K' := fun {K K'} h h' z => by
    obtain ⟨p, hp⟩ := h'.2.2 K z
    rw [h.2.1 p] at hp; cases hp
  have := key h h'
  have := key h' h
  omega
def cHl (P : Nat) (M : fm_Mem) (n : Nat) (X Y : Nat → Int) : Prop := (∃ K, M P 3 = iI ((K : Nat) : Int) ∧ gLys n X Y K) ∧ (∀ p, p < n → ∃ l, l < 20 ∧ M (P + 2) p = iI ((l : Nat) : Int) ∧ hLy n X Y p l) ∧ ((n = 0 ∧ M P 2 = iI 0) ∨ (0 < n ∧ ∃ a m, gRing n X Y a m ∧ M P 2 = iI ((m : Nat) : Int) ∧ ∀ j, j < m → M (P + 4) j = iI ((hIt (fun p => hSc X Y (hS n X Y 0) p n) a j : Nat) : Int)))
theorem hIt_add (f : Nat → Nat) (a i : Nat) : ∀ j, hIt f a (i + j) = hIt f (hIt f a i) j
  | 0 => rfl
  | j + 1 => congrArg f (hIt_add f a i j)
theorem hIt_per {f : Nat → Nat} {a m : Nat} (h : hIt f a m = a) : ∀ i, hIt f a (i + m) = hIt f a i := fun i => by
  rw [Nat.add_comm, hIt_add, h]
theorem hIt_mod {f : Nat → Nat} {a m : Nat} (h : hIt f a m = a) (i : Nat) (hi : i < 2 * m) : hIt f a (i % m) = hIt f a i := by
  by_cases c : i < m
  · rw [Nat.mod_eq_of_lt c]
  · have e : i % m = i - m := by rw [Nat.mod_eq_sub_mod (by omega), Nat.mod_eq_of_lt (by omega)]
    rw [e]
    have := hIt_per h (i - m)
    rw [show i - m + m = i by omega] at this
    exact this.symm
section HR
variable {P R n : Nat} {M : fm_Mem} {X Y : Nat → Int}
theorem hS_z {k : Nat} (hn : n ≤ 20) : (bS (hS n X Y k) = 0) = (∀ p, hS n X Y k p = false) := by
  rw [bS_z]
  refine propext ⟨fun h p => ?_, fun h p _ => h p⟩
  cases e : hS n X Y k p with
  | false => rfl
  | true =>
    have := hS_n e
    rw [h p (by omega)] at e; cases e
theorem k_hrenew (h : cpt R M n X Y) (hb : gbd n X Y) (hd : gDis n X Y) (hR : R + 5 ≤ P ∨ P + 5 ≤ R) : pW (f_X0_renew P R M) (fun M' => cHl P M' n X Y ∧ ∀ b, b < P ∨ P + 5 ≤ b → M' b = M b) := by
  have hn := h.2.1
  unfold f_X0_renew
  rw [k_size h, bd_s, bS_all n (by omega), show bS (fun i => decide (i < n)) = bS (hS n X Y 0) from rfl]
  refine pW_lp (fun u k (M1 : fm_Mem) => f_X0_renew_19 P R u (bS (hS n X Y k)) M1) (fun k M1 => (∀ b, b < P ∨ P + 5 ≤ b → M1 b = M b) ∧ M1 P 3 = iI k ∧ (∀ k', k' < k → ∃ p, hS n X Y k' p = true) ∧ (∀ p, p < n → hS n X Y k p = false → ∃ l, l < 20 ∧ M1 (P + 2) p = iI ((l : Nat) : Int) ∧ hLy n X Y p l) ∧ (k = 0 → M1 P 2 = iI 0) ∧ (k ≠ 0 → 0 < n ∧ ∃ a m, gRing n X Y a m ∧ M1 P 2 = iI ((m : Nat) : Int) ∧ ∀ j, j < m → M1 (P + 4) j = iI ((hIt (fun p => hSc X Y (hS n X Y 0) p n) a j : Nat) : Int))) n ?_ fm_fuel 0 _ ⟨fun b hb => by rw [up_ne (by omega), up_ne (by omega)], by rw [up_s]; exact iI_0, fun k' hk => absurd hk (Nat.not_lt_zero k'), fun p hp z => (by rw [hS_0, decide_eq_true hp] at z; cases z), fun _ => (by rw [up_i (by omega), up_s]; exact iI_0), fun z => absurd rfl z⟩ (Nat.zero_le _) (by unfold fm_fuel; omega)
  intro u k M1 hk hI kk
  obtain ⟨fr, l1, ne, lay, r0, r1⟩ := hI
  rw [f_X0_renew_19, l1, iI_20]
  simp only [f_X0_renew_56]
  simp (disch := omega) only [iI_le]
  refine pW_if (fun q => ?_) (fun q => ?_) <;> rw [hS_z hn] at q
  · refine pW_some ⟨⟨⟨k, l1, hk, q, ne⟩, fun p hp => lay p hp (q p), ?_⟩, fr⟩
    by_cases k0 : k = 0
    · left
      refine ⟨?_, r0 k0⟩
      refine Classical.byContradiction fun z => ?_
      have := q 0
      rw [k0, hS_0, decide_eq_true (by omega)] at this
      cases this
    · exact Or.inr (r1 k0)
  · obtain ⟨p0, hp0⟩ : ∃ p, hS n X Y k p = true := Classical.byContradiction fun z => q (fun p => by
      cases e : hS n X Y k p with
      | false => rfl
      | true => exact absurd ⟨p, e⟩ z)
    have p0n := hS_n hp0
    have kn : k < n := by
      rcases hS_ct hb hd k with z | z
      · have : gct (hS n X Y k) n ≠ 0 := fun z => by
          have := (gct_0 _ _).mp z p0 p0n
          rw [hp0] at this; cases this
        omega
      · rw [z p0] at hp0; cases hp0
    rw [if_neg (by omega)]
    have hp1 : cpt R M1 n X Y := cpt_fr h (fun b h1 h2 => fr b (by omega))
    obtain ⟨rs, hrs⟩ : ∃ rs : Nat, M1 P 2 = iI rs ∧ (k = 0 → rs = 0) := by
      by_cases k0 : k = 0
      · exact ⟨0, r0 k0, fun _ => rfl⟩
      · obtain ⟨_, a, m, _, e, _⟩ := r1 k0
        exact ⟨m, e, fun z => absurd z k0⟩
    obtain ⟨r, er, c1, c2, c3, c4, c5, c6⟩ := k_peel (P := P) hp1 hb hd hR (s := hS n X Y k) (fun i hi => hS_n hi) ⟨p0, p0n, hp0⟩ l1 (by omega) hrs.1 hrs.2
    rw [er, bd_s, c1, bS_sub, c3, iI_s, show bS (fun i => hS n X Y k i && !cB X Y (hS n X Y k) i) = bS (hS n X Y (k + 1)) from rfl]
    refine kk _ kn ⟨fun b hb => by rw [up_ne (by omega), c2 b hb, fr b hb], up_s, fun k' hk' => ?_, fun p hp z => ?_, fun z => by omega, fun _ => ⟨by omega, ?_⟩⟩
    · by_cases e : k' = k
      · rw [e]; exact ⟨p0, hp0⟩
      · exact ne k' (by omega)
    · rw [up_ne (by omega), c4 p (by omega)]
      rw [hS_s] at z
      cases e : hS n X Y k p with
      | false =>
        have : cB X Y (hS n X Y k) p = false := by
          cases y : cB X Y (hS n X Y k) p with
          | false => rfl
          | true => rw [cB_s y] at e; cases e
        rw [this, if_neg (by decide)]
        exact lay p hp e
      | true =>
        rw [e, Bool.true_and, Bool.not_eq_false'] at z
        rw [z, if_pos rfl]
        exact ⟨k, by omega, rfl, e, z⟩
    · by_cases k0 : k = 0
      · subst k0
        obtain ⟨a, m, a1, a2, a3, a4, a5, a6, a7, a8, a9, a10⟩ := c6 rfl
        exact ⟨a, m, ⟨a1, a2, a3, a4, a5, a6, a7, a8⟩, by rw [up_i (by omega)]; exact a9, fun j hj => by rw [up_ne (by omega)]; exact a10 j hj⟩
      · obtain ⟨_, a, m, a1, a2, a3⟩ := r1 k0
        obtain ⟨d1, d2⟩ := c5 k0
        rw [a2] at hrs
        refine ⟨a, m, a1, ?_, fun j hj => ?_⟩
        · rw [up_i (by omega), d1, ← hrs.1]
        · rw [up_ne (by omega), d2]; exact a3 j hj
theorem cHl_fr {M' : fm_Mem} (h : cHl P M n X Y) (hf : ∀ b, P ≤ b → b < P + 5 → M' b = M b) : cHl P M' n X Y := by
  unfold cHl
  rw [hf P (by omega) (by omega), hf (P + 2) (by omega) (by omega), hf (P + 4) (by omega) (by omega)]
  exact h
theorem k_cornerAt (h : cHl P M n X Y) (hn : n ≤ 20) {m a : Nat} (hg : gRing n X Y a m) (hm : M P 2 = iI m) (hc : ∀ j, j < m → M (P + 4) j = iI ((hIt (fun p => hSc X Y (hS n X Y 0) p n) a j : Nat) : Int)) {k : Nat} (hk : k < m) : ∃ p, hCo X Y (fun i => hS n X Y 0 i = true) p ∧ (∀ q, hCo X Y (fun i => hS n X Y 0 i = true) q → p ≤ q) ∧ f_X0_cornerAt P (iI k) M = some (iI ((hIt (fun p => hSc X Y (hS n X Y 0) p n) p k : Nat) : Int)) := by
  obtain ⟨a1, a2, a3, a4, a5, a6, a7, a8⟩ := hg
  generalize hf : (fun p => hSc X Y (hS n X Y 0) p n) = f at *
  have cn : ∀ j, hIt f a j < n := fun j => of_decide_eq_true (a7 j).1
  have G : ∀ j, j < m → f_X4_get (P + 3) 20 (iI j) M = some (iI ((hIt f a j : Nat) : Int)) := fun j hj => (k_get (by omega) (by omega)).trans (congrArg some (hc j hj))
  have main : pW (f_X0_cornerAt P (iI k) M) (fun r => ∃ i, i < m ∧ (∀ j, j < m → hIt f a i ≤ hIt f a j) ∧ r = iI ((hIt f a ((i + k) % m) : Nat) : Int)) := by
    unfold f_X0_cornerAt
    rw [show (0 : Int32) = iI ((0 : Nat) : Int) from iI_0, show (1 : Int32) = iI ((1 : Nat) : Int) from iI_1]
    refine pW_lp (fun u j (b : Nat) => f_X0_cornerAt_4 P (iI k) u (iI b) (iI j) M) (fun j b => b < j ∧ b < m ∧ ∀ i, i < j → hIt f a b ≤ hIt f a i) m ?_ fm_fuel 1 0 ⟨by omega, a2, fun i hi => by rw [show i = 0 by omega]; exact Nat.le_refl _⟩ (by omega) (by unfold fm_fuel; omega)
    intro u j b hj hI kk
    obtain ⟨b1, b2, b3⟩ := hI
    rw [f_X0_cornerAt_4, hm]
    simp (disch := omega) only [iI_le, f_X0_cornerAt_33, f_X0_cornerAt_65, iI_s]
    refine pW_if (fun q => ?_) (fun q => ?_)
    · have e : j = m := by omega
      subst e
      have mod : (b + k) % j < j := Nat.mod_lt _ a2
      rw [if_neg (by rw [iI_0, iI_eq (by omega) (by omega)]; omega), show fm_nz (iI j) = true by unfold fm_nz; rw [iI_0]; simp; rw [iI_eq (by omega) (by omega)]; omega, ck_t, iI_add, show (b : Int) + (k : Int) = ((b + k : Nat) : Int) by omega, iI_rem (by omega) (by omega), G _ mod, bd_s]
      exact pW_some ⟨b, b2, b3, rfl⟩
    · have jm : j < m := by omega
      have c1 := cn j
      have c2 := cn b
      rw [G j jm, bd_s, G b b2, bd_s]
      simp (disch := omega) only [iI_le]
      refine pW_if (fun q1 => ?_) (fun q1 => ?_)
      · refine kk b jm ⟨by omega, b2, fun i hi => ?_⟩
        by_cases e : i = j
        · rw [e]; omega
        · exact b3 i (by omega)
      · refine kk j jm ⟨by omega, jm, fun i hi => ?_⟩
        by_cases e : i = j
        · rw [e]; exact Nat.le_refl _
        · have := b3 i (by omega); omega
  obtain ⟨r, er, i, hi, hmin, e⟩ := main
  refine ⟨hIt f a i, a7 i, fun q hq => ?_, ?_⟩
  · obtain ⟨j, hj, ej⟩ := a8 q hq
    rw [← ej]; exact hmin j hj
  · rw [er, e, hIt_mod a5 (i + k) (by omega), hIt_add]
end HR
