/-! least trees: two runs that take the nearest point each time have the same sum, whichever they take of equals -/
def gct (p : Nat → Bool) : Nat → Nat
  | 0 => 0
  | n + 1 => gct p n + (if p n then 1 else 0)
theorem gct_le (p : Nat → Bool) {i n : Nat} (h : i ≤ n) : gct p i ≤ gct p n := by
  induction n with
  | zero => rw [show i = 0 by omega]; exact Nat.le_refl _
  | succ n ih =>
    rcases Nat.lt_or_ge n i with q | q
    · rw [show i = n + 1 by omega]; exact Nat.le_refl _
    · have := ih q
      show _ ≤ gct p n + _
      omega
theorem gct_lt (p : Nat → Bool) {i n : Nat} (h : i < n) (hp : p i = true) : gct p i < gct p n := by
  have h1 := gct_le p (i := i + 1) (n := n) h
  have h2 : gct p (i + 1) = gct p i + 1 := by show gct p i + _ = _; rw [if_pos hp]
  omega
theorem gct_kth (p : Nat → Bool) : ∀ n k, k < gct p n → ∃ i, i < n ∧ p i = true ∧ gct p i = k
  | 0, k, h => absurd h (Nat.not_lt_zero k)
  | n + 1, k, h => by
    by_cases q : k < gct p n
    · obtain ⟨i, h1, h2, h3⟩ := gct_kth p n k q
      exact ⟨i, by omega, h2, h3⟩
    · have h' : k < gct p n + (if p n then 1 else 0) := h
      cases hp : p n with
      | true => rw [hp] at h'; exact ⟨n, by omega, hp, by simp at h'; omega⟩
      | false => rw [hp] at h'; simp at h'; omega
/-- as many as an injection shows -/
theorem gct_inj {p q : Nat → Bool} {n m : Nat} (F : Nat → Nat) (h1 : ∀ i, i < n → p i = true → F i < m ∧ q (F i) = true) (h2 : ∀ i j, i < n → j < n → p i = true → p j = true → F i = F j → i = j) : gct p n ≤ gct q m := by
  have hx : ∀ k, ∃ i, k < gct p n → i < n ∧ p i = true ∧ gct p i = k := fun k => by
    by_cases hk : k < gct p n
    · obtain ⟨i, h⟩ := gct_kth p n k hk
      exact ⟨i, fun _ => h⟩
    · exact ⟨0, fun h => absurd h hk⟩
  obtain ⟨e, he⟩ := Classical.axiomOfChoice hx
  refine g_holes (gct q m) (gct p n) (fun k => gct q (F (e k))) (fun k hk => ?_) (fun i j hij hj hE => ?_)
  · obtain ⟨a, b, -⟩ := he k hk
    obtain ⟨c, d⟩ := h1 _ a b
    exact gct_lt q c d
  · obtain ⟨a, b, c⟩ := he i (by omega)
    obtain ⟨a', b', c'⟩ := he j hj
    obtain ⟨f1, f2⟩ := h1 _ a b
    obtain ⟨f3, f4⟩ := h1 _ a' b'
    have hF : F (e i) = F (e j) := by
      rcases Nat.lt_trichotomy (F (e i)) (F (e j)) with r | r | r
      · have := gct_lt q r f2; omega
      · exact r
      · have := gct_lt q r f4; omega
    have := h2 _ _ a a' b b' hF
    rw [this] at c
    omega
theorem g_onto {n : Nat} {f : Nat → Nat} (h1 : ∀ i, i < n → f i < n) (h2 : ∀ i j, i < j → j < n → f i ≠ f j) {y : Nat} (hy : y < n) : ∃ i, i < n ∧ f i = y := by
  by_cases hx : ∃ i, i < n ∧ f i = y
  · exact hx
  · have := g_holes n (n + 1) (fun i => if i < n then f i else y) (fun i hi => by
      by_cases q : i < n
      · simp only [if_pos q]; exact h1 i q
      · simp only [if_neg q]; exact hy) (fun i j hij hj => by
      by_cases q : j < n
      · simp only [if_pos q, if_pos (show i < n by omega)]; exact h2 i j hij q
      · simp only [if_neg q, if_pos (show i < n by omega)]; exact fun e => hx ⟨i, by omega, e⟩)
    omega
def gPrim (n : Nat) (w : Nat → Nat → Nat) (v wt : Nat → Nat) : Prop := (∀ k, k < n → v k < n) ∧ (∀ i j, i < j → j < n → v i ≠ v j) ∧
  ∀ k, 1 ≤ k → k < n → (∃ i, i < k ∧ w (v i) (v k) = wt k) ∧ ∀ i, i < k → ∀ q, q < n → (∀ j, j < k → v j ≠ q) → wt k ≤ w (v i) q
def gCl (n : Nat) (w : Nat → Nat → Nat) (t : Nat) (S : Nat → Prop) : Prop := ∀ a b, a < n → b < n → w a b ≤ t → S a → S b
def gCo (n : Nat) (w : Nat → Nat → Nat) (t a b : Nat) : Prop := ∀ S, gCl n w t S → S a → S b
theorem gCo_symm {n : Nat} {w : Nat → Nat → Nat} (hw : ∀ a b, w a b = w b a) {t a b : Nat} (h : gCo n w t a b) : gCo n w t b a := by
  intro S hS hb
  by_cases ha : S a
  · exact ha
  · exact absurd hb (h (fun x => ¬ S x) (fun x y hx hy hxy nx ny => nx (hS y x hy hx (by rw [hw]; exact hxy) ny)) ha)
theorem gCo_trans {n : Nat} {w : Nat → Nat → Nat} {t a b c : Nat} (h1 : gCo n w t a b) (h2 : gCo n w t b c) : gCo n w t a c := fun S hS ha => h2 S hS (h1 S hS ha)
/-- k begins a part: nothing before is as near as t -/
def gHd (wt : Nat → Nat) (t k : Nat) : Bool := decide (k = 0) || decide (t < wt k)
theorem gHd_ex {n : Nat} {w : Nat → Nat → Nat} {v wt : Nat → Nat} (h : gPrim n w v wt) (t : Nat) : ∀ m k, k ≤ m → k < n → ∃ i, i < n ∧ gHd wt t i = true ∧ gCo n w t (v i) (v k) := by
  intro m
  induction m with
  | zero => intro k hk hn; exact ⟨0, by omega, by simp [gHd], by rw [show k = 0 by omega]; exact fun S _ a => a⟩
  | succ m ih =>
    intro k hk hn
    by_cases hh : gHd wt t k = true
    · exact ⟨k, hn, hh, fun S _ a => a⟩
    · have h0 : k ≠ 0 ∧ wt k ≤ t := by
        simp [gHd] at hh
        omega
      obtain ⟨⟨i, hi, hw⟩, -⟩ := h.2.2 k (by omega) hn
      obtain ⟨j, h1, h2, h3⟩ := ih i (by omega) (by omega)
      exact ⟨j, h1, h2, gCo_trans h3 (fun S hS a => hS (v i) (v k) (h.1 i (by omega)) (h.1 k hn) (by omega) a)⟩
theorem gHd_ne {n : Nat} {w : Nat → Nat → Nat} {v wt : Nat → Nat} (h : gPrim n w v wt) {t i j : Nat} (hij : i < j) (hj : j < n) (hh : gHd wt t j = true) : ¬ gCo n w t (v i) (v j) := by
  intro hc
  have hwt : t < wt j := by
    simp [gHd] at hh
    omega
  have := hc (fun x => ∃ m, m < j ∧ v m = x) (fun a b ha hb hab hm => by
    obtain ⟨m, h1, h2⟩ := hm
    by_cases q : ∃ m, m < j ∧ v m = b
    · exact q
    · have := (h.2.2 j (by omega) hj).2 m h1 b hb (fun k hk e => q ⟨k, hk, e⟩)
      rw [h2] at this
      omega) ⟨i, hij, rfl⟩
  obtain ⟨m, h1, h2⟩ := this
  exact h.2.1 m j h1 hj h2
theorem gHd_le {n : Nat} {w : Nat → Nat → Nat} (hw : ∀ a b, w a b = w b a) {v wt v' wt' : Nat → Nat} (h : gPrim n w v wt) (h' : gPrim n w v' wt') (t : Nat) : gct (gHd wt t) n ≤ gct (gHd wt' t) n := by
  have hx : ∀ i, ∃ j, i < n → j < n ∧ gHd wt' t j = true ∧ gCo n w t (v' j) (v i) := fun i => by
    by_cases hi : i < n
    · obtain ⟨k, h1, h2⟩ := g_onto h'.1 h'.2.1 (h.1 i hi)
      obtain ⟨j, h3, h4, h5⟩ := gHd_ex h' t k k (Nat.le_refl _) h1
      rw [h2] at h5
      exact ⟨j, fun _ => ⟨h3, h4, h5⟩⟩
    · exact ⟨0, fun q => absurd q hi⟩
  obtain ⟨F, hF⟩ := Classical.axiomOfChoice hx
  refine gct_inj F (fun i hi _ => ⟨(hF i hi).1, (hF i hi).2.1⟩) (fun i j hi hj pi pj e => ?_)
  have c1 := (hF i hi).2.2
  have c2 := (hF j hj).2.2
  rw [← e] at c2
  rcases Nat.lt_trichotomy i j with q | q | q
  · exact absurd (gCo_trans (gCo_symm hw c1) c2) (gHd_ne h q hj pj)
  · exact q
  · exact absurd (gCo_trans (gCo_symm hw c2) c1) (gHd_ne h q hi pi)
def gsm (f : Nat → Nat) : Nat → Nat
  | 0 => 0
  | n + 1 => gsm f n + f n
theorem gsm_cong {f g : Nat → Nat} : ∀ {n : Nat}, (∀ i, i < n → f i = g i) → gsm f n = gsm g n
  | 0, _ => rfl
  | n + 1, h => by show gsm f n + f n = gsm g n + g n; rw [gsm_cong (fun i hi => h i (by omega)), h n (by omega)]
theorem gsm_add (f g : Nat → Nat) : ∀ n, gsm (fun i => f i + g i) n = gsm f n + gsm g n
  | 0 => rfl
  | n + 1 => by show gsm (fun i => f i + g i) n + (f n + g n) = gsm f n + f n + (gsm g n + g n); rw [gsm_add f g n]; omega
theorem gsm_ex (f : Nat → Nat → Nat) (m : Nat) : ∀ n, gsm (fun i => gsm (f i) m) n = gsm (fun j => gsm (fun i => f i j) n) m
  | 0 => by
    induction m with
    | zero => rfl
    | succ m ih => show 0 = gsm _ m + 0; rw [← ih]; rfl
  | n + 1 => by
    show gsm (fun i => gsm (f i) m) n + gsm (f n) m = _
    rw [gsm_ex f m n, ← gsm_add]
    rfl
theorem gsm_thr (a : Nat) : ∀ B, a ≤ B → gsm (fun t => if t < a then 1 else 0) B = a := by
  intro B
  have key : ∀ B, gsm (fun t => if t < a then 1 else 0) B = min a B := by
    intro B
    induction B with
    | zero => show 0 = min a 0; omega
    | succ B ih =>
      show gsm _ B + (if B < a then 1 else 0) = _
      rw [ih]
      split <;> omega
  intro h
  rw [key]; omega
theorem gct_sm (p : Nat → Bool) : ∀ n, gct p n = gsm (fun i => if p i then 1 else 0) n
  | 0 => rfl
  | n + 1 => by show gct p n + _ = gsm _ n + _; rw [gct_sm p n]
/-- the sums are equal -/
theorem gPrim_sum {n B : Nat} {w : Nat → Nat → Nat} (hw : ∀ a b, w a b = w b a) {v wt v' wt' : Nat → Nat} (h : gPrim n w v wt) (h' : gPrim n w v' wt') (hn : 0 < n) (hB : ∀ k, wt k ≤ B) (hB' : ∀ k, wt' k ≤ B) (z : wt 0 = 0) (z' : wt' 0 = 0) : gsm wt n = gsm wt' n := by
  have key : ∀ (wt : Nat → Nat), (∀ k, wt k ≤ B) → wt 0 = 0 → gsm wt n + B = gsm (fun t => gct (gHd wt t) n) B := by
    intro wt hB z
    have e1 : gsm wt n = gsm (fun i => gsm (fun t => if t < wt i then 1 else 0) B) n := gsm_cong (fun i _ => (gsm_thr (wt i) B (hB i)).symm)
    have e2 : gsm (fun t => gct (gHd wt t) n) B = gsm (fun t => gsm (fun i => if t < wt i then 1 else 0) n + 1) B := by
      refine gsm_cong (fun t _ => ?_)
      have : ∀ m, 0 < m → gct (gHd wt t) m = gsm (fun i => if t < wt i then 1 else 0) m + 1 := by
        intro m
        induction m with
        | zero => intro h; omega
        | succ m ih =>
          intro _
          show gct (gHd wt t) m + (if gHd wt t m then 1 else 0) = gsm (fun i => if t < wt i then 1 else 0) m + (if t < wt m then 1 else 0) + 1
          by_cases hm : m = 0
          · subst hm
            simp [gHd, gct, gsm, z]
          · rw [ih (by omega)]
            have : (gHd wt t m = true) = (t < wt m) := by simp [gHd, hm]
            simp only [this]
            omega
      exact this n hn
    have e3 : gsm (fun t => gsm (fun i => if t < wt i then 1 else 0) n + 1) B = gsm (fun t => gsm (fun i => if t < wt i then 1 else 0) n) B + gsm (fun _ => 1) B := gsm_add _ _ B
    have e4 : gsm (fun _ => 1) B = B := by
      have : ∀ B, gsm (fun _ => 1) B = B := by
        intro B
        induction B with
        | zero => rfl
        | succ B ih => show gsm (fun _ => 1) B + 1 = _; rw [ih]
      exact this B
    rw [e1, gsm_ex, e2, e3, e4]
  have k1 := key wt hB z
  have k2 := key wt' hB' z'
  have k3 : gsm (fun t => gct (gHd wt t) n) B = gsm (fun t => gct (gHd wt' t) n) B := gsm_cong (fun t _ => Nat.le_antisymm (gHd_le hw h h' t) (gHd_le hw h' h t))
  omega
