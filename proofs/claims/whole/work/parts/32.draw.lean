/-! a drawing: triangles whose corners' sectors don't overlap; a flip keeps it so -/
abbrev gTri : Type := Nat × Nat × Nat
def gOk (n : Nat) (X Y : Nat → Int) (t : gTri) : Prop := t.1 < t.2.1 ∧ t.2.1 < t.2.2 ∧ t.2.2 < n ∧ gT X Y t.1 t.2.1 t.2.2 ≠ 0
def gPt (t : gTri) (p u v : Nat) : Prop := gPm t.1 t.2.1 t.2.2 p u v
def gInv (n : Nat) (X Y : Nat → Int) (D : gTri → Prop) : Prop := (∀ t, D t → gOk n X Y t) ∧
  ∀ t t', D t → D t' → ∀ (p u v u' v' : Nat) (wx wy : Int), gPt t p u v → gPt t' p u' v' → 0 < gT X Y p u v → 0 < gT X Y p u' v' → gSec X Y p u v wx wy → gSec X Y p u' v' wx wy → t = t'
theorem gPt_eq {n : Nat} {X Y : Nat → Int} {t t' : gTri} (h : gOk n X Y t) (h' : gOk n X Y t') {p u v : Nat} (hp : gPt t p u v) (hp' : gPt t' p u v) : t = t' := by
  obtain ⟨a, b, c⟩ := t
  obtain ⟨a', b', c'⟩ := t'
  obtain ⟨h1, h2, -, -⟩ := h
  obtain ⟨h3, h4, -, -⟩ := h'
  unfold gPt gPm at hp hp'
  dsimp only at h1 h2 h3 h4 hp hp'
  have e : a = a' ∧ b = b' ∧ c = c' := by
    rcases hp with ⟨y1, y2, y3⟩ | ⟨y1, y2, y3⟩ | ⟨y1, y2, y3⟩ | ⟨y1, y2, y3⟩ | ⟨y1, y2, y3⟩ | ⟨y1, y2, y3⟩ <;> rcases hp' with ⟨z1, z2, z3⟩ | ⟨z1, z2, z3⟩ | ⟨z1, z2, z3⟩ | ⟨z1, z2, z3⟩ | ⟨z1, z2, z3⟩ | ⟨z1, z2, z3⟩ <;> omega
  rw [e.1, e.2.1, e.2.2]
theorem gInv_due {n : Nat} {X Y : Nat → Int} (hd : ∀ i j, i < n → j < n → X i = X j → Y i = Y j → i = j) : gInv n X Y (fun t => gDue n X Y t.1 t.2.1 t.2.2) := by
  refine ⟨fun t h => ⟨h.1, h.2.1, h.2.2.1, h.2.2.2.1⟩, fun t t' h h' p u v u' v' wx wy hp hp' t1 t2 s1 s2 => ?_⟩
  obtain ⟨rfl, rfl⟩ := gDue_one hd h h' hp hp' t1 t2 s1 s2
  exact gPt_eq (n := n) (X := X) (Y := Y) ⟨h.1, h.2.1, h.2.2.1, h.2.2.2.1⟩ ⟨h'.1, h'.2.1, h'.2.2.1, h'.2.2.2.1⟩ hp hp'
theorem gPt_r {t : gTri} {p u v : Nat} (h : gPt t p u v) : gPt t u v p := by
  rcases h with ⟨y1, y2, y3⟩ | ⟨y1, y2, y3⟩ | ⟨y1, y2, y3⟩ | ⟨y1, y2, y3⟩ | ⟨y1, y2, y3⟩ | ⟨y1, y2, y3⟩
  · exact Or.inr (Or.inl ⟨y2, y3, y1⟩)
  · exact Or.inr (Or.inr (Or.inl ⟨y2, y3, y1⟩))
  · exact Or.inl ⟨y2, y3, y1⟩
  · exact Or.inr (Or.inr (Or.inr (Or.inr (Or.inl ⟨y2, y3, y1⟩))))
  · exact Or.inr (Or.inr (Or.inr (Or.inr (Or.inr ⟨y2, y3, y1⟩))))
  · exact Or.inr (Or.inr (Or.inr (Or.inl ⟨y2, y3, y1⟩)))
theorem gPt_s {t : gTri} {p u v : Nat} (h : gPt t p u v) : gPt t p v u := by
  rcases h with ⟨y1, y2, y3⟩ | ⟨y1, y2, y3⟩ | ⟨y1, y2, y3⟩ | ⟨y1, y2, y3⟩ | ⟨y1, y2, y3⟩ | ⟨y1, y2, y3⟩
  · exact Or.inr (Or.inr (Or.inr (Or.inl ⟨y1, y3, y2⟩)))
  · exact Or.inr (Or.inr (Or.inr (Or.inr (Or.inr ⟨y1, y3, y2⟩))))
  · exact Or.inr (Or.inr (Or.inr (Or.inr (Or.inl ⟨y1, y3, y2⟩))))
  · exact Or.inl ⟨y1, y3, y2⟩
  · exact Or.inr (Or.inr (Or.inl ⟨y1, y3, y2⟩))
  · exact Or.inr (Or.inl ⟨y1, y3, y2⟩)
theorem gPt_lt {n : Nat} {t : gTri} {p u v : Nat} (h : gPt t p u v) (h1 : p < n) (h2 : u < n) (h3 : v < n) : t.2.2 < n := by
  obtain ⟨a, b, c⟩ := t
  unfold gPt gPm at h
  dsimp only at h ⊢
  rcases h with ⟨y1, y2, y3⟩ | ⟨y1, y2, y3⟩ | ⟨y1, y2, y3⟩ | ⟨y1, y2, y3⟩ | ⟨y1, y2, y3⟩ | ⟨y1, y2, y3⟩ <;> omega
theorem gT_six {X Y : Nat → Int} (p u v : Nat) : gT X Y u v p = gT X Y p u v ∧ gT X Y v p u = gT X Y p u v ∧ gT X Y p v u = - gT X Y p u v ∧ gT X Y u p v = - gT X Y p u v ∧ gT X Y v u p = - gT X Y p u v := by
  refine ⟨gT_rot X Y p u v, ?_, gT_sw X Y p u v, gT_sw2 X Y p u v, ?_⟩
  · rw [← gT_rot X Y v p u]
  · rw [gT_rot X Y p v u, gT_sw]
/-- the corners of a triangle that is told to the left -/
theorem gPt_ccw {X Y : Nat → Int} {t : gTri} {p u v x y z : Nat} (h : gPt t p u v) (hp : 0 < gT X Y p u v) (h' : gPt t x y z) (hx : 0 < gT X Y x y z) : (x = p ∧ y = u ∧ z = v) ∨ (x = u ∧ y = v ∧ z = p) ∨ (x = v ∧ y = p ∧ z = u) := by
  obtain ⟨a, b, c⟩ := t
  obtain ⟨e1, e2, e3, e4, e5⟩ := gT_six (X := X) (Y := Y) p u v
  unfold gPt gPm at h h'
  dsimp only at h h'
  rcases h with ⟨rfl, rfl, rfl⟩ | ⟨rfl, rfl, rfl⟩ | ⟨rfl, rfl, rfl⟩ | ⟨rfl, rfl, rfl⟩ | ⟨rfl, rfl, rfl⟩ | ⟨rfl, rfl, rfl⟩ <;> rcases h' with ⟨rfl, rfl, rfl⟩ | ⟨rfl, rfl, rfl⟩ | ⟨rfl, rfl, rfl⟩ | ⟨rfl, rfl, rfl⟩ | ⟨rfl, rfl, rfl⟩ | ⟨rfl, rfl, rfl⟩ <;>
    first
      | exact Or.inl ⟨rfl, rfl, rfl⟩
      | exact Or.inr (Or.inl ⟨rfl, rfl, rfl⟩)
      | exact Or.inr (Or.inr ⟨rfl, rfl, rfl⟩)
      | (exfalso; omega)
theorem gOk_T {n : Nat} {X Y : Nat → Int} {t : gTri} (h : gOk n X Y t) {p u v : Nat} (hp : gPt t p u v) : gT X Y p u v ≠ 0 := by
  obtain ⟨a, b, c⟩ := t
  have h0 := h.2.2.2
  obtain ⟨e1, e2, e3, e4, e5⟩ := gT_six (X := X) (Y := Y) a b c
  unfold gPt gPm at hp
  dsimp only at h0 hp
  rcases hp with ⟨rfl, rfl, rfl⟩ | ⟨rfl, rfl, rfl⟩ | ⟨rfl, rfl, rfl⟩ | ⟨rfl, rfl, rfl⟩ | ⟨rfl, rfl, rfl⟩ | ⟨rfl, rfl, rfl⟩ <;> omega
theorem gSec_self {X Y : Nat → Int} {p u v : Nat} (h : 0 < gT X Y p u v) : gSec X Y p u v (X u - X p) (Y u - Y p) := ⟨by rw [gC_self]; exact Int.le_refl _, h⟩
/-- between two sectors side by side -/
theorem gSec_two {X Y : Nat → Int} {p a b c : Nat} {wx wy : Int} (h : gSec X Y p a c wx wy) : gSec X Y p a b wx wy ∨ gSec X Y p b c wx wy := by
  by_cases hb : 0 ≤ gC (X b - X p) (Y b - Y p) wx wy
  · exact Or.inr ⟨hb, h.2⟩
  · exact Or.inl ⟨h.1, by rw [gC_sw]; omega⟩
/-- a part of a sector -/
theorem gSec_fst {X Y : Nat → Int} {p a b c : Nat} {wx wy : Int} (hab : 0 < gT X Y p a b) (hbc : 0 < gT X Y p b c) (hac : 0 < gT X Y p a c) (h : gSec X Y p a b wx wy) : gSec X Y p a c wx wy := by
  refine ⟨h.1, ?_⟩
  have e := g_plk (X a - X p) (Y a - Y p) (X c - X p) (Y c - Y p) wx wy (X b - X p) (Y b - Y p)
  have h1 := Int.mul_nonneg h.1 (Int.le_of_lt (show 0 < gC (X b - X p) (Y b - Y p) (X c - X p) (Y c - Y p) from hbc))
  have h2 := Int.mul_pos (show 0 < gC (X a - X p) (Y a - Y p) (X c - X p) (Y c - Y p) from hac) h.2
  have h3 : 0 < gC (X a - X p) (Y a - Y p) (X b - X p) (Y b - Y p) := hab
  by_cases q : 0 < gC wx wy (X c - X p) (Y c - Y p)
  · exact q
  · have h4 := g_np (Int.le_of_lt h3) (Int.not_lt.mp q)
    omega
theorem gSec_snd {X Y : Nat → Int} {p a b c : Nat} {wx wy : Int} (hab : 0 < gT X Y p a b) (hbc : 0 < gT X Y p b c) (hac : 0 < gT X Y p a c) (h : gSec X Y p b c wx wy) : gSec X Y p a c wx wy := by
  refine ⟨?_, h.2⟩
  have e := g_plk (X a - X p) (Y a - Y p) (X c - X p) (Y c - Y p) (X b - X p) (Y b - Y p) wx wy
  have h1 := Int.mul_pos (show 0 < gC (X a - X p) (Y a - Y p) (X b - X p) (Y b - Y p) from hab) h.2
  have h2 := Int.mul_nonneg (Int.le_of_lt (show 0 < gC (X a - X p) (Y a - Y p) (X c - X p) (Y c - Y p) from hac)) h.1
  have h3 : 0 < gC (X b - X p) (Y b - Y p) (X c - X p) (Y c - Y p) := hbc
  by_cases q : 0 ≤ gC (X a - X p) (Y a - Y p) wx wy
  · exact q
  · have h4 := Int.mul_neg_of_neg_of_pos (Int.not_le.mp q) h3
    omega
theorem gSec_dis {X Y : Nat → Int} {p a b c : Nat} {wx wy : Int} (h : gSec X Y p a b wx wy) (h' : gSec X Y p b c wx wy) : False := by
  have h1 := h.2
  have h2 := h'.1
  rw [gC_sw] at h1
  omega
theorem g_signs {a b : Int} (h : a * b < 0) (hab : a < b) : a < 0 ∧ 0 < b := by
  constructor
  · by_cases q : a < 0
    · exact q
    · have := Int.mul_nonneg (Int.not_lt.mp q) (show 0 ≤ b by omega)
      omega
  · by_cases q : 0 < b
    · exact q
    · have := Int.mul_nonneg_of_nonpos_of_nonpos (show a ≤ 0 by omega) (Int.not_lt.mp q)
      omega
theorem gPt_ne {n : Nat} {X Y : Nat → Int} {t : gTri} (h : gOk n X Y t) {p u v : Nat} (hp : gPt t p u v) : p ≠ u ∧ p ≠ v ∧ u ≠ v ∧ p < n ∧ u < n ∧ v < n := by
  have q := gPm_lt h.1 h.2.1 h.2.2.1 hp
  exact ⟨q.2.2.2.1, q.2.2.2.2.1, q.2.2.2.2.2.1, q.1, q.2.1, q.2.2.1⟩
theorem gPt_third {n : Nat} {X Y : Nat → Int} {t : gTri} (h : gOk n X Y t) {p q c d : Nat} (h1 : gPt t p q c) (h2 : gPt t p q d) : c = d := by
  obtain ⟨a, b, e⟩ := t
  obtain ⟨h3, h4, -, -⟩ := h
  unfold gPt gPm at h1 h2
  dsimp only at h1 h2 h3 h4
  rcases h1 with ⟨y1, y2, y3⟩ | ⟨y1, y2, y3⟩ | ⟨y1, y2, y3⟩ | ⟨y1, y2, y3⟩ | ⟨y1, y2, y3⟩ | ⟨y1, y2, y3⟩ <;> rcases h2 with ⟨z1, z2, z3⟩ | ⟨z1, z2, z3⟩ | ⟨z1, z2, z3⟩ | ⟨z1, z2, z3⟩ | ⟨z1, z2, z3⟩ | ⟨z1, z2, z3⟩ <;> omega
/-- an edge's two triangles lie on its two sides -/
theorem gInv_side {n : Nat} {X Y : Nat → Int} {D : gTri → Prop} (h : gInv n X Y D) {t1 t2 : gTri} (d1 : D t1) (d2 : D t2) {p q c d : Nat} (h1 : gPt t1 p q c) (h2 : gPt t2 p q d) (hcd : c ≠ d) (hc : 0 < gT X Y p q c) : gT X Y p q d < 0 := by
  have h0 := gOk_T (h.1 t2 d2) h2
  rcases Int.lt_trichotomy (gT X Y p q d) 0 with k | k | k
  · exact k
  · exact absurd k h0
  · exfalso
    have e := h.2 t1 t2 d1 d2 p q c q d _ _ h1 h2 hc k (gSec_self hc) (gSec_self k)
    subst e
    exact hcd (gPt_third (h.1 t1 d1) h1 h2)
/-- the turn of a triangle in its own order is no 0 if it is none in another -/
theorem gT0 {X Y : Nat → Int} {t : gTri} {p u v : Nat} (hp : gPt t p u v) (h : 0 < gT X Y p u v) : gT X Y t.1 t.2.1 t.2.2 ≠ 0 := by
  obtain ⟨a, b, c⟩ := t
  intro h0
  obtain ⟨e1, e2, e3, e4, e5⟩ := gT_six (X := X) (Y := Y) a b c
  unfold gPt gPm at hp
  dsimp only at h0 hp
  rcases hp with ⟨rfl, rfl, rfl⟩ | ⟨rfl, rfl, rfl⟩ | ⟨rfl, rfl, rfl⟩ | ⟨rfl, rfl, rfl⟩ | ⟨rfl, rfl, rfl⟩ | ⟨rfl, rfl, rfl⟩ <;> omega
set_option maxHeartbeats 2000000 in
theorem gFlip_o {n : Nat} {X Y : Nat → Int} {D D' : gTri → Prop} (h : gInv n X Y D) {t1 t2 n1 n2 : gTri} (d1 : D t1) (d2 : D t2) {p q c d : Nat} (h1 : gPt t1 p q c) (h2 : gPt t2 p q d) (hcd : c ≠ d) (hc : 0 < gT X Y p q c) (hx : gT X Y c d p * gT X Y c d q < 0)
    (m1 : gPt n1 p c d) (m2 : gPt n2 q c d) (o1 : n1.1 < n1.2.1 ∧ n1.2.1 < n1.2.2) (o2 : n2.1 < n2.2.1 ∧ n2.2.1 < n2.2.2) (hD : ∀ t, D' t → (D t ∧ t ≠ t1 ∧ t ≠ t2) ∨ t = n1 ∨ t = n2) : gInv n X Y D' ∧ ¬ D n1 ∧ ¬ D n2 ∧ n1 ≠ n2 := by
  obtain ⟨npq, npc, nqc, lp, lq, lc⟩ := gPt_ne (h.1 t1 d1) h1
  obtain ⟨-, npd, nqd, -, -, ld⟩ := gPt_ne (h.1 t2 d2) h2
  have hd := gInv_side h d1 d2 h1 h2 hcd hc
  have hdf : gT X Y c d p - gT X Y c d q = - (gT X Y p q c - gT X Y p q d) := by unfold gT gC; grind
  obtain ⟨x1, x2⟩ := g_signs hx (by omega)
  have pdc : 0 < gT X Y p d c := by rw [← gT_rot X Y p d c, ← gT_rot X Y d c p, gT_sw X Y c d p]; omega
  have qcd : 0 < gT X Y q c d := by rw [← gT_rot X Y q c d]; exact x2
  have pdq : 0 < gT X Y p d q := by rw [gT_sw X Y p q d]; omega
  have dcp : 0 < gT X Y d c p := by rw [gT_rot]; exact pdc
  have cpd : 0 < gT X Y c p d := by rw [gT_rot]; exact dcp
  have dqc : 0 < gT X Y d q c := by rw [gT_rot]; exact x2
  have dqp : 0 < gT X Y d q p := by rw [gT_rot]; exact pdq
  have qpd : 0 < gT X Y q p d := by rw [gT_rot]; exact dqp
  have qcp : 0 < gT X Y q c p := by rw [gT_rot]; exact hc
  have cpq : 0 < gT X Y c p q := by rw [gT_rot]; exact qcp
  have h2' : gPt t2 p d q := gPt_s h2
  have m1' : gPt n1 p d c := gPt_s m1
  -- an old triangle's sector has nothing in common with a new one's
  have K1 : ∀ T, D T → T ≠ t1 → T ≠ t2 → ∀ (x u v u' v' : Nat) (wx wy : Int), gPt T x u v → gPt n1 x u' v' → 0 < gT X Y x u v → 0 < gT X Y x u' v' → gSec X Y x u v wx wy → gSec X Y x u' v' wx wy → False := by
    intro T dT e1 e2 x u v u' v' wx wy hT hN tT tN sT sN
    rcases gPt_ccw m1' pdc hN tN with ⟨rfl, rfl, rfl⟩ | ⟨rfl, rfl, rfl⟩ | ⟨rfl, rfl, rfl⟩
    · rcases gSec_two (b := q) sN with s | s
      · exact e2 (h.2 T t2 dT d2 _ _ _ _ _ wx wy hT h2' tT pdq sT s)
      · exact e1 (h.2 T t1 dT d1 _ _ _ _ _ wx wy hT h1 tT hc sT s)
    · exact e2 (h.2 T t2 dT d2 _ _ _ _ _ wx wy hT (gPt_r h2') tT dqp sT (gSec_snd dqc dcp dqp sN))
    · exact e1 (h.2 T t1 dT d1 _ _ _ _ _ wx wy hT (gPt_r (gPt_r h1)) tT cpq sT (gSec_fst cpd x2 cpq sN))
  have K2 : ∀ T, D T → T ≠ t1 → T ≠ t2 → ∀ (x u v u' v' : Nat) (wx wy : Int), gPt T x u v → gPt n2 x u' v' → 0 < gT X Y x u v → 0 < gT X Y x u' v' → gSec X Y x u v wx wy → gSec X Y x u' v' wx wy → False := by
    intro T dT e1 e2 x u v u' v' wx wy hT hN tT tN sT sN
    rcases gPt_ccw m2 qcd hN tN with ⟨rfl, rfl, rfl⟩ | ⟨rfl, rfl, rfl⟩ | ⟨rfl, rfl, rfl⟩
    · rcases gSec_two (b := p) sN with s | s
      · exact e1 (h.2 T t1 dT d1 _ _ _ _ _ wx wy hT (gPt_r h1) tT qcp sT s)
      · exact e2 (h.2 T t2 dT d2 _ _ _ _ _ wx wy hT (gPt_r (gPt_r h2')) tT qpd sT s)
    · exact e1 (h.2 T t1 dT d1 _ _ _ _ _ wx wy hT (gPt_r (gPt_r h1)) tT cpq sT (gSec_snd cpd x2 cpq sN))
    · exact e2 (h.2 T t2 dT d2 _ _ _ _ _ wx wy hT (gPt_r h2') tT dqp sT (gSec_fst dqc dcp dqp sN))
  have K3 : ∀ (x u v u' v' : Nat) (wx wy : Int), gPt n1 x u v → gPt n2 x u' v' → 0 < gT X Y x u v → 0 < gT X Y x u' v' → gSec X Y x u v wx wy → gSec X Y x u' v' wx wy → False := by
    intro x u v u' v' wx wy hT hN tT tN sT sN
    rcases gPt_ccw m1' pdc hT tT with ⟨e1, e2, e3⟩ | ⟨e1, e2, e3⟩ | ⟨e1, e2, e3⟩ <;> rcases gPt_ccw m2 qcd hN tN with ⟨g1, g2, g3⟩ | ⟨g1, g2, g3⟩ | ⟨g1, g2, g3⟩
    · omega
    · omega
    · omega
    · omega
    · omega
    · rw [e1, e2, e3] at sT; rw [g1, g2, g3] at sN; exact gSec_dis sN sT
    · omega
    · rw [e1, e2, e3] at sT; rw [g1, g2, g3] at sN; exact gSec_dis sT sN
    · omega
  have nd1 : ¬ D n1 := by
    intro hn
    have e := h.2 n1 t2 hn d2 p d c d q _ _ m1' h2' pdc pdq (gSec_self pdc) (gSec_self pdq)
    subst e
    exact nqc (gPt_third (h.1 n1 hn) h2' m1')
  have nd2 : ¬ D n2 := by
    intro hn
    have e := h.2 n2 t1 hn d1 q c d c p _ _ m2 (gPt_r h1) qcd qcp (gSec_self qcd) (gSec_self qcp)
    subst e
    exact npd (gPt_third (h.1 n2 hn) (gPt_r h1) m2)
  have hne : n1 ≠ n2 := by
    intro e
    subst e
    exact npq (gPt_third (n := n) (X := X) (Y := Y) ⟨o1.1, o1.2, gPt_lt m1 lp lc ld, gT0 m1' pdc⟩ (gPt_r m1) (gPt_r m2))
  have ok1 : gOk n X Y n1 := ⟨o1.1, o1.2, gPt_lt m1 lp lc ld, gT0 m1' pdc⟩
  have ok2 : gOk n X Y n2 := ⟨o2.1, o2.2, gPt_lt m2 lq lc ld, gT0 m2 qcd⟩
  refine ⟨⟨fun t ht => ?_, fun t t' ht ht' x u v u' v' wx wy hT hT' tT tT' sT sT' => ?_⟩, nd1, nd2, hne⟩
  · rcases hD t ht with q | q | q
    · exact h.1 t q.1
    · rw [q]; exact ok1
    · rw [q]; exact ok2
  · rcases hD t ht with q1 | q1 | q1 <;> rcases hD t' ht' with q2 | q2 | q2
    · exact h.2 t t' q1.1 q2.1 x u v u' v' wx wy hT hT' tT tT' sT sT'
    · subst q2; exact (K1 t q1.1 q1.2.1 q1.2.2 x u v u' v' wx wy hT hT' tT tT' sT sT').elim
    · subst q2; exact (K2 t q1.1 q1.2.1 q1.2.2 x u v u' v' wx wy hT hT' tT tT' sT sT').elim
    · subst q1; exact (K1 t' q2.1 q2.2.1 q2.2.2 x u' v' u v wx wy hT' hT tT' tT sT' sT).elim
    · rw [q1, q2]
    · subst q1; subst q2; exact (K3 x u v u' v' wx wy hT hT' tT tT' sT sT').elim
    · subst q1; exact (K2 t' q2.1 q2.2.1 q2.2.2 x u' v' u v wx wy hT' hT tT' tT sT' sT).elim
    · subst q1; subst q2; exact (K3 x u' v' u v wx wy hT' hT tT' tT sT' sT).elim
    · rw [q1, q2]
theorem gFlip {n : Nat} {X Y : Nat → Int} {D D' : gTri → Prop} (h : gInv n X Y D) {t1 t2 n1 n2 : gTri} (d1 : D t1) (d2 : D t2) {p q c d : Nat} (h1 : gPt t1 p q c) (h2 : gPt t2 p q d) (hcd : c ≠ d) (hx : gT X Y c d p * gT X Y c d q < 0)
    (m1 : gPt n1 p c d) (m2 : gPt n2 q c d) (o1 : n1.1 < n1.2.1 ∧ n1.2.1 < n1.2.2) (o2 : n2.1 < n2.2.1 ∧ n2.2.1 < n2.2.2) (hD : ∀ t, D' t → (D t ∧ t ≠ t1 ∧ t ≠ t2) ∨ t = n1 ∨ t = n2) : gInv n X Y D' ∧ ¬ D n1 ∧ ¬ D n2 ∧ n1 ≠ n2 := by
  rcases Int.lt_trichotomy (gT X Y p q c) 0 with k | k | k
  · have k2 : 0 < gT X Y q p c := by rw [gT_sw2]; omega
    have sw : ∀ {t : gTri} {a b e : Nat}, gPt t a b e → gPt t b a e := fun q => gPt_s (gPt_r q)
    obtain ⟨a1, a2, a3, a4⟩ := gFlip_o (D' := D') h d1 d2 (p := q) (q := p) (c := c) (d := d) (sw h1) (sw h2) hcd k2 (by rw [Int.mul_comm]; exact hx) m2 m1 o2 o1 (fun t ht => by
      rcases hD t ht with q | q | q
      · exact Or.inl q
      · exact Or.inr (Or.inr q)
      · exact Or.inr (Or.inl q))
    exact ⟨a1, a3, a2, fun e => a4 e.symm⟩
  · exact absurd k (gOk_T (h.1 t1 d1) h1)
  · exact gFlip_o h d1 d2 h1 h2 hcd k hx m1 m2 o1 o2 hD
