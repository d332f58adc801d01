/-! the class's Points against integers -/
def cpt (P : Nat) (M : fm_Mem) (n : Nat) (X Y : Nat → Int) : Prop := M P 2 = iI n ∧ n ≤ 20 ∧ ∀ k, k < n → M (P + 2) k = iI (X k) ∧ M (P + 4) k = iI (Y k)
def gbd (n : Nat) (X Y : Nat → Int) : Prop := ∀ k, k < n → (0 ≤ X k ∧ X k ≤ 200) ∧ 0 ≤ Y k ∧ Y k ≤ 200
def gSg (z : Int) : Int := if 0 < z then 1 else if z < 0 then -1 else 0
theorem gSg_r (z : Int) : -1 ≤ gSg z ∧ gSg z ≤ 1 := by unfold gSg; repeat (first | omega | split)
theorem gSg_p (z : Int) : 0 < gSg z ↔ 0 < z := by unfold gSg; repeat (first | omega | split)
theorem gSg_n (z : Int) : gSg z < 0 ↔ z < 0 := by unfold gSg; repeat (first | omega | split)
theorem gSg_0 (z : Int) : gSg z = 0 ↔ z = 0 := by unfold gSg; repeat (first | omega | split)
theorem g_mb {a b : Int} (A B : Int) (h1 : -A ≤ a ∧ a ≤ A) (h2 : -B ≤ b ∧ b ≤ B) : -(A * B) ≤ a * b ∧ a * b ≤ A * B := by
  have m1 := Int.mul_nonneg (show 0 ≤ A - a by omega) (show 0 ≤ B - b by omega)
  have m2 := Int.mul_nonneg (show 0 ≤ A + a by omega) (show 0 ≤ B + b by omega)
  have m3 := Int.mul_nonneg (show 0 ≤ A - a by omega) (show 0 ≤ B + b by omega)
  have m4 := Int.mul_nonneg (show 0 ≤ A + a by omega) (show 0 ≤ B - b by omega)
  have e1 : (A - a) * (B - b) = A * B - A * b - a * B + a * b := by grind
  have e2 : (A + a) * (B + b) = A * B + A * b + a * B + a * b := by grind
  have e3 : (A - a) * (B + b) = A * B + A * b - a * B - a * b := by grind
  have e4 : (A + a) * (B - b) = A * B - A * b + a * B - a * b := by grind
  omega
section CP
variable {P n : Nat} {M : fm_Mem} {X Y : Nat → Int}
theorem k_gx (h : cpt P M n X Y) {k : Nat} (hk : k < n) : f_X4_get (P + 1) 20 (iI k) M = some (iI (X k)) := (k_get (by have := h.2.1; omega) (by omega)).trans (congrArg some (h.2.2 k hk).1)
theorem k_gy (h : cpt P M n X Y) {k : Nat} (hk : k < n) : f_X4_get (P + 3) 20 (iI k) M = some (iI (Y k)) := (k_get (by have := h.2.1; omega) (by omega)).trans (congrArg some (h.2.2 k hk).2)
theorem k_size (h : cpt P M n X Y) : f_X3_size P M = some (iI n) := congrArg some h.1
theorem k_x (h : cpt P M n X Y) {k : Nat} (hk : k < n) : f_X3_x P (iI k) M = some (iI (X k)) := by
  unfold f_X3_x; rw [k_gx h hk]; rfl
theorem k_y (h : cpt P M n X Y) {k : Nat} (hk : k < n) : f_X3_y P (iI k) M = some (iI (Y k)) := by
  unfold f_X3_y; rw [k_gy h hk]; rfl
theorem k_turn (h : cpt P M n X Y) {p q r : Nat} (hp : p < n) (hq : q < n) (hr : r < n) : f_X3_turn P (iI p) (iI q) (iI r) M = some (iI (gT X Y p q r)) := by
  simp only [f_X3_turn, f_X3_cross, k_gx h hp, k_gy h hp, k_gx h hq, k_gy h hq, k_gx h hr, k_gy h hr, bd_s, iI_sub, iI_mul]
  rfl
theorem k_turnTo (h : cpt P M n X Y) {p q : Nat} (hp : p < n) (hq : q < n) (x y : Int) : f_X3_turnTo P (iI p) (iI q) (iI x) (iI y) M = some (iI (gC (X q - X p) (Y q - Y p) (x - X p) (y - Y p))) := by
  simp only [f_X3_turnTo, f_X3_cross, k_gx h hp, k_gy h hp, k_gx h hq, k_gy h hq, bd_s, iI_sub, iI_mul]
  rfl
theorem k_dist (h : cpt P M n X Y) {p q : Nat} (hp : p < n) (hq : q < n) : f_X3_distance P (iI p) (iI q) M = some (iI (gN (X p - X q) (Y p - Y q))) := by
  simp only [f_X3_distance, k_gx h hp, k_gy h hp, k_gx h hq, k_gy h hq, bd_s, iI_sub, iI_mul, iI_add]
  rfl
theorem k_sign {z : Int} (hz : -9223372036854775808 ≤ z ∧ z ≤ 9223372036854775807) : f_X6_sign (iL z) M = some (iI (gSg z)) := by
  unfold f_X6_sign f_X6_sign_21 gSg
  simp (disch := omega) only [lg_cmp_le, lg_cmp_ge, iL_0, iL_le]
  by_cases h1 : 0 < z
  · rw [if_neg (by omega), if_pos h1]; rfl
  · rw [if_pos (by omega), if_neg h1]
    by_cases h2 : z < 0
    · rw [if_neg (by omega), if_pos h2]; rfl
    · rw [if_pos (by omega), if_neg h2]; rfl
theorem gI_bd (hb : gbd n X Y) {a b c : Nat} (ha : a < n) (hb' : b < n) (hc : c < n) {x y : Int} (hx : -1000 ≤ x ∧ x ≤ 1000) (hy : -1000 ≤ y ∧ y ≤ 1000) : -9223372036854775808 ≤ gI X Y a b c x y ∧ gI X Y a b c x y ≤ 9223372036854775807 := by
  have b1 := hb a ha
  have b2 := hb b hb'
  have b3 := hb c hc
  unfold gI
  have hT : -80000 ≤ gT X Y a b c ∧ gT X Y a b c ≤ 80000 := by
    unfold gT gC
    have m1 := g_mb (a := X b - X a) (b := Y c - Y a) 200 200 (by omega) (by omega)
    have m2 := g_mb (a := Y b - Y a) (b := X c - X a) 200 200 (by omega) (by omega)
    omega
  have hN : ∀ {u v : Int}, -1200 ≤ u ∧ u ≤ 1200 → -1200 ≤ v ∧ v ≤ 1200 → -2880000 ≤ gN u v ∧ gN u v ≤ 2880000 := by
    intro u v hu hv
    unfold gN
    have m1 := g_mb (a := u) (b := u) 1200 1200 (by omega) (by omega)
    have m2 := g_mb (a := v) (b := v) 1200 1200 (by omega) (by omega)
    omega
  have hC : ∀ {u v w z : Int}, -1200 ≤ u ∧ u ≤ 1200 → -1200 ≤ v ∧ v ≤ 1200 → -1200 ≤ w ∧ w ≤ 1200 → -1200 ≤ z ∧ z ≤ 1200 → -2880000 ≤ gC u v w z ∧ gC u v w z ≤ 2880000 := by
    intro u v w z hu hv hw hz
    unfold gC
    have m1 := g_mb (a := u) (b := z) 1200 1200 (by omega) (by omega)
    have m2 := g_mb (a := v) (b := w) 1200 1200 (by omega) (by omega)
    omega
  have hD : -24883200000000 ≤ gDt (X a - x) (Y a - y) (X b - x) (Y b - y) (X c - x) (Y c - y) ∧ gDt (X a - x) (Y a - y) (X b - x) (Y b - y) (X c - x) (Y c - y) ≤ 24883200000000 := by
    unfold gDt
    have n1 := hN (u := X a - x) (v := Y a - y) (by omega) (by omega)
    have n2 := hN (u := X b - x) (v := Y b - y) (by omega) (by omega)
    have n3 := hN (u := X c - x) (v := Y c - y) (by omega) (by omega)
    have c1 := hC (u := X b - x) (v := Y b - y) (w := X c - x) (z := Y c - y) (by omega) (by omega) (by omega) (by omega)
    have c2 := hC (u := X a - x) (v := Y a - y) (w := X c - x) (z := Y c - y) (by omega) (by omega) (by omega) (by omega)
    have c3 := hC (u := X a - x) (v := Y a - y) (w := X b - x) (z := Y b - y) (by omega) (by omega) (by omega) (by omega)
    have m1 := g_mb 2880000 2880000 n1 c1
    have m2 := g_mb 2880000 2880000 n2 c2
    have m3 := g_mb 2880000 2880000 n3 c3
    omega
  have := g_mb 24883200000000 80000 hD hT
  omega
theorem k_circle (h : cpt P M n X Y) (hb : gbd n X Y) {a b c : Nat} (ha : a < n) (hb' : b < n) (hc : c < n) {x y : Int} (hx : -1000 ≤ x ∧ x ≤ 1000) (hy : -1000 ≤ y ∧ y ≤ 1000) : f_X3_circleSide P (iI a) (iI b) (iI c) (iI x) (iI y) M = some (iI (gSg (gI X Y a b c x y))) := by
  have b1 := hb a ha
  have b2 := hb b hb'
  have b3 := hb c hc
  have hz := gI_bd hb ha hb' hc hx hy
  simp only [f_X3_circleSide, k_gx h ha, k_gy h ha, k_gx h hb', k_gy h hb', k_gx h hc, k_gy h hc, bd_s, iI_sub]
  rw [iL_i (a := X a - x) (by omega), iL_i (a := Y a - y) (by omega), iL_i (a := X b - x) (by omega), iL_i (a := Y b - y) (by omega), iL_i (a := X c - x) (by omega), iL_i (a := Y c - y) (by omega)]
  simp only [iL_sub, iL_mul, iL_add]
  have e : gI X Y a b c x y = gI X Y a b c x y := rfl
  conv at e => lhs; unfold gI gT gC; rw [show X b - X a = X b - x - (X a - x) by omega, show Y c - Y a = Y c - y - (Y a - y) by omega, show Y b - Y a = Y b - y - (Y a - y) by omega, show X c - X a = X c - x - (X a - x) by omega]; unfold gDt gN gC
  rw [e, k_sign hz]
  rfl
end CP
