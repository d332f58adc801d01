/-! GEOMETRY over Int: nothing of the machine -/
def gC (ax ay bx b_y : Int) : Int := ax * b_y - ay * bx
def gN (ax ay : Int) : Int := ax * ax + ay * ay
/-- 0, u, v to the left: above 0 if z is within their circle -/
def gG (ux uy vx vy zx zy : Int) : Int := gN ux uy * gC zx zy vx vy + gN vx vy * gC ux uy zx zy - gC ux uy vx vy * gN zx zy
theorem g_sq (x : Int) : 0 ≤ x * x := by
  rcases Int.le_total 0 x with h | h
  · exact Int.mul_nonneg h h
  · exact Int.mul_nonneg_of_nonpos_of_nonpos h h
theorem gN_nn (x y : Int) : 0 ≤ gN x y := by
  unfold gN
  have h1 := g_sq x
  have h2 := g_sq y
  omega
theorem gN_0 {x y : Int} (h : gN x y = 0) : x = 0 ∧ y = 0 := by
  unfold gN at h
  have h1 := g_sq x
  have h2 := g_sq y
  have h3 : x * x = 0 := by omega
  have h4 : y * y = 0 := by omega
  exact ⟨by rcases Int.mul_eq_zero.mp h3 with q | q <;> exact q, by rcases Int.mul_eq_zero.mp h4 with q | q <;> exact q⟩
theorem g_four (ux uy vx vy px py qx qy wx wy : Int) : gC wx wy vx vy * gG px py qx qy ux uy + gC ux uy wx wy * gG px py qx qy vx vy + gC wx wy qx qy * gG ux uy vx vy px py + gC px py wx wy * gG ux uy vx vy qx qy = 0 := by
  unfold gG gC gN
  grind
theorem g_plk (ux uy vx vy px py wx wy : Int) : gC ux uy wx wy * gC px py vx vy = gC ux uy px py * gC wx wy vx vy + gC ux uy vx vy * gC px py wx wy := by
  unfold gC
  grind
theorem g_v (ux uy vx vy px py qx qy : Int) : gG px py qx qy vx vy * gC ux uy px py = gG px py qx qy ux uy * gC vx vy px py - gC px py qx qy * gG ux uy vx vy px py := by
  unfold gG gC gN
  grind
theorem g_swap (ux uy vx vy qx qy : Int) : gG ux uy vx vy qx qy = - gG ux uy qx qy vx vy := by
  unfold gG gC gN
  grind
/-- u and p on one line through 0, each on the other's circle: the same -/
theorem g_par {ux uy vx vy px py qx qy : Int} (c1 : 0 < gC ux uy vx vy) (c2 : 0 < gC px py qx qy) (h : gC ux uy px py = 0) (h1 : gG ux uy vx vy px py = 0) (h2 : gG px py qx qy ux uy = 0) : ux = px ∧ uy = py := by
  have e1 : gC ux uy vx vy * (ux * px + uy * py - gN px py) = 0 := by
    have e : gC ux uy vx vy * (ux * px + uy * py - gN px py) = gG ux uy vx vy px py + gC ux uy px py * ((ux * vx + uy * vy) - gN vx vy) := by
      unfold gG gC gN; grind
    rw [e, h1, h]; omega
  have e2 : gC px py qx qy * (ux * px + uy * py - gN ux uy) = 0 := by
    have e : gC px py qx qy * (ux * px + uy * py - gN ux uy) = gG px py qx qy ux uy + gC ux uy px py * (gN qx qy - (px * qx + py * qy)) := by
      unfold gG gC gN; grind
    rw [e, h2, h]; omega
  have e3 : ux * px + uy * py - gN px py = 0 := by rcases Int.mul_eq_zero.mp e1 with q | q <;> omega
  have e4 : ux * px + uy * py - gN ux uy = 0 := by rcases Int.mul_eq_zero.mp e2 with q | q <;> omega
  have e5 : gN (ux - px) (uy - py) = 0 := by
    have e : gN (ux - px) (uy - py) = gN ux uy + gN px py - 2 * (ux * px + uy * py) := by unfold gN; grind
    omega
  have e6 := gN_0 e5
  omega
theorem g_np {a b : Int} (ha : 0 ≤ a) (hb : b ≤ 0) : a * b ≤ 0 := Int.mul_nonpos_of_nonneg_of_nonpos ha hb
theorem g_pz {a b : Int} (ha : 0 < a) (hb : a * b = 0) : b = 0 := by rcases Int.mul_eq_zero.mp hb with q | q <;> omega
/-- two empty circles through 0 whose sectors have a direction in common are one circle -/
theorem g_sec {ux uy vx vy px py qx qy wx wy : Int} (c1 : 0 < gC ux uy vx vy) (c2 : 0 < gC px py qx qy) (hu : gG px py qx qy ux uy ≤ 0) (hv : gG px py qx qy vx vy ≤ 0) (hp : gG ux uy vx vy px py ≤ 0) (hq : gG ux uy vx vy qx qy ≤ 0)
    (w1 : 0 ≤ gC ux uy wx wy) (w2 : 0 < gC wx wy vx vy) (w3 : 0 ≤ gC px py wx wy) (w4 : 0 < gC wx wy qx qy) : gG px py qx qy ux uy = 0 ∧ gG px py qx qy vx vy = 0 ∧ gG ux uy vx vy px py = 0 ∧ gG ux uy vx vy qx qy = 0 := by
  have h4 := g_four ux uy vx vy px py qx qy wx wy
  have n1 := g_np (Int.le_of_lt w2) hu
  have n2 := g_np w1 hv
  have n3 := g_np (Int.le_of_lt w4) hp
  have n4 := g_np w3 hq
  have z1 : gG px py qx qy ux uy = 0 := g_pz w2 (by omega)
  have z3 : gG ux uy vx vy px py = 0 := g_pz w4 (by omega)
  by_cases hc : gC ux uy px py = 0
  · obtain ⟨e1, e2⟩ := g_par c1 c2 hc z3 z1
    subst e1; subst e2
    have hs := g_swap ux uy vx vy qx qy
    exact ⟨z1, by omega, z3, by omega⟩
  · have hg := g_v ux uy vx vy px py qx qy
    rw [z1, z3] at hg
    have e1 : gG px py qx qy vx vy * gC ux uy px py = 0 := by rw [hg]; omega
    have hg2 := g_v px py qx qy ux uy vx vy
    rw [z1, z3] at hg2
    have e2 : gG ux uy vx vy qx qy * gC px py ux uy = 0 := by rw [hg2]; omega
    have hc2 : gC px py ux uy = - gC ux uy px py := by unfold gC; grind
    exact ⟨z1, by rcases Int.mul_eq_zero.mp e1 with q | q <;> omega, z3, by rcases Int.mul_eq_zero.mp e2 with q | q <;> omega⟩
/-- a place on the circle, strictly in the sector, lies beyond the chord -/
theorem g_beyond {ux uy vx vy zx zy : Int} (c1 : 0 < gC ux uy vx vy) (hz : gG ux uy vx vy zx zy = 0) (h1 : 0 < gC ux uy zx zy) (h2 : 0 < gC zx zy vx vy) : gC ux uy vx vy - gC zx zy vx vy - gC ux uy zx zy < 0 := by
  have e : gC zx zy vx vy * gC ux uy zx zy * gN (ux - vx) (uy - vy) + (gC ux uy vx vy - gC zx zy vx vy - gC ux uy zx zy) * (gC zx zy vx vy * gN ux uy + gC ux uy zx zy * gN vx vy) = gC ux uy vx vy * gG ux uy vx vy zx zy := by
    unfold gG gC gN; grind
  rw [hz, Int.mul_zero] at e
  have hd : 0 < gN (ux - vx) (uy - vy) := by
    rcases Int.lt_or_eq_of_le (gN_nn (ux - vx) (uy - vy)) with q | q
    · exact q
    · obtain ⟨a, b⟩ := gN_0 q.symm
      have e1 : ux = vx := by omega
      have e2 : uy = vy := by omega
      subst e1; subst e2
      unfold gC at c1
      rw [Int.mul_comm uy ux] at c1
      omega
  have hp : 0 < gC zx zy vx vy * gC ux uy zx zy * gN (ux - vx) (uy - vy) := Int.mul_pos (Int.mul_pos h2 h1) hd
  by_cases h : gC ux uy vx vy - gC zx zy vx vy - gC ux uy zx zy < 0
  · exact h
  · have h3 : 0 ≤ gC zx zy vx vy * gN ux uy + gC ux uy zx zy * gN vx vy := Int.add_nonneg (Int.mul_nonneg (Int.le_of_lt h2) (gN_nn _ _)) (Int.mul_nonneg (Int.le_of_lt h1) (gN_nn _ _))
    have h4 := Int.mul_nonneg (Int.not_lt.mp h) h3
    omega
