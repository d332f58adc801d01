/-! points by index: X, Y; triangles; the due ones -/
def gT (X Y : Nat → Int) (a b c : Nat) : Int := gC (X b - X a) (Y b - Y a) (X c - X a) (Y c - Y a)
def gDt (ax ay bx b_y cx cy : Int) : Int := gN ax ay * gC bx b_y cx cy - gN bx b_y * gC ax ay cx cy + gN cx cy * gC ax ay bx b_y
/-- above 0 within the circle, 0 on it, below 0 outside -/
def gI (X Y : Nat → Int) (a b c : Nat) (dx dy : Int) : Int := gDt (X a - dx) (Y a - dy) (X b - dx) (Y b - dy) (X c - dx) (Y c - dy) * gT X Y a b c
/-- the corner p of a triangle, its sides u, v: z's place by the circle -/
def gP (X Y : Nat → Int) (p u v z : Nat) : Int := gG (X u - X p) (Y u - Y p) (X v - X p) (Y v - Y p) (X z - X p) (Y z - Y p)
theorem gI_P (X Y : Nat → Int) (p u v z : Nat) : gI X Y p u v (X z) (Y z) = gP X Y p u v z * gT X Y p u v := by
  unfold gI gP gT gDt gG gC gN
  generalize X p = a1; generalize Y p = a2; generalize X u = b1; generalize Y u = b2; generalize X v = c1; generalize Y v = c2; generalize X z = d1; generalize Y z = d2
  have e : ((a1 - d1) * (a1 - d1) + (a2 - d2) * (a2 - d2)) * ((b1 - d1) * (c2 - d2) - (b2 - d2) * (c1 - d1)) - ((b1 - d1) * (b1 - d1) + (b2 - d2) * (b2 - d2)) * ((a1 - d1) * (c2 - d2) - (a2 - d2) * (c1 - d1)) + ((c1 - d1) * (c1 - d1) + (c2 - d2) * (c2 - d2)) * ((a1 - d1) * (b2 - d2) - (a2 - d2) * (b1 - d1)) = ((b1 - a1) * (b1 - a1) + (b2 - a2) * (b2 - a2)) * ((d1 - a1) * (c2 - a2) - (d2 - a2) * (c1 - a1)) + ((c1 - a1) * (c1 - a1) + (c2 - a2) * (c2 - a2)) * ((b1 - a1) * (d2 - a2) - (b2 - a2) * (d1 - a1)) - ((b1 - a1) * (c2 - a2) - (b2 - a2) * (c1 - a1)) * ((d1 - a1) * (d1 - a1) + (d2 - a2) * (d2 - a2)) := by grind
  rw [e]
theorem gT_rot (X Y : Nat → Int) (a b c : Nat) : gT X Y b c a = gT X Y a b c := by unfold gT gC; grind
theorem gT_sw (X Y : Nat → Int) (a b c : Nat) : gT X Y a c b = - gT X Y a b c := by unfold gT gC; grind
theorem gT_sw2 (X Y : Nat → Int) (a b c : Nat) : gT X Y b a c = - gT X Y a b c := by unfold gT gC; grind
theorem gDt_rot (a1 a2 b1 b2 c1 c2 : Int) : gDt b1 b2 c1 c2 a1 a2 = gDt a1 a2 b1 b2 c1 c2 := by unfold gDt gN gC; grind
theorem gDt_sw (a1 a2 b1 b2 c1 c2 : Int) : gDt a1 a2 c1 c2 b1 b2 = - gDt a1 a2 b1 b2 c1 c2 := by unfold gDt gN gC; grind
theorem gI_rot (X Y : Nat → Int) (a b c : Nat) (dx dy : Int) : gI X Y b c a dx dy = gI X Y a b c dx dy := by unfold gI; rw [gDt_rot, gT_rot]
theorem gI_sw (X Y : Nat → Int) (a b c : Nat) (dx dy : Int) : gI X Y a c b dx dy = gI X Y a b c dx dy := by unfold gI; rw [gDt_sw, gT_sw, Int.neg_mul_neg]
/-- (p, u, v) are a, b, c in some order -/
def gPm (a b c p u v : Nat) : Prop := (p = a ∧ u = b ∧ v = c) ∨ (p = b ∧ u = c ∧ v = a) ∨ (p = c ∧ u = a ∧ v = b) ∨ (p = a ∧ u = c ∧ v = b) ∨ (p = c ∧ u = b ∧ v = a) ∨ (p = b ∧ u = a ∧ v = c)
theorem gI_pm {X Y : Nat → Int} {a b c p u v : Nat} (h : gPm a b c p u v) (dx dy : Int) : gI X Y p u v dx dy = gI X Y a b c dx dy := by
  rcases h with ⟨rfl, rfl, rfl⟩ | ⟨rfl, rfl, rfl⟩ | ⟨rfl, rfl, rfl⟩ | ⟨rfl, rfl, rfl⟩ | ⟨rfl, rfl, rfl⟩ | ⟨rfl, rfl, rfl⟩
  · rfl
  · exact gI_rot X Y _ _ _ dx dy
  · rw [gI_rot, gI_rot]
  · exact gI_sw X Y _ _ _ dx dy
  · rw [gI_sw, gI_rot, gI_rot]
  · rw [gI_sw, gI_rot]
/-- a due triangle -/
def gDue (n : Nat) (X Y : Nat → Int) (a b c : Nat) : Prop := a < b ∧ b < c ∧ c < n ∧ gT X Y a b c ≠ 0 ∧ ∀ d, d < n → d ≠ a → d ≠ b → d ≠ c → gI X Y a b c (X d) (Y d) ≤ 0 ∧ (gI X Y a b c (X d) (Y d) = 0 → a < d ∧ 0 < gT X Y b c d * gT X Y b c a)
theorem gP_self (X Y : Nat → Int) (p u v : Nat) : gP X Y p u v p = 0 ∧ gP X Y p u v u = 0 ∧ gP X Y p u v v = 0 := by
  unfold gP gG gC gN
  refine ⟨by grind, by grind, by grind⟩
theorem gDue_P {n : Nat} {X Y : Nat → Int} {a b c p u v z : Nat} (h : gDue n X Y a b c) (hp : gPm a b c p u v) (ht : 0 < gT X Y p u v) (hz : z < n) : gP X Y p u v z ≤ 0 := by
  have hs := gP_self X Y p u v
  by_cases h1 : z = p
  · subst h1; omega
  · by_cases h2 : z = u
    · subst h2; omega
    · by_cases h3 : z = v
      · subst h3; omega
      · have hne : z ≠ a ∧ z ≠ b ∧ z ≠ c := by
          rcases hp with ⟨rfl, rfl, rfl⟩ | ⟨rfl, rfl, rfl⟩ | ⟨rfl, rfl, rfl⟩ | ⟨rfl, rfl, rfl⟩ | ⟨rfl, rfl, rfl⟩ | ⟨rfl, rfl, rfl⟩ <;> exact ⟨by assumption, by assumption, by assumption⟩
        have h4 := (h.2.2.2.2 z hz hne.1 hne.2.1 hne.2.2).1
        rw [← gI_pm hp, gI_P] at h4
        by_cases h5 : gP X Y p u v z ≤ 0
        · exact h5
        · have h6 := Int.mul_pos (Int.not_le.mp h5) ht
          omega
theorem gDue_on {n : Nat} {X Y : Nat → Int} {a b c p u v z : Nat} (h : gDue n X Y a b c) (hp : gPm a b c p u v) (hz : z < n) (h0 : gP X Y p u v z = 0) : a ≤ z ∧ (z ≠ a → z ≠ b → z ≠ c → 0 < gT X Y b c z * gT X Y b c a) := by
  have hI : gI X Y a b c (X z) (Y z) = 0 := by rw [← gI_pm hp, gI_P, h0, Int.zero_mul]
  refine ⟨?_, fun h1 h2 h3 => ((h.2.2.2.2 z hz h1 h2 h3).2 hI).2⟩
  by_cases h1 : z = a
  · omega
  · by_cases h2 : z = b
    · have := h.1; omega
    · by_cases h3 : z = c
      · have := h.1; have := h.2.1; omega
      · exact Nat.le_of_lt ((h.2.2.2.2 z hz h1 h2 h3).2 hI).1
/-- the direction w lies in the corner of p, from u on, before v -/
def gSec (X Y : Nat → Int) (p u v : Nat) (wx wy : Int) : Prop := 0 ≤ gC (X u - X p) (Y u - Y p) wx wy ∧ 0 < gC wx wy (X v - X p) (Y v - Y p)
theorem g_dist (n : Nat) (X Y : Nat → Int) (hd : ∀ i j, i < n → j < n → X i = X j → Y i = Y j → i = j) {p u v : Nat} (hu : u < n) (hv : v < n) (h : X u - X p = X v - X p ∧ Y u - Y p = Y v - Y p) : u = v := hd u v hu hv (by omega) (by omega)
/-- sectors with a common direction: the later start lies in the earlier sector -/
theorem g_half {ux uy vx vy px py qx qy wx wy : Int} (c1 : 0 < gC ux uy vx vy) (c2 : 0 < gC px py qx qy) (w1 : 0 ≤ gC ux uy wx wy) (w2 : 0 < gC wx wy vx vy) (w3 : 0 ≤ gC px py wx wy) (w4 : 0 < gC wx wy qx qy) (hc : 0 < gC ux uy px py) : 0 < gC px py vx vy := by
  have h := g_plk ux uy vx vy px py wx wy
  have h1 := Int.mul_pos hc w2
  have h2 := Int.mul_nonneg (Int.le_of_lt c1) w3
  by_cases h3 : 0 < gC px py vx vy
  · exact h3
  · have h4 := g_np w1 (Int.not_lt.mp h3)
    omega
theorem gT_chord (X Y : Nat → Int) (p u v z : Nat) : gT X Y u v z = gC (X u - X p) (Y u - Y p) (X v - X p) (Y v - Y p) - gC (X z - X p) (Y z - Y p) (X v - X p) (Y v - Y p) - gC (X u - X p) (Y u - Y p) (X z - X p) (Y z - Y p) := by
  unfold gT gC; grind
theorem g_pos_of_mul {a b : Int} (h : 0 < a * b) (hb : 0 < b) : 0 < a := by
  by_cases h1 : 0 < a
  · exact h1
  · have h2 := Int.mul_nonpos_of_nonpos_of_nonneg (Int.not_lt.mp h1) (Int.le_of_lt hb)
    omega
/-- the same for lines through 0, also turned to the right -/
theorem g_par2 {ux uy vx vy px py qx qy : Int} (c1 : 0 < gC ux uy vx vy) (c2 : 0 < gC px py qx qy) (h : gC vx vy qx qy = 0) (h1 : gG ux uy vx vy qx qy = 0) (h2 : gG px py qx qy vx vy = 0) : vx = qx ∧ vy = qy := by
  have e1 : gC ux uy vx vy * (vx * qx + vy * qy - gN qx qy) = 0 := by
    have e : gC ux uy vx vy * (vx * qx + vy * qy - gN qx qy) = gG ux uy vx vy qx qy - gC vx vy qx qy * (gN ux uy - (ux * vx + uy * vy)) * (-1) * 0 + gC vx vy qx qy * (gN ux uy - (ux * vx + uy * vy)) := by
      unfold gG gC gN; grind
    rw [e, h1, h]; omega
  have e2 : gC px py qx qy * (vx * qx + vy * qy - gN vx vy) = 0 := by
    have e : gC px py qx qy * (vx * qx + vy * qy - gN vx vy) = gG px py qx qy vx vy - gC vx vy qx qy * (gN px py - (px * qx + py * qy)) := by
      unfold gG gC gN; grind
    rw [e, h2, h]; omega
  have e3 : vx * qx + vy * qy - gN qx qy = 0 := by rcases Int.mul_eq_zero.mp e1 with q | q <;> omega
  have e4 : vx * qx + vy * qy - gN vx vy = 0 := by rcases Int.mul_eq_zero.mp e2 with q | q <;> omega
  have e5 : gN (vx - qx) (vy - qy) = 0 := by
    have e : gN (vx - qx) (vy - qy) = gN vx vy + gN qx qy - 2 * (vx * qx + vy * qy) := by unfold gN; grind
    omega
  have e6 := gN_0 e5
  omega
theorem gPm_lt {n a b c p u v : Nat} (ha : a < b) (hb : b < c) (hc : c < n) (h : gPm a b c p u v) : p < n ∧ u < n ∧ v < n ∧ p ≠ u ∧ p ≠ v ∧ u ≠ v ∧ a ≤ p ∧ a ≤ u ∧ a ≤ v ∧ (p = a ∨ u = a ∨ v = a) := by
  unfold gPm at h
  omega
theorem g_mul_sw {X Y : Nat → Int} {b c z a : Nat} (h : 0 < gT X Y b c z * gT X Y b c a) : 0 < gT X Y c b z * gT X Y c b a := by
  rw [gT_sw2 X Y b c z, gT_sw2 X Y b c a, Int.neg_mul_neg]
  exact h
/-- at the smallest point: what is on the circle doesn't lie in the corner -/
theorem gDue_nb {n : Nat} {X Y : Nat → Int} {a b c u v z : Nat} (h : gDue n X Y a b c) (hp : gPm a b c a u v) (ht : 0 < gT X Y a u v) (hz : z < n) (h0 : gP X Y a u v z = 0) (n1 : z ≠ a) (n2 : z ≠ u) (n3 : z ≠ v) (q1 : 0 < gC (X u - X a) (Y u - Y a) (X z - X a) (Y z - Y a)) (q2 : 0 < gC (X z - X a) (Y z - Y a) (X v - X a) (Y v - Y a)) : False := by
  have hb := g_beyond ht h0 q1 q2
  rw [← gT_chord] at hb
  have hr : gT X Y u v a = gT X Y a u v := gT_rot X Y a u v
  have hab := h.1
  have hbc := h.2.1
  have hs : 0 < gT X Y u v z * gT X Y u v a := by
    have h1 := (gDue_on h hp hz h0).2
    have hc : (u = b ∧ v = c) ∨ (u = c ∧ v = b) := by unfold gPm at hp; omega
    rcases hc with ⟨rfl, rfl⟩ | ⟨rfl, rfl⟩
    · exact h1 n1 n2 n3
    · exact g_mul_sw (h1 n1 n3 n2)
  rw [hr] at hs
  have := g_pos_of_mul hs ht
  omega
/-- at another point of it: q the third one -/
theorem gDue_side {n : Nat} {X Y : Nat → Int} {a b c p u v q z : Nat} (h : gDue n X Y a b c) (hp : gPm a b c p u v) (hq : (u = a ∧ v = q) ∨ (v = a ∧ u = q)) (hpa : p ≠ a) (hz : z < n) (h0 : gP X Y p u v z = 0) (n1 : z ≠ p) (n2 : z ≠ u) (n3 : z ≠ v) : 0 < gT X Y p q z * gT X Y p q a := by
  have h1 := (gDue_on h hp hz h0).2
  have hab := h.1
  have hbc := h.2.1
  have hc : (p = b ∧ q = c) ∨ (p = c ∧ q = b) := by unfold gPm at hp; omega
  have hne : z ≠ a ∧ z ≠ b ∧ z ≠ c := by unfold gPm at hp; omega
  rcases hc with ⟨rfl, rfl⟩ | ⟨rfl, rfl⟩
  · exact h1 hne.1 hne.2.1 hne.2.2
  · exact g_mul_sw (h1 hne.1 hne.2.1 hne.2.2)
theorem gC_sw (a b c d : Int) : gC c d a b = - gC a b c d := by unfold gC; grind
theorem gC_self (a b : Int) : gC a b a b = 0 := by unfold gC; grind
set_option maxHeartbeats 1000000 in
/-- due triangles whose corners at p have a direction in common are one -/
theorem gDue_one {n : Nat} {X Y : Nat → Int} (hd : ∀ i j, i < n → j < n → X i = X j → Y i = Y j → i = j) {a b c a' b' c' p u v u' v' : Nat} (h : gDue n X Y a b c) (h' : gDue n X Y a' b' c') (hp : gPm a b c p u v) (hp' : gPm a' b' c' p u' v') (t1 : 0 < gT X Y p u v) (t2 : 0 < gT X Y p u' v')
    {wx wy : Int} (s1 : gSec X Y p u v wx wy) (s2 : gSec X Y p u' v' wx wy) : u = u' ∧ v = v' := by
  obtain ⟨lp, lu, lv, npu, npv, nuv, ap, au, av, ain⟩ := gPm_lt h.1 h.2.1 h.2.2.1 hp
  obtain ⟨lp', lu', lv', npu', npv', nuv', ap', au', av', ain'⟩ := gPm_lt h'.1 h'.2.1 h'.2.2.1 hp'
  obtain ⟨z1, z2, z3, z4⟩ := g_sec t1 t2 (gDue_P h' hp' t2 lu) (gDue_P h' hp' t2 lv) (gDue_P h hp t1 lu') (gDue_P h hp t1 lv') s1.1 s1.2 s2.1 s2.2
  have b1 := (gDue_on h' hp' lu z1).1
  have b2 := (gDue_on h' hp' lv z2).1
  have b3 := (gDue_on h hp lu' z3).1
  have b4 := (gDue_on h hp lv' z4).1
  have haa : a = a' := by omega
  subst haa
  by_cases hpa : p = a
  · subst hpa
    have hu : u = u' := by
      rcases Int.lt_trichotomy (gC (X u - X p) (Y u - Y p) (X u' - X p) (Y u' - Y p)) 0 with hD | hD | hD
      · exfalso
        have hD2 : 0 < gC (X u' - X p) (Y u' - Y p) (X u - X p) (Y u - Y p) := by rw [gC_sw]; omega
        have hh := g_half t2 t1 s2.1 s2.2 s1.1 s1.2 hD2
        refine gDue_nb h' hp' t2 lu z1 (fun q => npu q.symm) (fun q => ?_) (fun q => ?_) hD2 hh
        · rw [q, gC_self] at hD2; omega
        · rw [q, gC_self] at hh; omega
      · exact g_dist n X Y hd lu lu' (g_par t1 t2 hD z3 z1)
      · exfalso
        have hh := g_half t1 t2 s1.1 s1.2 s2.1 s2.2 hD
        refine gDue_nb h hp t1 lu' z3 (fun q => npu' q.symm) (fun q => ?_) (fun q => ?_) hD hh
        · rw [q, gC_self] at hD; omega
        · rw [q, gC_self] at hh; omega
    subst hu
    refine ⟨rfl, ?_⟩
    rcases Int.lt_trichotomy (gC (X v - X p) (Y v - Y p) (X v' - X p) (Y v' - Y p)) 0 with hE | hE | hE
    · exfalso
      have hE2 : 0 < gC (X v' - X p) (Y v' - Y p) (X v - X p) (Y v - Y p) := by rw [gC_sw]; omega
      refine gDue_nb h hp t1 lv' z4 (fun q => npv' q.symm) (fun q => nuv' q.symm) (fun q => ?_) t2 hE2
      rw [q, gC_self] at hE2; omega
    · exact g_dist n X Y hd lv lv' (g_par2 t1 t2 hE z4 z2)
    · exfalso
      refine gDue_nb h' hp' t2 lv z2 (fun q => npv q.symm) (fun q => nuv q.symm) (fun q => ?_) t1 hE
      rw [q, gC_self] at hE; omega
  · have hua : u = a ∨ v = a := by omega
    have hua' : u' = a ∨ v' = a := by omega
    rcases hua with q1 | q1 <;> rcases hua' with q2 | q2
    · subst q1
      refine ⟨q2.symm, ?_⟩
      by_cases hv : v = v'
      · exact hv
      · exfalso
        subst q2
        have k1 := gDue_side h hp (Or.inl ⟨rfl, rfl⟩) hpa lv' z4 (fun q => npv' q.symm) (fun q => nuv' q.symm) (fun q => hv q.symm)
        have k2 := gDue_side h' hp' (Or.inl ⟨rfl, rfl⟩) hpa lv z2 (fun q => npv q.symm) (fun q => nuv q.symm) hv
        rw [gT_sw X Y p u' v, Int.mul_neg] at k1
        rw [gT_sw X Y p u' v', Int.mul_neg] at k2
        have e1 : 0 < - gT X Y p v v' := by
          rw [← Int.neg_mul] at k1
          exact g_pos_of_mul k1 t1
        have e2 : 0 < - gT X Y p v' v := by
          rw [← Int.neg_mul] at k2
          exact g_pos_of_mul k2 t2
        rw [gT_sw X Y p v v'] at e2
        omega
    · exfalso
      have k1 := s1.1
      have k2 := s2.2
      rw [q1] at k1; rw [q2, gC_sw] at k2
      omega
    · exfalso
      have k1 := s1.2
      have k2 := s2.1
      rw [q2] at k2; rw [q1, gC_sw] at k1
      omega
    · subst q1
      refine ⟨?_, q2.symm⟩
      by_cases hv : u = u'
      · exact hv
      · exfalso
        subst q2
        have k1 := gDue_side h hp (Or.inr ⟨rfl, rfl⟩) hpa lu' z3 (fun q => npu' q.symm) (fun q => hv q.symm) nuv'
        have k2 := gDue_side h' hp' (Or.inr ⟨rfl, rfl⟩) hpa lu z1 (fun q => npu q.symm) hv nuv
        have e1 := g_pos_of_mul k1 t1
        have e2 := g_pos_of_mul k2 t2
        rw [gT_sw X Y p u u'] at e2
        omega
