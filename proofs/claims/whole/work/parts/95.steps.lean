section
/-! WHAT A STEP OF THE LAW KNOWS of each call, printed by wip/whole/calls.py -/
/-- behind a wrapper: it answers K, out[0] is o1; the reference answers r2.1 and says that K is thrown -/
def lwS (g : fm_G) (l : Launch) (z : fm_Y) (hh : List (Nat × Nat × Nat × Nat)) (av : List Value) (μ : fm_St) (rf : fm_Mem → Option (Int32 × fm_Mem)) (k : Nat) : Prop :=
  ∃ (K : Int32) (M1 : fm_Mem) (o1 : Int64) (r2 : Int32 × fm_Mem), wC g l z hh av μ K (M1, o1, μ.2.2) ∧ rf M1 = some r2 ∧ r2.2 (g.1 + 170) 0 = K ∧ (K = 0 → o1 = r2.1.toInt64) ∧ wA g.1 r2.2 (k + 1)
def lwD (g : fm_G) (l : Launch) (z : fm_Y) (hh : List (Nat × Nat × Nat × Nat)) (av : List Value) (μ : fm_St) (rf : fm_Mem → Option (UInt64 × fm_Mem)) (k : Nat) : Prop :=
  ∃ (K : Int32) (M1 : fm_Mem) (o2 : UInt64) (r2 : UInt64 × fm_Mem), wC g l z hh av μ K (M1, μ.2.1, o2) ∧ rf M1 = some r2 ∧ r2.2 (g.1 + 170) 0 = K ∧ (K = 0 → o2 = r2.1 ∧ fm_f64 r2.1 = true) ∧ wA g.1 r2.2 (k + 1)
/-- a call that never throws: both answer the same -/
def lnS {τ : Type} (g : fm_G) (l : Launch) (y : fm_Y) (As : List Value) (μ : fm_St) (vl : τ → Value) (rf : fm_Mem → Option (τ × fm_Mem)) (k : Nat) : Prop :=
  ∃ (x : τ) (M1 : fm_Mem) (r2 : τ × fm_Mem), fC g l y (.ref g.1 :: As) μ (.inr (some (vl x)), (M1, μ.2)) ∧ rf M1 = some r2 ∧ r2.1 = x ∧ wA g.1 r2.2 (k + 1)
theorem wA_q {A k : Nat} {M M' : fm_Mem} {s : gPl} {h : Nat → gPl} {c u v : Nat} (hw : wI A M s h c u v) (hT : wT A M) (hB : wB A M) (hc : c ≤ k) (f : frQ (A + 170) M M') (hk : rKs (A + 170) M' v s u) : wA A M' (k + 1) := ⟨⟨s, h, c, u, v, by omega, wI_q hw f hk⟩, wT_W hT (frW_Q f), wB_W hB (frW_Q f)⟩
theorem beq_0 {e k : Nat} (h : Nat.beq e k = true) : e = k := Nat.eq_of_beq_eq_true h
section LS
variable {g : fm_G} {l : Launch} {μ : fm_St} {k : Nat}
theorem ls_load (hl : l.stackTraces = false) (hk6 : k < 600) (hw : wA g.1 μ.1 k) (a : Int32) : lwS g l z_L_load hh_load [.ref g.1, .int a, .ref (g.1 + 177)] μ (fun M1 => f_X7_load (g.1 + 170) a M1) k := by
  obtain ⟨⟨s, h, c0, u, v, hc, hw⟩, hT, hB⟩ := hw
  rcases q_load hw hT hB hc hk6 a with ⟨e, r, h1, h2, h3, h4, h5, h6⟩ | ⟨x, M1, r, h1, h2, h3, h4, h5, h6, h7⟩
  · have t := th_load e h1
    have t2 : e = 0 := beq_0 t
    subst t2
    exact ⟨1, μ.1, μ.2.1, r, wt_load_0 hl a (c_X6_load g l hl g.1 a (kd6 g) μ.1 μ.2 _ h1), h2, h3, fun z => absurd z (by decide), wA_le ⟨h4, h5, h6⟩ (Nat.le_succ k)⟩
  · exact ⟨0, M1, x.toInt64, r, wo_load a (c_X6_load g l hl g.1 a (kd6 g) μ.1 μ.2 _ h1), h2, h3, fun _ => by rw [h4], ⟨h5, h6, h7⟩⟩
theorem ls_state (hl : l.stackTraces = false) (hw : wA g.1 μ.1 k) (a : Int32) : lwS g l z_L_state hh_state [.ref g.1, .int a, .ref (g.1 + 177)] μ (fun M1 => f_X7_state (g.1 + 170) a M1) k := by
  obtain ⟨⟨s, h, c0, u, v, hc, hw⟩, hT, hB⟩ := hw
  obtain ⟨o, r, h1, h2, h3, h4, h5⟩ := q_state hw.1 hw.2.2.2.1.1 hw.2.2.2.2.1 a
  have hA := wA_q hw hT hB hc h4 h5
  cases o with
  | inl e =>
    have t := th_state e h1
    have t2 : e = 0 := beq_0 t
    subst t2
    exact ⟨1, μ.1, μ.2.1, r, wt_state_0 hl a (c_X6_state g l hl g.1 a (kd6 g) μ.1 μ.2 _ h1), h2, h3, fun z => absurd z (by decide), hA⟩
  | inr x =>
    exact ⟨0, μ.1, x.toInt64, r, wo_state a (c_X6_state g l hl g.1 a (kd6 g) μ.1 μ.2 _ h1), h2, h3.1, fun _ => by rw [h3.2], hA⟩
theorem ls_point (hl : l.stackTraces = false) (hw : wA g.1 μ.1 k) (a b : Int32) : lwS g l z_L_point hh_point [.ref g.1, .int a, .int b, .ref (g.1 + 177)] μ (fun M1 => f_X7_point (g.1 + 170) a b M1) k := by
  obtain ⟨⟨s, h, c0, u, v, hc, hw⟩, hT, hB⟩ := hw
  obtain ⟨o, r, h1, h2, h3, h4, h5⟩ := q_point hw.1 hw.2.2.2.1.1 hw.2.2.2.2.1 a b
  have hA := wA_q hw hT hB hc h4 h5
  cases o with
  | inl e =>
    have t := th_point e h1
    have t2 : e = 0 ∨ e = 2 := by
      rcases Bool.or_eq_true _ _ |>.mp t with t | t
      · exact Or.inl (beq_0 t)
      · exact Or.inr (beq_0 t)
    rcases t2 with rfl | rfl
    · exact ⟨2, μ.1, μ.2.1, r, wt_point_0 hl a b (c_X6_point g l hl g.1 a b (kd6 g) μ.1 μ.2 _ h1), h2, h3, fun z => absurd z (by decide), hA⟩
    · exact ⟨1, μ.1, μ.2.1, r, wt_point_2 hl a b (c_X6_point g l hl g.1 a b (kd6 g) μ.1 μ.2 _ h1), h2, h3, fun z => absurd z (by decide), hA⟩
  | inr x =>
    exact ⟨0, μ.1, x.toInt64, r, wo_point a b (c_X6_point g l hl g.1 a b (kd6 g) μ.1 μ.2 _ h1), h2, h3.1, fun _ => by rw [h3.2], hA⟩
theorem ls_triangle (hl : l.stackTraces = false) (hw : wA g.1 μ.1 k) (a b c : Int32) (hf : b = 0 ∨ b = 1) : lwS g l z_L_triangle hh_triangle [.ref g.1, .int a, .int b, .int c, .ref (g.1 + 177)] μ (fun M1 => f_X7_triangle (g.1 + 170) a b c M1) k := by
  obtain ⟨⟨s, h, c0, u, v, hc, hw⟩, hT, hB⟩ := hw
  obtain ⟨o, r, h1, h2, h3, h4, h5⟩ := q_triangle hw.1 hw.2.2.2.1.1 hw.2.2.2.2.1 a c hf
  have hA := wA_q hw hT hB hc h4 h5
  cases o with
  | inl e =>
    have t := th_triangle e h1
    have t2 : e = 0 ∨ e = 2 := by
      rcases Bool.or_eq_true _ _ |>.mp t with t | t
      · exact Or.inl (beq_0 t)
      · exact Or.inr (beq_0 t)
    rcases t2 with rfl | rfl
    · exact ⟨2, μ.1, μ.2.1, r, wt_triangle_0 hl a b c (c_X6_triangle g l hl g.1 a b c (kd6 g) μ.1 μ.2 _ h1), h2, h3, fun z => absurd z (by decide), hA⟩
    · exact ⟨1, μ.1, μ.2.1, r, wt_triangle_2 hl a b c (c_X6_triangle g l hl g.1 a b c (kd6 g) μ.1 μ.2 _ h1), h2, h3, fun z => absurd z (by decide), hA⟩
  | inr x =>
    exact ⟨0, μ.1, x.toInt64, r, wo_triangle a b c (c_X6_triangle g l hl g.1 a b c (kd6 g) μ.1 μ.2 _ h1), h2, h3.1, fun _ => by rw [h3.2], hA⟩
theorem ls_circle (hl : l.stackTraces = false) (hw : wA g.1 μ.1 k) (a b c d : Int32) : lwS g l z_L_circle hh_circle [.ref g.1, .int a, .int b, .int c, .int d, .ref (g.1 + 177)] μ (fun M1 => f_X7_circle (g.1 + 170) a b c d M1) k := by
  obtain ⟨⟨s, h, c0, u, v, hc, hw⟩, hT, hB⟩ := hw
  obtain ⟨o, r, h1, h2, h3, h4, h5⟩ := q_circle hw.1 hw.2.2.2.1.1 hw.2.2.2.2.1 a b c d
  have hA := wA_q hw hT hB hc h4 h5
  cases o with
  | inl e =>
    have t := th_circle e h1
    have t2 : e = 2 := beq_0 t
    subst t2
    exact ⟨1, μ.1, μ.2.1, r, wt_circle_2 hl a b c d (c_X6_circle g l hl g.1 a b c d (kd6 g) μ.1 μ.2 _ h1), h2, h3, fun z => absurd z (by decide), hA⟩
  | inr x =>
    exact ⟨0, μ.1, x.toInt64, r, wo_circle a b c d (c_X6_circle g l hl g.1 a b c d (kd6 g) μ.1 μ.2 _ h1), h2, h3.1, fun _ => by rw [h3.2], hA⟩
theorem ls_why (hl : l.stackTraces = false) (hw : wA g.1 μ.1 k) (a b : Int32) : lwS g l z_L_why hh_why [.ref g.1, .int a, .int b, .ref (g.1 + 177)] μ (fun M1 => f_X7_why (g.1 + 170) a b M1) k := by
  obtain ⟨⟨s, h, c0, u, v, hc, hw⟩, hT, hB⟩ := hw
  obtain ⟨o, r, h1, h2, h3, h4, h5⟩ := q_why hw.1 hw.2.2.2.1.1 hw.2.2.2.2.1 a b
  have hA := wA_q hw hT hB hc h4 h5
  cases o with
  | inl e =>
    have t := th_why e h1
    have t2 : e = 2 := beq_0 t
    subst t2
    exact ⟨1, μ.1, μ.2.1, r, wt_why_2 hl a b (c_X6_why g l hl g.1 a b (kd6 g) μ.1 μ.2 _ h1), h2, h3, fun z => absurd z (by decide), hA⟩
  | inr x =>
    exact ⟨0, μ.1, x.toInt64, r, wo_why a b (c_X6_why g l hl g.1 a b (kd6 g) μ.1 μ.2 _ h1), h2, h3.1, fun _ => by rw [h3.2], hA⟩
theorem ls_badEdge (hl : l.stackTraces = false) (hw : wA g.1 μ.1 k) : lwS g l z_L_badEdge hh_badEdge [.ref g.1, .ref (g.1 + 177)] μ (fun M1 => f_X7_badEdge (g.1 + 170) M1) k := by
  obtain ⟨⟨s, h, c0, u, v, hc, hw⟩, hT, hB⟩ := hw
  obtain ⟨o, r, h1, h2, h3, h4, h5⟩ := q_badEdge hw.1 hw.2.2.2.1.1 hw.2.2.2.2.1
  have hA := wA_q hw hT hB hc h4 h5
  cases o with
  | inl e =>
    have t := th_badEdge e h1
    have t2 : e = 3 := beq_0 t
    subst t2
    exact ⟨1, μ.1, μ.2.1, r, wt_badEdge_3 hl (c_X6_badEdge g l hl g.1 (kd6 g) μ.1 μ.2 _ h1), h2, h3, fun z => absurd z (by decide), hA⟩
  | inr x =>
    exact ⟨0, μ.1, x.toInt64, r, wo_badEdge (c_X6_badEdge g l hl g.1 (kd6 g) μ.1 μ.2 _ h1), h2, h3.1, fun _ => by rw [h3.2], hA⟩
theorem ls_at (hl : l.stackTraces = false) (hw : wA g.1 μ.1 k) (a b : Int32) : lwS g l z_L_at hh_at [.ref g.1, .int a, .int b, .ref (g.1 + 177)] μ (fun M1 => f_X7_at (g.1 + 170) a b M1) k := by
  obtain ⟨⟨s, h, c0, u, v, hc, hw⟩, hT, hB⟩ := hw
  obtain ⟨o, r, h1, h2, h3, h4, h5⟩ := q_at hw.1 hw.2.2.2.1.1 hw.2.2.2.2.1 a b
  have hA := wA_q hw hT hB hc h4 h5
  cases o with
  | inl e =>
    have t := th_at e h1
    have t2 : e = 0 := beq_0 t
    subst t2
    exact ⟨1, μ.1, μ.2.1, r, wt_at_0 hl a b (c_X6_at g l hl g.1 a b (kd6 g) μ.1 μ.2 _ h1), h2, h3, fun z => absurd z (by decide), hA⟩
  | inr x =>
    exact ⟨0, μ.1, x.toInt64, r, wo_at a b (c_X6_at g l hl g.1 a b (kd6 g) μ.1 μ.2 _ h1), h2, h3.1, fun _ => by rw [h3.2], hA⟩
theorem ls_hit (hl : l.stackTraces = false) (hw : wA g.1 μ.1 k) (a b : Int32) : lwS g l z_L_hit hh_hit [.ref g.1, .int a, .int b, .ref (g.1 + 177)] μ (fun M1 => f_X7_hit (g.1 + 170) a b M1) k := by
  obtain ⟨⟨s, h, c0, u, v, hc, hw⟩, hT, hB⟩ := hw
  obtain ⟨o, r, h1, h2, h3, h4, h5⟩ := q_hit hw.1 hw.2.2.2.1.1 hw.2.2.2.2.1 a b
  have hA := wA_q hw hT hB hc h4 h5
  cases o with
  | inl e =>
    have t := th_hit e h1
    have t2 : e = 0 := beq_0 t
    subst t2
    exact ⟨1, μ.1, μ.2.1, r, wt_hit_0 hl a b (c_X6_hit g l hl g.1 a b (kd6 g) μ.1 μ.2 _ h1), h2, h3, fun z => absurd z (by decide), hA⟩
  | inr x =>
    exact ⟨0, μ.1, x.toInt64, r, wo_hit a b (c_X6_hit g l hl g.1 a b (kd6 g) μ.1 μ.2 _ h1), h2, h3.1, fun _ => by rw [h3.2], hA⟩
theorem ls_corner (hl : l.stackTraces = false) (hw : wA g.1 μ.1 k) (a : Int32) : lwS g l z_L_corner hh_corner [.ref g.1, .int a, .ref (g.1 + 177)] μ (fun M1 => f_X7_corner (g.1 + 170) a M1) k := by
  obtain ⟨⟨s, h, c0, u, v, hc, hw⟩, hT, hB⟩ := hw
  obtain ⟨o, r, h1, h2, h3, h4, h5⟩ := q_corner hw.1 hw.2.2.2.1.1 hw.2.2.2.2.1 a
  have hA := wA_q hw hT hB hc h4 h5
  cases o with
  | inl e =>
    have t := th_corner e h1
    have t2 : e = 3 := beq_0 t
    subst t2
    exact ⟨1, μ.1, μ.2.1, r, wt_corner_3 hl a (c_X6_corner g l hl g.1 a (kd6 g) μ.1 μ.2 _ h1), h2, h3, fun z => absurd z (by decide), hA⟩
  | inr x =>
    exact ⟨0, μ.1, x.toInt64, r, wo_corner a (c_X6_corner g l hl g.1 a (kd6 g) μ.1 μ.2 _ h1), h2, h3.1, fun _ => by rw [h3.2], hA⟩
theorem ls_centre (hl : l.stackTraces = false) (hw : wA g.1 μ.1 k) (a b : Int32) (hf : b = 0 ∨ b = 1) : lwD g l z_L_centre hh_centre [.ref g.1, .int a, .int b, .ref (g.1 + 178)] μ (fun M1 => f_X7_centre (g.1 + 170) a b M1) k := by
  obtain ⟨⟨s, h, c0, u, v, hc, hw⟩, hT, hB⟩ := hw
  obtain ⟨o, r, h1, h2, h3, h4, h5⟩ := q_centre hw.1 hw.2.2.2.1.1 hw.2.2.2.2.1 a hf
  have hA := wA_q hw hT hB hc h4 h5
  cases o with
  | inl e =>
    have t := th_centre e h1
    have t2 : e = 2 := beq_0 t
    subst t2
    exact ⟨1, μ.1, μ.2.2, r, wt_centre_2 hl a b (c_X6_centre g l hl g.1 a b (kd6 g) μ.1 μ.2 _ h1), h2, h3.2, fun z => absurd z (by decide), hA⟩
  | inr x =>
    exact ⟨0, μ.1, x, r, wo_centre a b (c_X6_centre g l hl g.1 a b (kd6 g) μ.1 μ.2 _ h1), h2, h3.1, fun _ => ⟨h3.2.1.symm, by rw [h3.2.1]; exact h3.2.2⟩, hA⟩
theorem ls_roundness (hl : l.stackTraces = false) (hw : wA g.1 μ.1 k) (a : Int32) : lwS g l z_L_roundness hh_roundness [.ref g.1, .int a, .ref (g.1 + 177)] μ (fun M1 => f_X7_roundness (g.1 + 170) a M1) k := by
  obtain ⟨⟨s, h, c0, u, v, hc, hw⟩, hT, hB⟩ := hw
  obtain ⟨o, r, h1, h2, h3, h4, h5⟩ := q_roundness hw.1 hw.2.2.2.1.1 hw.2.2.2.2.1 a
  have hA := wA_q hw hT hB hc h4 h5
  cases o with
  | inl e =>
    have t := th_roundness e h1
    have t2 : e = 2 := beq_0 t
    subst t2
    exact ⟨1, μ.1, μ.2.1, r, wt_roundness_2 hl a (c_X6_roundness g l hl g.1 a (kd6 g) μ.1 μ.2 _ h1), h2, h3, fun z => absurd z (by decide), hA⟩
  | inr x =>
    exact ⟨0, μ.1, x.toInt64, r, wo_roundness a (c_X6_roundness g l hl g.1 a (kd6 g) μ.1 μ.2 _ h1), h2, h3.1, fun _ => by rw [h3.2], hA⟩
theorem ls_put (hl : l.stackTraces = false) (hk6 : k < 600) (hw : wA g.1 μ.1 k) (a b : Int32) : lwS g l z_L_put hh_put [.ref g.1, .int a, .int b, .ref (g.1 + 177)] μ (fun M1 => f_X7_put (g.1 + 170) a b M1) k := by
  obtain ⟨⟨s, h, c0, u, v, hc, hw⟩, hT, hB⟩ := hw
  rcases q_put hw hc hk6 a b with ⟨e, r, h1, h2, h3, h4, h5⟩ | ⟨x, M1, r, h1, h2, h3, h4, h5, h6⟩
  · have t := th_put e h1
    have t2 : e = 0 ∨ e = 1 := by
      rcases Bool.or_eq_true _ _ |>.mp t with t | t
      · exact Or.inl (beq_0 t)
      · exact Or.inr (beq_0 t)
    rcases t2 with rfl | rfl
    · exact ⟨1, μ.1, μ.2.1, r, wt_put_0 hl a b (c_X6_put g l hl g.1 a b (kd6 g) μ.1 μ.2 _ h1), h2, h3, fun z => absurd z (by decide), wA_le ⟨h4, wT_W hT h5, wB_W hB h5⟩ (Nat.le_succ k)⟩
    · exact ⟨2, μ.1, μ.2.1, r, wt_put_1 hl a b (c_X6_put g l hl g.1 a b (kd6 g) μ.1 μ.2 _ h1), h2, h3, fun z => absurd z (by decide), wA_le ⟨h4, wT_W hT h5, wB_W hB h5⟩ (Nat.le_succ k)⟩
  · exact ⟨0, M1, x.toInt64, r, wo_put a b (c_X6_put g l hl g.1 a b (kd6 g) μ.1 μ.2 _ h1), h2, h3, fun _ => by rw [h4], ⟨h5, wT_W hT h6, wB_W hB h6⟩⟩
theorem ls_take (hl : l.stackTraces = false) (hk6 : k < 600) (hw : wA g.1 μ.1 k) (a : Int32) : lwS g l z_L_take hh_take [.ref g.1, .int a, .ref (g.1 + 177)] μ (fun M1 => f_X7_take (g.1 + 170) a M1) k := by
  obtain ⟨⟨s, h, c0, u, v, hc, hw⟩, hT, hB⟩ := hw
  rcases q_take hw hc hk6 a with ⟨e, r, h1, h2, h3, h4, h5⟩ | ⟨x, M1, r, h1, h2, h3, h4, h5, h6⟩
  · have t := th_take e h1
    have t2 : e = 2 := beq_0 t
    subst t2
    exact ⟨1, μ.1, μ.2.1, r, wt_take_2 hl a (c_X6_take g l hl g.1 a (kd6 g) μ.1 μ.2 _ h1), h2, h3, fun z => absurd z (by decide), wA_le ⟨h4, wT_W hT h5, wB_W hB h5⟩ (Nat.le_succ k)⟩
  · exact ⟨0, M1, x.toInt64, r, wo_take a (c_X6_take g l hl g.1 a (kd6 g) μ.1 μ.2 _ h1), h2, h3, fun _ => by rw [h4], ⟨h5, wT_W hT h6, wB_W hB h6⟩⟩
theorem ls_move (hl : l.stackTraces = false) (hk6 : k < 600) (hw : wA g.1 μ.1 k) (a b c : Int32) : lwS g l z_L_move hh_move [.ref g.1, .int a, .int b, .int c, .ref (g.1 + 177)] μ (fun M1 => f_X7_move (g.1 + 170) a b c M1) k := by
  obtain ⟨⟨s, h, c0, u, v, hc, hw⟩, hT, hB⟩ := hw
  rcases q_move hw hc hk6 a b c with ⟨e, r, h1, h2, h3, h4, h5⟩ | ⟨x, M1, r, h1, h2, h3, h4, h5, h6⟩
  · have t := th_move e h1
    have t2 : e = 0 ∨ e = 1 ∨ e = 2 := by
      rcases Bool.or_eq_true _ _ |>.mp t with t | t
      · rcases Bool.or_eq_true _ _ |>.mp t with t | t
        · exact Or.inl (beq_0 t)
        · exact Or.inr (Or.inl (beq_0 t))
      · exact Or.inr (Or.inr (beq_0 t))
    rcases t2 with rfl | rfl | rfl
    · exact ⟨2, μ.1, μ.2.1, r, wt_move_0 hl a b c (c_X6_move g l hl g.1 a b c (kd6 g) μ.1 μ.2 _ h1), h2, h3, fun z => absurd z (by decide), wA_le ⟨h4, wT_W hT h5, wB_W hB h5⟩ (Nat.le_succ k)⟩
    · exact ⟨3, μ.1, μ.2.1, r, wt_move_1 hl a b c (c_X6_move g l hl g.1 a b c (kd6 g) μ.1 μ.2 _ h1), h2, h3, fun z => absurd z (by decide), wA_le ⟨h4, wT_W hT h5, wB_W hB h5⟩ (Nat.le_succ k)⟩
    · exact ⟨1, μ.1, μ.2.1, r, wt_move_2 hl a b c (c_X6_move g l hl g.1 a b c (kd6 g) μ.1 μ.2 _ h1), h2, h3, fun z => absurd z (by decide), wA_le ⟨h4, wT_W hT h5, wB_W hB h5⟩ (Nat.le_succ k)⟩
  · exact ⟨0, M1, x.toInt64, r, wo_move a b c (c_X6_move g l hl g.1 a b c (kd6 g) μ.1 μ.2 _ h1), h2, h3, fun _ => by rw [h4], ⟨h5, wT_W hT h6, wB_W hB h6⟩⟩
theorem ls_flip (hl : l.stackTraces = false) (hk6 : k < 600) (hw : wA g.1 μ.1 k) (a b : Int32) : lwS g l z_L_flip hh_flip [.ref g.1, .int a, .int b, .ref (g.1 + 177)] μ (fun M1 => f_X7_flip (g.1 + 170) a b M1) k := by
  obtain ⟨⟨s, h, c0, u, v, hc, hw⟩, hT, hB⟩ := hw
  rcases q_flip hw hc hk6 a b with ⟨e, r, h1, h2, h3, h4, h5⟩ | ⟨x, M1, r, h1, h2, h3, h4, h5, h6⟩
  · have t := th_flip e h1
    have t2 : e = 1 ∨ e = 2 := by
      rcases Bool.or_eq_true _ _ |>.mp t with t | t
      · exact Or.inl (beq_0 t)
      · exact Or.inr (beq_0 t)
    rcases t2 with rfl | rfl
    · exact ⟨2, μ.1, μ.2.1, r, wt_flip_1 hl a b (c_X6_flip g l hl g.1 a b (kd6 g) μ.1 μ.2 _ h1), h2, h3, fun z => absurd z (by decide), wA_le ⟨h4, wT_W hT h5, wB_W hB h5⟩ (Nat.le_succ k)⟩
    · exact ⟨1, μ.1, μ.2.1, r, wt_flip_2 hl a b (c_X6_flip g l hl g.1 a b (kd6 g) μ.1 μ.2 _ h1), h2, h3, fun z => absurd z (by decide), wA_le ⟨h4, wT_W hT h5, wB_W hB h5⟩ (Nat.le_succ k)⟩
  · exact ⟨0, M1, x.toInt64, r, wo_flip a b (c_X6_flip g l hl g.1 a b (kd6 g) μ.1 μ.2 _ h1), h2, h3, fun _ => by rw [h4], ⟨h5, wT_W hT h6, wB_W hB h6⟩⟩
theorem ls_mend (hl : l.stackTraces = false) (hk6 : k < 600) (hw : wA g.1 μ.1 k) (a : Int32) : lwS g l z_L_mend hh_mend [.ref g.1, .int a, .ref (g.1 + 177)] μ (fun M1 => f_X7_mend (g.1 + 170) a M1) k := by
  obtain ⟨⟨s, h, c0, u, v, hc, hw⟩, hT, hB⟩ := hw
  rcases q_mend hw hc hk6 a with ⟨e, r, h1, h2, h3, h4, h5⟩ | ⟨x, M1, r, h1, h2, h3, h4, h5, h6⟩
  · have t := th_mend e h1
    have t2 : e = 0 := beq_0 t
    subst t2
    exact ⟨1, μ.1, μ.2.1, r, wt_mend_0 hl a (c_X6_mend g l hl g.1 a (kd6 g) μ.1 μ.2 _ h1), h2, h3, fun z => absurd z (by decide), wA_le ⟨h4, wT_W hT h5, wB_W hB h5⟩ (Nat.le_succ k)⟩
  · exact ⟨0, M1, x.toInt64, r, wo_mend a (c_X6_mend g l hl g.1 a (kd6 g) μ.1 μ.2 _ h1), h2, h3, fun _ => by rw [h4], ⟨h5, wT_W hT h6, wB_W hB h6⟩⟩
theorem ln_append (hl : l.stackTraces = false) (hw : wA g.1 μ.1 k) (a b c d e : Int32) : lnS g l z_X6_append [.int a, .int b, .int c, .int d, .int e] μ (fun x => Value.int x) (fun M1 => f_X7_append (g.1 + 170) a b c d e M1) k := by
  obtain ⟨x, M1, r, h1, h2, h3, h4⟩ := q_append hw a b c d e
  exact ⟨x, M1, r, c_X6_append g l hl g.1 a b c d e (kd6 g) μ.1 μ.2 _ h1, h2, h3, wA_le h4 (Nat.le_succ k)⟩
theorem ln_errorOffset (hl : l.stackTraces = false) (hw : wA g.1 μ.1 k) : lnS g l z_X6_errorOffset [] μ (fun x => Value.int x) (fun M1 => f_X7_errorOffset (g.1 + 170) M1) k := by
  obtain ⟨x, M1, r, h1, h2, h3, h4⟩ := q_eoff hw
  cases h1
  exact ⟨_, _, r, c_X6_errorOffset g l hl g.1 (kd6 g) μ.1 μ.2 _ rfl, h2, h3, wA_le h4 (Nat.le_succ k)⟩
theorem ln_undo (hl : l.stackTraces = false) (hk6 : k < 600) (hw : wA g.1 μ.1 k) : lnS g l z_X6_undo [] μ (fun x => Value.int x) (fun M1 => f_X7_undo (g.1 + 170) M1) k := by
  obtain ⟨⟨s, h, c0, u, v, hc, hw⟩, hT, hB⟩ := hw
  obtain ⟨x, M1, r, h1, h2, h3, h4, h5⟩ := q_undo hw hc hk6
  exact ⟨x, M1, r, c_X6_undo g l hl g.1 (kd6 g) μ.1 μ.2 _ h1, h2, h3, wA_le ⟨h4, wT_W hT h5, wB_W hB h5⟩ (Nat.le_succ k)⟩
theorem ln_checksum (hl : l.stackTraces = false) (hw : wA g.1 μ.1 k) : lnS g l z_X6_checksum [] μ (fun x => Value.long x) (fun M1 => f_X7_checksum (g.1 + 170) M1) k := by
  obtain ⟨⟨s, h, c0, u, v, hc, hw⟩, hT, hB⟩ := hw
  obtain ⟨x, r, h1, h2, h3, h4, h5⟩ := q_checksum hw.1 hw.2.2.2.1.1 hw.2.2.2.2.1
  exact ⟨x, μ.1, r, c_X6_checksum g l hl g.1 (kd6 g) μ.1 μ.2 _ h1, h2, h3, wA_q hw hT hB hc h4 h5⟩
theorem ln_lift (hl : l.stackTraces = false) (hw : wA g.1 μ.1 k) : lnS g l z_X6_lift [] μ (fun x => Value.long x) (fun M1 => f_X7_lift (g.1 + 170) M1) k := by
  obtain ⟨⟨s, h, c0, u, v, hc, hw⟩, hT, hB⟩ := hw
  obtain ⟨x, r, h1, h2, h3, h4, h5⟩ := q_lift hw.1 hw.2.2.2.1.1 hw.2.2.2.2.1
  exact ⟨x, μ.1, r, c_X6_lift g l hl g.1 (kd6 g) μ.1 μ.2 _ h1, h2, h3, wA_q hw hT hB hc h4 h5⟩
theorem ln_tree (hl : l.stackTraces = false) (hw : wA g.1 μ.1 k) : lnS g l z_X6_tree [] μ (fun x => Value.long x) (fun M1 => f_X7_tree (g.1 + 170) M1) k := by
  obtain ⟨⟨s, h, c0, u, v, hc, hw⟩, hT, hB⟩ := hw
  obtain ⟨x, r, h1, h2, h3, h4, h5⟩ := q_tree hw.1 hw.2.2.2.1.1 hw.2.2.2.2.1
  exact ⟨x, μ.1, r, c_X6_tree g l hl g.1 (kd6 g) μ.1 μ.2 _ h1, h2, h3, wA_q hw hT hB hc h4 h5⟩
theorem ln_share (hl : l.stackTraces = false) (hw : wA g.1 μ.1 k) : ∃ (x : UInt32) (r2 : UInt32 × fm_Mem), fm_f32 x = true ∧ fC g l z_X6_share [.ref g.1] μ (.inr (some (.float x)), μ) ∧ f_X7_share (g.1 + 170) μ.1 = some r2 ∧ r2.1 = x ∧ wA g.1 r2.2 (k + 1) := by
  obtain ⟨⟨s, h, c0, u, v, hc, hw⟩, hT, hB⟩ := hw
  obtain ⟨x, r, h1, h2, h3, h0, h4, h5⟩ := q_share hw.1 hw.2.2.2.1.1 hw.2.2.2.2.1
  exact ⟨x, r, h0, c_X6_share g l hl g.1 (kd6 g) μ.1 μ.2 _ h1, h2, h3, wA_q hw hT hB hc h4 h5⟩
end LS
end
