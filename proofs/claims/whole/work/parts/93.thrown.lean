section
/-! WHICH exceptions the class's methods throw -/
def thO {τ : Type} (S : Nat → Bool) (o : Option (Nat ⊕ τ)) : Prop := ∀ e, o = some (.inl e) → S e = true
section TH
variable {τ σ : Type} {S : Nat → Bool}
theorem th_r {x : τ} : thO S (some (.inr x) : Option (Nat ⊕ τ)) := fun e h => by cases h
theorem th_e {k : Nat} (hk : S k = true) : thO S (some (.inl k) : Option (Nat ⊕ τ)) := fun e h => by cases h; exact hk
theorem th_n : thO S (none : Option (Nat ⊕ τ)) := fun e h => by cases h
theorem th_b {f : Option σ} {k : σ → Option (Nat ⊕ τ)} (h : ∀ v, thO S (k v)) : thO S (Option.bind f k) := by
  cases f with
  | none => exact th_n
  | some x => exact h x
theorem th_x {f : Option (Nat ⊕ σ)} {k : σ → Option (Nat ⊕ τ)} (hf : thO S f) (h : ∀ v, thO S (k v)) : thO S (fm_bx f k) := by
  cases f with
  | none => exact th_n
  | some x => cases x with
    | inl e => exact fun e' h' => by cases h'; exact hf e rfl
    | inr v => exact h v
theorem th_i {c : Prop} [Decidable c] {a b : Option (Nat ⊕ τ)} (h1 : thO S a) (h2 : thO S b) : thO S (if c then a else b) := by
  by_cases h : c
  · rw [if_pos h]; exact h1
  · rw [if_neg h]; exact h2
theorem th_c {b : Bool} {o : Option (Nat ⊕ τ)} (h : thO S o) : thO S (fm_ck b o) := by
  cases b with
  | true => exact h
  | false => exact th_n
end TH
section TI
variable {A : Nat} {M : fm_Mem} {S : Nat → Bool} {a b c d : Int32}
theorem th_needPoint (h2 : S 2 = true) : thO S (f_X6_needPoint A a M) := by
  unfold f_X6_needPoint f_X6_needPoint_18
  repeat' (first | (with_reducible refine th_i ?_ ?_) | (with_reducible refine th_b (fun _ => ?_)) | (with_reducible refine th_x ?_ (fun _ => ?_)) | (with_reducible refine th_c ?_) | (with_reducible exact th_r) | (with_reducible exact th_n) | (with_reducible exact th_e (by assumption)) | (with_reducible exact th_e (by decide)))
theorem th_needTri {r : Nat} (h2 : S 2 = true) : thO S (f_X6_needTriangle A r a M) := by
  unfold f_X6_needTriangle f_X6_needTriangle_12
  repeat' (first | (with_reducible refine th_i ?_ ?_) | (with_reducible refine th_b (fun _ => ?_)) | (with_reducible refine th_x ?_ (fun _ => ?_)) | (with_reducible refine th_c ?_) | (with_reducible exact th_r) | (with_reducible exact th_n) | (with_reducible exact th_e (by assumption)) | (with_reducible exact th_e (by decide)))
theorem th_needAsked (h2 : S 0 = true) : thO S (f_X6_needAsked A a b M) := by
  unfold f_X6_needAsked f_X6_needAsked_28
  repeat' (first | (with_reducible refine th_i ?_ ?_) | (with_reducible refine th_b (fun _ => ?_)) | (with_reducible refine th_x ?_ (fun _ => ?_)) | (with_reducible refine th_c ?_) | (with_reducible exact th_r) | (with_reducible exact th_n) | (with_reducible exact th_e (by assumption)) | (with_reducible exact th_e (by decide)))
theorem th_needPlace (h2 : S 0 = true) : thO S (f_X6_needPlace A a b M) := by
  unfold f_X6_needPlace f_X6_needPlace_22
  repeat' (first | (with_reducible refine th_i ?_ ?_) | (with_reducible refine th_b (fun _ => ?_)) | (with_reducible refine th_x ?_ (fun _ => ?_)) | (with_reducible refine th_c ?_) | (with_reducible exact th_r) | (with_reducible exact th_n) | (with_reducible exact th_e (by assumption)) | (with_reducible exact th_e (by decide)))
theorem th_load : thO (fun e => Nat.beq e 0) (f_X6_load A a M) := by
  unfold f_X6_load f_X6_load_15
  repeat' (first | (with_reducible refine th_i ?_ ?_) | (with_reducible refine th_b (fun _ => ?_)) | (with_reducible refine th_x ?_ (fun _ => ?_)) | (with_reducible refine th_c ?_) | (with_reducible exact th_r) | (with_reducible exact th_n) | (with_reducible exact th_e (by assumption)) | (with_reducible exact th_e (by decide)))
theorem th_state : thO (fun e => Nat.beq e 0) (f_X6_state A a M) := by
  unfold f_X6_state f_X6_state_10
  repeat' (first | (with_reducible refine th_i ?_ ?_) | (with_reducible refine th_b (fun _ => ?_)) | (with_reducible refine th_x ?_ (fun _ => ?_)) | (with_reducible refine th_c ?_) | (with_reducible exact th_r) | (with_reducible exact th_n) | (with_reducible exact th_e (by assumption)) | (with_reducible exact th_e (by decide)))
theorem th_point : thO (fun e => Nat.beq e 0 || Nat.beq e 2) (f_X6_point A a b M) := by
  unfold f_X6_point f_X6_point_15
  repeat' (first | (with_reducible refine th_i ?_ ?_) | (with_reducible refine th_b (fun _ => ?_)) | (with_reducible refine th_x ?_ (fun _ => ?_)) | (with_reducible refine th_c ?_) | (with_reducible exact th_r) | (with_reducible exact th_n) | (with_reducible exact th_e (by assumption)) | (with_reducible exact th_e (by decide)) | (with_reducible exact th_needPoint (by decide)) | (with_reducible exact th_needTri (by decide)) | (with_reducible exact th_needAsked (by decide)) | (with_reducible exact th_needPlace (by decide)))
theorem th_tri21 {r : Nat} : thO (fun e => Nat.beq e 0 || Nat.beq e 2) (f_X6_triangle_21 A a b c r M) := by
  unfold f_X6_triangle_21 f_X6_triangle_40
  repeat' (first | (with_reducible refine th_i ?_ ?_) | (with_reducible refine th_b (fun _ => ?_)) | (with_reducible refine th_x ?_ (fun _ => ?_)) | (with_reducible refine th_c ?_) | (with_reducible exact th_r) | (with_reducible exact th_n) | (with_reducible exact th_e (by assumption)) | (with_reducible exact th_e (by decide)) | (with_reducible exact th_needPoint (by decide)) | (with_reducible exact th_needTri (by decide)) | (with_reducible exact th_needAsked (by decide)) | (with_reducible exact th_needPlace (by decide)))
theorem th_triangle : thO (fun e => Nat.beq e 0 || Nat.beq e 2) (f_X6_triangle A a b c M) := by
  unfold f_X6_triangle
  repeat' (first | (with_reducible refine th_i ?_ ?_) | (with_reducible refine th_b (fun _ => ?_)) | (with_reducible refine th_x ?_ (fun _ => ?_)) | (with_reducible refine th_c ?_) | (with_reducible exact th_r) | (with_reducible exact th_n) | (with_reducible exact th_e (by assumption)) | (with_reducible exact th_e (by decide)) | (with_reducible exact th_tri21))
theorem th_circle : thO (fun e => Nat.beq e 2) (f_X6_circle A a b c d M) := by
  unfold f_X6_circle
  repeat' (first | (with_reducible refine th_i ?_ ?_) | (with_reducible refine th_b (fun _ => ?_)) | (with_reducible refine th_x ?_ (fun _ => ?_)) | (with_reducible refine th_c ?_) | (with_reducible exact th_r) | (with_reducible exact th_n) | (with_reducible exact th_e (by assumption)) | (with_reducible exact th_e (by decide)) | (with_reducible exact th_needPoint (by decide)) | (with_reducible exact th_needTri (by decide)) | (with_reducible exact th_needAsked (by decide)) | (with_reducible exact th_needPlace (by decide)))
theorem th_why : thO (fun e => Nat.beq e 2) (f_X6_why A a b M) := by
  unfold f_X6_why
  repeat' (first | (with_reducible refine th_i ?_ ?_) | (with_reducible refine th_b (fun _ => ?_)) | (with_reducible refine th_x ?_ (fun _ => ?_)) | (with_reducible refine th_c ?_) | (with_reducible exact th_r) | (with_reducible exact th_n) | (with_reducible exact th_e (by assumption)) | (with_reducible exact th_e (by decide)) | (with_reducible exact th_needPoint (by decide)) | (with_reducible exact th_needTri (by decide)) | (with_reducible exact th_needAsked (by decide)) | (with_reducible exact th_needPlace (by decide)))
theorem th_badEdge : thO (fun e => Nat.beq e 3) (f_X6_badEdge A M) := by
  unfold f_X6_badEdge
  repeat' (first | (with_reducible refine th_i ?_ ?_) | (with_reducible refine th_b (fun _ => ?_)) | (with_reducible refine th_x ?_ (fun _ => ?_)) | (with_reducible refine th_c ?_) | (with_reducible exact th_r) | (with_reducible exact th_n) | (with_reducible exact th_e (by assumption)) | (with_reducible exact th_e (by decide)))
theorem th_corner : thO (fun e => Nat.beq e 3) (f_X6_corner A a M) := by
  unfold f_X6_corner f_X6_corner_15
  repeat' (first | (with_reducible refine th_i ?_ ?_) | (with_reducible refine th_b (fun _ => ?_)) | (with_reducible refine th_x ?_ (fun _ => ?_)) | (with_reducible refine th_c ?_) | (with_reducible exact th_r) | (with_reducible exact th_n) | (with_reducible exact th_e (by assumption)) | (with_reducible exact th_e (by decide)))
theorem th_at17 : ∀ (n : Nat) (x : Int32) (M : fm_Mem), thO (fun e => Nat.beq e 0) (f_X6_at_17 A a b n x M) := by
  intro n
  induction n with
  | zero => intro x M; rw [f_X6_at_17]; exact th_n
  | succ n ih => intro x M; rw [f_X6_at_17]; repeat' (first | (with_reducible refine th_i ?_ ?_) | (with_reducible refine th_b (fun _ => ?_)) | (with_reducible refine th_x ?_ (fun _ => ?_)) | (with_reducible refine th_c ?_) | (with_reducible exact th_r) | (with_reducible exact th_n) | (with_reducible exact th_e (by assumption)) | (with_reducible exact th_e (by decide)) | (with_reducible exact ih _ _))
theorem th_at : thO (fun e => Nat.beq e 0) (f_X6_at A a b M) := by
  unfold f_X6_at
  repeat' (first | (with_reducible refine th_i ?_ ?_) | (with_reducible refine th_b (fun _ => ?_)) | (with_reducible refine th_x ?_ (fun _ => ?_)) | (with_reducible refine th_c ?_) | (with_reducible exact th_r) | (with_reducible exact th_n) | (with_reducible exact th_e (by assumption)) | (with_reducible exact th_e (by decide)) | (with_reducible exact th_needPoint (by decide)) | (with_reducible exact th_needTri (by decide)) | (with_reducible exact th_needAsked (by decide)) | (with_reducible exact th_needPlace (by decide)) | (with_reducible exact th_at17 _ _ _))
theorem th_hit20 : ∀ (n : Nat) (x y : Int32) (M : fm_Mem), thO (fun e => Nat.beq e 0) (f_X6_hit_20 A a b n x y M) := by
  intro n
  induction n with
  | zero => intro x y M; rw [f_X6_hit_20]; exact th_n
  | succ n ih => intro x y M; rw [f_X6_hit_20]; unfold f_X6_hit_65; repeat' (first | (with_reducible refine th_i ?_ ?_) | (with_reducible refine th_b (fun _ => ?_)) | (with_reducible refine th_x ?_ (fun _ => ?_)) | (with_reducible refine th_c ?_) | (with_reducible exact th_r) | (with_reducible exact th_n) | (with_reducible exact th_e (by assumption)) | (with_reducible exact th_e (by decide)) | (with_reducible exact ih _ _ _))
theorem th_hit : thO (fun e => Nat.beq e 0) (f_X6_hit A a b M) := by
  unfold f_X6_hit
  repeat' (first | (with_reducible refine th_i ?_ ?_) | (with_reducible refine th_b (fun _ => ?_)) | (with_reducible refine th_x ?_ (fun _ => ?_)) | (with_reducible refine th_c ?_) | (with_reducible exact th_r) | (with_reducible exact th_n) | (with_reducible exact th_e (by assumption)) | (with_reducible exact th_e (by decide)) | (with_reducible exact th_needPoint (by decide)) | (with_reducible exact th_needTri (by decide)) | (with_reducible exact th_needAsked (by decide)) | (with_reducible exact th_needPlace (by decide)) | (with_reducible exact th_hit20 _ _ _ _))
theorem th_cen200 {x5 x6 x7 : Int32} {x14 : Int64} : thO (fun e => Nat.beq e 2) (f_X6_centre_200 A a b x5 x6 x7 x14 M) := by
  unfold f_X6_centre_200 f_X6_centre_235
  repeat' (first | (with_reducible refine th_i ?_ ?_) | (with_reducible refine th_b (fun _ => ?_)) | (with_reducible refine th_x ?_ (fun _ => ?_)) | (with_reducible refine th_c ?_) | (with_reducible exact th_r) | (with_reducible exact th_n) | (with_reducible exact th_e (by assumption)) | (with_reducible exact th_e (by decide)))
theorem th_centre : thO (fun e => Nat.beq e 2) (f_X6_centre A a b M) := by
  unfold f_X6_centre
  repeat' (first | (with_reducible refine th_i ?_ ?_) | (with_reducible refine th_b (fun _ => ?_)) | (with_reducible refine th_x ?_ (fun _ => ?_)) | (with_reducible refine th_c ?_) | (with_reducible exact th_r) | (with_reducible exact th_n) | (with_reducible exact th_e (by assumption)) | (with_reducible exact th_e (by decide)) | (with_reducible exact th_needPoint (by decide)) | (with_reducible exact th_needTri (by decide)) | (with_reducible exact th_needAsked (by decide)) | (with_reducible exact th_needPlace (by decide)) | (with_reducible exact th_cen200))
theorem th_roundness : thO (fun e => Nat.beq e 2) (f_X6_roundness A a M) := by
  unfold f_X6_roundness
  repeat' (first | (with_reducible refine th_i ?_ ?_) | (with_reducible refine th_b (fun _ => ?_)) | (with_reducible refine th_x ?_ (fun _ => ?_)) | (with_reducible refine th_c ?_) | (with_reducible exact th_r) | (with_reducible exact th_n) | (with_reducible exact th_e (by assumption)) | (with_reducible exact th_e (by decide)) | (with_reducible exact th_needPoint (by decide)) | (with_reducible exact th_needTri (by decide)) | (with_reducible exact th_needAsked (by decide)) | (with_reducible exact th_needPlace (by decide)))
theorem th_put : thO (fun e => Nat.beq e 0 || Nat.beq e 1) (f_X6_put A a b M) := by
  unfold f_X6_put f_X6_put_32
  repeat' (first | (with_reducible refine th_i ?_ ?_) | (with_reducible refine th_b (fun _ => ?_)) | (with_reducible refine th_x ?_ (fun _ => ?_)) | (with_reducible refine th_c ?_) | (with_reducible exact th_r) | (with_reducible exact th_n) | (with_reducible exact th_e (by assumption)) | (with_reducible exact th_e (by decide)) | (with_reducible exact th_needPoint (by decide)) | (with_reducible exact th_needTri (by decide)) | (with_reducible exact th_needAsked (by decide)) | (with_reducible exact th_needPlace (by decide)))
theorem th_take : thO (fun e => Nat.beq e 2) (f_X6_take A a M) := by
  unfold f_X6_take
  repeat' (first | (with_reducible refine th_i ?_ ?_) | (with_reducible refine th_b (fun _ => ?_)) | (with_reducible refine th_x ?_ (fun _ => ?_)) | (with_reducible refine th_c ?_) | (with_reducible exact th_r) | (with_reducible exact th_n) | (with_reducible exact th_e (by assumption)) | (with_reducible exact th_e (by decide)) | (with_reducible exact th_needPoint (by decide)) | (with_reducible exact th_needTri (by decide)) | (with_reducible exact th_needAsked (by decide)) | (with_reducible exact th_needPlace (by decide)))
theorem th_move : thO (fun e => Nat.beq e 0 || Nat.beq e 1 || Nat.beq e 2) (f_X6_move A a b c M) := by
  unfold f_X6_move f_X6_move_44
  repeat' (first | (with_reducible refine th_i ?_ ?_) | (with_reducible refine th_b (fun _ => ?_)) | (with_reducible refine th_x ?_ (fun _ => ?_)) | (with_reducible refine th_c ?_) | (with_reducible exact th_r) | (with_reducible exact th_n) | (with_reducible exact th_e (by assumption)) | (with_reducible exact th_e (by decide)) | (with_reducible exact th_needPoint (by decide)) | (with_reducible exact th_needTri (by decide)) | (with_reducible exact th_needAsked (by decide)) | (with_reducible exact th_needPlace (by decide)))
theorem th_flip : thO (fun e => Nat.beq e 1 || Nat.beq e 2) (f_X6_flip A a b M) := by
  unfold f_X6_flip
  repeat' (first | (with_reducible refine th_i ?_ ?_) | (with_reducible refine th_b (fun _ => ?_)) | (with_reducible refine th_x ?_ (fun _ => ?_)) | (with_reducible refine th_c ?_) | (with_reducible exact th_r) | (with_reducible exact th_n) | (with_reducible exact th_e (by assumption)) | (with_reducible exact th_e (by decide)) | (with_reducible exact th_needPoint (by decide)) | (with_reducible exact th_needTri (by decide)) | (with_reducible exact th_needAsked (by decide)) | (with_reducible exact th_needPlace (by decide)))
theorem th_mend34 : ∀ (n : Nat) (x y : Int32) (M : fm_Mem), thO (fun e => Nat.beq e 0) (f_X6_mend_34 A a n x y M) := by
  intro n
  induction n with
  | zero => intro x y M; rw [f_X6_mend_34]; exact th_n
  | succ n ih => intro x y M; rw [f_X6_mend_34]; unfold f_X6_mend_73; repeat' (first | (with_reducible refine th_i ?_ ?_) | (with_reducible refine th_b (fun _ => ?_)) | (with_reducible refine th_x ?_ (fun _ => ?_)) | (with_reducible refine th_c ?_) | (with_reducible exact th_r) | (with_reducible exact th_n) | (with_reducible exact th_e (by assumption)) | (with_reducible exact th_e (by decide)) | (with_reducible exact ih _ _ _))
theorem th_mend : thO (fun e => Nat.beq e 0) (f_X6_mend A a M) := by
  unfold f_X6_mend f_X6_mend_12
  repeat' (first | (with_reducible refine th_i ?_ ?_) | (with_reducible refine th_b (fun _ => ?_)) | (with_reducible refine th_x ?_ (fun _ => ?_)) | (with_reducible refine th_c ?_) | (with_reducible exact th_r) | (with_reducible exact th_n) | (with_reducible exact th_e (by assumption)) | (with_reducible exact th_e (by decide)) | (with_reducible exact th_mend34 _ _ _ _))
end TI
end
