section
/-! the first state -/
theorem tV_m0 (n : Nat) (T : Nat → Nat) : tV n 0 T := ⟨fun i j _ h2 => absurd h2 (Nat.not_lt_zero j), fun i hi => absurd hi (Nat.not_lt_zero i)⟩
def pl0 : gPl := ((0, (fun _ => 0), (fun _ => 0)), (0, fun _ => 0), (0, fun _ => 0), 0, 0)
theorem gOk0 : gOkP pl0 := ⟨by omega, fun k hk => absurd hk (Nat.not_lt_zero k), fun i j hi => absurd hi (Nat.not_lt_zero i), gDr_0 _ _ _ _, tV_m0 _ _, fun a b c _ _ h => absurd h (Nat.not_lt_zero c)⟩
theorem cMs_z {P : Nat} {M : fm_Mem} {T : Nat → Nat} (h2 : M P 2 = 0) (h4 : ∀ j, M (P + 4) j = 0) : cMs P M 0 T := ⟨h2, by omega, fun t ht => absurd ht (Nat.not_lt_zero t), fun u w hu hw => by
  rw [h4, bS_0]
  exact bS_cong (fun i _ => by rw [eT_m0, Bool.and_false])⟩
theorem wA_0 {A : Nat} {M : fm_Mem} (hz : ∀ b j, A ≤ b → ¬ ((b = A ∧ j = 6) ∨ (b = A + 170 ∧ (j = 9 ∨ j = 15))) → M b j = 0) (h6 : M A 6 = -1) (h9 : M (A + 170) 9 = -1) (h15 : M (A + 170) 15 = -1) : wA A M 0 := by
  refine ⟨⟨pl0, fun _ => pl0, 0, 0, 0, Nat.le_refl _, gOk0, fun j hj => absurd hj (Nat.not_lt_zero j), ⟨by omega, by omega⟩, ⟨⟨⟨⟨?_, by omega, fun k hk => absurd hk (Nat.not_lt_zero k)⟩, cMs_z ?_ (fun j => ?_), cMs_z ?_ (fun j => ?_), ?_, ?_⟩, ⟨⟨0, ?_, by omega, fun p => ?_, fun k hk => absurd hk (Nat.not_lt_zero k)⟩, fun p hp => absurd hp (Nat.not_lt_zero p), Or.inl ⟨rfl, ?_⟩⟩, ?_⟩, ?_, fun j hj => absurd hj (Nat.not_lt_zero j)⟩, ⟨⟨⟨?_, by omega⟩, ⟨⟨by omega, ?_, fun k hk => absurd hk (Nat.not_lt_zero k)⟩, ⟨by omega, ?_, fun k hk => absurd hk (Nat.not_lt_zero k)⟩, ?_, ?_⟩, Or.inl ?_, ?_⟩, fun j hj => absurd hj (Nat.not_lt_zero j)⟩⟩, ⟨0, by omega, ?_, ?_, fun k hk => absurd hk (Nat.not_lt_zero k), ?_⟩, fun k hk => ?_⟩
  · exact hz _ _ (by omega) (by omega)
  · exact hz _ _ (by omega) (by omega)
  · exact hz _ _ (by omega) (by omega)
  · exact hz _ _ (by omega) (by omega)
  · exact hz _ _ (by omega) (by omega)
  · exact hz _ _ (by omega) (by omega)
  · exact hz _ _ (by omega) (by omega)
  · exact hz _ _ (by omega) (by omega)
  · exact decide_eq_false (Nat.not_lt_zero p)
  · exact hz _ _ (by omega) (by omega)
  · exact hz _ _ (by omega) (by omega)
  · exact hz _ _ (by omega) (by omega)
  · exact hz _ _ (by omega) (by omega)
  · exact hz _ _ (by omega) (by omega)
  · exact hz _ _ (by omega) (by omega)
  · exact hz _ _ (by omega) (by omega)
  · exact hz _ _ (by omega) (by omega)
  · exact h9
  · exact hz _ _ (by omega) (by omega)
  · exact hz _ _ (by omega) (by omega)
  · exact hz _ _ (by omega) (by omega)
  · exact h6.trans h15.symm
  · rw [hz _ _ (by omega) (by omega)]; decide
end
