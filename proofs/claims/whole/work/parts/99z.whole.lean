section
/-! THE START of the law, and the claim -/
def m0 (i : Nat) : Nat → Int32 := if i = 0 then (fun j => if j = 6 then -1 else 0) else if i = 170 then (fun j => if j = 9 then -1 else if j = 15 then -1 else 0) else fun _ => 0
def M0 (g : fm_G) : fm_Mem := fun a => m0 (a - g.1)
theorem wA_M0 (g : fm_G) : wA g.1 (M0 g) 0 := by
  refine wA_0 (fun b j h1 h2 => ?_) ?_ ?_ ?_
  · unfold M0 m0
    by_cases c1 : b - g.1 = 0
    · rw [if_pos c1]
      by_cases c2 : j = 6
      · exact absurd (Or.inl ⟨by omega, c2⟩) h2
      · exact if_neg c2
    · rw [if_neg c1]
      by_cases c2 : b - g.1 = 170
      · rw [if_pos c2]
        by_cases c3 : j = 9
        · exact absurd (Or.inr ⟨by omega, Or.inl c3⟩) h2
        · by_cases c4 : j = 15
          · exact absurd (Or.inr ⟨by omega, Or.inr c4⟩) h2
          · exact (if_neg c3).trans (if_neg c4)
      · rw [if_neg c2]
  · show m0 (g.1 - g.1) 6 = -1
    rw [Nat.sub_self]; decide
  · show m0 (g.1 + 170 - g.1) 9 = -1
    rw [Nat.add_sub_cancel_left]; decide
  · show m0 (g.1 + 170 - g.1) 15 = -1
    rw [Nat.add_sub_cancel_left]; decide
def kcell (g : fm_G) (k a : Nat) (f : Nat → Int32) : va_E :=
  if k < 8 then .inr (k, fm_vals a f (fm_fld k))
  else if k = 8 then .inl (g.2.2.1.2.1, 8, .inr (.inr (.inr (.inr (fun j => some (a + 1 + 16 * j))))))
  else if k = 9 then .inl (g.2.2.1.2.2.1, 1, .inr (.inl (fun _ => 0)))
  else if k = 10 then .inl (g.2.2.1.2.2.2, 1, .inr (.inr (.inr (.inl (fun _ => 0)))))
  else .inl (g.2.2.1.1, k - 100, .inl f)
theorem fm_cell_0 (g : fm_G) (i : Nat) : fm_cell g (M0 g, 0, 0) (g.1 + i) = kcell g (fm_tab.getD i 9999) (g.1 + i) (m0 i) := by
  unfold fm_cell kcell
  rw [fm_kd_i]
  have e : M0 g (g.1 + i) = m0 i := by unfold M0; rw [Nat.add_sub_cancel_left]
  dsimp only
  rw [e]
def esAll (g : fm_G) : List va_E := ctE g g.1 8 (-1) ++ e_X7 g (g.1 + 170) ++ [.inl (g.2.2.1.2.2.1, 1, .inr (.inl (fun _ => 0)))] ++ [.inl (g.2.2.1.2.2.2, 1, .inr (.inr (.inr (.inl (fun _ => 0)))))]
set_option maxRecDepth 100000 in
set_option maxHeartbeats 4000000 in
theorem esAll_set (g : fm_G) : (esAll g).set 41 (kcell g 8 (g.1 + 41) (m0 41)) = (List.range 179).map (fun i => kcell g (fm_tab.getD i 9999) (g.1 + i) (m0 i)) := rfl
theorem esAll_i (g : fm_G) (i : Nat) (hi : i < 179) (h : i ≠ 41) : (esAll g)[i]? = some (kcell g (fm_tab.getD i 9999) (g.1 + i) (m0 i)) := by
  have e : ((esAll g).set 41 (kcell g 8 (g.1 + 41) (m0 41)))[i]? = some (kcell g (fm_tab.getD i 9999) (g.1 + i) (m0 i)) := by
    rw [esAll_set, List.getElem?_map, List.getElem?_range hi]
    rfl
  rw [List.getElem?_set, if_neg (fun z => h z.symm)] at e
  exact e
theorem esAll_41 (g : fm_G) : (esAll g)[41]? = some (.inl (g.2.2.1.2.1, 8, .inr (.inr (.inr (.inr (ctF g.1 8)))))) := by
  unfold esAll
  rw [List.getElem?_append_left (by rw [List.length_append, List.length_append, ctE_len]; omega), List.getElem?_append_left (by rw [List.length_append, ctE_len]; omega), List.getElem?_append_left (by rw [ctE_len]; omega)]
  exact ctE_41 g g.1 8 (-1)
theorem fm_P0 {g : fm_G} {H : Heap} (hP : va_P g.2.1 vwCl (wsOf g.1 (esAll g)) H) : fm_P g (M0 g, 0, 0) H := by
  intro k qq hk
  rw [fm_ws_i] at hk
  split at hk
  · next h179 =>
    cases hk
    by_cases c : k = 41
    · subst c
      have h := hP 41 _ (wsOf_at (esAll_41 g))
      have h' : H[g.1 + 41]? = some (vp_cell g.2.2.1.2.1 (8, .inr (.inr (.inr (.inr (ctF g.1 8)))))) := h
      rw [fm_cell_0]
      show H[g.1 + 41]? = some (vp_cell g.2.2.1.2.1 (8, .inr (.inr (.inr (.inr (fun j => some (g.1 + 41 + 1 + 16 * j)))))))
      rw [h', vp_cell_q, vp_cell_q]
      exact congrArg some (arrV_cg (fun j hj => by
        unfold ctF
        rw [if_pos hj, show g.1 + (42 + 16 * j) = g.1 + 41 + 1 + 16 * j by omega]))
    · have h := hP k _ (wsOf_at (esAll_i g k h179 c))
      rw [fm_cell_0]
      exact h
  · cases hk
section LST
variable {g : fm_G} {l : Launch} {b L : Nat} {xs : Nat → Int32}
theorem TS.go {cells slots : Nat} {lv : List (Nat × Value)} {pc : Nat} (kk : TL g l b L xs pc lv [] (M0 g, 0, 0) cells slots) : TS g l b L xs pc lv [] (esAll g) [(g.2.2.1.1, .int), (g.2.2.1.2.1, .object "CircleFlips$Plane"), (g.2.2.1.1, .int), (g.2.2.1.2.2.1, .long), (g.2.2.1.2.2.2, .double)] cells slots := by
  intro p e s m below meth c H locs ls hX hsz hP hK hS hv
  obtain ⟨h1, h2, h3, h4, h5, h6, h7, h8, h9⟩ := hX
  exact kk p e s m below meth c H locs ls ⟨h1, h2, h3, h4, hK.sub [0, 1, 3, 4] rfl, h8, h9⟩ (fm_P0 hP) hS hv
theorem len77 (g : fm_G) : (ctE g g.1 8 (-1) ++ e_X7 g (g.1 + 170)).length = 177 := by
  rw [List.length_append, ctE_len]; rfl
theorem len78 (g : fm_G) (e : va_E) : (ctE g g.1 8 (-1) ++ e_X7 g (g.1 + 170) ++ [e]).length = 178 := by
  rw [List.length_append, len77]; rfl
set_option maxHeartbeats 4000000 in
theorem law_start (hl : l.stackTraces = false) (hL : L ≤ 3072) : TS g l b L xs 0 [(0, .ref b)] [] [] [] 0 0 := by
  refine TS.new (fs := [.null, .null, .null, .null, .int 0, .int 0, .int 0]) o_s fmc6 rfl (lw_in 115 (by decide +kernel) (by decide +kernel)) (lw_in 116 (by decide +kernel) (by decide +kernel)) (lw_in 91 (by decide +kernel) (by decide +kernel)) bn_X6_init (Nat.le_of_ble_eq_true rfl) (Nat.le_of_ble_eq_true rfl) (?_ : TS g l b L xs 3 [(0, .ref b)] [.ref g.1] ([] ++ [.inr (6, [.null, .null, .null, .null, .int 0, .int 0, .int 0])]) [] (0 + 1) (0 + 7))
  refine TS.run o_s 1 (pc' := 4) (lv' := [(0, .ref b)]) (st' := [.ref g.1, .ref g.1]) rfl ?_
  refine TS.call (es := []) (av := []) (rest := [.ref g.1]) o_s (n_X6 g l g.1) rfl cw_X6_init rfl rfl ci_X6_init (lw_in 117 (by decide +kernel) (by decide +kernel)) pn_X6_init (Nat.le_of_ble_eq_true rfl) (Nat.le_of_ble_eq_true rfl) (Nat.le_of_ble_eq_true rfl) (Nat.le_of_ble_eq_true rfl) (Nat.le_of_ble_eq_true rfl) rfl (?_ : TS g l b L xs 7 [(0, .ref b)] [.ref g.1] (ctE g g.1 8 (-1)) [(g.2.2.1.1, .int), (g.2.2.1.2.1, .object "CircleFlips$Plane")] (0 + 1 + 169) (0 + 7 + 9766))
  refine TS.run o_s 1 (pc' := 8) (lv' := [(1, .ref g.1), (0, .ref b)]) (st' := []) rfl ?_
  refine TS.new (fs := [.int 0, .null, .null, .int 0, .int 0, .null, .null, .null, .int 0, .int 0, .null, .int 0, .int 0, .int 0, .int 0, .int 0, .int 0, .int 0, .int 0]) o_s fmc7 rfl (lw_in 1018 (by decide +kernel) (by decide +kernel)) (lw_in 1019 (by decide +kernel) (by decide +kernel)) (lw_in 99 (by decide +kernel) (by decide +kernel)) bn_X7_init (Nat.le_of_ble_eq_true rfl) (Nat.le_of_ble_eq_true rfl) ?_
  refine TS.run o_s 1 (pc' := 12) (lv' := [(1, .ref g.1), (0, .ref b)]) (st' := [.ref (g.1 + (ctE g g.1 8 (-1)).length), .ref (g.1 + (ctE g g.1 8 (-1)).length)]) rfl ?_
  have hc7 : nC g l z_X7_init (g.1 + (ctE g g.1 8 (-1)).length) [] (.inr (7, [.int 0, .null, .null, .int 0, .int 0, .null, .null, .null, .int 0, .int 0, .null, .int 0, .int 0, .int 0, .int 0, .int 0, .int 0, .int 0, .int 0])) (e_X7 g (g.1 + 170)) [(g.2.2.1.1, .int)] 6 2680 := by
    rw [ctE_len]
    exact n_X7 g l (g.1 + 170)
  refine TS.call (av := []) (rest := [.ref (g.1 + (ctE g g.1 8 (-1)).length)]) o_s hc7 rfl cw_X7_init rfl rfl ci_X7_init (lw_in 1020 (by decide +kernel) (by decide +kernel)) pn_X7_init (Nat.le_of_ble_eq_true rfl) (Nat.le_of_ble_eq_true rfl) (Nat.le_of_ble_eq_true rfl) (Nat.le_of_ble_eq_true rfl) (Nat.le_of_ble_eq_true rfl) rfl ?_
  rw [ctE_len]
  refine TS.run o_s 2 (pc' := 17) (lv' := [(2, .ref (g.1 + 170)), (1, .ref g.1), (0, .ref b)]) (st' := [.int 1]) rfl ?_
  refine TS.newa (at0 := .long) (N := 1) (ty := .long) (a0 := (1, .inr (.inl (fun _ => 0)))) (id := g.2.2.1.2.2.1) o_s rfl w_arrJ rfl (fun _ => rfl) (fun s h c hc => h.1 c hc) (by decide) (by decide) (Nat.le_of_ble_eq_true rfl) (fun s cA h => h) (Nat.le_of_ble_eq_true rfl) (Nat.le_of_ble_eq_true rfl) ?_
  rw [len77]
  refine TS.run o_s 2 (pc' := 21) (lv' := [(3, .ref (g.1 + 177)), (2, .ref (g.1 + 170)), (1, .ref g.1), (0, .ref b)]) (st' := [.int 1]) rfl ?_
  refine TS.newa (at0 := .double) (N := 1) (ty := .double) (a0 := (1, .inr (.inr (.inr (.inl (fun _ => 0)))))) (id := g.2.2.1.2.2.2) o_s rfl w_arrD rfl (fun _ => rfl) (fun s h c hc => h.2 c hc) (by decide) (by decide) (Nat.le_of_ble_eq_true rfl) (fun s cA h => h) (Nat.le_of_ble_eq_true rfl) (Nat.le_of_ble_eq_true rfl) ?_
  rw [len78]
  refine TS.run o_s 3 (pc' := 28) (lv' := llv g b (6 * 0)) (st' := []) rfl ?_
  refine TS.go ?_
  exact law_loop hl hL 513 0 _ rfl (Nat.zero_le _) (wA_M0 g)
end LST
theorem isN_on {w : Cond} (h : fm_isN w = true) : w.onTables = true := by
  unfold fm_isN at h
  split at h
  · rfl
  · rfl
  · rfl
  · rfl
  · cases h
theorem nt_l {l : Launch} (h : l.flags = flags0) : l.stackTraces = false := by
  unfold Launch.stackTraces
  rw [h]
  decide +kernel
theorem one_id {o : Option ClassId} (d : ClassId) : ∃ id : ClassId, ∀ c, o = some c → c = id := by
  cases o with
  | none => exact ⟨d, fun c h => by cases h⟩
  | some x => exact ⟨x, fun c h => by cases h; rfl⟩
theorem vk_1 {n : Nat} {by1 : List Int32} {adK adV : Nat → Nat} {A : Nat → Prop} {U : State} {H : Heap} (h : vk_S 1 [n] [by1] adK adV A U H) : vk_S 1 [n] [by1] (fun _ => adK 0) (fun _ => adV 0) A U H := ⟨fun i hi => by
  rcases (show i = 0 by omega) with rfl
  exact h.1 0 (by decide), fun i j hi hj _ => by omega⟩
section WS
variable {s : State} {b : Nat}
theorem str0 (hgv : (Jvm.Cond.and given_1 narrow_1).before #[Value.ref b] s = true) : ∃ adK adV : Nat, vk_S 1 [5] [[112, 108, 97, 110, 101]] (fun _ => adK) (fun _ => adV) (fun q => s.heap.size ≤ q) s s.heap ∧ (Term.string "CircleFlips$Setup" 135).eval #[Value.ref b] s none [] s = some (.ref adK) := by
  have hs := flat_of_before _ hgv
  obtain ⟨adK, adV, h1, h2⟩ := vk_Sof (args := #[Value.ref b]) (s := s) (N := 1) (tm := fun _ => Term.string "CircleFlips$Setup" 135) (len := [5]) (byt := [[112, 108, 97, 110, 101]]) (A := fun q => s.heap.size ≤ q)
    (fun i hi => by rcases (show i = 0 by omega) with rfl; decide) (fun i hi => hs (Cond.exactly (Term.string "CircleFlips$Setup" 135) "java/lang/String") (by decide +kernel)) (fun i hi => hs (Cond.eq (.field (Term.string "CircleFlips$Setup" 135) "java/lang/String" "coder" "B") (.int 0)) (by decide +kernel)) (fun i hi => hs (Cond.arrayOf (.field (Term.string "CircleFlips$Setup" 135) "java/lang/String" "value" "[B") .byte) (by decide +kernel))
    (fun i hi => by rcases (show i = 0 by omega) with rfl; exact hs (Cond.eq (.length (.field (Term.string "CircleFlips$Setup" 135) "java/lang/String" "value" "[B")) (.int 5)) (by decide +kernel))
    (fun i hi j hj => by
      rcases (show i = 0 by omega) with rfl
      have hj : j < 5 := hj
      rcases (show j = 0 ∨ j = 1 ∨ j = 2 ∨ j = 3 ∨ j = 4 by omega) with rfl | rfl | rfl | rfl | rfl
      · exact hs (Cond.eq (.elem (.field (Term.string "CircleFlips$Setup" 135) "java/lang/String" "value" "[B") (.int 0)) (.int 112)) (by decide +kernel)
      · exact hs (Cond.eq (.elem (.field (Term.string "CircleFlips$Setup" 135) "java/lang/String" "value" "[B") (.int 1)) (.int 108)) (by decide +kernel)
      · exact hs (Cond.eq (.elem (.field (Term.string "CircleFlips$Setup" 135) "java/lang/String" "value" "[B") (.int 2)) (.int 97)) (by decide +kernel)
      · exact hs (Cond.eq (.elem (.field (Term.string "CircleFlips$Setup" 135) "java/lang/String" "value" "[B") (.int 3)) (.int 110)) (by decide +kernel)
      · exact hs (Cond.eq (.elem (.field (Term.string "CircleFlips$Setup" 135) "java/lang/String" "value" "[B") (.int 4)) (.int 101)) (by decide +kernel))
    (fun i j hi hj h => by omega) (fun a ha => Nat.not_le.mpr ha)
  exact ⟨adK 0, adV 0, vk_1 h1, h2 0 (by decide)⟩
theorem str1 (hgv : (Jvm.Cond.and given_1 narrow_1).before #[Value.ref b] s = true) : ∃ adK adV : Nat, vk_S 1 [2] [[97, 116]] (fun _ => adK) (fun _ => adV) (fun q => s.heap.size ≤ q) s s.heap ∧ (Term.string "CircleFlips$Setup" 140).eval #[Value.ref b] s none [] s = some (.ref adK) := by
  have hs := flat_of_before _ hgv
  obtain ⟨adK, adV, h1, h2⟩ := vk_Sof (args := #[Value.ref b]) (s := s) (N := 1) (tm := fun _ => Term.string "CircleFlips$Setup" 140) (len := [2]) (byt := [[97, 116]]) (A := fun q => s.heap.size ≤ q)
    (fun i hi => by rcases (show i = 0 by omega) with rfl; decide) (fun i hi => hs (Cond.exactly (Term.string "CircleFlips$Setup" 140) "java/lang/String") (by decide +kernel)) (fun i hi => hs (Cond.eq (.field (Term.string "CircleFlips$Setup" 140) "java/lang/String" "coder" "B") (.int 0)) (by decide +kernel)) (fun i hi => hs (Cond.arrayOf (.field (Term.string "CircleFlips$Setup" 140) "java/lang/String" "value" "[B") .byte) (by decide +kernel))
    (fun i hi => by rcases (show i = 0 by omega) with rfl; exact hs (Cond.eq (.length (.field (Term.string "CircleFlips$Setup" 140) "java/lang/String" "value" "[B")) (.int 2)) (by decide +kernel))
    (fun i hi j hj => by
      rcases (show i = 0 by omega) with rfl
      have hj : j < 2 := hj
      rcases (show j = 0 ∨ j = 1 by omega) with rfl | rfl
      · exact hs (Cond.eq (.elem (.field (Term.string "CircleFlips$Setup" 140) "java/lang/String" "value" "[B") (.int 0)) (.int 97)) (by decide +kernel)
      · exact hs (Cond.eq (.elem (.field (Term.string "CircleFlips$Setup" 140) "java/lang/String" "value" "[B") (.int 1)) (.int 116)) (by decide +kernel))
    (fun i j hi hj h => by omega) (fun a ha => Nat.not_le.mpr ha)
  exact ⟨adK 0, adV 0, vk_1 h1, h2 0 (by decide)⟩
theorem str2 (hgv : (Jvm.Cond.and given_1 narrow_1).before #[Value.ref b] s = true) : ∃ adK adV : Nat, vk_S 1 [4] [[102, 108, 105, 112]] (fun _ => adK) (fun _ => adV) (fun q => s.heap.size ≤ q) s s.heap ∧ (Term.string "CircleFlips$Setup" 142).eval #[Value.ref b] s none [] s = some (.ref adK) := by
  have hs := flat_of_before _ hgv
  obtain ⟨adK, adV, h1, h2⟩ := vk_Sof (args := #[Value.ref b]) (s := s) (N := 1) (tm := fun _ => Term.string "CircleFlips$Setup" 142) (len := [4]) (byt := [[102, 108, 105, 112]]) (A := fun q => s.heap.size ≤ q)
    (fun i hi => by rcases (show i = 0 by omega) with rfl; decide) (fun i hi => hs (Cond.exactly (Term.string "CircleFlips$Setup" 142) "java/lang/String") (by decide +kernel)) (fun i hi => hs (Cond.eq (.field (Term.string "CircleFlips$Setup" 142) "java/lang/String" "coder" "B") (.int 0)) (by decide +kernel)) (fun i hi => hs (Cond.arrayOf (.field (Term.string "CircleFlips$Setup" 142) "java/lang/String" "value" "[B") .byte) (by decide +kernel))
    (fun i hi => by rcases (show i = 0 by omega) with rfl; exact hs (Cond.eq (.length (.field (Term.string "CircleFlips$Setup" 142) "java/lang/String" "value" "[B")) (.int 4)) (by decide +kernel))
    (fun i hi j hj => by
      rcases (show i = 0 by omega) with rfl
      have hj : j < 4 := hj
      rcases (show j = 0 ∨ j = 1 ∨ j = 2 ∨ j = 3 by omega) with rfl | rfl | rfl | rfl
      · exact hs (Cond.eq (.elem (.field (Term.string "CircleFlips$Setup" 142) "java/lang/String" "value" "[B") (.int 0)) (.int 102)) (by decide +kernel)
      · exact hs (Cond.eq (.elem (.field (Term.string "CircleFlips$Setup" 142) "java/lang/String" "value" "[B") (.int 1)) (.int 108)) (by decide +kernel)
      · exact hs (Cond.eq (.elem (.field (Term.string "CircleFlips$Setup" 142) "java/lang/String" "value" "[B") (.int 2)) (.int 105)) (by decide +kernel)
      · exact hs (Cond.eq (.elem (.field (Term.string "CircleFlips$Setup" 142) "java/lang/String" "value" "[B") (.int 3)) (.int 112)) (by decide +kernel))
    (fun i j hi hj h => by omega) (fun a ha => Nat.not_le.mpr ha)
  exact ⟨adK 0, adV 0, vk_1 h1, h2 0 (by decide)⟩
theorem str3 (hgv : (Jvm.Cond.and given_1 narrow_1).before #[Value.ref b] s = true) : ∃ adK adV : Nat, vk_S 1 [5] [[112, 108, 97, 110, 101]] (fun _ => adK) (fun _ => adV) (fun q => s.heap.size ≤ q) s s.heap ∧ (Term.string "CircleFlipsModel" 233).eval #[Value.ref b] s none [] s = some (.ref adK) := by
  have hs := flat_of_before _ hgv
  obtain ⟨adK, adV, h1, h2⟩ := vk_Sof (args := #[Value.ref b]) (s := s) (N := 1) (tm := fun _ => Term.string "CircleFlipsModel" 233) (len := [5]) (byt := [[112, 108, 97, 110, 101]]) (A := fun q => s.heap.size ≤ q)
    (fun i hi => by rcases (show i = 0 by omega) with rfl; decide) (fun i hi => hs (Cond.exactly (Term.string "CircleFlipsModel" 233) "java/lang/String") (by decide +kernel)) (fun i hi => hs (Cond.eq (.field (Term.string "CircleFlipsModel" 233) "java/lang/String" "coder" "B") (.int 0)) (by decide +kernel)) (fun i hi => hs (Cond.arrayOf (.field (Term.string "CircleFlipsModel" 233) "java/lang/String" "value" "[B") .byte) (by decide +kernel))
    (fun i hi => by rcases (show i = 0 by omega) with rfl; exact hs (Cond.eq (.length (.field (Term.string "CircleFlipsModel" 233) "java/lang/String" "value" "[B")) (.int 5)) (by decide +kernel))
    (fun i hi j hj => by
      rcases (show i = 0 by omega) with rfl
      have hj : j < 5 := hj
      rcases (show j = 0 ∨ j = 1 ∨ j = 2 ∨ j = 3 ∨ j = 4 by omega) with rfl | rfl | rfl | rfl | rfl
      · exact hs (Cond.eq (.elem (.field (Term.string "CircleFlipsModel" 233) "java/lang/String" "value" "[B") (.int 0)) (.int 112)) (by decide +kernel)
      · exact hs (Cond.eq (.elem (.field (Term.string "CircleFlipsModel" 233) "java/lang/String" "value" "[B") (.int 1)) (.int 108)) (by decide +kernel)
      · exact hs (Cond.eq (.elem (.field (Term.string "CircleFlipsModel" 233) "java/lang/String" "value" "[B") (.int 2)) (.int 97)) (by decide +kernel)
      · exact hs (Cond.eq (.elem (.field (Term.string "CircleFlipsModel" 233) "java/lang/String" "value" "[B") (.int 3)) (.int 110)) (by decide +kernel)
      · exact hs (Cond.eq (.elem (.field (Term.string "CircleFlipsModel" 233) "java/lang/String" "value" "[B") (.int 4)) (.int 101)) (by decide +kernel))
    (fun i j hi hj h => by omega) (fun a ha => Nat.not_le.mpr ha)
  exact ⟨adK 0, adV 0, vk_1 h1, h2 0 (by decide)⟩
theorem str4 (hgv : (Jvm.Cond.and given_1 narrow_1).before #[Value.ref b] s = true) : ∃ adK adV : Nat, vk_S 1 [2] [[97, 116]] (fun _ => adK) (fun _ => adV) (fun q => s.heap.size ≤ q) s s.heap ∧ (Term.string "CircleFlipsModel" 242).eval #[Value.ref b] s none [] s = some (.ref adK) := by
  have hs := flat_of_before _ hgv
  obtain ⟨adK, adV, h1, h2⟩ := vk_Sof (args := #[Value.ref b]) (s := s) (N := 1) (tm := fun _ => Term.string "CircleFlipsModel" 242) (len := [2]) (byt := [[97, 116]]) (A := fun q => s.heap.size ≤ q)
    (fun i hi => by rcases (show i = 0 by omega) with rfl; decide) (fun i hi => hs (Cond.exactly (Term.string "CircleFlipsModel" 242) "java/lang/String") (by decide +kernel)) (fun i hi => hs (Cond.eq (.field (Term.string "CircleFlipsModel" 242) "java/lang/String" "coder" "B") (.int 0)) (by decide +kernel)) (fun i hi => hs (Cond.arrayOf (.field (Term.string "CircleFlipsModel" 242) "java/lang/String" "value" "[B") .byte) (by decide +kernel))
    (fun i hi => by rcases (show i = 0 by omega) with rfl; exact hs (Cond.eq (.length (.field (Term.string "CircleFlipsModel" 242) "java/lang/String" "value" "[B")) (.int 2)) (by decide +kernel))
    (fun i hi j hj => by
      rcases (show i = 0 by omega) with rfl
      have hj : j < 2 := hj
      rcases (show j = 0 ∨ j = 1 by omega) with rfl | rfl
      · exact hs (Cond.eq (.elem (.field (Term.string "CircleFlipsModel" 242) "java/lang/String" "value" "[B") (.int 0)) (.int 97)) (by decide +kernel)
      · exact hs (Cond.eq (.elem (.field (Term.string "CircleFlipsModel" 242) "java/lang/String" "value" "[B") (.int 1)) (.int 116)) (by decide +kernel))
    (fun i j hi hj h => by omega) (fun a ha => Nat.not_le.mpr ha)
  exact ⟨adK 0, adV 0, vk_1 h1, h2 0 (by decide)⟩
theorem str5 (hgv : (Jvm.Cond.and given_1 narrow_1).before #[Value.ref b] s = true) : ∃ adK adV : Nat, vk_S 1 [4] [[102, 108, 105, 112]] (fun _ => adK) (fun _ => adV) (fun q => s.heap.size ≤ q) s s.heap ∧ (Term.string "CircleFlipsModel" 247).eval #[Value.ref b] s none [] s = some (.ref adK) := by
  have hs := flat_of_before _ hgv
  obtain ⟨adK, adV, h1, h2⟩ := vk_Sof (args := #[Value.ref b]) (s := s) (N := 1) (tm := fun _ => Term.string "CircleFlipsModel" 247) (len := [4]) (byt := [[102, 108, 105, 112]]) (A := fun q => s.heap.size ≤ q)
    (fun i hi => by rcases (show i = 0 by omega) with rfl; decide) (fun i hi => hs (Cond.exactly (Term.string "CircleFlipsModel" 247) "java/lang/String") (by decide +kernel)) (fun i hi => hs (Cond.eq (.field (Term.string "CircleFlipsModel" 247) "java/lang/String" "coder" "B") (.int 0)) (by decide +kernel)) (fun i hi => hs (Cond.arrayOf (.field (Term.string "CircleFlipsModel" 247) "java/lang/String" "value" "[B") .byte) (by decide +kernel))
    (fun i hi => by rcases (show i = 0 by omega) with rfl; exact hs (Cond.eq (.length (.field (Term.string "CircleFlipsModel" 247) "java/lang/String" "value" "[B")) (.int 4)) (by decide +kernel))
    (fun i hi j hj => by
      rcases (show i = 0 by omega) with rfl
      have hj : j < 4 := hj
      rcases (show j = 0 ∨ j = 1 ∨ j = 2 ∨ j = 3 by omega) with rfl | rfl | rfl | rfl
      · exact hs (Cond.eq (.elem (.field (Term.string "CircleFlipsModel" 247) "java/lang/String" "value" "[B") (.int 0)) (.int 102)) (by decide +kernel)
      · exact hs (Cond.eq (.elem (.field (Term.string "CircleFlipsModel" 247) "java/lang/String" "value" "[B") (.int 1)) (.int 108)) (by decide +kernel)
      · exact hs (Cond.eq (.elem (.field (Term.string "CircleFlipsModel" 247) "java/lang/String" "value" "[B") (.int 2)) (.int 105)) (by decide +kernel)
      · exact hs (Cond.eq (.elem (.field (Term.string "CircleFlipsModel" 247) "java/lang/String" "value" "[B") (.int 3)) (.int 112)) (by decide +kernel))
    (fun i j hi hj h => by omega) (fun a ha => Nat.not_le.mpr ha)
  exact ⟨adK 0, adV 0, vk_1 h1, h2 0 (by decide)⟩
end WS
set_option maxHeartbeats 4000000 in
set_option maxRecDepth 100000 in
theorem whole_start {p : Program} {e : Env} {s : State} {m : MethodId} {below : List Frame} {meth : Method} {c : Code} (l : Launch) (hflags : l.flags = flags0) {b L : Nat} {xs : Nat → Int32} (hL : L ≤ 3072) (C0 : lw_At p s m meth c b L xs) : W p l e room_1 s m #[Value.ref b] below meth c s.heap [] 0 0 (lw_Z below #[Value.ref b] s) (entryFrame m ([Value.ref b] : List Value).toArray 10) := by
  obtain ⟨hx, hb, hr, hml, hown, hts0, hX, hbl, hlocks, hgv⟩ := id C0
  have hts : ∀ w ∈ lw_all, w.before #[Value.ref b] s = true := fun w h => hts0 w (lw_allin w h)
  have hs := flat_of_before _ hgv
  have hA : ∀ a : Nat, a < s.heap.size → ¬ s.heap.size ≤ a := fun a ha => Nat.not_le.mpr ha
  obtain ⟨c0, iS0, hK0⟩ := u_known (C := RX0) (T := TX0) (N := 4) (n := 4) hts uX0 (hts (.instantiable RX0 4) (lw_in 246 (by decide +kernel) (by decide +kernel)))
  obtain ⟨c1, iS1, hK1⟩ := u_known (C := RX1) (T := TX1) (N := 3) (n := 3) hts uX1 (hts (.instantiable RX1 3) (lw_in 168 (by decide +kernel) (by decide +kernel)))
  obtain ⟨c2, iS2, hK2⟩ := u_known (C := RX2) (T := TX2) (N := 5) (n := 5) hts uX2 (hts (.instantiable RX2 5) (lw_in 144 (by decide +kernel) (by decide +kernel)))
  obtain ⟨c3, iS3, hK3⟩ := u_known (C := RX3) (T := TX3) (N := 3) (n := 3) hts uX3 (hts (.instantiable RX3 3) (lw_in 150 (by decide +kernel) (by decide +kernel)))
  obtain ⟨c4, iS4, hK4⟩ := u_known (C := RX4) (T := TX4) (N := 1) (n := 1) hts uX4 (hts (.instantiable RX4 1) (lw_in 130 (by decide +kernel) (by decide +kernel)))
  obtain ⟨c5, iS5, hK5⟩ := u_known (C := RX5) (T := TX5) (N := 11) (n := 11) hts uX5 (hts (.instantiable RX5 11) (lw_in 124 (by decide +kernel) (by decide +kernel)))
  obtain ⟨c6, iS6, hK6⟩ := u_known (C := RX6) (T := TX6) (N := 7) (n := 7) hts uX6 (hts (.instantiable RX6 7) (lw_in 116 (by decide +kernel) (by decide +kernel)))
  obtain ⟨c7, iS7, hK7⟩ := u_known (C := RX7) (T := TX7) (N := 19) (n := 19) hts uX7 (hts (.instantiable RX7 19) (lw_in 1019 (by decide +kernel) (by decide +kernel)))
  obtain ⟨dC, dI, hKc⟩ : ∃ (dC : Nat → ClassId) (dI : Nat → Nat → Nat), ∀ (k : Nat) (q : vw_C), vwCl[k]? = some q → u_Kn s q.1 q.2.1 q.2.2 (dC k) (dI k) := by
    refine ⟨fun k => if k = 0 then c0 else if k = 1 then c1 else if k = 2 then c2 else if k = 3 then c3 else if k = 4 then c4 else if k = 5 then c5 else if k = 6 then c6 else c7, fun k => if k = 0 then iS0 else if k = 1 then iS1 else if k = 2 then iS2 else if k = 3 then iS3 else if k = 4 then iS4 else if k = 5 then iS5 else if k = 6 then iS6 else iS7, ?_⟩
    intro k q hq
    match k, hq with
    | 0, hq => cases hq; exact hK0
    | 1, hq => cases hq; exact hK1
    | 2, hq => cases hq; exact hK2
    | 3, hq => cases hq; exact hK3
    | 4, hq => cases hq; exact hK4
    | 5, hq => cases hq; exact hK5
    | 6, hq => cases hq; exact hK6
    | 7, hq => cases hq; exact hK7
    | k + 8, hq => simp [vwCl] at hq
  obtain ⟨idI, hI⟩ := one_id (o := s.vm.findClass ("[" ++ FieldType.int.toString)) m.cls
  obtain ⟨idP, hPl⟩ := one_id (o := s.vm.findClass ("[" ++ (FieldType.object "CircleFlips$Plane").toString)) m.cls
  obtain ⟨idJ, hJ⟩ := one_id (o := s.vm.findClass ("[" ++ FieldType.long.toString)) m.cls
  obtain ⟨idD, hD⟩ := one_id (o := s.vm.findClass ("[" ++ FieldType.double.toString)) m.cls
  obtain ⟨a0, v0, hS0, hE0⟩ := str0 hgv
  obtain ⟨a1, v1, hS1, hE1⟩ := str1 hgv
  obtain ⟨a2, v2, hS2, hE2⟩ := str2 hgv
  obtain ⟨a3, v3, hS3, hE3⟩ := str3 hgv
  obtain ⟨a4, v4, hS4, hE4⟩ := str4 hgv
  obtain ⟨a5, v5, hS5, hE5⟩ := str5 hgv
  obtain ⟨adK, hadK⟩ : ∃ f : Nat → Nat, f = fun i => [a0, a1, a2, a3, a4, a5].getD i 0 := ⟨_, rfl⟩
  obtain ⟨adV, hadV⟩ : ∃ f : Nat → Nat, f = fun i => [v0, v1, v2, v3, v4, v5].getD i 0 := ⟨_, rfl⟩
  have hE : fm_E (s.heap.size, (dC, dI), (idI, idP, idJ, idD), adK, adV) s s.heap := by
    subst hadK
    subst hadV
    refine ⟨vx_Zqof (hts0 _ (List.mem_of_getElem? (i := 485) (by decide +kernel))) (hts _ (lw_in 100 (by decide +kernel) (by decide +kernel))) (hs _ (by decide +kernel)) hA, vx_Zqof (hts0 _ (List.mem_of_getElem? (i := 487) (by decide +kernel))) (hts _ (lw_in 100 (by decide +kernel) (by decide +kernel))) (hs _ (by decide +kernel)) hA, va_Zof (hts0 _ (List.mem_of_getElem? (i := 693) (by decide +kernel))) (hts _ (lw_in 104 (by decide +kernel) (by decide +kernel))) (va_eqt (hs (Cond.eq (.static "java/lang/String" "COMPACT_STRINGS" "Z") (.int 1)) (by decide +kernel))) hA, va_Zqof (hts0 _ (List.mem_of_getElem? (i := 709) (by decide +kernel))) (hts _ (lw_in 106 (by decide +kernel) (by decide +kernel))) (hs _ (by decide +kernel)) hA, fun i hi => ?_, fun i q hq => ?_, fun w hw hn => va_Nw.of (isN_on hn) (hts0 w hw)⟩
    · rcases (show i = 0 ∨ i = 1 ∨ i = 2 ∨ i = 3 ∨ i = 4 ∨ i = 5 by omega) with rfl | rfl | rfl | rfl | rfl | rfl
      · exact hS0
      · exact hS1
      · exact hS2
      · exact hS3
      · exact hS4
      · exact hS5
    · match i, hq with
      | 0, hq => cases hq; exact vk_R.of (hts0 _ (List.mem_of_getElem? (i := 679) (by decide +kernel))) hE0
      | 1, hq => cases hq; exact vk_R.of (hts0 _ (List.mem_of_getElem? (i := 732) (by decide +kernel))) hE1
      | 2, hq => cases hq; exact vk_R.of (hts0 _ (List.mem_of_getElem? (i := 733) (by decide +kernel))) hE2
      | 3, hq => cases hq; exact vk_R.of (hts0 _ (List.mem_of_getElem? (i := 1117) (by decide +kernel))) hE3
      | 4, hq => cases hq; exact vk_R.of (hts0 _ (List.mem_of_getElem? (i := 1143) (by decide +kernel))) hE4
      | 5, hq => cases hq; exact vk_R.of (hts0 _ (List.mem_of_getElem? (i := 1172) (by decide +kernel))) hE5
      | i + 6, hq => simp [fm_strs] at hq
  have hN : nX s := fun a b h1 h2 h3 => by
    rcases (show a = 0 ∨ a = 1 ∨ a = 2 ∨ a = 3 by omega) with rfl | rfl | rfl | rfl <;> rcases (show b = 0 ∨ b = 1 ∨ b = 2 ∨ b = 3 by omega) with rfl | rfl | rfl | rfl <;> first | exact absurd rfl h3 | exact va_Nc.of (hs _ (by decide +kernel))
  have hG : nG (s.heap.size, (dC, dI), (idI, idP, idJ, idD), adK, adV) s := ⟨hI, hPl, va_AO.of (hts0 (.arrayOver (.object "CircleFlips$Plane")) (List.mem_of_getElem? (i := 266) (by decide +kernel)))⟩
  have hl := lv_entry ([.ref b]) (n := 10) (Nat.le_of_ble_eq_true rfl)
  rw [lg_entry_eq]
  exact law_start (g := (s.heap.size, (dC, dI), (idI, idP, idJ, idD), adK, adV)) (xs := xs) (nt_l hflags) hL p e s m below meth c s.heap [] _ ⟨C0, hL, nt_l hflags, rfl, ⟨hKc, fun k q h => by simp at h⟩, hG, ⟨hJ, hD⟩, hE, hN⟩ rfl (fun k q h => by simp [wsOf] at h) ⟨hKc, fun k q h => by simp at h⟩ va_S.rf hl
end
set_option maxHeartbeats 4000000 in
theorem lw_walk (l : Launch) (hflags : l.flags = flags0) (b : Addr) (xs : List Int32) : MetFree l x (headSpec (Jvm.Cond.code x code maxLocals ret :: tables_1) room_1) (lw_P b xs) (fun _ _ _ _ _ => True) lw_Q := by
  refine MetFree.of_bodyS (code := code) (maxLocals := maxLocals) (ret := ret) (by decide) ?_ ?_
  · intro args s m h hn
    obtain ⟨meth, c, h1, h2, h3, h4, h5, h6, -, -⟩ := Cond.code_spec hn (atoms_spec (ws := Jvm.Cond.code x code maxLocals ret :: tables_1) h _ List.mem_cons_self)
    exact ⟨meth, c, h1, h2, h3, h4, h5, h6⟩
  · intro p e s m args below meth c s₁ B hml0 hP _
    obtain ⟨rfl, hx, hbd, hgv⟩ := hP
    obtain ⟨scr, harrAt, hlist, hof, hsmall⟩ := hx
    obtain ⟨hcb, hkn, -, -⟩ := State.arrayAt?_spec harrAt
    have hown : s.vm.findClass R_law = some m.cls := findClass_of_methodNamed B.named
    have hts0 : ∀ c ∈ (Jvm.Cond.code x code maxLocals ret :: tables_1), c.before #[Value.ref b] s = true := atoms_spec (ws := Jvm.Cond.code x code maxLocals ret :: tables_1) B.pre
    have hts : ∀ w ∈ lw_tbl, w.before #[Value.ref b] s = true := k2_hts_sels lw_privs (fun w hw => hts0 w (List.mem_cons_of_mem _ hw)) lw_privs_ok
    have hml : c.maxLocals = 10 := B.maxLocals_eq (hts0 _ List.mem_cons_self)
    have X₀ : Stand p l e room_1 s m #[Value.ref b] below meth c s₁ [] 0 0 := Stand.of_body B
    have hh0 : s₁.heap = s.heap := by rw [B.state]; rfl
    have hsz : scr.slots.size = xs.length := by rw [← Array.length_toList, hlist, List.length_map]
    have hval : ∀ j : Nat, j < xs.length → scr.slots[j]? = some (.int (xs.getD j 0)) := fun j hj => by
      rw [← Array.getElem?_toList, hlist]
      simp [hj]
    have hbl : b < s.heap.size := (Array.getElem?_eq_some_iff.mp hcb).1
    have hX : va_X b xs.length (fun j => xs.getD j 0) s s.heap := ⟨scr, hcb, hof, hkn, hsz, hval⟩
    have K : W p l e room_1 s m #[Value.ref b] below meth c s₁.heap [] 0 0 (lw_Z below #[Value.ref b] s) (entryFrame m ([Value.ref b] : List Value).toArray 10) := by
      rw [hh0]
      exact whole_start l hflags hbd ⟨B.exec, B.bytes, B.returns, hml, hown, hts, hX, hbl, B.notSynchronized, hgv⟩
    obtain ⟨t, a1, o, b1, b2, b3⟩ := K s₁ rfl X₀
    exact ⟨t, o, a1, b1, b2, b3⟩
theorem lw_pre_spec {args : Array Value} {s : State} (h : (Jvm.Cond.and given_1 narrow_1).before args s = true) (hr : rest_1_c.before args s = true) : ∃ (b : Addr) (xs : List Int32), lw_P b xs args s := by
  have hs := flat_of_before _ h
  have hq := flat_of_before _ hr
  have hc : (Cond.count 1).before args s = true := hs _ (by decide +kernel)
  have harr : (Cond.arrayOf (.arg 0) .int).before args s = true := hs _ (by decide +kernel)
  have hle : (Cond.le (.length (.arg 0)) (.int 3072)).before args s = true := hs _ (by decide +kernel)
  have hlen : (Cond.isInt (.length (.arg 0))).before args s = true := hq _ (by decide +kernel)
  have hall : (Cond.all (.arg 0) (.isInt (.elem (.arg 0) (.index 0)))).before args s = true := hq _ (by decide +kernel)
  obtain ⟨b, xs, hb, hx⟩ := State.ints_of_pre rfl harr hlen hall
  have hsm : xs.length < 2 ^ 31 := hx.choose_spec.2.2.2
  have hev : (Term.length (.arg 0)).eval args s none [] s = some (.int xs.length.toInt32) := hx.length_eval hb
  have hv := Cond.le_ints hev (show (Term.int 3072).eval args s none [] s = some (.int 3072) from rfl)
  have hd : xs.length.toInt32 ≤ 3072 := by
    simpa [Cond.before, Cond.holds, hv] using hle
  have hN : xs.length ≤ 3072 := (Int32.ofNat_le_ofNat hsm (by decide)).mp (show Int32.ofNat xs.length ≤ Int32.ofNat 3072 from hd)
  exact ⟨b, xs, Cond.one_arg hc (show args[0]? = some (.ref b) from hb), hx, hN, h⟩
theorem lw_comes (l : Launch) (hflags : l.flags = flags0) : Comes l x (Jvm.Cond.code x code maxLocals ret :: tables_1) room_1 (fun tb e args s => Calls_1 tb e args s ∧ rest_1 tb e args s ∧ Pre_1 tb e args s)
    (fun _ _ args s o t => lw_Q args s o t) := by
  intro p e ha hc hk s m args below hf hfit hheap happ hpre
  obtain ⟨b, xs, hP⟩ := lw_pre_spec hpre.2.2 hpre.2.1
  obtain ⟨k, o, h1, h2, h3, hQ⟩ := lw_walk l hflags b xs p e ha hc hk s m args below hf ((Spec.applies_iff_loose hf).mp happ).1 hP trivial
  exact ⟨k, o, h1, h2, h3, hQ⟩
theorem lw_frame {s t : State} {o : Outcome} {args : Array Value} (h : State.butDraws s t lw_cs (fun t1 => Framed s o t1 [] 601024 7293033)) :
    State.butDraws s t [Jvm.Choice.named "NaN.bits"] (fun t1 => Framed s o t1 (fieldLocs frame_1_writes args s ++ arrayLocs frame_1_arrays args s ++ staticLocs frame_1_statics s) 601024 7293033) := h
theorem lw_limb (L : Cond) (hL : ∀ (args : Array Value) (s t : State), L.after args s (.returned (some (.int 1))) t = true) :
    ArmFor flags0 classFile x code maxLocals ret World_1 tables_1 room_1 Calls_1 rest_1 Pre_1
      (fun tb e a s o t => postC L tb e a s o t ∧ State.butDraws s t [Jvm.Choice.named "NaN.bits"] (fun t1 => Framed s o t1 (fieldLocs frame_1_writes a s ++ arrayLocs frame_1_arrays a s ++ staticLocs frame_1_statics s) 601024 7293033)) := by
  intro l hflags _ _ p e ha hc hk s m args below hf hfit hheap happ hpre
  obtain ⟨k, o, h1, h2, h3, rfl, hF⟩ := lw_comes l hflags p e ha hc hk s m args below hf hfit hheap happ hpre
  exact ⟨k, _, h1, h2, h3, hL args s _, lw_frame hF⟩
theorem i_vc : Claimed_1_1 ∧ Claimed_1_2 := ⟨lw_limb limb_1_1 (fun args s t => by simp [limb_1_1, Cond.after, Cond.holds, Cond.value]), lw_limb limb_1_2 (fun args s t => Cond.after_iff.mpr (by
  first | (rw [show limb_1_2 = Cond.eq .result (.int 1) from rfl, Cond.eq_ints (x := 1) (y := 1) rfl rfl]; simp; done) | (simp [limb_1_2, Cond.value, Term.eval]; done)))⟩
