section
/-! THE LAW'S LOOP -/
def k_h : List (Nat × Instr × Nat) := [(28, .iload 5, 2), (30, .aload_n 0, 1), (31, .arraylength, 1), (32, .bipush 6, 2), (34, .isub, 1), (35, .if_icmp .gt 1472, 3), (38, .aload_n 0, 1), (39, .iload 5, 2), (41, .iaload, 1), (42, .bipush 31, 2), (44, .iand, 1), (45, .tableswitch 1456 0 23 #[111, 184, 240, 253, 309, 377, 473, 565, 633, 677, 745, 813, 869, 883, 897, 1002, 1058, 1101, 1169, 1225, 1305, 1373, 1429, 1442], 111), (1501, .iinc 5 6, 3), (1504, .goto (-1476), 3), (1507, .iconst 1, 1), (1508, .ireturn, 1)]
theorem o_h : kd k_h := (by decide +kernel : ∀ q ∈ k_h, decode code q.1 = .ok q.2)
theorem and31 (x : Int32) : ∃ n : Nat, n ≤ 31 ∧ x &&& 31 = iI (n : Int) := by
  have h1 : (x &&& 31).toBitVec.toNat ≤ 31 := by
    rw [Int32.toBitVec_and, BitVec.toNat_and]
    exact Nat.le_trans Nat.and_le_right (by decide)
  obtain ⟨z, hz, e⟩ := i_ex (x &&& 31)
  have h2 : (x &&& 31).toInt = ((x &&& 31).toBitVec.toNat : Int) := BitVec.toInt_eq_toNat_of_lt (by omega)
  have h3 : (x &&& 31).toInt = z := by rw [e, iI_t hz]
  exact ⟨z.toNat, by omega, by rw [e, show ((z.toNat : Nat) : Int) = z by omega]⟩
section LO
variable {g : fm_G} {l : Launch} {b L : Nat} {xs : Nat → Int32} {lv : List (Nat × Value)} {rest : List Value} {μ : fm_St} {cells slots k i : Nat}
theorem TL.swIn {n : Nat} {off : Int} {tgt : Nat} (hn : n ≤ 23) (ho : (#[111, 184, 240, 253, 309, 377, 473, 565, 633, 677, 745, 813, 869, 883, 897, 1002, 1058, 1101, 1169, 1225, 1305, 1373, 1429, 1442] : Array Int)[n]? = some off) (ht : ((45 : Nat) : Int) + off = (tgt : Int)) (kk : TL g l b L xs tgt lv rest μ cells slots) : TL g l b L xs 45 lv (.int (iI (n : Int)) :: rest) μ cells slots := by
  intro p e s m below meth c H locs ls hX hP hS hv
  have ht2 : (iI (n : Int)).toInt = n := iI_t (by omega)
  exact lv_tableIn (x := iI (n : Int)) hX.1.1 hX.1.2.1 (o_h.at (pc := 45) rfl) (by rw [ht2]; omega) (by rw [ht2]; omega) (by rw [ht2, show ((n : Int) - 0).toNat = n by omega]; exact ho) ht (kk p e s m below meth c H locs ls hX hP hS hv)
theorem TL.swOut {n : Nat} (hn : 24 ≤ n) (hn2 : n ≤ 31) (kk : TL g l b L xs 1501 lv rest μ cells slots) : TL g l b L xs 45 lv (.int (iI (n : Int)) :: rest) μ cells slots := by
  intro p e s m below meth c H locs ls hX hP hS hv
  have ht2 : (iI (n : Int)).toInt = n := iI_t (by omega)
  exact lv_tableOut (x := iI (n : Int)) hX.1.1 hX.1.2.1 (o_h.at (pc := 45) rfl) (Or.inr (by rw [ht2]; omega)) (by decide) (kk p e s m below meth c H locs ls hX hP hS hv)
set_option maxHeartbeats 4000000 in
theorem law_loop (hl : l.stackTraces = false) (hL : L ≤ 3072) : ∀ (n k : Nat) (μ : fm_St), k + n = 513 → 6 * k ≤ L → wA g.1 μ.1 k → TL g l b L xs 28 (llv g b (6 * k)) [] μ (179 + k) (12474 + 6 * k) := by
  intro n
  induction n with
  | zero => intro k μ h1 h2; omega
  | succ n ih =>
    intro k μ h1 h2 hw
    refine TL.run o_h 2 (pc' := 31) (lv' := llv g b (6 * k)) (st' := [.ref b, .int (iI ((6 * k : Nat) : Int))]) rfl ?_
    refine TL.slen o_h rfl ?_
    refine TL.run o_h 2 (pc' := 35) (lv' := llv g b (6 * k)) (st' := [.int (iI (L : Int) - 6), .int (iI ((6 * k : Nat) : Int))]) rfl ?_
    refine TL.ic_gt (tgt := 1507) o_h rfl (by decide) (fun _ => ?_) (fun q => ?_)
    · refine TL.run o_h 1 (pc' := 1508) (lv' := llv g b (6 * k)) (st' := [.int 1]) rfl ?_
      exact TL.fin o_h rfl (by omega) (by omega)
    · rw [iI_6, iI_sub, iI_lt (by omega) (by omega)] at q
      have hi : 6 * k + 5 < L := by omega
      refine TL.run o_h 2 (pc' := 41) (lv' := llv g b (6 * k)) (st' := [.int (iI ((6 * k : Nat) : Int)), .ref b]) rfl ?_
      refine TL.sld (n := 6 * k) o_h rfl (by omega) rfl ?_
      refine TL.run o_h 2 (pc' := 45) (lv' := llv g b (6 * k)) (st' := [.int (xs (6 * k) &&& 31)]) rfl ?_
      have kk : ∀ ν : fm_St, wA g.1 ν.1 (k + 1) → TL g l b L xs 1501 (llv g b (6 * k)) [] ν (179 + k + 1) (12474 + 6 * k + 6) := fun ν hν => by
        refine TL.run o_h 2 (pc' := 28) (lv' := [(5, .int (iI ((6 * k : Nat) : Int) + 6)), (4, .ref (g.1 + 178)), (3, .ref (g.1 + 177)), (2, .ref (g.1 + 170)), (1, .ref g.1), (0, .ref b)]) (st' := []) rfl ?_
        rw [iI_6, iI_add, show ((6 * k : Nat) : Int) + 6 = ((6 * (k + 1) : Nat) : Int) by omega]
        exact ih (k + 1) ν (by omega) (by omega) hν
      obtain ⟨v, hv, e⟩ := and31 (xs (6 * k))
      rw [e]
      by_cases c24 : 24 ≤ v
      · exact TL.swOut c24 hv (TL.widen (Nat.le_succ _) (Nat.le_add_right _ _) (kk μ (wA_le hw (Nat.le_succ k))))
      · rcases (show v = 0 ∨ v = 1 ∨ v = 2 ∨ v = 3 ∨ v = 4 ∨ v = 5 ∨ v = 6 ∨ v = 7 ∨ v = 8 ∨ v = 9 ∨ v = 10 ∨ v = 11 ∨ v = 12 ∨ v = 13 ∨ v = 14 ∨ v = 15 ∨ v = 16 ∨ v = 17 ∨ v = 18 ∨ v = 19 ∨ v = 20 ∨ v = 21 ∨ v = 22 ∨ v = 23 by omega) with rfl | rfl | rfl | rfl | rfl | rfl | rfl | rfl | rfl | rfl | rfl | rfl | rfl | rfl | rfl | rfl | rfl | rfl | rfl | rfl | rfl | rfl | rfl | rfl
        · exact TL.swIn (n := 0) (off := 111) (tgt := 156) (by omega) (by decide) (by decide) (cs_append hl (by omega) hw hi (by omega) (by omega) kk)
        · exact TL.swIn (n := 1) (off := 184) (tgt := 229) (by omega) (by decide) (by decide) (cs_load hl (by omega) hw hi (by omega) (by omega) kk)
        · exact TL.swIn (n := 2) (off := 240) (tgt := 285) (by omega) (by decide) (by decide) (cs_errorOffset hl (by omega) hw hi (by omega) (by omega) kk)
        · exact TL.swIn (n := 3) (off := 253) (tgt := 298) (by omega) (by decide) (by decide) (cs_state hl (by omega) hw hi (by omega) (by omega) kk)
        · exact TL.swIn (n := 4) (off := 309) (tgt := 354) (by omega) (by decide) (by decide) (cs_point hl (by omega) hw hi (by omega) (by omega) kk)
        · exact TL.swIn (n := 5) (off := 377) (tgt := 422) (by omega) (by decide) (by decide) (cs_triangle hl (by omega) hw hi (by omega) (by omega) kk)
        · exact TL.swIn (n := 6) (off := 473) (tgt := 518) (by omega) (by decide) (by decide) (cs_circle hl (by omega) hw hi (by omega) (by omega) kk)
        · exact TL.swIn (n := 7) (off := 565) (tgt := 610) (by omega) (by decide) (by decide) (cs_why hl (by omega) hw hi (by omega) (by omega) kk)
        · exact TL.swIn (n := 8) (off := 633) (tgt := 678) (by omega) (by decide) (by decide) (cs_badEdge hl (by omega) hw hi (by omega) (by omega) kk)
        · exact TL.swIn (n := 9) (off := 677) (tgt := 722) (by omega) (by decide) (by decide) (cs_at hl (by omega) hw hi (by omega) (by omega) kk)
        · exact TL.swIn (n := 10) (off := 745) (tgt := 790) (by omega) (by decide) (by decide) (cs_hit hl (by omega) hw hi (by omega) (by omega) kk)
        · exact TL.swIn (n := 11) (off := 813) (tgt := 858) (by omega) (by decide) (by decide) (cs_corner hl (by omega) hw hi (by omega) (by omega) kk)
        · exact TL.swIn (n := 12) (off := 869) (tgt := 914) (by omega) (by decide) (by decide) (cs_lift hl (by omega) hw hi (by omega) (by omega) kk)
        · exact TL.swIn (n := 13) (off := 883) (tgt := 928) (by omega) (by decide) (by decide) (cs_tree hl (by omega) hw hi (by omega) (by omega) kk)
        · exact TL.swIn (n := 14) (off := 897) (tgt := 942) (by omega) (by decide) (by decide) (cs_centre hl (by omega) hw hi (by omega) (by omega) kk)
        · exact TL.swIn (n := 15) (off := 1002) (tgt := 1047) (by omega) (by decide) (by decide) (cs_roundness hl (by omega) hw hi (by omega) (by omega) kk)
        · exact TL.swIn (n := 16) (off := 1058) (tgt := 1103) (by omega) (by decide) (by decide) (cs_share hl (by omega) hw hi (by omega) (by omega) kk)
        · exact TL.swIn (n := 17) (off := 1101) (tgt := 1146) (by omega) (by decide) (by decide) (cs_put hl (by omega) hw hi (by omega) (by omega) kk)
        · exact TL.swIn (n := 18) (off := 1169) (tgt := 1214) (by omega) (by decide) (by decide) (cs_take hl (by omega) hw hi (by omega) (by omega) kk)
        · exact TL.swIn (n := 19) (off := 1225) (tgt := 1270) (by omega) (by decide) (by decide) (cs_move hl (by omega) hw hi (by omega) (by omega) kk)
        · exact TL.swIn (n := 20) (off := 1305) (tgt := 1350) (by omega) (by decide) (by decide) (cs_flip hl (by omega) hw hi (by omega) (by omega) kk)
        · exact TL.swIn (n := 21) (off := 1373) (tgt := 1418) (by omega) (by decide) (by decide) (cs_mend hl (by omega) hw hi (by omega) (by omega) kk)
        · exact TL.swIn (n := 22) (off := 1429) (tgt := 1474) (by omega) (by decide) (by decide) (cs_undo hl (by omega) hw hi (by omega) (by omega) kk)
        · exact TL.swIn (n := 23) (off := 1442) (tgt := 1487) (by omega) (by decide) (by decide) (cs_checksum hl (by omega) hw hi (by omega) (by omega) kk)
end LO
end
