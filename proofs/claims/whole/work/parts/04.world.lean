/-! THE WORLD: all cells lie in one block from b0 on, in the order in which they are made; what changes of them are ints, and the law's long and double.
kinds: 0..7 the classes by vwCl; 8 the row of Planes; 9 the long cell, 10 the double cell; 100 + n an int array of n. -/
abbrev fm_Mem : Type := Nat → Nat → Int32
abbrev fm_St : Type := fm_Mem × Int64 × UInt64
/-- the block's start; classes and slots; array classes of int, Plane, long, double; strings' cells and their bytes' cells -/
abbrev fm_G : Type := Nat × va_G × (ClassId × ClassId × ClassId × ClassId) × (Nat → Nat) × (Nat → Nat)
def fm_tab : List Nat := [6, 5, 4, 500, 2, 3, 4, 120, 4, 120, 1, 4, 135, 4, 500, 1, 4, 135, 4, 500, 2, 3, 4, 120, 4, 120, 1, 4, 135, 4, 500, 1, 4, 135, 4, 500, 0, 4, 120, 4, 120, 8, 2, 3, 4, 120, 4, 120, 1, 4, 135, 4, 500, 1, 4, 135, 4, 500, 2, 3, 4, 120, 4, 120, 1, 4, 135, 4, 500, 1, 4, 135, 4, 500, 2, 3, 4, 120, 4, 120, 1, 4, 135, 4, 500, 1, 4, 135, 4, 500, 2, 3, 4, 120, 4, 120, 1, 4, 135, 4, 500, 1, 4, 135, 4, 500, 2, 3, 4, 120, 4, 120, 1, 4, 135, 4, 500, 1, 4, 135, 4, 500, 2, 3, 4, 120, 4, 120, 1, 4, 135, 4, 500, 1, 4, 135, 4, 500, 2, 3, 4, 120, 4, 120, 1, 4, 135, 4, 500, 1, 4, 135, 4, 500, 2, 3, 4, 120, 4, 120, 1, 4, 135, 4, 500, 1, 4, 135, 4, 500, 7, 1900, 300, 220, 220, 140, 500, 9, 10]
def fm_kd (g : fm_G) (a : Nat) : Nat := if g.1 ≤ a then fm_tab.getD (a - g.1) 9999 else 9999
/-- a class's fields: none an int, some off the cell at that distance -/
def fm_fld : Nat → List (Option Nat)
  | 0 => [some 1, some 3, none, none]
  | 1 => [some 1, some 3, none]
  | 2 => [some 1, some 6, some 11, none, none]
  | 3 => [some 1, some 3, none]
  | 4 => [some 1]
  | 5 => [some 1, some 3, none, none, none, none, none, none, none, none, none]
  | 6 => [some 1, some 20, some 36, some 41, none, none, none]
  | 7 => [none, some 1, some 2, none, none, some 3, some 4, some 5, none, none, some 6, none, none, none, none, none, none, none, none]
  | _ => []
def fm_val (a : Nat) (f : Nat → Int32) (k : Nat) : Option Nat → Value
  | some d => .ref (a + d)
  | none => .int (f k)
def fm_vals (a : Nat) (f : Nat → Int32) (fs : List (Option Nat)) : List Value := (List.range fs.length).map (fun k => fm_val a f k (fs.getD k none))
def fm_cell (g : fm_G) (μ : fm_St) (a : Nat) : va_E :=
  if fm_kd g a < 8 then .inr (fm_kd g a, fm_vals a (μ.1 a) (fm_fld (fm_kd g a)))
  else if fm_kd g a = 8 then .inl (g.2.2.1.2.1, 8, .inr (.inr (.inr (.inr (fun j => some (a + 1 + 16 * j))))))
  else if fm_kd g a = 9 then .inl (g.2.2.1.2.2.1, 1, .inr (.inl (fun _ => μ.2.1)))
  else if fm_kd g a = 10 then .inl (g.2.2.1.2.2.2, 1, .inr (.inr (.inr (.inl (fun _ => μ.2.2)))))
  else .inl (g.2.2.1.1, fm_kd g a - 100, .inl (μ.1 a))
def fm_ws (g : fm_G) (μ : fm_St) : va_W := (List.range 179).map (fun i => (g.1 + i, fm_cell g μ (g.1 + i)))
theorem fm_tab_len : fm_tab.length = 179 := by decide +kernel
theorem fm_ws_i (g : fm_G) (μ : fm_St) (i : Nat) : (fm_ws g μ)[i]? = if i < 179 then some (g.1 + i, fm_cell g μ (g.1 + i)) else none := by
  unfold fm_ws
  rw [List.getElem?_map]
  by_cases h : i < 179
  · rw [if_pos h, List.getElem?_range h]; rfl
  · rw [if_neg h, List.getElem?_eq_none (by rw [List.length_range]; exact Nat.le_of_not_lt h)]; rfl
theorem fm_kd_in {g : fm_G} {a : Nat} (h : fm_kd g a ≠ 9999) : g.1 ≤ a ∧ a - g.1 < 179 := by
  unfold fm_kd at h
  by_cases h1 : g.1 ≤ a
  · rw [if_pos h1] at h
    refine ⟨h1, ?_⟩
    rw [← fm_tab_len]
    by_cases h2 : a - g.1 < fm_tab.length
    · exact h2
    · rw [List.getD_eq_getElem?_getD, List.getElem?_eq_none (Nat.le_of_not_lt h2)] at h; exact absurd rfl h
  · rw [if_neg h1] at h; exact absurd rfl h
theorem fm_ws_at {g : fm_G} {μ : fm_St} {a : Nat} (h : fm_kd g a ≠ 9999) : (fm_ws g μ)[a - g.1]? = some (a, fm_cell g μ a) := by
  obtain ⟨h1, h2⟩ := fm_kd_in h
  rw [fm_ws_i, if_pos h2, show g.1 + (a - g.1) = a by omega]
def fm_A (g : fm_G) : Nat → Prop := fun q => g.1 ≤ q
theorem fm_D (g : fm_G) (μ : fm_St) : va_D (fm_A g) (fm_ws g μ) := by
  refine ⟨fun i j p q hi hj hpq => ?_, fun k q hk => ?_⟩
  · rw [fm_ws_i] at hi hj
    split at hi
    · split at hj
      · cases hi; cases hj
        have h : g.1 + i = g.1 + j := hpq
        omega
      · cases hj
    · cases hi
  · rw [fm_ws_i] at hk
    split at hk
    · cases hk
      show g.1 ≤ g.1 + k
      omega
    · cases hk
/-- a cell changes, the others not -/
theorem fm_ws_set {g : fm_G} {μ ν : fm_St} {a : Nat} (h : fm_kd g a ≠ 9999) (ho : ∀ b, b ≠ a → fm_cell g ν b = fm_cell g μ b) : (fm_ws g μ).set (a - g.1) (a, fm_cell g ν a) = fm_ws g ν := by
  obtain ⟨h1, h2⟩ := fm_kd_in h
  apply List.ext_getElem?
  intro i
  rw [List.getElem?_set, fm_ws_i, fm_ws_i]
  have hlen : (fm_ws g μ).length = 179 := by unfold fm_ws; simp
  by_cases hi : a - g.1 = i
  · subst hi
    rw [if_pos rfl, hlen, if_pos h2, if_pos h2, show g.1 + (a - g.1) = a by omega]
  · rw [if_neg hi]
    by_cases h3 : i < 179
    · rw [if_pos h3, if_pos h3, ho (g.1 + i) (by omega)]
    · rw [if_neg h3, if_neg h3]
def fm_up (M : fm_Mem) (a k : Nat) (x : Int32) : fm_Mem := fun b j => if b = a ∧ j = k then x else M b j
def fm_cp (M : fm_Mem) (a b n : Nat) : fm_Mem := fun c j => if c = b ∧ j < n then M a j else M c j
theorem fm_up_ne {M : fm_Mem} {a b k : Nat} {x : Int32} (h : b ≠ a) : fm_up M a k x b = M b := by
  funext j; unfold fm_up; rw [if_neg (fun q => h q.1)]
theorem fm_up_self {M : fm_Mem} {a k : Nat} {x : Int32} : fm_up M a k x a = upd (M a) k x := by
  funext j; unfold fm_up upd
  by_cases h : j = k
  · rw [if_pos ⟨rfl, h⟩, if_pos h]
  · rw [if_neg (fun q => h q.2), if_neg h]
theorem fm_cell_ne {g : fm_G} {μ : fm_St} {M : fm_Mem} {b : Nat} (h : M b = μ.1 b) : fm_cell g (M, μ.2) b = fm_cell g μ b := by
  unfold fm_cell
  dsimp only
  rw [h]
theorem fm_cell_obj {g : fm_G} {μ : fm_St} {a c : Nat} (h : fm_kd g a = c) (hc : c < 8) : fm_cell g μ a = .inr (c, fm_vals a (μ.1 a) (fm_fld c)) := by
  subst h; unfold fm_cell; rw [if_pos hc]
theorem fm_cell_int {g : fm_G} {μ : fm_St} {a n : Nat} (h : fm_kd g a = 100 + n) : fm_cell g μ a = .inl (g.2.2.1.1, n, .inl (μ.1 a)) := by
  unfold fm_cell
  rw [if_neg (by omega), if_neg (by omega), if_neg (by omega), if_neg (by omega), h, show 100 + n - 100 = n by omega]
theorem fm_cell_ref {g : fm_G} {μ : fm_St} {a : Nat} (h : fm_kd g a = 8) : fm_cell g μ a = .inl (g.2.2.1.2.1, 8, .inr (.inr (.inr (.inr (fun j => some (a + 1 + 16 * j)))))) := by
  unfold fm_cell
  rw [if_neg (by omega), if_pos h]
theorem fm_vals_len {a : Nat} {f : Nat → Int32} {fs : List (Option Nat)} : (fm_vals a f fs).length = fs.length := by unfold fm_vals; simp
theorem fm_vals_at {a : Nat} {f : Nat → Int32} {fs : List (Option Nat)} {k : Nat} {x : Option Nat} (h : fs[k]? = some x) : (fm_vals a f fs)[k]? = some (fm_val a f k x) := by
  unfold fm_vals
  have hk : k < fs.length := (List.getElem?_eq_some_iff.mp h).1
  rw [List.getElem?_map, List.getElem?_range hk]
  show some (fm_val a f k (fs.getD k none)) = _
  rw [List.getD_eq_getElem?_getD, h]; rfl
theorem fm_vals_set {a : Nat} {f : Nat → Int32} {fs : List (Option Nat)} {k : Nat} {x : Int32} (h : fs[k]? = some none) : (fm_vals a f fs).set k (.int x) = fm_vals a (upd f k x) fs := by
  have hk : k < fs.length := (List.getElem?_eq_some_iff.mp h).1
  apply List.ext_getElem?
  intro i
  rw [List.getElem?_set, fm_vals_len]
  by_cases hi : k = i
  · subst hi
    rw [if_pos rfl, if_pos hk, fm_vals_at h]
    show some (Value.int x) = some (Value.int (upd f k x k))
    rw [upd, if_pos rfl]
  · rw [if_neg hi]
    cases hf : fs[i]? with
    | none =>
      have h1 : fs.length ≤ i := List.getElem?_eq_none_iff.mp hf
      rw [List.getElem?_eq_none (by rw [fm_vals_len]; exact h1), List.getElem?_eq_none (by rw [fm_vals_len]; exact h1)]
    | some y =>
      rw [fm_vals_at hf, fm_vals_at hf]
      cases y with
      | some d => rfl
      | none =>
        show some (Value.int (f i)) = some (Value.int (upd f k x i))
        rw [upd, if_neg (fun q => hi q.symm)]
/-! the machine's facts -/
def fm_P (g : fm_G) (μ : fm_St) (H : Heap) : Prop := va_P g.2.1 vwCl (fm_ws g μ) H
def fm_tys (g : fm_G) : List (ClassId × FieldType) := [(g.2.2.1.1, .int), (g.2.2.1.2.1, .object "CircleFlips$Plane"), (g.2.2.1.2.2.1, .long), (g.2.2.1.2.2.2, .double)]
def fm_K (g : fm_G) (U : State) : Prop := va_K g.2.1 vwCl (fm_tys g) U
def fm_strs : List (String × Nat × String) := [("CircleFlips$Setup", 135, "plane"), ("CircleFlips$Setup", 140, "at"), ("CircleFlips$Setup", 142, "flip"), ("CircleFlipsModel", 233, "plane"), ("CircleFlipsModel", 242, "at"), ("CircleFlipsModel", 247, "flip")]
def fm_slen : List Nat := [5, 2, 4, 5, 2, 4]
def fm_sbyt : List (List Int32) := [[112, 108, 97, 110, 101], [97, 116], [102, 108, 105, 112], [112, 108, 97, 110, 101], [97, 116], [102, 108, 105, 112]]
def fm_isN : Cond → Bool
  | .fieldLinkNest _ _ _ _ _ _ => true
  | .methodLinkNest _ _ _ _ => true
  | .castable _ _ => true
  | .declares _ => true
  | _ => false
theorem fm_nw_warm {w : Cond} (hw : fm_isN w = true) {s U : State} (hW : s.WarmedH U.vm) (h : va_Nw w s) : va_Nw w U := by
  unfold fm_isN at hw
  split at hw
  · exact h.warmF hW
  · exact h.warmM hW
  · exact h.warmC hW
  · exact h.warmD hW
  · cases hw
theorem fm_nw_use {w : Cond} (hw : fm_isN w = true) {U : State} {A : Array Value} (h : va_Nw w U) : w.before A U = true := by
  unfold fm_isN at hw
  split at hw
  · exact h.use rfl
  · exact h.use rfl
  · exact h.use rfl
  · exact h.use rfl
  · cases hw
/-- what lies outside the block: two statics of Throwable, two of text, the texts -/
def fm_E (g : fm_G) (U : State) (H : Heap) : Prop :=
  vx_Zq Bundle.tN "UNASSIGNED_STACK" Bundle.steD (fm_A g) U H ∧ vx_Zq Bundle.tN "SUPPRESSED_SENTINEL" Bundle.listD (fm_A g) U H
  ∧ va_Z "java/lang/String" "COMPACT_STRINGS" "Z" (.int 1) (fm_A g) U H
  ∧ va_Zq "jdk/internal/util/Preconditions" "SIOOBE_FORMATTER" "Ljava/util/function/BiFunction;" (fm_A g) U H
  ∧ (∀ i : Nat, i < 6 → vk_S 1 [fm_slen.getD i 0] [fm_sbyt.getD i []] (fun _ => g.2.2.2.1 i) (fun _ => g.2.2.2.2 i) (fm_A g) U H)
  ∧ (∀ (i : Nat) (q : String × Nat × String), fm_strs[i]? = some q → vk_R q.1 q.2.1 q.2.2 (g.2.2.2.1 i) U)
  ∧ ∀ w ∈ lw_tbl, fm_isN w = true → va_Nw w U
theorem fm_E.warm {g : fm_G} {s U : State} {H : Heap} (hW : s.WarmedH U.vm) (h : fm_E g s H) : fm_E g U H :=
  ⟨h.1.moved hW.alike, h.2.1.moved hW.alike, h.2.2.1.moved hW.alike, h.2.2.2.1.moved hW.alike, fun i hi => (h.2.2.2.2.1 i hi).moved hW.alike, fun i q hq => (h.2.2.2.2.2.1 i q hq).warm hW, fun w hw hn => fm_nw_warm hn hW (h.2.2.2.2.2.2 w hw hn)⟩
theorem fm_E.kept {g : fm_G} {U : State} {H H1 : Heap} (h : fm_E g U H) (hq : ∀ a : Nat, a < H.size → ¬ fm_A g a → H1[a]? = H[a]?) : fm_E g U H1 :=
  ⟨h.1.kept hq, h.2.1.kept hq, h.2.2.1.kept hq, h.2.2.2.1.kept hq, fun i hi => (h.2.2.2.2.1 i hi).kept hq, h.2.2.2.2.2⟩
