/-! THE PURE MACHINE'S STEPS: loads, stores, constants, arithmetic: no heap, no calls. -/
def fx_c : Int → Int32
  | .ofNat k => Int32.ofNat k
  | .negSucc k => - Int32.ofNat (k + 1)
theorem fx_c_eq (n : Int) : Int32.ofInt n = fx_c n := by
  cases n with
  | ofNat k => rfl
  | negSucc k =>
    show Int32.ofInt (-((k + 1 : Nat) : Int)) = - Int32.ofNat (k + 1)
    rw [Int32.ofInt_neg]
    rfl
def fx_look : List (Nat × Value) → Nat → Option Value
  | [], _ => none
  | q :: r, i => bif Nat.beq q.1 i then some q.2 else fx_look r i
theorem fx_look_mem : ∀ {lv : List (Nat × Value)} {i : Nat} {v : Value}, fx_look lv i = some v → (i, v) ∈ lv
  | [], _, _, h => by cases h
  | q :: r, i, v, h => by
    unfold fx_look at h
    cases hb : Nat.beq q.1 i with
    | true =>
      rw [hb] at h
      have h1 : q.1 = i := Nat.eq_of_beq_eq_true hb
      have h2 : q.2 = v := Option.some.inj h
      subst h1; subst h2
      exact List.mem_cons_self
    | false =>
      rw [hb] at h
      exact List.mem_cons_of_mem _ (fx_look_mem h)
theorem fx_at {ls : Array Slot} {nL i : Nat} {lv : List (Nat × Value)} {v : Value} (h : lv_has ls nL lv) (hl : fx_look lv i = some v) : ls[i]? = some (.val v) := h.2.2 (i, v) (fx_look_mem hl)
def fx_s1 (lv : List (Nat × Value)) (i : Nat) (v : Value) : List (Nat × Value) := (i, v) :: lv.filter (fun q => !(q.1 == i) && !(q.1 + 1 == i && q.2.category == 2))
def fx_s2 (lv : List (Nat × Value)) (i : Nat) (v : Value) : List (Nat × Value) := (i, v) :: lv.filter (fun q => !(q.1 == i) && (!(q.1 == i + 1) && !(q.1 + 1 == i && q.2.category == 2)))
def fx_ii (f : Int32 → Int32 → Int32) : List Value → Option (List Value)
  | .int y :: .int x :: r => some (.int (f x y) :: r)
  | _ => none
def fx_ll (f : Int64 → Int64 → Int64) : List Value → Option (List Value)
  | .long y :: .long x :: r => some (.long (f x y) :: r)
  | _ => none
theorem fx_ii_eq {f : Int32 → Int32 → Int32} {st st' : List Value} (h : fx_ii f st = some st') : ∃ x y r, st = .int y :: .int x :: r ∧ st' = .int (f x y) :: r := by
  unfold fx_ii at h
  split at h
  · exact ⟨_, _, _, rfl, (Option.some.inj h).symm⟩
  · cases h
theorem fx_ll_eq {f : Int64 → Int64 → Int64} {st st' : List Value} (h : fx_ll f st = some st') : ∃ x y r, st = .long y :: .long x :: r ∧ st' = .long (f x y) :: r := by
  unfold fx_ll at h
  split at h
  · exact ⟨_, _, _, rfl, (Option.some.inj h).symm⟩
  · cases h
def fx_ldI (lv : List (Nat × Value)) (i : Nat) (st : List Value) : Option (List Value) := match fx_look lv i with
  | some (.int x) => some (.int x :: st)
  | _ => none
def fx_ldL (lv : List (Nat × Value)) (i : Nat) (st : List Value) : Option (List Value) := match fx_look lv i with
  | some (.long x) => some (.long x :: st)
  | _ => none
def fx_ldF (lv : List (Nat × Value)) (i : Nat) (st : List Value) : Option (List Value) := match fx_look lv i with
  | some (.float x) => some (.float x :: st)
  | _ => none
def fx_ldD (lv : List (Nat × Value)) (i : Nat) (st : List Value) : Option (List Value) := match fx_look lv i with
  | some (.double x) => some (.double x :: st)
  | _ => none
def fx_ldA (lv : List (Nat × Value)) (i : Nat) (st : List Value) : Option (List Value) := match fx_look lv i with
  | some (.ref x) => some (.ref x :: st)
  | _ => none
theorem fx_ldI_eq {lv : List (Nat × Value)} {i : Nat} {st st' : List Value} (h : fx_ldI lv i st = some st') : ∃ x, fx_look lv i = some (.int x) ∧ st' = .int x :: st := by
  unfold fx_ldI at h
  split at h
  · next x hx => exact ⟨x, hx, (Option.some.inj h).symm⟩
  · cases h
theorem fx_ldL_eq {lv : List (Nat × Value)} {i : Nat} {st st' : List Value} (h : fx_ldL lv i st = some st') : ∃ x, fx_look lv i = some (.long x) ∧ st' = .long x :: st := by
  unfold fx_ldL at h
  split at h
  · next x hx => exact ⟨x, hx, (Option.some.inj h).symm⟩
  · cases h
theorem fx_ldF_eq {lv : List (Nat × Value)} {i : Nat} {st st' : List Value} (h : fx_ldF lv i st = some st') : ∃ x, fx_look lv i = some (.float x) ∧ st' = .float x :: st := by
  unfold fx_ldF at h
  split at h
  · next x hx => exact ⟨x, hx, (Option.some.inj h).symm⟩
  · cases h
theorem fx_ldD_eq {lv : List (Nat × Value)} {i : Nat} {st st' : List Value} (h : fx_ldD lv i st = some st') : ∃ x, fx_look lv i = some (.double x) ∧ st' = .double x :: st := by
  unfold fx_ldD at h
  split at h
  · next x hx => exact ⟨x, hx, (Option.some.inj h).symm⟩
  · cases h
theorem fx_ldA_eq {lv : List (Nat × Value)} {i : Nat} {st st' : List Value} (h : fx_ldA lv i st = some st') : ∃ x, fx_look lv i = some (.ref x) ∧ st' = .ref x :: st := by
  unfold fx_ldA at h
  split at h
  · next x hx => exact ⟨x, hx, (Option.some.inj h).symm⟩
  · cases h
abbrev fx_R : Type := Option (List (Nat × Value) × List Value)
def fx_stI (nL : Nat) (lv : List (Nat × Value)) (i : Nat) : List Value → fx_R
  | .int x :: r => bif Nat.ble (i + 1) nL then some (fx_s1 lv i (.int x), r) else none
  | _ => none
def fx_stL (nL : Nat) (lv : List (Nat × Value)) (i : Nat) : List Value → fx_R
  | .long x :: r => bif Nat.ble (i + 2) nL then some (fx_s2 lv i (.long x), r) else none
  | _ => none
def fx_stF (nL : Nat) (lv : List (Nat × Value)) (i : Nat) : List Value → fx_R
  | .float x :: r => bif Nat.ble (i + 1) nL then some (fx_s1 lv i (.float x), r) else none
  | _ => none
def fx_stD (nL : Nat) (lv : List (Nat × Value)) (i : Nat) : List Value → fx_R
  | .double x :: r => bif Nat.ble (i + 2) nL then some (fx_s2 lv i (.double x), r) else none
  | _ => none
def fx_stA (nL : Nat) (lv : List (Nat × Value)) (i : Nat) : List Value → fx_R
  | .ref x :: r => bif Nat.ble (i + 1) nL then some (fx_s1 lv i (.ref x), r) else none
  | _ => none
theorem fx_stI_eq {nL i : Nat} {lv lv' : List (Nat × Value)} {st st' : List Value} (h : fx_stI nL lv i st = some (lv', st')) : ∃ x, st = .int x :: st' ∧ i < nL ∧ fx_s1 lv i (.int x) = lv' := by
  unfold fx_stI at h
  split at h
  · next x r =>
    cases hb : Nat.ble (i + 1) nL with
    | true => rw [hb] at h; cases h; exact ⟨x, rfl, Nat.le_of_ble_eq_true hb, rfl⟩
    | false => rw [hb] at h; cases h
  · cases h
theorem fx_stL_eq {nL i : Nat} {lv lv' : List (Nat × Value)} {st st' : List Value} (h : fx_stL nL lv i st = some (lv', st')) : ∃ x, st = .long x :: st' ∧ i + 1 < nL ∧ fx_s2 lv i (.long x) = lv' := by
  unfold fx_stL at h
  split at h
  · next x r =>
    cases hb : Nat.ble (i + 2) nL with
    | true => rw [hb] at h; cases h; exact ⟨x, rfl, Nat.le_of_ble_eq_true hb, rfl⟩
    | false => rw [hb] at h; cases h
  · cases h
theorem fx_stF_eq {nL i : Nat} {lv lv' : List (Nat × Value)} {st st' : List Value} (h : fx_stF nL lv i st = some (lv', st')) : ∃ x, st = .float x :: st' ∧ i < nL ∧ fx_s1 lv i (.float x) = lv' := by
  unfold fx_stF at h
  split at h
  · next x r =>
    cases hb : Nat.ble (i + 1) nL with
    | true => rw [hb] at h; cases h; exact ⟨x, rfl, Nat.le_of_ble_eq_true hb, rfl⟩
    | false => rw [hb] at h; cases h
  · cases h
theorem fx_stD_eq {nL i : Nat} {lv lv' : List (Nat × Value)} {st st' : List Value} (h : fx_stD nL lv i st = some (lv', st')) : ∃ x, st = .double x :: st' ∧ i + 1 < nL ∧ fx_s2 lv i (.double x) = lv' := by
  unfold fx_stD at h
  split at h
  · next x r =>
    cases hb : Nat.ble (i + 2) nL with
    | true => rw [hb] at h; cases h; exact ⟨x, rfl, Nat.le_of_ble_eq_true hb, rfl⟩
    | false => rw [hb] at h; cases h
  · cases h
theorem fx_stA_eq {nL i : Nat} {lv lv' : List (Nat × Value)} {st st' : List Value} (h : fx_stA nL lv i st = some (lv', st')) : ∃ x, st = .ref x :: st' ∧ i < nL ∧ fx_s1 lv i (.ref x) = lv' := by
  unfold fx_stA at h
  split at h
  · next x r =>
    cases hb : Nat.ble (i + 1) nL with
    | true => rw [hb] at h; cases h; exact ⟨x, rfl, Nat.le_of_ble_eq_true hb, rfl⟩
    | false => rw [hb] at h; cases h
  · cases h
def fx_keep (lv : List (Nat × Value)) : Option (List Value) → fx_R
  | some st => some (lv, st)
  | none => none
theorem fx_keep_eq {lv lv' : List (Nat × Value)} {o : Option (List Value)} {st' : List Value} (h : fx_keep lv o = some (lv', st')) : o = some st' ∧ lv' = lv := by
  cases o with
  | none => cases h
  | some s => cases h; exact ⟨rfl, rfl⟩
/-- what takes one value of the stack and puts one there -/
def fx_un : Instr → Value → Option Value
  | .i2l, .int x => some (.long x.toInt64)
  | .l2i, .long x => some (.int x.toInt32)
  | .i2f, .int x => some (.float (FP.i2f x))
  | .l2f, .long x => some (.float (FP.l2f x))
  | .i2d, .int x => some (.double (FP.i2d x))
  | .l2d, .long x => some (.double (FP.l2d x))
  | .f2i, .float x => some (.int (FP.f2i x))
  | _, _ => none
def fx_step (nL : Nat) (i : Instr) (lv : List (Nat × Value)) (st : List Value) : fx_R := match i with
  | .iconst n => some (lv, .int (fx_c n) :: st)
  | .bipush n => bif decide ((Int8.ofInt n).toInt32 = fx_c n) then some (lv, .int (fx_c n) :: st) else none
  | .sipush n => bif decide ((Int16.ofInt n).toInt32 = fx_c n) then some (lv, .int (fx_c n) :: st) else none
  | .lconst n => some (lv, .long (Int64.ofNat n.val) :: st)
  | .fconst 0 => some (lv, .float FP.fconst0 :: st)
  | .fconst 1 => some (lv, .float FP.fconst1 :: st)
  | .fconst 2 => some (lv, .float FP.fconst2 :: st)
  | .dconst 0 => some (lv, .double FP.dconst0 :: st)
  | .iload_n k => fx_keep lv (fx_ldI lv k.val st)
  | .iload k => fx_keep lv (fx_ldI lv k st)
  | .lload_n k => fx_keep lv (fx_ldL lv k.val st)
  | .lload k => fx_keep lv (fx_ldL lv k st)
  | .fload_n k => fx_keep lv (fx_ldF lv k.val st)
  | .dload_n k => fx_keep lv (fx_ldD lv k.val st)
  | .dload k => fx_keep lv (fx_ldD lv k st)
  | .aload_n k => fx_keep lv (fx_ldA lv k.val st)
  | .aload k => fx_keep lv (fx_ldA lv k st)
  | .istore_n k => fx_stI nL lv k.val st
  | .istore k => fx_stI nL lv k st
  | .lstore_n k => fx_stL nL lv k.val st
  | .lstore k => fx_stL nL lv k st
  | .fstore_n k => fx_stF nL lv k.val st
  | .dstore k => fx_stD nL lv k st
  | .astore_n k => fx_stA nL lv k.val st
  | .astore k => fx_stA nL lv k st
  | .iadd => fx_keep lv (fx_ii (fun x y => x + y) st)
  | .isub => fx_keep lv (fx_ii (fun x y => x - y) st)
  | .imul => fx_keep lv (fx_ii (fun x y => x * y) st)
  | .iand => fx_keep lv (fx_ii (fun x y => x &&& y) st)
  | .ior => fx_keep lv (fx_ii (fun x y => x ||| y) st)
  | .ixor => fx_keep lv (fx_ii (fun x y => x ^^^ y) st)
  | .ishl => fx_keep lv (fx_ii (fun x y => x <<< (y &&& 31)) st)
  | .ishr => fx_keep lv (fx_ii (fun x y => x >>> (y &&& 31)) st)
  | .iushr => fx_keep lv (fx_ii (fun x y => (x.toUInt32 >>> (y.toUInt32 &&& Int32.toUInt32 31)).toInt32) st)
  | .ladd => fx_keep lv (fx_ll (fun x y => x + y) st)
  | .lsub => fx_keep lv (fx_ll (fun x y => x - y) st)
  | .lmul => fx_keep lv (fx_ll (fun x y => x * y) st)
  | .lcmp => match st with
    | .long y :: .long x :: r => some (lv, .int (lg_cmp x y) :: r)
    | _ => none
  | .fcmp op => match st with
    | .float y :: .float x :: r => some (lv, .int (Op.cmpValue (FP.fcmp x y) op) :: r)
    | _ => none
  | .dcmp op => match st with
    | .double y :: .double x :: r => some (lv, .int (Op.cmpValue (FP.dcmp x y) op) :: r)
    | _ => none
  | .dup => match st with
    | v :: r => bif v.category == 1 then some (lv, v :: v :: r) else none
    | _ => none
  | .pop => match st with
    | v :: r => bif v.category == 1 then some (lv, r) else none
    | _ => none
  | .i2l => match st with
    | .int x :: r => some (lv, .long x.toInt64 :: r)
    | _ => none
  | .l2i => match st with
    | .long x :: r => some (lv, .int x.toInt32 :: r)
    | _ => none
  | .i2f => match st with
    | .int x :: r => some (lv, .float (FP.i2f x) :: r)
    | _ => none
  | .l2f => match st with
    | .long x :: r => some (lv, .float (FP.l2f x) :: r)
    | _ => none
  | .i2d => match st with
    | .int x :: r => some (lv, .double (FP.i2d x) :: r)
    | _ => none
  | .l2d => match st with
    | .long x :: r => some (lv, .double (FP.l2d x) :: r)
    | _ => none
  | .f2i => match st with
    | .float x :: r => some (lv, .int (FP.f2i x) :: r)
    | _ => none
  | .iinc k n => match fx_look lv k with
    | some (.int x) => bif Nat.ble (k + 1) nL then some (fx_s1 lv k (.int (x + fx_c n)), st) else none
    | _ => none
  | _ => none
/-- the length of an instruction that fx_step takes -/
def fx_len : Instr → Nat
  | .bipush _ => 2
  | .sipush _ => 3
  | .iload _ => 2
  | .lload _ => 2
  | .dload _ => 2
  | .aload _ => 2
  | .istore _ => 2
  | .lstore _ => 2
  | .dstore _ => 2
  | .astore _ => 2
  | .iinc _ _ => 3
  | _ => 1
section FX
variable {p : Program} {l : Launch} {e : Env} {R : Room} {s : State} {m : MethodId} {args : Array Value} {below : List Frame} {meth : Method} {c : Code} {H : Heap} {locs : List Loc} {cells slots : Nat} {Q : State → Prop} {cc : ByteArray} {pc : Nat} {ls : Array Slot}
set_option maxHeartbeats 4000000 in
theorem fx_sound (hx : p.tables.exec = Jvm.exec) (hb : c.code = cc) {nL : Nat} {i : Instr} {lv lv' : List (Nat × Value)} {st st' : List Value} (h : fx_step nL i lv st = some (lv', st')) (hl : lv_has ls nL lv) (hdg : decode cc pc = .ok (i, fx_len i))
    (k : ∀ ls' : Array Slot, lv_has ls' nL lv' → W p l e R s m args below meth c H locs cells slots Q (F0 m (pc + fx_len i) ls' st')) : W p l e R s m args below meth c H locs cells slots Q (F0 m pc ls st) := by
  unfold fx_step at h
  split at h
  case h_1 n => cases h; exact lv_iconst hx hb hdg (fx_c_eq n) (k ls hl)
  case h_2 n =>
    cases hd : decide ((Int8.ofInt n).toInt32 = fx_c n) with
    | true => rw [hd] at h; cases h; exact lv_bipush hx hb hdg (of_decide_eq_true hd) (k ls hl)
    | false => rw [hd] at h; cases h
  case h_3 n =>
    cases hd : decide ((Int16.ofInt n).toInt32 = fx_c n) with
    | true => rw [hd] at h; cases h; exact lv_sipush hx hb hdg (of_decide_eq_true hd) (k ls hl)
    | false => rw [hd] at h; cases h
  case h_4 n => cases h; exact lv_lconst hx hb hdg rfl (k ls hl)
  case h_5 => cases h; exact lv_fconst0 hx hb hdg (k ls hl)
  case h_6 => cases h; exact lv_fconst1 hx hb hdg (k ls hl)
  case h_7 => cases h; exact lv_fconst2 hx hb hdg (k ls hl)
  case h_8 => cases h; exact lv_dconst0 hx hb hdg (k ls hl)
  case h_9 n => obtain ⟨h1, rfl⟩ := fx_keep_eq h; obtain ⟨x, h2, rfl⟩ := fx_ldI_eq h1; exact lv_iload_n hx hb hdg rfl (fx_at hl h2) (k ls hl)
  case h_10 n => obtain ⟨h1, rfl⟩ := fx_keep_eq h; obtain ⟨x, h2, rfl⟩ := fx_ldI_eq h1; exact lv_iload hx hb hdg (fx_at hl h2) (k ls hl)
  case h_11 n => obtain ⟨h1, rfl⟩ := fx_keep_eq h; obtain ⟨x, h2, rfl⟩ := fx_ldL_eq h1; exact lv_lload_n hx hb hdg rfl (fx_at hl h2) (k ls hl)
  case h_12 n => obtain ⟨h1, rfl⟩ := fx_keep_eq h; obtain ⟨x, h2, rfl⟩ := fx_ldL_eq h1; exact lv_lload hx hb hdg (fx_at hl h2) (k ls hl)
  case h_13 n => obtain ⟨h1, rfl⟩ := fx_keep_eq h; obtain ⟨x, h2, rfl⟩ := fx_ldF_eq h1; exact lv_fload_n hx hb hdg rfl (fx_at hl h2) (k ls hl)
  case h_14 n => obtain ⟨h1, rfl⟩ := fx_keep_eq h; obtain ⟨x, h2, rfl⟩ := fx_ldD_eq h1; exact lv_dload_n hx hb hdg rfl (fx_at hl h2) (k ls hl)
  case h_15 n => obtain ⟨h1, rfl⟩ := fx_keep_eq h; obtain ⟨x, h2, rfl⟩ := fx_ldD_eq h1; exact lv_dload hx hb hdg (fx_at hl h2) (k ls hl)
  case h_16 n => obtain ⟨h1, rfl⟩ := fx_keep_eq h; obtain ⟨x, h2, rfl⟩ := fx_ldA_eq h1; exact lv_aload_n hx hb hdg rfl (fx_at hl h2) (k ls hl)
  case h_17 n => obtain ⟨h1, rfl⟩ := fx_keep_eq h; obtain ⟨x, h2, rfl⟩ := fx_ldA_eq h1; exact lv_aload hx hb hdg (fx_at hl h2) (k ls hl)
  case h_18 n => obtain ⟨x, rfl, h1, h2⟩ := fx_stI_eq h; exact lv_istore_n hx hb hdg rfl hl h1 h2 k
  case h_19 n => obtain ⟨x, rfl, h1, h2⟩ := fx_stI_eq h; exact lv_istore hx hb hdg hl h1 h2 k
  case h_20 n => obtain ⟨x, rfl, h1, h2⟩ := fx_stL_eq h; exact lv_lstore_n hx hb hdg rfl hl h1 h2 k
  case h_21 n => obtain ⟨x, rfl, h1, h2⟩ := fx_stL_eq h; exact lv_lstore hx hb hdg hl h1 h2 k
  case h_22 n => obtain ⟨x, rfl, h1, h2⟩ := fx_stF_eq h; exact lv_fstore_n hx hb hdg rfl hl h1 h2 k
  case h_23 n => obtain ⟨x, rfl, h1, h2⟩ := fx_stD_eq h; exact lv_dstore hx hb hdg hl h1 h2 k
  case h_24 n => obtain ⟨x, rfl, h1, h2⟩ := fx_stA_eq h; exact lv_astore_n hx hb hdg rfl hl h1 h2 k
  case h_25 n => obtain ⟨x, rfl, h1, h2⟩ := fx_stA_eq h; exact lv_astore hx hb hdg hl h1 h2 k
  case h_26 => obtain ⟨h1, rfl⟩ := fx_keep_eq h; obtain ⟨x, y, r, rfl, rfl⟩ := fx_ii_eq h1; exact lv_iadd hx hb hdg (k ls hl)
  case h_27 => obtain ⟨h1, rfl⟩ := fx_keep_eq h; obtain ⟨x, y, r, rfl, rfl⟩ := fx_ii_eq h1; exact lv_isub hx hb hdg (k ls hl)
  case h_28 => obtain ⟨h1, rfl⟩ := fx_keep_eq h; obtain ⟨x, y, r, rfl, rfl⟩ := fx_ii_eq h1; exact lv_imul hx hb hdg (k ls hl)
  case h_29 => obtain ⟨h1, rfl⟩ := fx_keep_eq h; obtain ⟨x, y, r, rfl, rfl⟩ := fx_ii_eq h1; exact lv_iand hx hb hdg (k ls hl)
  case h_30 => obtain ⟨h1, rfl⟩ := fx_keep_eq h; obtain ⟨x, y, r, rfl, rfl⟩ := fx_ii_eq h1; exact lv_ior hx hb hdg (k ls hl)
  case h_31 => obtain ⟨h1, rfl⟩ := fx_keep_eq h; obtain ⟨x, y, r, rfl, rfl⟩ := fx_ii_eq h1; exact lv_ixor hx hb hdg (k ls hl)
  case h_32 => obtain ⟨h1, rfl⟩ := fx_keep_eq h; obtain ⟨x, y, r, rfl, rfl⟩ := fx_ii_eq h1; exact lv_ishl hx hb hdg (k ls hl)
  case h_33 => obtain ⟨h1, rfl⟩ := fx_keep_eq h; obtain ⟨x, y, r, rfl, rfl⟩ := fx_ii_eq h1; exact lv_ishr hx hb hdg (k ls hl)
  case h_34 => obtain ⟨h1, rfl⟩ := fx_keep_eq h; obtain ⟨x, y, r, rfl, rfl⟩ := fx_ii_eq h1; exact lv_iushr hx hb hdg rfl (k ls hl)
  case h_35 => obtain ⟨h1, rfl⟩ := fx_keep_eq h; obtain ⟨x, y, r, rfl, rfl⟩ := fx_ll_eq h1; exact lv_ladd hx hb hdg (k ls hl)
  case h_36 => obtain ⟨h1, rfl⟩ := fx_keep_eq h; obtain ⟨x, y, r, rfl, rfl⟩ := fx_ll_eq h1; exact lv_lsub hx hb hdg (k ls hl)
  case h_37 => obtain ⟨h1, rfl⟩ := fx_keep_eq h; obtain ⟨x, y, r, rfl, rfl⟩ := fx_ll_eq h1; exact lv_lmul hx hb hdg (k ls hl)
  case h_38 =>
    split at h
    · cases h; exact W.lcmp hx hb hdg (k ls hl)
    · cases h
  case h_39 op =>
    split at h
    · cases h; exact lv_fcmp hx hb hdg (k ls hl)
    · cases h
  case h_40 op =>
    split at h
    · cases h; exact lv_dcmp hx hb hdg (k ls hl)
    · cases h
  case h_41 =>
    split at h
    · next v r =>
      cases hd : v.category == 1 with
      | true => rw [hd] at h; cases h; exact lv_dup hx hb hdg (eq_of_beq hd) (k ls hl)
      | false => rw [hd] at h; cases h
    · cases h
  case h_42 =>
    split at h
    · next v r =>
      cases hd : v.category == 1 with
      | true => rw [hd] at h; cases h; exact lv_pop hx hb hdg (eq_of_beq hd) (k ls hl)
      | false => rw [hd] at h; cases h
    · cases h
  case h_43 =>
    split at h
    · cases h; exact lv_i2l hx hb hdg rfl (k ls hl)
    · cases h
  case h_44 =>
    split at h
    · cases h; exact lv_l2i hx hb hdg rfl (k ls hl)
    · cases h
  case h_45 =>
    split at h
    · cases h; exact lv_i2f hx hb hdg (k ls hl)
    · cases h
  case h_46 =>
    split at h
    · cases h; exact lv_l2f hx hb hdg (k ls hl)
    · cases h
  case h_47 =>
    split at h
    · cases h; exact lv_i2d hx hb hdg (k ls hl)
    · cases h
  case h_48 =>
    split at h
    · cases h; exact lv_l2d hx hb hdg (k ls hl)
    · cases h
  case h_49 =>
    split at h
    · cases h; exact lv_f2i hx hb hdg (k ls hl)
    · cases h
  case h_50 kk n =>
    split at h
    · next x hx1 =>
      cases hd : Nat.ble (kk + 1) nL with
      | true =>
        rw [hd] at h; cases h
        obtain ⟨j, hj⟩ := List.getElem?_of_mem (fx_look_mem hx1)
        exact lv_iinc hx hb hdg hl hj (by rw [fx_c_eq]) (Nat.le_of_ble_eq_true hd) rfl k
      | false => rw [hd] at h; cases h
    · cases h
  case h_51 => cases h
end FX
