section ZPure
variable {p : Program} {l : Launch} {e : Env} {R : Room} {s : State} {m : MethodId} {args : Array Value} {below : List Frame} {meth : Method} {c : Code} {H : Heap} {locs : List Loc} {cells slots : Nat} {Q : State → Prop}
variable {cc : ByteArray} {pc : Nat} {ls : Array Slot} {rest : List Value}
abbrev zLs : Type := List (Option Value)
abbrev zR : Type := Option (zLs × List Value)
def zPush (v : Value) (L : zLs) (st : List Value) : zR := some (L, v :: st)
def zLdI (i : Nat) (L : zLs) (st : List Value) : zR := match L[i]? with
  | some (some (.int x)) => some (L, .int x :: st)
  | _ => none
def zLdL (i : Nat) (L : zLs) (st : List Value) : zR := match L[i]? with
  | some (some (.long x)) => some (L, .long x :: st)
  | _ => none
def zLdA (i : Nat) (L : zLs) (st : List Value) : zR := match L[i]? with
  | some (some (.ref x)) => some (L, .ref x :: st)
  | some (some .null) => some (L, .null :: st)
  | _ => none
def zStI (i : Nat) (L : zLs) (st : List Value) : zR := match st with
  | .int x :: r => if i < L.length then some (zSt1 L i (.int x), r) else none
  | _ => none
def zStA (i : Nat) (L : zLs) (st : List Value) : zR := match st with
  | .ref x :: r => if i < L.length then some (zSt1 L i (.ref x), r) else none
  | .null :: r => if i < L.length then some (zSt1 L i .null, r) else none
  | _ => none
def zStL (i : Nat) (L : zLs) (st : List Value) : zR := match st with
  | .long x :: r => if i + 1 < L.length then some (zSt2 L i (.long x), r) else none
  | _ => none
def zInc (i : Nat) (c : Int32) (L : zLs) (st : List Value) : zR := match L[i]? with
  | some (some (.int x)) => if i < L.length then some (zSt1 L i (.int (x + c)), st) else none
  | _ => none
def zII (f : Int32 → Int32 → Int32) (L : zLs) (st : List Value) : zR := match st with
  | .int y :: .int x :: r => some (L, .int (f x y) :: r)
  | _ => none
def zLL (f : Int64 → Int64 → Int64) (L : zLs) (st : List Value) : zR := match st with
  | .long y :: .long x :: r => some (L, .long (f x y) :: r)
  | _ => none
def zI1 (f : Int32 → Value) (L : zLs) (st : List Value) : zR := match st with
  | .int x :: r => some (L, f x :: r)
  | _ => none
def zL1 (f : Int64 → Value) (L : zLs) (st : List Value) : zR := match st with
  | .long x :: r => some (L, f x :: r)
  | _ => none
def zC1 : Value → Bool
  | .long _ => false
  | .double _ => false
  | _ => true
theorem zC1_cat {v : Value} (h : zC1 v = true) : v.category = 1 := by cases v <;> simp_all [zC1, Value.category]
def zDup (L : zLs) (st : List Value) : zR := match st with
  | v :: r => if zC1 v = true then some (L, v :: v :: r) else none
  | _ => none
def zPop (L : zLs) (st : List Value) : zR := match st with
  | v :: r => if zC1 v = true then some (L, r) else none
  | _ => none
def zPop2 (L : zLs) (st : List Value) : zR := match st with
  | .long _ :: r => some (L, r)
  | v :: w :: r => if zC1 v = true ∧ zC1 w = true then some (L, r) else none
  | _ => none
def zDupX1 (L : zLs) (st : List Value) : zR := match st with
  | v :: w :: r => if zC1 v = true ∧ zC1 w = true then some (L, v :: w :: v :: r) else none
  | _ => none
def zDup2 (L : zLs) (st : List Value) : zR := match st with
  | v :: w :: r => if zC1 v = true ∧ zC1 w = true then some (L, v :: w :: v :: w :: r) else none
  | _ => none
def zP (i : Instr) (c : Int32) (L : zLs) (st : List Value) : zR := match i with
  | .iconst _ => zPush (.int c) L st
  | .bipush _ => zPush (.int c) L st
  | .sipush _ => zPush (.int c) L st
  | .lconst n => zPush (.long (lN n.val)) L st
  | .aconst_null => zPush .null L st
  | .iload i => zLdI i L st
  | .iload_n k => zLdI k.val L st
  | .lload i => zLdL i L st
  | .lload_n k => zLdL k.val L st
  | .aload i => zLdA i L st
  | .aload_n k => zLdA k.val L st
  | .istore i => zStI i L st
  | .istore_n k => zStI k.val L st
  | .astore i => zStA i L st
  | .astore_n k => zStA k.val L st
  | .lstore i => zStL i L st
  | .lstore_n k => zStL k.val L st
  | .iinc i _ => zInc i c L st
  | .iadd => zII (fun x y => x + y) L st
  | .isub => zII (fun x y => x - y) L st
  | .imul => zII (fun x y => x * y) L st
  | .iand => zII (fun x y => x &&& y) L st
  | .ior => zII (fun x y => x ||| y) L st
  | .ixor => zII (fun x y => x ^^^ y) L st
  | .ishl => zII (fun x y => x <<< (y &&& 31)) L st
  | .ishr => zII (fun x y => x >>> (y &&& 31)) L st
  | .iushr => zII (fun x y => (x.toUInt32 >>> (y.toUInt32 &&& Int32.toUInt32 31)).toInt32) L st
  | .ladd => zLL (fun x y => x + y) L st
  | .lsub => zLL (fun x y => x - y) L st
  | .lmul => zLL (fun x y => x * y) L st
  | .ineg => zI1 (fun x => .int (-x)) L st
  | .i2l => zI1 (fun x => .long x.toInt64) L st
  | .i2b => zI1 (fun x => .int x.toInt8.toInt32) L st
  | .i2c => zI1 (fun x => .int (x.toUInt32 % 65536).toInt32) L st
  | .l2i => zL1 (fun x => .int x.toInt32) L st
  | .dup => zDup L st
  | .pop => zPop L st
  | .pop2 => zPop2 L st
  | .dup_x1 => zDupX1 L st
  | .dup2 => zDup2 L st
  | _ => none
def zLn : Instr → Nat
  | .bipush _ | .iload _ | .lload _ | .aload _ | .istore _ | .lstore _ | .astore _ => 2
  | .sipush _ | .iinc _ _ => 3
  | _ => 1
/-- the number that a constant's instruction means -/
def zCk : Instr → Int32 → Bool
  | .iconst n, c => decide (Int32.ofInt n = c)
  | .bipush n, c => decide ((Int8.ofInt n).toInt32 = c)
  | .sipush n, c => decide ((Int16.ofInt n).toInt32 = c)
  | .iinc _ n, c => decide (Int32.ofInt n = c)
  | _, _ => true
theorem zLdI_inv {i : Nat} {L : zLs} {st : List Value} {r : zLs × List Value} (h : zLdI i L st = some r) : ∃ x, L[i]? = some (some (.int x)) ∧ r = (L, .int x :: st) := by
  unfold zLdI at h
  split at h
  · next x hx => exact ⟨x, hx, (Option.some.inj h).symm⟩
  · cases h
theorem zLdL_inv {i : Nat} {L : zLs} {st : List Value} {r : zLs × List Value} (h : zLdL i L st = some r) : ∃ x, L[i]? = some (some (.long x)) ∧ r = (L, .long x :: st) := by
  unfold zLdL at h
  split at h
  · next x hx => exact ⟨x, hx, (Option.some.inj h).symm⟩
  · cases h
theorem zLdA_inv {i : Nat} {L : zLs} {st : List Value} {r : zLs × List Value} (h : zLdA i L st = some r) : (∃ x, L[i]? = some (some (.ref x)) ∧ r = (L, .ref x :: st)) ∨ (L[i]? = some (some .null) ∧ r = (L, .null :: st)) := by
  unfold zLdA at h
  split at h
  · next x hx => exact Or.inl ⟨x, hx, (Option.some.inj h).symm⟩
  · next hx => exact Or.inr ⟨hx, (Option.some.inj h).symm⟩
  · cases h
theorem zStI_inv {i : Nat} {L : zLs} {st : List Value} {r : zLs × List Value} (h : zStI i L st = some r) : ∃ x t, st = .int x :: t ∧ i < L.length ∧ r = (zSt1 L i (.int x), t) := by
  unfold zStI at h
  split at h
  · next x t => split at h
                · next hl => exact ⟨x, t, rfl, hl, (Option.some.inj h).symm⟩
                · cases h
  · cases h
theorem zStL_inv {i : Nat} {L : zLs} {st : List Value} {r : zLs × List Value} (h : zStL i L st = some r) : ∃ x t, st = .long x :: t ∧ i + 1 < L.length ∧ r = (zSt2 L i (.long x), t) := by
  unfold zStL at h
  split at h
  · next x t => split at h
                · next hl => exact ⟨x, t, rfl, hl, (Option.some.inj h).symm⟩
                · cases h
  · cases h
theorem zStA_inv {i : Nat} {L : zLs} {st : List Value} {r : zLs × List Value} (h : zStA i L st = some r) : i < L.length ∧ ((∃ x t, st = .ref x :: t ∧ r = (zSt1 L i (.ref x), t)) ∨ (∃ t, st = .null :: t ∧ r = (zSt1 L i .null, t))) := by
  unfold zStA at h
  split at h
  · next x t => split at h
                · next hl => exact ⟨hl, Or.inl ⟨x, t, rfl, (Option.some.inj h).symm⟩⟩
                · cases h
  · next t => split at h
              · next hl => exact ⟨hl, Or.inr ⟨t, rfl, (Option.some.inj h).symm⟩⟩
              · cases h
  · cases h
theorem zInc_inv {i : Nat} {c : Int32} {L : zLs} {st : List Value} {r : zLs × List Value} (h : zInc i c L st = some r) : ∃ x, L[i]? = some (some (.int x)) ∧ i < L.length ∧ r = (zSt1 L i (.int (x + c)), st) := by
  unfold zInc at h
  split at h
  · next x hx => split at h
                 · next hl => exact ⟨x, hx, hl, (Option.some.inj h).symm⟩
                 · cases h
  · cases h
theorem zII_inv {f : Int32 → Int32 → Int32} {L : zLs} {st : List Value} {r : zLs × List Value} (h : zII f L st = some r) : ∃ x y t, st = .int y :: .int x :: t ∧ r = (L, .int (f x y) :: t) := by
  unfold zII at h
  split at h
  · next y x t => exact ⟨x, y, t, rfl, (Option.some.inj h).symm⟩
  · cases h
theorem zLL_inv {f : Int64 → Int64 → Int64} {L : zLs} {st : List Value} {r : zLs × List Value} (h : zLL f L st = some r) : ∃ x y t, st = .long y :: .long x :: t ∧ r = (L, .long (f x y) :: t) := by
  unfold zLL at h
  split at h
  · next y x t => exact ⟨x, y, t, rfl, (Option.some.inj h).symm⟩
  · cases h
theorem zI1_inv {f : Int32 → Value} {L : zLs} {st : List Value} {r : zLs × List Value} (h : zI1 f L st = some r) : ∃ x t, st = .int x :: t ∧ r = (L, f x :: t) := by
  unfold zI1 at h
  split at h
  · next x t => exact ⟨x, t, rfl, (Option.some.inj h).symm⟩
  · cases h
theorem zL1_inv {f : Int64 → Value} {L : zLs} {st : List Value} {r : zLs × List Value} (h : zL1 f L st = some r) : ∃ x t, st = .long x :: t ∧ r = (L, f x :: t) := by
  unfold zL1 at h
  split at h
  · next x t => exact ⟨x, t, rfl, (Option.some.inj h).symm⟩
  · cases h
theorem zDup_inv {L : zLs} {st : List Value} {r : zLs × List Value} (h : zDup L st = some r) : ∃ v t, st = v :: t ∧ v.category = 1 ∧ r = (L, v :: v :: t) := by
  unfold zDup at h
  split at h
  · next v t => split at h
                · next hl => exact ⟨v, t, rfl, zC1_cat hl, (Option.some.inj h).symm⟩
                · cases h
  · cases h
theorem zPop_inv {L : zLs} {st : List Value} {r : zLs × List Value} (h : zPop L st = some r) : ∃ v t, st = v :: t ∧ v.category = 1 ∧ r = (L, t) := by
  unfold zPop at h
  split at h
  · next v t => split at h
                · next hl => exact ⟨v, t, rfl, zC1_cat hl, (Option.some.inj h).symm⟩
                · cases h
  · cases h
theorem zPop2_inv {L : zLs} {st : List Value} {r : zLs × List Value} (h : zPop2 L st = some r) : (∃ x t, st = .long x :: t ∧ r = (L, t)) ∨ (∃ v w t, st = v :: w :: t ∧ v.category = 1 ∧ w.category = 1 ∧ r = (L, t)) := by
  unfold zPop2 at h
  split at h
  · next x t => exact Or.inl ⟨x, t, rfl, (Option.some.inj h).symm⟩
  · next v w t _ => split at h
                    · next hl => exact Or.inr ⟨v, w, t, rfl, zC1_cat hl.1, zC1_cat hl.2, (Option.some.inj h).symm⟩
                    · cases h
  · cases h
theorem zDupX1_inv {L : zLs} {st : List Value} {r : zLs × List Value} (h : zDupX1 L st = some r) : ∃ v w t, st = v :: w :: t ∧ v.category = 1 ∧ w.category = 1 ∧ r = (L, v :: w :: v :: t) := by
  unfold zDupX1 at h
  split at h
  · next v w t => split at h
                  · next hl => exact ⟨v, w, t, rfl, zC1_cat hl.1, zC1_cat hl.2, (Option.some.inj h).symm⟩
                  · cases h
  · cases h
theorem zDup2_inv {L : zLs} {st : List Value} {r : zLs × List Value} (h : zDup2 L st = some r) : ∃ v w t, st = v :: w :: t ∧ v.category = 1 ∧ w.category = 1 ∧ r = (L, v :: w :: v :: w :: t) := by
  unfold zDup2 at h
  split at h
  · next v w t => split at h
                  · next hl => exact ⟨v, w, t, rfl, zC1_cat hl.1, zC1_cat hl.2, (Option.some.inj h).symm⟩
                  · cases h
  · cases h
theorem zP_sound (hx : p.tables.exec = Jvm.exec) (hb : c.code = cc) {i : Instr} {k : Int32} {L : zLs} {st : List Value} {r : zLs × List Value} (hd : decode cc pc = .ok (i, zLn i)) (hk : zCk i k = true) (h : zP i k L st = some r) (hl : zL ls L)
    (kk : ∀ ls' : Array Slot, zL ls' r.1 → W p l e R s m args below meth c H locs cells slots Q (F0 m (pc + zLn i) ls' r.2)) : W p l e R s m args below meth c H locs cells slots Q (F0 m pc ls st) := by
  cases i
  case iconst n =>
    obtain rfl := Option.some.inj h
    exact lv_iconst hx hb hd (of_decide_eq_true hk) (kk _ hl)
  case bipush n =>
    obtain rfl := Option.some.inj h
    exact lv_bipush hx hb hd (of_decide_eq_true hk) (kk _ hl)
  case sipush n =>
    obtain rfl := Option.some.inj h
    exact lv_sipush hx hb hd (of_decide_eq_true hk) (kk _ hl)
  case lconst n =>
    obtain rfl := Option.some.inj h
    exact lv_lconst hx hb hd rfl (kk _ hl)
  case aconst_null =>
    obtain rfl := Option.some.inj h
    exact lv_null hx hb hd (kk _ hl)
  case iload j =>
    obtain ⟨x, h1, rfl⟩ := zLdI_inv h
    exact lv_iload hx hb hd (zL_get hl h1) (kk _ hl)
  case iload_n j =>
    obtain ⟨x, h1, rfl⟩ := zLdI_inv h
    exact lv_iload_n hx hb hd rfl (zL_get hl h1) (kk _ hl)
  case lload j =>
    obtain ⟨x, h1, rfl⟩ := zLdL_inv h
    exact lv_lload hx hb hd (zL_get hl h1) (kk _ hl)
  case lload_n j =>
    obtain ⟨x, h1, rfl⟩ := zLdL_inv h
    exact lv_lload_n hx hb hd rfl (zL_get hl h1) (kk _ hl)
  case aload j =>
    rcases zLdA_inv h with ⟨x, h1, rfl⟩ | ⟨h1, rfl⟩
    · exact lv_aload hx hb hd (zL_get hl h1) (kk _ hl)
    · exact lv_aloadN hx hb hd (zL_get hl h1) (kk _ hl)
  case aload_n j =>
    rcases zLdA_inv h with ⟨x, h1, rfl⟩ | ⟨h1, rfl⟩
    · exact lv_aload_n hx hb hd rfl (zL_get hl h1) (kk _ hl)
    · exact lv_aload_nN hx hb hd rfl (zL_get hl h1) (kk _ hl)
  case istore j =>
    obtain ⟨x, t, rfl, hi, rfl⟩ := zStI_inv h
    replace hd : decode cc pc = .ok (.istore j, 2) := hd
    obtain ⟨ls', e', h'⟩ := zL_st1 (v := .int x) hl hi rfl
    intro T hT X
    obtain ⟨t, a, b⟩ := kk ls' h' T hT X
    refine ⟨t, ?_, b⟩
    jvm_step X.here [X.here.top, ↓top_set X.here.top, hx, hb, hd, e']
    exact a
  case istore_n j =>
    obtain ⟨x, t, rfl, hi, rfl⟩ := zStI_inv h
    replace hd : decode cc pc = .ok (.istore_n j, 1) := hd
    obtain ⟨ls', e', h'⟩ := zL_st1 (v := .int x) hl hi rfl
    intro T hT X
    obtain ⟨t, a, b⟩ := kk ls' h' T hT X
    refine ⟨t, ?_, b⟩
    jvm_step X.here [X.here.top, ↓top_set X.here.top, hx, hb, hd, e']
    exact a
  case lstore j =>
    obtain ⟨x, t, rfl, hi, rfl⟩ := zStL_inv h
    replace hd : decode cc pc = .ok (.lstore j, 2) := hd
    obtain ⟨ls', e', h'⟩ := zL_st2 (v := .long x) hl hi rfl
    intro T hT X
    obtain ⟨t, a, b⟩ := kk ls' h' T hT X
    refine ⟨t, ?_, b⟩
    jvm_step X.here [X.here.top, ↓top_set X.here.top, hx, hb, hd, e']
    exact a
  case lstore_n j =>
    obtain ⟨x, t, rfl, hi, rfl⟩ := zStL_inv h
    replace hd : decode cc pc = .ok (.lstore_n j, 1) := hd
    obtain ⟨ls', e', h'⟩ := zL_st2 (v := .long x) hl hi rfl
    intro T hT X
    obtain ⟨t, a, b⟩ := kk ls' h' T hT X
    refine ⟨t, ?_, b⟩
    jvm_step X.here [X.here.top, ↓top_set X.here.top, hx, hb, hd, e']
    exact a
  case astore j =>
    replace hd : decode cc pc = .ok (.astore j, 2) := hd
    obtain ⟨hi, ⟨x, t, rfl, rfl⟩ | ⟨t, rfl, rfl⟩⟩ := zStA_inv h
    · obtain ⟨ls', e', h'⟩ := zL_st1 (v := .ref x) hl hi rfl
      intro T hT X
      obtain ⟨t, a, b⟩ := kk ls' h' T hT X
      refine ⟨t, ?_, b⟩
      jvm_step X.here [X.here.top, ↓top_set X.here.top, hx, hb, hd, e']
      exact ⟨rfl, a⟩
    · obtain ⟨ls', e', h'⟩ := zL_st1 (v := .null) hl hi rfl
      intro T hT X
      obtain ⟨t, a, b⟩ := kk ls' h' T hT X
      refine ⟨t, ?_, b⟩
      jvm_step X.here [X.here.top, ↓top_set X.here.top, hx, hb, hd, e']
      exact ⟨rfl, a⟩
  case astore_n j =>
    replace hd : decode cc pc = .ok (.astore_n j, 1) := hd
    obtain ⟨hi, ⟨x, t, rfl, rfl⟩ | ⟨t, rfl, rfl⟩⟩ := zStA_inv h
    · obtain ⟨ls', e', h'⟩ := zL_st1 (v := .ref x) hl hi rfl
      intro T hT X
      obtain ⟨t, a, b⟩ := kk ls' h' T hT X
      refine ⟨t, ?_, b⟩
      jvm_step X.here [X.here.top, ↓top_set X.here.top, hx, hb, hd, e']
      exact ⟨rfl, a⟩
    · obtain ⟨ls', e', h'⟩ := zL_st1 (v := .null) hl hi rfl
      intro T hT X
      obtain ⟨t, a, b⟩ := kk ls' h' T hT X
      refine ⟨t, ?_, b⟩
      jvm_step X.here [X.here.top, ↓top_set X.here.top, hx, hb, hd, e']
      exact ⟨rfl, a⟩
  case iinc j n =>
    obtain ⟨x, h1, hi, rfl⟩ := zInc_inv h
    have hk' : Int32.ofInt n = k := of_decide_eq_true hk
    subst hk'
    have hg := zL_get hl h1
    replace hd : decode cc pc = .ok (.iinc j n, 3) := hd
    obtain ⟨ls', e', h'⟩ := zL_st1 (v := .int (x + Int32.ofInt n)) hl hi rfl
    intro T hT X
    obtain ⟨t, a, b⟩ := kk ls' h' T hT X
    refine ⟨t, ?_, b⟩
    jvm_step X.here [X.here.top, ↓top_set X.here.top, hx, hb, hd, hg, e']
    exact a
  case iadd =>
    obtain ⟨x, y, t, rfl, rfl⟩ := zII_inv h
    exact lv_iadd hx hb hd (kk _ hl)
  case isub =>
    obtain ⟨x, y, t, rfl, rfl⟩ := zII_inv h
    exact lv_isub hx hb hd (kk _ hl)
  case imul =>
    obtain ⟨x, y, t, rfl, rfl⟩ := zII_inv h
    exact lv_imul hx hb hd (kk _ hl)
  case iand =>
    obtain ⟨x, y, t, rfl, rfl⟩ := zII_inv h
    exact lv_iand hx hb hd (kk _ hl)
  case ior =>
    obtain ⟨x, y, t, rfl, rfl⟩ := zII_inv h
    exact lv_ior hx hb hd (kk _ hl)
  case ixor =>
    obtain ⟨x, y, t, rfl, rfl⟩ := zII_inv h
    exact lv_ixor hx hb hd (kk _ hl)
  case ishl =>
    obtain ⟨x, y, t, rfl, rfl⟩ := zII_inv h
    exact lv_ishl hx hb hd (kk _ hl)
  case ishr =>
    obtain ⟨x, y, t, rfl, rfl⟩ := zII_inv h
    exact lv_ishr hx hb hd (kk _ hl)
  case iushr =>
    obtain ⟨x, y, t, rfl, rfl⟩ := zII_inv h
    exact lv_iushr hx hb hd rfl (kk _ hl)
  case ladd =>
    obtain ⟨x, y, t, rfl, rfl⟩ := zLL_inv h
    exact lv_ladd hx hb hd (kk _ hl)
  case lsub =>
    obtain ⟨x, y, t, rfl, rfl⟩ := zLL_inv h
    exact lv_lsub hx hb hd (kk _ hl)
  case lmul =>
    obtain ⟨x, y, t, rfl, rfl⟩ := zLL_inv h
    exact lv_lmul hx hb hd (kk _ hl)
  case ineg =>
    obtain ⟨x, t, rfl, rfl⟩ := zI1_inv h
    exact lv_ineg hx hb hd (kk _ hl)
  case i2l =>
    obtain ⟨x, t, rfl, rfl⟩ := zI1_inv h
    exact lv_i2l hx hb hd rfl (kk _ hl)
  case i2b =>
    obtain ⟨x, t, rfl, rfl⟩ := zI1_inv h
    exact lv_i2b hx hb hd rfl (kk _ hl)
  case i2c =>
    obtain ⟨x, t, rfl, rfl⟩ := zI1_inv h
    exact lv_i2c hx hb hd rfl (kk _ hl)
  case l2i =>
    obtain ⟨x, t, rfl, rfl⟩ := zL1_inv h
    exact lv_l2i hx hb hd rfl (kk _ hl)
  case dup =>
    obtain ⟨v, t, rfl, h1, rfl⟩ := zDup_inv h
    exact lv_dup hx hb hd h1 (kk _ hl)
  case pop =>
    obtain ⟨v, t, rfl, h1, rfl⟩ := zPop_inv h
    exact lv_pop hx hb hd h1 (kk _ hl)
  case pop2 =>
    rcases zPop2_inv h with ⟨x, t, rfl, rfl⟩ | ⟨v, w, t, rfl, h1, h2, rfl⟩
    · exact lv_pop2_2 hx hb hd rfl (kk _ hl)
    · exact lv_pop2_11 hx hb hd h1 h2 (kk _ hl)
  case dup_x1 =>
    obtain ⟨v, w, t, rfl, h1, h2, rfl⟩ := zDupX1_inv h
    exact lv_dup_x1 hx hb hd h1 h2 (kk _ hl)
  case dup2 =>
    obtain ⟨v, w, t, rfl, h1, h2, rfl⟩ := zDup2_inv h
    exact lv_dup2_11 hx hb hd h1 h2 (kk _ hl)
  all_goals cases h
abbrev zSg : Type := List (Instr × Int32)
def zRun : zSg → Nat → zLs → List Value → Option (Nat × zLs × List Value)
  | [], pc, L, st => some (pc, L, st)
  | (i, c) :: t, pc, L, st => match zP i c L st with
    | some r => zRun t (pc + zLn i) r.1 r.2
    | none => none
def zSeg (cc : ByteArray) : zSg → Nat → Bool
  | [], _ => true
  | (i, c) :: t, pc => (match decode cc pc with
    | .ok x => decide (x = (i, zLn i))
    | _ => false) && zCk i c && zSeg cc t (pc + zLn i)
theorem zRun_sound (hx : p.tables.exec = Jvm.exec) (hb : c.code = cc) : ∀ (sg : zSg) (pc : Nat) (L : zLs) (st : List Value) (r : Nat × zLs × List Value) (ls : Array Slot), zSeg cc sg pc = true → zRun sg pc L st = some r → zL ls L →
    (∀ ls' : Array Slot, zL ls' r.2.1 → W p l e R s m args below meth c H locs cells slots Q (F0 m r.1 ls' r.2.2)) → W p l e R s m args below meth c H locs cells slots Q (F0 m pc ls st)
  | [], pc, L, st, r, ls, hs, h, hl, kk => by
    obtain rfl := Option.some.inj h
    exact kk ls hl
  | (i, k) :: t, pc, L, st, r, ls, hs, h, hl, kk => by
    simp only [zSeg, Bool.and_eq_true] at hs
    obtain ⟨⟨h1, h2⟩, h3⟩ := hs
    simp only [zRun] at h
    split at h
    · next r1 e1 =>
      refine zP_sound (i := i) (k := k) hx hb ?_ h2 e1 hl (fun ls' hl' => zRun_sound hx hb t _ _ _ r ls' h3 h hl' kk)
      split at h1
      · next x hx9 => rw [hx9, of_decide_eq_true h1]
      · cases h1
    · cases h
end ZPure
