/-! a decoder over a list of bytes: one decision for a whole method -/
section LQ
variable {cc : ByteArray} {pc : Nat}
theorem q_nx {l : List UInt8} {p : Nat} {b : UInt8} {r : List UInt8} (h : l.drop p = b :: r) : l.drop (p + 1) = r := by
  rw [← List.tail_drop, h]
  rfl
theorem q_lt {b : UInt8} {r : List UInt8} (h : cc.data.toList.drop pc = b :: r) : pc < cc.size := by
  have h0 := congrArg List.length h
  rw [List.length_drop, List.length_cons] at h0
  show pc < cc.data.toList.length
  omega
theorem q_at {b : UInt8} {r : List UInt8} (h : cc.data.toList.drop pc = b :: r) (hl : pc < cc.size) : cc[pc]'hl = b := by
  have h1 : cc.data.toList.drop pc = cc.data.toList[pc]'hl :: cc.data.toList.drop (pc + 1) := List.drop_eq_getElem_cons hl
  rw [h] at h1
  exact (List.cons.inj h1).1.symm
theorem q_u1 {b : UInt8} {r : List UInt8} (h : cc.data.toList.drop pc = b :: r) : (Reader.u1 : Decoder Nat) cc pc = .ok (b.toNat, pc + 1) := by
  have hl := q_lt h
  have hb := q_at h hl
  show (if h9 : pc < cc.size then (do set (pc + 1); pure (cc[pc]'h9).toNat : Decoder Nat) else throw (HasTruncated.truncated pc)) cc pc = _
  rw [dif_pos hl, hb]
  rfl
theorem q_bind {α β : Type} {r : Decoder α} {f : α → Decoder β} {A : ByteArray} {p s : Nat} {a : α} (h : r A p = .ok (a, s)) : (r >>= f) A p = f a A s := by
  show (do let (a, s) ← r A p; f a A s : Except DecodeError (β × Nat)) = _
  rw [h]
  rfl
theorem q_map {α β : Type} {r : Decoder α} {g : α → β} {A : ByteArray} {p s : Nat} {a : α} (h : r A p = .ok (a, s)) : (g <$> r) A p = .ok (g a, s) := by
  show (do let (a, s) ← r A p; .ok (g a, s) : Except DecodeError (β × Nat)) = _
  rw [h]
  rfl
theorem q_u2 {x y : UInt8} {t : List UInt8} (h : cc.data.toList.drop pc = x :: y :: t) : (Reader.u2 : Decoder Nat) cc pc = .ok (x.toNat * 256 + y.toNat, pc + 2) :=
  (q_bind (q_u1 h)).trans ((q_bind (q_u1 (q_nx h))).trans rfl)
theorem q_s2 {x y : UInt8} {t : List UInt8} (h : cc.data.toList.drop pc = x :: y :: t) : (Reader.s2 : Decoder Int) cc pc = .ok (Reader.signed 16 (x.toNat * 256 + y.toNat), pc + 2) := q_map (q_u2 h)
theorem q_dec {i : Instr} {n : Nat} (h : (Decoder.instr pc) cc pc = .ok (i, pc + n)) : decode cc pc = .ok (i, n) := by
  show (do let (a, s) ← (Decoder.instr pc) cc pc; pure (a, s - pc) : Except DecodeError (Instr × Nat)) = _
  rw [h]
  show Except.ok (i, pc + n - pc) = _
  rw [Nat.add_sub_cancel_left]
theorem q_s1 {x : UInt8} {t : List UInt8} (h : cc.data.toList.drop pc = x :: t) : (Reader.s1 : Decoder Int) cc pc = .ok (Reader.signed 8 x.toNat, pc + 1) := q_map (q_u1 h)
def lF1 (f : Nat → Instr) : List UInt8 → Option (Instr × Nat)
  | x :: _ => some (f x.toNat, 2)
  | [] => none
def lF2 (f : Nat → Instr) : List UInt8 → Option (Instr × Nat)
  | x :: y :: _ => some (f (x.toNat * 256 + y.toNat), 3)
  | _ => none
def lF3 (f : Int → Instr) : List UInt8 → Option (Instr × Nat)
  | x :: y :: _ => some (f (Reader.signed 16 (x.toNat * 256 + y.toNat)), 3)
  | _ => none
theorem lF1_inv {f : Nat → Instr} {r : List UInt8} {z : Instr × Nat} (h : lF1 f r = some z) : ∃ x t, r = x :: t ∧ z = (f x.toNat, 2) := by
  cases r with
  | nil => cases h
  | cons x t => exact ⟨x, t, rfl, (Option.some.inj h).symm⟩
theorem lF2_inv {f : Nat → Instr} {r : List UInt8} {z : Instr × Nat} (h : lF2 f r = some z) : ∃ x y t, r = x :: y :: t ∧ z = (f (x.toNat * 256 + y.toNat), 3) := by
  cases r with
  | nil => cases h
  | cons x t =>
    cases t with
    | nil => cases h
    | cons y t => exact ⟨x, y, t, rfl, (Option.some.inj h).symm⟩
theorem lF3_inv {f : Int → Instr} {r : List UInt8} {z : Instr × Nat} (h : lF3 f r = some z) : ∃ x y t, r = x :: y :: t ∧ z = (f (Reader.signed 16 (x.toNat * 256 + y.toNat)), 3) := by
  cases r with
  | nil => cases h
  | cons x t =>
    cases t with
    | nil => cases h
    | cons y t => exact ⟨x, y, t, rfl, (Option.some.inj h).symm⟩
def lF4 (f : Int → Instr) : List UInt8 → Option (Instr × Nat)
  | x :: _ => some (f (Reader.signed 8 x.toNat), 2)
  | [] => none
def lF5 (f : Nat → Int → Instr) : List UInt8 → Option (Instr × Nat)
  | x :: y :: _ => some (f x.toNat (Reader.signed 8 y.toNat), 3)
  | _ => none
theorem lF4_inv {f : Int → Instr} {r : List UInt8} {z : Instr × Nat} (h : lF4 f r = some z) : ∃ x t, r = x :: t ∧ z = (f (Reader.signed 8 x.toNat), 2) := by
  cases r with
  | nil => cases h
  | cons x t => exact ⟨x, t, rfl, (Option.some.inj h).symm⟩
theorem lF5_inv {f : Nat → Int → Instr} {r : List UInt8} {z : Instr × Nat} (h : lF5 f r = some z) : ∃ x y t, r = x :: y :: t ∧ z = (f x.toNat (Reader.signed 8 y.toNat), 3) := by
  cases r with
  | nil => cases h
  | cons x t =>
    cases t with
    | nil => cases h
    | cons y t => exact ⟨x, y, t, rfl, (Option.some.inj h).symm⟩
def lG8 (op : Nat) (r : List UInt8) : Option (Instr × Nat) :=
  if op = 97 then some (.ladd, 1)
  else if op = 148 then some (.lcmp, 1)
  else if op = 146 then some (.i2c, 1)
  else if op = 157 then lF3 (fun n => .ifCond .gt n) r
  else if op = 165 then lF3 (fun n => .if_acmp .eq n) r
  else if op = 166 then lF3 (fun n => .if_acmp .ne n) r
  else if op = 136 then some (.l2i, 1)
  else none
theorem lG8_ok {op : Nat} {b : UInt8} {r : List UInt8} {z : Instr × Nat} (hb : cc.data.toList.drop pc = b :: r) (e : (Reader.u1 : Decoder Nat) cc pc = .ok (op, pc + 1)) (h : lG8 op r = some z) : decode cc pc = .ok z := by
  unfold lG8 at h
  by_cases c : op = 97
  · subst c; rw [if_pos rfl] at h; cases h; exact q_dec ((q_bind e).trans rfl)
  rw [if_neg c] at h; clear c
  by_cases c : op = 148
  · subst c; rw [if_pos rfl] at h; cases h; exact q_dec ((q_bind e).trans rfl)
  rw [if_neg c] at h; clear c
  by_cases c : op = 146
  · subst c; rw [if_pos rfl] at h; cases h; exact q_dec ((q_bind e).trans rfl)
  rw [if_neg c] at h; clear c
  by_cases c : op = 157
  · subst c; rw [if_pos rfl] at h; obtain ⟨x, y, t, rfl, rfl⟩ := lF3_inv h; exact q_dec ((q_bind e).trans ((q_bind (q_s2 (q_nx hb))).trans rfl))
  rw [if_neg c] at h; clear c
  by_cases c : op = 165
  · subst c; rw [if_pos rfl] at h; obtain ⟨x, y, t, rfl, rfl⟩ := lF3_inv h; exact q_dec ((q_bind e).trans ((q_bind (q_s2 (q_nx hb))).trans rfl))
  rw [if_neg c] at h; clear c
  by_cases c : op = 166
  · subst c; rw [if_pos rfl] at h; obtain ⟨x, y, t, rfl, rfl⟩ := lF3_inv h; exact q_dec ((q_bind e).trans ((q_bind (q_s2 (q_nx hb))).trans rfl))
  rw [if_neg c] at h; clear c
  by_cases c : op = 136
  · subst c; rw [if_pos rfl] at h; cases h; exact q_dec ((q_bind e).trans rfl)
  rw [if_neg c] at h; clear c
  cases h
def lG7 (op : Nat) (r : List UInt8) : Option (Instr × Nat) :=
  if op = 90 then some (.dup_x1, 1)
  else if op = 145 then some (.i2b, 1)
  else if op = 1 then some (.aconst_null, 1)
  else if op = 20 then lF2 (fun n => .ldc2_w n) r
  else if op = 189 then lF2 (fun n => .anewarray n) r
  else if op = 130 then some (.ixor, 1)
  else if op = 92 then some (.dup2, 1)
  else if op = 76 then some (.astore_n 1, 1)
  else if op = 88 then some (.pop2, 1)
  else if op = 30 then some (.lload_n 0, 1)
  else if op = 105 then some (.lmul, 1)
  else if op = 32 then some (.lload_n 2, 1)
  else lG8 op r
theorem lG7_ok {op : Nat} {b : UInt8} {r : List UInt8} {z : Instr × Nat} (hb : cc.data.toList.drop pc = b :: r) (e : (Reader.u1 : Decoder Nat) cc pc = .ok (op, pc + 1)) (h : lG7 op r = some z) : decode cc pc = .ok z := by
  unfold lG7 at h
  by_cases c : op = 90
  · subst c; rw [if_pos rfl] at h; cases h; exact q_dec ((q_bind e).trans rfl)
  rw [if_neg c] at h; clear c
  by_cases c : op = 145
  · subst c; rw [if_pos rfl] at h; cases h; exact q_dec ((q_bind e).trans rfl)
  rw [if_neg c] at h; clear c
  by_cases c : op = 1
  · subst c; rw [if_pos rfl] at h; cases h; exact q_dec ((q_bind e).trans rfl)
  rw [if_neg c] at h; clear c
  by_cases c : op = 20
  · subst c; rw [if_pos rfl] at h; obtain ⟨x, y, t, rfl, rfl⟩ := lF2_inv h; exact q_dec ((q_bind e).trans ((q_bind (q_u2 (q_nx hb))).trans rfl))
  rw [if_neg c] at h; clear c
  by_cases c : op = 189
  · subst c; rw [if_pos rfl] at h; obtain ⟨x, y, t, rfl, rfl⟩ := lF2_inv h; exact q_dec ((q_bind e).trans ((q_bind (q_u2 (q_nx hb))).trans rfl))
  rw [if_neg c] at h; clear c
  by_cases c : op = 130
  · subst c; rw [if_pos rfl] at h; cases h; exact q_dec ((q_bind e).trans rfl)
  rw [if_neg c] at h; clear c
  by_cases c : op = 92
  · subst c; rw [if_pos rfl] at h; cases h; exact q_dec ((q_bind e).trans rfl)
  rw [if_neg c] at h; clear c
  by_cases c : op = 76
  · subst c; rw [if_pos rfl] at h; cases h; exact q_dec ((q_bind e).trans rfl)
  rw [if_neg c] at h; clear c
  by_cases c : op = 88
  · subst c; rw [if_pos rfl] at h; cases h; exact q_dec ((q_bind e).trans rfl)
  rw [if_neg c] at h; clear c
  by_cases c : op = 30
  · subst c; rw [if_pos rfl] at h; cases h; exact q_dec ((q_bind e).trans rfl)
  rw [if_neg c] at h; clear c
  by_cases c : op = 105
  · subst c; rw [if_pos rfl] at h; cases h; exact q_dec ((q_bind e).trans rfl)
  rw [if_neg c] at h; clear c
  by_cases c : op = 32
  · subst c; rw [if_pos rfl] at h; cases h; exact q_dec ((q_bind e).trans rfl)
  rw [if_neg c] at h; clear c
  exact lG8_ok hb e h
def lG6 (op : Nat) (r : List UInt8) : Option (Instr × Nat) :=
  if op = 10 then some (.lconst 1, 1)
  else if op = 9 then some (.lconst 0, 1)
  else if op = 199 then lF3 (fun n => .ifnonnull n) r
  else if op = 198 then lF3 (fun n => .ifnull n) r
  else if op = 116 then some (.ineg, 1)
  else if op = 104 then some (.imul, 1)
  else if op = 128 then some (.ior, 1)
  else if op = 83 then some (.aastore, 1)
  else if op = 124 then some (.iushr, 1)
  else if op = 173 then some (.lreturn, 1)
  else if op = 17 then lF3 (fun n => .sipush n) r
  else if op = 108 then some (.idiv, 1)
  else lG7 op r
theorem lG6_ok {op : Nat} {b : UInt8} {r : List UInt8} {z : Instr × Nat} (hb : cc.data.toList.drop pc = b :: r) (e : (Reader.u1 : Decoder Nat) cc pc = .ok (op, pc + 1)) (h : lG6 op r = some z) : decode cc pc = .ok z := by
  unfold lG6 at h
  by_cases c : op = 10
  · subst c; rw [if_pos rfl] at h; cases h; exact q_dec ((q_bind e).trans rfl)
  rw [if_neg c] at h; clear c
  by_cases c : op = 9
  · subst c; rw [if_pos rfl] at h; cases h; exact q_dec ((q_bind e).trans rfl)
  rw [if_neg c] at h; clear c
  by_cases c : op = 199
  · subst c; rw [if_pos rfl] at h; obtain ⟨x, y, t, rfl, rfl⟩ := lF3_inv h; exact q_dec ((q_bind e).trans ((q_bind (q_s2 (q_nx hb))).trans rfl))
  rw [if_neg c] at h; clear c
  by_cases c : op = 198
  · subst c; rw [if_pos rfl] at h; obtain ⟨x, y, t, rfl, rfl⟩ := lF3_inv h; exact q_dec ((q_bind e).trans ((q_bind (q_s2 (q_nx hb))).trans rfl))
  rw [if_neg c] at h; clear c
  by_cases c : op = 116
  · subst c; rw [if_pos rfl] at h; cases h; exact q_dec ((q_bind e).trans rfl)
  rw [if_neg c] at h; clear c
  by_cases c : op = 104
  · subst c; rw [if_pos rfl] at h; cases h; exact q_dec ((q_bind e).trans rfl)
  rw [if_neg c] at h; clear c
  by_cases c : op = 128
  · subst c; rw [if_pos rfl] at h; cases h; exact q_dec ((q_bind e).trans rfl)
  rw [if_neg c] at h; clear c
  by_cases c : op = 83
  · subst c; rw [if_pos rfl] at h; cases h; exact q_dec ((q_bind e).trans rfl)
  rw [if_neg c] at h; clear c
  by_cases c : op = 124
  · subst c; rw [if_pos rfl] at h; cases h; exact q_dec ((q_bind e).trans rfl)
  rw [if_neg c] at h; clear c
  by_cases c : op = 173
  · subst c; rw [if_pos rfl] at h; cases h; exact q_dec ((q_bind e).trans rfl)
  rw [if_neg c] at h; clear c
  by_cases c : op = 17
  · subst c; rw [if_pos rfl] at h; obtain ⟨x, y, t, rfl, rfl⟩ := lF3_inv h; exact q_dec ((q_bind e).trans ((q_bind (q_s2 (q_nx hb))).trans rfl))
  rw [if_neg c] at h; clear c
  by_cases c : op = 108
  · subst c; rw [if_pos rfl] at h; cases h; exact q_dec ((q_bind e).trans rfl)
  rw [if_neg c] at h; clear c
  exact lG7_ok hb e h
def lG5 (op : Nat) (r : List UInt8) : Option (Instr × Nat) :=
  if op = 120 then some (.ishl, 1)
  else if op = 158 then lF3 (fun n => .ifCond .le n) r
  else if op = 84 then some (.bastore, 1)
  else if op = 126 then some (.iand, 1)
  else if op = 55 then lF1 (fun n => .lstore n) r
  else if op = 22 then lF1 (fun n => .lload n) r
  else if op = 77 then some (.astore_n 2, 1)
  else if op = 51 then some (.baload, 1)
  else if op = 7 then some (.iconst 4, 1)
  else if op = 122 then some (.ishr, 1)
  else if op = 156 then lF3 (fun n => .ifCond .ge n) r
  else if op = 59 then some (.istore_n 0, 1)
  else lG6 op r
theorem lG5_ok {op : Nat} {b : UInt8} {r : List UInt8} {z : Instr × Nat} (hb : cc.data.toList.drop pc = b :: r) (e : (Reader.u1 : Decoder Nat) cc pc = .ok (op, pc + 1)) (h : lG5 op r = some z) : decode cc pc = .ok z := by
  unfold lG5 at h
  by_cases c : op = 120
  · subst c; rw [if_pos rfl] at h; cases h; exact q_dec ((q_bind e).trans rfl)
  rw [if_neg c] at h; clear c
  by_cases c : op = 158
  · subst c; rw [if_pos rfl] at h; obtain ⟨x, y, t, rfl, rfl⟩ := lF3_inv h; exact q_dec ((q_bind e).trans ((q_bind (q_s2 (q_nx hb))).trans rfl))
  rw [if_neg c] at h; clear c
  by_cases c : op = 84
  · subst c; rw [if_pos rfl] at h; cases h; exact q_dec ((q_bind e).trans rfl)
  rw [if_neg c] at h; clear c
  by_cases c : op = 126
  · subst c; rw [if_pos rfl] at h; cases h; exact q_dec ((q_bind e).trans rfl)
  rw [if_neg c] at h; clear c
  by_cases c : op = 55
  · subst c; rw [if_pos rfl] at h; obtain ⟨x, t, rfl, rfl⟩ := lF1_inv h; exact q_dec ((q_bind e).trans ((q_bind (q_u1 (q_nx hb))).trans rfl))
  rw [if_neg c] at h; clear c
  by_cases c : op = 22
  · subst c; rw [if_pos rfl] at h; obtain ⟨x, t, rfl, rfl⟩ := lF1_inv h; exact q_dec ((q_bind e).trans ((q_bind (q_u1 (q_nx hb))).trans rfl))
  rw [if_neg c] at h; clear c
  by_cases c : op = 77
  · subst c; rw [if_pos rfl] at h; cases h; exact q_dec ((q_bind e).trans rfl)
  rw [if_neg c] at h; clear c
  by_cases c : op = 51
  · subst c; rw [if_pos rfl] at h; cases h; exact q_dec ((q_bind e).trans rfl)
  rw [if_neg c] at h; clear c
  by_cases c : op = 7
  · subst c; rw [if_pos rfl] at h; cases h; exact q_dec ((q_bind e).trans rfl)
  rw [if_neg c] at h; clear c
  by_cases c : op = 122
  · subst c; rw [if_pos rfl] at h; cases h; exact q_dec ((q_bind e).trans rfl)
  rw [if_neg c] at h; clear c
  by_cases c : op = 156
  · subst c; rw [if_pos rfl] at h; obtain ⟨x, y, t, rfl, rfl⟩ := lF3_inv h; exact q_dec ((q_bind e).trans ((q_bind (q_s2 (q_nx hb))).trans rfl))
  rw [if_neg c] at h; clear c
  by_cases c : op = 59
  · subst c; rw [if_pos rfl] at h; cases h; exact q_dec ((q_bind e).trans rfl)
  rw [if_neg c] at h; clear c
  exact lG6_ok hb e h
def lG4 (op : Nat) (r : List UInt8) : Option (Instr × Nat) :=
  if op = 25 then lF1 (fun n => .aload n) r
  else if op = 79 then some (.iastore, 1)
  else if op = 192 then lF2 (fun n => .checkcast n) r
  else if op = 190 then some (.arraylength, 1)
  else if op = 31 then some (.lload_n 1, 1)
  else if op = 60 then some (.istore_n 1, 1)
  else if op = 164 then lF3 (fun n => .if_icmp .le n) r
  else if op = 19 then lF2 (fun n => .ldc_w n) r
  else if op = 8 then some (.iconst 5, 1)
  else if op = 112 then some (.irem, 1)
  else if op = 64 then some (.lstore_n 1, 1)
  else if op = 163 then lF3 (fun n => .if_icmp .gt n) r
  else lG5 op r
theorem lG4_ok {op : Nat} {b : UInt8} {r : List UInt8} {z : Instr × Nat} (hb : cc.data.toList.drop pc = b :: r) (e : (Reader.u1 : Decoder Nat) cc pc = .ok (op, pc + 1)) (h : lG4 op r = some z) : decode cc pc = .ok z := by
  unfold lG4 at h
  by_cases c : op = 25
  · subst c; rw [if_pos rfl] at h; obtain ⟨x, t, rfl, rfl⟩ := lF1_inv h; exact q_dec ((q_bind e).trans ((q_bind (q_u1 (q_nx hb))).trans rfl))
  rw [if_neg c] at h; clear c
  by_cases c : op = 79
  · subst c; rw [if_pos rfl] at h; cases h; exact q_dec ((q_bind e).trans rfl)
  rw [if_neg c] at h; clear c
  by_cases c : op = 192
  · subst c; rw [if_pos rfl] at h; obtain ⟨x, y, t, rfl, rfl⟩ := lF2_inv h; exact q_dec ((q_bind e).trans ((q_bind (q_u2 (q_nx hb))).trans rfl))
  rw [if_neg c] at h; clear c
  by_cases c : op = 190
  · subst c; rw [if_pos rfl] at h; cases h; exact q_dec ((q_bind e).trans rfl)
  rw [if_neg c] at h; clear c
  by_cases c : op = 31
  · subst c; rw [if_pos rfl] at h; cases h; exact q_dec ((q_bind e).trans rfl)
  rw [if_neg c] at h; clear c
  by_cases c : op = 60
  · subst c; rw [if_pos rfl] at h; cases h; exact q_dec ((q_bind e).trans rfl)
  rw [if_neg c] at h; clear c
  by_cases c : op = 164
  · subst c; rw [if_pos rfl] at h; obtain ⟨x, y, t, rfl, rfl⟩ := lF3_inv h; exact q_dec ((q_bind e).trans ((q_bind (q_s2 (q_nx hb))).trans rfl))
  rw [if_neg c] at h; clear c
  by_cases c : op = 19
  · subst c; rw [if_pos rfl] at h; obtain ⟨x, y, t, rfl, rfl⟩ := lF2_inv h; exact q_dec ((q_bind e).trans ((q_bind (q_u2 (q_nx hb))).trans rfl))
  rw [if_neg c] at h; clear c
  by_cases c : op = 8
  · subst c; rw [if_pos rfl] at h; cases h; exact q_dec ((q_bind e).trans rfl)
  rw [if_neg c] at h; clear c
  by_cases c : op = 112
  · subst c; rw [if_pos rfl] at h; cases h; exact q_dec ((q_bind e).trans rfl)
  rw [if_neg c] at h; clear c
  by_cases c : op = 64
  · subst c; rw [if_pos rfl] at h; cases h; exact q_dec ((q_bind e).trans rfl)
  rw [if_neg c] at h; clear c
  by_cases c : op = 163
  · subst c; rw [if_pos rfl] at h; obtain ⟨x, y, t, rfl, rfl⟩ := lF3_inv h; exact q_dec ((q_bind e).trans ((q_bind (q_s2 (q_nx hb))).trans rfl))
  rw [if_neg c] at h; clear c
  exact lG5_ok hb e h
def lG3 (op : Nat) (r : List UInt8) : Option (Instr × Nat) :=
  if op = 87 then some (.pop, 1)
  else if op = 50 then some (.aaload, 1)
  else if op = 6 then some (.iconst 3, 1)
  else if op = 61 then some (.istore_n 2, 1)
  else if op = 176 then some (.areturn, 1)
  else if op = 191 then some (.athrow, 1)
  else if op = 161 then lF3 (fun n => .if_icmp .lt n) r
  else if op = 18 then lF1 (fun n => .ldc n) r
  else if op = 178 then lF2 (fun n => .getstatic n) r
  else if op = 78 then some (.astore_n 3, 1)
  else if op = 159 then lF3 (fun n => .if_icmp .eq n) r
  else if op = 155 then lF3 (fun n => .ifCond .lt n) r
  else lG4 op r
theorem lG3_ok {op : Nat} {b : UInt8} {r : List UInt8} {z : Instr × Nat} (hb : cc.data.toList.drop pc = b :: r) (e : (Reader.u1 : Decoder Nat) cc pc = .ok (op, pc + 1)) (h : lG3 op r = some z) : decode cc pc = .ok z := by
  unfold lG3 at h
  by_cases c : op = 87
  · subst c; rw [if_pos rfl] at h; cases h; exact q_dec ((q_bind e).trans rfl)
  rw [if_neg c] at h; clear c
  by_cases c : op = 50
  · subst c; rw [if_pos rfl] at h; cases h; exact q_dec ((q_bind e).trans rfl)
  rw [if_neg c] at h; clear c
  by_cases c : op = 6
  · subst c; rw [if_pos rfl] at h; cases h; exact q_dec ((q_bind e).trans rfl)
  rw [if_neg c] at h; clear c
  by_cases c : op = 61
  · subst c; rw [if_pos rfl] at h; cases h; exact q_dec ((q_bind e).trans rfl)
  rw [if_neg c] at h; clear c
  by_cases c : op = 176
  · subst c; rw [if_pos rfl] at h; cases h; exact q_dec ((q_bind e).trans rfl)
  rw [if_neg c] at h; clear c
  by_cases c : op = 191
  · subst c; rw [if_pos rfl] at h; cases h; exact q_dec ((q_bind e).trans rfl)
  rw [if_neg c] at h; clear c
  by_cases c : op = 161
  · subst c; rw [if_pos rfl] at h; obtain ⟨x, y, t, rfl, rfl⟩ := lF3_inv h; exact q_dec ((q_bind e).trans ((q_bind (q_s2 (q_nx hb))).trans rfl))
  rw [if_neg c] at h; clear c
  by_cases c : op = 18
  · subst c; rw [if_pos rfl] at h; obtain ⟨x, t, rfl, rfl⟩ := lF1_inv h; exact q_dec ((q_bind e).trans ((q_bind (q_u1 (q_nx hb))).trans rfl))
  rw [if_neg c] at h; clear c
  by_cases c : op = 178
  · subst c; rw [if_pos rfl] at h; obtain ⟨x, y, t, rfl, rfl⟩ := lF2_inv h; exact q_dec ((q_bind e).trans ((q_bind (q_u2 (q_nx hb))).trans rfl))
  rw [if_neg c] at h; clear c
  by_cases c : op = 78
  · subst c; rw [if_pos rfl] at h; cases h; exact q_dec ((q_bind e).trans rfl)
  rw [if_neg c] at h; clear c
  by_cases c : op = 159
  · subst c; rw [if_pos rfl] at h; obtain ⟨x, y, t, rfl, rfl⟩ := lF3_inv h; exact q_dec ((q_bind e).trans ((q_bind (q_s2 (q_nx hb))).trans rfl))
  rw [if_neg c] at h; clear c
  by_cases c : op = 155
  · subst c; rw [if_pos rfl] at h; obtain ⟨x, y, t, rfl, rfl⟩ := lF3_inv h; exact q_dec ((q_bind e).trans ((q_bind (q_s2 (q_nx hb))).trans rfl))
  rw [if_neg c] at h; clear c
  exact lG4_ok hb e h
def lG2 (op : Nat) (r : List UInt8) : Option (Instr × Nat) :=
  if op = 154 then lF3 (fun n => .ifCond .ne n) r
  else if op = 62 then some (.istore_n 3, 1)
  else if op = 183 then lF2 (fun n => .invokespecial n) r
  else if op = 43 then some (.aload_n 1, 1)
  else if op = 177 then some (.return_, 1)
  else if op = 26 then some (.iload_n 0, 1)
  else if op = 58 then lF1 (fun n => .astore n) r
  else if op = 133 then some (.i2l, 1)
  else if op = 2 then some (.iconst (-1), 1)
  else if op = 100 then some (.isub, 1)
  else if op = 187 then lF2 (fun n => .new n) r
  else if op = 160 then lF3 (fun n => .if_icmp .ne n) r
  else lG3 op r
theorem lG2_ok {op : Nat} {b : UInt8} {r : List UInt8} {z : Instr × Nat} (hb : cc.data.toList.drop pc = b :: r) (e : (Reader.u1 : Decoder Nat) cc pc = .ok (op, pc + 1)) (h : lG2 op r = some z) : decode cc pc = .ok z := by
  unfold lG2 at h
  by_cases c : op = 154
  · subst c; rw [if_pos rfl] at h; obtain ⟨x, y, t, rfl, rfl⟩ := lF3_inv h; exact q_dec ((q_bind e).trans ((q_bind (q_s2 (q_nx hb))).trans rfl))
  rw [if_neg c] at h; clear c
  by_cases c : op = 62
  · subst c; rw [if_pos rfl] at h; cases h; exact q_dec ((q_bind e).trans rfl)
  rw [if_neg c] at h; clear c
  by_cases c : op = 183
  · subst c; rw [if_pos rfl] at h; obtain ⟨x, y, t, rfl, rfl⟩ := lF2_inv h; exact q_dec ((q_bind e).trans ((q_bind (q_u2 (q_nx hb))).trans rfl))
  rw [if_neg c] at h; clear c
  by_cases c : op = 43
  · subst c; rw [if_pos rfl] at h; cases h; exact q_dec ((q_bind e).trans rfl)
  rw [if_neg c] at h; clear c
  by_cases c : op = 177
  · subst c; rw [if_pos rfl] at h; cases h; exact q_dec ((q_bind e).trans rfl)
  rw [if_neg c] at h; clear c
  by_cases c : op = 26
  · subst c; rw [if_pos rfl] at h; cases h; exact q_dec ((q_bind e).trans rfl)
  rw [if_neg c] at h; clear c
  by_cases c : op = 58
  · subst c; rw [if_pos rfl] at h; obtain ⟨x, t, rfl, rfl⟩ := lF1_inv h; exact q_dec ((q_bind e).trans ((q_bind (q_u1 (q_nx hb))).trans rfl))
  rw [if_neg c] at h; clear c
  by_cases c : op = 133
  · subst c; rw [if_pos rfl] at h; cases h; exact q_dec ((q_bind e).trans rfl)
  rw [if_neg c] at h; clear c
  by_cases c : op = 2
  · subst c; rw [if_pos rfl] at h; cases h; exact q_dec ((q_bind e).trans rfl)
  rw [if_neg c] at h; clear c
  by_cases c : op = 100
  · subst c; rw [if_pos rfl] at h; cases h; exact q_dec ((q_bind e).trans rfl)
  rw [if_neg c] at h; clear c
  by_cases c : op = 187
  · subst c; rw [if_pos rfl] at h; obtain ⟨x, y, t, rfl, rfl⟩ := lF2_inv h; exact q_dec ((q_bind e).trans ((q_bind (q_u2 (q_nx hb))).trans rfl))
  rw [if_neg c] at h; clear c
  by_cases c : op = 160
  · subst c; rw [if_pos rfl] at h; obtain ⟨x, y, t, rfl, rfl⟩ := lF3_inv h; exact q_dec ((q_bind e).trans ((q_bind (q_s2 (q_nx hb))).trans rfl))
  rw [if_neg c] at h; clear c
  exact lG3_ok hb e h
def lG1 (op : Nat) (r : List UInt8) : Option (Instr × Nat) :=
  if op = 184 then lF2 (fun n => .invokestatic n) r
  else if op = 46 then some (.iaload, 1)
  else if op = 54 then lF1 (fun n => .istore n) r
  else if op = 5 then some (.iconst 2, 1)
  else if op = 153 then lF3 (fun n => .ifCond .eq n) r
  else if op = 45 then some (.aload_n 3, 1)
  else if op = 132 then lF5 (fun n k => .iinc n k) r
  else if op = 44 then some (.aload_n 2, 1)
  else if op = 181 then lF2 (fun n => .putfield n) r
  else if op = 16 then lF4 (fun n => .bipush n) r
  else if op = 162 then lF3 (fun n => .if_icmp .ge n) r
  else if op = 89 then some (.dup, 1)
  else lG2 op r
theorem lG1_ok {op : Nat} {b : UInt8} {r : List UInt8} {z : Instr × Nat} (hb : cc.data.toList.drop pc = b :: r) (e : (Reader.u1 : Decoder Nat) cc pc = .ok (op, pc + 1)) (h : lG1 op r = some z) : decode cc pc = .ok z := by
  unfold lG1 at h
  by_cases c : op = 184
  · subst c; rw [if_pos rfl] at h; obtain ⟨x, y, t, rfl, rfl⟩ := lF2_inv h; exact q_dec ((q_bind e).trans ((q_bind (q_u2 (q_nx hb))).trans rfl))
  rw [if_neg c] at h; clear c
  by_cases c : op = 46
  · subst c; rw [if_pos rfl] at h; cases h; exact q_dec ((q_bind e).trans rfl)
  rw [if_neg c] at h; clear c
  by_cases c : op = 54
  · subst c; rw [if_pos rfl] at h; obtain ⟨x, t, rfl, rfl⟩ := lF1_inv h; exact q_dec ((q_bind e).trans ((q_bind (q_u1 (q_nx hb))).trans rfl))
  rw [if_neg c] at h; clear c
  by_cases c : op = 5
  · subst c; rw [if_pos rfl] at h; cases h; exact q_dec ((q_bind e).trans rfl)
  rw [if_neg c] at h; clear c
  by_cases c : op = 153
  · subst c; rw [if_pos rfl] at h; obtain ⟨x, y, t, rfl, rfl⟩ := lF3_inv h; exact q_dec ((q_bind e).trans ((q_bind (q_s2 (q_nx hb))).trans rfl))
  rw [if_neg c] at h; clear c
  by_cases c : op = 45
  · subst c; rw [if_pos rfl] at h; cases h; exact q_dec ((q_bind e).trans rfl)
  rw [if_neg c] at h; clear c
  by_cases c : op = 132
  · subst c; rw [if_pos rfl] at h; obtain ⟨x, y, t, rfl, rfl⟩ := lF5_inv h; exact q_dec ((q_bind e).trans ((q_bind (q_u1 (q_nx hb))).trans ((q_bind (q_s1 (q_nx (q_nx hb)))).trans rfl)))
  rw [if_neg c] at h; clear c
  by_cases c : op = 44
  · subst c; rw [if_pos rfl] at h; cases h; exact q_dec ((q_bind e).trans rfl)
  rw [if_neg c] at h; clear c
  by_cases c : op = 181
  · subst c; rw [if_pos rfl] at h; obtain ⟨x, y, t, rfl, rfl⟩ := lF2_inv h; exact q_dec ((q_bind e).trans ((q_bind (q_u2 (q_nx hb))).trans rfl))
  rw [if_neg c] at h; clear c
  by_cases c : op = 16
  · subst c; rw [if_pos rfl] at h; obtain ⟨x, t, rfl, rfl⟩ := lF4_inv h; exact q_dec ((q_bind e).trans ((q_bind (q_s1 (q_nx hb))).trans rfl))
  rw [if_neg c] at h; clear c
  by_cases c : op = 162
  · subst c; rw [if_pos rfl] at h; obtain ⟨x, y, t, rfl, rfl⟩ := lF3_inv h; exact q_dec ((q_bind e).trans ((q_bind (q_s2 (q_nx hb))).trans rfl))
  rw [if_neg c] at h; clear c
  by_cases c : op = 89
  · subst c; rw [if_pos rfl] at h; cases h; exact q_dec ((q_bind e).trans rfl)
  rw [if_neg c] at h; clear c
  exact lG2_ok hb e h
def lG0 (op : Nat) (r : List UInt8) : Option (Instr × Nat) :=
  if op = 42 then some (.aload_n 0, 1)
  else if op = 182 then lF2 (fun n => .invokevirtual n) r
  else if op = 27 then some (.iload_n 1, 1)
  else if op = 21 then lF1 (fun n => .iload n) r
  else if op = 172 then some (.ireturn, 1)
  else if op = 4 then some (.iconst 1, 1)
  else if op = 180 then lF2 (fun n => .getfield n) r
  else if op = 28 then some (.iload_n 2, 1)
  else if op = 3 then some (.iconst 0, 1)
  else if op = 167 then lF3 (fun n => .goto n) r
  else if op = 29 then some (.iload_n 3, 1)
  else if op = 96 then some (.iadd, 1)
  else lG1 op r
theorem lG0_ok {op : Nat} {b : UInt8} {r : List UInt8} {z : Instr × Nat} (hb : cc.data.toList.drop pc = b :: r) (e : (Reader.u1 : Decoder Nat) cc pc = .ok (op, pc + 1)) (h : lG0 op r = some z) : decode cc pc = .ok z := by
  unfold lG0 at h
  by_cases c : op = 42
  · subst c; rw [if_pos rfl] at h; cases h; exact q_dec ((q_bind e).trans rfl)
  rw [if_neg c] at h; clear c
  by_cases c : op = 182
  · subst c; rw [if_pos rfl] at h; obtain ⟨x, y, t, rfl, rfl⟩ := lF2_inv h; exact q_dec ((q_bind e).trans ((q_bind (q_u2 (q_nx hb))).trans rfl))
  rw [if_neg c] at h; clear c
  by_cases c : op = 27
  · subst c; rw [if_pos rfl] at h; cases h; exact q_dec ((q_bind e).trans rfl)
  rw [if_neg c] at h; clear c
  by_cases c : op = 21
  · subst c; rw [if_pos rfl] at h; obtain ⟨x, t, rfl, rfl⟩ := lF1_inv h; exact q_dec ((q_bind e).trans ((q_bind (q_u1 (q_nx hb))).trans rfl))
  rw [if_neg c] at h; clear c
  by_cases c : op = 172
  · subst c; rw [if_pos rfl] at h; cases h; exact q_dec ((q_bind e).trans rfl)
  rw [if_neg c] at h; clear c
  by_cases c : op = 4
  · subst c; rw [if_pos rfl] at h; cases h; exact q_dec ((q_bind e).trans rfl)
  rw [if_neg c] at h; clear c
  by_cases c : op = 180
  · subst c; rw [if_pos rfl] at h; obtain ⟨x, y, t, rfl, rfl⟩ := lF2_inv h; exact q_dec ((q_bind e).trans ((q_bind (q_u2 (q_nx hb))).trans rfl))
  rw [if_neg c] at h; clear c
  by_cases c : op = 28
  · subst c; rw [if_pos rfl] at h; cases h; exact q_dec ((q_bind e).trans rfl)
  rw [if_neg c] at h; clear c
  by_cases c : op = 3
  · subst c; rw [if_pos rfl] at h; cases h; exact q_dec ((q_bind e).trans rfl)
  rw [if_neg c] at h; clear c
  by_cases c : op = 167
  · subst c; rw [if_pos rfl] at h; obtain ⟨x, y, t, rfl, rfl⟩ := lF3_inv h; exact q_dec ((q_bind e).trans ((q_bind (q_s2 (q_nx hb))).trans rfl))
  rw [if_neg c] at h; clear c
  by_cases c : op = 29
  · subst c; rw [if_pos rfl] at h; cases h; exact q_dec ((q_bind e).trans rfl)
  rw [if_neg c] at h; clear c
  by_cases c : op = 96
  · subst c; rw [if_pos rfl] at h; cases h; exact q_dec ((q_bind e).trans rfl)
  rw [if_neg c] at h; clear c
  exact lG1_ok hb e h
def lD : List UInt8 → Option (Instr × Nat)
  | [] => none
  | b :: r => lG0 b.toNat r
theorem lD_ok {z : Instr × Nat} (h : lD (cc.data.toList.drop pc) = some z) : decode cc pc = .ok z := by
  cases hb : cc.data.toList.drop pc with
  | nil => rw [hb] at h; cases h
  | cons b r => rw [hb] at h; exact lG0_ok hb (q_u1 hb) h
def lI (i : Instr) (n : Nat) (bs : List UInt8) : Bool := match lD bs with
  | some z => decide (z = (i, n))
  | none => false
theorem lI_ok {i : Instr} {n : Nat} (h : lI i n (cc.data.toList.drop pc) = true) : decode cc pc = .ok (i, n) := by
  unfold lI at h
  cases hd : lD (cc.data.toList.drop pc) with
  | none => rw [hd] at h; cases h
  | some z => rw [hd] at h; rw [lD_ok hd, of_decide_eq_true h]
def lS : zSg → List UInt8 → Bool
  | [], _ => true
  | (i, c) :: t, bs => lI i (zLn i) bs && zCk i c && lS t (bs.drop (zLn i))
theorem lS_ok : ∀ (sg : zSg) (pc : Nat), lS sg (cc.data.toList.drop pc) = true → zSeg cc sg pc = true
  | [], _, _ => rfl
  | (i, c) :: t, pc, h => by
    simp only [lS, Bool.and_eq_true] at h
    obtain ⟨⟨h1, h2⟩, h3⟩ := h
    rw [List.drop_drop] at h3
    simp only [zSeg, Bool.and_eq_true]
    refine ⟨⟨?_, h2⟩, lS_ok t (pc + zLn i) h3⟩
    rw [lI_ok h1]
    exact decide_eq_true rfl
theorem lI_at {i : Instr} {n : Nat} (a b : Nat) (h : lI i n ((cc.data.toList.drop a).drop b) = true) : decode cc (a + b) = .ok (i, n) := by
  rw [List.drop_drop] at h
  exact lI_ok h
theorem lS_at {sg : zSg} (a b : Nat) (h : lS sg ((cc.data.toList.drop a).drop b) = true) : zSeg cc sg (a + b) = true := by
  rw [List.drop_drop] at h
  exact lS_ok sg _ h
def lSa (y : zM) (pc : Nat) (sg : zSg) : Bool := lS sg (y.2.1.data.toList.drop pc)
def lIa (y : zM) (pc : Nat) (i : Instr) (n : Nat) : Bool := lI i n (y.2.1.data.toList.drop pc)
theorem lSa_ok {y : zM} {pc : Nat} {sg : zSg} (h : lSa y pc sg = true) : zSeg y.2.1 sg pc = true := lS_ok sg pc h
theorem lIa_ok {y : zM} {pc : Nat} {i : Instr} {n : Nat} (h : lIa y pc i n = true) : decode y.2.1 pc = .ok (i, n) := lI_ok h
theorem lA8 {a b c d e f g h r P : Prop} (H : a ∧ b ∧ c ∧ d ∧ e ∧ f ∧ g ∧ h ∧ r) (k : a → b → c → d → e → f → g → h → r → P) : P := k H.1 H.2.1 H.2.2.1 H.2.2.2.1 H.2.2.2.2.1 H.2.2.2.2.2.1 H.2.2.2.2.2.2.1 H.2.2.2.2.2.2.2.1 H.2.2.2.2.2.2.2.2
end LQ
