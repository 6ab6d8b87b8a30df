section
/-! The walk's own frame: locals by place, pure steps run by computation, a judgement Z over an abstract heap. -/
def zAs : Nat → List (Option Value) → List (Nat × Value)
  | _, [] => []
  | i, none :: t => zAs (i + 1) t
  | i, some v :: t => (i, v) :: zAs (i + 1) t
theorem zAs_mem {L : List (Option Value)} : ∀ {k i : Nat} {v : Value}, (i, v) ∈ zAs k L ↔ ∃ j, i = k + j ∧ L[j]? = some (some v) := by
  induction L with
  | nil => intro k i v; simp [zAs]
  | cons o t ih =>
    intro k i v
    cases o with
    | none =>
      simp only [zAs, ih]
      constructor
      · rintro ⟨j, h1, h2⟩
        exact ⟨j + 1, by omega, by simpa using h2⟩
      · rintro ⟨j, h1, h2⟩
        cases j with
        | zero => simp at h2
        | succ j => exact ⟨j, by omega, by simpa using h2⟩
    | some w =>
      simp only [zAs, List.mem_cons, ih, Prod.mk.injEq]
      constructor
      · rintro (⟨h1, h2⟩ | ⟨j, h1, h2⟩)
        · exact ⟨0, by omega, by simp [h2]⟩
        · exact ⟨j + 1, by omega, by simpa using h2⟩
      · rintro ⟨j, h1, h2⟩
        cases j with
        | zero => simp at h2; exact Or.inl ⟨by omega, h2.symm⟩
        | succ j => exact Or.inr ⟨j, by omega, by simpa using h2⟩
def zL (ls : Array Slot) (L : List (Option Value)) : Prop := lv_has ls L.length (zAs 0 L)
theorem zL_get {ls : Array Slot} {L : List (Option Value)} (h : zL ls L) {i : Nat} {v : Value} (hv : L[i]? = some (some v)) : ls[i]? = some (.val v) :=
  h.2.2 (i, v) (zAs_mem.mpr ⟨i, by omega, hv⟩)
theorem zL_of {ls : Array Slot} {n : Nat} {lv : List (Nat × Value)} {L : List (Option Value)} (h : lv_has ls n lv) (hn : L.length = n) (hs : ∀ i v, L[i]? = some (some v) → (i, v) ∈ lv) : zL ls L := by
  refine ⟨by rw [hn]; exact h.1, h.2.1, ?_⟩
  rintro ⟨i, v⟩ hq
  obtain ⟨j, h1, h2⟩ := zAs_mem.mp hq
  have e : i = j := by omega
  subst e
  exact h.2.2 (i, v) (hs i v h2)
/-- fewer known locals -/
def zSub : List (Option Value) → List (Option Value) → Bool
  | [], [] => true
  | none :: t, _ :: t' => zSub t t'
  | some v :: t, some w :: t' => decide (v = w) && zSub t t'
  | _, _ => false
def zLe (L' L : List (Option Value)) : Prop := L'.length = L.length ∧ ∀ (i : Nat) (v : Value), L'[i]? = some (some v) → L[i]? = some (some v)
theorem zL.mono {ls : Array Slot} {L L' : List (Option Value)} (h : zL ls L) (hs : zLe L' L) : zL ls L' :=
  zL_of h hs.1 (fun i v hv => zAs_mem.mpr ⟨i, by omega, hs.2 i v hv⟩)
theorem zLe_nil : zLe [] [] := ⟨rfl, fun _ _ h => h⟩
theorem zLe_none {t t' : List (Option Value)} {o : Option Value} (h : zLe t t') : zLe (none :: t) (o :: t') :=
  ⟨by simp [h.1], fun i v hv => by cases i with | zero => simp at hv | succ i => simpa using h.2 i v (by simpa using hv)⟩
theorem zLe_some {t t' : List (Option Value)} {o : Option Value} (h : zLe t t') : zLe (o :: t) (o :: t') :=
  ⟨by simp [h.1], fun i v hv => by cases i with | zero => simpa using hv | succ i => simpa using h.2 i v (by simpa using hv)⟩
def zD2 : Option Value → Option Value
  | some (.long _) => none
  | some (.double _) => none
  | o => o
theorem zD2_some {o : Option Value} {v : Value} (h : zD2 o = some v) : o = some v ∧ ¬ v.category = 2 := by
  cases o with
  | none => simp [zD2] at h
  | some w => cases w <;> simp_all [zD2, Value.category] <;> (subst h; simp [Value.category])
def zSt1 : List (Option Value) → Nat → Value → List (Option Value)
  | [], _, _ => []
  | _ :: t, 0, v => some v :: t
  | o :: t, 1, v => zD2 o :: zSt1 t 0 v
  | o :: t, i + 2, v => o :: zSt1 t (i + 1) v
def zSt2 : List (Option Value) → Nat → Value → List (Option Value)
  | [], _, _ => []
  | [_], 0, v => [some v]
  | _ :: _ :: t, 0, v => some v :: none :: t
  | o :: t, 1, v => zD2 o :: zSt2 t 0 v
  | o :: t, i + 2, v => o :: zSt2 t (i + 1) v
theorem zSt1_len : ∀ (L : List (Option Value)) (i : Nat) (v : Value), (zSt1 L i v).length = L.length
  | [], _, _ => rfl
  | _ :: t, 0, v => rfl
  | o :: t, 1, v => by simp [zSt1, zSt1_len t 0 v]
  | o :: t, i + 2, v => by simp [zSt1, zSt1_len t (i + 1) v]
theorem zSt2_len : ∀ (L : List (Option Value)) (i : Nat) (v : Value), (zSt2 L i v).length = L.length
  | [], 0, _ => rfl
  | [], 1, _ => rfl
  | [], _ + 2, _ => rfl
  | [_], 0, v => rfl
  | _ :: _ :: t, 0, v => rfl
  | o :: t, 1, v => by simp [zSt2, zSt2_len t 0 v]
  | o :: t, i + 2, v => by simp [zSt2, zSt2_len t (i + 1) v]
theorem zSt1_get : ∀ (L : List (Option Value)) (i j : Nat) (v w : Value), (zSt1 L i v)[j]? = some (some w) → (j = i ∧ w = v) ∨ (L[j]? = some (some w) ∧ ¬ j = i ∧ ¬ (j + 1 = i ∧ w.category = 2))
  | [], i, j, v, w, h => by simp [zSt1] at h
  | _ :: t, 0, j, v, w, h => by
    cases j with
    | zero => simp [zSt1] at h; exact Or.inl ⟨rfl, h.symm⟩
    | succ j => simp [zSt1] at h; exact Or.inr ⟨by simpa using h, by omega, by omega⟩
  | o :: t, 1, j, v, w, h => by
    cases j with
    | zero =>
      simp [zSt1] at h
      obtain ⟨h1, h2⟩ := zD2_some h
      exact Or.inr ⟨by simp [h1], by omega, fun q => h2 q.2⟩
    | succ j =>
      simp [zSt1] at h
      rcases zSt1_get t 0 j v w h with ⟨h1, h2⟩ | ⟨h1, h2, h3⟩
      · exact Or.inl ⟨by omega, h2⟩
      · exact Or.inr ⟨by simpa using h1, by omega, by omega⟩
  | o :: t, i + 2, j, v, w, h => by
    cases j with
    | zero => simp [zSt1] at h; exact Or.inr ⟨by simp [h], by omega, by omega⟩
    | succ j =>
      simp [zSt1] at h
      rcases zSt1_get t (i + 1) j v w h with ⟨h1, h2⟩ | ⟨h1, h2, h3⟩
      · exact Or.inl ⟨by omega, h2⟩
      · exact Or.inr ⟨by simpa using h1, by omega, fun q => h3 ⟨by omega, q.2⟩⟩
theorem zSt2_get : ∀ (L : List (Option Value)) (i j : Nat) (v w : Value), i + 1 < L.length → (zSt2 L i v)[j]? = some (some w) → (j = i ∧ w = v) ∨ (L[j]? = some (some w) ∧ ¬ j = i ∧ ¬ j = i + 1 ∧ ¬ (j + 1 = i ∧ w.category = 2))
  | [], i, j, v, w, hl, h => by simp at hl
  | [_], 0, j, v, w, hl, h => by simp at hl
  | _ :: _ :: t, 0, j, v, w, hl, h => by
    cases j with
    | zero => simp [zSt2] at h; exact Or.inl ⟨rfl, h.symm⟩
    | succ j =>
      cases j with
      | zero => simp [zSt2] at h
      | succ j => simp [zSt2] at h; exact Or.inr ⟨by simpa using h, by omega, by omega, by omega⟩
  | o :: t, 1, j, v, w, hl, h => by
    cases j with
    | zero =>
      simp [zSt2] at h
      obtain ⟨h1, h2⟩ := zD2_some h
      exact Or.inr ⟨by simp [h1], by omega, by omega, fun q => h2 q.2⟩
    | succ j =>
      simp [zSt2] at h
      rcases zSt2_get t 0 j v w (by simp at hl ⊢; omega) h with ⟨h1, h2⟩ | ⟨h1, h2, h3, h4⟩
      · exact Or.inl ⟨by omega, h2⟩
      · exact Or.inr ⟨by simpa using h1, by omega, by omega, by omega⟩
  | o :: t, i + 2, j, v, w, hl, h => by
    cases j with
    | zero => simp [zSt2] at h; exact Or.inr ⟨by simp [h], by omega, by omega, by omega⟩
    | succ j =>
      simp [zSt2] at h
      rcases zSt2_get t (i + 1) j v w (by simp at hl ⊢; omega) h with ⟨h1, h2⟩ | ⟨h1, h2, h3, h4⟩
      · exact Or.inl ⟨by omega, h2⟩
      · exact Or.inr ⟨by simpa using h1, by omega, by omega, fun q => h4 ⟨by omega, q.2⟩⟩
theorem zL_st1 {ls : Array Slot} {L : List (Option Value)} {i : Nat} {v : Value} (h : zL ls L) (hi : i < L.length) (hc : v.category = 1) : ∃ ls', storeLocals ls i v = some ls' ∧ zL ls' (zSt1 L i v) := by
  obtain ⟨ls', e, h'⟩ := lv_store1 h hi hc
  refine ⟨ls', e, zL_of h' (zSt1_len L i v) (fun j w hw => ?_)⟩
  rcases zSt1_get L i j v w hw with ⟨h1, h2⟩ | ⟨h1, h2, h3⟩
  · rw [h1, h2]; exact List.mem_cons_self
  · refine List.mem_cons_of_mem _ (List.mem_filter.mpr ⟨zAs_mem.mpr ⟨j, by omega, h1⟩, ?_⟩)
    simp only [Bool.and_eq_true, Bool.not_eq_true', beq_eq_false_iff_ne, ne_eq, Bool.and_eq_false_imp, beq_iff_eq]
    exact ⟨h2, fun q => fun q2 => h3 ⟨q, q2⟩⟩
theorem zL_st2 {ls : Array Slot} {L : List (Option Value)} {i : Nat} {v : Value} (h : zL ls L) (hi : i + 1 < L.length) (hc : v.category = 2) : ∃ ls', storeLocals ls i v = some ls' ∧ zL ls' (zSt2 L i v) := by
  obtain ⟨ls', e, h'⟩ := lv_store2 h hi hc
  refine ⟨ls', e, zL_of h' (zSt2_len L i v) (fun j w hw => ?_)⟩
  rcases zSt2_get L i j v w hi hw with ⟨h1, h2⟩ | ⟨h1, h2, h3, h4⟩
  · rw [h1, h2]; exact List.mem_cons_self
  · refine List.mem_cons_of_mem _ (List.mem_filter.mpr ⟨zAs_mem.mpr ⟨j, by omega, h1⟩, ?_⟩)
    simp only [Bool.and_eq_true, Bool.not_eq_true', beq_eq_false_iff_ne, ne_eq, Bool.and_eq_false_imp, beq_iff_eq]
    exact ⟨h2, h3, fun q => fun q2 => h4 ⟨q, q2⟩⟩
/-- the locals at a method's entry -/
def zEn : Nat → List Value → List (Option Value)
  | 0, _ => []
  | n + 1, [] => none :: zEn n []
  | n + 1, .long x :: t => some (.long x) :: (match n with | 0 => [] | n' + 1 => none :: zEn n' t)
  | n + 1, .double x :: t => some (.double x) :: (match n with | 0 => [] | n' + 1 => none :: zEn n' t)
  | n + 1, v :: t => some v :: zEn n t
end
section
section ZPure
variable {p : Program} {l : Launch} {e : Env} {R : Room} {s : State} {m : MethodId} {args : Array Value} {below : List Frame} {meth : Method} {c : Code} {H : Heap} {locs : List Loc} {cells slots : Nat} {Q : State → Prop}
variable {cc : ByteArray} {pc : Nat} {ls : Array Slot} {rest : List Value}
abbrev zLs : Type := List (Option Value)
abbrev zR : Type := Option (zLs × List Value)
def zPush (v : Value) (L : zLs) (st : List Value) : zR := some (L, v :: st)
def zLdI (i : Nat) (L : zLs) (st : List Value) : zR := match L[i]? with
  | some (some (.int x)) => some (L, .int x :: st)
  | _ => none
def zLdL (i : Nat) (L : zLs) (st : List Value) : zR := match L[i]? with
  | some (some (.long x)) => some (L, .long x :: st)
  | _ => none
def zLdA (i : Nat) (L : zLs) (st : List Value) : zR := match L[i]? with
  | some (some (.ref x)) => some (L, .ref x :: st)
  | some (some .null) => some (L, .null :: st)
  | _ => none
def zStI (i : Nat) (L : zLs) (st : List Value) : zR := match st with
  | .int x :: r => if i < L.length then some (zSt1 L i (.int x), r) else none
  | _ => none
def zStA (i : Nat) (L : zLs) (st : List Value) : zR := match st with
  | .ref x :: r => if i < L.length then some (zSt1 L i (.ref x), r) else none
  | .null :: r => if i < L.length then some (zSt1 L i .null, r) else none
  | _ => none
def zStL (i : Nat) (L : zLs) (st : List Value) : zR := match st with
  | .long x :: r => if i + 1 < L.length then some (zSt2 L i (.long x), r) else none
  | _ => none
def zInc (i : Nat) (c : Int32) (L : zLs) (st : List Value) : zR := match L[i]? with
  | some (some (.int x)) => if i < L.length then some (zSt1 L i (.int (x + c)), st) else none
  | _ => none
def zII (f : Int32 → Int32 → Int32) (L : zLs) (st : List Value) : zR := match st with
  | .int y :: .int x :: r => some (L, .int (f x y) :: r)
  | _ => none
def zLL (f : Int64 → Int64 → Int64) (L : zLs) (st : List Value) : zR := match st with
  | .long y :: .long x :: r => some (L, .long (f x y) :: r)
  | _ => none
def zI1 (f : Int32 → Value) (L : zLs) (st : List Value) : zR := match st with
  | .int x :: r => some (L, f x :: r)
  | _ => none
def zL1 (f : Int64 → Value) (L : zLs) (st : List Value) : zR := match st with
  | .long x :: r => some (L, f x :: r)
  | _ => none
def zC1 : Value → Bool
  | .long _ => false
  | .double _ => false
  | _ => true
theorem zC1_cat {v : Value} (h : zC1 v = true) : v.category = 1 := by cases v <;> simp_all [zC1, Value.category]
def zDup (L : zLs) (st : List Value) : zR := match st with
  | v :: r => if zC1 v = true then some (L, v :: v :: r) else none
  | _ => none
def zPop (L : zLs) (st : List Value) : zR := match st with
  | v :: r => if zC1 v = true then some (L, r) else none
  | _ => none
def zPop2 (L : zLs) (st : List Value) : zR := match st with
  | .long _ :: r => some (L, r)
  | v :: w :: r => if zC1 v = true ∧ zC1 w = true then some (L, r) else none
  | _ => none
def zDupX1 (L : zLs) (st : List Value) : zR := match st with
  | v :: w :: r => if zC1 v = true ∧ zC1 w = true then some (L, v :: w :: v :: r) else none
  | _ => none
def zDup2 (L : zLs) (st : List Value) : zR := match st with
  | v :: w :: r => if zC1 v = true ∧ zC1 w = true then some (L, v :: w :: v :: w :: r) else none
  | _ => none
def zP (i : Instr) (c : Int32) (L : zLs) (st : List Value) : zR := match i with
  | .iconst _ => zPush (.int c) L st
  | .bipush _ => zPush (.int c) L st
  | .sipush _ => zPush (.int c) L st
  | .lconst n => zPush (.long (lN n.val)) L st
  | .aconst_null => zPush .null L st
  | .iload i => zLdI i L st
  | .iload_n k => zLdI k.val L st
  | .lload i => zLdL i L st
  | .lload_n k => zLdL k.val L st
  | .aload i => zLdA i L st
  | .aload_n k => zLdA k.val L st
  | .istore i => zStI i L st
  | .istore_n k => zStI k.val L st
  | .astore i => zStA i L st
  | .astore_n k => zStA k.val L st
  | .lstore i => zStL i L st
  | .lstore_n k => zStL k.val L st
  | .iinc i _ => zInc i c L st
  | .iadd => zII (fun x y => x + y) L st
  | .isub => zII (fun x y => x - y) L st
  | .imul => zII (fun x y => x * y) L st
  | .iand => zII (fun x y => x &&& y) L st
  | .ior => zII (fun x y => x ||| y) L st
  | .ixor => zII (fun x y => x ^^^ y) L st
  | .ishl => zII (fun x y => x <<< (y &&& 31)) L st
  | .ishr => zII (fun x y => x >>> (y &&& 31)) L st
  | .iushr => zII (fun x y => (x.toUInt32 >>> (y.toUInt32 &&& Int32.toUInt32 31)).toInt32) L st
  | .ladd => zLL (fun x y => x + y) L st
  | .lsub => zLL (fun x y => x - y) L st
  | .lmul => zLL (fun x y => x * y) L st
  | .ineg => zI1 (fun x => .int (-x)) L st
  | .i2l => zI1 (fun x => .long x.toInt64) L st
  | .i2b => zI1 (fun x => .int x.toInt8.toInt32) L st
  | .i2c => zI1 (fun x => .int (x.toUInt32 % 65536).toInt32) L st
  | .l2i => zL1 (fun x => .int x.toInt32) L st
  | .dup => zDup L st
  | .pop => zPop L st
  | .pop2 => zPop2 L st
  | .dup_x1 => zDupX1 L st
  | .dup2 => zDup2 L st
  | _ => none
def zLn : Instr → Nat
  | .bipush _ | .iload _ | .lload _ | .aload _ | .istore _ | .lstore _ | .astore _ => 2
  | .sipush _ | .iinc _ _ => 3
  | _ => 1
/-- the number that a constant's instruction means -/
def zCk : Instr → Int32 → Bool
  | .iconst n, c => decide (Int32.ofInt n = c)
  | .bipush n, c => decide ((Int8.ofInt n).toInt32 = c)
  | .sipush n, c => decide ((Int16.ofInt n).toInt32 = c)
  | .iinc _ n, c => decide (Int32.ofInt n = c)
  | _, _ => true
theorem zLdI_inv {i : Nat} {L : zLs} {st : List Value} {r : zLs × List Value} (h : zLdI i L st = some r) : ∃ x, L[i]? = some (some (.int x)) ∧ r = (L, .int x :: st) := by
  unfold zLdI at h
  split at h
  · next x hx => exact ⟨x, hx, (Option.some.inj h).symm⟩
  · cases h
theorem zLdL_inv {i : Nat} {L : zLs} {st : List Value} {r : zLs × List Value} (h : zLdL i L st = some r) : ∃ x, L[i]? = some (some (.long x)) ∧ r = (L, .long x :: st) := by
  unfold zLdL at h
  split at h
  · next x hx => exact ⟨x, hx, (Option.some.inj h).symm⟩
  · cases h
theorem zLdA_inv {i : Nat} {L : zLs} {st : List Value} {r : zLs × List Value} (h : zLdA i L st = some r) : (∃ x, L[i]? = some (some (.ref x)) ∧ r = (L, .ref x :: st)) ∨ (L[i]? = some (some .null) ∧ r = (L, .null :: st)) := by
  unfold zLdA at h
  split at h
  · next x hx => exact Or.inl ⟨x, hx, (Option.some.inj h).symm⟩
  · next hx => exact Or.inr ⟨hx, (Option.some.inj h).symm⟩
  · cases h
theorem zStI_inv {i : Nat} {L : zLs} {st : List Value} {r : zLs × List Value} (h : zStI i L st = some r) : ∃ x t, st = .int x :: t ∧ i < L.length ∧ r = (zSt1 L i (.int x), t) := by
  unfold zStI at h
  split at h
  · next x t => split at h
                · next hl => exact ⟨x, t, rfl, hl, (Option.some.inj h).symm⟩
                · cases h
  · cases h
theorem zStL_inv {i : Nat} {L : zLs} {st : List Value} {r : zLs × List Value} (h : zStL i L st = some r) : ∃ x t, st = .long x :: t ∧ i + 1 < L.length ∧ r = (zSt2 L i (.long x), t) := by
  unfold zStL at h
  split at h
  · next x t => split at h
                · next hl => exact ⟨x, t, rfl, hl, (Option.some.inj h).symm⟩
                · cases h
  · cases h
theorem zStA_inv {i : Nat} {L : zLs} {st : List Value} {r : zLs × List Value} (h : zStA i L st = some r) : i < L.length ∧ ((∃ x t, st = .ref x :: t ∧ r = (zSt1 L i (.ref x), t)) ∨ (∃ t, st = .null :: t ∧ r = (zSt1 L i .null, t))) := by
  unfold zStA at h
  split at h
  · next x t => split at h
                · next hl => exact ⟨hl, Or.inl ⟨x, t, rfl, (Option.some.inj h).symm⟩⟩
                · cases h
  · next t => split at h
              · next hl => exact ⟨hl, Or.inr ⟨t, rfl, (Option.some.inj h).symm⟩⟩
              · cases h
  · cases h
theorem zInc_inv {i : Nat} {c : Int32} {L : zLs} {st : List Value} {r : zLs × List Value} (h : zInc i c L st = some r) : ∃ x, L[i]? = some (some (.int x)) ∧ i < L.length ∧ r = (zSt1 L i (.int (x + c)), st) := by
  unfold zInc at h
  split at h
  · next x hx => split at h
                 · next hl => exact ⟨x, hx, hl, (Option.some.inj h).symm⟩
                 · cases h
  · cases h
theorem zII_inv {f : Int32 → Int32 → Int32} {L : zLs} {st : List Value} {r : zLs × List Value} (h : zII f L st = some r) : ∃ x y t, st = .int y :: .int x :: t ∧ r = (L, .int (f x y) :: t) := by
  unfold zII at h
  split at h
  · next y x t => exact ⟨x, y, t, rfl, (Option.some.inj h).symm⟩
  · cases h
theorem zLL_inv {f : Int64 → Int64 → Int64} {L : zLs} {st : List Value} {r : zLs × List Value} (h : zLL f L st = some r) : ∃ x y t, st = .long y :: .long x :: t ∧ r = (L, .long (f x y) :: t) := by
  unfold zLL at h
  split at h
  · next y x t => exact ⟨x, y, t, rfl, (Option.some.inj h).symm⟩
  · cases h
theorem zI1_inv {f : Int32 → Value} {L : zLs} {st : List Value} {r : zLs × List Value} (h : zI1 f L st = some r) : ∃ x t, st = .int x :: t ∧ r = (L, f x :: t) := by
  unfold zI1 at h
  split at h
  · next x t => exact ⟨x, t, rfl, (Option.some.inj h).symm⟩
  · cases h
theorem zL1_inv {f : Int64 → Value} {L : zLs} {st : List Value} {r : zLs × List Value} (h : zL1 f L st = some r) : ∃ x t, st = .long x :: t ∧ r = (L, f x :: t) := by
  unfold zL1 at h
  split at h
  · next x t => exact ⟨x, t, rfl, (Option.some.inj h).symm⟩
  · cases h
theorem zDup_inv {L : zLs} {st : List Value} {r : zLs × List Value} (h : zDup L st = some r) : ∃ v t, st = v :: t ∧ v.category = 1 ∧ r = (L, v :: v :: t) := by
  unfold zDup at h
  split at h
  · next v t => split at h
                · next hl => exact ⟨v, t, rfl, zC1_cat hl, (Option.some.inj h).symm⟩
                · cases h
  · cases h
theorem zPop_inv {L : zLs} {st : List Value} {r : zLs × List Value} (h : zPop L st = some r) : ∃ v t, st = v :: t ∧ v.category = 1 ∧ r = (L, t) := by
  unfold zPop at h
  split at h
  · next v t => split at h
                · next hl => exact ⟨v, t, rfl, zC1_cat hl, (Option.some.inj h).symm⟩
                · cases h
  · cases h
theorem zPop2_inv {L : zLs} {st : List Value} {r : zLs × List Value} (h : zPop2 L st = some r) : (∃ x t, st = .long x :: t ∧ r = (L, t)) ∨ (∃ v w t, st = v :: w :: t ∧ v.category = 1 ∧ w.category = 1 ∧ r = (L, t)) := by
  unfold zPop2 at h
  split at h
  · next x t => exact Or.inl ⟨x, t, rfl, (Option.some.inj h).symm⟩
  · next v w t _ => split at h
                    · next hl => exact Or.inr ⟨v, w, t, rfl, zC1_cat hl.1, zC1_cat hl.2, (Option.some.inj h).symm⟩
                    · cases h
  · cases h
theorem zDupX1_inv {L : zLs} {st : List Value} {r : zLs × List Value} (h : zDupX1 L st = some r) : ∃ v w t, st = v :: w :: t ∧ v.category = 1 ∧ w.category = 1 ∧ r = (L, v :: w :: v :: t) := by
  unfold zDupX1 at h
  split at h
  · next v w t => split at h
                  · next hl => exact ⟨v, w, t, rfl, zC1_cat hl.1, zC1_cat hl.2, (Option.some.inj h).symm⟩
                  · cases h
  · cases h
theorem zDup2_inv {L : zLs} {st : List Value} {r : zLs × List Value} (h : zDup2 L st = some r) : ∃ v w t, st = v :: w :: t ∧ v.category = 1 ∧ w.category = 1 ∧ r = (L, v :: w :: v :: w :: t) := by
  unfold zDup2 at h
  split at h
  · next v w t => split at h
                  · next hl => exact ⟨v, w, t, rfl, zC1_cat hl.1, zC1_cat hl.2, (Option.some.inj h).symm⟩
                  · cases h
  · cases h
theorem zP_sound (hx : p.tables.exec = Jvm.exec) (hb : c.code = cc) {i : Instr} {k : Int32} {L : zLs} {st : List Value} {r : zLs × List Value} (hd : decode cc pc = .ok (i, zLn i)) (hk : zCk i k = true) (h : zP i k L st = some r) (hl : zL ls L)
    (kk : ∀ ls' : Array Slot, zL ls' r.1 → W p l e R s m args below meth c H locs cells slots Q (F0 m (pc + zLn i) ls' r.2)) : W p l e R s m args below meth c H locs cells slots Q (F0 m pc ls st) := by
  cases i
  case iconst n =>
    obtain rfl := Option.some.inj h
    exact lv_iconst hx hb hd (of_decide_eq_true hk) (kk _ hl)
  case bipush n =>
    obtain rfl := Option.some.inj h
    exact lv_bipush hx hb hd (of_decide_eq_true hk) (kk _ hl)
  case sipush n =>
    obtain rfl := Option.some.inj h
    exact lv_sipush hx hb hd (of_decide_eq_true hk) (kk _ hl)
  case lconst n =>
    obtain rfl := Option.some.inj h
    exact lv_lconst hx hb hd rfl (kk _ hl)
  case aconst_null =>
    obtain rfl := Option.some.inj h
    exact lv_null hx hb hd (kk _ hl)
  case iload j =>
    obtain ⟨x, h1, rfl⟩ := zLdI_inv h
    exact lv_iload hx hb hd (zL_get hl h1) (kk _ hl)
  case iload_n j =>
    obtain ⟨x, h1, rfl⟩ := zLdI_inv h
    exact lv_iload_n hx hb hd rfl (zL_get hl h1) (kk _ hl)
  case lload j =>
    obtain ⟨x, h1, rfl⟩ := zLdL_inv h
    exact lv_lload hx hb hd (zL_get hl h1) (kk _ hl)
  case lload_n j =>
    obtain ⟨x, h1, rfl⟩ := zLdL_inv h
    exact lv_lload_n hx hb hd rfl (zL_get hl h1) (kk _ hl)
  case aload j =>
    rcases zLdA_inv h with ⟨x, h1, rfl⟩ | ⟨h1, rfl⟩
    · exact lv_aload hx hb hd (zL_get hl h1) (kk _ hl)
    · exact lv_aloadN hx hb hd (zL_get hl h1) (kk _ hl)
  case aload_n j =>
    rcases zLdA_inv h with ⟨x, h1, rfl⟩ | ⟨h1, rfl⟩
    · exact lv_aload_n hx hb hd rfl (zL_get hl h1) (kk _ hl)
    · exact lv_aload_nN hx hb hd rfl (zL_get hl h1) (kk _ hl)
  case istore j =>
    obtain ⟨x, t, rfl, hi, rfl⟩ := zStI_inv h
    replace hd : decode cc pc = .ok (.istore j, 2) := hd
    obtain ⟨ls', e', h'⟩ := zL_st1 (v := .int x) hl hi rfl
    intro T hT X
    obtain ⟨t, a, b⟩ := kk ls' h' T hT X
    refine ⟨t, ?_, b⟩
    jvm_step X.here [X.here.top, ↓top_set X.here.top, hx, hb, hd, e']
    exact a
  case istore_n j =>
    obtain ⟨x, t, rfl, hi, rfl⟩ := zStI_inv h
    replace hd : decode cc pc = .ok (.istore_n j, 1) := hd
    obtain ⟨ls', e', h'⟩ := zL_st1 (v := .int x) hl hi rfl
    intro T hT X
    obtain ⟨t, a, b⟩ := kk ls' h' T hT X
    refine ⟨t, ?_, b⟩
    jvm_step X.here [X.here.top, ↓top_set X.here.top, hx, hb, hd, e']
    exact a
  case lstore j =>
    obtain ⟨x, t, rfl, hi, rfl⟩ := zStL_inv h
    replace hd : decode cc pc = .ok (.lstore j, 2) := hd
    obtain ⟨ls', e', h'⟩ := zL_st2 (v := .long x) hl hi rfl
    intro T hT X
    obtain ⟨t, a, b⟩ := kk ls' h' T hT X
    refine ⟨t, ?_, b⟩
    jvm_step X.here [X.here.top, ↓top_set X.here.top, hx, hb, hd, e']
    exact a
  case lstore_n j =>
    obtain ⟨x, t, rfl, hi, rfl⟩ := zStL_inv h
    replace hd : decode cc pc = .ok (.lstore_n j, 1) := hd
    obtain ⟨ls', e', h'⟩ := zL_st2 (v := .long x) hl hi rfl
    intro T hT X
    obtain ⟨t, a, b⟩ := kk ls' h' T hT X
    refine ⟨t, ?_, b⟩
    jvm_step X.here [X.here.top, ↓top_set X.here.top, hx, hb, hd, e']
    exact a
  case astore j =>
    replace hd : decode cc pc = .ok (.astore j, 2) := hd
    obtain ⟨hi, ⟨x, t, rfl, rfl⟩ | ⟨t, rfl, rfl⟩⟩ := zStA_inv h
    · obtain ⟨ls', e', h'⟩ := zL_st1 (v := .ref x) hl hi rfl
      intro T hT X
      obtain ⟨t, a, b⟩ := kk ls' h' T hT X
      refine ⟨t, ?_, b⟩
      jvm_step X.here [X.here.top, ↓top_set X.here.top, hx, hb, hd, e']
      exact ⟨rfl, a⟩
    · obtain ⟨ls', e', h'⟩ := zL_st1 (v := .null) hl hi rfl
      intro T hT X
      obtain ⟨t, a, b⟩ := kk ls' h' T hT X
      refine ⟨t, ?_, b⟩
      jvm_step X.here [X.here.top, ↓top_set X.here.top, hx, hb, hd, e']
      exact ⟨rfl, a⟩
  case astore_n j =>
    replace hd : decode cc pc = .ok (.astore_n j, 1) := hd
    obtain ⟨hi, ⟨x, t, rfl, rfl⟩ | ⟨t, rfl, rfl⟩⟩ := zStA_inv h
    · obtain ⟨ls', e', h'⟩ := zL_st1 (v := .ref x) hl hi rfl
      intro T hT X
      obtain ⟨t, a, b⟩ := kk ls' h' T hT X
      refine ⟨t, ?_, b⟩
      jvm_step X.here [X.here.top, ↓top_set X.here.top, hx, hb, hd, e']
      exact ⟨rfl, a⟩
    · obtain ⟨ls', e', h'⟩ := zL_st1 (v := .null) hl hi rfl
      intro T hT X
      obtain ⟨t, a, b⟩ := kk ls' h' T hT X
      refine ⟨t, ?_, b⟩
      jvm_step X.here [X.here.top, ↓top_set X.here.top, hx, hb, hd, e']
      exact ⟨rfl, a⟩
  case iinc j n =>
    obtain ⟨x, h1, hi, rfl⟩ := zInc_inv h
    have hk' : Int32.ofInt n = k := of_decide_eq_true hk
    subst hk'
    have hg := zL_get hl h1
    replace hd : decode cc pc = .ok (.iinc j n, 3) := hd
    obtain ⟨ls', e', h'⟩ := zL_st1 (v := .int (x + Int32.ofInt n)) hl hi rfl
    intro T hT X
    obtain ⟨t, a, b⟩ := kk ls' h' T hT X
    refine ⟨t, ?_, b⟩
    jvm_step X.here [X.here.top, ↓top_set X.here.top, hx, hb, hd, hg, e']
    exact a
  case iadd =>
    obtain ⟨x, y, t, rfl, rfl⟩ := zII_inv h
    exact lv_iadd hx hb hd (kk _ hl)
  case isub =>
    obtain ⟨x, y, t, rfl, rfl⟩ := zII_inv h
    exact lv_isub hx hb hd (kk _ hl)
  case imul =>
    obtain ⟨x, y, t, rfl, rfl⟩ := zII_inv h
    exact lv_imul hx hb hd (kk _ hl)
  case iand =>
    obtain ⟨x, y, t, rfl, rfl⟩ := zII_inv h
    exact lv_iand hx hb hd (kk _ hl)
  case ior =>
    obtain ⟨x, y, t, rfl, rfl⟩ := zII_inv h
    exact lv_ior hx hb hd (kk _ hl)
  case ixor =>
    obtain ⟨x, y, t, rfl, rfl⟩ := zII_inv h
    exact lv_ixor hx hb hd (kk _ hl)
  case ishl =>
    obtain ⟨x, y, t, rfl, rfl⟩ := zII_inv h
    exact lv_ishl hx hb hd (kk _ hl)
  case ishr =>
    obtain ⟨x, y, t, rfl, rfl⟩ := zII_inv h
    exact lv_ishr hx hb hd (kk _ hl)
  case iushr =>
    obtain ⟨x, y, t, rfl, rfl⟩ := zII_inv h
    exact lv_iushr hx hb hd rfl (kk _ hl)
  case ladd =>
    obtain ⟨x, y, t, rfl, rfl⟩ := zLL_inv h
    exact lv_ladd hx hb hd (kk _ hl)
  case lsub =>
    obtain ⟨x, y, t, rfl, rfl⟩ := zLL_inv h
    exact lv_lsub hx hb hd (kk _ hl)
  case lmul =>
    obtain ⟨x, y, t, rfl, rfl⟩ := zLL_inv h
    exact lv_lmul hx hb hd (kk _ hl)
  case ineg =>
    obtain ⟨x, t, rfl, rfl⟩ := zI1_inv h
    exact lv_ineg hx hb hd (kk _ hl)
  case i2l =>
    obtain ⟨x, t, rfl, rfl⟩ := zI1_inv h
    exact lv_i2l hx hb hd rfl (kk _ hl)
  case i2b =>
    obtain ⟨x, t, rfl, rfl⟩ := zI1_inv h
    exact lv_i2b hx hb hd rfl (kk _ hl)
  case i2c =>
    obtain ⟨x, t, rfl, rfl⟩ := zI1_inv h
    exact lv_i2c hx hb hd rfl (kk _ hl)
  case l2i =>
    obtain ⟨x, t, rfl, rfl⟩ := zL1_inv h
    exact lv_l2i hx hb hd rfl (kk _ hl)
  case dup =>
    obtain ⟨v, t, rfl, h1, rfl⟩ := zDup_inv h
    exact lv_dup hx hb hd h1 (kk _ hl)
  case pop =>
    obtain ⟨v, t, rfl, h1, rfl⟩ := zPop_inv h
    exact lv_pop hx hb hd h1 (kk _ hl)
  case pop2 =>
    rcases zPop2_inv h with ⟨x, t, rfl, rfl⟩ | ⟨v, w, t, rfl, h1, h2, rfl⟩
    · exact lv_pop2_2 hx hb hd rfl (kk _ hl)
    · exact lv_pop2_11 hx hb hd h1 h2 (kk _ hl)
  case dup_x1 =>
    obtain ⟨v, w, t, rfl, h1, h2, rfl⟩ := zDupX1_inv h
    exact lv_dup_x1 hx hb hd h1 h2 (kk _ hl)
  case dup2 =>
    obtain ⟨v, w, t, rfl, h1, h2, rfl⟩ := zDup2_inv h
    exact lv_dup2_11 hx hb hd h1 h2 (kk _ hl)
  all_goals cases h
abbrev zSg : Type := List (Instr × Int32)
def zRun : zSg → Nat → zLs → List Value → Option (Nat × zLs × List Value)
  | [], pc, L, st => some (pc, L, st)
  | (i, c) :: t, pc, L, st => match zP i c L st with
    | some r => zRun t (pc + zLn i) r.1 r.2
    | none => none
def zSeg (cc : ByteArray) : zSg → Nat → Bool
  | [], _ => true
  | (i, c) :: t, pc => (match decode cc pc with
    | .ok x => decide (x = (i, zLn i))
    | _ => false) && zCk i c && zSeg cc t (pc + zLn i)
theorem zRun_sound (hx : p.tables.exec = Jvm.exec) (hb : c.code = cc) : ∀ (sg : zSg) (pc : Nat) (L : zLs) (st : List Value) (r : Nat × zLs × List Value) (ls : Array Slot), zSeg cc sg pc = true → zRun sg pc L st = some r → zL ls L →
    (∀ ls' : Array Slot, zL ls' r.2.1 → W p l e R s m args below meth c H locs cells slots Q (F0 m r.1 ls' r.2.2)) → W p l e R s m args below meth c H locs cells slots Q (F0 m pc ls st)
  | [], pc, L, st, r, ls, hs, h, hl, kk => by
    obtain rfl := Option.some.inj h
    exact kk ls hl
  | (i, k) :: t, pc, L, st, r, ls, hs, h, hl, kk => by
    simp only [zSeg, Bool.and_eq_true] at hs
    obtain ⟨⟨h1, h2⟩, h3⟩ := hs
    simp only [zRun] at h
    split at h
    · next r1 e1 =>
      refine zP_sound (i := i) (k := k) hx hb ?_ h2 e1 hl (fun ls' hl' => zRun_sound hx hb t _ _ _ r ls' h3 h hl' kk)
      split at h1
      · next x hx9 => rw [hx9, of_decide_eq_true h1]
      · cases h1
    · cases h
end ZPure
end
section
/-! The judgement Z: a frame of a method that owes (Q, QX) at its end, over an abstract heap G (its size, what its cells hold). -/
abbrev zE : Type := (Nat × vp_A) ⊕ (Nat × List Value)
abbrev zH : Type := Nat × (Nat → Option zE)
abbrev zM : Type := MethodName × ByteArray × Nat × Option FieldType
section ZDefs
variable (D : va_G) (cl : List vw_C) (tys : List (Nat × FieldType)) (B : Nat)
def zat (q : Nat) (e : zE) (H : Heap) : Prop := match e with
  | .inl a => ∃ cell : Cell, H[q]? = some cell ∧ cell.cls = D.1 (a.1 % 1000) ∧ (a.1 < 1000 → cell = vp_cell (D.1 (a.1 % 1000)) a.2) ∧ cell.vm ≠ .unknown ∧ cell.vm.isStatics = false ∧ cell.slots = (vp_cell 0 a.2).slots
  | .inr o => ∃ (r : vw_C) (cell : Cell), cl[o.1 % 1000]? = some r ∧ H[q]? = some cell ∧ cell.cls = D.1 (o.1 % 1000) ∧ (o.1 < 1000 → cell.vm = .none) ∧ cell.vm ≠ .unknown ∧ cell.vm.isStatics = false ∧ ∀ (k : Nat) (v : Value), k < r.2.2 → o.2[k]? = some v → cell.slots[D.2 (o.1 % 1000) k]? = some v
/-- an old cell, to be read alone: its kind is told with 1000 more -/
def zRO (e : zE) : Bool := match e with
  | .inl a => decide (1000 ≤ a.1)
  | .inr o => decide (1000 ≤ o.1)
def zRel (G : zH) (H : Heap) : Prop := H.size = G.1 ∧ ∀ (a : Nat) (e : zE), G.2 a = some e → (zRO e = false → B ≤ a) ∧ zat D cl a e H
def zTy : List (ClassId × FieldType) := tys.map fun q => (D.1 q.1, q.2)
def zKn (U : State) : Prop := va_K D cl (zTy D tys) U
end ZDefs
def zGood (w : Cond) : Bool := goodWord w || match w with
  | .castable _ _ => true
  | .methodLinkNest _ _ _ _ => true
  | .fieldLinkNest _ _ _ _ _ _ => true
  | .declares _ => true
  | .arrayOver (.object _) => true
  | _ => false
theorem zGood_stay {w : Cond} (hg : zGood w = true) {s U : State} {a a' : Array Value} (hW : s.WarmedH U.vm) (h : w.before a s = true) : w.before a' U = true := by
  unfold zGood at hg
  rw [Bool.or_eq_true] at hg
  rcases hg with hg | hg
  · exact word_at hW (good_of_word hg) h
  · split at hg
    · exact va_Nw.use rfl (va_Nw.warmC hW (va_Nw.of rfl h))
    · exact va_Nw.use rfl (va_Nw.warmM hW (va_Nw.of rfl h))
    · exact va_Nw.use rfl (va_Nw.warmF hW (va_Nw.of rfl h))
    · exact va_Nw.use rfl (va_Nw.warmD hW (va_Nw.of rfl h))
    · exact va_AO.use (va_AO.moved hW.alike (va_AO.of h))
    · cases hg
/-- private methods of a class above, chosen on a StringBuilder: out of the tables at the law's entry (zSelP) -/
def zX : List Cond := [.selects "java/lang/StringBuilder" ⟨"java/lang/AbstractStringBuilder", "appendNull", "()Ljava/lang/AbstractStringBuilder;"⟩ ⟨"java/lang/AbstractStringBuilder", "appendNull", "()Ljava/lang/AbstractStringBuilder;"⟩, .selects "java/lang/StringBuilder" ⟨"java/lang/AbstractStringBuilder", "ensureCapacityInternal", "(I)V"⟩ ⟨"java/lang/AbstractStringBuilder", "ensureCapacityInternal", "(I)V"⟩, .selects "java/lang/StringBuilder" ⟨"java/lang/AbstractStringBuilder", "inflate", "()V"⟩ ⟨"java/lang/AbstractStringBuilder", "inflate", "()V"⟩, .selects "java/lang/StringBuilder" ⟨"java/lang/AbstractStringBuilder", "inflateIfNeededFor", "(Ljava/lang/String;)V"⟩ ⟨"java/lang/AbstractStringBuilder", "inflateIfNeededFor", "(Ljava/lang/String;)V"⟩, .selects "java/lang/StringBuilder" ⟨"java/lang/AbstractStringBuilder", "newCapacity", "(I)I"⟩ ⟨"java/lang/AbstractStringBuilder", "newCapacity", "(I)I"⟩, .selects "java/lang/StringBuilder" ⟨"java/lang/AbstractStringBuilder", "putStringAt", "(ILjava/lang/String;)V"⟩ ⟨"java/lang/AbstractStringBuilder", "putStringAt", "(ILjava/lang/String;)V"⟩]
/-- the words that every method's contract asks -/
def zT : List Cond := (zX ++ lw_tbl).filter zGood
theorem zT_of {w : Cond} (h : w ∈ lw_tbl) (hg : zGood w = true) : w ∈ zT := List.mem_filter.mpr ⟨List.mem_append_right _ h, hg⟩
theorem zT_x {w : Cond} (h : w ∈ zX) (hg : zGood w = true) : w ∈ zT := List.mem_filter.mpr ⟨List.mem_append_left _ h, hg⟩
theorem zT_t {w : Cond} (i : Nat) (h : tables_1[i]? = some w) (hg : zGood w = true) : w ∈ zT := zT_of (List.mem_append_right _ (List.mem_of_getElem? h)) hg
theorem zT_s {w : Cond} (q : MethodName × Nat) (h : q ∈ lw_privs) (hw : w = Cond.selects q.1.cls q.1 q.1) (hg : zGood w = true) : w ∈ zT := zT_of (List.mem_append_left _ (by subst hw; exact List.mem_map.mpr ⟨q, h, rfl⟩)) hg
theorem zT_stay {s U : State} {a a' : Array Value} (hW : s.WarmedH U.vm) (h : ∀ w ∈ zT, w.before a s = true) : ∀ w ∈ zT, w.before a' U = true :=
  fun w hw => zGood_stay (List.mem_filter.mp hw).2 hW (h w hw)
def zW (M : zM) : List Cond := .code M.1 M.2.1 M.2.2.1 M.2.2.2 :: zT
/-- what a claim's own side tells: its launch, its class ids, its classes, its arrays' classes, where its own cells begin, what is told of the old ones -/
abbrev zV : Type := Launch × va_G × List vw_C × List (Nat × FieldType) × Nat × (State → Heap → Prop)
def zA (V : zV) : Nat → Prop := fun q => V.2.2.2.2.1 ≤ q
abbrev zRl (V : zV) (G : zH) (H : Heap) : Prop := zRel V.2.1 V.2.2.1 V.2.2.2.2.1 G H
abbrev zK (V : zV) (U : State) : Prop := zKn V.2.1 V.2.2.1 V.2.2.2.1 U
/-- what is told of the old cells stays, however the tables warm up and whatever is written beyond them -/
def zOk (V : zV) : Prop := V.1.stackTraces = false ∧ (∀ (u U : State) (H : Heap), u.vm = U.vm → V.2.2.2.2.2 u H → V.2.2.2.2.2 U H) ∧ ∀ (u U : State) (H H1 : Heap), u.WarmedH U.vm → (∀ q : Nat, q < H.size → ¬ zA V q → H1[q]? = H[q]?) → H.size ≤ H1.size → V.2.2.2.2.2 u H → V.2.2.2.2.2 U H1
def zPc (V : zV) (As : List Value) (G : zH) : Array Value → State → Prop := fun a U => a = As.toArray ∧ zRl V G U.heap ∧ zK V U ∧ V.2.2.2.2.2 U U.heap ∧ V.2.2.2.2.1 ≤ U.heap.size
def zQc (V : zV) (Q : Option Value → zH → Prop) : Array Value → State → Outcome → State → Prop := fun _ st o t => ∃ (v : Option Value) (G' : zH), o = .returned v ∧ Q v G' ∧ zRl V G' t.heap ∧ va_F (zA V) st t
def zXC (V : zV) (QX : String → zH → Prop) : String → State → State → Prop := fun E st t => ∃ G' : zH, QX E G' ∧ zRl V G' t.heap ∧ va_F (zA V) st t
def zRm (fr mc ms : Nat) : Room := { frames := fr, cells := mc, slots := ms, locals := 60 * fr }
/-- a method's contract: at these arguments in this heap it ends in Q or throws in QX, with at most fr frames over it and mc cells of ms slots -/
def zMet (V : zV) (M : zM) (fr mc ms : Nat) (As : List Value) (G : zH) (Q : Option Value → zH → Prop) (QX : String → zH → Prop) : Prop :=
  vx_Met V.1 M.1 (zW M) (zRm fr mc ms) (zPc V As G) (zQc V Q) (zXC V QX) mc ms (zA V)
/-- what stays fixed while a method's body is walked -/
def zCx (V : zV) (M : zM) (p : Program) (R : Room) (s : State) (m : MethodId) (args : Array Value) (meth : Method) (c : Code) : Prop :=
  p.tables.exec = Jvm.exec ∧ c.code = M.2.1 ∧ c.maxLocals = M.2.2.1 ∧ meth.sig.returnType = M.2.2.2 ∧ meth.locks = false ∧ s.vm.findClass M.1.cls = some m.cls ∧ meth.name = M.1.name ∧ (∀ w ∈ zT, w.before args s = true) ∧ zK V s ∧ V.2.2.2.2.2 s s.heap ∧ V.2.2.2.2.1 ≤ s.heap.size ∧ (∀ x ∈ c.exceptionTable.toList, False)
def Z (V : zV) (M : zM) (fr : Nat) (Q : Option Value → zH → Prop) (QX : String → zH → Prop) (mc ms pc : Nat) (L : zLs) (st : List Value) (G : zH) : Prop :=
  ∀ (p : Program) (e : Env) (R : Room) (s : State) (m : MethodId) (args : Array Value) (below : List Frame) (meth : Method) (c : Code) (H : Heap) (locs : List Loc) (cells slots CT ST : Nat) (ls : Array Slot),
    zCx V M p R s m args meth c → fr ≤ R.frames → 60 * fr ≤ R.locals → CT ≤ R.cells → ST ≤ R.slots → cells + mc ≤ CT → slots + ms ≤ ST → va_S (zA V) s.heap H locs → zRl V G H → zL ls L →
    W p V.1 e R s m args below meth c H locs cells slots (vx_MQ below (zQc V Q) (zXC V QX) args s CT ST (zA V)) (F0 m pc ls st)
theorem Z.blk {V : zV} {M : zM} {fr : Nat} {Q : Option Value → zH → Prop} {QX : String → zH → Prop} {mc ms pc pc' : Nat} {L L' : zLs} {st st' : List Value} {G : zH} {sg : zSg} (hs : zSeg M.2.1 sg pc = true) (hr : zRun sg pc L st = some (pc', L', st'))
    (k : Z V M fr Q QX mc ms pc' L' st' G) : Z V M fr Q QX mc ms pc L st G := by
  intro p e R s m args below meth c H locs cells slots CT ST ls C h1 h2 h3 h4 h5 h6 hS hR hl
  exact zRun_sound C.1 C.2.1 sg pc L st _ ls hs hr hl (fun ls' hl' => k p e R s m args below meth c H locs cells slots CT ST ls' C h1 h2 h3 h4 h5 h6 hS hR hl')
theorem Z.less {V : zV} {M : zM} {fr : Nat} {Q : Option Value → zH → Prop} {QX : String → zH → Prop} {mc ms pc : Nat} {L L' : zLs} {st : List Value} {G : zH} (h : zLe L' L) (k : Z V M fr Q QX mc ms pc L' st G) : Z V M fr Q QX mc ms pc L st G := by
  intro p e R s m args below meth c H locs cells slots CT ST ls C h1 h2 h3 h4 h5 h6 hS hR hl
  exact k p e R s m args below meth c H locs cells slots CT ST ls C h1 h2 h3 h4 h5 h6 hS hR (hl.mono h)
theorem Z.room {V : zV} {M : zM} {fr fr' : Nat} {Q : Option Value → zH → Prop} {QX : String → zH → Prop} {mc ms mc' ms' pc : Nat} {L : zLs} {st : List Value} {G : zH} (hf : fr' ≤ fr) (hc : mc' ≤ mc) (hs : ms' ≤ ms) (k : Z V M fr' Q QX mc' ms' pc L st G) : Z V M fr Q QX mc ms pc L st G := by
  intro p e R s m args below meth c H locs cells slots CT ST ls C h1 h2 h3 h4 h5 h6 hS hR hl
  exact k p e R s m args below meth c H locs cells slots CT ST ls C (by omega) (by omega) h3 h4 (by omega) (by omega) hS hR hl
end
