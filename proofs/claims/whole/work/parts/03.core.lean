/-! The walk's own frame: locals by place, pure steps run by computation, a judgement Z over an abstract heap. -/
def zAs : Nat → List (Option Value) → List (Nat × Value)
  | _, [] => []
  | i, none :: t => zAs (i + 1) t
  | i, some v :: t => (i, v) :: zAs (i + 1) t
theorem zAs_mem {L : List (Option Value)} : ∀ {k i : Nat} {v : Value}, (i, v) ∈ zAs k L ↔ ∃ j, i = k + j ∧ L[j]? = some (some v) := by
  induction L with
  | nil => intro k i v; simp [zAs]
  | cons o t ih =>
    intro k i v
    cases o with
    | none =>
      simp only [zAs, ih]
      constructor
      · rintro ⟨j, h1, h2⟩
        exact ⟨j + 1, by omega, by simpa using h2⟩
      · rintro ⟨j, h1, h2⟩
        cases j with
        | zero => simp at h2
        | succ j => exact ⟨j, by omega, by simpa using h2⟩
    | some w =>
      simp only [zAs, List.mem_cons, ih, Prod.mk.injEq]
      constructor
      · rintro (⟨h1, h2⟩ | ⟨j, h1, h2⟩)
        · exact ⟨0, by omega, by simp [h2]⟩
        · exact ⟨j + 1, by omega, by simpa using h2⟩
      · rintro ⟨j, h1, h2⟩
        cases j with
        | zero => simp at h2; exact Or.inl ⟨by omega, h2.symm⟩
        | succ j => exact Or.inr ⟨j, by omega, by simpa using h2⟩
def zL (ls : Array Slot) (L : List (Option Value)) : Prop := lv_has ls L.length (zAs 0 L)
theorem zL_get {ls : Array Slot} {L : List (Option Value)} (h : zL ls L) {i : Nat} {v : Value} (hv : L[i]? = some (some v)) : ls[i]? = some (.val v) :=
  h.2.2 (i, v) (zAs_mem.mpr ⟨i, by omega, hv⟩)
theorem zL_of {ls : Array Slot} {n : Nat} {lv : List (Nat × Value)} {L : List (Option Value)} (h : lv_has ls n lv) (hn : L.length = n) (hs : ∀ i v, L[i]? = some (some v) → (i, v) ∈ lv) : zL ls L := by
  refine ⟨by rw [hn]; exact h.1, h.2.1, ?_⟩
  rintro ⟨i, v⟩ hq
  obtain ⟨j, h1, h2⟩ := zAs_mem.mp hq
  have e : i = j := by omega
  subst e
  exact h.2.2 (i, v) (hs i v h2)
/-- fewer known locals -/
def zSub : List (Option Value) → List (Option Value) → Bool
  | [], [] => true
  | none :: t, _ :: t' => zSub t t'
  | some v :: t, some w :: t' => decide (v = w) && zSub t t'
  | _, _ => false
def zLe (L' L : List (Option Value)) : Prop := L'.length = L.length ∧ ∀ (i : Nat) (v : Value), L'[i]? = some (some v) → L[i]? = some (some v)
theorem zL.mono {ls : Array Slot} {L L' : List (Option Value)} (h : zL ls L) (hs : zLe L' L) : zL ls L' :=
  zL_of h hs.1 (fun i v hv => zAs_mem.mpr ⟨i, by omega, hs.2 i v hv⟩)
theorem zLe_nil : zLe [] [] := ⟨rfl, fun _ _ h => h⟩
theorem zLe_none {t t' : List (Option Value)} {o : Option Value} (h : zLe t t') : zLe (none :: t) (o :: t') :=
  ⟨by simp [h.1], fun i v hv => by cases i with | zero => simp at hv | succ i => simpa using h.2 i v (by simpa using hv)⟩
theorem zLe_some {t t' : List (Option Value)} {o : Option Value} (h : zLe t t') : zLe (o :: t) (o :: t') :=
  ⟨by simp [h.1], fun i v hv => by cases i with | zero => simpa using hv | succ i => simpa using h.2 i v (by simpa using hv)⟩
def zD2 : Option Value → Option Value
  | some (.long _) => none
  | some (.double _) => none
  | o => o
theorem zD2_some {o : Option Value} {v : Value} (h : zD2 o = some v) : o = some v ∧ ¬ v.category = 2 := by
  cases o with
  | none => simp [zD2] at h
  | some w => cases w <;> simp_all [zD2, Value.category] <;> (subst h; simp [Value.category])
def zSt1 : List (Option Value) → Nat → Value → List (Option Value)
  | [], _, _ => []
  | _ :: t, 0, v => some v :: t
  | o :: t, 1, v => zD2 o :: zSt1 t 0 v
  | o :: t, i + 2, v => o :: zSt1 t (i + 1) v
def zSt2 : List (Option Value) → Nat → Value → List (Option Value)
  | [], _, _ => []
  | [_], 0, v => [some v]
  | _ :: _ :: t, 0, v => some v :: none :: t
  | o :: t, 1, v => zD2 o :: zSt2 t 0 v
  | o :: t, i + 2, v => o :: zSt2 t (i + 1) v
theorem zSt1_len : ∀ (L : List (Option Value)) (i : Nat) (v : Value), (zSt1 L i v).length = L.length
  | [], _, _ => rfl
  | _ :: t, 0, v => rfl
  | o :: t, 1, v => by simp [zSt1, zSt1_len t 0 v]
  | o :: t, i + 2, v => by simp [zSt1, zSt1_len t (i + 1) v]
theorem zSt2_len : ∀ (L : List (Option Value)) (i : Nat) (v : Value), (zSt2 L i v).length = L.length
  | [], 0, _ => rfl
  | [], 1, _ => rfl
  | [], _ + 2, _ => rfl
  | [_], 0, v => rfl
  | _ :: _ :: t, 0, v => rfl
  | o :: t, 1, v => by simp [zSt2, zSt2_len t 0 v]
  | o :: t, i + 2, v => by simp [zSt2, zSt2_len t (i + 1) v]
theorem zSt1_get : ∀ (L : List (Option Value)) (i j : Nat) (v w : Value), (zSt1 L i v)[j]? = some (some w) → (j = i ∧ w = v) ∨ (L[j]? = some (some w) ∧ ¬ j = i ∧ ¬ (j + 1 = i ∧ w.category = 2))
  | [], i, j, v, w, h => by simp [zSt1] at h
  | _ :: t, 0, j, v, w, h => by
    cases j with
    | zero => simp [zSt1] at h; exact Or.inl ⟨rfl, h.symm⟩
    | succ j => simp [zSt1] at h; exact Or.inr ⟨by simpa using h, by omega, by omega⟩
  | o :: t, 1, j, v, w, h => by
    cases j with
    | zero =>
      simp [zSt1] at h
      obtain ⟨h1, h2⟩ := zD2_some h
      exact Or.inr ⟨by simp [h1], by omega, fun q => h2 q.2⟩
    | succ j =>
      simp [zSt1] at h
      rcases zSt1_get t 0 j v w h with ⟨h1, h2⟩ | ⟨h1, h2, h3⟩
      · exact Or.inl ⟨by omega, h2⟩
      · exact Or.inr ⟨by simpa using h1, by omega, by omega⟩
  | o :: t, i + 2, j, v, w, h => by
    cases j with
    | zero => simp [zSt1] at h; exact Or.inr ⟨by simp [h], by omega, by omega⟩
    | succ j =>
      simp [zSt1] at h
      rcases zSt1_get t (i + 1) j v w h with ⟨h1, h2⟩ | ⟨h1, h2, h3⟩
      · exact Or.inl ⟨by omega, h2⟩
      · exact Or.inr ⟨by simpa using h1, by omega, fun q => h3 ⟨by omega, q.2⟩⟩
theorem zSt2_get : ∀ (L : List (Option Value)) (i j : Nat) (v w : Value), i + 1 < L.length → (zSt2 L i v)[j]? = some (some w) → (j = i ∧ w = v) ∨ (L[j]? = some (some w) ∧ ¬ j = i ∧ ¬ j = i + 1 ∧ ¬ (j + 1 = i ∧ w.category = 2))
  | [], i, j, v, w, hl, h => by simp at hl
  | [_], 0, j, v, w, hl, h => by simp at hl
  | _ :: _ :: t, 0, j, v, w, hl, h => by
    cases j with
    | zero => simp [zSt2] at h; exact Or.inl ⟨rfl, h.symm⟩
    | succ j =>
      cases j with
      | zero => simp [zSt2] at h
      | succ j => simp [zSt2] at h; exact Or.inr ⟨by simpa using h, by omega, by omega, by omega⟩
  | o :: t, 1, j, v, w, hl, h => by
    cases j with
    | zero =>
      simp [zSt2] at h
      obtain ⟨h1, h2⟩ := zD2_some h
      exact Or.inr ⟨by simp [h1], by omega, by omega, fun q => h2 q.2⟩
    | succ j =>
      simp [zSt2] at h
      rcases zSt2_get t 0 j v w (by simp at hl ⊢; omega) h with ⟨h1, h2⟩ | ⟨h1, h2, h3, h4⟩
      · exact Or.inl ⟨by omega, h2⟩
      · exact Or.inr ⟨by simpa using h1, by omega, by omega, by omega⟩
  | o :: t, i + 2, j, v, w, hl, h => by
    cases j with
    | zero => simp [zSt2] at h; exact Or.inr ⟨by simp [h], by omega, by omega, by omega⟩
    | succ j =>
      simp [zSt2] at h
      rcases zSt2_get t (i + 1) j v w (by simp at hl ⊢; omega) h with ⟨h1, h2⟩ | ⟨h1, h2, h3, h4⟩
      · exact Or.inl ⟨by omega, h2⟩
      · exact Or.inr ⟨by simpa using h1, by omega, by omega, fun q => h4 ⟨by omega, q.2⟩⟩
theorem zL_st1 {ls : Array Slot} {L : List (Option Value)} {i : Nat} {v : Value} (h : zL ls L) (hi : i < L.length) (hc : v.category = 1) : ∃ ls', storeLocals ls i v = some ls' ∧ zL ls' (zSt1 L i v) := by
  obtain ⟨ls', e, h'⟩ := lv_store1 h hi hc
  refine ⟨ls', e, zL_of h' (zSt1_len L i v) (fun j w hw => ?_)⟩
  rcases zSt1_get L i j v w hw with ⟨h1, h2⟩ | ⟨h1, h2, h3⟩
  · rw [h1, h2]; exact List.mem_cons_self
  · refine List.mem_cons_of_mem _ (List.mem_filter.mpr ⟨zAs_mem.mpr ⟨j, by omega, h1⟩, ?_⟩)
    simp only [Bool.and_eq_true, Bool.not_eq_true', beq_eq_false_iff_ne, ne_eq, Bool.and_eq_false_imp, beq_iff_eq]
    exact ⟨h2, fun q => fun q2 => h3 ⟨q, q2⟩⟩
theorem zL_st2 {ls : Array Slot} {L : List (Option Value)} {i : Nat} {v : Value} (h : zL ls L) (hi : i + 1 < L.length) (hc : v.category = 2) : ∃ ls', storeLocals ls i v = some ls' ∧ zL ls' (zSt2 L i v) := by
  obtain ⟨ls', e, h'⟩ := lv_store2 h hi hc
  refine ⟨ls', e, zL_of h' (zSt2_len L i v) (fun j w hw => ?_)⟩
  rcases zSt2_get L i j v w hi hw with ⟨h1, h2⟩ | ⟨h1, h2, h3, h4⟩
  · rw [h1, h2]; exact List.mem_cons_self
  · refine List.mem_cons_of_mem _ (List.mem_filter.mpr ⟨zAs_mem.mpr ⟨j, by omega, h1⟩, ?_⟩)
    simp only [Bool.and_eq_true, Bool.not_eq_true', beq_eq_false_iff_ne, ne_eq, Bool.and_eq_false_imp, beq_iff_eq]
    exact ⟨h2, h3, fun q => fun q2 => h4 ⟨q, q2⟩⟩
/-- the locals at a method's entry -/
def zEn : Nat → List Value → List (Option Value)
  | 0, _ => []
  | n + 1, [] => none :: zEn n []
  | n + 1, .long x :: t => some (.long x) :: (match n with | 0 => [] | n' + 1 => none :: zEn n' t)
  | n + 1, .double x :: t => some (.double x) :: (match n with | 0 => [] | n' + 1 => none :: zEn n' t)
  | n + 1, v :: t => some v :: zEn n t
