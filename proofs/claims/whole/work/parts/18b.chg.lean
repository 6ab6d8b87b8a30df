def mCf (P : Nat → Option (Nat × Nat × Nat)) (r : Nat) (exc : Int32) (C : Nat → Option (Nat × Nat × Int32 × Int32)) (c : Nat) : Option (Nat × Nat × Int32 × Int32) :=
  if nI c = exc then C c else match C c with
  | some x => if mRo P x.1 = r then (if x.1 < 2 then some (x.1, x.2.1, x.2.2.1, nI 1) else none) else some x
  | none => none
theorem va_up_id {α : Type} (f : Nat → α) (c : Nat) : va_up f c (f c) = f := by
  funext j
  simp only [va_up]
  by_cases e : j = c
  · rw [if_pos e, e]
  · rw [if_neg e]
theorem mCC_one {r : Nat} {exc : Int32} (A : mS) {c : Nat} (hc : c < 3) : (mCC r exc A c).1 = A.1 ∧ (mCC r exc A c).2.1 = A.2.1 ∧ (mCC r exc A c).2.2.1 = va_up A.2.2.1 c (mCf A.2.1 r exc A.2.2.1 c) ∧ (∀ j, j ≠ 3 → (mCC r exc A c).2.2.2 j = A.2.2.2 j) ∧
    ∃ k, (mCC r exc A c).2.2.2 3 = A.2.2.2 3 + nI k ∧ k + mKk (mCC r exc A c).2.2.1 = mKk A.2.2.1 := by
  have no : ∀ v, v = A.2.2.1 c → A.1 = A.1 ∧ A.2.1 = A.2.1 ∧ A.2.2.1 = va_up A.2.2.1 c v ∧ (∀ j, j ≠ 3 → A.2.2.2 j = A.2.2.2 j) ∧ ∃ k, A.2.2.2 3 = A.2.2.2 3 + nI k ∧ k + mKk A.2.2.1 = mKk A.2.2.1 :=
    fun v hv => ⟨rfl, rfl, by rw [hv, va_up_id], fun _ _ => rfl, 0, (add_nI0 _).symm, Nat.zero_add _⟩
  unfold mCC mCf
  by_cases he : nI c = exc
  · rw [if_pos he, if_pos he]; exact no _ rfl
  · rw [if_neg he, if_neg he]
    cases hx : A.2.2.1 c with
    | none => exact no _ hx.symm
    | some x =>
      simp only
      by_cases hr : mRo A.2.1 x.1 = r
      · rw [if_pos hr, if_pos hr]
        by_cases h2 : x.1 < 2
        · rw [if_pos h2, if_pos h2]
          exact ⟨rfl, rfl, rfl, fun _ _ => rfl, 0, (add_nI0 _).symm, by rw [Nat.zero_add]; exact mKk_set (by rw [hx]; exact Option.some_ne_none _)⟩
        · rw [if_neg h2, if_neg h2]
          exact ⟨rfl, rfl, rfl, fun j hj => if_neg hj, 1, rfl, mKk_up hc (by rw [hx]; exact Option.some_ne_none _)⟩
      · rw [if_neg hr, if_neg hr]; exact no _ hx.symm
theorem mCC_all {r : Nat} {exc : Int32} (A : mS) : ((List.range' 0 3).foldl (mCC r exc) A).1 = A.1 ∧ ((List.range' 0 3).foldl (mCC r exc) A).2.1 = A.2.1 ∧ (∀ c, ((List.range' 0 3).foldl (mCC r exc) A).2.2.1 c = if c < 3 then mCf A.2.1 r exc A.2.2.1 c else A.2.2.1 c) ∧ (∀ j, j ≠ 3 → ((List.range' 0 3).foldl (mCC r exc) A).2.2.2 j = A.2.2.2 j) ∧
    ∃ k, ((List.range' 0 3).foldl (mCC r exc) A).2.2.2 3 = A.2.2.2 3 + nI k ∧ k + mKk ((List.range' 0 3).foldl (mCC r exc) A).2.2.1 = mKk A.2.2.1 := by
  show (mCC r exc (mCC r exc (mCC r exc A 0) 1) 2).1 = A.1 ∧ (mCC r exc (mCC r exc (mCC r exc A 0) 1) 2).2.1 = A.2.1 ∧ (∀ c, (mCC r exc (mCC r exc (mCC r exc A 0) 1) 2).2.2.1 c = if c < 3 then mCf A.2.1 r exc A.2.2.1 c else A.2.2.1 c) ∧ (∀ j, j ≠ 3 → (mCC r exc (mCC r exc (mCC r exc A 0) 1) 2).2.2.2 j = A.2.2.2 j) ∧
    ∃ k, (mCC r exc (mCC r exc (mCC r exc A 0) 1) 2).2.2.2 3 = A.2.2.2 3 + nI k ∧ k + mKk (mCC r exc (mCC r exc (mCC r exc A 0) 1) 2).2.2.1 = mKk A.2.2.1
  obtain ⟨a1, a2, a3, a4, ka, a5, a6⟩ := mCC_one (r := r) (exc := exc) A (c := 0) (by omega)
  obtain ⟨b1, b2, b3, b4, kb, b5, b6⟩ := mCC_one (r := r) (exc := exc) (mCC r exc A 0) (c := 1) (by omega)
  obtain ⟨c1, c2, c3, c4, kc, c5, c6⟩ := mCC_one (r := r) (exc := exc) (mCC r exc (mCC r exc A 0) 1) (c := 2) (by omega)
  have cf : ∀ (C : Nat → Option (Nat × Nat × Int32 × Int32)) (v : Option (Nat × Nat × Int32 × Int32)) (i j : Nat), j ≠ i → mCf A.2.1 r exc (va_up C i v) j = mCf A.2.1 r exc C j := by
    intro C v i j hj
    have e : va_up C i v j = C j := by simp [va_up, hj]
    unfold mCf; rw [e]
  refine ⟨c1.trans (b1.trans a1), c2.trans (b2.trans a2), fun c => ?_, fun j hj => (c4 j hj).trans ((b4 j hj).trans (a4 j hj)), ka + kb + kc, by rw [c5, b5, a5, add_nI, add_nI, Nat.add_assoc], by omega⟩
  rw [c3, b3, a3, b2, a2, cf _ _ 1 2 (by omega), cf _ _ 0 2 (by omega), cf _ _ 0 1 (by omega)]
  simp only [va_up]
  by_cases h0 : c = 0
  · subst h0; simp
  · by_cases h1 : c = 1
    · subst h1; simp
    · by_cases h2 : c = 2
      · subst h2; simp
      · rw [if_neg h2, if_neg h1, if_neg h0, if_neg (by omega)]
