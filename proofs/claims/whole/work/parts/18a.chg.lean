-- a change of length, told place by place
theorem mAb_va {P : Nat → Option (Nat × Nat × Nat)} {p : Nat} {x : Nat × Nat × Nat} {f l : Nat} (hx : P p = some x) : ∀ (d q e : Nat), mAb (va_up P p (some (x.1, f, l))) d q e = mAb P d q e
  | 0, _, _ => rfl
  | d + 1, q, e => by
    unfold mAb
    by_cases h1 : q = e
    · rw [if_pos h1, if_pos h1]
    · rw [if_neg h1, if_neg h1]
      by_cases h2 : e < 2
      · rw [if_pos h2, if_pos h2]
      · rw [if_neg h2, if_neg h2]
        by_cases h3 : e = p
        · subst h3
          simp only [va_up, if_true, hx]
          exact mAb_va hx d q x.1
        · simp only [va_up, if_neg h3]
          cases P e with
          | none => rfl
          | some y => exact mAb_va hx d q y.1
theorem mAb_rank {P : Nat → Option (Nat × Nat × Nat)} {ρ : Nat → Nat} (hρ : ∀ q x, P q = some x → x.1 < 2 ∨ (P x.1 ≠ none ∧ ρ x.1 < ρ q)) : ∀ (d q e : Nat), 2 ≤ q → mAb P d q e = true → ρ q ≤ ρ e ∧ 2 ≤ e
  | 0, _, _, _, h => by cases h
  | d + 1, q, e, h2, h => by
    unfold mAb at h
    by_cases h1 : q = e
    · subst h1; exact ⟨Nat.le_refl _, h2⟩
    · rw [if_neg h1] at h
      by_cases he : e < 2
      · rw [if_pos he] at h; cases h
      · rw [if_neg he] at h
        cases hy : P e with
        | none => rw [hy] at h; cases h
        | some y =>
          rw [hy] at h
          have ih := mAb_rank hρ d q y.1 h2 h
          rcases hρ e y hy with z | z
          · omega
          · exact ⟨by omega, by omega⟩
theorem mChL_str {z : Int} : ∀ (d : Nat) (A : mS) (p : Nat), (∀ d' q, mRw (mChL z d A p).2.1 d' q = mRw A.2.1 d' q) ∧ (∀ d' q e, mAb (mChL z d A p).2.1 d' q e = mAb A.2.1 d' q e) ∧ (∀ q, A.2.1 q = none → (mChL z d A p).2.1 q = none) ∧ (mOk A.2.1 → mOk (mChL z d A p).2.1)
  | 0, _, _ => ⟨fun _ _ => rfl, fun _ _ _ => rfl, fun _ h => h, fun h => h⟩
  | d + 1, A, p => by
    unfold mChL
    by_cases h2 : p < 2
    · rw [if_pos h2]; exact ⟨fun _ _ => rfl, fun _ _ _ => rfl, fun _ h => h, fun h => h⟩
    · rw [if_neg h2]
      cases hx : A.2.1 p with
      | none => exact ⟨fun _ _ => rfl, fun _ _ _ => rfl, fun _ h => h, fun h => h⟩
      | some x =>
        obtain ⟨a1, a2, a3, a4⟩ := mChL_str (z := z) d (A.1, va_up A.2.1 p (some (x.1, x.2.1, ((x.2.2 : Int) + z).toNat)), A.2.2.1, A.2.2.2) x.1
        refine ⟨fun d' q => (a1 d' q).trans (mRw_va hx d' q), fun d' q e => (a2 d' q e).trans (mAb_va hx d' q e), fun q hq => a3 q ?_, fun h => a4 (h.va hx)⟩
        show va_up A.2.1 p _ q = none
        simp only [va_up]
        by_cases e : q = p
        · rw [e, hx] at hq; cases hq
        · rw [if_neg e]; exact hq
theorem mChL_char {z : Int} {ρ : Nat → Nat} : ∀ (d : Nat) (A : mS) (p r b : Nat), mRw A.2.1 d p = some (r, b) → (∀ q x, A.2.1 q = some x → x.1 < 2 ∨ (A.2.1 x.1 ≠ none ∧ ρ x.1 < ρ q)) → ∀ q x, 2 ≤ q → A.2.1 q = some x →
    (mChL z d A p).2.1 q = if mAb A.2.1 d q p = true then some (x.1, x.2.1, ((x.2.2 : Int) + z).toNat) else some x
  | 0, _, _, _, _, h, _, _, _, _, _ => by cases h
  | d + 1, A, p, r, b, h, hρ, q, x, hq2, hx => by
    unfold mRw at h
    unfold mChL mAb
    by_cases h2 : p < 2
    · have hqp : ¬ q = p := by omega
      simp only [if_pos h2, if_neg hqp]
      exact hx
    · rw [if_neg h2] at h
      rw [if_neg h2, if_neg h2]
      cases hy : A.2.1 p with
      | none => rw [hy] at h; cases h
      | some y =>
        rw [hy] at h
        obtain ⟨o, f, l⟩ := y
        simp only at h ⊢
        cases hr : mRw A.2.1 d o with
        | none => rw [hr] at h; cases h
        | some v =>
          obtain ⟨r', b'⟩ := v
          have hr' : mRw (va_up A.2.1 p (some (o, f, ((l : Int) + z).toNat))) d o = some (r', b') := by
            have := mRw_va (P := A.2.1) (p := p) (x := (o, f, l)) (l := ((l : Int) + z).toNat) hy d o
            rw [← hr]; exact this
          have hρ' : ∀ q x, va_up A.2.1 p (some (o, f, ((l : Int) + z).toNat)) q = some x → x.1 < 2 ∨ (va_up A.2.1 p (some (o, f, ((l : Int) + z).toNat)) x.1 ≠ none ∧ ρ x.1 < ρ q) := by
            intro q1 x1 h1
            have hz : x1.1 < 2 ∨ (A.2.1 x1.1 ≠ none ∧ ρ x1.1 < ρ q1) := by
              simp only [va_up] at h1
              by_cases e : q1 = p
              · rw [if_pos e] at h1; cases h1; rw [e]; exact hρ p (o, f, l) hy
              · rw [if_neg e] at h1; exact hρ q1 x1 h1
            refine hz.imp_right (fun k => ⟨?_, k.2⟩)
            simp only [va_up]
            by_cases e : x1.1 = p
            · rw [if_pos e]; exact Option.some_ne_none _
            · rw [if_neg e]; exact k.1
          have ih := mChL_char (z := z) (ρ := ρ) d (A.1, va_up A.2.1 p (some (o, f, ((l : Int) + z).toNat)), A.2.2.1, A.2.2.2) o r' b' hr' hρ'
          have hab : ∀ q, mAb (va_up A.2.1 p (some (o, f, ((l : Int) + z).toNat))) d q o = mAb A.2.1 d q o := fun q => mAb_va (x := (o, f, l)) hy d q o
          by_cases hqp : q = p
          · subst hqp
            have e0 : x = (o, f, l) := by rw [hx] at hy; cases hy; rfl
            subst e0
            have h5 := ih q (o, f, ((l : Int) + z).toNat) hq2 (by simp [va_up])
            rw [if_pos rfl, if_pos rfl, h5]
            have hno : mAb A.2.1 d q o = false := by
              cases hb : mAb A.2.1 d q o with
              | false => rfl
              | true =>
                have := mAb_rank hρ d q o hq2 hb
                rcases hρ q _ hx with z | z
                · simp only at z; omega
                · have := z.2; simp only at this; omega
            simp only [hab q, hno]
            rfl
          · have h5 := ih q x hq2 (by simp [va_up, hqp, hx])
            rw [if_neg hqp, h5]
            simp only [hab q]
