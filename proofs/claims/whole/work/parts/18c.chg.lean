/-- all that a change of length does -/
def mChd (A A' : mS) (p r : Nat) (z : Int) (exc : Int32) : Prop :=
  A'.1 = A.1 ∧ mOk A'.2.1 ∧ (∀ q, A.2.1 q = none → A'.2.1 q = none) ∧
  (∀ q x, A.2.1 q = some x → A'.2.1 q = if mAb A.2.1 zDp q p = true then some (x.1, x.2.1, ((x.2.2 : Int) + z).toNat) else if mRo A.2.1 q = r then none else some x) ∧
  (∀ c, c < 3 → A'.2.2.1 c = mCf A.2.1 r exc A.2.2.1 c) ∧ (∀ c, 3 ≤ c → A'.2.2.1 c = A.2.2.1 c) ∧ (∀ j, j ≠ 2 → j ≠ 3 → A'.2.2.2 j = A.2.2.2 j) ∧
  (∃ n, A'.2.2.2 2 = A.2.2.2 2 + nI n ∧ n + mPc A'.2.1 = mPc A.2.1) ∧ ∃ k, A'.2.2.2 3 = A.2.2.2 3 + nI k ∧ k + mKk A'.2.2.1 = mKk A.2.2.1
theorem mPc_cong {P P' : Nat → Option (Nat × Nat × Nat)} (h : ∀ q, P q = none ↔ P' q = none) : mPc P = mPc P' := by
  have : ∀ q, o1 (P q) = o1 (P' q) := by
    intro q
    have := h q
    cases h1 : P q <;> cases h2 : P' q <;> simp [h1, h2] at this <;> rfl
  simp only [mPc, this]
theorem mChange_char {A : mS} {p r b : Nat} {z : Int} {exc : Int32} (hok : mOk A.2.1) (hrw : mRw A.2.1 zDp p = some (r, b)) (hpv : p < 2 ∨ A.2.1 p ≠ none) (hz : z ≠ 0)
    (hcv : ∀ c x, A.2.2.1 c = some x → c < 3 ∧ (x.1 < 2 ∨ A.2.1 x.1 ≠ none) ∧ (nI c = exc → x.1 = p)) : mChd A (mChange A p z exc) p r z exc := by
  obtain ⟨s1, s2, s3, s4⟩ := mChL_str (z := z) zDp A p
  have sC := mChL_C (z := z) zDp A p
  obtain ⟨-, ρ, -, hρ⟩ := id hok
  have sP := mChL_char (z := z) (ρ := ρ) zDp A p r b hrw hρ
  have hRo : mRo A.2.1 p = r := mRo_of hrw
  have e0 : mChange A p z exc = (mES ((List.range' 0 3).foldl (mCC r exc) (mChL z zDp A p)) r p).1 := by
    unfold mChange; rw [if_neg hz, hRo]
  rw [e0]
  generalize mChL z zDp A p = A1 at s1 s2 s3 s4 sC sP ⊢
  have hok1 := s4 hok
  obtain ⟨b1, b2, b3, b4, kb, b5, b6⟩ := mCC_all (r := r) (exc := exc) A1
  generalize (List.range' 0 3).foldl (mCC r exc) A1 = B at b1 b2 b3 b4 b5 b6 ⊢
  have there : ∀ q, A.2.1 q = none ↔ A1.2.1 q = none := by
    intro q
    refine ⟨s3 q, fun h => ?_⟩
    cases hx : A.2.1 q with
    | none => rfl
    | some x =>
      have := sP q x (hok.1 q x hx).1 hx
      rw [h] at this
      split at this <;> cases this
  obtain ⟨⟨d1, d2, d3, d4, d5, d6, d7, kd, d8, d9⟩, e2, e3⟩ := mES_char (A := B) (r := r) (exc := p) (by rw [b2]; exact hok1) (hpv.imp_right (fun k => by rw [b2]; exact fun q => k ((there p).mpr q)))
  generalize hE : mES B r p = E at d1 d2 d3 d4 d5 d6 d7 d8 d9 e2 e3 ⊢
  have ro : ∀ q, mRo B.2.1 q = mRo A.2.1 q := fun q => by unfold mRo; rw [b2, s1]
  have ab : ∀ q, mAb B.2.1 zDp q p = mAb A.2.1 zDp q p := fun q => by rw [b2, s2]
  have hcd : ∀ q x, A.2.1 q = some x → E.1.2.1 q = if mAb A.2.1 zDp q p = true then some (x.1, x.2.1, ((x.2.2 : Int) + z).toNat) else if mRo A.2.1 q = r then none else some x := by
    intro q x hx
    have h2 := (hok.1 q x hx).1
    have h1 := sP q x h2 hx
    by_cases hab : mAb A.2.1 zDp q p = true
    · rw [if_pos hab] at h1 ⊢
      rw [e3 q _ (by rw [b2]; exact h1), if_neg (fun k => by rw [ab, hab] at k; cases k.2)]
    · rw [if_neg hab] at h1 ⊢
      rw [e3 q _ (by rw [b2]; exact h1), ro, ab]
      have hf : mAb A.2.1 zDp q p = false := Bool.eq_false_iff.mpr hab
      simp only [hf, and_true]
  refine ⟨d1.trans (b1.trans sC.2), e2, fun q hq => ?_, hcd, fun c hc => ?_, fun c hc => ?_, fun j h2 h3 => ?_, ⟨E.2, ?_, ?_⟩, kb + kd, ?_, ?_⟩
  · have : B.2.1 q = none := by rw [b2]; exact s3 q hq
    cases hz : E.1.2.1 q with
    | none => rfl
    | some y => rw [d2 q y hz] at this; cases this
  · have hB : B.2.2.1 c = mCf A.2.1 r exc A.2.2.1 c := by
      rw [b3 c, if_pos hc]
      have e1 : mCf A1.2.1 r exc A1.2.2.1 c = mCf A.2.1 r exc A.2.2.1 c := by
        have e1 : A1.2.2.1 = A.2.2.1 := congrArg Prod.fst sC.1
        have e2 : mRo A1.2.1 = mRo A.2.1 := by funext q; unfold mRo; rw [s1]
        unfold mCf; rw [e1, e2]
      exact e1
    rcases d3 c with k | ⟨-, x, f1, f2, f3⟩
    · exact k.trans hB
    · exfalso
      rw [hB] at f1
      unfold mCf at f1
      by_cases he : nI c = exc
      · rw [if_pos he] at f1
        have hxp := (hcv c x f1).2.2 he
        rw [hxp] at f3 f2
        rcases hpv with w | w
        · omega
        · cases hy : A.2.1 p with
          | none => exact w hy
          | some y =>
            have := hcd p y hy
            rw [if_pos (mAb_refl _ _), f3] at this
            cases this
      · rw [if_neg he] at f1
        cases hx : A.2.2.1 c with
        | none => rw [hx] at f1; cases f1
        | some x' =>
          rw [hx] at f1
          simp only at f1
          by_cases hr : mRo A.2.1 x'.1 = r
          · rw [if_pos hr] at f1
            by_cases h2 : x'.1 < 2
            · rw [if_pos h2] at f1; cases f1; simp only at f2; omega
            · rw [if_neg h2] at f1; cases f1
          · rw [if_neg hr] at f1
            rw [← Option.some.inj f1] at f2 f3
            rcases (hcv c _ hx).2.1 with w | w
            · omega
            · cases hy : A.2.1 x'.1 with
              | none => exact w hy
              | some y =>
                have h7 := hcd x'.1 y hy
                rw [f3] at h7
                rw [if_neg hr] at h7
                split at h7 <;> cases h7
  · have hB : B.2.2.1 c = A.2.2.1 c := by
      rw [b3 c, if_neg (by omega)]
      exact congrFun (congrArg Prod.fst sC.1) c
    rcases d3 c with k | ⟨-, x, f1, -⟩
    · exact k.trans hB
    · rw [hB] at f1
      have := (hcv c x f1).1
      omega
  · rw [d5 j h2 h3, b4 j h3]; exact congrFun (congrArg Prod.snd sC.1) j
  · rw [d6, b4 2 (by omega), congrFun (congrArg Prod.snd sC.1) 2]
  · rw [d7, b2]; exact (mPc_cong there).symm
  · rw [d8, b5, congrFun (congrArg Prod.snd sC.1) 3, add_nI]
  · have : A1.2.2.1 = A.2.2.1 := congrArg Prod.fst sC.1
    rw [this] at b6; omega
