-- what ends, and what stays: parts
def o1 {α : Type} (x : Option α) : Nat := match x with
  | none => 0
  | some _ => 1
def mPc (P : Nat → Option (Nat × Nat × Nat)) : Nat := o1 (P 2) + o1 (P 3) + o1 (P 4) + o1 (P 5)
def mKk (C : Nat → Option (Nat × Nat × Int32 × Int32)) : Nat := o1 (C 0) + o1 (C 1) + o1 (C 2)
theorem mPc_up {P : Nat → Option (Nat × Nat × Nat)} {p : Nat} (h2 : 2 ≤ p) (h6 : p < 6) (h : P p ≠ none) : 1 + mPc (va_up P p none) = mPc P := by
  cases hx : P p with
  | none => exact absurd hx h
  | some x =>
    rcases (by omega : p = 2 ∨ p = 3 ∨ p = 4 ∨ p = 5) with rfl | rfl | rfl | rfl <;> simp [mPc, va_up, o1, hx] <;> omega
theorem mKk_up {C : Nat → Option (Nat × Nat × Int32 × Int32)} {c : Nat} (h3 : c < 3) (h : C c ≠ none) : 1 + mKk (va_up C c none) = mKk C := by
  cases hx : C c with
  | none => exact absurd hx h
  | some x =>
    rcases (by omega : c = 0 ∨ c = 1 ∨ c = 2) with rfl | rfl | rfl <;> simp [mKk, va_up, o1, hx] <;> omega
theorem mKk_set {C : Nat → Option (Nat × Nat × Int32 × Int32)} {c : Nat} {y : Nat × Nat × Int32 × Int32} (h : C c ≠ none) : mKk (va_up C c (some y)) = mKk C := by
  have : ∀ i, o1 (va_up C c (some y) i) = o1 (C i) := by
    intro i
    simp only [va_up]
    by_cases hi : i = c
    · subst hi
      rw [if_pos rfl]
      cases hx : C i with
      | none => exact absurd hx h
      | some x => rfl
    · rw [if_neg hi]
  simp only [mKk, this]
/-- from A to A' n parts have ended, and the cursors on them -/
def mEnds (A A' : mS) (n : Nat) : Prop :=
  A'.1 = A.1 ∧ mSub A'.2.1 A.2.1 ∧
  (∀ c, A'.2.2.1 c = A.2.2.1 c ∨ (A'.2.2.1 c = none ∧ ∃ x, A.2.2.1 c = some x ∧ 2 ≤ x.1 ∧ A'.2.1 x.1 = none)) ∧
  (∀ c x, c < 3 → A'.2.2.1 c = some x → 2 ≤ x.1 → A.2.1 x.1 ≠ none → A'.2.1 x.1 ≠ none) ∧
  (∀ j, j ≠ 2 → j ≠ 3 → A'.2.2.2 j = A.2.2.2 j) ∧ A'.2.2.2 2 = A.2.2.2 2 + nI n ∧ n + mPc A'.2.1 = mPc A.2.1 ∧
  ∃ k, A'.2.2.2 3 = A.2.2.2 3 + nI k ∧ k + mKk A'.2.2.1 = mKk A.2.2.1
theorem add_nI (x : Int32) (a b : Nat) : x + nI a + nI b = x + nI (a + b) := by rw [Int32.add_assoc, nI_add]
theorem add_nI0 (x : Int32) : x + nI 0 = x := Int32.add_zero x
theorem mEnds.refl {A : mS} : mEnds A A 0 := ⟨rfl, fun _ _ h => h, fun _ => Or.inl rfl, fun _ _ _ _ _ h => h, fun _ _ _ => rfl, (add_nI0 _).symm, Nat.zero_add _, 0, (add_nI0 _).symm, Nat.zero_add _⟩
theorem mEnds.trans {A B C : mS} {n m : Nat} (h1 : mEnds A B n) (h2 : mEnds B C m) : mEnds A C (n + m) := by
  obtain ⟨a1, a2, a3, a4, a5, a6, a7, k, a8, a9⟩ := h1
  obtain ⟨b1, b2, b3, b4, b5, b6, b7, l, b8, b9⟩ := h2
  refine ⟨b1.trans a1, a2.trans b2, fun c => ?_, fun c x hc hx h2 hA => ?_, fun j h2 h3 => (b5 j h2 h3).trans (a5 j h2 h3), by rw [b6, a6, add_nI], by omega, k + l, by rw [b8, a8, add_nI], by omega⟩
  · rcases b3 c with e | ⟨e, x, f1, f2, f3⟩
    · rcases a3 c with e' | ⟨e', x, f1, f2, f3⟩
      · exact Or.inl (e.trans e')
      · refine Or.inr ⟨e.trans e', x, f1, f2, ?_⟩
        cases hq : C.2.1 x.1 with
        | none => rfl
        | some y => rw [b2 _ _ hq] at f3; cases f3
    · refine Or.inr ⟨e, x, ?_, f2, f3⟩
      rcases a3 c with e' | ⟨e', -⟩
      · rw [← e']; exact f1
      · rw [e'] at f1; cases f1
  · have e : C.2.2.1 c = B.2.2.1 c := by
      rcases b3 c with e | ⟨e, -⟩
      · exact e
      · rw [e] at hx; cases hx
    exact b4 c x hc hx h2 (a4 c x hc (by rw [← e]; exact hx) h2 hA)
/-- cursors on p end -/
def mEc (p : Nat) (A B : mS) : Prop :=
  B.1 = A.1 ∧ B.2.1 = A.2.1 ∧ (∀ c, B.2.2.1 c = A.2.2.1 c ∨ (B.2.2.1 c = none ∧ ∃ x, A.2.2.1 c = some x ∧ x.1 = p)) ∧ (∀ j, j ≠ 3 → B.2.2.2 j = A.2.2.2 j) ∧
  ∃ k, B.2.2.2 3 = A.2.2.2 3 + nI k ∧ k + mKk B.2.2.1 = mKk A.2.2.1
theorem mEc.trans {p : Nat} {A B C : mS} (h1 : mEc p A B) (h2 : mEc p B C) : mEc p A C := by
  obtain ⟨a1, a2, a3, a5, k, a8, a9⟩ := h1
  obtain ⟨b1, b2, b3, b5, l, b8, b9⟩ := h2
  refine ⟨b1.trans a1, b2.trans a2, fun c => ?_, fun j h3 => (b5 j h3).trans (a5 j h3), k + l, by rw [b8, a8, add_nI], by omega⟩
  rcases b3 c with e | ⟨e, x, f1, f2⟩
  · rcases a3 c with e' | ⟨e', f⟩
    · exact Or.inl (e.trans e')
    · exact Or.inr ⟨e.trans e', f⟩
  · refine Or.inr ⟨e, x, ?_, f2⟩
    rcases a3 c with e' | ⟨e', -⟩
    · rw [← e']; exact f1
    · rw [e'] at f1; cases f1
theorem mEc.step (p : Nat) (A : mS) {c : Nat} (hc : c < 3) : mEc p A (mECst p A c) ∧ ∀ x, (mECst p A c).2.2.1 c = some x → x.1 ≠ p := by
  unfold mECst
  cases hx : A.2.2.1 c with
  | none =>
    refine ⟨⟨rfl, rfl, fun _ => Or.inl rfl, fun _ _ => rfl, 0, (add_nI0 _).symm, Nat.zero_add _⟩, fun x h => ?_⟩
    show x.1 ≠ p
    have h' : A.2.2.1 c = some x := h
    rw [hx] at h'; cases h'
  | some x =>
    show mEc p A (if x.1 = p then mEndC A c else A) ∧ ∀ y, (if x.1 = p then mEndC A c else A).2.2.1 c = some y → y.1 ≠ p
    by_cases hp : x.1 = p
    · rw [if_pos hp]
      refine ⟨⟨rfl, rfl, fun c' => ?_, fun j hj => if_neg hj, 1, rfl, mKk_up hc (by rw [hx]; exact Option.some_ne_none _)⟩, fun y hy => ?_⟩
      · show va_up A.2.2.1 c none c' = _ ∨ (va_up A.2.2.1 c none c' = none ∧ _)
        simp only [va_up]
        by_cases e : c' = c
        · subst e; rw [if_pos rfl]; exact Or.inr ⟨rfl, x, hx, hp⟩
        · rw [if_neg e]; exact Or.inl rfl
      · have h' : va_up A.2.2.1 c none c = some y := hy
        simp [va_up] at h'
    · rw [if_neg hp]
      refine ⟨⟨rfl, rfl, fun _ => Or.inl rfl, fun _ _ => rfl, 0, (add_nI0 _).symm, Nat.zero_add _⟩, fun y h => ?_⟩
      rw [hx] at h; cases h; exact hp
theorem mEc.keep {p : Nat} {A B : mS} (h : mEc p A B) {c : Nat} (hA : ∀ x, A.2.2.1 c = some x → x.1 ≠ p) : ∀ x, B.2.2.1 c = some x → x.1 ≠ p := by
  intro x hx
  rcases h.2.2.1 c with e | ⟨e, -⟩
  · exact hA x (by rw [← e]; exact hx)
  · rw [e] at hx; cases hx
theorem mEc.all (p : Nat) (A : mS) : mEc p A ((List.range' 0 3).foldl (mECst p) A) ∧ ∀ c x, c < 3 → ((List.range' 0 3).foldl (mECst p) A).2.2.1 c = some x → x.1 ≠ p := by
  show mEc p A (mECst p (mECst p (mECst p A 0) 1) 2) ∧ ∀ c x, c < 3 → (mECst p (mECst p (mECst p A 0) 1) 2).2.2.1 c = some x → x.1 ≠ p
  obtain ⟨a1, a2⟩ := mEc.step p A (c := 0) (by omega)
  obtain ⟨b1, b2⟩ := mEc.step p (mECst p A 0) (c := 1) (by omega)
  obtain ⟨c1, c2⟩ := mEc.step p (mECst p (mECst p A 0) 1) (c := 2) (by omega)
  refine ⟨(a1.trans b1).trans c1, fun c x hc => ?_⟩
  rcases (by omega : c = 0 ∨ c = 1 ∨ c = 2) with rfl | rfl | rfl
  · exact (b1.trans c1).keep a2 x
  · exact c1.keep b2 x
  · exact c2 x
theorem mEnds.one {p : Nat} {A : mS} (h2 : 2 ≤ p) (h6 : p < 6) (h : A.2.1 p ≠ none) : mEnds A (mEPz p ((List.range' 0 3).foldl (mECst p) A)) 1 := by
  obtain ⟨⟨a1, a2, a3, a5, k, a8, a9⟩, b⟩ := mEc.all p A
  generalize (List.range' 0 3).foldl (mECst p) A = B at *
  refine ⟨a1, fun q x hq => ?_, fun c => ?_, fun c x hc hx h2 hA => ?_, fun j h2 h3 => ?_, ?_, ?_, k, ?_, a9⟩
  · have hq' : va_up B.2.1 p none q = some x := hq
    simp only [va_up] at hq'
    by_cases e : q = p
    · rw [if_pos e] at hq'; cases hq'
    · rw [if_neg e, a2] at hq'; exact hq'
  · show B.2.2.1 c = _ ∨ (B.2.2.1 c = none ∧ ∃ x : Nat × Nat × Int32 × Int32, _ ∧ _ ∧ va_up B.2.1 p none x.1 = none)
    rcases a3 c with e | ⟨e, x, f1, f2⟩
    · exact Or.inl e
    · exact Or.inr ⟨e, x, f1, by omega, by simp [va_up, f2]⟩
  · show va_up B.2.1 p none x.1 ≠ none
    simp only [va_up]
    rw [if_neg (b c x hc hx), a2]; exact hA
  · show (if j = 2 then _ else B.2.2.2 j) = _
    rw [if_neg h2]; exact a5 j h3
  · show B.2.2.2 2 + nI 1 = _
    rw [a5 2 (by omega)]
  · show 1 + mPc (va_up B.2.1 p none) = _
    rw [a2]; exact mPc_up h2 h6 h
  · exact a8
theorem mEPs_ends {d p : Nat} {ρ : Nat → Nat} (hp2 : 2 ≤ p)
    (hr : ∀ (A : mS) (q : Nat), mOk A.2.1 → mDeep d A.2.1 q → A.2.1 q ≠ none → mEnds A (mEP d A q).1 (mEP d A q).2) :
    ∀ (k j : Nat) (s : mS × Nat), 2 ≤ j → j + k ≤ 6 → mOk s.1.2.1 → (∀ q x, s.1.2.1 q = some x → x.1 < 2 ∨ (s.1.2.1 x.1 ≠ none ∧ ρ x.1 < ρ q)) → mDeep (d + 1) s.1.2.1 p → s.1.2.1 p ≠ none →
    ∃ m, ((List.range' j k).foldl (mEPst (mEP d) p) s).2 = s.2 + m ∧ mEnds s.1 ((List.range' j k).foldl (mEPst (mEP d) p) s).1 m ∧ ((List.range' j k).foldl (mEPst (mEP d) p) s).1.2.1 p = s.1.2.1 p
  | 0, j, s, _, _, _, _, _, _ => ⟨0, rfl, mEnds.refl, rfl⟩
  | k + 1, j, s, hj2, hj, hok, hρ, h3, hpp => by
    rw [List.range'_succ, List.foldl_cons]
    obtain ⟨A, c⟩ := s
    cases hc : A.2.1 j with
    | none =>
      have e : mEPst (mEP d) p (A, c) j = (A, c) := by unfold mEPst; rw [hc]
      rw [e]
      exact mEPs_ends hp2 hr k (j + 1) (A, c) (by omega) (by omega) hok hρ h3 hpp
    | some x =>
      by_cases hx : x.1 = p
      · have e : mEPst (mEP d) p (A, c) j = ((mEP d A j).1, c + (mEP d A j).2) := by unfold mEPst; rw [hc]; exact if_pos hx
        have hdj : mDeep d A.2.1 j := h3 j x hj2 (by omega) hc hx
        obtain ⟨k1, k2, k3⟩ := mEP_cl d A j hok.1 hok.cl hdj
        have hE := hr A j hok hdj (by rw [hc]; exact Option.some_ne_none _)
        have hpk : (mEP d A j).1.2.1 p = A.2.1 p := by
          refine mEP_keep (K := fun q => q < 2 ∨ (A.2.1 q ≠ none ∧ ρ q ≤ ρ p)) d A j (fun q hq h2 => ?_) ?_ p (Or.inr ⟨hpp, Nat.le_refl _⟩) hp2
          · rcases hq with hq | hq
            · omega
            · cases hy : A.2.1 q with
              | none => exact absurd hy hq.1
              | some y =>
                refine ⟨y, rfl, ?_⟩
                rcases hρ q y hy with z | z
                · exact Or.inl z
                · exact Or.inr ⟨z.1, by have := z.2; omega⟩
          · rintro (z | z)
            · omega
            · rcases hρ j x hc with y | y
              · omega
              · have := y.2; rw [hx] at this; omega
        rw [e]
        obtain ⟨m, z1, z2, z3⟩ := mEPs_ends (ρ := ρ) hp2 hr k (j + 1) ((mEP d A j).1, c + (mEP d A j).2) (by omega) (by omega) (hok.sub k3 k1) (fun q y hq => by
          rcases k1 q y hq with z | z
          · exact Or.inl z
          · rcases hρ q y (k3 q y hq) with z' | z'
            · exact Or.inl z'
            · exact Or.inr ⟨z, z'.2⟩) (h3.sub k3) (by show (mEP d A j).1.2.1 p ≠ none; rw [hpk]; exact hpp)
        exact ⟨(mEP d A j).2 + m, by rw [z1]; show c + _ + m = c + _; omega, hE.trans z2, z3.trans hpk⟩
      · have e : mEPst (mEP d) p (A, c) j = (A, c) := by unfold mEPst; rw [hc]; exact if_neg hx
        rw [e]
        exact mEPs_ends hp2 hr k (j + 1) (A, c) (by omega) (by omega) hok hρ h3 hpp
theorem mEP_ends : ∀ (d : Nat) (A : mS) (p : Nat), mOk A.2.1 → mDeep d A.2.1 p → A.2.1 p ≠ none → mEnds A (mEP d A p).1 (mEP d A p).2
  | 0, _, _, _, h, _ => h.elim
  | d + 1, A, p, hok, hd, hp => by
    cases hx : A.2.1 p with
    | none => exact absurd hx hp
    | some x =>
      have h26 := hok.1 p x hx
      obtain ⟨-, ρ, -, hρ⟩ := id hok
      obtain ⟨m, z1, z2, z3⟩ := mEPs_ends (ρ := ρ) h26.1 (mEP_ends d) 4 2 (A, 1) (by omega) (by omega) hok hρ hd hp
      have h1 : mEnds _ (mEPz p ((List.range' 0 3).foldl (mECst p) ((List.range' 2 4).foldl (mEPst (mEP d) p) (A, 1)).1)) 1 := mEnds.one h26.1 h26.2 (by rw [z3]; exact hp)
      have := z2.trans h1
      show mEnds A (mEPz p _) ((List.range' 2 4).foldl (mEPst (mEP d) p) (A, 1)).2
      rw [z1, Nat.add_comm]
      exact this
theorem mRw_mono {P : Nat → Option (Nat × Nat × Nat)} : ∀ (d p : Nat) (v : Nat × Nat), mRw P d p = some v → mRw P (d + 1) p = some v
  | 0, _, _, h => by cases h
  | d + 1, p, v, h => by
    unfold mRw at h ⊢
    by_cases h2 : p < 2
    · rw [if_pos h2] at h ⊢; exact h
    · rw [if_neg h2] at h ⊢
      cases hP : P p with
      | none => rw [hP] at h; cases h
      | some x =>
        obtain ⟨o, f, l⟩ := x
        rw [hP] at h
        simp only at h ⊢
        cases hr : mRw P d o with
        | none => rw [hr] at h; cases h
        | some y => rw [mRw_mono d o y hr]; rw [hr] at h; exact h
/-- a list's row and place by those of the list on which it stands -/
theorem mRw_of {P : Nat → Option (Nat × Nat × Nat)} (h : mOk P) {p : Nat} {x : Nat × Nat × Nat} (hx : P p = some x) {r b : Nat} (hr : mRw P zDp x.1 = some (r, b)) : mRw P zDp p = some (r, x.2.1 + b) := by
  have h26 := h.1 p x hx
  obtain ⟨r', b', e⟩ := h.rw' (p := p) (Or.inr (by rw [hx]; exact Option.some_ne_none _))
  have e1 := mRw_mono _ _ _ e
  unfold mRw at e1
  rw [if_neg (by omega), hx] at e1
  obtain ⟨o, f, l⟩ := x
  simp only at e1 hr
  rw [hr] at e1
  rw [e]; exact e1.symm
theorem mRw_sub {P P' : Nat → Option (Nat × Nat × Nat)} (hs : mSub P' P) (hc : mCl P') : ∀ (d p : Nat), (p < 2 ∨ P' p ≠ none) → mRw P' d p = mRw P d p
  | 0, _, _ => rfl
  | d + 1, p, hp => by
    unfold mRw
    by_cases h2 : p < 2
    · rw [if_pos h2, if_pos h2]
    · rw [if_neg h2, if_neg h2]
      cases hP : P' p with
      | none => rcases hp with z | z; · exact absurd z h2
                · exact absurd hP z
      | some x =>
        have e := hs p x hP
        obtain ⟨o, f, l⟩ := x
        rw [e]
        simp only
        rw [mRw_sub hs hc d o (hc p _ hP)]
theorem mAb_refl (P : Nat → Option (Nat × Nat × Nat)) (p : Nat) : mAb P zDp p p = true := by
  show mAb P (7 + 1) p p = true
  unfold mAb; rw [if_pos rfl]
theorem mRo_of {P : Nat → Option (Nat × Nat × Nat)} {p r b : Nat} (h : mRw P zDp p = some (r, b)) : mRo P p = r := by unfold mRo; rw [h]
theorem mES_char {A : mS} {r exc : Nat} (hok : mOk A.2.1) (hex : exc < 2 ∨ A.2.1 exc ≠ none) :
    mEnds A (mES A r exc).1 (mES A r exc).2 ∧ mOk (mES A r exc).1.2.1 ∧ ∀ q x, A.2.1 q = some x → (mES A r exc).1.2.1 q = if mRo A.2.1 q = r ∧ mAb A.2.1 zDp q exc = false then none else some x := by
  have key : ∀ (k j : Nat) (s : mS × Nat), 2 ≤ j → j + k = 6 → mEnds A s.1 s.2 → mOk s.1.2.1 → (∀ q x, A.2.1 q = some x → ¬ (mRo A.2.1 q = r ∧ mAb A.2.1 zDp q exc = false) → s.1.2.1 q = some x) → (∀ q, q < j → (mRo A.2.1 q = r ∧ mAb A.2.1 zDp q exc = false) → s.1.2.1 q = none) →
      mEnds A ((List.range' j k).foldl (mESt r exc) s).1 ((List.range' j k).foldl (mESt r exc) s).2 ∧ mOk ((List.range' j k).foldl (mESt r exc) s).1.2.1 ∧ (∀ q x, A.2.1 q = some x → ¬ (mRo A.2.1 q = r ∧ mAb A.2.1 zDp q exc = false) → ((List.range' j k).foldl (mESt r exc) s).1.2.1 q = some x) ∧ (∀ q, q < 6 → (mRo A.2.1 q = r ∧ mAb A.2.1 zDp q exc = false) → ((List.range' j k).foldl (mESt r exc) s).1.2.1 q = none) := by
    intro k
    induction k with
    | zero =>
      intro j s _ hj h1 h2 h3 h4
      exact ⟨h1, h2, h3, fun q hq => h4 q (by omega)⟩
    | succ k ih =>
      intro j s hj2 hj h1 h2 h3 h4
      rw [List.range'_succ, List.foldl_cons]
      obtain ⟨S, c⟩ := s
      cases hc : S.2.1 j with
      | none =>
        have e : mESt r exc (S, c) j = (S, c) := by unfold mESt; rw [hc]
        rw [e]
        refine ih (j + 1) (S, c) (by omega) (by omega) h1 h2 h3 (fun q hq hcd => ?_)
        by_cases hqj : q = j
        · rw [hqj]; exact hc
        · exact h4 q (by omega) hcd
      | some x =>
        have hA : A.2.1 j = some x := h1.2.1 j x hc
        have e1 : mRo S.2.1 j = mRo A.2.1 j := by
          unfold mRo
          rw [mRw_sub h1.2.1 h2.cl zDp j (Or.inr (by rw [hc]; exact Option.some_ne_none _))]
        obtain ⟨rx, bx, hrx⟩ := hok.rw' hex
        have e2 : mAb S.2.1 zDp j exc = mAb A.2.1 zDp j exc := by
          refine (mAb.congr (P := A.2.1) (P' := S.2.1) zDp exc (fun q hq hq2 => ?_)).1 j
          obtain ⟨y, hy, -⟩ := mAb.closed zDp exc rx bx hrx q hq hq2
          rw [hy]
          exact h3 q y hy (fun z => by rw [hq] at z; cases z.2)
        by_cases hcd : mRo A.2.1 j = r ∧ mAb A.2.1 zDp j exc = false
        · have e : mESt r exc (S, c) j = ((mEP zDp S j).1, c + (mEP zDp S j).2) := by unfold mESt; rw [hc]; simp only; rw [e1, e2]; exact if_pos hcd
          rw [e]
          have hE := mEP_ends zDp S j h2 (h2.deep hj2) (by rw [hc]; exact Option.some_ne_none _)
          have hO := h2.endP (A := S) hj2
          obtain ⟨-, k2, k3⟩ := mEP_cl zDp S j h2.1 h2.cl (h2.deep hj2)
          refine ih (j + 1) ((mEP zDp S j).1, c + (mEP zDp S j).2) (by omega) (by omega) (h1.trans hE) hO (fun q y hq hn => ?_) (fun q hq hq2 => ?_)
          · show (mEP zDp S j).1.2.1 q = some y
            rw [← h3 q y hq hn]
            refine mEP_keep (K := fun q => q < 2 ∨ ∃ x, A.2.1 q = some x ∧ ¬ (mRo A.2.1 q = r ∧ mAb A.2.1 zDp q exc = false)) zDp S j (fun q' hq' h2' => ?_) ?_ q (Or.inr ⟨y, hq, hn⟩) (hok.1 q y hq).1
            · rcases hq' with z | ⟨x', z1, z2⟩
              · omega
              · refine ⟨x', h3 q' x' z1 z2, ?_⟩
                rcases hok.cl q' x' z1 with w | w
                · exact Or.inl w
                · cases hw : A.2.1 x'.1 with
                  | none => exact absurd hw w
                  | some v =>
                    refine Or.inr ⟨v, rfl, fun u => z2 ⟨?_, ?_⟩⟩
                    · obtain ⟨r1, b1, hr1⟩ := hok.rw' (p := x'.1) (Or.inr w)
                      rw [mRo_of (mRw_of hok z1 hr1), ← mRo_of hr1]
                      exact u.1
                    · cases hb : mAb A.2.1 zDp q' exc with
                      | false => rfl
                      | true =>
                        obtain ⟨x2, y1, y2⟩ := mAb.closed zDp exc rx bx hrx q' hb h2'
                        rw [z1] at y1; cases y1
                        rw [y2] at u; exact absurd u.2 (by decide)
            · rintro (z | ⟨x', -, z2⟩)
              · omega
              · exact z2 hcd
          · show (mEP zDp S j).1.2.1 q = none
            by_cases hqj : q = j
            · rw [hqj]; exact k2
            · have h5 := h4 q (by omega) hq2
              cases hz : (mEP zDp S j).1.2.1 q with
              | none => rfl
              | some z => rw [k3 q z hz] at h5; cases h5
        · have e : mESt r exc (S, c) j = (S, c) := by unfold mESt; rw [hc]; simp only; rw [e1, e2]; exact if_neg hcd
          rw [e]
          refine ih (j + 1) (S, c) (by omega) (by omega) h1 h2 h3 (fun q hq hq2 => ?_)
          by_cases hqj : q = j
          · rw [hqj] at hq2; exact absurd hq2 hcd
          · exact h4 q (by omega) hq2
  obtain ⟨a1, a2, a3, a4⟩ := key 4 2 (A, 0) (by omega) rfl mEnds.refl hok (fun q x hq _ => hq) (fun q hq hcd => by
    cases hx : A.2.1 q with
    | none => rfl
    | some x => have := hok.1 q x hx; omega)
  refine ⟨a1, a2, fun q x hq => ?_⟩
  by_cases hcd : mRo A.2.1 q = r ∧ mAb A.2.1 zDp q exc = false
  · rw [if_pos hcd]; exact a4 q (hok.1 q x hq).2 hcd
  · rw [if_neg hcd]; exact a3 q x hq hcd
/-- the end of a part: it, and those that stand on it -/
theorem mEP_char {A : mS} {p : Nat} (hok : mOk A.2.1) (hp : A.2.1 p ≠ none) :
    mEnds A (mEP zDp A p).1 (mEP zDp A p).2 ∧ mOk (mEP zDp A p).1.2.1 ∧ ∀ q x, A.2.1 q = some x → (mEP zDp A p).1.2.1 q = if mAb A.2.1 zDp p q = true then none else some x := by
  cases hx : A.2.1 p with
  | none => exact absurd hx hp
  | some x0 =>
    have h26 := hok.1 p x0 hx
    have hE := mEP_ends zDp A p hok (hok.deep h26.1) hp
    obtain ⟨k1, k2, k3⟩ := mEP_cl zDp A p hok.1 hok.cl (hok.deep h26.1)
    refine ⟨hE, hok.sub k3 k1, fun q x hq => ?_⟩
    obtain ⟨rq, bq, hrq⟩ := hok.rw' (p := q) (Or.inr (by rw [hq]; exact Option.some_ne_none _))
    by_cases hab : mAb A.2.1 zDp p q = true
    · rw [if_pos hab]
      cases hz : (mEP zDp A p).1.2.1 q with
      | none => rfl
      | some z =>
        exfalso
        -- the way from q up stays, so p is there
        have hall : ∀ (d q : Nat), mAb A.2.1 d p q = true → (mEP zDp A p).1.2.1 q ≠ none → False := by
          intro d
          induction d with
          | zero => intro q h; cases h
          | succ d ih =>
            intro q h hn
            unfold mAb at h
            by_cases hpq : p = q
            · rw [← hpq] at hn; exact hn k2
            · rw [if_neg hpq] at h
              by_cases hq2 : q < 2
              · rw [if_pos hq2] at h; cases h
              · rw [if_neg hq2] at h
                cases hy : (mEP zDp A p).1.2.1 q with
                | none => exact hn hy
                | some y =>
                  rw [k3 q y hy] at h
                  rcases k1 q y hy with w | w
                  · cases d with
                    | zero => cases h
                    | succ d =>
                      simp only at h
                      unfold mAb at h
                      rw [if_neg (by omega), if_pos w] at h; cases h
                  · exact ih y.1 h w
        exact hall zDp q hab (by rw [hz]; exact Option.some_ne_none _)
    · rw [if_neg hab, ← hq]
      refine mEP_keep (K := fun q => q < 2 ∨ (A.2.1 q ≠ none ∧ mAb A.2.1 zDp p q = false)) zDp A p (fun q' hq' h2' => ?_) ?_ q (Or.inr ⟨by rw [hq]; exact Option.some_ne_none _, Bool.eq_false_iff.mpr hab⟩) (hok.1 q x hq).1
      · rcases hq' with z | ⟨z1, z2⟩
        · omega
        · cases hy : A.2.1 q' with
          | none => exact absurd hy z1
          | some y =>
            refine ⟨y, rfl, ?_⟩
            rcases hok.cl q' y hy with w | w
            · exact Or.inl w
            · refine Or.inr ⟨w, ?_⟩
              cases hb : mAb A.2.1 zDp p y.1 with
              | false => rfl
              | true =>
                exfalso
                have h1 : mAb A.2.1 (zDp + 1) p q' = true := by
                  unfold mAb
                  by_cases e : p = q'
                  · rw [if_pos e]
                  · rw [if_neg e, if_neg (by omega), hy]; exact hb
                obtain ⟨rq', bq', hrq'⟩ := hok.rw' (p := q') (Or.inr z1)
                have h3 : ∀ (d p q r b : Nat), mRw A.2.1 d q = some (r, b) → mAb A.2.1 (d + 1) p q = mAb A.2.1 d p q := by
                  intro d
                  induction d with
                  | zero => intro p q r b h; cases h
                  | succ d ih =>
                    intro p q r b h
                    unfold mRw at h
                    unfold mAb
                    by_cases e : p = q
                    · rw [if_pos e, if_pos e]
                    · rw [if_neg e, if_neg e]
                      by_cases e2 : q < 2
                      · rw [if_pos e2, if_pos e2]
                      · rw [if_neg e2, if_neg e2]
                        rw [if_neg e2] at h
                        cases hv : A.2.1 q with
                        | none => rfl
                        | some v =>
                          rw [hv] at h
                          obtain ⟨o, f, l⟩ := v
                          simp only at h ⊢
                          cases hr : mRw A.2.1 d o with
                          | none => rw [hr] at h; cases h
                          | some u => exact ih p o u.1 u.2 hr
                rw [h3 zDp p q' rq' bq' hrq', z2] at h1
                cases h1
      · rintro (z | ⟨-, z2⟩)
        · omega
        · rw [mAb_refl] at z2; cases z2
