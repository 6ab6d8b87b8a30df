-- the reference: all on a row ends; cursors; parts
def mECr (r : Nat) (A : mS) (c : Nat) : mS := match A.2.2.1 c with
  | some x => if mRo A.2.1 x.1 = r then mEndC A c else A
  | none => A
def mECa (A : mS) (r : Nat) : mS := (List.range' 0 3).foldl (mECr r) A
def mAround (A : mS) (r p : Nat) : mS := mECa (mES A r p).1 r
theorem mECr_one {r : Nat} (A : mS) {c : Nat} (hc : c < 3) : (mECr r A c).1 = A.1 ∧ (mECr r A c).2.1 = A.2.1 ∧ (mECr r A c).2.2.1 = va_up A.2.2.1 c (match A.2.2.1 c with
    | some x => if mRo A.2.1 x.1 = r then none else some x
    | none => none) ∧ (∀ j, j ≠ 3 → (mECr r A c).2.2.2 j = A.2.2.2 j) ∧ ∃ k, (mECr r A c).2.2.2 3 = A.2.2.2 3 + nI k ∧ k + mKk (mECr r A c).2.2.1 = mKk A.2.2.1 := by
  have no : ∀ v, v = A.2.2.1 c → A.1 = A.1 ∧ A.2.1 = A.2.1 ∧ A.2.2.1 = va_up A.2.2.1 c v ∧ (∀ j, j ≠ 3 → A.2.2.2 j = A.2.2.2 j) ∧ ∃ k, A.2.2.2 3 = A.2.2.2 3 + nI k ∧ k + mKk A.2.2.1 = mKk A.2.2.1 :=
    fun v hv => ⟨rfl, rfl, by rw [hv, va_up_id], fun _ _ => rfl, 0, (add_nI0 _).symm, Nat.zero_add _⟩
  unfold mECr
  cases hx : A.2.2.1 c with
  | none => exact no _ hx.symm
  | some x =>
    simp only
    by_cases hr : mRo A.2.1 x.1 = r
    · rw [if_pos hr, if_pos hr]
      exact ⟨rfl, rfl, rfl, fun j hj => if_neg hj, 1, rfl, mKk_up hc (by rw [hx]; exact Option.some_ne_none _)⟩
    · rw [if_neg hr, if_neg hr]; exact no _ hx.symm
def mCr (P : mP) (r : Nat) (C : mC) (c : Nat) : Option (Nat × Nat × Int32 × Int32) := match C c with
  | some x => if mRo P x.1 = r then none else some x
  | none => none
theorem mECa_char (A : mS) (r : Nat) : (mECa A r).1 = A.1 ∧ (mECa A r).2.1 = A.2.1 ∧ (∀ c, (mECa A r).2.2.1 c = if c < 3 then mCr A.2.1 r A.2.2.1 c else A.2.2.1 c) ∧ (∀ j, j ≠ 3 → (mECa A r).2.2.2 j = A.2.2.2 j) ∧ ∃ k, (mECa A r).2.2.2 3 = A.2.2.2 3 + nI k ∧ k + mKk (mECa A r).2.2.1 = mKk A.2.2.1 := by
  have e0 : mECa A r = mECr r (mECr r (mECr r A 0) 1) 2 := rfl
  rw [e0]
  obtain ⟨a1, a2, a3, a4, ka, a5, a6⟩ := mECr_one (r := r) A (c := 0) (by omega)
  obtain ⟨b1, b2, b3, b4, kb, b5, b6⟩ := mECr_one (r := r) (mECr r A 0) (c := 1) (by omega)
  obtain ⟨c1, c2, c3, c4, kc, c5, c6⟩ := mECr_one (r := r) (mECr r (mECr r A 0) 1) (c := 2) (by omega)
  refine ⟨c1.trans (b1.trans a1), c2.trans (b2.trans a2), fun c => ?_, fun j hj => (c4 j hj).trans ((b4 j hj).trans (a4 j hj)), ka + kb + kc, by rw [c5, b5, a5, add_nI, add_nI, Nat.add_assoc], by omega⟩
  rw [c3, b3, a3, b2, a2]
  unfold mCr
  by_cases h0 : c = 0
  · subst h0; simp [va_up]
  · by_cases h1 : c = 1
    · subst h1; simp [va_up]
    · by_cases h2 : c = 2
      · subst h2; simp [va_up]
      · rw [if_neg (by omega)]
        simp [va_up, h0, h1, h2]
theorem mArd.of {A : mS} {r p : Nat} (hok : mOk A.2.1) (hv : mV A p) (hcv : ∀ c x, A.2.2.1 c = some x → c < 3 ∧ mV A x.1) : mArd A (mAround A r p) p r (mES A r p).2 ∧ mOk (mAround A r p).2.1 := by
  obtain ⟨⟨d1, d2, d3, d4, d5, d6, d7, kd, d8, d9⟩, e2, e3⟩ := mES_char (A := A) (r := r) (exc := p) hok hv
  obtain ⟨c1, c2, c3, c4, kc, c5, c6⟩ := mECa_char (mES A r p).1 r
  have e0 : mAround A r p = mECa (mES A r p).1 r := rfl
  rw [e0]
  generalize mECa (mES A r p).1 r = A' at c1 c2 c3 c4 c5 c6 ⊢
  generalize mES A r p = E at d1 d2 d3 d4 d5 d6 d7 d8 d9 e2 e3 c1 c2 c3 c4 c5 c6 ⊢
  have ro : ∀ q, mV E.1 q → mRo E.1.2.1 q = mRo A.2.1 q := fun q hq => by
    unfold mRo
    rw [mRw_sub d2 e2.cl zDp q hq]
  refine ⟨⟨c1.trans d1, fun q hq => ?_, fun q x hx => by rw [c2]; exact e3 q x hx, fun c hc => ?_, fun c x hx => ?_, fun j h2 h3 => (c4 j h3).trans (d5 j h2 h3), (c4 2 (by omega)).trans d6, by rw [c2]; exact d7, kd + kc, by rw [c5, d8, add_nI], by omega⟩, by rw [c2]; exact e2⟩
  · rw [c2]
    cases hz : E.1.2.1 q with
    | none => rfl
    | some z => rw [d2 q z hz] at hq; cases hq
  · have hE : E.1.2.2.1 c = none := by
      rcases d3 c with k | ⟨k, -⟩
      · rw [k, hc]
      · exact k
    rw [c3]
    unfold mCr
    rw [hE]
    split <;> rfl
  · obtain ⟨hc3, hxv⟩ := hcv c x hx
    rw [c3, if_pos hc3]
    unfold mCr
    rcases d3 c with k | ⟨k, y, f1, f2, f3⟩
    · rw [k, hx]
      have hv' : mV E.1 x.1 := by
        by_cases h2 : x.1 < 2
        · exact Or.inl h2
        · exact Or.inr (d4 c x hc3 (k.trans hx) (by omega) (hxv.elim (fun q => absurd q h2) id))
      simp only
      rw [ro x.1 hv']
    · rw [k]
      simp only
      rw [hx] at f1
      have e := Option.some.inj f1
      rw [← e] at f2 f3
      have hh : mRo A.2.1 x.1 = r := by
        rcases hxv with q | q
        · omega
        · cases hy : A.2.1 x.1 with
          | none => exact absurd hy q
          | some z =>
            have := e3 x.1 z hy
            rw [f3] at this
            by_cases hcd : mRo A.2.1 x.1 = r ∧ mAb A.2.1 zDp x.1 p = false
            · exact hcd.1
            · rw [if_neg hcd] at this; cases this
      rw [if_pos hh]
theorem mInv.ard {m n p r : Nat} {A A' : mS} (h : mInv m A) (hd : mArd A A' p r n) (hok : mOk A'.2.1) : mInv m A' := by
  obtain ⟨d1, d2, d3, d4, d5, d6, -⟩ := hd
  have hp : ∀ q x, A'.2.1 q = some x → A.2.1 q = some x := by
    intro q x hx
    cases hy : A.2.1 q with
    | none => rw [d2 q hy] at hx; cases hx
    | some y =>
      have := d3 q y hy
      rw [hx] at this
      split at this
      · cases this
      · exact this.symm
  have hl : ∀ q, mV A' q → mLen A' q = mLen A q := by
    intro q hq
    by_cases h2 : q < 2
    · rw [mLen_row h2, mLen_row h2, d1]
    · rcases hq with k | k
      · exact absurd k h2
      · cases hx : A'.2.1 q with
        | none => exact absurd hx k
        | some x => rw [mLen_part h2 hx, mLen_part h2 (hp q x hx)]
  refine ⟨hok, fun q x hx => ?_, fun r' hr' => by rw [d1]; exact h.2.2.1 r' hr', fun c x hx => ?_, by rw [d6 1 (by omega) (by omega)]; exact h.2.2.2.2.1, h.2.2.2.2.2⟩
  · rw [hl x.1 (hok.cl q x hx)]; exact h.2.1 q x (hp q x hx)
  · cases hy : A.2.2.1 c with
    | none => rw [d4 c hy] at hx; cases hx
    | some y =>
      have e := d5 c y hy
      rw [hx] at e
      by_cases hr : mRo A.2.1 y.1 = r
      · rw [if_pos hr] at e; cases e
      · rw [if_neg hr] at e
        have e' := Option.some.inj e
        have hc := h.2.2.2.1 c y hy
        rw [e']
        have hv : mV A' y.1 := by
          rcases hc.2.2.1 with k | k
          · exact Or.inl k
          · cases hz : A.2.1 y.1 with
            | none => exact absurd hz k
            | some z =>
              have := d3 y.1 z hz
              rw [if_neg (fun q => hr q.1)] at this
              exact Or.inr (by rw [this]; exact Option.some_ne_none _)
        refine ⟨hc.1, hc.2.1, hv, ?_⟩
        rw [hl _ hv]; exact hc.2.2.2
theorem mInv.ends {m n : Nat} {A A' : mS} (h : mInv m A) (hE : mEnds A A' n) (hok : mOk A'.2.1) : mInv m A' := by
  obtain ⟨d1, d2, d3, d4, d5, -⟩ := hE
  have hl : ∀ q, mV A' q → mLen A' q = mLen A q := by
    intro q hq
    by_cases h2 : q < 2
    · rw [mLen_row h2, mLen_row h2, d1]
    · rcases hq with k | k
      · exact absurd k h2
      · cases hx : A'.2.1 q with
        | none => exact absurd hx k
        | some x => rw [mLen_part h2 hx, mLen_part h2 (d2 q x hx)]
  refine ⟨hok, fun q x hx => ?_, fun r' hr' => by rw [d1]; exact h.2.2.1 r' hr', fun c x hx => ?_, by rw [d5 1 (by omega) (by omega)]; exact h.2.2.2.2.1, h.2.2.2.2.2⟩
  · rw [hl x.1 (hok.cl q x hx)]; exact h.2.1 q x (d2 q x hx)
  · have e : A.2.2.1 c = some x := by
      rcases d3 c with k | ⟨k, -⟩
      · rw [← k]; exact hx
      · rw [k] at hx; cases hx
    have hc := h.2.2.2.1 c x e
    have hv : mV A' x.1 := by
      by_cases h2 : x.1 < 2
      · exact Or.inl h2
      · exact Or.inr (d4 c x hc.1 hx (by omega) (hc.2.2.1.elim (fun q => absurd q h2) id))
    refine ⟨hc.1, hc.2.1, hv, ?_⟩
    rw [hl _ hv]; exact hc.2.2.2
theorem mSq.loc {w : Nat → Nat} {k n a e cap : Nat} {xs : List Nat} {G G' : gH} (h : mSq k n G G') (hw : gWf G) (hl : isALc w G a e cap xs) : isALc w G' a e cap xs := by
  obtain ⟨m, κ, f, q1, q2, q3, -⟩ := id hl
  refine hl.frame (h.1.2.2.2.2.2 a (hw _ _ q1) ?_) (h.1.2.2.2.2.2 e (hw _ _ q2) ?_) h.2
  · rintro ⟨z, hz, hk⟩
    rw [q1] at hz
    cases hz
    rcases hk with ⟨c, fs, e1, e2⟩ | ⟨c, n, f, e1, -⟩
    · cases e1; omega
    · cases e1
  · rintro ⟨z, hz, hk⟩
    rw [q2] at hz
    cases hz
    rcases hk with ⟨c, fs, e1, -⟩ | ⟨c, n, f, e1, e2⟩
    · cases e1
    · have := (zQ_inj (congrArg some e1)).1
      omega
section Ref3
variable {w : Nat → Nat} {o : Nat}
theorem m_ec {r : Nat} {K : gH → gR} (hr : r < 2) : ∀ (k j n : Nat) (G : gH) (A : mS) (D : mD), j + k = 3 → k < n → gWf G → MRep w G o A D → mOk A.2.1 → (∀ c x, j ≤ c → A.2.2.1 c = some x → x.1 < 2 ∨ A.2.1 x.1 ≠ none) →
    ∃ (G' : gH) (F : (Nat → Option Nat) × (Nat → Option Nat)), f_M_endCursors_L2 K n G o (nI r) (nI j) = K G' ∧ MRep w G' o ((List.range' j k).foldl (mECr r) A) (dS D F) ∧ mSq 0 0 G G'
  | _, _, 0, _, _, _, _, hn, _, _, _, _ => absurd hn (Nat.not_lt_zero _)
  | 0, j, n + 1, G, A, D, hj, _, hw, h, _, _ => by
    refine ⟨G, D.2.2.2.2, ?_, h, mSq.refl⟩
    unfold f_M_endCursors_L2
    rw [if_pos (nI_le (by omega) (by omega))]
  | k + 1, j, n + 1, G, A, D, hj, hn, hw, h, hok, hcv => by
    have hj3 : j < 3 := by omega
    have hcv' : ∀ c x, j + 1 ≤ c → A.2.2.1 c = some x → x.1 < 2 ∨ A.2.1 x.1 ≠ none := fun c x hc => hcv c x (by omega)
    unfold f_M_endCursors_L2
    rw [if_neg (nI_ge hj3 (by omega)), List.range'_succ, List.foldl_cons, nI_add, gFA_of h.1 rfl rfl]
    cases hc : A.2.2.1 j with
    | none =>
      rw [gLdq_no h.2.2.2.2.1 rfl hj3 (by omega) (h.nocur hj3 hc)]
      have e : mECr r A j = A := by unfold mECr; rw [hc]
      rw [e]
      exact m_ec hr k (j + 1) n G A D (by omega) (by omega) hw h hok hcv'
    | some x =>
      obtain ⟨q, e1, e2, e3, e4⟩ := h.cur hj3 hc
      obtain ⟨r', b', hrw⟩ := hok.rw' (hcv j x (Nat.le_refl _) hc)
      have hr' := mRw_lt _ _ _ _ hrw
      have hRo : mRo A.2.1 x.1 = r' := mRo_of hrw
      rw [gLdq_of h.2.2.2.2.1 rfl hj3 (by omega) e1, gFA_of h.1 rfl rfl, gLdq_of h.2.2.2.2.1 rfl hj3 (by omega) e1, gFI_of e4 rfl rfl, gOb_of h.1 rfl, m_rowOf h _ _ _ _ e2 hrw, bI_rI]
      by_cases hrr : r' = r
      · have e : mECr r A j = mEndC A j := by unfold mECr; rw [hc]; exact if_pos (hRo.trans hrr)
        obtain ⟨G1, r1, r2, r3⟩ := m_endCursor hw h hj3
        obtain ⟨G', D', z1, z2, z3⟩ := m_ec (K := K) hr k (j + 1) n G1 _ _ (by omega) (by omega) (r3.wf hw) r2 hok (fun c y hc' hy => by
          have hy' : va_up A.2.2.1 j none c = some y := hy
          simp only [va_up] at hy'
          rw [if_neg (by omega)] at hy'
          exact hcv' c y hc' hy')
        refine ⟨G', D', ?_, by rw [e]; exact z2, r3.trans z3⟩
        rw [if_pos (by rw [hrr]), gOb_of h.1 rfl, r1]
        exact z1
      · have e : mECr r A j = A := by unfold mECr; rw [hc]; exact if_neg (fun q => hrr (hRo.symm.trans q))
        rw [if_neg (fun q => hrr ((nI_eq (by omega) (by omega)).mp q)), e]
        exact m_ec hr k (j + 1) n G A D (by omega) (by omega) hw h hok hcv'
variable {G : gH} {A : mS} {D : mD}
theorem s_rowOf (h : MS w o G A D) (hok : mOk A.2.1) {p r s : Nat} (hv : mV A p) (hr : mRw A.2.1 zDp p = some (r, s)) : f_M_rowOf zDp G o (nI p) = rI (nI r) G := m_rowOf h.2.2 _ _ _ _ (hv.lt hok) hr
/-- endParts and endCursors, one behind the other -/
theorem s_around {r p : Nat} (h : MS w o G A D) (hok : mOk A.2.1) (hv : mV A p) (hr : r < 2) (hcv : ∀ c x, A.2.2.1 c = some x → c < 3 ∧ mV A x.1) :
    ∃ (G1 G2 : gH) (F1 F2 : (Nat → Option Nat) × (Nat → Option Nat)), f_M_endParts G o (nI r) (nI p) = rI (nI (mES A r p).2) G1 ∧ MS w o G1 (mES A r p).1 (dS D F1) ∧ mSq 0 0 G G1 ∧ f_M_endCursors G1 o (nI r) = rV G2 ∧ MS w o G2 (mAround A r p) (dS D F2) ∧ mSq 0 0 G1 G2 ∧ (∀ q, mAb A.2.1 zDp q p = true → 2 ≤ q → (mES A r p).1.2.1 q = A.2.1 q) := by
  obtain ⟨G1, F1, a1, a2, a3, a4, a5, a6⟩ := m_endParts (r := r) (exc := p) h.1 h.2.2 hok hr (hv.lt hok) hv
  have h1 := h.step a3.st a2
  obtain ⟨⟨-, -, d3, d4, -⟩, -, -⟩ := mES_char (A := A) (r := r) (exc := p) hok hv
  obtain ⟨G2, F2, b1, b2, b3⟩ := m_ec (w := w) (o := o) (K := fun G17 => rV G17) hr 3 0 zFu G1 (mES A r p).1 (dS D F1) rfl (by unfold zFu; omega) h1.1 h1.2.2 a5 (fun c x _ hx => by
    have e : A.2.2.1 c = some x := by
      rcases d3 c with k | ⟨k, -⟩
      · rw [← k]; exact hx
      · rw [k] at hx; cases hx
    obtain ⟨c3, xv⟩ := hcv c x e
    by_cases h2 : x.1 < 2
    · exact Or.inl h2
    · exact Or.inr (d4 c x c3 hx (by omega) (xv.elim (fun q => absurd q h2) id)))
  exact ⟨G1, G2, F1, F2, a1, h1, a3, b1, h1.step b3.st b2, b3, a6⟩
end Ref3
