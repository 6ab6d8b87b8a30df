-- the class's cells tell of the state
def cE (t : Nat × Nat × Nat) : Int32 := nI (32 * t.2.2 + t.2.1)
def cTh (f : Nat → Int32) (R : Nat → List (Nat × Nat × Nat)) : Prop := ∀ r i t, r < 2 → (R r)[i]? = some t → f (31 * r + i) = cE t
def cLp (f : Nat → Int32) (P : mP) : Prop := ∀ p, 2 ≤ p → p < 6 → match P p with
  | none => f p = -1
  | some x => f p = nI x.2.2
def cHi (g I : Nat → Int32) : Prop := g 0 = I 2 ∧ g 1 = I 3 ∧ g 2 = I 1 ∧ g 3 = I 4 ∧ g 4 = I 5
/-- how the arrays tell of the cursors; of exc not where it stands -/
def cHx (exc : Int32) (f6 f7 f8 f9 : Nat → Int32) (C : mC) : Prop := ∀ c, c < 3 → match C c with
  | none => f6 c = nI 0
  | some x => f6 c = (if x.2.2.2 = 0 then nI 1 else nI 2) ∧ f7 c = nI x.1 ∧ (nI c ≠ exc → f8 c = nI x.2.1 ∧ f9 c = x.2.2.1)
theorem cHx.on {exc : Int32} {f6 f7 f8 f9 : Nat → Int32} {C : mC} (h : cHx exc f6 f7 f8 f9 C) {c : Nat} (hc : c < 3) (h6 : ∀ x, C c = some x → x.1 < 6) : cOn f6 f7 C c := by
  have := h c hc
  unfold cOn
  cases hx : C c with
  | none => rw [hx] at this; exact this
  | some x =>
    rw [hx] at this
    simp only at this ⊢
    refine ⟨?_, this.2.1, h6 x hx⟩
    rw [this.1]
    split
    · exact Or.inl rfl
    · exact Or.inr rfl
def cRx (exc : Int32) (σ : cS) (A : mS) : Prop := cLp (σ.1 1) A.2.1 ∧ cHa (σ.1 2) A.2.1 ∧ cHp (σ.1 3) (σ.1 4) A.2.1 ∧ cHx exc (σ.1 6) (σ.1 7) (σ.1 8) (σ.1 9) A.2.2.1 ∧ cHi σ.2 A.2.2.2
def cRl (σ : cS) (A : mS) : Prop := ∀ r, r < 2 → σ.1 1 r = nI (A.1 r).length
def CRep (σ : cS) (A : mS) : Prop := cTh (σ.1 0) A.1 ∧ cRl σ A ∧ cRx (-1) σ A
/-- a list that is there -/
def mV (A : mS) (p : Nat) : Prop := p < 2 ∨ A.2.1 p ≠ none
def mCok (A : mS) (x : Nat × Nat × Int32 × Int32) : Prop :=
  x.1 < 6 ∧ mV A x.1 ∧ ((x.2.2.2 = 0 ∧ x.2.1 ≤ mLen A x.1 ∧ (x.2.2.1 = -1 ∨ ∃ j, j < mLen A x.1 ∧ x.2.2.1 = nI j)) ∨ (x.2.2.2 = nI 1 ∧ x.1 < 2 ∧ x.2.1 < 32))
def mTok (m : Nat) (t : Nat × Nat × Nat) : Prop := t.2.1 < 31 ∧ t.2.2 < m
def mFit (A : mS) : Prop := ∀ q x, A.2.1 q = some x → x.2.1 + x.2.2 ≤ mLen A x.1
def mInv (m : Nat) (A : mS) : Prop :=
  mOk A.2.1 ∧ mFit A ∧ (∀ r, r < 2 → (A.1 r).length ≤ 31 ∧ ∀ t, t ∈ A.1 r → mTok m t) ∧ (∀ c x, A.2.2.1 c = some x → c < 3 ∧ mCok A x) ∧ A.2.2.2 1 = nI m ∧ m ≤ 600
theorem mV.lt {A : mS} (h : mOk A.2.1) {p : Nat} (hv : mV A p) : p < 6 := by
  rcases hv with k | k
  · omega
  · cases hx : A.2.1 p with
    | none => exact absurd hx k
    | some x => exact (h.1 p x hx).2
theorem mFit.rw {A : mS} (hf : mFit A) : ∀ (d p r s : Nat), mRw A.2.1 d p = some (r, s) → s + mLen A p ≤ (A.1 r).length
  | 0, _, _, _, h => by cases h
  | d + 1, p, r, s, h => by
    unfold mRw at h
    by_cases h2 : p < 2
    · rw [if_pos h2] at h
      cases h
      unfold mLen
      rw [if_pos h2]; omega
    · rw [if_neg h2] at h
      cases hx : A.2.1 p with
      | none => rw [hx] at h; cases h
      | some x =>
        have hf1 := hf p x hx
        obtain ⟨o, f, l⟩ := x
        rw [hx] at h
        simp only at h hf1
        cases hr : mRw A.2.1 d o with
        | none => rw [hr] at h; cases h
        | some y =>
          obtain ⟨r', s'⟩ := y
          rw [hr] at h
          cases h
          have ih := mFit.rw hf d o _ _ hr
          have e : mLen A p = l := by unfold mLen; rw [if_neg h2, hx]
          dsimp only at ih ⊢
          omega
/-- where a list lies -/
theorem mInv.pl {m : Nat} {A : mS} (h : mInv m A) {p : Nat} (hv : mV A p) : ∃ r s, mRw A.2.1 zDp p = some (r, s) ∧ r < 2 ∧ s + mLen A p ≤ (A.1 r).length ∧ (A.1 r).length ≤ 31 ∧ p < 6 ∧ mRo A.2.1 p = r := by
  obtain ⟨r, s, e⟩ := h.1.rw' hv
  have hr := mRw_lt _ _ _ _ e
  exact ⟨r, s, e, hr, h.2.1.rw _ _ _ _ e, (h.2.2.1 r hr).1, hv.lt h.1, mRo_of e⟩
theorem mLen_row {A : mS} {r : Nat} (h : r < 2) : mLen A r = (A.1 r).length := if_pos h
theorem mLen_part {A : mS} {p : Nat} {x : Nat × Nat × Nat} (h : ¬ p < 2) (hx : A.2.1 p = some x) : mLen A p = x.2.2 := by
  unfold mLen; rw [if_neg h, hx]
theorem eCt4 (C : Nat → Bool) : eCt C 2 4 = (if C 2 = true then 1 else 0) + (if C 3 = true then 1 else 0) + (if C 4 = true then 1 else 0) + (if C 5 = true then 1 else 0) := by
  show (if C 2 = true then 1 else 0) + ((if C 3 = true then 1 else 0) + ((if C 4 = true then 1 else 0) + ((if C 5 = true then 1 else 0) + 0))) = _
  omega
theorem eCt3 (C : Nat → Bool) : eCt C 0 3 = (if C 0 = true then 1 else 0) + (if C 1 = true then 1 else 0) + (if C 2 = true then 1 else 0) := by
  show (if C 0 = true then 1 else 0) + ((if C 1 = true then 1 else 0) + ((if C 2 = true then 1 else 0) + 0)) = _
  omega
theorem eCt_pc {C : Nat → Bool} {P P' : mP} (h : ∀ q, 2 ≤ q → q < 6 → (if C q = true then 1 else 0) + o1 (P' q) = o1 (P q)) : eCt C 2 4 + mPc P' = mPc P := by
  rw [eCt4]
  have a2 := h 2 (by omega) (by omega)
  have a3 := h 3 (by omega) (by omega)
  have a4 := h 4 (by omega) (by omega)
  have a5 := h 5 (by omega) (by omega)
  unfold mPc
  omega
theorem eCt_kk {C : Nat → Bool} {S S' : mC} (h : ∀ c, c < 3 → (if C c = true then 1 else 0) + o1 (S' c) = o1 (S c)) : eCt C 0 3 + mKk S' = mKk S := by
  rw [eCt3]
  have a0 := h 0 (by omega)
  have a1 := h 1 (by omega)
  have a2 := h 2 (by omega)
  unfold mKk
  omega
theorem cLp.hl {f : Nat → Int32} {P : mP} (h : cLp f P) (hb : ∀ q x, P q = some x → x.2.2 < 100) : cHl f P := by
  intro p h2 h6
  have := h p h2 h6
  cases hx : P p with
  | none => rw [hx] at this; simp only at this; exact ⟨fun _ => rfl, fun _ => this⟩
  | some x =>
    rw [hx] at this
    simp only at this
    exact ⟨fun q => absurd (this.symm.trans q) (nI_ne1 (by have := hb p x hx; omega)), fun q => by cases q⟩
section Chg
variable {b : Nat} {G : gH}
/-- what a change of length does in the class, behind the longer or shorter lists -/
theorem x_endByLength {A A' : mS} {σ : cS} {l0 : Nat → Int32} {p r s : Nat} {z : Int} {exc : Int32} (hok : mOk A.2.1) (hv : mV A p) (hrw : mRw A.2.1 zDp p = some (r, s)) (hz : -100 < z ∧ z < 100)
    (hl : cLp l0 A.2.1) (hl1 : σ.1 1 = fun q => if mAb A.2.1 zDp q p = true then l0 q + Int32.ofInt z else l0 q) (hlen : ∀ q x, A.2.1 q = some x → x.2.2 < 100 ∧ (mAb A.2.1 zDp q p = true → 0 ≤ (x.2.2 : Int) + z))
    (ha : cHa (σ.1 2) A.2.1) (h3 : cHp (σ.1 3) (σ.1 4) A.2.1) (hc : cHx exc (σ.1 6) (σ.1 7) (σ.1 8) (σ.1 9) A.2.2.1) (hi : cHi σ.2 A.2.2.2) (hcv : ∀ c x, A.2.2.1 c = some x → x.1 < 6 ∧ mV A x.1) (hd : mChd A A' p r z exc) :
    ∃ σ', f_X_endByLength (cPut b σ G) b (nI p) exc = rV (cPut b σ' G) ∧ σ'.1 0 = σ.1 0 ∧ (∀ q, q < 2 → σ'.1 1 q = σ.1 1 q) ∧ cRx exc σ' A' ∧ σ'.1 8 = σ.1 8 ∧ σ'.1 9 = σ.1 9 := by
  have hp := hv.lt hok
  have hr2 := mRw_lt _ _ _ _ hrw
  obtain ⟨d1, d2, d3, d4, d5, d6, d7, ⟨n, d8, d9⟩, k, d10, d11⟩ := hd
  have hab : ∀ q, 2 ≤ q → mAb A.2.1 zDp q p = true → A.2.1 q ≠ none := by
    intro q h2 hq
    obtain ⟨x, hx, -⟩ := mAb.closed zDp p r s hrw q hq h2
    rw [hx]; exact Option.some_ne_none _
  have lt : ∀ q, 2 ≤ q → q < 6 → match A.2.1 q with
      | none => σ.1 1 q = -1 ∧ mAb A.2.1 zDp q p = false
      | some x => σ.1 1 q = if mAb A.2.1 zDp q p = true then nI ((x.2.2 : Int) + z).toNat else nI x.2.2 := by
    intro q h2 h6
    have h0 := hl q h2 h6
    rw [hl1]
    cases hx : A.2.1 q with
    | none =>
      rw [hx] at h0
      have hf : mAb A.2.1 zDp q p = false := by
        cases hb : mAb A.2.1 zDp q p with
        | false => rfl
        | true => exact absurd hx (hab q h2 hb)
      simp only at h0 ⊢
      rw [hf, if_neg (by decide)]; exact ⟨h0, rfl⟩
    | some x =>
      rw [hx] at h0
      simp only at h0 ⊢
      by_cases hb : mAb A.2.1 zDp q p = true
      · rw [if_pos hb, if_pos hb, h0, nI_int ((hlen q x hx).2 hb)]
      · rw [if_neg hb, if_neg hb, h0]
  have hhl : cHl (σ.1 1) A.2.1 := by
    intro q h2 h6
    have := lt q h2 h6
    cases hx : A.2.1 q with
    | none => rw [hx] at this; exact ⟨fun _ => rfl, fun _ => this.1⟩
    | some x =>
      rw [hx] at this
      simp only at this
      have hb := hlen q x hx
      refine ⟨fun e => ?_, fun e => by cases e⟩
      rw [this] at e
      split at e
      · exact absurd e (nI_ne1 (by omega))
      · exact absurd e (nI_ne1 (by omega))
  have ce : ∀ q, 2 ≤ q → q < 6 → (if eC A.2.1 r p q = true then 1 else 0) + o1 (A'.2.1 q) = o1 (A.2.1 q) := by
    intro q h2 h6
    cases hx : A.2.1 q with
    | none =>
      rw [d3 q hx]
      have : eC A.2.1 r p q = false := by unfold eC; rw [hx]; rfl
      rw [this]; rfl
    | some x =>
      rw [d4 q x hx]
      unfold eC
      rw [hx]
      by_cases hb : mAb A.2.1 zDp q p = true
      · rw [if_pos hb, hb]; simp [o1]
      · rw [if_neg hb, Bool.eq_false_iff.mpr hb]
        by_cases hr : mRo A.2.1 q = r
        · rw [if_pos hr, decide_eq_true hr]; simp [o1]
        · rw [if_neg hr, decide_eq_false hr]; simp [o1]
  have e1 := eCt_pc ce
  have en : eCt (eC A.2.1 r p) 2 4 = n := by omega
  unfold f_X_endByLength
  rw [c_fa_0_0, c_ob_1, y_endOthers hok hp hv hrw ha h3 hhl, bI_rI]
  generalize hσ1 : cAI σ 1 0 (fun q => if 2 ≤ q ∧ q < 6 ∧ eC A.2.1 r p q = true then -1 else σ.1 1 q) (σ.2 0 + nI (eCt (eC A.2.1 r p) 2 4)) = σ1
  have f1 : σ1.1 1 = fun q => if 2 ≤ q ∧ q < 6 ∧ eC A.2.1 r p q = true then -1 else σ.1 1 q := by rw [← hσ1, cAI_at]
  have fn : ∀ j, j ≠ 1 → σ1.1 j = σ.1 j := fun j hj => by rw [← hσ1, cAI_ne hj]
  have fi : σ1.2 0 = σ.2 0 + nI n := by rw [← hσ1, cAI_i, en]
  have fj : ∀ j, j ≠ 0 → σ1.2 j = σ.2 j := fun j hj => by rw [← hσ1, cAI_ine hj]
  have hro : ∀ x, mV A x → x < 6 → σ.1 3 x = nI (mRo A.2.1 x) ∧ mRo A.2.1 x < 2 := by
    intro x hx h6
    obtain ⟨r1, s1, e⟩ := hok.rw' hx
    rw [mRo_of e]
    exact ⟨(h3 x r1 s1 h6 e).1, mRw_lt _ _ _ _ e⟩
  rw [y_byLengthL (C := A.2.2.1) (R := mRo A.2.1) hp hr2 3 zFu 0 σ1 (by omega) (by unfold zFu; omega) (by rw [fn 3 (by decide)]; exact (h3 p r s hp hrw).1) (fun c _ hc3 => by
    rw [fn 6 (by decide), fn 7 (by decide), fn 3 (by decide)]
    exact ⟨hc.on hc3 (fun x hx => (hcv c x hx).1), fun x hx => hro x.1 (hcv c x hx).2 (hcv c x hx).1⟩)]
  have cc : ∀ c, c < 3 → (if eUc (mRo A.2.1) r exc A.2.2.1 c = true then 1 else 0) + o1 (A'.2.2.1 c) = o1 (A.2.2.1 c) := by
    intro c hc3
    rw [d5 c hc3]
    unfold eUc mCf
    by_cases he : nI c = exc
    · rw [if_pos he, decide_eq_true he]; simp
    · rw [if_neg he, decide_eq_false he]
      cases hx : A.2.2.1 c with
      | none => simp
      | some x =>
        simp only
        by_cases hr : mRo A.2.1 x.1 = r
        · by_cases h2 : x.1 < 2
          · simp [hr, h2, o1]
          · simp [hr, h2, o1]
        · simp [hr, o1]
  have e2 := eCt_kk cc
  have ek : eCt (eUc (mRo A.2.1) r exc A.2.2.1) 0 3 = k := by omega
  refine ⟨_, rfl, by rw [cAI_ne (by decide), fn 0 (by decide)], fun q hq => ?_, ⟨?_, ?_, ?_, ?_, ?_⟩, by rw [cAI_ne (by decide), fn 8 (by decide)], by rw [cAI_ne (by decide), fn 9 (by decide)]⟩
  · rw [cAI_ne (by decide), f1]
    exact if_neg (by omega)
  · rw [cAI_ne (by decide), f1]
    intro q h2 h6
    have h0 := lt q h2 h6
    cases hx : A.2.1 q with
    | none =>
      rw [hx] at h0
      rw [d3 q hx]
      simp only
      have : eC A.2.1 r p q = false := by unfold eC; rw [hx]; rfl
      rw [this, if_neg (fun z => absurd z.2.2 (by decide))]; exact h0.1
    | some x =>
      rw [hx] at h0
      simp only at h0
      rw [d4 q x hx]
      simp only [h0]
      unfold eC
      rw [hx]
      by_cases hb : mAb A.2.1 zDp q p = true
      · simp [hb]
      · by_cases hr : mRo A.2.1 q = r
        · simp [hb, hr, h2, h6]
        · simp [hb, hr]
  · rw [cAI_ne (by decide), fn 2 (by decide)]
    refine ⟨ha.1, fun q x hx => ?_⟩
    cases hy : A.2.1 q with
    | none => rw [d3 q hy] at hx; cases hx
    | some y =>
      rw [ha.2 q y hy]
      rw [d4 q y hy] at hx
      split at hx
      · cases hx; rfl
      · split at hx
        · cases hx
        · cases hx; rfl
  · rw [cAI_ne (by decide), cAI_ne (by decide), fn 3 (by decide), fn 4 (by decide)]
    intro q r1 s1 h6 hq
    refine h3 q r1 s1 h6 ?_
    rw [← hq]
    -- the way from q to its row is as it was
    have key : ∀ (d q : Nat) (v : Nat × Nat), mRw A'.2.1 d q = some v → mRw A.2.1 d q = some v := by
      intro d
      induction d with
      | zero => intro q v h; cases h
      | succ d ih =>
        intro q v h
        unfold mRw at h ⊢
        by_cases h2 : q < 2
        · rw [if_pos h2] at h ⊢; exact h
        · rw [if_neg h2] at h ⊢
          cases hy : A.2.1 q with
          | none => rw [d3 q hy] at h; cases h
          | some y =>
            obtain ⟨o, f, l⟩ := y
            have hx' : ∃ l', A'.2.1 q = some (o, f, l') := by
              have h9 := d4 q _ hy
              cases hz' : A'.2.1 q with
              | none => rw [hz'] at h; cases h
              | some w =>
                rw [hz'] at h9
                split at h9
                · exact ⟨_, h9⟩
                · split at h9
                  · cases h9
                  · exact ⟨_, h9⟩
            obtain ⟨l', hx'⟩ := hx'
            rw [hx'] at h
            simp only at h ⊢
            cases hr : mRw A'.2.1 d o with
            | none => rw [hr] at h; cases h
            | some u => rw [ih o u hr]; rw [hr] at h; exact h
    exact (key zDp q _ hq).trans hq.symm
  · rw [cAI_at, cAI_ne (by decide), cAI_ne (by decide), cAI_ne (by decide), fn 6 (by decide), fn 7 (by decide), fn 8 (by decide), fn 9 (by decide)]
    intro c hc3
    have h0 := hc c hc3
    rw [d5 c hc3]
    simp only [Nat.zero_le, hc3, true_and, if_true]
    unfold eU mCf
    by_cases he : nI c = exc
    · rw [if_pos he, if_pos he]; exact h0
    · rw [if_neg he, if_neg he]
      cases hx : A.2.2.1 c with
      | none => rw [hx] at h0; exact h0
      | some x =>
        rw [hx] at h0
        simp only at h0 ⊢
        by_cases hr : mRo A.2.1 x.1 = r
        · rw [if_pos hr, if_pos hr]
          by_cases h2 : x.1 < 2
          · rw [if_pos h2, if_pos h2]
            exact ⟨by simp only; rw [if_neg (by decide)], h0.2⟩
          · rw [if_neg h2, if_neg h2]
        · rw [if_neg hr, if_neg hr]; exact h0
  · refine ⟨?_, ?_, ?_, ?_, ?_⟩
    · rw [cAI_ine (by decide), fi, hi.1, d8]
    · rw [cAI_i, fj 1 (by decide), ek, hi.2.1, d10]
    · rw [cAI_ine (by decide), fj 2 (by decide), hi.2.2.1, d7 1 (by decide) (by decide)]
    · rw [cAI_ine (by decide), fj 3 (by decide), hi.2.2.2.1, d7 4 (by decide) (by decide)]
    · rw [cAI_ine (by decide), fj 4 (by decide), hi.2.2.2.2, d7 5 (by decide) (by decide)]
end Chg
