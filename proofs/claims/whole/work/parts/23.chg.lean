-- a change of length keeps the invariant, and the class's cells tell of it
/-- the invariant, but for where the cursor exc stands (it is on p) -/
def mInw (exc : Int32) (p : Nat) (A : mS) : Prop :=
  mOk A.2.1 ∧ mFit A ∧ (∀ r, r < 2 → (A.1 r).length ≤ 31) ∧ ∀ c x, A.2.2.1 c = some x → c < 3 ∧ x.1 < 6 ∧ mV A x.1 ∧ (nI c = exc → x.1 = p)
theorem nI_nx {c : Nat} (hc : c < 3) : nI c ≠ -1 := nI_ne1 (by omega)
theorem mInv.w {m : Nat} {A : mS} (h : mInv m A) (p : Nat) : mInw (-1) p A :=
  ⟨h.1, h.2.1, fun r hr => (h.2.2.1 r hr).1, fun c x hx => ⟨(h.2.2.2.1 c x hx).1, (h.2.2.2.1 c x hx).2.1, (h.2.2.2.1 c x hx).2.2.1, fun e => absurd e (nI_nx (h.2.2.2.1 c x hx).1)⟩⟩
theorem mAb_len {A : mS} (hf : mFit A) : ∀ (d p q r s : Nat), mRw A.2.1 d p = some (r, s) → mAb A.2.1 d q p = true → mLen A p ≤ mLen A q
  | 0, _, _, _, _, h, _ => by cases h
  | d + 1, p, q, r, s, h, hq => by
    unfold mRw at h
    rw [mAb_s] at hq
    by_cases hqp : q = p
    · rw [hqp]; exact Nat.le_refl _
    · rw [if_neg hqp] at hq
      by_cases h2 : p < 2
      · rw [if_pos h2] at hq; cases hq
      · rw [if_neg h2] at h hq
        cases hx : A.2.1 p with
        | none => rw [hx] at h; cases h
        | some x =>
          have hf1 := hf p x hx
          rw [hx] at h hq
          obtain ⟨o, f, l⟩ := x
          simp only at h hq hf1
          cases hr : mRw A.2.1 d o with
          | none => rw [hr] at h; cases h
          | some v =>
            have ih := mAb_len hf d o q v.1 v.2 hr hq
            rw [mLen_part h2 hx]
            dsimp only
            omega
theorem mAb_ro {P : mP} (hok : mOk P) {p : Nat} (hv : p < 2 ∨ P p ≠ none) : ∀ (d q r s : Nat), mRw P d p = some (r, s) → mAb P d q p = true → (q < 2 ∨ P q ≠ none) ∧ mRo P q = r := by
  have key : ∀ (d p q r s : Nat), (p < 2 ∨ P p ≠ none) → mRw P d p = some (r, s) → mAb P d q p = true → (q < 2 ∨ P q ≠ none) ∧ mRo P q = r := by
    intro d
    induction d with
    | zero => intro p q r s _ h; cases h
    | succ d ih =>
      intro p q r s hv h hq
      have hro : mRo P p = r := by
        obtain ⟨r1, s1, e⟩ := hok.rw' hv
        have e1 : ∀ (k d : Nat), mRw P d p = some (r, s) → mRw P (d + k) p = some (r, s) := by
          intro k
          induction k with
          | zero => intro d h; exact h
          | succ k ih => intro d h; rw [show d + (k + 1) = d + k + 1 from rfl]; exact mRw_mono _ _ _ (ih d h)
        have e2 : ∀ (k d : Nat), mRw P d p = some (r1, s1) → mRw P (d + k) p = some (r1, s1) := by
          intro k
          induction k with
          | zero => intro d h; exact h
          | succ k ih => intro d h; rw [show d + (k + 1) = d + k + 1 from rfl]; exact mRw_mono _ _ _ (ih d h)
        have a := e1 zDp (d + 1) h
        have c := e2 (d + 1) zDp e
        rw [Nat.add_comm] at a
        rw [a] at c
        have : r = r1 := by cases c; rfl
        rw [this]; exact mRo_of e
      rw [mAb_s] at hq
      by_cases hqp : q = p
      · rw [hqp]; exact ⟨hv, hro⟩
      · rw [if_neg hqp] at hq
        unfold mRw at h
        by_cases h2 : p < 2
        · rw [if_pos h2] at hq; cases hq
        · rw [if_neg h2] at h hq
          cases hx : P p with
          | none => rw [hx] at h; cases h
          | some x =>
            have hcl := hok.cl p x hx
            rw [hx] at h hq
            obtain ⟨o, f, l⟩ := x
            simp only at h hq hcl
            cases hr : mRw P d o with
            | none => rw [hr] at h; cases h
            | some v =>
              obtain ⟨r', s'⟩ := v
              rw [hr] at h
              have : r' = r := by cases h; rfl
              rw [← this]
              exact ih o q r' s' hcl hr hq
  exact fun d q r s => key d p q r s hv
theorem mV_rows {A : mS} {r : Nat} {ts : List (Nat × Nat × Nat)} {p : Nat} : mV (mRows A r ts) p ↔ mV A p := Iff.rfl
theorem mLen_rows {A : mS} {r : Nat} {ts : List (Nat × Nat × Nat)} {p : Nat} : mLen (mRows A r ts) p = if p = r ∧ p < 2 then ts.length else mLen A p := by
  unfold mLen
  by_cases h2 : p < 2
  · rw [if_pos h2, if_pos h2]
    show (if p = r then ts else A.1 p).length = _
    by_cases e : p = r
    · rw [if_pos e, if_pos ⟨e, h2⟩]
    · rw [if_neg e, if_neg (fun q => e q.1)]
  · rw [if_neg h2, if_neg h2, if_neg (fun q => h2 q.2)]; rfl
theorem mChd.of {exc : Int32} {A : mS} {p r s : Nat} {z : Int} {ts : List (Nat × Nat × Nat)} (h : mInw exc p A) (hv : mV A p) (hrw : mRw A.2.1 zDp p = some (r, s)) (hz : z ≠ 0) : mChd (mRows A r ts) (mChange (mRows A r ts) p z exc) p r z exc :=
  mChange_char (A := mRows A r ts) h.1 hrw hv hz (fun c x hx => ⟨(h.2.2.2 c x hx).1, (h.2.2.2 c x hx).2.2.1, (h.2.2.2 c x hx).2.2.2⟩)
theorem mInv.chg {m : Nat} {exc : Int32} {A : mS} {p r s : Nat} {z : Int} {ts : List (Nat × Nat × Nat)} (h : mInw exc p A) (hv : mV A p) (hrw : mRw A.2.1 zDp p = some (r, s)) (hz : z ≠ 0) (hl : (ts.length : Int) = (A.1 r).length + z) (hl31 : ts.length ≤ 31) (hpos : 0 ≤ (mLen A p : Int) + z)
    (ht : ∀ t, t ∈ ts → mTok m t) (ht2 : ∀ r' t, r' < 2 → t ∈ A.1 r' → mTok m t) (hm : A.2.2.2 1 = nI m) (hm6 : m ≤ 600)
    (hc : ∀ c x, A.2.2.1 c = some x → if nI c = exc then x.2.2.2 = 0 ∧ (x.2.1 : Int) ≤ mLen A p + z ∧ x.2.2.1 = -1 else mCok A x) : mInv m (mChange (mRows A r ts) p z exc) := by
  obtain ⟨d1, d2, d3, d4, d5, d6, d7, -, -⟩ := mChd.of (ts := ts) h hv hrw hz
  have hr := mRw_lt _ _ _ _ hrw
  generalize mChange (mRows A r ts) p z exc = A' at d1 d2 d3 d4 d5 d6 d7 ⊢
  have d4' : ∀ q x, A.2.1 q = some x → A'.2.1 q = if mAb A.2.1 zDp q p = true then some (x.1, x.2.1, ((x.2.2 : Int) + z).toNat) else if mRo A.2.1 q = r then none else some x := d4
  have hp := mRo_of hrw
  -- lengths now
  have la : ∀ q, mAb A.2.1 zDp q p = true → (mLen A' q : Int) = mLen A q + z := by
    intro q hq
    have hle := mAb_len h.2.1 zDp p q r s hrw hq
    by_cases h2 : q < 2
    · have e : q = r := by
        have := mAb_row zDp p r s hrw q h2
        rw [hq] at this
        exact of_decide_eq_true this.symm
      rw [mLen_row h2, mLen_row h2, d1]
      show ((if q = r then ts else A.1 q).length : Int) = _
      rw [if_pos e, e]; exact hl
    · obtain ⟨x, hx, -⟩ := mAb.closed zDp p r s hrw q hq (by omega)
      have e := d4' q x hx
      rw [if_pos hq] at e
      rw [mLen_part h2 e, mLen_part h2 hx]
      rw [mLen_part h2 hx] at hle
      dsimp only
      omega
  have lb : ∀ q, mV A q → mRo A.2.1 q ≠ r → mLen A' q = mLen A q ∧ mV A' q := by
    intro q hq hro
    by_cases h2 : q < 2
    · rw [mLen_row h2, mLen_row h2, d1]
      refine ⟨?_, Or.inl h2⟩
      show (if q = r then ts else A.1 q).length = _
      have hqr : mRo A.2.1 q = q := mRo_of (b := 0) (by show mRw A.2.1 (7 + 1) q = _; unfold mRw; rw [if_pos h2])
      rw [if_neg (fun e => hro (hqr.trans e))]
    · rcases hq with k | k
      · exact absurd k h2
      · cases hx : A.2.1 q with
        | none => exact absurd hx k
        | some x =>
          have e := d4' q x hx
          have hab : ¬ mAb A.2.1 zDp q p = true := fun w => hro (mAb_ro h.1 hv zDp q r s hrw w).2
          rw [if_neg hab, if_neg hro] at e
          rw [mLen_part h2 e, mLen_part h2 hx]
          exact ⟨rfl, Or.inr (by rw [e]; exact Option.some_ne_none _)⟩
  refine ⟨d2, fun q x' hx' => ?_, fun r' hr' => ?_, fun c x' hx' => ?_, by rw [d7 1 (by omega) (by omega)]; exact hm, hm6⟩
  · cases hx : A.2.1 q with
    | none => rw [d3 q hx] at hx'; cases hx'
    | some x =>
      have e := d4' q x hx
      have hf := h.2.1 q x hx
      have h2 := (h.1.1 q x hx).1
      by_cases hab : mAb A.2.1 zDp q p = true
      · rw [if_pos hab, hx'] at e
        obtain ⟨y, hy, hy2⟩ := mAb.closed zDp p r s hrw q hab h2
        have : y = x := by rw [hx] at hy; cases hy; rfl
        rw [this] at hy2
        have l1 := la x.1 hy2
        have l2 := mAb_len h.2.1 zDp p q r s hrw hab
        rw [mLen_part (by omega) hx] at l2
        have e1 := Option.some.inj e
        rw [e1]
        dsimp only
        omega
      · rw [if_neg hab] at e
        by_cases hro : mRo A.2.1 q = r
        · rw [if_pos hro, hx'] at e; cases e
        · rw [if_neg hro, hx'] at e
          have e1 := Option.some.inj e
          rw [e1]
          have hv1 : mV A x.1 := h.1.cl q x hx
          have hro1 : mRo A.2.1 x.1 ≠ r := by
            obtain ⟨r1, s1, h1⟩ := h.1.rw' hv1
            have := mRo_of (mRw_of h.1 hx h1)
            rw [mRo_of h1]
            intro e2
            exact hro (this.trans e2)
          rw [(lb x.1 hv1 hro1).1]; exact hf
  · rw [d1]
    show (if r' = r then ts else A.1 r').length ≤ 31 ∧ ∀ t, t ∈ (if r' = r then ts else A.1 r') → mTok m t
    by_cases e : r' = r
    · rw [if_pos e]; exact ⟨hl31, ht⟩
    · rw [if_neg e]; exact ⟨h.2.2.1 r' hr', fun t => ht2 r' t hr'⟩
  · have hc3 : c < 3 := by
      by_cases hc3 : c < 3
      · exact hc3
      · rw [d6 c (by omega)] at hx'
        exact (h.2.2.2 c x' hx').1
    refine ⟨hc3, ?_⟩
    rw [d5 c hc3] at hx'
    unfold mCf at hx'
    by_cases he : nI c = exc
    · rw [if_pos he] at hx'
      have hx : A.2.2.1 c = some x' := hx'
      have k := hc c x' hx
      rw [if_pos he] at k
      have hw := h.2.2.2 c x' hx
      have hxp := hw.2.2.2 he
      have l1 := la p (mAb_refl _ _)
      refine ⟨hw.2.1, ?_, Or.inl ⟨k.1, ?_, Or.inl k.2.2⟩⟩
      · rw [hxp]
        rcases hv with w | w
        · exact Or.inl w
        · cases hy : A.2.1 p with
          | none => exact absurd hy w
          | some y =>
            have e := d4' p y hy
            rw [if_pos (mAb_refl _ _)] at e
            exact Or.inr (by rw [e]; exact Option.some_ne_none _)
      · rw [hxp]; omega
    · rw [if_neg he] at hx'
      have hx'' : (match A.2.2.1 c with
        | some x => if mRo A.2.1 x.1 = r then (if x.1 < 2 then some (x.1, x.2.1, x.2.2.1, nI 1) else none) else some x
        | none => none) = some x' := hx'
      cases hx : A.2.2.1 c with
      | none => rw [hx] at hx''; cases hx''
      | some x =>
        rw [hx] at hx''
        simp only at hx''
        have k := hc c x hx
        rw [if_neg he] at k
        by_cases hro : mRo A.2.1 x.1 = r
        · rw [if_pos hro] at hx''
          by_cases h2 : x.1 < 2
          · rw [if_pos h2] at hx''
            rw [← Option.some.inj hx'']
            refine ⟨k.1, Or.inl h2, Or.inr ⟨rfl, h2, ?_⟩⟩
            dsimp only
            rcases k.2.2 with w | w
            · have hl := h.2.2.1 x.1 h2
              have := w.2.1
              rw [mLen_row h2] at this
              omega
            · exact w.2.2
          · rw [if_neg h2] at hx''; cases hx''
        · rw [if_neg hro] at hx''
          rw [← Option.some.inj hx'']
          obtain ⟨e1, e2⟩ := lb x.1 k.2.1 hro
          refine ⟨k.1, e2, ?_⟩
          rw [e1]; exact k.2.2
def CRepx (exc : Int32) (σ : cS) (A : mS) : Prop := cTh (σ.1 0) A.1 ∧ cRl σ A ∧ cRx exc σ A
theorem CRepx.of {exc : Int32} {σ : cS} {A : mS} (h : CRep σ A) : CRepx exc σ A :=
  ⟨h.1, h.2.1, h.2.2.1, h.2.2.2.1, h.2.2.2.2.1, fun c hc => by
    have := h.2.2.2.2.2.1 c hc
    cases hx : A.2.2.1 c with
    | none => rw [hx] at this; exact this
    | some x => rw [hx] at this; exact ⟨this.1, this.2.1, fun _ => this.2.2 (nI_nx hc)⟩, h.2.2.2.2.2.2⟩
theorem x_chg {b : Nat} {G : gH} {exc : Int32} {A : mS} {σ : cS} {p r s : Nat} {z : Int} {f' : Nat → Int32} {ts : List (Nat × Nat × Nat)} (h : mInw exc p A) (hR : CRepx exc σ A) (hv : mV A p) (hrw : mRw A.2.1 zDp p = some (r, s)) (hz : z ≠ 0) (hz1 : -100 < z ∧ z < 100)
    (hl : (ts.length : Int) = (A.1 r).length + z) (hl31 : ts.length ≤ 31) (hpos : 0 ≤ (mLen A p : Int) + z) (ho : cOut r (σ.1 0) f') (hs : cSeg f' (31 * r) ts) :
    ∃ σ', f_X_endByLength (cPut b (cArr (cArr σ 0 f') 1 (fun q => if mAb A.2.1 zDp q p = true then σ.1 1 q + Int32.ofInt z else σ.1 1 q)) G) b (nI p) exc = rV (cPut b σ' G) ∧ CRepx exc σ' (mChange (mRows A r ts) p z exc) ∧ σ'.1 8 = σ.1 8 ∧ σ'.1 9 = σ.1 9 := by
  obtain ⟨t1, t2, l1, l2, l3, l4, l5⟩ := hR
  have hr := mRw_lt _ _ _ _ hrw
  have hd := mChd.of (ts := ts) h hv hrw hz
  obtain ⟨σ', e1, e2, e3, e4, e5, e6⟩ := x_endByLength (b := b) (G := G) (A := mRows A r ts) (A' := mChange (mRows A r ts) p z exc) (σ := cArr (cArr σ 0 f') 1 (fun q => if mAb A.2.1 zDp q p = true then σ.1 1 q + Int32.ofInt z else σ.1 1 q)) (l0 := σ.1 1) (s := s) (z := z) (exc := exc)
    h.1 hv hrw hz1 l1 cArr_at (fun q x hx => by
      have hq : mV A q := Or.inr (by show A.2.1 q ≠ none; rw [show A.2.1 q = some x from hx]; exact Option.some_ne_none _)
      have hx' : A.2.1 q = some x := hx
      obtain ⟨r1, s1, h1⟩ := h.1.rw' hq
      have a1 := h.2.1.rw _ _ _ _ h1
      have a2 := h.2.2.1 r1 (mRw_lt _ _ _ _ h1)
      have a3 := mLen_part (A := A) (p := q) (by have := (h.1.1 q x hx').1; omega) hx'
      refine ⟨by omega, fun hab => ?_⟩
      have a4 := mAb_len h.2.1 zDp p q r s hrw hab
      omega) (by rw [cArr_ne (by decide), cArr_ne (by decide)]; exact l2) (by rw [cArr_ne (by decide), cArr_ne (by decide), cArr_ne (by decide), cArr_ne (by decide)]; exact l3)
      (by rw [cArr_ne (by decide), cArr_ne (by decide), cArr_ne (by decide), cArr_ne (by decide), cArr_ne (by decide), cArr_ne (by decide), cArr_ne (by decide), cArr_ne (by decide)]; exact l4) l5 (fun c x hx => ⟨(h.2.2.2 c x hx).2.1, (h.2.2.2 c x hx).2.2.1⟩) hd
  rw [cArr_ne (by decide), cArr_at] at e2
  rw [cArr_ne (by decide), cArr_ne (by decide)] at e5 e6
  refine ⟨σ', e1, ⟨?_, ?_, e4⟩, e5, e6⟩
  · rw [e2, hd.1]
    exact t1.row h.2.2.1 ho hs
  · intro r' hr'
    rw [e3 r' hr', cArr_at, mAb_row zDp p r s hrw r' hr', hd.1]
    show _ = nI ((if r' = r then ts else A.1 r').length)
    by_cases e : r' = r
    · rw [if_pos (decide_eq_true e), if_pos e, t2 r' hr', nI_int (by rw [e]; omega)]
      congr 1
      rw [e]; omega
    · rw [if_neg (by rw [decide_eq_false e]; decide), if_neg e, t2 r' hr']
