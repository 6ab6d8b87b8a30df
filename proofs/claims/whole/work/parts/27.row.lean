-- the class: rows are written without a change of length
theorem CRepx.rows {exc : Int32} {σ : cS} {A : mS} (h : CRepx exc σ A) (hl31 : ∀ r, r < 2 → (A.1 r).length ≤ 31) {r : Nat} {ts : List (Nat × Nat × Nat)} {f' : Nat → Int32} (hl : ts.length = (A.1 r).length) (ho : cOut r (σ.1 0) f') (hs : cSeg f' (31 * r) ts) : CRepx exc (cArr σ 0 f') (mRows A r ts) := by
  refine ⟨?_, fun r' hr' => ?_, h.2.2⟩
  · rw [cArr_at]
    exact h.1.row hl31 ho hs
  · show (cArr σ 0 f').1 1 r' = nI (if r' = r then ts else A.1 r').length
    rw [cArr_ne (by decide), h.2.1 r' hr']
    by_cases e : r' = r
    · rw [if_pos e, hl, e]
    · rw [if_neg e]
theorem mInv.rows {m : Nat} {A : mS} (h : mInv m A) {r : Nat} {ts : List (Nat × Nat × Nat)} (hl : ts.length = (A.1 r).length) (ht : ∀ t, t ∈ ts → mTok m t) : mInv m (mRows A r ts) := by
  have e : ∀ q, mLen (mRows A r ts) q = mLen A q := by
    intro q
    rw [mLen_rows]
    split
    · next k => rw [hl, k.1, mLen_row (by rw [← k.1]; exact k.2)]
    · rfl
  refine ⟨h.1, fun q x hx => by rw [e]; exact h.2.1 q x hx, fun r' hr' => ?_, fun c x hx => ?_, h.2.2.2.2⟩
  · show (if r' = r then ts else A.1 r').length ≤ 31 ∧ ∀ t, t ∈ (if r' = r then ts else A.1 r') → mTok m t
    by_cases er : r' = r
    · rw [if_pos er, hl, ← er]; exact ⟨(h.2.2.1 r' hr').1, ht⟩
    · rw [if_neg er]; exact h.2.2.1 r' hr'
  · have := h.2.2.2.1 c x hx
    refine ⟨this.1, this.2.1, this.2.2.1, ?_⟩
    rw [e]; exact this.2.2.2
section Row
variable {b : Nat} {G : gH}
theorem cSeg.set {f : Nat → Int32} {o i : Nat} {ts : List (Nat × Nat × Nat)} {t : Nat × Nat × Nat} (h : cSeg f o ts) : cSeg (upd f (o + i) (cE t)) o (ts.set i t) := by
  intro j u hu
  rw [List.getElem?_set] at hu
  simp only [upd]
  by_cases e : i = j
  · rw [if_pos e] at hu
    split at hu
    · cases hu; rw [if_pos (by omega)]
    · cases hu
  · rw [if_neg e] at hu
    rw [if_neg (by omega)]; exact h j u hu
theorem x_write {exc : Int32} {σ : cS} {A : mS} (h : CRepx exc σ A) (hok : mOk A.2.1) (hfit : mFit A) (hl31 : ∀ r, r < 2 → (A.1 r).length ≤ 31) {p r s i : Nat} (hv : mV A p) (hr : mRw A.2.1 zDp p = some (r, s)) (hi : i < mLen A p) (t : Nat × Nat × Nat) :
    f_I_write (cPut b σ G) (b + 1) (nI p) (nI i) (cE t) = rV (cPut b (cArr σ 0 (upd (σ.1 0) (31 * r + (s + i)) (cE t))) G) ∧ CRepx exc (cArr σ 0 (upd (σ.1 0) (31 * r + (s + i)) (cE t))) (mRows A r ((A.1 r).set (s + i) t)) := by
  have hr2 := mRw_lt _ _ _ _ hr
  have hp := hv.lt hok
  have hf := hfit.rw _ _ _ _ hr
  have h31 := hl31 r hr2
  obtain ⟨e3, e4⟩ := h.2.2.2.2.1 p r s hp hr
  refine ⟨by rw [y_write hp e3 e4 (by omega), Nat.add_assoc], h.rows hl31 (by rw [List.length_set]) (cOut.up (by omega)) (h.1.seg hr2).set⟩
theorem mLen_rset {A : mS} {r i q : Nat} {t : Nat × Nat × Nat} : mLen (mRows A r ((A.1 r).set i t)) q = mLen A q := by
  rw [mLen_rows]
  split
  · next k => rw [List.length_set, k.1, mLen_row (by rw [← k.1]; exact k.2)]
  · rfl
/-- closing a part -/
theorem x_close {σ : cS} {A A' : mS} {p n : Nat} (h : CRep σ A) (hw : mInw (-1) p A) (h2 : 2 ≤ p) (hp : A.2.1 p ≠ none) (hE : mEnds A A' n) (hch : ∀ q x, A.2.1 q = some x → A'.2.1 q = if mAb A.2.1 zDp p q = true then none else some x) :
    ∃ σ', f_X_close (cPut b σ G) b (nI p) = rI (nI n) (cPut b σ' G) ∧ CRep σ' A' := by
  have hv : mV A p := Or.inr hp
  have hp6 := hv.lt hw.1
  obtain ⟨d1, d2, d3, d4, d5, d6, d7, k, d8, d9⟩ := hE
  obtain ⟨t1, t2, l1, l2, l3, l4, l5⟩ := id h
  have hlen : ∀ q x, A.2.1 q = some x → x.2.2 < 100 := by
    intro q x hx
    have hq : mV A q := Or.inr (by rw [hx]; exact Option.some_ne_none _)
    obtain ⟨r1, s1, h1, -, a1, a2, -⟩ := hw.len hq
    have a3 := mLen_part (A := A) (p := q) (by have := (hw.1.1 q x hx).1; omega) hx
    omega
  have hno : ∀ q, A.2.1 q = none → A'.2.1 q = none := by
    intro q hq
    cases hz : A'.2.1 q with
    | none => rfl
    | some z => rw [d2 q z hz] at hq; cases hq
  have ce : ∀ q, 2 ≤ q → q < 6 → (if eW A.2.1 p q = true then 1 else 0) + o1 (A'.2.1 q) = o1 (A.2.1 q) := by
    intro q _ _
    unfold eW
    cases hx : A.2.1 q with
    | none => rw [hno q hx]; rfl
    | some x =>
      rw [hch q x hx]
      by_cases hb : mAb A.2.1 zDp p q = true
      · simp [hb, o1]
      · simp [hb, o1]
  have en : eCt (eW A.2.1 p) 2 4 = n := by have := eCt_pc ce; omega
  have hcv : ∀ c x, A.2.2.1 c = some x → x.1 < 6 ∧ mV A x.1 := fun c x hx => ⟨(hw.2.2.2 c x hx).2.1, (hw.2.2.2 c x hx).2.2.1⟩
  let T : Nat → Bool := fun q => decide (q < 2) || (A'.2.1 q).isSome
  have hT2 : ∀ q, q < 2 → T q = true := fun q hq => by show (decide (q < 2) || _) = true; rw [decide_eq_true hq]; rfl
  have hTn : ∀ q, 2 ≤ q → T q = (A'.2.1 q).isSome := fun q hq => by show (decide (q < 2) || _) = _; rw [decide_eq_false (by omega)]; rfl
  have cE' : ∀ c, c < 3 → (∀ x, A.2.2.1 c = some x → A'.2.2.1 c = if T x.1 = true then some x else none) ∧ (A.2.2.1 c = none → A'.2.2.1 c = none) := by
    intro c hc
    refine ⟨fun x hx => ?_, fun hx => ?_⟩
    · rcases d3 c with e | ⟨e, y, f1, f2, f3⟩
      · rw [e, hx]
        have : T x.1 = true := by
          by_cases h2' : x.1 < 2
          · exact hT2 _ h2'
          · rw [hTn _ (by omega)]
            have := d4 c x hc (e.trans hx) (by omega) (by
              rcases (hcv c x hx).2 with w | w
              · omega
              · exact w)
            cases hz : A'.2.1 x.1 with
            | none => exact absurd hz this
            | some z => rfl
        rw [if_pos this]
      · rw [hx] at f1
        rw [e, Option.some.inj f1, if_neg (by rw [hTn _ f2, f3]; decide)]
    · rcases d3 c with e | ⟨e, -⟩
      · rw [e, hx]
      · exact e
  have cc : ∀ c, c < 3 → (if eX T A.2.2.1 c = true then 1 else 0) + o1 (A'.2.2.1 c) = o1 (A.2.2.1 c) := by
    intro c hc
    unfold eX
    cases hx : A.2.2.1 c with
    | none => rw [(cE' c hc).2 hx]; rfl
    | some x =>
      rw [(cE' c hc).1 x hx]
      cases hT : T x.1 <;> simp [hT, o1]
  have ek : eCt (eX T A.2.2.1) 0 3 = k := by have := eCt_kk cc; omega
  have hth : mIsL A (nI p) := ⟨p, hp6, rfl, hv⟩
  have lt : ∀ q, 2 ≤ q → q < 6 → match A'.2.1 q with
      | none => (if 2 ≤ q ∧ q < 6 ∧ eW A.2.1 p q = true then (-1 : Int32) else σ.1 1 q) = -1
      | some x => (if 2 ≤ q ∧ q < 6 ∧ eW A.2.1 p q = true then (-1 : Int32) else σ.1 1 q) = nI x.2.2 := by
    intro q h2' h6
    have h0 := l1 q h2' h6
    unfold eW
    cases hx : A.2.1 q with
    | none =>
      rw [hx] at h0
      rw [hno q hx]
      simp only at h0 ⊢
      rw [h0]; split <;> rfl
    | some x =>
      rw [hx] at h0
      rw [hch q x hx]
      simp only at h0
      by_cases hb : mAb A.2.1 zDp p q = true
      · simp [hb, h2', h6]
      · simp [hb, h0]
  unfold f_X_close f_X_needPart
  rw [c_ob_0, if_neg (nI_nlt (by omega) (by omega)), c_fa_0_0, c_ob_1, y_isThere (t := true) ⟨fun q => absurd hth ((CRepx.there h hw).mp q), fun q => (by cases q)⟩, bI_rI, mB_if, if_pos rfl, bV_rV, c_fa_0_0, c_ob_1, y_endWithin hw.1 hp6 l2 (l1.hl hlen), bI_rI, en]
  rw [y_closeL (C := A.2.2.1) (T := T) 3 zFu 0 _ (by omega) (by unfold zFu; omega) (fun c _ hc3 => by
    rw [cAI_ne (by decide), cAI_ne (by decide)]
    exact l4.on hc3 (fun x hx => (hcv c x hx).1)) (fun q hq => by
    rw [cAI_at]
    by_cases h2' : q < 2
    · rw [hT2 q h2', if_neg (by omega), t2 q h2']
      exact ⟨fun z => absurd z (nI_ne1 (by have := hw.2.2.1 q h2'; omega)), fun z => by cases z⟩
    · rw [hTn q (by omega)]
      have := lt q (by omega) hq
      cases hz : A'.2.1 q with
      | none => rw [hz] at this; simp only at this; rw [this]; exact ⟨fun _ => rfl, fun _ => rfl⟩
      | some z =>
        rw [hz] at this
        simp only at this
        rw [this]
        exact ⟨fun w => absurd w (nI_ne1 (by have := hlen q z (d2 q z hz); omega)), fun w => by cases w⟩)]
  refine ⟨_, rfl, ?_, ?_, ?_, ?_, ?_, ?_, ?_⟩
  · rw [cAI_ne (by decide), cAI_ne (by decide), d1]; exact t1
  · intro r' hr'
    rw [cAI_ne (by decide), cAI_at, d1]
    show (if _ then _ else _) = _
    rw [if_neg (by omega)]; exact t2 r' hr'
  · rw [cAI_ne (by decide), cAI_at]
    exact lt
  · rw [cAI_ne (by decide), cAI_ne (by decide)]
    exact ⟨l2.1, fun q x hx => l2.2 q x (d2 q x hx)⟩
  · rw [cAI_ne (by decide), cAI_ne (by decide), cAI_ne (by decide), cAI_ne (by decide)]
    intro q r1 s1 h6 hq
    refine l3 q r1 s1 h6 (mRw_keep hno (fun q x hx y hy => ?_) zDp q _ hq)
    have := d2 q y hy
    rw [hx] at this
    cases this
    exact ⟨rfl, rfl⟩
  · rw [cAI_at, cAI_ne (by decide), cAI_ne (by decide), cAI_ne (by decide), cAI_ne (by decide), cAI_ne (by decide), cAI_ne (by decide), cAI_ne (by decide)]
    intro c hc3
    have h0 := l4 c hc3
    simp only [Nat.zero_le, hc3, true_and]
    cases hx : A.2.2.1 c with
    | none =>
      have he : eX T A.2.2.1 c = false := by unfold eX; rw [hx]
      rw [hx] at h0
      rw [(cE' c hc3).2 hx, he]
      exact h0
    | some x =>
      have he : eX T A.2.2.1 c = !T x.1 := by unfold eX; rw [hx]
      rw [hx] at h0
      rw [(cE' c hc3).1 x hx, he]
      by_cases hT : T x.1 = true
      · rw [if_pos hT, hT]; exact h0
      · rw [if_neg hT, Bool.eq_false_iff.mpr hT]; rfl
  · refine ⟨?_, ?_, ?_, ?_, ?_⟩
    · rw [cAI_ine (by decide), cAI_i, l5.1, d6]
    · rw [cAI_i, cAI_ine (by decide), ek, l5.2.1, d8]
    · rw [cAI_ine (by decide), cAI_ine (by decide), l5.2.2.1, d5 1 (by decide) (by decide)]
    · rw [cAI_ine (by decide), cAI_ine (by decide), l5.2.2.2.1, d5 4 (by decide) (by decide)]
    · rw [cAI_ine (by decide), cAI_ine (by decide), l5.2.2.2.2, d5 5 (by decide) (by decide)]
end Row
