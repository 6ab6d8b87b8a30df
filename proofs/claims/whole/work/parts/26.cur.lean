-- the class: cursors and parts
def mSetC (A : mS) (c : Nat) (y : Nat × Nat × Int32 × Int32) : mS := (A.1, A.2.1, va_up A.2.2.1 c (some y), A.2.2.2)
def mOpen (A : mS) (q : Nat) (y : Nat × Nat × Nat) : mS := (A.1, va_up A.2.1 q (some y), A.2.2)
def mIsC (A : mS) (x : Int32) : Prop := ∃ c, c < 3 ∧ x = nI c ∧ A.2.2.1 c ≠ none
/-- all on a row has ended, but the way of p -/
def mArd (A A' : mS) (p r n : Nat) : Prop :=
  A'.1 = A.1 ∧ (∀ q, A.2.1 q = none → A'.2.1 q = none) ∧ (∀ q x, A.2.1 q = some x → A'.2.1 q = if mRo A.2.1 q = r ∧ mAb A.2.1 zDp q p = false then none else some x) ∧
  (∀ c, A.2.2.1 c = none → A'.2.2.1 c = none) ∧ (∀ c x, A.2.2.1 c = some x → A'.2.2.1 c = if mRo A.2.1 x.1 = r then none else some x) ∧ (∀ j, j ≠ 2 → j ≠ 3 → A'.2.2.2 j = A.2.2.2 j) ∧
  A'.2.2.2 2 = A.2.2.2 2 + nI n ∧ n + mPc A'.2.1 = mPc A.2.1 ∧ ∃ k, A'.2.2.2 3 = A.2.2.2 3 + nI k ∧ k + mKk A'.2.2.1 = mKk A.2.2.1
theorem mRw_keep {P P' : mP} (h0 : ∀ q, P q = none → P' q = none) (h1 : ∀ q x, P q = some x → ∀ y, P' q = some y → y.1 = x.1 ∧ y.2.1 = x.2.1) : ∀ (d q : Nat) (v : Nat × Nat), mRw P' d q = some v → mRw P d q = some v
  | 0, _, _, h => by cases h
  | d + 1, q, v, h => by
    unfold mRw at h ⊢
    by_cases h2 : q < 2
    · rw [if_pos h2] at h ⊢; exact h
    · rw [if_neg h2] at h ⊢
      cases hy : P q with
      | none => rw [h0 q hy] at h; cases h
      | some y =>
        cases hz : P' q with
        | none => rw [hz] at h; cases h
        | some w =>
          have e := h1 q y hy w hz
          obtain ⟨o, f, l⟩ := y
          obtain ⟨o', f', l'⟩ := w
          simp only at e
          obtain ⟨rfl, rfl⟩ := e
          rw [hz] at h
          simp only at h ⊢
          cases hr : mRw P' d o' with
          | none => rw [hr] at h; cases h
          | some u => rw [mRw_keep h0 h1 d o' u hr]; rw [hr] at h; exact h
section Cur
variable {b : Nat} {G : gH} {A : mS} {σ : cS}
theorem x_endAround {A' : mS} {p r s n : Nat} (h : CRep σ A) (hok : mOk A.2.1) (hlen : ∀ q x, A.2.1 q = some x → x.2.2 < 100) (hcv : ∀ c x, A.2.2.1 c = some x → x.1 < 6 ∧ mV A x.1) (hv : mV A p) (hr : mRw A.2.1 zDp p = some (r, s)) (hd : mArd A A' p r n) :
    ∃ σ', f_X_endAround (cPut b σ G) b (nI p) = rI (nI n) (cPut b σ' G) ∧ CRep σ' A' := by
  have hp := hv.lt hok
  have hr2 := mRw_lt _ _ _ _ hr
  obtain ⟨d1, d2, d3, d4, d5, d6, d7, d8, k, d9, d10⟩ := hd
  obtain ⟨t1, t2, l1, l2, l3, l4, l5⟩ := h
  have ce : ∀ q, 2 ≤ q → q < 6 → (if eC A.2.1 r p q = true then 1 else 0) + o1 (A'.2.1 q) = o1 (A.2.1 q) := by
    intro q h2 h6
    cases hx : A.2.1 q with
    | none =>
      rw [d2 q hx]
      have : eC A.2.1 r p q = false := by unfold eC; rw [hx]; rfl
      rw [this]; rfl
    | some x =>
      rw [d3 q x hx]
      unfold eC
      rw [hx]
      by_cases hb : mAb A.2.1 zDp q p = true
      · simp [hb, o1]
      · by_cases hh : mRo A.2.1 q = r
        · simp [hb, hh, o1]
        · simp [hb, hh, o1]
  have en : eCt (eC A.2.1 r p) 2 4 = n := by have := eCt_pc ce; omega
  have hro : ∀ x, mV A x → x < 6 → σ.1 3 x = nI (mRo A.2.1 x) ∧ mRo A.2.1 x < 2 := by
    intro x hx h6
    obtain ⟨r1, s1, e⟩ := hok.rw' hx
    rw [mRo_of e]
    exact ⟨(l3 x r1 s1 h6 e).1, mRw_lt _ _ _ _ e⟩
  have cc : ∀ c, c < 3 → (if cRr (mRo A.2.1) r A.2.2.1 c = true then 1 else 0) + o1 (A'.2.2.1 c) = o1 (A.2.2.1 c) := by
    intro c hc3
    unfold cRr
    cases hx : A.2.2.1 c with
    | none => rw [d4 c hx]; rfl
    | some x =>
      rw [d5 c x hx]
      by_cases hh : mRo A.2.1 x.1 = r
      · simp [hh, o1]
      · simp [hh, o1]
  have ek : eCt (cRr (mRo A.2.1) r A.2.2.1) 0 3 = k := by have := eCt_kk cc; omega
  unfold f_X_endAround
  rw [c_fa_0_0, c_ob_1, y_endOthers hok hp hv hr l2 l3 (l1.hl hlen), bI_rI]
  generalize hσ1 : cAI σ 1 0 (fun q => if 2 ≤ q ∧ q < 6 ∧ eC A.2.1 r p q = true then -1 else σ.1 1 q) (σ.2 0 + nI (eCt (eC A.2.1 r p) 2 4)) = σ1
  have f1 : σ1.1 1 = fun q => if 2 ≤ q ∧ q < 6 ∧ eC A.2.1 r p q = true then -1 else σ.1 1 q := by rw [← hσ1, cAI_at]
  have fn : ∀ j, j ≠ 1 → σ1.1 j = σ.1 j := fun j hj => by rw [← hσ1, cAI_ne hj]
  have fi : σ1.2 0 = σ.2 0 + nI n := by rw [← hσ1, cAI_i, en]
  have fj : ∀ j, j ≠ 0 → σ1.2 j = σ.2 j := fun j hj => by rw [← hσ1, cAI_ine hj]
  rw [y_aroundL (C := A.2.2.1) (R := mRo A.2.1) hp hr2 3 zFu 0 σ1 (by omega) (by unfold zFu; omega) (by rw [fn 3 (by decide)]; exact (l3 p r s hp hr).1) (fun c _ hc3 => by
    rw [fn 6 (by decide), fn 7 (by decide), fn 3 (by decide)]
    exact ⟨l4.on hc3 (fun x hx => (hcv c x hx).1), fun x hx => hro x.1 (hcv c x hx).2 (hcv c x hx).1⟩), en]
  refine ⟨_, rfl, ?_, ?_, ?_, ?_, ?_, ?_, ?_⟩
  · rw [cAI_ne (by decide), fn 0 (by decide), d1]; exact t1
  · intro r' hr'
    rw [cAI_ne (by decide), f1, d1]
    show (if _ then _ else _) = _
    rw [if_neg (by omega)]; exact t2 r' hr'
  · rw [cAI_ne (by decide), f1]
    intro q h2 h6
    have h0 := l1 q h2 h6
    cases hx : A.2.1 q with
    | none =>
      rw [hx] at h0
      rw [d2 q hx]
      simp only at h0 ⊢
      have : eC A.2.1 r p q = false := by unfold eC; rw [hx]; rfl
      rw [this, if_neg (fun z => absurd z.2.2 (by decide))]; exact h0
    | some x =>
      rw [hx] at h0
      simp only at h0
      rw [d3 q x hx]
      simp only [h0]
      unfold eC
      rw [hx]
      by_cases hb : mAb A.2.1 zDp q p = true
      · simp [hb]
      · by_cases hh : mRo A.2.1 q = r
        · simp [hb, hh, h2, h6]
        · simp [hb, hh]
  · rw [cAI_ne (by decide), fn 2 (by decide)]
    refine ⟨l2.1, fun q x hx => ?_⟩
    cases hy : A.2.1 q with
    | none => rw [d2 q hy] at hx; cases hx
    | some y =>
      rw [l2.2 q y hy]
      rw [d3 q y hy] at hx
      split at hx
      · cases hx
      · cases hx; rfl
  · rw [cAI_ne (by decide), cAI_ne (by decide), fn 3 (by decide), fn 4 (by decide)]
    intro q r1 s1 h6 hq
    refine l3 q r1 s1 h6 (mRw_keep d2 (fun q x hx y hy => ?_) zDp q _ hq)
    rw [d3 q x hx] at hy
    split at hy
    · cases hy
    · cases hy; exact ⟨rfl, rfl⟩
  · rw [cAI_at, cAI_ne (by decide), cAI_ne (by decide), cAI_ne (by decide), fn 6 (by decide), fn 7 (by decide), fn 8 (by decide), fn 9 (by decide)]
    intro c hc3
    have h0 := l4 c hc3
    simp only [Nat.zero_le, hc3, true_and, if_true]
    unfold eA
    cases hx : A.2.2.1 c with
    | none => rw [hx] at h0; rw [d4 c hx]; exact h0
    | some x =>
      rw [hx] at h0
      rw [d5 c x hx]
      simp only at h0 ⊢
      by_cases hh : mRo A.2.1 x.1 = r
      · rw [if_pos hh, if_pos hh]
      · rw [if_neg hh, if_neg hh]; exact h0
  · refine ⟨?_, ?_, ?_, ?_, ?_⟩
    · rw [cAI_ine (by decide), fi, l5.1, d7]
    · rw [cAI_i, fj 1 (by decide), ek, l5.2.1, d9]
    · rw [cAI_ine (by decide), fj 2 (by decide), l5.2.2.1, d6 1 (by decide) (by decide)]
    · rw [cAI_ine (by decide), fj 3 (by decide), l5.2.2.2.1, d6 4 (by decide) (by decide)]
    · rw [cAI_ine (by decide), fj 4 (by decide), l5.2.2.2.2, d6 5 (by decide) (by decide)]
-- cursors
theorem CRepx.cur {exc : Int32} (h : CRepx exc σ A) {c : Nat} (hc : c < 3) {x : Nat × Nat × Int32 × Int32} (hx : A.2.2.1 c = some x) : σ.1 6 c = (if x.2.2.2 = 0 then nI 1 else nI 2) ∧ σ.1 7 c = nI x.1 ∧ (nI c ≠ exc → σ.1 8 c = nI x.2.1 ∧ σ.1 9 c = x.2.2.1) := by
  have := h.2.2.2.2.2.1 c hc
  rw [hx] at this; exact this
theorem CRepx.nocur {exc : Int32} (h : CRepx exc σ A) {c : Nat} (hc : c < 3) (hx : A.2.2.1 c = none) : σ.1 6 c = nI 0 := by
  have := h.2.2.2.2.2.1 c hc
  rw [hx] at this; exact this
theorem x_cThere (h : CRep σ A) {x : Int32} [dd : Decidable (mIsC A x)] : f_U_isThere (cPut b σ G) (b + 14) x = rI (mB (decide (mIsC A x))) (cPut b σ G) := by
  rw [y_cThere]
  have e : (rd 3 (σ.1 6) x = nI 2 ∨ rd 3 (σ.1 6) x = nI 1) ↔ mIsC A x := by
    by_cases hx : ∃ i, i < 3 ∧ x = nI i
    · obtain ⟨i, hi, rfl⟩ := hx
      rw [rd_nI hi (by decide)]
      cases hy : A.2.2.1 i with
      | none =>
        rw [CRepx.nocur h hi hy]
        refine ⟨fun q => absurd q (by decide), ?_⟩
        rintro ⟨j, hj, e, hv⟩
        rw [(nI_eq (by omega) (by omega)).mp e] at hy
        exact absurd hy hv
      | some y =>
        rw [(CRepx.cur h hi hy).1]
        refine ⟨fun _ => ⟨i, hi, rfl, by rw [hy]; exact Option.some_ne_none _⟩, fun _ => ?_⟩
        split
        · exact Or.inr rfl
        · exact Or.inl rfl
    · rw [rd_out hx (by decide)]
      refine ⟨fun q => absurd q (by decide), ?_⟩
      rintro ⟨j, hj, e, -⟩
      exact absurd ⟨j, hj, e⟩ hx
  by_cases hh : mIsC A x
  · rw [decide_eq_true hh, decide_eq_true (e.mpr hh)]
  · rw [decide_eq_false hh, decide_eq_false (fun q => hh (e.mp q))]
theorem x_needCursor (h : CRep σ A) {x : Int32} : (mIsC A x → f_X_needCursor (cPut b σ G) b x = rV (cPut b σ G)) ∧ (¬ mIsC A x → f_X_needCursor (cPut b σ G) b x = gThrow "java/lang/IndexOutOfBoundsException" (cPut b σ G)) := by
  have dd : Decidable (mIsC A x) := Classical.propDecidable _
  unfold f_X_needCursor
  simp only [x_cThere h, mB_if, c_ob_0, c_fa_0_0, c_fa_0_1, c_fi_0_2, c_put_0_2, c_fi_0_3, c_put_0_3, c_fi_0_4, c_put_0_4, c_ob_1, c_fa_1_0, c_fa_1_1, c_fa_1_2, c_fa_1_3, c_fa_1_4, c_fa_1_5, c_fi_1_6, c_put_1_6, c_ob_2, c_fa_2_0, c_ob_4, c_fa_4_0, c_ob_6, c_fa_6_0, c_ob_8, c_fa_8_0, c_ob_10, c_fa_10_0, c_ob_12, c_fa_12_0, c_ob_14, c_fa_14_0, c_fa_14_1, c_fa_14_2, c_fa_14_3, c_fi_14_4, c_put_14_4, c_ob_15, c_fa_15_0, c_ob_17, c_fa_17_0, c_ob_19, c_fa_19_0, c_ob_21, c_fa_21_0, c_len_0, c_ld_0, c_st_0, c_rd_0, c_wr_0, c_len_1, c_ld_1, c_st_1, c_rd_1, c_wr_1, c_len_2, c_ld_2, c_st_2, c_rd_2, c_wr_2, c_len_3, c_ld_3, c_st_3, c_rd_3, c_wr_3, c_len_4, c_ld_4, c_st_4, c_rd_4, c_wr_4, c_len_5, c_ld_5, c_st_5, c_rd_5, c_wr_5, c_len_6, c_ld_6, c_st_6, c_rd_6, c_wr_6, c_len_7, c_ld_7, c_st_7, c_rd_7, c_wr_7, c_len_8, c_ld_8, c_st_8, c_rd_8, c_wr_8, c_len_9, c_ld_9, c_st_9, c_rd_9, c_wr_9, bI_rI, bL_rL, bA_rA, bV_rV, bI_th, bL_th, bA_th, bV_th, rZ_0, rZ_1]
  exact ⟨fun k => if_pos (decide_eq_true k), fun k => if_neg (by rw [decide_eq_false k]; decide)⟩
theorem x_isStale (h : CRep σ A) {c : Nat} (hc : c < 3) {x : Nat × Nat × Int32 × Int32} (hx : A.2.2.1 c = some x) : f_U_isStale (cPut b σ G) (b + 14) (nI c) = rI (mB (decide (¬ x.2.2.2 = 0))) (cPut b σ G) := by
  rw [y_isStale, rd_nI hc (by decide), (CRepx.cur h hc hx).1]
  by_cases hs : x.2.2.2 = 0
  · rw [if_pos hs, decide_eq_false (show ¬ nI 1 = nI 2 by decide), decide_eq_false (show ¬ ¬ x.2.2.2 = 0 from fun q => q hs)]
  · rw [if_neg hs, decide_eq_true hs, decide_eq_true (show nI 2 = nI 2 from rfl)]
theorem x_listOf (h : CRep σ A) {c : Nat} (hc : c < 3) {x : Nat × Nat × Int32 × Int32} (hx : A.2.2.1 c = some x) : f_U_listOf (cPut b σ G) (b + 14) (nI c) = rI (nI x.1) (cPut b σ G) := by
  rw [y_listOf, rd_nI hc (by decide), (CRepx.cur h hc hx).2.1]
theorem x_nextOf (h : CRep σ A) {c : Nat} (hc : c < 3) {x : Nat × Nat × Int32 × Int32} (hx : A.2.2.1 c = some x) : f_U_nextOf (cPut b σ G) (b + 14) (nI c) = rI (nI x.2.1) (cPut b σ G) := by
  rw [y_nextOf, rd_nI hc (by decide), ((CRepx.cur h hc hx).2.2 (nI_nx hc)).1]
theorem x_lastOf (h : CRep σ A) {c : Nat} (hc : c < 3) {x : Nat × Nat × Int32 × Int32} (hx : A.2.2.1 c = some x) : f_U_lastOf (cPut b σ G) (b + 14) (nI c) = rI x.2.2.1 (cPut b σ G) := by
  rw [y_lastOf, rd_nI hc (by decide), ((CRepx.cur h hc hx).2.2 (nI_nx hc)).2]
/-- where a cursor stands may be told anew -/
theorem CRepx.setC (h : CRep σ A) {c : Nat} {x y : Nat × Nat × Int32 × Int32} (hx : A.2.2.1 c = some x) (h1 : y.1 = x.1) (h2 : y.2.2.2 = x.2.2.2) : CRepx (nI c) σ (mSetC A c y) := by
  refine ⟨h.1, h.2.1, h.2.2.1, h.2.2.2.1, h.2.2.2.2.1, fun c' hc' => ?_, h.2.2.2.2.2.2⟩
  show match va_up A.2.2.1 c (some y) c' with
    | none => σ.1 6 c' = nI 0
    | some x => σ.1 6 c' = (if x.2.2.2 = 0 then nI 1 else nI 2) ∧ σ.1 7 c' = nI x.1 ∧ (nI c' ≠ nI c → σ.1 8 c' = nI x.2.1 ∧ σ.1 9 c' = x.2.2.1)
  have h0 := h.2.2.2.2.2.1 c' hc'
  simp only [va_up]
  by_cases e : c' = c
  · subst e
    rw [hx] at h0
    rw [if_pos rfl]
    simp only at h0 ⊢
    rw [h1, h2]
    exact ⟨h0.1, h0.2.1, fun q => absurd rfl q⟩
  · rw [if_neg e]
    cases hz : A.2.2.1 c' with
    | none => rw [hz] at h0; exact h0
    | some z => rw [hz] at h0; exact ⟨h0.1, h0.2.1, fun _ => h0.2.2 (nI_nx hc')⟩
theorem x_stand {c : Nat} (h : CRepx (nI c) σ A) (hc : c < 3) {y : Nat × Nat × Int32 × Int32} (hy : A.2.2.1 c = some y) : ∃ σ', f_U_stand (cPut b σ G) (b + 14) (nI c) (nI y.2.1) y.2.2.1 = rV (cPut b σ' G) ∧ CRep σ' A := by
  refine ⟨_, y_stand hc, ?_⟩
  obtain ⟨t1, t2, l1, l2, l3, l4, l5⟩ := h
  refine ⟨t1, t2, l1, l2, l3, fun c' hc' => ?_, l5⟩
  have h0 := l4 c' hc'
  rw [cArr_ne (by decide), cArr_ne (by decide), cArr_ne (by decide), cArr_ne (by decide), cArr_ne (show 8 ≠ 9 by decide), cArr_at, cArr_at]
  cases hz : A.2.2.1 c' with
  | none => rw [hz] at h0; exact h0
  | some z =>
    rw [hz] at h0
    simp only at h0 ⊢
    refine ⟨h0.1, h0.2.1, fun _ => ?_⟩
    simp only [upd]
    by_cases e : c' = c
    · subst e
      rw [hz] at hy
      rw [if_pos rfl, if_pos rfl, Option.some.inj hy]
      exact ⟨rfl, rfl⟩
    · rw [if_neg e, if_neg e]
      exact h0.2.2 (fun q => e ((nI_eq (by omega) (by omega)).mp q))
theorem x_finishC (h : CRep σ A) {c : Nat} (hc : c < 3) : ∃ σ', f_U_finish (cPut b σ G) (b + 14) (nI c) = rV (cPut b σ' G) ∧ CRep σ' (mEndC A c) := by
  refine ⟨_, y_cFinish hc, ?_⟩
  obtain ⟨t1, t2, l1, l2, l3, l4, l5⟩ := h
  refine ⟨t1, t2, l1, l2, l3, fun c' hc' => ?_, ?_⟩
  · have h0 := l4 c' hc'
    show match va_up A.2.2.1 c none c' with
      | none => (cArr σ 6 (upd (σ.1 6) c (nI 0))).1 6 c' = nI 0
      | some x => (cArr σ 6 (upd (σ.1 6) c (nI 0))).1 6 c' = (if x.2.2.2 = 0 then nI 1 else nI 2) ∧ σ.1 7 c' = nI x.1 ∧ (nI c' ≠ -1 → σ.1 8 c' = nI x.2.1 ∧ σ.1 9 c' = x.2.2.1)
    rw [cArr_at]
    simp only [va_up, upd]
    by_cases e : c' = c
    · rw [if_pos e, if_pos e]
    · rw [if_neg e, if_neg e]; exact h0
  · exact ⟨l5.1, by rw [cSetI_at, l5.2.1]; rfl, l5.2.2.1, l5.2.2.2.1, l5.2.2.2.2⟩
/-- the first place of some that is free -/
def sFree (F : Nat → Bool) : Nat → Nat → Option Nat
  | _, 0 => none
  | j, k + 1 => if F j = true then some j else sFree F (j + 1) k
theorem sFree_some {F : Nat → Bool} : ∀ (k j : Nat) (q : Nat), sFree F j k = some q → F q = true ∧ j ≤ q ∧ q < j + k
  | 0, _, _, h => by cases h
  | k + 1, j, q, h => by
    unfold sFree at h
    by_cases hj : F j = true
    · rw [if_pos hj] at h; cases h; exact ⟨hj, Nat.le_refl _, by omega⟩
    · rw [if_neg hj] at h
      have := sFree_some k (j + 1) q h
      exact ⟨this.1, by omega, by omega⟩
def sNo (x : Option Nat) : Int32 := match x with
  | none => -1
  | some q => nI q
theorem x_freeCursor (h : CRep σ A) : f_U_freeCursor (cPut b σ G) (b + 14) = rI (sNo (sFree (fun c => (A.2.2.1 c).isNone) 0 3)) (cPut b σ G) := by
  have key : ∀ (k n j : Nat), j + k = 3 → k < n → f_U_freeCursor_L2 (fun G9 x8 => rI x8 G9) (fun G10 => rI (-1) G10) n (cPut b σ G) (b + 14) (nI j) = rI (sNo (sFree (fun c => (A.2.2.1 c).isNone) j k)) (cPut b σ G) := by
    intro k
    induction k with
    | zero =>
      intro n j hj hn
      cases n with
      | zero => omega
      | succ n =>
        unfold f_U_freeCursor_L2
        rw [if_pos (nI_le (by omega) (by omega))]; rfl
    | succ k ih =>
      intro n j hj hn
      cases n with
      | zero => omega
      | succ n =>
        have dd : Decidable (mIsC A (nI j)) := Classical.propDecidable _
        unfold f_U_freeCursor_L2 sFree
        rw [if_neg (nI_ge (by omega) (by omega)), c_ob_14, x_cThere h, bI_rI, mB_if]
        cases hx : A.2.2.1 j with
        | none =>
          have hn' : ¬ mIsC A (nI j) := by
            rintro ⟨i, hi, e, hv⟩
            rw [(nI_eq (by omega) (by omega)).mp e] at hx
            exact hv hx
          rw [decide_eq_false hn', if_neg (by decide)]; rfl
        | some x =>
          rw [decide_eq_true (show mIsC A (nI j) from ⟨j, by omega, rfl, by rw [hx]; exact Option.some_ne_none _⟩), if_pos rfl, nI_add, ih n (j + 1) (by omega) (by omega)]
          rw [if_neg (by simp)]
  unfold f_U_freeCursor
  exact key 3 zFu 0 rfl (by unfold zFu; omega)
theorem x_start (h : CRep σ A) {c i n : Nat} (hc : c < 3) : ∃ σ', f_U_start (cPut b σ G) (b + 14) (nI c) (nI i) (nI n) = rV (cPut b σ' G) ∧ CRep σ' (mSetC A c (i, n, -1, 0)) := by
  refine ⟨_, y_start hc, ?_⟩
  obtain ⟨t1, t2, l1, l2, l3, l4, l5⟩ := h
  refine ⟨t1, t2, l1, l2, l3, fun c' hc' => ?_, l5⟩
  have h0 := l4 c' hc'
  rw [cArr_ne (by decide), cArr_ne (by decide), cArr_ne (by decide), cArr_at, cArr_ne (by decide), cArr_ne (by decide), cArr_at, cArr_ne (show 8 ≠ 9 by decide), cArr_at, cArr_at]
  show match va_up A.2.2.1 c (some (i, n, -1, 0)) c' with
    | none => upd (σ.1 6) c (nI 1) c' = nI 0
    | some x => upd (σ.1 6) c (nI 1) c' = (if x.2.2.2 = 0 then nI 1 else nI 2) ∧ upd (σ.1 7) c (nI i) c' = nI x.1 ∧ (nI c' ≠ -1 → upd (σ.1 8) c (nI n) c' = nI x.2.1 ∧ upd (σ.1 9) c (-1) c' = x.2.2.1)
  simp only [va_up, upd]
  by_cases e : c' = c
  · simp [e]
  · simp only [if_neg e]; exact h0
-- parts
theorem mOk.opn {P : mP} (h : mOk P) {q o f l : Nat} (h2 : 2 ≤ q) (h6 : q < 6) (hq : P q = none) (ho : o < 2 ∨ P o ≠ none) : mOk (va_up P q (some (o, f, l))) := by
  obtain ⟨ρ, h1, h3⟩ := h.rank4
  have hoq : o ≠ q := by
    rintro rfl
    rcases ho with k | k
    · omega
    · exact k hq
  refine ⟨fun x y hx => ?_, fun x => if x = q then 5 else if P x = none then 0 else ρ x, fun x => ?_, fun x y hx => ?_⟩
  · simp only [va_up] at hx
    by_cases e : x = q
    · rw [e]; exact ⟨h2, h6⟩
    · rw [if_neg e] at hx; exact h.1 x y hx
  · show (if x = q then 5 else if P x = none then 0 else ρ x) < 6
    split
    · omega
    · split
      · omega
      · next k => have := h1 x k; omega
  · simp only [va_up] at hx
    by_cases e : x = q
    · rw [if_pos e] at hx
      cases hx
      simp only
      rcases ho with k | k
      · exact Or.inl k
      · refine Or.inr ⟨by simp only [va_up]; rw [if_neg hoq]; exact k, ?_⟩
        rw [if_pos e, if_neg hoq, if_neg k]
        have := h1 o k; omega
    · rw [if_neg e] at hx
      rcases h3 x y hx with k | k
      · exact Or.inl k
      · have hyq : y.1 ≠ q := fun z => k.1 (by rw [z]; exact hq)
        refine Or.inr ⟨by simp only [va_up]; rw [if_neg hyq]; exact k.1, ?_⟩
        simp only
        rw [if_neg e, if_neg hyq, if_neg k.1, if_neg (by rw [hx]; exact Option.some_ne_none _)]
        exact k.2
theorem mRw_open {P : mP} (h : mOk P) {q : Nat} {y : Nat × Nat × Nat} (hq : P q = none) {p : Nat} (hp : p < 2 ∨ P p ≠ none) (d : Nat) : mRw (va_up P q (some y)) d p = mRw P d p := by
  refine (mRw_sub (P := va_up P q (some y)) (P' := P) (fun x z hx => ?_) h.cl d p hp).symm
  simp only [va_up]
  rw [if_neg (fun e => by rw [e, hq] at hx; cases hx)]
  exact hx
theorem x_open (h : CRep σ A) (hok : mOk A.2.1) {p q r s f l : Nat} (hv : mV A p) (hr : mRw A.2.1 zDp p = some (r, s)) (h2 : 2 ≤ q) (h6 : q < 6) (hq : A.2.1 q = none) :
    ∃ σ', f_I_open (cPut b σ G) (b + 1) (nI q) (nI p) (nI f) (nI l) = rV (cPut b σ' G) ∧ CRep σ' (mOpen A q (p, f, l)) := by
  have hp := hv.lt hok
  have hpq : p ≠ q := by
    rintro rfl
    rcases hv with k | k
    · omega
    · exact k hq
  obtain ⟨t1, t2, l1, l2, l3, l4, l5⟩ := h
  obtain ⟨e3, e4⟩ := l3 p r s hp hr
  have hok' := hok.opn (f := f) (l := l) h2 h6 hq hv
  refine ⟨cArr (cArr (cArr (cArr σ 2 (upd (σ.1 2) q (nI p))) 3 (upd (σ.1 3) q (nI r))) 4 (upd (σ.1 4) q (nI (f + s)))) 1 (upd (σ.1 1) q (nI l)), ?_, ?_⟩
  · unfold f_I_open
    simp only [y_rowOf, c_ob_0, c_fa_0_0, c_fa_0_1, c_fi_0_2, c_put_0_2, c_fi_0_3, c_put_0_3, c_fi_0_4, c_put_0_4, c_ob_1, c_fa_1_0, c_fa_1_1, c_fa_1_2, c_fa_1_3, c_fa_1_4, c_fa_1_5, c_fi_1_6, c_put_1_6, c_ob_2, c_fa_2_0, c_ob_4, c_fa_4_0, c_ob_6, c_fa_6_0, c_ob_8, c_fa_8_0, c_ob_10, c_fa_10_0, c_ob_12, c_fa_12_0, c_ob_14, c_fa_14_0, c_fa_14_1, c_fa_14_2, c_fa_14_3, c_fi_14_4, c_put_14_4, c_ob_15, c_fa_15_0, c_ob_17, c_fa_17_0, c_ob_19, c_fa_19_0, c_ob_21, c_fa_21_0, c_len_0, c_ld_0, c_st_0, c_rd_0, c_wr_0, c_len_1, c_ld_1, c_st_1, c_rd_1, c_wr_1, c_len_2, c_ld_2, c_st_2, c_rd_2, c_wr_2, c_len_3, c_ld_3, c_st_3, c_rd_3, c_wr_3, c_len_4, c_ld_4, c_st_4, c_rd_4, c_wr_4, c_len_5, c_ld_5, c_st_5, c_rd_5, c_wr_5, c_len_6, c_ld_6, c_st_6, c_rd_6, c_wr_6, c_len_7, c_ld_7, c_st_7, c_rd_7, c_wr_7, c_len_8, c_ld_8, c_st_8, c_rd_8, c_wr_8, c_len_9, c_ld_9, c_st_9, c_rd_9, c_wr_9, bI_rI, bL_rL, bA_rA, bV_rV, bI_th, bL_th, bA_th, bV_th, rZ_0, rZ_1]
    rw [wr_nI h6 (by decide), cSet_arr, wr_nI h6 (by decide), cSet_arr, wr_nI h6 (by decide), cSet_arr, wr_nI h6 (by decide), cSet_arr]
    rw [rd_nI hp (by decide), cArr_ne (by decide), e3, rd_nI hp (by decide), cArr_ne (by decide), cArr_ne (by decide), e4, nI_add, Nat.add_comm s f]
    rfl
  · refine ⟨t1, fun r' hr' => ?_, fun x hx2 hx6 => ?_, ⟨fun r' hr' => ?_, fun x y hx => ?_⟩, fun x r1 s1 hx6 hx => ?_, l4, l5⟩
    · show upd (σ.1 1) q (nI l) r' = _
      simp only [upd]
      rw [if_neg (by omega)]; exact t2 r' hr'
    · show match va_up A.2.1 q (some (p, f, l)) x with
        | none => upd (σ.1 1) q (nI l) x = -1
        | some y => upd (σ.1 1) q (nI l) x = nI y.2.2
      have h0 := l1 x hx2 hx6
      simp only [va_up, upd]
      by_cases e : x = q
      · rw [if_pos e, if_pos e]
      · rw [if_neg e, if_neg e]; exact h0
    · show upd (σ.1 2) q (nI p) r' = -1
      simp only [upd]
      rw [if_neg (by omega)]; exact l2.1 r' hr'
    · have hx' : va_up A.2.1 q (some (p, f, l)) x = some y := hx
      show upd (σ.1 2) q (nI p) x = nI y.1
      simp only [va_up, upd] at hx' ⊢
      by_cases e : x = q
      · rw [if_pos e] at hx' ⊢; cases hx'; rfl
      · rw [if_neg e] at hx' ⊢; exact l2.2 x y hx'
    · show upd (σ.1 3) q (nI r) x = nI r1 ∧ upd (σ.1 4) q (nI (f + s)) x = nI s1
      have hx' : mRw (va_up A.2.1 q (some (p, f, l))) zDp x = some (r1, s1) := hx
      simp only [upd]
      by_cases e : x = q
      · rw [if_pos e, if_pos e]
        have e5 := mRw_of (p := q) (x := (p, f, l)) hok' (by simp [va_up]) (r := r) (b := s) ((mRw_open hok hq hv zDp).trans hr)
        rw [e, e5] at hx'
        cases hx'
        exact ⟨rfl, rfl⟩
      · rw [if_neg e, if_neg e]
        by_cases hxv : x < 2 ∨ A.2.1 x ≠ none
        · rw [mRw_open hok hq hxv zDp] at hx'
          exact l3 x r1 s1 hx6 hx'
        · exfalso
          have h1 : ¬ x < 2 := fun k => hxv (Or.inl k)
          have h3 : A.2.1 x = none := by
            cases hz : A.2.1 x with
            | none => rfl
            | some z => exact absurd (Or.inr (by rw [hz]; exact Option.some_ne_none _)) hxv
          have e6 : va_up A.2.1 q (some (p, f, l)) x = none := by simp only [va_up]; rw [if_neg e]; exact h3
          have : mRw (va_up A.2.1 q (some (p, f, l))) (7 + 1) x = some (r1, s1) := hx'
          unfold mRw at this
          rw [if_neg h1, e6] at this
          cases this
theorem x_freePart (h : CRep σ A) (hw : mInw (-1) 0 A) : f_I_freePart (cPut b σ G) (b + 1) = rI (sNo (sFree (fun c => (A.2.1 c).isNone) 2 4)) (cPut b σ G) := by
  have key : ∀ (k n j : Nat), 2 ≤ j → j + k = 6 → k < n → f_I_freePart_L2 (fun G9 x8 => rI x8 G9) (fun G10 => rI (-1) G10) n (cPut b σ G) (b + 1) (nI j) = rI (sNo (sFree (fun c => (A.2.1 c).isNone) j k)) (cPut b σ G) := by
    intro k
    induction k with
    | zero =>
      intro n j hj2 hj hn
      cases n with
      | zero => omega
      | succ n =>
        unfold f_I_freePart_L2
        rw [if_pos (nI_le (by omega) (by omega))]; rfl
    | succ k ih =>
      intro n j hj2 hj hn
      cases n with
      | zero => omega
      | succ n =>
        unfold f_I_freePart_L2 sFree
        rw [if_neg (nI_ge (by omega) (by omega)), c_ob_1]
        cases hx : A.2.1 j with
        | none =>
          have hn' : ¬ mIsL A (nI j) := by
            rintro ⟨i, hi, e, hv⟩
            have e' := (nI_eq (by omega) (by omega)).mp e
            rcases hv with hv | hv
            · omega
            · rw [e'] at hx; exact hv hx
          rw [y_isThere (t := false) ⟨fun _ => rfl, fun _ => (CRepx.there h hw).mpr hn'⟩, bI_rI, mB_if, if_neg (by decide)]; rfl
        | some x =>
          have hy : mIsL A (nI j) := ⟨j, by omega, rfl, Or.inr (by rw [hx]; exact Option.some_ne_none _)⟩
          rw [y_isThere (t := true) ⟨fun q => absurd hy ((CRepx.there h hw).mp q), fun q => (by cases q)⟩, bI_rI, mB_if, if_pos rfl, nI_add, ih n (j + 1) (by omega) (by omega) (by omega)]
          rw [if_neg (by simp)]
  unfold f_I_freePart
  exact key 4 zFu 2 (by omega) rfl (by unfold zFu; omega)
end Cur
