-- the reference: lists with their room told; copies
def alCap (len : Nat) : Nat := if len = 0 then 10 else len + (if 1 < len / 2 then len / 2 else 1)
def isALc (w : Nat → Nat) (G : gH) (a e cap : Nat) (xs : List Nat) : Prop := ∃ (m : Int32) (κ : Nat) (f : Nat → Option Nat), G.2.2 a = some (.inr (9, [.ref e, .int (nI xs.length), .int m])) ∧ G.2.2 e = some (zQ κ cap f) ∧ ((κ = 103 ∧ 0 < cap) ∨ (κ = 1103 ∧ e = w 0 ∧ cap = 0)) ∧ xs.length ≤ cap ∧ cap ≤ 1000 ∧ (∀ i, i < xs.length → f i = xs[i]?) ∧ ∀ i, i < xs.length → ∀ y, f i = some y → gEl G y
theorem isALc.al {w : Nat → Nat} {G : gH} {a e cap : Nat} {xs : List Nat} (h : isALc w G a e cap xs) : isAL w G a e xs := by
  obtain ⟨m, κ, f, h1, h2, h3, h4, h5, h6, h7⟩ := h
  exact ⟨m, κ, cap, f, h1, h2, h3, h4, h5, h6, h7⟩
theorem al_growc {w : Nat → Nat} {G : gH} {a e cap κ : Nat} {len : Nat} {m : Int32} {f : Nat → Option Nat} (hw : gWf G) (h1 : G.2.2 a = some (.inr (9, [.ref e, .int (nI len), .int m]))) (h2 : G.2.2 e = some (zQ κ cap f)) (h3 : (κ = 103 ∧ 0 < cap) ∨ (κ = 1103 ∧ e = w 0 ∧ cap = 0)) (hl : len = cap) (hb : len ≤ 40)
    (hel : ∀ i, i < len → ∀ y, f i = some y → gEl G y) :
    ∃ (cap' : Nat) (f' : Nat → Option Nat) (G' : gH), len < cap' ∧ (cap' ≤ 61 ∧ cap' = alCap len) ∧ (∀ i, i < len → f' i = f i) ∧ f_AL_grow1 w G a = rA G.2.1 G' ∧ G'.2.2 a = some (.inr (9, [.ref G.2.1, .int (nI len), .int m])) ∧ G'.2.2 G.2.1 = some (zQ 103 cap' f') ∧ gFr (fun q => q = a) 1 cap' G G' := by
  subst hl
  have ha : a < G.2.1 := hw _ _ h1
  have he : e < G.2.1 := hw _ _ h2
  have hk : κ % 1000 = 103 := by rcases h3 with ⟨rfl, -⟩ | ⟨rfl, -⟩ <;> rfl
  have e1 : nI len + nI 1 = nI (len + 1) := nI_add _ _
  have hgrow : ∃ (cap' : Nat) (f' : Nat → Option Nat) (G' : gH), len < cap' ∧ (cap' ≤ 61 ∧ cap' = alCap len) ∧ (∀ i, i < len → f' i = f i) ∧ f_AL_grow2 w G a (nI (len + 1)) = rA G.2.1 G' ∧ G'.2.2 a = some (.inr (9, [.ref G.2.1, .int (nI len), .int m])) ∧ G'.2.2 G.2.1 = some (zQ 103 cap' f') ∧ gFr (fun q => q = a) 1 cap' G G' := by
    unfold f_AL_grow2
    rw [gFA_of h1 rfl rfl, gLenq_of h2 hk]
    by_cases hz : len = 0
    · subst hz
      have hew : e = w 0 := by
        rcases h3 with ⟨-, h⟩ | ⟨-, h, -⟩
        · omega
        · exact h
      refine ⟨10, fun _ => none, gUp (gNew G 10 (zQ 103 10 (fun _ => none))) a (.inr (9, [.ref G.2.1, .int (nI 0), .int m])), by omega, ⟨by omega, rfl⟩, fun i hi => by omega, ?_, gUp_at, ?_, ?_⟩
      · rw [if_neg (show ¬ (0 : Int32) < nI 0 by decide), gFA_of h1 rfl rfl, if_pos hew, show (if nI 10 < nI (0 + 1) then nI (0 + 1) else nI 10) = nI 10 by decide, gNewQ_of (by omega), gPut_of (fs := [.ref e, .int (nI 0), .int m]) (by rw [gNew_ne (by omega)]; exact h1) (by simp)]
        rfl
      · rw [gUp_ne (by omega)]; exact gNew_at
      · refine ((gFr.new (P := fun q => q = a)).trans (gFr.up (G := gNew G 10 _) (a := a) (by show a < G.2.1 + 1; omega))).mono (fun q _ h => h) (by omega) (by omega)
    · have hκ : κ = 103 := by
        rcases h3 with ⟨h, -⟩ | ⟨-, -, h⟩
        · exact h
        · omega
      subst hκ
      generalize hc : len + (if 1 < len / 2 then len / 2 else 1) = cap'
      have hc1 : len < cap' := by rw [← hc]; split <;> omega
      have hc2 : cap' ≤ 61 := by rw [← hc]; split <;> omega
      have hc3 : cap' = alCap len := by rw [← hc]; unfold alCap; rw [if_neg hz]
      have hgl := gr_len len (by omega) (by omega)
      rw [hc] at hgl
      refine ⟨cap', va_cpy f (fun _ => none) 0 0 len, gUp (gUp (gNew G cap' (zQ 103 cap' (fun _ => none))) G.2.1 (zQ 103 cap' (va_cpy f (fun _ => none) 0 0 len))) a (.inr (9, [.ref G.2.1, .int (nI len), .int m])), hc1, ⟨hc2, hc3⟩, ?_, ?_, gUp_at, ?_, ?_⟩
      · intro i hi
        simp [va_cpy, hi]
      · rw [if_pos (show (0 : Int32) < nI len from nI_lt (a := 0) (by omega) (by omega))]
        unfold f_AS_newLength
        rw [hgl, if_neg (show ¬ nI cap' ≤ nI 0 from nI_ge (by omega) (by omega)), if_neg (nI_nlt (by omega) (by decide))]
        show gFA G a 9 0 _ = _
        rw [gFA_of h1 rfl rfl]
        unfold f_AR_copyOf2
        rw [gCaQ_of h2 rfl]
        unfold f_AR_copyOf3
        rw [if_pos rfl, gNewQ_of (by omega), gLenq_of (c := 103) (n := len) (f := f) (by rw [gNew_ne (by omega)]; exact h2) rfl, if_neg (nI_nlt (by omega) (by omega))]
        rw [gCpQ_of (c := 103) (n0 := len) (n1 := cap') (f := f) (g := fun _ => none) (by rw [gNew_ne (by omega)]; exact h2) rfl gNew_at (by omega) (by omega) (by omega) (by omega) (fun i hi y hy => ?_)]
        · show gPut _ a 9 0 _ _ = _
          rw [gPut_of (fs := [.ref e, .int (nI len), .int m]) (by rw [gUp_ne (by omega), gNew_ne (by omega)]; exact h1) (by simp)]
          rfl
        · rw [Nat.zero_add] at hy
          exact (hel i hi y hy).fr (gFr.new (P := fun _ => False)) hw (fun h => h)
      · rw [gUp_ne (by omega)]; exact gUp_at
      · refine ⟨Nat.le_succ _, Nat.le_refl _, Nat.le_add_right _ _, Nat.le_refl _, fun h => ?_, fun q hq hp => ?_⟩
        · exact (h.new.up (Nat.lt_succ_self _)).up (Nat.lt_succ_of_lt ha)
        · rw [gUp_ne hp, gUp_ne (by omega), gNew_ne (by omega)]
  obtain ⟨cap', f', G', g1, g2, g3, g4, g5⟩ := hgrow
  refine ⟨cap', f', G', g1, g2, g3, ?_, g5⟩
  unfold f_AL_grow1
  rw [gFI_of h1 rfl rfl, gOb_of h1 rfl, e1, g4]
  rfl
theorem al_addc {w : Nat → Nat} {G : gH} {a e y cap : Nat} {xs : List Nat} (hw : gWf G) (h : isALc w G a e cap xs) (hl : xs.length ≤ 40) (hy : gEl G y) (hae : a ≠ e) :
    ∃ (e' cap' : Nat) (G' : gH), f_AL_add2 w G a y = rI 1 G' ∧ isALc w G' a e' cap' (xs ++ [y]) ∧ a ≠ e' ∧ ((e' = e ∧ ∃ cap f, G.2.2 e = some (zQ 103 cap f)) ∨ e' = G.2.1) ∧ gFr (fun q => q = a ∨ (q = e ∧ e' = e)) (if xs.length = cap then 1 else 0) (if xs.length = cap then alCap cap else 0) G G' ∧ cap' = (if xs.length = cap then alCap cap else cap) ∧ ∀ z, gEl G z → gEl G' z := by
  obtain ⟨m, κ, f, h1, h2, h3, h4, h5, h6, h7⟩ := h
  have ha : a < G.2.1 := hw _ _ h1
  have he : e < G.2.1 := hw _ _ h2
  have hk : κ % 1000 = 103 := by rcases h3 with ⟨rfl, -⟩ | ⟨rfl, -⟩ <;> rfl
  generalize hG2 : gUp G a (.inr (9, [.ref e, .int (nI xs.length), .int (m + nI 1)])) = G2
  have b1 : G2.2.2 a = some (.inr (9, [.ref e, .int (nI xs.length), .int (m + nI 1)])) := by rw [← hG2]; exact gUp_at
  have b2 : G2.2.2 e = some (zQ κ cap f) := by rw [← hG2, gUp_ne (fun q => hae q.symm)]; exact h2
  have bw : gWf G2 := by rw [← hG2]; exact hw.up ha
  have bs : G2.2.1 = G.2.1 := by rw [← hG2]; rfl
  have bel : ∀ z, gEl G z → gEl G2 z := fun z hz => by rw [← hG2]; exact hz.upA h1
  have e1 : nI xs.length + nI 1 = nI (xs.length + 1) := nI_add _ _
  have start : ∀ r, f_AL_add3 w G2 a y e (nI xs.length) = r → f_AL_add2 w G a y = bV r fun G8 => rZ (nI 1) G8 := by
    intro r hr
    unfold f_AL_add2
    have hset : gUp G a (.inr (9, ([.ref e, .int (nI xs.length), .int m] : List Value).set 2 (.int (m + nI 1)))) = G2 := hG2
    rw [gFI_of h1 rfl rfl, gPut_of (ci := 9) h1 (by simp), hset, gFA_of b1 rfl rfl, gFI_of b1 rfl rfl, gOb_of b1 rfl, hr]
  by_cases hfull : xs.length = cap
  · rw [if_pos hfull, if_pos hfull, if_pos hfull]
    obtain ⟨cap', f', G3, c1, ⟨c2, cc⟩, c3, c4, c5, c6, c7⟩ := al_growc (w := w) bw b1 b2 h3 hfull (by omega) (fun i hi z hz => bel z (h7 i hi z hz))
    rw [bs] at c4 c5 c6
    have cel : ∀ z, gEl G z → gEl G3 z := fun z hz => by
      by_cases hza : z = a
      · exact Or.inl ⟨_, by rw [hza]; exact c5⟩
      · exact (bel z hz).fr c7 bw hza
    have hna : a ≠ G.2.1 := by omega
    have c5' : (gUp G3 G.2.1 (zQ 103 cap' (va_up f' xs.length (some y)))).2.2 a = some (.inr (9, [.ref G.2.1, .int (nI xs.length), .int (m + nI 1)])) := by rw [gUp_ne hna]; exact c5
    refine ⟨G.2.1, cap', gUp (gUp G3 G.2.1 (zQ 103 cap' (va_up f' xs.length (some y)))) a (.inr (9, [.ref G.2.1, .int (nI (xs.length + 1)), .int (m + nI 1)])), ?_, ?_, hna, Or.inr rfl, ?_, by rw [cc, hfull], ?_⟩
    · rw [start _ rfl]
      unfold f_AL_add3
      rw [gLenq_of b2 hk, hfull, if_pos rfl, gOb_of b1 rfl, c4]
      show bV (gStX G3 G.2.1 103 (nI cap) y _) _ = _
      rw [← hfull, gStX_of c6 c1 (by omega) (cel y hy), gPut_of (ci := 9) c5' (by simp), e1]
      exact rZ_1
    · refine ⟨m + nI 1, 103, va_up f' xs.length (some y), ?_, ?_, Or.inl ⟨rfl, by omega⟩, by simp; omega, by omega, ?_, ?_⟩
      · rw [gUp_at, List.length_append]; rfl
      · rw [gUp_ne (fun q => hna q.symm)]; exact gUp_at
      · intro i hi
        rw [List.length_append, List.length_singleton] at hi
        by_cases hix : i = xs.length
        · subst hix; simp [va_up]
        · simp only [va_up, if_neg hix]
          rw [c3 i (by omega), h6 i (by omega), List.getElem?_append_left (by omega)]
      · intro i hi z hz
        rw [List.length_append, List.length_singleton] at hi
        have hz2 : gEl G z := by
          by_cases hix : i = xs.length
          · subst hix; simp [va_up] at hz; subst hz; exact hy
          · simp only [va_up, if_neg hix] at hz
            rw [c3 i (by omega)] at hz
            exact h7 i (by omega) z hz
        exact ((cel z hz2).upQ c6).upA c5'
    · obtain ⟨d1, d2, d3, d4, d5, d6⟩ := c7
      have hs0 : G2.1 = G.1 := by rw [← hG2]; rfl
      rw [bs] at d1 d2
      rw [hs0] at d3 d4
      refine ⟨d1, d2, d3, by rw [← hfull, ← cc]; exact d4, fun h => ((d5 bw).up (d5 bw _ _ c6)).up (d5 bw _ _ c5), fun q hq hp => ?_⟩
      have hqa : q ≠ a := fun z => hp (Or.inl z)
      rw [gUp_ne hqa, gUp_ne (by omega), d6 q (by omega) hqa, ← hG2, gUp_ne hqa]
    · intro z hz
      exact ((cel z hz).upQ c6).upA c5'
  · have hlt : xs.length < cap := by omega
    have hκ : κ = 103 := by
      rcases h3 with ⟨h, -⟩ | ⟨-, -, h⟩
      · exact h
      · omega
    subst hκ
    rw [if_neg hfull, if_neg hfull, if_neg hfull]
    refine ⟨e, cap, gUp (gUp G2 e (zQ 103 cap (va_up f xs.length (some y)))) a (.inr (9, [.ref e, .int (nI (xs.length + 1)), .int (m + nI 1)])), ?_, ?_, hae, Or.inl ⟨rfl, cap, f, h2⟩, ?_, rfl, ?_⟩
    · rw [start _ rfl]
      unfold f_AL_add3
      rw [gLenq_of b2 rfl, if_neg (fun q => hfull ((nI_eq (by omega) (by omega)).mp q)), gStX_of b2 hlt (by omega) (bel y hy), gPut_of (ci := 9) (fs := [.ref e, .int (nI xs.length), .int (m + nI 1)]) (by rw [gUp_ne hae]; exact b1) (by simp), e1]
      exact rZ_1
    · refine ⟨m + nI 1, 103, va_up f xs.length (some y), ?_, ?_, Or.inl ⟨rfl, by omega⟩, by simp; omega, h5, ?_, ?_⟩
      · rw [gUp_at, List.length_append]; rfl
      · rw [gUp_ne (fun q => hae q.symm)]; exact gUp_at
      · intro i hi
        rw [List.length_append, List.length_singleton] at hi
        by_cases hix : i = xs.length
        · subst hix; simp [va_up]
        · simp only [va_up, if_neg hix]
          rw [h6 i (by omega), List.getElem?_append_left (by omega)]
      · intro i hi z hz
        rw [List.length_append, List.length_singleton] at hi
        have hz2 : gEl G z := by
          by_cases hix : i = xs.length
          · subst hix; simp [va_up] at hz; subst hz; exact hy
          · simp only [va_up, if_neg hix] at hz
            exact h7 i (by omega) z hz
        exact ((bel z hz2).upQ b2).upA (by rw [gUp_ne hae]; exact b1)
    · rw [← hG2]
      refine ⟨Nat.le_refl _, Nat.le_refl _, Nat.le_refl _, Nat.le_refl _, fun h => ((h.up ha).up he).up ha, fun q hq hp => ?_⟩
      rw [gUp_ne (fun z => hp (Or.inl z)), gUp_ne (fun z => hp (Or.inr ⟨z, rfl⟩)), gUp_ne (fun z => hp (Or.inl z))]
    · intro z hz
      exact ((bel z hz).upQ b2).upA (by rw [gUp_ne hae]; exact b1)
/-- the reference, its heap in order -/
def MS (w : Nat → Nat) (o : Nat) (G : gH) (A : mS) (D : mD) : Prop := gWf G ∧ mW0 w G ∧ MRep w G o A D
theorem mSt.old {k n : Nat} {G G' : gH} (h : mSt k n G G') (hw : gWf G) {q : Nat} {e : zE} (hq : G.2.2 q = some e) (he : ¬ mKd e) : G'.2.2 q = some e := by
  rw [h.1.2.2.2.2.2 q (hw _ _ hq) (fun ⟨z, hz, hk⟩ => he (by rw [hq] at hz; cases hz; exact hk)), hq]
theorem mSt.w0 {w : Nat → Nat} {k n : Nat} {G G' : gH} (h : mSt k n G G') (hw : gWf G) (h0 : mW0 w G) : mW0 w G' := by
  obtain ⟨f, hf⟩ := h0
  refine ⟨f, h.old hw hf ?_⟩
  rintro (⟨c, fs, e, -⟩ | ⟨c, n, f', e, hc⟩)
  · cases e
  · obtain ⟨rfl, -, -⟩ := zQ_inj (congrArg some e)
    omega
theorem MS.step {w : Nat → Nat} {o k n : Nat} {G G' : gH} {A A' : mS} {D D' : mD} (h : MS w o G A D) (hs : mSt k n G G') (hr : MRep w G' o A' D') : MS w o G' A' D' := ⟨hs.wf h.1, hs.w0 h.1 h.2.1, hr⟩
theorem mSet_mSet {A : mS} {j : Nat} {u v : Int32} : mSet (mSet A j u) j v = mSet A j v := by
  refine Prod.ext rfl (Prod.ext rfl (Prod.ext rfl ?_))
  funext k
  show (if k = j then v else if k = j then u else A.2.2.2 k) = if k = j then v else A.2.2.2 k
  by_cases e : k = j
  · rw [if_pos e, if_pos e]
  · rw [if_neg e, if_neg e, if_neg e]
theorem mSet_same {A : mS} {j : Nat} {v : Int32} (h : A.2.2.2 j = v) : mSet A j v = A := by
  refine Prod.ext rfl (Prod.ext rfl (Prod.ext rfl ?_))
  funext k
  show (if k = j then v else A.2.2.2 k) = A.2.2.2 k
  by_cases e : k = j
  · rw [if_pos e, e, h]
  · rw [if_neg e]
theorem mSt.own {k n : Nat} {G G' : gH} {o : Nat} {fs : List Value} (h : gFr (fun q => q = o) k n G G') (hk : gKeep G G') (ho : G.2.2 o = some (.inr (6, fs))) : mSt k n G G' :=
  ⟨h.mono (fun q _ e => by rw [e]; exact ⟨_, ho, Or.inl ⟨6, fs, rfl, by omega⟩⟩) (Nat.le_refl _) (Nat.le_refl _), hk⟩
section Ref1
variable {w : Nat → Nat} {G : gH} {o : Nat} {A : mS} {D : mD}
theorem MS.set (h : MS w o G A D) (j : Nat) (v : Int32) : MS w o (gUp G o (.inr (6, mOb (mSet A j v) D))) (mSet A j v) D ∧ mSt 0 0 G (gUp G o (.inr (6, mOb (mSet A j v) D))) := by
  have s := mSt.up (e' := .inr (6, mOb (mSet A j v) D)) h.1 h.2.2.1 (Or.inl ⟨6, _, rfl, by omega⟩) (fun _ q => by cases q)
  exact ⟨h.step s (h.2.2.setI j v), s⟩
theorem s_start0 (h : MS w o G A D) (code : Int32) : ∃ G', f_M_start G o 0 code = rI 0 G' ∧ MS w o G' (mSet A 0 0) D ∧ mSt 0 0 G G' := by
  have e0 : (mSet A 0 (nI 0)).2.2.2 0 = 0 := rfl
  obtain ⟨h1, s1⟩ := h.set 0 (nI 0)
  refine ⟨_, ?_, h1, s1⟩
  unfold f_M_start f_M_refuse
  rw [m_put h.2.2 (j := 0) (i := 0) (by omega) rfl, gOb_of h1.2.2.1 rfl, if_pos rfl, m_int h1.2.2 (j := 0) (i := 0) (by omega) rfl, e0, if_pos (by decide), rZ_0]; rfl
theorem s_start1 (h : MS w o G A D) {code : Int32} (hc : ¬ code ≤ 0) : ∃ G', f_M_start G o 1 code = rI 1 G' ∧ MS w o G' (mSet A 0 code) D ∧ mSt 0 0 G G' := by
  have e0 : (mSet A 0 (nI 0)).2.2.2 0 = 0 := rfl
  obtain ⟨h1, s1⟩ := h.set 0 (nI 0)
  obtain ⟨h2, s2⟩ := h1.set 0 code
  rw [mSet_mSet] at h2 s2
  refine ⟨_, ?_, h2, (s1.trans s2).mono (by omega) (by omega)⟩
  unfold f_M_start f_M_refuse
  rw [m_put h.2.2 (j := 0) (i := 0) (by omega) rfl, gOb_of h1.2.2.1 rfl, if_neg (by decide), m_int h1.2.2 (j := 0) (i := 0) (by omega) rfl, e0, if_pos rfl, m_put h1.2.2 (j := 0) (i := 0) (by omega) rfl, mSet_mSet, m_int h2.2.2 (j := 0) (i := 0) (by omega) rfl]
  show bI (if code ≤ 0 then _ else _) _ = _
  rw [if_neg hc, rZ_1]; rfl
theorem s_refuse0 (h : MS w o G A D) (code : Int32) (h0 : A.2.2.2 0 = 0) : f_M_refuse G o 0 code = rI 0 G := by
  unfold f_M_refuse
  rw [if_pos rfl, m_int h.2.2 (j := 0) (i := 0) (by omega) rfl, h0, if_pos (by decide), rZ_0]
theorem s_refuse1 (h : MS w o G A D) {code : Int32} (hc : ¬ code ≤ 0) (h0 : A.2.2.2 0 = 0) : ∃ G', f_M_refuse G o 1 code = rI 1 G' ∧ MS w o G' (mSet A 0 code) D ∧ mSt 0 0 G G' := by
  obtain ⟨h2, s2⟩ := h.set 0 code
  refine ⟨_, ?_, h2, s2⟩
  unfold f_M_refuse
  rw [if_neg (by decide), m_int h.2.2 (j := 0) (i := 0) (by omega) rfl, h0, if_pos rfl, m_put h.2.2 (j := 0) (i := 0) (by omega) rfl, m_int h2.2.2 (j := 0) (i := 0) (by omega) rfl]
  show (if code ≤ 0 then _ else _) = _
  rw [if_neg hc, rZ_1]
theorem s_noList (h : MS w o G A D) (x : Int32) : (mIsL A x → f_M_isNoList G o x = rI 0 G) ∧ (¬ mIsL A x → f_M_isNoList G o x = rI 1 G) := by
  have dd : Decidable (mIsL A x) := Classical.propDecidable _
  have e := m_isNoList h.2.2 x
  refine ⟨fun k => ?_, fun k => ?_⟩
  · rw [e, decide_eq_false (fun q => q k)]
    show rZ (nI 0) G = _
    exact rZ_0
  · rw [e, decide_eq_true k]
    show rZ (nI 1) G = _
    exact rZ_1
theorem s_isIn (G : gH) (L : Nat) (hL : L < 100) (x : Int32) : (mIsG L x → f_M_isIn G x (nI 0) (nI L) = rI 1 G) ∧ (¬ mIsG L x → f_M_isIn G x (nI 0) (nI L) = rI 0 G) := by
  have e := nI_gap (L := L) (x := x) (by omega)
  have e0 : nI 0 = (0 : Int32) := rfl
  unfold f_M_isIn
  rw [e0]
  refine ⟨fun k => ?_, fun k => ?_⟩
  · rw [if_neg (e.mp k).1]
    have h2 := (e.mp k).2
    rw [if_neg (fun q => Int32.lt_irrefl (Int32.lt_of_lt_of_le q h2)), rZ_1]
  · by_cases h1 : x < 0
    · rw [if_pos h1]; exact rZ_0
    · rw [if_neg h1]
      by_cases h2 : nI L < x
      · rw [if_pos h2]; exact rZ_0
      · exact absurd (e.mpr ⟨h1, Int32.not_lt.mp h2⟩) k
theorem s_len (h : MS w o G A D) (hok : mOk A.2.1) {p : Nat} (hv : mV A p) : f_M_length G o (nI p) = rI (nI (mLen A p)) G := m_length h.2.2 (hv.lt hok) hv
theorem s_at (h : MS w o G A D) (hok : mOk A.2.1) {p r s i : Nat} {t : Nat × Nat × Nat} (hv : mV A p) (hr : mRw A.2.1 zDp p = some (r, s)) (ht : (A.1 r)[s + i]? = some t) : f_M_at G o (nI p) (nI i) = rA t.1 G := m_at h.2.2 (hv.lt hok) hr ht
theorem s_th (h : MS w o G A D) {r i : Nat} {t : Nat × Nat × Nat} (hr : r < 2) (ht : (A.1 r)[i]? = some t) : mTh G t.1 t.2 := h.2.2.2.2.2.2.2.1 r hr t (List.mem_of_getElem? ht)
theorem mTh.key {x : Nat} {t : Nat × Nat} {k : Int32 → gR} (h : mTh G x t) : gLd G x 100 (nI 0) k = k (nI t.1) := by
  obtain ⟨g, h1, h2, -⟩ := h
  unfold gLd gAr; rw [h1]
  simp only [zI]
  rw [if_pos trivial, if_pos (gIn_nI (by omega) (by omega)), nI_clamp (by omega), h2]
theorem mTh.tag {x : Nat} {t : Nat × Nat} {k : Int32 → gR} (h : mTh G x t) : gLd G x 100 (nI 1) k = k (nI t.2) := by
  obtain ⟨g, h1, -, h2⟩ := h
  unfold gLd gAr; rw [h1]
  simp only [zI]
  rw [if_pos trivial, if_pos (gIn_nI (by omega) (by omega)), nI_clamp (by omega), h2]
theorem mTh.cast {x : Nat} {t : Nat × Nat} {k : gR} (h : mTh G x t) : gCaA G x 100 k = k := by
  obtain ⟨g, h1, -, -⟩ := h
  unfold gCaA gAr; rw [h1]
  simp only [zI]
  rw [if_pos trivial]
/-- a copy's room: its cells' number, their slots -/
def alT (cap c s : Nat) : Prop := (cap = 0 ∧ c = 0 ∧ s = 0) ∨ (cap = 10 ∧ c = 1 ∧ s = 10) ∨ (cap = 15 ∧ c = 2 ∧ s = 25) ∨ (cap = 22 ∧ c = 3 ∧ s = 47) ∨ (cap = 33 ∧ c = 4 ∧ s = 80)
theorem alT.next {cap c s : Nat} (h : alT cap c s) (hc : cap ≤ 30) : alT (alCap cap) (c + 1) (s + alCap cap) := by
  rcases h with ⟨rfl, rfl, rfl⟩ | ⟨rfl, rfl, rfl⟩ | ⟨rfl, rfl, rfl⟩ | ⟨rfl, rfl, rfl⟩ | ⟨rfl, rfl, rfl⟩
  · exact Or.inr (Or.inl ⟨rfl, rfl, rfl⟩)
  · exact Or.inr (Or.inr (Or.inl ⟨rfl, rfl, rfl⟩))
  · exact Or.inr (Or.inr (Or.inr (Or.inl ⟨rfl, rfl, rfl⟩)))
  · exact Or.inr (Or.inr (Or.inr (Or.inr ⟨rfl, rfl, rfl⟩)))
  · omega
/-- the same below z -/
def gB (z : Nat) (G G' : gH) : Prop := ∀ q, q < z → G'.2.2 q = G.2.2 q
theorem m_copyL {K : gH → Nat → gR} {G0 : gH} {p r s a : Nat} (h0 : MS w o G0 A D) (hok : mOk A.2.1) (hv : mV A p) (hr : mRw A.2.1 zDp p = some (r, s)) (hfit : s + mLen A p ≤ (A.1 r).length) (h31 : (A.1 r).length ≤ 31) (ha : G0.2.1 ≤ a) : ∀ (d n j c sl cap e : Nat) (G : gH), j + d = mLen A p → d < n → gB G0.2.1 G0 G → gWf G → isALc w G a e cap (((sSeg A r s (mLen A p)).take j).map fun t => t.1) → a ≠ e → (G0.2.1 ≤ e ∨ e = w 0) → G0.2.1 ≤ G.2.1 → G.2.1 ≤ G0.2.1 + 1 + c → G0.1 ≤ G.1 → G.1 ≤ G0.1 + 3 + sl → alT cap c sl →
    ∃ G' e' cap', f_M_copy_L10 w K n G o (nI p) a (nI j) = K G' a ∧ isALc w G' a e' cap' ((sSeg A r s (mLen A p)).map fun t => t.1) ∧ a ≠ e' ∧ (G0.2.1 ≤ e' ∨ e' = w 0) ∧ gB G0.2.1 G0 G' ∧ gWf G' ∧ G0.2.1 ≤ G'.2.1 ∧ G'.2.1 ≤ G0.2.1 + 5 ∧ G0.1 ≤ G'.1 ∧ G'.1 ≤ G0.1 + 83
  | _, 0, _, _, _, _, _, _, _, h, _, _, _, _, _, _, _, _, _, _ => absurd h (Nat.not_lt_zero _)
  | 0, n + 1, j, c, sl, cap, e, G, hj, _, hB, hw, hal, hae, he, g1, g2, g3, g4, hT => by
    have hsl := sSeg_len hfit
    have hM : MS w o G A D := ⟨hw, by obtain ⟨f, hf⟩ := h0.2.1; exact ⟨f, by rw [hB _ (h0.1 _ _ hf)]; exact hf⟩, h0.2.2.new h0.1 hB⟩
    have e1 : (sSeg A r s (mLen A p)).take j = sSeg A r s (mLen A p) := List.take_of_length_le (by omega)
    rw [e1] at hal
    refine ⟨G, e, cap, ?_, hal, hae, he, hB, hw, g1, ?_, g3, ?_⟩
    · unfold f_M_copy_L10
      rw [gOb_of hM.2.2.1 rfl, s_len hM hok hv, bI_rI, if_pos (nI_le (by omega) (by omega))]
    · rcases hT with ⟨-, rfl, -⟩ | ⟨-, rfl, -⟩ | ⟨-, rfl, -⟩ | ⟨-, rfl, -⟩ | ⟨-, rfl, -⟩ <;> omega
    · rcases hT with ⟨-, -, rfl⟩ | ⟨-, -, rfl⟩ | ⟨-, -, rfl⟩ | ⟨-, -, rfl⟩ | ⟨-, -, rfl⟩ <;> omega
  | d + 1, n + 1, j, c, sl, cap, e, G, hj, hn, hB, hw, hal, hae, he, g1, g2, g3, g4, hT => by
    have hsl := sSeg_len hfit
    have hM : MS w o G A D := ⟨hw, by obtain ⟨f, hf⟩ := h0.2.1; exact ⟨f, by rw [hB _ (h0.1 _ _ hf)]; exact hf⟩, h0.2.2.new h0.1 hB⟩
    have hjs : j < (sSeg A r s (mLen A p)).length := by omega
    have hs := List.getElem?_eq_getElem hjs
    generalize ht : (sSeg A r s (mLen A p))[j] = t at hs
    have hs' : (A.1 r)[s + j]? = some t := by rw [← sSeg_at (n := mLen A p) (by omega)]; exact hs
    have hth := s_th hM (mRw_lt _ _ _ _ hr) hs'
    obtain ⟨gg, hg1, -, -⟩ := id hth
    have hlen : ((((sSeg A r s (mLen A p)).take j).map fun t => t.1)).length = j := by rw [List.length_map, List.length_take]; omega
    have hcap : j ≤ cap := by
      obtain ⟨m, κ, f, -, -, -, q, -⟩ := hal
      omega
    obtain ⟨f0, hf0⟩ := hM.2.1
    obtain ⟨e', cap', G', z1, z2, z3, z4, z5, z6, z7⟩ := al_addc (y := t.1) hw hal (by omega) (Or.inr ⟨_, _, hg1⟩) hae
    rw [hlen] at z5 z6
    have hxs : (((sSeg A r s (mLen A p)).take j).map fun t => t.1) ++ [t.1] = (((sSeg A r s (mLen A p)).take (j + 1)).map fun t => t.1) := by
      rw [List.take_succ, hs]; simp
    rw [hxs] at z2
    have hnw : e' = e → e ≠ w 0 := by
      intro e1 e2
      rcases z4 with ⟨-, cp, fp, q⟩ | q
      · rw [e2, hf0] at q
        have := (zQ_inj q).1
        omega
      · obtain ⟨m, κ, f, -, q2, -⟩ := hal
        have := hw _ _ q2
        omega
    have hB' : gB G0.2.1 G0 G' := by
      intro q hq
      rw [z5.2.2.2.2.2 q (by omega) (by
        rintro (q1 | ⟨q1, q2⟩)
        · omega
        · rcases he with k | k
          · omega
          · exact hnw q2 k)]
      exact hB q hq
    have he' : G0.2.1 ≤ e' ∨ e' = w 0 := by
      rcases z4 with ⟨q, -⟩ | q
      · rw [q]; exact he
      · exact Or.inl (by omega)
    have hstep : f_M_copy_L10 w K (n + 1) G o (nI p) a (nI j) = f_M_copy_L10 w K n G' o (nI p) a (nI (j + 1)) := by
      obtain ⟨m, κ, f, q1, -⟩ := hal
      rw [f_M_copy_L10, gOb_of hM.2.2.1 rfl, s_len hM hok hv, bI_rI, if_neg (nI_ge (by omega) (by omega)), gOb_of hM.2.2.1 rfl, s_at hM hok hv hr hs', bA_rA, gOb_of q1 rfl, z1, bI_rI, nI_add]
    obtain ⟨y1, y2, y3, y4, y5, -⟩ := z5
    by_cases hf : j = cap
    · rw [if_pos hf] at y2 y4 z6
      obtain ⟨G'', e'', cap'', r1, r2⟩ := m_copyL (K := K) h0 hok hv hr hfit h31 ha d n (j + 1) (c + 1) (sl + alCap cap) cap' e' G' (by omega) (by omega) hB' (y5 hw) z2 z3 he' (by omega) (by omega) (by omega) (by omega) (by rw [z6]; exact hT.next (by omega))
      exact ⟨G'', e'', cap'', hstep.trans r1, r2⟩
    · rw [if_neg hf] at y2 y4 z6
      obtain ⟨G'', e'', cap'', r1, r2⟩ := m_copyL (K := K) h0 hok hv hr hfit h31 ha d n (j + 1) c sl cap' e' G' (by omega) (by omega) hB' (y5 hw) z2 z3 he' (by omega) (by omega) (by omega) (by omega) (by rw [z6]; exact hT)
      exact ⟨G'', e'', cap'', hstep.trans r1, r2⟩
/-- a list's things, copied -/
theorem s_copy {p r s : Nat} (h : MS w o G A D) (hok : mOk A.2.1) (hv : mV A p) (hr : mRw A.2.1 zDp p = some (r, s)) (hfit : s + mLen A p ≤ (A.1 r).length) (h31 : (A.1 r).length ≤ 31) :
    ∃ G' e cap, f_M_copy w G o (nI p) = rA G.2.1 G' ∧ isALc w G' G.2.1 e cap ((sSeg A r s (mLen A p)).map fun t => t.1) ∧ G.2.1 ≠ e ∧ (G.2.1 ≤ e ∨ e = w 0) ∧ gB G.2.1 G G' ∧ MS w o G' A D ∧ mSt 5 83 G G' := by
  obtain ⟨f0, hf0⟩ := h.2.1
  have hw0 : w 0 < G.2.1 := h.1 _ _ hf0
  have hwN : gWf (gNew G 3 (.inr (9, [.null, .int 0, .int 0]))) := h.1.new
  obtain ⟨G1, a1, a2, a3, a4⟩ := al_init (w := w) (G := gNew G 3 (.inr (9, [.null, .int 0, .int 0]))) (a := G.2.1) hwN gNew_at rfl (by rw [gNew_ne (by omega)]; exact hf0) (by omega)
  have hB1 : gB G.2.1 G G1 := by
    intro q hq
    rw [a3.2.2.2.2.2 q (show q < G.2.1 + 1 by omega) (by omega), gNew_ne (by omega)]
  have hb : G1.2.1 = G.2.1 + 1 ∧ G1.1 = G.1 + 3 := by
    obtain ⟨b1, b2, b3, b4, -⟩ := a3
    have e1 : (gNew G 3 (.inr (9, [.null, .int 0, .int 0]))).2.1 = G.2.1 + 1 := rfl
    have e2 : (gNew G 3 (.inr (9, [.null, .int 0, .int 0]))).1 = G.1 + 3 := rfl
    omega
  have hc : isALc w G1 G.2.1 (w 0) 0 (((sSeg A r s (mLen A p)).take 0).map fun t => t.1) := by
    obtain ⟨m, κ, cap, f, q1, q2, q3, q4, q5, q6, q7⟩ := a2
    have e0 : G1.2.2 (w 0) = some (zQ 1103 0 f0) := by rw [hB1 _ hw0]; exact hf0
    rw [e0] at q2
    obtain ⟨rfl, rfl, rfl⟩ := zQ_inj q2
    exact ⟨m, 1103, f0, q1, e0, Or.inr ⟨rfl, rfl, rfl⟩, by simp, by omega, fun i hi => by simp at hi, fun i hi => by simp at hi⟩
  obtain ⟨G', e', cap', r1, r2, r3, r4, r5, r6, r7, r8, r9, r10⟩ := m_copyL (K := fun G22 x21 => rA x21 G22) (a := G.2.1) h hok hv hr hfit h31 (Nat.le_refl _) (mLen A p) zFu 0 0 0 0 (w 0) G1 (by omega) (by unfold zFu; omega) hB1 (a3.2.2.2.2.1 hwN) hc (by omega) (Or.inr rfl) (by omega) (by omega) (by omega) (by omega) (Or.inl ⟨rfl, rfl, rfl⟩)
  have hS : mSt 5 83 G G' := ⟨⟨r7, r8, r9, r10, fun _ => r6, fun q hq _ => r5 q hq⟩, gKeep.new h.1 r5⟩
  refine ⟨G', e', cap', ?_, r2, r3, r4, r5, h.step hS (h.2.2.new h.1 r5), hS⟩
  unfold f_M_copy gNewO
  show bV (f_AL_init w (gNew G 3 (.inr (9, [.null, .int 0, .int 0]))) G.2.1) _ = _
  rw [a1, bV_rV]
  exact r1
end Ref1
