-- the reference: searches, and things that go
def sFi (k : Nat) : List (Nat × Nat × Nat) → Nat → Option Nat
  | [], _ => none
  | t :: ts, j => if t.2.1 = k then some j else sFi k ts (j + 1)
/-- whether a key lies in it -/
def gK (l : List (Nat × Nat × Nat)) (k : Nat) : Bool := (sFi k l 0).isSome
theorem gB.refl {z : Nat} {G : gH} : gB z G G := fun _ _ => rfl
theorem gB.trans {z : Nat} {G G1 G2 : gH} (h1 : gB z G G1) (h2 : gB z G1 G2) : gB z G G2 := fun q hq => (h2 q hq).trans (h1 q hq)
theorem MS.gB {w : Nat → Nat} {o : Nat} {G G' : gH} {A : mS} {D : mD} (h : MS w o G A D) (hB : gB G.2.1 G G') (hw : gWf G') : MS w o G' A D :=
  ⟨hw, by obtain ⟨f, hf⟩ := h.2.1; exact ⟨f, by rw [hB _ (h.1 _ _ hf)]; exact hf⟩, h.2.2.new h.1 hB⟩
theorem mSt.gB {k n : Nat} {G G' : gH} (hw0 : gWf G) (hB : gB G.2.1 G G') (hw : gWf G') (h1 : G.2.1 ≤ G'.2.1) (h2 : G'.2.1 ≤ G.2.1 + k) (h3 : G.1 ≤ G'.1) (h4 : G'.1 ≤ G.1 + n) : mSt k n G G' :=
  ⟨⟨h1, h2, h3, h4, fun _ => hw, fun q hq _ => hB q hq⟩, gKeep.new hw0 hB⟩
/-- a row of truth values -/
def isBo (G : gH) (q : Nat) (g : Nat → Bool) : Prop := ∃ f, G.2.2 q = some (zI 102 31 f) ∧ ∀ k, k < 31 → f k = mB (g k)
theorem isBo.st {k n q : Nat} {g : Nat → Bool} {G G' : gH} (h : isBo G q g) (hs : mSt k n G G') (hw : gWf G) : isBo G' q g := by
  obtain ⟨f, h1, h2⟩ := h
  refine ⟨f, hs.old hw h1 ?_, h2⟩
  rintro (⟨c, fs, e, -⟩ | ⟨c, n, f', e, -⟩) <;> cases e
theorem isBo.ld {q k : Nat} {g : Nat → Bool} {G : gH} {K : Int32 → gR} (h : isBo G q g) (hk : k < 31) : gLd G q 102 (nI k) K = K (mB (g k)) := by
  obtain ⟨f, h1, h2⟩ := h
  unfold gLd gAr; rw [h1]
  simp only [zI]
  rw [if_pos trivial, if_pos (gIn_nI hk (by omega)), nI_clamp (by omega), h2 k hk]
theorem gStK_of {G : gH} {a n i c : Nat} {v : Int32} {f : Nat → Int32} {k : gH → gR} (h : G.2.2 a = some (zI c n f)) (hi : i < n) (hn : n < 2 ^ 31) : gSt G a c (nI i) v k = k (gUp G a (zI c n (upd f i v))) := by
  unfold gSt gArW; rw [h]; simp [zI, gIn_nI hi hn, nI_clamp (Nat.lt_trans hi hn)]
theorem mRows_mRows {A : mS} {r : Nat} {ts us : List (Nat × Nat × Nat)} : mRows (mRows A r ts) r us = mRows A r us := by
  refine Prod.ext ?_ rfl
  funext i
  show (if i = r then us else if i = r then ts else A.1 i) = if i = r then us else A.1 i
  by_cases e : i = r
  · rw [if_pos e, if_pos e]
  · rw [if_neg e, if_neg e, if_neg e]
theorem mRows_self {A : mS} {r : Nat} : mRows A r (A.1 r) = A := by
  refine Prod.ext ?_ rfl
  funext i
  show (if i = r then A.1 r else A.1 i) = A.1 i
  by_cases e : i = r
  · rw [if_pos e, e]
  · rw [if_neg e]
theorem mRows_at {A : mS} {r : Nat} {ts : List (Nat × Nat × Nat)} : (mRows A r ts).1 r = ts := if_pos rfl
/-- a row from whose list, from j on, such things have gone -/
def sRj (g : Nat → Bool) (L : List (Nat × Nat × Nat)) (s len j : Nat) : List (Nat × Nat × Nat) := L.take (s + j) ++ (((L.drop s).take len).drop j |>.filter fun t => !g t.2.1) ++ L.drop (s + len)
theorem sRj_top {g : Nat → Bool} {L : List (Nat × Nat × Nat)} {s len : Nat} (h : s + len ≤ L.length) : sRj g L s len len = L := by
  unfold sRj
  rw [List.drop_of_length_le (by rw [List.length_take, List.length_drop]; omega)]
  simp
theorem sRj_0 {g : Nat → Bool} {L : List (Nat × Nat × Nat)} {s len : Nat} : sRj g L s len 0 = sLeft g L s len := by
  unfold sRj sLeft
  rw [sSw_eq, List.drop_zero, Nat.add_zero, List.append_assoc, List.drop_drop]
theorem sRj_step {g : Nat → Bool} {L : List (Nat × Nat × Nat)} {s len j : Nat} {t : Nat × Nat × Nat} (hj : j < len) (ht : L[s + j]? = some t) :
    (sRj g L s len (j + 1))[s + j]? = some t ∧ (if g t.2.1 = true then (sRj g L s len (j + 1)).eraseIdx (s + j) else sRj g L s len (j + 1)) = sRj g L s len j ∧ (sRj g L s len (j + 1)).length = (sRj g L s len j).length + (if g t.2.1 = true then 1 else 0) := by
  have hlt : s + j < L.length := (List.getElem?_eq_some_iff.mp ht).1
  have e1 : L.take (s + (j + 1)) = L.take (s + j) ++ [t] := by
    rw [← Nat.add_assoc, List.take_succ, ht]; rfl
  have e2 : ((L.drop s).take len).drop j = t :: ((L.drop s).take len).drop (j + 1) := by
    have h1 : ((L.drop s).take len)[j]? = some t := by rw [List.getElem?_take, if_pos hj, List.getElem?_drop]; exact ht
    obtain ⟨h2, h3⟩ := List.getElem?_eq_some_iff.mp h1
    rw [List.drop_eq_getElem_cons h2, h3]
  have e3 : (L.take (s + j)).length = s + j := by rw [List.length_take]; omega
  unfold sRj
  rw [e1, e2]
  refine ⟨?_, ?_, ?_⟩
  · rw [List.append_assoc, List.append_assoc, List.getElem?_append_right (by omega), e3, Nat.sub_self]; rfl
  · by_cases hg : g t.2.1 = true
    · rw [if_pos hg, er_td]
      have e4 : (List.filter (fun t => !g t.2.1) (t :: ((L.drop s).take len).drop (j + 1))) = List.filter (fun t => !g t.2.1) (((L.drop s).take len).drop (j + 1)) := by
        rw [List.filter_cons, if_neg (by simp [hg])]
      rw [e4]
      generalize List.filter (fun t => !g t.2.1) (((L.drop s).take len).drop (j + 1)) = X
      generalize L.drop (s + len) = Y
      generalize L.take (s + j) = Z at e3 ⊢
      rw [← e3]
      simp
    · rw [if_neg hg, List.filter_cons, if_pos (by simp [hg])]
      simp
  · by_cases hg : g t.2.1 = true
    · rw [if_pos hg, List.filter_cons, if_neg (by simp [hg])]
      simp <;> omega
    · rw [if_neg hg, List.filter_cons, if_pos (by simp [hg])]
      simp <;> omega
section Ref4
variable {w : Nat → Nat} {G : gH} {o : Nat} {A : mS} {D : mD}
theorem m_firstL {K1 : gH → Int32 → gR} {K2 : gH → gR} {p r s k : Nat} (h : MS w o G A D) (hok : mOk A.2.1) (hv : mV A p) (hr : mRw A.2.1 zDp p = some (r, s)) (hfit : s + mLen A p ≤ (A.1 r).length) (h31 : (A.1 r).length ≤ 31) (hkk : ∀ t, t ∈ A.1 r → t.2.1 < 100) (hk : k < 100) : ∀ (l : List (Nat × Nat × Nat)) (n j : Nat), (sSeg A r s (mLen A p)).drop j = l → j ≤ mLen A p → l.length < n →
    f_M_firstOf_L2 K1 K2 n G o (nI p) (nI k) (nI j) = match sFi k l j with
      | some i => K1 G (nI i)
      | none => K2 G
  | _, 0, _, _, _, h => absurd h (Nat.not_lt_zero _)
  | [], n + 1, j, hd, hj, _ => by
    have hsl := sSeg_len hfit
    have : mLen A p ≤ j := by
      have := congrArg List.length hd
      rw [List.length_drop, hsl] at this
      simp at this; omega
    unfold f_M_firstOf_L2
    rw [gOb_of h.2.2.1 rfl, s_len h hok hv, bI_rI, if_pos (nI_le this (by omega))]; rfl
  | t :: ts, n + 1, j, hd, hj, hn => by
    have hsl := sSeg_len hfit
    have hs : (sSeg A r s (mLen A p))[j]? = some t := by
      have : ((sSeg A r s (mLen A p)).drop j)[0]? = some t := by rw [hd]; rfl
      rw [List.getElem?_drop] at this; exact this
    have hjl : j < mLen A p := by
      have := (List.getElem?_eq_some_iff.mp hs).1
      omega
    rw [sSeg_at hjl] at hs
    have hth := s_th h (mRw_lt _ _ _ _ hr) hs
    have hd' : (sSeg A r s (mLen A p)).drop (j + 1) = ts := by rw [← List.drop_drop, hd]; rfl
    have hkt := hkk t (List.mem_of_getElem? hs)
    unfold f_M_firstOf_L2
    rw [gOb_of h.2.2.1 rfl, s_len h hok hv, bI_rI, if_neg (nI_ge hjl (by omega)), gOb_of h.2.2.1 rfl, s_at h hok hv hr hs, bA_rA, hth.key]
    unfold sFi
    by_cases e : t.2.1 = k
    · rw [if_pos (by rw [e]), if_pos e]
    · rw [if_neg (fun q => e ((nI_eq (by omega) (by omega)).mp q)), if_neg e, nI_add]
      exact m_firstL h hok hv hr hfit h31 hkk hk ts n (j + 1) hd' (by omega) (by simp at hn; omega)
theorem s_first {p r s k : Nat} (h : MS w o G A D) (hok : mOk A.2.1) (hv : mV A p) (hr : mRw A.2.1 zDp p = some (r, s)) (hfit : s + mLen A p ≤ (A.1 r).length) (h31 : (A.1 r).length ≤ 31) (hkk : ∀ t, t ∈ A.1 r → t.2.1 < 100) (hk : k < 100) :
    f_M_firstOf G o (nI p) (nI k) = rI (sNo (sFi k (sSeg A r s (mLen A p)) 0)) G := by
  unfold f_M_firstOf
  rw [m_firstL h hok hv hr hfit h31 hkk hk _ zFu 0 (List.drop_zero ..) (Nat.zero_le _) (by rw [sSeg_len hfit]; unfold zFu; omega)]
  cases sFi k (sSeg A r s (mLen A p)) 0 <;> rfl
theorem m_takeAllL {K : gH → Nat → Int32 → Int32 → gR} {p r s q : Nat} {g : Nat → Bool} (hok : mOk A.2.1) (hv : mV A p) (hr : mRw A.2.1 zDp p = some (r, s)) (hfit : s + mLen A p ≤ (A.1 r).length) (h31 : (A.1 r).length ≤ 31) (hkk : ∀ t, t ∈ A.1 r → t.2.1 < 31) : ∀ (j n : Nat) (G : gH), j ≤ mLen A p → j < n → MS w o G (mRows A r (sRj g (A.1 r) s (mLen A p) j)) D → isBo G q g →
    ∃ G', f_M_takeAll_L11 K n G o (nI p) q (nI ((A.1 r).length - (sRj g (A.1 r) s (mLen A p) j).length)) (nI j + (-1)) = K G' o (nI p) (nI ((A.1 r).length - (sLeft g (A.1 r) s (mLen A p)).length)) ∧ MS w o G' (mRows A r (sLeft g (A.1 r) s (mLen A p))) D ∧ mSt 0 0 G G'
  | _, 0, _, _, h, _, _ => absurd h (Nat.not_lt_zero _)
  | 0, n + 1, G, _, _, h, _ => by
    rw [sRj_0] at h ⊢
    refine ⟨G, ?_, h, mSt.refl⟩
    unfold f_M_takeAll_L11
    rw [if_pos (by decide)]
  | j + 1, n + 1, G, hj, hn, h, hb => by
    have hr2 := mRw_lt _ _ _ _ hr
    have hjl : s + j < (A.1 r).length := by omega
    have ht := List.getElem?_eq_getElem hjl
    generalize (A.1 r)[s + j] = t at ht
    have hkt := hkk t (List.mem_of_getElem? ht)
    obtain ⟨c1, c2, c3⟩ := sRj_step (g := g) (s := s) (len := mLen A p) (j := j) (by omega) ht
    have hle : (sRj g (A.1 r) s (mLen A p) (j + 1)).length ≤ 31 := by
      have := h.2.2.2.2.2.2.2.2.2.2.2 r hr2
      rw [mRows_at] at this; exact this
    have hat : ((mRows A r (sRj g (A.1 r) s (mLen A p) (j + 1))).1 r)[s + j]? = some t := by rw [mRows_at]; exact c1
    have hth := s_th h hr2 hat
    have hsl : ∀ i, i ≤ mLen A p → (sRj g (A.1 r) s (mLen A p) i).length ≤ (A.1 r).length := by
      intro i hi
      unfold sRj
      rw [List.length_append, List.length_append, List.length_take, List.length_drop]
      have h1 := List.length_filter_le (fun t : Nat × Nat × Nat => !g t.2.1) ((((A.1 r).drop s).take (mLen A p)).drop i)
      rw [List.length_drop, List.length_take, List.length_drop] at h1
      omega
    have hl1 := hsl (j + 1) hj
    unfold f_M_takeAll_L11
    rw [nI_m1, if_neg (nI_pos (by omega)), gOb_of h.2.2.1 rfl, s_at h hok hv hr hat, bA_rA, hth.key, hb.ld hkt, mB_if]
    by_cases hg : g t.2.1 = true
    · rw [if_pos hg] at c2 c3
      obtain ⟨G1, a1, a2, a3, -⟩ := s_take h hok hv hr hat
      rw [mRows_at, mRows_mRows, c2] at a2
      obtain ⟨G', b1, b2, b3⟩ := m_takeAllL (K := K) (q := q) hok hv hr hfit h31 hkk j n G1 (by omega) (by omega) a2 (hb.st a3 h.1)
      refine ⟨G', ?_, b2, (a3.trans b3).mono (by omega) (by omega)⟩
      rw [if_pos hg, gOb_of h.2.2.1 rfl, a1, bA_rA, nI_add, show (A.1 r).length - (sRj g (A.1 r) s (mLen A p) (j + 1)).length + 1 = (A.1 r).length - (sRj g (A.1 r) s (mLen A p) j).length by omega]
      exact b1
    · rw [if_neg hg] at c2 c3
      rw [c2] at h
      obtain ⟨G', b1, b2, b3⟩ := m_takeAllL (K := K) (q := q) hok hv hr hfit h31 hkk j n G (by omega) (by omega) h hb
      refine ⟨G', ?_, b2, b3⟩
      rw [if_neg hg, show (A.1 r).length - (sRj g (A.1 r) s (mLen A p) (j + 1)).length = (A.1 r).length - (sRj g (A.1 r) s (mLen A p) j).length by omega]
      exact b1
theorem neg_nI (a : Nat) : -(nI a) = Int32.ofInt (-(a : Int)) := by rw [Int32.ofInt_neg, ofInt_nI]
theorem s_takeAll {p r s q : Nat} {g : Nat → Bool} (h : MS w o G A D) (hw : mInw (-1) p A) (hv : mV A p) (hr : mRw A.2.1 zDp p = some (r, s)) (hkk : ∀ t, t ∈ A.1 r → t.2.1 < 31) (hb : isBo G q g) :
    ∃ (G' : gH) (D' : mD), f_M_takeAll G o (nI p) q = rI (nI ((A.1 r).length - (sLeft g (A.1 r) s (mLen A p)).length)) G' ∧ MS w o G' (mChange (mRows A r (sLeft g (A.1 r) s (mLen A p))) p (((sLeft g (A.1 r) s (mLen A p)).length : Int) - ((A.1 r).length : Int)) (-1)) D' ∧ mSt 0 0 G G' := by
  have hfit := hw.2.1.rw _ _ _ _ hr
  have h31 := hw.2.2.1 r (mRw_lt _ _ _ _ hr)
  have hsl := sLeft_len g (A.1 r) hfit
  obtain ⟨G1, a1, a2, a3⟩ := m_takeAllL (K := fun G23 x20 x21 x22 => gOb G23 x20 6 fun o25 => bV (f_M_change G23 x20 x21 (-x22) (-1)) fun G27 => rI x22 G27) (q := q) (g := g) (w := w) (o := o) (D := D) hw.1 hv hr hfit h31 hkk (mLen A p) zFu G (Nat.le_refl _) (by unfold zFu; omega) (by rw [sRj_top hfit, mRows_self]; exact h) hb
  rw [sRj_top hfit, Nat.sub_self] at a1
  obtain ⟨G2, F, b1, b2, b3⟩ := s_change (exc := -1) (z := ((sLeft g (A.1 r) s (mLen A p)).length : Int) - ((A.1 r).length : Int)) a2 hw hv hr (by omega) (by omega) (by omega)
  refine ⟨G2, _, ?_, b2, (a3.trans b3.st).mono (by omega) (by omega)⟩
  unfold f_M_takeAll
  rw [gOb_of h.2.2.1 rfl, s_len h hw.1 hv, bI_rI, nI_s1, a1, gOb_of a2.2.2.1 rfl, neg_nI, show -((((A.1 r).length - (sLeft g (A.1 r) s (mLen A p)).length : Nat)) : Int) = ((sLeft g (A.1 r) s (mLen A p)).length : Int) - ((A.1 r).length : Int) by omega, b1, bV_rV]
end Ref4
