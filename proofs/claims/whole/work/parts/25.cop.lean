-- the class: many things at once; all on a row ends
def sSw (g : Nat → Bool) : Nat → List (Nat × Nat × Nat) → List (Nat × Nat × Nat)
  | 0, l => l
  | _, [] => []
  | n + 1, t :: l => if g t.2.1 = true then sSw g n l else t :: sSw g n l
theorem sSw_eq (g : Nat → Bool) : ∀ (n : Nat) (l : List (Nat × Nat × Nat)), sSw g n l = (l.take n).filter (fun t => !g t.2.1) ++ l.drop n
  | 0, l => by simp [sSw]
  | n + 1, [] => by simp [sSw]
  | n + 1, t :: l => by
    unfold sSw
    rw [sSw_eq g n l]
    by_cases h : g t.2.1 = true
    · rw [if_pos h]; simp [h]
    · rw [if_neg h]; simp [h]
theorem sSw_len (g : Nat → Bool) (n : Nat) (l : List (Nat × Nat × Nat)) : (sSw g n l).length ≤ l.length ∧ l.length ≤ (sSw g n l).length + n := by
  rw [sSw_eq, List.length_append, List.length_drop]
  have h1 := List.length_filter_le (fun t : Nat × Nat × Nat => !g t.2.1) (l.take n)
  rw [List.length_take] at h1
  omega
theorem sSw_mem {g : Nat → Bool} {n : Nat} {l : List (Nat × Nat × Nat)} {t : Nat × Nat × Nat} (h : t ∈ sSw g n l) : t ∈ l := by
  rw [sSw_eq] at h
  rcases List.mem_append.mp h with k | k
  · exact List.mem_of_mem_take (List.mem_filter.mp k).1
  · exact List.mem_of_mem_drop k
/-- what a search by keys asks of goers -/
def gBit (goers : Int32) (g : Nat → Bool) : Prop := ∀ k, k < 31 → (((goers >>> (nI k &&& 31)) &&& nI 1) = nI 1 ↔ g k = true)
theorem cE_key {t : Nat × Nat × Nat} (h : t.2.1 < 32) : cE t &&& nI 31 = nI t.2.1 := by
  unfold cE
  rw [nI_and31, show (32 * t.2.2 + t.2.1) % 32 = t.2.1 by omega]
section Cop2
variable {b : Nat} {G : gH}
theorem y_sweepL {K : gH → Nat → Int32 → Int32 → Int32 → gR} {r p to : Nat} {goers : Int32} {g : Nat → Bool} {L : List (Nat × Nat × Nat)} (hr : r < 2) (hg : gBit goers g) (hk : ∀ t, t ∈ L → t.2.1 < 31) (hto : to < 100) (hL : L.length ≤ 31) : ∀ (d n j : Nat) (σ : cS) (done : List (Nat × Nat × Nat)), j + d = L.length → d < n → done.length ≤ j → σ.1 3 r = nI r → σ.1 4 r = nI 0 → cSeg (σ.1 0) (31 * r) done → cSeg (σ.1 0) (31 * r + j) (L.drop j) →
    ∃ f', f_I_sweepOut_L41 K n (cPut b σ G) (b + 1) (nI p) goers (nI r) (nI to) (nI L.length) (nI done.length) (nI j) = K (cPut b (cArr σ 0 f') G) (b + 1) (nI p) (nI L.length) (nI (done ++ sSw g (to - j) (L.drop j)).length) ∧ cOut r (σ.1 0) f' ∧ cSeg f' (31 * r) (done ++ sSw g (to - j) (L.drop j))
  | _, 0, _, _, _, _, h, _, _, _, _, _ => absurd h (Nat.not_lt_zero _)
  | 0, n + 1, j, σ, done, hj, _, hd, h3, h4, s1, s2 => by
    have e : L.drop j = [] := List.drop_eq_nil_of_le (by omega)
    have e2 : sSw g (to - j) (L.drop j) = [] := by rw [e, sSw_eq]; simp
    refine ⟨σ.1 0, ?_, cOut.refl, by rw [e2, List.append_nil]; exact s1⟩
    unfold f_I_sweepOut_L41
    rw [if_pos (nI_le (by omega) (by omega)), cArr_id, e2, List.append_nil]
  | d + 1, n + 1, j, σ, done, hj, hn, hd, h3, h4, s1, s2 => by
    have hjl : j < L.length := by omega
    have e : L.drop j = L[j] :: L.drop (j + 1) := List.drop_eq_getElem_cons hjl
    generalize ht : L[j] = t at e
    have htL : t ∈ L := by rw [← ht]; exact List.getElem_mem hjl
    have hk1 := hk t htL
    have hc : σ.1 0 (31 * r + 0 + j) = cE t := by
      have := s2 0 t (by rw [e]; rfl)
      rw [Nat.add_zero] at this ⊢; exact this
    have s3 : cSeg (σ.1 0) (31 * r + (j + 1)) (L.drop (j + 1)) := by
      intro i u hu
      have := s2 (i + 1) u (by rw [e]; simpa using hu)
      rw [show 31 * r + (j + 1) + i = 31 * r + j + (i + 1) by omega]; exact this
    -- a thing stays
    have stay : sSw g (to - j) (L.drop j) = t :: sSw g (to - (j + 1)) (L.drop (j + 1)) → ∃ f', f_I_sweepOut_L41 K n (cPut b (cArr σ 0 (upd (σ.1 0) (31 * r + 0 + done.length) (cE t))) G) (b + 1) (nI p) goers (nI r) (nI to) (nI L.length) (nI (done.length + 1)) (nI (j + 1)) =
        K (cPut b (cArr σ 0 f') G) (b + 1) (nI p) (nI L.length) (nI (done ++ sSw g (to - j) (L.drop j)).length) ∧ cOut r (σ.1 0) f' ∧ cSeg f' (31 * r) (done ++ sSw g (to - j) (L.drop j)) := by
      intro es
      obtain ⟨f', z1, z2, z3⟩ := y_sweepL (K := K) (p := p) hr hg hk hto hL d n (j + 1) (cArr σ 0 (upd (σ.1 0) (31 * r + 0 + done.length) (cE t))) (done ++ [t]) (by omega) (by omega) (by rw [List.length_append, List.length_singleton]; omega) (by rw [cArr_ne (by decide)]; exact h3) (by rw [cArr_ne (by decide)]; exact h4)
        (by
          rw [cArr_at]
          refine cSeg.app (s1.cong (fun i hi => ?_)) (cSeg.one ?_)
          · simp only [upd]; rw [if_neg (by omega)]
          · simp only [upd]; rw [if_pos (by omega)])
        (by
          rw [cArr_at]
          refine s3.cong (fun i hi => ?_)
          simp only [upd]; rw [if_neg (by omega)])
      rw [List.length_append, List.length_singleton, List.append_assoc, List.singleton_append, ← es, cArr_cArr] at z1
      rw [List.append_assoc, List.singleton_append, ← es] at z3
      rw [cArr_at] at z2
      refine ⟨f', z1, cOut.trans (fun q hq => ?_) z2, z3⟩
      simp only [upd]; rw [if_neg (by omega)]
    unfold f_I_sweepOut_L41
    rw [if_neg (nI_ge (by omega) (by omega)), c_ob_1, y_thing (by omega) h3 h4 (by omega), bI_rI, hc]
    by_cases htj : to ≤ j
    · have es : sSw g (to - j) (L.drop j) = t :: sSw g (to - (j + 1)) (L.drop (j + 1)) := by
        rw [show to - j = 0 by omega, show to - (j + 1) = 0 by omega, e]
        unfold sSw; rfl
      rw [if_pos (nI_le htj (by omega)), if_pos (show nI 0 = 0 from rfl), c_ob_1, y_write (by omega) h3 h4 (by omega), bV_rV, nI_add, nI_add]
      exact stay es
    · rw [if_neg (nI_ge (by omega) (by omega))]
      unfold f_X_keyOf
      rw [bI_rI, cE_key (by omega)]
      have e2 : to - j = (to - (j + 1)) + 1 := by omega
      by_cases hgo : g t.2.1 = true
      · have es : sSw g (to - j) (L.drop j) = sSw g (to - (j + 1)) (L.drop (j + 1)) := by
          rw [e2, e]
          show (if g t.2.1 = true then sSw g (to - (j + 1)) (L.drop (j + 1)) else _) = _
          rw [if_pos hgo]
        rw [if_pos ((hg _ hk1).mpr hgo), if_neg (show ¬ nI 1 = 0 by decide), nI_add, es]
        exact y_sweepL hr hg hk hto hL d n (j + 1) σ done (by omega) (by omega) (by omega) h3 h4 s1 s3
      · have es : sSw g (to - j) (L.drop j) = t :: sSw g (to - (j + 1)) (L.drop (j + 1)) := by
          rw [e2, e]
          show (if g t.2.1 = true then _ else t :: sSw g (to - (j + 1)) (L.drop (j + 1))) = _
          rw [if_neg hgo]
        rw [if_neg (fun q => hgo ((hg _ hk1).mp q)), if_pos (show nI 0 = 0 from rfl), c_ob_1, y_write (by omega) h3 h4 (by omega), bV_rV, nI_add, nI_add]
        exact stay es
theorem nI_dif (a c : Nat) : nI a - nI c = Int32.ofInt ((a : Int) - (c : Int)) := by
  rw [Int32.ofInt_sub, ofInt_nI, ofInt_nI]
theorem mChange_0 {A : mS} {r p : Nat} {exc : Int32} {z : Int} (hz : z = 0) : mChange (mRows A r (A.1 r)) p z exc = A := by
  unfold mChange
  rw [if_pos hz]
  refine Prod.ext ?_ rfl
  funext i
  show (if i = r then A.1 r else A.1 i) = A.1 i
  by_cases e : i = r
  · rw [if_pos e, e]
  · rw [if_neg e]
/-- what is left of a row when things of a list with such keys go -/
def sLeft (g : Nat → Bool) (L : List (Nat × Nat × Nat)) (s len : Nat) : List (Nat × Nat × Nat) := L.take s ++ sSw g len (L.drop s)
theorem sLeft_len (g : Nat → Bool) (L : List (Nat × Nat × Nat)) {s len : Nat} (h : s + len ≤ L.length) : (sLeft g L s len).length ≤ L.length ∧ L.length ≤ (sLeft g L s len).length + len := by
  unfold sLeft
  have := sSw_len g len (L.drop s)
  rw [List.length_drop] at this
  rw [List.length_append, List.length_take]
  omega
theorem sSw_all {g : Nat → Bool} : ∀ (n : Nat) (l : List (Nat × Nat × Nat)), (sSw g n l).length = l.length → sSw g n l = l
  | 0, l, _ => by unfold sSw; rfl
  | n + 1, [], _ => by unfold sSw; rfl
  | n + 1, t :: l, h => by
    unfold sSw at h ⊢
    by_cases hg : g t.2.1 = true
    · rw [if_pos hg] at h
      have := (sSw_len g n l).1
      simp only [List.length_cons] at h
      omega
    · rw [if_neg hg] at h ⊢
      rw [sSw_all n l (by simpa using h)]
theorem sLeft_all {g : Nat → Bool} {L : List (Nat × Nat × Nat)} {s len : Nat} (h : (sLeft g L s len).length = L.length) : sLeft g L s len = L := by
  unfold sLeft at h ⊢
  rw [sSw_all len (L.drop s) (by rw [List.length_append, List.length_take] at h; rw [List.length_drop]; have := (sSw_len g len (L.drop s)).1; rw [List.length_drop] at this; omega), List.take_append_drop]
theorem x_takeOutAll {A : mS} {σ : cS} {p r s : Nat} {goers : Int32} {g : Nat → Bool} (h : CRepx (-1) σ A) (hw : mInw (-1) p A) (hv : mV A p) (hr : mRw A.2.1 zDp p = some (r, s)) (hg : gBit goers g) (hk : ∀ t, t ∈ A.1 r → t.2.1 < 31) :
    ∃ σ', f_X_takeOutAll (cPut b σ G) b (nI p) goers = rI (nI ((A.1 r).length - (sLeft g (A.1 r) s (mLen A p)).length)) (cPut b σ' G) ∧ CRepx (-1) σ' (mChange (mRows A r (sLeft g (A.1 r) s (mLen A p))) p (((sLeft g (A.1 r) s (mLen A p)).length : Int) - ((A.1 r).length : Int)) (-1)) := by
  have hr2 := mRw_lt _ _ _ _ hr
  have hp := hv.lt hw.1
  have hfit := hw.2.1.rw _ _ _ _ hr
  have h31 := hw.2.2.1 r hr2
  have hrr : mRw A.2.1 zDp r = some (r, 0) := by
    show mRw A.2.1 (7 + 1) r = _
    unfold mRw; rw [if_pos hr2]
  obtain ⟨e3, e4⟩ := h.2.2.2.2.1 p r s hp hr
  obtain ⟨f3, f4⟩ := h.2.2.2.2.1 r r 0 (by omega) hrr
  have hseg := h.1.seg hr2
  have hs : ((A.1 r).take s).length = s := by rw [List.length_take]; omega
  have hsl := sLeft_len g (A.1 r) hfit
  obtain ⟨f', z1, z2, z3⟩ := y_sweepL (b := b) (G := G) (p := p) (K := fun G52 x48 x49 x50 x51 => gOb G52 x48 1 fun o54 => bV (f_I_lengthen G52 x48 x49 (x51 - x50)) fun G56 => rI (x50 - x51) G56) (to := s + mLen A p) hr2 hg hk (by omega) h31 ((A.1 r).length - s) zFu s σ ((A.1 r).take s) (by omega) (by unfold zFu; omega) (by rw [hs]; exact Nat.le_refl _) f3 f4 hseg.take hseg.drop
  rw [show s + mLen A p - s = mLen A p by omega, hs] at z1
  rw [show s + mLen A p - s = mLen A p by omega] at z3
  change cSeg f' (31 * r) (sLeft g (A.1 r) s (mLen A p)) at z3
  rw [show (A.1 r).take s ++ sSw g (mLen A p) ((A.1 r).drop s) = sLeft g (A.1 r) s (mLen A p) from rfl] at z1
  have zS : f_I_sweepOut (cPut b σ G) (b + 1) (nI p) goers = rI (nI ((A.1 r).length - (sLeft g (A.1 r) s (mLen A p)).length)) (cPut b (cArr (cArr σ 0 f') 1 (fun q => if mAb A.2.1 zDp q p = true then σ.1 1 q + Int32.ofInt (((sLeft g (A.1 r) s (mLen A p)).length : Int) - ((A.1 r).length : Int)) else σ.1 1 q)) G) := by
    unfold f_I_sweepOut
    simp only [x_row h hw.1 hv hr, x_len h hw.1 hv, x_len h hw.1 (Or.inl hr2), c_ob_0, c_fa_0_0, c_fa_0_1, c_fi_0_2, c_put_0_2, c_fi_0_3, c_put_0_3, c_fi_0_4, c_put_0_4, c_ob_1, c_fa_1_0, c_fa_1_1, c_fa_1_2, c_fa_1_3, c_fa_1_4, c_fa_1_5, c_fi_1_6, c_put_1_6, c_ob_2, c_fa_2_0, c_ob_4, c_fa_4_0, c_ob_6, c_fa_6_0, c_ob_8, c_fa_8_0, c_ob_10, c_fa_10_0, c_ob_12, c_fa_12_0, c_ob_14, c_fa_14_0, c_fa_14_1, c_fa_14_2, c_fa_14_3, c_fi_14_4, c_put_14_4, c_ob_15, c_fa_15_0, c_ob_17, c_fa_17_0, c_ob_19, c_fa_19_0, c_ob_21, c_fa_21_0, c_len_0, c_ld_0, c_st_0, c_rd_0, c_wr_0, c_len_1, c_ld_1, c_st_1, c_rd_1, c_wr_1, c_len_2, c_ld_2, c_st_2, c_rd_2, c_wr_2, c_len_3, c_ld_3, c_st_3, c_rd_3, c_wr_3, c_len_4, c_ld_4, c_st_4, c_rd_4, c_wr_4, c_len_5, c_ld_5, c_st_5, c_rd_5, c_wr_5, c_len_6, c_ld_6, c_st_6, c_rd_6, c_wr_6, c_len_7, c_ld_7, c_st_7, c_rd_7, c_wr_7, c_len_8, c_ld_8, c_st_8, c_rd_8, c_wr_8, c_len_9, c_ld_9, c_st_9, c_rd_9, c_wr_9, bI_rI, bL_rL, bA_rA, bV_rV, bI_th, bL_th, bA_th, bV_th, rZ_0, rZ_1]
    rw [rd_nI hp (by decide), e4, nI_add, mLen_row hr2, z1, c_ob_1, y_lengthen hw.1 hp hv (by rw [cArr_ne (by decide)]; exact h.2.2.2.1), bV_rV, cArr_ne (by decide), nI_sub hsl.1, nI_dif]
  unfold f_X_takeOutAll
  simp only [zS, c_ob_0, c_fa_0_0, c_fa_0_1, c_fi_0_2, c_put_0_2, c_fi_0_3, c_put_0_3, c_fi_0_4, c_put_0_4, c_ob_1, c_fa_1_0, c_fa_1_1, c_fa_1_2, c_fa_1_3, c_fa_1_4, c_fa_1_5, c_fi_1_6, c_put_1_6, c_ob_2, c_fa_2_0, c_ob_4, c_fa_4_0, c_ob_6, c_fa_6_0, c_ob_8, c_fa_8_0, c_ob_10, c_fa_10_0, c_ob_12, c_fa_12_0, c_ob_14, c_fa_14_0, c_fa_14_1, c_fa_14_2, c_fa_14_3, c_fi_14_4, c_put_14_4, c_ob_15, c_fa_15_0, c_ob_17, c_fa_17_0, c_ob_19, c_fa_19_0, c_ob_21, c_fa_21_0, c_len_0, c_ld_0, c_st_0, c_rd_0, c_wr_0, c_len_1, c_ld_1, c_st_1, c_rd_1, c_wr_1, c_len_2, c_ld_2, c_st_2, c_rd_2, c_wr_2, c_len_3, c_ld_3, c_st_3, c_rd_3, c_wr_3, c_len_4, c_ld_4, c_st_4, c_rd_4, c_wr_4, c_len_5, c_ld_5, c_st_5, c_rd_5, c_wr_5, c_len_6, c_ld_6, c_st_6, c_rd_6, c_wr_6, c_len_7, c_ld_7, c_st_7, c_rd_7, c_wr_7, c_len_8, c_ld_8, c_st_8, c_rd_8, c_wr_8, c_len_9, c_ld_9, c_st_9, c_rd_9, c_wr_9, bI_rI, bL_rL, bA_rA, bV_rV, bI_th, bL_th, bA_th, bV_th, rZ_0, rZ_1]
  generalize hts : sLeft g (A.1 r) s (mLen A p) = ts at *
  by_cases hz : (A.1 r).length - ts.length = 0
  · have hle : ts.length = (A.1 r).length := by omega
    have hts' : ts = A.1 r := by
      rw [← hts]
      exact sLeft_all (by rw [hts]; exact hle)
    rw [hz, if_pos (by decide)]
    refine ⟨_, rfl, ?_⟩
    rw [hts', mChange_0 (by omega)]
    have e1 : (fun q => if mAb A.2.1 zDp q p = true then σ.1 1 q + Int32.ofInt (((A.1 r).length : Int) - ((A.1 r).length : Int)) else σ.1 1 q) = (cArr σ 0 f').1 1 := by
      rw [cArr_ne (by decide)]
      funext q
      rw [show ((A.1 r).length : Int) - ((A.1 r).length : Int) = ((0 : Nat) : Int) by omega, ofInt_nI, add_nI0]
      split <;> rfl
    rw [e1, cArr_id]
    refine ⟨?_, h.2.1, h.2.2⟩
    have z4 : cSeg f' (31 * r) (A.1 r) := by rw [← hts']; exact z3
    have := h.1.row hw.2.2.1 z2 z4
    have e2 : (fun i => if i = r then A.1 r else A.1 i) = A.1 := by
      funext i
      by_cases e : i = r
      · rw [if_pos e, e]
      · rw [if_neg e]
    rw [e2] at this
    rw [cArr_at]; exact this
  · obtain ⟨σ', y1, y2, -, -⟩ := x_chg (b := b) (G := G) (exc := -1) (z := ((ts.length : Int) - ((A.1 r).length : Int))) (f' := f') (ts := ts) hw h hv hr (by omega) (by omega) (by omega) (by omega) (by omega) z2 z3
    rw [if_neg (nI_nle (by omega) (by omega)), y1, bV_rV]
    exact ⟨σ', rfl, y2⟩
def cCp (f : Nat → Int32) (dst src j c : Nat) : Nat → Int32 := fun q => if dst + j ≤ q ∧ q < dst + c then f (src + (q - dst)) else f q
theorem y_bringL {K : gH → Nat → Int32 → Int32 → gR} {r s i p r2 s2 q c : Nat} (hr : r < 2) (hr2 : r2 < 2) (hne : r ≠ r2) (hp : p < 6) (hq : q < 6) (h1 : s + i + c ≤ 31) (h2 : s2 + c ≤ 31) : ∀ (d n j : Nat) (σ : cS), j + d = c → d < n → σ.1 3 p = nI r → σ.1 4 p = nI s → σ.1 3 q = nI r2 → σ.1 4 q = nI s2 →
    f_X_bringAll_L24 K n (cPut b σ G) b (nI p) (nI i) (nI q) (nI c) (nI j) = K (cPut b (cArr σ 0 (cCp (σ.1 0) (31 * r + s + i) (31 * r2 + s2) j c)) G) b (nI p) (nI c)
  | _, 0, _, _, _, h, _, _, _, _ => absurd h (Nat.not_lt_zero _)
  | 0, n + 1, j, σ, hj, _, _, _, _, _ => by
    unfold f_X_bringAll_L24
    rw [if_pos (nI_le (by omega) (by omega))]
    have e : cCp (σ.1 0) (31 * r + s + i) (31 * r2 + s2) j c = σ.1 0 := by
      funext x
      exact if_neg (by omega)
    rw [e, cArr_id]
  | d + 1, n + 1, j, σ, hj, hn, g1, g2, g3, g4 => by
    unfold f_X_bringAll_L24
    rw [if_neg (nI_ge (by omega) (by omega)), c_fa_0_0, c_fa_0_0, c_ob_1, y_thing hq g3 g4 (by omega), bI_rI, c_ob_1, nI_add, y_write hp g1 g2 (by omega), bV_rV, nI_add,
      y_bringL hr hr2 hne hp hq h1 h2 d n (j + 1) _ (by omega) (by omega) (by rw [cArr_ne (by decide)]; exact g1) (by rw [cArr_ne (by decide)]; exact g2) (by rw [cArr_ne (by decide)]; exact g3) (by rw [cArr_ne (by decide)]; exact g4), cArr_cArr, cArr_at]
    congr 3
    funext x
    simp only [cCp, upd]
    (repeat' split) <;> first | rfl | (exfalso; omega) | (refine congrArg (σ.1 0) ?_; omega)
/-- the row with others brought in -/
def sIns (L M : List (Nat × Nat × Nat)) (i : Nat) : List (Nat × Nat × Nat) := L.take i ++ (M ++ L.drop i)
def sSeg (A : mS) (r s n : Nat) : List (Nat × Nat × Nat) := ((A.1 r).drop s).take n
theorem sSeg_len {A : mS} {r s n : Nat} (h : s + n ≤ (A.1 r).length) : (sSeg A r s n).length = n := by
  unfold sSeg
  rw [List.length_take, List.length_drop]; omega
theorem sIns_len {L M : List (Nat × Nat × Nat)} {i : Nat} : (sIns L M i).length = L.length + M.length := by
  unfold sIns
  rw [List.length_append, List.length_append, List.length_take, List.length_drop]; omega
theorem x_bringAll {A : mS} {σ : cS} {p r s i q r2 s2 : Nat} (h : CRepx (-1) σ A) (hw : mInw (-1) p A) (hv : mV A p) (hr : mRw A.2.1 zDp p = some (r, s)) (hq : mV A q) (hrq : mRw A.2.1 zDp q = some (r2, s2)) (hne : r ≠ r2) (hi : i ≤ mLen A p) (hl : (A.1 r).length + mLen A q ≤ 31) :
    ∃ σ', f_X_bringAll (cPut b σ G) b (nI p) (nI i) (nI q) = rI (nI (mLen A q)) (cPut b σ' G) ∧ CRepx (-1) σ' (mChange (mRows A r (sIns (A.1 r) (sSeg A r2 s2 (mLen A q)) (s + i))) p (mLen A q : Int) (-1)) := by
  have hr2 := mRw_lt _ _ _ _ hr
  have hq2 := mRw_lt _ _ _ _ hrq
  have hp := hv.lt hw.1
  have hq6 := hq.lt hw.1
  have hfit := hw.2.1.rw _ _ _ _ hr
  have hfitq := hw.2.1.rw _ _ _ _ hrq
  have h31 := hw.2.2.1 r2 hq2
  obtain ⟨e3, e4⟩ := h.2.2.2.2.1 p r s hp hr
  obtain ⟨g3, g4⟩ := h.2.2.2.2.1 q r2 s2 hq6 hrq
  have hseg := h.1.seg hr2
  have hsegq := h.1.seg hq2
  generalize hf' : cCp (cUpS (σ.1 0) (31 * r + (s + i)) (31 * r + (A.1 r).length) (mLen A q)) (31 * r + s + i) (31 * r2 + s2) 0 (mLen A q) = f'
  have zB : ∀ K : gH → Nat → Int32 → Int32 → gR, f_X_bringAll_L24 K zFu (cPut b (cArr (cArr σ 0 (cUpS (σ.1 0) (31 * r + (s + i)) (31 * r + (A.1 r).length) (mLen A q))) 1 (fun x => if mAb A.2.1 zDp x p = true then σ.1 1 x + nI (mLen A q) else σ.1 1 x)) G) b (nI p) (nI i) (nI q) (nI (mLen A q)) (nI 0) =
      K (cPut b (cArr (cArr σ 0 f') 1 (fun x => if mAb A.2.1 zDp x p = true then σ.1 1 x + Int32.ofInt (mLen A q : Int) else σ.1 1 x)) G) b (nI p) (nI (mLen A q)) := by
    intro K
    rw [y_bringL (r := r) (s := s) (r2 := r2) (s2 := s2) hr2 hq2 hne hp hq6 (by omega) (by omega) (mLen A q) zFu 0 _ (by omega) (by unfold zFu; omega) (by rw [cArr_ne (by decide), cArr_ne (by decide)]; exact e3) (by rw [cArr_ne (by decide), cArr_ne (by decide)]; exact e4) (by rw [cArr_ne (by decide), cArr_ne (by decide)]; exact g3) (by rw [cArr_ne (by decide), cArr_ne (by decide)]; exact g4), cArr_ne (by decide), cArr_at, hf', cArr_comm (by decide), cArr_cArr, ofInt_nI]
  unfold f_X_bringAll
  simp only [x_len h hw.1 hq, x_openGap hw.1 hp hv hr h.2.2.2.1 h.2.2.2.2.1 (h.2.1 r hr2) (show s + i ≤ (A.1 r).length by omega) hl, zB, c_ob_0, c_fa_0_0, c_fa_0_1, c_fi_0_2, c_put_0_2, c_fi_0_3, c_put_0_3, c_fi_0_4, c_put_0_4, c_ob_1, c_fa_1_0, c_fa_1_1, c_fa_1_2, c_fa_1_3, c_fa_1_4, c_fa_1_5, c_fi_1_6, c_put_1_6, c_ob_2, c_fa_2_0, c_ob_4, c_fa_4_0, c_ob_6, c_fa_6_0, c_ob_8, c_fa_8_0, c_ob_10, c_fa_10_0, c_ob_12, c_fa_12_0, c_ob_14, c_fa_14_0, c_fa_14_1, c_fa_14_2, c_fa_14_3, c_fi_14_4, c_put_14_4, c_ob_15, c_fa_15_0, c_ob_17, c_fa_17_0, c_ob_19, c_fa_19_0, c_ob_21, c_fa_21_0, c_len_0, c_ld_0, c_st_0, c_rd_0, c_wr_0, c_len_1, c_ld_1, c_st_1, c_rd_1, c_wr_1, c_len_2, c_ld_2, c_st_2, c_rd_2, c_wr_2, c_len_3, c_ld_3, c_st_3, c_rd_3, c_wr_3, c_len_4, c_ld_4, c_st_4, c_rd_4, c_wr_4, c_len_5, c_ld_5, c_st_5, c_rd_5, c_wr_5, c_len_6, c_ld_6, c_st_6, c_rd_6, c_wr_6, c_len_7, c_ld_7, c_st_7, c_rd_7, c_wr_7, c_len_8, c_ld_8, c_st_8, c_rd_8, c_wr_8, c_len_9, c_ld_9, c_st_9, c_rd_9, c_wr_9, bI_rI, bL_rL, bA_rA, bV_rV, bI_th, bL_th, bA_th, bV_th, rZ_0, rZ_1]
  by_cases hz : mLen A q = 0
  · rw [hz, if_pos (by decide)]
    refine ⟨_, rfl, ?_⟩
    have et : sIns (A.1 r) (sSeg A r2 s2 0) (s + i) = A.1 r := by
      unfold sIns sSeg
      rw [List.take_zero, List.nil_append, List.take_append_drop]
    rw [et, mChange_0 (z := ((0 : Nat) : Int)) rfl]
    have ef : f' = σ.1 0 := by
      rw [← hf', hz]
      funext x
      simp only [cCp, cUpS]
      rw [if_neg (by omega)]
      split
      · rfl
      · rfl
    have e1 : (fun x => if mAb A.2.1 zDp x p = true then σ.1 1 x + Int32.ofInt ((0 : Nat) : Int) else σ.1 1 x) = (cArr σ 0 f').1 1 := by
      rw [cArr_ne (by decide)]
      funext x
      rw [ofInt_nI, add_nI0]
      split <;> rfl
    rw [e1, cArr_id, ef, cArr_id]
    exact h
  · have hM := sSeg_len hfitq
    obtain ⟨σ', y1, y2, -, -⟩ := x_chg (b := b) (G := G) (exc := -1) (z := (mLen A q : Int)) (f' := f') (ts := sIns (A.1 r) (sSeg A r2 s2 (mLen A q)) (s + i)) hw h hv hr (by omega) (by omega) (by rw [sIns_len, hM]; omega) (by rw [sIns_len, hM]; omega) (by omega)
      (by
        intro x hx
        rw [← hf']
        simp only [cCp, cUpS]
        rw [if_neg (by omega), if_neg (by omega)])
      (by
        unfold sIns
        refine cSeg.app ?_ ?_
        · refine (hseg.take (n := s + i)).cong (fun j hj => ?_)
          rw [List.length_take] at hj
          rw [← hf']
          simp only [cCp, cUpS]
          rw [if_neg (by omega), if_neg (by omega)]
        · rw [List.length_take, Nat.min_eq_left (by omega)]
          refine cSeg.app ?_ ?_
          · intro j u hu
            have hj : j < (sSeg A r2 s2 (mLen A q)).length := (List.getElem?_eq_some_iff.mp hu).1
            rw [hM] at hj
            rw [← hf']
            simp only [cCp, cUpS]
            rw [if_pos (by omega), if_neg (by omega), show 31 * r2 + s2 + (31 * r + (s + i) + j - (31 * r + s + i)) = 31 * r2 + s2 + j by omega]
            exact (hsegq.drop (n := s2)).take j u hu
          · rw [hM]
            intro j u hu
            have hj : j < ((A.1 r).drop (s + i)).length := (List.getElem?_eq_some_iff.mp hu).1
            rw [List.length_drop] at hj
            rw [← hf']
            simp only [cCp, cUpS]
            rw [if_neg (by omega), if_pos (by omega), show 31 * r + (s + i) + mLen A q + j - mLen A q = 31 * r + (s + i) + j by omega]
            exact hseg.drop (n := s + i) j u hu)
    rw [if_neg (nI_nle (by omega) (by omega)), y1, bV_rV]
    exact ⟨σ', rfl, y2⟩
end Cop2
