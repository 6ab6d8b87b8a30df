-- the class: things in rows
def cSeg (f : Nat → Int32) (o : Nat) (ts : List (Nat × Nat × Nat)) : Prop := ∀ i t, ts[i]? = some t → f (o + i) = cE t
def cOut (r : Nat) (f g : Nat → Int32) : Prop := ∀ q, ¬ (31 * r ≤ q ∧ q < 31 * r + 31) → g q = f q
theorem cOut.refl {r : Nat} {f : Nat → Int32} : cOut r f f := fun _ _ => rfl
theorem cOut.trans {r : Nat} {f g h : Nat → Int32} (a : cOut r f g) (c : cOut r g h) : cOut r f h := fun q hq => (c q hq).trans (a q hq)
theorem cOut.up {r i : Nat} {f : Nat → Int32} {x : Int32} (hi : i < 31) : cOut r f (upd f (31 * r + i) x) := by
  intro q hq
  simp only [upd]
  rw [if_neg (by omega)]
theorem cTh.seg {f : Nat → Int32} {R : Nat → List (Nat × Nat × Nat)} (h : cTh f R) {r : Nat} (hr : r < 2) : cSeg f (31 * r) (R r) := fun i t ht => h r i t hr ht
theorem cTh.row {f g : Nat → Int32} {R : Nat → List (Nat × Nat × Nat)} {r : Nat} {ts : List (Nat × Nat × Nat)} (h : cTh f R) (hl : ∀ r, r < 2 → (R r).length ≤ 31) (ho : cOut r f g) (hs : cSeg g (31 * r) ts) : cTh g (fun i => if i = r then ts else R i) := by
  intro r' i t hr' ht
  simp only at ht
  by_cases e : r' = r
  · rw [if_pos e] at ht; rw [e]; exact hs i t ht
  · rw [if_neg e] at ht
    have hi : i < (R r').length := (List.getElem?_eq_some_iff.mp ht).1
    have := hl r' hr'
    rw [ho _ (by omega)]
    exact h r' i t hr' ht
theorem cSeg.take {f : Nat → Int32} {o n : Nat} {ts : List (Nat × Nat × Nat)} (h : cSeg f o ts) : cSeg f o (ts.take n) := by
  intro i t ht
  rw [List.getElem?_take] at ht
  split at ht
  · exact h i t ht
  · cases ht
theorem cSeg.drop {f : Nat → Int32} {o n : Nat} {ts : List (Nat × Nat × Nat)} (h : cSeg f o ts) : cSeg f (o + n) (ts.drop n) := by
  intro i t ht
  rw [List.getElem?_drop] at ht
  rw [Nat.add_assoc]; exact h (n + i) t ht
theorem cSeg.app {f : Nat → Int32} {o : Nat} {ts us : List (Nat × Nat × Nat)} (h : cSeg f o ts) (h2 : cSeg f (o + ts.length) us) : cSeg f o (ts ++ us) := by
  intro i t ht
  rw [List.getElem?_append] at ht
  split at ht
  · exact h i t ht
  · next hn =>
    have := h2 _ t ht
    rw [show o + i = o + ts.length + (i - ts.length) by omega]; exact this
theorem cSeg.cong {f g : Nat → Int32} {o : Nat} {ts : List (Nat × Nat × Nat)} (h : cSeg f o ts) (hg : ∀ i, i < ts.length → g (o + i) = f (o + i)) : cSeg g o ts := by
  intro i t ht
  rw [hg i (List.getElem?_eq_some_iff.mp ht).1]; exact h i t ht
theorem cSeg.nil {f : Nat → Int32} {o : Nat} : cSeg f o [] := fun i t ht => by simp at ht
theorem cSeg.one {f : Nat → Int32} {o : Nat} {t : Nat × Nat × Nat} (h : f o = cE t) : cSeg f o [t] := by
  intro i u hu
  cases i with
  | zero => simp at hu; subst hu; exact h
  | succ i => simp at hu
/-- only keys and tags are told -/
theorem cE_sn {t u : Nat × Nat × Nat} (h : t.2 = u.2) : cE t = cE u := by unfold cE; rw [h]
theorem mAb_row {P : mP} : ∀ (d p r s : Nat), mRw P d p = some (r, s) → ∀ x, x < 2 → mAb P d x p = decide (x = r)
  | 0, _, _, _, h, _, _ => by cases h
  | d + 1, p, r, s, h, x, hx => by
    unfold mRw at h
    rw [mAb_s]
    by_cases h2 : p < 2
    · rw [if_pos h2] at h
      have e : p = r := by cases h; rfl
      by_cases hxp : x = p
      · rw [if_pos hxp, decide_eq_true (hxp.trans e)]
      · rw [if_neg hxp, if_pos h2, decide_eq_false (fun q => hxp (q.trans e.symm))]
    · rw [if_neg h2] at h
      rw [if_neg (by omega), if_neg h2]
      cases hy : P p with
      | none => rw [hy] at h; cases h
      | some y =>
        obtain ⟨o, f, l⟩ := y
        rw [hy] at h
        simp only at h ⊢
        cases hr : mRw P d o with
        | none => rw [hr] at h; cases h
        | some v =>
          obtain ⟨r', s'⟩ := v
          rw [hr] at h
          have e : r' = r := by cases h; rfl
          rw [← e]
          exact mAb_row d o r' s' hr x hx
def cUpS (f : Nat → Int32) (lo hi k : Nat) : Nat → Int32 := fun q => if lo + k ≤ q ∧ q < hi + k then f (q - k) else f q
def cDnS (f : Nat → Int32) (lo hi : Nat) : Nat → Int32 := fun q => if lo ≤ q ∧ q + 1 < hi then f (q + 1) else f q
theorem nI_s1 (a : Nat) : nI a - nI 1 = nI a + (-1) := by
  rw [Int32.sub_eq_add_neg]; rfl
theorem nI_dn {j lo : Nat} (hj : j < 2 ^ 31) (hl : lo < 2 ^ 31) : nI j + (-1) < nI lo ↔ j ≤ lo := by
  cases j with
  | zero =>
    rw [show nI 0 + (-1) = -1 by decide]
    refine ⟨fun _ => Nat.zero_le _, fun _ => ?_⟩
    exact Int32.lt_of_lt_of_le (by decide : (-1 : Int32) < 0) (nI_pos' hl)
  | succ j => rw [nI_m1, nI_ltI (by omega) hl]; omega
section Thing
variable {b : Nat} {G : gH}
theorem y_openL {K : gH → Nat → Int32 → Int32 → gR} {r fr k p : Nat} (hr : r < 2) : ∀ (d n : Nat) (σ : cS), fr + d + k ≤ 31 → d < n → σ.1 3 r = nI r → σ.1 4 r = nI 0 →
    f_I_openGap_L29 K n (cPut b σ G) (b + 1) (nI p) (nI k) (nI r) (nI fr) (nI (fr + d) + (-1)) = K (cPut b (cArr σ 0 (cUpS (σ.1 0) (31 * r + fr) (31 * r + fr + d) k)) G) (b + 1) (nI p) (nI k)
  | _, 0, _, _, h, _, _ => absurd h (Nat.not_lt_zero _)
  | 0, n + 1, σ, hb, _, h3, h4 => by
    unfold f_I_openGap_L29
    simp only [Nat.add_zero]
    rw [if_pos ((nI_dn (by omega) (by omega)).mpr (Nat.le_refl _))]
    have e : cUpS (σ.1 0) (31 * r + fr) (31 * r + fr) k = σ.1 0 := by
      funext q
      exact if_neg (by omega)
    rw [e, cArr_id]
  | d + 1, n + 1, σ, hb, hn, h3, h4 => by
    unfold f_I_openGap_L29
    rw [if_neg (fun q => by have := (nI_dn (by omega) (by omega)).mp q; omega), show fr + (d + 1) = fr + d + 1 from rfl, nI_m1, c_ob_1, y_thing (by omega) h3 h4 (by omega), bI_rI, c_ob_1, nI_add, y_write (by omega) h3 h4 (by omega), bV_rV,
      y_openL hr d n _ (by omega) (by omega) (by rw [cArr_ne (by decide)]; exact h3) (by rw [cArr_ne (by decide)]; exact h4), cArr_cArr, cArr_at]
    congr 3
    funext q
    simp only [cUpS, upd]
    (repeat' split) <;> first | rfl | (exfalso; omega) | (refine congrArg (σ.1 0) ?_; omega)
theorem y_closeGL {K : gH → Nat → Int32 → gR} {r e p : Nat} (hr : r < 2) (he : e ≤ 31) : ∀ (d n lo : Nat) (σ : cS), lo + 1 + d = e → d < n → σ.1 3 r = nI r → σ.1 4 r = nI 0 →
    f_I_closeGap_L27 K n (cPut b σ G) (b + 1) (nI p) (nI r) (nI e) (nI (lo + 1)) = K (cPut b (cArr σ 0 (cDnS (σ.1 0) (31 * r + lo) (31 * r + e))) G) (b + 1) (nI p)
  | _, 0, _, _, _, h, _, _ => absurd h (Nat.not_lt_zero _)
  | 0, n + 1, lo, σ, hb, _, h3, h4 => by
    unfold f_I_closeGap_L27
    rw [if_pos (nI_le (by omega) (by omega))]
    have e : cDnS (σ.1 0) (31 * r + lo) (31 * r + e) = σ.1 0 := by
      funext q
      exact if_neg (by omega)
    rw [e, cArr_id]
  | d + 1, n + 1, lo, σ, hb, hn, h3, h4 => by
    unfold f_I_closeGap_L27
    rw [if_neg (nI_ge (by omega) (by omega)), c_ob_1, y_thing (by omega) h3 h4 (by omega), bI_rI, c_ob_1, nI_sub (by omega), y_write (by omega) h3 h4 (by omega), bV_rV, nI_add,
      y_closeGL hr he d n (lo + 1) _ (by omega) (by omega) (by rw [cArr_ne (by decide)]; exact h3) (by rw [cArr_ne (by decide)]; exact h4), cArr_cArr, cArr_at]
    congr 3
    funext q
    simp only [cDnS, upd]
    (repeat' split) <;> first | rfl | (exfalso; omega) | (refine congrArg (σ.1 0) ?_; omega)
theorem x_openGap {P : mP} {σ : cS} {p r s i k n : Nat} (hok : mOk P) (hp : p < 6) (hv : p < 2 ∨ P p ≠ none) (hrw : mRw P zDp p = some (r, s)) (ha : cHa (σ.1 2) P) (h3 : cHp (σ.1 3) (σ.1 4) P) (hn : σ.1 1 r = nI n) (hi : s + i ≤ n) (hk : n + k ≤ 31) :
    f_I_openGap (cPut b σ G) (b + 1) (nI p) (nI i) (nI k) = rV (cPut b (cArr (cArr σ 0 (cUpS (σ.1 0) (31 * r + (s + i)) (31 * r + n) k)) 1 (fun q => if mAb P zDp q p = true then σ.1 1 q + nI k else σ.1 1 q)) G) := by
  have hr := mRw_lt _ _ _ _ hrw
  have hrr : mRw P zDp r = some (r, 0) := by
    show mRw P (7 + 1) r = _
    unfold mRw; rw [if_pos hr]
  obtain ⟨e3, e4⟩ := h3 p r s hp hrw
  obtain ⟨f3, f4⟩ := h3 r r 0 (by omega) hrr
  unfold f_I_openGap
  simp only [y_rowOf, y_lengthOf, c_ob_0, c_fa_0_0, c_fa_0_1, c_fi_0_2, c_put_0_2, c_fi_0_3, c_put_0_3, c_fi_0_4, c_put_0_4, c_ob_1, c_fa_1_0, c_fa_1_1, c_fa_1_2, c_fa_1_3, c_fa_1_4, c_fa_1_5, c_fi_1_6, c_put_1_6, c_ob_2, c_fa_2_0, c_ob_4, c_fa_4_0, c_ob_6, c_fa_6_0, c_ob_8, c_fa_8_0, c_ob_10, c_fa_10_0, c_ob_12, c_fa_12_0, c_ob_14, c_fa_14_0, c_fa_14_1, c_fa_14_2, c_fa_14_3, c_fi_14_4, c_put_14_4, c_ob_15, c_fa_15_0, c_ob_17, c_fa_17_0, c_ob_19, c_fa_19_0, c_ob_21, c_fa_21_0, c_len_0, c_ld_0, c_st_0, c_rd_0, c_wr_0, c_len_1, c_ld_1, c_st_1, c_rd_1, c_wr_1, c_len_2, c_ld_2, c_st_2, c_rd_2, c_wr_2, c_len_3, c_ld_3, c_st_3, c_rd_3, c_wr_3, c_len_4, c_ld_4, c_st_4, c_rd_4, c_wr_4, c_len_5, c_ld_5, c_st_5, c_rd_5, c_wr_5, c_len_6, c_ld_6, c_st_6, c_rd_6, c_wr_6, c_len_7, c_ld_7, c_st_7, c_rd_7, c_wr_7, c_len_8, c_ld_8, c_st_8, c_rd_8, c_wr_8, c_len_9, c_ld_9, c_st_9, c_rd_9, c_wr_9, bI_rI, bL_rL, bA_rA, bV_rV, bI_th, bL_th, bA_th, bV_th, rZ_0, rZ_1]
  rw [rd_nI hp (by decide), rd_nI hp (by decide), e3, e4, rd_nI (by omega) (by decide), hn, nI_add, nI_s1]
  have hnd : n = s + i + (n - (s + i)) := by omega
  rw [show nI n + (-1) = nI (s + i + (n - (s + i))) + (-1) by rw [← hnd], y_openL hr (n - (s + i)) zFu σ (by omega) (by unfold zFu; omega) f3 f4]
  simp only [c_ob_0, c_fa_0_0, c_fa_0_1, c_fi_0_2, c_put_0_2, c_fi_0_3, c_put_0_3, c_fi_0_4, c_put_0_4, c_ob_1, c_fa_1_0, c_fa_1_1, c_fa_1_2, c_fa_1_3, c_fa_1_4, c_fa_1_5, c_fi_1_6, c_put_1_6, c_ob_2, c_fa_2_0, c_ob_4, c_fa_4_0, c_ob_6, c_fa_6_0, c_ob_8, c_fa_8_0, c_ob_10, c_fa_10_0, c_ob_12, c_fa_12_0, c_ob_14, c_fa_14_0, c_fa_14_1, c_fa_14_2, c_fa_14_3, c_fi_14_4, c_put_14_4, c_ob_15, c_fa_15_0, c_ob_17, c_fa_17_0, c_ob_19, c_fa_19_0, c_ob_21, c_fa_21_0, c_len_0, c_ld_0, c_st_0, c_rd_0, c_wr_0, c_len_1, c_ld_1, c_st_1, c_rd_1, c_wr_1, c_len_2, c_ld_2, c_st_2, c_rd_2, c_wr_2, c_len_3, c_ld_3, c_st_3, c_rd_3, c_wr_3, c_len_4, c_ld_4, c_st_4, c_rd_4, c_wr_4, c_len_5, c_ld_5, c_st_5, c_rd_5, c_wr_5, c_len_6, c_ld_6, c_st_6, c_rd_6, c_wr_6, c_len_7, c_ld_7, c_st_7, c_rd_7, c_wr_7, c_len_8, c_ld_8, c_st_8, c_rd_8, c_wr_8, c_len_9, c_ld_9, c_st_9, c_rd_9, c_wr_9, bI_rI, bL_rL, bA_rA, bV_rV, bI_th, bL_th, bA_th, bV_th, rZ_0, rZ_1]
  rw [show 31 * r + (s + i) + (n - (s + i)) = 31 * r + n by omega, y_lengthen hok hp hv (by rw [cArr_ne (by decide)]; exact ha), bV_rV, cArr_ne (by decide)]
theorem x_closeGap {P : mP} {σ : cS} {p r s i n : Nat} (hok : mOk P) (hp : p < 6) (hv : p < 2 ∨ P p ≠ none) (hrw : mRw P zDp p = some (r, s)) (ha : cHa (σ.1 2) P) (h3 : cHp (σ.1 3) (σ.1 4) P) (hn : σ.1 1 r = nI n) (hi : s + i < n) (hk : n ≤ 31) :
    f_I_closeGap (cPut b σ G) (b + 1) (nI p) (nI i) = rV (cPut b (cArr (cArr σ 0 (cDnS (σ.1 0) (31 * r + (s + i)) (31 * r + n))) 1 (fun q => if mAb P zDp q p = true then σ.1 1 q + (-1) else σ.1 1 q)) G) := by
  have hr := mRw_lt _ _ _ _ hrw
  have hrr : mRw P zDp r = some (r, 0) := by
    show mRw P (7 + 1) r = _
    unfold mRw; rw [if_pos hr]
  obtain ⟨e3, e4⟩ := h3 p r s hp hrw
  obtain ⟨f3, f4⟩ := h3 r r 0 (by omega) hrr
  unfold f_I_closeGap
  simp only [y_rowOf, y_lengthOf, c_ob_0, c_fa_0_0, c_fa_0_1, c_fi_0_2, c_put_0_2, c_fi_0_3, c_put_0_3, c_fi_0_4, c_put_0_4, c_ob_1, c_fa_1_0, c_fa_1_1, c_fa_1_2, c_fa_1_3, c_fa_1_4, c_fa_1_5, c_fi_1_6, c_put_1_6, c_ob_2, c_fa_2_0, c_ob_4, c_fa_4_0, c_ob_6, c_fa_6_0, c_ob_8, c_fa_8_0, c_ob_10, c_fa_10_0, c_ob_12, c_fa_12_0, c_ob_14, c_fa_14_0, c_fa_14_1, c_fa_14_2, c_fa_14_3, c_fi_14_4, c_put_14_4, c_ob_15, c_fa_15_0, c_ob_17, c_fa_17_0, c_ob_19, c_fa_19_0, c_ob_21, c_fa_21_0, c_len_0, c_ld_0, c_st_0, c_rd_0, c_wr_0, c_len_1, c_ld_1, c_st_1, c_rd_1, c_wr_1, c_len_2, c_ld_2, c_st_2, c_rd_2, c_wr_2, c_len_3, c_ld_3, c_st_3, c_rd_3, c_wr_3, c_len_4, c_ld_4, c_st_4, c_rd_4, c_wr_4, c_len_5, c_ld_5, c_st_5, c_rd_5, c_wr_5, c_len_6, c_ld_6, c_st_6, c_rd_6, c_wr_6, c_len_7, c_ld_7, c_st_7, c_rd_7, c_wr_7, c_len_8, c_ld_8, c_st_8, c_rd_8, c_wr_8, c_len_9, c_ld_9, c_st_9, c_rd_9, c_wr_9, bI_rI, bL_rL, bA_rA, bV_rV, bI_th, bL_th, bA_th, bV_th, rZ_0, rZ_1]
  rw [rd_nI hp (by decide), rd_nI hp (by decide), e3, e4, rd_nI (by omega) (by decide), hn, nI_add, nI_add, y_closeGL hr hk (n - (s + i + 1)) zFu (s + i) σ (by omega) (by unfold zFu; omega) f3 f4]
  simp only [c_ob_0, c_fa_0_0, c_fa_0_1, c_fi_0_2, c_put_0_2, c_fi_0_3, c_put_0_3, c_fi_0_4, c_put_0_4, c_ob_1, c_fa_1_0, c_fa_1_1, c_fa_1_2, c_fa_1_3, c_fa_1_4, c_fa_1_5, c_fi_1_6, c_put_1_6, c_ob_2, c_fa_2_0, c_ob_4, c_fa_4_0, c_ob_6, c_fa_6_0, c_ob_8, c_fa_8_0, c_ob_10, c_fa_10_0, c_ob_12, c_fa_12_0, c_ob_14, c_fa_14_0, c_fa_14_1, c_fa_14_2, c_fa_14_3, c_fi_14_4, c_put_14_4, c_ob_15, c_fa_15_0, c_ob_17, c_fa_17_0, c_ob_19, c_fa_19_0, c_ob_21, c_fa_21_0, c_len_0, c_ld_0, c_st_0, c_rd_0, c_wr_0, c_len_1, c_ld_1, c_st_1, c_rd_1, c_wr_1, c_len_2, c_ld_2, c_st_2, c_rd_2, c_wr_2, c_len_3, c_ld_3, c_st_3, c_rd_3, c_wr_3, c_len_4, c_ld_4, c_st_4, c_rd_4, c_wr_4, c_len_5, c_ld_5, c_st_5, c_rd_5, c_wr_5, c_len_6, c_ld_6, c_st_6, c_rd_6, c_wr_6, c_len_7, c_ld_7, c_st_7, c_rd_7, c_wr_7, c_len_8, c_ld_8, c_st_8, c_rd_8, c_wr_8, c_len_9, c_ld_9, c_st_9, c_rd_9, c_wr_9, bI_rI, bL_rL, bA_rA, bV_rV, bI_th, bL_th, bA_th, bV_th, rZ_0, rZ_1]
  rw [y_lengthen hok hp hv (by rw [cArr_ne (by decide)]; exact ha), bV_rV, cArr_ne (by decide)]
end Thing
