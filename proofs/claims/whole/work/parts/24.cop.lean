-- the class: what its calls share
theorem ins_td {α : Type} (a : α) : ∀ (l : List α) (i : Nat), i ≤ l.length → l.insertIdx i a = l.take i ++ a :: l.drop i
  | l, 0, _ => by simp
  | [], i + 1, h => by simp at h
  | x :: l, i + 1, h => by
    rw [List.insertIdx_succ_cons, ins_td a l i (by simpa using h)]
    simp
theorem er_td {α : Type} : ∀ (l : List α) (i : Nat), l.eraseIdx i = l.take i ++ l.drop (i + 1)
  | [], i => by simp
  | x :: l, 0 => by simp
  | x :: l, i + 1 => by
    rw [List.eraseIdx_cons_succ, er_td l i]
    simp
theorem cArr_comm {σ : cS} {j k : Nat} {f g : Nat → Int32} (h : j ≠ k) : cArr (cArr σ j f) k g = cArr (cArr σ k g) j f := by
  refine Prod.ext ?_ rfl
  funext q
  show (if q = k then g else if q = j then f else σ.1 q) = if q = j then f else if q = k then g else σ.1 q
  by_cases e : q = k
  · rw [if_pos e, if_neg (fun q' => h (q'.symm.trans e)), if_pos e]
  · rw [if_neg e, if_neg e]
theorem ofInt_m1 : Int32.ofInt (-1) = -1 := by decide
theorem ofInt_1 : Int32.ofInt 1 = nI 1 := ofInt_nI 1
theorem mInw.len {exc : Int32} {p : Nat} {A : mS} (h : mInw exc p A) {q : Nat} (hq : mV A q) : ∃ r s, mRw A.2.1 zDp q = some (r, s) ∧ r < 2 ∧ s + mLen A q ≤ (A.1 r).length ∧ (A.1 r).length ≤ 31 ∧ q < 6 := by
  obtain ⟨r, s, e⟩ := h.1.rw' hq
  have hr := mRw_lt _ _ _ _ e
  exact ⟨r, s, e, hr, h.2.1.rw _ _ _ _ e, h.2.2.1 r hr, hq.lt h.1⟩
section Cop
variable {b : Nat} {G : gH} {exc : Int32} {A : mS} {σ : cS} {p : Nat}
theorem CRepx.len (h : CRepx exc σ A) {q : Nat} (hok : mOk A.2.1) (hq : mV A q) : σ.1 1 q = nI (mLen A q) := by
  by_cases h2 : q < 2
  · rw [mLen_row h2]; exact h.2.1 q h2
  · rcases hq with k | k
    · exact absurd k h2
    · cases hx : A.2.1 q with
      | none => exact absurd hx k
      | some x =>
        have h26 := hok.1 q x hx
        have := h.2.2.1 q h26.1 h26.2
        rw [hx] at this
        rw [mLen_part h2 hx]; exact this
theorem CRepx.there (h : CRepx exc σ A) (hw : mInw exc p A) {x : Int32} : rd 6 (σ.1 1) x = -1 ↔ ¬ mIsL A x := by
  by_cases hx : ∃ i, i < 6 ∧ x = nI i
  · obtain ⟨i, hi, rfl⟩ := hx
    rw [rd_nI hi (by decide)]
    by_cases hv : mV A i
    · obtain ⟨r, s, -, -, e1, e2, -⟩ := hw.len hv
      rw [h.len hw.1 hv]
      exact ⟨fun q => absurd q (nI_ne1 (by omega)), fun q => absurd ⟨i, hi, rfl, hv⟩ q⟩
    · have h2 : ¬ i < 2 := fun q => hv (Or.inl q)
      have := h.2.2.1 i (by omega) hi
      cases hy : A.2.1 i with
      | some y => exact absurd (Or.inr (by rw [hy]; exact Option.some_ne_none _)) hv
      | none =>
        rw [hy] at this
        refine ⟨fun _ => ?_, fun _ => this⟩
        rintro ⟨j, hj, e, hv'⟩
        rw [(nI_eq (by omega) (by omega)).mp e] at hv
        exact hv hv'
  · rw [rd_out hx (by decide)]
    refine ⟨fun _ => ?_, fun _ => rfl⟩
    rintro ⟨j, hj, e, -⟩
    exact hx ⟨j, hj, e⟩
theorem x_needList (h : CRepx exc σ A) (hw : mInw exc p A) {x : Int32} (hx : mIsL A x) : f_X_needList (cPut b σ G) b x = rV (cPut b σ G) := by
  unfold f_X_needList
  simp only [y_isThere (t := true) ⟨fun q => absurd hx ((h.there hw).mp q), fun q => (by cases q)⟩, mB_if, c_ob_0, c_fa_0_0, c_fa_0_1, c_fi_0_2, c_put_0_2, c_fi_0_3, c_put_0_3, c_fi_0_4, c_put_0_4, c_ob_1, c_fa_1_0, c_fa_1_1, c_fa_1_2, c_fa_1_3, c_fa_1_4, c_fa_1_5, c_fi_1_6, c_put_1_6, c_ob_2, c_fa_2_0, c_ob_4, c_fa_4_0, c_ob_6, c_fa_6_0, c_ob_8, c_fa_8_0, c_ob_10, c_fa_10_0, c_ob_12, c_fa_12_0, c_ob_14, c_fa_14_0, c_fa_14_1, c_fa_14_2, c_fa_14_3, c_fi_14_4, c_put_14_4, c_ob_15, c_fa_15_0, c_ob_17, c_fa_17_0, c_ob_19, c_fa_19_0, c_ob_21, c_fa_21_0, c_len_0, c_ld_0, c_st_0, c_rd_0, c_wr_0, c_len_1, c_ld_1, c_st_1, c_rd_1, c_wr_1, c_len_2, c_ld_2, c_st_2, c_rd_2, c_wr_2, c_len_3, c_ld_3, c_st_3, c_rd_3, c_wr_3, c_len_4, c_ld_4, c_st_4, c_rd_4, c_wr_4, c_len_5, c_ld_5, c_st_5, c_rd_5, c_wr_5, c_len_6, c_ld_6, c_st_6, c_rd_6, c_wr_6, c_len_7, c_ld_7, c_st_7, c_rd_7, c_wr_7, c_len_8, c_ld_8, c_st_8, c_rd_8, c_wr_8, c_len_9, c_ld_9, c_st_9, c_rd_9, c_wr_9, bI_rI, bL_rL, bA_rA, bV_rV, bI_th, bL_th, bA_th, bV_th, rZ_0, rZ_1]
  rw [if_pos trivial]
theorem x_needList_no (h : CRepx exc σ A) (hw : mInw exc p A) {x : Int32} (hx : ¬ mIsL A x) : f_X_needList (cPut b σ G) b x = gThrow "java/lang/IndexOutOfBoundsException" (cPut b σ G) := by
  unfold f_X_needList
  simp only [y_isThere (t := false) ⟨fun _ => rfl, fun _ => (h.there hw).mpr hx⟩, mB_if, c_ob_0, c_fa_0_0, c_fa_0_1, c_fi_0_2, c_put_0_2, c_fi_0_3, c_put_0_3, c_fi_0_4, c_put_0_4, c_ob_1, c_fa_1_0, c_fa_1_1, c_fa_1_2, c_fa_1_3, c_fa_1_4, c_fa_1_5, c_fi_1_6, c_put_1_6, c_ob_2, c_fa_2_0, c_ob_4, c_fa_4_0, c_ob_6, c_fa_6_0, c_ob_8, c_fa_8_0, c_ob_10, c_fa_10_0, c_ob_12, c_fa_12_0, c_ob_14, c_fa_14_0, c_fa_14_1, c_fa_14_2, c_fa_14_3, c_fi_14_4, c_put_14_4, c_ob_15, c_fa_15_0, c_ob_17, c_fa_17_0, c_ob_19, c_fa_19_0, c_ob_21, c_fa_21_0, c_len_0, c_ld_0, c_st_0, c_rd_0, c_wr_0, c_len_1, c_ld_1, c_st_1, c_rd_1, c_wr_1, c_len_2, c_ld_2, c_st_2, c_rd_2, c_wr_2, c_len_3, c_ld_3, c_st_3, c_rd_3, c_wr_3, c_len_4, c_ld_4, c_st_4, c_rd_4, c_wr_4, c_len_5, c_ld_5, c_st_5, c_rd_5, c_wr_5, c_len_6, c_ld_6, c_st_6, c_rd_6, c_wr_6, c_len_7, c_ld_7, c_st_7, c_rd_7, c_wr_7, c_len_8, c_ld_8, c_st_8, c_rd_8, c_wr_8, c_len_9, c_ld_9, c_st_9, c_rd_9, c_wr_9, bI_rI, bL_rL, bA_rA, bV_rV, bI_th, bL_th, bA_th, bV_th, rZ_0, rZ_1]
  rw [if_neg (by decide)]
theorem x_len (h : CRepx exc σ A) (hok : mOk A.2.1) {q : Nat} (hq : mV A q) : f_I_lengthOf (cPut b σ G) (b + 1) (nI q) = rI (nI (mLen A q)) (cPut b σ G) := by
  rw [y_lengthOf, rd_nI (hq.lt hok) (by decide), h.len hok hq]
theorem x_row (h : CRepx exc σ A) (hok : mOk A.2.1) {q r s : Nat} (hq : mV A q) (hr : mRw A.2.1 zDp q = some (r, s)) : f_I_rowOf (cPut b σ G) (b + 1) (nI q) = rI (nI r) (cPut b σ G) := by
  rw [y_rowOf, rd_nI (hq.lt hok) (by decide), (h.2.2.2.2.1 q r s (hq.lt hok) hr).1]
def mIsG (L : Nat) (x : Int32) : Prop := ∃ i, i ≤ L ∧ x = nI i
def mIsP (L : Nat) (x : Int32) : Prop := ∃ i, i < L ∧ x = nI i
theorem nI_gap {L : Nat} {x : Int32} (hL : L < 2 ^ 31) : mIsG L x ↔ ¬ x < 0 ∧ x ≤ nI L := by
  constructor
  · rintro ⟨i, hi, rfl⟩
    exact ⟨nI_pos (by omega), nI_le hi hL⟩
  · rintro ⟨h1, h2⟩
    obtain ⟨j, hj, rfl⟩ := nI_of h1
    exact ⟨j, (nI_leI hj hL).mp h2, rfl⟩
theorem nI_plc {L : Nat} {x : Int32} (hL : L < 2 ^ 31) : mIsP L x ↔ ¬ x < 0 ∧ x < nI L := by
  constructor
  · rintro ⟨i, hi, rfl⟩
    exact ⟨nI_pos (by omega), nI_lt hi hL⟩
  · rintro ⟨h1, h2⟩
    obtain ⟨j, hj, rfl⟩ := nI_of h1
    exact ⟨j, (nI_ltI hj hL).mp h2, rfl⟩
theorem x_needGap (h : CRepx exc σ A) (hok : mOk A.2.1) {q : Nat} (hq : mV A q) (hl : mLen A q < 100) {x : Int32} :
    (mIsG (mLen A q) x → f_X_needGap (cPut b σ G) b (nI q) x = rV (cPut b σ G)) ∧ (¬ mIsG (mLen A q) x → f_X_needGap (cPut b σ G) b (nI q) x = gThrow "java/lang/IndexOutOfBoundsException" (cPut b σ G)) := by
  have e := nI_gap (L := mLen A q) (x := x) (by omega)
  unfold f_X_needGap
  simp only [x_len h hok hq, c_ob_0, c_fa_0_0, c_fa_0_1, c_fi_0_2, c_put_0_2, c_fi_0_3, c_put_0_3, c_fi_0_4, c_put_0_4, c_ob_1, c_fa_1_0, c_fa_1_1, c_fa_1_2, c_fa_1_3, c_fa_1_4, c_fa_1_5, c_fi_1_6, c_put_1_6, c_ob_2, c_fa_2_0, c_ob_4, c_fa_4_0, c_ob_6, c_fa_6_0, c_ob_8, c_fa_8_0, c_ob_10, c_fa_10_0, c_ob_12, c_fa_12_0, c_ob_14, c_fa_14_0, c_fa_14_1, c_fa_14_2, c_fa_14_3, c_fi_14_4, c_put_14_4, c_ob_15, c_fa_15_0, c_ob_17, c_fa_17_0, c_ob_19, c_fa_19_0, c_ob_21, c_fa_21_0, c_len_0, c_ld_0, c_st_0, c_rd_0, c_wr_0, c_len_1, c_ld_1, c_st_1, c_rd_1, c_wr_1, c_len_2, c_ld_2, c_st_2, c_rd_2, c_wr_2, c_len_3, c_ld_3, c_st_3, c_rd_3, c_wr_3, c_len_4, c_ld_4, c_st_4, c_rd_4, c_wr_4, c_len_5, c_ld_5, c_st_5, c_rd_5, c_wr_5, c_len_6, c_ld_6, c_st_6, c_rd_6, c_wr_6, c_len_7, c_ld_7, c_st_7, c_rd_7, c_wr_7, c_len_8, c_ld_8, c_st_8, c_rd_8, c_wr_8, c_len_9, c_ld_9, c_st_9, c_rd_9, c_wr_9, bI_rI, bL_rL, bA_rA, bV_rV, bI_th, bL_th, bA_th, bV_th, rZ_0, rZ_1]
  refine ⟨fun k => ?_, fun k => ?_⟩
  · rw [if_neg (e.mp k).1, if_pos (e.mp k).2]
  · by_cases h1 : x < 0
    · rw [if_pos h1]
    · rw [if_neg h1, if_neg (fun z => k (e.mpr ⟨h1, z⟩))]
theorem x_needPlace (h : CRepx exc σ A) (hok : mOk A.2.1) {q : Nat} (hq : mV A q) (hl : mLen A q < 100) {x : Int32} :
    (mIsP (mLen A q) x → f_X_needPlace (cPut b σ G) b (nI q) x = rV (cPut b σ G)) ∧ (¬ mIsP (mLen A q) x → f_X_needPlace (cPut b σ G) b (nI q) x = gThrow "java/lang/IndexOutOfBoundsException" (cPut b σ G)) := by
  have e := nI_plc (L := mLen A q) (x := x) (by omega)
  unfold f_X_needPlace
  simp only [x_len h hok hq, c_ob_0, c_fa_0_0, c_fa_0_1, c_fi_0_2, c_put_0_2, c_fi_0_3, c_put_0_3, c_fi_0_4, c_put_0_4, c_ob_1, c_fa_1_0, c_fa_1_1, c_fa_1_2, c_fa_1_3, c_fa_1_4, c_fa_1_5, c_fi_1_6, c_put_1_6, c_ob_2, c_fa_2_0, c_ob_4, c_fa_4_0, c_ob_6, c_fa_6_0, c_ob_8, c_fa_8_0, c_ob_10, c_fa_10_0, c_ob_12, c_fa_12_0, c_ob_14, c_fa_14_0, c_fa_14_1, c_fa_14_2, c_fa_14_3, c_fi_14_4, c_put_14_4, c_ob_15, c_fa_15_0, c_ob_17, c_fa_17_0, c_ob_19, c_fa_19_0, c_ob_21, c_fa_21_0, c_len_0, c_ld_0, c_st_0, c_rd_0, c_wr_0, c_len_1, c_ld_1, c_st_1, c_rd_1, c_wr_1, c_len_2, c_ld_2, c_st_2, c_rd_2, c_wr_2, c_len_3, c_ld_3, c_st_3, c_rd_3, c_wr_3, c_len_4, c_ld_4, c_st_4, c_rd_4, c_wr_4, c_len_5, c_ld_5, c_st_5, c_rd_5, c_wr_5, c_len_6, c_ld_6, c_st_6, c_rd_6, c_wr_6, c_len_7, c_ld_7, c_st_7, c_rd_7, c_wr_7, c_len_8, c_ld_8, c_st_8, c_rd_8, c_wr_8, c_len_9, c_ld_9, c_st_9, c_rd_9, c_wr_9, bI_rI, bL_rL, bA_rA, bV_rV, bI_th, bL_th, bA_th, bV_th, rZ_0, rZ_1]
  refine ⟨fun k => ?_, fun k => ?_⟩
  · rw [if_neg (e.mp k).1, if_pos (e.mp k).2]
  · by_cases h1 : x < 0
    · rw [if_pos h1]
    · rw [if_neg h1, if_neg (fun z => k (e.mpr ⟨h1, z⟩))]
theorem x_needKey {x : Int32} : (mIsP 31 x → f_X_needKey (cPut b σ G) b x = rV (cPut b σ G)) ∧ (¬ mIsP 31 x → f_X_needKey (cPut b σ G) b x = gThrow "java/lang/IllegalArgumentException" (cPut b σ G)) := by
  have e := nI_plc (L := 31) (x := x) (by omega)
  unfold f_X_needKey
  refine ⟨fun k => ?_, fun k => ?_⟩
  · rw [if_neg (e.mp k).1, if_pos (e.mp k).2]
  · by_cases h1 : x < 0
    · rw [if_pos h1]
    · rw [if_neg h1, if_neg (fun z => k (e.mpr ⟨h1, z⟩))]
theorem x_needRow {x : Int32} : (mIsP 2 x → f_X_needRow (cPut b σ G) b x = rV (cPut b σ G)) ∧ (¬ mIsP 2 x → f_X_needRow (cPut b σ G) b x = gThrow "java/lang/IndexOutOfBoundsException" (cPut b σ G)) := by
  have e := nI_plc (L := 2) (x := x) (by omega)
  unfold f_X_needRow
  refine ⟨fun k => ?_, fun k => ?_⟩
  · rw [if_neg (e.mp k).1, if_pos (e.mp k).2]
  · by_cases h1 : x < 0
    · rw [if_pos h1]
    · rw [if_neg h1, if_neg (fun z => k (e.mpr ⟨h1, z⟩))]
theorem x_needRoom (h : CRepx exc σ A) (hok : mOk A.2.1) {q r s n : Nat} (hq : mV A q) (hr : mRw A.2.1 zDp q = some (r, s)) (hl : (A.1 r).length ≤ 31) (hn : n < 100) :
    ((A.1 r).length + n ≤ 31 → f_X_needRoom (cPut b σ G) b (nI q) (nI n) = rV (cPut b σ G)) ∧ (31 < (A.1 r).length + n → f_X_needRoom (cPut b σ G) b (nI q) (nI n) = gThrow "java/lang/IllegalStateException" (cPut b σ G)) := by
  have hr2 := mRw_lt _ _ _ _ hr
  unfold f_X_needRoom
  simp only [x_row h hok hq hr, x_len h hok (Or.inl hr2), c_ob_0, c_fa_0_0, c_fa_0_1, c_fi_0_2, c_put_0_2, c_fi_0_3, c_put_0_3, c_fi_0_4, c_put_0_4, c_ob_1, c_fa_1_0, c_fa_1_1, c_fa_1_2, c_fa_1_3, c_fa_1_4, c_fa_1_5, c_fi_1_6, c_put_1_6, c_ob_2, c_fa_2_0, c_ob_4, c_fa_4_0, c_ob_6, c_fa_6_0, c_ob_8, c_fa_8_0, c_ob_10, c_fa_10_0, c_ob_12, c_fa_12_0, c_ob_14, c_fa_14_0, c_fa_14_1, c_fa_14_2, c_fa_14_3, c_fi_14_4, c_put_14_4, c_ob_15, c_fa_15_0, c_ob_17, c_fa_17_0, c_ob_19, c_fa_19_0, c_ob_21, c_fa_21_0, c_len_0, c_ld_0, c_st_0, c_rd_0, c_wr_0, c_len_1, c_ld_1, c_st_1, c_rd_1, c_wr_1, c_len_2, c_ld_2, c_st_2, c_rd_2, c_wr_2, c_len_3, c_ld_3, c_st_3, c_rd_3, c_wr_3, c_len_4, c_ld_4, c_st_4, c_rd_4, c_wr_4, c_len_5, c_ld_5, c_st_5, c_rd_5, c_wr_5, c_len_6, c_ld_6, c_st_6, c_rd_6, c_wr_6, c_len_7, c_ld_7, c_st_7, c_rd_7, c_wr_7, c_len_8, c_ld_8, c_st_8, c_rd_8, c_wr_8, c_len_9, c_ld_9, c_st_9, c_rd_9, c_wr_9, bI_rI, bL_rL, bA_rA, bV_rV, bI_th, bL_th, bA_th, bV_th, rZ_0, rZ_1]
  rw [mLen_row hr2, nI_add]
  exact ⟨fun k => if_pos (nI_le k (by omega)), fun k => if_neg (nI_ge k (by omega))⟩
theorem x_needOther (h : CRepx exc σ A) (hok : mOk A.2.1) {q q' r s r' s' : Nat} (hq : mV A q) (hr : mRw A.2.1 zDp q = some (r, s)) (hq' : mV A q') (hr' : mRw A.2.1 zDp q' = some (r', s')) :
    (r ≠ r' → f_X_needOtherRow (cPut b σ G) b (nI q) (nI q') = rV (cPut b σ G)) ∧ (r = r' → f_X_needOtherRow (cPut b σ G) b (nI q) (nI q') = gThrow "java/lang/IllegalStateException" (cPut b σ G)) := by
  have e1 := mRw_lt _ _ _ _ hr
  have e2 := mRw_lt _ _ _ _ hr'
  unfold f_X_needOtherRow
  simp only [x_row h hok hq hr, x_row h hok hq' hr', c_ob_0, c_fa_0_0, c_fa_0_1, c_fi_0_2, c_put_0_2, c_fi_0_3, c_put_0_3, c_fi_0_4, c_put_0_4, c_ob_1, c_fa_1_0, c_fa_1_1, c_fa_1_2, c_fa_1_3, c_fa_1_4, c_fa_1_5, c_fi_1_6, c_put_1_6, c_ob_2, c_fa_2_0, c_ob_4, c_fa_4_0, c_ob_6, c_fa_6_0, c_ob_8, c_fa_8_0, c_ob_10, c_fa_10_0, c_ob_12, c_fa_12_0, c_ob_14, c_fa_14_0, c_fa_14_1, c_fa_14_2, c_fa_14_3, c_fi_14_4, c_put_14_4, c_ob_15, c_fa_15_0, c_ob_17, c_fa_17_0, c_ob_19, c_fa_19_0, c_ob_21, c_fa_21_0, c_len_0, c_ld_0, c_st_0, c_rd_0, c_wr_0, c_len_1, c_ld_1, c_st_1, c_rd_1, c_wr_1, c_len_2, c_ld_2, c_st_2, c_rd_2, c_wr_2, c_len_3, c_ld_3, c_st_3, c_rd_3, c_wr_3, c_len_4, c_ld_4, c_st_4, c_rd_4, c_wr_4, c_len_5, c_ld_5, c_st_5, c_rd_5, c_wr_5, c_len_6, c_ld_6, c_st_6, c_rd_6, c_wr_6, c_len_7, c_ld_7, c_st_7, c_rd_7, c_wr_7, c_len_8, c_ld_8, c_st_8, c_rd_8, c_wr_8, c_len_9, c_ld_9, c_st_9, c_rd_9, c_wr_9, bI_rI, bL_rL, bA_rA, bV_rV, bI_th, bL_th, bA_th, bV_th, rZ_0, rZ_1]
  exact ⟨fun k => if_neg (fun z => k ((nI_eq (by omega) (by omega)).mp z)), fun k => if_pos (by rw [k])⟩
theorem CRepx.int (h : CRepx exc σ A) {i j : Nat} {v : Int32} (hij : (i = 2 ∧ j = 1) ∨ (i = 3 ∧ j = 4) ∨ (i = 4 ∧ j = 5)) : CRepx exc (cSetI σ i v) (mSet A j v) := by
  obtain ⟨t1, t2, l1, l2, l3, l4, l5⟩ := h
  refine ⟨t1, t2, l1, l2, l3, l4, ?_⟩
  rcases hij with ⟨rfl, rfl⟩ | ⟨rfl, rfl⟩ | ⟨rfl, rfl⟩
  · exact ⟨l5.1, l5.2.1, rfl, l5.2.2.2.1, l5.2.2.2.2⟩
  · exact ⟨l5.1, l5.2.1, l5.2.2.1, rfl, l5.2.2.2.2⟩
  · exact ⟨l5.1, l5.2.1, l5.2.2.1, l5.2.2.2.1, rfl⟩
/-- what was thrown last is not in the class -/
theorem CRepx.thr (h : CRepx exc σ A) (v : Int32) : CRepx exc σ (mSet A 0 v) := h
theorem mInw.int (h : mInw exc p A) (j : Nat) (v : Int32) : mInw exc p (mSet A j v) := h
theorem x_make (h : CRepx exc σ A) {m k : Nat} (hm : A.2.2.2 1 = nI m) (hk : k < 32) : f_X_make (cPut b σ G) b (nI k) = rI (nI (32 * m + k)) (cPut b (cSetI σ 2 (nI (m + 1))) G) := by
  have e : σ.2 2 = nI m := h.2.2.2.2.2.2.2.2.1.trans hm
  unfold f_X_make f_X_thingOf
  simp only [c_ob_0, c_fa_0_0, c_fa_0_1, c_fi_0_2, c_put_0_2, c_fi_0_3, c_put_0_3, c_fi_0_4, c_put_0_4, c_ob_1, c_fa_1_0, c_fa_1_1, c_fa_1_2, c_fa_1_3, c_fa_1_4, c_fa_1_5, c_fi_1_6, c_put_1_6, c_ob_2, c_fa_2_0, c_ob_4, c_fa_4_0, c_ob_6, c_fa_6_0, c_ob_8, c_fa_8_0, c_ob_10, c_fa_10_0, c_ob_12, c_fa_12_0, c_ob_14, c_fa_14_0, c_fa_14_1, c_fa_14_2, c_fa_14_3, c_fi_14_4, c_put_14_4, c_ob_15, c_fa_15_0, c_ob_17, c_fa_17_0, c_ob_19, c_fa_19_0, c_ob_21, c_fa_21_0, c_len_0, c_ld_0, c_st_0, c_rd_0, c_wr_0, c_len_1, c_ld_1, c_st_1, c_rd_1, c_wr_1, c_len_2, c_ld_2, c_st_2, c_rd_2, c_wr_2, c_len_3, c_ld_3, c_st_3, c_rd_3, c_wr_3, c_len_4, c_ld_4, c_st_4, c_rd_4, c_wr_4, c_len_5, c_ld_5, c_st_5, c_rd_5, c_wr_5, c_len_6, c_ld_6, c_st_6, c_rd_6, c_wr_6, c_len_7, c_ld_7, c_st_7, c_rd_7, c_wr_7, c_len_8, c_ld_8, c_st_8, c_rd_8, c_wr_8, c_len_9, c_ld_9, c_st_9, c_rd_9, c_wr_9, bI_rI, bL_rL, bA_rA, bV_rV, bI_th, bL_th, bA_th, bV_th, rZ_0, rZ_1]
  rw [e, nI_shl5, nI_or5 _ hk, nI_add]
theorem x_tagOf {m k : Nat} (hk : k < 32) (hm : m ≤ 1000) : f_X_tagOf G (nI (32 * m + k)) = rI (nI m) G := by
  unfold f_X_tagOf
  rw [nI_shr5 (by omega), show (32 * m + k) / 32 = m by omega]
theorem x_keyOf {m k : Nat} (hk : k < 32) : f_X_keyOf G (nI (32 * m + k)) = rI (nI k) G := by
  unfold f_X_keyOf
  rw [nI_and31, show (32 * m + k) % 32 = k by omega]
theorem x_at (h : CRepx exc σ A) (hw : mInw exc p A) {q r s i : Nat} {t : Nat × Nat × Nat} (hq : mV A q) (hr : mRw A.2.1 zDp q = some (r, s)) (ht : (A.1 r)[s + i]? = some t) : f_I_thingAt (cPut b σ G) (b + 1) (nI q) (nI i) = rI (cE t) (cPut b σ G) := by
  have hr2 := mRw_lt _ _ _ _ hr
  have hq6 := hq.lt hw.1
  have hi : s + i < (A.1 r).length := (List.getElem?_eq_some_iff.mp ht).1
  have := hw.2.2.1 r hr2
  obtain ⟨e3, e4⟩ := h.2.2.2.2.1 q r s hq6 hr
  rw [y_thing hq6 e3 e4 (by omega), Nat.add_assoc, h.1 r (s + i) t hr2 ht]
theorem x_keyAt (h : CRepx exc σ A) (hw : mInw exc p A) {q r s i : Nat} {t : Nat × Nat × Nat} (hq : mV A q) (hr : mRw A.2.1 zDp q = some (r, s)) (ht : (A.1 r)[s + i]? = some t) (hk : t.2.1 < 32) : f_I_keyAt (cPut b σ G) (b + 1) (nI q) (nI i) = rI (nI t.2.1) (cPut b σ G) := by
  have hr2 := mRw_lt _ _ _ _ hr
  have hq6 := hq.lt hw.1
  have hi : s + i < (A.1 r).length := (List.getElem?_eq_some_iff.mp ht).1
  have := hw.2.2.1 r hr2
  obtain ⟨e3, e4⟩ := h.2.2.2.2.1 q r s hq6 hr
  rw [y_key hq6 e3 e4 (by omega), Nat.add_assoc, h.1 r (s + i) t hr2 ht]
  unfold cE
  rw [nI_and31, show (32 * t.2.2 + t.2.1) % 32 = t.2.1 by omega]
theorem x_bringIn (h : CRepx exc σ A) (hw : mInw exc p A) (hv : mV A p) {r s i : Nat} {t : Nat × Nat × Nat} (hr : mRw A.2.1 zDp p = some (r, s)) (hi : i ≤ mLen A p) (hl : (A.1 r).length < 31) :
    ∃ σ', f_X_bringIn (cPut b σ G) b (nI p) (nI i) (cE t) exc = rV (cPut b σ' G) ∧ CRepx exc σ' (mChange (mRows A r ((A.1 r).insertIdx (s + i) t)) p 1 exc) ∧ σ'.1 8 = σ.1 8 ∧ σ'.1 9 = σ.1 9 := by
  have hr2 := mRw_lt _ _ _ _ hr
  have hp := hv.lt hw.1
  have hfit := hw.2.1.rw _ _ _ _ hr
  obtain ⟨e3, e4⟩ := h.2.2.2.2.1 p r s hp hr
  generalize hf' : upd (cUpS (σ.1 0) (31 * r + (s + i)) (31 * r + (A.1 r).length) 1) (31 * r + s + i) (cE t) = f'
  have hseg := h.1.seg hr2
  obtain ⟨σ', z1, z2, z3, z4⟩ := x_chg (b := b) (G := G) (exc := exc) (z := 1) (f' := f') (ts := (A.1 r).insertIdx (s + i) t) hw h hv hr (by decide) (by omega) (by rw [List.length_insertIdx_of_le_length (by omega)]; omega) (by rw [List.length_insertIdx_of_le_length (by omega)]; omega) (by omega)
    (by
      intro q hq
      rw [← hf']
      simp only [upd, cUpS]
      rw [if_neg (by omega), if_neg (by omega)])
    (by
      rw [ins_td t _ _ (by omega)]
      refine cSeg.app ?_ ?_
      · refine (hseg.take (n := s + i)).cong (fun j hj => ?_)
        rw [List.length_take] at hj
        rw [← hf']
        simp only [upd, cUpS]
        rw [if_neg (by omega), if_neg (by omega)]
      · rw [List.length_take, Nat.min_eq_left (by omega), ← List.singleton_append]
        refine cSeg.app (cSeg.one ?_) ?_
        · rw [← hf']
          simp only [upd]
          rw [if_pos (by omega)]
        · intro j u hu
          have hj : j < ((A.1 r).drop (s + i)).length := (List.getElem?_eq_some_iff.mp hu).1
          rw [List.length_drop] at hj
          rw [← hf']
          simp only [upd, cUpS, List.length_singleton]
          rw [if_neg (by omega), if_pos (by omega), show 31 * r + (s + i) + 1 + j - 1 = 31 * r + (s + i) + j by omega]
          exact hseg.drop (n := s + i) j u hu)
  refine ⟨σ', ?_, z2, z3, z4⟩
  unfold f_X_bringIn
  simp only [x_openGap hw.1 hp hv hr h.2.2.2.1 h.2.2.2.2.1 (h.2.1 r hr2) (show s + i ≤ (A.1 r).length by omega) (show (A.1 r).length + 1 ≤ 31 by omega), c_ob_0, c_fa_0_0, c_fa_0_1, c_fi_0_2, c_put_0_2, c_fi_0_3, c_put_0_3, c_fi_0_4, c_put_0_4, c_ob_1, c_fa_1_0, c_fa_1_1, c_fa_1_2, c_fa_1_3, c_fa_1_4, c_fa_1_5, c_fi_1_6, c_put_1_6, c_ob_2, c_fa_2_0, c_ob_4, c_fa_4_0, c_ob_6, c_fa_6_0, c_ob_8, c_fa_8_0, c_ob_10, c_fa_10_0, c_ob_12, c_fa_12_0, c_ob_14, c_fa_14_0, c_fa_14_1, c_fa_14_2, c_fa_14_3, c_fi_14_4, c_put_14_4, c_ob_15, c_fa_15_0, c_ob_17, c_fa_17_0, c_ob_19, c_fa_19_0, c_ob_21, c_fa_21_0, c_len_0, c_ld_0, c_st_0, c_rd_0, c_wr_0, c_len_1, c_ld_1, c_st_1, c_rd_1, c_wr_1, c_len_2, c_ld_2, c_st_2, c_rd_2, c_wr_2, c_len_3, c_ld_3, c_st_3, c_rd_3, c_wr_3, c_len_4, c_ld_4, c_st_4, c_rd_4, c_wr_4, c_len_5, c_ld_5, c_st_5, c_rd_5, c_wr_5, c_len_6, c_ld_6, c_st_6, c_rd_6, c_wr_6, c_len_7, c_ld_7, c_st_7, c_rd_7, c_wr_7, c_len_8, c_ld_8, c_st_8, c_rd_8, c_wr_8, c_len_9, c_ld_9, c_st_9, c_rd_9, c_wr_9, bI_rI, bL_rL, bA_rA, bV_rV, bI_th, bL_th, bA_th, bV_th, rZ_0, rZ_1]
  rw [y_write hp (by rw [cArr_ne (by decide), cArr_ne (by decide)]; exact e3) (by rw [cArr_ne (by decide), cArr_ne (by decide)]; exact e4) (by omega), bV_rV, cArr_ne (by decide), cArr_at, hf', cArr_comm (by decide), cArr_cArr, ← ofInt_1, c_ob_0, z1, bV_rV]
theorem x_takeOut (h : CRepx exc σ A) (hw : mInw exc p A) (hv : mV A p) {r s i : Nat} {t : Nat × Nat × Nat} (hr : mRw A.2.1 zDp p = some (r, s)) (hi : i < mLen A p) (ht : (A.1 r)[s + i]? = some t) :
    ∃ σ', f_X_takeOut (cPut b σ G) b (nI p) (nI i) exc = rI (cE t) (cPut b σ' G) ∧ CRepx exc σ' (mChange (mRows A r ((A.1 r).eraseIdx (s + i))) p (-1) exc) ∧ σ'.1 8 = σ.1 8 ∧ σ'.1 9 = σ.1 9 := by
  have hr2 := mRw_lt _ _ _ _ hr
  have hp := hv.lt hw.1
  have hfit := hw.2.1.rw _ _ _ _ hr
  have h31 := hw.2.2.1 r hr2
  generalize hf' : cDnS (σ.1 0) (31 * r + (s + i)) (31 * r + (A.1 r).length) = f'
  have hseg := h.1.seg hr2
  obtain ⟨σ', z1, z2, z3, z4⟩ := x_chg (b := b) (G := G) (exc := exc) (z := -1) (f' := f') (ts := (A.1 r).eraseIdx (s + i)) hw h hv hr (by decide) (by omega) (by rw [List.length_eraseIdx_of_lt (by omega)]; omega) (by rw [List.length_eraseIdx_of_lt (by omega)]; omega) (by omega)
    (by
      intro q hq
      rw [← hf']
      simp only [cDnS]
      rw [if_neg (by omega)])
    (by
      rw [er_td]
      refine cSeg.app ?_ ?_
      · refine (hseg.take (n := s + i)).cong (fun j hj => ?_)
        rw [List.length_take] at hj
        rw [← hf']
        simp only [cDnS]
        rw [if_neg (by omega)]
      · rw [List.length_take, Nat.min_eq_left (by omega)]
        intro j u hu
        have hj : j < ((A.1 r).drop (s + i + 1)).length := (List.getElem?_eq_some_iff.mp hu).1
        rw [List.length_drop] at hj
        rw [← hf']
        simp only [cDnS]
        rw [if_pos (by omega), show 31 * r + (s + i) + j + 1 = 31 * r + (s + i + 1) + j by omega]
        exact hseg.drop (n := s + i + 1) j u hu)
  refine ⟨σ', ?_, z2, z3, z4⟩
  unfold f_X_takeOut
  simp only [x_at h hw hv hr ht, x_closeGap hw.1 hp hv hr h.2.2.2.1 h.2.2.2.2.1 (h.2.1 r hr2) (show s + i < (A.1 r).length by omega) h31, c_ob_0, c_fa_0_0, c_fa_0_1, c_fi_0_2, c_put_0_2, c_fi_0_3, c_put_0_3, c_fi_0_4, c_put_0_4, c_ob_1, c_fa_1_0, c_fa_1_1, c_fa_1_2, c_fa_1_3, c_fa_1_4, c_fa_1_5, c_fi_1_6, c_put_1_6, c_ob_2, c_fa_2_0, c_ob_4, c_fa_4_0, c_ob_6, c_fa_6_0, c_ob_8, c_fa_8_0, c_ob_10, c_fa_10_0, c_ob_12, c_fa_12_0, c_ob_14, c_fa_14_0, c_fa_14_1, c_fa_14_2, c_fa_14_3, c_fi_14_4, c_put_14_4, c_ob_15, c_fa_15_0, c_ob_17, c_fa_17_0, c_ob_19, c_fa_19_0, c_ob_21, c_fa_21_0, c_len_0, c_ld_0, c_st_0, c_rd_0, c_wr_0, c_len_1, c_ld_1, c_st_1, c_rd_1, c_wr_1, c_len_2, c_ld_2, c_st_2, c_rd_2, c_wr_2, c_len_3, c_ld_3, c_st_3, c_rd_3, c_wr_3, c_len_4, c_ld_4, c_st_4, c_rd_4, c_wr_4, c_len_5, c_ld_5, c_st_5, c_rd_5, c_wr_5, c_len_6, c_ld_6, c_st_6, c_rd_6, c_wr_6, c_len_7, c_ld_7, c_st_7, c_rd_7, c_wr_7, c_len_8, c_ld_8, c_st_8, c_rd_8, c_wr_8, c_len_9, c_ld_9, c_st_9, c_rd_9, c_wr_9, bI_rI, bL_rL, bA_rA, bV_rV, bI_th, bL_th, bA_th, bV_th, rZ_0, rZ_1]
  rw [hf', ← ofInt_m1, z1, bV_rV]
end Cop
