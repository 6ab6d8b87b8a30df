theorem s_ldI {w : Nat → Nat} {G : gH} {o : Nat} {A : mS} {D : mD} (h : MS w o G A D) {j i : Nat} {k : Int32 → gR} (hj : j < 6) (hi : i = mFd j) : gFI G o 6 i k = k (A.2.2.2 j) := by
  rw [hi]
  exact gFI_of h.2.2.1 rfl (mOb_int hj)
section Put
variable {w : Nat → Nat} {b o m : Nat} {A : mS} {σ : cS} {H : gH}
theorem sim_addAt (hR : CRep σ A) (hI : mInv m A) (hm : m < 600) (x i k : Int32) : SimOp w b o A m σ H xIAS (f_X_addAt (cPut b σ H) b x i k) (fun G => f_M_addAt w G o x i k) := by
  have hX := CRepx.of (exc := -1) hR
  by_cases hx : mIsL A x
  · have hL := hx
    obtain ⟨p, hp, rfl, hv⟩ := hx
    have hv : mV A p := hv
    obtain ⟨r, s, hr, hr2, hfit, h31, hp6, hro⟩ := hI.pl hv
    have hW := hI.w p
    by_cases hi : mIsG (mLen A p) i
    · have hi' := hi
      obtain ⟨i, hip, rfl⟩ := hi
      by_cases hk : mIsP 31 k
      · have hK := hk
        obtain ⟨k, hk31, rfl⟩ := hk
        by_cases hf : (A.1 r).length + 1 ≤ 31
        · obtain ⟨-, hXB, hIB⟩ := b_made hR hI hm
          obtain ⟨σ', y1, y2, yR⟩ := b_in (w := w) (b := b) (o := o) (H := H) (k := k) (i := i) hXB hIB rfl hv hr hip (by show (A.1 r).length ≤ 30; omega) hk31 (Nat.lt_succ_self m)
          refine Sim.yes (nI m) σ' ?_ (fun G D h => ?_)
          · unfold f_X_addAt
            simp only [x_needList hX hW hL, (x_needGap hX hW.1 hv (show mLen A p < 100 by omega)).1 hi', x_needKey.1 hK, (x_needRoom (n := 1) hX hW.1 hv hr h31 (by omega)).1 hf, x_make hX hI.2.2.2.2.1 (show k < 32 by omega), y1, x_tagOf (show k < 32 by omega) (show m ≤ 1000 by omega), c_ob_0, c_fa_0_0, c_fa_0_1, c_fi_0_2, c_put_0_2, c_fi_0_3, c_put_0_3, c_fi_0_4, c_put_0_4, c_ob_1, c_fa_1_0, c_fa_1_1, c_fa_1_2, c_fa_1_3, c_fa_1_4, c_fa_1_5, c_fi_1_6, c_put_1_6, c_ob_2, c_fa_2_0, c_ob_4, c_fa_4_0, c_ob_6, c_fa_6_0, c_ob_8, c_fa_8_0, c_ob_10, c_fa_10_0, c_ob_12, c_fa_12_0, c_ob_14, c_fa_14_0, c_fa_14_1, c_fa_14_2, c_fa_14_3, c_fi_14_4, c_put_14_4, c_ob_15, c_fa_15_0, c_ob_17, c_fa_17_0, c_ob_19, c_fa_19_0, c_ob_21, c_fa_21_0, c_len_0, c_ld_0, c_st_0, c_rd_0, c_wr_0, c_len_1, c_ld_1, c_st_1, c_rd_1, c_wr_1, c_len_2, c_ld_2, c_st_2, c_rd_2, c_wr_2, c_len_3, c_ld_3, c_st_3, c_rd_3, c_wr_3, c_len_4, c_ld_4, c_st_4, c_rd_4, c_wr_4, c_len_5, c_ld_5, c_st_5, c_rd_5, c_wr_5, c_len_6, c_ld_6, c_st_6, c_rd_6, c_wr_6, c_len_7, c_ld_7, c_st_7, c_rd_7, c_wr_7, c_len_8, c_ld_8, c_st_8, c_rd_8, c_wr_8, c_len_9, c_ld_9, c_st_9, c_rd_9, c_wr_9, bI_rI, bL_rL, bA_rA, bV_rV, bI_th, bL_th, bA_th, bV_th, rZ_0, rZ_1]
          · obtain ⟨G1, r1, h1, s1⟩ := r_list1 h hL
            obtain ⟨G2, r2, h2, s2, t2⟩ := s_make (k := k) h1 (show (mSet A 0 0).2.2.2 1 = nI m from hI.2.2.2.2.1)
            obtain ⟨G3, G4, B3, A', D3, D', r3, h3, r4, h4, -, c0, c1, c2, c3, s4⟩ := yR G2 D G1.2.1 h2 t2
            refine ⟨A', D', G4, m + 1, ?_, h4, c1, c2, Nat.le_refl _, c3, ((s1.trans s2).trans s4).mono (by omega) (by omega)⟩
            unfold f_M_addAt
            rw [r1, gOb_of h1.2.2.1 rfl, s_len h1 hW.1 hv, bI_rI]
            rw [show f_M_isIn G1 (nI i) (nI 0) (nI (mLen (mSet A 0 0) p)) = rI 1 G1 from (s_isIn G1 (mLen A p) (by omega) _).1 hi', bI_rI, if_neg (by decide), r_ref0 h1 rfl, (s_inK G1 _).1 hK, bI_rI, if_neg (by decide), r_ref0 h1 rfl, gOb_of h1.2.2.1 rfl, (s_isFull (n := 1) h1 hW.1 hv hr (by omega)).1 hf, bI_rI, r_ref0b h1 rfl, gOb_of h1.2.2.1 rfl, r2, bA_rA, gOb_of h2.2.2.1 rfl, r3, bV_rV, gOb_of h3.2.2.1 rfl, r4, bV_rV, s_ldI (j := 1) (i := 4) h4 (by omega) rfl, c0]
            rw [show (mSet (mSet A 0 0) 1 (nI (m + 1))).2.2.2 1 = nI (m + 1) from rfl, nI_sub (by omega)]
            rfl
        · refine Sim.no hR hI 3 (by decide) (by decide) ?_ (fun G D h => ?_)
          · unfold f_X_addAt
            simp only [x_needList hX hW hL, (x_needGap hX hW.1 hv (show mLen A p < 100 by omega)).1 hi', x_needKey.1 hK, (x_needRoom (n := 1) hX hW.1 hv hr h31 (by omega)).2 (by omega), c_ob_0, c_fa_0_0, c_fa_0_1, c_fi_0_2, c_put_0_2, c_fi_0_3, c_put_0_3, c_fi_0_4, c_put_0_4, c_ob_1, c_fa_1_0, c_fa_1_1, c_fa_1_2, c_fa_1_3, c_fa_1_4, c_fa_1_5, c_fi_1_6, c_put_1_6, c_ob_2, c_fa_2_0, c_ob_4, c_fa_4_0, c_ob_6, c_fa_6_0, c_ob_8, c_fa_8_0, c_ob_10, c_fa_10_0, c_ob_12, c_fa_12_0, c_ob_14, c_fa_14_0, c_fa_14_1, c_fa_14_2, c_fa_14_3, c_fi_14_4, c_put_14_4, c_ob_15, c_fa_15_0, c_ob_17, c_fa_17_0, c_ob_19, c_fa_19_0, c_ob_21, c_fa_21_0, c_len_0, c_ld_0, c_st_0, c_rd_0, c_wr_0, c_len_1, c_ld_1, c_st_1, c_rd_1, c_wr_1, c_len_2, c_ld_2, c_st_2, c_rd_2, c_wr_2, c_len_3, c_ld_3, c_st_3, c_rd_3, c_wr_3, c_len_4, c_ld_4, c_st_4, c_rd_4, c_wr_4, c_len_5, c_ld_5, c_st_5, c_rd_5, c_wr_5, c_len_6, c_ld_6, c_st_6, c_rd_6, c_wr_6, c_len_7, c_ld_7, c_st_7, c_rd_7, c_wr_7, c_len_8, c_ld_8, c_st_8, c_rd_8, c_wr_8, c_len_9, c_ld_9, c_st_9, c_rd_9, c_wr_9, bI_rI, bL_rL, bA_rA, bV_rV, bI_th, bL_th, bA_th, bV_th, rZ_0, rZ_1]
            rfl
          · obtain ⟨G1, r1, h1, s1⟩ := r_list1 h hL
            obtain ⟨G2, r2, h2, s2⟩ := r_no1b (c := 3) h1 (by decide)
            refine ⟨G2, ?_, h2, (s1.trans s2).mono (by omega) (by omega)⟩
            unfold f_M_addAt
            rw [r1, gOb_of h1.2.2.1 rfl, s_len h1 hW.1 hv, bI_rI]
            rw [show f_M_isIn G1 (nI i) (nI 0) (nI (mLen (mSet A 0 0) p)) = rI 1 G1 from (s_isIn G1 (mLen A p) (by omega) _).1 hi', bI_rI, if_neg (by decide), r_ref0 h1 rfl, (s_inK G1 _).1 hK, bI_rI, if_neg (by decide), r_ref0 h1 rfl, gOb_of h1.2.2.1 rfl, (s_isFull (n := 1) h1 hW.1 hv hr (by omega)).2 (by show 31 < (A.1 r).length + 1; omega), bI_rI, r2]
            rfl
      · refine Sim.no hR hI 2 (by decide) (by decide) ?_ (fun G D h => ?_)
        · unfold f_X_addAt
          simp only [x_needList hX hW hL, (x_needGap hX hW.1 hv (show mLen A p < 100 by omega)).1 hi', x_needKey.2 hk, c_ob_0, c_fa_0_0, c_fa_0_1, c_fi_0_2, c_put_0_2, c_fi_0_3, c_put_0_3, c_fi_0_4, c_put_0_4, c_ob_1, c_fa_1_0, c_fa_1_1, c_fa_1_2, c_fa_1_3, c_fa_1_4, c_fa_1_5, c_fi_1_6, c_put_1_6, c_ob_2, c_fa_2_0, c_ob_4, c_fa_4_0, c_ob_6, c_fa_6_0, c_ob_8, c_fa_8_0, c_ob_10, c_fa_10_0, c_ob_12, c_fa_12_0, c_ob_14, c_fa_14_0, c_fa_14_1, c_fa_14_2, c_fa_14_3, c_fi_14_4, c_put_14_4, c_ob_15, c_fa_15_0, c_ob_17, c_fa_17_0, c_ob_19, c_fa_19_0, c_ob_21, c_fa_21_0, c_len_0, c_ld_0, c_st_0, c_rd_0, c_wr_0, c_len_1, c_ld_1, c_st_1, c_rd_1, c_wr_1, c_len_2, c_ld_2, c_st_2, c_rd_2, c_wr_2, c_len_3, c_ld_3, c_st_3, c_rd_3, c_wr_3, c_len_4, c_ld_4, c_st_4, c_rd_4, c_wr_4, c_len_5, c_ld_5, c_st_5, c_rd_5, c_wr_5, c_len_6, c_ld_6, c_st_6, c_rd_6, c_wr_6, c_len_7, c_ld_7, c_st_7, c_rd_7, c_wr_7, c_len_8, c_ld_8, c_st_8, c_rd_8, c_wr_8, c_len_9, c_ld_9, c_st_9, c_rd_9, c_wr_9, bI_rI, bL_rL, bA_rA, bV_rV, bI_th, bL_th, bA_th, bV_th, rZ_0, rZ_1]
          rfl
        · obtain ⟨G1, r1, h1, s1⟩ := r_list1 h hL
          obtain ⟨G2, r2, h2, s2⟩ := r_no1 (c := 2) h1 (by decide)
          refine ⟨G2, ?_, h2, (s1.trans s2).mono (by omega) (by omega)⟩
          unfold f_M_addAt
          rw [r1, gOb_of h1.2.2.1 rfl, s_len h1 hW.1 hv, bI_rI]
          rw [show f_M_isIn G1 (nI i) (nI 0) (nI (mLen (mSet A 0 0) p)) = rI 1 G1 from (s_isIn G1 (mLen A p) (by omega) _).1 hi', bI_rI, if_neg (by decide), r_ref0 h1 rfl, (s_inK G1 _).2 hk, bI_rI, if_pos rfl, r2]
          rfl
    · refine Sim.no hR hI 1 (by decide) (by decide) ?_ (fun G D h => ?_)
      · unfold f_X_addAt
        simp only [x_needList hX hW hL, (x_needGap hX hW.1 hv (show mLen A p < 100 by omega)).2 hi, c_ob_0, c_fa_0_0, c_fa_0_1, c_fi_0_2, c_put_0_2, c_fi_0_3, c_put_0_3, c_fi_0_4, c_put_0_4, c_ob_1, c_fa_1_0, c_fa_1_1, c_fa_1_2, c_fa_1_3, c_fa_1_4, c_fa_1_5, c_fi_1_6, c_put_1_6, c_ob_2, c_fa_2_0, c_ob_4, c_fa_4_0, c_ob_6, c_fa_6_0, c_ob_8, c_fa_8_0, c_ob_10, c_fa_10_0, c_ob_12, c_fa_12_0, c_ob_14, c_fa_14_0, c_fa_14_1, c_fa_14_2, c_fa_14_3, c_fi_14_4, c_put_14_4, c_ob_15, c_fa_15_0, c_ob_17, c_fa_17_0, c_ob_19, c_fa_19_0, c_ob_21, c_fa_21_0, c_len_0, c_ld_0, c_st_0, c_rd_0, c_wr_0, c_len_1, c_ld_1, c_st_1, c_rd_1, c_wr_1, c_len_2, c_ld_2, c_st_2, c_rd_2, c_wr_2, c_len_3, c_ld_3, c_st_3, c_rd_3, c_wr_3, c_len_4, c_ld_4, c_st_4, c_rd_4, c_wr_4, c_len_5, c_ld_5, c_st_5, c_rd_5, c_wr_5, c_len_6, c_ld_6, c_st_6, c_rd_6, c_wr_6, c_len_7, c_ld_7, c_st_7, c_rd_7, c_wr_7, c_len_8, c_ld_8, c_st_8, c_rd_8, c_wr_8, c_len_9, c_ld_9, c_st_9, c_rd_9, c_wr_9, bI_rI, bL_rL, bA_rA, bV_rV, bI_th, bL_th, bA_th, bV_th, rZ_0, rZ_1]
        rfl
      · obtain ⟨G1, r1, h1, s1⟩ := r_list1 h hL
        obtain ⟨G2, r2, h2, s2⟩ := r_no1 (c := 1) h1 (by decide)
        refine ⟨G2, ?_, h2, (s1.trans s2).mono (by omega) (by omega)⟩
        unfold f_M_addAt
        rw [r1, gOb_of h1.2.2.1 rfl, s_len h1 hW.1 hv, bI_rI]
        rw [show f_M_isIn G1 i (nI 0) (nI (mLen (mSet A 0 0) p)) = rI 0 G1 from (s_isIn G1 (mLen A p) (by omega) _).2 hi, bI_rI, if_pos rfl, r2]
        rfl
  · refine Sim.no hR hI 1 (by decide) (by decide) ?_ (fun G D h => ?_)
    · unfold f_X_addAt
      simp only [x_needList_no hX (hI.w 0) hx, c_ob_0, c_fa_0_0, c_fa_0_1, c_fi_0_2, c_put_0_2, c_fi_0_3, c_put_0_3, c_fi_0_4, c_put_0_4, c_ob_1, c_fa_1_0, c_fa_1_1, c_fa_1_2, c_fa_1_3, c_fa_1_4, c_fa_1_5, c_fi_1_6, c_put_1_6, c_ob_2, c_fa_2_0, c_ob_4, c_fa_4_0, c_ob_6, c_fa_6_0, c_ob_8, c_fa_8_0, c_ob_10, c_fa_10_0, c_ob_12, c_fa_12_0, c_ob_14, c_fa_14_0, c_fa_14_1, c_fa_14_2, c_fa_14_3, c_fi_14_4, c_put_14_4, c_ob_15, c_fa_15_0, c_ob_17, c_fa_17_0, c_ob_19, c_fa_19_0, c_ob_21, c_fa_21_0, c_len_0, c_ld_0, c_st_0, c_rd_0, c_wr_0, c_len_1, c_ld_1, c_st_1, c_rd_1, c_wr_1, c_len_2, c_ld_2, c_st_2, c_rd_2, c_wr_2, c_len_3, c_ld_3, c_st_3, c_rd_3, c_wr_3, c_len_4, c_ld_4, c_st_4, c_rd_4, c_wr_4, c_len_5, c_ld_5, c_st_5, c_rd_5, c_wr_5, c_len_6, c_ld_6, c_st_6, c_rd_6, c_wr_6, c_len_7, c_ld_7, c_st_7, c_rd_7, c_wr_7, c_len_8, c_ld_8, c_st_8, c_rd_8, c_wr_8, c_len_9, c_ld_9, c_st_9, c_rd_9, c_wr_9, bI_rI, bL_rL, bA_rA, bV_rV, bI_th, bL_th, bA_th, bV_th, rZ_0, rZ_1]
      rfl
    · obtain ⟨G1, r1, h1, s1⟩ := r_list0 h hx
      refine ⟨G1, ?_, h1, s1⟩
      unfold f_M_addAt
      rw [r1]
      rfl
/-- one list comes into another, on both sides -/
theorem b_all (hR : CRep σ A) (hI : mInv m A) {p r s i q r2 s2 : Nat} (hv : mV A p) (hr : mRw A.2.1 zDp p = some (r, s)) (hq : mV A q) (hrq : mRw A.2.1 zDp q = some (r2, s2)) (hne : r ≠ r2) (hi : i ≤ mLen A p) (hl : (A.1 r).length + mLen A q ≤ 31) :
    ∃ σ', f_X_bringAll (cPut b σ H) b (nI p) (nI i) (nI q) = rI (nI (mLen A q)) (cPut b σ' H) ∧ f_I_lengthOf (cPut b σ' H) (b + 1) (nI p) = rI (nI (mLen A p + mLen A q)) (cPut b σ' H) ∧
      ∀ (G : gH) (D : mD), MS w o G (mSet A 0 0) D → ∃ (G' : gH) (A' : mS) (D' : mD), f_M_bring w G o (nI p) (nI i) (nI q) = rI (nI (mLen A q)) G' ∧ MS w o G' A' D' ∧ f_M_length G' o (nI p) = rI (nI (mLen A p + mLen A q)) G' ∧ CRep σ' A' ∧ mInv m A' ∧ A'.2.2.2 0 = 0 ∧ mSt 36 1974 G G' := by
  have hr1 := mRw_lt _ _ _ _ hr
  have hr2 := mRw_lt _ _ _ _ hrq
  have hX : CRepx (-1) σ (mSet A 0 0) := (CRepx.of (exc := -1) hR).thr 0
  have hIt : mInv m (mSet A 0 0) := hI.thr 0
  have hW := hIt.w p
  have hfitq := hW.2.1.rw _ _ _ _ hrq
  have hM : (sSeg A r2 s2 (mLen A q)).length = mLen A q := sSeg_len hfitq
  obtain ⟨σ', y1, y2⟩ := x_bringAll (b := b) (G := H) hX hW hv hr hq hrq hne hi hl
  obtain ⟨c1, c2, c3, c4, c5⟩ := mChg_all (z := (mLen A q : Int)) (ts := sIns (A.1 r) (sSeg A r2 s2 (mLen A q)) (s + i)) hIt hv hr (by rw [sIns_len, hM]; show ((A.1 r).length + mLen A q : Nat) = ((A.1 r).length : Int) + _; omega) (by rw [sIns_len, hM]; exact hl) (by omega) (fun z => by
    have : mLen A q = 0 := by omega
    rw [this]
    show sIns (A.1 r) (((A.1 r2).drop s2).take 0) (s + i) = _
    rw [List.take_zero]; exact sIns_nil) (fun t ht => by
    rcases sIns_mem ht with u | u
    · exact (hI.2.2.1 r hr1).2 t u
    · exact (hI.2.2.1 r2 hr2).2 t (sSeg_mem u))
  have e1 : ((mLen (mSet A 0 0) p : Int) + (mLen A q : Int)).toNat = mLen A p + mLen A q := by show ((mLen A p : Int) + (mLen A q : Int)).toNat = _; omega
  rw [e1] at c3
  refine ⟨σ', y1, ?_, fun G D h => ?_⟩
  · rw [x_len y2 c1.1 c2]
    exact congrArg (fun n => rI (nI n) (cPut b σ' H)) c3
  · obtain ⟨G', D', r1, h1, s1⟩ := s_bring (p := p) (i := i) (q := q) h hIt hv hr hq hrq hne hi hl
    refine ⟨G', _, D', r1, h1, ?_, y2, c1, c5 0 (by omega) (by omega), s1⟩
    rw [s_len h1 c1.1 c2]
    exact congrArg (fun n => rI (nI n) G') c3
end Put
section Two
variable {w : Nat → Nat} {G : gH} {o : Nat} {A : mS} {D : mD}
/-- isNoList x || isNoList y, in front of start: all is well, or the first refusal -/
theorem r_two1 (h : MS w o G A D) {x y : Int32} (hx : mIsL A x) (hy : mIsL A y) : ∃ G', (∀ X Y Z : gH → gR, (gOb G o 6 fun o2 => bI (f_M_isNoList G o x) fun v5 G4 => if v5 = 0 then (gOb G4 o 6 fun o7 => bI (f_M_isNoList G4 o y) fun v10 G9 => if v10 = 0 then (gOb G9 o 6 fun o12 => bI (f_M_start G9 o (nI 0) (nI 1)) fun v15 G14 => X G14 ) else Y G9) else Z G4) = X G') ∧ MS w o G' (mSet A 0 0) D ∧ mSt 0 0 G G' := by
  obtain ⟨G', a1, a2, a3⟩ := s_go h
  refine ⟨G', fun X Y Z => ?_, a2, a3⟩
  rw [gOb_of h.2.2.1 rfl, (s_noList h x).1 hx, bI_rI, if_pos rfl, gOb_of h.2.2.1 rfl, (s_noList h y).1 hy, bI_rI, if_pos rfl, gOb_of h.2.2.1 rfl, a1, bI_rI]
end Two
