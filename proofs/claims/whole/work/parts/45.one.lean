-- set, remove, removeIf
section One
variable {w : Nat → Nat} {b o m : Nat} {A : mS} {σ : cS} {H : gH}
theorem sim_set (hR : CRep σ A) (hI : mInv m A) (hm : m < 600) (x i k : Int32) : SimOp w b o A m σ H xIG (f_X_set (cPut b σ H) b x i k) (fun G => f_M_set G o x i k) := by
  have hX := CRepx.of (exc := -1) hR
  by_cases hx : mIsL A x
  · have hL := hx
    obtain ⟨p, hp, rfl, hv⟩ := hx
    have hv : mV A p := hv
    obtain ⟨r, s, hr, hr2, hfit, h31, hp6, hro⟩ := hI.pl hv
    have hW := hI.w p
    have hl100 : mLen A p < 100 := by omega
    by_cases hi : mIsP (mLen A p) i
    · have hi' := hi
      obtain ⟨i, hip, rfl⟩ := hi
      by_cases hk : mIsP 31 k
      · have hK := hk
        obtain ⟨k, hk31, rfl⟩ := hk
        have ht := List.getElem?_eq_getElem (show s + i < (A.1 r).length by omega)
        generalize (A.1 r)[s + i] = t at ht
        have hto := (hI.2.2.1 r hr2).2 t (List.mem_of_getElem? ht)
        obtain ⟨hXt, hXB, hIB⟩ := b_made hR hI hm
        have hWB := hIB.w p
        obtain ⟨y1, y2⟩ := x_write (b := b) (G := H) (i := i) hXB hWB.1 hWB.2.1 hWB.2.2.1 hv hr hip (0, k, m)
        have y1' : f_I_write (cPut b (cSetI σ 2 (nI (m + 1))) H) (b + 1) (nI p) (nI i) (nI (32 * m + k)) = _ := y1
        refine Sim.yes (nI t.2.1) (cArr (cSetI σ 2 (nI (m + 1))) 0 (upd ((cSetI σ 2 (nI (m + 1))).1 0) (31 * r + (s + i)) (cE (0, k, m)))) ?_ (fun G D h => ?_)
        · unfold f_X_set
          simp only [x_needList hX hW hL, (x_needPlace hX hW.1 hv hl100).1 hi', x_needKey.1 hK, x_keyAt hX hW hv hr ht (show t.2.1 < 32 from Nat.lt_succ_of_lt hto.1), x_make hX hI.2.2.2.2.1 (show k < 32 by omega), y1', c_ob_0, c_fa_0_0, c_fa_0_1, c_fi_0_2, c_put_0_2, c_fi_0_3, c_put_0_3, c_fi_0_4, c_put_0_4, c_ob_1, c_fa_1_0, c_fa_1_1, c_fa_1_2, c_fa_1_3, c_fa_1_4, c_fa_1_5, c_fi_1_6, c_put_1_6, c_ob_2, c_fa_2_0, c_ob_4, c_fa_4_0, c_ob_6, c_fa_6_0, c_ob_8, c_fa_8_0, c_ob_10, c_fa_10_0, c_ob_12, c_fa_12_0, c_ob_14, c_fa_14_0, c_fa_14_1, c_fa_14_2, c_fa_14_3, c_fi_14_4, c_put_14_4, c_ob_15, c_fa_15_0, c_ob_17, c_fa_17_0, c_ob_19, c_fa_19_0, c_ob_21, c_fa_21_0, c_len_0, c_ld_0, c_st_0, c_rd_0, c_wr_0, c_len_1, c_ld_1, c_st_1, c_rd_1, c_wr_1, c_len_2, c_ld_2, c_st_2, c_rd_2, c_wr_2, c_len_3, c_ld_3, c_st_3, c_rd_3, c_wr_3, c_len_4, c_ld_4, c_st_4, c_rd_4, c_wr_4, c_len_5, c_ld_5, c_st_5, c_rd_5, c_wr_5, c_len_6, c_ld_6, c_st_6, c_rd_6, c_wr_6, c_len_7, c_ld_7, c_st_7, c_rd_7, c_wr_7, c_len_8, c_ld_8, c_st_8, c_rd_8, c_wr_8, c_len_9, c_ld_9, c_st_9, c_rd_9, c_wr_9, bI_rI, bL_rL, bA_rA, bV_rV, bI_th, bL_th, bA_th, bV_th, rZ_0, rZ_1]
        · obtain ⟨G1, r1, h1, s1⟩ := s_go h
          obtain ⟨G2, r2, h2, s2, t2⟩ := s_make (k := k) h1 (show (mSet A 0 0).2.2.2 1 = nI m from hI.2.2.2.2.1)
          obtain ⟨G3, r3, h3, s3, t3, -⟩ := s_write (i := i) (u := (G1.2.1, k, m)) h2 hWB.1 hv hr ht t2
          have r3' : f_M_write G2 o (nI p) (nI i) G1.2.1 = rA t.1 G3 := r3
          refine ⟨_, D, G3, m + 1, ?_, h3, (CRepx.rowsC (exc := -1) y2 (us := (A.1 r).set (s + i) (G1.2.1, k, m)) ?_), hIB.rows ?_ ?_, Nat.le_refl _, rfl, ((s1.trans s2).trans s3).mono (by omega) (by omega)⟩
          · unfold f_M_set
            rw [gOb_of h.2.2.1 rfl, (s_noList h _).1 hL, bI_rI, if_pos rfl, gOb_of h.2.2.1 rfl, (s_noPlace h hW.1 hv hl100 _).1 hi', bI_rI, if_pos rfl, gOb_of h.2.2.1 rfl, r1, bI_rI, if_pos rfl, (s_inK G1 _).1 hK, bI_rI, if_neg (by decide), r_ref0 h1 rfl, gOb_of h1.2.2.1 rfl, r2, bA_rA, gOb_of h2.2.2.1 rfl, r3', bA_rA, t3.key]
          · show ((A.1 r).set (s + i) (0, k, m)).map Prod.snd = _
            rw [List.map_set, List.map_set]
          · exact List.length_set
          · intro u hu
            rcases set_mem hu with q | q
            · exact (hIB.2.2.1 r hr2).2 u q
            · rw [q]; exact ⟨hk31, Nat.lt_succ_self m⟩
      · refine Sim.no hR hI 2 (by decide) (by decide) ?_ (fun G D h => ?_)
        · unfold f_X_set
          simp only [x_needList hX hW hL, (x_needPlace hX hW.1 hv hl100).1 hi', x_needKey.2 hk, c_ob_0, c_fa_0_0, c_fa_0_1, c_fi_0_2, c_put_0_2, c_fi_0_3, c_put_0_3, c_fi_0_4, c_put_0_4, c_ob_1, c_fa_1_0, c_fa_1_1, c_fa_1_2, c_fa_1_3, c_fa_1_4, c_fa_1_5, c_fi_1_6, c_put_1_6, c_ob_2, c_fa_2_0, c_ob_4, c_fa_4_0, c_ob_6, c_fa_6_0, c_ob_8, c_fa_8_0, c_ob_10, c_fa_10_0, c_ob_12, c_fa_12_0, c_ob_14, c_fa_14_0, c_fa_14_1, c_fa_14_2, c_fa_14_3, c_fi_14_4, c_put_14_4, c_ob_15, c_fa_15_0, c_ob_17, c_fa_17_0, c_ob_19, c_fa_19_0, c_ob_21, c_fa_21_0, c_len_0, c_ld_0, c_st_0, c_rd_0, c_wr_0, c_len_1, c_ld_1, c_st_1, c_rd_1, c_wr_1, c_len_2, c_ld_2, c_st_2, c_rd_2, c_wr_2, c_len_3, c_ld_3, c_st_3, c_rd_3, c_wr_3, c_len_4, c_ld_4, c_st_4, c_rd_4, c_wr_4, c_len_5, c_ld_5, c_st_5, c_rd_5, c_wr_5, c_len_6, c_ld_6, c_st_6, c_rd_6, c_wr_6, c_len_7, c_ld_7, c_st_7, c_rd_7, c_wr_7, c_len_8, c_ld_8, c_st_8, c_rd_8, c_wr_8, c_len_9, c_ld_9, c_st_9, c_rd_9, c_wr_9, bI_rI, bL_rL, bA_rA, bV_rV, bI_th, bL_th, bA_th, bV_th, rZ_0, rZ_1]
          rfl
        · obtain ⟨G1, r1, h1, s1⟩ := s_go h
          obtain ⟨G2, r2, h2, s2⟩ := r_no1 (c := 2) h1 (by decide)
          refine ⟨G2, ?_, h2, (s1.trans s2).mono (by omega) (by omega)⟩
          unfold f_M_set
          rw [gOb_of h.2.2.1 rfl, (s_noList h _).1 hL, bI_rI, if_pos rfl, gOb_of h.2.2.1 rfl, (s_noPlace h hW.1 hv hl100 _).1 hi', bI_rI, if_pos rfl, gOb_of h.2.2.1 rfl, r1, bI_rI, if_pos rfl, (s_inK G1 _).2 hk, bI_rI, if_pos rfl, r2]
          rfl
    · refine Sim.no hR hI 1 (by decide) (by decide) ?_ (fun G D h => ?_)
      · unfold f_X_set
        simp only [x_needList hX hW hL, (x_needPlace hX hW.1 hv hl100).2 hi, c_ob_0, c_fa_0_0, c_fa_0_1, c_fi_0_2, c_put_0_2, c_fi_0_3, c_put_0_3, c_fi_0_4, c_put_0_4, c_ob_1, c_fa_1_0, c_fa_1_1, c_fa_1_2, c_fa_1_3, c_fa_1_4, c_fa_1_5, c_fi_1_6, c_put_1_6, c_ob_2, c_fa_2_0, c_ob_4, c_fa_4_0, c_ob_6, c_fa_6_0, c_ob_8, c_fa_8_0, c_ob_10, c_fa_10_0, c_ob_12, c_fa_12_0, c_ob_14, c_fa_14_0, c_fa_14_1, c_fa_14_2, c_fa_14_3, c_fi_14_4, c_put_14_4, c_ob_15, c_fa_15_0, c_ob_17, c_fa_17_0, c_ob_19, c_fa_19_0, c_ob_21, c_fa_21_0, c_len_0, c_ld_0, c_st_0, c_rd_0, c_wr_0, c_len_1, c_ld_1, c_st_1, c_rd_1, c_wr_1, c_len_2, c_ld_2, c_st_2, c_rd_2, c_wr_2, c_len_3, c_ld_3, c_st_3, c_rd_3, c_wr_3, c_len_4, c_ld_4, c_st_4, c_rd_4, c_wr_4, c_len_5, c_ld_5, c_st_5, c_rd_5, c_wr_5, c_len_6, c_ld_6, c_st_6, c_rd_6, c_wr_6, c_len_7, c_ld_7, c_st_7, c_rd_7, c_wr_7, c_len_8, c_ld_8, c_st_8, c_rd_8, c_wr_8, c_len_9, c_ld_9, c_st_9, c_rd_9, c_wr_9, bI_rI, bL_rL, bA_rA, bV_rV, bI_th, bL_th, bA_th, bV_th, rZ_0, rZ_1]
        rfl
      · obtain ⟨G1, r1, h1, s1⟩ := s_halt1 h
        refine ⟨G1, ?_, h1, s1⟩
        unfold f_M_set
        rw [gOb_of h.2.2.1 rfl, (s_noList h _).1 hL, bI_rI, if_pos rfl, gOb_of h.2.2.1 rfl, (s_noPlace h hW.1 hv hl100 _).2 hi, bI_rI, if_neg (by decide), gOb_of h.2.2.1 rfl, r1, bI_rI, if_neg (by decide)]
        rfl
  · refine Sim.no hR hI 1 (by decide) (by decide) ?_ (fun G D h => ?_)
    · unfold f_X_set
      simp only [x_needList_no hX (hI.w 0) hx, c_ob_0, c_fa_0_0, c_fa_0_1, c_fi_0_2, c_put_0_2, c_fi_0_3, c_put_0_3, c_fi_0_4, c_put_0_4, c_ob_1, c_fa_1_0, c_fa_1_1, c_fa_1_2, c_fa_1_3, c_fa_1_4, c_fa_1_5, c_fi_1_6, c_put_1_6, c_ob_2, c_fa_2_0, c_ob_4, c_fa_4_0, c_ob_6, c_fa_6_0, c_ob_8, c_fa_8_0, c_ob_10, c_fa_10_0, c_ob_12, c_fa_12_0, c_ob_14, c_fa_14_0, c_fa_14_1, c_fa_14_2, c_fa_14_3, c_fi_14_4, c_put_14_4, c_ob_15, c_fa_15_0, c_ob_17, c_fa_17_0, c_ob_19, c_fa_19_0, c_ob_21, c_fa_21_0, c_len_0, c_ld_0, c_st_0, c_rd_0, c_wr_0, c_len_1, c_ld_1, c_st_1, c_rd_1, c_wr_1, c_len_2, c_ld_2, c_st_2, c_rd_2, c_wr_2, c_len_3, c_ld_3, c_st_3, c_rd_3, c_wr_3, c_len_4, c_ld_4, c_st_4, c_rd_4, c_wr_4, c_len_5, c_ld_5, c_st_5, c_rd_5, c_wr_5, c_len_6, c_ld_6, c_st_6, c_rd_6, c_wr_6, c_len_7, c_ld_7, c_st_7, c_rd_7, c_wr_7, c_len_8, c_ld_8, c_st_8, c_rd_8, c_wr_8, c_len_9, c_ld_9, c_st_9, c_rd_9, c_wr_9, bI_rI, bL_rL, bA_rA, bV_rV, bI_th, bL_th, bA_th, bV_th, rZ_0, rZ_1]
      rfl
    · obtain ⟨G1, r1, h1, s1⟩ := s_halt1 h
      refine ⟨G1, ?_, h1, s1⟩
      unfold f_M_set
      rw [gOb_of h.2.2.1 rfl, (s_noList h _).2 hx, bI_rI, if_neg (by decide), gOb_of h.2.2.1 rfl, r1, bI_rI, if_neg (by decide)]
      rfl
/-- one thing goes, on both sides -/
theorem b_out (hR : CRep σ A) (hI : mInv m A) {p r s i : Nat} {t : Nat × Nat × Nat} (hv : mV A p) (hr : mRw A.2.1 zDp p = some (r, s)) (hip : i < mLen A p) (ht : (A.1 r)[s + i]? = some t) :
    ∃ σ', f_X_takeOut (cPut b σ H) b (nI p) (nI i) (-1) = rI (nI (32 * t.2.2 + t.2.1)) (cPut b σ' H) ∧
      ∀ (G : gH) (D : mD), MS w o G (mSet A 0 0) D → ∃ (G1 G2 : gH) (B A' : mS) (D1 D' : mD), f_M_take G o (nI p) (nI i) = rA t.1 G1 ∧ MS w o G1 B D1 ∧ mTh G1 t.1 t.2 ∧ f_M_change G1 o (nI p) (-1) (-1) = rV G2 ∧ MS w o G2 A' D' ∧ CRep σ' A' ∧ mInv m A' ∧ A'.2.2.2 0 = 0 ∧ mSt 0 0 G G2 := by
  obtain ⟨r', s', hr', hr2, hfit, h31, -, -⟩ := hI.pl hv
  rw [hr] at hr'
  cases hr'
  have hWt : mInw (-1) p (mSet A 0 0) := (hI.thr 0).w p
  have hXt : CRepx (-1) σ (mSet A 0 0) := (CRepx.of (exc := -1) hR).thr 0
  obtain ⟨σ', y1, y2, -, -⟩ := x_takeOut (b := b) (G := H) (i := i) hXt hWt hv hr hip ht
  have hel : ((A.1 r).eraseIdx (s + i)).length = (A.1 r).length - 1 := List.length_eraseIdx_of_lt (by omega)
  obtain ⟨c1, -, -, -, c5⟩ := mChg_all (z := -1) (ts := (A.1 r).eraseIdx (s + i)) (hI.thr 0) hv hr (by rw [hel]; show _ = ((A.1 r).length : Int) + _; omega) (by omega) (by show 0 ≤ (mLen A p : Int) + _; omega) (fun z => by omega) (fun t ht => (hI.2.2.1 r hr2).2 t (er_mem _ _ ht))
  refine ⟨σ', y1, fun G D h => ?_⟩
  obtain ⟨G2, r2, h2, s2, t2, -⟩ := s_take (i := i) h hWt.1 hv hr ht
  obtain ⟨G3, F, r3, h3, s3⟩ := s_change (z := -1) (exc := -1) h2 hWt hv hr (by omega) (by show 0 ≤ (mLen A p : Int) + _; omega) (by show ((A.1 r).length : Int) + _ ≤ 31; omega)
  rw [ofInt_m1] at r3
  exact ⟨G2, G3, _, _, _, _, r2, h2, t2, r3, h3, y2, c1, c5 0 (by omega) (by omega), (s2.trans s3.st).mono (by omega) (by omega)⟩
theorem r_ref0v {G : gH} {D : mD} (h : MS w o G A D) (h0 : A.2.2.2 0 = 0) {code : Int32} : ∀ X Y : gH → gR, (gOb G o 6 fun o2 => bI (f_M_refuse G o 0 code) fun v10 G9 => if v10 = 0 then X G9 else Y G9) = X G := r_ref0b h h0
theorem sim_remove (hR : CRep σ A) (hI : mInv m A) (x k : Int32) : SimOp w b o A m σ H xIG (f_X_remove (cPut b σ H) b x k) (fun G => f_M_remove G o x k) := by
  have hX := CRepx.of (exc := -1) hR
  by_cases hx : mIsL A x
  · have hL := hx
    obtain ⟨p, hp, rfl, hv⟩ := hx
    have hv : mV A p := hv
    obtain ⟨r, s, hr, hr2, hfit, h31, hp6, hro⟩ := hI.pl hv
    have hW := hI.w p
    by_cases hk : mIsP 31 k
    · have hK := hk
      obtain ⟨k, hk31, rfl⟩ := hk
      have x1 := x_first (b := b) (H := H) hX hW hv hr (hI.kk hr2) hk31
      have m1 : ∀ (G : gH) (D : mD), MS w o G (mSet A 0 0) D → f_M_firstOf G o (nI p) (nI k) = rI (sNo (sFi k (sSeg A r s (mLen A p)) 0)) G := fun G D h => s_first (A := mSet A 0 0) h hW.1 hv hr hfit h31 (fun t ht => by have := hI.kk hr2 t ht; omega) (show k < 100 by omega)
      have hsl : (sSeg A r s (mLen A p)).length = mLen A p := sSeg_len hfit
      cases hf : sFi k (sSeg A r s (mLen A p)) 0 with
      | none =>
        rw [hf] at x1 m1
        refine Sim.yes 0 σ ?_ (fun G D h => ?_)
        · unfold f_X_remove
          simp only [x_needList hX hW hL, x_needKey.1 hK, x1, c_ob_0, c_fa_0_0, c_fa_0_1, c_fi_0_2, c_put_0_2, c_fi_0_3, c_put_0_3, c_fi_0_4, c_put_0_4, c_ob_1, c_fa_1_0, c_fa_1_1, c_fa_1_2, c_fa_1_3, c_fa_1_4, c_fa_1_5, c_fi_1_6, c_put_1_6, c_ob_2, c_fa_2_0, c_ob_4, c_fa_4_0, c_ob_6, c_fa_6_0, c_ob_8, c_fa_8_0, c_ob_10, c_fa_10_0, c_ob_12, c_fa_12_0, c_ob_14, c_fa_14_0, c_fa_14_1, c_fa_14_2, c_fa_14_3, c_fi_14_4, c_put_14_4, c_ob_15, c_fa_15_0, c_ob_17, c_fa_17_0, c_ob_19, c_fa_19_0, c_ob_21, c_fa_21_0, c_len_0, c_ld_0, c_st_0, c_rd_0, c_wr_0, c_len_1, c_ld_1, c_st_1, c_rd_1, c_wr_1, c_len_2, c_ld_2, c_st_2, c_rd_2, c_wr_2, c_len_3, c_ld_3, c_st_3, c_rd_3, c_wr_3, c_len_4, c_ld_4, c_st_4, c_rd_4, c_wr_4, c_len_5, c_ld_5, c_st_5, c_rd_5, c_wr_5, c_len_6, c_ld_6, c_st_6, c_rd_6, c_wr_6, c_len_7, c_ld_7, c_st_7, c_rd_7, c_wr_7, c_len_8, c_ld_8, c_st_8, c_rd_8, c_wr_8, c_len_9, c_ld_9, c_st_9, c_rd_9, c_wr_9, bI_rI, bL_rL, bA_rA, bV_rV, bI_th, bL_th, bA_th, bV_th, rZ_0, rZ_1]
          rw [show sNo none = -1 from rfl, if_pos rfl]
        · obtain ⟨G1, r1, h1, s1⟩ := r_list1 h hL
          refine ⟨_, D, G1, m, ?_, h1, hR, hI.thr 0, Nat.le_succ m, rfl, s1.mono (by omega) (by omega)⟩
          unfold f_M_remove
          rw [r1, gOb_of h1.2.2.1 rfl, (s_noKey G1 o _).1 hK, bI_rI, r_ref0b h1 rfl, gOb_of h1.2.2.1 rfl, m1 G1 D h1, bI_rI, show sNo none = -1 from rfl, if_pos rfl, rZ_0]
      | some i =>
        rw [hf] at x1 m1
        have hil := sFi_lt _ _ _ hf
        have hip : i < mLen A p := by omega
        have hne : ¬ nI i = -1 := nI_ne1 (by omega)
        have ht := List.getElem?_eq_getElem (show s + i < (A.1 r).length by omega)
        generalize (A.1 r)[s + i] = t at ht
        obtain ⟨σ', y1, yR⟩ := b_out (w := w) (b := b) (o := o) (H := H) hR hI hv hr hip ht
        refine Sim.yes 1 σ' ?_ (fun G D h => ?_)
        · unfold f_X_remove
          simp only [x_needList hX hW hL, x_needKey.1 hK, x1, c_ob_0, c_fa_0_0, c_fa_0_1, c_fi_0_2, c_put_0_2, c_fi_0_3, c_put_0_3, c_fi_0_4, c_put_0_4, c_ob_1, c_fa_1_0, c_fa_1_1, c_fa_1_2, c_fa_1_3, c_fa_1_4, c_fa_1_5, c_fi_1_6, c_put_1_6, c_ob_2, c_fa_2_0, c_ob_4, c_fa_4_0, c_ob_6, c_fa_6_0, c_ob_8, c_fa_8_0, c_ob_10, c_fa_10_0, c_ob_12, c_fa_12_0, c_ob_14, c_fa_14_0, c_fa_14_1, c_fa_14_2, c_fa_14_3, c_fi_14_4, c_put_14_4, c_ob_15, c_fa_15_0, c_ob_17, c_fa_17_0, c_ob_19, c_fa_19_0, c_ob_21, c_fa_21_0, c_len_0, c_ld_0, c_st_0, c_rd_0, c_wr_0, c_len_1, c_ld_1, c_st_1, c_rd_1, c_wr_1, c_len_2, c_ld_2, c_st_2, c_rd_2, c_wr_2, c_len_3, c_ld_3, c_st_3, c_rd_3, c_wr_3, c_len_4, c_ld_4, c_st_4, c_rd_4, c_wr_4, c_len_5, c_ld_5, c_st_5, c_rd_5, c_wr_5, c_len_6, c_ld_6, c_st_6, c_rd_6, c_wr_6, c_len_7, c_ld_7, c_st_7, c_rd_7, c_wr_7, c_len_8, c_ld_8, c_st_8, c_rd_8, c_wr_8, c_len_9, c_ld_9, c_st_9, c_rd_9, c_wr_9, bI_rI, bL_rL, bA_rA, bV_rV, bI_th, bL_th, bA_th, bV_th, rZ_0, rZ_1]
          rw [show sNo (some i) = nI i from rfl, if_neg hne, y1, bI_rI]
        · obtain ⟨G1, r1, h1, s1⟩ := r_list1 h hL
          obtain ⟨G2, G3, B, A', D2, D', r2, h2, -, r3, h3, c1, c2, c3, s3⟩ := yR G1 D h1
          refine ⟨A', D', G3, m, ?_, h3, c1, c2, Nat.le_succ m, c3, (s1.trans s3).mono (by omega) (by omega)⟩
          unfold f_M_remove
          rw [r1, gOb_of h1.2.2.1 rfl, (s_noKey G1 o _).1 hK, bI_rI, r_ref0b h1 rfl, gOb_of h1.2.2.1 rfl, m1 G1 D h1, bI_rI, show sNo (some i) = nI i from rfl, if_neg hne, gOb_of h1.2.2.1 rfl, r2, bA_rA, gOb_of h2.2.2.1 rfl, r3, bV_rV, rZ_1]
    · refine Sim.no hR hI 2 (by decide) (by decide) ?_ (fun G D h => ?_)
      · unfold f_X_remove
        simp only [x_needList hX hW hL, x_needKey.2 hk, c_ob_0, c_fa_0_0, c_fa_0_1, c_fi_0_2, c_put_0_2, c_fi_0_3, c_put_0_3, c_fi_0_4, c_put_0_4, c_ob_1, c_fa_1_0, c_fa_1_1, c_fa_1_2, c_fa_1_3, c_fa_1_4, c_fa_1_5, c_fi_1_6, c_put_1_6, c_ob_2, c_fa_2_0, c_ob_4, c_fa_4_0, c_ob_6, c_fa_6_0, c_ob_8, c_fa_8_0, c_ob_10, c_fa_10_0, c_ob_12, c_fa_12_0, c_ob_14, c_fa_14_0, c_fa_14_1, c_fa_14_2, c_fa_14_3, c_fi_14_4, c_put_14_4, c_ob_15, c_fa_15_0, c_ob_17, c_fa_17_0, c_ob_19, c_fa_19_0, c_ob_21, c_fa_21_0, c_len_0, c_ld_0, c_st_0, c_rd_0, c_wr_0, c_len_1, c_ld_1, c_st_1, c_rd_1, c_wr_1, c_len_2, c_ld_2, c_st_2, c_rd_2, c_wr_2, c_len_3, c_ld_3, c_st_3, c_rd_3, c_wr_3, c_len_4, c_ld_4, c_st_4, c_rd_4, c_wr_4, c_len_5, c_ld_5, c_st_5, c_rd_5, c_wr_5, c_len_6, c_ld_6, c_st_6, c_rd_6, c_wr_6, c_len_7, c_ld_7, c_st_7, c_rd_7, c_wr_7, c_len_8, c_ld_8, c_st_8, c_rd_8, c_wr_8, c_len_9, c_ld_9, c_st_9, c_rd_9, c_wr_9, bI_rI, bL_rL, bA_rA, bV_rV, bI_th, bL_th, bA_th, bV_th, rZ_0, rZ_1]
        rfl
      · obtain ⟨G1, r1, h1, s1⟩ := r_list1 h hL
        obtain ⟨G2, r2, h2, s2⟩ := r_no1b (c := 2) h1 (by decide)
        refine ⟨G2, ?_, h2, (s1.trans s2).mono (by omega) (by omega)⟩
        unfold f_M_remove
        rw [r1, gOb_of h1.2.2.1 rfl, (s_noKey G1 o _).2 hk, bI_rI, r2, rZ_0]
  · refine Sim.no hR hI 1 (by decide) (by decide) ?_ (fun G D h => ?_)
    · unfold f_X_remove
      simp only [x_needList_no hX (hI.w 0) hx, c_ob_0, c_fa_0_0, c_fa_0_1, c_fi_0_2, c_put_0_2, c_fi_0_3, c_put_0_3, c_fi_0_4, c_put_0_4, c_ob_1, c_fa_1_0, c_fa_1_1, c_fa_1_2, c_fa_1_3, c_fa_1_4, c_fa_1_5, c_fi_1_6, c_put_1_6, c_ob_2, c_fa_2_0, c_ob_4, c_fa_4_0, c_ob_6, c_fa_6_0, c_ob_8, c_fa_8_0, c_ob_10, c_fa_10_0, c_ob_12, c_fa_12_0, c_ob_14, c_fa_14_0, c_fa_14_1, c_fa_14_2, c_fa_14_3, c_fi_14_4, c_put_14_4, c_ob_15, c_fa_15_0, c_ob_17, c_fa_17_0, c_ob_19, c_fa_19_0, c_ob_21, c_fa_21_0, c_len_0, c_ld_0, c_st_0, c_rd_0, c_wr_0, c_len_1, c_ld_1, c_st_1, c_rd_1, c_wr_1, c_len_2, c_ld_2, c_st_2, c_rd_2, c_wr_2, c_len_3, c_ld_3, c_st_3, c_rd_3, c_wr_3, c_len_4, c_ld_4, c_st_4, c_rd_4, c_wr_4, c_len_5, c_ld_5, c_st_5, c_rd_5, c_wr_5, c_len_6, c_ld_6, c_st_6, c_rd_6, c_wr_6, c_len_7, c_ld_7, c_st_7, c_rd_7, c_wr_7, c_len_8, c_ld_8, c_st_8, c_rd_8, c_wr_8, c_len_9, c_ld_9, c_st_9, c_rd_9, c_wr_9, bI_rI, bL_rL, bA_rA, bV_rV, bI_th, bL_th, bA_th, bV_th, rZ_0, rZ_1]
      rfl
    · obtain ⟨G1, r1, h1, s1⟩ := r_list0 h hx
      refine ⟨G1, ?_, h1, s1⟩
      unfold f_M_remove
      rw [r1, rZ_0]
end One
