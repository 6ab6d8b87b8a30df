section
section Knk
variable {w : Nat → Nat} {b o m : Nat} {A : mS} {σ : cS} {H : gH}
theorem x_knock (hR : CRep σ A) : f_X_knock (cPut b σ H) b = rI (A.2.2.2 5 + nI 1) (cPut b (cSetI σ 4 (A.2.2.2 5 + nI 1)) H) ∧ CRep (cSetI σ 4 (A.2.2.2 5 + nI 1)) (mSet A 5 (A.2.2.2 5 + nI 1)) := by
  have e : σ.2 4 = A.2.2.2 5 := (CRepx.of (exc := -1) hR).2.2.2.2.2.2.2.2.2.2
  refine ⟨?_, (CRepx.of (exc := -1) hR).int (Or.inr (Or.inr ⟨rfl, rfl⟩))⟩
  unfold f_X_knock
  simp only [c_ob_0, c_fa_0_0, c_fa_0_1, c_fi_0_2, c_put_0_2, c_fi_0_3, c_put_0_3, c_fi_0_4, c_put_0_4, c_ob_1, c_fa_1_0, c_fa_1_1, c_fa_1_2, c_fa_1_3, c_fa_1_4, c_fa_1_5, c_fi_1_6, c_put_1_6, c_ob_2, c_fa_2_0, c_ob_4, c_fa_4_0, c_ob_6, c_fa_6_0, c_ob_8, c_fa_8_0, c_ob_10, c_fa_10_0, c_ob_12, c_fa_12_0, c_ob_14, c_fa_14_0, c_fa_14_1, c_fa_14_2, c_fa_14_3, c_fi_14_4, c_put_14_4, c_ob_15, c_fa_15_0, c_ob_17, c_fa_17_0, c_ob_19, c_fa_19_0, c_ob_21, c_fa_21_0, c_len_0, c_ld_0, c_st_0, c_rd_0, c_wr_0, c_len_1, c_ld_1, c_st_1, c_rd_1, c_wr_1, c_len_2, c_ld_2, c_st_2, c_rd_2, c_wr_2, c_len_3, c_ld_3, c_st_3, c_rd_3, c_wr_3, c_len_4, c_ld_4, c_st_4, c_rd_4, c_wr_4, c_len_5, c_ld_5, c_st_5, c_rd_5, c_wr_5, c_len_6, c_ld_6, c_st_6, c_rd_6, c_wr_6, c_len_7, c_ld_7, c_st_7, c_rd_7, c_wr_7, c_len_8, c_ld_8, c_st_8, c_rd_8, c_wr_8, c_len_9, c_ld_9, c_st_9, c_rd_9, c_wr_9, bI_rI, bL_rL, bA_rA, bV_rV, bI_th, bL_th, bA_th, bV_th, rZ_0, rZ_1, e]
  rfl
theorem s_knock {G : gH} {D : mD} (h : MS w o G A D) : ∃ G', f_M_knock G o = rI (A.2.2.2 5 + nI 1) G' ∧ MS w o G' (mSet (mSet A 0 0) 5 (A.2.2.2 5 + nI 1)) D ∧ mSt 0 0 G G' := by
  obtain ⟨h1, s1⟩ := h.set 0 (nI 0)
  obtain ⟨h2, s2⟩ := h1.set 5 (A.2.2.2 5 + nI 1)
  refine ⟨_, ?_, h2, (s1.trans s2).mono (by omega) (by omega)⟩
  unfold f_M_knock
  rw [m_put (j := 0) (i := 0) h.2.2 (by omega) rfl, m_int (j := 5) (i := 8) h1.2.2 (by omega) rfl]
  rw [show (mSet A 0 (nI 0)).2.2.2 5 = A.2.2.2 5 from rfl, m_put (j := 5) (i := 8) h1.2.2 (by omega) rfl, m_int (j := 5) (i := 8) h2.2.2 (by omega) rfl]
  rfl
theorem sim_knock (hR : CRep σ A) (hI : mInv m A) : SimOp w b o A m σ H xI1 (f_X_knock (cPut b σ H) b) (fun G => f_M_knock G o) := by
  obtain ⟨y1, y2⟩ := x_knock (b := b) (H := H) hR
  refine Sim.yes (A.2.2.2 5 + nI 1) _ y1 (fun G D h => ?_)
  obtain ⟨G1, r1, h1, s1⟩ := s_knock h
  exact ⟨_, D, G1, m, r1, h1, ((CRepx.of (exc := -1) hR).thr 0).int (Or.inr (Or.inr ⟨rfl, rfl⟩)), hI, Nat.le_succ m, rfl, s1.mono (by omega) (by omega)⟩
end Knk
end
section
-- exchange, replaceAll, assign
section Exc
variable {w : Nat → Nat} {b o m : Nat} {A : mS} {σ : cS} {H : gH}
theorem sim_exchange (hR : CRep σ A) (hI : mInv m A) (x i j : Int32) : SimOp w b o A m σ H xI1 (f_X_exchange (cPut b σ H) b x i j) (fun G => f_M_exchange G o x i j) := by
  have hX := CRepx.of (exc := -1) hR
  by_cases hx : mIsL A x
  · have hL := hx
    obtain ⟨p, hp, rfl, hv⟩ := hx
    have hv : mV A p := hv
    obtain ⟨r, s, hr, hr2, hfit, h31, hp6, hro⟩ := hI.pl hv
    have hW := hI.w p
    have hl100 : mLen A p < 100 := by omega
    by_cases hi : mIsP (mLen A p) i
    · have hi' := hi
      obtain ⟨i, hip, rfl⟩ := hi
      by_cases hj : mIsP (mLen A p) j
      · have hj' := hj
        obtain ⟨j, hjp, rfl⟩ := hj
        have ht := List.getElem?_eq_getElem (show s + i < (A.1 r).length by omega)
        generalize (A.1 r)[s + i] = t at ht
        have hu := List.getElem?_eq_getElem (show s + j < (A.1 r).length by omega)
        generalize (A.1 r)[s + j] = u at hu
        have hto := (hI.2.2.1 r hr2).2 t (List.mem_of_getElem? ht)
        have huo := (hI.2.2.1 r hr2).2 u (List.mem_of_getElem? hu)
        -- the first one written
        have hIt : mInv m (mSet A 0 0) := hI.thr 0
        have hX1 : CRepx (-1) σ (mSet A 0 0) := hX.thr 0
        obtain ⟨y1, y2⟩ := x_write (b := b) (G := H) (i := i) hX1 hW.1 hW.2.1 hW.2.2.1 hv hr hip u
        have hIB : mInv m (mRows (mSet A 0 0) r ((A.1 r).set (s + i) u)) := hIt.rows List.length_set (fun v hv => by
          rcases set_mem hv with q | q
          · exact (hI.2.2.1 r hr2).2 v q
          · rw [q]; exact huo)
        replace y2 : CRepx (-1) (cArr σ 0 (upd (σ.1 0) (31 * r + (s + i)) (cE u))) (mRows (mSet A 0 0) r ((A.1 r).set (s + i) u)) := y2
        generalize hL1 : (A.1 r).set (s + i) u = L1 at y2 hIB
        have hl1 : L1.length = (A.1 r).length := by rw [← hL1]; exact List.length_set
        generalize hσ1 : cArr σ 0 (upd (σ.1 0) (31 * r + (s + i)) (cE u)) = σ1 at y1 y2
        have hvB : mV (mRows (mSet A 0 0) r L1) p := hv
        have hrB : mRw (mRows (mSet A 0 0) r L1).2.1 zDp p = some (r, s) := hr
        have hmB : mLen (mRows (mSet A 0 0) r L1) p = mLen A p := by rw [← hL1]; exact mLen_rset (A := mSet A 0 0)
        have hWB := hIB.w p
        -- the other one
        obtain ⟨z1, z2⟩ := x_write (b := b) (G := H) (i := j) y2 hWB.1 hWB.2.1 hWB.2.2.1 hvB hrB (by rw [hmB]; exact hjp) t
        have hIC : mInv m (mRows (mSet A 0 0) r (L1.set (s + j) t)) := hIt.rows (by rw [List.length_set]; exact hl1) (fun v hv => by
          rcases set_mem hv with q | q
          · exact (hIB.2.2.1 r hr2).2 v (by rw [mRows_at]; exact q)
          · rw [q]; exact hto)
        change CRepx (-1) _ (mRows (mRows (mSet A 0 0) r L1) r (((mRows (mSet A 0 0) r L1).1 r).set (s + j) t)) at z2
        rw [mRows_at, mRows_mRows] at z2
        generalize hσ2 : cArr σ1 0 (upd (σ1.1 0) (31 * r + (s + j)) (cE t)) = σ2 at z1 z2
        have hvC : mV (mRows (mSet A 0 0) r (L1.set (s + j) t)) p := hv
        have hrC : mRw (mRows (mSet A 0 0) r (L1.set (s + j) t)).2.1 zDp p = some (r, s) := hr
        have hl2 : (L1.set (s + j) t).length = (A.1 r).length := by rw [List.length_set]; exact hl1
        generalize hL2 : L1.set (s + j) t = L2 at z2 hIC hvC hrC hl2
        have ha := List.getElem?_eq_getElem (show s + i < L2.length by omega)
        generalize L2[s + i] = a at ha
        have hc := List.getElem?_eq_getElem (show s + j < L2.length by omega)
        generalize L2[s + j] = c at hc
        have haC : ((mRows (mSet A 0 0) r L2).1 r)[s + i]? = some a := by rw [mRows_at]; exact ha
        have hcC : ((mRows (mSet A 0 0) r L2).1 r)[s + j]? = some c := by rw [mRows_at]; exact hc
        have hao := (hIC.2.2.1 r hr2).2 a (List.mem_of_getElem? haC)
        have hco := (hIC.2.2.1 r hr2).2 c (List.mem_of_getElem? hcC)
        have hWC := hIC.w p
        have k1 := x_keyAt (b := b) (G := H) z2 hWC hvC hrC haC (show a.2.1 < 32 from Nat.lt_succ_of_lt hao.1)
        have k2 := x_keyAt (b := b) (G := H) z2 hWC hvC hrC hcC (show c.2.1 < 32 from Nat.lt_succ_of_lt hco.1)
        have t1 : f_I_thingAt (cPut b σ H) (b + 1) (nI p) (nI i) = rI (cE t) (cPut b σ H) := x_at hX hW hv hr ht
        have t2 : f_I_thingAt (cPut b σ H) (b + 1) (nI p) (nI j) = rI (cE u) (cPut b σ H) := x_at hX hW hv hr hu
        have sw : f_I_swap (cPut b σ H) (b + 1) (nI p) (nI i) (nI j) = rV (cPut b σ2 H) := by
          unfold f_I_swap
          simp only [t1, t2, y1, z1, c_ob_0, c_fa_0_0, c_fa_0_1, c_fi_0_2, c_put_0_2, c_fi_0_3, c_put_0_3, c_fi_0_4, c_put_0_4, c_ob_1, c_fa_1_0, c_fa_1_1, c_fa_1_2, c_fa_1_3, c_fa_1_4, c_fa_1_5, c_fi_1_6, c_put_1_6, c_ob_2, c_fa_2_0, c_ob_4, c_fa_4_0, c_ob_6, c_fa_6_0, c_ob_8, c_fa_8_0, c_ob_10, c_fa_10_0, c_ob_12, c_fa_12_0, c_ob_14, c_fa_14_0, c_fa_14_1, c_fa_14_2, c_fa_14_3, c_fi_14_4, c_put_14_4, c_ob_15, c_fa_15_0, c_ob_17, c_fa_17_0, c_ob_19, c_fa_19_0, c_ob_21, c_fa_21_0, c_len_0, c_ld_0, c_st_0, c_rd_0, c_wr_0, c_len_1, c_ld_1, c_st_1, c_rd_1, c_wr_1, c_len_2, c_ld_2, c_st_2, c_rd_2, c_wr_2, c_len_3, c_ld_3, c_st_3, c_rd_3, c_wr_3, c_len_4, c_ld_4, c_st_4, c_rd_4, c_wr_4, c_len_5, c_ld_5, c_st_5, c_rd_5, c_wr_5, c_len_6, c_ld_6, c_st_6, c_rd_6, c_wr_6, c_len_7, c_ld_7, c_st_7, c_rd_7, c_wr_7, c_len_8, c_ld_8, c_st_8, c_rd_8, c_wr_8, c_len_9, c_ld_9, c_st_9, c_rd_9, c_wr_9, bI_rI, bL_rL, bA_rA, bV_rV, bI_th, bL_th, bA_th, bV_th, rZ_0, rZ_1]
        refine Sim.yes (if a.2.1 = c.2.1 then 1 else 0) σ2 ?_ (fun G D h => ?_)
        · unfold f_X_exchange
          simp only [x_needList hX hW hL, (x_needPlace hX hW.1 hv hl100).1 hi', (x_needPlace hX hW.1 hv hl100).1 hj', sw, k1, k2, c_ob_0, c_fa_0_0, c_fa_0_1, c_fi_0_2, c_put_0_2, c_fi_0_3, c_put_0_3, c_fi_0_4, c_put_0_4, c_ob_1, c_fa_1_0, c_fa_1_1, c_fa_1_2, c_fa_1_3, c_fa_1_4, c_fa_1_5, c_fi_1_6, c_put_1_6, c_ob_2, c_fa_2_0, c_ob_4, c_fa_4_0, c_ob_6, c_fa_6_0, c_ob_8, c_fa_8_0, c_ob_10, c_fa_10_0, c_ob_12, c_fa_12_0, c_ob_14, c_fa_14_0, c_fa_14_1, c_fa_14_2, c_fa_14_3, c_fi_14_4, c_put_14_4, c_ob_15, c_fa_15_0, c_ob_17, c_fa_17_0, c_ob_19, c_fa_19_0, c_ob_21, c_fa_21_0, c_len_0, c_ld_0, c_st_0, c_rd_0, c_wr_0, c_len_1, c_ld_1, c_st_1, c_rd_1, c_wr_1, c_len_2, c_ld_2, c_st_2, c_rd_2, c_wr_2, c_len_3, c_ld_3, c_st_3, c_rd_3, c_wr_3, c_len_4, c_ld_4, c_st_4, c_rd_4, c_wr_4, c_len_5, c_ld_5, c_st_5, c_rd_5, c_wr_5, c_len_6, c_ld_6, c_st_6, c_rd_6, c_wr_6, c_len_7, c_ld_7, c_st_7, c_rd_7, c_wr_7, c_len_8, c_ld_8, c_st_8, c_rd_8, c_wr_8, c_len_9, c_ld_9, c_st_9, c_rd_9, c_wr_9, bI_rI, bL_rL, bA_rA, bV_rV, bI_th, bL_th, bA_th, bV_th, rZ_0, rZ_1]
          by_cases he : a.2.1 = c.2.1
          · rw [if_pos (by rw [he]), if_pos he]
          · rw [if_neg (fun q => he ((nI_eq (by have := hao.1; omega) (by have := hco.1; omega)).mp q)), if_neg he]
        · obtain ⟨G1, r1, h1, s1⟩ := r_list1 h hL
          have ta := s_at h1 hW.1 hv hr hu
          obtain ⟨G2, r2, h2, s2, t2, -⟩ := s_write (i := i) (u := u) h1 hW.1 hv hr ht (s_th h1 hr2 hu)
          have h2' : MS w o G2 (mRows (mSet A 0 0) r L1) D := by rw [← hL1]; exact h2
          have hv1 := List.getElem?_eq_getElem (show s + j < L1.length by omega)
          obtain ⟨G3, r3, h3, s3, -, -⟩ := s_write (i := j) (u := t) h2' hWB.1 hvB hrB (by rw [mRows_at]; exact hv1) t2
          rw [mRows_at, mRows_mRows, hL2] at h3
          refine ⟨_, D, G3, m, ?_, h3, z2, hIC, Nat.le_succ m, rfl, ((s1.trans s2).trans s3).mono (by omega) (by omega)⟩
          unfold f_M_exchange
          rw [r1, gOb_of h1.2.2.1 rfl, (s_noPlace h1 hW.1 hv hl100 _).1 hi', bI_rI, if_pos rfl, gOb_of h1.2.2.1 rfl, (s_noPlace h1 hW.1 hv hl100 _).1 hj', bI_rI, if_pos rfl, r_ref0 h1 rfl, gOb_of h1.2.2.1 rfl, ta, bA_rA, gOb_of h1.2.2.1 rfl, r2, bA_rA, gOb_of h2.2.2.1 rfl, r3, bA_rA, gOb_of h3.2.2.1 rfl, s_at h3 hIC.1 hvC hrC haC, bA_rA, (s_th h3 hr2 haC).key, gOb_of h3.2.2.1 rfl, s_at h3 hIC.1 hvC hrC hcC, bA_rA, (s_th h3 hr2 hcC).key]
          by_cases he : a.2.1 = c.2.1
          · rw [if_pos (by rw [he]), if_pos he, rZ_1]
          · rw [if_neg (fun q => he ((nI_eq (by have := hao.1; omega) (by have := hco.1; omega)).mp q)), if_neg he, rZ_0]
      · refine Sim.no hR hI 1 (by decide) (by decide) ?_ (fun G D h => ?_)
        · unfold f_X_exchange
          simp only [x_needList hX hW hL, (x_needPlace hX hW.1 hv hl100).1 hi', (x_needPlace hX hW.1 hv hl100).2 hj, c_ob_0, c_fa_0_0, c_fa_0_1, c_fi_0_2, c_put_0_2, c_fi_0_3, c_put_0_3, c_fi_0_4, c_put_0_4, c_ob_1, c_fa_1_0, c_fa_1_1, c_fa_1_2, c_fa_1_3, c_fa_1_4, c_fa_1_5, c_fi_1_6, c_put_1_6, c_ob_2, c_fa_2_0, c_ob_4, c_fa_4_0, c_ob_6, c_fa_6_0, c_ob_8, c_fa_8_0, c_ob_10, c_fa_10_0, c_ob_12, c_fa_12_0, c_ob_14, c_fa_14_0, c_fa_14_1, c_fa_14_2, c_fa_14_3, c_fi_14_4, c_put_14_4, c_ob_15, c_fa_15_0, c_ob_17, c_fa_17_0, c_ob_19, c_fa_19_0, c_ob_21, c_fa_21_0, c_len_0, c_ld_0, c_st_0, c_rd_0, c_wr_0, c_len_1, c_ld_1, c_st_1, c_rd_1, c_wr_1, c_len_2, c_ld_2, c_st_2, c_rd_2, c_wr_2, c_len_3, c_ld_3, c_st_3, c_rd_3, c_wr_3, c_len_4, c_ld_4, c_st_4, c_rd_4, c_wr_4, c_len_5, c_ld_5, c_st_5, c_rd_5, c_wr_5, c_len_6, c_ld_6, c_st_6, c_rd_6, c_wr_6, c_len_7, c_ld_7, c_st_7, c_rd_7, c_wr_7, c_len_8, c_ld_8, c_st_8, c_rd_8, c_wr_8, c_len_9, c_ld_9, c_st_9, c_rd_9, c_wr_9, bI_rI, bL_rL, bA_rA, bV_rV, bI_th, bL_th, bA_th, bV_th, rZ_0, rZ_1]
          rfl
        · obtain ⟨G1, r1, h1, s1⟩ := r_list1 h hL
          obtain ⟨G2, r2, h2, s2⟩ := r_no1 (c := 1) h1 (by decide)
          refine ⟨G2, ?_, h2, (s1.trans s2).mono (by omega) (by omega)⟩
          unfold f_M_exchange
          rw [r1, gOb_of h1.2.2.1 rfl, (s_noPlace h1 hW.1 hv hl100 _).1 hi', bI_rI, if_pos rfl, gOb_of h1.2.2.1 rfl, (s_noPlace h1 hW.1 hv hl100 _).2 hj, bI_rI, if_neg (by decide), r2, rZ_0]
    · refine Sim.no hR hI 1 (by decide) (by decide) ?_ (fun G D h => ?_)
      · unfold f_X_exchange
        simp only [x_needList hX hW hL, (x_needPlace hX hW.1 hv hl100).2 hi, c_ob_0, c_fa_0_0, c_fa_0_1, c_fi_0_2, c_put_0_2, c_fi_0_3, c_put_0_3, c_fi_0_4, c_put_0_4, c_ob_1, c_fa_1_0, c_fa_1_1, c_fa_1_2, c_fa_1_3, c_fa_1_4, c_fa_1_5, c_fi_1_6, c_put_1_6, c_ob_2, c_fa_2_0, c_ob_4, c_fa_4_0, c_ob_6, c_fa_6_0, c_ob_8, c_fa_8_0, c_ob_10, c_fa_10_0, c_ob_12, c_fa_12_0, c_ob_14, c_fa_14_0, c_fa_14_1, c_fa_14_2, c_fa_14_3, c_fi_14_4, c_put_14_4, c_ob_15, c_fa_15_0, c_ob_17, c_fa_17_0, c_ob_19, c_fa_19_0, c_ob_21, c_fa_21_0, c_len_0, c_ld_0, c_st_0, c_rd_0, c_wr_0, c_len_1, c_ld_1, c_st_1, c_rd_1, c_wr_1, c_len_2, c_ld_2, c_st_2, c_rd_2, c_wr_2, c_len_3, c_ld_3, c_st_3, c_rd_3, c_wr_3, c_len_4, c_ld_4, c_st_4, c_rd_4, c_wr_4, c_len_5, c_ld_5, c_st_5, c_rd_5, c_wr_5, c_len_6, c_ld_6, c_st_6, c_rd_6, c_wr_6, c_len_7, c_ld_7, c_st_7, c_rd_7, c_wr_7, c_len_8, c_ld_8, c_st_8, c_rd_8, c_wr_8, c_len_9, c_ld_9, c_st_9, c_rd_9, c_wr_9, bI_rI, bL_rL, bA_rA, bV_rV, bI_th, bL_th, bA_th, bV_th, rZ_0, rZ_1]
        rfl
      · obtain ⟨G1, r1, h1, s1⟩ := r_list1 h hL
        obtain ⟨G2, r2, h2, s2⟩ := r_no1 (c := 1) h1 (by decide)
        refine ⟨G2, ?_, h2, (s1.trans s2).mono (by omega) (by omega)⟩
        unfold f_M_exchange
        rw [r1, gOb_of h1.2.2.1 rfl, (s_noPlace h1 hW.1 hv hl100 _).2 hi, bI_rI, if_neg (by decide), r2, rZ_0]
  · refine Sim.no hR hI 1 (by decide) (by decide) ?_ (fun G D h => ?_)
    · unfold f_X_exchange
      simp only [x_needList_no hX (hI.w 0) hx, c_ob_0, c_fa_0_0, c_fa_0_1, c_fi_0_2, c_put_0_2, c_fi_0_3, c_put_0_3, c_fi_0_4, c_put_0_4, c_ob_1, c_fa_1_0, c_fa_1_1, c_fa_1_2, c_fa_1_3, c_fa_1_4, c_fa_1_5, c_fi_1_6, c_put_1_6, c_ob_2, c_fa_2_0, c_ob_4, c_fa_4_0, c_ob_6, c_fa_6_0, c_ob_8, c_fa_8_0, c_ob_10, c_fa_10_0, c_ob_12, c_fa_12_0, c_ob_14, c_fa_14_0, c_fa_14_1, c_fa_14_2, c_fa_14_3, c_fi_14_4, c_put_14_4, c_ob_15, c_fa_15_0, c_ob_17, c_fa_17_0, c_ob_19, c_fa_19_0, c_ob_21, c_fa_21_0, c_len_0, c_ld_0, c_st_0, c_rd_0, c_wr_0, c_len_1, c_ld_1, c_st_1, c_rd_1, c_wr_1, c_len_2, c_ld_2, c_st_2, c_rd_2, c_wr_2, c_len_3, c_ld_3, c_st_3, c_rd_3, c_wr_3, c_len_4, c_ld_4, c_st_4, c_rd_4, c_wr_4, c_len_5, c_ld_5, c_st_5, c_rd_5, c_wr_5, c_len_6, c_ld_6, c_st_6, c_rd_6, c_wr_6, c_len_7, c_ld_7, c_st_7, c_rd_7, c_wr_7, c_len_8, c_ld_8, c_st_8, c_rd_8, c_wr_8, c_len_9, c_ld_9, c_st_9, c_rd_9, c_wr_9, bI_rI, bL_rL, bA_rA, bV_rV, bI_th, bL_th, bA_th, bV_th, rZ_0, rZ_1]
      rfl
    · obtain ⟨G1, r1, h1, s1⟩ := r_list0 h hx
      refine ⟨G1, ?_, h1, s1⟩
      unfold f_M_exchange
      rw [r1, rZ_0]
end Exc
section Rep
variable {w : Nat → Nat} {b o m : Nat} {A : mS} {σ : cS} {H : gH}
theorem mLen_spl {A : mS} {r p : Nat} {ts : List (Nat × Nat × Nat)} (hl : ts.length = (A.1 r).length) : mLen (mRows A r ts) p = mLen A p := by
  rw [mLen_rows]
  by_cases h : p = r ∧ p < 2
  · rw [if_pos h, hl, mLen_row h.2, h.1]
  · rw [if_neg h]
theorem rep_tok {m t1 m1 : Nat} {L new : List (Nat × Nat × Nat)} (h : new.map Prod.snd = L.map (mKey2 t1 m1)) (hL : ∀ t, t ∈ L → mTok m t) : new.length = L.length ∧ ∀ t, t ∈ new → mTok m t := by
  refine ⟨?_, fun t ht => ?_⟩
  · have e := congrArg List.length h
    rwa [List.length_map, List.length_map] at e
  · have e : t.2 ∈ new.map Prod.snd := List.mem_map.mpr ⟨t, ht, rfl⟩
    rw [h] at e
    obtain ⟨u, hu, e1⟩ := List.mem_map.mp e
    unfold mTok
    rw [← e1]
    exact ⟨Nat.mod_lt _ (by omega), (hL u hu).2⟩
theorem sSpl_snd {L ts us : List (Nat × Nat × Nat)} {s : Nat} (h : ts.map Prod.snd = us.map Prod.snd) : (sSpl L s ts).map Prod.snd = (sSpl L s us).map Prod.snd := by
  have e := congrArg List.length h
  rw [List.length_map, List.length_map] at e
  unfold sSpl
  rw [List.map_append, List.map_append, List.map_append, List.map_append, h, e]
theorem sim_replaceAll (hR : CRep σ A) (hI : mInv m A) (x y z : Int32) : SimOp w b o A m σ H xIG (f_X_replaceAll (cPut b σ H) b x y z) (fun G => f_M_replaceAll G o x y z) := by
  have hX := CRepx.of (exc := -1) hR
  by_cases hx : mIsL A x
  · have hL := hx
    obtain ⟨p, hp, rfl, hv⟩ := hx
    have hv : mV A p := hv
    obtain ⟨r, s, hr, hr2, hfit, h31, hp6, hro⟩ := hI.pl hv
    have hW := hI.w p
    have hIt : mInv m (mSet A 0 0) := hI.thr 0
    have hsl : (sSeg A r s (mLen A p)).length = mLen A p := sSeg_len hfit
    by_cases hy : mIsP 31 y
    · have hy' := hy
      obtain ⟨t1, ht1, rfl⟩ := hy
      have hy2 := (nI_plc (L := 31) (by omega)).mp hy'
      by_cases hz : mIsP 31 z
      · have hz' := hz
        obtain ⟨m1, hm1, rfl⟩ := hz
        have hz2 := (nI_plc (L := 31) (by omega)).mp hz'
        have hn0 : ((sSeg A r s (mLen A p)).map (fun t => ((0, mKey2 t1 m1 t) : Nat × Nat × Nat))).map Prod.snd = (sSeg A r s (mLen A p)).map (mKey2 t1 m1) := by
          rw [List.map_map]; rfl
        generalize hnew : (sSeg A r s (mLen A p)).map (fun t => ((0, mKey2 t1 m1 t) : Nat × Nat × Nat)) = new at hn0
        have hsg : ∀ t, t ∈ sSeg A r s (mLen A p) → mTok m t := fun t ht => (hI.2.2.1 r hr2).2 t (sSeg_mem ht)
        -- a row of new things keeps what holds
        have hN : ∀ ts : List (Nat × Nat × Nat), ts.map Prod.snd = (sSeg A r s (mLen A p)).map (mKey2 t1 m1) → mInv m (mRows (mSet A 0 0) r (sSpl (A.1 r) s ts)) ∧ mLen (mRows (mSet A 0 0) r (sSpl (A.1 r) s ts)) p = mLen A p := fun ts hts => by
          obtain ⟨e1, e2⟩ := rep_tok hts hsg
          have e3 : (sSpl (A.1 r) s ts).length = (A.1 r).length := sSpl_len (by rw [e1, hsl]; exact hfit)
          refine ⟨hIt.rows e3 (fun t ht => ?_), mLen_spl (A := mSet A 0 0) e3⟩
          rcases sSpl_mem ht with q | q
          · exact (hI.2.2.1 r hr2).2 t q
          · exact e2 t q
        obtain ⟨σ1, y1, y2⟩ := x_replace (b := b) (G := H) (K := fun G36 x33 x34 x35 => gOb G36 x33 3 fun o38 => bI (f_X_endAround G36 x33 x34) fun v41 G40 => rI x35 G40) hX hW hv hr (hI.2.2.1 r hr2).2 hI.2.2.2.2.2 ht1 hm1 hn0
        have y2' : CRepx (-1) σ1 (mRows (mSet A 0 0) r (sSpl (A.1 r) s new)) := y2.thr 0
        have hvB : ∀ ts, mV (mRows (mSet A 0 0) r ts) p := fun _ => hv
        have hrB : ∀ ts, mRw (mRows (mSet A 0 0) r ts).2.1 zDp p = some (r, s) := fun _ => hr
        obtain ⟨⟨σ', z1, z2⟩, -, z5, -⟩ := x_ard (b := b) (H := H) y2' (hN new hn0).1 (hvB _) (hrB _)
        refine Sim.yes (nI (mLen A p)) σ' ?_ (fun G D h => ?_)
        · unfold f_X_replaceAll
          simp only [x_needList hX hW hL, x_len hX hW.1 hv, c_ob_0, c_fa_0_0, c_fa_0_1, c_fi_0_2, c_put_0_2, c_fi_0_3, c_put_0_3, c_fi_0_4, c_put_0_4, c_ob_1, c_fa_1_0, c_fa_1_1, c_fa_1_2, c_fa_1_3, c_fa_1_4, c_fa_1_5, c_fi_1_6, c_put_1_6, c_ob_2, c_fa_2_0, c_ob_4, c_fa_4_0, c_ob_6, c_fa_6_0, c_ob_8, c_fa_8_0, c_ob_10, c_fa_10_0, c_ob_12, c_fa_12_0, c_ob_14, c_fa_14_0, c_fa_14_1, c_fa_14_2, c_fa_14_3, c_fi_14_4, c_put_14_4, c_ob_15, c_fa_15_0, c_ob_17, c_fa_17_0, c_ob_19, c_fa_19_0, c_ob_21, c_fa_21_0, c_len_0, c_ld_0, c_st_0, c_rd_0, c_wr_0, c_len_1, c_ld_1, c_st_1, c_rd_1, c_wr_1, c_len_2, c_ld_2, c_st_2, c_rd_2, c_wr_2, c_len_3, c_ld_3, c_st_3, c_rd_3, c_wr_3, c_len_4, c_ld_4, c_st_4, c_rd_4, c_wr_4, c_len_5, c_ld_5, c_st_5, c_rd_5, c_wr_5, c_len_6, c_ld_6, c_st_6, c_rd_6, c_wr_6, c_len_7, c_ld_7, c_st_7, c_rd_7, c_wr_7, c_len_8, c_ld_8, c_st_8, c_rd_8, c_wr_8, c_len_9, c_ld_9, c_st_9, c_rd_9, c_wr_9, bI_rI, bL_rL, bA_rA, bV_rV, bI_th, bL_th, bA_th, bV_th, rZ_0, rZ_1]
          rw [if_neg hy2.1, if_pos hy2.2, if_neg hz2.1, if_pos hz2.2, y1]
          simp only [z1, c_ob_0, c_fa_0_0, c_fa_0_1, c_fi_0_2, c_put_0_2, c_fi_0_3, c_put_0_3, c_fi_0_4, c_put_0_4, c_ob_1, c_fa_1_0, c_fa_1_1, c_fa_1_2, c_fa_1_3, c_fa_1_4, c_fa_1_5, c_fi_1_6, c_put_1_6, c_ob_2, c_fa_2_0, c_ob_4, c_fa_4_0, c_ob_6, c_fa_6_0, c_ob_8, c_fa_8_0, c_ob_10, c_fa_10_0, c_ob_12, c_fa_12_0, c_ob_14, c_fa_14_0, c_fa_14_1, c_fa_14_2, c_fa_14_3, c_fi_14_4, c_put_14_4, c_ob_15, c_fa_15_0, c_ob_17, c_fa_17_0, c_ob_19, c_fa_19_0, c_ob_21, c_fa_21_0, c_len_0, c_ld_0, c_st_0, c_rd_0, c_wr_0, c_len_1, c_ld_1, c_st_1, c_rd_1, c_wr_1, c_len_2, c_ld_2, c_st_2, c_rd_2, c_wr_2, c_len_3, c_ld_3, c_st_3, c_rd_3, c_wr_3, c_len_4, c_ld_4, c_st_4, c_rd_4, c_wr_4, c_len_5, c_ld_5, c_st_5, c_rd_5, c_wr_5, c_len_6, c_ld_6, c_st_6, c_rd_6, c_wr_6, c_len_7, c_ld_7, c_st_7, c_rd_7, c_wr_7, c_len_8, c_ld_8, c_st_8, c_rd_8, c_wr_8, c_len_9, c_ld_9, c_st_9, c_rd_9, c_wr_9, bI_rI, bL_rL, bA_rA, bV_rV, bI_th, bL_th, bA_th, bV_th, rZ_0, rZ_1]
        · obtain ⟨G1, r1, h1, s1⟩ := r_list1 h hL
          obtain ⟨G2, new', b1, b2, b3, b4⟩ := m_repL (K := fun G56 x54 x55 => gOb G56 x54 6 fun o58 => bI (f_M_rowOf zDp G56 x54 x55) fun v61 G60 => gOb G60 x54 6 fun o63 => bI (f_M_endParts G60 x54 v61 x55) fun v66 G65 => gOb G65 x54 6 fun o68 => bI (f_M_rowOf zDp G65 x54 x55) fun v71 G70 => gOb G70 x54 6 fun o73 => bV (f_M_endCursors G70 x54 v71) fun G75 => gOb G75 x54 6 fun o77 => bI (f_M_length G75 x54 x55) fun v80 G79 => rI v80 G79) (A := mSet A 0 0) (t1 := t1) (m1 := m1) hW.1 hv hr hfit h31 (hI.2.2.1 r hr2).2 hI.2.2.2.2.2 ht1 hm1 (mLen A p) zFu G1 [] (by show 0 + mLen A p = mLen A p; omega) (by unfold zFu; omega) (by
            show MS w o G1 (mRows (mSet A 0 0) r (sSpl (A.1 r) s [])) D
            rw [sSpl_0, show mRows (mSet A 0 0) r (A.1 r) = mSet A 0 0 from mRows_self (A := mSet A 0 0)]
            exact h1) (by simp)
          have b3' : new'.map Prod.snd = (sSeg A r s (mLen A p)).map (mKey2 t1 m1) := b3
          have b2' : MS w o G2 (mRows (mSet A 0 0) r (sSpl (A.1 r) s new')) D := b2
          obtain ⟨hIB, hlB⟩ := hN new' b3'
          have y3 : CRepx (-1) σ1 (mRows (mSet A 0 0) r (sSpl (A.1 r) s new')) := y2'.rowsC (sSpl_snd (hn0.trans b3'.symm))
          obtain ⟨-, c1, c2, c3, c4, c5, -⟩ := x_ard (b := b) (H := H) y3 hIB (hvB _) (hrB _)
          obtain ⟨G3, G4, D3, D4, r5, h5, r6, r7, h7, s7⟩ := s_ard b2' hIB (hvB _) (hrB _)
          refine ⟨_, D4, G4, m, ?_, h7, CRepx.cong (exc := -1) z2 (fun i _ => ?_) ((show qRel (mRows (mSet A 0 0) r (sSpl (A.1 r) s new)) (mRows (mSet A 0 0) r (sSpl (A.1 r) s new')) from rfl).around r p), c1, Nat.le_succ m, c3, ((s1.trans b4).trans s7).mono (by omega) (by omega)⟩
          · unfold f_M_replaceAll
            rw [r1, gOb_of h1.2.2.1 rfl, (s_noKey G1 o _).1 hy', bI_rI, if_pos rfl, gOb_of h1.2.2.1 rfl, (s_noKey G1 o _).1 hz', bI_rI, if_pos rfl, r_ref0 h1 rfl]
            rw [show f_M_replaceAll_L47 _ zFu G1 o (nI p) (nI t1) (nI m1) (nI 0) = _ from b1, gOb_of b2'.2.2.1 rfl, s_rowOf b2' hIB.1 (hvB _) (hrB _), bI_rI, gOb_of b2'.2.2.1 rfl, r5, bI_rI, gOb_of h5.2.2.1 rfl, r6, bI_rI, gOb_of h5.2.2.1 rfl, r7, bV_rV, gOb_of h7.2.2.1 rfl, s_len h7 c1.1 c4, bI_rI, c5, hlB]
          · rw [z5, c2]
            show (if i = r then _ else A.1 i).map Prod.snd = (if i = r then _ else A.1 i).map Prod.snd
            split
            · exact sSpl_snd (hn0.trans b3'.symm)
            · rfl
      · refine Sim.no hR hI 2 (by decide) (by decide) ?_ (fun G D h => ?_)
        · unfold f_X_replaceAll
          simp only [x_needList hX hW hL, c_ob_0, c_fa_0_0, c_fa_0_1, c_fi_0_2, c_put_0_2, c_fi_0_3, c_put_0_3, c_fi_0_4, c_put_0_4, c_ob_1, c_fa_1_0, c_fa_1_1, c_fa_1_2, c_fa_1_3, c_fa_1_4, c_fa_1_5, c_fi_1_6, c_put_1_6, c_ob_2, c_fa_2_0, c_ob_4, c_fa_4_0, c_ob_6, c_fa_6_0, c_ob_8, c_fa_8_0, c_ob_10, c_fa_10_0, c_ob_12, c_fa_12_0, c_ob_14, c_fa_14_0, c_fa_14_1, c_fa_14_2, c_fa_14_3, c_fi_14_4, c_put_14_4, c_ob_15, c_fa_15_0, c_ob_17, c_fa_17_0, c_ob_19, c_fa_19_0, c_ob_21, c_fa_21_0, c_len_0, c_ld_0, c_st_0, c_rd_0, c_wr_0, c_len_1, c_ld_1, c_st_1, c_rd_1, c_wr_1, c_len_2, c_ld_2, c_st_2, c_rd_2, c_wr_2, c_len_3, c_ld_3, c_st_3, c_rd_3, c_wr_3, c_len_4, c_ld_4, c_st_4, c_rd_4, c_wr_4, c_len_5, c_ld_5, c_st_5, c_rd_5, c_wr_5, c_len_6, c_ld_6, c_st_6, c_rd_6, c_wr_6, c_len_7, c_ld_7, c_st_7, c_rd_7, c_wr_7, c_len_8, c_ld_8, c_st_8, c_rd_8, c_wr_8, c_len_9, c_ld_9, c_st_9, c_rd_9, c_wr_9, bI_rI, bL_rL, bA_rA, bV_rV, bI_th, bL_th, bA_th, bV_th, rZ_0, rZ_1]
          rw [if_neg hy2.1, if_pos hy2.2]
          by_cases h0 : z < 0
          · rw [if_pos h0]; rfl
          · rw [if_neg h0, if_neg (fun q => hz ((nI_plc (L := 31) (by omega)).mpr ⟨h0, q⟩))]; rfl
        · obtain ⟨G1, r1, h1, s1⟩ := r_list1 h hL
          obtain ⟨G2, r2, h2, s2⟩ := r_no1 (c := 2) h1 (by decide)
          refine ⟨G2, ?_, h2, (s1.trans s2).mono (by omega) (by omega)⟩
          unfold f_M_replaceAll
          rw [r1, gOb_of h1.2.2.1 rfl, (s_noKey G1 o _).1 hy', bI_rI, if_pos rfl, gOb_of h1.2.2.1 rfl, (s_noKey G1 o _).2 hz, bI_rI, if_neg (by decide), r2]
          rfl
    · refine Sim.no hR hI 2 (by decide) (by decide) ?_ (fun G D h => ?_)
      · unfold f_X_replaceAll
        simp only [x_needList hX hW hL, c_ob_0, c_fa_0_0, c_fa_0_1, c_fi_0_2, c_put_0_2, c_fi_0_3, c_put_0_3, c_fi_0_4, c_put_0_4, c_ob_1, c_fa_1_0, c_fa_1_1, c_fa_1_2, c_fa_1_3, c_fa_1_4, c_fa_1_5, c_fi_1_6, c_put_1_6, c_ob_2, c_fa_2_0, c_ob_4, c_fa_4_0, c_ob_6, c_fa_6_0, c_ob_8, c_fa_8_0, c_ob_10, c_fa_10_0, c_ob_12, c_fa_12_0, c_ob_14, c_fa_14_0, c_fa_14_1, c_fa_14_2, c_fa_14_3, c_fi_14_4, c_put_14_4, c_ob_15, c_fa_15_0, c_ob_17, c_fa_17_0, c_ob_19, c_fa_19_0, c_ob_21, c_fa_21_0, c_len_0, c_ld_0, c_st_0, c_rd_0, c_wr_0, c_len_1, c_ld_1, c_st_1, c_rd_1, c_wr_1, c_len_2, c_ld_2, c_st_2, c_rd_2, c_wr_2, c_len_3, c_ld_3, c_st_3, c_rd_3, c_wr_3, c_len_4, c_ld_4, c_st_4, c_rd_4, c_wr_4, c_len_5, c_ld_5, c_st_5, c_rd_5, c_wr_5, c_len_6, c_ld_6, c_st_6, c_rd_6, c_wr_6, c_len_7, c_ld_7, c_st_7, c_rd_7, c_wr_7, c_len_8, c_ld_8, c_st_8, c_rd_8, c_wr_8, c_len_9, c_ld_9, c_st_9, c_rd_9, c_wr_9, bI_rI, bL_rL, bA_rA, bV_rV, bI_th, bL_th, bA_th, bV_th, rZ_0, rZ_1]
        by_cases h0 : y < 0
        · rw [if_pos h0]; rfl
        · rw [if_neg h0, if_neg (fun q => hy ((nI_plc (L := 31) (by omega)).mpr ⟨h0, q⟩))]; rfl
      · obtain ⟨G1, r1, h1, s1⟩ := r_list1 h hL
        obtain ⟨G2, r2, h2, s2⟩ := r_no1 (c := 2) h1 (by decide)
        refine ⟨G2, ?_, h2, (s1.trans s2).mono (by omega) (by omega)⟩
        unfold f_M_replaceAll
        rw [r1, gOb_of h1.2.2.1 rfl, (s_noKey G1 o _).2 hy, bI_rI, if_neg (by decide), r2]
        rfl
  · refine Sim.no hR hI 1 (by decide) (by decide) ?_ (fun G D h => ?_)
    · unfold f_X_replaceAll
      simp only [x_needList_no hX (hI.w 0) hx, c_ob_0, c_fa_0_0, c_fa_0_1, c_fi_0_2, c_put_0_2, c_fi_0_3, c_put_0_3, c_fi_0_4, c_put_0_4, c_ob_1, c_fa_1_0, c_fa_1_1, c_fa_1_2, c_fa_1_3, c_fa_1_4, c_fa_1_5, c_fi_1_6, c_put_1_6, c_ob_2, c_fa_2_0, c_ob_4, c_fa_4_0, c_ob_6, c_fa_6_0, c_ob_8, c_fa_8_0, c_ob_10, c_fa_10_0, c_ob_12, c_fa_12_0, c_ob_14, c_fa_14_0, c_fa_14_1, c_fa_14_2, c_fa_14_3, c_fi_14_4, c_put_14_4, c_ob_15, c_fa_15_0, c_ob_17, c_fa_17_0, c_ob_19, c_fa_19_0, c_ob_21, c_fa_21_0, c_len_0, c_ld_0, c_st_0, c_rd_0, c_wr_0, c_len_1, c_ld_1, c_st_1, c_rd_1, c_wr_1, c_len_2, c_ld_2, c_st_2, c_rd_2, c_wr_2, c_len_3, c_ld_3, c_st_3, c_rd_3, c_wr_3, c_len_4, c_ld_4, c_st_4, c_rd_4, c_wr_4, c_len_5, c_ld_5, c_st_5, c_rd_5, c_wr_5, c_len_6, c_ld_6, c_st_6, c_rd_6, c_wr_6, c_len_7, c_ld_7, c_st_7, c_rd_7, c_wr_7, c_len_8, c_ld_8, c_st_8, c_rd_8, c_wr_8, c_len_9, c_ld_9, c_st_9, c_rd_9, c_wr_9, bI_rI, bL_rL, bA_rA, bV_rV, bI_th, bL_th, bA_th, bV_th, rZ_0, rZ_1]
      rfl
    · obtain ⟨G1, r1, h1, s1⟩ := r_list0 h hx
      refine ⟨G1, ?_, h1, s1⟩
      unfold f_M_replaceAll
      rw [r1]
      rfl
end Rep
section Asg
variable {w : Nat → Nat} {b o m : Nat} {A : mS} {σ : cS} {H : gH}
/-- after all around a row has ended, the row may become any other one -/
theorem mInv.asg {r n : Nat} {A' : mS} {ts : List (Nat × Nat × Nat)} (hI : mInv m A) (hr : r < 2) (hd : mArd A A' r r n) (hok : mOk A'.2.1) (hl : ts.length ≤ 31) (ht : ∀ t, t ∈ ts → mTok m t) : mInv m (mRows A' r ts) := by
  have hI' := hI.ard hd hok
  obtain ⟨a1, a2, a3, a4, a5, a6⟩ := hI'
  obtain ⟨d1, d2, d3, d4, d5, -⟩ := hd
  -- no part of a list of this row is left
  have hp : ∀ q x, A'.2.1 q = some x → x.1 ≠ r := by
    intro q x hq he
    cases hx : A.2.1 q with
    | none => rw [d2 q hx] at hq; cases hq
    | some y =>
      have e := d3 q y hx
      have h2 : 2 ≤ q := (hI.1.1 q y hx).1
      by_cases hc : mRo A.2.1 q = r ∧ mAb A.2.1 zDp q r = false
      · rw [if_pos hc] at e; rw [e] at hq; cases hq
      · rw [if_neg hc, hq] at e
        cases e
        refine hc ⟨?_, ?_⟩
        · exact mRo_of (mRw_of hI.1 hx (r := r) (b := 0) (by rw [he]; exact mRw_r hr))
        · show mAb A.2.1 (7 + 1) q r = false
          rw [mAb_s, if_neg (by omega), if_pos hr]
  have hc : ∀ c x, A'.2.2.1 c = some x → x.1 ≠ r := by
    intro c x hq he
    cases hx : A.2.2.1 c with
    | none => rw [d4 c hx] at hq; cases hq
    | some y =>
      have e := d5 c y hx
      by_cases hc : mRo A.2.1 y.1 = r
      · rw [if_pos hc] at e; rw [e] at hq; cases hq
      · rw [if_neg hc, hq] at e
        cases e
        exact hc (by rw [he]; exact mRo_of (mRw_r hr))
  have hlen : ∀ q, q ≠ r → mLen (mRows A' r ts) q = mLen A' q := fun q hq => by
    rw [mLen_rows, if_neg (fun z => hq z.1)]
  refine ⟨a1, fun q x hq => ?_, fun r' hr' => ?_, fun c x hx => ?_, a5, a6⟩
  · rw [hlen _ (hp q x hq)]; exact a2 q x hq
  · show (if r' = r then ts else A'.1 r').length ≤ 31 ∧ ∀ t, t ∈ (if r' = r then ts else A'.1 r') → mTok m t
    split
    · exact ⟨hl, ht⟩
    · exact a3 r' hr'
  · obtain ⟨z1, z2, z3, z4⟩ := a4 c x hx
    refine ⟨z1, z2, z3, ?_⟩
    rw [hlen _ (hc c x hx)]
    exact z4
theorem sim_assign (hR : CRep σ A) (hI : mInv m A) (x y : Int32) : SimOp w b o A m σ H xI1 (f_X_assign (cPut b σ H) b x y) (fun G => f_M_assign w G o x y) := by
  have hX := CRepx.of (exc := -1) hR
  have inR : ∀ G : gH, (mIsP 2 x → f_M_isIn G x (nI 0) (nI 1) = rI 1 G) ∧ (¬ mIsP 2 x → f_M_isIn G x (nI 0) (nI 1) = rI 0 G) := fun G =>
    ⟨fun ⟨i, hi, e⟩ => (s_isIn G 1 (by omega) _).1 ⟨i, by omega, e⟩, fun q => (s_isIn G 1 (by omega) _).2 (fun ⟨i, hi, e⟩ => q ⟨i, by omega, e⟩)⟩
  by_cases hx : mIsP 2 x
  · have hx' := hx
    obtain ⟨r1, hr1, rfl⟩ := hx
    by_cases hy : mIsL A y
    · have hL := hy
      obtain ⟨p, hp, rfl, hv⟩ := hy
      have hv : mV A p := hv
      obtain ⟨r, s, hr, hr2, hfit, h31, hp6, hro⟩ := hI.pl hv
      have hW := hI.w p
      have hIt : mInv m (mSet A 0 0) := hI.thr 0
      have hsl : (sSeg A r s (mLen A p)).length = mLen A p := sSeg_len hfit
      have hvr : mV A r1 := Or.inl hr1
      obtain ⟨σ1, y1, y2⟩ := x_copyToRow (b := b) (G := H) hX hW hv hr hr1
      have y2' : CRepx (-1) σ1 (mRows (mSet A 0 0) r1 (sSeg A r s (mLen A p))) := y2.thr 0
      have hcv : ∀ c x, A.2.2.1 c = some x → c < 3 ∧ mV A x.1 := fun c x hx => ⟨(hI.2.2.2.1 c x hx).1, (hI.2.2.2.1 c x hx).2.2.1⟩
      obtain ⟨hd, hok⟩ := mArd.of (A := mRows (mSet A 0 0) r1 (sSeg A r s (mLen A p))) (r := r1) (p := r1) hI.1 hvr hcv
      obtain ⟨hd2, hok2⟩ := mArd.of (A := mSet A 0 0) (r := r1) (p := r1) hI.1 hvr hcv
      obtain ⟨σ', z1, z2⟩ := x_endAround (b := b) (G := H) y2' hI.1 hI.l100 (fun c x hx => ⟨(hI.2.2.2.1 c x hx).2.1, (hI.2.2.2.1 c x hx).2.2.1⟩) hvr (mRw_r hr1) hd
      have hIC : mInv m (mRows (mAround (mSet A 0 0) r1 r1) r1 (sSeg A r s (mLen A p))) := hIt.asg hr1 hd2 hok2 (by rw [hsl]; omega) (fun t ht => (hI.2.2.1 r hr2).2 t (sSeg_mem ht))
      refine Sim.yes (nI (mLen A r1)) σ' ?_ (fun G D h => ?_)
      · unfold f_X_assign
        simp only [x_needRow.1 hx', x_needList hX hW hL, x_len hX hW.1 hvr, y1, z1, c_ob_0, c_fa_0_0, c_fa_0_1, c_fi_0_2, c_put_0_2, c_fi_0_3, c_put_0_3, c_fi_0_4, c_put_0_4, c_ob_1, c_fa_1_0, c_fa_1_1, c_fa_1_2, c_fa_1_3, c_fa_1_4, c_fa_1_5, c_fi_1_6, c_put_1_6, c_ob_2, c_fa_2_0, c_ob_4, c_fa_4_0, c_ob_6, c_fa_6_0, c_ob_8, c_fa_8_0, c_ob_10, c_fa_10_0, c_ob_12, c_fa_12_0, c_ob_14, c_fa_14_0, c_fa_14_1, c_fa_14_2, c_fa_14_3, c_fi_14_4, c_put_14_4, c_ob_15, c_fa_15_0, c_ob_17, c_fa_17_0, c_ob_19, c_fa_19_0, c_ob_21, c_fa_21_0, c_len_0, c_ld_0, c_st_0, c_rd_0, c_wr_0, c_len_1, c_ld_1, c_st_1, c_rd_1, c_wr_1, c_len_2, c_ld_2, c_st_2, c_rd_2, c_wr_2, c_len_3, c_ld_3, c_st_3, c_rd_3, c_wr_3, c_len_4, c_ld_4, c_st_4, c_rd_4, c_wr_4, c_len_5, c_ld_5, c_st_5, c_rd_5, c_wr_5, c_len_6, c_ld_6, c_st_6, c_rd_6, c_wr_6, c_len_7, c_ld_7, c_st_7, c_rd_7, c_wr_7, c_len_8, c_ld_8, c_st_8, c_rd_8, c_wr_8, c_len_9, c_ld_9, c_st_9, c_rd_9, c_wr_9, bI_rI, bL_rL, bA_rA, bV_rV, bI_th, bL_th, bA_th, bV_th, rZ_0, rZ_1]
      · obtain ⟨G1, r1', h1, s1⟩ := s_go h
        obtain ⟨G2, e, cap, a1, a2, a3, a4, a5, a6, a7⟩ := s_copy h1 hW.1 hv hr hfit h31
        have hap : mAp w D G1.2.1 e := mAp.fresh (G' := G2) h1 rfl a4
        have hts := (h1.ts (s := s) (n := mLen A p) hr2 (hI.2.2.1 r hr2).2 hI.2.2.2.2.2).st h1.1 a7
        obtain ⟨G3, G4, F3, F4, r5, h5, s5, r6, h6, s6, -⟩ := s_around a6 hI.1 hvr hr1 hcv
        have a2' := s6.loc h5.1 (s5.loc a6.1 a2)
        have hts' := (hts.st a6.1 s5.st).st h5.1 s6.st
        obtain ⟨om, oκ, ocap, of, o1, o2, o3, o4, -⟩ := h1.2.2.2.1
        have lo := h1.1 _ _ o1
        have le := h1.1 _ _ o2
        have hne2 : e ≠ D.1.2.1 := by
          rcases a4 with k | k
          · omega
          · intro q
            obtain ⟨f0, hf0⟩ := h1.2.1
            rw [← q, k, hf0] at o2
            have e1 := zQ_inj o2
            have l2 : ([D.2.1 0, D.2.1 1] : List Nat).length = 2 := rfl
            rw [l2] at o4
            omega
        obtain ⟨G5, b1, b2, b3⟩ := MRep.asg h6.1 h6.2.1 h6.2.2 hr1 a2' hap (show G1.2.1 ≠ D.1.1 by omega) hne2 (fun t ht => (hts' t ht).1) (by show (sSeg A r s (mLen A p)).length ≤ 31; rw [hsl]; omega)
        have h7 := h6.step b3 b2
        have hge := (h1.2.2.2.1)
        obtain ⟨pm, pκ, pcap, pf, p1, -⟩ := h6.2.2.2.1
        have gt : f_AL_get G1 D.1.1 (nI r1) = rA (D.2.1 r1) G1 := al_get (x := D.2.1 r1) h1.2.2.2.1 (by rcases (by omega : r1 = 0 ∨ r1 = 1) with rfl | rfl <;> rfl)
        obtain ⟨qm, qκ, qcap, qf, q1, -⟩ := h1.2.2.2.2.1 r1 hr1
        have ca : ∀ k : gR, gCaO G1 (D.2.1 r1) 9 k = k := fun k => by unfold gCaO; rw [gOb_of q1 rfl]
        have sz : f_AL_size G1 (D.2.1 r1) = rI (nI (mLen A r1)) G1 := by
          rw [al_size (h1.2.2.2.2.1 r1 hr1), List.length_map, mLen_row hr1]; rfl
        refine ⟨_, _, G5, m, ?_, h7, CRepx.cong (exc := -1) z2 (fun i _ => ?_) ((show qRel (mRows (mSet A 0 0) r1 (sSeg A r s (mLen A p))) (mSet A 0 0) from rfl).around r1 r1), hIC, Nat.le_succ m, hd2.2.2.2.2.2.1 0 (by omega) (by omega), ((((s1.trans a7).trans s5.st).trans s6.st).trans b3).mono (by omega) (by omega)⟩
        · unfold f_M_assign
          rw [(inR G).1 hx', bI_rI, if_neg (by decide), gOb_of h.2.2.1 rfl, (s_noList h _).1 hL, bI_rI, if_pos rfl, gOb_of h.2.2.1 rfl, r1', bI_rI, if_pos rfl, gFA_of h1.2.2.1 rfl rfl, gOb_of o1 rfl, gt, bA_rA, ca, gOb_of q1 rfl, sz, bI_rI, gOb_of h1.2.2.1 rfl, a1, bA_rA, gOb_of a6.2.2.1 rfl, r5, bI_rI, gOb_of h5.2.2.1 rfl, r6, bV_rV, gFA_of h6.2.2.1 rfl rfl, gOb_of p1 rfl, b1, bA_rA]
        · rw [hd.1]
          show (if i = r1 then _ else A.1 i).map Prod.snd = (if i = r1 then _ else (mAround (mSet A 0 0) r1 r1).1 i).map Prod.snd
          rw [hd2.1]
          rfl
    · refine Sim.no hR hI 1 (by decide) (by decide) ?_ (fun G D h => ?_)
      · unfold f_X_assign
        simp only [x_needRow.1 hx', x_needList_no hX (hI.w 0) hy, c_ob_0, c_fa_0_0, c_fa_0_1, c_fi_0_2, c_put_0_2, c_fi_0_3, c_put_0_3, c_fi_0_4, c_put_0_4, c_ob_1, c_fa_1_0, c_fa_1_1, c_fa_1_2, c_fa_1_3, c_fa_1_4, c_fa_1_5, c_fi_1_6, c_put_1_6, c_ob_2, c_fa_2_0, c_ob_4, c_fa_4_0, c_ob_6, c_fa_6_0, c_ob_8, c_fa_8_0, c_ob_10, c_fa_10_0, c_ob_12, c_fa_12_0, c_ob_14, c_fa_14_0, c_fa_14_1, c_fa_14_2, c_fa_14_3, c_fi_14_4, c_put_14_4, c_ob_15, c_fa_15_0, c_ob_17, c_fa_17_0, c_ob_19, c_fa_19_0, c_ob_21, c_fa_21_0, c_len_0, c_ld_0, c_st_0, c_rd_0, c_wr_0, c_len_1, c_ld_1, c_st_1, c_rd_1, c_wr_1, c_len_2, c_ld_2, c_st_2, c_rd_2, c_wr_2, c_len_3, c_ld_3, c_st_3, c_rd_3, c_wr_3, c_len_4, c_ld_4, c_st_4, c_rd_4, c_wr_4, c_len_5, c_ld_5, c_st_5, c_rd_5, c_wr_5, c_len_6, c_ld_6, c_st_6, c_rd_6, c_wr_6, c_len_7, c_ld_7, c_st_7, c_rd_7, c_wr_7, c_len_8, c_ld_8, c_st_8, c_rd_8, c_wr_8, c_len_9, c_ld_9, c_st_9, c_rd_9, c_wr_9, bI_rI, bL_rL, bA_rA, bV_rV, bI_th, bL_th, bA_th, bV_th, rZ_0, rZ_1]
        rfl
      · obtain ⟨G1, r1, h1, s1⟩ := s_halt1 h
        refine ⟨G1, ?_, h1, s1⟩
        unfold f_M_assign
        rw [(inR G).1 hx', bI_rI, if_neg (by decide), gOb_of h.2.2.1 rfl, (s_noList h _).2 hy, bI_rI, if_neg (by decide), gOb_of h.2.2.1 rfl, r1, bI_rI, if_neg (by decide)]
        rfl
  · refine Sim.no hR hI 1 (by decide) (by decide) ?_ (fun G D h => ?_)
    · unfold f_X_assign
      simp only [x_needRow.2 hx, c_ob_0, c_fa_0_0, c_fa_0_1, c_fi_0_2, c_put_0_2, c_fi_0_3, c_put_0_3, c_fi_0_4, c_put_0_4, c_ob_1, c_fa_1_0, c_fa_1_1, c_fa_1_2, c_fa_1_3, c_fa_1_4, c_fa_1_5, c_fi_1_6, c_put_1_6, c_ob_2, c_fa_2_0, c_ob_4, c_fa_4_0, c_ob_6, c_fa_6_0, c_ob_8, c_fa_8_0, c_ob_10, c_fa_10_0, c_ob_12, c_fa_12_0, c_ob_14, c_fa_14_0, c_fa_14_1, c_fa_14_2, c_fa_14_3, c_fi_14_4, c_put_14_4, c_ob_15, c_fa_15_0, c_ob_17, c_fa_17_0, c_ob_19, c_fa_19_0, c_ob_21, c_fa_21_0, c_len_0, c_ld_0, c_st_0, c_rd_0, c_wr_0, c_len_1, c_ld_1, c_st_1, c_rd_1, c_wr_1, c_len_2, c_ld_2, c_st_2, c_rd_2, c_wr_2, c_len_3, c_ld_3, c_st_3, c_rd_3, c_wr_3, c_len_4, c_ld_4, c_st_4, c_rd_4, c_wr_4, c_len_5, c_ld_5, c_st_5, c_rd_5, c_wr_5, c_len_6, c_ld_6, c_st_6, c_rd_6, c_wr_6, c_len_7, c_ld_7, c_st_7, c_rd_7, c_wr_7, c_len_8, c_ld_8, c_st_8, c_rd_8, c_wr_8, c_len_9, c_ld_9, c_st_9, c_rd_9, c_wr_9, bI_rI, bL_rL, bA_rA, bV_rV, bI_th, bL_th, bA_th, bV_th, rZ_0, rZ_1]
      rfl
    · obtain ⟨G1, r1, h1, s1⟩ := s_halt1 h
      refine ⟨G1, ?_, h1, s1⟩
      unfold f_M_assign
      rw [(inR G).2 hx, bI_rI, if_pos rfl, gOb_of h.2.2.1 rfl, r1, bI_rI, if_neg (by decide)]
      rfl
end Asg
end
section
-- part, close
section Prt
variable {w : Nat → Nat} {b o m : Nat} {A : mS} {σ : cS} {H : gH}
theorem in_of {G : gH} {x a c : Int32} : (¬ x < a ∧ ¬ c < x → f_M_isIn G x a c = rI 1 G) ∧ (¬ (¬ x < a ∧ ¬ c < x) → f_M_isIn G x a c = rI 0 G) := by
  refine ⟨fun k => ?_, fun k => ?_⟩
  · rw [m_isIn, decide_eq_true k]; exact rZ_1
  · rw [m_isIn, decide_eq_false k]; exact rZ_0
theorem mOpen_ne {A : mS} {q p : Nat} {y : Nat × Nat × Nat} (h : p ≠ q) : mLen (mOpen A q y) p = mLen A p := by
  unfold mLen
  by_cases h2 : p < 2
  · rw [if_pos h2, if_pos h2]; rfl
  · rw [if_neg h2, if_neg h2]
    show (match va_up A.2.1 q (some y) p with | none => 0 | some (_, _, l) => l) = _
    rw [va_up_ne _ _ h]; rfl
theorem mV.opn {A : mS} {q p : Nat} {y : Nat × Nat × Nat} (h : mV A p) : mV (mOpen A q y) p := by
  rcases h with h | h
  · exact Or.inl h
  · refine Or.inr ?_
    show va_up A.2.1 q (some y) p ≠ none
    by_cases e : p = q
    · rw [e, va_up_self]; exact Option.some_ne_none _
    · rw [va_up_ne _ _ e]; exact h
theorem mInv.opn {q p f l : Nat} (hI : mInv m A) (h2 : 2 ≤ q) (h6 : q < 6) (hq : A.2.1 q = none) (hv : mV A p) (hl : f + l ≤ mLen A p) : mInv m (mOpen A q (p, f, l)) := by
  have hne : ∀ x, mV A x → x ≠ q := by
    intro x hx e
    rcases hx with h | h
    · omega
    · rw [e, hq] at h; exact h rfl
  obtain ⟨a1, a2, a3, a4, a5, a6⟩ := hI
  refine ⟨a1.opn h2 h6 hq hv, fun q' x hx => ?_, a3, fun c x hx => ?_, a5, a6⟩
  · have hx' : va_up A.2.1 q (some (p, f, l)) q' = some x := hx
    by_cases e : q' = q
    · rw [e, va_up_self] at hx'
      cases hx'
      rw [mOpen_ne (hne p hv)]
      exact hl
    · rw [va_up_ne _ _ e] at hx'
      rw [mOpen_ne (hne x.1 (a1.cl q' x hx'))]
      exact a2 q' x hx'
  · obtain ⟨z1, z2, z3, z4⟩ := a4 c x hx
    refine ⟨z1, z2, z3.opn, ?_⟩
    rw [mOpen_ne (hne x.1 z3)]
    exact z4
theorem gSm.n104 {G G' : gH} {o : Nat} {D : mD} {B : mS} (h : MRep w G o B D) (hk : gSm (fun z => ∀ n f, z ≠ zQ 104 n f) G G') (hel : gKeep G G') :
    G'.2.2 o = some (.inr (6, mOb B D)) ∧ isAL w G' D.1.1 D.1.2.1 [D.2.1 0, D.2.1 1] ∧ (∀ i, i < 2 → isAL w G' (D.2.1 i) (D.2.2.1 i) ((B.1 i).map fun t => t.1)) ∧ G'.2.2 D.1.2.2.2 = some (zQ 105 3 D.2.2.2.2.2) ∧ (∀ i, i < 2 → ∀ t, t ∈ B.1 i → mTh G' t.1 t.2) ∧ (∀ p, p < 6 → mPt G' (B.2.1 p) (D.2.2.2.2.1 p)) ∧ (∀ c, c < 3 → mCu G' (B.2.2.1 c) (D.2.2.2.2.2 c)) := by
  obtain ⟨k1, k2, k3, k4, k5, k6, k7, k8, k9, k10⟩ := h
  have hN : mN3 (fun z => ∀ n f, z ≠ zQ 104 n f) := ⟨fun fs n f q => (by cases q), fun c n f hc n' f' q => (by have := (zQ_inj (congrArg some q)).1; omega), fun g n f q => (by cases q)⟩
  exact ⟨hk _ _ k1 (fun n f q => by cases q), k2.tr hN hk hel, fun i hi => (k3 i hi).tr hN hk hel, hk _ _ k5 (fun n f q => by have := (zQ_inj (congrArg some q)).1; omega), fun i hi t ht => (k6 i hi t ht).tr hN hk, fun p hp => (k7 p hp).tr (fun fs n f q => by cases q) hk, fun c hc => (k8 c hc).tr (fun fs n f q => by cases q) hk⟩
/-- a new part -/
theorem s_open {G : gH} {D : mD} (h : MS w o G A D) {p q f l : Nat} (h6 : q < 6) (hq : A.2.1 q = none) (hp : p < 6) (hf : f < 100) (hl : l < 100) :
    ∃ G', (gFA G o 6 2 fun v1 => gNewO G 5 3 [.int 0, .int 0, .int 0] fun q1 G1 => bV (f_MP_init G1 q1) fun G2 => gStq G2 v1 104 5 (nI q) q1 fun G3 => gFA G3 o 6 2 fun v2 => gLdq G3 v2 104 (nI q) (none) fun v3 => gPut G3 v3 5 0 (.int (nI p)) fun G4 => gFA G4 o 6 2 fun v4 => gLdq G4 v4 104 (nI q) (none) fun v5 => gPut G4 v5 5 1 (.int (nI f)) fun G5 => gFA G5 o 6 2 fun v6 => gLdq G5 v6 104 (nI q) (none) fun v7 => gPut G5 v7 5 2 (.int (nI l)) fun G6 => rI (nI q) G6) = rI (nI q) G' ∧
      MS w o G' (mOpen A q (p, f, l)) (dPart D (va_up D.2.2.2.2.1 q (some G.2.1))) ∧ mSt 1 3 G G' := by
  obtain ⟨hw, hw0, hr⟩ := h
  have hlt := hr.lt hw
  have ho := hr.1
  have hp4 := hr.2.2.2.1
  have lo := hw _ _ ho
  have lp := hw _ _ hp4
  -- the heaps, one by one
  have c0 : ∀ z, z < G.2.1 → (gNew G 3 (.inr (5, [.int 0, .int 0, .int 0]))).2.2 z = G.2.2 z := fun z hz => gNew_ne (by omega)
  have n0 : (gNew G 3 (.inr (5, [.int 0, .int 0, .int 0]))).2.2 G.2.1 = some (.inr (5, [.int 0, .int 0, .int 0])) := gNew_at
  generalize hG1 : gNew G 3 (.inr (5, [.int 0, .int 0, .int 0])) = G1 at c0 n0
  have n1 : (gUp G1 D.1.2.2.1 (zQ 104 6 (va_up D.2.2.2.2.1 q (some G.2.1)))).2.2 G.2.1 = some (.inr (5, [.int 0, .int 0, .int 0])) := by rw [gUp_ne (by omega)]; exact n0
  have a1 : (gUp G1 D.1.2.2.1 (zQ 104 6 (va_up D.2.2.2.2.1 q (some G.2.1)))).2.2 D.1.2.2.1 = some (zQ 104 6 (va_up D.2.2.2.2.1 q (some G.2.1))) := gUp_at
  have c1 : ∀ z, z ≠ D.1.2.2.1 → z < G.2.1 → (gUp G1 D.1.2.2.1 (zQ 104 6 (va_up D.2.2.2.2.1 q (some G.2.1)))).2.2 z = G.2.2 z := fun z hn hz => by rw [gUp_ne hn]; exact c0 z hz
  have hone : D.1.2.2.1 ≠ o := fun e => by rw [e, ho] at hp4; cases hp4
  generalize hG2 : gUp G1 D.1.2.2.1 (zQ 104 6 (va_up D.2.2.2.2.1 q (some G.2.1))) = G2 at n1 a1 c1
  -- the three fields
  have step : ∀ (G2 : gH) (fs fs' : List Value), G2.2.2 D.1.2.2.1 = some (zQ 104 6 (va_up D.2.2.2.2.1 q (some G.2.1))) → (∀ z, z ≠ D.1.2.2.1 → z < G.2.1 → G2.2.2 z = G.2.2 z) → G2.2.2 G.2.1 = some (.inr (5, fs)) → (gUp G2 G.2.1 (.inr (5, fs'))).2.2 D.1.2.2.1 = some (zQ 104 6 (va_up D.2.2.2.2.1 q (some G.2.1))) ∧ (∀ z, z ≠ D.1.2.2.1 → z < G.2.1 → (gUp G2 G.2.1 (.inr (5, fs'))).2.2 z = G.2.2 z) ∧ (gUp G2 G.2.1 (.inr (5, fs'))).2.2 G.2.1 = some (.inr (5, fs')) := fun G2 fs fs' z1 z2 z3 =>
    ⟨by rw [gUp_ne (by omega)]; exact z1, fun z hn hz => by rw [gUp_ne (by omega)]; exact z2 z hn hz, gUp_at⟩
  have at' : va_up D.2.2.2.2.1 q (some G.2.1) q = some G.2.1 := va_up_self _ _ _
  obtain ⟨p1, p2, p3⟩ := step G2 _ [.int (nI p), .int 0, .int 0] a1 c1 n1
  obtain ⟨q1, q2, q3⟩ := step _ _ [.int (nI p), .int (nI f), .int 0] p1 p2 p3
  obtain ⟨r1, r2, r3⟩ := step _ _ [.int (nI p), .int (nI f), .int (nI l)] q1 q2 q3
  have hsz : (gUp (gUp (gUp G2 G.2.1 (.inr (5, [.int (nI p), .int 0, .int 0]))) G.2.1 (.inr (5, [.int (nI p), .int (nI f), .int 0]))) G.2.1 (.inr (5, [.int (nI p), .int (nI f), .int (nI l)]))).2.1 = G.2.1 + 1 ∧ (gUp (gUp (gUp G2 G.2.1 (.inr (5, [.int (nI p), .int 0, .int 0]))) G.2.1 (.inr (5, [.int (nI p), .int (nI f), .int 0]))) G.2.1 (.inr (5, [.int (nI p), .int (nI f), .int (nI l)]))).1 = G.1 + 3 := by
    rw [← hG2, ← hG1]; exact ⟨rfl, rfl⟩
  have hwf : gWf (gUp (gUp (gUp G2 G.2.1 (.inr (5, [.int (nI p), .int 0, .int 0]))) G.2.1 (.inr (5, [.int (nI p), .int (nI f), .int 0]))) G.2.1 (.inr (5, [.int (nI p), .int (nI f), .int (nI l)]))) := by
    have w1 : gWf G1 := by rw [← hG1]; exact hw.new
    have s1 : G1.2.1 = G.2.1 + 1 := by rw [← hG1]; rfl
    have w2 : gWf G2 := by rw [← hG2]; exact w1.up (by omega)
    have s2 : G2.2.1 = G.2.1 + 1 := by rw [← hG2]; exact s1
    refine gWf.up (gWf.up (w2.up ?_) ?_) ?_ <;> (show G.2.1 < G2.2.1; omega)
  refine ⟨gUp (gUp (gUp G2 G.2.1 (.inr (5, [.int (nI p), .int 0, .int 0]))) G.2.1 (.inr (5, [.int (nI p), .int (nI f), .int 0]))) G.2.1 (.inr (5, [.int (nI p), .int (nI f), .int (nI l)])), ?_, ?_⟩
  · rw [gFA_of ho rfl rfl]
    unfold gNewO f_MP_init
    dsimp only
    rw [hG1, bV_rV, gStq_of ((c0 _ lp).trans hp4) h6 (by omega) n0 (by omega), hG2, gFA_of ((c1 _ (fun e => hone e.symm) lo).trans ho) rfl rfl, gLdq_of a1 rfl h6 (by omega) at', gPut_of n1 (by decide)]
    rw [show ([.int 0, .int 0, .int 0] : List Value).set 0 (.int (nI p)) = [.int (nI p), .int 0, .int 0] from rfl, gFA_of ((p2 _ (fun e => hone e.symm) lo).trans ho) rfl rfl, gLdq_of p1 rfl h6 (by omega) at', gPut_of p3 (show 1 < 3 by decide)]
    rw [show ([.int (nI p), .int 0, .int 0] : List Value).set 1 (.int (nI f)) = [.int (nI p), .int (nI f), .int 0] from rfl, gFA_of ((q2 _ (fun e => hone e.symm) lo).trans ho) rfl rfl, gLdq_of q1 rfl h6 (by omega) at', gPut_of q3 (show 2 < 3 by decide)]
    rfl
  · generalize gUp (gUp (gUp G2 G.2.1 (.inr (5, [.int (nI p), .int 0, .int 0]))) G.2.1 (.inr (5, [.int (nI p), .int (nI f), .int 0]))) G.2.1 (.inr (5, [.int (nI p), .int (nI f), .int (nI l)])) = G' at r1 r2 r3 hsz hwf
    have hsm : gSm (fun z => ∀ n f, z ≠ zQ 104 n f) G G' := fun z x hz hx => (r2 z (fun e => by rw [e, hp4] at hz; exact hx _ _ (Option.some.inj hz).symm) (hw _ _ hz)).trans hz
    have hk : gKeep G G' := fun y hy => by
      rcases hy with ⟨fs, e⟩ | ⟨mm, g, e⟩
      · exact Or.inl ⟨fs, (r2 _ (fun q => by rw [q, hp4] at e; cases e) (hw _ _ e)).trans e⟩
      · exact Or.inr ⟨mm, g, (r2 _ (fun q => by rw [q, hp4] at e; cases e) (hw _ _ e)).trans e⟩
    have hfr : gFr (mOwn G) 1 3 G G' := by
      exact ⟨by omega, by omega, by omega, by omega, fun _ => hwf, fun z hz hn => r2 z (fun e => hn (by rw [e]; exact ⟨_, hp4, Or.inr ⟨_, _, _, rfl, by decide⟩⟩)) hz⟩
    have hS : mSt 1 3 G G' := ⟨hfr, hk⟩
    obtain ⟨k1, k2, k3, k5, k6, k7, k8⟩ := gSm.n104 hr hsm hk
    obtain ⟨-, -, -, -, -, -, -, -, k9, k10⟩ := hr
    refine ⟨⟨hwf, hS.w0 hw hw0, k1, k2, k3, r1, k5, k6, fun p' hp' => ?_, k8, ⟨k9.1, k9.2.1, k9.2.2.1, k9.2.2.2.1.put (fun j hj e => ?_), k9.2.2.2.2⟩, k10⟩, hS⟩
    · show mPt G' (va_up A.2.1 q (some (p, f, l)) p') (va_up D.2.2.2.2.1 q (some G.2.1) p')
      by_cases e : p' = q
      · rw [e, va_up_self, va_up_self]
        exact ⟨hp, hf, hl, r3⟩
      · rw [va_up_ne _ _ e, va_up_ne _ _ e]
        exact k7 p' hp'
    · exact Nat.lt_irrefl _ (hlt.1 j _ hj e)
theorem mInv.l31 (hI : mInv m A) {p : Nat} (hv : mV A p) : mLen A p ≤ 31 := by
  obtain ⟨r, s, -, -, a1, a2, -⟩ := hI.pl hv
  omega
theorem sim_part (hR : CRep σ A) (hI : mInv m A) (x y z : Int32) : SimOp w b o A m σ H xIS (f_X_part (cPut b σ H) b x y z) (fun G => f_M_part G o x y z) := by
  have hX := CRepx.of (exc := -1) hR
  by_cases hx : mIsL A x
  · have hL := hx
    obtain ⟨p, hp, rfl, hv⟩ := hx
    have hv : mV A p := hv
    obtain ⟨r, s, hr, hr2, hfit, h31, hp6, hro⟩ := hI.pl hv
    have hW := hI.w p
    have hIt : mInv m (mSet A 0 0) := hI.thr 0
    have hl31 := hI.l31 hv
    by_cases hy : mIsG (mLen A p) y
    · have hy' := hy
      obtain ⟨f, hf, rfl⟩ := hy
      have inF : ∀ G : gH, f_M_isIn G (nI f) (nI 0) (nI (mLen A p)) = rI 1 G := fun G => (s_isIn G (mLen A p) (by omega) _).1 hy'
      by_cases hz : ¬ z < nI f ∧ ¬ nI (mLen A p) < z
      · have hz' : mIsG (mLen A p) z := (nI_gap (by omega)).mpr ⟨fun q => hz.1 (Int32.lt_of_lt_of_le q (nI_pos' (by omega))), Int32.not_lt.mp hz.2⟩
        obtain ⟨t, ht, rfl⟩ := hz'
        have hft : f ≤ t := by
          rcases Nat.lt_or_ge t f with q | q
          · exact absurd (nI_lt q (by omega)) hz.1
          · exact q
        have fp := x_freePart (b := b) (G := H) hR (hI.w 0)
        have fm : ∀ (G : gH) (D : mD), MS w o G (mSet A 0 0) D → f_M_freePart G o = rI (sNo (sFree (fun c => (A.2.1 c).isNone) 2 4)) G := fun G D h => s_freePart (A := mSet A 0 0) h
        cases hq : sFree (fun c => (A.2.1 c).isNone) 2 4 with
        | none =>
          rw [hq] at fp fm
          refine Sim.no hR hI 2 (by decide) (by decide) ?_ (fun G D h => ?_)
          · unfold f_X_part
            simp only [x_needList hX hW hL, (x_needGap hX hW.1 hv (show mLen A p < 100 by omega)).1 hy', x_len hX hW.1 hv, fp, c_ob_0, c_fa_0_0, c_fa_0_1, c_fi_0_2, c_put_0_2, c_fi_0_3, c_put_0_3, c_fi_0_4, c_put_0_4, c_ob_1, c_fa_1_0, c_fa_1_1, c_fa_1_2, c_fa_1_3, c_fa_1_4, c_fa_1_5, c_fi_1_6, c_put_1_6, c_ob_2, c_fa_2_0, c_ob_4, c_fa_4_0, c_ob_6, c_fa_6_0, c_ob_8, c_fa_8_0, c_ob_10, c_fa_10_0, c_ob_12, c_fa_12_0, c_ob_14, c_fa_14_0, c_fa_14_1, c_fa_14_2, c_fa_14_3, c_fi_14_4, c_put_14_4, c_ob_15, c_fa_15_0, c_ob_17, c_fa_17_0, c_ob_19, c_fa_19_0, c_ob_21, c_fa_21_0, c_len_0, c_ld_0, c_st_0, c_rd_0, c_wr_0, c_len_1, c_ld_1, c_st_1, c_rd_1, c_wr_1, c_len_2, c_ld_2, c_st_2, c_rd_2, c_wr_2, c_len_3, c_ld_3, c_st_3, c_rd_3, c_wr_3, c_len_4, c_ld_4, c_st_4, c_rd_4, c_wr_4, c_len_5, c_ld_5, c_st_5, c_rd_5, c_wr_5, c_len_6, c_ld_6, c_st_6, c_rd_6, c_wr_6, c_len_7, c_ld_7, c_st_7, c_rd_7, c_wr_7, c_len_8, c_ld_8, c_st_8, c_rd_8, c_wr_8, c_len_9, c_ld_9, c_st_9, c_rd_9, c_wr_9, bI_rI, bL_rL, bA_rA, bV_rV, bI_th, bL_th, bA_th, bV_th, rZ_0, rZ_1]
            rw [if_neg hz.1, if_pos (Int32.not_lt.mp hz.2), show sNo none = -1 from rfl, if_pos rfl]
            rfl
          · obtain ⟨G1, r1, h1, s1⟩ := r_list1 h hL
            obtain ⟨G2, r2, h2, s2⟩ := r_no1 (c := 2) h1 (by decide)
            refine ⟨G2, ?_, h2, (s1.trans s2).mono (by omega) (by omega)⟩
            unfold f_M_part
            rw [r1, gOb_of h1.2.2.1 rfl, s_len h1 hW.1 hv, bI_rI, show f_M_isIn G1 (nI f) (nI 0) (nI (mLen (mSet A 0 0) p)) = _ from inF G1, bI_rI, if_neg (by decide), gOb_of h1.2.2.1 rfl, s_len h1 hW.1 hv, bI_rI, show f_M_isIn G1 (nI t) (nI f) (nI (mLen (mSet A 0 0) p)) = _ from in_of.1 hz, bI_rI, if_neg (by decide), r_ref0 h1 rfl, gOb_of h1.2.2.1 rfl, fm G1 D h1, bI_rI, show sNo none = -1 from rfl, if_pos rfl, r2]
            rfl
        | some q =>
          rw [hq] at fp fm
          obtain ⟨q1, q2, q6⟩ := sFree_some _ _ _ hq
          have hqn : A.2.1 q = none := Option.isNone_iff_eq_none.mp q1
          have hne : ¬ nI q = -1 := nI_ne1 (by omega)
          obtain ⟨σ', y1, y2⟩ := x_open (b := b) (G := H) (f := f) (l := t - f) hR hI.1 hv hr q2 q6 hqn
          refine Sim.yes (nI q) σ' ?_ (fun G D h => ?_)
          · unfold f_X_part
            simp only [x_needList hX hW hL, (x_needGap hX hW.1 hv (show mLen A p < 100 by omega)).1 hy', x_len hX hW.1 hv, fp, c_ob_0, c_fa_0_0, c_fa_0_1, c_fi_0_2, c_put_0_2, c_fi_0_3, c_put_0_3, c_fi_0_4, c_put_0_4, c_ob_1, c_fa_1_0, c_fa_1_1, c_fa_1_2, c_fa_1_3, c_fa_1_4, c_fa_1_5, c_fi_1_6, c_put_1_6, c_ob_2, c_fa_2_0, c_ob_4, c_fa_4_0, c_ob_6, c_fa_6_0, c_ob_8, c_fa_8_0, c_ob_10, c_fa_10_0, c_ob_12, c_fa_12_0, c_ob_14, c_fa_14_0, c_fa_14_1, c_fa_14_2, c_fa_14_3, c_fi_14_4, c_put_14_4, c_ob_15, c_fa_15_0, c_ob_17, c_fa_17_0, c_ob_19, c_fa_19_0, c_ob_21, c_fa_21_0, c_len_0, c_ld_0, c_st_0, c_rd_0, c_wr_0, c_len_1, c_ld_1, c_st_1, c_rd_1, c_wr_1, c_len_2, c_ld_2, c_st_2, c_rd_2, c_wr_2, c_len_3, c_ld_3, c_st_3, c_rd_3, c_wr_3, c_len_4, c_ld_4, c_st_4, c_rd_4, c_wr_4, c_len_5, c_ld_5, c_st_5, c_rd_5, c_wr_5, c_len_6, c_ld_6, c_st_6, c_rd_6, c_wr_6, c_len_7, c_ld_7, c_st_7, c_rd_7, c_wr_7, c_len_8, c_ld_8, c_st_8, c_rd_8, c_wr_8, c_len_9, c_ld_9, c_st_9, c_rd_9, c_wr_9, bI_rI, bL_rL, bA_rA, bV_rV, bI_th, bL_th, bA_th, bV_th, rZ_0, rZ_1]
            rw [if_neg hz.1, if_pos (Int32.not_lt.mp hz.2), show sNo (some q) = nI q from rfl, if_neg hne, nI_sub hft, y1, bV_rV]
          · obtain ⟨G1, r1, h1, s1⟩ := r_list1 h hL
            obtain ⟨G2, r2, h2, s2⟩ := s_open (p := p) (f := f) (l := t - f) h1 q6 hqn hp6 (by omega) (by omega)
            refine ⟨_, _, G2, m, ?_, h2, (CRepx.of (exc := -1) y2).thr 0, hIt.opn q2 q6 hqn hv (show f + (t - f) ≤ mLen A p by omega), Nat.le_succ m, rfl, (s1.trans s2).mono (by omega) (by omega)⟩
            unfold f_M_part
            rw [r1, gOb_of h1.2.2.1 rfl, s_len h1 hW.1 hv, bI_rI, show f_M_isIn G1 (nI f) (nI 0) (nI (mLen (mSet A 0 0) p)) = _ from inF G1, bI_rI, if_neg (by decide), gOb_of h1.2.2.1 rfl, s_len h1 hW.1 hv, bI_rI, show f_M_isIn G1 (nI t) (nI f) (nI (mLen (mSet A 0 0) p)) = _ from in_of.1 hz, bI_rI, if_neg (by decide), r_ref0 h1 rfl, gOb_of h1.2.2.1 rfl, fm G1 D h1, bI_rI, show sNo (some q) = nI q from rfl, if_neg hne, r_ref0 h1 rfl, gOb_of h1.2.2.1 rfl, fm G1 D h1, bI_rI, nI_sub hft]
            exact r2
      · refine Sim.no hR hI 1 (by decide) (by decide) ?_ (fun G D h => ?_)
        · unfold f_X_part
          simp only [x_needList hX hW hL, (x_needGap hX hW.1 hv (show mLen A p < 100 by omega)).1 hy', x_len hX hW.1 hv, c_ob_0, c_fa_0_0, c_fa_0_1, c_fi_0_2, c_put_0_2, c_fi_0_3, c_put_0_3, c_fi_0_4, c_put_0_4, c_ob_1, c_fa_1_0, c_fa_1_1, c_fa_1_2, c_fa_1_3, c_fa_1_4, c_fa_1_5, c_fi_1_6, c_put_1_6, c_ob_2, c_fa_2_0, c_ob_4, c_fa_4_0, c_ob_6, c_fa_6_0, c_ob_8, c_fa_8_0, c_ob_10, c_fa_10_0, c_ob_12, c_fa_12_0, c_ob_14, c_fa_14_0, c_fa_14_1, c_fa_14_2, c_fa_14_3, c_fi_14_4, c_put_14_4, c_ob_15, c_fa_15_0, c_ob_17, c_fa_17_0, c_ob_19, c_fa_19_0, c_ob_21, c_fa_21_0, c_len_0, c_ld_0, c_st_0, c_rd_0, c_wr_0, c_len_1, c_ld_1, c_st_1, c_rd_1, c_wr_1, c_len_2, c_ld_2, c_st_2, c_rd_2, c_wr_2, c_len_3, c_ld_3, c_st_3, c_rd_3, c_wr_3, c_len_4, c_ld_4, c_st_4, c_rd_4, c_wr_4, c_len_5, c_ld_5, c_st_5, c_rd_5, c_wr_5, c_len_6, c_ld_6, c_st_6, c_rd_6, c_wr_6, c_len_7, c_ld_7, c_st_7, c_rd_7, c_wr_7, c_len_8, c_ld_8, c_st_8, c_rd_8, c_wr_8, c_len_9, c_ld_9, c_st_9, c_rd_9, c_wr_9, bI_rI, bL_rL, bA_rA, bV_rV, bI_th, bL_th, bA_th, bV_th, rZ_0, rZ_1]
          by_cases h0 : z < nI f
          · rw [if_pos h0]; rfl
          · rw [if_neg h0, if_neg (fun q => hz ⟨h0, Int32.not_lt.mpr q⟩)]; rfl
        · obtain ⟨G1, r1, h1, s1⟩ := r_list1 h hL
          obtain ⟨G2, r2, h2, s2⟩ := r_no1 (c := 1) h1 (by decide)
          refine ⟨G2, ?_, h2, (s1.trans s2).mono (by omega) (by omega)⟩
          unfold f_M_part
          rw [r1, gOb_of h1.2.2.1 rfl, s_len h1 hW.1 hv, bI_rI, show f_M_isIn G1 (nI f) (nI 0) (nI (mLen (mSet A 0 0) p)) = _ from inF G1, bI_rI, if_neg (by decide), gOb_of h1.2.2.1 rfl, s_len h1 hW.1 hv, bI_rI, show f_M_isIn G1 z (nI f) (nI (mLen (mSet A 0 0) p)) = _ from in_of.2 hz, bI_rI, if_pos rfl, r2]
          rfl
    · refine Sim.no hR hI 1 (by decide) (by decide) ?_ (fun G D h => ?_)
      · unfold f_X_part
        simp only [x_needList hX hW hL, (x_needGap hX hW.1 hv (show mLen A p < 100 by omega)).2 hy, c_ob_0, c_fa_0_0, c_fa_0_1, c_fi_0_2, c_put_0_2, c_fi_0_3, c_put_0_3, c_fi_0_4, c_put_0_4, c_ob_1, c_fa_1_0, c_fa_1_1, c_fa_1_2, c_fa_1_3, c_fa_1_4, c_fa_1_5, c_fi_1_6, c_put_1_6, c_ob_2, c_fa_2_0, c_ob_4, c_fa_4_0, c_ob_6, c_fa_6_0, c_ob_8, c_fa_8_0, c_ob_10, c_fa_10_0, c_ob_12, c_fa_12_0, c_ob_14, c_fa_14_0, c_fa_14_1, c_fa_14_2, c_fa_14_3, c_fi_14_4, c_put_14_4, c_ob_15, c_fa_15_0, c_ob_17, c_fa_17_0, c_ob_19, c_fa_19_0, c_ob_21, c_fa_21_0, c_len_0, c_ld_0, c_st_0, c_rd_0, c_wr_0, c_len_1, c_ld_1, c_st_1, c_rd_1, c_wr_1, c_len_2, c_ld_2, c_st_2, c_rd_2, c_wr_2, c_len_3, c_ld_3, c_st_3, c_rd_3, c_wr_3, c_len_4, c_ld_4, c_st_4, c_rd_4, c_wr_4, c_len_5, c_ld_5, c_st_5, c_rd_5, c_wr_5, c_len_6, c_ld_6, c_st_6, c_rd_6, c_wr_6, c_len_7, c_ld_7, c_st_7, c_rd_7, c_wr_7, c_len_8, c_ld_8, c_st_8, c_rd_8, c_wr_8, c_len_9, c_ld_9, c_st_9, c_rd_9, c_wr_9, bI_rI, bL_rL, bA_rA, bV_rV, bI_th, bL_th, bA_th, bV_th, rZ_0, rZ_1]
        rfl
      · obtain ⟨G1, r1, h1, s1⟩ := r_list1 h hL
        obtain ⟨G2, r2, h2, s2⟩ := r_no1 (c := 1) h1 (by decide)
        refine ⟨G2, ?_, h2, (s1.trans s2).mono (by omega) (by omega)⟩
        unfold f_M_part
        rw [r1, gOb_of h1.2.2.1 rfl, s_len h1 hW.1 hv, bI_rI, show f_M_isIn G1 y (nI 0) (nI (mLen (mSet A 0 0) p)) = rI 0 G1 from (s_isIn G1 (mLen A p) (by omega) _).2 hy, bI_rI, if_pos rfl, r2]
        rfl
  · refine Sim.no hR hI 1 (by decide) (by decide) ?_ (fun G D h => ?_)
    · unfold f_X_part
      simp only [x_needList_no hX (hI.w 0) hx, c_ob_0, c_fa_0_0, c_fa_0_1, c_fi_0_2, c_put_0_2, c_fi_0_3, c_put_0_3, c_fi_0_4, c_put_0_4, c_ob_1, c_fa_1_0, c_fa_1_1, c_fa_1_2, c_fa_1_3, c_fa_1_4, c_fa_1_5, c_fi_1_6, c_put_1_6, c_ob_2, c_fa_2_0, c_ob_4, c_fa_4_0, c_ob_6, c_fa_6_0, c_ob_8, c_fa_8_0, c_ob_10, c_fa_10_0, c_ob_12, c_fa_12_0, c_ob_14, c_fa_14_0, c_fa_14_1, c_fa_14_2, c_fa_14_3, c_fi_14_4, c_put_14_4, c_ob_15, c_fa_15_0, c_ob_17, c_fa_17_0, c_ob_19, c_fa_19_0, c_ob_21, c_fa_21_0, c_len_0, c_ld_0, c_st_0, c_rd_0, c_wr_0, c_len_1, c_ld_1, c_st_1, c_rd_1, c_wr_1, c_len_2, c_ld_2, c_st_2, c_rd_2, c_wr_2, c_len_3, c_ld_3, c_st_3, c_rd_3, c_wr_3, c_len_4, c_ld_4, c_st_4, c_rd_4, c_wr_4, c_len_5, c_ld_5, c_st_5, c_rd_5, c_wr_5, c_len_6, c_ld_6, c_st_6, c_rd_6, c_wr_6, c_len_7, c_ld_7, c_st_7, c_rd_7, c_wr_7, c_len_8, c_ld_8, c_st_8, c_rd_8, c_wr_8, c_len_9, c_ld_9, c_st_9, c_rd_9, c_wr_9, bI_rI, bL_rL, bA_rA, bV_rV, bI_th, bL_th, bA_th, bV_th, rZ_0, rZ_1]
      rfl
    · obtain ⟨G1, r1, h1, s1⟩ := r_list0 h hx
      refine ⟨G1, ?_, h1, s1⟩
      unfold f_M_part
      rw [r1]
      rfl
/-- a part that is there -/
def mIsQ (A : mS) (x : Int32) : Prop := ∃ p, 2 ≤ p ∧ p < 6 ∧ x = nI p ∧ A.2.1 p ≠ none
theorem in25 {x : Int32} : (¬ x < nI 2 ∧ ¬ nI 5 < x) ↔ ∃ p, 2 ≤ p ∧ p < 6 ∧ x = nI p := by
  refine ⟨fun ⟨h1, h2⟩ => ?_, ?_⟩
  · have hg : mIsG 5 x := (nI_gap (by omega)).mpr ⟨fun q => h1 (Int32.lt_of_lt_of_le q (nI_pos' (by omega))), Int32.not_lt.mp h2⟩
    obtain ⟨i, hi, rfl⟩ := hg
    refine ⟨i, ?_, by omega, rfl⟩
    rcases Nat.lt_or_ge i 2 with q | q
    · exact absurd (nI_lt q (by omega)) h1
    · exact q
  · rintro ⟨p, h2, h6, rfl⟩
    exact ⟨nI_nlt h2 (by omega), nI_nlt (by omega) (by omega)⟩
theorem s_noPart {G : gH} {D : mD} (h : MS w o G A D) (x : Int32) : (mIsQ A x → f_M_isNoPart G o x = rI 0 G) ∧ (¬ mIsQ A x → f_M_isNoPart G o x = rI 1 G) := by
  unfold f_M_isNoPart
  refine ⟨?_, fun k => ?_⟩
  · rintro ⟨p, h2, h6, rfl, hx⟩
    cases hy : A.2.1 p with
    | none => exact absurd hy hx
    | some y =>
      obtain ⟨q, e1, -⟩ := h.2.2.part h6 hy
      rw [in_of.1 (in25.mpr ⟨p, h2, h6, rfl⟩), bI_rI, if_neg (by decide), gFA_of h.2.2.1 rfl rfl, gLdq_of h.2.2.2.2.2.1 rfl h6 (by omega) e1]
      exact rZ_0
  · by_cases hh : ¬ x < nI 2 ∧ ¬ nI 5 < x
    · have hh' := hh
      obtain ⟨p, h2, h6, rfl⟩ := in25.mp hh
      have hx : A.2.1 p = none := by
        cases hy : A.2.1 p with
        | none => rfl
        | some y => exact absurd ⟨p, h2, h6, rfl, by rw [hy]; exact Option.some_ne_none _⟩ k
      rw [in_of.1 hh', bI_rI, if_neg (by decide), gFA_of h.2.2.1 rfl rfl, gLdq_no h.2.2.2.2.2.1 rfl h6 (by omega) (h.2.2.nopart h6 hx)]
      exact rZ_1
    · rw [in_of.2 hh, bI_rI, if_pos rfl]
      exact rZ_1
theorem x_needPart {exc : Int32} {p : Nat} (hX : CRepx exc σ A) (hW : mInw exc p A) {x : Int32} : (mIsQ A x → f_X_needPart (cPut b σ H) b x = rV (cPut b σ H)) ∧ (¬ mIsQ A x → f_X_needPart (cPut b σ H) b x = gThrow "java/lang/IndexOutOfBoundsException" (cPut b σ H)) := by
  have key := CRepx.there hX hW (x := x)
  unfold f_X_needPart
  refine ⟨?_, fun k => ?_⟩
  · rintro ⟨q, h2, h6, rfl, hq⟩
    rw [if_neg (nI_nlt h2 (by omega)), c_fa_0_0, c_ob_1, y_isThere (t := true) ⟨fun z => absurd ⟨q, h6, rfl, Or.inr hq⟩ (key.mp z), fun z => (by cases z)⟩, bI_rI, mB_if, if_pos rfl]
  · by_cases h2 : x < nI 2
    · rw [if_pos h2]
    · rw [if_neg h2, c_fa_0_0, c_ob_1, y_isThere (t := false) ⟨fun _ => rfl, fun _ => key.mpr (fun ⟨q, h6, e, hq⟩ => by
        rcases hq with h | h
        · exact h2 (by rw [e]; exact nI_lt h (by omega))
        · rcases Nat.lt_or_ge q 2 with z | z
          · exact h2 (by rw [e]; exact nI_lt z (by omega))
          · exact k ⟨q, z, h6, e, h⟩)⟩, bI_rI, mB_if, if_neg (by decide)]
theorem sim_close (hR : CRep σ A) (hI : mInv m A) (x : Int32) : SimOp w b o A m σ H xI1 (f_X_close (cPut b σ H) b x) (fun G => f_M_close G o x) := by
  have hX := CRepx.of (exc := -1) hR
  by_cases hx : mIsQ A x
  · have hQ := hx
    obtain ⟨p, h2, h6, rfl, hp⟩ := hx
    have hIt : mInv m (mSet A 0 0) := hI.thr 0
    obtain ⟨hE, hok, hch⟩ := mEP_char (A := mSet A 0 0) (p := p) hI.1 hp
    obtain ⟨σ', y1, y2⟩ := x_close (b := b) (G := H) (A := mSet A 0 0) (hX.thr 0) (hIt.w p) h2 hp hE hch
    refine Sim.yes _ σ' y1 (fun G D h => ?_)
    obtain ⟨G1, r1, h1, s1⟩ := s_go h
    obtain ⟨G2, F, r2, h2', s2, -⟩ := m_endPart zDp G1 (mSet A 0 0) D p h1.1 h1.2.2 h2 h6 (hI.1.deep h2)
    refine ⟨_, _, G2, m, ?_, h1.step s2.st h2', y2, hIt.ends hE hok, Nat.le_succ m, hE.2.2.2.2.1 0 (by omega) (by omega), (s1.trans s2.st).mono (by omega) (by omega)⟩
    unfold f_M_close
    rw [gOb_of h.2.2.1 rfl, (s_noPart h _).1 hQ, bI_rI, gOb_of h.2.2.1 rfl]
    rw [show f_M_start G o 0 (nI 1) = _ from r1 (nI 1), bI_rI, if_pos rfl, gOb_of h1.2.2.1 rfl, r2, bI_rI]
  · refine Sim.no hR hI 1 (by decide) (by decide) ?_ (fun G D h => ?_)
    · unfold f_X_close
      simp only [(x_needPart hX (hI.w 0)).2 hx, c_ob_0, c_fa_0_0, c_fa_0_1, c_fi_0_2, c_put_0_2, c_fi_0_3, c_put_0_3, c_fi_0_4, c_put_0_4, c_ob_1, c_fa_1_0, c_fa_1_1, c_fa_1_2, c_fa_1_3, c_fa_1_4, c_fa_1_5, c_fi_1_6, c_put_1_6, c_ob_2, c_fa_2_0, c_ob_4, c_fa_4_0, c_ob_6, c_fa_6_0, c_ob_8, c_fa_8_0, c_ob_10, c_fa_10_0, c_ob_12, c_fa_12_0, c_ob_14, c_fa_14_0, c_fa_14_1, c_fa_14_2, c_fa_14_3, c_fi_14_4, c_put_14_4, c_ob_15, c_fa_15_0, c_ob_17, c_fa_17_0, c_ob_19, c_fa_19_0, c_ob_21, c_fa_21_0, c_len_0, c_ld_0, c_st_0, c_rd_0, c_wr_0, c_len_1, c_ld_1, c_st_1, c_rd_1, c_wr_1, c_len_2, c_ld_2, c_st_2, c_rd_2, c_wr_2, c_len_3, c_ld_3, c_st_3, c_rd_3, c_wr_3, c_len_4, c_ld_4, c_st_4, c_rd_4, c_wr_4, c_len_5, c_ld_5, c_st_5, c_rd_5, c_wr_5, c_len_6, c_ld_6, c_st_6, c_rd_6, c_wr_6, c_len_7, c_ld_7, c_st_7, c_rd_7, c_wr_7, c_len_8, c_ld_8, c_st_8, c_rd_8, c_wr_8, c_len_9, c_ld_9, c_st_9, c_rd_9, c_wr_9, bI_rI, bL_rL, bA_rA, bV_rV, bI_th, bL_th, bA_th, bV_th, rZ_0, rZ_1]
      rfl
    · obtain ⟨G1, r1, h1, s1⟩ := s_halt1 h
      refine ⟨G1, ?_, h1, s1⟩
      unfold f_M_close
      rw [gOb_of h.2.2.1 rfl, (s_noPart h _).2 hx, bI_rI, gOb_of h.2.2.1 rfl]
      rw [show f_M_start G o 1 (nI 1) = _ from r1, bI_rI, if_neg (by decide)]
      rfl
end Prt
end
section
-- cursor, next, previous, put
section Csr
variable {w : Nat → Nat} {b o m : Nat} {A : mS} {σ : cS} {H : gH}
theorem mSetC_at {A : mS} {c : Nat} {y : Nat × Nat × Int32 × Int32} : (mSetC A c y).2.2.1 c = some y := va_up_self _ _ _
theorem mSetC_mSetC {A : mS} {c : Nat} {x y : Nat × Nat × Int32 × Int32} : mSetC (mSetC A c x) c y = mSetC A c y := by
  unfold mSetC
  refine congrArg (fun f => (A.1, A.2.1, f, A.2.2.2)) ?_
  funext j
  simp only [va_up]
  split <;> rfl
theorem mSetC_id {A : mS} {c : Nat} {x : Nat × Nat × Int32 × Int32} (h : A.2.2.1 c = some x) : mSetC A c x = A := by
  unfold mSetC
  rw [← h, va_up_id]
theorem mInv.setC {c : Nat} {y : Nat × Nat × Int32 × Int32} (hI : mInv m A) (hc : c < 3) (hy : mCok A y) : mInv m (mSetC A c y) := by
  obtain ⟨a1, a2, a3, a4, a5, a6⟩ := hI
  refine ⟨a1, a2, a3, fun c' x hx => ?_, a5, a6⟩
  have hx' : va_up A.2.2.1 c (some y) c' = some x := hx
  by_cases e : c' = c
  · rw [e, va_up_self] at hx'
    cases hx'
    rw [e]
    exact ⟨hc, hy⟩
  · rw [va_up_ne _ _ e] at hx'
    exact a4 c' x hx'
/-- a new cursor -/
theorem s_newC {G : gH} {D : mD} (h : MS w o G A D) {c p n : Nat} (h3 : c < 3) (hc : A.2.2.1 c = none) (hp : p < 6) (hn : n < 100) :
    ∃ G', (gFA G o 6 3 fun v1 => gNewO G 4 4 [.int 0, .int 0, .int 0, .int 0] fun q1 G1 => bV (f_MC_init G1 q1) fun G2 => gStq G2 v1 105 4 (nI c) q1 fun G3 => gFA G3 o 6 3 fun v2 => gLdq G3 v2 105 (nI c) (none) fun v3 => gPut G3 v3 4 0 (.int (nI p)) fun G4 => gFA G4 o 6 3 fun v4 => gLdq G4 v4 105 (nI c) (none) fun v5 => gPut G4 v5 4 1 (.int (nI n)) fun G5 => rI (nI c) G5) = rI (nI c) G' ∧
      MS w o G' (mSetC A c (p, n, -1, 0)) (dCur D (va_up D.2.2.2.2.2 c (some G.2.1))) ∧ mSt 1 4 G G' := by
  obtain ⟨hw, hw0, hr⟩ := h
  have hlt := hr.lt hw
  have ho := hr.1
  have hp5 := hr.2.2.2.2.1
  have lo := hw _ _ ho
  have lp := hw _ _ hp5
  have c0 : ∀ z, z < G.2.1 → (gNew G 4 (.inr (4, [.int 0, .int 0, .int 0, .int 0]))).2.2 z = G.2.2 z := fun z hz => gNew_ne (by omega)
  have n0 : (gNew G 4 (.inr (4, [.int 0, .int 0, .int 0, .int 0]))).2.2 G.2.1 = some (.inr (4, [.int 0, .int 0, .int 0, .int 0])) := gNew_at
  have w0 : gWf (gNew G 4 (.inr (4, [.int 0, .int 0, .int 0, .int 0]))) := hw.new
  have s0 : (gNew G 4 (.inr (4, [.int 0, .int 0, .int 0, .int 0]))).2.1 = G.2.1 + 1 ∧ (gNew G 4 (.inr (4, [.int 0, .int 0, .int 0, .int 0]))).1 = G.1 + 4 := ⟨rfl, rfl⟩
  generalize hG1 : gNew G 4 (.inr (4, [.int 0, .int 0, .int 0, .int 0])) = G1 at c0 n0 w0 s0
  have hone : D.1.2.2.2 ≠ o := fun e => by rw [e, ho] at hp5; cases hp5
  -- the first field, set when it is made
  have n1 : (gUp G1 G.2.1 (.inr (4, [.int 0, .int 0, .int (-1), .int 0]))).2.2 G.2.1 = some (.inr (4, [.int 0, .int 0, .int (-1), .int 0])) := gUp_at
  have c1 : ∀ z, z < G.2.1 → (gUp G1 G.2.1 (.inr (4, [.int 0, .int 0, .int (-1), .int 0]))).2.2 z = G.2.2 z := fun z hz => by rw [gUp_ne (by omega)]; exact c0 z hz
  have w1 : gWf (gUp G1 G.2.1 (.inr (4, [.int 0, .int 0, .int (-1), .int 0]))) := w0.up (by omega)
  have s1 : (gUp G1 G.2.1 (.inr (4, [.int 0, .int 0, .int (-1), .int 0]))).2.1 = G.2.1 + 1 ∧ (gUp G1 G.2.1 (.inr (4, [.int 0, .int 0, .int (-1), .int 0]))).1 = G.1 + 4 := s0
  generalize hG2 : gUp G1 G.2.1 (.inr (4, [.int 0, .int 0, .int (-1), .int 0])) = G2 at n1 c1 w1 s1
  have n2 : (gUp G2 D.1.2.2.2 (zQ 105 3 (va_up D.2.2.2.2.2 c (some G.2.1)))).2.2 G.2.1 = some (.inr (4, [.int 0, .int 0, .int (-1), .int 0])) := by rw [gUp_ne (by omega)]; exact n1
  have a2 : (gUp G2 D.1.2.2.2 (zQ 105 3 (va_up D.2.2.2.2.2 c (some G.2.1)))).2.2 D.1.2.2.2 = some (zQ 105 3 (va_up D.2.2.2.2.2 c (some G.2.1))) := gUp_at
  have c2 : ∀ z, z ≠ D.1.2.2.2 → z < G.2.1 → (gUp G2 D.1.2.2.2 (zQ 105 3 (va_up D.2.2.2.2.2 c (some G.2.1)))).2.2 z = G.2.2 z := fun z hn hz => by rw [gUp_ne hn]; exact c1 z hz
  have w2 : gWf (gUp G2 D.1.2.2.2 (zQ 105 3 (va_up D.2.2.2.2.2 c (some G.2.1)))) := w1.up (by omega)
  have s2 : (gUp G2 D.1.2.2.2 (zQ 105 3 (va_up D.2.2.2.2.2 c (some G.2.1)))).2.1 = G.2.1 + 1 ∧ (gUp G2 D.1.2.2.2 (zQ 105 3 (va_up D.2.2.2.2.2 c (some G.2.1)))).1 = G.1 + 4 := s1
  generalize hG3 : gUp G2 D.1.2.2.2 (zQ 105 3 (va_up D.2.2.2.2.2 c (some G.2.1))) = G3 at n2 a2 c2 w2 s2
  have step : ∀ (G2 : gH) (fs' : List Value), G2.2.2 D.1.2.2.2 = some (zQ 105 3 (va_up D.2.2.2.2.2 c (some G.2.1))) → (∀ z, z ≠ D.1.2.2.2 → z < G.2.1 → G2.2.2 z = G.2.2 z) → (gUp G2 G.2.1 (.inr (4, fs'))).2.2 D.1.2.2.2 = some (zQ 105 3 (va_up D.2.2.2.2.2 c (some G.2.1))) ∧ (∀ z, z ≠ D.1.2.2.2 → z < G.2.1 → (gUp G2 G.2.1 (.inr (4, fs'))).2.2 z = G.2.2 z) ∧ (gUp G2 G.2.1 (.inr (4, fs'))).2.2 G.2.1 = some (.inr (4, fs')) := fun G2 fs' z1 z2 =>
    ⟨by rw [gUp_ne (by omega)]; exact z1, fun z hn hz => by rw [gUp_ne (by omega)]; exact z2 z hn hz, gUp_at⟩
  have at' : va_up D.2.2.2.2.2 c (some G.2.1) c = some G.2.1 := va_up_self _ _ _
  obtain ⟨p1, p2, p3⟩ := step G3 [.int (nI p), .int 0, .int (-1), .int 0] a2 c2
  obtain ⟨r1, r2, r3⟩ := step _ [.int (nI p), .int (nI n), .int (-1), .int 0] p1 p2
  have hwf : gWf (gUp (gUp G3 G.2.1 (.inr (4, [.int (nI p), .int 0, .int (-1), .int 0]))) G.2.1 (.inr (4, [.int (nI p), .int (nI n), .int (-1), .int 0]))) := by
    refine gWf.up (w2.up ?_) ?_ <;> (show G.2.1 < G3.2.1; omega)
  have hsz : (gUp (gUp G3 G.2.1 (.inr (4, [.int (nI p), .int 0, .int (-1), .int 0]))) G.2.1 (.inr (4, [.int (nI p), .int (nI n), .int (-1), .int 0]))).2.1 = G.2.1 + 1 ∧ (gUp (gUp G3 G.2.1 (.inr (4, [.int (nI p), .int 0, .int (-1), .int 0]))) G.2.1 (.inr (4, [.int (nI p), .int (nI n), .int (-1), .int 0]))).1 = G.1 + 4 := s2
  refine ⟨gUp (gUp G3 G.2.1 (.inr (4, [.int (nI p), .int 0, .int (-1), .int 0]))) G.2.1 (.inr (4, [.int (nI p), .int (nI n), .int (-1), .int 0])), ?_, ?_⟩
  · rw [gFA_of ho rfl rfl]
    unfold gNewO f_MC_init
    dsimp only
    rw [hG1, gPut_of n0 (by decide)]
    rw [show ([.int 0, .int 0, .int 0, .int 0] : List Value).set 2 (.int (-1)) = [.int 0, .int 0, .int (-1), .int 0] from rfl, hG2, bV_rV, gStq_of ((c1 _ lp).trans hp5) h3 (by omega) n1 (by omega), hG3, gFA_of ((c2 _ (fun e => hone e.symm) lo).trans ho) rfl rfl, gLdq_of a2 rfl h3 (by omega) at', gPut_of n2 (by decide)]
    rw [show ([.int 0, .int 0, .int (-1), .int 0] : List Value).set 0 (.int (nI p)) = [.int (nI p), .int 0, .int (-1), .int 0] from rfl, gFA_of ((p2 _ (fun e => hone e.symm) lo).trans ho) rfl rfl, gLdq_of p1 rfl h3 (by omega) at', gPut_of p3 (show 1 < 4 by decide)]
    rfl
  · generalize gUp (gUp G3 G.2.1 (.inr (4, [.int (nI p), .int 0, .int (-1), .int 0]))) G.2.1 (.inr (4, [.int (nI p), .int (nI n), .int (-1), .int 0])) = G' at r1 r2 r3 hsz hwf
    have hsm : gSm (fun z => ∀ n f, z ≠ zQ 105 n f) G G' := fun z x hz hx => (r2 z (fun e => by rw [e, hp5] at hz; exact hx _ _ (Option.some.inj hz).symm) (hw _ _ hz)).trans hz
    have hk : gKeep G G' := fun y hy => by
      rcases hy with ⟨fs, e⟩ | ⟨mm, g, e⟩
      · exact Or.inl ⟨fs, (r2 _ (fun q => by rw [q, hp5] at e; cases e) (hw _ _ e)).trans e⟩
      · exact Or.inr ⟨mm, g, (r2 _ (fun q => by rw [q, hp5] at e; cases e) (hw _ _ e)).trans e⟩
    have hfr : gFr (mOwn G) 1 4 G G' := by
      exact ⟨by omega, by omega, by omega, by omega, fun _ => hwf, fun z hz hn => r2 z (fun e => hn (by rw [e]; exact ⟨_, hp5, Or.inr ⟨_, _, _, rfl, by decide⟩⟩)) hz⟩
    have hS : mSt 1 4 G G' := ⟨hfr, hk⟩
    obtain ⟨k1, k2, k3, k4, k5, k6, k7, k8, k9, k10⟩ := hr
    have hN : mN3 (fun z => ∀ n f, z ≠ zQ 105 n f) := ⟨fun fs n f q => (by cases q), fun c n f hc n' f' q => (by have := (zQ_inj (congrArg some q)).1; omega), fun g n f q => (by cases q)⟩
    refine ⟨⟨hwf, hS.w0 hw hw0, hsm _ _ k1 (fun n f q => by cases q), k2.tr hN hsm hk, fun i hi => (k3 i hi).tr hN hsm hk, hsm _ _ k4 (fun n f q => by have := (zQ_inj (congrArg some q)).1; omega), r1, fun i hi t ht => (k6 i hi t ht).tr hN hsm, fun p hp => (k7 p hp).tr (fun fs n f q => by cases q) hsm, fun c' hc' => ?_, ⟨k9.1, k9.2.1, k9.2.2.1, k9.2.2.2.1, k9.2.2.2.2.put (fun j hj e => ?_)⟩, k10⟩, hS⟩
    · show mCu G' (va_up A.2.2.1 c (some (p, n, -1, 0)) c') (va_up D.2.2.2.2.2 c (some G.2.1) c')
      by_cases e : c' = c
      · rw [e, va_up_self, va_up_self]
        exact ⟨hp, hn, r3⟩
      · rw [va_up_ne _ _ e, va_up_ne _ _ e]
        exact (k8 c' hc').tr (fun fs n f q => by cases q) hsm
    · exact Nat.lt_irrefl _ (hlt.2 j _ hj e)
theorem sim_cursor (hR : CRep σ A) (hI : mInv m A) (x y : Int32) : SimOp w b o A m σ H xIS (f_X_cursor (cPut b σ H) b x y) (fun G => f_M_cursor G o x y) := by
  have hX := CRepx.of (exc := -1) hR
  by_cases hx : mIsL A x
  · have hL := hx
    obtain ⟨p, hp, rfl, hv⟩ := hx
    have hv : mV A p := hv
    have hp6 := hp
    have hW := hI.w p
    have hIt : mInv m (mSet A 0 0) := hI.thr 0
    have hl31 := hI.l31 hv
    by_cases hy : mIsG (mLen A p) y
    · have hy' := hy
      obtain ⟨f, hf, rfl⟩ := hy
      have inF : ∀ G : gH, f_M_isIn G (nI f) (nI 0) (nI (mLen A p)) = rI 1 G := fun G => (s_isIn G (mLen A p) (by omega) _).1 hy'
      have fp := x_freeCursor (b := b) (G := H) hR
      have fm : ∀ (G : gH) (D : mD), MS w o G (mSet A 0 0) D → f_M_freeCursor G o = rI (sNo (sFree (fun c => (A.2.2.1 c).isNone) 0 3)) G := fun G D h => s_freeCursor (A := mSet A 0 0) h
      cases hq : sFree (fun c => (A.2.2.1 c).isNone) 0 3 with
      | none =>
        rw [hq] at fp fm
        refine Sim.no hR hI 2 (by decide) (by decide) ?_ (fun G D h => ?_)
        · unfold f_X_cursor
          simp only [x_needList hX hW hL, (x_needGap hX hW.1 hv (show mLen A p < 100 by omega)).1 hy', fp, c_ob_0, c_fa_0_0, c_fa_0_1, c_fi_0_2, c_put_0_2, c_fi_0_3, c_put_0_3, c_fi_0_4, c_put_0_4, c_ob_1, c_fa_1_0, c_fa_1_1, c_fa_1_2, c_fa_1_3, c_fa_1_4, c_fa_1_5, c_fi_1_6, c_put_1_6, c_ob_2, c_fa_2_0, c_ob_4, c_fa_4_0, c_ob_6, c_fa_6_0, c_ob_8, c_fa_8_0, c_ob_10, c_fa_10_0, c_ob_12, c_fa_12_0, c_ob_14, c_fa_14_0, c_fa_14_1, c_fa_14_2, c_fa_14_3, c_fi_14_4, c_put_14_4, c_ob_15, c_fa_15_0, c_ob_17, c_fa_17_0, c_ob_19, c_fa_19_0, c_ob_21, c_fa_21_0, c_len_0, c_ld_0, c_st_0, c_rd_0, c_wr_0, c_len_1, c_ld_1, c_st_1, c_rd_1, c_wr_1, c_len_2, c_ld_2, c_st_2, c_rd_2, c_wr_2, c_len_3, c_ld_3, c_st_3, c_rd_3, c_wr_3, c_len_4, c_ld_4, c_st_4, c_rd_4, c_wr_4, c_len_5, c_ld_5, c_st_5, c_rd_5, c_wr_5, c_len_6, c_ld_6, c_st_6, c_rd_6, c_wr_6, c_len_7, c_ld_7, c_st_7, c_rd_7, c_wr_7, c_len_8, c_ld_8, c_st_8, c_rd_8, c_wr_8, c_len_9, c_ld_9, c_st_9, c_rd_9, c_wr_9, bI_rI, bL_rL, bA_rA, bV_rV, bI_th, bL_th, bA_th, bV_th, rZ_0, rZ_1]
          rw [show sNo none = -1 from rfl, if_pos rfl]
          rfl
        · obtain ⟨G1, r1, h1, s1⟩ := r_list1 h hL
          obtain ⟨G2, r2, h2, s2⟩ := r_no1 (c := 2) h1 (by decide)
          refine ⟨G2, ?_, h2, (s1.trans s2).mono (by omega) (by omega)⟩
          unfold f_M_cursor
          rw [r1, gOb_of h1.2.2.1 rfl, s_len h1 hW.1 hv, bI_rI, show f_M_isIn G1 (nI f) (nI 0) (nI (mLen (mSet A 0 0) p)) = _ from inF G1, bI_rI, if_neg (by decide), r_ref0 h1 rfl, gOb_of h1.2.2.1 rfl, fm G1 D h1, bI_rI, show sNo none = -1 from rfl, if_pos rfl, r2]
          rfl
      | some c =>
        rw [hq] at fp fm
        obtain ⟨q1, -, q3⟩ := sFree_some _ _ _ hq
        have hcn : A.2.2.1 c = none := Option.isNone_iff_eq_none.mp q1
        have hne : ¬ nI c = -1 := nI_ne1 (by omega)
        obtain ⟨σ', y1, y2⟩ := x_start (b := b) (G := H) (c := c) (i := p) (n := f) hR (by omega)
        refine Sim.yes (nI c) σ' ?_ (fun G D h => ?_)
        · unfold f_X_cursor
          simp only [x_needList hX hW hL, (x_needGap hX hW.1 hv (show mLen A p < 100 by omega)).1 hy', fp, c_ob_0, c_fa_0_0, c_fa_0_1, c_fi_0_2, c_put_0_2, c_fi_0_3, c_put_0_3, c_fi_0_4, c_put_0_4, c_ob_1, c_fa_1_0, c_fa_1_1, c_fa_1_2, c_fa_1_3, c_fa_1_4, c_fa_1_5, c_fi_1_6, c_put_1_6, c_ob_2, c_fa_2_0, c_ob_4, c_fa_4_0, c_ob_6, c_fa_6_0, c_ob_8, c_fa_8_0, c_ob_10, c_fa_10_0, c_ob_12, c_fa_12_0, c_ob_14, c_fa_14_0, c_fa_14_1, c_fa_14_2, c_fa_14_3, c_fi_14_4, c_put_14_4, c_ob_15, c_fa_15_0, c_ob_17, c_fa_17_0, c_ob_19, c_fa_19_0, c_ob_21, c_fa_21_0, c_len_0, c_ld_0, c_st_0, c_rd_0, c_wr_0, c_len_1, c_ld_1, c_st_1, c_rd_1, c_wr_1, c_len_2, c_ld_2, c_st_2, c_rd_2, c_wr_2, c_len_3, c_ld_3, c_st_3, c_rd_3, c_wr_3, c_len_4, c_ld_4, c_st_4, c_rd_4, c_wr_4, c_len_5, c_ld_5, c_st_5, c_rd_5, c_wr_5, c_len_6, c_ld_6, c_st_6, c_rd_6, c_wr_6, c_len_7, c_ld_7, c_st_7, c_rd_7, c_wr_7, c_len_8, c_ld_8, c_st_8, c_rd_8, c_wr_8, c_len_9, c_ld_9, c_st_9, c_rd_9, c_wr_9, bI_rI, bL_rL, bA_rA, bV_rV, bI_th, bL_th, bA_th, bV_th, rZ_0, rZ_1]
          rw [show sNo (some c) = nI c from rfl, if_neg hne, y1, bV_rV]
        · obtain ⟨G1, r1, h1, s1⟩ := r_list1 h hL
          obtain ⟨G2, r2, h2, s2⟩ := s_newC (c := c) (p := p) (n := f) h1 (by omega) hcn hp6 (by omega)
          refine ⟨_, _, G2, m, ?_, h2, (CRepx.of (exc := -1) y2).thr 0, hIt.setC (by omega) ⟨hp6, hv, Or.inl ⟨rfl, hf, Or.inl rfl⟩⟩, Nat.le_succ m, rfl, (s1.trans s2).mono (by omega) (by omega)⟩
          unfold f_M_cursor
          rw [r1, gOb_of h1.2.2.1 rfl, s_len h1 hW.1 hv, bI_rI, show f_M_isIn G1 (nI f) (nI 0) (nI (mLen (mSet A 0 0) p)) = _ from inF G1, bI_rI, if_neg (by decide), r_ref0 h1 rfl, gOb_of h1.2.2.1 rfl, fm G1 D h1, bI_rI, show sNo (some c) = nI c from rfl, if_neg hne, r_ref0 h1 rfl, gOb_of h1.2.2.1 rfl, fm G1 D h1, bI_rI]
          exact r2
    · refine Sim.no hR hI 1 (by decide) (by decide) ?_ (fun G D h => ?_)
      · unfold f_X_cursor
        simp only [x_needList hX hW hL, (x_needGap hX hW.1 hv (show mLen A p < 100 by omega)).2 hy, c_ob_0, c_fa_0_0, c_fa_0_1, c_fi_0_2, c_put_0_2, c_fi_0_3, c_put_0_3, c_fi_0_4, c_put_0_4, c_ob_1, c_fa_1_0, c_fa_1_1, c_fa_1_2, c_fa_1_3, c_fa_1_4, c_fa_1_5, c_fi_1_6, c_put_1_6, c_ob_2, c_fa_2_0, c_ob_4, c_fa_4_0, c_ob_6, c_fa_6_0, c_ob_8, c_fa_8_0, c_ob_10, c_fa_10_0, c_ob_12, c_fa_12_0, c_ob_14, c_fa_14_0, c_fa_14_1, c_fa_14_2, c_fa_14_3, c_fi_14_4, c_put_14_4, c_ob_15, c_fa_15_0, c_ob_17, c_fa_17_0, c_ob_19, c_fa_19_0, c_ob_21, c_fa_21_0, c_len_0, c_ld_0, c_st_0, c_rd_0, c_wr_0, c_len_1, c_ld_1, c_st_1, c_rd_1, c_wr_1, c_len_2, c_ld_2, c_st_2, c_rd_2, c_wr_2, c_len_3, c_ld_3, c_st_3, c_rd_3, c_wr_3, c_len_4, c_ld_4, c_st_4, c_rd_4, c_wr_4, c_len_5, c_ld_5, c_st_5, c_rd_5, c_wr_5, c_len_6, c_ld_6, c_st_6, c_rd_6, c_wr_6, c_len_7, c_ld_7, c_st_7, c_rd_7, c_wr_7, c_len_8, c_ld_8, c_st_8, c_rd_8, c_wr_8, c_len_9, c_ld_9, c_st_9, c_rd_9, c_wr_9, bI_rI, bL_rL, bA_rA, bV_rV, bI_th, bL_th, bA_th, bV_th, rZ_0, rZ_1]
        rfl
      · obtain ⟨G1, r1, h1, s1⟩ := r_list1 h hL
        obtain ⟨G2, r2, h2, s2⟩ := r_no1 (c := 1) h1 (by decide)
        refine ⟨G2, ?_, h2, (s1.trans s2).mono (by omega) (by omega)⟩
        unfold f_M_cursor
        rw [r1, gOb_of h1.2.2.1 rfl, s_len h1 hW.1 hv, bI_rI, show f_M_isIn G1 y (nI 0) (nI (mLen (mSet A 0 0) p)) = rI 0 G1 from (s_isIn G1 (mLen A p) (by omega) _).2 hy, bI_rI, if_pos rfl, r2]
        rfl
  · refine Sim.no hR hI 1 (by decide) (by decide) ?_ (fun G D h => ?_)
    · unfold f_X_cursor
      simp only [x_needList_no hX (hI.w 0) hx, c_ob_0, c_fa_0_0, c_fa_0_1, c_fi_0_2, c_put_0_2, c_fi_0_3, c_put_0_3, c_fi_0_4, c_put_0_4, c_ob_1, c_fa_1_0, c_fa_1_1, c_fa_1_2, c_fa_1_3, c_fa_1_4, c_fa_1_5, c_fi_1_6, c_put_1_6, c_ob_2, c_fa_2_0, c_ob_4, c_fa_4_0, c_ob_6, c_fa_6_0, c_ob_8, c_fa_8_0, c_ob_10, c_fa_10_0, c_ob_12, c_fa_12_0, c_ob_14, c_fa_14_0, c_fa_14_1, c_fa_14_2, c_fa_14_3, c_fi_14_4, c_put_14_4, c_ob_15, c_fa_15_0, c_ob_17, c_fa_17_0, c_ob_19, c_fa_19_0, c_ob_21, c_fa_21_0, c_len_0, c_ld_0, c_st_0, c_rd_0, c_wr_0, c_len_1, c_ld_1, c_st_1, c_rd_1, c_wr_1, c_len_2, c_ld_2, c_st_2, c_rd_2, c_wr_2, c_len_3, c_ld_3, c_st_3, c_rd_3, c_wr_3, c_len_4, c_ld_4, c_st_4, c_rd_4, c_wr_4, c_len_5, c_ld_5, c_st_5, c_rd_5, c_wr_5, c_len_6, c_ld_6, c_st_6, c_rd_6, c_wr_6, c_len_7, c_ld_7, c_st_7, c_rd_7, c_wr_7, c_len_8, c_ld_8, c_st_8, c_rd_8, c_wr_8, c_len_9, c_ld_9, c_st_9, c_rd_9, c_wr_9, bI_rI, bL_rL, bA_rA, bV_rV, bI_th, bL_th, bA_th, bV_th, rZ_0, rZ_1]
      rfl
    · obtain ⟨G1, r1, h1, s1⟩ := r_list0 h hx
      refine ⟨G1, ?_, h1, s1⟩
      unfold f_M_cursor
      rw [r1]
      rfl
/-- the fields of a cursor, read and written -/
theorem s_fi {G : gH} {D : mD} (h : MS w o G A D) {c q : Nat} {x : Nat × Nat × Int32 × Int32} (hc : c < 3) (hx : A.2.2.1 c = some x) (hq : D.2.2.2.2.2 c = some q) :
    (∀ k : Int32 → gR, gFI G q 4 0 k = k (nI x.1)) ∧ (∀ k : Int32 → gR, gFI G q 4 1 k = k (nI x.2.1)) ∧ (∀ k : Int32 → gR, gFI G q 4 2 k = k x.2.2.1) ∧ (∀ k : Int32 → gR, gFI G q 4 3 k = k x.2.2.2) := by
  obtain ⟨q', e1, e2, e3, e4⟩ := s_curq h hc hx
  cases e1.symm.trans hq
  exact ⟨fun k => gFI_of e4 rfl rfl, fun k => gFI_of e4 rfl rfl, fun k => gFI_of e4 rfl rfl, fun k => gFI_of e4 rfl rfl⟩
theorem s_put1 {G : gH} {D : mD} (h : MS w o G A D) {c q n : Nat} {x : Nat × Nat × Int32 × Int32} (hc : c < 3) (hx : A.2.2.1 c = some x) (hq : D.2.2.2.2.2 c = some q) (hn : n < 100) :
    ∃ G', (∀ k : gH → gR, gPut G q 4 1 (.int (nI n)) k = k G') ∧ MS w o G' (mSetC A c (x.1, n, x.2.2)) D ∧ mSt 0 0 G G' := by
  obtain ⟨q', e1, e2, e3, e4⟩ := s_curq h hc hx
  cases e1.symm.trans hq
  obtain ⟨a1, a2⟩ := h.putC (y := (x.1, n, x.2.2)) hc hx hq e2 hn
  exact ⟨_, fun k => gPut_of e4 (by decide : 1 < 4), a1, a2.st⟩
theorem s_put2 {G : gH} {D : mD} (h : MS w o G A D) {c q : Nat} {v : Int32} {x : Nat × Nat × Int32 × Int32} (hc : c < 3) (hx : A.2.2.1 c = some x) (hq : D.2.2.2.2.2 c = some q) :
    ∃ G', (∀ k : gH → gR, gPut G q 4 2 (.int v) k = k G') ∧ MS w o G' (mSetC A c (x.1, x.2.1, v, x.2.2.2)) D ∧ mSt 0 0 G G' := by
  obtain ⟨q', e1, e2, e3, e4⟩ := s_curq h hc hx
  cases e1.symm.trans hq
  obtain ⟨a1, a2⟩ := h.putC (y := (x.1, x.2.1, v, x.2.2.2)) hc hx hq e2 e3
  exact ⟨_, fun k => gPut_of e4 (by decide : 2 < 4), a1, a2.st⟩
theorem x_fail (hX : CRepx (-1) σ A) (v : Int32) : f_X_failWith (cPut b σ H) b v = rI v (cPut b (cSetI σ 3 (A.2.2.2 4 + nI 1)) H) ∧ CRepx (-1) (cSetI σ 3 (A.2.2.2 4 + nI 1)) (mSet A 4 (A.2.2.2 4 + nI 1)) := by
  have e : σ.2 3 = A.2.2.2 4 := hX.2.2.2.2.2.2.2.2.2.1
  refine ⟨?_, hX.int (Or.inr (Or.inl ⟨rfl, rfl⟩))⟩
  unfold f_X_failWith
  simp only [c_ob_0, c_fa_0_0, c_fa_0_1, c_fi_0_2, c_put_0_2, c_fi_0_3, c_put_0_3, c_fi_0_4, c_put_0_4, c_ob_1, c_fa_1_0, c_fa_1_1, c_fa_1_2, c_fa_1_3, c_fa_1_4, c_fa_1_5, c_fi_1_6, c_put_1_6, c_ob_2, c_fa_2_0, c_ob_4, c_fa_4_0, c_ob_6, c_fa_6_0, c_ob_8, c_fa_8_0, c_ob_10, c_fa_10_0, c_ob_12, c_fa_12_0, c_ob_14, c_fa_14_0, c_fa_14_1, c_fa_14_2, c_fa_14_3, c_fi_14_4, c_put_14_4, c_ob_15, c_fa_15_0, c_ob_17, c_fa_17_0, c_ob_19, c_fa_19_0, c_ob_21, c_fa_21_0, c_len_0, c_ld_0, c_st_0, c_rd_0, c_wr_0, c_len_1, c_ld_1, c_st_1, c_rd_1, c_wr_1, c_len_2, c_ld_2, c_st_2, c_rd_2, c_wr_2, c_len_3, c_ld_3, c_st_3, c_rd_3, c_wr_3, c_len_4, c_ld_4, c_st_4, c_rd_4, c_wr_4, c_len_5, c_ld_5, c_st_5, c_rd_5, c_wr_5, c_len_6, c_ld_6, c_st_6, c_rd_6, c_wr_6, c_len_7, c_ld_7, c_st_7, c_rd_7, c_wr_7, c_len_8, c_ld_8, c_st_8, c_rd_8, c_wr_8, c_len_9, c_ld_9, c_st_9, c_rd_9, c_wr_9, bI_rI, bL_rL, bA_rA, bV_rV, bI_th, bL_th, bA_th, bV_th, rZ_0, rZ_1, e]
theorem stale_of (hI : mInv m A) {c : Nat} {x : Nat × Nat × Int32 × Int32} (hx : A.2.2.1 c = some x) (h : ¬ x.2.2.2 = 0) : x.2.2.2 = nI 1 := by
  rcases (hI.2.2.2.1 c x hx).2.2.2 with ⟨z, -⟩ | ⟨z, -⟩
  · exact absurd z h
  · exact z
/-- it can't do that: a fault on both sides -/
theorem sim_fault {E : Nat × (Nat → String)} {F : gR} {R : gH → gR} (hR : CRep σ A) (hI : mInv m A) (v : Int32) (hF : F = f_X_failWith (cPut b σ H) b v) (hM : ∀ (G : gH) (D : mD), MS w o G A D → ∃ G1, R G = f_M_fault G1 o v ∧ MS w o G1 (mSet A 0 0) D ∧ mSt 0 0 G G1) : SimOp w b o A m σ H E F R := by
  obtain ⟨y1, y2⟩ := x_fail (b := b) (H := H) ((CRepx.of (exc := -1) hR).thr 0) v
  refine Sim.yes v _ (hF.trans y1) (fun G D h => ?_)
  obtain ⟨G1, r1, h1, s1⟩ := hM G D h
  obtain ⟨G2, r2, h2, s2⟩ := s_fault h1 v
  exact ⟨_, D, G2, m, r1.trans r2, h2, y2, hI, Nat.le_succ m, rfl, (s1.trans s2).mono (by omega) (by omega)⟩
theorem sim_next (hR : CRep σ A) (hI : mInv m A) (x : Int32) : SimOp w b o A m σ H xI1 (f_X_next (cPut b σ H) b x) (fun G => f_M_next G o x) := by
  have hX := CRepx.of (exc := -1) hR
  by_cases hx : mIsC A x
  · have hC := hx
    obtain ⟨c, hc3, rfl, hcn⟩ := hx
    cases hcx : A.2.2.1 c with
    | none => exact absurd hcx hcn
    | some y =>
      have hIt : mInv m (mSet A 0 0) := hI.thr 0
      obtain ⟨-, hy6, hv, hok⟩ := hI.2.2.2.1 c y hcx
      have hl31 := hI.l31 hv
      have hW := hI.w y.1
      obtain ⟨r, s, hr, hr2, hfit, h31, -, -⟩ := hI.pl hv
      have hq0 : ∀ (G : gH) (D : mD), MS w o G A D → ∃ q, D.2.2.2.2.2 c = some q := fun G D h => by
        obtain ⟨q, e, -⟩ := s_curq h hc3 hcx
        exact ⟨q, e⟩
      by_cases hs : y.2.2.2 = 0
      · rcases hok with ⟨-, hn, -⟩ | ⟨hs1, -⟩
        · by_cases he : y.2.1 < mLen A y.1
          · have ht := List.getElem?_eq_getElem (show s + y.2.1 < (A.1 r).length by omega)
            generalize (A.1 r)[s + y.2.1] = t at ht
            have hto := (hI.2.2.1 r hr2).2 t (List.mem_of_getElem? ht)
            have h600 := hI.2.2.2.2.2
            have hXs := CRepx.setC (y := (y.1, y.2.1 + 1, nI y.2.1, y.2.2.2)) (A := mSet A 0 0) (hX.thr 0) hcx rfl rfl
            have hIs : mInv m (mSetC (mSet A 0 0) c (y.1, y.2.1 + 1, nI y.2.1, y.2.2.2)) := hIt.setC hc3 ⟨hy6, hv, Or.inl ⟨hs, he, Or.inr ⟨y.2.1, he, rfl⟩⟩⟩
            obtain ⟨σ', y1, y2⟩ := x_stand (b := b) (G := H) hXs hc3 mSetC_at
            have y1' : f_U_stand (cPut b σ H) (b + 14) (nI c) (nI (y.2.1 + 1)) (nI y.2.1) = rV (cPut b σ' H) := y1
            have x1 : f_I_thingAt (cPut b σ' H) (b + 1) (nI y.1) (nI y.2.1) = rI (nI (32 * t.2.2 + t.2.1)) (cPut b σ' H) := x_at (CRepx.of (exc := -1) y2) (hIs.w y.1) hv hr ht
            refine Sim.yes (nI t.2.2) σ' ?_ (fun G D h => ?_)
            · unfold f_X_next
              simp only [(x_needCursor hR).1 hC, x_isStale hR hc3 hcx, x_listOf hR hc3 hcx, x_nextOf hR hc3 hcx, x_len hX hW.1 hv, c_ob_0, c_fa_0_0, c_fa_0_1, c_fi_0_2, c_put_0_2, c_fi_0_3, c_put_0_3, c_fi_0_4, c_put_0_4, c_ob_1, c_fa_1_0, c_fa_1_1, c_fa_1_2, c_fa_1_3, c_fa_1_4, c_fa_1_5, c_fi_1_6, c_put_1_6, c_ob_2, c_fa_2_0, c_ob_4, c_fa_4_0, c_ob_6, c_fa_6_0, c_ob_8, c_fa_8_0, c_ob_10, c_fa_10_0, c_ob_12, c_fa_12_0, c_ob_14, c_fa_14_0, c_fa_14_1, c_fa_14_2, c_fa_14_3, c_fi_14_4, c_put_14_4, c_ob_15, c_fa_15_0, c_ob_17, c_fa_17_0, c_ob_19, c_fa_19_0, c_ob_21, c_fa_21_0, c_len_0, c_ld_0, c_st_0, c_rd_0, c_wr_0, c_len_1, c_ld_1, c_st_1, c_rd_1, c_wr_1, c_len_2, c_ld_2, c_st_2, c_rd_2, c_wr_2, c_len_3, c_ld_3, c_st_3, c_rd_3, c_wr_3, c_len_4, c_ld_4, c_st_4, c_rd_4, c_wr_4, c_len_5, c_ld_5, c_st_5, c_rd_5, c_wr_5, c_len_6, c_ld_6, c_st_6, c_rd_6, c_wr_6, c_len_7, c_ld_7, c_st_7, c_rd_7, c_wr_7, c_len_8, c_ld_8, c_st_8, c_rd_8, c_wr_8, c_len_9, c_ld_9, c_st_9, c_rd_9, c_wr_9, bI_rI, bL_rL, bA_rA, bV_rV, bI_th, bL_th, bA_th, bV_th, rZ_0, rZ_1]
              rw [mB_if, if_neg (by simp [hs]), if_pos (nI_lt he (by omega)), nI_add]
              simp only [y1', x1, x_tagOf (show t.2.1 < 32 by have := hto.1; omega) (show t.2.2 ≤ 1000 by have := hto.2; omega), c_ob_0, c_fa_0_0, c_fa_0_1, c_fi_0_2, c_put_0_2, c_fi_0_3, c_put_0_3, c_fi_0_4, c_put_0_4, c_ob_1, c_fa_1_0, c_fa_1_1, c_fa_1_2, c_fa_1_3, c_fa_1_4, c_fa_1_5, c_fi_1_6, c_put_1_6, c_ob_2, c_fa_2_0, c_ob_4, c_fa_4_0, c_ob_6, c_fa_6_0, c_ob_8, c_fa_8_0, c_ob_10, c_fa_10_0, c_ob_12, c_fa_12_0, c_ob_14, c_fa_14_0, c_fa_14_1, c_fa_14_2, c_fa_14_3, c_fi_14_4, c_put_14_4, c_ob_15, c_fa_15_0, c_ob_17, c_fa_17_0, c_ob_19, c_fa_19_0, c_ob_21, c_fa_21_0, c_len_0, c_ld_0, c_st_0, c_rd_0, c_wr_0, c_len_1, c_ld_1, c_st_1, c_rd_1, c_wr_1, c_len_2, c_ld_2, c_st_2, c_rd_2, c_wr_2, c_len_3, c_ld_3, c_st_3, c_rd_3, c_wr_3, c_len_4, c_ld_4, c_st_4, c_rd_4, c_wr_4, c_len_5, c_ld_5, c_st_5, c_rd_5, c_wr_5, c_len_6, c_ld_6, c_st_6, c_rd_6, c_wr_6, c_len_7, c_ld_7, c_st_7, c_rd_7, c_wr_7, c_len_8, c_ld_8, c_st_8, c_rd_8, c_wr_8, c_len_9, c_ld_9, c_st_9, c_rd_9, c_wr_9, bI_rI, bL_rL, bA_rA, bV_rV, bI_th, bL_th, bA_th, bV_th, rZ_0, rZ_1]
            · obtain ⟨G1, r1, h1, s1⟩ := r_cur1 h hC
              obtain ⟨q, hq⟩ := hq0 G D h
              obtain ⟨f0, f1, f2, f3⟩ := s_fi h1 hc3 hcx hq
              obtain ⟨G2, r2, h2, s2⟩ := s_put2 (v := nI y.2.1) h1 hc3 hcx hq
              obtain ⟨g0, g1, g2, g3⟩ := s_fi h2 hc3 mSetC_at hq
              obtain ⟨G3, r3, h3, s3⟩ := s_put1 (n := y.2.1 + 1) h2 hc3 mSetC_at hq (by omega)
              rw [mSetC_mSetC] at h3
              have h3' : MS w o G3 (mSetC (mSet A 0 0) c (y.1, y.2.1 + 1, nI y.2.1, y.2.2.2)) D := h3
              obtain ⟨k0, k1, k2, k3⟩ := s_fi h3' hc3 mSetC_at hq
              refine ⟨_, D, G3, m, ?_, h3', y2, hIs, Nat.le_succ m, rfl, ((s1.trans s2).trans s3).mono (by omega) (by omega)⟩
              unfold f_M_next
              rw [r1, s_ldC h1 hc3 hq, f3, if_pos hs, f1, f0, gOb_of h1.2.2.1 rfl, s_len h1 hW.1 hv, bI_rI, if_neg (fun z => absurd (nI_eq31 (by omega) (by have : mLen (mSet A 0 0) y.1 ≤ 31 := hl31; omega) z) (by have : y.2.1 < mLen (mSet A 0 0) y.1 := he; omega)), f1, r2, g1, nI_add, r3, k0, k2, gOb_of h3'.2.2.1 rfl, s_at h3' hIs.1 hv hr ht, bA_rA, (s_th h3' hr2 ht).tag]
          · have he' : y.2.1 = mLen A y.1 := by omega
            refine sim_fault hR hI (-8) ?_ (fun G D h => ?_)
            · unfold f_X_next
              simp only [(x_needCursor hR).1 hC, x_isStale hR hc3 hcx, x_listOf hR hc3 hcx, x_nextOf hR hc3 hcx, x_len hX hW.1 hv, c_ob_0, c_fa_0_0, c_fa_0_1, c_fi_0_2, c_put_0_2, c_fi_0_3, c_put_0_3, c_fi_0_4, c_put_0_4, c_ob_1, c_fa_1_0, c_fa_1_1, c_fa_1_2, c_fa_1_3, c_fa_1_4, c_fa_1_5, c_fi_1_6, c_put_1_6, c_ob_2, c_fa_2_0, c_ob_4, c_fa_4_0, c_ob_6, c_fa_6_0, c_ob_8, c_fa_8_0, c_ob_10, c_fa_10_0, c_ob_12, c_fa_12_0, c_ob_14, c_fa_14_0, c_fa_14_1, c_fa_14_2, c_fa_14_3, c_fi_14_4, c_put_14_4, c_ob_15, c_fa_15_0, c_ob_17, c_fa_17_0, c_ob_19, c_fa_19_0, c_ob_21, c_fa_21_0, c_len_0, c_ld_0, c_st_0, c_rd_0, c_wr_0, c_len_1, c_ld_1, c_st_1, c_rd_1, c_wr_1, c_len_2, c_ld_2, c_st_2, c_rd_2, c_wr_2, c_len_3, c_ld_3, c_st_3, c_rd_3, c_wr_3, c_len_4, c_ld_4, c_st_4, c_rd_4, c_wr_4, c_len_5, c_ld_5, c_st_5, c_rd_5, c_wr_5, c_len_6, c_ld_6, c_st_6, c_rd_6, c_wr_6, c_len_7, c_ld_7, c_st_7, c_rd_7, c_wr_7, c_len_8, c_ld_8, c_st_8, c_rd_8, c_wr_8, c_len_9, c_ld_9, c_st_9, c_rd_9, c_wr_9, bI_rI, bL_rL, bA_rA, bV_rV, bI_th, bL_th, bA_th, bV_th, rZ_0, rZ_1]
              rw [mB_if, if_neg (by simp [hs]), if_neg (nI_nlt (by omega) (by omega))]
              rw [(x_fail (b := b) (H := H) hX (-8)).1, bI_rI]
            · obtain ⟨G1, r1, h1, s1⟩ := r_cur1 h hC
              obtain ⟨q, hq⟩ := hq0 G D h
              obtain ⟨f0, f1, f2, f3⟩ := s_fi h1 hc3 hcx hq
              obtain ⟨G2, r2, h2, s2⟩ := s_fault h1 (-8)
              refine ⟨G1, ?_, h1, s1⟩
              show f_M_next G o (nI c) = _
              unfold f_M_next
              rw [r1, s_ldC h1 hc3 hq, f3, if_pos hs, f1, f0, gOb_of h1.2.2.1 rfl, s_len h1 hW.1 hv, bI_rI, if_pos (by rw [he']; rfl), gOb_of h1.2.2.1 rfl, r2, bI_rI]
        · exact absurd (hs1.symm.trans hs) (by decide)
      · refine sim_fault hR hI (-9) ?_ (fun G D h => ?_)
        · unfold f_X_next
          simp only [(x_needCursor hR).1 hC, x_isStale hR hc3 hcx, c_ob_0, c_fa_0_0, c_fa_0_1, c_fi_0_2, c_put_0_2, c_fi_0_3, c_put_0_3, c_fi_0_4, c_put_0_4, c_ob_1, c_fa_1_0, c_fa_1_1, c_fa_1_2, c_fa_1_3, c_fa_1_4, c_fa_1_5, c_fi_1_6, c_put_1_6, c_ob_2, c_fa_2_0, c_ob_4, c_fa_4_0, c_ob_6, c_fa_6_0, c_ob_8, c_fa_8_0, c_ob_10, c_fa_10_0, c_ob_12, c_fa_12_0, c_ob_14, c_fa_14_0, c_fa_14_1, c_fa_14_2, c_fa_14_3, c_fi_14_4, c_put_14_4, c_ob_15, c_fa_15_0, c_ob_17, c_fa_17_0, c_ob_19, c_fa_19_0, c_ob_21, c_fa_21_0, c_len_0, c_ld_0, c_st_0, c_rd_0, c_wr_0, c_len_1, c_ld_1, c_st_1, c_rd_1, c_wr_1, c_len_2, c_ld_2, c_st_2, c_rd_2, c_wr_2, c_len_3, c_ld_3, c_st_3, c_rd_3, c_wr_3, c_len_4, c_ld_4, c_st_4, c_rd_4, c_wr_4, c_len_5, c_ld_5, c_st_5, c_rd_5, c_wr_5, c_len_6, c_ld_6, c_st_6, c_rd_6, c_wr_6, c_len_7, c_ld_7, c_st_7, c_rd_7, c_wr_7, c_len_8, c_ld_8, c_st_8, c_rd_8, c_wr_8, c_len_9, c_ld_9, c_st_9, c_rd_9, c_wr_9, bI_rI, bL_rL, bA_rA, bV_rV, bI_th, bL_th, bA_th, bV_th, rZ_0, rZ_1]
          rw [mB_if, if_pos (by simp [hs])]
          rw [(x_fail (b := b) (H := H) hX (-9)).1, bI_rI]
        · obtain ⟨G1, r1, h1, s1⟩ := r_cur1 h hC
          obtain ⟨q, hq⟩ := hq0 G D h
          obtain ⟨f0, f1, f2, f3⟩ := s_fi h1 hc3 hcx hq
          obtain ⟨G2, r2, h2, s2⟩ := s_fault h1 (-9)
          refine ⟨G1, ?_, h1, s1⟩
          show f_M_next G o (nI c) = _
          unfold f_M_next
          rw [r1, s_ldC h1 hc3 hq, f3, if_neg hs, gOb_of h1.2.2.1 rfl, r2, bI_rI]
  · refine Sim.no hR hI 1 (by decide) (by decide) ?_ (fun G D h => ?_)
    · unfold f_X_next
      simp only [(x_needCursor hR).2 hx, c_ob_0, c_fa_0_0, c_fa_0_1, c_fi_0_2, c_put_0_2, c_fi_0_3, c_put_0_3, c_fi_0_4, c_put_0_4, c_ob_1, c_fa_1_0, c_fa_1_1, c_fa_1_2, c_fa_1_3, c_fa_1_4, c_fa_1_5, c_fi_1_6, c_put_1_6, c_ob_2, c_fa_2_0, c_ob_4, c_fa_4_0, c_ob_6, c_fa_6_0, c_ob_8, c_fa_8_0, c_ob_10, c_fa_10_0, c_ob_12, c_fa_12_0, c_ob_14, c_fa_14_0, c_fa_14_1, c_fa_14_2, c_fa_14_3, c_fi_14_4, c_put_14_4, c_ob_15, c_fa_15_0, c_ob_17, c_fa_17_0, c_ob_19, c_fa_19_0, c_ob_21, c_fa_21_0, c_len_0, c_ld_0, c_st_0, c_rd_0, c_wr_0, c_len_1, c_ld_1, c_st_1, c_rd_1, c_wr_1, c_len_2, c_ld_2, c_st_2, c_rd_2, c_wr_2, c_len_3, c_ld_3, c_st_3, c_rd_3, c_wr_3, c_len_4, c_ld_4, c_st_4, c_rd_4, c_wr_4, c_len_5, c_ld_5, c_st_5, c_rd_5, c_wr_5, c_len_6, c_ld_6, c_st_6, c_rd_6, c_wr_6, c_len_7, c_ld_7, c_st_7, c_rd_7, c_wr_7, c_len_8, c_ld_8, c_st_8, c_rd_8, c_wr_8, c_len_9, c_ld_9, c_st_9, c_rd_9, c_wr_9, bI_rI, bL_rL, bA_rA, bV_rV, bI_th, bL_th, bA_th, bV_th, rZ_0, rZ_1]
      rfl
    · obtain ⟨G1, r1, h1, s1⟩ := r_cur0 h hx
      refine ⟨G1, ?_, h1, s1⟩
      unfold f_M_next
      rw [r1]
      rfl
end Csr
end
section
-- previous, put, drop, insert
section Keep4
/-- an object of a cursor's class at q, whose first field is v -/
def kC (q : Nat) (v : Value) (G : gH) : Prop := ∃ fs, G.2.2 q = some (.inr (4, fs)) ∧ fs[0]? = some v
def kP (q : Nat) (v : Value) (r : gR) : Prop := ∀ z G', r = some (z, G') → kC q v G'
variable {q : Nat} {v : Value} {G : gH}
theorem kP_none : kP q v none := fun _ _ h => by cases h
theorem kP_ob {a ci : Nat} {k : List Value → gR} (h : ∀ fs, kP q v (k fs)) : kP q v (gOb G a ci k) := by
  unfold gOb
  split
  · split
    · exact h _
    · exact kP_none
  · exact kP_none
theorem kP_fa {a ci j : Nat} {k : Nat → gR} (h : ∀ x, kP q v (k x)) : kP q v (gFA G a ci j k) := by
  unfold gFA
  refine kP_ob fun fs => ?_
  split
  · exact h _
  · exact kP_none
theorem kP_fi {a ci j : Nat} {k : Int32 → gR} (h : ∀ x, kP q v (k x)) : kP q v (gFI G a ci j k) := by
  unfold gFI
  refine kP_ob fun fs => ?_
  split
  · exact h _
  · exact kP_none
theorem kP_ldq {a ka : Nat} {i : Int32} {k0 : gR} {k1 : Nat → gR} (h0 : kP q v k0) (h1 : ∀ x, kP q v (k1 x)) : kP q v (gLdq G a ka i k0 k1) := by
  unfold gLdq gAq
  split
  · split
    · dsimp only
      split
      · split
        · exact h0
        · exact h1 _
      · exact kP_none
    · exact kP_none
  · exact kP_none
theorem kP_put {a ci j : Nat} {x : Value} {k : gH → gR} (h : kC q v G) (hc : ci ≠ 4 ∨ j ≠ 0) (hk : ∀ G', kC q v G' → kP q v (k G')) : kP q v (gPut G a ci j x k) := by
  unfold gPut gObW
  split
  · rename_i c fs he
    split
    · rename_i hci
      dsimp only
      split
      · refine hk _ ?_
        obtain ⟨f0, z1, z2⟩ := h
        by_cases e : q = a
        · subst e
          rw [z1] at he
          cases he
          refine ⟨_, by rw [← hci]; exact gUp_at, ?_⟩
          rcases hc with w | w
          · exact absurd hci.symm w
          · rw [List.getElem?_set_ne (by omega)]; exact z2
        · exact ⟨f0, by rw [gUp_ne e]; exact z1, z2⟩
      · exact kP_none
    · exact kP_none
  · exact kP_none
theorem kP_stn {a ka : Nat} {i : Int32} {k : gH → gR} (h : kC q v G) (hk : ∀ G', kC q v G' → kP q v (k G')) : kP q v (gStN G a ka i k) := by
  unfold gStN gAqW
  split
  · rename_i c n f he
    split
    · dsimp only
      split
      · refine hk _ ?_
        obtain ⟨f0, z1, z2⟩ := h
        have e : q ≠ a := fun e => by rw [← e, z1] at he; cases he
        exact ⟨f0, by rw [gUp_ne e]; exact z1, z2⟩
      · exact kP_none
    · exact kP_none
  · exact kP_none
theorem kP_bI {r : gR} {k : Int32 → gH → gR} (h : kP q v r) (hk : ∀ x G', kC q v G' → kP q v (k x G')) : kP q v (bI r k) := by
  unfold bI
  split
  · exact hk _ _ (h _ _ rfl)
  · intro z G' e
    cases e
    exact h _ _ rfl
  · exact kP_none
theorem kP_bV {r : gR} {k : gH → gR} (h : kP q v r) (hk : ∀ G', kC q v G' → kP q v (k G')) : kP q v (bV r k) := by
  unfold bV
  split
  · exact hk _ (h _ _ rfl)
  · intro z G' e
    cases e
    exact h _ _ rfl
  · exact kP_none
theorem kP_rI {x : Int32} (h : kC q v G) : kP q v (rI x G) := fun _ _ e => by cases e; exact h
theorem kP_rV (h : kC q v G) : kP q v (rV G) := fun _ _ e => by cases e; exact h
theorem kP_rZ {x : Int32} (h : kC q v G) : kP q v (rZ x G) := by
  unfold rZ
  split
  · intro _ _ e
    cases e; exact h
  · exact kP_none
theorem kp_rowOf : ∀ (d : Nat) (G : gH) (a : Nat) (x : Int32), kC q v G → kP q v (f_M_rowOf d G a x)
  | 0, _, _, _, _ => kP_none
  | d + 1, G, a, x, h => by
    unfold f_M_rowOf f_M_rowOf_B
    split
    · exact kP_fa fun _ => kP_ldq kP_none fun _ => kP_fi fun _ => kP_ob fun _ => kP_bI (kp_rowOf d G a _ h) fun _ _ h => kP_rI h
    · exact kP_rI h
theorem kp_isAbove : ∀ (d : Nat) (G : gH) (a : Nat) (x y : Int32), kC q v G → kP q v (f_M_isAbove d G a x y)
  | 0, _, _, _, _, _ => kP_none
  | d + 1, G, a, x, y, h => by
    unfold f_M_isAbove f_M_isAbove_B
    split
    · exact kP_rZ h
    · split
      · exact kP_rZ h
      · refine kP_fa fun _ => kP_ldq kP_none fun _ => kP_fi fun _ => kP_ob fun _ => kP_bI (kp_isAbove d G a _ _ h) fun x G' h => ?_
        split
        · exact kP_rZ h
        · exact kP_rZ h
theorem kp_endC {a : Nat} {x : Int32} (h : kC q v G) : kP q v (f_M_endCursor G a x) := by
  unfold f_M_endCursor
  exact kP_fa fun _ => kP_stn h fun _ h => kP_fi fun _ => kP_put h (Or.inl (by decide)) fun _ h => kP_rV h
theorem kp_ep4 {rec : gH → Nat → Int32 → gR} {K : gH → Nat → Int32 → Int32 → gR} (hr : ∀ G a x, kC q v G → kP q v (rec G a x)) (hK : ∀ G a x y, kC q v G → kP q v (K G a x y)) : ∀ (n : Nat) (G : gH) (a : Nat) (x y z : Int32), kC q v G → kP q v (f_M_endPart_L4 rec K n G a x y z)
  | 0, _, _, _, _, _, _ => kP_none
  | n + 1, G, a, x, y, z, h => by
    unfold f_M_endPart_L4
    split
    · exact hK _ _ _ _ h
    · refine kP_fa fun _ => kP_ldq (kp_ep4 hr hK n G a _ _ _ h) fun _ => kP_fa fun _ => kP_ldq kP_none fun _ => kP_fi fun _ => ?_
      split
      · exact kP_ob fun _ => kP_bI (hr _ _ _ h) fun _ _ h => kp_ep4 hr hK n _ a _ _ _ h
      · exact kp_ep4 hr hK n G a _ _ _ h
theorem kp_ep48 {rec : gH → Nat → Int32 → gR} {K : gH → Nat → Int32 → Int32 → gR} (hK : ∀ G a x y, kC q v G → kP q v (K G a x y)) : ∀ (n : Nat) (G : gH) (a : Nat) (x y z : Int32), kC q v G → kP q v (f_M_endPart_L48 rec K n G a x y z)
  | 0, _, _, _, _, _, _ => kP_none
  | n + 1, G, a, x, y, z, h => by
    unfold f_M_endPart_L48
    split
    · exact hK _ _ _ _ h
    · refine kP_fa fun _ => kP_ldq (kp_ep48 hK n G a _ _ _ h) fun _ => kP_fa fun _ => kP_ldq kP_none fun _ => kP_fi fun _ => ?_
      split
      · exact kP_ob fun _ => kP_bV (kp_endC h) fun _ h => kp_ep48 hK n _ a _ _ _ h
      · exact kp_ep48 hK n G a _ _ _ h
theorem kp_endPart : ∀ (d : Nat) (G : gH) (a : Nat) (x : Int32), kC q v G → kP q v (f_M_endPart d G a x)
  | 0, _, _, _, _ => kP_none
  | d + 1, G, a, x, h => by
    unfold f_M_endPart f_M_endPart_B
    refine kp_ep4 (fun G a x h => kp_endPart d G a x h) (fun G a x y h => kp_ep48 (fun G a x y h => ?_) _ _ _ _ _ _ h) _ _ _ _ _ _ h
    exact kP_fa fun _ => kP_stn h fun _ h => kP_fi fun _ => kP_put h (Or.inl (by decide)) fun _ h => kP_rI h
theorem kp_eps {K : gH → Int32 → gR} (hK : ∀ G x, kC q v G → kP q v (K G x)) : ∀ (n : Nat) (G : gH) (a : Nat) (x y z u : Int32), kC q v G → kP q v (f_M_endParts_L5 K n G a x y z u)
  | 0, _, _, _, _, _, _, _ => kP_none
  | n + 1, G, a, x, y, z, u, h => by
    unfold f_M_endParts_L5
    split
    · exact hK _ _ h
    · refine kP_fa fun _ => kP_ldq (kp_eps hK n G a _ _ _ _ h) fun _ => kP_ob fun _ => kP_bI (kp_rowOf _ _ _ _ h) fun _ G1 h => ?_
      split
      · refine kP_ob fun _ => kP_bI (kp_isAbove _ _ _ _ _ h) fun _ G2 h => ?_
        split
        · exact kP_ob fun _ => kP_bI (kp_endPart _ _ _ _ h) fun _ _ h => kp_eps hK n _ a _ _ _ _ h
        · exact kp_eps hK n _ a _ _ _ _ h
      · exact kp_eps hK n _ a _ _ _ _ h
theorem kp_endParts {a : Nat} {x y : Int32} (h : kC q v G) : kP q v (f_M_endParts G a x y) := by
  unfold f_M_endParts
  exact kp_eps (fun _ _ h => kP_rI h) _ _ _ _ _ _ _ h
theorem kp_ch8 {K : gH → Nat → Int32 → Int32 → gR} (hK : ∀ G a x y, kC q v G → kP q v (K G a x y)) : ∀ (n : Nat) (G : gH) (a : Nat) (x y z u : Int32), kC q v G → kP q v (f_M_change_L8 K n G a x y z u)
  | 0, _, _, _, _, _, _, _ => kP_none
  | n + 1, G, a, x, y, z, u, h => by
    unfold f_M_change_L8
    split
    · exact hK _ _ _ _ h
    · exact kP_fa fun _ => kP_ldq kP_none fun _ => kP_fi fun _ => kP_put h (Or.inl (by decide)) fun _ h => kP_fa fun _ => kP_ldq kP_none fun _ => kP_fi fun _ => kp_ch8 hK n _ a _ _ _ _ h
theorem kp_ch55 {K : gH → Nat → Int32 → Int32 → gR} (hK : ∀ G a x y, kC q v G → kP q v (K G a x y)) : ∀ (n : Nat) (G : gH) (a : Nat) (x y z u : Int32), kC q v G → kP q v (f_M_change_L55 K n G a x y z u)
  | 0, _, _, _, _, _, _, _ => kP_none
  | n + 1, G, a, x, y, z, u, h => by
    unfold f_M_change_L55
    split
    · exact hK _ _ _ _ h
    · split
      · exact kp_ch55 hK n _ a _ _ _ _ h
      · refine kP_fa fun _ => kP_ldq (kp_ch55 hK n _ a _ _ _ _ h) fun _ => kP_fa fun _ => kP_ldq kP_none fun _ => kP_fi fun _ => kP_ob fun _ => kP_bI (kp_rowOf _ _ _ _ h) fun _ G1 h => ?_
        split
        · refine kP_fa fun _ => kP_ldq kP_none fun _ => kP_fi fun _ => ?_
          split
          · exact kP_fa fun _ => kP_ldq kP_none fun _ => kP_put h (Or.inr (by decide)) fun _ h => kp_ch55 hK n _ a _ _ _ _ h
          · exact kP_ob fun _ => kP_bV (kp_endC h) fun _ h => kp_ch55 hK n _ a _ _ _ _ h
        · exact kp_ch55 hK n _ a _ _ _ _ h
theorem kp_change {a : Nat} {x y z : Int32} (h : kC q v G) : kP q v (f_M_change G a x y z) := by
  unfold f_M_change
  split
  · exact kP_rV h
  · refine kp_ch8 (fun G a x y h => kP_ob fun _ => kP_bI (kp_rowOf _ _ _ _ h) fun _ G1 h => kp_ch55 (fun G a x y h => ?_) _ _ _ _ _ _ _ h) _ _ _ _ _ _ _ h
    exact kP_ob fun _ => kP_bI (kp_endParts h) fun _ _ h => kP_rV h
end Keep4
section Drp
variable {w : Nat → Nat} {b o m : Nat} {A : mS} {σ : cS} {H : gH}
theorem sim_previous (hR : CRep σ A) (hI : mInv m A) (x : Int32) : SimOp w b o A m σ H xI1 (f_X_previous (cPut b σ H) b x) (fun G => f_M_previous G o x) := by
  have hX := CRepx.of (exc := -1) hR
  by_cases hx : mIsC A x
  · have hC := hx
    obtain ⟨c, hc3, rfl, hcn⟩ := hx
    cases hcx : A.2.2.1 c with
    | none => exact absurd hcx hcn
    | some y =>
      have hIt : mInv m (mSet A 0 0) := hI.thr 0
      obtain ⟨-, hy6, hv, hok⟩ := hI.2.2.2.1 c y hcx
      have hl31 := hI.l31 hv
      have hW := hI.w y.1
      obtain ⟨r, s, hr, hr2, hfit, h31, -, -⟩ := hI.pl hv
      have hq0 : ∀ (G : gH) (D : mD), MS w o G A D → ∃ q, D.2.2.2.2.2 c = some q := fun G D h => by
        obtain ⟨q, e, -⟩ := s_curq h hc3 hcx
        exact ⟨q, e⟩
      by_cases hs : y.2.2.2 = 0
      · rcases hok with ⟨-, hn, -⟩ | ⟨hs1, -⟩
        · by_cases h0 : y.2.1 = 0
          · refine sim_fault hR hI (-8) ?_ (fun G D h => ?_)
            · unfold f_X_previous
              simp only [(x_needCursor hR).1 hC, x_isStale hR hc3 hcx, x_nextOf hR hc3 hcx, c_ob_0, c_fa_0_0, c_fa_0_1, c_fi_0_2, c_put_0_2, c_fi_0_3, c_put_0_3, c_fi_0_4, c_put_0_4, c_ob_1, c_fa_1_0, c_fa_1_1, c_fa_1_2, c_fa_1_3, c_fa_1_4, c_fa_1_5, c_fi_1_6, c_put_1_6, c_ob_2, c_fa_2_0, c_ob_4, c_fa_4_0, c_ob_6, c_fa_6_0, c_ob_8, c_fa_8_0, c_ob_10, c_fa_10_0, c_ob_12, c_fa_12_0, c_ob_14, c_fa_14_0, c_fa_14_1, c_fa_14_2, c_fa_14_3, c_fi_14_4, c_put_14_4, c_ob_15, c_fa_15_0, c_ob_17, c_fa_17_0, c_ob_19, c_fa_19_0, c_ob_21, c_fa_21_0, c_len_0, c_ld_0, c_st_0, c_rd_0, c_wr_0, c_len_1, c_ld_1, c_st_1, c_rd_1, c_wr_1, c_len_2, c_ld_2, c_st_2, c_rd_2, c_wr_2, c_len_3, c_ld_3, c_st_3, c_rd_3, c_wr_3, c_len_4, c_ld_4, c_st_4, c_rd_4, c_wr_4, c_len_5, c_ld_5, c_st_5, c_rd_5, c_wr_5, c_len_6, c_ld_6, c_st_6, c_rd_6, c_wr_6, c_len_7, c_ld_7, c_st_7, c_rd_7, c_wr_7, c_len_8, c_ld_8, c_st_8, c_rd_8, c_wr_8, c_len_9, c_ld_9, c_st_9, c_rd_9, c_wr_9, bI_rI, bL_rL, bA_rA, bV_rV, bI_th, bL_th, bA_th, bV_th, rZ_0, rZ_1]
              rw [mB_if, if_neg (by simp [hs]), h0, if_neg (by decide)]
              rw [(x_fail (b := b) (H := H) hX (-8)).1, bI_rI]
            · obtain ⟨G1, r1, h1, s1⟩ := r_cur1 h hC
              obtain ⟨q, hq⟩ := hq0 G D h
              obtain ⟨f0, f1, f2, f3⟩ := s_fi h1 hc3 hcx hq
              obtain ⟨G2, r2, h2, s2⟩ := s_fault h1 (-8)
              refine ⟨G1, ?_, h1, s1⟩
              show f_M_previous G o (nI c) = _
              unfold f_M_previous
              rw [r1, s_ldC h1 hc3 hq, f3, if_pos hs, f1, h0, if_pos nI0, gOb_of h1.2.2.1 rfl, r2, bI_rI]
          · obtain ⟨n, hn1⟩ : ∃ n, y.2.1 = n + 1 := ⟨y.2.1 - 1, by omega⟩
            have e1 : nI (n + 1) - nI 1 = nI n := by rw [nI_sub (by omega)]; rfl
            have ht := List.getElem?_eq_getElem (show s + n < (A.1 r).length by omega)
            generalize (A.1 r)[s + n] = t at ht
            have hto := (hI.2.2.1 r hr2).2 t (List.mem_of_getElem? ht)
            have h600 := hI.2.2.2.2.2
            have hXs := CRepx.setC (y := (y.1, n, nI n, y.2.2.2)) (A := mSet A 0 0) (hX.thr 0) hcx rfl rfl
            have hIs : mInv m (mSetC (mSet A 0 0) c (y.1, n, nI n, y.2.2.2)) := hIt.setC hc3 ⟨hy6, hv, Or.inl ⟨hs, show n ≤ mLen A y.1 by omega, Or.inr ⟨n, show n < mLen A y.1 by omega, rfl⟩⟩⟩
            obtain ⟨σ', y1, y2⟩ := x_stand (b := b) (G := H) hXs hc3 mSetC_at
            have y1' : f_U_stand (cPut b σ H) (b + 14) (nI c) (nI n) (nI n) = rV (cPut b σ' H) := y1
            have x1 : f_I_thingAt (cPut b σ' H) (b + 1) (nI y.1) (nI n) = rI (nI (32 * t.2.2 + t.2.1)) (cPut b σ' H) := x_at (CRepx.of (exc := -1) y2) (hIs.w y.1) hv hr ht
            have x2 : f_U_listOf (cPut b σ' H) (b + 14) (nI c) = rI (nI y.1) (cPut b σ' H) := x_listOf (x := (y.1, n, nI n, y.2.2.2)) y2 hc3 mSetC_at
            refine Sim.yes (nI t.2.2) σ' ?_ (fun G D h => ?_)
            · unfold f_X_previous
              simp only [(x_needCursor hR).1 hC, x_isStale hR hc3 hcx, x_nextOf hR hc3 hcx, hn1, e1, c_ob_0, c_fa_0_0, c_fa_0_1, c_fi_0_2, c_put_0_2, c_fi_0_3, c_put_0_3, c_fi_0_4, c_put_0_4, c_ob_1, c_fa_1_0, c_fa_1_1, c_fa_1_2, c_fa_1_3, c_fa_1_4, c_fa_1_5, c_fi_1_6, c_put_1_6, c_ob_2, c_fa_2_0, c_ob_4, c_fa_4_0, c_ob_6, c_fa_6_0, c_ob_8, c_fa_8_0, c_ob_10, c_fa_10_0, c_ob_12, c_fa_12_0, c_ob_14, c_fa_14_0, c_fa_14_1, c_fa_14_2, c_fa_14_3, c_fi_14_4, c_put_14_4, c_ob_15, c_fa_15_0, c_ob_17, c_fa_17_0, c_ob_19, c_fa_19_0, c_ob_21, c_fa_21_0, c_len_0, c_ld_0, c_st_0, c_rd_0, c_wr_0, c_len_1, c_ld_1, c_st_1, c_rd_1, c_wr_1, c_len_2, c_ld_2, c_st_2, c_rd_2, c_wr_2, c_len_3, c_ld_3, c_st_3, c_rd_3, c_wr_3, c_len_4, c_ld_4, c_st_4, c_rd_4, c_wr_4, c_len_5, c_ld_5, c_st_5, c_rd_5, c_wr_5, c_len_6, c_ld_6, c_st_6, c_rd_6, c_wr_6, c_len_7, c_ld_7, c_st_7, c_rd_7, c_wr_7, c_len_8, c_ld_8, c_st_8, c_rd_8, c_wr_8, c_len_9, c_ld_9, c_st_9, c_rd_9, c_wr_9, bI_rI, bL_rL, bA_rA, bV_rV, bI_th, bL_th, bA_th, bV_th, rZ_0, rZ_1]
              rw [mB_if, if_neg (by simp [hs]), if_pos (nI_pos' (by omega))]
              simp only [y1', x1, x2, x_tagOf (show t.2.1 < 32 by have := hto.1; omega) (show t.2.2 ≤ 1000 by have := hto.2; omega), c_ob_0, c_fa_0_0, c_fa_0_1, c_fi_0_2, c_put_0_2, c_fi_0_3, c_put_0_3, c_fi_0_4, c_put_0_4, c_ob_1, c_fa_1_0, c_fa_1_1, c_fa_1_2, c_fa_1_3, c_fa_1_4, c_fa_1_5, c_fi_1_6, c_put_1_6, c_ob_2, c_fa_2_0, c_ob_4, c_fa_4_0, c_ob_6, c_fa_6_0, c_ob_8, c_fa_8_0, c_ob_10, c_fa_10_0, c_ob_12, c_fa_12_0, c_ob_14, c_fa_14_0, c_fa_14_1, c_fa_14_2, c_fa_14_3, c_fi_14_4, c_put_14_4, c_ob_15, c_fa_15_0, c_ob_17, c_fa_17_0, c_ob_19, c_fa_19_0, c_ob_21, c_fa_21_0, c_len_0, c_ld_0, c_st_0, c_rd_0, c_wr_0, c_len_1, c_ld_1, c_st_1, c_rd_1, c_wr_1, c_len_2, c_ld_2, c_st_2, c_rd_2, c_wr_2, c_len_3, c_ld_3, c_st_3, c_rd_3, c_wr_3, c_len_4, c_ld_4, c_st_4, c_rd_4, c_wr_4, c_len_5, c_ld_5, c_st_5, c_rd_5, c_wr_5, c_len_6, c_ld_6, c_st_6, c_rd_6, c_wr_6, c_len_7, c_ld_7, c_st_7, c_rd_7, c_wr_7, c_len_8, c_ld_8, c_st_8, c_rd_8, c_wr_8, c_len_9, c_ld_9, c_st_9, c_rd_9, c_wr_9, bI_rI, bL_rL, bA_rA, bV_rV, bI_th, bL_th, bA_th, bV_th, rZ_0, rZ_1]
            · obtain ⟨G1, r1, h1, s1⟩ := r_cur1 h hC
              obtain ⟨q, hq⟩ := hq0 G D h
              obtain ⟨f0, f1, f2, f3⟩ := s_fi h1 hc3 hcx hq
              obtain ⟨G2, r2, h2, s2⟩ := s_put1 (n := n) h1 hc3 hcx hq (by omega)
              obtain ⟨g0, g1, g2, g3⟩ := s_fi h2 hc3 mSetC_at hq
              obtain ⟨G3, r3, h3, s3⟩ := s_put2 (v := nI n) h2 hc3 mSetC_at hq
              rw [mSetC_mSetC] at h3
              have h3' : MS w o G3 (mSetC (mSet A 0 0) c (y.1, n, nI n, y.2.2.2)) D := h3
              obtain ⟨k0, k1, k2, k3⟩ := s_fi h3' hc3 mSetC_at hq
              refine ⟨_, D, G3, m, ?_, h3', y2, hIs, Nat.le_succ m, rfl, ((s1.trans s2).trans s3).mono (by omega) (by omega)⟩
              unfold f_M_previous
              rw [r1, s_ldC h1 hc3 hq, f3, if_pos hs, f1, hn1, if_neg (nI_ne0 (by omega) (by omega)), f1, hn1, e1, r2, g1, r3, k0, k2, gOb_of h3'.2.2.1 rfl, s_at h3' hIs.1 hv hr ht, bA_rA, (s_th h3' hr2 ht).tag]
        · exact absurd (hs1.symm.trans hs) (by decide)
      · refine sim_fault hR hI (-9) ?_ (fun G D h => ?_)
        · unfold f_X_previous
          simp only [(x_needCursor hR).1 hC, x_isStale hR hc3 hcx, c_ob_0, c_fa_0_0, c_fa_0_1, c_fi_0_2, c_put_0_2, c_fi_0_3, c_put_0_3, c_fi_0_4, c_put_0_4, c_ob_1, c_fa_1_0, c_fa_1_1, c_fa_1_2, c_fa_1_3, c_fa_1_4, c_fa_1_5, c_fi_1_6, c_put_1_6, c_ob_2, c_fa_2_0, c_ob_4, c_fa_4_0, c_ob_6, c_fa_6_0, c_ob_8, c_fa_8_0, c_ob_10, c_fa_10_0, c_ob_12, c_fa_12_0, c_ob_14, c_fa_14_0, c_fa_14_1, c_fa_14_2, c_fa_14_3, c_fi_14_4, c_put_14_4, c_ob_15, c_fa_15_0, c_ob_17, c_fa_17_0, c_ob_19, c_fa_19_0, c_ob_21, c_fa_21_0, c_len_0, c_ld_0, c_st_0, c_rd_0, c_wr_0, c_len_1, c_ld_1, c_st_1, c_rd_1, c_wr_1, c_len_2, c_ld_2, c_st_2, c_rd_2, c_wr_2, c_len_3, c_ld_3, c_st_3, c_rd_3, c_wr_3, c_len_4, c_ld_4, c_st_4, c_rd_4, c_wr_4, c_len_5, c_ld_5, c_st_5, c_rd_5, c_wr_5, c_len_6, c_ld_6, c_st_6, c_rd_6, c_wr_6, c_len_7, c_ld_7, c_st_7, c_rd_7, c_wr_7, c_len_8, c_ld_8, c_st_8, c_rd_8, c_wr_8, c_len_9, c_ld_9, c_st_9, c_rd_9, c_wr_9, bI_rI, bL_rL, bA_rA, bV_rV, bI_th, bL_th, bA_th, bV_th, rZ_0, rZ_1]
          rw [mB_if, if_pos (by simp [hs])]
          rw [(x_fail (b := b) (H := H) hX (-9)).1, bI_rI]
        · obtain ⟨G1, r1, h1, s1⟩ := r_cur1 h hC
          obtain ⟨q, hq⟩ := hq0 G D h
          obtain ⟨f0, f1, f2, f3⟩ := s_fi h1 hc3 hcx hq
          obtain ⟨G2, r2, h2, s2⟩ := s_fault h1 (-9)
          refine ⟨G1, ?_, h1, s1⟩
          show f_M_previous G o (nI c) = _
          unfold f_M_previous
          rw [r1, s_ldC h1 hc3 hq, f3, if_neg hs, gOb_of h1.2.2.1 rfl, r2, bI_rI]
  · refine Sim.no hR hI 1 (by decide) (by decide) ?_ (fun G D h => ?_)
    · unfold f_X_previous
      simp only [(x_needCursor hR).2 hx, c_ob_0, c_fa_0_0, c_fa_0_1, c_fi_0_2, c_put_0_2, c_fi_0_3, c_put_0_3, c_fi_0_4, c_put_0_4, c_ob_1, c_fa_1_0, c_fa_1_1, c_fa_1_2, c_fa_1_3, c_fa_1_4, c_fa_1_5, c_fi_1_6, c_put_1_6, c_ob_2, c_fa_2_0, c_ob_4, c_fa_4_0, c_ob_6, c_fa_6_0, c_ob_8, c_fa_8_0, c_ob_10, c_fa_10_0, c_ob_12, c_fa_12_0, c_ob_14, c_fa_14_0, c_fa_14_1, c_fa_14_2, c_fa_14_3, c_fi_14_4, c_put_14_4, c_ob_15, c_fa_15_0, c_ob_17, c_fa_17_0, c_ob_19, c_fa_19_0, c_ob_21, c_fa_21_0, c_len_0, c_ld_0, c_st_0, c_rd_0, c_wr_0, c_len_1, c_ld_1, c_st_1, c_rd_1, c_wr_1, c_len_2, c_ld_2, c_st_2, c_rd_2, c_wr_2, c_len_3, c_ld_3, c_st_3, c_rd_3, c_wr_3, c_len_4, c_ld_4, c_st_4, c_rd_4, c_wr_4, c_len_5, c_ld_5, c_st_5, c_rd_5, c_wr_5, c_len_6, c_ld_6, c_st_6, c_rd_6, c_wr_6, c_len_7, c_ld_7, c_st_7, c_rd_7, c_wr_7, c_len_8, c_ld_8, c_st_8, c_rd_8, c_wr_8, c_len_9, c_ld_9, c_st_9, c_rd_9, c_wr_9, bI_rI, bL_rL, bA_rA, bV_rV, bI_th, bL_th, bA_th, bV_th, rZ_0, rZ_1]
      rfl
    · obtain ⟨G1, r1, h1, s1⟩ := r_cur0 h hx
      refine ⟨G1, ?_, h1, s1⟩
      unfold f_M_previous
      rw [r1]
      rfl
theorem sim_put (hR : CRep σ A) (hI : mInv m A) (hm : m < 600) (x k : Int32) : SimOp w b o A m σ H xIG (f_X_put (cPut b σ H) b x k) (fun G => f_M_put G o x k) := by
  have hX := CRepx.of (exc := -1) hR
  by_cases hx : mIsC A x
  · have hC := hx
    obtain ⟨c, hc3, rfl, hcn⟩ := hx
    by_cases hk : mIsP 31 k
    · have hK := hk
      obtain ⟨k, hk31, rfl⟩ := hk
      cases hcx : A.2.2.1 c with
      | none => exact absurd hcx hcn
      | some y =>
        have hIt : mInv m (mSet A 0 0) := hI.thr 0
        obtain ⟨-, hy6, hv, hok⟩ := hI.2.2.2.1 c y hcx
        have hl31 := hI.l31 hv
        have hW := hI.w y.1
        obtain ⟨r, s, hr, hr2, hfit, h31, -, -⟩ := hI.pl hv
        have hq0 : ∀ (G : gH) (D : mD), MS w o G A D → ∃ q, D.2.2.2.2.2 c = some q := fun G D h => by
          obtain ⟨q, e, -⟩ := s_curq h hc3 hcx
          exact ⟨q, e⟩
        by_cases hs : y.2.2.2 = 0
        · rcases hok with ⟨-, hn, hla⟩ | ⟨hs1, -⟩
          · rcases hla with hl | ⟨j, hj, hl⟩
            · refine sim_fault hR hI (-7) ?_ (fun G D h => ?_)
              · unfold f_X_put
                simp only [(x_needCursor hR).1 hC, x_needKey.1 hK, x_isStale hR hc3 hcx, x_lastOf hR hc3 hcx, c_ob_0, c_fa_0_0, c_fa_0_1, c_fi_0_2, c_put_0_2, c_fi_0_3, c_put_0_3, c_fi_0_4, c_put_0_4, c_ob_1, c_fa_1_0, c_fa_1_1, c_fa_1_2, c_fa_1_3, c_fa_1_4, c_fa_1_5, c_fi_1_6, c_put_1_6, c_ob_2, c_fa_2_0, c_ob_4, c_fa_4_0, c_ob_6, c_fa_6_0, c_ob_8, c_fa_8_0, c_ob_10, c_fa_10_0, c_ob_12, c_fa_12_0, c_ob_14, c_fa_14_0, c_fa_14_1, c_fa_14_2, c_fa_14_3, c_fi_14_4, c_put_14_4, c_ob_15, c_fa_15_0, c_ob_17, c_fa_17_0, c_ob_19, c_fa_19_0, c_ob_21, c_fa_21_0, c_len_0, c_ld_0, c_st_0, c_rd_0, c_wr_0, c_len_1, c_ld_1, c_st_1, c_rd_1, c_wr_1, c_len_2, c_ld_2, c_st_2, c_rd_2, c_wr_2, c_len_3, c_ld_3, c_st_3, c_rd_3, c_wr_3, c_len_4, c_ld_4, c_st_4, c_rd_4, c_wr_4, c_len_5, c_ld_5, c_st_5, c_rd_5, c_wr_5, c_len_6, c_ld_6, c_st_6, c_rd_6, c_wr_6, c_len_7, c_ld_7, c_st_7, c_rd_7, c_wr_7, c_len_8, c_ld_8, c_st_8, c_rd_8, c_wr_8, c_len_9, c_ld_9, c_st_9, c_rd_9, c_wr_9, bI_rI, bL_rL, bA_rA, bV_rV, bI_th, bL_th, bA_th, bV_th, rZ_0, rZ_1]
                rw [mB_if, if_neg (by simp [hs]), if_pos hl]
                rw [(x_fail (b := b) (H := H) hX (-7)).1, bI_rI]
              · obtain ⟨G1, r1, h1, s1⟩ := r_cur1 h hC
                obtain ⟨q, hq⟩ := hq0 G D h
                obtain ⟨f0, f1, f2, f3⟩ := s_fi h1 hc3 hcx hq
                obtain ⟨G2, r2, h2, s2⟩ := s_fault h1 (-7)
                refine ⟨G1, ?_, h1, s1⟩
                show f_M_put G o (nI c) (nI k) = _
                unfold f_M_put
                rw [r1, gOb_of h1.2.2.1 rfl, (s_noKey G1 o _).1 hK, bI_rI, r_ref0b h1 rfl, s_ldC h1 hc3 hq, f3, if_pos hs, f2, if_pos hl, gOb_of h1.2.2.1 rfl, r2, bI_rI]
            · have ht := List.getElem?_eq_getElem (show s + j < (A.1 r).length by omega)
              generalize (A.1 r)[s + j] = t at ht
              obtain ⟨hXt, hXB, hIB⟩ := b_made hR hI hm
              have hWB := hIB.w y.1
              obtain ⟨y1, y2⟩ := x_write (b := b) (G := H) (i := j) hXB hWB.1 hWB.2.1 hWB.2.2.1 hv hr hj (0, k, m)
              have y1' : f_I_write (cPut b (cSetI σ 2 (nI (m + 1))) H) (b + 1) (nI y.1) (nI j) (nI (32 * m + k)) = _ := y1
              have x2 : f_U_listOf (cPut b (cSetI σ 2 (nI (m + 1))) H) (b + 14) (nI c) = rI (nI y.1) (cPut b (cSetI σ 2 (nI (m + 1))) H) := x_listOf (A := mSet (mSet A 0 0) 1 (nI (m + 1))) hXB hc3 hcx
              have hne : ¬ nI j = -1 := nI_ne1 (by omega)
              refine Sim.yes (nI m) (cArr (cSetI σ 2 (nI (m + 1))) 0 (upd ((cSetI σ 2 (nI (m + 1))).1 0) (31 * r + (s + j)) (cE (0, k, m)))) ?_ (fun G D h => ?_)
              · unfold f_X_put
                simp only [(x_needCursor hR).1 hC, x_needKey.1 hK, x_isStale hR hc3 hcx, x_lastOf hR hc3 hcx, hl, c_ob_0, c_fa_0_0, c_fa_0_1, c_fi_0_2, c_put_0_2, c_fi_0_3, c_put_0_3, c_fi_0_4, c_put_0_4, c_ob_1, c_fa_1_0, c_fa_1_1, c_fa_1_2, c_fa_1_3, c_fa_1_4, c_fa_1_5, c_fi_1_6, c_put_1_6, c_ob_2, c_fa_2_0, c_ob_4, c_fa_4_0, c_ob_6, c_fa_6_0, c_ob_8, c_fa_8_0, c_ob_10, c_fa_10_0, c_ob_12, c_fa_12_0, c_ob_14, c_fa_14_0, c_fa_14_1, c_fa_14_2, c_fa_14_3, c_fi_14_4, c_put_14_4, c_ob_15, c_fa_15_0, c_ob_17, c_fa_17_0, c_ob_19, c_fa_19_0, c_ob_21, c_fa_21_0, c_len_0, c_ld_0, c_st_0, c_rd_0, c_wr_0, c_len_1, c_ld_1, c_st_1, c_rd_1, c_wr_1, c_len_2, c_ld_2, c_st_2, c_rd_2, c_wr_2, c_len_3, c_ld_3, c_st_3, c_rd_3, c_wr_3, c_len_4, c_ld_4, c_st_4, c_rd_4, c_wr_4, c_len_5, c_ld_5, c_st_5, c_rd_5, c_wr_5, c_len_6, c_ld_6, c_st_6, c_rd_6, c_wr_6, c_len_7, c_ld_7, c_st_7, c_rd_7, c_wr_7, c_len_8, c_ld_8, c_st_8, c_rd_8, c_wr_8, c_len_9, c_ld_9, c_st_9, c_rd_9, c_wr_9, bI_rI, bL_rL, bA_rA, bV_rV, bI_th, bL_th, bA_th, bV_th, rZ_0, rZ_1]
                rw [mB_if, if_neg (by simp [hs]), if_neg hne]
                simp only [x_make hX hI.2.2.2.2.1 (show k < 32 by omega), x2, y1', x_tagOf (show k < 32 by omega) (show m ≤ 1000 by omega), c_ob_0, c_fa_0_0, c_fa_0_1, c_fi_0_2, c_put_0_2, c_fi_0_3, c_put_0_3, c_fi_0_4, c_put_0_4, c_ob_1, c_fa_1_0, c_fa_1_1, c_fa_1_2, c_fa_1_3, c_fa_1_4, c_fa_1_5, c_fi_1_6, c_put_1_6, c_ob_2, c_fa_2_0, c_ob_4, c_fa_4_0, c_ob_6, c_fa_6_0, c_ob_8, c_fa_8_0, c_ob_10, c_fa_10_0, c_ob_12, c_fa_12_0, c_ob_14, c_fa_14_0, c_fa_14_1, c_fa_14_2, c_fa_14_3, c_fi_14_4, c_put_14_4, c_ob_15, c_fa_15_0, c_ob_17, c_fa_17_0, c_ob_19, c_fa_19_0, c_ob_21, c_fa_21_0, c_len_0, c_ld_0, c_st_0, c_rd_0, c_wr_0, c_len_1, c_ld_1, c_st_1, c_rd_1, c_wr_1, c_len_2, c_ld_2, c_st_2, c_rd_2, c_wr_2, c_len_3, c_ld_3, c_st_3, c_rd_3, c_wr_3, c_len_4, c_ld_4, c_st_4, c_rd_4, c_wr_4, c_len_5, c_ld_5, c_st_5, c_rd_5, c_wr_5, c_len_6, c_ld_6, c_st_6, c_rd_6, c_wr_6, c_len_7, c_ld_7, c_st_7, c_rd_7, c_wr_7, c_len_8, c_ld_8, c_st_8, c_rd_8, c_wr_8, c_len_9, c_ld_9, c_st_9, c_rd_9, c_wr_9, bI_rI, bL_rL, bA_rA, bV_rV, bI_th, bL_th, bA_th, bV_th, rZ_0, rZ_1]
              · obtain ⟨G1, r1, h1, s1⟩ := r_cur1 h hC
                obtain ⟨q, hq⟩ := hq0 G D h
                obtain ⟨f0, f1, f2, f3⟩ := s_fi h1 hc3 hcx hq
                obtain ⟨G2, r2, h2, s2, t2⟩ := s_make (k := k) h1 (show (mSet A 0 0).2.2.2 1 = nI m from hI.2.2.2.2.1)
                obtain ⟨G3, r3, h3, s3, t3, -⟩ := s_write (i := j) (u := (G1.2.1, k, m)) h2 hWB.1 hv hr ht t2
                have r3' : f_M_write G2 o (nI y.1) (nI j) G1.2.1 = rA t.1 G3 := r3
                refine ⟨_, D, G3, m + 1, ?_, h3, (CRepx.rowsC (exc := -1) y2 (us := (A.1 r).set (s + j) (G1.2.1, k, m)) ?_), hIB.rows ?_ ?_, Nat.le_refl _, rfl, ((s1.trans s2).trans s3).mono (by omega) (by omega)⟩
                · unfold f_M_put
                  rw [r1, gOb_of h1.2.2.1 rfl, (s_noKey G1 o _).1 hK, bI_rI, r_ref0b h1 rfl, s_ldC h1 hc3 hq, f3, if_pos hs, f2, hl, if_neg hne, f0, f2, hl, gOb_of h1.2.2.1 rfl, r2, bA_rA, gOb_of h2.2.2.1 rfl, r3', bA_rA, m_int h3.2.2 (j := 1) (i := 4) (by omega) rfl]
                  show rI (nI (m + 1) - nI 1) G3 = rI (nI m) G3
                  rw [nI_sub (by omega)]; rfl
                · show ((A.1 r).set (s + j) (0, k, m)).map Prod.snd = _
                  rw [List.map_set, List.map_set]
                · exact List.length_set
                · intro u hu
                  rcases set_mem hu with q | q
                  · exact (hIB.2.2.1 r hr2).2 u q
                  · rw [q]; exact ⟨hk31, Nat.lt_succ_self m⟩
          · exact absurd (hs1.symm.trans hs) (by decide)
        · refine sim_fault hR hI (-9) ?_ (fun G D h => ?_)
          · unfold f_X_put
            simp only [(x_needCursor hR).1 hC, x_needKey.1 hK, x_isStale hR hc3 hcx, c_ob_0, c_fa_0_0, c_fa_0_1, c_fi_0_2, c_put_0_2, c_fi_0_3, c_put_0_3, c_fi_0_4, c_put_0_4, c_ob_1, c_fa_1_0, c_fa_1_1, c_fa_1_2, c_fa_1_3, c_fa_1_4, c_fa_1_5, c_fi_1_6, c_put_1_6, c_ob_2, c_fa_2_0, c_ob_4, c_fa_4_0, c_ob_6, c_fa_6_0, c_ob_8, c_fa_8_0, c_ob_10, c_fa_10_0, c_ob_12, c_fa_12_0, c_ob_14, c_fa_14_0, c_fa_14_1, c_fa_14_2, c_fa_14_3, c_fi_14_4, c_put_14_4, c_ob_15, c_fa_15_0, c_ob_17, c_fa_17_0, c_ob_19, c_fa_19_0, c_ob_21, c_fa_21_0, c_len_0, c_ld_0, c_st_0, c_rd_0, c_wr_0, c_len_1, c_ld_1, c_st_1, c_rd_1, c_wr_1, c_len_2, c_ld_2, c_st_2, c_rd_2, c_wr_2, c_len_3, c_ld_3, c_st_3, c_rd_3, c_wr_3, c_len_4, c_ld_4, c_st_4, c_rd_4, c_wr_4, c_len_5, c_ld_5, c_st_5, c_rd_5, c_wr_5, c_len_6, c_ld_6, c_st_6, c_rd_6, c_wr_6, c_len_7, c_ld_7, c_st_7, c_rd_7, c_wr_7, c_len_8, c_ld_8, c_st_8, c_rd_8, c_wr_8, c_len_9, c_ld_9, c_st_9, c_rd_9, c_wr_9, bI_rI, bL_rL, bA_rA, bV_rV, bI_th, bL_th, bA_th, bV_th, rZ_0, rZ_1]
            rw [mB_if, if_pos (by simp [hs])]
            rw [(x_fail (b := b) (H := H) hX (-9)).1, bI_rI]
          · obtain ⟨G1, r1, h1, s1⟩ := r_cur1 h hC
            obtain ⟨q, hq⟩ := hq0 G D h
            obtain ⟨f0, f1, f2, f3⟩ := s_fi h1 hc3 hcx hq
            obtain ⟨G2, r2, h2, s2⟩ := s_fault h1 (-9)
            refine ⟨G1, ?_, h1, s1⟩
            show f_M_put G o (nI c) (nI k) = _
            unfold f_M_put
            rw [r1, gOb_of h1.2.2.1 rfl, (s_noKey G1 o _).1 hK, bI_rI, r_ref0b h1 rfl, s_ldC h1 hc3 hq, f3, if_neg hs, gOb_of h1.2.2.1 rfl, r2, bI_rI]
    · refine Sim.no hR hI 2 (by decide) (by decide) ?_ (fun G D h => ?_)
      · unfold f_X_put
        simp only [(x_needCursor hR).1 hC, x_needKey.2 hk, c_ob_0, c_fa_0_0, c_fa_0_1, c_fi_0_2, c_put_0_2, c_fi_0_3, c_put_0_3, c_fi_0_4, c_put_0_4, c_ob_1, c_fa_1_0, c_fa_1_1, c_fa_1_2, c_fa_1_3, c_fa_1_4, c_fa_1_5, c_fi_1_6, c_put_1_6, c_ob_2, c_fa_2_0, c_ob_4, c_fa_4_0, c_ob_6, c_fa_6_0, c_ob_8, c_fa_8_0, c_ob_10, c_fa_10_0, c_ob_12, c_fa_12_0, c_ob_14, c_fa_14_0, c_fa_14_1, c_fa_14_2, c_fa_14_3, c_fi_14_4, c_put_14_4, c_ob_15, c_fa_15_0, c_ob_17, c_fa_17_0, c_ob_19, c_fa_19_0, c_ob_21, c_fa_21_0, c_len_0, c_ld_0, c_st_0, c_rd_0, c_wr_0, c_len_1, c_ld_1, c_st_1, c_rd_1, c_wr_1, c_len_2, c_ld_2, c_st_2, c_rd_2, c_wr_2, c_len_3, c_ld_3, c_st_3, c_rd_3, c_wr_3, c_len_4, c_ld_4, c_st_4, c_rd_4, c_wr_4, c_len_5, c_ld_5, c_st_5, c_rd_5, c_wr_5, c_len_6, c_ld_6, c_st_6, c_rd_6, c_wr_6, c_len_7, c_ld_7, c_st_7, c_rd_7, c_wr_7, c_len_8, c_ld_8, c_st_8, c_rd_8, c_wr_8, c_len_9, c_ld_9, c_st_9, c_rd_9, c_wr_9, bI_rI, bL_rL, bA_rA, bV_rV, bI_th, bL_th, bA_th, bV_th, rZ_0, rZ_1]
        rfl
      · obtain ⟨G1, r1, h1, s1⟩ := r_cur1 h hC
        obtain ⟨G2, r2, h2, s2⟩ := r_no1b (c := 2) h1 (by decide)
        refine ⟨G2, ?_, h2, (s1.trans s2).mono (by omega) (by omega)⟩
        unfold f_M_put
        rw [r1, gOb_of h1.2.2.1 rfl, (s_noKey G1 o _).2 hk, bI_rI, r2]
        rfl
  · refine Sim.no hR hI 1 (by decide) (by decide) ?_ (fun G D h => ?_)
    · unfold f_X_put
      simp only [(x_needCursor hR).2 hx, c_ob_0, c_fa_0_0, c_fa_0_1, c_fi_0_2, c_put_0_2, c_fi_0_3, c_put_0_3, c_fi_0_4, c_put_0_4, c_ob_1, c_fa_1_0, c_fa_1_1, c_fa_1_2, c_fa_1_3, c_fa_1_4, c_fa_1_5, c_fi_1_6, c_put_1_6, c_ob_2, c_fa_2_0, c_ob_4, c_fa_4_0, c_ob_6, c_fa_6_0, c_ob_8, c_fa_8_0, c_ob_10, c_fa_10_0, c_ob_12, c_fa_12_0, c_ob_14, c_fa_14_0, c_fa_14_1, c_fa_14_2, c_fa_14_3, c_fi_14_4, c_put_14_4, c_ob_15, c_fa_15_0, c_ob_17, c_fa_17_0, c_ob_19, c_fa_19_0, c_ob_21, c_fa_21_0, c_len_0, c_ld_0, c_st_0, c_rd_0, c_wr_0, c_len_1, c_ld_1, c_st_1, c_rd_1, c_wr_1, c_len_2, c_ld_2, c_st_2, c_rd_2, c_wr_2, c_len_3, c_ld_3, c_st_3, c_rd_3, c_wr_3, c_len_4, c_ld_4, c_st_4, c_rd_4, c_wr_4, c_len_5, c_ld_5, c_st_5, c_rd_5, c_wr_5, c_len_6, c_ld_6, c_st_6, c_rd_6, c_wr_6, c_len_7, c_ld_7, c_st_7, c_rd_7, c_wr_7, c_len_8, c_ld_8, c_st_8, c_rd_8, c_wr_8, c_len_9, c_ld_9, c_st_9, c_rd_9, c_wr_9, bI_rI, bL_rL, bA_rA, bV_rV, bI_th, bL_th, bA_th, bV_th, rZ_0, rZ_1]
      rfl
    · obtain ⟨G1, r1, h1, s1⟩ := r_cur0 h hx
      refine ⟨G1, ?_, h1, s1⟩
      unfold f_M_put
      rw [r1]
      rfl
end Drp
end
section
-- drop, insert, run, end
section Ins
variable {w : Nat → Nat} {b o m : Nat} {A : mS} {σ : cS} {H : gH}
theorem nx3 {c c' : Nat} (h : c < 3) (h' : c' < 3) (e : nI c' = nI c) : c' = c := nI_eq31 (by omega) (by omega) e
theorem mInw.setC {c : Nat} {y : Nat × Nat × Int32 × Int32} (hI : mInv m A) (hc : c < 3) (h6 : y.1 < 6) (hv : mV A y.1) : mInw (nI c) y.1 (mSetC A c y) := by
  refine ⟨hI.1, hI.2.1, fun r hr => (hI.2.2.1 r hr).1, fun c' x hx => ?_⟩
  have hx' : va_up A.2.2.1 c (some y) c' = some x := hx
  by_cases e : c' = c
  · rw [e, va_up_self] at hx'
    cases hx'
    rw [e]
    exact ⟨hc, h6, hv, fun _ => rfl⟩
  · rw [va_up_ne _ _ e] at hx'
    obtain ⟨z1, z2, z3, -⟩ := hI.2.2.2.1 c' x hx'
    exact ⟨z1, z2, z3, fun q => absurd (nx3 hc z1 q) e⟩
/-- the cursor that changes a length stays as it was set -/
theorem mChg_cur {c r s p : Nat} {z : Int} {B : mS} {y : Nat × Nat × Int32 × Int32} {ts : List (Nat × Nat × Nat)} (hW : mInw (nI c) p (mSetC B c y)) (hc : c < 3) (hv : mV (mSetC B c y) p) (hr : mRw (mSetC B c y).2.1 zDp p = some (r, s)) (hz : z ≠ 0) : (mChange (mRows (mSetC B c y) r ts) p z (nI c)).2.2.1 c = some y := by
  have e := (mChd.of (ts := ts) hW hv hr hz).2.2.2.2.1 c hc
  rw [e]
  unfold mCf
  rw [if_pos rfl]
  exact mSetC_at
theorem mChg_inv {c r s p : Nat} {z : Int} {B : mS} {y : Nat × Nat × Int32 × Int32} {ts : List (Nat × Nat × Nat)} (hI : mInv m B) (hc : c < 3) (hy : y.1 = p) (h6 : p < 6) (hv : mV B p) (hr : mRw B.2.1 zDp p = some (r, s)) (hz : z ≠ 0) (hl : (ts.length : Int) = (B.1 r).length + z) (hl31 : ts.length ≤ 31) (hpos : 0 ≤ (mLen B p : Int) + z) (ht : ∀ t, t ∈ ts → mTok m t) (hy0 : y.2.2.2 = 0) (hy1 : (y.2.1 : Int) ≤ mLen B p + z) (hy2 : y.2.2.1 = -1) : mInv m (mChange (mRows (mSetC B c y) r ts) p z (nI c)) := by
  refine mInv.chg (exc := nI c) (A := mSetC B c y) (by rw [← hy]; exact mInw.setC hI hc (by omega) (by rw [hy]; exact hv)) hv hr hz hl hl31 hpos ht (fun r' t hr' => (hI.2.2.1 r' hr').2 t) hI.2.2.2.2.1 hI.2.2.2.2.2 (fun c' x hx => ?_)
  have hx' : va_up B.2.2.1 c (some y) c' = some x := hx
  by_cases e : c' = c
  · rw [e, va_up_self] at hx'
    cases hx'
    rw [if_pos (by rw [e])]
    exact ⟨hy0, hy1, hy2⟩
  · rw [va_up_ne _ _ e] at hx'
    obtain ⟨z1, z2⟩ := hI.2.2.2.1 c' x hx'
    rw [if_neg (fun q => e (nx3 hc z1 q))]
    exact z2
theorem sim_drop (hR : CRep σ A) (hI : mInv m A) (x : Int32) : SimOp w b o A m σ H xI1 (f_X_drop (cPut b σ H) b x) (fun G => f_M_drop G o x) := by
  have hX := CRepx.of (exc := -1) hR
  by_cases hx : mIsC A x
  · have hC := hx
    obtain ⟨c, hc3, rfl, hcn⟩ := hx
    cases hcx : A.2.2.1 c with
    | none => exact absurd hcx hcn
    | some y =>
      have hIt : mInv m (mSet A 0 0) := hI.thr 0
      obtain ⟨-, hy6, hv, hok⟩ := hI.2.2.2.1 c y hcx
      have hl31 := hI.l31 hv
      have hW := hI.w y.1
      obtain ⟨r, s, hr, hr2, hfit, h31, -, -⟩ := hI.pl hv
      have hq0 : ∀ (G : gH) (D : mD), MS w o G A D → ∃ q, D.2.2.2.2.2 c = some q := fun G D h => by
        obtain ⟨q, e, -⟩ := s_curq h hc3 hcx
        exact ⟨q, e⟩
      by_cases hs : y.2.2.2 = 0
      · rcases hok with ⟨-, hn, hla⟩ | ⟨hs1, -⟩
        · rcases hla with hl | ⟨j, hj, hl⟩
          · refine sim_fault hR hI (-7) ?_ (fun G D h => ?_)
            · unfold f_X_drop
              simp only [(x_needCursor hR).1 hC, x_isStale hR hc3 hcx, x_lastOf hR hc3 hcx, c_ob_0, c_fa_0_0, c_fa_0_1, c_fi_0_2, c_put_0_2, c_fi_0_3, c_put_0_3, c_fi_0_4, c_put_0_4, c_ob_1, c_fa_1_0, c_fa_1_1, c_fa_1_2, c_fa_1_3, c_fa_1_4, c_fa_1_5, c_fi_1_6, c_put_1_6, c_ob_2, c_fa_2_0, c_ob_4, c_fa_4_0, c_ob_6, c_fa_6_0, c_ob_8, c_fa_8_0, c_ob_10, c_fa_10_0, c_ob_12, c_fa_12_0, c_ob_14, c_fa_14_0, c_fa_14_1, c_fa_14_2, c_fa_14_3, c_fi_14_4, c_put_14_4, c_ob_15, c_fa_15_0, c_ob_17, c_fa_17_0, c_ob_19, c_fa_19_0, c_ob_21, c_fa_21_0, c_len_0, c_ld_0, c_st_0, c_rd_0, c_wr_0, c_len_1, c_ld_1, c_st_1, c_rd_1, c_wr_1, c_len_2, c_ld_2, c_st_2, c_rd_2, c_wr_2, c_len_3, c_ld_3, c_st_3, c_rd_3, c_wr_3, c_len_4, c_ld_4, c_st_4, c_rd_4, c_wr_4, c_len_5, c_ld_5, c_st_5, c_rd_5, c_wr_5, c_len_6, c_ld_6, c_st_6, c_rd_6, c_wr_6, c_len_7, c_ld_7, c_st_7, c_rd_7, c_wr_7, c_len_8, c_ld_8, c_st_8, c_rd_8, c_wr_8, c_len_9, c_ld_9, c_st_9, c_rd_9, c_wr_9, bI_rI, bL_rL, bA_rA, bV_rV, bI_th, bL_th, bA_th, bV_th, rZ_0, rZ_1]
              rw [mB_if, if_neg (by simp [hs]), if_pos hl]
              rw [(x_fail (b := b) (H := H) hX (-7)).1, bI_rI]
            · obtain ⟨G1, r1, h1, s1⟩ := r_cur1 h hC
              obtain ⟨q, hq⟩ := hq0 G D h
              obtain ⟨f0, f1, f2, f3⟩ := s_fi h1 hc3 hcx hq
              obtain ⟨G2, r2, h2, s2⟩ := s_fault h1 (-7)
              refine ⟨G1, ?_, h1, s1⟩
              show f_M_drop G o (nI c) = _
              unfold f_M_drop
              rw [r1, s_ldC h1 hc3 hq, f3, if_pos hs, f2, if_pos hl, gOb_of h1.2.2.1 rfl, r2, bI_rI]
          · have hne : ¬ nI j = -1 := nI_ne1 (by omega)
            have ht := List.getElem?_eq_getElem (show s + j < (A.1 r).length by omega)
            generalize (A.1 r)[s + j] = t at ht
            have hWB : mInw (nI c) y.1 (mSetC (mSet A 0 0) c (y.1, j, -1, y.2.2.2)) := mInw.setC hIt hc3 hy6 hv
            have hXB : CRepx (nI c) σ (mSetC (mSet A 0 0) c (y.1, j, -1, y.2.2.2)) := CRepx.setC (A := mSet A 0 0) (hX.thr 0) hcx rfl rfl
            have hel : ((A.1 r).eraseIdx (s + j)).length = (A.1 r).length - 1 := List.length_eraseIdx_of_lt (by omega)
            have hvB : mV (mSetC (mSet A 0 0) c (y.1, j, -1, y.2.2.2)) y.1 := hv
            have hrB : mRw (mSetC (mSet A 0 0) c (y.1, j, -1, y.2.2.2)).2.1 zDp y.1 = some (r, s) := hr
            obtain ⟨σ1, z1, z2, -, -⟩ := x_takeOut (b := b) (G := H) (i := j) hXB hWB hvB hrB hj ht
            have z1' : f_X_takeOut (cPut b σ H) b (nI y.1) (nI j) (nI c) = rI (cE t) (cPut b σ1 H) := z1
            obtain ⟨g1, g2, g3, g4, g5⟩ := mChg_at (exc := nI c) (ts := (A.1 r).eraseIdx (s + j)) (z := -1) hWB hvB hrB (by omega) (by rw [hel]; show _ = ((A.1 r).length : Int) + _; omega) (by show 0 ≤ (mLen A y.1 : Int) + _; omega)
            have hcA := mChg_cur (ts := (A.1 r).eraseIdx (s + j)) (z := -1) hWB hc3 hvB hrB (by omega)
            have hIA : mInv m (mChange (mRows (mSetC (mSet A 0 0) c (y.1, j, -1, y.2.2.2)) r ((A.1 r).eraseIdx (s + j))) y.1 (-1) (nI c)) := mChg_inv (B := mSet A 0 0) hIt hc3 rfl hy6 hv hr (by omega) (by rw [hel]; show _ = ((A.1 r).length : Int) + _; omega) (by omega) (by show 0 ≤ (mLen A y.1 : Int) + _; omega) (fun u hu => (hI.2.2.1 r hr2).2 u (er_mem _ _ hu)) hs (by show (j : Int) ≤ (mLen A y.1 : Int) + _; omega) rfl
            have z2' : CRepx (nI c) σ1 (mChange (mRows (mSetC (mSet A 0 0) c (y.1, j, -1, y.2.2.2)) r ((A.1 r).eraseIdx (s + j))) y.1 (-1) (nI c)) := z2
            have hch : ∀ (G : gH) (D : mD), MS w o G (mRows (mSetC (mSet A 0 0) c (y.1, j, -1, y.2.2.2)) r ((A.1 r).eraseIdx (s + j))) D → ∃ (G' : gH) (D' : (Nat → Option Nat) × (Nat → Option Nat)), f_M_change G o (nI y.1) (-1) (nI c) = rV G' ∧ MS w o G' (mChange (mRows (mSetC (mSet A 0 0) c (y.1, j, -1, y.2.2.2)) r ((A.1 r).eraseIdx (s + j))) y.1 (-1) (nI c)) (dS D D') ∧ mSq 0 0 G G' := fun G D h => by
              have k := s_change (z := -1) (exc := nI c) h hWB hvB hrB (by omega) (by show 0 ≤ (mLen A y.1 : Int) + _; omega) (by show ((A.1 r).length : Int) + _ ≤ 31; omega)
              rw [ofInt_m1] at k
              exact k
            generalize hAe : mChange (mRows (mSetC (mSet A 0 0) c (y.1, j, -1, y.2.2.2)) r ((A.1 r).eraseIdx (s + j))) y.1 (-1) (nI c) = A' at z2' g1 g2 g3 g5 hcA hIA hch
            obtain ⟨σ2, w1, w2⟩ := x_stand (b := b) (G := H) z2' hc3 hcA
            have w1' : f_U_stand (cPut b σ1 H) (b + 14) (nI c) (nI j) (-1) = rV (cPut b σ2 H) := w1
            have x3 := x_len (b := b) (G := H) (CRepx.of (exc := -1) w2) g1 g2
            refine Sim.yes (nI (mLen A' y.1)) σ2 ?_ (fun G D h => ?_)
            · unfold f_X_drop
              simp only [(x_needCursor hR).1 hC, x_isStale hR hc3 hcx, x_lastOf hR hc3 hcx, x_listOf hR hc3 hcx, hl, c_ob_0, c_fa_0_0, c_fa_0_1, c_fi_0_2, c_put_0_2, c_fi_0_3, c_put_0_3, c_fi_0_4, c_put_0_4, c_ob_1, c_fa_1_0, c_fa_1_1, c_fa_1_2, c_fa_1_3, c_fa_1_4, c_fa_1_5, c_fi_1_6, c_put_1_6, c_ob_2, c_fa_2_0, c_ob_4, c_fa_4_0, c_ob_6, c_fa_6_0, c_ob_8, c_fa_8_0, c_ob_10, c_fa_10_0, c_ob_12, c_fa_12_0, c_ob_14, c_fa_14_0, c_fa_14_1, c_fa_14_2, c_fa_14_3, c_fi_14_4, c_put_14_4, c_ob_15, c_fa_15_0, c_ob_17, c_fa_17_0, c_ob_19, c_fa_19_0, c_ob_21, c_fa_21_0, c_len_0, c_ld_0, c_st_0, c_rd_0, c_wr_0, c_len_1, c_ld_1, c_st_1, c_rd_1, c_wr_1, c_len_2, c_ld_2, c_st_2, c_rd_2, c_wr_2, c_len_3, c_ld_3, c_st_3, c_rd_3, c_wr_3, c_len_4, c_ld_4, c_st_4, c_rd_4, c_wr_4, c_len_5, c_ld_5, c_st_5, c_rd_5, c_wr_5, c_len_6, c_ld_6, c_st_6, c_rd_6, c_wr_6, c_len_7, c_ld_7, c_st_7, c_rd_7, c_wr_7, c_len_8, c_ld_8, c_st_8, c_rd_8, c_wr_8, c_len_9, c_ld_9, c_st_9, c_rd_9, c_wr_9, bI_rI, bL_rL, bA_rA, bV_rV, bI_th, bL_th, bA_th, bV_th, rZ_0, rZ_1]
              rw [mB_if, if_neg (by simp [hs]), if_neg hne]
              simp only [z1', w1', x3, c_ob_0, c_fa_0_0, c_fa_0_1, c_fi_0_2, c_put_0_2, c_fi_0_3, c_put_0_3, c_fi_0_4, c_put_0_4, c_ob_1, c_fa_1_0, c_fa_1_1, c_fa_1_2, c_fa_1_3, c_fa_1_4, c_fa_1_5, c_fi_1_6, c_put_1_6, c_ob_2, c_fa_2_0, c_ob_4, c_fa_4_0, c_ob_6, c_fa_6_0, c_ob_8, c_fa_8_0, c_ob_10, c_fa_10_0, c_ob_12, c_fa_12_0, c_ob_14, c_fa_14_0, c_fa_14_1, c_fa_14_2, c_fa_14_3, c_fi_14_4, c_put_14_4, c_ob_15, c_fa_15_0, c_ob_17, c_fa_17_0, c_ob_19, c_fa_19_0, c_ob_21, c_fa_21_0, c_len_0, c_ld_0, c_st_0, c_rd_0, c_wr_0, c_len_1, c_ld_1, c_st_1, c_rd_1, c_wr_1, c_len_2, c_ld_2, c_st_2, c_rd_2, c_wr_2, c_len_3, c_ld_3, c_st_3, c_rd_3, c_wr_3, c_len_4, c_ld_4, c_st_4, c_rd_4, c_wr_4, c_len_5, c_ld_5, c_st_5, c_rd_5, c_wr_5, c_len_6, c_ld_6, c_st_6, c_rd_6, c_wr_6, c_len_7, c_ld_7, c_st_7, c_rd_7, c_wr_7, c_len_8, c_ld_8, c_st_8, c_rd_8, c_wr_8, c_len_9, c_ld_9, c_st_9, c_rd_9, c_wr_9, bI_rI, bL_rL, bA_rA, bV_rV, bI_th, bL_th, bA_th, bV_th, rZ_0, rZ_1]
            · obtain ⟨G1, r1, h1, s1⟩ := r_cur1 h hC
              obtain ⟨q, hq⟩ := hq0 G D h
              obtain ⟨f0, f1, f2, f3⟩ := s_fi h1 hc3 hcx hq
              obtain ⟨G2, r2, h2, s2, -, -⟩ := s_take (i := j) h1 hW.1 hv hr ht
              obtain ⟨e0, e1, e2, e3⟩ := s_fi h2 hc3 hcx hq
              obtain ⟨G3, r3, h3, s3⟩ := s_put1 (n := j) h2 hc3 hcx hq (by omega)
              obtain ⟨G4, r4, h4, s4⟩ := s_put2 (v := -1) h3 hc3 mSetC_at hq
              rw [mSetC_mSetC] at h4
              have h4' : MS w o G4 (mRows (mSetC (mSet A 0 0) c (y.1, j, -1, y.2.2.2)) r ((A.1 r).eraseIdx (s + j))) D := h4
              obtain ⟨k0, -, -, -⟩ := s_fi h4' hc3 mSetC_at hq
              obtain ⟨G5, F, r5, h5, s5⟩ := hch G4 D h4'
              -- the list of the cursor is the same
              have hk4 : kC q (.int (nI y.1)) G4 := by
                obtain ⟨q', u1, -, -, u4⟩ := s_curq h4' hc3 mSetC_at
                cases u1.symm.trans hq
                exact ⟨_, u4, rfl⟩
              have hk5 : kC q (.int (nI y.1)) G5 := kp_change hk4 _ _ r5
              have l0 : ∀ k : Int32 → gR, gFI G5 q 4 0 k = k (nI y.1) := fun k => by
                obtain ⟨fs, u1, u2⟩ := hk5
                exact gFI_of u1 rfl u2
              refine ⟨_, _, G5, m, ?_, h5, w2, hIA, Nat.le_succ m, (g5 0 (by omega) (by omega)).trans rfl, ((((s1.trans s2).trans s3).trans s4).trans s5.st).mono (by omega) (by omega)⟩
              unfold f_M_drop
              rw [r1, s_ldC h1 hc3 hq, f3, if_pos hs, f2, hl, if_neg hne, f0, f2, hl, gOb_of h1.2.2.1 rfl, r2, bA_rA, e2, hl, r3, r4, k0, gOb_of h4'.2.2.1 rfl, r5, bV_rV, l0, gOb_of h5.2.2.1 rfl, s_len h5 g1 g2, bI_rI]
        · exact absurd (hs1.symm.trans hs) (by decide)
      · refine sim_fault hR hI (-9) ?_ (fun G D h => ?_)
        · unfold f_X_drop
          simp only [(x_needCursor hR).1 hC, x_isStale hR hc3 hcx, c_ob_0, c_fa_0_0, c_fa_0_1, c_fi_0_2, c_put_0_2, c_fi_0_3, c_put_0_3, c_fi_0_4, c_put_0_4, c_ob_1, c_fa_1_0, c_fa_1_1, c_fa_1_2, c_fa_1_3, c_fa_1_4, c_fa_1_5, c_fi_1_6, c_put_1_6, c_ob_2, c_fa_2_0, c_ob_4, c_fa_4_0, c_ob_6, c_fa_6_0, c_ob_8, c_fa_8_0, c_ob_10, c_fa_10_0, c_ob_12, c_fa_12_0, c_ob_14, c_fa_14_0, c_fa_14_1, c_fa_14_2, c_fa_14_3, c_fi_14_4, c_put_14_4, c_ob_15, c_fa_15_0, c_ob_17, c_fa_17_0, c_ob_19, c_fa_19_0, c_ob_21, c_fa_21_0, c_len_0, c_ld_0, c_st_0, c_rd_0, c_wr_0, c_len_1, c_ld_1, c_st_1, c_rd_1, c_wr_1, c_len_2, c_ld_2, c_st_2, c_rd_2, c_wr_2, c_len_3, c_ld_3, c_st_3, c_rd_3, c_wr_3, c_len_4, c_ld_4, c_st_4, c_rd_4, c_wr_4, c_len_5, c_ld_5, c_st_5, c_rd_5, c_wr_5, c_len_6, c_ld_6, c_st_6, c_rd_6, c_wr_6, c_len_7, c_ld_7, c_st_7, c_rd_7, c_wr_7, c_len_8, c_ld_8, c_st_8, c_rd_8, c_wr_8, c_len_9, c_ld_9, c_st_9, c_rd_9, c_wr_9, bI_rI, bL_rL, bA_rA, bV_rV, bI_th, bL_th, bA_th, bV_th, rZ_0, rZ_1]
          rw [mB_if, if_pos (by simp [hs])]
          rw [(x_fail (b := b) (H := H) hX (-9)).1, bI_rI]
        · obtain ⟨G1, r1, h1, s1⟩ := r_cur1 h hC
          obtain ⟨q, hq⟩ := hq0 G D h
          obtain ⟨f0, f1, f2, f3⟩ := s_fi h1 hc3 hcx hq
          obtain ⟨G2, r2, h2, s2⟩ := s_fault h1 (-9)
          refine ⟨G1, ?_, h1, s1⟩
          show f_M_drop G o (nI c) = _
          unfold f_M_drop
          rw [r1, s_ldC h1 hc3 hq, f3, if_neg hs, gOb_of h1.2.2.1 rfl, r2, bI_rI]
  · refine Sim.no hR hI 1 (by decide) (by decide) ?_ (fun G D h => ?_)
    · unfold f_X_drop
      simp only [(x_needCursor hR).2 hx, c_ob_0, c_fa_0_0, c_fa_0_1, c_fi_0_2, c_put_0_2, c_fi_0_3, c_put_0_3, c_fi_0_4, c_put_0_4, c_ob_1, c_fa_1_0, c_fa_1_1, c_fa_1_2, c_fa_1_3, c_fa_1_4, c_fa_1_5, c_fi_1_6, c_put_1_6, c_ob_2, c_fa_2_0, c_ob_4, c_fa_4_0, c_ob_6, c_fa_6_0, c_ob_8, c_fa_8_0, c_ob_10, c_fa_10_0, c_ob_12, c_fa_12_0, c_ob_14, c_fa_14_0, c_fa_14_1, c_fa_14_2, c_fa_14_3, c_fi_14_4, c_put_14_4, c_ob_15, c_fa_15_0, c_ob_17, c_fa_17_0, c_ob_19, c_fa_19_0, c_ob_21, c_fa_21_0, c_len_0, c_ld_0, c_st_0, c_rd_0, c_wr_0, c_len_1, c_ld_1, c_st_1, c_rd_1, c_wr_1, c_len_2, c_ld_2, c_st_2, c_rd_2, c_wr_2, c_len_3, c_ld_3, c_st_3, c_rd_3, c_wr_3, c_len_4, c_ld_4, c_st_4, c_rd_4, c_wr_4, c_len_5, c_ld_5, c_st_5, c_rd_5, c_wr_5, c_len_6, c_ld_6, c_st_6, c_rd_6, c_wr_6, c_len_7, c_ld_7, c_st_7, c_rd_7, c_wr_7, c_len_8, c_ld_8, c_st_8, c_rd_8, c_wr_8, c_len_9, c_ld_9, c_st_9, c_rd_9, c_wr_9, bI_rI, bL_rL, bA_rA, bV_rV, bI_th, bL_th, bA_th, bV_th, rZ_0, rZ_1]
      rfl
    · obtain ⟨G1, r1, h1, s1⟩ := r_cur0 h hx
      refine ⟨G1, ?_, h1, s1⟩
      unfold f_M_drop
      rw [r1]
      rfl
theorem sim_insert (hR : CRep σ A) (hI : mInv m A) (hm : m < 600) (x k : Int32) : SimOp w b o A m σ H xIAS (f_X_insert (cPut b σ H) b x k) (fun G => f_M_insert w G o x k) := by
  have hX := CRepx.of (exc := -1) hR
  by_cases hx : mIsC A x
  · have hC := hx
    obtain ⟨c, hc3, rfl, hcn⟩ := hx
    by_cases hk : mIsP 31 k
    · have hK := hk
      obtain ⟨k, hk31, rfl⟩ := hk
      cases hcx : A.2.2.1 c with
      | none => exact absurd hcx hcn
      | some y =>
        have hIt : mInv m (mSet A 0 0) := hI.thr 0
        obtain ⟨-, hy6, hv, hok⟩ := hI.2.2.2.1 c y hcx
        have hl31 := hI.l31 hv
        have hW := hI.w y.1
        obtain ⟨r, s, hr, hr2, hfit, h31, -, -⟩ := hI.pl hv
        have hq0 : ∀ (G : gH) (D : mD), MS w o G A D → ∃ q, D.2.2.2.2.2 c = some q := fun G D h => by
          obtain ⟨q, e, -⟩ := s_curq h hc3 hcx
          exact ⟨q, e⟩
        by_cases hf : (A.1 r).length + 1 ≤ 31
        · by_cases hs : y.2.2.2 = 0
          · rcases hok with ⟨-, hn, hla⟩ | ⟨hs1, -⟩
            · obtain ⟨hXt, hXM, hIM⟩ := b_made hR hI hm
              have hcM : (mSet (mSet A 0 0) 1 (nI (m + 1))).2.2.1 c = some y := hcx
              generalize hM : mSet (mSet A 0 0) 1 (nI (m + 1)) = M at hXM hIM hcM
              have hvM : mV M y.1 := by rw [← hM]; exact hv
              have hrM : mRw M.2.1 zDp y.1 = some (r, s) := by rw [← hM]; exact hr
              have hM1 : M.1 = A.1 := by rw [← hM]; rfl
              have hlM : mLen M y.1 = mLen A y.1 := by rw [← hM]; rfl
              have hM0 : M.2.2.2 0 = 0 := by rw [← hM]; rfl
              have hMm : M.2.2.2 1 = nI (m + 1) := hIM.2.2.2.2.1
              have hWB : mInw (nI c) y.1 (mSetC M c (y.1, y.2.1 + 1, -1, y.2.2.2)) := mInw.setC hIM hc3 hy6 hvM
              have hXB : CRepx (nI c) (cSetI σ 2 (nI (m + 1))) (mSetC M c (y.1, y.2.1 + 1, -1, y.2.2.2)) := CRepx.setC hXM hcM rfl rfl
              have hvB : mV (mSetC M c (y.1, y.2.1 + 1, -1, y.2.2.2)) y.1 := hvM
              have hrB : mRw (mSetC M c (y.1, y.2.1 + 1, -1, y.2.2.2)).2.1 zDp y.1 = some (r, s) := hrM
              have hlB : mLen (mSetC M c (y.1, y.2.1 + 1, -1, y.2.2.2)) y.1 = mLen A y.1 := hlM
              have hB1 : (mSetC M c (y.1, y.2.1 + 1, -1, y.2.2.2)).1 = A.1 := hM1
              have hil : ∀ a : Nat, ((A.1 r).insertIdx (s + y.2.1) (a, k, m)).length = (A.1 r).length + 1 := fun a => List.length_insertIdx_of_le_length (by omega) _
              obtain ⟨σ1, z1, z2, -, -⟩ := x_bringIn (b := b) (G := H) (i := y.2.1) (t := (0, k, m)) hXB hWB hvB hrB (by rw [hlB]; exact hn) (by rw [hB1]; omega)
              have z1' : f_X_bringIn (cPut b (cSetI σ 2 (nI (m + 1))) H) b (nI y.1) (nI y.2.1) (nI (32 * m + k)) (nI c) = rV (cPut b σ1 H) := z1
              rw [hB1] at z2
              have hA : ∀ a : Nat, _ := fun a => mChg_at (exc := nI c) (ts := (A.1 r).insertIdx (s + y.2.1) (a, k, m)) (z := 1) hWB hvB hrB (by omega) (by rw [hil a, hB1]; rfl) (by omega)
              have hcA : ∀ a : Nat, _ := fun a => mChg_cur (ts := (A.1 r).insertIdx (s + y.2.1) (a, k, m)) (z := 1) hWB hc3 hvB hrB (by omega)
              obtain ⟨σ2, w1, w2⟩ := x_stand (b := b) (G := H) z2 hc3 (hcA 0)
              have w1' : f_U_stand (cPut b σ1 H) (b + 14) (nI c) (nI (y.2.1 + 1)) (-1) = rV (cPut b σ2 H) := w1
              refine Sim.yes (nI m) σ2 ?_ (fun G D h => ?_)
              · unfold f_X_insert
                simp only [(x_needCursor hR).1 hC, x_needKey.1 hK, x_isStale hR hc3 hcx, x_listOf hR hc3 hcx, x_nextOf hR hc3 hcx, (x_needRoom (n := 1) hX hW.1 hv hr h31 (by omega)).1 hf, c_ob_0, c_fa_0_0, c_fa_0_1, c_fi_0_2, c_put_0_2, c_fi_0_3, c_put_0_3, c_fi_0_4, c_put_0_4, c_ob_1, c_fa_1_0, c_fa_1_1, c_fa_1_2, c_fa_1_3, c_fa_1_4, c_fa_1_5, c_fi_1_6, c_put_1_6, c_ob_2, c_fa_2_0, c_ob_4, c_fa_4_0, c_ob_6, c_fa_6_0, c_ob_8, c_fa_8_0, c_ob_10, c_fa_10_0, c_ob_12, c_fa_12_0, c_ob_14, c_fa_14_0, c_fa_14_1, c_fa_14_2, c_fa_14_3, c_fi_14_4, c_put_14_4, c_ob_15, c_fa_15_0, c_ob_17, c_fa_17_0, c_ob_19, c_fa_19_0, c_ob_21, c_fa_21_0, c_len_0, c_ld_0, c_st_0, c_rd_0, c_wr_0, c_len_1, c_ld_1, c_st_1, c_rd_1, c_wr_1, c_len_2, c_ld_2, c_st_2, c_rd_2, c_wr_2, c_len_3, c_ld_3, c_st_3, c_rd_3, c_wr_3, c_len_4, c_ld_4, c_st_4, c_rd_4, c_wr_4, c_len_5, c_ld_5, c_st_5, c_rd_5, c_wr_5, c_len_6, c_ld_6, c_st_6, c_rd_6, c_wr_6, c_len_7, c_ld_7, c_st_7, c_rd_7, c_wr_7, c_len_8, c_ld_8, c_st_8, c_rd_8, c_wr_8, c_len_9, c_ld_9, c_st_9, c_rd_9, c_wr_9, bI_rI, bL_rL, bA_rA, bV_rV, bI_th, bL_th, bA_th, bV_th, rZ_0, rZ_1]
                rw [mB_if, if_neg (by simp [hs]), nI_add]
                simp only [x_make hX hI.2.2.2.2.1 (show k < 32 by omega), z1', w1', x_tagOf (show k < 32 by omega) (show m ≤ 1000 by omega), c_ob_0, c_fa_0_0, c_fa_0_1, c_fi_0_2, c_put_0_2, c_fi_0_3, c_put_0_3, c_fi_0_4, c_put_0_4, c_ob_1, c_fa_1_0, c_fa_1_1, c_fa_1_2, c_fa_1_3, c_fa_1_4, c_fa_1_5, c_fi_1_6, c_put_1_6, c_ob_2, c_fa_2_0, c_ob_4, c_fa_4_0, c_ob_6, c_fa_6_0, c_ob_8, c_fa_8_0, c_ob_10, c_fa_10_0, c_ob_12, c_fa_12_0, c_ob_14, c_fa_14_0, c_fa_14_1, c_fa_14_2, c_fa_14_3, c_fi_14_4, c_put_14_4, c_ob_15, c_fa_15_0, c_ob_17, c_fa_17_0, c_ob_19, c_fa_19_0, c_ob_21, c_fa_21_0, c_len_0, c_ld_0, c_st_0, c_rd_0, c_wr_0, c_len_1, c_ld_1, c_st_1, c_rd_1, c_wr_1, c_len_2, c_ld_2, c_st_2, c_rd_2, c_wr_2, c_len_3, c_ld_3, c_st_3, c_rd_3, c_wr_3, c_len_4, c_ld_4, c_st_4, c_rd_4, c_wr_4, c_len_5, c_ld_5, c_st_5, c_rd_5, c_wr_5, c_len_6, c_ld_6, c_st_6, c_rd_6, c_wr_6, c_len_7, c_ld_7, c_st_7, c_rd_7, c_wr_7, c_len_8, c_ld_8, c_st_8, c_rd_8, c_wr_8, c_len_9, c_ld_9, c_st_9, c_rd_9, c_wr_9, bI_rI, bL_rL, bA_rA, bV_rV, bI_th, bL_th, bA_th, bV_th, rZ_0, rZ_1]
              · obtain ⟨G1, r1, h1, s1⟩ := r_cur1 h hC
                obtain ⟨q, hq⟩ := hq0 G D h
                obtain ⟨f0, f1, f2, f3⟩ := s_fi h1 hc3 hcx hq
                obtain ⟨G2, r2, h2, s2, t2⟩ := s_make (k := k) h1 (show (mSet A 0 0).2.2.2 1 = nI m from hI.2.2.2.2.1)
                rw [hM] at h2
                obtain ⟨G3, e', r3, h3, s3, -, -⟩ := s_come (i := y.2.1) (t := (G1.2.1, k, m)) h2 hIM.1 hvM hrM (by rw [hM1]; omega) (by rw [hM1]; omega) t2
                have r3' : f_M_come w G2 o (nI y.1) (nI y.2.1) G1.2.1 = rV G3 := r3
                have hq3 : (dRow D r e').2.2.2.2.2 c = some q := hq
                obtain ⟨e0, e1, e2, e3⟩ := s_fi h3 hc3 hcM hq3
                obtain ⟨G4, r4, h4, s4⟩ := s_put1 (n := y.2.1 + 1) h3 hc3 hcM hq3 (by omega)
                obtain ⟨G5, r5, h5, s5⟩ := s_put2 (v := -1) h4 hc3 mSetC_at hq3
                rw [mSetC_mSetC, hM1] at h5
                have h5' : MS w o G5 (mRows (mSetC M c (y.1, y.2.1 + 1, -1, y.2.2.2)) r ((A.1 r).insertIdx (s + y.2.1) (G1.2.1, k, m))) (dRow D r e') := h5
                obtain ⟨k0, -, -, -⟩ := s_fi h5' hc3 mSetC_at hq3
                obtain ⟨G6, F, r6, h6, s6⟩ := s_change (z := 1) (exc := nI c) h5' hWB hvB hrB (by omega) (by omega) (by rw [hB1]; omega)
                rw [ofInt_1] at r6
                obtain ⟨g1, g2, g3, g4, g5⟩ := hA G1.2.1
                refine ⟨_, _, G6, m + 1, ?_, h6, CRepx.ts (exc := -1) w2 ((hA 0).2.2.2.1) g4 (by rw [ins_map, ins_map]), mChg_inv (B := M) hIM hc3 rfl hy6 hvM hrM (by omega) (by rw [hil, hM1]; rfl) (by rw [hil]; omega) (by omega) (fun u hu => ?_) hs (by rw [hlM]; show ((y.2.1 + 1 : Nat) : Int) ≤ (mLen A y.1 : Int) + 1; omega) rfl, Nat.le_refl _, (g5 0 (by omega) (by omega)).trans hM0, (((((s1.trans s2).trans s3).trans s4).trans s5).trans s6.st).mono (by omega) (by omega)⟩
                · unfold f_M_insert
                  rw [r1, gOb_of h1.2.2.1 rfl, (s_noKey G1 o _).1 hK, bI_rI, r_ref0b h1 rfl, s_ldC h1 hc3 hq, f0, gOb_of h1.2.2.1 rfl, (s_isFull (n := 1) h1 hW.1 hv hr (by omega)).1 hf, bI_rI, r_ref0b h1 rfl, s_ldC h1 hc3 hq, f3, if_pos hs, f0, f1, gOb_of h1.2.2.1 rfl, r2, bA_rA, gOb_of h2.2.2.1 rfl, r3', bV_rV, e1, nI_add, r4, r5, k0, gOb_of h5'.2.2.1 rfl, r6, bV_rV, m_int h6.2.2 (j := 1) (i := 4) (by omega) rfl, g5 1 (by omega) (by omega)]
                  show rI (M.2.2.2 1 - nI 1) G6 = rI (nI m) G6
                  rw [hMm, nI_sub (by omega)]; rfl
                · rcases ins_mem _ _ hu with rfl | q
                  · exact ⟨hk31, Nat.lt_succ_self m⟩
                  · exact ⟨((hI.2.2.1 r hr2).2 u q).1, Nat.lt_succ_of_lt ((hI.2.2.1 r hr2).2 u q).2⟩
            · exact absurd (hs1.symm.trans hs) (by decide)
          · refine sim_fault hR hI (-9) ?_ (fun G D h => ?_)
            · unfold f_X_insert
              simp only [(x_needCursor hR).1 hC, x_needKey.1 hK, x_isStale hR hc3 hcx, x_listOf hR hc3 hcx, (x_needRoom (n := 1) hX hW.1 hv hr h31 (by omega)).1 hf, c_ob_0, c_fa_0_0, c_fa_0_1, c_fi_0_2, c_put_0_2, c_fi_0_3, c_put_0_3, c_fi_0_4, c_put_0_4, c_ob_1, c_fa_1_0, c_fa_1_1, c_fa_1_2, c_fa_1_3, c_fa_1_4, c_fa_1_5, c_fi_1_6, c_put_1_6, c_ob_2, c_fa_2_0, c_ob_4, c_fa_4_0, c_ob_6, c_fa_6_0, c_ob_8, c_fa_8_0, c_ob_10, c_fa_10_0, c_ob_12, c_fa_12_0, c_ob_14, c_fa_14_0, c_fa_14_1, c_fa_14_2, c_fa_14_3, c_fi_14_4, c_put_14_4, c_ob_15, c_fa_15_0, c_ob_17, c_fa_17_0, c_ob_19, c_fa_19_0, c_ob_21, c_fa_21_0, c_len_0, c_ld_0, c_st_0, c_rd_0, c_wr_0, c_len_1, c_ld_1, c_st_1, c_rd_1, c_wr_1, c_len_2, c_ld_2, c_st_2, c_rd_2, c_wr_2, c_len_3, c_ld_3, c_st_3, c_rd_3, c_wr_3, c_len_4, c_ld_4, c_st_4, c_rd_4, c_wr_4, c_len_5, c_ld_5, c_st_5, c_rd_5, c_wr_5, c_len_6, c_ld_6, c_st_6, c_rd_6, c_wr_6, c_len_7, c_ld_7, c_st_7, c_rd_7, c_wr_7, c_len_8, c_ld_8, c_st_8, c_rd_8, c_wr_8, c_len_9, c_ld_9, c_st_9, c_rd_9, c_wr_9, bI_rI, bL_rL, bA_rA, bV_rV, bI_th, bL_th, bA_th, bV_th, rZ_0, rZ_1]
              rw [mB_if, if_pos (by simp [hs])]
              rw [(x_fail (b := b) (H := H) hX (-9)).1, bI_rI]
            · obtain ⟨G1, r1, h1, s1⟩ := r_cur1 h hC
              obtain ⟨q, hq⟩ := hq0 G D h
              obtain ⟨f0, f1, f2, f3⟩ := s_fi h1 hc3 hcx hq
              obtain ⟨G2, r2, h2, s2⟩ := s_fault h1 (-9)
              refine ⟨G1, ?_, h1, s1⟩
              show f_M_insert w G o (nI c) (nI k) = _
              unfold f_M_insert
              rw [r1, gOb_of h1.2.2.1 rfl, (s_noKey G1 o _).1 hK, bI_rI, r_ref0b h1 rfl, s_ldC h1 hc3 hq, f0, gOb_of h1.2.2.1 rfl, (s_isFull (n := 1) h1 hW.1 hv hr (by omega)).1 hf, bI_rI, r_ref0b h1 rfl, s_ldC h1 hc3 hq, f3, if_neg hs, gOb_of h1.2.2.1 rfl, r2, bI_rI]
        · refine Sim.no hR hI 3 (by decide) (by decide) ?_ (fun G D h => ?_)
          · unfold f_X_insert
            simp only [(x_needCursor hR).1 hC, x_needKey.1 hK, x_listOf hR hc3 hcx, (x_needRoom (n := 1) hX hW.1 hv hr h31 (by omega)).2 (by omega), c_ob_0, c_fa_0_0, c_fa_0_1, c_fi_0_2, c_put_0_2, c_fi_0_3, c_put_0_3, c_fi_0_4, c_put_0_4, c_ob_1, c_fa_1_0, c_fa_1_1, c_fa_1_2, c_fa_1_3, c_fa_1_4, c_fa_1_5, c_fi_1_6, c_put_1_6, c_ob_2, c_fa_2_0, c_ob_4, c_fa_4_0, c_ob_6, c_fa_6_0, c_ob_8, c_fa_8_0, c_ob_10, c_fa_10_0, c_ob_12, c_fa_12_0, c_ob_14, c_fa_14_0, c_fa_14_1, c_fa_14_2, c_fa_14_3, c_fi_14_4, c_put_14_4, c_ob_15, c_fa_15_0, c_ob_17, c_fa_17_0, c_ob_19, c_fa_19_0, c_ob_21, c_fa_21_0, c_len_0, c_ld_0, c_st_0, c_rd_0, c_wr_0, c_len_1, c_ld_1, c_st_1, c_rd_1, c_wr_1, c_len_2, c_ld_2, c_st_2, c_rd_2, c_wr_2, c_len_3, c_ld_3, c_st_3, c_rd_3, c_wr_3, c_len_4, c_ld_4, c_st_4, c_rd_4, c_wr_4, c_len_5, c_ld_5, c_st_5, c_rd_5, c_wr_5, c_len_6, c_ld_6, c_st_6, c_rd_6, c_wr_6, c_len_7, c_ld_7, c_st_7, c_rd_7, c_wr_7, c_len_8, c_ld_8, c_st_8, c_rd_8, c_wr_8, c_len_9, c_ld_9, c_st_9, c_rd_9, c_wr_9, bI_rI, bL_rL, bA_rA, bV_rV, bI_th, bL_th, bA_th, bV_th, rZ_0, rZ_1]
            rfl
          · obtain ⟨G1, r1, h1, s1⟩ := r_cur1 h hC
            obtain ⟨q, hq⟩ := hq0 G D h
            obtain ⟨f0, f1, f2, f3⟩ := s_fi h1 hc3 hcx hq
            obtain ⟨G2, r2, h2, s2⟩ := r_no1b (c := 3) h1 (by decide)
            refine ⟨G2, ?_, h2, (s1.trans s2).mono (by omega) (by omega)⟩
            unfold f_M_insert
            rw [r1, gOb_of h1.2.2.1 rfl, (s_noKey G1 o _).1 hK, bI_rI, r_ref0b h1 rfl, s_ldC h1 hc3 hq, f0, gOb_of h1.2.2.1 rfl, (s_isFull (n := 1) h1 hW.1 hv hr (by omega)).2 (by show 31 < (A.1 r).length + 1; omega), bI_rI, r2]
            rfl
    · refine Sim.no hR hI 2 (by decide) (by decide) ?_ (fun G D h => ?_)
      · unfold f_X_insert
        simp only [(x_needCursor hR).1 hC, x_needKey.2 hk, c_ob_0, c_fa_0_0, c_fa_0_1, c_fi_0_2, c_put_0_2, c_fi_0_3, c_put_0_3, c_fi_0_4, c_put_0_4, c_ob_1, c_fa_1_0, c_fa_1_1, c_fa_1_2, c_fa_1_3, c_fa_1_4, c_fa_1_5, c_fi_1_6, c_put_1_6, c_ob_2, c_fa_2_0, c_ob_4, c_fa_4_0, c_ob_6, c_fa_6_0, c_ob_8, c_fa_8_0, c_ob_10, c_fa_10_0, c_ob_12, c_fa_12_0, c_ob_14, c_fa_14_0, c_fa_14_1, c_fa_14_2, c_fa_14_3, c_fi_14_4, c_put_14_4, c_ob_15, c_fa_15_0, c_ob_17, c_fa_17_0, c_ob_19, c_fa_19_0, c_ob_21, c_fa_21_0, c_len_0, c_ld_0, c_st_0, c_rd_0, c_wr_0, c_len_1, c_ld_1, c_st_1, c_rd_1, c_wr_1, c_len_2, c_ld_2, c_st_2, c_rd_2, c_wr_2, c_len_3, c_ld_3, c_st_3, c_rd_3, c_wr_3, c_len_4, c_ld_4, c_st_4, c_rd_4, c_wr_4, c_len_5, c_ld_5, c_st_5, c_rd_5, c_wr_5, c_len_6, c_ld_6, c_st_6, c_rd_6, c_wr_6, c_len_7, c_ld_7, c_st_7, c_rd_7, c_wr_7, c_len_8, c_ld_8, c_st_8, c_rd_8, c_wr_8, c_len_9, c_ld_9, c_st_9, c_rd_9, c_wr_9, bI_rI, bL_rL, bA_rA, bV_rV, bI_th, bL_th, bA_th, bV_th, rZ_0, rZ_1]
        rfl
      · obtain ⟨G1, r1, h1, s1⟩ := r_cur1 h hC
        obtain ⟨G2, r2, h2, s2⟩ := r_no1b (c := 2) h1 (by decide)
        refine ⟨G2, ?_, h2, (s1.trans s2).mono (by omega) (by omega)⟩
        unfold f_M_insert
        rw [r1, gOb_of h1.2.2.1 rfl, (s_noKey G1 o _).2 hk, bI_rI, r2]
        rfl
  · refine Sim.no hR hI 1 (by decide) (by decide) ?_ (fun G D h => ?_)
    · unfold f_X_insert
      simp only [(x_needCursor hR).2 hx, c_ob_0, c_fa_0_0, c_fa_0_1, c_fi_0_2, c_put_0_2, c_fi_0_3, c_put_0_3, c_fi_0_4, c_put_0_4, c_ob_1, c_fa_1_0, c_fa_1_1, c_fa_1_2, c_fa_1_3, c_fa_1_4, c_fa_1_5, c_fi_1_6, c_put_1_6, c_ob_2, c_fa_2_0, c_ob_4, c_fa_4_0, c_ob_6, c_fa_6_0, c_ob_8, c_fa_8_0, c_ob_10, c_fa_10_0, c_ob_12, c_fa_12_0, c_ob_14, c_fa_14_0, c_fa_14_1, c_fa_14_2, c_fa_14_3, c_fi_14_4, c_put_14_4, c_ob_15, c_fa_15_0, c_ob_17, c_fa_17_0, c_ob_19, c_fa_19_0, c_ob_21, c_fa_21_0, c_len_0, c_ld_0, c_st_0, c_rd_0, c_wr_0, c_len_1, c_ld_1, c_st_1, c_rd_1, c_wr_1, c_len_2, c_ld_2, c_st_2, c_rd_2, c_wr_2, c_len_3, c_ld_3, c_st_3, c_rd_3, c_wr_3, c_len_4, c_ld_4, c_st_4, c_rd_4, c_wr_4, c_len_5, c_ld_5, c_st_5, c_rd_5, c_wr_5, c_len_6, c_ld_6, c_st_6, c_rd_6, c_wr_6, c_len_7, c_ld_7, c_st_7, c_rd_7, c_wr_7, c_len_8, c_ld_8, c_st_8, c_rd_8, c_wr_8, c_len_9, c_ld_9, c_st_9, c_rd_9, c_wr_9, bI_rI, bL_rL, bA_rA, bV_rV, bI_th, bL_th, bA_th, bV_th, rZ_0, rZ_1]
      rfl
    · obtain ⟨G1, r1, h1, s1⟩ := r_cur0 h hx
      refine ⟨G1, ?_, h1, s1⟩
      unfold f_M_insert
      rw [r1]
      rfl
theorem sim_end (hR : CRep σ A) (hI : mInv m A) (x : Int32) : SimOp w b o A m σ H xI1 (f_X_end (cPut b σ H) b x) (fun G => f_M_end G o x) := by
  by_cases hx : mIsC A x
  · have hC := hx
    obtain ⟨c, hc3, rfl, hcn⟩ := hx
    cases hcx : A.2.2.1 c with
    | none => exact absurd hcx hcn
    | some y =>
      obtain ⟨σ', y1, y2⟩ := x_finishC (b := b) (G := H) hR hc3
      have hst : rZ y.2.2.2 = rI (mB (decide (¬ y.2.2.2 = 0))) := by
        funext G
        by_cases hs : y.2.2.2 = 0
        · rw [hs]; exact rZ_0
        · rw [stale_of hI hcx hs]; exact rZ_1
      have hIe : mInv m (mEndC A c) := by
        obtain ⟨a1, a2, a3, a4, a5, a6⟩ := hI
        refine ⟨a1, a2, a3, fun c' x hx => ?_, a5, a6⟩
        have hx' : va_up A.2.2.1 c none c' = some x := hx
        by_cases e : c' = c
        · rw [e, va_up_self] at hx'; cases hx'
        · rw [va_up_ne _ _ e] at hx'
          exact a4 c' x hx'
      refine Sim.yes (mB (decide (¬ y.2.2.2 = 0))) σ' ?_ (fun G D h => ?_)
      · unfold f_X_end
        simp only [(x_needCursor hR).1 hC, x_isStale hR hc3 hcx, y1, c_ob_0, c_fa_0_0, c_fa_0_1, c_fi_0_2, c_put_0_2, c_fi_0_3, c_put_0_3, c_fi_0_4, c_put_0_4, c_ob_1, c_fa_1_0, c_fa_1_1, c_fa_1_2, c_fa_1_3, c_fa_1_4, c_fa_1_5, c_fi_1_6, c_put_1_6, c_ob_2, c_fa_2_0, c_ob_4, c_fa_4_0, c_ob_6, c_fa_6_0, c_ob_8, c_fa_8_0, c_ob_10, c_fa_10_0, c_ob_12, c_fa_12_0, c_ob_14, c_fa_14_0, c_fa_14_1, c_fa_14_2, c_fa_14_3, c_fi_14_4, c_put_14_4, c_ob_15, c_fa_15_0, c_ob_17, c_fa_17_0, c_ob_19, c_fa_19_0, c_ob_21, c_fa_21_0, c_len_0, c_ld_0, c_st_0, c_rd_0, c_wr_0, c_len_1, c_ld_1, c_st_1, c_rd_1, c_wr_1, c_len_2, c_ld_2, c_st_2, c_rd_2, c_wr_2, c_len_3, c_ld_3, c_st_3, c_rd_3, c_wr_3, c_len_4, c_ld_4, c_st_4, c_rd_4, c_wr_4, c_len_5, c_ld_5, c_st_5, c_rd_5, c_wr_5, c_len_6, c_ld_6, c_st_6, c_rd_6, c_wr_6, c_len_7, c_ld_7, c_st_7, c_rd_7, c_wr_7, c_len_8, c_ld_8, c_st_8, c_rd_8, c_wr_8, c_len_9, c_ld_9, c_st_9, c_rd_9, c_wr_9, bI_rI, bL_rL, bA_rA, bV_rV, bI_th, bL_th, bA_th, bV_th, rZ_0, rZ_1]
        by_cases hs : y.2.2.2 = 0
        · simp only [hs]; exact rZ_0
        · simp only [hs]; exact rZ_1
      · obtain ⟨G1, r1, h1, s1⟩ := r_cur1 h hC
        obtain ⟨q, hq, -⟩ := s_curq h hc3 hcx
        obtain ⟨f0, f1, f2, f3⟩ := s_fi h1 hc3 hcx hq
        obtain ⟨G2, r2, h2, s2⟩ := m_endCursor h1.1 h1.2.2 hc3
        refine ⟨_, _, G2, m, ?_, h1.step s2.st h2, (CRepx.of (exc := -1) y2).thr 0, hIe, Nat.le_succ m, rfl, (s1.trans s2.st).mono (by omega) (by omega)⟩
        unfold f_M_end
        rw [r1, s_ldC h1 hc3 hq, f3, gOb_of h1.2.2.1 rfl, r2, bV_rV, hst]
  · refine Sim.no hR hI 1 (by decide) (by decide) ?_ (fun G D h => ?_)
    · unfold f_X_end
      simp only [(x_needCursor hR).2 hx, c_ob_0, c_fa_0_0, c_fa_0_1, c_fi_0_2, c_put_0_2, c_fi_0_3, c_put_0_3, c_fi_0_4, c_put_0_4, c_ob_1, c_fa_1_0, c_fa_1_1, c_fa_1_2, c_fa_1_3, c_fa_1_4, c_fa_1_5, c_fi_1_6, c_put_1_6, c_ob_2, c_fa_2_0, c_ob_4, c_fa_4_0, c_ob_6, c_fa_6_0, c_ob_8, c_fa_8_0, c_ob_10, c_fa_10_0, c_ob_12, c_fa_12_0, c_ob_14, c_fa_14_0, c_fa_14_1, c_fa_14_2, c_fa_14_3, c_fi_14_4, c_put_14_4, c_ob_15, c_fa_15_0, c_ob_17, c_fa_17_0, c_ob_19, c_fa_19_0, c_ob_21, c_fa_21_0, c_len_0, c_ld_0, c_st_0, c_rd_0, c_wr_0, c_len_1, c_ld_1, c_st_1, c_rd_1, c_wr_1, c_len_2, c_ld_2, c_st_2, c_rd_2, c_wr_2, c_len_3, c_ld_3, c_st_3, c_rd_3, c_wr_3, c_len_4, c_ld_4, c_st_4, c_rd_4, c_wr_4, c_len_5, c_ld_5, c_st_5, c_rd_5, c_wr_5, c_len_6, c_ld_6, c_st_6, c_rd_6, c_wr_6, c_len_7, c_ld_7, c_st_7, c_rd_7, c_wr_7, c_len_8, c_ld_8, c_st_8, c_rd_8, c_wr_8, c_len_9, c_ld_9, c_st_9, c_rd_9, c_wr_9, bI_rI, bL_rL, bA_rA, bV_rV, bI_th, bL_th, bA_th, bV_th, rZ_0, rZ_1]
      rfl
    · obtain ⟨G1, r1, h1, s1⟩ := r_cur0 h hx
      refine ⟨G1, ?_, h1, s1⟩
      unfold f_M_end
      rw [r1, rZ_0]
theorem sim_run (hR : CRep σ A) (hI : mInv m A) (x z : Int32) : SimOp w b o A m σ H xI1 (f_X_run (cPut b σ H) b x z) (fun G => f_M_run G o x z) := by
  have hX := CRepx.of (exc := -1) hR
  by_cases hx : mIsC A x
  · have hC := hx
    obtain ⟨c, hc3, rfl, hcn⟩ := hx
    cases hcx : A.2.2.1 c with
    | none => exact absurd hcx hcn
    | some y =>
      have hIt : mInv m (mSet A 0 0) := hI.thr 0
      obtain ⟨-, hy6, hv, hok⟩ := hI.2.2.2.1 c y hcx
      have hl31 := hI.l31 hv
      have hW := hI.w y.1
      have hq0 : ∀ (G : gH) (D : mD), MS w o G A D → ∃ q, D.2.2.2.2.2 c = some q := fun G D h => by
        obtain ⟨q, e, -⟩ := s_curq h hc3 hcx
        exact ⟨q, e⟩
      by_cases hs : y.2.2.2 = 0
      · rcases hok with ⟨-, hn, -⟩ | ⟨hs1, -⟩
        · by_cases hz : z = 0
          · have e1 : nI (mLen A y.1) - nI y.2.1 = nI (mLen A y.1 - y.2.1) := nI_sub hn
            by_cases hl : mLen A y.1 - y.2.1 = 0
            · -- there is none behind it
              have hl' : y.2.1 = mLen A y.1 := by omega
              refine Sim.yes 0 σ ?_ (fun G D h => ?_)
              · unfold f_X_run
                simp only [(x_needCursor hR).1 hC, x_isStale hR hc3 hcx, x_nextOf hR hc3 hcx, x_listOf hR hc3 hcx, x_len hX hW.1 hv, e1, hl, c_ob_0, c_fa_0_0, c_fa_0_1, c_fi_0_2, c_put_0_2, c_fi_0_3, c_put_0_3, c_fi_0_4, c_put_0_4, c_ob_1, c_fa_1_0, c_fa_1_1, c_fa_1_2, c_fa_1_3, c_fa_1_4, c_fa_1_5, c_fi_1_6, c_put_1_6, c_ob_2, c_fa_2_0, c_ob_4, c_fa_4_0, c_ob_6, c_fa_6_0, c_ob_8, c_fa_8_0, c_ob_10, c_fa_10_0, c_ob_12, c_fa_12_0, c_ob_14, c_fa_14_0, c_fa_14_1, c_fa_14_2, c_fa_14_3, c_fi_14_4, c_put_14_4, c_ob_15, c_fa_15_0, c_ob_17, c_fa_17_0, c_ob_19, c_fa_19_0, c_ob_21, c_fa_21_0, c_len_0, c_ld_0, c_st_0, c_rd_0, c_wr_0, c_len_1, c_ld_1, c_st_1, c_rd_1, c_wr_1, c_len_2, c_ld_2, c_st_2, c_rd_2, c_wr_2, c_len_3, c_ld_3, c_st_3, c_rd_3, c_wr_3, c_len_4, c_ld_4, c_st_4, c_rd_4, c_wr_4, c_len_5, c_ld_5, c_st_5, c_rd_5, c_wr_5, c_len_6, c_ld_6, c_st_6, c_rd_6, c_wr_6, c_len_7, c_ld_7, c_st_7, c_rd_7, c_wr_7, c_len_8, c_ld_8, c_st_8, c_rd_8, c_wr_8, c_len_9, c_ld_9, c_st_9, c_rd_9, c_wr_9, bI_rI, bL_rL, bA_rA, bV_rV, bI_th, bL_th, bA_th, bV_th, rZ_0, rZ_1]
                rw [mB_if, if_neg (by simp [hs]), if_pos hz, if_pos (by decide), if_pos (by decide)]
                rfl
              · obtain ⟨G1, r1, h1, s1⟩ := r_cur1 h hC
                obtain ⟨q, hq⟩ := hq0 G D h
                obtain ⟨f0, f1, f2, f3⟩ := s_fi h1 hc3 hcx hq
                obtain ⟨G2, r2, h2, s2⟩ := s_put1 (n := mLen A y.1) h1 hc3 hcx hq (by omega)
                have h2' : MS w o G2 (mSet A 0 0) D := by
                  have e : mSetC (mSet A 0 0) c (y.1, mLen A y.1, y.2.2) = mSet A 0 0 := by
                    rw [← hl']; exact mSetC_id hcx
                  rw [e] at h2; exact h2
                refine ⟨_, D, G2, m, ?_, h2', hX.thr 0, hIt, Nat.le_succ m, rfl, (s1.trans s2).mono (by omega) (by omega)⟩
                unfold f_M_run
                rw [r1, s_ldC h1 hc3 hq, f3, if_pos hs, if_pos hz, f0, gOb_of h1.2.2.1 rfl, s_len h1 hW.1 hv, bI_rI, f1, show nI (mLen (mSet A 0 0) y.1) - nI y.2.1 = nI 0 from by rw [← hl]; exact e1, if_pos (by decide), if_pos hz, f0, gOb_of h1.2.2.1 rfl, s_len h1 hW.1 hv, bI_rI]
                rw [show (∀ k : gH → gR, gPut G1 q 4 1 (.int (nI (mLen (mSet A 0 0) y.1))) k = k G2) from r2]
                rfl
            · have hpos : 0 < mLen A y.1 - y.2.1 := by omega
              have hnl : ¬ nI (mLen A y.1 - y.2.1) ≤ 0 := nI_ge (a := 0) hpos (by omega)
              have e2 : nI (mLen A y.1) - nI 1 = nI (mLen A y.1 - 1) := nI_sub (by omega)
              have hXs := CRepx.setC (y := (y.1, mLen A y.1, nI (mLen A y.1 - 1), y.2.2.2)) (A := mSet A 0 0) (hX.thr 0) hcx rfl rfl
              have hIs : mInv m (mSetC (mSet A 0 0) c (y.1, mLen A y.1, nI (mLen A y.1 - 1), y.2.2.2)) := hIt.setC hc3 ⟨hy6, hv, Or.inl ⟨hs, Nat.le_refl _, Or.inr ⟨mLen A y.1 - 1, show mLen A y.1 - 1 < mLen A y.1 by omega, rfl⟩⟩⟩
              obtain ⟨σ', y1, y2⟩ := x_stand (b := b) (G := H) hXs hc3 mSetC_at
              have y1' : f_U_stand (cPut b σ H) (b + 14) (nI c) (nI (mLen A y.1)) (nI (mLen A y.1 - 1)) = rV (cPut b σ' H) := y1
              refine Sim.yes (nI (mLen A y.1 - y.2.1)) σ' ?_ (fun G D h => ?_)
              · unfold f_X_run
                simp only [(x_needCursor hR).1 hC, x_isStale hR hc3 hcx, x_nextOf hR hc3 hcx, x_listOf hR hc3 hcx, x_len hX hW.1 hv, e1, e2, c_ob_0, c_fa_0_0, c_fa_0_1, c_fi_0_2, c_put_0_2, c_fi_0_3, c_put_0_3, c_fi_0_4, c_put_0_4, c_ob_1, c_fa_1_0, c_fa_1_1, c_fa_1_2, c_fa_1_3, c_fa_1_4, c_fa_1_5, c_fi_1_6, c_put_1_6, c_ob_2, c_fa_2_0, c_ob_4, c_fa_4_0, c_ob_6, c_fa_6_0, c_ob_8, c_fa_8_0, c_ob_10, c_fa_10_0, c_ob_12, c_fa_12_0, c_ob_14, c_fa_14_0, c_fa_14_1, c_fa_14_2, c_fa_14_3, c_fi_14_4, c_put_14_4, c_ob_15, c_fa_15_0, c_ob_17, c_fa_17_0, c_ob_19, c_fa_19_0, c_ob_21, c_fa_21_0, c_len_0, c_ld_0, c_st_0, c_rd_0, c_wr_0, c_len_1, c_ld_1, c_st_1, c_rd_1, c_wr_1, c_len_2, c_ld_2, c_st_2, c_rd_2, c_wr_2, c_len_3, c_ld_3, c_st_3, c_rd_3, c_wr_3, c_len_4, c_ld_4, c_st_4, c_rd_4, c_wr_4, c_len_5, c_ld_5, c_st_5, c_rd_5, c_wr_5, c_len_6, c_ld_6, c_st_6, c_rd_6, c_wr_6, c_len_7, c_ld_7, c_st_7, c_rd_7, c_wr_7, c_len_8, c_ld_8, c_st_8, c_rd_8, c_wr_8, c_len_9, c_ld_9, c_st_9, c_rd_9, c_wr_9, bI_rI, bL_rL, bA_rA, bV_rV, bI_th, bL_th, bA_th, bV_th, rZ_0, rZ_1]
                rw [mB_if, if_neg (by simp [hs]), if_pos hz, if_neg hnl, if_pos hz, if_neg hnl]
                simp only [y1', c_ob_0, c_fa_0_0, c_fa_0_1, c_fi_0_2, c_put_0_2, c_fi_0_3, c_put_0_3, c_fi_0_4, c_put_0_4, c_ob_1, c_fa_1_0, c_fa_1_1, c_fa_1_2, c_fa_1_3, c_fa_1_4, c_fa_1_5, c_fi_1_6, c_put_1_6, c_ob_2, c_fa_2_0, c_ob_4, c_fa_4_0, c_ob_6, c_fa_6_0, c_ob_8, c_fa_8_0, c_ob_10, c_fa_10_0, c_ob_12, c_fa_12_0, c_ob_14, c_fa_14_0, c_fa_14_1, c_fa_14_2, c_fa_14_3, c_fi_14_4, c_put_14_4, c_ob_15, c_fa_15_0, c_ob_17, c_fa_17_0, c_ob_19, c_fa_19_0, c_ob_21, c_fa_21_0, c_len_0, c_ld_0, c_st_0, c_rd_0, c_wr_0, c_len_1, c_ld_1, c_st_1, c_rd_1, c_wr_1, c_len_2, c_ld_2, c_st_2, c_rd_2, c_wr_2, c_len_3, c_ld_3, c_st_3, c_rd_3, c_wr_3, c_len_4, c_ld_4, c_st_4, c_rd_4, c_wr_4, c_len_5, c_ld_5, c_st_5, c_rd_5, c_wr_5, c_len_6, c_ld_6, c_st_6, c_rd_6, c_wr_6, c_len_7, c_ld_7, c_st_7, c_rd_7, c_wr_7, c_len_8, c_ld_8, c_st_8, c_rd_8, c_wr_8, c_len_9, c_ld_9, c_st_9, c_rd_9, c_wr_9, bI_rI, bL_rL, bA_rA, bV_rV, bI_th, bL_th, bA_th, bV_th, rZ_0, rZ_1]
              · obtain ⟨G1, r1, h1, s1⟩ := r_cur1 h hC
                obtain ⟨q, hq⟩ := hq0 G D h
                obtain ⟨f0, f1, f2, f3⟩ := s_fi h1 hc3 hcx hq
                obtain ⟨G2, r2, h2, s2⟩ := s_put2 (v := nI (mLen A y.1 - 1)) h1 hc3 hcx hq
                obtain ⟨g0, g1, g2, g3⟩ := s_fi h2 hc3 mSetC_at hq
                obtain ⟨G3, r3, h3, s3⟩ := s_put1 (n := mLen A y.1) h2 hc3 mSetC_at hq (by omega)
                rw [mSetC_mSetC] at h3
                have h3' : MS w o G3 (mSetC (mSet A 0 0) c (y.1, mLen A y.1, nI (mLen A y.1 - 1), y.2.2.2)) D := h3
                have l1 : f_M_length G1 o (nI y.1) = rI (nI (mLen A y.1)) G1 := s_len h1 hW.1 hv
                have l2 : f_M_length G2 o (nI y.1) = rI (nI (mLen A y.1)) G2 := s_len h2 hW.1 hv
                refine ⟨_, D, G3, m, ?_, h3', y2, hIs, Nat.le_succ m, rfl, ((s1.trans s2).trans s3).mono (by omega) (by omega)⟩
                unfold f_M_run
                rw [r1, s_ldC h1 hc3 hq, f3, if_pos hs, if_pos hz, f0, gOb_of h1.2.2.1 rfl, l1, bI_rI, f1, e1, if_neg hnl, if_pos hz, f0, gOb_of h1.2.2.1 rfl, l1, bI_rI, e2, r2, if_pos hz, g0, gOb_of h2.2.2.1 rfl, l2, bI_rI, r3]
          · by_cases hl : y.2.1 = 0
            · refine Sim.yes 0 σ ?_ (fun G D h => ?_)
              · unfold f_X_run
                simp only [(x_needCursor hR).1 hC, x_isStale hR hc3 hcx, x_nextOf hR hc3 hcx, x_listOf hR hc3 hcx, x_len hX hW.1 hv, hl, c_ob_0, c_fa_0_0, c_fa_0_1, c_fi_0_2, c_put_0_2, c_fi_0_3, c_put_0_3, c_fi_0_4, c_put_0_4, c_ob_1, c_fa_1_0, c_fa_1_1, c_fa_1_2, c_fa_1_3, c_fa_1_4, c_fa_1_5, c_fi_1_6, c_put_1_6, c_ob_2, c_fa_2_0, c_ob_4, c_fa_4_0, c_ob_6, c_fa_6_0, c_ob_8, c_fa_8_0, c_ob_10, c_fa_10_0, c_ob_12, c_fa_12_0, c_ob_14, c_fa_14_0, c_fa_14_1, c_fa_14_2, c_fa_14_3, c_fi_14_4, c_put_14_4, c_ob_15, c_fa_15_0, c_ob_17, c_fa_17_0, c_ob_19, c_fa_19_0, c_ob_21, c_fa_21_0, c_len_0, c_ld_0, c_st_0, c_rd_0, c_wr_0, c_len_1, c_ld_1, c_st_1, c_rd_1, c_wr_1, c_len_2, c_ld_2, c_st_2, c_rd_2, c_wr_2, c_len_3, c_ld_3, c_st_3, c_rd_3, c_wr_3, c_len_4, c_ld_4, c_st_4, c_rd_4, c_wr_4, c_len_5, c_ld_5, c_st_5, c_rd_5, c_wr_5, c_len_6, c_ld_6, c_st_6, c_rd_6, c_wr_6, c_len_7, c_ld_7, c_st_7, c_rd_7, c_wr_7, c_len_8, c_ld_8, c_st_8, c_rd_8, c_wr_8, c_len_9, c_ld_9, c_st_9, c_rd_9, c_wr_9, bI_rI, bL_rL, bA_rA, bV_rV, bI_th, bL_th, bA_th, bV_th, rZ_0, rZ_1]
                rw [mB_if, if_neg (by simp [hs]), if_neg hz, if_pos (by decide), if_pos (by decide)]
                rfl
              · obtain ⟨G1, r1, h1, s1⟩ := r_cur1 h hC
                obtain ⟨q, hq⟩ := hq0 G D h
                obtain ⟨f0, f1, f2, f3⟩ := s_fi h1 hc3 hcx hq
                obtain ⟨G2, r2, h2, s2⟩ := s_put1 (n := 0) h1 hc3 hcx hq (by omega)
                have h2' : MS w o G2 (mSet A 0 0) D := by
                  have e : mSetC (mSet A 0 0) c (y.1, 0, y.2.2) = mSet A 0 0 := by
                    rw [← hl]; exact mSetC_id hcx
                  rw [e] at h2; exact h2
                refine ⟨_, D, G2, m, ?_, h2', hX.thr 0, hIt, Nat.le_succ m, rfl, (s1.trans s2).mono (by omega) (by omega)⟩
                unfold f_M_run
                rw [r1, s_ldC h1 hc3 hq, f3, if_pos hs, if_neg hz, f1, hl, if_pos (by decide), if_neg hz, r2]
                rfl
            · have hnl : ¬ nI y.2.1 ≤ 0 := nI_ge (a := 0) (by omega) (by omega)
              have hXs := CRepx.setC (y := (y.1, 0, nI 0, y.2.2.2)) (A := mSet A 0 0) (hX.thr 0) hcx rfl rfl
              have hIs : mInv m (mSetC (mSet A 0 0) c (y.1, 0, nI 0, y.2.2.2)) := hIt.setC hc3 ⟨hy6, hv, Or.inl ⟨hs, Nat.zero_le _, Or.inr ⟨0, show 0 < mLen A y.1 by omega, rfl⟩⟩⟩
              obtain ⟨σ', y1, y2⟩ := x_stand (b := b) (G := H) hXs hc3 mSetC_at
              have y1' : f_U_stand (cPut b σ H) (b + 14) (nI c) (nI 0) (nI 0) = rV (cPut b σ' H) := y1
              refine Sim.yes (nI y.2.1) σ' ?_ (fun G D h => ?_)
              · unfold f_X_run
                simp only [(x_needCursor hR).1 hC, x_isStale hR hc3 hcx, x_nextOf hR hc3 hcx, x_listOf hR hc3 hcx, x_len hX hW.1 hv, c_ob_0, c_fa_0_0, c_fa_0_1, c_fi_0_2, c_put_0_2, c_fi_0_3, c_put_0_3, c_fi_0_4, c_put_0_4, c_ob_1, c_fa_1_0, c_fa_1_1, c_fa_1_2, c_fa_1_3, c_fa_1_4, c_fa_1_5, c_fi_1_6, c_put_1_6, c_ob_2, c_fa_2_0, c_ob_4, c_fa_4_0, c_ob_6, c_fa_6_0, c_ob_8, c_fa_8_0, c_ob_10, c_fa_10_0, c_ob_12, c_fa_12_0, c_ob_14, c_fa_14_0, c_fa_14_1, c_fa_14_2, c_fa_14_3, c_fi_14_4, c_put_14_4, c_ob_15, c_fa_15_0, c_ob_17, c_fa_17_0, c_ob_19, c_fa_19_0, c_ob_21, c_fa_21_0, c_len_0, c_ld_0, c_st_0, c_rd_0, c_wr_0, c_len_1, c_ld_1, c_st_1, c_rd_1, c_wr_1, c_len_2, c_ld_2, c_st_2, c_rd_2, c_wr_2, c_len_3, c_ld_3, c_st_3, c_rd_3, c_wr_3, c_len_4, c_ld_4, c_st_4, c_rd_4, c_wr_4, c_len_5, c_ld_5, c_st_5, c_rd_5, c_wr_5, c_len_6, c_ld_6, c_st_6, c_rd_6, c_wr_6, c_len_7, c_ld_7, c_st_7, c_rd_7, c_wr_7, c_len_8, c_ld_8, c_st_8, c_rd_8, c_wr_8, c_len_9, c_ld_9, c_st_9, c_rd_9, c_wr_9, bI_rI, bL_rL, bA_rA, bV_rV, bI_th, bL_th, bA_th, bV_th, rZ_0, rZ_1]
                rw [mB_if, if_neg (by simp [hs]), if_neg hz, if_neg hnl, if_neg hz]
                simp only [y1', c_ob_0, c_fa_0_0, c_fa_0_1, c_fi_0_2, c_put_0_2, c_fi_0_3, c_put_0_3, c_fi_0_4, c_put_0_4, c_ob_1, c_fa_1_0, c_fa_1_1, c_fa_1_2, c_fa_1_3, c_fa_1_4, c_fa_1_5, c_fi_1_6, c_put_1_6, c_ob_2, c_fa_2_0, c_ob_4, c_fa_4_0, c_ob_6, c_fa_6_0, c_ob_8, c_fa_8_0, c_ob_10, c_fa_10_0, c_ob_12, c_fa_12_0, c_ob_14, c_fa_14_0, c_fa_14_1, c_fa_14_2, c_fa_14_3, c_fi_14_4, c_put_14_4, c_ob_15, c_fa_15_0, c_ob_17, c_fa_17_0, c_ob_19, c_fa_19_0, c_ob_21, c_fa_21_0, c_len_0, c_ld_0, c_st_0, c_rd_0, c_wr_0, c_len_1, c_ld_1, c_st_1, c_rd_1, c_wr_1, c_len_2, c_ld_2, c_st_2, c_rd_2, c_wr_2, c_len_3, c_ld_3, c_st_3, c_rd_3, c_wr_3, c_len_4, c_ld_4, c_st_4, c_rd_4, c_wr_4, c_len_5, c_ld_5, c_st_5, c_rd_5, c_wr_5, c_len_6, c_ld_6, c_st_6, c_rd_6, c_wr_6, c_len_7, c_ld_7, c_st_7, c_rd_7, c_wr_7, c_len_8, c_ld_8, c_st_8, c_rd_8, c_wr_8, c_len_9, c_ld_9, c_st_9, c_rd_9, c_wr_9, bI_rI, bL_rL, bA_rA, bV_rV, bI_th, bL_th, bA_th, bV_th, rZ_0, rZ_1]
              · obtain ⟨G1, r1, h1, s1⟩ := r_cur1 h hC
                obtain ⟨q, hq⟩ := hq0 G D h
                obtain ⟨f0, f1, f2, f3⟩ := s_fi h1 hc3 hcx hq
                obtain ⟨G2, r2, h2, s2⟩ := s_put2 (v := nI 0) h1 hc3 hcx hq
                obtain ⟨G3, r3, h3, s3⟩ := s_put1 (n := 0) h2 hc3 mSetC_at hq (by omega)
                rw [mSetC_mSetC] at h3
                have h3' : MS w o G3 (mSetC (mSet A 0 0) c (y.1, 0, nI 0, y.2.2.2)) D := h3
                refine ⟨_, D, G3, m, ?_, h3', y2, hIs, Nat.le_succ m, rfl, ((s1.trans s2).trans s3).mono (by omega) (by omega)⟩
                unfold f_M_run
                rw [r1, s_ldC h1 hc3 hq, f3, if_pos hs, if_neg hz, f1, if_neg hnl, if_neg hz, r2, if_neg hz, r3]
        · exact absurd (hs1.symm.trans hs) (by decide)
      · refine sim_fault hR hI (-9) ?_ (fun G D h => ?_)
        · unfold f_X_run
          simp only [(x_needCursor hR).1 hC, x_isStale hR hc3 hcx, c_ob_0, c_fa_0_0, c_fa_0_1, c_fi_0_2, c_put_0_2, c_fi_0_3, c_put_0_3, c_fi_0_4, c_put_0_4, c_ob_1, c_fa_1_0, c_fa_1_1, c_fa_1_2, c_fa_1_3, c_fa_1_4, c_fa_1_5, c_fi_1_6, c_put_1_6, c_ob_2, c_fa_2_0, c_ob_4, c_fa_4_0, c_ob_6, c_fa_6_0, c_ob_8, c_fa_8_0, c_ob_10, c_fa_10_0, c_ob_12, c_fa_12_0, c_ob_14, c_fa_14_0, c_fa_14_1, c_fa_14_2, c_fa_14_3, c_fi_14_4, c_put_14_4, c_ob_15, c_fa_15_0, c_ob_17, c_fa_17_0, c_ob_19, c_fa_19_0, c_ob_21, c_fa_21_0, c_len_0, c_ld_0, c_st_0, c_rd_0, c_wr_0, c_len_1, c_ld_1, c_st_1, c_rd_1, c_wr_1, c_len_2, c_ld_2, c_st_2, c_rd_2, c_wr_2, c_len_3, c_ld_3, c_st_3, c_rd_3, c_wr_3, c_len_4, c_ld_4, c_st_4, c_rd_4, c_wr_4, c_len_5, c_ld_5, c_st_5, c_rd_5, c_wr_5, c_len_6, c_ld_6, c_st_6, c_rd_6, c_wr_6, c_len_7, c_ld_7, c_st_7, c_rd_7, c_wr_7, c_len_8, c_ld_8, c_st_8, c_rd_8, c_wr_8, c_len_9, c_ld_9, c_st_9, c_rd_9, c_wr_9, bI_rI, bL_rL, bA_rA, bV_rV, bI_th, bL_th, bA_th, bV_th, rZ_0, rZ_1]
          rw [mB_if, if_pos (by simp [hs])]
          rw [(x_fail (b := b) (H := H) hX (-9)).1, bI_rI]
        · obtain ⟨G1, r1, h1, s1⟩ := r_cur1 h hC
          obtain ⟨q, hq⟩ := hq0 G D h
          obtain ⟨f0, f1, f2, f3⟩ := s_fi h1 hc3 hcx hq
          obtain ⟨G2, r2, h2, s2⟩ := s_fault h1 (-9)
          refine ⟨G1, ?_, h1, s1⟩
          show f_M_run G o (nI c) z = _
          unfold f_M_run
          rw [r1, s_ldC h1 hc3 hq, f3, if_neg hs, gOb_of h1.2.2.1 rfl, r2, bI_rI]
  · refine Sim.no hR hI 1 (by decide) (by decide) ?_ (fun G D h => ?_)
    · unfold f_X_run
      simp only [(x_needCursor hR).2 hx, c_ob_0, c_fa_0_0, c_fa_0_1, c_fi_0_2, c_put_0_2, c_fi_0_3, c_put_0_3, c_fi_0_4, c_put_0_4, c_ob_1, c_fa_1_0, c_fa_1_1, c_fa_1_2, c_fa_1_3, c_fa_1_4, c_fa_1_5, c_fi_1_6, c_put_1_6, c_ob_2, c_fa_2_0, c_ob_4, c_fa_4_0, c_ob_6, c_fa_6_0, c_ob_8, c_fa_8_0, c_ob_10, c_fa_10_0, c_ob_12, c_fa_12_0, c_ob_14, c_fa_14_0, c_fa_14_1, c_fa_14_2, c_fa_14_3, c_fi_14_4, c_put_14_4, c_ob_15, c_fa_15_0, c_ob_17, c_fa_17_0, c_ob_19, c_fa_19_0, c_ob_21, c_fa_21_0, c_len_0, c_ld_0, c_st_0, c_rd_0, c_wr_0, c_len_1, c_ld_1, c_st_1, c_rd_1, c_wr_1, c_len_2, c_ld_2, c_st_2, c_rd_2, c_wr_2, c_len_3, c_ld_3, c_st_3, c_rd_3, c_wr_3, c_len_4, c_ld_4, c_st_4, c_rd_4, c_wr_4, c_len_5, c_ld_5, c_st_5, c_rd_5, c_wr_5, c_len_6, c_ld_6, c_st_6, c_rd_6, c_wr_6, c_len_7, c_ld_7, c_st_7, c_rd_7, c_wr_7, c_len_8, c_ld_8, c_st_8, c_rd_8, c_wr_8, c_len_9, c_ld_9, c_st_9, c_rd_9, c_wr_9, bI_rI, bL_rL, bA_rA, bV_rV, bI_th, bL_th, bA_th, bV_th, rZ_0, rZ_1]
      rfl
    · obtain ⟨G1, r1, h1, s1⟩ := r_cur0 h hx
      refine ⟨G1, ?_, h1, s1⟩
      unfold f_M_run
      rw [r1]
      rfl
end Ins
end
section
-- what is asked: key by key
section KMath
def kLa (k : Nat) (ks : List Nat) : Nat → Option Nat
  | 0 => none
  | j + 1 => if ks[j]? = some k then some j else kLa k ks j
def kFi (k : Nat) : List Nat → Nat → Option Nat
  | [], _ => none
  | a :: l, j => if a = k then some j else kFi k l (j + 1)
def kCt (g : Nat → Bool) : List Nat → Nat
  | [] => 0
  | a :: l => (if g a = true then 1 else 0) + kCt g l
def kM (ks : List Nat) : Nat → List Nat → Bool
  | _, [] => true
  | i, a :: l => if ks[i]? = some a then kM ks (i + 1) l else false
def kF (ks os : List Nat) : Nat → Nat → Option Nat
  | 0, _ => none
  | d + 1, j => if ks.length < os.length + j then none else if kM ks j os = true then some j else kF ks os d (j + 1)
def kSo : Nat → List Nat → Bool
  | _, [] => true
  | a, k :: l => if a ≤ k then kSo k l else false
def kPr (k : Nat) : List Nat → Nat
  | [] => 0
  | a :: l => if a < k then kPr k l + 1 else 0
def kEx (z : Bool) : Option Nat → List Nat → Option Nat
  | x, [] => x
  | none, a :: l => kEx z (some a) l
  | some y, a :: l => if (if z = true then a < y else y < a) then kEx z (some a) l else kEx z (some y) l
def kH : Int32 → List Nat → Int32
  | h, [] => h
  | h, a :: l => kH (h * nI 31 + nI a) l
def kS (A : mS) (r s n : Nat) : List Nat := (sSeg A r s n).map fun t => t.2.1
theorem dr_cons {α : Type} {ks l : List α} {j : Nat} {k : α} (h : ks.drop j = k :: l) : ks[j]? = some k ∧ ks.drop (j + 1) = l ∧ j < ks.length := by
  have e : ks[j]? = some k := by
    have : (ks.drop j)[0]? = some k := by rw [h]; rfl
    rw [List.getElem?_drop] at this; exact this
  refine ⟨e, by rw [← List.drop_drop, h]; rfl, (List.getElem?_eq_some_iff.mp e).1⟩
theorem dr_nil {α : Type} {ks : List α} {j : Nat} (h : ks.drop j = []) : ks.length ≤ j := by
  have := congrArg List.length h
  rw [List.length_drop] at this
  simp at this; omega
theorem kFi_s {k : Nat} : ∀ (l : List (Nat × Nat × Nat)) (j : Nat), sFi k l j = kFi k (l.map fun t => t.2.1) j
  | [], _ => rfl
  | t :: ts, j => by
    show (if t.2.1 = k then some j else sFi k ts (j + 1)) = (if t.2.1 = k then some j else kFi k (ts.map fun t => t.2.1) (j + 1))
    rw [kFi_s ts (j + 1)]
theorem kFi_lt {k : Nat} : ∀ (l : List Nat) (j i : Nat), kFi k l j = some i → j ≤ i ∧ i < j + l.length
  | [], _, _, h => by cases h
  | a :: l, j, i, h => by
    unfold kFi at h
    by_cases e : a = k
    · rw [if_pos e] at h
      cases h
      simp
    · rw [if_neg e] at h
      have := kFi_lt l (j + 1) i h
      simp only [List.length_cons]
      omega
theorem kFi_none {k : Nat} : ∀ (l : List Nat) (j : Nat), kFi k l j = none ↔ k ∉ l
  | [], _ => by simp [kFi]
  | a :: l, j => by
    unfold kFi
    by_cases e : a = k
    · rw [if_pos e]; simp [e]
    · rw [if_neg e, kFi_none l (j + 1)]
      simp only [List.mem_cons, not_or]
      exact ⟨fun h => ⟨fun q => e q.symm, h⟩, fun h => h.2⟩
theorem kLa_lt {k : Nat} {ks : List Nat} : ∀ (j i : Nat), kLa k ks j = some i → i < j
  | 0, _, h => by cases h
  | j + 1, i, h => by
    unfold kLa at h
    by_cases e : ks[j]? = some k
    · rw [if_pos e] at h
      cases h
      omega
    · rw [if_neg e] at h
      have := kLa_lt j i h
      omega
theorem kCt_le {g : Nat → Bool} : ∀ (l : List Nat), kCt g l ≤ l.length
  | [] => Nat.le_refl _
  | a :: l => by
    have := kCt_le (g := g) l
    unfold kCt
    simp only [List.length_cons]
    split <;> omega
/-- below a key in a sorted row: as many as lie ahead -/
theorem kPr_so {k : Nat} : ∀ (l : List Nat) (a : Nat), kSo a l = true → (k ≤ a → kCt (fun x => decide (x < k)) l = 0) ∧ kCt (fun x => decide (x < k)) l = kPr k l
  | [], _, _ => ⟨fun _ => rfl, rfl⟩
  | c :: l, a, h => by
    unfold kSo at h
    by_cases e : a ≤ c
    · rw [if_pos e] at h
      obtain ⟨h1, h2⟩ := kPr_so (k := k) l c h
      unfold kCt kPr
      by_cases ec : c < k
      · rw [if_pos (decide_eq_true ec), if_pos ec]
        exact ⟨fun q => by omega, by omega⟩
      · rw [if_neg (by simp [ec]), if_neg ec]
        have := h1 (by omega)
        exact ⟨fun _ => by omega, by omega⟩
    · rw [if_neg e] at h; cases h
end KMath
section KC
/-- the keys of a list, as the class reads them -/
def kyC (b : Nat) (σ : cS) (H : gH) (p : Nat) (ks : List Nat) : Prop := (∀ i k, ks[i]? = some k → f_I_keyAt (cPut b σ H) (b + 1) (nI p) (nI i) = rI (nI k) (cPut b σ H)) ∧ f_I_lengthOf (cPut b σ H) (b + 1) (nI p) = rI (nI ks.length) (cPut b σ H) ∧ ks.length ≤ 31 ∧ ∀ k, k ∈ ks → k < 31
variable {b : Nat} {σ : cS} {H : gH} {p q : Nat} {ks os : List Nat}
theorem kyC.k31 (h : kyC b σ H p ks) {i k : Nat} (hk : ks[i]? = some k) : k < 31 := h.2.2.2 k (List.mem_of_getElem? hk)
theorem c_firstL (h : kyC b σ H p ks) {K1 : gH → Int32 → gR} {K2 : gH → gR} {k : Nat} (hk : k < 31) : ∀ (l : List Nat) (n j : Nat), ks.drop j = l → j ≤ ks.length → l.length < n →
    f_I_firstOf_L9 K1 K2 n (cPut b σ H) (b + 1) (nI p) (nI k) (nI ks.length) (nI j) = match kFi k l j with
      | some i => K1 (cPut b σ H) (nI i)
      | none => K2 (cPut b σ H)
  | _, 0, _, _, _, h => absurd h (Nat.not_lt_zero _)
  | [], n + 1, j, hd, hj, _ => by
    have h31 := h.2.2.1
    unfold f_I_firstOf_L9
    rw [if_pos (nI_le (dr_nil hd) (by omega))]; rfl
  | a :: l, n + 1, j, hd, hj, hn => by
    have h31 := h.2.2.1
    obtain ⟨e1, e2, e3⟩ := dr_cons hd
    have ha := h.k31 e1
    unfold f_I_firstOf_L9
    rw [if_neg (nI_ge e3 (by omega)), c_ob_1, h.1 j a e1, bI_rI]
    unfold kFi
    by_cases e : a = k
    · rw [if_pos (by rw [e]), if_pos e]
    · rw [if_neg (fun q => e ((nI_eq (by omega) (by omega)).mp q)), if_neg e, nI_add]
      exact c_firstL h hk l n (j + 1) e2 (by omega) (by simp at hn; omega)
theorem c_first (h : kyC b σ H p ks) {k : Nat} (hk : k < 31) : f_I_firstOf (cPut b σ H) (b + 1) (nI p) (nI k) = rI (sNo (kFi k ks 0)) (cPut b σ H) := by
  unfold f_I_firstOf
  rw [c_ob_1, h.2.1, bI_rI, c_firstL h hk _ zFu 0 (List.drop_zero ..) (Nat.zero_le _) (by have := h.2.2.1; unfold zFu; omega)]
  cases kFi k ks 0 <;> rfl
theorem c_lastL (h : kyC b σ H p ks) {K1 : gH → Int32 → gR} {K2 : gH → gR} {k : Nat} (hk : k < 31) : ∀ (j n : Nat), j ≤ ks.length → j < n →
    f_I_lastOf_L8 K1 K2 n (cPut b σ H) (b + 1) (nI p) (nI k) (nI j + (-1)) = match kLa k ks j with
      | some i => K1 (cPut b σ H) (nI i)
      | none => K2 (cPut b σ H)
  | _, 0, _, h => absurd h (Nat.not_lt_zero _)
  | 0, n + 1, hj, _ => by
    unfold f_I_lastOf_L8
    rw [if_pos (by decide)]; rfl
  | j + 1, n + 1, hj, hn => by
    have h31 := h.2.2.1
    have e1 := List.getElem?_eq_getElem (show j < ks.length by omega)
    generalize ks[j] = a at e1
    have ha := h.k31 e1
    unfold f_I_lastOf_L8
    rw [nI_m1, if_neg (nI_pos (by omega)), c_ob_1, h.1 j a e1, bI_rI]
    unfold kLa
    rw [e1]
    by_cases e : a = k
    · rw [if_pos (by rw [e]), if_pos (by rw [e])]
    · rw [if_neg (fun q => e ((nI_eq (by omega) (by omega)).mp q)), if_neg (fun q => e (Option.some.inj q))]
      exact c_lastL h hk j n (by omega) (by omega)
theorem c_last (h : kyC b σ H p ks) {k : Nat} (hk : k < 31) : f_I_lastOf (cPut b σ H) (b + 1) (nI p) (nI k) = rI (sNo (kLa k ks ks.length)) (cPut b σ H) := by
  unfold f_I_lastOf
  rw [c_ob_1, h.2.1, bI_rI, nI_s1, c_lastL h hk _ zFu (Nat.le_refl _) (by have := h.2.2.1; unfold zFu; omega)]
  cases kLa k ks ks.length <;> rfl
theorem c_countL (h : kyC b σ H p ks) {K : gH → Int32 → gR} {k : Nat} (hk : k < 31) : ∀ (l : List Nat) (n j c : Nat), ks.drop j = l → j ≤ ks.length → l.length < n →
    f_I_countOf_L12 K n (cPut b σ H) (b + 1) (nI p) (nI k) (nI ks.length) (nI c) (nI j) = K (cPut b σ H) (nI (c + kCt (fun x => decide (x = k)) l))
  | _, 0, _, _, _, _, h => absurd h (Nat.not_lt_zero _)
  | [], n + 1, j, c, hd, hj, _ => by
    have h31 := h.2.2.1
    unfold f_I_countOf_L12
    rw [if_pos (nI_le (dr_nil hd) (by omega))]; rfl
  | a :: l, n + 1, j, c, hd, hj, hn => by
    have h31 := h.2.2.1
    obtain ⟨e1, e2, e3⟩ := dr_cons hd
    have ha := h.k31 e1
    unfold f_I_countOf_L12
    rw [if_neg (nI_ge e3 (by omega)), c_ob_1, h.1 j a e1, bI_rI]
    unfold kCt
    by_cases e : a = k
    · rw [if_pos (by rw [e]), if_pos (decide_eq_true e), nI_add, nI_add, c_countL h hk l n (j + 1) (c + 1) e2 (by omega) (by simp at hn; omega), Nat.add_assoc]
    · rw [if_neg (fun q => e ((nI_eq (by omega) (by omega)).mp q)), if_neg (by simp [e]), nI_add, c_countL h hk l n (j + 1) c e2 (by omega) (by simp at hn; omega), Nat.zero_add]
theorem c_count (h : kyC b σ H p ks) {k : Nat} (hk : k < 31) : f_I_countOf (cPut b σ H) (b + 1) (nI p) (nI k) = rI (nI (kCt (fun x => decide (x = k)) ks)) (cPut b σ H) := by
  unfold f_I_countOf
  rw [c_ob_1, h.2.1, bI_rI, c_countL h hk _ zFu 0 0 (List.drop_zero ..) (Nat.zero_le _) (by have := h.2.2.1; unfold zFu; omega), Nat.zero_add]
theorem c_belowL (h : kyC b σ H p ks) {K : gH → Int32 → gR} {k : Nat} (hk : k < 31) : ∀ (l : List Nat) (n j c : Nat), ks.drop j = l → j ≤ ks.length → l.length < n →
    f_I_countBelow_L12 K n (cPut b σ H) (b + 1) (nI p) (nI k) (nI ks.length) (nI c) (nI j) = K (cPut b σ H) (nI (c + kCt (fun x => decide (x < k)) l))
  | _, 0, _, _, _, _, h => absurd h (Nat.not_lt_zero _)
  | [], n + 1, j, c, hd, hj, _ => by
    have h31 := h.2.2.1
    unfold f_I_countBelow_L12
    rw [if_pos (nI_le (dr_nil hd) (by omega))]; rfl
  | a :: l, n + 1, j, c, hd, hj, hn => by
    have h31 := h.2.2.1
    obtain ⟨e1, e2, e3⟩ := dr_cons hd
    have ha := h.k31 e1
    unfold f_I_countBelow_L12
    rw [if_neg (nI_ge e3 (by omega)), c_ob_1, h.1 j a e1, bI_rI]
    unfold kCt
    by_cases e : a < k
    · rw [if_neg (nI_ge e (by omega)), if_pos (decide_eq_true e), nI_add, nI_add, c_belowL h hk l n (j + 1) (c + 1) e2 (by omega) (by simp at hn; omega), Nat.add_assoc]
    · rw [if_pos (nI_le (by omega) (by omega)), if_neg (by simp [e]), nI_add, c_belowL h hk l n (j + 1) c e2 (by omega) (by simp at hn; omega), Nat.zero_add]
theorem c_below (h : kyC b σ H p ks) {k : Nat} (hk : k < 31) : f_I_countBelow (cPut b σ H) (b + 1) (nI p) (nI k) = rI (nI (kCt (fun x => decide (x < k)) ks)) (cPut b σ H) := by
  unfold f_I_countBelow
  rw [c_ob_1, h.2.1, bI_rI, c_belowL h hk _ zFu 0 0 (List.drop_zero ..) (Nat.zero_le _) (by have := h.2.2.1; unfold zFu; omega), Nat.zero_add]
theorem bit_1' : ∀ t : Nat, t < 31 → ∀ k : Nat, k < 32 → (nI 1 <<< (nI t &&& 31)).toBitVec.getLsbD k = decide (k = t) := by decide +kernel
theorem bit_0' : ∀ k : Nat, k < 32 → (nI 0).toBitVec.getLsbD k = false := by decide +kernel
theorem bit_m1' : ∀ k : Nat, k < 32 → (-1 : Int32).toBitVec.getLsbD k = true := by decide +kernel
theorem c_keysL (h : kyC b σ H p ks) {K : gH → Int32 → gR} : ∀ (l : List Nat) (n j : Nat) (v : Int32), ks.drop j = l → j ≤ ks.length → l.length < n →
    ∃ v', f_I_keysOf_L11 K n (cPut b σ H) (b + 1) (nI p) (nI ks.length) v (nI j) = K (cPut b σ H) v' ∧ ∀ k, k < 32 → v'.toBitVec.getLsbD k = (v.toBitVec.getLsbD k || decide (k ∈ l))
  | _, 0, _, _, _, _, h => absurd h (Nat.not_lt_zero _)
  | [], n + 1, j, v, hd, hj, _ => by
    have h31 := h.2.2.1
    refine ⟨v, ?_, fun k _ => by simp⟩
    unfold f_I_keysOf_L11
    rw [if_pos (nI_le (dr_nil hd) (by omega))]
  | a :: l, n + 1, j, v, hd, hj, hn => by
    have h31 := h.2.2.1
    obtain ⟨e1, e2, e3⟩ := dr_cons hd
    have ha := h.k31 e1
    obtain ⟨v', z1, z2⟩ := c_keysL h (K := K) l n (j + 1) (v ||| (nI 1 <<< (nI a &&& 31))) e2 (by omega) (by simp at hn; omega)
    refine ⟨v', ?_, fun k hk => ?_⟩
    · unfold f_I_keysOf_L11
      rw [if_neg (nI_ge e3 (by omega)), c_ob_1, h.1 j a e1, bI_rI, nI_add, z1]
    · rw [z2 k hk, bit_or, bit_1' _ ha k hk]
      by_cases e : k = a
      · simp [e]
      · simp [e]
theorem c_keys (h : kyC b σ H p ks) : ∃ v, f_I_keysOf (cPut b σ H) (b + 1) (nI p) = rI v (cPut b σ H) ∧ ∀ k, k < 32 → v.toBitVec.getLsbD k = decide (k ∈ ks) := by
  obtain ⟨v, z1, z2⟩ := c_keysL h (K := fun G13 x12 => rI x12 G13) _ zFu 0 (nI 0) (List.drop_zero ..) (Nat.zero_le _) (by have := h.2.2.1; unfold zFu; omega)
  refine ⟨v, ?_, fun k hk => ?_⟩
  · unfold f_I_keysOf
    rw [c_ob_1, h.2.1, bI_rI, z1]
  · rw [z2 k hk, bit_0' k hk, Bool.false_or]
theorem zero_bits {v : Int32} : v = 0 ↔ ∀ k, k < 32 → v.toBitVec.getLsbD k = false := by
  refine ⟨fun h k hk => by rw [h]; exact bit_0' k hk, fun h => ?_⟩
  apply Int32.toBitVec_inj.mp
  apply BitVec.eq_of_getLsbD_eq
  intro i hi
  rw [h i hi]
  exact (bit_0' i hi).symm
theorem bit_and {v u : Int32} {k : Nat} : (v &&& u).toBitVec.getLsbD k = (v.toBitVec.getLsbD k && u.toBitVec.getLsbD k) := by
  rw [Int32.toBitVec_and, BitVec.getLsbD_and]
theorem c_holds (h : kyC b σ H p ks) (h' : kyC b σ H q os) : f_I_holdsKeys (cPut b σ H) (b + 1) (nI p) (nI q) = rI (mB (decide (∀ k, k ∈ os → k ∈ ks))) (cPut b σ H) := by
  obtain ⟨v, z1, z2⟩ := c_keys h
  obtain ⟨u, u1, u2⟩ := c_keys h'
  have key : (u &&& (v ^^^ (-1))) = 0 ↔ ∀ k, k ∈ os → k ∈ ks := by
    rw [zero_bits]
    refine ⟨fun g k hk => ?_, fun g k hk => ?_⟩
    · have hk31 := h'.2.2.2 k hk
      have := g k (by omega)
      rw [bit_and, bit_xor, u2 k (by omega), z2 k (by omega), bit_m1' k (by omega)] at this
      simp [hk] at this
      exact this
    · rw [bit_and, bit_xor, u2 k hk, z2 k hk, bit_m1' k hk]
      by_cases e : k ∈ os
      · simp [g k e]
      · simp [e]
  unfold f_I_holdsKeys
  rw [c_ob_1, u1, bI_rI, c_ob_1, z1, bI_rI]
  by_cases e : ∀ k, k ∈ os → k ∈ ks
  · rw [if_pos (key.mpr e), decide_eq_true e, rZ_1]; rfl
  · rw [if_neg (fun q => e (key.mp q)), decide_eq_false e, rZ_0]; rfl
theorem c_share (h : kyC b σ H p ks) (h' : kyC b σ H q os) : f_I_shareNoKey (cPut b σ H) (b + 1) (nI p) (nI q) = rI (mB (decide (∀ k, k ∈ os → k ∉ ks))) (cPut b σ H) := by
  obtain ⟨v, z1, z2⟩ := c_keys h
  obtain ⟨u, u1, u2⟩ := c_keys h'
  have key : (v &&& u) = 0 ↔ ∀ k, k ∈ os → k ∉ ks := by
    rw [zero_bits]
    refine ⟨fun g k hk => ?_, fun g k hk => ?_⟩
    · have hk31 := h'.2.2.2 k hk
      have := g k (by omega)
      rw [bit_and, u2 k (by omega), z2 k (by omega)] at this
      simp [hk] at this
      exact this
    · rw [bit_and, u2 k hk, z2 k hk]
      by_cases e : k ∈ os
      · simp [g k e]
      · simp [e]
  unfold f_I_shareNoKey
  rw [c_ob_1, z1, bI_rI, c_ob_1, u1, bI_rI]
  by_cases e : ∀ k, k ∈ os → k ∉ ks
  · rw [if_pos (key.mpr e), decide_eq_true e, rZ_1]; rfl
  · rw [if_neg (fun q => e (key.mp q)), decide_eq_false e, rZ_0]; rfl
theorem c_matchL (h : kyC b σ H p ks) (h' : kyC b σ H q os) {K1 K2 : gH → gR} {i : Nat} (hi : i + os.length ≤ ks.length) : ∀ (l : List Nat) (n j : Nat), os.drop j = l → j ≤ os.length → l.length < n →
    f_I_matchFrom_L10 K1 K2 n (cPut b σ H) (b + 1) (nI p) (nI i) (nI q) (nI os.length) (nI j) = if kM ks (i + j) l = true then K2 (cPut b σ H) else K1 (cPut b σ H)
  | _, 0, _, _, _, h => absurd h (Nat.not_lt_zero _)
  | [], n + 1, j, hd, hj, _ => by
    have h31 := h'.2.2.1
    unfold f_I_matchFrom_L10
    rw [if_pos (nI_le (dr_nil hd) (by omega))]; rfl
  | a :: l, n + 1, j, hd, hj, hn => by
    have h31 := h'.2.2.1
    have h31' := h.2.2.1
    obtain ⟨e1, e2, e3⟩ := dr_cons hd
    have ha := h'.k31 e1
    have g1 := List.getElem?_eq_getElem (show i + j < ks.length by omega)
    generalize ks[i + j] = c at g1
    have hc := h.k31 g1
    unfold f_I_matchFrom_L10
    rw [if_neg (nI_ge e3 (by omega)), c_ob_1, nI_add, h.1 (i + j) c g1, bI_rI, c_ob_1, h'.1 j a e1, bI_rI]
    unfold kM
    rw [g1]
    by_cases e : c = a
    · rw [if_pos (show nI c = nI a by rw [e]), if_pos (show some c = some a by rw [e]), nI_add, Nat.add_assoc]
      exact c_matchL h h' hi l n (j + 1) e2 (by omega) (by simp at hn; omega)
    · rw [if_neg (fun q => e ((nI_eq (by omega) (by omega)).mp q)), if_neg (show ¬ some c = some a from fun q => e (Option.some.inj q))]; rfl
theorem c_match (h : kyC b σ H p ks) (h' : kyC b σ H q os) {i : Nat} (hi : i + os.length ≤ ks.length) : f_I_matchFrom (cPut b σ H) (b + 1) (nI p) (nI i) (nI q) = rI (mB (kM ks i os)) (cPut b σ H) := by
  unfold f_I_matchFrom
  rw [c_ob_1, h'.2.1, bI_rI, c_matchL h h' hi _ zFu 0 (List.drop_zero ..) (Nat.zero_le _) (by have := h'.2.2.1; unfold zFu; omega), Nat.add_zero]
  cases kM ks i os
  · exact rZ_0
  · exact rZ_1
def kSm (ks os : List Nat) : Bool := if ks.length = os.length then kM ks 0 os else false
theorem c_same (h : kyC b σ H p ks) (h' : kyC b σ H q os) : f_I_matchWholly (cPut b σ H) (b + 1) (nI p) (nI q) = rI (mB (kSm ks os)) (cPut b σ H) := by
  have h31 := h.2.2.1
  have h31' := h'.2.2.1
  unfold f_I_matchWholly kSm
  rw [c_ob_1, h.2.1, bI_rI, c_ob_1, h'.2.1, bI_rI]
  by_cases e : ks.length = os.length
  · rw [if_pos (by rw [e]), if_pos e, c_ob_1, c_match h h' (i := 0) (by omega), bI_rI]
    cases kM ks 0 os
    · rw [if_pos (by rfl)]; exact rZ_0
    · rw [if_neg (by decide)]; exact rZ_1
  · rw [if_neg (fun q => e ((nI_eq (by omega) (by omega)).mp q)), if_neg e]; exact rZ_0
theorem dif_lt {a c j : Nat} (ha : a < 2 ^ 20) (hc : c < 2 ^ 20) (hj : j < 2 ^ 20) : (nI a - nI c < nI j) ↔ a < c + j := by
  rw [nI_dif, Int32.lt_iff_toInt_lt, Int32.toInt_ofInt_of_le (by omega) (by omega), nI_toInt (by omega)]
  omega
theorem c_placeL (h : kyC b σ H p ks) (h' : kyC b σ H q os) {K1 : gH → Int32 → gR} {K2 : gH → gR} : ∀ (d n j : Nat), j + d = ks.length + 1 → d < n →
    f_I_placeOf_L15 K1 K2 n (cPut b σ H) (b + 1) (nI p) (nI q) (nI ks.length - nI os.length) (nI j) = match kF ks os d j with
      | some i => K1 (cPut b σ H) (nI i)
      | none => K2 (cPut b σ H)
  | _, 0, _, _, h => absurd h (Nat.not_lt_zero _)
  | 0, n + 1, j, hj, _ => by
    have h31 := h.2.2.1
    have h31' := h'.2.2.1
    unfold f_I_placeOf_L15
    rw [if_pos ((dif_lt (by omega) (by omega) (by omega)).mpr (by omega))]; rfl
  | d + 1, n + 1, j, hj, hn => by
    have h31 := h.2.2.1
    have h31' := h'.2.2.1
    unfold f_I_placeOf_L15 kF
    by_cases e : ks.length < os.length + j
    · rw [if_pos ((dif_lt (by omega) (by omega) (by omega)).mpr e), if_pos e]
    · rw [if_neg (fun q => e ((dif_lt (by omega) (by omega) (by omega)).mp q)), if_neg e, c_ob_1, c_match h h' (by omega), bI_rI, nI_add, c_placeL h h' d n (j + 1) (by omega) (by omega)]
      cases kM ks j os <;> rfl
theorem c_place (h : kyC b σ H p ks) (h' : kyC b σ H q os) : f_I_placeOf (cPut b σ H) (b + 1) (nI p) (nI q) = rI (sNo (kF ks os (ks.length + 1) 0)) (cPut b σ H) := by
  unfold f_I_placeOf
  rw [c_ob_1, h.2.1, bI_rI, c_ob_1, h'.2.1, bI_rI, c_placeL h h' (ks.length + 1) zFu 0 (by omega) (by have := h.2.2.1; unfold zFu; omega)]
  cases kF ks os (ks.length + 1) 0 <;> rfl
theorem c_sortL (h : kyC b σ H p ks) {K1 K2 : gH → gR} : ∀ (l : List Nat) (n j a : Nat), ks[j]? = some a → ks.drop (j + 1) = l → l.length < n →
    f_I_isSorted_L8 K1 K2 n (cPut b σ H) (b + 1) (nI p) (nI ks.length) (nI (j + 1)) = if kSo a l = true then K2 (cPut b σ H) else K1 (cPut b σ H)
  | _, 0, _, _, _, _, h => absurd h (Nat.not_lt_zero _)
  | [], n + 1, j, a, hj, hd, _ => by
    have h31 := h.2.2.1
    have := (List.getElem?_eq_some_iff.mp hj).1
    unfold f_I_isSorted_L8
    rw [if_pos (nI_le (dr_nil hd) (by omega))]; rfl
  | c :: l, n + 1, j, a, hj, hd, hn => by
    have h31 := h.2.2.1
    obtain ⟨e1, e2, e3⟩ := dr_cons hd
    have ha := h.k31 hj
    have hc := h.k31 e1
    unfold f_I_isSorted_L8
    rw [if_neg (nI_ge e3 (by omega)), c_ob_1, h.1 (j + 1) c e1, bI_rI, c_ob_1, show nI (j + 1) - nI 1 = nI j from nI_sub (by omega), h.1 j a hj, bI_rI]
    unfold kSo
    by_cases e : a ≤ c
    · rw [if_pos (nI_le e (by omega)), if_pos e, nI_add]
      exact c_sortL h l n (j + 1) c e1 e2 (by simp at hn; omega)
    · rw [if_neg (nI_ge (by omega) (by omega)), if_neg e]; rfl
def kSd (ks : List Nat) : Bool := match ks with
  | [] => true
  | a :: l => kSo a l
theorem c_sorted (h : kyC b σ H p ks) : f_I_isSorted (cPut b σ H) (b + 1) (nI p) = rI (mB (kSd ks)) (cPut b σ H) := by
  unfold f_I_isSorted
  rw [c_ob_1, h.2.1, bI_rI]
  cases hk : ks with
  | nil =>
    show f_I_isSorted_L8 _ _ (5999 + 1) _ _ _ (nI 0) (nI 1) = _
    unfold f_I_isSorted_L8
    rw [if_pos (by decide)]; exact rZ_1
  | cons a l =>
    rw [← hk, show nI 1 = nI (0 + 1) from rfl, c_sortL h l zFu 0 a (by rw [hk]; rfl) (by rw [hk]; rfl) (by have := h.2.2.1; rw [hk] at this; simp at this; unfold zFu; omega)]
    rw [show kSd ks = kSo a l by rw [hk]; rfl]
    cases kSo a l
    · exact rZ_0
    · exact rZ_1
theorem c_exL (h : kyC b σ H p ks) {K : gH → Int32 → gR} {z : Int32} : ∀ (l : List Nat) (n j : Nat) (x : Option Nat), ks.drop j = l → j ≤ ks.length → l.length < n → (∀ y, x = some y → y < 31) →
    f_I_extremeKey_L12 K n (cPut b σ H) (b + 1) (nI p) z (nI ks.length) (sNo x) (nI j) = K (cPut b σ H) (sNo (kEx (!decide (z = 0)) x l))
  | _, 0, _, _, _, _, h, _ => absurd h (Nat.not_lt_zero _)
  | [], n + 1, j, x, hd, hj, _, _ => by
    have h31 := h.2.2.1
    unfold f_I_extremeKey_L12
    rw [if_pos (nI_le (dr_nil hd) (by omega))]
    cases x <;> rfl
  | a :: l, n + 1, j, x, hd, hj, hn, hx => by
    have h31 := h.2.2.1
    obtain ⟨e1, e2, e3⟩ := dr_cons hd
    have ha := h.k31 e1
    have go : ∀ x', (∀ y, x' = some y → y < 31) → f_I_extremeKey_L12 K n (cPut b σ H) (b + 1) (nI p) z (nI ks.length) (sNo x') (nI j + nI 1) = K (cPut b σ H) (sNo (kEx (!decide (z = 0)) x' l)) := fun x' hx' => by
      rw [nI_add]
      exact c_exL h l n (j + 1) x' e2 (by omega) (by simp at hn; omega) hx'
    have ga := go (some a) (fun y q => by cases q; exact ha)
    unfold f_I_extremeKey_L12
    rw [if_neg (nI_ge e3 (by omega)), c_ob_1, h.1 j a e1, bI_rI]
    cases x with
    | none =>
      rw [if_pos (show sNo none = -1 from rfl)]
      exact ga
    | some y =>
      have hy := hx y rfl
      have gy := go (some y) hx
      rw [if_neg (show ¬ sNo (some y) = -1 from nI_ne1 (by omega))]
      unfold kEx
      by_cases hz : z = 0
      · rw [if_pos hz]
        by_cases e : y < a
        · rw [if_neg (show ¬ nI a ≤ sNo (some y) from nI_ge e (by omega)), if_pos (by simp [hz, e])]
          exact ga
        · rw [if_pos (show nI a ≤ sNo (some y) from nI_le (by omega) (by omega)), if_neg (by simp [hz]; omega)]
          exact gy
      · rw [if_neg hz]
        by_cases e : a < y
        · rw [if_neg (show ¬ sNo (some y) ≤ nI a from nI_ge e (by omega)), if_pos (by simp [hz, e])]
          exact ga
        · rw [if_pos (show sNo (some y) ≤ nI a from nI_le (by omega) (by omega)), if_neg (by simp [hz]; omega)]
          exact gy
theorem c_extreme (h : kyC b σ H p ks) {z : Int32} : f_I_extremeKey (cPut b σ H) (b + 1) (nI p) z = rI (sNo (kEx (!decide (z = 0)) none ks)) (cPut b σ H) := by
  unfold f_I_extremeKey
  rw [c_ob_1, h.2.1, bI_rI, show (-1 : Int32) = sNo none from rfl, c_exL h _ zFu 0 none (List.drop_zero ..) (Nat.zero_le _) (by have := h.2.2.1; unfold zFu; omega) (fun y q => by cases q)]
theorem c_hashL (h : kyC b σ H p ks) {K : gH → Int32 → gR} : ∀ (l : List Nat) (n j : Nat) (x : Int32), ks.drop j = l → j ≤ ks.length → l.length < n →
    f_I_hashOf_L11 K n (cPut b σ H) (b + 1) (nI p) (nI ks.length) x (nI j) = K (cPut b σ H) (kH x l)
  | _, 0, _, _, _, _, h => absurd h (Nat.not_lt_zero _)
  | [], n + 1, j, x, hd, hj, _ => by
    have h31 := h.2.2.1
    unfold f_I_hashOf_L11
    rw [if_pos (nI_le (dr_nil hd) (by omega))]; rfl
  | a :: l, n + 1, j, x, hd, hj, hn => by
    have h31 := h.2.2.1
    obtain ⟨e1, e2, e3⟩ := dr_cons hd
    unfold f_I_hashOf_L11
    rw [if_neg (nI_ge e3 (by omega)), c_ob_1, h.1 j a e1, bI_rI, nI_add, c_hashL h l n (j + 1) _ e2 (by omega) (by simp at hn; omega)]; rfl
theorem c_hash (h : kyC b σ H p ks) : f_I_hashOf (cPut b σ H) (b + 1) (nI p) = rI (kH (nI 1) ks) (cPut b σ H) := by
  unfold f_I_hashOf
  rw [c_ob_1, h.2.1, bI_rI, c_hashL h _ zFu 0 _ (List.drop_zero ..) (Nat.zero_le _) (by have := h.2.2.1; unfold zFu; omega)]
end KC
end
section
-- what is asked of the reference, key by key
section KMr
/-- the keys of a list, as the reference reads them -/
def kyM (G : gH) (o p : Nat) (ks : List Nat) : Prop := (∃ fs, ∀ K : List Value → gR, gOb G o 6 K = K fs) ∧ (∀ i k, ks[i]? = some k → ∃ a, f_M_at G o (nI p) (nI i) = rA a G ∧ ∀ K : Int32 → gR, gLd G a 100 (nI 0) K = K (nI k)) ∧ f_M_length G o (nI p) = rI (nI ks.length) G ∧ ks.length ≤ 31 ∧ ∀ k, k ∈ ks → k < 31
variable {G : gH} {o p q : Nat} {ks os : List Nat}
theorem kyM.k31 (h : kyM G o p ks) {i k : Nat} (hk : ks[i]? = some k) : k < 31 := h.2.2.2.2 k (List.mem_of_getElem? hk)
theorem m_firL (h : kyM G o p ks) {K1 : gH → Int32 → gR} {K2 : gH → gR} {k : Nat} (hk : k < 31) : ∀ (l : List Nat) (n j : Nat), ks.drop j = l → j ≤ ks.length → l.length < n →
    f_M_firstOf_L2 K1 K2 n G o (nI p) (nI k) (nI j) = match kFi k l j with
      | some i => K1 G (nI i)
      | none => K2 G
  | _, 0, _, _, _, h => absurd h (Nat.not_lt_zero _)
  | [], n + 1, j, hd, hj, _ => by
    obtain ⟨⟨fs, ob⟩, ha, hl, h31, hk31⟩ := h
    unfold f_M_firstOf_L2
    rw [ob, hl, bI_rI, if_pos (nI_le (dr_nil hd) (by omega))]; rfl
  | a :: l, n + 1, j, hd, hj, hn => by
    obtain ⟨e1, e2, e3⟩ := dr_cons hd
    have hka := h.k31 e1
    have ih := m_firL h (K1 := K1) (K2 := K2) hk l n (j + 1) e2 (by omega) (by simp at hn; omega)
    obtain ⟨⟨fs, ob⟩, ha, hl, h31, hk31⟩ := h
    obtain ⟨x, x1, x2⟩ := ha j a e1
    unfold f_M_firstOf_L2
    rw [ob, hl, bI_rI, if_neg (nI_ge e3 (by omega)), ob, x1, bA_rA, x2]
    unfold kFi
    by_cases e : a = k
    · rw [if_pos (by rw [e]), if_pos e]
    · rw [if_neg (fun q => e ((nI_eq (by omega) (by omega)).mp q)), if_neg e, nI_add, ih]
theorem m_fir (h : kyM G o p ks) {k : Nat} (hk : k < 31) : f_M_firstOf G o (nI p) (nI k) = rI (sNo (kFi k ks 0)) G := by
  unfold f_M_firstOf
  rw [m_firL h hk _ zFu 0 (List.drop_zero ..) (Nat.zero_le _) (by have := h.2.2.2.1; unfold zFu; omega)]
  cases kFi k ks 0 <;> rfl
theorem m_lasL (h : kyM G o p ks) {K1 : gH → Int32 → gR} {K2 : gH → gR} {k : Nat} (hk : k < 31) : ∀ (j n : Nat), j ≤ ks.length → j < n →
    f_M_lastOf_L8 K1 K2 n G o (nI p) (nI k) (nI j + (-1)) = match kLa k ks j with
      | some i => K1 G (nI i)
      | none => K2 G
  | _, 0, _, h => absurd h (Nat.not_lt_zero _)
  | 0, n + 1, hj, _ => by
    unfold f_M_lastOf_L8
    rw [if_pos (by decide)]; rfl
  | j + 1, n + 1, hj, hn => by
    have e1 := List.getElem?_eq_getElem (show j < ks.length by omega)
    generalize ks[j] = a at e1
    have hka := h.k31 e1
    have ih := m_lasL h (K1 := K1) (K2 := K2) hk j n (by omega) (by omega)
    obtain ⟨⟨fs, ob⟩, ha, hl, h31, hk31⟩ := h
    obtain ⟨x, x1, x2⟩ := ha j a e1
    unfold f_M_lastOf_L8
    rw [nI_m1, if_neg (nI_pos (by omega)), ob, x1, bA_rA, x2]
    unfold kLa
    rw [e1]
    by_cases e : a = k
    · rw [if_pos (by rw [e]), if_pos (show some a = some k by rw [e])]
    · rw [if_neg (fun q => e ((nI_eq (by omega) (by omega)).mp q)), if_neg (show ¬ some a = some k from fun q => e (Option.some.inj q)), ih]
theorem m_las (h : kyM G o p ks) {k : Nat} (hk : k < 31) : f_M_lastOf G o (nI p) (nI k) = rI (sNo (kLa k ks ks.length)) G := by
  have L := m_lasL h (K1 := fun G15 x14 => rI x14 G15) (K2 := fun G16 => rI (-1) G16) hk ks.length zFu (Nat.le_refl _) (by have := h.2.2.2.1; unfold zFu; omega)
  obtain ⟨⟨fs, ob⟩, ha, hl, h31, hk31⟩ := h
  unfold f_M_lastOf
  rw [ob, hl, bI_rI, nI_s1, L]
  cases kLa k ks ks.length <;> rfl
theorem m_one1 : f_M_one G (nI 1) = rI (nI 1) G := by unfold f_M_one; rw [if_neg (by decide)]
theorem m_one0 : f_M_one G (nI 0) = rI (nI 0) G := by unfold f_M_one; rw [if_pos (by decide)]
theorem m_manL (h : kyM G o p ks) {K : gH → Int32 → gR} {k : Nat} (hk : k < 31) : ∀ (l : List Nat) (n j c : Nat), ks.drop j = l → j ≤ ks.length → l.length < n →
    f_M_manyOf_L5 K n G o (nI p) (nI k) (nI c) (nI j) = K G (nI (c + kCt (fun x => decide (x = k)) l))
  | _, 0, _, _, _, _, h => absurd h (Nat.not_lt_zero _)
  | [], n + 1, j, c, hd, hj, _ => by
    obtain ⟨⟨fs, ob⟩, ha, hl, h31, hk31⟩ := h
    unfold f_M_manyOf_L5
    rw [ob, hl, bI_rI, if_pos (nI_le (dr_nil hd) (by omega))]; rfl
  | a :: l, n + 1, j, c, hd, hj, hn => by
    obtain ⟨e1, e2, e3⟩ := dr_cons hd
    have hka := h.k31 e1
    have ih := fun c => m_manL h (K := K) hk l n (j + 1) c e2 (by omega) (by simp at hn; omega)
    obtain ⟨⟨fs, ob⟩, ha, hl, h31, hk31⟩ := h
    obtain ⟨x, x1, x2⟩ := ha j a e1
    unfold f_M_manyOf_L5
    rw [ob, hl, bI_rI, if_neg (nI_ge e3 (by omega)), ob, x1, bA_rA, x2]
    unfold kCt
    by_cases e : a = k
    · rw [if_pos (by rw [e]), if_pos (decide_eq_true e), m_one1, bI_rI, nI_add, nI_add, ih (c + 1), Nat.add_assoc]
    · rw [if_neg (fun q => e ((nI_eq (by omega) (by omega)).mp q)), if_neg (by simp [e]), m_one0, bI_rI, nI_add, nI_add, ih, Nat.zero_add, Nat.add_zero]
theorem m_man (h : kyM G o p ks) {k : Nat} (hk : k < 31) : f_M_manyOf G o (nI p) (nI k) = rI (nI (kCt (fun x => decide (x = k)) ks)) G := by
  unfold f_M_manyOf
  rw [m_manL h hk _ zFu 0 0 (List.drop_zero ..) (Nat.zero_le _) (by have := h.2.2.2.1; unfold zFu; omega), Nat.zero_add]
theorem kFi_no {k : Nat} (hl : ks.length ≤ 31) : sNo (kFi k ks 0) = -1 ↔ k ∉ ks := by
  rw [← kFi_none ks 0]
  cases hx : kFi k ks 0 with
  | none => exact ⟨fun _ => rfl, fun _ => rfl⟩
  | some i =>
    have := kFi_lt ks 0 i hx
    exact ⟨fun q => absurd q (nI_ne1 (by omega)), fun q => by cases q⟩
theorem m_hasL (h : kyM G o p ks) (h' : kyM G o q os) {K1 K2 : gH → gR} : ∀ (l : List Nat) (n j : Nat), os.drop j = l → j ≤ os.length → l.length < n →
    f_M_hasEach_L2 K1 K2 n G o (nI p) (nI q) (nI j) = if (∀ k, k ∈ l → k ∈ ks) then K2 G else K1 G
  | _, 0, _, _, _, h => absurd h (Nat.not_lt_zero _)
  | [], n + 1, j, hd, hj, _ => by
    obtain ⟨⟨fs, ob⟩, ha, hl, h31, hk31⟩ := h'
    unfold f_M_hasEach_L2
    rw [ob, hl, bI_rI, if_pos (nI_le (dr_nil hd) (by omega)), if_pos (fun k hk => by cases hk)]
  | a :: l, n + 1, j, hd, hj, hn => by
    obtain ⟨e1, e2, e3⟩ := dr_cons hd
    have hka := h'.k31 e1
    have ih := m_hasL h h' (K1 := K1) (K2 := K2) l n (j + 1) e2 (by omega) (by simp at hn; omega)
    have hf := m_fir h hka
    have hn1 := kFi_no (k := a) h.2.2.2.1
    obtain ⟨⟨fs, ob⟩, ha, hl, h31, hk31⟩ := h'
    obtain ⟨x, x1, x2⟩ := ha j a e1
    unfold f_M_hasEach_L2
    rw [ob, hl, bI_rI, if_neg (nI_ge e3 (by omega)), ob, x1, bA_rA, x2, ob, hf, bI_rI]
    by_cases e : a ∈ ks
    · rw [if_neg (fun z => (hn1.mp z) e), nI_add, ih]
      by_cases e4 : ∀ k, k ∈ l → k ∈ ks
      · rw [if_pos e4, if_pos (fun k hk => by
          rcases List.mem_cons.mp hk with rfl | z
          · exact e
          · exact e4 k z)]
      · rw [if_neg e4, if_neg (fun z => e4 (fun k hk => z k (List.mem_cons_of_mem _ hk)))]
    · rw [if_pos (hn1.mpr e), if_neg (fun z => e (z a (List.mem_cons_self ..)))]
theorem m_has (h : kyM G o p ks) (h' : kyM G o q os) : f_M_hasEach G o (nI p) (nI q) = rI (mB (decide (∀ k, k ∈ os → k ∈ ks))) G := by
  unfold f_M_hasEach
  rw [m_hasL h h' _ zFu 0 (List.drop_zero ..) (Nat.zero_le _) (by have := h'.2.2.2.1; unfold zFu; omega)]
  by_cases e : ∀ k, k ∈ os → k ∈ ks
  · rw [if_pos e, decide_eq_true e]; exact rZ_1
  · rw [if_neg e, decide_eq_false e]; exact rZ_0
theorem m_nonL (h : kyM G o p ks) (h' : kyM G o q os) {K1 K2 : gH → gR} : ∀ (l : List Nat) (n j : Nat), os.drop j = l → j ≤ os.length → l.length < n →
    f_M_hasNoneOf_L2 K1 K2 n G o (nI p) (nI q) (nI j) = if (∀ k, k ∈ l → k ∉ ks) then K2 G else K1 G
  | _, 0, _, _, _, h => absurd h (Nat.not_lt_zero _)
  | [], n + 1, j, hd, hj, _ => by
    obtain ⟨⟨fs, ob⟩, ha, hl, h31, hk31⟩ := h'
    unfold f_M_hasNoneOf_L2
    rw [ob, hl, bI_rI, if_pos (nI_le (dr_nil hd) (by omega)), if_pos (fun k hk => by cases hk)]
  | a :: l, n + 1, j, hd, hj, hn => by
    obtain ⟨e1, e2, e3⟩ := dr_cons hd
    have hka := h'.k31 e1
    have ih := m_nonL h h' (K1 := K1) (K2 := K2) l n (j + 1) e2 (by omega) (by simp at hn; omega)
    have hf := m_fir h hka
    have hn1 := kFi_no (k := a) h.2.2.2.1
    obtain ⟨⟨fs, ob⟩, ha, hl, h31, hk31⟩ := h'
    obtain ⟨x, x1, x2⟩ := ha j a e1
    unfold f_M_hasNoneOf_L2
    rw [ob, hl, bI_rI, if_neg (nI_ge e3 (by omega)), ob, x1, bA_rA, x2, ob, hf, bI_rI]
    by_cases e : a ∈ ks
    · rw [if_neg (fun z => (hn1.mp z) e), if_neg (fun z => z a (List.mem_cons_self ..) e)]
    · rw [if_pos (hn1.mpr e), nI_add, ih]
      by_cases e4 : ∀ k, k ∈ l → k ∉ ks
      · rw [if_pos e4, if_pos (fun k hk => by
          rcases List.mem_cons.mp hk with rfl | z
          · exact e
          · exact e4 k z)]
      · rw [if_neg e4, if_neg (fun z => e4 (fun k hk => z k (List.mem_cons_of_mem _ hk)))]
theorem m_non (h : kyM G o p ks) (h' : kyM G o q os) : f_M_hasNoneOf G o (nI p) (nI q) = rI (mB (decide (∀ k, k ∈ os → k ∉ ks))) G := by
  unfold f_M_hasNoneOf
  rw [m_nonL h h' _ zFu 0 (List.drop_zero ..) (Nat.zero_le _) (by have := h'.2.2.2.1; unfold zFu; omega)]
  by_cases e : ∀ k, k ∈ os → k ∉ ks
  · rw [if_pos e, decide_eq_true e]; exact rZ_1
  · rw [if_neg e, decide_eq_false e]; exact rZ_0
theorem m_lieL (h : kyM G o p ks) (h' : kyM G o q os) {K1 K2 : gH → gR} {i : Nat} (hi : i + os.length ≤ ks.length) : ∀ (l : List Nat) (n j : Nat), os.drop j = l → j ≤ os.length → l.length < n →
    f_M_liesAt_L3 K1 K2 n G o (nI p) (nI i) (nI q) (nI j) = if kM ks (i + j) l = true then K2 G else K1 G
  | _, 0, _, _, _, h => absurd h (Nat.not_lt_zero _)
  | [], n + 1, j, hd, hj, _ => by
    obtain ⟨⟨fs, ob⟩, ha, hl, h31, hk31⟩ := h'
    unfold f_M_liesAt_L3
    rw [ob, hl, bI_rI, if_pos (nI_le (dr_nil hd) (by omega))]; rfl
  | a :: l, n + 1, j, hd, hj, hn => by
    obtain ⟨e1, e2, e3⟩ := dr_cons hd
    have hka := h'.k31 e1
    have g1 := List.getElem?_eq_getElem (show i + j < ks.length by omega)
    generalize ks[i + j] = c at g1
    have hc := h.k31 g1
    have ih := m_lieL h h' (K1 := K1) (K2 := K2) hi l n (j + 1) e2 (by omega) (by simp at hn; omega)
    obtain ⟨-, ha', -, h31', -⟩ := h
    obtain ⟨⟨fs, ob⟩, ha, hl, h31, hk31⟩ := h'
    obtain ⟨x, x1, x2⟩ := ha j a e1
    obtain ⟨y, y1, y2⟩ := ha' (i + j) c g1
    unfold f_M_liesAt_L3
    rw [ob, hl, bI_rI, if_neg (nI_ge e3 (by omega)), ob, nI_add, y1, bA_rA, y2, ob, x1, bA_rA, x2]
    unfold kM
    rw [g1]
    by_cases e : c = a
    · rw [if_pos (show nI c = nI a by rw [e]), if_pos (show some c = some a by rw [e]), nI_add, Nat.add_assoc, ih]
    · rw [if_neg (fun q => e ((nI_eq (by omega) (by omega)).mp q)), if_neg (show ¬ some c = some a from fun q => e (Option.some.inj q))]; rfl
theorem m_lie (h : kyM G o p ks) (h' : kyM G o q os) {i : Nat} (hi : i + os.length ≤ ks.length) : f_M_liesAt G o (nI p) (nI i) (nI q) = rI (mB (kM ks i os)) G := by
  unfold f_M_liesAt
  rw [m_lieL h h' hi _ zFu 0 (List.drop_zero ..) (Nat.zero_le _) (by have := h'.2.2.2.1; unfold zFu; omega), Nat.add_zero]
  cases kM ks i os
  · exact rZ_0
  · exact rZ_1
theorem m_sam (h : kyM G o p ks) (h' : kyM G o q os) : f_M_same G o (nI p) (nI q) = rI (mB (kSm ks os)) G := by
  have hL := fun hi => m_lie h h' (i := 0) hi
  obtain ⟨-, -, hl', h31', -⟩ := h'
  obtain ⟨⟨fs, ob⟩, -, hl, h31, -⟩ := h
  unfold f_M_same kSm
  rw [ob, hl, bI_rI, ob, hl', bI_rI]
  by_cases e : ks.length = os.length
  · rw [if_pos (by rw [e]), if_pos e, ob, hL (by omega), bI_rI]
    cases kM ks 0 os
    · rw [if_pos (by rfl)]; exact rZ_0
    · rw [if_neg (by decide)]; exact rZ_1
  · rw [if_neg (fun q => e ((nI_eq (by omega) (by omega)).mp q)), if_neg e]; exact rZ_0
theorem m_fouL (h : kyM G o p ks) (h' : kyM G o q os) {K1 : gH → Int32 → gR} {K2 : gH → gR} : ∀ (d n j : Nat), j + d = ks.length + 1 → d < n →
    f_M_found_L2 K1 K2 n G o (nI p) (nI q) (nI j) = match kF ks os d j with
      | some i => K1 G (nI i)
      | none => K2 G
  | _, 0, _, _, h => absurd h (Nat.not_lt_zero _)
  | 0, n + 1, j, hj, _ => by
    obtain ⟨-, -, hl', h31', -⟩ := h'
    obtain ⟨⟨fs, ob⟩, -, hl, h31, -⟩ := h
    unfold f_M_found_L2
    rw [ob, hl', bI_rI, ob, hl, bI_rI, nI_add, if_pos (nI_lt (by omega) (by omega))]; rfl
  | d + 1, n + 1, j, hj, hn => by
    have ih := m_fouL h h' (K1 := K1) (K2 := K2) d n (j + 1) (by omega) (by omega)
    have hL := fun hi => m_lie h h' (i := j) hi
    obtain ⟨-, -, hl', h31', -⟩ := h'
    obtain ⟨⟨fs, ob⟩, -, hl, h31, -⟩ := h
    unfold f_M_found_L2 kF
    rw [ob, hl', bI_rI, ob, hl, bI_rI, nI_add]
    by_cases e : ks.length < os.length + j
    · rw [if_pos (nI_lt (by omega) (by omega)), if_pos e]
    · rw [if_neg (nI_nlt (by omega) (by omega)), if_neg e, ob, hL (by omega), bI_rI, nI_add, ih]
      cases kM ks j os <;> rfl
theorem m_fou (h : kyM G o p ks) (h' : kyM G o q os) : f_M_found G o (nI p) (nI q) = rI (sNo (kF ks os (ks.length + 1) 0)) G := by
  unfold f_M_found
  rw [m_fouL h h' (ks.length + 1) zFu 0 (by omega) (by have := h.2.2.2.1; unfold zFu; omega)]
  cases kF ks os (ks.length + 1) 0 <;> rfl
theorem m_sdL (h : kyM G o p ks) {K1 K2 : gH → gR} : ∀ (l : List Nat) (n j a : Nat), ks[j]? = some a → ks.drop (j + 1) = l → l.length < n →
    f_M_isSorted_L2 K1 K2 n G o (nI p) (nI (j + 1)) = if kSo a l = true then K2 G else K1 G
  | _, 0, _, _, _, _, h => absurd h (Nat.not_lt_zero _)
  | [], n + 1, j, a, hj, hd, _ => by
    obtain ⟨⟨fs, ob⟩, ha, hl, h31, hk31⟩ := h
    have := (List.getElem?_eq_some_iff.mp hj).1
    unfold f_M_isSorted_L2
    rw [ob, hl, bI_rI, if_pos (nI_le (dr_nil hd) (by omega))]; rfl
  | c :: l, n + 1, j, a, hj, hd, hn => by
    obtain ⟨e1, e2, e3⟩ := dr_cons hd
    have hka := h.k31 hj
    have hkc := h.k31 e1
    have ih := m_sdL h (K1 := K1) (K2 := K2) l n (j + 1) c e1 e2 (by simp at hn; omega)
    obtain ⟨⟨fs, ob⟩, ha, hl, h31, hk31⟩ := h
    obtain ⟨x, x1, x2⟩ := ha (j + 1) c e1
    obtain ⟨y, y1, y2⟩ := ha j a hj
    unfold f_M_isSorted_L2
    rw [ob, hl, bI_rI, if_neg (nI_ge e3 (by omega)), ob, x1, bA_rA, x2, ob, show nI (j + 1) - nI 1 = nI j from nI_sub (by omega), y1, bA_rA, y2]
    unfold kSo
    by_cases e : a ≤ c
    · rw [if_pos (nI_le e (by omega)), if_pos e, nI_add, ih]
    · rw [if_neg (nI_ge (by omega) (by omega)), if_neg e]; rfl
theorem m_sd (h : kyM G o p ks) : f_M_isSorted G o (nI p) = rI (mB (kSd ks)) G := by
  unfold f_M_isSorted
  cases hk : ks with
  | nil =>
    obtain ⟨⟨fs, ob⟩, ha, hl, h31, hk31⟩ := h
    show f_M_isSorted_L2 _ _ (5999 + 1) _ _ _ (nI 1) = _
    unfold f_M_isSorted_L2
    rw [ob, hl, bI_rI, hk, if_pos (by decide)]; exact rZ_1
  | cons a l =>
    rw [show nI 1 = nI (0 + 1) from rfl, m_sdL h l zFu 0 a (by rw [hk]; rfl) (by rw [hk]; rfl) (by have := h.2.2.2.1; rw [hk] at this; simp at this; unfold zFu; omega)]
    rw [show kSd (a :: l) = kSo a l from rfl]
    cases kSo a l
    · exact rZ_0
    · exact rZ_1
theorem m_spoL (h : kyM G o p ks) {K : gH → Nat → Int32 → Int32 → Int32 → gR} {k : Nat} (hk : k < 31) : ∀ (l : List Nat) (n j : Nat), ks.drop j = l → j ≤ ks.length → l.length < n →
    f_M_spot_L51 K n G o (nI p) (nI k) (nI j) = K G o (nI p) (nI k) (nI (j + kPr k l))
  | _, 0, _, _, _, h => absurd h (Nat.not_lt_zero _)
  | [], n + 1, j, hd, hj, _ => by
    obtain ⟨⟨fs, ob⟩, ha, hl, h31, hk31⟩ := h
    unfold f_M_spot_L51
    rw [ob, hl, bI_rI, if_pos (nI_le (dr_nil hd) (by omega))]; rfl
  | a :: l, n + 1, j, hd, hj, hn => by
    obtain ⟨e1, e2, e3⟩ := dr_cons hd
    have hka := h.k31 e1
    have ih := m_spoL h (K := K) hk l n (j + 1) e2 (by omega) (by simp at hn; omega)
    obtain ⟨⟨fs, ob⟩, ha, hl, h31, hk31⟩ := h
    obtain ⟨x, x1, x2⟩ := ha j a e1
    unfold f_M_spot_L51
    rw [ob, hl, bI_rI, if_neg (nI_ge e3 (by omega)), ob, x1, bA_rA, x2]
    unfold kPr
    by_cases e : a < k
    · rw [if_neg (nI_ge e (by omega)), if_pos e, nI_add, ih, show j + 1 + kPr k l = j + (kPr k l + 1) by omega]
    · rw [if_pos (nI_le (by omega) (by omega)), if_neg e, Nat.add_zero]
theorem m_exL (h : kyM G o p ks) {K : gH → Int32 → gR} {z : Int32} : ∀ (l : List Nat) (n j : Nat) (x : Option Nat), ks.drop j = l → j ≤ ks.length → l.length < n → (∀ y, x = some y → y < 31) →
    f_M_extremeOf_L5 K n G o (nI p) z (sNo x) (nI j) = K G (sNo (kEx (!decide (z = 0)) x l))
  | _, 0, _, _, _, _, h, _ => absurd h (Nat.not_lt_zero _)
  | [], n + 1, j, x, hd, hj, _, _ => by
    obtain ⟨⟨fs, ob⟩, ha, hl, h31, hk31⟩ := h
    unfold f_M_extremeOf_L5
    rw [ob, hl, bI_rI, if_pos (nI_le (dr_nil hd) (by omega))]
    cases x <;> rfl
  | a :: l, n + 1, j, x, hd, hj, hn, hx => by
    obtain ⟨e1, e2, e3⟩ := dr_cons hd
    have hka := h.k31 e1
    have go : ∀ x', (∀ y, x' = some y → y < 31) → f_M_extremeOf_L5 K n G o (nI p) z (sNo x') (nI j + nI 1) = K G (sNo (kEx (!decide (z = 0)) x' l)) := fun x' hx' => by
      rw [nI_add]
      exact m_exL h l n (j + 1) x' e2 (by omega) (by simp at hn; omega) hx'
    have ga := go (some a) (fun y q => by cases q; exact hka)
    obtain ⟨⟨fs, ob⟩, ha, hl, h31, hk31⟩ := h
    obtain ⟨u, x1, x2⟩ := ha j a e1
    unfold f_M_extremeOf_L5
    rw [ob, hl, bI_rI, if_neg (nI_ge e3 (by omega)), ob, x1, bA_rA, x2]
    cases x with
    | none =>
      rw [if_pos (show sNo none = -1 from rfl)]
      exact ga
    | some y =>
      have hy := hx y rfl
      have gy := go (some y) hx
      rw [if_neg (show ¬ sNo (some y) = -1 from nI_ne1 (by omega))]
      unfold kEx
      by_cases hz : z = 0
      · rw [if_pos hz]
        by_cases e : y < a
        · rw [if_neg (show ¬ nI a ≤ sNo (some y) from nI_ge e (by omega)), if_pos (by simp [hz, e])]
          exact ga
        · rw [if_pos (show nI a ≤ sNo (some y) from nI_le (by omega) (by omega)), if_neg (by simp [hz]; omega)]
          exact gy
      · rw [if_neg hz]
        by_cases e : a < y
        · rw [if_neg (show ¬ sNo (some y) ≤ nI a from nI_ge e (by omega)), if_pos (by simp [hz, e])]
          exact ga
        · rw [if_pos (show sNo (some y) ≤ nI a from nI_le (by omega) (by omega)), if_neg (by simp [hz]; omega)]
          exact gy
theorem m_ex (h : kyM G o p ks) {z : Int32} : f_M_extremeOf G o (nI p) z = rI (sNo (kEx (!decide (z = 0)) none ks)) G := by
  unfold f_M_extremeOf
  rw [show (-1 : Int32) = sNo none from rfl, m_exL h _ zFu 0 none (List.drop_zero ..) (Nat.zero_le _) (by have := h.2.2.2.1; unfold zFu; omega) (fun y q => by cases q)]
theorem m_hasL4 (h : kyM G o p ks) {K : gH → Int32 → gR} : ∀ (l : List Nat) (n j : Nat) (x : Int32), ks.drop j = l → j ≤ ks.length → l.length < n →
    f_M_hashOf_L4 K n G o (nI p) x (nI j) = K G (kH x l)
  | _, 0, _, _, _, _, h => absurd h (Nat.not_lt_zero _)
  | [], n + 1, j, x, hd, hj, _ => by
    obtain ⟨⟨fs, ob⟩, ha, hl, h31, hk31⟩ := h
    unfold f_M_hashOf_L4
    rw [ob, hl, bI_rI, if_pos (nI_le (dr_nil hd) (by omega))]; rfl
  | a :: l, n + 1, j, x, hd, hj, hn => by
    obtain ⟨e1, e2, e3⟩ := dr_cons hd
    have ih := fun x => m_hasL4 h (K := K) l n (j + 1) x e2 (by omega) (by simp at hn; omega)
    obtain ⟨⟨fs, ob⟩, ha, hl, h31, hk31⟩ := h
    obtain ⟨u, x1, x2⟩ := ha j a e1
    unfold f_M_hashOf_L4
    rw [ob, hl, bI_rI, if_neg (nI_ge e3 (by omega)), ob, x1, bA_rA, x2, nI_add, ih]; rfl
theorem m_hsh (h : kyM G o p ks) : f_M_hashOf G o (nI p) = rI (kH (nI 1) ks) G := by
  unfold f_M_hashOf
  rw [m_hasL4 h _ zFu 0 _ (List.drop_zero ..) (Nat.zero_le _) (by have := h.2.2.2.1; unfold zFu; omega)]
end KMr
section KTie
variable {w : Nat → Nat} {b o m : Nat} {A : mS} {σ : cS} {H : gH} {p r s : Nat}
theorem kS_at {A : mS} {r s n i k : Nat} (h : (kS A r s n)[i]? = some k) : ∃ t, (A.1 r)[s + i]? = some t ∧ t.2.1 = k ∧ i < n := by
  unfold kS at h
  rw [List.getElem?_map] at h
  cases hx : (sSeg A r s n)[i]? with
  | none => rw [hx] at h; cases h
  | some t =>
    rw [hx] at h
    have hn : i < n := by
      have := (List.getElem?_eq_some_iff.mp hx).1
      have h2 : (sSeg A r s n).length ≤ n := by unfold sSeg; rw [List.length_take]; omega
      omega
    rw [sSeg_at hn] at hx
    exact ⟨t, hx, Option.some.inj h, hn⟩
theorem kS_len (hI : mInv m A) (hv : mV A p) (hr : mRw A.2.1 zDp p = some (r, s)) : (kS A r s (mLen A p)).length = mLen A p := by
  unfold kS
  rw [List.length_map, sSeg_len (hI.2.1.rw _ _ _ _ hr)]
theorem kS_31 (hI : mInv m A) (hr : mRw A.2.1 zDp p = some (r, s)) : ∀ k, k ∈ kS A r s (mLen A p) → k < 31 := by
  intro k hk
  obtain ⟨t, ht, e⟩ := List.mem_map.mp hk
  rw [← e]
  exact ((hI.2.2.1 r (mRw_lt _ _ _ _ hr)).2 t (sSeg_mem ht)).1
theorem kyC.of (hX : CRepx (-1) σ A) (hI : mInv m A) (hv : mV A p) (hr : mRw A.2.1 zDp p = some (r, s)) : kyC b σ H p (kS A r s (mLen A p)) := by
  have hW := hI.w p
  have hl := kS_len hI hv hr
  refine ⟨fun i k hk => ?_, ?_, by rw [hl]; exact hI.l31 hv, kS_31 hI hr⟩
  · have h31 := kS_31 hI hr k (List.mem_of_getElem? hk)
    obtain ⟨t, ht, rfl, -⟩ := kS_at hk
    exact x_keyAt hX hW hv hr ht (by omega)
  · rw [x_len hX hW.1 hv, hl]
theorem kyM.of {G : gH} {D : mD} (h : MS w o G A D) (hI : mInv m A) (hv : mV A p) (hr : mRw A.2.1 zDp p = some (r, s)) : kyM G o p (kS A r s (mLen A p)) := by
  have hl := kS_len hI hv hr
  refine ⟨⟨_, fun K => gOb_of h.2.2.1 rfl⟩, fun i k hk => ?_, ?_, by rw [hl]; exact hI.l31 hv, kS_31 hI hr⟩
  · obtain ⟨t, ht, rfl, -⟩ := kS_at hk
    exact ⟨t.1, s_at h hI.1 hv hr ht, fun K => (s_th h (mRw_lt _ _ _ _ hr) ht).key⟩
  · rw [s_len h hI.1 hv, hl]
end KTie
end
section
-- what is asked, both sides
section Asks
variable {w : Nat → Nat} {b o m : Nat} {A : mS} {σ : cS} {H : gH}
theorem rZ_0' {G : gH} : rZ 0 G = rI 0 G := rZ_0
theorem rZ_1' {G : gH} : rZ 1 G = rI 1 G := rZ_1
/-- an answer that changes nothing -/
theorem Sim.ask {E : Nat × (Nat → String)} {F : gR} {R : gH → gR} (hR : CRep σ A) (hI : mInv m A) (a : Int32) (hF : F = rI a (cPut b σ H)) (hM : ∀ (G : gH) (D : mD), MS w o G A D → ∃ G', R G = rI a G' ∧ MS w o G' (mSet A 0 0) D ∧ mSt 400 12000 G G') : SimOp w b o A m σ H E F R :=
  Sim.yes a σ hF (fun G D h => by
    obtain ⟨G', a1, a2, a3⟩ := hM G D h
    exact ⟨_, D, G', m, a1, a2, (CRepx.of (exc := -1) hR).thr 0, hI.thr 0, Nat.le_succ m, rfl, a3⟩)
theorem rZ_mB {p : Bool} {G : gH} : rZ (mB p) G = rI (mB p) G := by
  cases p
  · exact rZ_0
  · exact rZ_1
theorem mB_ite {p : Bool} {G : gH} : (if mB p = 0 then rZ (nI 0) G else rZ (nI 1) G) = rI (mB p) G := by
  cases p
  · rw [if_pos (show mB false = 0 from rfl)]; exact rZ_0
  · rw [if_neg (by decide)]; exact rZ_1
theorem s_areNone {G : gH} {D : mD} (h : MS w o G A D) {x y : Int32} : (mIsL A x ∧ mIsL A y → ∃ G', f_M_areNone G o x y = rI 0 G' ∧ MS w o G' (mSet A 0 0) D ∧ mSt 0 0 G G') ∧ (¬ (mIsL A x ∧ mIsL A y) → ∃ G', f_M_areNone G o x y = rI 1 G' ∧ MS w o G' (mSet A 0 (nI 1)) D ∧ mSt 0 0 G G') := by
  refine ⟨fun ⟨hx, hy⟩ => ?_, fun k => ?_⟩
  · obtain ⟨G1, r1, h1, s1⟩ := s_go h
    refine ⟨G1, ?_, h1, s1⟩
    unfold f_M_areNone
    rw [gOb_of h.2.2.1 rfl, (s_noList h _).1 hx, bI_rI, if_pos rfl, gOb_of h.2.2.1 rfl, (s_noList h _).1 hy, bI_rI, if_pos rfl, gOb_of h.2.2.1 rfl, r1, bI_rI, rZ_0']
  · obtain ⟨G1, r1, h1, s1⟩ := s_halt1 h
    refine ⟨G1, ?_, h1, s1⟩
    unfold f_M_areNone
    by_cases hx : mIsL A x
    · rw [gOb_of h.2.2.1 rfl, (s_noList h _).1 hx, bI_rI, if_pos rfl, gOb_of h.2.2.1 rfl, (s_noList h _).2 (fun q => k ⟨hx, q⟩), bI_rI, if_neg (by decide), gOb_of h.2.2.1 rfl, r1, bI_rI, rZ_1']
    · rw [gOb_of h.2.2.1 rfl, (s_noList h _).2 hx, bI_rI, if_neg (by decide), gOb_of h.2.2.1 rfl, r1, bI_rI, rZ_1']
theorem sim_first (hR : CRep σ A) (hI : mInv m A) (x k : Int32) : SimOp w b o A m σ H xIG (f_X_first (cPut b σ H) b x k) (fun G => f_M_first G o x k) := by
  have hX := CRepx.of (exc := -1) hR
  by_cases hx : mIsL A x
  · have hL := hx
    obtain ⟨p, hp, rfl, hv⟩ := hx
    have hv : mV A p := hv
    obtain ⟨r, s, hr, hr2, hfit, h31, hp6, hro⟩ := hI.pl hv
    have hW := hI.w p
    have kc := kyC.of (b := b) (H := H) hX hI hv hr
    have km : ∀ (G : gH) (D : mD), MS w o G (mSet A 0 0) D → kyM G o p (kS A r s (mLen A p)) := fun G D h => kyM.of (A := mSet A 0 0) h (hI.thr 0) hv hr
    by_cases hk : mIsP 31 k
    · have hK := hk
      obtain ⟨k, hk31, rfl⟩ := hk
      refine Sim.ask hR hI (sNo (kFi k (kS A r s (mLen A p)) 0)) ?_ (fun G D h => ?_)
      · unfold f_X_first
        simp only [x_needList hX hW hL, x_needKey.1 hK, c_first kc hk31, c_ob_0, c_fa_0_0, c_fa_0_1, c_fi_0_2, c_put_0_2, c_fi_0_3, c_put_0_3, c_fi_0_4, c_put_0_4, c_ob_1, c_fa_1_0, c_fa_1_1, c_fa_1_2, c_fa_1_3, c_fa_1_4, c_fa_1_5, c_fi_1_6, c_put_1_6, c_ob_2, c_fa_2_0, c_ob_4, c_fa_4_0, c_ob_6, c_fa_6_0, c_ob_8, c_fa_8_0, c_ob_10, c_fa_10_0, c_ob_12, c_fa_12_0, c_ob_14, c_fa_14_0, c_fa_14_1, c_fa_14_2, c_fa_14_3, c_fi_14_4, c_put_14_4, c_ob_15, c_fa_15_0, c_ob_17, c_fa_17_0, c_ob_19, c_fa_19_0, c_ob_21, c_fa_21_0, c_len_0, c_ld_0, c_st_0, c_rd_0, c_wr_0, c_len_1, c_ld_1, c_st_1, c_rd_1, c_wr_1, c_len_2, c_ld_2, c_st_2, c_rd_2, c_wr_2, c_len_3, c_ld_3, c_st_3, c_rd_3, c_wr_3, c_len_4, c_ld_4, c_st_4, c_rd_4, c_wr_4, c_len_5, c_ld_5, c_st_5, c_rd_5, c_wr_5, c_len_6, c_ld_6, c_st_6, c_rd_6, c_wr_6, c_len_7, c_ld_7, c_st_7, c_rd_7, c_wr_7, c_len_8, c_ld_8, c_st_8, c_rd_8, c_wr_8, c_len_9, c_ld_9, c_st_9, c_rd_9, c_wr_9, bI_rI, bL_rL, bA_rA, bV_rV, bI_th, bL_th, bA_th, bV_th, rZ_0, rZ_1]
      · obtain ⟨G1, r1, h1, s1⟩ := r_list1 h hL
        refine ⟨G1, ?_, h1, s1.mono (by omega) (by omega)⟩
        unfold f_M_first
        rw [r1, gOb_of h1.2.2.1 rfl, (s_noKey G1 o _).1 hK, bI_rI, r_ref0b h1 rfl, gOb_of h1.2.2.1 rfl, m_fir (km G1 D h1) hk31, bI_rI]
    · refine Sim.no hR hI 2 (by decide) (by decide) ?_ (fun G D h => ?_)
      · unfold f_X_first
        simp only [x_needList hX hW hL, x_needKey.2 hk, c_ob_0, c_fa_0_0, c_fa_0_1, c_fi_0_2, c_put_0_2, c_fi_0_3, c_put_0_3, c_fi_0_4, c_put_0_4, c_ob_1, c_fa_1_0, c_fa_1_1, c_fa_1_2, c_fa_1_3, c_fa_1_4, c_fa_1_5, c_fi_1_6, c_put_1_6, c_ob_2, c_fa_2_0, c_ob_4, c_fa_4_0, c_ob_6, c_fa_6_0, c_ob_8, c_fa_8_0, c_ob_10, c_fa_10_0, c_ob_12, c_fa_12_0, c_ob_14, c_fa_14_0, c_fa_14_1, c_fa_14_2, c_fa_14_3, c_fi_14_4, c_put_14_4, c_ob_15, c_fa_15_0, c_ob_17, c_fa_17_0, c_ob_19, c_fa_19_0, c_ob_21, c_fa_21_0, c_len_0, c_ld_0, c_st_0, c_rd_0, c_wr_0, c_len_1, c_ld_1, c_st_1, c_rd_1, c_wr_1, c_len_2, c_ld_2, c_st_2, c_rd_2, c_wr_2, c_len_3, c_ld_3, c_st_3, c_rd_3, c_wr_3, c_len_4, c_ld_4, c_st_4, c_rd_4, c_wr_4, c_len_5, c_ld_5, c_st_5, c_rd_5, c_wr_5, c_len_6, c_ld_6, c_st_6, c_rd_6, c_wr_6, c_len_7, c_ld_7, c_st_7, c_rd_7, c_wr_7, c_len_8, c_ld_8, c_st_8, c_rd_8, c_wr_8, c_len_9, c_ld_9, c_st_9, c_rd_9, c_wr_9, bI_rI, bL_rL, bA_rA, bV_rV, bI_th, bL_th, bA_th, bV_th, rZ_0, rZ_1]
        rfl
      · obtain ⟨G1, r1, h1, s1⟩ := r_list1 h hL
        obtain ⟨G2, r2, h2, s2⟩ := r_no1b (c := 2) h1 (by decide)
        refine ⟨G2, ?_, h2, (s1.trans s2).mono (by omega) (by omega)⟩
        unfold f_M_first
        rw [r1, gOb_of h1.2.2.1 rfl, (s_noKey G1 o _).2 hk, bI_rI, r2]
        rfl
  · refine Sim.no hR hI 1 (by decide) (by decide) ?_ (fun G D h => ?_)
    · unfold f_X_first
      simp only [x_needList_no hX (hI.w 0) hx, c_ob_0, c_fa_0_0, c_fa_0_1, c_fi_0_2, c_put_0_2, c_fi_0_3, c_put_0_3, c_fi_0_4, c_put_0_4, c_ob_1, c_fa_1_0, c_fa_1_1, c_fa_1_2, c_fa_1_3, c_fa_1_4, c_fa_1_5, c_fi_1_6, c_put_1_6, c_ob_2, c_fa_2_0, c_ob_4, c_fa_4_0, c_ob_6, c_fa_6_0, c_ob_8, c_fa_8_0, c_ob_10, c_fa_10_0, c_ob_12, c_fa_12_0, c_ob_14, c_fa_14_0, c_fa_14_1, c_fa_14_2, c_fa_14_3, c_fi_14_4, c_put_14_4, c_ob_15, c_fa_15_0, c_ob_17, c_fa_17_0, c_ob_19, c_fa_19_0, c_ob_21, c_fa_21_0, c_len_0, c_ld_0, c_st_0, c_rd_0, c_wr_0, c_len_1, c_ld_1, c_st_1, c_rd_1, c_wr_1, c_len_2, c_ld_2, c_st_2, c_rd_2, c_wr_2, c_len_3, c_ld_3, c_st_3, c_rd_3, c_wr_3, c_len_4, c_ld_4, c_st_4, c_rd_4, c_wr_4, c_len_5, c_ld_5, c_st_5, c_rd_5, c_wr_5, c_len_6, c_ld_6, c_st_6, c_rd_6, c_wr_6, c_len_7, c_ld_7, c_st_7, c_rd_7, c_wr_7, c_len_8, c_ld_8, c_st_8, c_rd_8, c_wr_8, c_len_9, c_ld_9, c_st_9, c_rd_9, c_wr_9, bI_rI, bL_rL, bA_rA, bV_rV, bI_th, bL_th, bA_th, bV_th, rZ_0, rZ_1]
      rfl
    · obtain ⟨G1, r1, h1, s1⟩ := r_list0 h hx
      refine ⟨G1, ?_, h1, s1⟩
      unfold f_M_first
      rw [r1]
      rfl
theorem sim_last (hR : CRep σ A) (hI : mInv m A) (x k : Int32) : SimOp w b o A m σ H xIG (f_X_last (cPut b σ H) b x k) (fun G => f_M_last G o x k) := by
  have hX := CRepx.of (exc := -1) hR
  by_cases hx : mIsL A x
  · have hL := hx
    obtain ⟨p, hp, rfl, hv⟩ := hx
    have hv : mV A p := hv
    obtain ⟨r, s, hr, hr2, hfit, h31, hp6, hro⟩ := hI.pl hv
    have hW := hI.w p
    have kc := kyC.of (b := b) (H := H) hX hI hv hr
    have km : ∀ (G : gH) (D : mD), MS w o G (mSet A 0 0) D → kyM G o p (kS A r s (mLen A p)) := fun G D h => kyM.of (A := mSet A 0 0) h (hI.thr 0) hv hr
    by_cases hk : mIsP 31 k
    · have hK := hk
      obtain ⟨k, hk31, rfl⟩ := hk
      refine Sim.ask hR hI (sNo (kLa k (kS A r s (mLen A p)) (kS A r s (mLen A p)).length)) ?_ (fun G D h => ?_)
      · unfold f_X_last
        simp only [x_needList hX hW hL, x_needKey.1 hK, c_last kc hk31, c_ob_0, c_fa_0_0, c_fa_0_1, c_fi_0_2, c_put_0_2, c_fi_0_3, c_put_0_3, c_fi_0_4, c_put_0_4, c_ob_1, c_fa_1_0, c_fa_1_1, c_fa_1_2, c_fa_1_3, c_fa_1_4, c_fa_1_5, c_fi_1_6, c_put_1_6, c_ob_2, c_fa_2_0, c_ob_4, c_fa_4_0, c_ob_6, c_fa_6_0, c_ob_8, c_fa_8_0, c_ob_10, c_fa_10_0, c_ob_12, c_fa_12_0, c_ob_14, c_fa_14_0, c_fa_14_1, c_fa_14_2, c_fa_14_3, c_fi_14_4, c_put_14_4, c_ob_15, c_fa_15_0, c_ob_17, c_fa_17_0, c_ob_19, c_fa_19_0, c_ob_21, c_fa_21_0, c_len_0, c_ld_0, c_st_0, c_rd_0, c_wr_0, c_len_1, c_ld_1, c_st_1, c_rd_1, c_wr_1, c_len_2, c_ld_2, c_st_2, c_rd_2, c_wr_2, c_len_3, c_ld_3, c_st_3, c_rd_3, c_wr_3, c_len_4, c_ld_4, c_st_4, c_rd_4, c_wr_4, c_len_5, c_ld_5, c_st_5, c_rd_5, c_wr_5, c_len_6, c_ld_6, c_st_6, c_rd_6, c_wr_6, c_len_7, c_ld_7, c_st_7, c_rd_7, c_wr_7, c_len_8, c_ld_8, c_st_8, c_rd_8, c_wr_8, c_len_9, c_ld_9, c_st_9, c_rd_9, c_wr_9, bI_rI, bL_rL, bA_rA, bV_rV, bI_th, bL_th, bA_th, bV_th, rZ_0, rZ_1]
      · obtain ⟨G1, r1, h1, s1⟩ := r_list1 h hL
        refine ⟨G1, ?_, h1, s1.mono (by omega) (by omega)⟩
        unfold f_M_last
        rw [r1, gOb_of h1.2.2.1 rfl, (s_noKey G1 o _).1 hK, bI_rI, r_ref0b h1 rfl, gOb_of h1.2.2.1 rfl, m_las (km G1 D h1) hk31, bI_rI]
    · refine Sim.no hR hI 2 (by decide) (by decide) ?_ (fun G D h => ?_)
      · unfold f_X_last
        simp only [x_needList hX hW hL, x_needKey.2 hk, c_ob_0, c_fa_0_0, c_fa_0_1, c_fi_0_2, c_put_0_2, c_fi_0_3, c_put_0_3, c_fi_0_4, c_put_0_4, c_ob_1, c_fa_1_0, c_fa_1_1, c_fa_1_2, c_fa_1_3, c_fa_1_4, c_fa_1_5, c_fi_1_6, c_put_1_6, c_ob_2, c_fa_2_0, c_ob_4, c_fa_4_0, c_ob_6, c_fa_6_0, c_ob_8, c_fa_8_0, c_ob_10, c_fa_10_0, c_ob_12, c_fa_12_0, c_ob_14, c_fa_14_0, c_fa_14_1, c_fa_14_2, c_fa_14_3, c_fi_14_4, c_put_14_4, c_ob_15, c_fa_15_0, c_ob_17, c_fa_17_0, c_ob_19, c_fa_19_0, c_ob_21, c_fa_21_0, c_len_0, c_ld_0, c_st_0, c_rd_0, c_wr_0, c_len_1, c_ld_1, c_st_1, c_rd_1, c_wr_1, c_len_2, c_ld_2, c_st_2, c_rd_2, c_wr_2, c_len_3, c_ld_3, c_st_3, c_rd_3, c_wr_3, c_len_4, c_ld_4, c_st_4, c_rd_4, c_wr_4, c_len_5, c_ld_5, c_st_5, c_rd_5, c_wr_5, c_len_6, c_ld_6, c_st_6, c_rd_6, c_wr_6, c_len_7, c_ld_7, c_st_7, c_rd_7, c_wr_7, c_len_8, c_ld_8, c_st_8, c_rd_8, c_wr_8, c_len_9, c_ld_9, c_st_9, c_rd_9, c_wr_9, bI_rI, bL_rL, bA_rA, bV_rV, bI_th, bL_th, bA_th, bV_th, rZ_0, rZ_1]
        rfl
      · obtain ⟨G1, r1, h1, s1⟩ := r_list1 h hL
        obtain ⟨G2, r2, h2, s2⟩ := r_no1b (c := 2) h1 (by decide)
        refine ⟨G2, ?_, h2, (s1.trans s2).mono (by omega) (by omega)⟩
        unfold f_M_last
        rw [r1, gOb_of h1.2.2.1 rfl, (s_noKey G1 o _).2 hk, bI_rI, r2]
        rfl
  · refine Sim.no hR hI 1 (by decide) (by decide) ?_ (fun G D h => ?_)
    · unfold f_X_last
      simp only [x_needList_no hX (hI.w 0) hx, c_ob_0, c_fa_0_0, c_fa_0_1, c_fi_0_2, c_put_0_2, c_fi_0_3, c_put_0_3, c_fi_0_4, c_put_0_4, c_ob_1, c_fa_1_0, c_fa_1_1, c_fa_1_2, c_fa_1_3, c_fa_1_4, c_fa_1_5, c_fi_1_6, c_put_1_6, c_ob_2, c_fa_2_0, c_ob_4, c_fa_4_0, c_ob_6, c_fa_6_0, c_ob_8, c_fa_8_0, c_ob_10, c_fa_10_0, c_ob_12, c_fa_12_0, c_ob_14, c_fa_14_0, c_fa_14_1, c_fa_14_2, c_fa_14_3, c_fi_14_4, c_put_14_4, c_ob_15, c_fa_15_0, c_ob_17, c_fa_17_0, c_ob_19, c_fa_19_0, c_ob_21, c_fa_21_0, c_len_0, c_ld_0, c_st_0, c_rd_0, c_wr_0, c_len_1, c_ld_1, c_st_1, c_rd_1, c_wr_1, c_len_2, c_ld_2, c_st_2, c_rd_2, c_wr_2, c_len_3, c_ld_3, c_st_3, c_rd_3, c_wr_3, c_len_4, c_ld_4, c_st_4, c_rd_4, c_wr_4, c_len_5, c_ld_5, c_st_5, c_rd_5, c_wr_5, c_len_6, c_ld_6, c_st_6, c_rd_6, c_wr_6, c_len_7, c_ld_7, c_st_7, c_rd_7, c_wr_7, c_len_8, c_ld_8, c_st_8, c_rd_8, c_wr_8, c_len_9, c_ld_9, c_st_9, c_rd_9, c_wr_9, bI_rI, bL_rL, bA_rA, bV_rV, bI_th, bL_th, bA_th, bV_th, rZ_0, rZ_1]
      rfl
    · obtain ⟨G1, r1, h1, s1⟩ := r_list0 h hx
      refine ⟨G1, ?_, h1, s1⟩
      unfold f_M_last
      rw [r1]
      rfl
theorem sim_many (hR : CRep σ A) (hI : mInv m A) (x k : Int32) : SimOp w b o A m σ H xIG (f_X_many (cPut b σ H) b x k) (fun G => f_M_many G o x k) := by
  have hX := CRepx.of (exc := -1) hR
  by_cases hx : mIsL A x
  · have hL := hx
    obtain ⟨p, hp, rfl, hv⟩ := hx
    have hv : mV A p := hv
    obtain ⟨r, s, hr, hr2, hfit, h31, hp6, hro⟩ := hI.pl hv
    have hW := hI.w p
    have kc := kyC.of (b := b) (H := H) hX hI hv hr
    have km : ∀ (G : gH) (D : mD), MS w o G (mSet A 0 0) D → kyM G o p (kS A r s (mLen A p)) := fun G D h => kyM.of (A := mSet A 0 0) h (hI.thr 0) hv hr
    by_cases hk : mIsP 31 k
    · have hK := hk
      obtain ⟨k, hk31, rfl⟩ := hk
      refine Sim.ask hR hI (nI (kCt (fun x => decide (x = k)) (kS A r s (mLen A p)))) ?_ (fun G D h => ?_)
      · unfold f_X_many
        simp only [x_needList hX hW hL, x_needKey.1 hK, c_count kc hk31, c_ob_0, c_fa_0_0, c_fa_0_1, c_fi_0_2, c_put_0_2, c_fi_0_3, c_put_0_3, c_fi_0_4, c_put_0_4, c_ob_1, c_fa_1_0, c_fa_1_1, c_fa_1_2, c_fa_1_3, c_fa_1_4, c_fa_1_5, c_fi_1_6, c_put_1_6, c_ob_2, c_fa_2_0, c_ob_4, c_fa_4_0, c_ob_6, c_fa_6_0, c_ob_8, c_fa_8_0, c_ob_10, c_fa_10_0, c_ob_12, c_fa_12_0, c_ob_14, c_fa_14_0, c_fa_14_1, c_fa_14_2, c_fa_14_3, c_fi_14_4, c_put_14_4, c_ob_15, c_fa_15_0, c_ob_17, c_fa_17_0, c_ob_19, c_fa_19_0, c_ob_21, c_fa_21_0, c_len_0, c_ld_0, c_st_0, c_rd_0, c_wr_0, c_len_1, c_ld_1, c_st_1, c_rd_1, c_wr_1, c_len_2, c_ld_2, c_st_2, c_rd_2, c_wr_2, c_len_3, c_ld_3, c_st_3, c_rd_3, c_wr_3, c_len_4, c_ld_4, c_st_4, c_rd_4, c_wr_4, c_len_5, c_ld_5, c_st_5, c_rd_5, c_wr_5, c_len_6, c_ld_6, c_st_6, c_rd_6, c_wr_6, c_len_7, c_ld_7, c_st_7, c_rd_7, c_wr_7, c_len_8, c_ld_8, c_st_8, c_rd_8, c_wr_8, c_len_9, c_ld_9, c_st_9, c_rd_9, c_wr_9, bI_rI, bL_rL, bA_rA, bV_rV, bI_th, bL_th, bA_th, bV_th, rZ_0, rZ_1]
      · obtain ⟨G1, r1, h1, s1⟩ := r_list1 h hL
        refine ⟨G1, ?_, h1, s1.mono (by omega) (by omega)⟩
        unfold f_M_many
        rw [r1, gOb_of h1.2.2.1 rfl, (s_noKey G1 o _).1 hK, bI_rI, r_ref0b h1 rfl, gOb_of h1.2.2.1 rfl, m_man (km G1 D h1) hk31, bI_rI]
    · refine Sim.no hR hI 2 (by decide) (by decide) ?_ (fun G D h => ?_)
      · unfold f_X_many
        simp only [x_needList hX hW hL, x_needKey.2 hk, c_ob_0, c_fa_0_0, c_fa_0_1, c_fi_0_2, c_put_0_2, c_fi_0_3, c_put_0_3, c_fi_0_4, c_put_0_4, c_ob_1, c_fa_1_0, c_fa_1_1, c_fa_1_2, c_fa_1_3, c_fa_1_4, c_fa_1_5, c_fi_1_6, c_put_1_6, c_ob_2, c_fa_2_0, c_ob_4, c_fa_4_0, c_ob_6, c_fa_6_0, c_ob_8, c_fa_8_0, c_ob_10, c_fa_10_0, c_ob_12, c_fa_12_0, c_ob_14, c_fa_14_0, c_fa_14_1, c_fa_14_2, c_fa_14_3, c_fi_14_4, c_put_14_4, c_ob_15, c_fa_15_0, c_ob_17, c_fa_17_0, c_ob_19, c_fa_19_0, c_ob_21, c_fa_21_0, c_len_0, c_ld_0, c_st_0, c_rd_0, c_wr_0, c_len_1, c_ld_1, c_st_1, c_rd_1, c_wr_1, c_len_2, c_ld_2, c_st_2, c_rd_2, c_wr_2, c_len_3, c_ld_3, c_st_3, c_rd_3, c_wr_3, c_len_4, c_ld_4, c_st_4, c_rd_4, c_wr_4, c_len_5, c_ld_5, c_st_5, c_rd_5, c_wr_5, c_len_6, c_ld_6, c_st_6, c_rd_6, c_wr_6, c_len_7, c_ld_7, c_st_7, c_rd_7, c_wr_7, c_len_8, c_ld_8, c_st_8, c_rd_8, c_wr_8, c_len_9, c_ld_9, c_st_9, c_rd_9, c_wr_9, bI_rI, bL_rL, bA_rA, bV_rV, bI_th, bL_th, bA_th, bV_th, rZ_0, rZ_1]
        rfl
      · obtain ⟨G1, r1, h1, s1⟩ := r_list1 h hL
        obtain ⟨G2, r2, h2, s2⟩ := r_no1b (c := 2) h1 (by decide)
        refine ⟨G2, ?_, h2, (s1.trans s2).mono (by omega) (by omega)⟩
        unfold f_M_many
        rw [r1, gOb_of h1.2.2.1 rfl, (s_noKey G1 o _).2 hk, bI_rI, r2]
        rfl
  · refine Sim.no hR hI 1 (by decide) (by decide) ?_ (fun G D h => ?_)
    · unfold f_X_many
      simp only [x_needList_no hX (hI.w 0) hx, c_ob_0, c_fa_0_0, c_fa_0_1, c_fi_0_2, c_put_0_2, c_fi_0_3, c_put_0_3, c_fi_0_4, c_put_0_4, c_ob_1, c_fa_1_0, c_fa_1_1, c_fa_1_2, c_fa_1_3, c_fa_1_4, c_fa_1_5, c_fi_1_6, c_put_1_6, c_ob_2, c_fa_2_0, c_ob_4, c_fa_4_0, c_ob_6, c_fa_6_0, c_ob_8, c_fa_8_0, c_ob_10, c_fa_10_0, c_ob_12, c_fa_12_0, c_ob_14, c_fa_14_0, c_fa_14_1, c_fa_14_2, c_fa_14_3, c_fi_14_4, c_put_14_4, c_ob_15, c_fa_15_0, c_ob_17, c_fa_17_0, c_ob_19, c_fa_19_0, c_ob_21, c_fa_21_0, c_len_0, c_ld_0, c_st_0, c_rd_0, c_wr_0, c_len_1, c_ld_1, c_st_1, c_rd_1, c_wr_1, c_len_2, c_ld_2, c_st_2, c_rd_2, c_wr_2, c_len_3, c_ld_3, c_st_3, c_rd_3, c_wr_3, c_len_4, c_ld_4, c_st_4, c_rd_4, c_wr_4, c_len_5, c_ld_5, c_st_5, c_rd_5, c_wr_5, c_len_6, c_ld_6, c_st_6, c_rd_6, c_wr_6, c_len_7, c_ld_7, c_st_7, c_rd_7, c_wr_7, c_len_8, c_ld_8, c_st_8, c_rd_8, c_wr_8, c_len_9, c_ld_9, c_st_9, c_rd_9, c_wr_9, bI_rI, bL_rL, bA_rA, bV_rV, bI_th, bL_th, bA_th, bV_th, rZ_0, rZ_1]
      rfl
    · obtain ⟨G1, r1, h1, s1⟩ := r_list0 h hx
      refine ⟨G1, ?_, h1, s1⟩
      unfold f_M_many
      rw [r1]
      rfl
theorem sim_spot (hR : CRep σ A) (hI : mInv m A) (x k : Int32) : SimOp w b o A m σ H xIAS (f_X_spot (cPut b σ H) b x k) (fun G => f_M_spot G o x k) := by
  have hX := CRepx.of (exc := -1) hR
  by_cases hx : mIsL A x
  · have hL := hx
    obtain ⟨p, hp, rfl, hv⟩ := hx
    have hv : mV A p := hv
    obtain ⟨r, s, hr, hr2, hfit, h31, hp6, hro⟩ := hI.pl hv
    have hW := hI.w p
    have kc := kyC.of (b := b) (H := H) hX hI hv hr
    have km : ∀ (G : gH) (D : mD), MS w o G (mSet A 0 0) D → kyM G o p (kS A r s (mLen A p)) := fun G D h => kyM.of (A := mSet A 0 0) h (hI.thr 0) hv hr
    have hks := kS_len hI hv hr
    have hl31 := hI.l31 hv
    by_cases hk : mIsP 31 k
    · have hK := hk
      obtain ⟨k, hk31, rfl⟩ := hk
      by_cases hs : kSd (kS A r s (mLen A p)) = true
      · -- the place at which it would come
        have hpr : kCt (fun x => decide (x < k)) (kS A r s (mLen A p)) = kPr k (kS A r s (mLen A p)) := by
          cases hz : kS A r s (mLen A p) with
          | nil => rfl
          | cons a l =>
            rw [hz] at hs
            obtain ⟨g1, g2⟩ := kPr_so (k := k) l a hs
            unfold kCt kPr
            by_cases ec : a < k
            · rw [if_pos (decide_eq_true ec), if_pos ec]; omega
            · rw [if_neg (by simp [ec]), if_neg ec]
              have := g1 (by omega)
              omega
        refine Sim.ask hR hI (if k ∉ kS A r s (mLen A p) then nI (kPr k (kS A r s (mLen A p))) else nI 99) ?_ (fun G D h => ?_)
        · unfold f_X_spot
          simp only [x_needList hX hW hL, x_needKey.1 hK, c_sorted kc, c_first kc hk31, c_below kc hk31, hpr, hs, c_ob_0, c_fa_0_0, c_fa_0_1, c_fi_0_2, c_put_0_2, c_fi_0_3, c_put_0_3, c_fi_0_4, c_put_0_4, c_ob_1, c_fa_1_0, c_fa_1_1, c_fa_1_2, c_fa_1_3, c_fa_1_4, c_fa_1_5, c_fi_1_6, c_put_1_6, c_ob_2, c_fa_2_0, c_ob_4, c_fa_4_0, c_ob_6, c_fa_6_0, c_ob_8, c_fa_8_0, c_ob_10, c_fa_10_0, c_ob_12, c_fa_12_0, c_ob_14, c_fa_14_0, c_fa_14_1, c_fa_14_2, c_fa_14_3, c_fi_14_4, c_put_14_4, c_ob_15, c_fa_15_0, c_ob_17, c_fa_17_0, c_ob_19, c_fa_19_0, c_ob_21, c_fa_21_0, c_len_0, c_ld_0, c_st_0, c_rd_0, c_wr_0, c_len_1, c_ld_1, c_st_1, c_rd_1, c_wr_1, c_len_2, c_ld_2, c_st_2, c_rd_2, c_wr_2, c_len_3, c_ld_3, c_st_3, c_rd_3, c_wr_3, c_len_4, c_ld_4, c_st_4, c_rd_4, c_wr_4, c_len_5, c_ld_5, c_st_5, c_rd_5, c_wr_5, c_len_6, c_ld_6, c_st_6, c_rd_6, c_wr_6, c_len_7, c_ld_7, c_st_7, c_rd_7, c_wr_7, c_len_8, c_ld_8, c_st_8, c_rd_8, c_wr_8, c_len_9, c_ld_9, c_st_9, c_rd_9, c_wr_9, bI_rI, bL_rL, bA_rA, bV_rV, bI_th, bL_th, bA_th, bV_th, rZ_0, rZ_1]
          rw [show mB true = 1 from rfl, if_neg (by decide)]
          by_cases e : k ∉ kS A r s (mLen A p)
          · rw [if_pos ((kFi_no (by omega)).mpr e), if_pos e]
          · rw [if_neg (fun q => e ((kFi_no (by omega)).mp q)), if_neg e]
        · obtain ⟨G1, r1, h1, s1⟩ := r_list1 h hL
          refine ⟨G1, ?_, h1, s1.mono (by omega) (by omega)⟩
          have hsp := m_spoL (km G1 D h1) (K := fun G65 x61 x62 x63 x64 => gOb G65 x61 6 fun o67 => bI (f_M_firstOf G65 x61 x62 x63) fun v70 G69 => if v70 = (-1) then rI x64 G69
            else rI (nI 99) G69) hk31 _ zFu 0 (List.drop_zero ..) (Nat.zero_le _) (by unfold zFu; omega)
          unfold f_M_spot
          rw [r1, gOb_of h1.2.2.1 rfl, (s_noKey G1 o _).1 hK, bI_rI, r_ref0b h1 rfl, gOb_of h1.2.2.1 rfl, m_sd (km G1 D h1), bI_rI, hs, show mB true = 1 from rfl, if_neg (by decide), r_ref0 h1 rfl, hsp, gOb_of h1.2.2.1 rfl, m_fir (km G1 D h1) hk31, bI_rI, Nat.zero_add]
          by_cases e : k ∉ kS A r s (mLen A p)
          · rw [if_pos ((kFi_no (by omega)).mpr e), if_pos e]
          · rw [if_neg (fun q => e ((kFi_no (by omega)).mp q)), if_neg e]
      · have hs' : kSd (kS A r s (mLen A p)) = false := Bool.eq_false_iff.mpr hs
        refine Sim.no hR hI 3 (by decide) (by decide) ?_ (fun G D h => ?_)
        · unfold f_X_spot
          simp only [x_needList hX hW hL, x_needKey.1 hK, c_sorted kc, hs', c_ob_0, c_fa_0_0, c_fa_0_1, c_fi_0_2, c_put_0_2, c_fi_0_3, c_put_0_3, c_fi_0_4, c_put_0_4, c_ob_1, c_fa_1_0, c_fa_1_1, c_fa_1_2, c_fa_1_3, c_fa_1_4, c_fa_1_5, c_fi_1_6, c_put_1_6, c_ob_2, c_fa_2_0, c_ob_4, c_fa_4_0, c_ob_6, c_fa_6_0, c_ob_8, c_fa_8_0, c_ob_10, c_fa_10_0, c_ob_12, c_fa_12_0, c_ob_14, c_fa_14_0, c_fa_14_1, c_fa_14_2, c_fa_14_3, c_fi_14_4, c_put_14_4, c_ob_15, c_fa_15_0, c_ob_17, c_fa_17_0, c_ob_19, c_fa_19_0, c_ob_21, c_fa_21_0, c_len_0, c_ld_0, c_st_0, c_rd_0, c_wr_0, c_len_1, c_ld_1, c_st_1, c_rd_1, c_wr_1, c_len_2, c_ld_2, c_st_2, c_rd_2, c_wr_2, c_len_3, c_ld_3, c_st_3, c_rd_3, c_wr_3, c_len_4, c_ld_4, c_st_4, c_rd_4, c_wr_4, c_len_5, c_ld_5, c_st_5, c_rd_5, c_wr_5, c_len_6, c_ld_6, c_st_6, c_rd_6, c_wr_6, c_len_7, c_ld_7, c_st_7, c_rd_7, c_wr_7, c_len_8, c_ld_8, c_st_8, c_rd_8, c_wr_8, c_len_9, c_ld_9, c_st_9, c_rd_9, c_wr_9, bI_rI, bL_rL, bA_rA, bV_rV, bI_th, bL_th, bA_th, bV_th, rZ_0, rZ_1]
          rw [show mB false = 0 from rfl, if_pos rfl]
          rfl
        · obtain ⟨G1, r1, h1, s1⟩ := r_list1 h hL
          obtain ⟨G2, r2, h2, s2⟩ := r_no1 (c := 3) h1 (by decide)
          refine ⟨G2, ?_, h2, (s1.trans s2).mono (by omega) (by omega)⟩
          unfold f_M_spot
          rw [r1, gOb_of h1.2.2.1 rfl, (s_noKey G1 o _).1 hK, bI_rI, r_ref0b h1 rfl, gOb_of h1.2.2.1 rfl, m_sd (km G1 D h1), bI_rI, hs', show mB false = 0 from rfl, if_pos rfl, r2]
          rfl
    · refine Sim.no hR hI 2 (by decide) (by decide) ?_ (fun G D h => ?_)
      · unfold f_X_spot
        simp only [x_needList hX hW hL, x_needKey.2 hk, c_ob_0, c_fa_0_0, c_fa_0_1, c_fi_0_2, c_put_0_2, c_fi_0_3, c_put_0_3, c_fi_0_4, c_put_0_4, c_ob_1, c_fa_1_0, c_fa_1_1, c_fa_1_2, c_fa_1_3, c_fa_1_4, c_fa_1_5, c_fi_1_6, c_put_1_6, c_ob_2, c_fa_2_0, c_ob_4, c_fa_4_0, c_ob_6, c_fa_6_0, c_ob_8, c_fa_8_0, c_ob_10, c_fa_10_0, c_ob_12, c_fa_12_0, c_ob_14, c_fa_14_0, c_fa_14_1, c_fa_14_2, c_fa_14_3, c_fi_14_4, c_put_14_4, c_ob_15, c_fa_15_0, c_ob_17, c_fa_17_0, c_ob_19, c_fa_19_0, c_ob_21, c_fa_21_0, c_len_0, c_ld_0, c_st_0, c_rd_0, c_wr_0, c_len_1, c_ld_1, c_st_1, c_rd_1, c_wr_1, c_len_2, c_ld_2, c_st_2, c_rd_2, c_wr_2, c_len_3, c_ld_3, c_st_3, c_rd_3, c_wr_3, c_len_4, c_ld_4, c_st_4, c_rd_4, c_wr_4, c_len_5, c_ld_5, c_st_5, c_rd_5, c_wr_5, c_len_6, c_ld_6, c_st_6, c_rd_6, c_wr_6, c_len_7, c_ld_7, c_st_7, c_rd_7, c_wr_7, c_len_8, c_ld_8, c_st_8, c_rd_8, c_wr_8, c_len_9, c_ld_9, c_st_9, c_rd_9, c_wr_9, bI_rI, bL_rL, bA_rA, bV_rV, bI_th, bL_th, bA_th, bV_th, rZ_0, rZ_1]
        rfl
      · obtain ⟨G1, r1, h1, s1⟩ := r_list1 h hL
        obtain ⟨G2, r2, h2, s2⟩ := r_no1b (c := 2) h1 (by decide)
        refine ⟨G2, ?_, h2, (s1.trans s2).mono (by omega) (by omega)⟩
        unfold f_M_spot
        rw [r1, gOb_of h1.2.2.1 rfl, (s_noKey G1 o _).2 hk, bI_rI, r2]
        rfl
  · refine Sim.no hR hI 1 (by decide) (by decide) ?_ (fun G D h => ?_)
    · unfold f_X_spot
      simp only [x_needList_no hX (hI.w 0) hx, c_ob_0, c_fa_0_0, c_fa_0_1, c_fi_0_2, c_put_0_2, c_fi_0_3, c_put_0_3, c_fi_0_4, c_put_0_4, c_ob_1, c_fa_1_0, c_fa_1_1, c_fa_1_2, c_fa_1_3, c_fa_1_4, c_fa_1_5, c_fi_1_6, c_put_1_6, c_ob_2, c_fa_2_0, c_ob_4, c_fa_4_0, c_ob_6, c_fa_6_0, c_ob_8, c_fa_8_0, c_ob_10, c_fa_10_0, c_ob_12, c_fa_12_0, c_ob_14, c_fa_14_0, c_fa_14_1, c_fa_14_2, c_fa_14_3, c_fi_14_4, c_put_14_4, c_ob_15, c_fa_15_0, c_ob_17, c_fa_17_0, c_ob_19, c_fa_19_0, c_ob_21, c_fa_21_0, c_len_0, c_ld_0, c_st_0, c_rd_0, c_wr_0, c_len_1, c_ld_1, c_st_1, c_rd_1, c_wr_1, c_len_2, c_ld_2, c_st_2, c_rd_2, c_wr_2, c_len_3, c_ld_3, c_st_3, c_rd_3, c_wr_3, c_len_4, c_ld_4, c_st_4, c_rd_4, c_wr_4, c_len_5, c_ld_5, c_st_5, c_rd_5, c_wr_5, c_len_6, c_ld_6, c_st_6, c_rd_6, c_wr_6, c_len_7, c_ld_7, c_st_7, c_rd_7, c_wr_7, c_len_8, c_ld_8, c_st_8, c_rd_8, c_wr_8, c_len_9, c_ld_9, c_st_9, c_rd_9, c_wr_9, bI_rI, bL_rL, bA_rA, bV_rV, bI_th, bL_th, bA_th, bV_th, rZ_0, rZ_1]
      rfl
    · obtain ⟨G1, r1, h1, s1⟩ := r_list0 h hx
      refine ⟨G1, ?_, h1, s1⟩
      unfold f_M_spot
      rw [r1]
      rfl
theorem sim_extreme (hR : CRep σ A) (hI : mInv m A) (x : Int32) (z : Int32) : SimOp w b o A m σ H xI1 (f_X_extreme (cPut b σ H) b x z) (fun G => f_M_extreme G o x z) := by
  have hX := CRepx.of (exc := -1) hR
  by_cases hx : mIsL A x
  · have hL := hx
    obtain ⟨p, hp, rfl, hv⟩ := hx
    have hv : mV A p := hv
    obtain ⟨r, s, hr, hr2, hfit, h31, hp6, hro⟩ := hI.pl hv
    have hW := hI.w p
    have kc := kyC.of (b := b) (H := H) hX hI hv hr
    have km : ∀ (G : gH) (D : mD), MS w o G (mSet A 0 0) D → kyM G o p (kS A r s (mLen A p)) := fun G D h => kyM.of (A := mSet A 0 0) h (hI.thr 0) hv hr
    refine Sim.ask hR hI (sNo (kEx (!decide (z = 0)) none (kS A r s (mLen A p)))) ?_ (fun G D h => ?_)
    · unfold f_X_extreme
      simp only [x_needList hX hW hL, c_extreme kc, c_ob_0, c_fa_0_0, c_fa_0_1, c_fi_0_2, c_put_0_2, c_fi_0_3, c_put_0_3, c_fi_0_4, c_put_0_4, c_ob_1, c_fa_1_0, c_fa_1_1, c_fa_1_2, c_fa_1_3, c_fa_1_4, c_fa_1_5, c_fi_1_6, c_put_1_6, c_ob_2, c_fa_2_0, c_ob_4, c_fa_4_0, c_ob_6, c_fa_6_0, c_ob_8, c_fa_8_0, c_ob_10, c_fa_10_0, c_ob_12, c_fa_12_0, c_ob_14, c_fa_14_0, c_fa_14_1, c_fa_14_2, c_fa_14_3, c_fi_14_4, c_put_14_4, c_ob_15, c_fa_15_0, c_ob_17, c_fa_17_0, c_ob_19, c_fa_19_0, c_ob_21, c_fa_21_0, c_len_0, c_ld_0, c_st_0, c_rd_0, c_wr_0, c_len_1, c_ld_1, c_st_1, c_rd_1, c_wr_1, c_len_2, c_ld_2, c_st_2, c_rd_2, c_wr_2, c_len_3, c_ld_3, c_st_3, c_rd_3, c_wr_3, c_len_4, c_ld_4, c_st_4, c_rd_4, c_wr_4, c_len_5, c_ld_5, c_st_5, c_rd_5, c_wr_5, c_len_6, c_ld_6, c_st_6, c_rd_6, c_wr_6, c_len_7, c_ld_7, c_st_7, c_rd_7, c_wr_7, c_len_8, c_ld_8, c_st_8, c_rd_8, c_wr_8, c_len_9, c_ld_9, c_st_9, c_rd_9, c_wr_9, bI_rI, bL_rL, bA_rA, bV_rV, bI_th, bL_th, bA_th, bV_th, rZ_0, rZ_1]
    · obtain ⟨G1, r1, h1, s1⟩ := r_list1 h hL
      refine ⟨G1, ?_, h1, s1.mono (by omega) (by omega)⟩
      unfold f_M_extreme
      rw [r1, gOb_of h1.2.2.1 rfl, m_ex (km G1 D h1), bI_rI]
  · refine Sim.no hR hI 1 (by decide) (by decide) ?_ (fun G D h => ?_)
    · unfold f_X_extreme
      simp only [x_needList_no hX (hI.w 0) hx, c_ob_0, c_fa_0_0, c_fa_0_1, c_fi_0_2, c_put_0_2, c_fi_0_3, c_put_0_3, c_fi_0_4, c_put_0_4, c_ob_1, c_fa_1_0, c_fa_1_1, c_fa_1_2, c_fa_1_3, c_fa_1_4, c_fa_1_5, c_fi_1_6, c_put_1_6, c_ob_2, c_fa_2_0, c_ob_4, c_fa_4_0, c_ob_6, c_fa_6_0, c_ob_8, c_fa_8_0, c_ob_10, c_fa_10_0, c_ob_12, c_fa_12_0, c_ob_14, c_fa_14_0, c_fa_14_1, c_fa_14_2, c_fa_14_3, c_fi_14_4, c_put_14_4, c_ob_15, c_fa_15_0, c_ob_17, c_fa_17_0, c_ob_19, c_fa_19_0, c_ob_21, c_fa_21_0, c_len_0, c_ld_0, c_st_0, c_rd_0, c_wr_0, c_len_1, c_ld_1, c_st_1, c_rd_1, c_wr_1, c_len_2, c_ld_2, c_st_2, c_rd_2, c_wr_2, c_len_3, c_ld_3, c_st_3, c_rd_3, c_wr_3, c_len_4, c_ld_4, c_st_4, c_rd_4, c_wr_4, c_len_5, c_ld_5, c_st_5, c_rd_5, c_wr_5, c_len_6, c_ld_6, c_st_6, c_rd_6, c_wr_6, c_len_7, c_ld_7, c_st_7, c_rd_7, c_wr_7, c_len_8, c_ld_8, c_st_8, c_rd_8, c_wr_8, c_len_9, c_ld_9, c_st_9, c_rd_9, c_wr_9, bI_rI, bL_rL, bA_rA, bV_rV, bI_th, bL_th, bA_th, bV_th, rZ_0, rZ_1]
      rfl
    · obtain ⟨G1, r1, h1, s1⟩ := r_list0 h hx
      refine ⟨G1, ?_, h1, s1⟩
      unfold f_M_extreme
      rw [r1]
      rfl
theorem sim_hash (hR : CRep σ A) (hI : mInv m A) (x : Int32) : SimOp w b o A m σ H xI1 (f_X_hash (cPut b σ H) b x) (fun G => f_M_hash G o x) := by
  have hX := CRepx.of (exc := -1) hR
  by_cases hx : mIsL A x
  · have hL := hx
    obtain ⟨p, hp, rfl, hv⟩ := hx
    have hv : mV A p := hv
    obtain ⟨r, s, hr, hr2, hfit, h31, hp6, hro⟩ := hI.pl hv
    have hW := hI.w p
    have kc := kyC.of (b := b) (H := H) hX hI hv hr
    have km : ∀ (G : gH) (D : mD), MS w o G (mSet A 0 0) D → kyM G o p (kS A r s (mLen A p)) := fun G D h => kyM.of (A := mSet A 0 0) h (hI.thr 0) hv hr
    refine Sim.ask hR hI (kH (nI 1) (kS A r s (mLen A p))) ?_ (fun G D h => ?_)
    · unfold f_X_hash
      simp only [x_needList hX hW hL, c_hash kc, c_ob_0, c_fa_0_0, c_fa_0_1, c_fi_0_2, c_put_0_2, c_fi_0_3, c_put_0_3, c_fi_0_4, c_put_0_4, c_ob_1, c_fa_1_0, c_fa_1_1, c_fa_1_2, c_fa_1_3, c_fa_1_4, c_fa_1_5, c_fi_1_6, c_put_1_6, c_ob_2, c_fa_2_0, c_ob_4, c_fa_4_0, c_ob_6, c_fa_6_0, c_ob_8, c_fa_8_0, c_ob_10, c_fa_10_0, c_ob_12, c_fa_12_0, c_ob_14, c_fa_14_0, c_fa_14_1, c_fa_14_2, c_fa_14_3, c_fi_14_4, c_put_14_4, c_ob_15, c_fa_15_0, c_ob_17, c_fa_17_0, c_ob_19, c_fa_19_0, c_ob_21, c_fa_21_0, c_len_0, c_ld_0, c_st_0, c_rd_0, c_wr_0, c_len_1, c_ld_1, c_st_1, c_rd_1, c_wr_1, c_len_2, c_ld_2, c_st_2, c_rd_2, c_wr_2, c_len_3, c_ld_3, c_st_3, c_rd_3, c_wr_3, c_len_4, c_ld_4, c_st_4, c_rd_4, c_wr_4, c_len_5, c_ld_5, c_st_5, c_rd_5, c_wr_5, c_len_6, c_ld_6, c_st_6, c_rd_6, c_wr_6, c_len_7, c_ld_7, c_st_7, c_rd_7, c_wr_7, c_len_8, c_ld_8, c_st_8, c_rd_8, c_wr_8, c_len_9, c_ld_9, c_st_9, c_rd_9, c_wr_9, bI_rI, bL_rL, bA_rA, bV_rV, bI_th, bL_th, bA_th, bV_th, rZ_0, rZ_1]
    · obtain ⟨G1, r1, h1, s1⟩ := r_list1 h hL
      refine ⟨G1, ?_, h1, s1.mono (by omega) (by omega)⟩
      unfold f_M_hash
      rw [r1, gOb_of h1.2.2.1 rfl, m_hsh (km G1 D h1), bI_rI]
  · refine Sim.no hR hI 1 (by decide) (by decide) ?_ (fun G D h => ?_)
    · unfold f_X_hash
      simp only [x_needList_no hX (hI.w 0) hx, c_ob_0, c_fa_0_0, c_fa_0_1, c_fi_0_2, c_put_0_2, c_fi_0_3, c_put_0_3, c_fi_0_4, c_put_0_4, c_ob_1, c_fa_1_0, c_fa_1_1, c_fa_1_2, c_fa_1_3, c_fa_1_4, c_fa_1_5, c_fi_1_6, c_put_1_6, c_ob_2, c_fa_2_0, c_ob_4, c_fa_4_0, c_ob_6, c_fa_6_0, c_ob_8, c_fa_8_0, c_ob_10, c_fa_10_0, c_ob_12, c_fa_12_0, c_ob_14, c_fa_14_0, c_fa_14_1, c_fa_14_2, c_fa_14_3, c_fi_14_4, c_put_14_4, c_ob_15, c_fa_15_0, c_ob_17, c_fa_17_0, c_ob_19, c_fa_19_0, c_ob_21, c_fa_21_0, c_len_0, c_ld_0, c_st_0, c_rd_0, c_wr_0, c_len_1, c_ld_1, c_st_1, c_rd_1, c_wr_1, c_len_2, c_ld_2, c_st_2, c_rd_2, c_wr_2, c_len_3, c_ld_3, c_st_3, c_rd_3, c_wr_3, c_len_4, c_ld_4, c_st_4, c_rd_4, c_wr_4, c_len_5, c_ld_5, c_st_5, c_rd_5, c_wr_5, c_len_6, c_ld_6, c_st_6, c_rd_6, c_wr_6, c_len_7, c_ld_7, c_st_7, c_rd_7, c_wr_7, c_len_8, c_ld_8, c_st_8, c_rd_8, c_wr_8, c_len_9, c_ld_9, c_st_9, c_rd_9, c_wr_9, bI_rI, bL_rL, bA_rA, bV_rV, bI_th, bL_th, bA_th, bV_th, rZ_0, rZ_1]
      rfl
    · obtain ⟨G1, r1, h1, s1⟩ := r_list0 h hx
      refine ⟨G1, ?_, h1, s1⟩
      unfold f_M_hash
      rw [r1]
      rfl
theorem sim_hasAll (hR : CRep σ A) (hI : mInv m A) (x y : Int32) : SimOp w b o A m σ H xI1 (f_X_hasAll (cPut b σ H) b x y) (fun G => f_M_hasAll G o x y) := by
  have hX := CRepx.of (exc := -1) hR
  by_cases hx : mIsL A x
  · have hL := hx
    obtain ⟨p, hp, rfl, hv⟩ := hx
    have hv : mV A p := hv
    obtain ⟨r, s, hr, hr2, hfit, h31, hp6, hro⟩ := hI.pl hv
    have hW := hI.w p
    have kc := kyC.of (b := b) (H := H) hX hI hv hr
    have km : ∀ (G : gH) (D : mD), MS w o G (mSet A 0 0) D → kyM G o p (kS A r s (mLen A p)) := fun G D h => kyM.of (A := mSet A 0 0) h (hI.thr 0) hv hr
    by_cases hy : mIsL A y
    · have hY := hy
      obtain ⟨q, hq, rfl, hqv⟩ := hy
      have hqv : mV A q := hqv
      obtain ⟨r2, s2, hrq, -⟩ := hI.pl hqv
      have kc2 := kyC.of (b := b) (H := H) hX hI hqv hrq
      have km2 : ∀ (G : gH) (D : mD), MS w o G (mSet A 0 0) D → kyM G o q (kS A r2 s2 (mLen A q)) := fun G D h => kyM.of (A := mSet A 0 0) h (hI.thr 0) hqv hrq
      refine Sim.ask hR hI (mB (decide (∀ k, k ∈ kS A r2 s2 (mLen A q) → k ∈ kS A r s (mLen A p)))) ?_ (fun G D h => ?_)
      · unfold f_X_hasAll
        simp only [x_needList hX hW hL, x_needList hX hW hY, c_holds kc kc2, rZ_mB, c_ob_0, c_fa_0_0, c_fa_0_1, c_fi_0_2, c_put_0_2, c_fi_0_3, c_put_0_3, c_fi_0_4, c_put_0_4, c_ob_1, c_fa_1_0, c_fa_1_1, c_fa_1_2, c_fa_1_3, c_fa_1_4, c_fa_1_5, c_fi_1_6, c_put_1_6, c_ob_2, c_fa_2_0, c_ob_4, c_fa_4_0, c_ob_6, c_fa_6_0, c_ob_8, c_fa_8_0, c_ob_10, c_fa_10_0, c_ob_12, c_fa_12_0, c_ob_14, c_fa_14_0, c_fa_14_1, c_fa_14_2, c_fa_14_3, c_fi_14_4, c_put_14_4, c_ob_15, c_fa_15_0, c_ob_17, c_fa_17_0, c_ob_19, c_fa_19_0, c_ob_21, c_fa_21_0, c_len_0, c_ld_0, c_st_0, c_rd_0, c_wr_0, c_len_1, c_ld_1, c_st_1, c_rd_1, c_wr_1, c_len_2, c_ld_2, c_st_2, c_rd_2, c_wr_2, c_len_3, c_ld_3, c_st_3, c_rd_3, c_wr_3, c_len_4, c_ld_4, c_st_4, c_rd_4, c_wr_4, c_len_5, c_ld_5, c_st_5, c_rd_5, c_wr_5, c_len_6, c_ld_6, c_st_6, c_rd_6, c_wr_6, c_len_7, c_ld_7, c_st_7, c_rd_7, c_wr_7, c_len_8, c_ld_8, c_st_8, c_rd_8, c_wr_8, c_len_9, c_ld_9, c_st_9, c_rd_9, c_wr_9, bI_rI, bL_rL, bA_rA, bV_rV, bI_th, bL_th, bA_th, bV_th, rZ_0, rZ_1]
      · obtain ⟨G1, r1, h1, s1⟩ := (s_areNone h).1 ⟨hL, hY⟩
        refine ⟨G1, ?_, h1, s1.mono (by omega) (by omega)⟩
        unfold f_M_hasAll
        rw [gOb_of h.2.2.1 rfl, r1, bI_rI, if_pos rfl, gOb_of h1.2.2.1 rfl, m_has (km G1 D h1) (km2 G1 D h1), bI_rI, mB_ite]
    · refine Sim.no hR hI 1 (by decide) (by decide) ?_ (fun G D h => ?_)
      · unfold f_X_hasAll
        simp only [x_needList hX hW hL, x_needList_no hX hW hy, c_ob_0, c_fa_0_0, c_fa_0_1, c_fi_0_2, c_put_0_2, c_fi_0_3, c_put_0_3, c_fi_0_4, c_put_0_4, c_ob_1, c_fa_1_0, c_fa_1_1, c_fa_1_2, c_fa_1_3, c_fa_1_4, c_fa_1_5, c_fi_1_6, c_put_1_6, c_ob_2, c_fa_2_0, c_ob_4, c_fa_4_0, c_ob_6, c_fa_6_0, c_ob_8, c_fa_8_0, c_ob_10, c_fa_10_0, c_ob_12, c_fa_12_0, c_ob_14, c_fa_14_0, c_fa_14_1, c_fa_14_2, c_fa_14_3, c_fi_14_4, c_put_14_4, c_ob_15, c_fa_15_0, c_ob_17, c_fa_17_0, c_ob_19, c_fa_19_0, c_ob_21, c_fa_21_0, c_len_0, c_ld_0, c_st_0, c_rd_0, c_wr_0, c_len_1, c_ld_1, c_st_1, c_rd_1, c_wr_1, c_len_2, c_ld_2, c_st_2, c_rd_2, c_wr_2, c_len_3, c_ld_3, c_st_3, c_rd_3, c_wr_3, c_len_4, c_ld_4, c_st_4, c_rd_4, c_wr_4, c_len_5, c_ld_5, c_st_5, c_rd_5, c_wr_5, c_len_6, c_ld_6, c_st_6, c_rd_6, c_wr_6, c_len_7, c_ld_7, c_st_7, c_rd_7, c_wr_7, c_len_8, c_ld_8, c_st_8, c_rd_8, c_wr_8, c_len_9, c_ld_9, c_st_9, c_rd_9, c_wr_9, bI_rI, bL_rL, bA_rA, bV_rV, bI_th, bL_th, bA_th, bV_th, rZ_0, rZ_1]
        rfl
      · obtain ⟨G1, r1, h1, s1⟩ := (s_areNone h).2 (fun k => hy k.2)
        refine ⟨G1, ?_, h1, s1⟩
        unfold f_M_hasAll
        rw [gOb_of h.2.2.1 rfl, r1, bI_rI, if_neg (by decide)]
        exact rZ_0
  · refine Sim.no hR hI 1 (by decide) (by decide) ?_ (fun G D h => ?_)
    · unfold f_X_hasAll
      simp only [x_needList_no hX (hI.w 0) hx, c_ob_0, c_fa_0_0, c_fa_0_1, c_fi_0_2, c_put_0_2, c_fi_0_3, c_put_0_3, c_fi_0_4, c_put_0_4, c_ob_1, c_fa_1_0, c_fa_1_1, c_fa_1_2, c_fa_1_3, c_fa_1_4, c_fa_1_5, c_fi_1_6, c_put_1_6, c_ob_2, c_fa_2_0, c_ob_4, c_fa_4_0, c_ob_6, c_fa_6_0, c_ob_8, c_fa_8_0, c_ob_10, c_fa_10_0, c_ob_12, c_fa_12_0, c_ob_14, c_fa_14_0, c_fa_14_1, c_fa_14_2, c_fa_14_3, c_fi_14_4, c_put_14_4, c_ob_15, c_fa_15_0, c_ob_17, c_fa_17_0, c_ob_19, c_fa_19_0, c_ob_21, c_fa_21_0, c_len_0, c_ld_0, c_st_0, c_rd_0, c_wr_0, c_len_1, c_ld_1, c_st_1, c_rd_1, c_wr_1, c_len_2, c_ld_2, c_st_2, c_rd_2, c_wr_2, c_len_3, c_ld_3, c_st_3, c_rd_3, c_wr_3, c_len_4, c_ld_4, c_st_4, c_rd_4, c_wr_4, c_len_5, c_ld_5, c_st_5, c_rd_5, c_wr_5, c_len_6, c_ld_6, c_st_6, c_rd_6, c_wr_6, c_len_7, c_ld_7, c_st_7, c_rd_7, c_wr_7, c_len_8, c_ld_8, c_st_8, c_rd_8, c_wr_8, c_len_9, c_ld_9, c_st_9, c_rd_9, c_wr_9, bI_rI, bL_rL, bA_rA, bV_rV, bI_th, bL_th, bA_th, bV_th, rZ_0, rZ_1]
      rfl
    · obtain ⟨G1, r1, h1, s1⟩ := (s_areNone h (y := y)).2 (fun k => hx k.1)
      refine ⟨G1, ?_, h1, s1⟩
      unfold f_M_hasAll
      rw [gOb_of h.2.2.1 rfl, r1, bI_rI, if_neg (by decide)]
      exact rZ_0
theorem sim_areApart (hR : CRep σ A) (hI : mInv m A) (x y : Int32) : SimOp w b o A m σ H xI1 (f_X_areApart (cPut b σ H) b x y) (fun G => f_M_areApart G o x y) := by
  have hX := CRepx.of (exc := -1) hR
  by_cases hx : mIsL A x
  · have hL := hx
    obtain ⟨p, hp, rfl, hv⟩ := hx
    have hv : mV A p := hv
    obtain ⟨r, s, hr, hr2, hfit, h31, hp6, hro⟩ := hI.pl hv
    have hW := hI.w p
    have kc := kyC.of (b := b) (H := H) hX hI hv hr
    have km : ∀ (G : gH) (D : mD), MS w o G (mSet A 0 0) D → kyM G o p (kS A r s (mLen A p)) := fun G D h => kyM.of (A := mSet A 0 0) h (hI.thr 0) hv hr
    by_cases hy : mIsL A y
    · have hY := hy
      obtain ⟨q, hq, rfl, hqv⟩ := hy
      have hqv : mV A q := hqv
      obtain ⟨r2, s2, hrq, -⟩ := hI.pl hqv
      have kc2 := kyC.of (b := b) (H := H) hX hI hqv hrq
      have km2 : ∀ (G : gH) (D : mD), MS w o G (mSet A 0 0) D → kyM G o q (kS A r2 s2 (mLen A q)) := fun G D h => kyM.of (A := mSet A 0 0) h (hI.thr 0) hqv hrq
      refine Sim.ask hR hI (mB (decide (∀ k, k ∈ kS A r2 s2 (mLen A q) → k ∉ kS A r s (mLen A p)))) ?_ (fun G D h => ?_)
      · unfold f_X_areApart
        simp only [x_needList hX hW hL, x_needList hX hW hY, c_share kc kc2, rZ_mB, c_ob_0, c_fa_0_0, c_fa_0_1, c_fi_0_2, c_put_0_2, c_fi_0_3, c_put_0_3, c_fi_0_4, c_put_0_4, c_ob_1, c_fa_1_0, c_fa_1_1, c_fa_1_2, c_fa_1_3, c_fa_1_4, c_fa_1_5, c_fi_1_6, c_put_1_6, c_ob_2, c_fa_2_0, c_ob_4, c_fa_4_0, c_ob_6, c_fa_6_0, c_ob_8, c_fa_8_0, c_ob_10, c_fa_10_0, c_ob_12, c_fa_12_0, c_ob_14, c_fa_14_0, c_fa_14_1, c_fa_14_2, c_fa_14_3, c_fi_14_4, c_put_14_4, c_ob_15, c_fa_15_0, c_ob_17, c_fa_17_0, c_ob_19, c_fa_19_0, c_ob_21, c_fa_21_0, c_len_0, c_ld_0, c_st_0, c_rd_0, c_wr_0, c_len_1, c_ld_1, c_st_1, c_rd_1, c_wr_1, c_len_2, c_ld_2, c_st_2, c_rd_2, c_wr_2, c_len_3, c_ld_3, c_st_3, c_rd_3, c_wr_3, c_len_4, c_ld_4, c_st_4, c_rd_4, c_wr_4, c_len_5, c_ld_5, c_st_5, c_rd_5, c_wr_5, c_len_6, c_ld_6, c_st_6, c_rd_6, c_wr_6, c_len_7, c_ld_7, c_st_7, c_rd_7, c_wr_7, c_len_8, c_ld_8, c_st_8, c_rd_8, c_wr_8, c_len_9, c_ld_9, c_st_9, c_rd_9, c_wr_9, bI_rI, bL_rL, bA_rA, bV_rV, bI_th, bL_th, bA_th, bV_th, rZ_0, rZ_1]
      · obtain ⟨G1, r1, h1, s1⟩ := (s_areNone h).1 ⟨hL, hY⟩
        refine ⟨G1, ?_, h1, s1.mono (by omega) (by omega)⟩
        unfold f_M_areApart
        rw [gOb_of h.2.2.1 rfl, r1, bI_rI, if_pos rfl, gOb_of h1.2.2.1 rfl, m_non (km G1 D h1) (km2 G1 D h1), bI_rI, mB_ite]
    · refine Sim.no hR hI 1 (by decide) (by decide) ?_ (fun G D h => ?_)
      · unfold f_X_areApart
        simp only [x_needList hX hW hL, x_needList_no hX hW hy, c_ob_0, c_fa_0_0, c_fa_0_1, c_fi_0_2, c_put_0_2, c_fi_0_3, c_put_0_3, c_fi_0_4, c_put_0_4, c_ob_1, c_fa_1_0, c_fa_1_1, c_fa_1_2, c_fa_1_3, c_fa_1_4, c_fa_1_5, c_fi_1_6, c_put_1_6, c_ob_2, c_fa_2_0, c_ob_4, c_fa_4_0, c_ob_6, c_fa_6_0, c_ob_8, c_fa_8_0, c_ob_10, c_fa_10_0, c_ob_12, c_fa_12_0, c_ob_14, c_fa_14_0, c_fa_14_1, c_fa_14_2, c_fa_14_3, c_fi_14_4, c_put_14_4, c_ob_15, c_fa_15_0, c_ob_17, c_fa_17_0, c_ob_19, c_fa_19_0, c_ob_21, c_fa_21_0, c_len_0, c_ld_0, c_st_0, c_rd_0, c_wr_0, c_len_1, c_ld_1, c_st_1, c_rd_1, c_wr_1, c_len_2, c_ld_2, c_st_2, c_rd_2, c_wr_2, c_len_3, c_ld_3, c_st_3, c_rd_3, c_wr_3, c_len_4, c_ld_4, c_st_4, c_rd_4, c_wr_4, c_len_5, c_ld_5, c_st_5, c_rd_5, c_wr_5, c_len_6, c_ld_6, c_st_6, c_rd_6, c_wr_6, c_len_7, c_ld_7, c_st_7, c_rd_7, c_wr_7, c_len_8, c_ld_8, c_st_8, c_rd_8, c_wr_8, c_len_9, c_ld_9, c_st_9, c_rd_9, c_wr_9, bI_rI, bL_rL, bA_rA, bV_rV, bI_th, bL_th, bA_th, bV_th, rZ_0, rZ_1]
        rfl
      · obtain ⟨G1, r1, h1, s1⟩ := (s_areNone h).2 (fun k => hy k.2)
        refine ⟨G1, ?_, h1, s1⟩
        unfold f_M_areApart
        rw [gOb_of h.2.2.1 rfl, r1, bI_rI, if_neg (by decide)]
        exact rZ_0
  · refine Sim.no hR hI 1 (by decide) (by decide) ?_ (fun G D h => ?_)
    · unfold f_X_areApart
      simp only [x_needList_no hX (hI.w 0) hx, c_ob_0, c_fa_0_0, c_fa_0_1, c_fi_0_2, c_put_0_2, c_fi_0_3, c_put_0_3, c_fi_0_4, c_put_0_4, c_ob_1, c_fa_1_0, c_fa_1_1, c_fa_1_2, c_fa_1_3, c_fa_1_4, c_fa_1_5, c_fi_1_6, c_put_1_6, c_ob_2, c_fa_2_0, c_ob_4, c_fa_4_0, c_ob_6, c_fa_6_0, c_ob_8, c_fa_8_0, c_ob_10, c_fa_10_0, c_ob_12, c_fa_12_0, c_ob_14, c_fa_14_0, c_fa_14_1, c_fa_14_2, c_fa_14_3, c_fi_14_4, c_put_14_4, c_ob_15, c_fa_15_0, c_ob_17, c_fa_17_0, c_ob_19, c_fa_19_0, c_ob_21, c_fa_21_0, c_len_0, c_ld_0, c_st_0, c_rd_0, c_wr_0, c_len_1, c_ld_1, c_st_1, c_rd_1, c_wr_1, c_len_2, c_ld_2, c_st_2, c_rd_2, c_wr_2, c_len_3, c_ld_3, c_st_3, c_rd_3, c_wr_3, c_len_4, c_ld_4, c_st_4, c_rd_4, c_wr_4, c_len_5, c_ld_5, c_st_5, c_rd_5, c_wr_5, c_len_6, c_ld_6, c_st_6, c_rd_6, c_wr_6, c_len_7, c_ld_7, c_st_7, c_rd_7, c_wr_7, c_len_8, c_ld_8, c_st_8, c_rd_8, c_wr_8, c_len_9, c_ld_9, c_st_9, c_rd_9, c_wr_9, bI_rI, bL_rL, bA_rA, bV_rV, bI_th, bL_th, bA_th, bV_th, rZ_0, rZ_1]
      rfl
    · obtain ⟨G1, r1, h1, s1⟩ := (s_areNone h (y := y)).2 (fun k => hx k.1)
      refine ⟨G1, ?_, h1, s1⟩
      unfold f_M_areApart
      rw [gOb_of h.2.2.1 rfl, r1, bI_rI, if_neg (by decide)]
      exact rZ_0
theorem sim_isSame (hR : CRep σ A) (hI : mInv m A) (x y : Int32) : SimOp w b o A m σ H xI1 (f_X_isSame (cPut b σ H) b x y) (fun G => f_M_isSame G o x y) := by
  have hX := CRepx.of (exc := -1) hR
  by_cases hx : mIsL A x
  · have hL := hx
    obtain ⟨p, hp, rfl, hv⟩ := hx
    have hv : mV A p := hv
    obtain ⟨r, s, hr, hr2, hfit, h31, hp6, hro⟩ := hI.pl hv
    have hW := hI.w p
    have kc := kyC.of (b := b) (H := H) hX hI hv hr
    have km : ∀ (G : gH) (D : mD), MS w o G (mSet A 0 0) D → kyM G o p (kS A r s (mLen A p)) := fun G D h => kyM.of (A := mSet A 0 0) h (hI.thr 0) hv hr
    by_cases hy : mIsL A y
    · have hY := hy
      obtain ⟨q, hq, rfl, hqv⟩ := hy
      have hqv : mV A q := hqv
      obtain ⟨r2, s2, hrq, -⟩ := hI.pl hqv
      have kc2 := kyC.of (b := b) (H := H) hX hI hqv hrq
      have km2 : ∀ (G : gH) (D : mD), MS w o G (mSet A 0 0) D → kyM G o q (kS A r2 s2 (mLen A q)) := fun G D h => kyM.of (A := mSet A 0 0) h (hI.thr 0) hqv hrq
      refine Sim.ask hR hI (mB (kSm (kS A r s (mLen A p)) (kS A r2 s2 (mLen A q)))) ?_ (fun G D h => ?_)
      · unfold f_X_isSame
        simp only [x_needList hX hW hL, x_needList hX hW hY, c_same kc kc2, rZ_mB, c_ob_0, c_fa_0_0, c_fa_0_1, c_fi_0_2, c_put_0_2, c_fi_0_3, c_put_0_3, c_fi_0_4, c_put_0_4, c_ob_1, c_fa_1_0, c_fa_1_1, c_fa_1_2, c_fa_1_3, c_fa_1_4, c_fa_1_5, c_fi_1_6, c_put_1_6, c_ob_2, c_fa_2_0, c_ob_4, c_fa_4_0, c_ob_6, c_fa_6_0, c_ob_8, c_fa_8_0, c_ob_10, c_fa_10_0, c_ob_12, c_fa_12_0, c_ob_14, c_fa_14_0, c_fa_14_1, c_fa_14_2, c_fa_14_3, c_fi_14_4, c_put_14_4, c_ob_15, c_fa_15_0, c_ob_17, c_fa_17_0, c_ob_19, c_fa_19_0, c_ob_21, c_fa_21_0, c_len_0, c_ld_0, c_st_0, c_rd_0, c_wr_0, c_len_1, c_ld_1, c_st_1, c_rd_1, c_wr_1, c_len_2, c_ld_2, c_st_2, c_rd_2, c_wr_2, c_len_3, c_ld_3, c_st_3, c_rd_3, c_wr_3, c_len_4, c_ld_4, c_st_4, c_rd_4, c_wr_4, c_len_5, c_ld_5, c_st_5, c_rd_5, c_wr_5, c_len_6, c_ld_6, c_st_6, c_rd_6, c_wr_6, c_len_7, c_ld_7, c_st_7, c_rd_7, c_wr_7, c_len_8, c_ld_8, c_st_8, c_rd_8, c_wr_8, c_len_9, c_ld_9, c_st_9, c_rd_9, c_wr_9, bI_rI, bL_rL, bA_rA, bV_rV, bI_th, bL_th, bA_th, bV_th, rZ_0, rZ_1]
      · obtain ⟨G1, r1, h1, s1⟩ := (s_areNone h).1 ⟨hL, hY⟩
        refine ⟨G1, ?_, h1, s1.mono (by omega) (by omega)⟩
        unfold f_M_isSame
        rw [gOb_of h.2.2.1 rfl, r1, bI_rI, if_pos rfl, gOb_of h1.2.2.1 rfl, m_sam (km G1 D h1) (km2 G1 D h1), bI_rI, mB_ite]
    · refine Sim.no hR hI 1 (by decide) (by decide) ?_ (fun G D h => ?_)
      · unfold f_X_isSame
        simp only [x_needList hX hW hL, x_needList_no hX hW hy, c_ob_0, c_fa_0_0, c_fa_0_1, c_fi_0_2, c_put_0_2, c_fi_0_3, c_put_0_3, c_fi_0_4, c_put_0_4, c_ob_1, c_fa_1_0, c_fa_1_1, c_fa_1_2, c_fa_1_3, c_fa_1_4, c_fa_1_5, c_fi_1_6, c_put_1_6, c_ob_2, c_fa_2_0, c_ob_4, c_fa_4_0, c_ob_6, c_fa_6_0, c_ob_8, c_fa_8_0, c_ob_10, c_fa_10_0, c_ob_12, c_fa_12_0, c_ob_14, c_fa_14_0, c_fa_14_1, c_fa_14_2, c_fa_14_3, c_fi_14_4, c_put_14_4, c_ob_15, c_fa_15_0, c_ob_17, c_fa_17_0, c_ob_19, c_fa_19_0, c_ob_21, c_fa_21_0, c_len_0, c_ld_0, c_st_0, c_rd_0, c_wr_0, c_len_1, c_ld_1, c_st_1, c_rd_1, c_wr_1, c_len_2, c_ld_2, c_st_2, c_rd_2, c_wr_2, c_len_3, c_ld_3, c_st_3, c_rd_3, c_wr_3, c_len_4, c_ld_4, c_st_4, c_rd_4, c_wr_4, c_len_5, c_ld_5, c_st_5, c_rd_5, c_wr_5, c_len_6, c_ld_6, c_st_6, c_rd_6, c_wr_6, c_len_7, c_ld_7, c_st_7, c_rd_7, c_wr_7, c_len_8, c_ld_8, c_st_8, c_rd_8, c_wr_8, c_len_9, c_ld_9, c_st_9, c_rd_9, c_wr_9, bI_rI, bL_rL, bA_rA, bV_rV, bI_th, bL_th, bA_th, bV_th, rZ_0, rZ_1]
        rfl
      · obtain ⟨G1, r1, h1, s1⟩ := (s_areNone h).2 (fun k => hy k.2)
        refine ⟨G1, ?_, h1, s1⟩
        unfold f_M_isSame
        rw [gOb_of h.2.2.1 rfl, r1, bI_rI, if_neg (by decide)]
        exact rZ_0
  · refine Sim.no hR hI 1 (by decide) (by decide) ?_ (fun G D h => ?_)
    · unfold f_X_isSame
      simp only [x_needList_no hX (hI.w 0) hx, c_ob_0, c_fa_0_0, c_fa_0_1, c_fi_0_2, c_put_0_2, c_fi_0_3, c_put_0_3, c_fi_0_4, c_put_0_4, c_ob_1, c_fa_1_0, c_fa_1_1, c_fa_1_2, c_fa_1_3, c_fa_1_4, c_fa_1_5, c_fi_1_6, c_put_1_6, c_ob_2, c_fa_2_0, c_ob_4, c_fa_4_0, c_ob_6, c_fa_6_0, c_ob_8, c_fa_8_0, c_ob_10, c_fa_10_0, c_ob_12, c_fa_12_0, c_ob_14, c_fa_14_0, c_fa_14_1, c_fa_14_2, c_fa_14_3, c_fi_14_4, c_put_14_4, c_ob_15, c_fa_15_0, c_ob_17, c_fa_17_0, c_ob_19, c_fa_19_0, c_ob_21, c_fa_21_0, c_len_0, c_ld_0, c_st_0, c_rd_0, c_wr_0, c_len_1, c_ld_1, c_st_1, c_rd_1, c_wr_1, c_len_2, c_ld_2, c_st_2, c_rd_2, c_wr_2, c_len_3, c_ld_3, c_st_3, c_rd_3, c_wr_3, c_len_4, c_ld_4, c_st_4, c_rd_4, c_wr_4, c_len_5, c_ld_5, c_st_5, c_rd_5, c_wr_5, c_len_6, c_ld_6, c_st_6, c_rd_6, c_wr_6, c_len_7, c_ld_7, c_st_7, c_rd_7, c_wr_7, c_len_8, c_ld_8, c_st_8, c_rd_8, c_wr_8, c_len_9, c_ld_9, c_st_9, c_rd_9, c_wr_9, bI_rI, bL_rL, bA_rA, bV_rV, bI_th, bL_th, bA_th, bV_th, rZ_0, rZ_1]
      rfl
    · obtain ⟨G1, r1, h1, s1⟩ := (s_areNone h (y := y)).2 (fun k => hx k.1)
      refine ⟨G1, ?_, h1, s1⟩
      unfold f_M_isSame
      rw [gOb_of h.2.2.1 rfl, r1, bI_rI, if_neg (by decide)]
      exact rZ_0
theorem sim_find (hR : CRep σ A) (hI : mInv m A) (x y : Int32) : SimOp w b o A m σ H xI1 (f_X_find (cPut b σ H) b x y) (fun G => f_M_find G o x y) := by
  have hX := CRepx.of (exc := -1) hR
  by_cases hx : mIsL A x
  · have hL := hx
    obtain ⟨p, hp, rfl, hv⟩ := hx
    have hv : mV A p := hv
    obtain ⟨r, s, hr, hr2, hfit, h31, hp6, hro⟩ := hI.pl hv
    have hW := hI.w p
    have kc := kyC.of (b := b) (H := H) hX hI hv hr
    have km : ∀ (G : gH) (D : mD), MS w o G (mSet A 0 0) D → kyM G o p (kS A r s (mLen A p)) := fun G D h => kyM.of (A := mSet A 0 0) h (hI.thr 0) hv hr
    by_cases hy : mIsL A y
    · have hY := hy
      obtain ⟨q, hq, rfl, hqv⟩ := hy
      have hqv : mV A q := hqv
      obtain ⟨r2, s2, hrq, -⟩ := hI.pl hqv
      have kc2 := kyC.of (b := b) (H := H) hX hI hqv hrq
      have km2 : ∀ (G : gH) (D : mD), MS w o G (mSet A 0 0) D → kyM G o q (kS A r2 s2 (mLen A q)) := fun G D h => kyM.of (A := mSet A 0 0) h (hI.thr 0) hqv hrq
      refine Sim.ask hR hI (sNo (kF (kS A r s (mLen A p)) (kS A r2 s2 (mLen A q)) ((kS A r s (mLen A p)).length + 1) 0)) ?_ (fun G D h => ?_)
      · unfold f_X_find
        simp only [x_needList hX hW hL, x_needList hX hW hY, c_place kc kc2, rZ_mB, c_ob_0, c_fa_0_0, c_fa_0_1, c_fi_0_2, c_put_0_2, c_fi_0_3, c_put_0_3, c_fi_0_4, c_put_0_4, c_ob_1, c_fa_1_0, c_fa_1_1, c_fa_1_2, c_fa_1_3, c_fa_1_4, c_fa_1_5, c_fi_1_6, c_put_1_6, c_ob_2, c_fa_2_0, c_ob_4, c_fa_4_0, c_ob_6, c_fa_6_0, c_ob_8, c_fa_8_0, c_ob_10, c_fa_10_0, c_ob_12, c_fa_12_0, c_ob_14, c_fa_14_0, c_fa_14_1, c_fa_14_2, c_fa_14_3, c_fi_14_4, c_put_14_4, c_ob_15, c_fa_15_0, c_ob_17, c_fa_17_0, c_ob_19, c_fa_19_0, c_ob_21, c_fa_21_0, c_len_0, c_ld_0, c_st_0, c_rd_0, c_wr_0, c_len_1, c_ld_1, c_st_1, c_rd_1, c_wr_1, c_len_2, c_ld_2, c_st_2, c_rd_2, c_wr_2, c_len_3, c_ld_3, c_st_3, c_rd_3, c_wr_3, c_len_4, c_ld_4, c_st_4, c_rd_4, c_wr_4, c_len_5, c_ld_5, c_st_5, c_rd_5, c_wr_5, c_len_6, c_ld_6, c_st_6, c_rd_6, c_wr_6, c_len_7, c_ld_7, c_st_7, c_rd_7, c_wr_7, c_len_8, c_ld_8, c_st_8, c_rd_8, c_wr_8, c_len_9, c_ld_9, c_st_9, c_rd_9, c_wr_9, bI_rI, bL_rL, bA_rA, bV_rV, bI_th, bL_th, bA_th, bV_th, rZ_0, rZ_1]
      · obtain ⟨G1, r1, h1, s1⟩ := (s_areNone h).1 ⟨hL, hY⟩
        refine ⟨G1, ?_, h1, s1.mono (by omega) (by omega)⟩
        unfold f_M_find
        rw [gOb_of h.2.2.1 rfl, r1, bI_rI, if_pos rfl, gOb_of h1.2.2.1 rfl, m_fou (km G1 D h1) (km2 G1 D h1), bI_rI]
    · refine Sim.no hR hI 1 (by decide) (by decide) ?_ (fun G D h => ?_)
      · unfold f_X_find
        simp only [x_needList hX hW hL, x_needList_no hX hW hy, c_ob_0, c_fa_0_0, c_fa_0_1, c_fi_0_2, c_put_0_2, c_fi_0_3, c_put_0_3, c_fi_0_4, c_put_0_4, c_ob_1, c_fa_1_0, c_fa_1_1, c_fa_1_2, c_fa_1_3, c_fa_1_4, c_fa_1_5, c_fi_1_6, c_put_1_6, c_ob_2, c_fa_2_0, c_ob_4, c_fa_4_0, c_ob_6, c_fa_6_0, c_ob_8, c_fa_8_0, c_ob_10, c_fa_10_0, c_ob_12, c_fa_12_0, c_ob_14, c_fa_14_0, c_fa_14_1, c_fa_14_2, c_fa_14_3, c_fi_14_4, c_put_14_4, c_ob_15, c_fa_15_0, c_ob_17, c_fa_17_0, c_ob_19, c_fa_19_0, c_ob_21, c_fa_21_0, c_len_0, c_ld_0, c_st_0, c_rd_0, c_wr_0, c_len_1, c_ld_1, c_st_1, c_rd_1, c_wr_1, c_len_2, c_ld_2, c_st_2, c_rd_2, c_wr_2, c_len_3, c_ld_3, c_st_3, c_rd_3, c_wr_3, c_len_4, c_ld_4, c_st_4, c_rd_4, c_wr_4, c_len_5, c_ld_5, c_st_5, c_rd_5, c_wr_5, c_len_6, c_ld_6, c_st_6, c_rd_6, c_wr_6, c_len_7, c_ld_7, c_st_7, c_rd_7, c_wr_7, c_len_8, c_ld_8, c_st_8, c_rd_8, c_wr_8, c_len_9, c_ld_9, c_st_9, c_rd_9, c_wr_9, bI_rI, bL_rL, bA_rA, bV_rV, bI_th, bL_th, bA_th, bV_th, rZ_0, rZ_1]
        rfl
      · obtain ⟨G1, r1, h1, s1⟩ := (s_areNone h).2 (fun k => hy k.2)
        refine ⟨G1, ?_, h1, s1⟩
        unfold f_M_find
        rw [gOb_of h.2.2.1 rfl, r1, bI_rI, if_neg (by decide)]
        exact rfl
  · refine Sim.no hR hI 1 (by decide) (by decide) ?_ (fun G D h => ?_)
    · unfold f_X_find
      simp only [x_needList_no hX (hI.w 0) hx, c_ob_0, c_fa_0_0, c_fa_0_1, c_fi_0_2, c_put_0_2, c_fi_0_3, c_put_0_3, c_fi_0_4, c_put_0_4, c_ob_1, c_fa_1_0, c_fa_1_1, c_fa_1_2, c_fa_1_3, c_fa_1_4, c_fa_1_5, c_fi_1_6, c_put_1_6, c_ob_2, c_fa_2_0, c_ob_4, c_fa_4_0, c_ob_6, c_fa_6_0, c_ob_8, c_fa_8_0, c_ob_10, c_fa_10_0, c_ob_12, c_fa_12_0, c_ob_14, c_fa_14_0, c_fa_14_1, c_fa_14_2, c_fa_14_3, c_fi_14_4, c_put_14_4, c_ob_15, c_fa_15_0, c_ob_17, c_fa_17_0, c_ob_19, c_fa_19_0, c_ob_21, c_fa_21_0, c_len_0, c_ld_0, c_st_0, c_rd_0, c_wr_0, c_len_1, c_ld_1, c_st_1, c_rd_1, c_wr_1, c_len_2, c_ld_2, c_st_2, c_rd_2, c_wr_2, c_len_3, c_ld_3, c_st_3, c_rd_3, c_wr_3, c_len_4, c_ld_4, c_st_4, c_rd_4, c_wr_4, c_len_5, c_ld_5, c_st_5, c_rd_5, c_wr_5, c_len_6, c_ld_6, c_st_6, c_rd_6, c_wr_6, c_len_7, c_ld_7, c_st_7, c_rd_7, c_wr_7, c_len_8, c_ld_8, c_st_8, c_rd_8, c_wr_8, c_len_9, c_ld_9, c_st_9, c_rd_9, c_wr_9, bI_rI, bL_rL, bA_rA, bV_rV, bI_th, bL_th, bA_th, bV_th, rZ_0, rZ_1]
      rfl
    · obtain ⟨G1, r1, h1, s1⟩ := (s_areNone h (y := y)).2 (fun k => hx k.1)
      refine ⟨G1, ?_, h1, s1⟩
      unfold f_M_find
      rw [gOb_of h.2.2.1 rfl, r1, bI_rI, if_neg (by decide)]
      exact rfl
theorem sim_key (hR : CRep σ A) (hI : mInv m A) (x i : Int32) : SimOp w b o A m σ H xI1 (f_X_key (cPut b σ H) b x i) (fun G => f_M_key G o x i) := by
  have hX := CRepx.of (exc := -1) hR
  by_cases hx : mIsL A x
  · have hL := hx
    obtain ⟨p, hp, rfl, hv⟩ := hx
    have hv : mV A p := hv
    obtain ⟨r, s, hr, hr2, hfit, h31, hp6, hro⟩ := hI.pl hv
    have hW := hI.w p
    have hl100 : mLen A p < 100 := by omega
    by_cases hi : mIsP (mLen A p) i
    · have hi' := hi
      obtain ⟨i, hip, rfl⟩ := hi
      have ht := List.getElem?_eq_getElem (show s + i < (A.1 r).length by omega)
      generalize (A.1 r)[s + i] = t at ht
      have hto := (hI.2.2.1 r hr2).2 t (List.mem_of_getElem? ht)
      have h600 := hI.2.2.2.2.2
      have x1 : f_I_thingAt (cPut b σ H) (b + 1) (nI p) (nI i) = rI (nI (32 * t.2.2 + t.2.1)) (cPut b σ H) := x_at hX hW hv hr ht
      refine Sim.ask hR hI (nI t.2.1) ?_ (fun G D h => ?_)
      · unfold f_X_key
        simp only [x_needList hX hW hL, (x_needPlace hX hW.1 hv hl100).1 hi', x_keyAt hX hW hv hr ht (show t.2.1 < 32 from Nat.lt_succ_of_lt hto.1), c_ob_0, c_fa_0_0, c_fa_0_1, c_fi_0_2, c_put_0_2, c_fi_0_3, c_put_0_3, c_fi_0_4, c_put_0_4, c_ob_1, c_fa_1_0, c_fa_1_1, c_fa_1_2, c_fa_1_3, c_fa_1_4, c_fa_1_5, c_fi_1_6, c_put_1_6, c_ob_2, c_fa_2_0, c_ob_4, c_fa_4_0, c_ob_6, c_fa_6_0, c_ob_8, c_fa_8_0, c_ob_10, c_fa_10_0, c_ob_12, c_fa_12_0, c_ob_14, c_fa_14_0, c_fa_14_1, c_fa_14_2, c_fa_14_3, c_fi_14_4, c_put_14_4, c_ob_15, c_fa_15_0, c_ob_17, c_fa_17_0, c_ob_19, c_fa_19_0, c_ob_21, c_fa_21_0, c_len_0, c_ld_0, c_st_0, c_rd_0, c_wr_0, c_len_1, c_ld_1, c_st_1, c_rd_1, c_wr_1, c_len_2, c_ld_2, c_st_2, c_rd_2, c_wr_2, c_len_3, c_ld_3, c_st_3, c_rd_3, c_wr_3, c_len_4, c_ld_4, c_st_4, c_rd_4, c_wr_4, c_len_5, c_ld_5, c_st_5, c_rd_5, c_wr_5, c_len_6, c_ld_6, c_st_6, c_rd_6, c_wr_6, c_len_7, c_ld_7, c_st_7, c_rd_7, c_wr_7, c_len_8, c_ld_8, c_st_8, c_rd_8, c_wr_8, c_len_9, c_ld_9, c_st_9, c_rd_9, c_wr_9, bI_rI, bL_rL, bA_rA, bV_rV, bI_th, bL_th, bA_th, bV_th, rZ_0, rZ_1]
      · obtain ⟨G1, r1, h1, s1⟩ := s_go h
        refine ⟨G1, ?_, h1, s1.mono (by omega) (by omega)⟩
        unfold f_M_key
        rw [gOb_of h.2.2.1 rfl, (s_noList h _).1 hL, bI_rI, if_pos rfl, gOb_of h.2.2.1 rfl, (s_noPlace h hW.1 hv hl100 _).1 hi', bI_rI, if_pos rfl, gOb_of h.2.2.1 rfl, r1, bI_rI, if_pos rfl, gOb_of h1.2.2.1 rfl, s_at h1 hW.1 hv hr ht, bA_rA, (s_th h1 hr2 ht).key]
    · refine Sim.no hR hI 1 (by decide) (by decide) ?_ (fun G D h => ?_)
      · unfold f_X_key
        simp only [x_needList hX hW hL, (x_needPlace hX hW.1 hv hl100).2 hi, c_ob_0, c_fa_0_0, c_fa_0_1, c_fi_0_2, c_put_0_2, c_fi_0_3, c_put_0_3, c_fi_0_4, c_put_0_4, c_ob_1, c_fa_1_0, c_fa_1_1, c_fa_1_2, c_fa_1_3, c_fa_1_4, c_fa_1_5, c_fi_1_6, c_put_1_6, c_ob_2, c_fa_2_0, c_ob_4, c_fa_4_0, c_ob_6, c_fa_6_0, c_ob_8, c_fa_8_0, c_ob_10, c_fa_10_0, c_ob_12, c_fa_12_0, c_ob_14, c_fa_14_0, c_fa_14_1, c_fa_14_2, c_fa_14_3, c_fi_14_4, c_put_14_4, c_ob_15, c_fa_15_0, c_ob_17, c_fa_17_0, c_ob_19, c_fa_19_0, c_ob_21, c_fa_21_0, c_len_0, c_ld_0, c_st_0, c_rd_0, c_wr_0, c_len_1, c_ld_1, c_st_1, c_rd_1, c_wr_1, c_len_2, c_ld_2, c_st_2, c_rd_2, c_wr_2, c_len_3, c_ld_3, c_st_3, c_rd_3, c_wr_3, c_len_4, c_ld_4, c_st_4, c_rd_4, c_wr_4, c_len_5, c_ld_5, c_st_5, c_rd_5, c_wr_5, c_len_6, c_ld_6, c_st_6, c_rd_6, c_wr_6, c_len_7, c_ld_7, c_st_7, c_rd_7, c_wr_7, c_len_8, c_ld_8, c_st_8, c_rd_8, c_wr_8, c_len_9, c_ld_9, c_st_9, c_rd_9, c_wr_9, bI_rI, bL_rL, bA_rA, bV_rV, bI_th, bL_th, bA_th, bV_th, rZ_0, rZ_1]
        rfl
      · obtain ⟨G1, r1, h1, s1⟩ := s_halt1 h
        refine ⟨G1, ?_, h1, s1⟩
        unfold f_M_key
        rw [gOb_of h.2.2.1 rfl, (s_noList h _).1 hL, bI_rI, if_pos rfl, gOb_of h.2.2.1 rfl, (s_noPlace h hW.1 hv hl100 _).2 hi, bI_rI, if_neg (by decide), gOb_of h.2.2.1 rfl, r1, bI_rI, if_neg (by decide)]
        rfl
  · refine Sim.no hR hI 1 (by decide) (by decide) ?_ (fun G D h => ?_)
    · unfold f_X_key
      simp only [x_needList_no hX (hI.w 0) hx, c_ob_0, c_fa_0_0, c_fa_0_1, c_fi_0_2, c_put_0_2, c_fi_0_3, c_put_0_3, c_fi_0_4, c_put_0_4, c_ob_1, c_fa_1_0, c_fa_1_1, c_fa_1_2, c_fa_1_3, c_fa_1_4, c_fa_1_5, c_fi_1_6, c_put_1_6, c_ob_2, c_fa_2_0, c_ob_4, c_fa_4_0, c_ob_6, c_fa_6_0, c_ob_8, c_fa_8_0, c_ob_10, c_fa_10_0, c_ob_12, c_fa_12_0, c_ob_14, c_fa_14_0, c_fa_14_1, c_fa_14_2, c_fa_14_3, c_fi_14_4, c_put_14_4, c_ob_15, c_fa_15_0, c_ob_17, c_fa_17_0, c_ob_19, c_fa_19_0, c_ob_21, c_fa_21_0, c_len_0, c_ld_0, c_st_0, c_rd_0, c_wr_0, c_len_1, c_ld_1, c_st_1, c_rd_1, c_wr_1, c_len_2, c_ld_2, c_st_2, c_rd_2, c_wr_2, c_len_3, c_ld_3, c_st_3, c_rd_3, c_wr_3, c_len_4, c_ld_4, c_st_4, c_rd_4, c_wr_4, c_len_5, c_ld_5, c_st_5, c_rd_5, c_wr_5, c_len_6, c_ld_6, c_st_6, c_rd_6, c_wr_6, c_len_7, c_ld_7, c_st_7, c_rd_7, c_wr_7, c_len_8, c_ld_8, c_st_8, c_rd_8, c_wr_8, c_len_9, c_ld_9, c_st_9, c_rd_9, c_wr_9, bI_rI, bL_rL, bA_rA, bV_rV, bI_th, bL_th, bA_th, bV_th, rZ_0, rZ_1]
      rfl
    · obtain ⟨G1, r1, h1, s1⟩ := s_halt1 h
      refine ⟨G1, ?_, h1, s1⟩
      unfold f_M_key
      rw [gOb_of h.2.2.1 rfl, (s_noList h _).2 hx, bI_rI, if_neg (by decide), gOb_of h.2.2.1 rfl, r1, bI_rI, if_neg (by decide)]
      rfl
theorem sim_tag (hR : CRep σ A) (hI : mInv m A) (x i : Int32) : SimOp w b o A m σ H xI1 (f_X_tag (cPut b σ H) b x i) (fun G => f_M_tag G o x i) := by
  have hX := CRepx.of (exc := -1) hR
  by_cases hx : mIsL A x
  · have hL := hx
    obtain ⟨p, hp, rfl, hv⟩ := hx
    have hv : mV A p := hv
    obtain ⟨r, s, hr, hr2, hfit, h31, hp6, hro⟩ := hI.pl hv
    have hW := hI.w p
    have hl100 : mLen A p < 100 := by omega
    by_cases hi : mIsP (mLen A p) i
    · have hi' := hi
      obtain ⟨i, hip, rfl⟩ := hi
      have ht := List.getElem?_eq_getElem (show s + i < (A.1 r).length by omega)
      generalize (A.1 r)[s + i] = t at ht
      have hto := (hI.2.2.1 r hr2).2 t (List.mem_of_getElem? ht)
      have h600 := hI.2.2.2.2.2
      have x1 : f_I_thingAt (cPut b σ H) (b + 1) (nI p) (nI i) = rI (nI (32 * t.2.2 + t.2.1)) (cPut b σ H) := x_at hX hW hv hr ht
      refine Sim.ask hR hI (nI t.2.2) ?_ (fun G D h => ?_)
      · unfold f_X_tag
        simp only [x_needList hX hW hL, (x_needPlace hX hW.1 hv hl100).1 hi', x1, x_tagOf (show t.2.1 < 32 by have := hto.1; omega) (show t.2.2 ≤ 1000 by have := hto.2; omega), c_ob_0, c_fa_0_0, c_fa_0_1, c_fi_0_2, c_put_0_2, c_fi_0_3, c_put_0_3, c_fi_0_4, c_put_0_4, c_ob_1, c_fa_1_0, c_fa_1_1, c_fa_1_2, c_fa_1_3, c_fa_1_4, c_fa_1_5, c_fi_1_6, c_put_1_6, c_ob_2, c_fa_2_0, c_ob_4, c_fa_4_0, c_ob_6, c_fa_6_0, c_ob_8, c_fa_8_0, c_ob_10, c_fa_10_0, c_ob_12, c_fa_12_0, c_ob_14, c_fa_14_0, c_fa_14_1, c_fa_14_2, c_fa_14_3, c_fi_14_4, c_put_14_4, c_ob_15, c_fa_15_0, c_ob_17, c_fa_17_0, c_ob_19, c_fa_19_0, c_ob_21, c_fa_21_0, c_len_0, c_ld_0, c_st_0, c_rd_0, c_wr_0, c_len_1, c_ld_1, c_st_1, c_rd_1, c_wr_1, c_len_2, c_ld_2, c_st_2, c_rd_2, c_wr_2, c_len_3, c_ld_3, c_st_3, c_rd_3, c_wr_3, c_len_4, c_ld_4, c_st_4, c_rd_4, c_wr_4, c_len_5, c_ld_5, c_st_5, c_rd_5, c_wr_5, c_len_6, c_ld_6, c_st_6, c_rd_6, c_wr_6, c_len_7, c_ld_7, c_st_7, c_rd_7, c_wr_7, c_len_8, c_ld_8, c_st_8, c_rd_8, c_wr_8, c_len_9, c_ld_9, c_st_9, c_rd_9, c_wr_9, bI_rI, bL_rL, bA_rA, bV_rV, bI_th, bL_th, bA_th, bV_th, rZ_0, rZ_1]
      · obtain ⟨G1, r1, h1, s1⟩ := s_go h
        refine ⟨G1, ?_, h1, s1.mono (by omega) (by omega)⟩
        unfold f_M_tag
        rw [gOb_of h.2.2.1 rfl, (s_noList h _).1 hL, bI_rI, if_pos rfl, gOb_of h.2.2.1 rfl, (s_noPlace h hW.1 hv hl100 _).1 hi', bI_rI, if_pos rfl, gOb_of h.2.2.1 rfl, r1, bI_rI, if_pos rfl, gOb_of h1.2.2.1 rfl, s_at h1 hW.1 hv hr ht, bA_rA, (s_th h1 hr2 ht).tag]
    · refine Sim.no hR hI 1 (by decide) (by decide) ?_ (fun G D h => ?_)
      · unfold f_X_tag
        simp only [x_needList hX hW hL, (x_needPlace hX hW.1 hv hl100).2 hi, c_ob_0, c_fa_0_0, c_fa_0_1, c_fi_0_2, c_put_0_2, c_fi_0_3, c_put_0_3, c_fi_0_4, c_put_0_4, c_ob_1, c_fa_1_0, c_fa_1_1, c_fa_1_2, c_fa_1_3, c_fa_1_4, c_fa_1_5, c_fi_1_6, c_put_1_6, c_ob_2, c_fa_2_0, c_ob_4, c_fa_4_0, c_ob_6, c_fa_6_0, c_ob_8, c_fa_8_0, c_ob_10, c_fa_10_0, c_ob_12, c_fa_12_0, c_ob_14, c_fa_14_0, c_fa_14_1, c_fa_14_2, c_fa_14_3, c_fi_14_4, c_put_14_4, c_ob_15, c_fa_15_0, c_ob_17, c_fa_17_0, c_ob_19, c_fa_19_0, c_ob_21, c_fa_21_0, c_len_0, c_ld_0, c_st_0, c_rd_0, c_wr_0, c_len_1, c_ld_1, c_st_1, c_rd_1, c_wr_1, c_len_2, c_ld_2, c_st_2, c_rd_2, c_wr_2, c_len_3, c_ld_3, c_st_3, c_rd_3, c_wr_3, c_len_4, c_ld_4, c_st_4, c_rd_4, c_wr_4, c_len_5, c_ld_5, c_st_5, c_rd_5, c_wr_5, c_len_6, c_ld_6, c_st_6, c_rd_6, c_wr_6, c_len_7, c_ld_7, c_st_7, c_rd_7, c_wr_7, c_len_8, c_ld_8, c_st_8, c_rd_8, c_wr_8, c_len_9, c_ld_9, c_st_9, c_rd_9, c_wr_9, bI_rI, bL_rL, bA_rA, bV_rV, bI_th, bL_th, bA_th, bV_th, rZ_0, rZ_1]
        rfl
      · obtain ⟨G1, r1, h1, s1⟩ := s_halt1 h
        refine ⟨G1, ?_, h1, s1⟩
        unfold f_M_tag
        rw [gOb_of h.2.2.1 rfl, (s_noList h _).1 hL, bI_rI, if_pos rfl, gOb_of h.2.2.1 rfl, (s_noPlace h hW.1 hv hl100 _).2 hi, bI_rI, if_neg (by decide), gOb_of h.2.2.1 rfl, r1, bI_rI, if_neg (by decide)]
        rfl
  · refine Sim.no hR hI 1 (by decide) (by decide) ?_ (fun G D h => ?_)
    · unfold f_X_tag
      simp only [x_needList_no hX (hI.w 0) hx, c_ob_0, c_fa_0_0, c_fa_0_1, c_fi_0_2, c_put_0_2, c_fi_0_3, c_put_0_3, c_fi_0_4, c_put_0_4, c_ob_1, c_fa_1_0, c_fa_1_1, c_fa_1_2, c_fa_1_3, c_fa_1_4, c_fa_1_5, c_fi_1_6, c_put_1_6, c_ob_2, c_fa_2_0, c_ob_4, c_fa_4_0, c_ob_6, c_fa_6_0, c_ob_8, c_fa_8_0, c_ob_10, c_fa_10_0, c_ob_12, c_fa_12_0, c_ob_14, c_fa_14_0, c_fa_14_1, c_fa_14_2, c_fa_14_3, c_fi_14_4, c_put_14_4, c_ob_15, c_fa_15_0, c_ob_17, c_fa_17_0, c_ob_19, c_fa_19_0, c_ob_21, c_fa_21_0, c_len_0, c_ld_0, c_st_0, c_rd_0, c_wr_0, c_len_1, c_ld_1, c_st_1, c_rd_1, c_wr_1, c_len_2, c_ld_2, c_st_2, c_rd_2, c_wr_2, c_len_3, c_ld_3, c_st_3, c_rd_3, c_wr_3, c_len_4, c_ld_4, c_st_4, c_rd_4, c_wr_4, c_len_5, c_ld_5, c_st_5, c_rd_5, c_wr_5, c_len_6, c_ld_6, c_st_6, c_rd_6, c_wr_6, c_len_7, c_ld_7, c_st_7, c_rd_7, c_wr_7, c_len_8, c_ld_8, c_st_8, c_rd_8, c_wr_8, c_len_9, c_ld_9, c_st_9, c_rd_9, c_wr_9, bI_rI, bL_rL, bA_rA, bV_rV, bI_th, bL_th, bA_th, bV_th, rZ_0, rZ_1]
      rfl
    · obtain ⟨G1, r1, h1, s1⟩ := s_halt1 h
      refine ⟨G1, ?_, h1, s1⟩
      unfold f_M_tag
      rw [gOb_of h.2.2.1 rfl, (s_noList h _).2 hx, bI_rI, if_neg (by decide), gOb_of h.2.2.1 rfl, r1, bI_rI, if_neg (by decide)]
      rfl
/-- the length of a list, or none -/
def kSz (A : mS) (p : Nat) : Int32 := if p < 2 then nI (mLen A p) else match A.2.1 p with
  | none => -1
  | some _ => nI (mLen A p)
theorem kSz_yes {p : Nat} (hv : mV A p) : kSz A p = nI (mLen A p) := by
  unfold kSz
  by_cases h2 : p < 2
  · rw [if_pos h2]
  · rw [if_neg h2]
    cases hx : A.2.1 p with
    | none => rcases hv with h | h
              · exact absurd h h2
              · exact absurd hx h
    | some x => rfl
theorem kSz_no {p : Nat} (hv : ¬ mV A p) : kSz A p = -1 := by
  unfold kSz
  rw [if_neg (fun h => hv (Or.inl h))]
  cases hx : A.2.1 p with
  | none => rfl
  | some x => exact absurd (Or.inr (by rw [hx]; exact Option.some_ne_none _)) hv
theorem x_size {p : Nat} (hX : CRepx (-1) σ A) (hI : mInv m A) (hp : p < 6) : f_I_lengthOf (cPut b σ H) (b + 1) (nI p) = rI (kSz A p) (cPut b σ H) := by
  by_cases hv : mV A p
  · rw [kSz_yes hv, x_len hX hI.1 hv]
  · rw [kSz_no hv, y_lengthOf, (CRepx.there hX (hI.w 0)).mpr (fun ⟨q, hq, e, hz⟩ => hv (by
      rw [nI_eq31 (by omega) (by omega) e]; exact hz))]
theorem s_size {p : Nat} {G : gH} {D : mD} (h : MS w o G A D) (hI : mInv m A) (hp : p < 6) : f_M_sizeOf G o (nI p) = rI (kSz A p) G := by
  unfold f_M_sizeOf
  by_cases hv : mV A p
  · rw [gOb_of h.2.2.1 rfl, (s_noList h _).1 ⟨p, hp, rfl, hv⟩, bI_rI, if_pos rfl, gOb_of h.2.2.1 rfl, s_len h hI.1 hv, bI_rI, kSz_yes hv]
  · rw [gOb_of h.2.2.1 rfl, (s_noList h _).2 (fun ⟨q, hq, e, hz⟩ => hv (by rw [nI_eq31 (by omega) (by omega) e]; exact hz)), bI_rI, if_neg (by decide), kSz_no hv]
theorem sim_size (hR : CRep σ A) (hI : mInv m A) (x : Int32) : SimOp w b o A m σ H xI1 (f_X_size (cPut b σ H) b x) (fun G => f_M_size G o x) := by
  have hX := CRepx.of (exc := -1) hR
  by_cases hx : mIsG 5 x
  · have hx' := hx
    obtain ⟨p, hp, rfl⟩ := hx
    refine Sim.ask hR hI (kSz A p) ?_ (fun G D h => ?_)
    · unfold f_X_size
      rw [if_neg (nI_pos (by omega)), if_pos (nI_lt (by omega) (by omega))]
      simp only [x_size hX hI (show p < 6 by omega), c_ob_0, c_fa_0_0, c_fa_0_1, c_fi_0_2, c_put_0_2, c_fi_0_3, c_put_0_3, c_fi_0_4, c_put_0_4, c_ob_1, c_fa_1_0, c_fa_1_1, c_fa_1_2, c_fa_1_3, c_fa_1_4, c_fa_1_5, c_fi_1_6, c_put_1_6, c_ob_2, c_fa_2_0, c_ob_4, c_fa_4_0, c_ob_6, c_fa_6_0, c_ob_8, c_fa_8_0, c_ob_10, c_fa_10_0, c_ob_12, c_fa_12_0, c_ob_14, c_fa_14_0, c_fa_14_1, c_fa_14_2, c_fa_14_3, c_fi_14_4, c_put_14_4, c_ob_15, c_fa_15_0, c_ob_17, c_fa_17_0, c_ob_19, c_fa_19_0, c_ob_21, c_fa_21_0, c_len_0, c_ld_0, c_st_0, c_rd_0, c_wr_0, c_len_1, c_ld_1, c_st_1, c_rd_1, c_wr_1, c_len_2, c_ld_2, c_st_2, c_rd_2, c_wr_2, c_len_3, c_ld_3, c_st_3, c_rd_3, c_wr_3, c_len_4, c_ld_4, c_st_4, c_rd_4, c_wr_4, c_len_5, c_ld_5, c_st_5, c_rd_5, c_wr_5, c_len_6, c_ld_6, c_st_6, c_rd_6, c_wr_6, c_len_7, c_ld_7, c_st_7, c_rd_7, c_wr_7, c_len_8, c_ld_8, c_st_8, c_rd_8, c_wr_8, c_len_9, c_ld_9, c_st_9, c_rd_9, c_wr_9, bI_rI, bL_rL, bA_rA, bV_rV, bI_th, bL_th, bA_th, bV_th, rZ_0, rZ_1]
    · obtain ⟨G1, r1, h1, s1⟩ := s_go h
      refine ⟨G1, ?_, h1, s1.mono (by omega) (by omega)⟩
      unfold f_M_size
      rw [(s_isIn G 5 (by omega) _).1 hx', bI_rI, if_neg (by decide), gOb_of h.2.2.1 rfl, r1, bI_rI, if_pos rfl, gOb_of h1.2.2.1 rfl, s_size h1 (hI.thr 0) (show p < 6 by omega), bI_rI]
      rfl
  · refine Sim.no hR hI 1 (by decide) (by decide) ?_ (fun G D h => ?_)
    · unfold f_X_size
      by_cases h0 : x < 0
      · rw [if_pos h0]; rfl
      · rw [if_neg h0, if_neg (fun q => hx (by
          obtain ⟨i, hi, e⟩ := (nI_plc (L := 6) (by omega)).mpr ⟨h0, q⟩
          exact ⟨i, by omega, e⟩))]; rfl
    · obtain ⟨G1, r1, h1, s1⟩ := s_halt1 h
      refine ⟨G1, ?_, h1, s1⟩
      unfold f_M_size
      rw [(s_isIn G 5 (by omega) _).2 hx, bI_rI, if_pos rfl, gOb_of h.2.2.1 rfl, r1, bI_rI, if_neg (by decide)]
      rfl
end Asks
end
section
-- what is asked of parts, cursors and all
section Loc
/-- a row of ints of one's own, at q, beside all that was there in G0 -/
def lA (G0 : gH) (c s q n : Nat) (f : Nat → Int32) (G : gH) : Prop := gB G0.2.1 G0 G ∧ gWf G ∧ G.2.1 = G0.2.1 + c ∧ G.1 = G0.1 + s ∧ G0.2.1 ≤ q ∧ q < G.2.1 ∧ G.2.2 q = some (zI 100 n f)
variable {G0 G : gH} {c s q n : Nat} {f : Nat → Int32}
theorem lA.new (hB : gB G0.2.1 G0 G) (hw : gWf G) (h1 : G.2.1 = G0.2.1 + c) (h2 : G.1 = G0.1 + s) : lA G0 (c + 1) (s + n) G.2.1 n (fun _ => 0) (gNew G n (zI 100 n (fun _ => 0))) :=
  ⟨fun z hz => by rw [gNew_ne (by omega)]; exact hB z hz, hw.new, by show G.2.1 + 1 = _; omega, by show G.1 + n = _; omega, by omega, Nat.lt_succ_self _, gNew_at⟩
theorem lA.st (h : lA G0 c s q n f G) {i : Nat} (hi : i < n) (hn : n < 2 ^ 31) (v : Int32) : ∃ G', (∀ k : gH → gR, gSt G q 100 (nI i) v k = k G') ∧ lA G0 c s q n (upd f i v) G' := by
  obtain ⟨a1, a2, a3, a4, a5, a6, a7⟩ := h
  exact ⟨_, fun k => gStI_of a7 hi hn, fun z hz => by rw [gUp_ne (by omega)]; exact a1 z hz, a2.up a6, a3, a4, a5, a6, gUp_at⟩
theorem lA.ld (h : lA G0 c s q n f G) {i : Nat} (hi : i < n) (hn : n < 2 ^ 31) (k : Int32 → gR) : gLd G q 100 (nI i) k = k (f i) := by
  have e : ∀ K : Int32 → gR, gLd G q 100 (nI i) K = K (f i) := fun K => by
    unfold gLd gAr
    rw [h.2.2.2.2.2.2]
    simp only [zI]
    rw [if_pos (by decide), if_pos (gIn_nI hi hn), nI_clamp (by omega)]
  exact e k
theorem lA.ms {w : Nat → Nat} {o : Nat} {A : mS} {D : mD} (h : lA G0 c s q n f G) (hM : MS w o G0 A D) : MS w o G A D := hM.gB h.1 h.2.1
theorem lA.fin (h : lA G0 c s q n f G) (hw : gWf G0) : mSt c s G0 G := mSt.gB hw h.1 h.2.1 (by have := h.2.2.1; omega) (by have := h.2.2.1; omega) (by have := h.2.2.2.1; omega) (by have := h.2.2.2.1; omega)
theorem upd_at {f : Nat → Int32} {i : Nat} {x : Int32} : upd f i x i = x := by simp [upd]
theorem upd_ne {f : Nat → Int32} {i j : Nat} {x : Int32} (h : j ≠ i) : upd f i x j = f j := by simp [upd, h]
end Loc
section Told
variable {w : Nat → Nat} {b o m : Nat} {A : mS} {σ : cS} {H : gH}
theorem s_ldP {G : gH} {D : mD} (h : MS w o G A D) {p q : Nat} (hp : p < 6) (hq : D.2.2.2.2.1 p = some q) {k0 : gR} {k : Nat → gR} : (gFA G o 6 2 fun v => gLdq G v 104 (nI p) k0 k) = k q := by
  rw [gFA_of h.2.2.1 rfl rfl, gLdq_of h.2.2.2.2.2.1 rfl hp (by omega) hq]
theorem s_fp {G : gH} {D : mD} (h : MS w o G A D) {p : Nat} {x : Nat × Nat × Nat} (hp : p < 6) (hx : A.2.1 p = some x) :
    ∃ q, D.2.2.2.2.1 p = some q ∧ (∀ k : Int32 → gR, gFI G q 5 0 k = k (nI x.1)) ∧ (∀ k : Int32 → gR, gFI G q 5 1 k = k (nI x.2.1)) ∧ (∀ k : Int32 → gR, gFI G q 5 2 k = k (nI x.2.2)) := by
  obtain ⟨q, e1, e2, e3, e4, e5⟩ := h.2.2.part hp hx
  exact ⟨q, e1, fun k => gFI_of e5 rfl rfl, fun k => gFI_of e5 rfl rfl, fun k => gFI_of e5 rfl rfl⟩
def kWp (x : Nat × Nat × Nat) (r s i : Nat) : Int32 := if i = 0 then nI x.1 else if i = 1 then nI x.2.1 else if i = 2 then nI r else nI s
theorem s_base {G : gH} {D : mD} (h : MS w o G A D) (hok : mOk A.2.1) {p r s : Nat} (hv : mV A p) (hr : mRw A.2.1 zDp p = some (r, s)) : f_M_base zDp G o (nI p) = rI (nI s) G := m_base h.2.2 _ _ _ _ (hv.lt hok) hr
theorem s_partTold {G : gH} {D : mD} (h : MS w o G A D) (hI : mInv m A) {p r s i : Nat} {x : Nat × Nat × Nat} (hp : p < 6) (hx : A.2.1 p = some x) (hr : mRw A.2.1 zDp p = some (r, s)) (hi : i < 4) :
    ∃ G', f_M_partTold G o (nI p) (nI i) = rI (kWp x r s i) G' ∧ MS w o G' A D ∧ mSt 1 4 G G' := by
  have hv : mV A p := Or.inr (by rw [hx]; exact Option.some_ne_none _)
  have l0 : lA G 1 4 G.2.1 4 (fun _ => 0) (gNew G 4 (zI 100 4 (fun _ => 0))) := lA.new (c := 0) (s := 0) (n := 4) gB.refl h.1 rfl rfl
  have h0 := l0.ms h
  have e0 : ∀ k : Nat → gH → gR, gNewA G 100 (nI 4) k = k G.2.1 (gNew G 4 (zI 100 4 (fun _ => 0))) := fun k => gNewA_of (by omega)
  generalize gNew G 4 (zI 100 4 (fun _ => 0)) = G1 at l0 h0 e0
  obtain ⟨q, q1, f0, f1, f2⟩ := s_fp h0 hp hx
  obtain ⟨G2, r2, l2⟩ := l0.st (i := 0) (by omega) (by omega) (nI x.1)
  have h2 := l2.ms h
  obtain ⟨q', q1', g0, g1, g2⟩ := s_fp h2 hp hx
  cases q1.symm.trans q1'
  obtain ⟨G3, r3, l3⟩ := l2.st (i := 1) (by omega) (by omega) (nI x.2.1)
  have h3 := l3.ms h
  obtain ⟨G4, r4, l4⟩ := l3.st (i := 2) (by omega) (by omega) (nI r)
  have h4 := l4.ms h
  obtain ⟨G5, r5, l5⟩ := l4.st (i := 3) (by omega) (by omega) (nI s)
  have h5 := l5.ms h
  refine ⟨G5, ?_, h5, l5.fin h.1⟩
  unfold f_M_partTold
  rw [e0, s_ldP h0 hp q1, f0, r2, s_ldP h2 hp q1, g1, r3, gOb_of h3.2.2.1 rfl, s_rowOf h3 hI.1 hv hr, bI_rI, r4, gOb_of h4.2.2.1 rfl, s_base h4 hI.1 hv hr, bI_rI, r5, l5.ld hi (by omega)]
  unfold kWp
  rcases (by omega : i = 0 ∨ i = 1 ∨ i = 2 ∨ i = 3) with rfl | rfl | rfl | rfl
  · rw [upd_ne (by omega), upd_ne (by omega), upd_ne (by omega), upd_at, if_pos rfl]
  · rw [upd_ne (by omega), upd_ne (by omega), upd_at, if_neg (by omega), if_pos rfl]
  · rw [upd_ne (by omega), upd_at, if_neg (by omega), if_neg (by omega), if_pos rfl]
  · rw [upd_at, if_neg (by omega), if_neg (by omega), if_neg (by omega)]
theorem x_worthOf (hX : CRepx (-1) σ A) (hI : mInv m A) {p r s i : Nat} {x : Nat × Nat × Nat} (hp : p < 6) (hx : A.2.1 p = some x) (hr : mRw A.2.1 zDp p = some (r, s)) (hi : i < 4) :
    f_I_worthOf (cPut b σ H) (b + 1) (nI p) (nI i) = rI (kWp x r s i) (cPut b σ H) := by
  have hv : mV A p := Or.inr (by rw [hx]; exact Option.some_ne_none _)
  have ha : σ.1 2 p = nI x.1 := hX.2.2.2.1.2 p x hx
  obtain ⟨b3, b4⟩ := hX.2.2.2.2.1 p r s hp hr
  -- where the list above begins
  have hvo : mV A x.1 := hI.1.cl p x hx
  obtain ⟨ro, so, hro, hro2, hfo, h31o, ho6, -⟩ := hI.pl hvo
  have hrp := mRw_of hI.1 hx hro
  rw [hr] at hrp
  have e1 : r = ro := by cases hrp; rfl
  have e2 : s = x.2.1 + so := by cases hrp; rfl
  obtain ⟨-, b4o⟩ := hX.2.2.2.2.1 x.1 ro so ho6 hro
  have c1 : f_N_read (cPut b σ H) (b + 6) (nI p) = rI (nI x.1) (cPut b σ H) := by rw [c_rd_2, rd_nI hp (by omega), ha]
  have c2 : f_N_read (cPut b σ H) (b + 10) (nI p) = rI (nI s) (cPut b σ H) := by rw [c_rd_4, rd_nI hp (by omega), b4]
  have c3 : f_N_read (cPut b σ H) (b + 10) (nI x.1) = rI (nI so) (cPut b σ H) := by rw [c_rd_4, rd_nI ho6 (by omega), b4o]
  have c4 := x_row (b := b) (G := H) hX hI.1 hv hr
  unfold f_I_worthOf kWp
  rw [c_fa_1_2, c_ob_6, c1, bI_rI, nI_toInt (by omega)]
  rcases (by omega : i = 0 ∨ i = 1 ∨ i = 2 ∨ i = 3) with rfl | rfl | rfl | rfl
  · rw [if_pos (show ((0 : Nat) : Int) = 0 from rfl), if_pos rfl]
  · rw [if_neg (by decide), if_pos (show ((1 : Nat) : Int) = 1 from rfl), if_neg (by omega), if_pos rfl, c_fa_1_4, c_ob_10, c2, bI_rI, c_fa_1_4, c_ob_10, c3, bI_rI, e2, nI_sub (by omega), Nat.add_sub_cancel]
  · rw [if_neg (by decide), if_neg (by decide), if_pos (show ((2 : Nat) : Int) = 2 from rfl), if_neg (by omega), if_neg (by omega), if_pos rfl, c_ob_1, c4, bI_rI]
  · rw [if_neg (by decide), if_neg (by decide), if_neg (by decide), if_neg (by omega), if_neg (by omega), if_neg (by omega), c_fa_1_4, c_ob_10, c2, bI_rI]
theorem sim_ofPart (hR : CRep σ A) (hI : mInv m A) (x y : Int32) : SimOp w b o A m σ H xIG (f_X_ofPart (cPut b σ H) b x y) (fun G => f_M_ofPart G o x y) := by
  have hX := CRepx.of (exc := -1) hR
  by_cases hx : mIsQ A x
  · have hQ := hx
    obtain ⟨p, h2, h6, rfl, hp⟩ := hx
    cases hpx : A.2.1 p with
    | none => exact absurd hpx hp
    | some u =>
      have hv : mV A p := Or.inr hp
      obtain ⟨r, s, hr, -⟩ := hI.pl hv
      by_cases hy : mIsG 3 y
      · have hy' := hy
        obtain ⟨i, hi, rfl⟩ := hy
        refine Sim.ask hR hI (kWp u r s i) ?_ (fun G D h => ?_)
        · unfold f_X_ofPart
          simp only [(x_needPart hX (hI.w 0)).1 hQ, c_ob_0, c_fa_0_0, c_fa_0_1, c_fi_0_2, c_put_0_2, c_fi_0_3, c_put_0_3, c_fi_0_4, c_put_0_4, c_ob_1, c_fa_1_0, c_fa_1_1, c_fa_1_2, c_fa_1_3, c_fa_1_4, c_fa_1_5, c_fi_1_6, c_put_1_6, c_ob_2, c_fa_2_0, c_ob_4, c_fa_4_0, c_ob_6, c_fa_6_0, c_ob_8, c_fa_8_0, c_ob_10, c_fa_10_0, c_ob_12, c_fa_12_0, c_ob_14, c_fa_14_0, c_fa_14_1, c_fa_14_2, c_fa_14_3, c_fi_14_4, c_put_14_4, c_ob_15, c_fa_15_0, c_ob_17, c_fa_17_0, c_ob_19, c_fa_19_0, c_ob_21, c_fa_21_0, c_len_0, c_ld_0, c_st_0, c_rd_0, c_wr_0, c_len_1, c_ld_1, c_st_1, c_rd_1, c_wr_1, c_len_2, c_ld_2, c_st_2, c_rd_2, c_wr_2, c_len_3, c_ld_3, c_st_3, c_rd_3, c_wr_3, c_len_4, c_ld_4, c_st_4, c_rd_4, c_wr_4, c_len_5, c_ld_5, c_st_5, c_rd_5, c_wr_5, c_len_6, c_ld_6, c_st_6, c_rd_6, c_wr_6, c_len_7, c_ld_7, c_st_7, c_rd_7, c_wr_7, c_len_8, c_ld_8, c_st_8, c_rd_8, c_wr_8, c_len_9, c_ld_9, c_st_9, c_rd_9, c_wr_9, bI_rI, bL_rL, bA_rA, bV_rV, bI_th, bL_th, bA_th, bV_th, rZ_0, rZ_1]
          rw [if_neg (nI_pos (by omega)), if_pos (nI_lt (by omega) (by omega)), x_worthOf hX hI h6 hpx hr (by omega), bI_rI]
        · obtain ⟨G1, r1, h1, s1⟩ := s_go h
          obtain ⟨G2, r2, h2', s2⟩ := s_partTold h1 (hI.thr 0) h6 hpx hr (show i < 4 by omega)
          refine ⟨G2, ?_, h2', (s1.trans s2).mono (by omega) (by omega)⟩
          unfold f_M_ofPart
          rw [gOb_of h.2.2.1 rfl, (s_noPart h _).1 hQ, bI_rI, gOb_of h.2.2.1 rfl]
          rw [show f_M_start G o 0 (nI 1) = _ from r1 (nI 1), bI_rI, if_pos rfl, (s_isIn G1 3 (by omega) _).1 hy', bI_rI, if_neg (by decide), r_ref0 h1 rfl, gOb_of h1.2.2.1 rfl, r2, bI_rI]
      · refine Sim.no hR hI 2 (by decide) (by decide) ?_ (fun G D h => ?_)
        · unfold f_X_ofPart
          simp only [(x_needPart hX (hI.w 0)).1 hQ, c_ob_0, c_fa_0_0, c_fa_0_1, c_fi_0_2, c_put_0_2, c_fi_0_3, c_put_0_3, c_fi_0_4, c_put_0_4, c_ob_1, c_fa_1_0, c_fa_1_1, c_fa_1_2, c_fa_1_3, c_fa_1_4, c_fa_1_5, c_fi_1_6, c_put_1_6, c_ob_2, c_fa_2_0, c_ob_4, c_fa_4_0, c_ob_6, c_fa_6_0, c_ob_8, c_fa_8_0, c_ob_10, c_fa_10_0, c_ob_12, c_fa_12_0, c_ob_14, c_fa_14_0, c_fa_14_1, c_fa_14_2, c_fa_14_3, c_fi_14_4, c_put_14_4, c_ob_15, c_fa_15_0, c_ob_17, c_fa_17_0, c_ob_19, c_fa_19_0, c_ob_21, c_fa_21_0, c_len_0, c_ld_0, c_st_0, c_rd_0, c_wr_0, c_len_1, c_ld_1, c_st_1, c_rd_1, c_wr_1, c_len_2, c_ld_2, c_st_2, c_rd_2, c_wr_2, c_len_3, c_ld_3, c_st_3, c_rd_3, c_wr_3, c_len_4, c_ld_4, c_st_4, c_rd_4, c_wr_4, c_len_5, c_ld_5, c_st_5, c_rd_5, c_wr_5, c_len_6, c_ld_6, c_st_6, c_rd_6, c_wr_6, c_len_7, c_ld_7, c_st_7, c_rd_7, c_wr_7, c_len_8, c_ld_8, c_st_8, c_rd_8, c_wr_8, c_len_9, c_ld_9, c_st_9, c_rd_9, c_wr_9, bI_rI, bL_rL, bA_rA, bV_rV, bI_th, bL_th, bA_th, bV_th, rZ_0, rZ_1]
          by_cases h0 : y < 0
          · rw [if_pos h0]; rfl
          · rw [if_neg h0, if_neg (fun q => hy (by
              obtain ⟨i, hi, e⟩ := (nI_plc (L := 4) (by omega)).mpr ⟨h0, q⟩
              exact ⟨i, by omega, e⟩))]; rfl
        · obtain ⟨G1, r1, h1, s1⟩ := s_go h
          obtain ⟨G2, r2, h2', s2⟩ := r_no1 (c := 2) h1 (by decide)
          refine ⟨G2, ?_, h2', (s1.trans s2).mono (by omega) (by omega)⟩
          unfold f_M_ofPart
          rw [gOb_of h.2.2.1 rfl, (s_noPart h _).1 hQ, bI_rI, gOb_of h.2.2.1 rfl]
          rw [show f_M_start G o 0 (nI 1) = _ from r1 (nI 1), bI_rI, if_pos rfl, (s_isIn G1 3 (by omega) _).2 hy, bI_rI, if_pos rfl, r2]
          rfl
  · refine Sim.no hR hI 1 (by decide) (by decide) ?_ (fun G D h => ?_)
    · unfold f_X_ofPart
      simp only [(x_needPart hX (hI.w 0)).2 hx, c_ob_0, c_fa_0_0, c_fa_0_1, c_fi_0_2, c_put_0_2, c_fi_0_3, c_put_0_3, c_fi_0_4, c_put_0_4, c_ob_1, c_fa_1_0, c_fa_1_1, c_fa_1_2, c_fa_1_3, c_fa_1_4, c_fa_1_5, c_fi_1_6, c_put_1_6, c_ob_2, c_fa_2_0, c_ob_4, c_fa_4_0, c_ob_6, c_fa_6_0, c_ob_8, c_fa_8_0, c_ob_10, c_fa_10_0, c_ob_12, c_fa_12_0, c_ob_14, c_fa_14_0, c_fa_14_1, c_fa_14_2, c_fa_14_3, c_fi_14_4, c_put_14_4, c_ob_15, c_fa_15_0, c_ob_17, c_fa_17_0, c_ob_19, c_fa_19_0, c_ob_21, c_fa_21_0, c_len_0, c_ld_0, c_st_0, c_rd_0, c_wr_0, c_len_1, c_ld_1, c_st_1, c_rd_1, c_wr_1, c_len_2, c_ld_2, c_st_2, c_rd_2, c_wr_2, c_len_3, c_ld_3, c_st_3, c_rd_3, c_wr_3, c_len_4, c_ld_4, c_st_4, c_rd_4, c_wr_4, c_len_5, c_ld_5, c_st_5, c_rd_5, c_wr_5, c_len_6, c_ld_6, c_st_6, c_rd_6, c_wr_6, c_len_7, c_ld_7, c_st_7, c_rd_7, c_wr_7, c_len_8, c_ld_8, c_st_8, c_rd_8, c_wr_8, c_len_9, c_ld_9, c_st_9, c_rd_9, c_wr_9, bI_rI, bL_rL, bA_rA, bV_rV, bI_th, bL_th, bA_th, bV_th, rZ_0, rZ_1]
      rfl
    · obtain ⟨G1, r1, h1, s1⟩ := s_halt1 h
      refine ⟨G1, ?_, h1, s1⟩
      unfold f_M_ofPart
      rw [gOb_of h.2.2.1 rfl, (s_noPart h _).2 hx, bI_rI, gOb_of h.2.2.1 rfl]
      rw [show f_M_start G o 1 (nI 1) = _ from r1, bI_rI, if_neg (by decide)]
      rfl
-- cursors
def kWc (A : mS) (c i : Nat) : Int32 := match A.2.2.1 c with
  | none => if i = 0 then nI 0 else -1
  | some x => if i = 0 then (if x.2.2.2 = 0 then nI 1 else nI 2) else if i = 1 then nI x.1 else if x.2.2.2 = 0 then
      (if i = 2 then nI x.2.1 else if i = 3 then nI x.2.1 - nI 1 else if i = 4 then (if mLen A x.1 ≤ x.2.1 then nI 0 else nI 1) else if i = 5 then (if x.2.1 = 0 then nI 0 else nI 1) else x.2.2.1) else -1
section KWc
variable {c i : Nat} {x : Nat × Nat × Int32 × Int32}
theorem kWc_n0 (hx : A.2.2.1 c = none) : kWc A c 0 = nI 0 := by unfold kWc; rw [hx]; rfl
theorem kWc_n (hx : A.2.2.1 c = none) (h0 : ¬ i = 0) : kWc A c i = -1 := by unfold kWc; rw [hx]; exact if_neg h0
theorem kWc_0 (hx : A.2.2.1 c = some x) : kWc A c 0 = if x.2.2.2 = 0 then nI 1 else nI 2 := by unfold kWc; rw [hx]; rfl
theorem kWc_1 (hx : A.2.2.1 c = some x) : kWc A c 1 = nI x.1 := by unfold kWc; rw [hx]; rfl
theorem kWc_s (hx : A.2.2.1 c = some x) (h0 : ¬ i = 0) (h1 : ¬ i = 1) (hs : ¬ x.2.2.2 = 0) : kWc A c i = -1 := by
  unfold kWc; rw [hx]
  show (if i = 0 then _ else if i = 1 then _ else if x.2.2.2 = 0 then _ else (-1 : Int32)) = -1
  rw [if_neg h0, if_neg h1, if_neg hs]
theorem kWc_x (hx : A.2.2.1 c = some x) (h0 : ¬ i = 0) (h1 : ¬ i = 1) (hs : x.2.2.2 = 0) : kWc A c i = (if i = 2 then nI x.2.1 else if i = 3 then nI x.2.1 - nI 1 else if i = 4 then (if mLen A x.1 ≤ x.2.1 then nI 0 else nI 1) else if i = 5 then (if x.2.1 = 0 then nI 0 else nI 1) else x.2.2.1) := by
  unfold kWc; rw [hx]
  show (if i = 0 then _ else if i = 1 then _ else if x.2.2.2 = 0 then _ else (-1 : Int32)) = _
  rw [if_neg h0, if_neg h1, if_pos hs]
theorem kWc_2 (hx : A.2.2.1 c = some x) (hs : x.2.2.2 = 0) : kWc A c 2 = nI x.2.1 := kWc_x hx (by omega) (by omega) hs
theorem kWc_3 (hx : A.2.2.1 c = some x) (hs : x.2.2.2 = 0) : kWc A c 3 = nI x.2.1 - nI 1 := kWc_x hx (by omega) (by omega) hs
theorem kWc_4 (hx : A.2.2.1 c = some x) (hs : x.2.2.2 = 0) : kWc A c 4 = if mLen A x.1 ≤ x.2.1 then nI 0 else nI 1 := kWc_x hx (by omega) (by omega) hs
theorem kWc_5 (hx : A.2.2.1 c = some x) (hs : x.2.2.2 = 0) : kWc A c 5 = if x.2.1 = 0 then nI 0 else nI 1 := kWc_x hx (by omega) (by omega) hs
theorem kWc_6 (hx : A.2.2.1 c = some x) (hs : x.2.2.2 = 0) : kWc A c 6 = x.2.2.1 := kWc_x hx (by omega) (by omega) hs
end KWc
theorem x_worthC (hR : CRep σ A) (hI : mInv m A) {c i : Nat} (hc : c < 3) (hi : i < 7) : f_X_worthOfCursor (cPut b σ H) b (nI c) (nI i) = rI (kWc A c i) (cPut b σ H) := by
  have hX := CRepx.of (exc := -1) hR
  cases hx : A.2.2.1 c with
  | none =>
    have hn : ¬ mIsC A (nI c) := fun ⟨c', h3, e, hz⟩ => hz (by rw [← nI_eq31 (by omega) (by omega) e]; exact hx)
    have h6 : f_U_stateOf (cPut b σ H) (b + 14) (nI c) = rI (nI 0) (cPut b σ H) := by rw [y_state, rd_nI hc (by omega), hX.nocur hc hx]
    have hth : f_U_isThere (cPut b σ H) (b + 14) (nI c) = rI 0 (cPut b σ H) := by
      haveI := Classical.propDecidable (mIsC A (nI c))
      rw [x_cThere hR, decide_eq_false hn]; rfl
    unfold f_X_worthOfCursor
    by_cases h0 : i = 0
    · subst h0
      rw [if_pos (show nI 0 = 0 from nI0), kWc_n0 hx, c_fa_0_1, c_ob_14, h6, bI_rI]
    · rw [if_neg (nI_ne0 (by omega) (by omega)), kWc_n hx h0, c_fa_0_1, c_ob_14, hth, bI_rI, if_pos rfl]
  | some x =>
    have hC : mIsC A (nI c) := ⟨c, hc, rfl, by rw [hx]; exact Option.some_ne_none _⟩
    obtain ⟨c6, c7, -⟩ := hX.cur hc hx
    have h6 : f_U_stateOf (cPut b σ H) (b + 14) (nI c) = rI (if x.2.2.2 = 0 then nI 1 else nI 2) (cPut b σ H) := by rw [y_state, rd_nI hc (by omega), c6]
    have hth : f_U_isThere (cPut b σ H) (b + 14) (nI c) = rI 1 (cPut b σ H) := by
      haveI := Classical.propDecidable (mIsC A (nI c))
      rw [x_cThere hR, decide_eq_true hC]; rfl
    obtain ⟨-, hy6, hv, hok⟩ := hI.2.2.2.1 c x hx
    have hl31 := hI.l31 hv
    have hxl := x_len (b := b) (G := H) hX hI.1 hv
    unfold f_X_worthOfCursor
    by_cases h0 : i = 0
    · subst h0
      rw [if_pos (show nI 0 = 0 from nI0), kWc_0 hx, c_fa_0_1, c_ob_14, h6, bI_rI]
    · rw [if_neg (nI_ne0 (by omega) (by omega)), c_fa_0_1, c_ob_14, hth, bI_rI, if_neg (by decide), c_fa_0_1, c_ob_14, x_listOf hR hc hx, bI_rI]
      by_cases h1 : i = 1
      · subst h1; rw [if_pos rfl, kWc_1 hx]
      · rw [if_neg (fun q => h1 (nI_eq31 (by omega) (by omega) q)), c_fa_0_1, c_ob_14, x_isStale hR hc hx, bI_rI, mB_if]
        by_cases hs : x.2.2.2 = 0
        · have hn : x.2.1 < 2 ^ 20 := by
            rcases hok with ⟨-, hn, -⟩ | ⟨-, -, hn⟩
            · omega
            · omega
          rw [if_neg (by simp [hs]), c_fa_0_1, c_ob_14, x_nextOf hR hc hx, bI_rI, nI_toInt (by omega)]
          have z0 : (nI x.2.1 ≤ 0) ↔ x.2.1 = 0 := by
            by_cases z : x.2.1 = 0
            · rw [z]; exact ⟨fun _ => rfl, fun _ => by decide⟩
            · exact ⟨fun q => absurd q (nI_ge (a := 0) (by omega) (by omega)), fun q => absurd q z⟩
          rcases (by omega : i = 2 ∨ i = 3 ∨ i = 4 ∨ i = 5 ∨ i = 6) with rfl | rfl | rfl | rfl | rfl
          · rw [kWc_2 hx hs, if_pos (show ((2 : Nat) : Int) = 2 from rfl)]
          · rw [kWc_3 hx hs, if_neg (by decide), if_pos (show ((3 : Nat) : Int) = 3 from rfl)]
            by_cases z : x.2.1 = 0
            · rw [if_pos (z0.mpr z), z]; rfl
            · rw [if_neg (fun q => z (z0.mp q))]
          · rw [kWc_4 hx hs, if_neg (by decide), if_neg (by decide), if_pos (show ((4 : Nat) : Int) = 4 from rfl), c_fa_0_0, c_ob_1, hxl, bI_rI]
            by_cases z : mLen A x.1 ≤ x.2.1
            · rw [if_pos (nI_le z (by omega)), if_pos z]
            · rw [if_neg (nI_ge (by omega) (by omega)), if_neg z]
          · rw [kWc_5 hx hs, if_neg (by decide), if_neg (by decide), if_neg (by decide), if_pos (show ((5 : Nat) : Int) = 5 from rfl)]
            by_cases z : x.2.1 = 0
            · rw [if_pos (z0.mpr z), if_pos z]
            · rw [if_neg (fun q => z (z0.mp q)), if_neg z]
          · rw [kWc_6 hx hs, if_neg (by decide), if_neg (by decide), if_neg (by decide), if_neg (by decide), c_fa_0_1, c_ob_14, x_lastOf hR hc hx, bI_rI]
        · rw [if_pos (by simp [hs]), kWc_s hx h0 h1 hs]
theorem s_curTold {G : gH} {D : mD} (h : MS w o G A D) (hI : mInv m A) {c i : Nat} (hc : c < 3) (hi : i < 7) : ∃ G', f_M_cursorTold G o (nI c) (nI i) = rI (kWc A c i) G' ∧ MS w o G' A D ∧ mSt 1 5 G G' := by
  cases hx : A.2.2.1 c with
  | none =>
    refine ⟨G, ?_, h, mSt.refl.mono (by omega) (by omega)⟩
    unfold f_M_cursorTold
    rw [gFA_of h.2.2.1 rfl rfl, gLdq_no h.2.2.2.2.2.2.1 rfl hc (by omega) (h.2.2.nocur hc hx)]
    by_cases h0 : i = 0
    · subst h0; rw [if_pos nI0, kWc_n0 hx]
    · rw [if_neg (nI_ne0 (by omega) (by omega)), kWc_n hx h0]
  | some x =>
    obtain ⟨q, hq, -⟩ := s_curq h hc hx
    obtain ⟨f0, f1, f2, f3⟩ := s_fi h hc hx hq
    obtain ⟨-, hy6, hv, hok⟩ := hI.2.2.2.1 c x hx
    have hl31 := hI.l31 hv
    by_cases h0 : i = 0
    · refine ⟨G, ?_, h, mSt.refl.mono (by omega) (by omega)⟩
      unfold f_M_cursorTold
      subst h0
      rw [s_ldC h hc hq, if_pos nI0, f3, kWc_0 hx]
      by_cases hs : x.2.2.2 = 0
      · rw [if_pos hs, if_pos hs]
      · rw [if_neg hs, if_neg hs]
    · by_cases h1 : i = 1
      · refine ⟨G, ?_, h, mSt.refl.mono (by omega) (by omega)⟩
        unfold f_M_cursorTold
        subst h1
        rw [s_ldC h hc hq, if_neg (nI_ne0 (by omega) (by omega)), if_pos rfl, f0, kWc_1 hx]
      · by_cases hs : x.2.2.2 = 0
        · have hn : x.2.1 < 2 ^ 20 := by
            rcases hok with ⟨-, hn, -⟩ | ⟨-, -, hn⟩
            · omega
            · omega
          have z0 : (nI x.2.1 ≤ 0) ↔ x.2.1 = 0 := by
            by_cases z : x.2.1 = 0
            · rw [z]; exact ⟨fun _ => rfl, fun _ => by decide⟩
            · exact ⟨fun q => absurd q (nI_ge (a := 0) (by omega) (by omega)), fun q => absurd q z⟩
          have l0 : lA G 1 5 G.2.1 5 (fun _ => 0) (gNew G 5 (zI 100 5 (fun _ => 0))) := lA.new (c := 0) (s := 0) (n := 5) gB.refl h.1 rfl rfl
          have e0 : ∀ k : Nat → gH → gR, gNewA G 100 (nI 5) k = k G.2.1 (gNew G 5 (zI 100 5 (fun _ => 0))) := fun k => gNewA_of (by omega)
          generalize gNew G 5 (zI 100 5 (fun _ => 0)) = G1 at l0 e0
          obtain ⟨-, g1, -, -⟩ := s_fi (l0.ms h) hc hx hq
          obtain ⟨G2, r2, l2⟩ := l0.st (i := 0) (by omega) (by omega) (nI x.2.1)
          obtain ⟨-, k1, -, -⟩ := s_fi (l2.ms h) hc hx hq
          obtain ⟨G3, r3, l3⟩ := l2.st (i := 1) (by omega) (by omega) (nI x.2.1 - nI 1)
          have h3 := l3.ms h
          obtain ⟨m0, m1, -, -⟩ := s_fi h3 hc hx hq
          obtain ⟨G4, r4, l4⟩ := l3.st (i := 2) (by omega) (by omega) (if mLen A x.1 ≤ x.2.1 then nI 0 else nI 1)
          obtain ⟨-, n1, -, -⟩ := s_fi (l4.ms h) hc hx hq
          obtain ⟨G5, r5, l5⟩ := l4.st (i := 3) (by omega) (by omega) (if x.2.1 = 0 then nI 0 else nI 1)
          obtain ⟨-, -, u2, -⟩ := s_fi (l5.ms h) hc hx hq
          obtain ⟨G6, r6, l6⟩ := l5.st (i := 4) (by omega) (by omega) x.2.2.1
          have e2 : nI i - nI 2 = nI (i - 2) := nI_sub (by omega)
          have fin := l6.ld (i := i - 2) (by omega) (by omega) (fun v => rI v G6)
          refine ⟨G6, ?_, l6.ms h, l6.fin h.1⟩
          have hval : upd (upd (upd (upd (upd (fun _ => 0) 0 (nI x.2.1)) 1 (nI x.2.1 - nI 1)) 2 (if mLen A x.1 ≤ x.2.1 then nI 0 else nI 1)) 3 (if x.2.1 = 0 then nI 0 else nI 1)) 4 x.2.2.1 (i - 2) = kWc A c i := by
            rcases (by omega : i = 2 ∨ i = 3 ∨ i = 4 ∨ i = 5 ∨ i = 6) with rfl | rfl | rfl | rfl | rfl
            · rw [kWc_2 hx hs, upd_ne (by omega), upd_ne (by omega), upd_ne (by omega), upd_ne (by omega), upd_at]
            · rw [kWc_3 hx hs, upd_ne (by omega), upd_ne (by omega), upd_ne (by omega), upd_at]
            · rw [kWc_4 hx hs, upd_ne (by omega), upd_ne (by omega), upd_at]
            · rw [kWc_5 hx hs, upd_ne (by omega), upd_at]
            · rw [kWc_6 hx hs, upd_at]
          rw [hval] at fin
          unfold f_M_cursorTold
          rw [s_ldC h hc hq, if_neg (nI_ne0 (by omega) (by omega)), if_neg (fun q => h1 (nI_eq31 (by omega) (by omega) q)), f3, if_pos hs, e0, g1, r2, k1, r3, m1, m0, gOb_of h3.2.2.1 rfl, s_len h3 hI.1 hv, bI_rI]
          by_cases y1 : mLen A x.1 ≤ x.2.1
          · rw [if_pos y1] at r4
            rw [if_pos (nI_le y1 (by omega)), m_one0, bI_rI, r4, n1]
            by_cases y2 : x.2.1 = 0
            · rw [if_pos y2] at r5
              rw [if_pos (z0.mpr y2), m_one0, bI_rI, r5, u2, r6, e2]
              exact fin
            · rw [if_neg y2] at r5
              rw [if_neg (fun q => y2 (z0.mp q)), m_one1, bI_rI, r5, u2, r6, e2]
              exact fin
          · rw [if_neg y1] at r4
            rw [if_neg (nI_ge (by omega) (by omega)), m_one1, bI_rI, r4, n1]
            by_cases y2 : x.2.1 = 0
            · rw [if_pos y2] at r5
              rw [if_pos (z0.mpr y2), m_one0, bI_rI, r5, u2, r6, e2]
              exact fin
            · rw [if_neg y2] at r5
              rw [if_neg (fun q => y2 (z0.mp q)), m_one1, bI_rI, r5, u2, r6, e2]
              exact fin
        · refine ⟨G, ?_, h, mSt.refl.mono (by omega) (by omega)⟩
          unfold f_M_cursorTold
          rw [s_ldC h hc hq, if_neg (nI_ne0 (by omega) (by omega)), if_neg (fun q => h1 (nI_eq31 (by omega) (by omega) q)), f3, if_neg hs, kWc_s hx h0 h1 hs]
theorem sim_ofCursor (hR : CRep σ A) (hI : mInv m A) (x y : Int32) : SimOp w b o A m σ H xIG (f_X_ofCursor (cPut b σ H) b x y) (fun G => f_M_ofCursor G o x y) := by
  by_cases hx : mIsG 2 x
  · have hx' := hx
    obtain ⟨c, hc, rfl⟩ := hx
    by_cases hy : mIsG 6 y
    · have hy' := hy
      obtain ⟨i, hi, rfl⟩ := hy
      refine Sim.ask hR hI (kWc A c i) ?_ (fun G D h => ?_)
      · unfold f_X_ofCursor
        rw [if_neg (nI_pos (by omega)), if_pos (nI_lt (by omega) (by omega)), if_neg (nI_pos (by omega)), if_pos (nI_lt (by omega) (by omega)), c_ob_0, x_worthC hR hI (by omega) (by omega), bI_rI]
      · obtain ⟨G1, r1, h1, s1⟩ := s_go h
        obtain ⟨G2, r2, h2, s2⟩ := s_curTold h1 (hI.thr 0) (show c < 3 by omega) (show i < 7 by omega)
        refine ⟨G2, ?_, h2, (s1.trans s2).mono (by omega) (by omega)⟩
        unfold f_M_ofCursor
        rw [(s_isIn G 2 (by omega) _).1 hx', bI_rI, if_neg (by decide), gOb_of h.2.2.1 rfl, r1, bI_rI, if_pos rfl, (s_isIn G1 6 (by omega) _).1 hy', bI_rI, if_neg (by decide), r_ref0 h1 rfl, gOb_of h1.2.2.1 rfl, r2, bI_rI]
        rfl
    · refine Sim.no hR hI 2 (by decide) (by decide) ?_ (fun G D h => ?_)
      · unfold f_X_ofCursor
        rw [if_neg (nI_pos (by omega)), if_pos (nI_lt (by omega) (by omega))]
        by_cases h0 : y < 0
        · rw [if_pos h0]; rfl
        · rw [if_neg h0, if_neg (fun q => hy (by
            obtain ⟨i, hi, e⟩ := (nI_plc (L := 7) (by omega)).mpr ⟨h0, q⟩
            exact ⟨i, by omega, e⟩))]; rfl
      · obtain ⟨G1, r1, h1, s1⟩ := s_go h
        obtain ⟨G2, r2, h2, s2⟩ := r_no1 (c := 2) h1 (by decide)
        refine ⟨G2, ?_, h2, (s1.trans s2).mono (by omega) (by omega)⟩
        unfold f_M_ofCursor
        rw [(s_isIn G 2 (by omega) _).1 hx', bI_rI, if_neg (by decide), gOb_of h.2.2.1 rfl, r1, bI_rI, if_pos rfl, (s_isIn G1 6 (by omega) _).2 hy, bI_rI, if_pos rfl, r2]
        rfl
  · refine Sim.no hR hI 1 (by decide) (by decide) ?_ (fun G D h => ?_)
    · unfold f_X_ofCursor
      by_cases h0 : x < 0
      · rw [if_pos h0]; rfl
      · rw [if_neg h0, if_neg (fun q => hx (by
          obtain ⟨i, hi, e⟩ := (nI_plc (L := 3) (by omega)).mpr ⟨h0, q⟩
          exact ⟨i, by omega, e⟩))]; rfl
    · obtain ⟨G1, r1, h1, s1⟩ := s_halt1 h
      refine ⟨G1, ?_, h1, s1⟩
      unfold f_M_ofCursor
      rw [(s_isIn G 2 (by omega) _).2 hx, bI_rI, if_pos rfl, gOb_of h.2.2.1 rfl, r1, bI_rI, if_neg (by decide)]
      rfl
end Told
end
