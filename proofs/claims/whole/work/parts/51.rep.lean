-- exchange, replaceAll, assign
section Exc
variable {w : Nat → Nat} {b o m : Nat} {A : mS} {σ : cS} {H : gH}
theorem sim_exchange (hR : CRep σ A) (hI : mInv m A) (x i j : Int32) : SimOp w b o A m σ H xI1 (f_X_exchange (cPut b σ H) b x i j) (fun G => f_M_exchange G o x i j) := by
  have hX := CRepx.of (exc := -1) hR
  by_cases hx : mIsL A x
  · have hL := hx
    obtain ⟨p, hp, rfl, hv⟩ := hx
    have hv : mV A p := hv
    obtain ⟨r, s, hr, hr2, hfit, h31, hp6, hro⟩ := hI.pl hv
    have hW := hI.w p
    have hl100 : mLen A p < 100 := by omega
    by_cases hi : mIsP (mLen A p) i
    · have hi' := hi
      obtain ⟨i, hip, rfl⟩ := hi
      by_cases hj : mIsP (mLen A p) j
      · have hj' := hj
        obtain ⟨j, hjp, rfl⟩ := hj
        have ht := List.getElem?_eq_getElem (show s + i < (A.1 r).length by omega)
        generalize (A.1 r)[s + i] = t at ht
        have hu := List.getElem?_eq_getElem (show s + j < (A.1 r).length by omega)
        generalize (A.1 r)[s + j] = u at hu
        have hto := (hI.2.2.1 r hr2).2 t (List.mem_of_getElem? ht)
        have huo := (hI.2.2.1 r hr2).2 u (List.mem_of_getElem? hu)
        -- the first one written
        have hIt : mInv m (mSet A 0 0) := hI.thr 0
        have hX1 : CRepx (-1) σ (mSet A 0 0) := hX.thr 0
        obtain ⟨y1, y2⟩ := x_write (b := b) (G := H) (i := i) hX1 hW.1 hW.2.1 hW.2.2.1 hv hr hip u
        have hIB : mInv m (mRows (mSet A 0 0) r ((A.1 r).set (s + i) u)) := hIt.rows List.length_set (fun v hv => by
          rcases set_mem hv with q | q
          · exact (hI.2.2.1 r hr2).2 v q
          · rw [q]; exact huo)
        replace y2 : CRepx (-1) (cArr σ 0 (upd (σ.1 0) (31 * r + (s + i)) (cE u))) (mRows (mSet A 0 0) r ((A.1 r).set (s + i) u)) := y2
        generalize hL1 : (A.1 r).set (s + i) u = L1 at y2 hIB
        have hl1 : L1.length = (A.1 r).length := by rw [← hL1]; exact List.length_set
        generalize hσ1 : cArr σ 0 (upd (σ.1 0) (31 * r + (s + i)) (cE u)) = σ1 at y1 y2
        have hvB : mV (mRows (mSet A 0 0) r L1) p := hv
        have hrB : mRw (mRows (mSet A 0 0) r L1).2.1 zDp p = some (r, s) := hr
        have hmB : mLen (mRows (mSet A 0 0) r L1) p = mLen A p := by rw [← hL1]; exact mLen_rset (A := mSet A 0 0)
        have hWB := hIB.w p
        -- the other one
        obtain ⟨z1, z2⟩ := x_write (b := b) (G := H) (i := j) y2 hWB.1 hWB.2.1 hWB.2.2.1 hvB hrB (by rw [hmB]; exact hjp) t
        have hIC : mInv m (mRows (mSet A 0 0) r (L1.set (s + j) t)) := hIt.rows (by rw [List.length_set]; exact hl1) (fun v hv => by
          rcases set_mem hv with q | q
          · exact (hIB.2.2.1 r hr2).2 v (by rw [mRows_at]; exact q)
          · rw [q]; exact hto)
        change CRepx (-1) _ (mRows (mRows (mSet A 0 0) r L1) r (((mRows (mSet A 0 0) r L1).1 r).set (s + j) t)) at z2
        rw [mRows_at, mRows_mRows] at z2
        generalize hσ2 : cArr σ1 0 (upd (σ1.1 0) (31 * r + (s + j)) (cE t)) = σ2 at z1 z2
        have hvC : mV (mRows (mSet A 0 0) r (L1.set (s + j) t)) p := hv
        have hrC : mRw (mRows (mSet A 0 0) r (L1.set (s + j) t)).2.1 zDp p = some (r, s) := hr
        have hl2 : (L1.set (s + j) t).length = (A.1 r).length := by rw [List.length_set]; exact hl1
        generalize hL2 : L1.set (s + j) t = L2 at z2 hIC hvC hrC hl2
        have ha := List.getElem?_eq_getElem (show s + i < L2.length by omega)
        generalize L2[s + i] = a at ha
        have hc := List.getElem?_eq_getElem (show s + j < L2.length by omega)
        generalize L2[s + j] = c at hc
        have haC : ((mRows (mSet A 0 0) r L2).1 r)[s + i]? = some a := by rw [mRows_at]; exact ha
        have hcC : ((mRows (mSet A 0 0) r L2).1 r)[s + j]? = some c := by rw [mRows_at]; exact hc
        have hao := (hIC.2.2.1 r hr2).2 a (List.mem_of_getElem? haC)
        have hco := (hIC.2.2.1 r hr2).2 c (List.mem_of_getElem? hcC)
        have hWC := hIC.w p
        have k1 := x_keyAt (b := b) (G := H) z2 hWC hvC hrC haC (show a.2.1 < 32 from Nat.lt_succ_of_lt hao.1)
        have k2 := x_keyAt (b := b) (G := H) z2 hWC hvC hrC hcC (show c.2.1 < 32 from Nat.lt_succ_of_lt hco.1)
        have t1 : f_I_thingAt (cPut b σ H) (b + 1) (nI p) (nI i) = rI (cE t) (cPut b σ H) := x_at hX hW hv hr ht
        have t2 : f_I_thingAt (cPut b σ H) (b + 1) (nI p) (nI j) = rI (cE u) (cPut b σ H) := x_at hX hW hv hr hu
        have sw : f_I_swap (cPut b σ H) (b + 1) (nI p) (nI i) (nI j) = rV (cPut b σ2 H) := by
          unfold f_I_swap
          simp only [t1, t2, y1, z1, c_ob_0, c_fa_0_0, c_fa_0_1, c_fi_0_2, c_put_0_2, c_fi_0_3, c_put_0_3, c_fi_0_4, c_put_0_4, c_ob_1, c_fa_1_0, c_fa_1_1, c_fa_1_2, c_fa_1_3, c_fa_1_4, c_fa_1_5, c_fi_1_6, c_put_1_6, c_ob_2, c_fa_2_0, c_ob_4, c_fa_4_0, c_ob_6, c_fa_6_0, c_ob_8, c_fa_8_0, c_ob_10, c_fa_10_0, c_ob_12, c_fa_12_0, c_ob_14, c_fa_14_0, c_fa_14_1, c_fa_14_2, c_fa_14_3, c_fi_14_4, c_put_14_4, c_ob_15, c_fa_15_0, c_ob_17, c_fa_17_0, c_ob_19, c_fa_19_0, c_ob_21, c_fa_21_0, c_len_0, c_ld_0, c_st_0, c_rd_0, c_wr_0, c_len_1, c_ld_1, c_st_1, c_rd_1, c_wr_1, c_len_2, c_ld_2, c_st_2, c_rd_2, c_wr_2, c_len_3, c_ld_3, c_st_3, c_rd_3, c_wr_3, c_len_4, c_ld_4, c_st_4, c_rd_4, c_wr_4, c_len_5, c_ld_5, c_st_5, c_rd_5, c_wr_5, c_len_6, c_ld_6, c_st_6, c_rd_6, c_wr_6, c_len_7, c_ld_7, c_st_7, c_rd_7, c_wr_7, c_len_8, c_ld_8, c_st_8, c_rd_8, c_wr_8, c_len_9, c_ld_9, c_st_9, c_rd_9, c_wr_9, bI_rI, bL_rL, bA_rA, bV_rV, bI_th, bL_th, bA_th, bV_th, rZ_0, rZ_1]
        refine Sim.yes (if a.2.1 = c.2.1 then 1 else 0) σ2 ?_ (fun G D h => ?_)
        · unfold f_X_exchange
          simp only [x_needList hX hW hL, (x_needPlace hX hW.1 hv hl100).1 hi', (x_needPlace hX hW.1 hv hl100).1 hj', sw, k1, k2, c_ob_0, c_fa_0_0, c_fa_0_1, c_fi_0_2, c_put_0_2, c_fi_0_3, c_put_0_3, c_fi_0_4, c_put_0_4, c_ob_1, c_fa_1_0, c_fa_1_1, c_fa_1_2, c_fa_1_3, c_fa_1_4, c_fa_1_5, c_fi_1_6, c_put_1_6, c_ob_2, c_fa_2_0, c_ob_4, c_fa_4_0, c_ob_6, c_fa_6_0, c_ob_8, c_fa_8_0, c_ob_10, c_fa_10_0, c_ob_12, c_fa_12_0, c_ob_14, c_fa_14_0, c_fa_14_1, c_fa_14_2, c_fa_14_3, c_fi_14_4, c_put_14_4, c_ob_15, c_fa_15_0, c_ob_17, c_fa_17_0, c_ob_19, c_fa_19_0, c_ob_21, c_fa_21_0, c_len_0, c_ld_0, c_st_0, c_rd_0, c_wr_0, c_len_1, c_ld_1, c_st_1, c_rd_1, c_wr_1, c_len_2, c_ld_2, c_st_2, c_rd_2, c_wr_2, c_len_3, c_ld_3, c_st_3, c_rd_3, c_wr_3, c_len_4, c_ld_4, c_st_4, c_rd_4, c_wr_4, c_len_5, c_ld_5, c_st_5, c_rd_5, c_wr_5, c_len_6, c_ld_6, c_st_6, c_rd_6, c_wr_6, c_len_7, c_ld_7, c_st_7, c_rd_7, c_wr_7, c_len_8, c_ld_8, c_st_8, c_rd_8, c_wr_8, c_len_9, c_ld_9, c_st_9, c_rd_9, c_wr_9, bI_rI, bL_rL, bA_rA, bV_rV, bI_th, bL_th, bA_th, bV_th, rZ_0, rZ_1]
          by_cases he : a.2.1 = c.2.1
          · rw [if_pos (by rw [he]), if_pos he]
          · rw [if_neg (fun q => he ((nI_eq (by have := hao.1; omega) (by have := hco.1; omega)).mp q)), if_neg he]
        · obtain ⟨G1, r1, h1, s1⟩ := r_list1 h hL
          have ta := s_at h1 hW.1 hv hr hu
          obtain ⟨G2, r2, h2, s2, t2, -⟩ := s_write (i := i) (u := u) h1 hW.1 hv hr ht (s_th h1 hr2 hu)
          have h2' : MS w o G2 (mRows (mSet A 0 0) r L1) D := by rw [← hL1]; exact h2
          have hv1 := List.getElem?_eq_getElem (show s + j < L1.length by omega)
          obtain ⟨G3, r3, h3, s3, -, -⟩ := s_write (i := j) (u := t) h2' hWB.1 hvB hrB (by rw [mRows_at]; exact hv1) t2
          rw [mRows_at, mRows_mRows, hL2] at h3
          refine ⟨_, D, G3, m, ?_, h3, z2, hIC, Nat.le_succ m, rfl, ((s1.trans s2).trans s3).mono (by omega) (by omega)⟩
          unfold f_M_exchange
          rw [r1, gOb_of h1.2.2.1 rfl, (s_noPlace h1 hW.1 hv hl100 _).1 hi', bI_rI, if_pos rfl, gOb_of h1.2.2.1 rfl, (s_noPlace h1 hW.1 hv hl100 _).1 hj', bI_rI, if_pos rfl, r_ref0 h1 rfl, gOb_of h1.2.2.1 rfl, ta, bA_rA, gOb_of h1.2.2.1 rfl, r2, bA_rA, gOb_of h2.2.2.1 rfl, r3, bA_rA, gOb_of h3.2.2.1 rfl, s_at h3 hIC.1 hvC hrC haC, bA_rA, (s_th h3 hr2 haC).key, gOb_of h3.2.2.1 rfl, s_at h3 hIC.1 hvC hrC hcC, bA_rA, (s_th h3 hr2 hcC).key]
          by_cases he : a.2.1 = c.2.1
          · rw [if_pos (by rw [he]), if_pos he, rZ_1]
          · rw [if_neg (fun q => he ((nI_eq (by have := hao.1; omega) (by have := hco.1; omega)).mp q)), if_neg he, rZ_0]
      · refine Sim.no hR hI 1 (by decide) (by decide) ?_ (fun G D h => ?_)
        · unfold f_X_exchange
          simp only [x_needList hX hW hL, (x_needPlace hX hW.1 hv hl100).1 hi', (x_needPlace hX hW.1 hv hl100).2 hj, c_ob_0, c_fa_0_0, c_fa_0_1, c_fi_0_2, c_put_0_2, c_fi_0_3, c_put_0_3, c_fi_0_4, c_put_0_4, c_ob_1, c_fa_1_0, c_fa_1_1, c_fa_1_2, c_fa_1_3, c_fa_1_4, c_fa_1_5, c_fi_1_6, c_put_1_6, c_ob_2, c_fa_2_0, c_ob_4, c_fa_4_0, c_ob_6, c_fa_6_0, c_ob_8, c_fa_8_0, c_ob_10, c_fa_10_0, c_ob_12, c_fa_12_0, c_ob_14, c_fa_14_0, c_fa_14_1, c_fa_14_2, c_fa_14_3, c_fi_14_4, c_put_14_4, c_ob_15, c_fa_15_0, c_ob_17, c_fa_17_0, c_ob_19, c_fa_19_0, c_ob_21, c_fa_21_0, c_len_0, c_ld_0, c_st_0, c_rd_0, c_wr_0, c_len_1, c_ld_1, c_st_1, c_rd_1, c_wr_1, c_len_2, c_ld_2, c_st_2, c_rd_2, c_wr_2, c_len_3, c_ld_3, c_st_3, c_rd_3, c_wr_3, c_len_4, c_ld_4, c_st_4, c_rd_4, c_wr_4, c_len_5, c_ld_5, c_st_5, c_rd_5, c_wr_5, c_len_6, c_ld_6, c_st_6, c_rd_6, c_wr_6, c_len_7, c_ld_7, c_st_7, c_rd_7, c_wr_7, c_len_8, c_ld_8, c_st_8, c_rd_8, c_wr_8, c_len_9, c_ld_9, c_st_9, c_rd_9, c_wr_9, bI_rI, bL_rL, bA_rA, bV_rV, bI_th, bL_th, bA_th, bV_th, rZ_0, rZ_1]
          rfl
        · obtain ⟨G1, r1, h1, s1⟩ := r_list1 h hL
          obtain ⟨G2, r2, h2, s2⟩ := r_no1 (c := 1) h1 (by decide)
          refine ⟨G2, ?_, h2, (s1.trans s2).mono (by omega) (by omega)⟩
          unfold f_M_exchange
          rw [r1, gOb_of h1.2.2.1 rfl, (s_noPlace h1 hW.1 hv hl100 _).1 hi', bI_rI, if_pos rfl, gOb_of h1.2.2.1 rfl, (s_noPlace h1 hW.1 hv hl100 _).2 hj, bI_rI, if_neg (by decide), r2, rZ_0]
    · refine Sim.no hR hI 1 (by decide) (by decide) ?_ (fun G D h => ?_)
      · unfold f_X_exchange
        simp only [x_needList hX hW hL, (x_needPlace hX hW.1 hv hl100).2 hi, c_ob_0, c_fa_0_0, c_fa_0_1, c_fi_0_2, c_put_0_2, c_fi_0_3, c_put_0_3, c_fi_0_4, c_put_0_4, c_ob_1, c_fa_1_0, c_fa_1_1, c_fa_1_2, c_fa_1_3, c_fa_1_4, c_fa_1_5, c_fi_1_6, c_put_1_6, c_ob_2, c_fa_2_0, c_ob_4, c_fa_4_0, c_ob_6, c_fa_6_0, c_ob_8, c_fa_8_0, c_ob_10, c_fa_10_0, c_ob_12, c_fa_12_0, c_ob_14, c_fa_14_0, c_fa_14_1, c_fa_14_2, c_fa_14_3, c_fi_14_4, c_put_14_4, c_ob_15, c_fa_15_0, c_ob_17, c_fa_17_0, c_ob_19, c_fa_19_0, c_ob_21, c_fa_21_0, c_len_0, c_ld_0, c_st_0, c_rd_0, c_wr_0, c_len_1, c_ld_1, c_st_1, c_rd_1, c_wr_1, c_len_2, c_ld_2, c_st_2, c_rd_2, c_wr_2, c_len_3, c_ld_3, c_st_3, c_rd_3, c_wr_3, c_len_4, c_ld_4, c_st_4, c_rd_4, c_wr_4, c_len_5, c_ld_5, c_st_5, c_rd_5, c_wr_5, c_len_6, c_ld_6, c_st_6, c_rd_6, c_wr_6, c_len_7, c_ld_7, c_st_7, c_rd_7, c_wr_7, c_len_8, c_ld_8, c_st_8, c_rd_8, c_wr_8, c_len_9, c_ld_9, c_st_9, c_rd_9, c_wr_9, bI_rI, bL_rL, bA_rA, bV_rV, bI_th, bL_th, bA_th, bV_th, rZ_0, rZ_1]
        rfl
      · obtain ⟨G1, r1, h1, s1⟩ := r_list1 h hL
        obtain ⟨G2, r2, h2, s2⟩ := r_no1 (c := 1) h1 (by decide)
        refine ⟨G2, ?_, h2, (s1.trans s2).mono (by omega) (by omega)⟩
        unfold f_M_exchange
        rw [r1, gOb_of h1.2.2.1 rfl, (s_noPlace h1 hW.1 hv hl100 _).2 hi, bI_rI, if_neg (by decide), r2, rZ_0]
  · refine Sim.no hR hI 1 (by decide) (by decide) ?_ (fun G D h => ?_)
    · unfold f_X_exchange
      simp only [x_needList_no hX (hI.w 0) hx, c_ob_0, c_fa_0_0, c_fa_0_1, c_fi_0_2, c_put_0_2, c_fi_0_3, c_put_0_3, c_fi_0_4, c_put_0_4, c_ob_1, c_fa_1_0, c_fa_1_1, c_fa_1_2, c_fa_1_3, c_fa_1_4, c_fa_1_5, c_fi_1_6, c_put_1_6, c_ob_2, c_fa_2_0, c_ob_4, c_fa_4_0, c_ob_6, c_fa_6_0, c_ob_8, c_fa_8_0, c_ob_10, c_fa_10_0, c_ob_12, c_fa_12_0, c_ob_14, c_fa_14_0, c_fa_14_1, c_fa_14_2, c_fa_14_3, c_fi_14_4, c_put_14_4, c_ob_15, c_fa_15_0, c_ob_17, c_fa_17_0, c_ob_19, c_fa_19_0, c_ob_21, c_fa_21_0, c_len_0, c_ld_0, c_st_0, c_rd_0, c_wr_0, c_len_1, c_ld_1, c_st_1, c_rd_1, c_wr_1, c_len_2, c_ld_2, c_st_2, c_rd_2, c_wr_2, c_len_3, c_ld_3, c_st_3, c_rd_3, c_wr_3, c_len_4, c_ld_4, c_st_4, c_rd_4, c_wr_4, c_len_5, c_ld_5, c_st_5, c_rd_5, c_wr_5, c_len_6, c_ld_6, c_st_6, c_rd_6, c_wr_6, c_len_7, c_ld_7, c_st_7, c_rd_7, c_wr_7, c_len_8, c_ld_8, c_st_8, c_rd_8, c_wr_8, c_len_9, c_ld_9, c_st_9, c_rd_9, c_wr_9, bI_rI, bL_rL, bA_rA, bV_rV, bI_th, bL_th, bA_th, bV_th, rZ_0, rZ_1]
      rfl
    · obtain ⟨G1, r1, h1, s1⟩ := r_list0 h hx
      refine ⟨G1, ?_, h1, s1⟩
      unfold f_M_exchange
      rw [r1, rZ_0]
end Exc
section Rep
variable {w : Nat → Nat} {b o m : Nat} {A : mS} {σ : cS} {H : gH}
theorem mLen_spl {A : mS} {r p : Nat} {ts : List (Nat × Nat × Nat)} (hl : ts.length = (A.1 r).length) : mLen (mRows A r ts) p = mLen A p := by
  rw [mLen_rows]
  by_cases h : p = r ∧ p < 2
  · rw [if_pos h, hl, mLen_row h.2, h.1]
  · rw [if_neg h]
theorem rep_tok {m t1 m1 : Nat} {L new : List (Nat × Nat × Nat)} (h : new.map Prod.snd = L.map (mKey2 t1 m1)) (hL : ∀ t, t ∈ L → mTok m t) : new.length = L.length ∧ ∀ t, t ∈ new → mTok m t := by
  refine ⟨?_, fun t ht => ?_⟩
  · have e := congrArg List.length h
    rwa [List.length_map, List.length_map] at e
  · have e : t.2 ∈ new.map Prod.snd := List.mem_map.mpr ⟨t, ht, rfl⟩
    rw [h] at e
    obtain ⟨u, hu, e1⟩ := List.mem_map.mp e
    unfold mTok
    rw [← e1]
    exact ⟨Nat.mod_lt _ (by omega), (hL u hu).2⟩
theorem sSpl_snd {L ts us : List (Nat × Nat × Nat)} {s : Nat} (h : ts.map Prod.snd = us.map Prod.snd) : (sSpl L s ts).map Prod.snd = (sSpl L s us).map Prod.snd := by
  have e := congrArg List.length h
  rw [List.length_map, List.length_map] at e
  unfold sSpl
  rw [List.map_append, List.map_append, List.map_append, List.map_append, h, e]
theorem sim_replaceAll (hR : CRep σ A) (hI : mInv m A) (x y z : Int32) : SimOp w b o A m σ H xIG (f_X_replaceAll (cPut b σ H) b x y z) (fun G => f_M_replaceAll G o x y z) := by
  have hX := CRepx.of (exc := -1) hR
  by_cases hx : mIsL A x
  · have hL := hx
    obtain ⟨p, hp, rfl, hv⟩ := hx
    have hv : mV A p := hv
    obtain ⟨r, s, hr, hr2, hfit, h31, hp6, hro⟩ := hI.pl hv
    have hW := hI.w p
    have hIt : mInv m (mSet A 0 0) := hI.thr 0
    have hsl : (sSeg A r s (mLen A p)).length = mLen A p := sSeg_len hfit
    by_cases hy : mIsP 31 y
    · have hy' := hy
      obtain ⟨t1, ht1, rfl⟩ := hy
      have hy2 := (nI_plc (L := 31) (by omega)).mp hy'
      by_cases hz : mIsP 31 z
      · have hz' := hz
        obtain ⟨m1, hm1, rfl⟩ := hz
        have hz2 := (nI_plc (L := 31) (by omega)).mp hz'
        have hn0 : ((sSeg A r s (mLen A p)).map (fun t => ((0, mKey2 t1 m1 t) : Nat × Nat × Nat))).map Prod.snd = (sSeg A r s (mLen A p)).map (mKey2 t1 m1) := by
          rw [List.map_map]; rfl
        generalize hnew : (sSeg A r s (mLen A p)).map (fun t => ((0, mKey2 t1 m1 t) : Nat × Nat × Nat)) = new at hn0
        have hsg : ∀ t, t ∈ sSeg A r s (mLen A p) → mTok m t := fun t ht => (hI.2.2.1 r hr2).2 t (sSeg_mem ht)
        -- a row of new things keeps what holds
        have hN : ∀ ts : List (Nat × Nat × Nat), ts.map Prod.snd = (sSeg A r s (mLen A p)).map (mKey2 t1 m1) → mInv m (mRows (mSet A 0 0) r (sSpl (A.1 r) s ts)) ∧ mLen (mRows (mSet A 0 0) r (sSpl (A.1 r) s ts)) p = mLen A p := fun ts hts => by
          obtain ⟨e1, e2⟩ := rep_tok hts hsg
          have e3 : (sSpl (A.1 r) s ts).length = (A.1 r).length := sSpl_len (by rw [e1, hsl]; exact hfit)
          refine ⟨hIt.rows e3 (fun t ht => ?_), mLen_spl (A := mSet A 0 0) e3⟩
          rcases sSpl_mem ht with q | q
          · exact (hI.2.2.1 r hr2).2 t q
          · exact e2 t q
        obtain ⟨σ1, y1, y2⟩ := x_replace (b := b) (G := H) (K := fun G36 x33 x34 x35 => gOb G36 x33 3 fun o38 => bI (f_X_endAround G36 x33 x34) fun v41 G40 => rI x35 G40) hX hW hv hr (hI.2.2.1 r hr2).2 hI.2.2.2.2.2 ht1 hm1 hn0
        have y2' : CRepx (-1) σ1 (mRows (mSet A 0 0) r (sSpl (A.1 r) s new)) := y2.thr 0
        have hvB : ∀ ts, mV (mRows (mSet A 0 0) r ts) p := fun _ => hv
        have hrB : ∀ ts, mRw (mRows (mSet A 0 0) r ts).2.1 zDp p = some (r, s) := fun _ => hr
        obtain ⟨⟨σ', z1, z2⟩, -, z5, -⟩ := x_ard (b := b) (H := H) y2' (hN new hn0).1 (hvB _) (hrB _)
        refine Sim.yes (nI (mLen A p)) σ' ?_ (fun G D h => ?_)
        · unfold f_X_replaceAll
          simp only [x_needList hX hW hL, x_len hX hW.1 hv, c_ob_0, c_fa_0_0, c_fa_0_1, c_fi_0_2, c_put_0_2, c_fi_0_3, c_put_0_3, c_fi_0_4, c_put_0_4, c_ob_1, c_fa_1_0, c_fa_1_1, c_fa_1_2, c_fa_1_3, c_fa_1_4, c_fa_1_5, c_fi_1_6, c_put_1_6, c_ob_2, c_fa_2_0, c_ob_4, c_fa_4_0, c_ob_6, c_fa_6_0, c_ob_8, c_fa_8_0, c_ob_10, c_fa_10_0, c_ob_12, c_fa_12_0, c_ob_14, c_fa_14_0, c_fa_14_1, c_fa_14_2, c_fa_14_3, c_fi_14_4, c_put_14_4, c_ob_15, c_fa_15_0, c_ob_17, c_fa_17_0, c_ob_19, c_fa_19_0, c_ob_21, c_fa_21_0, c_len_0, c_ld_0, c_st_0, c_rd_0, c_wr_0, c_len_1, c_ld_1, c_st_1, c_rd_1, c_wr_1, c_len_2, c_ld_2, c_st_2, c_rd_2, c_wr_2, c_len_3, c_ld_3, c_st_3, c_rd_3, c_wr_3, c_len_4, c_ld_4, c_st_4, c_rd_4, c_wr_4, c_len_5, c_ld_5, c_st_5, c_rd_5, c_wr_5, c_len_6, c_ld_6, c_st_6, c_rd_6, c_wr_6, c_len_7, c_ld_7, c_st_7, c_rd_7, c_wr_7, c_len_8, c_ld_8, c_st_8, c_rd_8, c_wr_8, c_len_9, c_ld_9, c_st_9, c_rd_9, c_wr_9, bI_rI, bL_rL, bA_rA, bV_rV, bI_th, bL_th, bA_th, bV_th, rZ_0, rZ_1]
          rw [if_neg hy2.1, if_pos hy2.2, if_neg hz2.1, if_pos hz2.2, y1]
          simp only [z1, c_ob_0, c_fa_0_0, c_fa_0_1, c_fi_0_2, c_put_0_2, c_fi_0_3, c_put_0_3, c_fi_0_4, c_put_0_4, c_ob_1, c_fa_1_0, c_fa_1_1, c_fa_1_2, c_fa_1_3, c_fa_1_4, c_fa_1_5, c_fi_1_6, c_put_1_6, c_ob_2, c_fa_2_0, c_ob_4, c_fa_4_0, c_ob_6, c_fa_6_0, c_ob_8, c_fa_8_0, c_ob_10, c_fa_10_0, c_ob_12, c_fa_12_0, c_ob_14, c_fa_14_0, c_fa_14_1, c_fa_14_2, c_fa_14_3, c_fi_14_4, c_put_14_4, c_ob_15, c_fa_15_0, c_ob_17, c_fa_17_0, c_ob_19, c_fa_19_0, c_ob_21, c_fa_21_0, c_len_0, c_ld_0, c_st_0, c_rd_0, c_wr_0, c_len_1, c_ld_1, c_st_1, c_rd_1, c_wr_1, c_len_2, c_ld_2, c_st_2, c_rd_2, c_wr_2, c_len_3, c_ld_3, c_st_3, c_rd_3, c_wr_3, c_len_4, c_ld_4, c_st_4, c_rd_4, c_wr_4, c_len_5, c_ld_5, c_st_5, c_rd_5, c_wr_5, c_len_6, c_ld_6, c_st_6, c_rd_6, c_wr_6, c_len_7, c_ld_7, c_st_7, c_rd_7, c_wr_7, c_len_8, c_ld_8, c_st_8, c_rd_8, c_wr_8, c_len_9, c_ld_9, c_st_9, c_rd_9, c_wr_9, bI_rI, bL_rL, bA_rA, bV_rV, bI_th, bL_th, bA_th, bV_th, rZ_0, rZ_1]
        · obtain ⟨G1, r1, h1, s1⟩ := r_list1 h hL
          obtain ⟨G2, new', b1, b2, b3, b4⟩ := m_repL (K := fun G56 x54 x55 => gOb G56 x54 6 fun o58 => bI (f_M_rowOf zDp G56 x54 x55) fun v61 G60 => gOb G60 x54 6 fun o63 => bI (f_M_endParts G60 x54 v61 x55) fun v66 G65 => gOb G65 x54 6 fun o68 => bI (f_M_rowOf zDp G65 x54 x55) fun v71 G70 => gOb G70 x54 6 fun o73 => bV (f_M_endCursors G70 x54 v71) fun G75 => gOb G75 x54 6 fun o77 => bI (f_M_length G75 x54 x55) fun v80 G79 => rI v80 G79) (A := mSet A 0 0) (t1 := t1) (m1 := m1) hW.1 hv hr hfit h31 (hI.2.2.1 r hr2).2 hI.2.2.2.2.2 ht1 hm1 (mLen A p) zFu G1 [] (by show 0 + mLen A p = mLen A p; omega) (by unfold zFu; omega) (by
            show MS w o G1 (mRows (mSet A 0 0) r (sSpl (A.1 r) s [])) D
            rw [sSpl_0, show mRows (mSet A 0 0) r (A.1 r) = mSet A 0 0 from mRows_self (A := mSet A 0 0)]
            exact h1) (by simp)
          have b3' : new'.map Prod.snd = (sSeg A r s (mLen A p)).map (mKey2 t1 m1) := b3
          have b2' : MS w o G2 (mRows (mSet A 0 0) r (sSpl (A.1 r) s new')) D := b2
          obtain ⟨hIB, hlB⟩ := hN new' b3'
          have y3 : CRepx (-1) σ1 (mRows (mSet A 0 0) r (sSpl (A.1 r) s new')) := y2'.rowsC (sSpl_snd (hn0.trans b3'.symm))
          obtain ⟨-, c1, c2, c3, c4, c5, -⟩ := x_ard (b := b) (H := H) y3 hIB (hvB _) (hrB _)
          obtain ⟨G3, G4, D3, D4, r5, h5, r6, r7, h7, s7⟩ := s_ard b2' hIB (hvB _) (hrB _)
          refine ⟨_, D4, G4, m, ?_, h7, CRepx.cong (exc := -1) z2 (fun i _ => ?_) ((show qRel (mRows (mSet A 0 0) r (sSpl (A.1 r) s new)) (mRows (mSet A 0 0) r (sSpl (A.1 r) s new')) from rfl).around r p), c1, Nat.le_succ m, c3, ((s1.trans b4).trans s7).mono (by omega) (by omega)⟩
          · unfold f_M_replaceAll
            rw [r1, gOb_of h1.2.2.1 rfl, (s_noKey G1 o _).1 hy', bI_rI, if_pos rfl, gOb_of h1.2.2.1 rfl, (s_noKey G1 o _).1 hz', bI_rI, if_pos rfl, r_ref0 h1 rfl]
            rw [show f_M_replaceAll_L47 _ zFu G1 o (nI p) (nI t1) (nI m1) (nI 0) = _ from b1, gOb_of b2'.2.2.1 rfl, s_rowOf b2' hIB.1 (hvB _) (hrB _), bI_rI, gOb_of b2'.2.2.1 rfl, r5, bI_rI, gOb_of h5.2.2.1 rfl, r6, bI_rI, gOb_of h5.2.2.1 rfl, r7, bV_rV, gOb_of h7.2.2.1 rfl, s_len h7 c1.1 c4, bI_rI, c5, hlB]
          · rw [z5, c2]
            show (if i = r then _ else A.1 i).map Prod.snd = (if i = r then _ else A.1 i).map Prod.snd
            split
            · exact sSpl_snd (hn0.trans b3'.symm)
            · rfl
      · refine Sim.no hR hI 2 (by decide) (by decide) ?_ (fun G D h => ?_)
        · unfold f_X_replaceAll
          simp only [x_needList hX hW hL, c_ob_0, c_fa_0_0, c_fa_0_1, c_fi_0_2, c_put_0_2, c_fi_0_3, c_put_0_3, c_fi_0_4, c_put_0_4, c_ob_1, c_fa_1_0, c_fa_1_1, c_fa_1_2, c_fa_1_3, c_fa_1_4, c_fa_1_5, c_fi_1_6, c_put_1_6, c_ob_2, c_fa_2_0, c_ob_4, c_fa_4_0, c_ob_6, c_fa_6_0, c_ob_8, c_fa_8_0, c_ob_10, c_fa_10_0, c_ob_12, c_fa_12_0, c_ob_14, c_fa_14_0, c_fa_14_1, c_fa_14_2, c_fa_14_3, c_fi_14_4, c_put_14_4, c_ob_15, c_fa_15_0, c_ob_17, c_fa_17_0, c_ob_19, c_fa_19_0, c_ob_21, c_fa_21_0, c_len_0, c_ld_0, c_st_0, c_rd_0, c_wr_0, c_len_1, c_ld_1, c_st_1, c_rd_1, c_wr_1, c_len_2, c_ld_2, c_st_2, c_rd_2, c_wr_2, c_len_3, c_ld_3, c_st_3, c_rd_3, c_wr_3, c_len_4, c_ld_4, c_st_4, c_rd_4, c_wr_4, c_len_5, c_ld_5, c_st_5, c_rd_5, c_wr_5, c_len_6, c_ld_6, c_st_6, c_rd_6, c_wr_6, c_len_7, c_ld_7, c_st_7, c_rd_7, c_wr_7, c_len_8, c_ld_8, c_st_8, c_rd_8, c_wr_8, c_len_9, c_ld_9, c_st_9, c_rd_9, c_wr_9, bI_rI, bL_rL, bA_rA, bV_rV, bI_th, bL_th, bA_th, bV_th, rZ_0, rZ_1]
          rw [if_neg hy2.1, if_pos hy2.2]
          by_cases h0 : z < 0
          · rw [if_pos h0]; rfl
          · rw [if_neg h0, if_neg (fun q => hz ((nI_plc (L := 31) (by omega)).mpr ⟨h0, q⟩))]; rfl
        · obtain ⟨G1, r1, h1, s1⟩ := r_list1 h hL
          obtain ⟨G2, r2, h2, s2⟩ := r_no1 (c := 2) h1 (by decide)
          refine ⟨G2, ?_, h2, (s1.trans s2).mono (by omega) (by omega)⟩
          unfold f_M_replaceAll
          rw [r1, gOb_of h1.2.2.1 rfl, (s_noKey G1 o _).1 hy', bI_rI, if_pos rfl, gOb_of h1.2.2.1 rfl, (s_noKey G1 o _).2 hz, bI_rI, if_neg (by decide), r2]
          rfl
    · refine Sim.no hR hI 2 (by decide) (by decide) ?_ (fun G D h => ?_)
      · unfold f_X_replaceAll
        simp only [x_needList hX hW hL, c_ob_0, c_fa_0_0, c_fa_0_1, c_fi_0_2, c_put_0_2, c_fi_0_3, c_put_0_3, c_fi_0_4, c_put_0_4, c_ob_1, c_fa_1_0, c_fa_1_1, c_fa_1_2, c_fa_1_3, c_fa_1_4, c_fa_1_5, c_fi_1_6, c_put_1_6, c_ob_2, c_fa_2_0, c_ob_4, c_fa_4_0, c_ob_6, c_fa_6_0, c_ob_8, c_fa_8_0, c_ob_10, c_fa_10_0, c_ob_12, c_fa_12_0, c_ob_14, c_fa_14_0, c_fa_14_1, c_fa_14_2, c_fa_14_3, c_fi_14_4, c_put_14_4, c_ob_15, c_fa_15_0, c_ob_17, c_fa_17_0, c_ob_19, c_fa_19_0, c_ob_21, c_fa_21_0, c_len_0, c_ld_0, c_st_0, c_rd_0, c_wr_0, c_len_1, c_ld_1, c_st_1, c_rd_1, c_wr_1, c_len_2, c_ld_2, c_st_2, c_rd_2, c_wr_2, c_len_3, c_ld_3, c_st_3, c_rd_3, c_wr_3, c_len_4, c_ld_4, c_st_4, c_rd_4, c_wr_4, c_len_5, c_ld_5, c_st_5, c_rd_5, c_wr_5, c_len_6, c_ld_6, c_st_6, c_rd_6, c_wr_6, c_len_7, c_ld_7, c_st_7, c_rd_7, c_wr_7, c_len_8, c_ld_8, c_st_8, c_rd_8, c_wr_8, c_len_9, c_ld_9, c_st_9, c_rd_9, c_wr_9, bI_rI, bL_rL, bA_rA, bV_rV, bI_th, bL_th, bA_th, bV_th, rZ_0, rZ_1]
        by_cases h0 : y < 0
        · rw [if_pos h0]; rfl
        · rw [if_neg h0, if_neg (fun q => hy ((nI_plc (L := 31) (by omega)).mpr ⟨h0, q⟩))]; rfl
      · obtain ⟨G1, r1, h1, s1⟩ := r_list1 h hL
        obtain ⟨G2, r2, h2, s2⟩ := r_no1 (c := 2) h1 (by decide)
        refine ⟨G2, ?_, h2, (s1.trans s2).mono (by omega) (by omega)⟩
        unfold f_M_replaceAll
        rw [r1, gOb_of h1.2.2.1 rfl, (s_noKey G1 o _).2 hy, bI_rI, if_neg (by decide), r2]
        rfl
  · refine Sim.no hR hI 1 (by decide) (by decide) ?_ (fun G D h => ?_)
    · unfold f_X_replaceAll
      simp only [x_needList_no hX (hI.w 0) hx, c_ob_0, c_fa_0_0, c_fa_0_1, c_fi_0_2, c_put_0_2, c_fi_0_3, c_put_0_3, c_fi_0_4, c_put_0_4, c_ob_1, c_fa_1_0, c_fa_1_1, c_fa_1_2, c_fa_1_3, c_fa_1_4, c_fa_1_5, c_fi_1_6, c_put_1_6, c_ob_2, c_fa_2_0, c_ob_4, c_fa_4_0, c_ob_6, c_fa_6_0, c_ob_8, c_fa_8_0, c_ob_10, c_fa_10_0, c_ob_12, c_fa_12_0, c_ob_14, c_fa_14_0, c_fa_14_1, c_fa_14_2, c_fa_14_3, c_fi_14_4, c_put_14_4, c_ob_15, c_fa_15_0, c_ob_17, c_fa_17_0, c_ob_19, c_fa_19_0, c_ob_21, c_fa_21_0, c_len_0, c_ld_0, c_st_0, c_rd_0, c_wr_0, c_len_1, c_ld_1, c_st_1, c_rd_1, c_wr_1, c_len_2, c_ld_2, c_st_2, c_rd_2, c_wr_2, c_len_3, c_ld_3, c_st_3, c_rd_3, c_wr_3, c_len_4, c_ld_4, c_st_4, c_rd_4, c_wr_4, c_len_5, c_ld_5, c_st_5, c_rd_5, c_wr_5, c_len_6, c_ld_6, c_st_6, c_rd_6, c_wr_6, c_len_7, c_ld_7, c_st_7, c_rd_7, c_wr_7, c_len_8, c_ld_8, c_st_8, c_rd_8, c_wr_8, c_len_9, c_ld_9, c_st_9, c_rd_9, c_wr_9, bI_rI, bL_rL, bA_rA, bV_rV, bI_th, bL_th, bA_th, bV_th, rZ_0, rZ_1]
      rfl
    · obtain ⟨G1, r1, h1, s1⟩ := r_list0 h hx
      refine ⟨G1, ?_, h1, s1⟩
      unfold f_M_replaceAll
      rw [r1]
      rfl
end Rep
section Asg
variable {w : Nat → Nat} {b o m : Nat} {A : mS} {σ : cS} {H : gH}
/-- after all around a row has ended, the row may become any other one -/
theorem mInv.asg {r n : Nat} {A' : mS} {ts : List (Nat × Nat × Nat)} (hI : mInv m A) (hr : r < 2) (hd : mArd A A' r r n) (hok : mOk A'.2.1) (hl : ts.length ≤ 31) (ht : ∀ t, t ∈ ts → mTok m t) : mInv m (mRows A' r ts) := by
  have hI' := hI.ard hd hok
  obtain ⟨a1, a2, a3, a4, a5, a6⟩ := hI'
  obtain ⟨d1, d2, d3, d4, d5, -⟩ := hd
  -- no part of a list of this row is left
  have hp : ∀ q x, A'.2.1 q = some x → x.1 ≠ r := by
    intro q x hq he
    cases hx : A.2.1 q with
    | none => rw [d2 q hx] at hq; cases hq
    | some y =>
      have e := d3 q y hx
      have h2 : 2 ≤ q := (hI.1.1 q y hx).1
      by_cases hc : mRo A.2.1 q = r ∧ mAb A.2.1 zDp q r = false
      · rw [if_pos hc] at e; rw [e] at hq; cases hq
      · rw [if_neg hc, hq] at e
        cases e
        refine hc ⟨?_, ?_⟩
        · exact mRo_of (mRw_of hI.1 hx (r := r) (b := 0) (by rw [he]; exact mRw_r hr))
        · show mAb A.2.1 (7 + 1) q r = false
          rw [mAb_s, if_neg (by omega), if_pos hr]
  have hc : ∀ c x, A'.2.2.1 c = some x → x.1 ≠ r := by
    intro c x hq he
    cases hx : A.2.2.1 c with
    | none => rw [d4 c hx] at hq; cases hq
    | some y =>
      have e := d5 c y hx
      by_cases hc : mRo A.2.1 y.1 = r
      · rw [if_pos hc] at e; rw [e] at hq; cases hq
      · rw [if_neg hc, hq] at e
        cases e
        exact hc (by rw [he]; exact mRo_of (mRw_r hr))
  have hlen : ∀ q, q ≠ r → mLen (mRows A' r ts) q = mLen A' q := fun q hq => by
    rw [mLen_rows, if_neg (fun z => hq z.1)]
  refine ⟨a1, fun q x hq => ?_, fun r' hr' => ?_, fun c x hx => ?_, a5, a6⟩
  · rw [hlen _ (hp q x hq)]; exact a2 q x hq
  · show (if r' = r then ts else A'.1 r').length ≤ 31 ∧ ∀ t, t ∈ (if r' = r then ts else A'.1 r') → mTok m t
    split
    · exact ⟨hl, ht⟩
    · exact a3 r' hr'
  · obtain ⟨z1, z2, z3, z4⟩ := a4 c x hx
    refine ⟨z1, z2, z3, ?_⟩
    rw [hlen _ (hc c x hx)]
    exact z4
theorem sim_assign (hR : CRep σ A) (hI : mInv m A) (x y : Int32) : SimOp w b o A m σ H xI1 (f_X_assign (cPut b σ H) b x y) (fun G => f_M_assign w G o x y) := by
  have hX := CRepx.of (exc := -1) hR
  have inR : ∀ G : gH, (mIsP 2 x → f_M_isIn G x (nI 0) (nI 1) = rI 1 G) ∧ (¬ mIsP 2 x → f_M_isIn G x (nI 0) (nI 1) = rI 0 G) := fun G =>
    ⟨fun ⟨i, hi, e⟩ => (s_isIn G 1 (by omega) _).1 ⟨i, by omega, e⟩, fun q => (s_isIn G 1 (by omega) _).2 (fun ⟨i, hi, e⟩ => q ⟨i, by omega, e⟩)⟩
  by_cases hx : mIsP 2 x
  · have hx' := hx
    obtain ⟨r1, hr1, rfl⟩ := hx
    by_cases hy : mIsL A y
    · have hL := hy
      obtain ⟨p, hp, rfl, hv⟩ := hy
      have hv : mV A p := hv
      obtain ⟨r, s, hr, hr2, hfit, h31, hp6, hro⟩ := hI.pl hv
      have hW := hI.w p
      have hIt : mInv m (mSet A 0 0) := hI.thr 0
      have hsl : (sSeg A r s (mLen A p)).length = mLen A p := sSeg_len hfit
      have hvr : mV A r1 := Or.inl hr1
      obtain ⟨σ1, y1, y2⟩ := x_copyToRow (b := b) (G := H) hX hW hv hr hr1
      have y2' : CRepx (-1) σ1 (mRows (mSet A 0 0) r1 (sSeg A r s (mLen A p))) := y2.thr 0
      have hcv : ∀ c x, A.2.2.1 c = some x → c < 3 ∧ mV A x.1 := fun c x hx => ⟨(hI.2.2.2.1 c x hx).1, (hI.2.2.2.1 c x hx).2.2.1⟩
      obtain ⟨hd, hok⟩ := mArd.of (A := mRows (mSet A 0 0) r1 (sSeg A r s (mLen A p))) (r := r1) (p := r1) hI.1 hvr hcv
      obtain ⟨hd2, hok2⟩ := mArd.of (A := mSet A 0 0) (r := r1) (p := r1) hI.1 hvr hcv
      obtain ⟨σ', z1, z2⟩ := x_endAround (b := b) (G := H) y2' hI.1 hI.l100 (fun c x hx => ⟨(hI.2.2.2.1 c x hx).2.1, (hI.2.2.2.1 c x hx).2.2.1⟩) hvr (mRw_r hr1) hd
      have hIC : mInv m (mRows (mAround (mSet A 0 0) r1 r1) r1 (sSeg A r s (mLen A p))) := hIt.asg hr1 hd2 hok2 (by rw [hsl]; omega) (fun t ht => (hI.2.2.1 r hr2).2 t (sSeg_mem ht))
      refine Sim.yes (nI (mLen A r1)) σ' ?_ (fun G D h => ?_)
      · unfold f_X_assign
        simp only [x_needRow.1 hx', x_needList hX hW hL, x_len hX hW.1 hvr, y1, z1, c_ob_0, c_fa_0_0, c_fa_0_1, c_fi_0_2, c_put_0_2, c_fi_0_3, c_put_0_3, c_fi_0_4, c_put_0_4, c_ob_1, c_fa_1_0, c_fa_1_1, c_fa_1_2, c_fa_1_3, c_fa_1_4, c_fa_1_5, c_fi_1_6, c_put_1_6, c_ob_2, c_fa_2_0, c_ob_4, c_fa_4_0, c_ob_6, c_fa_6_0, c_ob_8, c_fa_8_0, c_ob_10, c_fa_10_0, c_ob_12, c_fa_12_0, c_ob_14, c_fa_14_0, c_fa_14_1, c_fa_14_2, c_fa_14_3, c_fi_14_4, c_put_14_4, c_ob_15, c_fa_15_0, c_ob_17, c_fa_17_0, c_ob_19, c_fa_19_0, c_ob_21, c_fa_21_0, c_len_0, c_ld_0, c_st_0, c_rd_0, c_wr_0, c_len_1, c_ld_1, c_st_1, c_rd_1, c_wr_1, c_len_2, c_ld_2, c_st_2, c_rd_2, c_wr_2, c_len_3, c_ld_3, c_st_3, c_rd_3, c_wr_3, c_len_4, c_ld_4, c_st_4, c_rd_4, c_wr_4, c_len_5, c_ld_5, c_st_5, c_rd_5, c_wr_5, c_len_6, c_ld_6, c_st_6, c_rd_6, c_wr_6, c_len_7, c_ld_7, c_st_7, c_rd_7, c_wr_7, c_len_8, c_ld_8, c_st_8, c_rd_8, c_wr_8, c_len_9, c_ld_9, c_st_9, c_rd_9, c_wr_9, bI_rI, bL_rL, bA_rA, bV_rV, bI_th, bL_th, bA_th, bV_th, rZ_0, rZ_1]
      · obtain ⟨G1, r1', h1, s1⟩ := s_go h
        obtain ⟨G2, e, cap, a1, a2, a3, a4, a5, a6, a7⟩ := s_copy h1 hW.1 hv hr hfit h31
        have hap : mAp w D G1.2.1 e := mAp.fresh (G' := G2) h1 rfl a4
        have hts := (h1.ts (s := s) (n := mLen A p) hr2 (hI.2.2.1 r hr2).2 hI.2.2.2.2.2).st h1.1 a7
        obtain ⟨G3, G4, F3, F4, r5, h5, s5, r6, h6, s6, -⟩ := s_around a6 hI.1 hvr hr1 hcv
        have a2' := s6.loc h5.1 (s5.loc a6.1 a2)
        have hts' := (hts.st a6.1 s5.st).st h5.1 s6.st
        obtain ⟨om, oκ, ocap, of, o1, o2, o3, o4, -⟩ := h1.2.2.2.1
        have lo := h1.1 _ _ o1
        have le := h1.1 _ _ o2
        have hne2 : e ≠ D.1.2.1 := by
          rcases a4 with k | k
          · omega
          · intro q
            obtain ⟨f0, hf0⟩ := h1.2.1
            rw [← q, k, hf0] at o2
            have e1 := zQ_inj o2
            have l2 : ([D.2.1 0, D.2.1 1] : List Nat).length = 2 := rfl
            rw [l2] at o4
            omega
        obtain ⟨G5, b1, b2, b3⟩ := MRep.asg h6.1 h6.2.1 h6.2.2 hr1 a2' hap (show G1.2.1 ≠ D.1.1 by omega) hne2 (fun t ht => (hts' t ht).1) (by show (sSeg A r s (mLen A p)).length ≤ 31; rw [hsl]; omega)
        have h7 := h6.step b3 b2
        have hge := (h1.2.2.2.1)
        obtain ⟨pm, pκ, pcap, pf, p1, -⟩ := h6.2.2.2.1
        have gt : f_AL_get G1 D.1.1 (nI r1) = rA (D.2.1 r1) G1 := al_get (x := D.2.1 r1) h1.2.2.2.1 (by rcases (by omega : r1 = 0 ∨ r1 = 1) with rfl | rfl <;> rfl)
        obtain ⟨qm, qκ, qcap, qf, q1, -⟩ := h1.2.2.2.2.1 r1 hr1
        have ca : ∀ k : gR, gCaO G1 (D.2.1 r1) 9 k = k := fun k => by unfold gCaO; rw [gOb_of q1 rfl]
        have sz : f_AL_size G1 (D.2.1 r1) = rI (nI (mLen A r1)) G1 := by
          rw [al_size (h1.2.2.2.2.1 r1 hr1), List.length_map, mLen_row hr1]; rfl
        refine ⟨_, _, G5, m, ?_, h7, CRepx.cong (exc := -1) z2 (fun i _ => ?_) ((show qRel (mRows (mSet A 0 0) r1 (sSeg A r s (mLen A p))) (mSet A 0 0) from rfl).around r1 r1), hIC, Nat.le_succ m, hd2.2.2.2.2.2.1 0 (by omega) (by omega), ((((s1.trans a7).trans s5.st).trans s6.st).trans b3).mono (by omega) (by omega)⟩
        · unfold f_M_assign
          rw [(inR G).1 hx', bI_rI, if_neg (by decide), gOb_of h.2.2.1 rfl, (s_noList h _).1 hL, bI_rI, if_pos rfl, gOb_of h.2.2.1 rfl, r1', bI_rI, if_pos rfl, gFA_of h1.2.2.1 rfl rfl, gOb_of o1 rfl, gt, bA_rA, ca, gOb_of q1 rfl, sz, bI_rI, gOb_of h1.2.2.1 rfl, a1, bA_rA, gOb_of a6.2.2.1 rfl, r5, bI_rI, gOb_of h5.2.2.1 rfl, r6, bV_rV, gFA_of h6.2.2.1 rfl rfl, gOb_of p1 rfl, b1, bA_rA]
        · rw [hd.1]
          show (if i = r1 then _ else A.1 i).map Prod.snd = (if i = r1 then _ else (mAround (mSet A 0 0) r1 r1).1 i).map Prod.snd
          rw [hd2.1]
          rfl
    · refine Sim.no hR hI 1 (by decide) (by decide) ?_ (fun G D h => ?_)
      · unfold f_X_assign
        simp only [x_needRow.1 hx', x_needList_no hX (hI.w 0) hy, c_ob_0, c_fa_0_0, c_fa_0_1, c_fi_0_2, c_put_0_2, c_fi_0_3, c_put_0_3, c_fi_0_4, c_put_0_4, c_ob_1, c_fa_1_0, c_fa_1_1, c_fa_1_2, c_fa_1_3, c_fa_1_4, c_fa_1_5, c_fi_1_6, c_put_1_6, c_ob_2, c_fa_2_0, c_ob_4, c_fa_4_0, c_ob_6, c_fa_6_0, c_ob_8, c_fa_8_0, c_ob_10, c_fa_10_0, c_ob_12, c_fa_12_0, c_ob_14, c_fa_14_0, c_fa_14_1, c_fa_14_2, c_fa_14_3, c_fi_14_4, c_put_14_4, c_ob_15, c_fa_15_0, c_ob_17, c_fa_17_0, c_ob_19, c_fa_19_0, c_ob_21, c_fa_21_0, c_len_0, c_ld_0, c_st_0, c_rd_0, c_wr_0, c_len_1, c_ld_1, c_st_1, c_rd_1, c_wr_1, c_len_2, c_ld_2, c_st_2, c_rd_2, c_wr_2, c_len_3, c_ld_3, c_st_3, c_rd_3, c_wr_3, c_len_4, c_ld_4, c_st_4, c_rd_4, c_wr_4, c_len_5, c_ld_5, c_st_5, c_rd_5, c_wr_5, c_len_6, c_ld_6, c_st_6, c_rd_6, c_wr_6, c_len_7, c_ld_7, c_st_7, c_rd_7, c_wr_7, c_len_8, c_ld_8, c_st_8, c_rd_8, c_wr_8, c_len_9, c_ld_9, c_st_9, c_rd_9, c_wr_9, bI_rI, bL_rL, bA_rA, bV_rV, bI_th, bL_th, bA_th, bV_th, rZ_0, rZ_1]
        rfl
      · obtain ⟨G1, r1, h1, s1⟩ := s_halt1 h
        refine ⟨G1, ?_, h1, s1⟩
        unfold f_M_assign
        rw [(inR G).1 hx', bI_rI, if_neg (by decide), gOb_of h.2.2.1 rfl, (s_noList h _).2 hy, bI_rI, if_neg (by decide), gOb_of h.2.2.1 rfl, r1, bI_rI, if_neg (by decide)]
        rfl
  · refine Sim.no hR hI 1 (by decide) (by decide) ?_ (fun G D h => ?_)
    · unfold f_X_assign
      simp only [x_needRow.2 hx, c_ob_0, c_fa_0_0, c_fa_0_1, c_fi_0_2, c_put_0_2, c_fi_0_3, c_put_0_3, c_fi_0_4, c_put_0_4, c_ob_1, c_fa_1_0, c_fa_1_1, c_fa_1_2, c_fa_1_3, c_fa_1_4, c_fa_1_5, c_fi_1_6, c_put_1_6, c_ob_2, c_fa_2_0, c_ob_4, c_fa_4_0, c_ob_6, c_fa_6_0, c_ob_8, c_fa_8_0, c_ob_10, c_fa_10_0, c_ob_12, c_fa_12_0, c_ob_14, c_fa_14_0, c_fa_14_1, c_fa_14_2, c_fa_14_3, c_fi_14_4, c_put_14_4, c_ob_15, c_fa_15_0, c_ob_17, c_fa_17_0, c_ob_19, c_fa_19_0, c_ob_21, c_fa_21_0, c_len_0, c_ld_0, c_st_0, c_rd_0, c_wr_0, c_len_1, c_ld_1, c_st_1, c_rd_1, c_wr_1, c_len_2, c_ld_2, c_st_2, c_rd_2, c_wr_2, c_len_3, c_ld_3, c_st_3, c_rd_3, c_wr_3, c_len_4, c_ld_4, c_st_4, c_rd_4, c_wr_4, c_len_5, c_ld_5, c_st_5, c_rd_5, c_wr_5, c_len_6, c_ld_6, c_st_6, c_rd_6, c_wr_6, c_len_7, c_ld_7, c_st_7, c_rd_7, c_wr_7, c_len_8, c_ld_8, c_st_8, c_rd_8, c_wr_8, c_len_9, c_ld_9, c_st_9, c_rd_9, c_wr_9, bI_rI, bL_rL, bA_rA, bV_rV, bI_th, bL_th, bA_th, bV_th, rZ_0, rZ_1]
      rfl
    · obtain ⟨G1, r1, h1, s1⟩ := s_halt1 h
      refine ⟨G1, ?_, h1, s1⟩
      unfold f_M_assign
      rw [(inR G).2 hx, bI_rI, if_pos rfl, gOb_of h.2.2.1 rfl, r1, bI_rI, if_neg (by decide)]
      rfl
end Asg
