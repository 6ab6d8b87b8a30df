-- calls over two lists
theorem sLeft_t {L : List (Nat × Nat × Nat)} {s len : Nat} {g : Nat → Bool} {t : Nat × Nat × Nat} (h : t ∈ sLeft g L s len) : t ∈ L := by
  unfold sLeft at h
  rcases List.mem_append.mp h with q | q
  · exact List.mem_of_mem_take q
  · exact List.mem_of_mem_drop (sSw_mem q)
theorem sSw_t : ∀ (n : Nat) (l : List (Nat × Nat × Nat)), (sSw (fun _ => true) n l).length = l.length - n
  | 0, l => rfl
  | n + 1, [] => by unfold sSw; simp
  | n + 1, t :: l => by
    unfold sSw
    rw [if_pos rfl, sSw_t n l]
    simp
theorem sLeft_true {L : List (Nat × Nat × Nat)} {s len : Nat} (h : s + len ≤ L.length) : (sLeft (fun _ => true) L s len).length = L.length - len := by
  unfold sLeft
  rw [List.length_append, sSw_t, List.length_take, List.length_drop]
  omega
section Two
variable {w : Nat → Nat} {b o m : Nat} {A : mS} {σ : cS} {H : gH}
theorem sim_addAll (hR : CRep σ A) (hI : mInv m A) (x i y : Int32) : SimOp w b o A m σ H xIS (f_X_addAll (cPut b σ H) b x i y) (fun G => f_M_addAll w G o x i y) := by
  have hX := CRepx.of (exc := -1) hR
  by_cases hx : mIsL A x
  · have hL := hx
    obtain ⟨p, hp, rfl, hv⟩ := hx
    have hv : mV A p := hv
    obtain ⟨r, s, hr, hr2, hfit, h31, hp6, hro⟩ := hI.pl hv
    have hW := hI.w p
    by_cases hy : mIsL A y
    · have hY := hy
      obtain ⟨q, hq, rfl, hqv⟩ := hy
      have hqv : mV A q := hqv
      obtain ⟨r', s', hr', hr2', hfit', h31', hp6', hro'⟩ := hI.pl hqv
      by_cases hi : mIsG (mLen A p) i
      · have hi' := hi
        obtain ⟨i, hip, rfl⟩ := hi
        have hin : ∀ G1 : gH, f_M_isIn G1 (nI i) (nI 0) (nI (mLen (mSet A 0 0) p)) = rI 1 G1 := fun G1 => (s_isIn G1 (mLen A p) (by omega) _).1 hi'
        by_cases he : r = r'
        · subst he
          refine Sim.no hR hI 2 (by decide) (by decide) ?_ (fun G D h => ?_)
          · unfold f_X_addAll
            simp only [x_needList hX hW hL, x_needList hX hW hY, (x_needGap hX hW.1 hv (show mLen A p < 100 by omega)).1 hi', (x_needOther hX hW.1 hv hr hqv hr').2 rfl, c_ob_0, c_fa_0_0, c_fa_0_1, c_fi_0_2, c_put_0_2, c_fi_0_3, c_put_0_3, c_fi_0_4, c_put_0_4, c_ob_1, c_fa_1_0, c_fa_1_1, c_fa_1_2, c_fa_1_3, c_fa_1_4, c_fa_1_5, c_fi_1_6, c_put_1_6, c_ob_2, c_fa_2_0, c_ob_4, c_fa_4_0, c_ob_6, c_fa_6_0, c_ob_8, c_fa_8_0, c_ob_10, c_fa_10_0, c_ob_12, c_fa_12_0, c_ob_14, c_fa_14_0, c_fa_14_1, c_fa_14_2, c_fa_14_3, c_fi_14_4, c_put_14_4, c_ob_15, c_fa_15_0, c_ob_17, c_fa_17_0, c_ob_19, c_fa_19_0, c_ob_21, c_fa_21_0, c_len_0, c_ld_0, c_st_0, c_rd_0, c_wr_0, c_len_1, c_ld_1, c_st_1, c_rd_1, c_wr_1, c_len_2, c_ld_2, c_st_2, c_rd_2, c_wr_2, c_len_3, c_ld_3, c_st_3, c_rd_3, c_wr_3, c_len_4, c_ld_4, c_st_4, c_rd_4, c_wr_4, c_len_5, c_ld_5, c_st_5, c_rd_5, c_wr_5, c_len_6, c_ld_6, c_st_6, c_rd_6, c_wr_6, c_len_7, c_ld_7, c_st_7, c_rd_7, c_wr_7, c_len_8, c_ld_8, c_st_8, c_rd_8, c_wr_8, c_len_9, c_ld_9, c_st_9, c_rd_9, c_wr_9, bI_rI, bL_rL, bA_rA, bV_rV, bI_th, bL_th, bA_th, bV_th, rZ_0, rZ_1]
            rfl
          · obtain ⟨G1, r1, h1, s1⟩ := s_go h
            obtain ⟨G2, r2, h2, s2⟩ := r_no1 (c := 2) h1 (by decide)
            refine ⟨G2, ?_, h2, (s1.trans s2).mono (by omega) (by omega)⟩
            unfold f_M_addAll
            rw [gOb_of h.2.2.1 rfl, (s_noList h _).1 hL, bI_rI, if_pos rfl, gOb_of h.2.2.1 rfl, (s_noList h _).1 hY, bI_rI, if_pos rfl, gOb_of h.2.2.1 rfl, r1, bI_rI, if_pos rfl, gOb_of h1.2.2.1 rfl, s_len h1 hW.1 hv, bI_rI]
            rw [hin, bI_rI, if_neg (by decide), r_ref0 h1 rfl, gOb_of h1.2.2.1 rfl, s_rowOf h1 hW.1 hv hr, bI_rI, gOb_of h1.2.2.1 rfl, s_rowOf h1 hW.1 hqv hr', bI_rI, if_pos rfl, r2]
            rfl
        · have hne : ¬ nI r = nI r' := fun z => he (nI_eq31 (by omega) (by omega) z)
          by_cases hf : (A.1 r).length + mLen A q ≤ 31
          · obtain ⟨σ', y1, y2, yR⟩ := b_all (w := w) (b := b) (o := o) (H := H) hR hI hv hr hqv hr' he hip hf
            refine Sim.yes (nI (mLen A q)) σ' ?_ (fun G D h => ?_)
            · unfold f_X_addAll
              simp only [x_needList hX hW hL, x_needList hX hW hY, (x_needGap hX hW.1 hv (show mLen A p < 100 by omega)).1 hi', (x_needOther hX hW.1 hv hr hqv hr').1 he, x_len hX hW.1 hqv, (x_needRoom (n := mLen A q) hX hW.1 hv hr h31 (by omega)).1 hf, y1, c_ob_0, c_fa_0_0, c_fa_0_1, c_fi_0_2, c_put_0_2, c_fi_0_3, c_put_0_3, c_fi_0_4, c_put_0_4, c_ob_1, c_fa_1_0, c_fa_1_1, c_fa_1_2, c_fa_1_3, c_fa_1_4, c_fa_1_5, c_fi_1_6, c_put_1_6, c_ob_2, c_fa_2_0, c_ob_4, c_fa_4_0, c_ob_6, c_fa_6_0, c_ob_8, c_fa_8_0, c_ob_10, c_fa_10_0, c_ob_12, c_fa_12_0, c_ob_14, c_fa_14_0, c_fa_14_1, c_fa_14_2, c_fa_14_3, c_fi_14_4, c_put_14_4, c_ob_15, c_fa_15_0, c_ob_17, c_fa_17_0, c_ob_19, c_fa_19_0, c_ob_21, c_fa_21_0, c_len_0, c_ld_0, c_st_0, c_rd_0, c_wr_0, c_len_1, c_ld_1, c_st_1, c_rd_1, c_wr_1, c_len_2, c_ld_2, c_st_2, c_rd_2, c_wr_2, c_len_3, c_ld_3, c_st_3, c_rd_3, c_wr_3, c_len_4, c_ld_4, c_st_4, c_rd_4, c_wr_4, c_len_5, c_ld_5, c_st_5, c_rd_5, c_wr_5, c_len_6, c_ld_6, c_st_6, c_rd_6, c_wr_6, c_len_7, c_ld_7, c_st_7, c_rd_7, c_wr_7, c_len_8, c_ld_8, c_st_8, c_rd_8, c_wr_8, c_len_9, c_ld_9, c_st_9, c_rd_9, c_wr_9, bI_rI, bL_rL, bA_rA, bV_rV, bI_th, bL_th, bA_th, bV_th, rZ_0, rZ_1]
            · obtain ⟨G1, r1, h1, s1⟩ := s_go h
              obtain ⟨G2, A', D', r2, h2, -, c1, c2, c3, s2⟩ := yR G1 D h1
              refine ⟨A', D', G2, m, ?_, h2, c1, c2, Nat.le_succ m, c3, (s1.trans s2).mono (by omega) (by omega)⟩
              unfold f_M_addAll
              rw [gOb_of h.2.2.1 rfl, (s_noList h _).1 hL, bI_rI, if_pos rfl, gOb_of h.2.2.1 rfl, (s_noList h _).1 hY, bI_rI, if_pos rfl, gOb_of h.2.2.1 rfl, r1, bI_rI, if_pos rfl, gOb_of h1.2.2.1 rfl, s_len h1 hW.1 hv, bI_rI]
              rw [hin, bI_rI, if_neg (by decide), r_ref0 h1 rfl, gOb_of h1.2.2.1 rfl, s_rowOf h1 hW.1 hv hr, bI_rI, gOb_of h1.2.2.1 rfl, s_rowOf h1 hW.1 hqv hr', bI_rI, if_neg hne, gOb_of h1.2.2.1 rfl, s_len h1 hW.1 hqv, bI_rI, gOb_of h1.2.2.1 rfl, (s_isFull (n := mLen (mSet A 0 0) q) h1 hW.1 hv hr (by show mLen A q < 100; omega)).1 hf, bI_rI, if_pos rfl, r_ref0 h1 rfl, gOb_of h1.2.2.1 rfl, r2, bI_rI]
          · refine Sim.no hR hI 2 (by decide) (by decide) ?_ (fun G D h => ?_)
            · unfold f_X_addAll
              simp only [x_needList hX hW hL, x_needList hX hW hY, (x_needGap hX hW.1 hv (show mLen A p < 100 by omega)).1 hi', (x_needOther hX hW.1 hv hr hqv hr').1 he, x_len hX hW.1 hqv, (x_needRoom (n := mLen A q) hX hW.1 hv hr h31 (by omega)).2 (by omega), c_ob_0, c_fa_0_0, c_fa_0_1, c_fi_0_2, c_put_0_2, c_fi_0_3, c_put_0_3, c_fi_0_4, c_put_0_4, c_ob_1, c_fa_1_0, c_fa_1_1, c_fa_1_2, c_fa_1_3, c_fa_1_4, c_fa_1_5, c_fi_1_6, c_put_1_6, c_ob_2, c_fa_2_0, c_ob_4, c_fa_4_0, c_ob_6, c_fa_6_0, c_ob_8, c_fa_8_0, c_ob_10, c_fa_10_0, c_ob_12, c_fa_12_0, c_ob_14, c_fa_14_0, c_fa_14_1, c_fa_14_2, c_fa_14_3, c_fi_14_4, c_put_14_4, c_ob_15, c_fa_15_0, c_ob_17, c_fa_17_0, c_ob_19, c_fa_19_0, c_ob_21, c_fa_21_0, c_len_0, c_ld_0, c_st_0, c_rd_0, c_wr_0, c_len_1, c_ld_1, c_st_1, c_rd_1, c_wr_1, c_len_2, c_ld_2, c_st_2, c_rd_2, c_wr_2, c_len_3, c_ld_3, c_st_3, c_rd_3, c_wr_3, c_len_4, c_ld_4, c_st_4, c_rd_4, c_wr_4, c_len_5, c_ld_5, c_st_5, c_rd_5, c_wr_5, c_len_6, c_ld_6, c_st_6, c_rd_6, c_wr_6, c_len_7, c_ld_7, c_st_7, c_rd_7, c_wr_7, c_len_8, c_ld_8, c_st_8, c_rd_8, c_wr_8, c_len_9, c_ld_9, c_st_9, c_rd_9, c_wr_9, bI_rI, bL_rL, bA_rA, bV_rV, bI_th, bL_th, bA_th, bV_th, rZ_0, rZ_1]
              rfl
            · obtain ⟨G1, r1, h1, s1⟩ := s_go h
              obtain ⟨G2, r2, h2, s2⟩ := r_no1 (c := 2) h1 (by decide)
              refine ⟨G2, ?_, h2, (s1.trans s2).mono (by omega) (by omega)⟩
              unfold f_M_addAll
              rw [gOb_of h.2.2.1 rfl, (s_noList h _).1 hL, bI_rI, if_pos rfl, gOb_of h.2.2.1 rfl, (s_noList h _).1 hY, bI_rI, if_pos rfl, gOb_of h.2.2.1 rfl, r1, bI_rI, if_pos rfl, gOb_of h1.2.2.1 rfl, s_len h1 hW.1 hv, bI_rI]
              rw [hin, bI_rI, if_neg (by decide), r_ref0 h1 rfl, gOb_of h1.2.2.1 rfl, s_rowOf h1 hW.1 hv hr, bI_rI, gOb_of h1.2.2.1 rfl, s_rowOf h1 hW.1 hqv hr', bI_rI, if_neg hne, gOb_of h1.2.2.1 rfl, s_len h1 hW.1 hqv, bI_rI, gOb_of h1.2.2.1 rfl, (s_isFull (n := mLen (mSet A 0 0) q) h1 hW.1 hv hr (by show mLen A q < 100; omega)).2 (by show 31 < (A.1 r).length + mLen A q; omega), bI_rI, if_neg (by decide), r2]
              rfl
      · refine Sim.no hR hI 1 (by decide) (by decide) ?_ (fun G D h => ?_)
        · unfold f_X_addAll
          simp only [x_needList hX hW hL, x_needList hX hW hY, (x_needGap hX hW.1 hv (show mLen A p < 100 by omega)).2 hi, c_ob_0, c_fa_0_0, c_fa_0_1, c_fi_0_2, c_put_0_2, c_fi_0_3, c_put_0_3, c_fi_0_4, c_put_0_4, c_ob_1, c_fa_1_0, c_fa_1_1, c_fa_1_2, c_fa_1_3, c_fa_1_4, c_fa_1_5, c_fi_1_6, c_put_1_6, c_ob_2, c_fa_2_0, c_ob_4, c_fa_4_0, c_ob_6, c_fa_6_0, c_ob_8, c_fa_8_0, c_ob_10, c_fa_10_0, c_ob_12, c_fa_12_0, c_ob_14, c_fa_14_0, c_fa_14_1, c_fa_14_2, c_fa_14_3, c_fi_14_4, c_put_14_4, c_ob_15, c_fa_15_0, c_ob_17, c_fa_17_0, c_ob_19, c_fa_19_0, c_ob_21, c_fa_21_0, c_len_0, c_ld_0, c_st_0, c_rd_0, c_wr_0, c_len_1, c_ld_1, c_st_1, c_rd_1, c_wr_1, c_len_2, c_ld_2, c_st_2, c_rd_2, c_wr_2, c_len_3, c_ld_3, c_st_3, c_rd_3, c_wr_3, c_len_4, c_ld_4, c_st_4, c_rd_4, c_wr_4, c_len_5, c_ld_5, c_st_5, c_rd_5, c_wr_5, c_len_6, c_ld_6, c_st_6, c_rd_6, c_wr_6, c_len_7, c_ld_7, c_st_7, c_rd_7, c_wr_7, c_len_8, c_ld_8, c_st_8, c_rd_8, c_wr_8, c_len_9, c_ld_9, c_st_9, c_rd_9, c_wr_9, bI_rI, bL_rL, bA_rA, bV_rV, bI_th, bL_th, bA_th, bV_th, rZ_0, rZ_1]
          rfl
        · obtain ⟨G1, r1, h1, s1⟩ := s_go h
          obtain ⟨G2, r2, h2, s2⟩ := r_no1 (c := 1) h1 (by decide)
          refine ⟨G2, ?_, h2, (s1.trans s2).mono (by omega) (by omega)⟩
          unfold f_M_addAll
          rw [gOb_of h.2.2.1 rfl, (s_noList h _).1 hL, bI_rI, if_pos rfl, gOb_of h.2.2.1 rfl, (s_noList h _).1 hY, bI_rI, if_pos rfl, gOb_of h.2.2.1 rfl, r1, bI_rI, if_pos rfl, gOb_of h1.2.2.1 rfl, s_len h1 hW.1 hv, bI_rI]
          rw [show f_M_isIn G1 i (nI 0) (nI (mLen (mSet A 0 0) p)) = rI 0 G1 from (s_isIn G1 (mLen A p) (by omega) _).2 hi, bI_rI, if_pos rfl, r2]
          rfl
    · refine Sim.no hR hI 1 (by decide) (by decide) ?_ (fun G D h => ?_)
      · unfold f_X_addAll
        simp only [x_needList hX hW hL, x_needList_no hX hW hy, c_ob_0, c_fa_0_0, c_fa_0_1, c_fi_0_2, c_put_0_2, c_fi_0_3, c_put_0_3, c_fi_0_4, c_put_0_4, c_ob_1, c_fa_1_0, c_fa_1_1, c_fa_1_2, c_fa_1_3, c_fa_1_4, c_fa_1_5, c_fi_1_6, c_put_1_6, c_ob_2, c_fa_2_0, c_ob_4, c_fa_4_0, c_ob_6, c_fa_6_0, c_ob_8, c_fa_8_0, c_ob_10, c_fa_10_0, c_ob_12, c_fa_12_0, c_ob_14, c_fa_14_0, c_fa_14_1, c_fa_14_2, c_fa_14_3, c_fi_14_4, c_put_14_4, c_ob_15, c_fa_15_0, c_ob_17, c_fa_17_0, c_ob_19, c_fa_19_0, c_ob_21, c_fa_21_0, c_len_0, c_ld_0, c_st_0, c_rd_0, c_wr_0, c_len_1, c_ld_1, c_st_1, c_rd_1, c_wr_1, c_len_2, c_ld_2, c_st_2, c_rd_2, c_wr_2, c_len_3, c_ld_3, c_st_3, c_rd_3, c_wr_3, c_len_4, c_ld_4, c_st_4, c_rd_4, c_wr_4, c_len_5, c_ld_5, c_st_5, c_rd_5, c_wr_5, c_len_6, c_ld_6, c_st_6, c_rd_6, c_wr_6, c_len_7, c_ld_7, c_st_7, c_rd_7, c_wr_7, c_len_8, c_ld_8, c_st_8, c_rd_8, c_wr_8, c_len_9, c_ld_9, c_st_9, c_rd_9, c_wr_9, bI_rI, bL_rL, bA_rA, bV_rV, bI_th, bL_th, bA_th, bV_th, rZ_0, rZ_1]
        rfl
      · obtain ⟨G1, r1, h1, s1⟩ := s_halt1 h
        refine ⟨G1, ?_, h1, s1⟩
        unfold f_M_addAll
        rw [gOb_of h.2.2.1 rfl, (s_noList h _).1 hL, bI_rI, if_pos rfl, gOb_of h.2.2.1 rfl, (s_noList h _).2 hy, bI_rI, if_neg (by decide), gOb_of h.2.2.1 rfl, r1, bI_rI, if_neg (by decide)]
        rfl
  · refine Sim.no hR hI 1 (by decide) (by decide) ?_ (fun G D h => ?_)
    · unfold f_X_addAll
      simp only [x_needList_no hX (hI.w 0) hx, c_ob_0, c_fa_0_0, c_fa_0_1, c_fi_0_2, c_put_0_2, c_fi_0_3, c_put_0_3, c_fi_0_4, c_put_0_4, c_ob_1, c_fa_1_0, c_fa_1_1, c_fa_1_2, c_fa_1_3, c_fa_1_4, c_fa_1_5, c_fi_1_6, c_put_1_6, c_ob_2, c_fa_2_0, c_ob_4, c_fa_4_0, c_ob_6, c_fa_6_0, c_ob_8, c_fa_8_0, c_ob_10, c_fa_10_0, c_ob_12, c_fa_12_0, c_ob_14, c_fa_14_0, c_fa_14_1, c_fa_14_2, c_fa_14_3, c_fi_14_4, c_put_14_4, c_ob_15, c_fa_15_0, c_ob_17, c_fa_17_0, c_ob_19, c_fa_19_0, c_ob_21, c_fa_21_0, c_len_0, c_ld_0, c_st_0, c_rd_0, c_wr_0, c_len_1, c_ld_1, c_st_1, c_rd_1, c_wr_1, c_len_2, c_ld_2, c_st_2, c_rd_2, c_wr_2, c_len_3, c_ld_3, c_st_3, c_rd_3, c_wr_3, c_len_4, c_ld_4, c_st_4, c_rd_4, c_wr_4, c_len_5, c_ld_5, c_st_5, c_rd_5, c_wr_5, c_len_6, c_ld_6, c_st_6, c_rd_6, c_wr_6, c_len_7, c_ld_7, c_st_7, c_rd_7, c_wr_7, c_len_8, c_ld_8, c_st_8, c_rd_8, c_wr_8, c_len_9, c_ld_9, c_st_9, c_rd_9, c_wr_9, bI_rI, bL_rL, bA_rA, bV_rV, bI_th, bL_th, bA_th, bV_th, rZ_0, rZ_1]
      rfl
    · obtain ⟨G1, r1, h1, s1⟩ := s_halt1 h
      refine ⟨G1, ?_, h1, s1⟩
      unfold f_M_addAll
      rw [gOb_of h.2.2.1 rfl, (s_noList h _).2 hx, bI_rI, if_neg (by decide), gOb_of h.2.2.1 rfl, r1, bI_rI, if_neg (by decide)]
      rfl
theorem sim_append (hR : CRep σ A) (hI : mInv m A) (x y : Int32) : SimOp w b o A m σ H xIS (f_X_append (cPut b σ H) b x y) (fun G => f_M_append w G o x y) := by
  have hX := CRepx.of (exc := -1) hR
  by_cases hx : mIsL A x
  · have hL := hx
    obtain ⟨p, hp, rfl, hv⟩ := hx
    have hv : mV A p := hv
    obtain ⟨r, s, hr, hr2, hfit, h31, hp6, hro⟩ := hI.pl hv
    have hW := hI.w p
    by_cases hy : mIsL A y
    · have hY := hy
      obtain ⟨q, hq, rfl, hqv⟩ := hy
      have hqv : mV A q := hqv
      obtain ⟨r', s', hr', hr2', hfit', h31', hp6', hro'⟩ := hI.pl hqv
      by_cases he : r = r'
      · subst he
        refine Sim.no hR hI 2 (by decide) (by decide) ?_ (fun G D h => ?_)
        · unfold f_X_append
          simp only [x_needList hX hW hL, x_needList hX hW hY, (x_needOther hX hW.1 hv hr hqv hr').2 rfl, c_ob_0, c_fa_0_0, c_fa_0_1, c_fi_0_2, c_put_0_2, c_fi_0_3, c_put_0_3, c_fi_0_4, c_put_0_4, c_ob_1, c_fa_1_0, c_fa_1_1, c_fa_1_2, c_fa_1_3, c_fa_1_4, c_fa_1_5, c_fi_1_6, c_put_1_6, c_ob_2, c_fa_2_0, c_ob_4, c_fa_4_0, c_ob_6, c_fa_6_0, c_ob_8, c_fa_8_0, c_ob_10, c_fa_10_0, c_ob_12, c_fa_12_0, c_ob_14, c_fa_14_0, c_fa_14_1, c_fa_14_2, c_fa_14_3, c_fi_14_4, c_put_14_4, c_ob_15, c_fa_15_0, c_ob_17, c_fa_17_0, c_ob_19, c_fa_19_0, c_ob_21, c_fa_21_0, c_len_0, c_ld_0, c_st_0, c_rd_0, c_wr_0, c_len_1, c_ld_1, c_st_1, c_rd_1, c_wr_1, c_len_2, c_ld_2, c_st_2, c_rd_2, c_wr_2, c_len_3, c_ld_3, c_st_3, c_rd_3, c_wr_3, c_len_4, c_ld_4, c_st_4, c_rd_4, c_wr_4, c_len_5, c_ld_5, c_st_5, c_rd_5, c_wr_5, c_len_6, c_ld_6, c_st_6, c_rd_6, c_wr_6, c_len_7, c_ld_7, c_st_7, c_rd_7, c_wr_7, c_len_8, c_ld_8, c_st_8, c_rd_8, c_wr_8, c_len_9, c_ld_9, c_st_9, c_rd_9, c_wr_9, bI_rI, bL_rL, bA_rA, bV_rV, bI_th, bL_th, bA_th, bV_th, rZ_0, rZ_1]
          rfl
        · obtain ⟨G1, r1, h1, s1⟩ := s_go h
          obtain ⟨G2, r2, h2, s2⟩ := r_no1 (c := 2) h1 (by decide)
          refine ⟨G2, ?_, h2, (s1.trans s2).mono (by omega) (by omega)⟩
          unfold f_M_append
          rw [gOb_of h.2.2.1 rfl, (s_noList h _).1 hL, bI_rI, if_pos rfl, gOb_of h.2.2.1 rfl, (s_noList h _).1 hY, bI_rI, if_pos rfl, gOb_of h.2.2.1 rfl, r1, bI_rI, if_pos rfl, gOb_of h1.2.2.1 rfl, s_rowOf h1 hW.1 hv hr, bI_rI, gOb_of h1.2.2.1 rfl, s_rowOf h1 hW.1 hqv hr', bI_rI, if_pos rfl, r2]
          rfl
      · have hne : ¬ nI r = nI r' := fun z => he (nI_eq31 (by omega) (by omega) z)
        by_cases hf : (A.1 r).length + mLen A q ≤ 31
        · obtain ⟨σ', y1, y2, yR⟩ := b_all (w := w) (b := b) (o := o) (H := H) hR hI hv hr hqv hr' he (Nat.le_refl _) hf
          refine Sim.yes (nI (mLen A p + mLen A q)) σ' ?_ (fun G D h => ?_)
          · unfold f_X_append
            simp only [x_needList hX hW hL, x_needList hX hW hY, (x_needOther hX hW.1 hv hr hqv hr').1 he, x_len hX hW.1 hqv, x_len hX hW.1 hv, (x_needRoom (n := mLen A q) hX hW.1 hv hr h31 (by omega)).1 hf, y1, y2, c_ob_0, c_fa_0_0, c_fa_0_1, c_fi_0_2, c_put_0_2, c_fi_0_3, c_put_0_3, c_fi_0_4, c_put_0_4, c_ob_1, c_fa_1_0, c_fa_1_1, c_fa_1_2, c_fa_1_3, c_fa_1_4, c_fa_1_5, c_fi_1_6, c_put_1_6, c_ob_2, c_fa_2_0, c_ob_4, c_fa_4_0, c_ob_6, c_fa_6_0, c_ob_8, c_fa_8_0, c_ob_10, c_fa_10_0, c_ob_12, c_fa_12_0, c_ob_14, c_fa_14_0, c_fa_14_1, c_fa_14_2, c_fa_14_3, c_fi_14_4, c_put_14_4, c_ob_15, c_fa_15_0, c_ob_17, c_fa_17_0, c_ob_19, c_fa_19_0, c_ob_21, c_fa_21_0, c_len_0, c_ld_0, c_st_0, c_rd_0, c_wr_0, c_len_1, c_ld_1, c_st_1, c_rd_1, c_wr_1, c_len_2, c_ld_2, c_st_2, c_rd_2, c_wr_2, c_len_3, c_ld_3, c_st_3, c_rd_3, c_wr_3, c_len_4, c_ld_4, c_st_4, c_rd_4, c_wr_4, c_len_5, c_ld_5, c_st_5, c_rd_5, c_wr_5, c_len_6, c_ld_6, c_st_6, c_rd_6, c_wr_6, c_len_7, c_ld_7, c_st_7, c_rd_7, c_wr_7, c_len_8, c_ld_8, c_st_8, c_rd_8, c_wr_8, c_len_9, c_ld_9, c_st_9, c_rd_9, c_wr_9, bI_rI, bL_rL, bA_rA, bV_rV, bI_th, bL_th, bA_th, bV_th, rZ_0, rZ_1]
          · obtain ⟨G1, r1, h1, s1⟩ := s_go h
            obtain ⟨G2, A', D', r2, h2, r3, c1, c2, c3, s2⟩ := yR G1 D h1
            refine ⟨A', D', G2, m, ?_, h2, c1, c2, Nat.le_succ m, c3, (s1.trans s2).mono (by omega) (by omega)⟩
            unfold f_M_append
            rw [gOb_of h.2.2.1 rfl, (s_noList h _).1 hL, bI_rI, if_pos rfl, gOb_of h.2.2.1 rfl, (s_noList h _).1 hY, bI_rI, if_pos rfl, gOb_of h.2.2.1 rfl, r1, bI_rI, if_pos rfl, gOb_of h1.2.2.1 rfl, s_rowOf h1 hW.1 hv hr, bI_rI, gOb_of h1.2.2.1 rfl, s_rowOf h1 hW.1 hqv hr', bI_rI, if_neg hne, gOb_of h1.2.2.1 rfl, s_len h1 hW.1 hqv, bI_rI, gOb_of h1.2.2.1 rfl, (s_isFull (n := mLen (mSet A 0 0) q) h1 hW.1 hv hr (by show mLen A q < 100; omega)).1 hf, bI_rI, if_pos rfl, r_ref0 h1 rfl, gOb_of h1.2.2.1 rfl, s_len h1 hW.1 hv, bI_rI, gOb_of h1.2.2.1 rfl]
            rw [show f_M_bring w G1 o (nI p) (nI (mLen (mSet A 0 0) p)) (nI q) = _ from r2, bI_rI, gOb_of h2.2.2.1 rfl, r3, bI_rI]
        · refine Sim.no hR hI 2 (by decide) (by decide) ?_ (fun G D h => ?_)
          · unfold f_X_append
            simp only [x_needList hX hW hL, x_needList hX hW hY, (x_needOther hX hW.1 hv hr hqv hr').1 he, x_len hX hW.1 hqv, (x_needRoom (n := mLen A q) hX hW.1 hv hr h31 (by omega)).2 (by omega), c_ob_0, c_fa_0_0, c_fa_0_1, c_fi_0_2, c_put_0_2, c_fi_0_3, c_put_0_3, c_fi_0_4, c_put_0_4, c_ob_1, c_fa_1_0, c_fa_1_1, c_fa_1_2, c_fa_1_3, c_fa_1_4, c_fa_1_5, c_fi_1_6, c_put_1_6, c_ob_2, c_fa_2_0, c_ob_4, c_fa_4_0, c_ob_6, c_fa_6_0, c_ob_8, c_fa_8_0, c_ob_10, c_fa_10_0, c_ob_12, c_fa_12_0, c_ob_14, c_fa_14_0, c_fa_14_1, c_fa_14_2, c_fa_14_3, c_fi_14_4, c_put_14_4, c_ob_15, c_fa_15_0, c_ob_17, c_fa_17_0, c_ob_19, c_fa_19_0, c_ob_21, c_fa_21_0, c_len_0, c_ld_0, c_st_0, c_rd_0, c_wr_0, c_len_1, c_ld_1, c_st_1, c_rd_1, c_wr_1, c_len_2, c_ld_2, c_st_2, c_rd_2, c_wr_2, c_len_3, c_ld_3, c_st_3, c_rd_3, c_wr_3, c_len_4, c_ld_4, c_st_4, c_rd_4, c_wr_4, c_len_5, c_ld_5, c_st_5, c_rd_5, c_wr_5, c_len_6, c_ld_6, c_st_6, c_rd_6, c_wr_6, c_len_7, c_ld_7, c_st_7, c_rd_7, c_wr_7, c_len_8, c_ld_8, c_st_8, c_rd_8, c_wr_8, c_len_9, c_ld_9, c_st_9, c_rd_9, c_wr_9, bI_rI, bL_rL, bA_rA, bV_rV, bI_th, bL_th, bA_th, bV_th, rZ_0, rZ_1]
            rfl
          · obtain ⟨G1, r1, h1, s1⟩ := s_go h
            obtain ⟨G2, r2, h2, s2⟩ := r_no1 (c := 2) h1 (by decide)
            refine ⟨G2, ?_, h2, (s1.trans s2).mono (by omega) (by omega)⟩
            unfold f_M_append
            rw [gOb_of h.2.2.1 rfl, (s_noList h _).1 hL, bI_rI, if_pos rfl, gOb_of h.2.2.1 rfl, (s_noList h _).1 hY, bI_rI, if_pos rfl, gOb_of h.2.2.1 rfl, r1, bI_rI, if_pos rfl, gOb_of h1.2.2.1 rfl, s_rowOf h1 hW.1 hv hr, bI_rI, gOb_of h1.2.2.1 rfl, s_rowOf h1 hW.1 hqv hr', bI_rI, if_neg hne, gOb_of h1.2.2.1 rfl, s_len h1 hW.1 hqv, bI_rI, gOb_of h1.2.2.1 rfl, (s_isFull (n := mLen (mSet A 0 0) q) h1 hW.1 hv hr (by show mLen A q < 100; omega)).2 (by show 31 < (A.1 r).length + mLen A q; omega), bI_rI, if_neg (by decide), r2]
            rfl
    · refine Sim.no hR hI 1 (by decide) (by decide) ?_ (fun G D h => ?_)
      · unfold f_X_append
        simp only [x_needList hX hW hL, x_needList_no hX hW hy, c_ob_0, c_fa_0_0, c_fa_0_1, c_fi_0_2, c_put_0_2, c_fi_0_3, c_put_0_3, c_fi_0_4, c_put_0_4, c_ob_1, c_fa_1_0, c_fa_1_1, c_fa_1_2, c_fa_1_3, c_fa_1_4, c_fa_1_5, c_fi_1_6, c_put_1_6, c_ob_2, c_fa_2_0, c_ob_4, c_fa_4_0, c_ob_6, c_fa_6_0, c_ob_8, c_fa_8_0, c_ob_10, c_fa_10_0, c_ob_12, c_fa_12_0, c_ob_14, c_fa_14_0, c_fa_14_1, c_fa_14_2, c_fa_14_3, c_fi_14_4, c_put_14_4, c_ob_15, c_fa_15_0, c_ob_17, c_fa_17_0, c_ob_19, c_fa_19_0, c_ob_21, c_fa_21_0, c_len_0, c_ld_0, c_st_0, c_rd_0, c_wr_0, c_len_1, c_ld_1, c_st_1, c_rd_1, c_wr_1, c_len_2, c_ld_2, c_st_2, c_rd_2, c_wr_2, c_len_3, c_ld_3, c_st_3, c_rd_3, c_wr_3, c_len_4, c_ld_4, c_st_4, c_rd_4, c_wr_4, c_len_5, c_ld_5, c_st_5, c_rd_5, c_wr_5, c_len_6, c_ld_6, c_st_6, c_rd_6, c_wr_6, c_len_7, c_ld_7, c_st_7, c_rd_7, c_wr_7, c_len_8, c_ld_8, c_st_8, c_rd_8, c_wr_8, c_len_9, c_ld_9, c_st_9, c_rd_9, c_wr_9, bI_rI, bL_rL, bA_rA, bV_rV, bI_th, bL_th, bA_th, bV_th, rZ_0, rZ_1]
        rfl
      · obtain ⟨G1, r1, h1, s1⟩ := s_halt1 h
        refine ⟨G1, ?_, h1, s1⟩
        unfold f_M_append
        rw [gOb_of h.2.2.1 rfl, (s_noList h _).1 hL, bI_rI, if_pos rfl, gOb_of h.2.2.1 rfl, (s_noList h _).2 hy, bI_rI, if_neg (by decide), gOb_of h.2.2.1 rfl, r1, bI_rI, if_neg (by decide)]
        rfl
  · refine Sim.no hR hI 1 (by decide) (by decide) ?_ (fun G D h => ?_)
    · unfold f_X_append
      simp only [x_needList_no hX (hI.w 0) hx, c_ob_0, c_fa_0_0, c_fa_0_1, c_fi_0_2, c_put_0_2, c_fi_0_3, c_put_0_3, c_fi_0_4, c_put_0_4, c_ob_1, c_fa_1_0, c_fa_1_1, c_fa_1_2, c_fa_1_3, c_fa_1_4, c_fa_1_5, c_fi_1_6, c_put_1_6, c_ob_2, c_fa_2_0, c_ob_4, c_fa_4_0, c_ob_6, c_fa_6_0, c_ob_8, c_fa_8_0, c_ob_10, c_fa_10_0, c_ob_12, c_fa_12_0, c_ob_14, c_fa_14_0, c_fa_14_1, c_fa_14_2, c_fa_14_3, c_fi_14_4, c_put_14_4, c_ob_15, c_fa_15_0, c_ob_17, c_fa_17_0, c_ob_19, c_fa_19_0, c_ob_21, c_fa_21_0, c_len_0, c_ld_0, c_st_0, c_rd_0, c_wr_0, c_len_1, c_ld_1, c_st_1, c_rd_1, c_wr_1, c_len_2, c_ld_2, c_st_2, c_rd_2, c_wr_2, c_len_3, c_ld_3, c_st_3, c_rd_3, c_wr_3, c_len_4, c_ld_4, c_st_4, c_rd_4, c_wr_4, c_len_5, c_ld_5, c_st_5, c_rd_5, c_wr_5, c_len_6, c_ld_6, c_st_6, c_rd_6, c_wr_6, c_len_7, c_ld_7, c_st_7, c_rd_7, c_wr_7, c_len_8, c_ld_8, c_st_8, c_rd_8, c_wr_8, c_len_9, c_ld_9, c_st_9, c_rd_9, c_wr_9, bI_rI, bL_rL, bA_rA, bV_rV, bI_th, bL_th, bA_th, bV_th, rZ_0, rZ_1]
      rfl
    · obtain ⟨G1, r1, h1, s1⟩ := s_halt1 h
      refine ⟨G1, ?_, h1, s1⟩
      unfold f_M_append
      rw [gOb_of h.2.2.1 rfl, (s_noList h _).2 hx, bI_rI, if_neg (by decide), gOb_of h.2.2.1 rfl, r1, bI_rI, if_neg (by decide)]
      rfl
/-- all of some keys go, on both sides -/
theorem b_rm (hR : CRep σ A) (hI : mInv m A) {p r s : Nat} {goers : Int32} {g : Nat → Bool} (hv : mV A p) (hr : mRw A.2.1 zDp p = some (r, s)) (hg : gBit goers g) :
    ∃ σ', f_X_takeOutAll (cPut b σ H) b (nI p) goers = rI (nI ((A.1 r).length - (sLeft g (A.1 r) s (mLen A p)).length)) (cPut b σ' H) ∧ CRep σ' (mChange (mRows (mSet A 0 0) r (sLeft g (A.1 r) s (mLen A p))) p (((sLeft g (A.1 r) s (mLen A p)).length : Int) - ((A.1 r).length : Int)) (-1)) ∧
      mInv m (mChange (mRows (mSet A 0 0) r (sLeft g (A.1 r) s (mLen A p))) p (((sLeft g (A.1 r) s (mLen A p)).length : Int) - ((A.1 r).length : Int)) (-1)) ∧ (mChange (mRows (mSet A 0 0) r (sLeft g (A.1 r) s (mLen A p))) p (((sLeft g (A.1 r) s (mLen A p)).length : Int) - ((A.1 r).length : Int)) (-1)).2.2.2 0 = 0 := by
  have hr1 := mRw_lt _ _ _ _ hr
  have hX : CRepx (-1) σ (mSet A 0 0) := (CRepx.of (exc := -1) hR).thr 0
  have hIt : mInv m (mSet A 0 0) := hI.thr 0
  have hW := hIt.w p
  have hfit : s + mLen A p ≤ (A.1 r).length := hW.2.1.rw _ _ _ _ hr
  have h31 : (A.1 r).length ≤ 31 := hW.2.2.1 r hr1
  have hsl := sLeft_len g (A.1 r) hfit
  obtain ⟨σ', y1, y2⟩ := x_takeOutAll (b := b) (G := H) hX hW hv hr hg (fun t ht => ((hI.2.2.1 r hr1).2 t ht).1)
  obtain ⟨c1, -, -, -, c5⟩ := mChg_all (z := ((sLeft g (A.1 r) s (mLen A p)).length : Int) - ((A.1 r).length : Int)) (ts := sLeft g (A.1 r) s (mLen A p)) hIt hv hr (by show ((sLeft g (A.1 r) s (mLen A p)).length : Int) = ((A.1 r).length : Int) + _; omega) (by omega) (by show 0 ≤ (mLen A p : Int) + _; omega) (fun z => sLeft_all (by omega)) (fun t ht => (hI.2.2.1 r hr1).2 t (sLeft_t ht))
  exact ⟨σ', y1, y2, c1, c5 0 (by omega) (by omega)⟩
theorem s_areOne {G : gH} {D : mD} (h : MS w o G A D) (hI : mInv m A) {p r s q r' s' : Nat} (hv : mV A p) (hr : mRw A.2.1 zDp p = some (r, s)) (hqv : mV A q) (hr' : mRw A.2.1 zDp q = some (r', s')) (hL : mIsL A (nI p)) (hY : mIsL A (nI q)) :
    (r ≠ r' → ∃ G', f_M_areOne G o (nI p) (nI q) = rI 0 G' ∧ MS w o G' (mSet A 0 0) D ∧ mSt 0 0 G G') ∧ (r = r' → ∃ G', f_M_areOne G o (nI p) (nI q) = rI 1 G' ∧ MS w o G' (mSet A 0 (nI 2)) D ∧ mSt 0 0 G G') := by
  have hr1 := mRw_lt _ _ _ _ hr
  have hr2 := mRw_lt _ _ _ _ hr'
  obtain ⟨G1, r1, h1, s1⟩ := s_go h
  refine ⟨fun he => ?_, fun he => ?_⟩
  · have hne : ¬ nI r = nI r' := fun z => he (nI_eq31 (by omega) (by omega) z)
    refine ⟨G1, ?_, h1, s1⟩
    unfold f_M_areOne
    rw [gOb_of h.2.2.1 rfl, (s_noList h _).1 hL, bI_rI, if_pos rfl, gOb_of h.2.2.1 rfl, (s_noList h _).1 hY, bI_rI, if_pos rfl, gOb_of h.2.2.1 rfl, r1, bI_rI, if_pos rfl, gOb_of h1.2.2.1 rfl, s_rowOf h1 hI.1 hv hr, bI_rI, gOb_of h1.2.2.1 rfl, s_rowOf h1 hI.1 hqv hr', bI_rI, if_neg hne, r_ref0 h1 rfl, rZ_0]
  · obtain ⟨G2, r2, h2, s2⟩ := r_no1 (c := 2) h1 (by decide)
    refine ⟨G2, ?_, h2, (s1.trans s2).mono (by omega) (by omega)⟩
    unfold f_M_areOne
    rw [gOb_of h.2.2.1 rfl, (s_noList h _).1 hL, bI_rI, if_pos rfl, gOb_of h.2.2.1 rfl, (s_noList h _).1 hY, bI_rI, if_pos rfl, gOb_of h.2.2.1 rfl, r1, bI_rI, if_pos rfl, gOb_of h1.2.2.1 rfl, s_rowOf h1 hI.1 hv hr, bI_rI, gOb_of h1.2.2.1 rfl, s_rowOf h1 hI.1 hqv hr', bI_rI, if_pos (by rw [he]), r2, rZ_1]
theorem s_areOne_x {G : gH} {D : mD} (h : MS w o G A D) {x y : Int32} (hx : ¬ (mIsL A x ∧ mIsL A y)) : ∃ G', f_M_areOne G o x y = rI 1 G' ∧ MS w o G' (mSet A 0 (nI 1)) D ∧ mSt 0 0 G G' := by
  obtain ⟨G1, r1, h1, s1⟩ := s_halt1 h
  refine ⟨G1, ?_, h1, s1⟩
  unfold f_M_areOne
  by_cases h2 : mIsL A x
  · rw [gOb_of h.2.2.1 rfl, (s_noList h _).1 h2, bI_rI, if_pos rfl, gOb_of h.2.2.1 rfl, (s_noList h _).2 (fun k => hx ⟨h2, k⟩), bI_rI, if_neg (by decide), gOb_of h.2.2.1 rfl, r1, bI_rI, if_neg (by decide), rZ_1]
  · rw [gOb_of h.2.2.1 rfl, (s_noList h _).2 h2, bI_rI, if_neg (by decide), gOb_of h.2.2.1 rfl, r1, bI_rI, if_neg (by decide), rZ_1]
end Two
