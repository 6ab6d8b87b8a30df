-- calls that take things out
section Rm
variable {w : Nat → Nat} {b o m : Nat} {A : mS} {σ : cS} {H : gH}
theorem mInv.kk (hI : mInv m A) {r : Nat} (hr : r < 2) : ∀ t, t ∈ A.1 r → t.2.1 < 31 := fun t ht => ((hI.2.2.1 r hr).2 t ht).1
theorem mB_1 : mB true = nI 1 := rfl
theorem mB_0 : mB false = nI 0 := rfl
theorem sim_removeAll (hR : CRep σ A) (hI : mInv m A) (x y : Int32) : SimOp w b o A m σ H xIS (f_X_removeAll (cPut b σ H) b x y) (fun G => f_M_removeAll G o x y) := by
  have hX := CRepx.of (exc := -1) hR
  by_cases hx : mIsL A x
  · have hL := hx
    obtain ⟨p, hp, rfl, hv⟩ := hx
    have hv : mV A p := hv
    obtain ⟨r, s, hr, hr2, hfit, h31, hp6, hro⟩ := hI.pl hv
    have hW := hI.w p
    by_cases hy : mIsL A y
    · have hY := hy
      obtain ⟨q, hq, rfl, hqv⟩ := hy
      have hqv : mV A q := hqv
      obtain ⟨r', s', hr', hr2', hfit', h31', hp6', hro'⟩ := hI.pl hqv
      by_cases he : r = r'
      · subst he
        refine Sim.no hR hI 2 (by decide) (by decide) ?_ (fun G D h => ?_)
        · unfold f_X_removeAll
          simp only [x_needList hX hW hL, x_needList hX hW hY, (x_needOther hX hW.1 hv hr hqv hr').2 rfl, c_ob_0, c_fa_0_0, c_fa_0_1, c_fi_0_2, c_put_0_2, c_fi_0_3, c_put_0_3, c_fi_0_4, c_put_0_4, c_ob_1, c_fa_1_0, c_fa_1_1, c_fa_1_2, c_fa_1_3, c_fa_1_4, c_fa_1_5, c_fi_1_6, c_put_1_6, c_ob_2, c_fa_2_0, c_ob_4, c_fa_4_0, c_ob_6, c_fa_6_0, c_ob_8, c_fa_8_0, c_ob_10, c_fa_10_0, c_ob_12, c_fa_12_0, c_ob_14, c_fa_14_0, c_fa_14_1, c_fa_14_2, c_fa_14_3, c_fi_14_4, c_put_14_4, c_ob_15, c_fa_15_0, c_ob_17, c_fa_17_0, c_ob_19, c_fa_19_0, c_ob_21, c_fa_21_0, c_len_0, c_ld_0, c_st_0, c_rd_0, c_wr_0, c_len_1, c_ld_1, c_st_1, c_rd_1, c_wr_1, c_len_2, c_ld_2, c_st_2, c_rd_2, c_wr_2, c_len_3, c_ld_3, c_st_3, c_rd_3, c_wr_3, c_len_4, c_ld_4, c_st_4, c_rd_4, c_wr_4, c_len_5, c_ld_5, c_st_5, c_rd_5, c_wr_5, c_len_6, c_ld_6, c_st_6, c_rd_6, c_wr_6, c_len_7, c_ld_7, c_st_7, c_rd_7, c_wr_7, c_len_8, c_ld_8, c_st_8, c_rd_8, c_wr_8, c_len_9, c_ld_9, c_st_9, c_rd_9, c_wr_9, bI_rI, bL_rL, bA_rA, bV_rV, bI_th, bL_th, bA_th, bV_th, rZ_0, rZ_1]
          rfl
        · obtain ⟨G1, r1, h1, s1⟩ := (s_areOne h hI hv hr hqv hr' hL hY).2 rfl
          refine ⟨G1, ?_, h1, s1⟩
          unfold f_M_removeAll
          rw [gOb_of h.2.2.1 rfl, r1, bI_rI, if_neg (by decide)]
          rfl
      · obtain ⟨v, x1, x2⟩ := x_keys (b := b) (H := H) hX (hI.w q) hqv hr' (hI.kk hr2')
        obtain ⟨σ', y1, y2, y3, y4⟩ := b_rm (b := b) (H := H) (goers := v) (g := fun k => true == gK (sSeg A r' s' (mLen A q)) k) hR hI hv hr (gBit_of (fun k hk => by rw [x2 k hk]; simp))
        refine Sim.yes (nI ((A.1 r).length - (sLeft (fun k => true == gK (sSeg A r' s' (mLen A q)) k) (A.1 r) s (mLen A p)).length)) σ' ?_ (fun G D h => ?_)
        · unfold f_X_removeAll
          simp only [x_needList hX hW hL, x_needList hX hW hY, (x_needOther hX hW.1 hv hr hqv hr').1 he, x1, y1, c_ob_0, c_fa_0_0, c_fa_0_1, c_fi_0_2, c_put_0_2, c_fi_0_3, c_put_0_3, c_fi_0_4, c_put_0_4, c_ob_1, c_fa_1_0, c_fa_1_1, c_fa_1_2, c_fa_1_3, c_fa_1_4, c_fa_1_5, c_fi_1_6, c_put_1_6, c_ob_2, c_fa_2_0, c_ob_4, c_fa_4_0, c_ob_6, c_fa_6_0, c_ob_8, c_fa_8_0, c_ob_10, c_fa_10_0, c_ob_12, c_fa_12_0, c_ob_14, c_fa_14_0, c_fa_14_1, c_fa_14_2, c_fa_14_3, c_fi_14_4, c_put_14_4, c_ob_15, c_fa_15_0, c_ob_17, c_fa_17_0, c_ob_19, c_fa_19_0, c_ob_21, c_fa_21_0, c_len_0, c_ld_0, c_st_0, c_rd_0, c_wr_0, c_len_1, c_ld_1, c_st_1, c_rd_1, c_wr_1, c_len_2, c_ld_2, c_st_2, c_rd_2, c_wr_2, c_len_3, c_ld_3, c_st_3, c_rd_3, c_wr_3, c_len_4, c_ld_4, c_st_4, c_rd_4, c_wr_4, c_len_5, c_ld_5, c_st_5, c_rd_5, c_wr_5, c_len_6, c_ld_6, c_st_6, c_rd_6, c_wr_6, c_len_7, c_ld_7, c_st_7, c_rd_7, c_wr_7, c_len_8, c_ld_8, c_st_8, c_rd_8, c_wr_8, c_len_9, c_ld_9, c_st_9, c_rd_9, c_wr_9, bI_rI, bL_rL, bA_rA, bV_rV, bI_th, bL_th, bA_th, bV_th, rZ_0, rZ_1]
        · obtain ⟨G1, r1, h1, s1⟩ := (s_areOne h hI hv hr hqv hr' hL hY).1 he
          obtain ⟨G2, r2, q2, h2, s2⟩ := s_keys (is := true) h1 hW.1 hqv hr' hfit' h31' (hI.kk hr2')
          obtain ⟨G3, D3, r3, h3, s3⟩ := s_takeAll h2 (hI.thr 0 |>.w p) hv hr (hI.kk hr2) q2
          refine ⟨_, D3, G3, m, ?_, h3, y2, y3, Nat.le_succ m, y4, ((s1.trans s2).trans s3).mono (by omega) (by omega)⟩
          unfold f_M_removeAll
          rw [gOb_of h.2.2.1 rfl, r1, bI_rI, if_pos rfl, gOb_of h1.2.2.1 rfl, ← mB_1, r2, bA_rA, gOb_of h2.2.2.1 rfl, r3, bI_rI]
          rfl
    · refine Sim.no hR hI 1 (by decide) (by decide) ?_ (fun G D h => ?_)
      · unfold f_X_removeAll
        simp only [x_needList hX hW hL, x_needList_no hX hW hy, c_ob_0, c_fa_0_0, c_fa_0_1, c_fi_0_2, c_put_0_2, c_fi_0_3, c_put_0_3, c_fi_0_4, c_put_0_4, c_ob_1, c_fa_1_0, c_fa_1_1, c_fa_1_2, c_fa_1_3, c_fa_1_4, c_fa_1_5, c_fi_1_6, c_put_1_6, c_ob_2, c_fa_2_0, c_ob_4, c_fa_4_0, c_ob_6, c_fa_6_0, c_ob_8, c_fa_8_0, c_ob_10, c_fa_10_0, c_ob_12, c_fa_12_0, c_ob_14, c_fa_14_0, c_fa_14_1, c_fa_14_2, c_fa_14_3, c_fi_14_4, c_put_14_4, c_ob_15, c_fa_15_0, c_ob_17, c_fa_17_0, c_ob_19, c_fa_19_0, c_ob_21, c_fa_21_0, c_len_0, c_ld_0, c_st_0, c_rd_0, c_wr_0, c_len_1, c_ld_1, c_st_1, c_rd_1, c_wr_1, c_len_2, c_ld_2, c_st_2, c_rd_2, c_wr_2, c_len_3, c_ld_3, c_st_3, c_rd_3, c_wr_3, c_len_4, c_ld_4, c_st_4, c_rd_4, c_wr_4, c_len_5, c_ld_5, c_st_5, c_rd_5, c_wr_5, c_len_6, c_ld_6, c_st_6, c_rd_6, c_wr_6, c_len_7, c_ld_7, c_st_7, c_rd_7, c_wr_7, c_len_8, c_ld_8, c_st_8, c_rd_8, c_wr_8, c_len_9, c_ld_9, c_st_9, c_rd_9, c_wr_9, bI_rI, bL_rL, bA_rA, bV_rV, bI_th, bL_th, bA_th, bV_th, rZ_0, rZ_1]
        rfl
      · obtain ⟨G1, r1, h1, s1⟩ := s_areOne_x h (fun k => hy k.2)
        refine ⟨G1, ?_, h1, s1⟩
        unfold f_M_removeAll
        rw [gOb_of h.2.2.1 rfl, r1, bI_rI, if_neg (by decide)]
        rfl
  · refine Sim.no hR hI 1 (by decide) (by decide) ?_ (fun G D h => ?_)
    · unfold f_X_removeAll
      simp only [x_needList_no hX (hI.w 0) hx, c_ob_0, c_fa_0_0, c_fa_0_1, c_fi_0_2, c_put_0_2, c_fi_0_3, c_put_0_3, c_fi_0_4, c_put_0_4, c_ob_1, c_fa_1_0, c_fa_1_1, c_fa_1_2, c_fa_1_3, c_fa_1_4, c_fa_1_5, c_fi_1_6, c_put_1_6, c_ob_2, c_fa_2_0, c_ob_4, c_fa_4_0, c_ob_6, c_fa_6_0, c_ob_8, c_fa_8_0, c_ob_10, c_fa_10_0, c_ob_12, c_fa_12_0, c_ob_14, c_fa_14_0, c_fa_14_1, c_fa_14_2, c_fa_14_3, c_fi_14_4, c_put_14_4, c_ob_15, c_fa_15_0, c_ob_17, c_fa_17_0, c_ob_19, c_fa_19_0, c_ob_21, c_fa_21_0, c_len_0, c_ld_0, c_st_0, c_rd_0, c_wr_0, c_len_1, c_ld_1, c_st_1, c_rd_1, c_wr_1, c_len_2, c_ld_2, c_st_2, c_rd_2, c_wr_2, c_len_3, c_ld_3, c_st_3, c_rd_3, c_wr_3, c_len_4, c_ld_4, c_st_4, c_rd_4, c_wr_4, c_len_5, c_ld_5, c_st_5, c_rd_5, c_wr_5, c_len_6, c_ld_6, c_st_6, c_rd_6, c_wr_6, c_len_7, c_ld_7, c_st_7, c_rd_7, c_wr_7, c_len_8, c_ld_8, c_st_8, c_rd_8, c_wr_8, c_len_9, c_ld_9, c_st_9, c_rd_9, c_wr_9, bI_rI, bL_rL, bA_rA, bV_rV, bI_th, bL_th, bA_th, bV_th, rZ_0, rZ_1]
      rfl
    · obtain ⟨G1, r1, h1, s1⟩ := s_areOne_x (y := y) h (fun k => hx k.1)
      refine ⟨G1, ?_, h1, s1⟩
      unfold f_M_removeAll
      rw [gOb_of h.2.2.1 rfl, r1, bI_rI, if_neg (by decide)]
      rfl
theorem sim_retainAll (hR : CRep σ A) (hI : mInv m A) (x y : Int32) : SimOp w b o A m σ H xIS (f_X_retainAll (cPut b σ H) b x y) (fun G => f_M_retainAll G o x y) := by
  have hX := CRepx.of (exc := -1) hR
  by_cases hx : mIsL A x
  · have hL := hx
    obtain ⟨p, hp, rfl, hv⟩ := hx
    have hv : mV A p := hv
    obtain ⟨r, s, hr, hr2, hfit, h31, hp6, hro⟩ := hI.pl hv
    have hW := hI.w p
    by_cases hy : mIsL A y
    · have hY := hy
      obtain ⟨q, hq, rfl, hqv⟩ := hy
      have hqv : mV A q := hqv
      obtain ⟨r', s', hr', hr2', hfit', h31', hp6', hro'⟩ := hI.pl hqv
      by_cases he : r = r'
      · subst he
        refine Sim.no hR hI 2 (by decide) (by decide) ?_ (fun G D h => ?_)
        · unfold f_X_retainAll
          simp only [x_needList hX hW hL, x_needList hX hW hY, (x_needOther hX hW.1 hv hr hqv hr').2 rfl, c_ob_0, c_fa_0_0, c_fa_0_1, c_fi_0_2, c_put_0_2, c_fi_0_3, c_put_0_3, c_fi_0_4, c_put_0_4, c_ob_1, c_fa_1_0, c_fa_1_1, c_fa_1_2, c_fa_1_3, c_fa_1_4, c_fa_1_5, c_fi_1_6, c_put_1_6, c_ob_2, c_fa_2_0, c_ob_4, c_fa_4_0, c_ob_6, c_fa_6_0, c_ob_8, c_fa_8_0, c_ob_10, c_fa_10_0, c_ob_12, c_fa_12_0, c_ob_14, c_fa_14_0, c_fa_14_1, c_fa_14_2, c_fa_14_3, c_fi_14_4, c_put_14_4, c_ob_15, c_fa_15_0, c_ob_17, c_fa_17_0, c_ob_19, c_fa_19_0, c_ob_21, c_fa_21_0, c_len_0, c_ld_0, c_st_0, c_rd_0, c_wr_0, c_len_1, c_ld_1, c_st_1, c_rd_1, c_wr_1, c_len_2, c_ld_2, c_st_2, c_rd_2, c_wr_2, c_len_3, c_ld_3, c_st_3, c_rd_3, c_wr_3, c_len_4, c_ld_4, c_st_4, c_rd_4, c_wr_4, c_len_5, c_ld_5, c_st_5, c_rd_5, c_wr_5, c_len_6, c_ld_6, c_st_6, c_rd_6, c_wr_6, c_len_7, c_ld_7, c_st_7, c_rd_7, c_wr_7, c_len_8, c_ld_8, c_st_8, c_rd_8, c_wr_8, c_len_9, c_ld_9, c_st_9, c_rd_9, c_wr_9, bI_rI, bL_rL, bA_rA, bV_rV, bI_th, bL_th, bA_th, bV_th, rZ_0, rZ_1]
          rfl
        · obtain ⟨G1, r1, h1, s1⟩ := (s_areOne h hI hv hr hqv hr' hL hY).2 rfl
          refine ⟨G1, ?_, h1, s1⟩
          unfold f_M_retainAll
          rw [gOb_of h.2.2.1 rfl, r1, bI_rI, if_neg (by decide)]
          rfl
      · obtain ⟨v, x1, x2⟩ := x_keys (b := b) (H := H) hX (hI.w q) hqv hr' (hI.kk hr2')
        obtain ⟨σ', y1, y2, y3, y4⟩ := b_rm (b := b) (H := H) (goers := v ^^^ (-1)) (g := fun k => false == gK (sSeg A r' s' (mLen A q)) k) hR hI hv hr (gBit_of (fun k hk => by rw [bit_xor, x2 k hk, bit_m1 k hk]; cases gK (sSeg A r' s' (mLen A q)) k <;> rfl))
        refine Sim.yes (nI ((A.1 r).length - (sLeft (fun k => false == gK (sSeg A r' s' (mLen A q)) k) (A.1 r) s (mLen A p)).length)) σ' ?_ (fun G D h => ?_)
        · unfold f_X_retainAll
          simp only [x_needList hX hW hL, x_needList hX hW hY, (x_needOther hX hW.1 hv hr hqv hr').1 he, x1, y1, c_ob_0, c_fa_0_0, c_fa_0_1, c_fi_0_2, c_put_0_2, c_fi_0_3, c_put_0_3, c_fi_0_4, c_put_0_4, c_ob_1, c_fa_1_0, c_fa_1_1, c_fa_1_2, c_fa_1_3, c_fa_1_4, c_fa_1_5, c_fi_1_6, c_put_1_6, c_ob_2, c_fa_2_0, c_ob_4, c_fa_4_0, c_ob_6, c_fa_6_0, c_ob_8, c_fa_8_0, c_ob_10, c_fa_10_0, c_ob_12, c_fa_12_0, c_ob_14, c_fa_14_0, c_fa_14_1, c_fa_14_2, c_fa_14_3, c_fi_14_4, c_put_14_4, c_ob_15, c_fa_15_0, c_ob_17, c_fa_17_0, c_ob_19, c_fa_19_0, c_ob_21, c_fa_21_0, c_len_0, c_ld_0, c_st_0, c_rd_0, c_wr_0, c_len_1, c_ld_1, c_st_1, c_rd_1, c_wr_1, c_len_2, c_ld_2, c_st_2, c_rd_2, c_wr_2, c_len_3, c_ld_3, c_st_3, c_rd_3, c_wr_3, c_len_4, c_ld_4, c_st_4, c_rd_4, c_wr_4, c_len_5, c_ld_5, c_st_5, c_rd_5, c_wr_5, c_len_6, c_ld_6, c_st_6, c_rd_6, c_wr_6, c_len_7, c_ld_7, c_st_7, c_rd_7, c_wr_7, c_len_8, c_ld_8, c_st_8, c_rd_8, c_wr_8, c_len_9, c_ld_9, c_st_9, c_rd_9, c_wr_9, bI_rI, bL_rL, bA_rA, bV_rV, bI_th, bL_th, bA_th, bV_th, rZ_0, rZ_1]
        · obtain ⟨G1, r1, h1, s1⟩ := (s_areOne h hI hv hr hqv hr' hL hY).1 he
          obtain ⟨G2, r2, q2, h2, s2⟩ := s_keys (is := false) h1 hW.1 hqv hr' hfit' h31' (hI.kk hr2')
          obtain ⟨G3, D3, r3, h3, s3⟩ := s_takeAll h2 (hI.thr 0 |>.w p) hv hr (hI.kk hr2) q2
          refine ⟨_, D3, G3, m, ?_, h3, y2, y3, Nat.le_succ m, y4, ((s1.trans s2).trans s3).mono (by omega) (by omega)⟩
          unfold f_M_retainAll
          rw [gOb_of h.2.2.1 rfl, r1, bI_rI, if_pos rfl, gOb_of h1.2.2.1 rfl, ← mB_0, r2, bA_rA, gOb_of h2.2.2.1 rfl, r3, bI_rI]
          rfl
    · refine Sim.no hR hI 1 (by decide) (by decide) ?_ (fun G D h => ?_)
      · unfold f_X_retainAll
        simp only [x_needList hX hW hL, x_needList_no hX hW hy, c_ob_0, c_fa_0_0, c_fa_0_1, c_fi_0_2, c_put_0_2, c_fi_0_3, c_put_0_3, c_fi_0_4, c_put_0_4, c_ob_1, c_fa_1_0, c_fa_1_1, c_fa_1_2, c_fa_1_3, c_fa_1_4, c_fa_1_5, c_fi_1_6, c_put_1_6, c_ob_2, c_fa_2_0, c_ob_4, c_fa_4_0, c_ob_6, c_fa_6_0, c_ob_8, c_fa_8_0, c_ob_10, c_fa_10_0, c_ob_12, c_fa_12_0, c_ob_14, c_fa_14_0, c_fa_14_1, c_fa_14_2, c_fa_14_3, c_fi_14_4, c_put_14_4, c_ob_15, c_fa_15_0, c_ob_17, c_fa_17_0, c_ob_19, c_fa_19_0, c_ob_21, c_fa_21_0, c_len_0, c_ld_0, c_st_0, c_rd_0, c_wr_0, c_len_1, c_ld_1, c_st_1, c_rd_1, c_wr_1, c_len_2, c_ld_2, c_st_2, c_rd_2, c_wr_2, c_len_3, c_ld_3, c_st_3, c_rd_3, c_wr_3, c_len_4, c_ld_4, c_st_4, c_rd_4, c_wr_4, c_len_5, c_ld_5, c_st_5, c_rd_5, c_wr_5, c_len_6, c_ld_6, c_st_6, c_rd_6, c_wr_6, c_len_7, c_ld_7, c_st_7, c_rd_7, c_wr_7, c_len_8, c_ld_8, c_st_8, c_rd_8, c_wr_8, c_len_9, c_ld_9, c_st_9, c_rd_9, c_wr_9, bI_rI, bL_rL, bA_rA, bV_rV, bI_th, bL_th, bA_th, bV_th, rZ_0, rZ_1]
        rfl
      · obtain ⟨G1, r1, h1, s1⟩ := s_areOne_x h (fun k => hy k.2)
        refine ⟨G1, ?_, h1, s1⟩
        unfold f_M_retainAll
        rw [gOb_of h.2.2.1 rfl, r1, bI_rI, if_neg (by decide)]
        rfl
  · refine Sim.no hR hI 1 (by decide) (by decide) ?_ (fun G D h => ?_)
    · unfold f_X_retainAll
      simp only [x_needList_no hX (hI.w 0) hx, c_ob_0, c_fa_0_0, c_fa_0_1, c_fi_0_2, c_put_0_2, c_fi_0_3, c_put_0_3, c_fi_0_4, c_put_0_4, c_ob_1, c_fa_1_0, c_fa_1_1, c_fa_1_2, c_fa_1_3, c_fa_1_4, c_fa_1_5, c_fi_1_6, c_put_1_6, c_ob_2, c_fa_2_0, c_ob_4, c_fa_4_0, c_ob_6, c_fa_6_0, c_ob_8, c_fa_8_0, c_ob_10, c_fa_10_0, c_ob_12, c_fa_12_0, c_ob_14, c_fa_14_0, c_fa_14_1, c_fa_14_2, c_fa_14_3, c_fi_14_4, c_put_14_4, c_ob_15, c_fa_15_0, c_ob_17, c_fa_17_0, c_ob_19, c_fa_19_0, c_ob_21, c_fa_21_0, c_len_0, c_ld_0, c_st_0, c_rd_0, c_wr_0, c_len_1, c_ld_1, c_st_1, c_rd_1, c_wr_1, c_len_2, c_ld_2, c_st_2, c_rd_2, c_wr_2, c_len_3, c_ld_3, c_st_3, c_rd_3, c_wr_3, c_len_4, c_ld_4, c_st_4, c_rd_4, c_wr_4, c_len_5, c_ld_5, c_st_5, c_rd_5, c_wr_5, c_len_6, c_ld_6, c_st_6, c_rd_6, c_wr_6, c_len_7, c_ld_7, c_st_7, c_rd_7, c_wr_7, c_len_8, c_ld_8, c_st_8, c_rd_8, c_wr_8, c_len_9, c_ld_9, c_st_9, c_rd_9, c_wr_9, bI_rI, bL_rL, bA_rA, bV_rV, bI_th, bL_th, bA_th, bV_th, rZ_0, rZ_1]
      rfl
    · obtain ⟨G1, r1, h1, s1⟩ := s_areOne_x (y := y) h (fun k => hx k.1)
      refine ⟨G1, ?_, h1, s1⟩
      unfold f_M_retainAll
      rw [gOb_of h.2.2.1 rfl, r1, bI_rI, if_neg (by decide)]
      rfl
theorem sim_clear (hR : CRep σ A) (hI : mInv m A) (x : Int32) : SimOp w b o A m σ H xI1 (f_X_clear (cPut b σ H) b x) (fun G => f_M_clear G o x) := by
  have hX := CRepx.of (exc := -1) hR
  by_cases hx : mIsL A x
  · have hL := hx
    obtain ⟨p, hp, rfl, hv⟩ := hx
    have hv : mV A p := hv
    obtain ⟨r, s, hr, hr2, hfit, h31, hp6, hro⟩ := hI.pl hv
    have hW := hI.w p
    have hWt : mInw (-1) p (mSet A 0 0) := (hI.thr 0).w p
    obtain ⟨σ', y1, y2, y3, y4⟩ := b_rm (b := b) (H := H) (goers := -1) (g := fun _ => true) hR hI hv hr (gBit_of (fun k hk => bit_m1 k hk))
    have hlt := sLeft_true hfit
    refine Sim.yes (nI (mLen A p)) σ' ?_ (fun G D h => ?_)
    · unfold f_X_clear
      simp only [x_needList hX hW hL, y1, c_ob_0, c_fa_0_0, c_fa_0_1, c_fi_0_2, c_put_0_2, c_fi_0_3, c_put_0_3, c_fi_0_4, c_put_0_4, c_ob_1, c_fa_1_0, c_fa_1_1, c_fa_1_2, c_fa_1_3, c_fa_1_4, c_fa_1_5, c_fi_1_6, c_put_1_6, c_ob_2, c_fa_2_0, c_ob_4, c_fa_4_0, c_ob_6, c_fa_6_0, c_ob_8, c_fa_8_0, c_ob_10, c_fa_10_0, c_ob_12, c_fa_12_0, c_ob_14, c_fa_14_0, c_fa_14_1, c_fa_14_2, c_fa_14_3, c_fi_14_4, c_put_14_4, c_ob_15, c_fa_15_0, c_ob_17, c_fa_17_0, c_ob_19, c_fa_19_0, c_ob_21, c_fa_21_0, c_len_0, c_ld_0, c_st_0, c_rd_0, c_wr_0, c_len_1, c_ld_1, c_st_1, c_rd_1, c_wr_1, c_len_2, c_ld_2, c_st_2, c_rd_2, c_wr_2, c_len_3, c_ld_3, c_st_3, c_rd_3, c_wr_3, c_len_4, c_ld_4, c_st_4, c_rd_4, c_wr_4, c_len_5, c_ld_5, c_st_5, c_rd_5, c_wr_5, c_len_6, c_ld_6, c_st_6, c_rd_6, c_wr_6, c_len_7, c_ld_7, c_st_7, c_rd_7, c_wr_7, c_len_8, c_ld_8, c_st_8, c_rd_8, c_wr_8, c_len_9, c_ld_9, c_st_9, c_rd_9, c_wr_9, bI_rI, bL_rL, bA_rA, bV_rV, bI_th, bL_th, bA_th, bV_th, rZ_0, rZ_1]
      rw [show (A.1 r).length - (sLeft (fun _ => true) (A.1 r) s (mLen A p)).length = mLen A p by omega]
    · obtain ⟨G1, r1, h1, s1⟩ := r_list1 h hL
      obtain ⟨G2, r2, h2, s2⟩ := m_clearL (K := fun G25 x22 x23 x24 => gOb G25 x22 6 fun o27 => bV (f_M_change G25 x22 x23 (-x24) (-1)) fun G29 => rI x24 G29) (x2 := nI (mLen A p)) hWt.1 hv hr hfit h31 (mLen A p) zFu G1 (Nat.le_refl _) (by unfold zFu; omega) (by
        show MS w o G1 (mRows (mSet A 0 0) r (sRj (fun _ => true) (A.1 r) s (mLen A p) (mLen A p))) D
        rw [sRj_top hfit, show mRows (mSet A 0 0) r (A.1 r) = mSet A 0 0 from mRows_self (A := mSet A 0 0)]
        exact h1)
      obtain ⟨G3, F, r3, h3, s3⟩ := s_change (A := mSet A 0 0) (z := ((sLeft (fun _ => true) (A.1 r) s (mLen A p)).length : Int) - ((A.1 r).length : Int)) (exc := -1) h2 hWt hv hr (by omega) (by show 0 ≤ (mLen A p : Int) + _; omega) (by show ((A.1 r).length : Int) + _ ≤ 31; omega)
      have r3' : f_M_change G2 o (nI p) (-(nI (mLen A p))) (-1) = rV G3 := by
        rw [neg_nI, show -((mLen A p : Nat) : Int) = ((sLeft (fun _ => true) (A.1 r) s (mLen A p)).length : Int) - ((A.1 r).length : Int) by omega]
        exact r3
      refine ⟨_, _, G3, m, ?_, h3, y2, y3, Nat.le_succ m, y4, ((s1.trans s2).trans s3.st).mono (by omega) (by omega)⟩
      unfold f_M_clear
      rw [r1, gOb_of h1.2.2.1 rfl, s_len h1 hW.1 hv, bI_rI, nI_s1]
      rw [show f_M_clear_L25 (fun G25 x22 x23 x24 => gOb G25 x22 6 fun o27 => bV (f_M_change G25 x22 x23 (-x24) (-1)) fun G29 => rI x24 G29) zFu G1 o (nI p) (nI (mLen (mSet A 0 0) p)) (nI (mLen (mSet A 0 0) p) + (-1)) = _ from r2, gOb_of h2.2.2.1 rfl, r3', bV_rV]
  · refine Sim.no hR hI 1 (by decide) (by decide) ?_ (fun G D h => ?_)
    · unfold f_X_clear
      simp only [x_needList_no hX (hI.w 0) hx, c_ob_0, c_fa_0_0, c_fa_0_1, c_fi_0_2, c_put_0_2, c_fi_0_3, c_put_0_3, c_fi_0_4, c_put_0_4, c_ob_1, c_fa_1_0, c_fa_1_1, c_fa_1_2, c_fa_1_3, c_fa_1_4, c_fa_1_5, c_fi_1_6, c_put_1_6, c_ob_2, c_fa_2_0, c_ob_4, c_fa_4_0, c_ob_6, c_fa_6_0, c_ob_8, c_fa_8_0, c_ob_10, c_fa_10_0, c_ob_12, c_fa_12_0, c_ob_14, c_fa_14_0, c_fa_14_1, c_fa_14_2, c_fa_14_3, c_fi_14_4, c_put_14_4, c_ob_15, c_fa_15_0, c_ob_17, c_fa_17_0, c_ob_19, c_fa_19_0, c_ob_21, c_fa_21_0, c_len_0, c_ld_0, c_st_0, c_rd_0, c_wr_0, c_len_1, c_ld_1, c_st_1, c_rd_1, c_wr_1, c_len_2, c_ld_2, c_st_2, c_rd_2, c_wr_2, c_len_3, c_ld_3, c_st_3, c_rd_3, c_wr_3, c_len_4, c_ld_4, c_st_4, c_rd_4, c_wr_4, c_len_5, c_ld_5, c_st_5, c_rd_5, c_wr_5, c_len_6, c_ld_6, c_st_6, c_rd_6, c_wr_6, c_len_7, c_ld_7, c_st_7, c_rd_7, c_wr_7, c_len_8, c_ld_8, c_st_8, c_rd_8, c_wr_8, c_len_9, c_ld_9, c_st_9, c_rd_9, c_wr_9, bI_rI, bL_rL, bA_rA, bV_rV, bI_th, bL_th, bA_th, bV_th, rZ_0, rZ_1]
      rfl
    · obtain ⟨G1, r1, h1, s1⟩ := r_list0 h hx
      refine ⟨G1, ?_, h1, s1⟩
      unfold f_M_clear
      rw [r1]
      rfl
theorem sim_removeAt (hR : CRep σ A) (hI : mInv m A) (x i : Int32) : SimOp w b o A m σ H xI1 (f_X_removeAt (cPut b σ H) b x i) (fun G => f_M_removeAt G o x i) := by
  have hX := CRepx.of (exc := -1) hR
  by_cases hx : mIsL A x
  · have hL := hx
    obtain ⟨p, hp, rfl, hv⟩ := hx
    have hv : mV A p := hv
    obtain ⟨r, s, hr, hr2, hfit, h31, hp6, hro⟩ := hI.pl hv
    have hW := hI.w p
    have hWt : mInw (-1) p (mSet A 0 0) := (hI.thr 0).w p
    have hl100 : mLen A p < 100 := by omega
    by_cases hi : mIsP (mLen A p) i
    · have hi' := hi
      obtain ⟨i, hip, rfl⟩ := hi
      have ht := List.getElem?_eq_getElem (show s + i < (A.1 r).length by omega)
      generalize (A.1 r)[s + i] = t at ht
      have hto := (hI.2.2.1 r hr2).2 t (List.mem_of_getElem? ht)
      have hXt : CRepx (-1) σ (mSet A 0 0) := hX.thr 0
      obtain ⟨σ', y1, y2, -, -⟩ := x_takeOut (b := b) (G := H) (i := i) hXt hWt hv hr hip ht
      have hel : ((A.1 r).eraseIdx (s + i)).length = (A.1 r).length - 1 := List.length_eraseIdx_of_lt (by omega)
      obtain ⟨c1, -, -, -, c5⟩ := mChg_all (z := -1) (ts := (A.1 r).eraseIdx (s + i)) (hI.thr 0) hv hr (by rw [hel]; show _ = ((A.1 r).length : Int) + _; omega) (by omega) (by show 0 ≤ (mLen A p : Int) + _; omega) (fun z => by omega) (fun t ht => (hI.2.2.1 r hr2).2 t (er_mem _ _ ht))
      refine Sim.yes (nI t.2.2) σ' ?_ (fun G D h => ?_)
      · unfold f_X_removeAt
        simp only [x_needList hX hW hL, (x_needPlace hX hW.1 hv hl100).1 hi', y1, c_ob_0, c_fa_0_0, c_fa_0_1, c_fi_0_2, c_put_0_2, c_fi_0_3, c_put_0_3, c_fi_0_4, c_put_0_4, c_ob_1, c_fa_1_0, c_fa_1_1, c_fa_1_2, c_fa_1_3, c_fa_1_4, c_fa_1_5, c_fi_1_6, c_put_1_6, c_ob_2, c_fa_2_0, c_ob_4, c_fa_4_0, c_ob_6, c_fa_6_0, c_ob_8, c_fa_8_0, c_ob_10, c_fa_10_0, c_ob_12, c_fa_12_0, c_ob_14, c_fa_14_0, c_fa_14_1, c_fa_14_2, c_fa_14_3, c_fi_14_4, c_put_14_4, c_ob_15, c_fa_15_0, c_ob_17, c_fa_17_0, c_ob_19, c_fa_19_0, c_ob_21, c_fa_21_0, c_len_0, c_ld_0, c_st_0, c_rd_0, c_wr_0, c_len_1, c_ld_1, c_st_1, c_rd_1, c_wr_1, c_len_2, c_ld_2, c_st_2, c_rd_2, c_wr_2, c_len_3, c_ld_3, c_st_3, c_rd_3, c_wr_3, c_len_4, c_ld_4, c_st_4, c_rd_4, c_wr_4, c_len_5, c_ld_5, c_st_5, c_rd_5, c_wr_5, c_len_6, c_ld_6, c_st_6, c_rd_6, c_wr_6, c_len_7, c_ld_7, c_st_7, c_rd_7, c_wr_7, c_len_8, c_ld_8, c_st_8, c_rd_8, c_wr_8, c_len_9, c_ld_9, c_st_9, c_rd_9, c_wr_9, bI_rI, bL_rL, bA_rA, bV_rV, bI_th, bL_th, bA_th, bV_th, rZ_0, rZ_1]
        rw [show cE t = nI (32 * t.2.2 + t.2.1) from rfl, x_tagOf (by have := hto.1; omega) (by have := hto.2; have := hI.2.2.2.2.2; omega), bI_rI]
      · obtain ⟨G1, r1, h1, s1⟩ := s_go h
        obtain ⟨G2, r2, h2, s2, t2, -⟩ := s_take (i := i) h1 hW.1 hv hr ht
        obtain ⟨G3, F, r3, h3, s3⟩ := s_change (z := -1) (exc := -1) h2 hWt hv hr (by omega) (by show 0 ≤ (mLen A p : Int) + _; omega) (by show ((A.1 r).length : Int) + _ ≤ 31; omega)
        rw [ofInt_m1] at r3
        refine ⟨_, _, G3, m, ?_, h3, y2, c1, Nat.le_succ m, c5 0 (by omega) (by omega), ((s1.trans s2).trans s3.st).mono (by omega) (by omega)⟩
        unfold f_M_removeAt
        rw [gOb_of h.2.2.1 rfl, (s_noList h _).1 hL, bI_rI, if_pos rfl, gOb_of h.2.2.1 rfl, (s_noPlace h hW.1 hv hl100 _).1 hi', bI_rI, if_pos rfl, gOb_of h.2.2.1 rfl, r1, bI_rI, if_pos rfl, gOb_of h1.2.2.1 rfl, r2, bA_rA, t2.tag, gOb_of h2.2.2.1 rfl, r3, bV_rV]
    · refine Sim.no hR hI 1 (by decide) (by decide) ?_ (fun G D h => ?_)
      · unfold f_X_removeAt
        simp only [x_needList hX hW hL, (x_needPlace hX hW.1 hv hl100).2 hi, c_ob_0, c_fa_0_0, c_fa_0_1, c_fi_0_2, c_put_0_2, c_fi_0_3, c_put_0_3, c_fi_0_4, c_put_0_4, c_ob_1, c_fa_1_0, c_fa_1_1, c_fa_1_2, c_fa_1_3, c_fa_1_4, c_fa_1_5, c_fi_1_6, c_put_1_6, c_ob_2, c_fa_2_0, c_ob_4, c_fa_4_0, c_ob_6, c_fa_6_0, c_ob_8, c_fa_8_0, c_ob_10, c_fa_10_0, c_ob_12, c_fa_12_0, c_ob_14, c_fa_14_0, c_fa_14_1, c_fa_14_2, c_fa_14_3, c_fi_14_4, c_put_14_4, c_ob_15, c_fa_15_0, c_ob_17, c_fa_17_0, c_ob_19, c_fa_19_0, c_ob_21, c_fa_21_0, c_len_0, c_ld_0, c_st_0, c_rd_0, c_wr_0, c_len_1, c_ld_1, c_st_1, c_rd_1, c_wr_1, c_len_2, c_ld_2, c_st_2, c_rd_2, c_wr_2, c_len_3, c_ld_3, c_st_3, c_rd_3, c_wr_3, c_len_4, c_ld_4, c_st_4, c_rd_4, c_wr_4, c_len_5, c_ld_5, c_st_5, c_rd_5, c_wr_5, c_len_6, c_ld_6, c_st_6, c_rd_6, c_wr_6, c_len_7, c_ld_7, c_st_7, c_rd_7, c_wr_7, c_len_8, c_ld_8, c_st_8, c_rd_8, c_wr_8, c_len_9, c_ld_9, c_st_9, c_rd_9, c_wr_9, bI_rI, bL_rL, bA_rA, bV_rV, bI_th, bL_th, bA_th, bV_th, rZ_0, rZ_1]
        rfl
      · obtain ⟨G1, r1, h1, s1⟩ := s_halt1 h
        refine ⟨G1, ?_, h1, s1⟩
        unfold f_M_removeAt
        rw [gOb_of h.2.2.1 rfl, (s_noList h _).1 hL, bI_rI, if_pos rfl, gOb_of h.2.2.1 rfl, (s_noPlace h hW.1 hv hl100 _).2 hi, bI_rI, if_neg (by decide), gOb_of h.2.2.1 rfl, r1, bI_rI, if_neg (by decide)]
        rfl
  · refine Sim.no hR hI 1 (by decide) (by decide) ?_ (fun G D h => ?_)
    · unfold f_X_removeAt
      simp only [x_needList_no hX (hI.w 0) hx, c_ob_0, c_fa_0_0, c_fa_0_1, c_fi_0_2, c_put_0_2, c_fi_0_3, c_put_0_3, c_fi_0_4, c_put_0_4, c_ob_1, c_fa_1_0, c_fa_1_1, c_fa_1_2, c_fa_1_3, c_fa_1_4, c_fa_1_5, c_fi_1_6, c_put_1_6, c_ob_2, c_fa_2_0, c_ob_4, c_fa_4_0, c_ob_6, c_fa_6_0, c_ob_8, c_fa_8_0, c_ob_10, c_fa_10_0, c_ob_12, c_fa_12_0, c_ob_14, c_fa_14_0, c_fa_14_1, c_fa_14_2, c_fa_14_3, c_fi_14_4, c_put_14_4, c_ob_15, c_fa_15_0, c_ob_17, c_fa_17_0, c_ob_19, c_fa_19_0, c_ob_21, c_fa_21_0, c_len_0, c_ld_0, c_st_0, c_rd_0, c_wr_0, c_len_1, c_ld_1, c_st_1, c_rd_1, c_wr_1, c_len_2, c_ld_2, c_st_2, c_rd_2, c_wr_2, c_len_3, c_ld_3, c_st_3, c_rd_3, c_wr_3, c_len_4, c_ld_4, c_st_4, c_rd_4, c_wr_4, c_len_5, c_ld_5, c_st_5, c_rd_5, c_wr_5, c_len_6, c_ld_6, c_st_6, c_rd_6, c_wr_6, c_len_7, c_ld_7, c_st_7, c_rd_7, c_wr_7, c_len_8, c_ld_8, c_st_8, c_rd_8, c_wr_8, c_len_9, c_ld_9, c_st_9, c_rd_9, c_wr_9, bI_rI, bL_rL, bA_rA, bV_rV, bI_th, bL_th, bA_th, bV_th, rZ_0, rZ_1]
      rfl
    · obtain ⟨G1, r1, h1, s1⟩ := s_halt1 h
      refine ⟨G1, ?_, h1, s1⟩
      unfold f_M_removeAt
      rw [gOb_of h.2.2.1 rfl, (s_noList h _).2 hx, bI_rI, if_neg (by decide), gOb_of h.2.2.1 rfl, r1, bI_rI, if_neg (by decide)]
      rfl
end Rm
