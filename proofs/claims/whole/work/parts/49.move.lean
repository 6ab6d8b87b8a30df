section Mov
variable {w : Nat → Nat} {b o m : Nat} {A : mS} {σ : cS} {H : gH}
theorem by_nat {x : Int32} (h1 : ¬ x < -40) (h2 : x ≤ nI 40) : ∃ z : Nat, z < 81 ∧ x = Int32.ofInt ((z : Int) - 40) := by
  rw [Int32.lt_iff_toInt_lt] at h1
  rw [Int32.le_iff_toInt_le, nI_toInt (by omega)] at h2
  rw [show (-40 : Int32).toInt = -40 by decide] at h1
  refine ⟨(x.toInt + 40).toNat, by omega, ?_⟩
  rw [show (((x.toInt + 40).toNat : Nat) : Int) - 40 = x.toInt by omega, Int32.ofInt_toInt]
theorem ref_in {G : gH} {y : Int32} : (¬ y < -40 ∧ ¬ nI 40 < y → f_M_isIn G y (-40) (nI 40) = rI 1 G) ∧ (¬ (¬ y < -40 ∧ ¬ nI 40 < y) → f_M_isIn G y (-40) (nI 40) = rI 0 G) := by
  refine ⟨fun k => ?_, fun k => ?_⟩
  · rw [m_isIn, decide_eq_true k]; exact rZ_1
  · rw [m_isIn, decide_eq_false k]; exact rZ_0
theorem sim_move (hR : CRep σ A) (hI : mInv m A) (x y : Int32) : SimOp w b o A m σ H xIG (f_X_move (cPut b σ H) b x y) (fun G => f_M_move w G o x y) := by
  have hX := CRepx.of (exc := -1) hR
  by_cases hx : mIsL A x
  · have hL := hx
    obtain ⟨p, hp, rfl, hv⟩ := hx
    have hv : mV A p := hv
    obtain ⟨r, s, hr, hr2, hfit, h31, hp6, hro⟩ := hI.pl hv
    have hW := hI.w p
    have hIt : mInv m (mSet A 0 0) := hI.thr 0
    have hsl : (sSeg A r s (mLen A p)).length = mLen A p := sSeg_len hfit
    by_cases hy : ¬ y < -40 ∧ ¬ nI 40 < y
    · obtain ⟨z, hz, rfl⟩ := by_nat hy.1 (Int32.not_lt.mp hy.2)
      have hts : ∀ (G1 G2 : gH) (D : mD) (k n : Nat), MS w o G1 (mSet A 0 0) D → mSt k n G1 G2 → mTs G2 (sSeg A r s (mLen A p)) := fun G1 G2 D k n h1 a7 => (h1.ts (s := s) (n := mLen A p) hr2 (hI.2.2.1 r hr2).2 hI.2.2.2.2.2).st h1.1 a7
      by_cases h0 : mLen A p = 0
      · refine Sim.yes (-1) σ ?_ (fun G D h => ?_)
        · unfold f_X_move
          simp only [x_needList hX hW hL, x_len hX hW.1 hv, c_ob_0, c_fa_0_0, c_fa_0_1, c_fi_0_2, c_put_0_2, c_fi_0_3, c_put_0_3, c_fi_0_4, c_put_0_4, c_ob_1, c_fa_1_0, c_fa_1_1, c_fa_1_2, c_fa_1_3, c_fa_1_4, c_fa_1_5, c_fi_1_6, c_put_1_6, c_ob_2, c_fa_2_0, c_ob_4, c_fa_4_0, c_ob_6, c_fa_6_0, c_ob_8, c_fa_8_0, c_ob_10, c_fa_10_0, c_ob_12, c_fa_12_0, c_ob_14, c_fa_14_0, c_fa_14_1, c_fa_14_2, c_fa_14_3, c_fi_14_4, c_put_14_4, c_ob_15, c_fa_15_0, c_ob_17, c_fa_17_0, c_ob_19, c_fa_19_0, c_ob_21, c_fa_21_0, c_len_0, c_ld_0, c_st_0, c_rd_0, c_wr_0, c_len_1, c_ld_1, c_st_1, c_rd_1, c_wr_1, c_len_2, c_ld_2, c_st_2, c_rd_2, c_wr_2, c_len_3, c_ld_3, c_st_3, c_rd_3, c_wr_3, c_len_4, c_ld_4, c_st_4, c_rd_4, c_wr_4, c_len_5, c_ld_5, c_st_5, c_rd_5, c_wr_5, c_len_6, c_ld_6, c_st_6, c_rd_6, c_wr_6, c_len_7, c_ld_7, c_st_7, c_rd_7, c_wr_7, c_len_8, c_ld_8, c_st_8, c_rd_8, c_wr_8, c_len_9, c_ld_9, c_st_9, c_rd_9, c_wr_9, bI_rI, bL_rL, bA_rA, bV_rV, bI_th, bL_th, bA_th, bV_th, rZ_0, rZ_1]
          rw [if_neg hy.1, if_pos (Int32.not_lt.mp hy.2), h0, if_pos nI0]
        · obtain ⟨G1, r1, h1, s1⟩ := r_list1 h hL
          obtain ⟨G2, e, cap, a1, a2, a3, a4, -, a6, a7⟩ := s_copy h1 hW.1 hv hr hfit h31
          obtain ⟨m1, κ1, f1, u1, -⟩ := id a2
          have hlen : ((sSeg (mSet A 0 0) r s (mLen (mSet A 0 0) p)).map fun t => t.1).length = 0 := by
            rw [List.length_map]; exact hsl.trans h0
          refine ⟨_, D, G2, m, ?_, a6, hR, hIt, Nat.le_succ m, rfl, (s1.trans a7).mono (by omega) (by omega)⟩
          unfold f_M_move
          rw [r1, ref_in.1 hy, bI_rI, if_neg (by decide), r_ref0 h1 rfl, gOb_of h1.2.2.1 rfl, a1, bA_rA, gOb_of u1 rfl, al_size a2.al, bI_rI, hlen]
          show f_M_move_L54 w _ (5999 + 1) G2 o _ _ _ _ _ = _
          unfold f_M_move_L54
          rw [if_pos (nI_le (Nat.le_refl 0) (by omega)), if_pos nI0]
      · obtain ⟨σ1, y1, y2⟩ := x_moveOn (b := b) (G := H) (exc := -1) (z := z) (hX.thr 0) (hIt.w p) hv hr (hI.2.2.1 r hr2).2 hI.2.2.2.2.2 hz (show 0 < mLen A p by omega)
        have y1' : f_I_moveOn (cPut b σ H) (b + 1) (nI p) (Int32.ofInt ((z : Int) - 40)) = rV (cPut b σ1 H) := y1
        have hlB : (sMv (sFm z (mLen A p)) (sSeg A r s (mLen A p)) s 0 (mLen A p) (A.1 r)).length = (A.1 r).length := sMv_len ..
        have hIB : mInv m (mRows (mSet A 0 0) r (sMv (sFm z (mLen A p)) (sSeg A r s (mLen A p)) s 0 (mLen A p) (A.1 r))) := hIt.rows hlB (fun t ht => by
          rcases sMv_mem _ _ _ ht with q | q
          · exact (hI.2.2.1 r hr2).2 t q
          · exact (hI.2.2.1 r hr2).2 t (sSeg_mem q))
        change CRepx (-1) σ1 (mRows (mSet A 0 0) r (sMv (sFm z (mLen A p)) (sSeg A r s (mLen A p)) s 0 (mLen A p) (A.1 r))) at y2
        generalize hLn : sMv (sFm z (mLen A p)) (sSeg A r s (mLen A p)) s 0 (mLen A p) (A.1 r) = Ln at y2 hlB hIB
        have ht := List.getElem?_eq_getElem (show s + 0 < Ln.length by omega)
        generalize Ln[s + 0] = t at ht
        have hat : ((mRows (mSet A 0 0) r Ln).1 r)[s + 0]? = some t := by rw [mRows_at]; exact ht
        have hvB : mV (mRows (mSet A 0 0) r Ln) p := hv
        have hrB : mRw (mRows (mSet A 0 0) r Ln).2.1 zDp p = some (r, s) := hr
        have hto := (hIB.2.2.1 r hr2).2 t (List.mem_of_getElem? hat)
        have h600 := hI.2.2.2.2.2
        have n0 : ¬ nI (mLen A p) = 0 := fun q => h0 (nI_eq31 (by omega) (by omega) (q.trans nI0.symm))
        have x1 : f_I_thingAt (cPut b σ1 H) (b + 1) (nI p) (nI 0) = rI (nI (32 * t.2.2 + t.2.1)) (cPut b σ1 H) := x_at y2 (hIB.w p) hvB hrB hat
        refine Sim.yes (nI t.2.2) σ1 ?_ (fun G D h => ?_)
        · unfold f_X_move
          simp only [x_needList hX hW hL, x_len hX hW.1 hv, y1', x1, x_tagOf (show t.2.1 < 32 by have := hto.1; omega) (show t.2.2 ≤ 1000 by have := hto.2; omega), c_ob_0, c_fa_0_0, c_fa_0_1, c_fi_0_2, c_put_0_2, c_fi_0_3, c_put_0_3, c_fi_0_4, c_put_0_4, c_ob_1, c_fa_1_0, c_fa_1_1, c_fa_1_2, c_fa_1_3, c_fa_1_4, c_fa_1_5, c_fi_1_6, c_put_1_6, c_ob_2, c_fa_2_0, c_ob_4, c_fa_4_0, c_ob_6, c_fa_6_0, c_ob_8, c_fa_8_0, c_ob_10, c_fa_10_0, c_ob_12, c_fa_12_0, c_ob_14, c_fa_14_0, c_fa_14_1, c_fa_14_2, c_fa_14_3, c_fi_14_4, c_put_14_4, c_ob_15, c_fa_15_0, c_ob_17, c_fa_17_0, c_ob_19, c_fa_19_0, c_ob_21, c_fa_21_0, c_len_0, c_ld_0, c_st_0, c_rd_0, c_wr_0, c_len_1, c_ld_1, c_st_1, c_rd_1, c_wr_1, c_len_2, c_ld_2, c_st_2, c_rd_2, c_wr_2, c_len_3, c_ld_3, c_st_3, c_rd_3, c_wr_3, c_len_4, c_ld_4, c_st_4, c_rd_4, c_wr_4, c_len_5, c_ld_5, c_st_5, c_rd_5, c_wr_5, c_len_6, c_ld_6, c_st_6, c_rd_6, c_wr_6, c_len_7, c_ld_7, c_st_7, c_rd_7, c_wr_7, c_len_8, c_ld_8, c_st_8, c_rd_8, c_wr_8, c_len_9, c_ld_9, c_st_9, c_rd_9, c_wr_9, bI_rI, bL_rL, bA_rA, bV_rV, bI_th, bL_th, bA_th, bV_th, rZ_0, rZ_1]
          rw [if_neg hy.1, if_pos (Int32.not_lt.mp hy.2), if_neg n0]
        · obtain ⟨G1, r1, h1, s1⟩ := r_list1 h hL
          obtain ⟨G2, e, cap, a1, a2, a3, a4, -, a6, a7⟩ := s_copy h1 hW.1 hv hr hfit h31
          have hap : mAp w D G1.2.1 e := mAp.fresh (G' := G2) h1 rfl a4
          obtain ⟨m1, κ1, f1, u1, -⟩ := id a2
          obtain ⟨G3, b1, b2, b3⟩ := m_moveL (K := fun G46 x43 x44 x45 => if x45 = 0 then rI (-1) G46 else gOb G46 x43 6 fun o48 => bA (f_M_at G46 x43 x44 (nI 0)) fun v51 G50 => gLd G50 v51 100 (nI 1) fun v52 => rI v52 G50) (A := mSet A 0 0) (src := sSeg A r s (mLen A p)) (z := z) hW.1 hv hr hfit h31 hsl hap hz (mLen A p) zFu 0 G2 (A.1 r) (by show 0 + mLen A p = mLen A p; omega) (by unfold zFu; omega) rfl (by
            rw [show mRows (mSet A 0 0) r (A.1 r) = mSet A 0 0 from mRows_self (A := mSet A 0 0)]
            exact a6) a2 (hts G1 G2 D 5 83 h1 a7)
          have b2' : MS w o G3 (mRows (mSet A 0 0) r Ln) D := by rw [← hLn]; exact b2
          have hlen : ((sSeg (mSet A 0 0) r s (mLen (mSet A 0 0) p)).map fun t => t.1).length = mLen (mSet A 0 0) p := by
            rw [List.length_map]; exact hsl
          refine ⟨_, D, G3, m, ?_, b2', y2, hIB, Nat.le_succ m, rfl, ((s1.trans a7).trans b3).mono (by omega) (by omega)⟩
          unfold f_M_move
          rw [r1, ref_in.1 hy, bI_rI, if_neg (by decide), r_ref0 h1 rfl, gOb_of h1.2.2.1 rfl, a1, bA_rA, gOb_of u1 rfl, al_size a2.al, bI_rI, hlen, b1, if_neg (show ¬ nI (mLen (mSet A 0 0) p) = 0 from n0), gOb_of b2'.2.2.1 rfl, s_at b2' hIB.1 hvB hrB hat, bA_rA, (s_th b2' hr2 (by rw [mRows_at]; exact ht)).tag]
    · refine Sim.no hR hI 2 (by decide) (by decide) ?_ (fun G D h => ?_)
      · unfold f_X_move
        simp only [x_needList hX hW hL, c_ob_0, c_fa_0_0, c_fa_0_1, c_fi_0_2, c_put_0_2, c_fi_0_3, c_put_0_3, c_fi_0_4, c_put_0_4, c_ob_1, c_fa_1_0, c_fa_1_1, c_fa_1_2, c_fa_1_3, c_fa_1_4, c_fa_1_5, c_fi_1_6, c_put_1_6, c_ob_2, c_fa_2_0, c_ob_4, c_fa_4_0, c_ob_6, c_fa_6_0, c_ob_8, c_fa_8_0, c_ob_10, c_fa_10_0, c_ob_12, c_fa_12_0, c_ob_14, c_fa_14_0, c_fa_14_1, c_fa_14_2, c_fa_14_3, c_fi_14_4, c_put_14_4, c_ob_15, c_fa_15_0, c_ob_17, c_fa_17_0, c_ob_19, c_fa_19_0, c_ob_21, c_fa_21_0, c_len_0, c_ld_0, c_st_0, c_rd_0, c_wr_0, c_len_1, c_ld_1, c_st_1, c_rd_1, c_wr_1, c_len_2, c_ld_2, c_st_2, c_rd_2, c_wr_2, c_len_3, c_ld_3, c_st_3, c_rd_3, c_wr_3, c_len_4, c_ld_4, c_st_4, c_rd_4, c_wr_4, c_len_5, c_ld_5, c_st_5, c_rd_5, c_wr_5, c_len_6, c_ld_6, c_st_6, c_rd_6, c_wr_6, c_len_7, c_ld_7, c_st_7, c_rd_7, c_wr_7, c_len_8, c_ld_8, c_st_8, c_rd_8, c_wr_8, c_len_9, c_ld_9, c_st_9, c_rd_9, c_wr_9, bI_rI, bL_rL, bA_rA, bV_rV, bI_th, bL_th, bA_th, bV_th, rZ_0, rZ_1]
        by_cases h0 : y < -40
        · rw [if_pos h0]; rfl
        · rw [if_neg h0, if_neg (fun q => hy ⟨h0, Int32.not_lt.mpr q⟩)]; rfl
      · obtain ⟨G1, r1, h1, s1⟩ := r_list1 h hL
        obtain ⟨G2, r2, h2, s2⟩ := r_no1 (c := 2) h1 (by decide)
        refine ⟨G2, ?_, h2, (s1.trans s2).mono (by omega) (by omega)⟩
        unfold f_M_move
        rw [r1, ref_in.2 hy, bI_rI, if_pos rfl, r2]
        rfl
  · refine Sim.no hR hI 1 (by decide) (by decide) ?_ (fun G D h => ?_)
    · unfold f_X_move
      simp only [x_needList_no hX (hI.w 0) hx, c_ob_0, c_fa_0_0, c_fa_0_1, c_fi_0_2, c_put_0_2, c_fi_0_3, c_put_0_3, c_fi_0_4, c_put_0_4, c_ob_1, c_fa_1_0, c_fa_1_1, c_fa_1_2, c_fa_1_3, c_fa_1_4, c_fa_1_5, c_fi_1_6, c_put_1_6, c_ob_2, c_fa_2_0, c_ob_4, c_fa_4_0, c_ob_6, c_fa_6_0, c_ob_8, c_fa_8_0, c_ob_10, c_fa_10_0, c_ob_12, c_fa_12_0, c_ob_14, c_fa_14_0, c_fa_14_1, c_fa_14_2, c_fa_14_3, c_fi_14_4, c_put_14_4, c_ob_15, c_fa_15_0, c_ob_17, c_fa_17_0, c_ob_19, c_fa_19_0, c_ob_21, c_fa_21_0, c_len_0, c_ld_0, c_st_0, c_rd_0, c_wr_0, c_len_1, c_ld_1, c_st_1, c_rd_1, c_wr_1, c_len_2, c_ld_2, c_st_2, c_rd_2, c_wr_2, c_len_3, c_ld_3, c_st_3, c_rd_3, c_wr_3, c_len_4, c_ld_4, c_st_4, c_rd_4, c_wr_4, c_len_5, c_ld_5, c_st_5, c_rd_5, c_wr_5, c_len_6, c_ld_6, c_st_6, c_rd_6, c_wr_6, c_len_7, c_ld_7, c_st_7, c_rd_7, c_wr_7, c_len_8, c_ld_8, c_st_8, c_rd_8, c_wr_8, c_len_9, c_ld_9, c_st_9, c_rd_9, c_wr_9, bI_rI, bL_rL, bA_rA, bV_rV, bI_th, bL_th, bA_th, bV_th, rZ_0, rZ_1]
      rfl
    · obtain ⟨G1, r1, h1, s1⟩ := r_list0 h hx
      refine ⟨G1, ?_, h1, s1⟩
      unfold f_M_move
      rw [r1]
      rfl
end Mov
