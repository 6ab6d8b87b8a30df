section Srt
variable {w : Nat → Nat} {b o m : Nat} {A : mS} {σ : cS} {H : gH}
theorem sSpl_0 {L : List (Nat × Nat × Nat)} {s : Nat} : sSpl L s [] = L := by
  unfold sSpl; rw [List.nil_append, List.length_nil, Nat.add_zero, List.take_append_drop]
theorem s_order0 {G : gH} {a e cap : Nat} {v : Int32} (h : isALc w G a e cap []) : f_M_order G a v = rV G := by
  obtain ⟨m, κ, f, u1, -⟩ := id h
  unfold f_M_order
  show f_M_order_L2 _ (5999 + 1) G a v (nI 1) = _
  unfold f_M_order_L2
  rw [gOb_of u1 rfl, al_size h.al, bI_rI, List.length_nil, if_pos (nI_le (Nat.zero_le 1) (by omega))]
theorem sim_sort (hR : CRep σ A) (hI : mInv m A) (x y : Int32) : SimOp w b o A m σ H xIG (f_X_sort (cPut b σ H) b x y) (fun G => f_M_sort w G o x y) := by
  have hX := CRepx.of (exc := -1) hR
  by_cases hx : mIsL A x
  · have hL := hx
    obtain ⟨p, hp, rfl, hv⟩ := hx
    have hv : mV A p := hv
    obtain ⟨r, s, hr, hr2, hfit, h31, hp6, hro⟩ := hI.pl hv
    have hW := hI.w p
    have hIt : mInv m (mSet A 0 0) := hI.thr 0
    have hsl : (sSeg A r s (mLen A p)).length = mLen A p := sSeg_len hfit
    by_cases hy : mIsG 4 y
    · have hy' := hy
      obtain ⟨ord, ho4, rfl⟩ := hy
      have hol : (sSo (tR ord) [] (sSeg A r s (mLen A p))).length = mLen A p := by
        rw [sSo_len, hsl]; simp
      have hnew : (sSo (tR ord) [] (sSeg A r s (mLen A p))).map Prod.snd = sSo (sR ord) [] ((sSeg A r s (mLen A p)).map Prod.snd) := by
        rw [sSo_map (R := tR ord) (S := sR ord) Prod.snd (fun _ _ => rfl)]; rfl
      generalize hso : sSo (tR ord) [] (sSeg A r s (mLen A p)) = so at hol hnew
      obtain ⟨σ1, y1, y2⟩ := x_arrange (b := b) (G := H) (exc := -1) (new := so) (hX.thr 0) (hIt.w p) hv hr (hI.2.2.1 r hr2).2 hI.2.2.2.2.2 (show ord < 5 by omega) hnew
      have hIB : mInv m (mRows (mSet A 0 0) r (sSpl (A.1 r) s so)) := hIt.rows (sSpl_len (by rw [hol]; exact hfit)) (fun t ht => by
        rcases sSpl_mem ht with q | q
        · exact (hI.2.2.1 r hr2).2 t q
        · rw [← hso] at q
          rcases sSo_mem _ _ q with z | z
          · cases z
          · exact (hI.2.2.1 r hr2).2 t (sSeg_mem z))
      have hvB : mV (mRows (mSet A 0 0) r (sSpl (A.1 r) s so)) p := hv
      have hrB : mRw (mRows (mSet A 0 0) r (sSpl (A.1 r) s so)).2.1 zDp p = some (r, s) := hr
      obtain ⟨⟨σ', z1, z2⟩, z3, -, z4, -⟩ := x_ard (b := b) (H := H) y2 hIB hvB hrB
      have y1' : f_I_arrange (cPut b σ H) (b + 1) (nI p) (nI ord) = rI (nI (sDf ((sSeg A r s (mLen A p)).map Prod.snd) (so.map Prod.snd) 0 (mLen A p))) (cPut b σ1 H) := y1
      refine Sim.yes (nI (sDf ((sSeg A r s (mLen A p)).map Prod.snd) (so.map Prod.snd) 0 (mLen A p))) σ' ?_ (fun G D h => ?_)
      · unfold f_X_sort
        simp only [x_needList hX hW hL, y1', z1, c_ob_0, c_fa_0_0, c_fa_0_1, c_fi_0_2, c_put_0_2, c_fi_0_3, c_put_0_3, c_fi_0_4, c_put_0_4, c_ob_1, c_fa_1_0, c_fa_1_1, c_fa_1_2, c_fa_1_3, c_fa_1_4, c_fa_1_5, c_fi_1_6, c_put_1_6, c_ob_2, c_fa_2_0, c_ob_4, c_fa_4_0, c_ob_6, c_fa_6_0, c_ob_8, c_fa_8_0, c_ob_10, c_fa_10_0, c_ob_12, c_fa_12_0, c_ob_14, c_fa_14_0, c_fa_14_1, c_fa_14_2, c_fa_14_3, c_fi_14_4, c_put_14_4, c_ob_15, c_fa_15_0, c_ob_17, c_fa_17_0, c_ob_19, c_fa_19_0, c_ob_21, c_fa_21_0, c_len_0, c_ld_0, c_st_0, c_rd_0, c_wr_0, c_len_1, c_ld_1, c_st_1, c_rd_1, c_wr_1, c_len_2, c_ld_2, c_st_2, c_rd_2, c_wr_2, c_len_3, c_ld_3, c_st_3, c_rd_3, c_wr_3, c_len_4, c_ld_4, c_st_4, c_rd_4, c_wr_4, c_len_5, c_ld_5, c_st_5, c_rd_5, c_wr_5, c_len_6, c_ld_6, c_st_6, c_rd_6, c_wr_6, c_len_7, c_ld_7, c_st_7, c_rd_7, c_wr_7, c_len_8, c_ld_8, c_st_8, c_rd_8, c_wr_8, c_len_9, c_ld_9, c_st_9, c_rd_9, c_wr_9, bI_rI, bL_rL, bA_rA, bV_rV, bI_th, bL_th, bA_th, bV_th, rZ_0, rZ_1]
        rw [if_neg ((nI_gap (by omega)).mp hy').1, if_pos ((nI_plc (L := 5) (by omega)).mp ⟨ord, by omega, rfl⟩).2]
      · obtain ⟨G1, r1, h1, s1⟩ := r_list1 h hL
        obtain ⟨G2, e, cap, a1, a2, a3, a4, a5, a6, a7⟩ := s_copy h1 hW.1 hv hr hfit h31
        have hap : mAp w D G1.2.1 e := mAp.fresh (G' := G2) h1 rfl a4
        have hts := (h1.ts (s := s) (n := mLen A p) hr2 (hI.2.2.1 r hr2).2 hI.2.2.2.2.2).st h1.1 a7
        have hw0 : w 0 < G1.2.1 := by
          obtain ⟨f, hf⟩ := h1.2.1
          exact h1.1 _ _ hf
        have hN : ∃ G3, f_M_order G2 G1.2.1 (nI ord) = rV G3 ∧ isALc w G3 G1.2.1 e cap (so.map fun t => t.1) ∧ mTs G3 so ∧ gWf G3 ∧ G3.2.1 = G2.2.1 ∧ G3.1 = G2.1 ∧ gB G1.2.1 G1 G3 := by
          by_cases hz : mLen A p = 0
          · have e1 : so = [] := List.eq_nil_of_length_eq_zero (by omega)
            have e2 : sSeg (mSet A 0 0) r s (mLen (mSet A 0 0) p) = [] := List.eq_nil_of_length_eq_zero (by rw [show (sSeg (mSet A 0 0) r s (mLen (mSet A 0 0) p)).length = mLen A p from hsl]; exact hz)
            rw [e2] at a2
            rw [e1]
            exact ⟨G2, s_order0 a2, a2, (fun t ht => absurd ht (List.not_mem_nil)), a6.1, rfl, rfl, a5⟩
          · obtain ⟨G3, o1, o2, o3, o4, o5, o6, o7⟩ := s_order (ord := ord) (z := G1.2.1) (by omega) a3 a4 hw0 (by rw [show (sSeg (mSet A 0 0) r s (mLen (mSet A 0 0) p)).length = mLen A p from hsl]; omega) a6.1 a2 hts
            rw [show sSo (tR ord) [] (sSeg (mSet A 0 0) r s (mLen (mSet A 0 0) p)) = so from hso] at o2 o3
            refine ⟨G3, o1, o2, o3, o4, o5, o6, fun q hq => ?_⟩
            by_cases he : q = e
            · have hew : e = w 0 := by
                rcases a4 with k | k
                · omega
                · exact k
              obtain ⟨m1, κ1, f1, u1, u2, u3, u4, -⟩ := id a2
              obtain ⟨f0, hf0⟩ := a6.2.1
              rw [hew, hf0] at u2
              rw [List.length_map, show (sSeg (mSet A 0 0) r s (mLen (mSet A 0 0) p)).length = mLen A p from hsl] at u4
              rcases u3 with ⟨k1, -⟩ | ⟨-, -, k1⟩
              · rw [k1] at u2
                have := Option.some.inj u2
                unfold zQ at this
                cases this
              · omega
            · rw [o7 q he, a5 q hq]
        obtain ⟨G3, o1, o2, o3, o4, o5, o6, o7⟩ := hN
        have l1 : G1.2.1 ≤ G2.2.1 := a7.1.1
        have l2 : G2.2.1 ≤ G1.2.1 + 5 := a7.1.2.1
        have l3 : G1.1 ≤ G2.1 := a7.1.2.2.1
        have l4 : G2.1 ≤ G1.1 + 83 := a7.1.2.2.2.1
        have hS := mSt.gB (k := 5) (n := 83) h1.1 o7 o4 (by omega) (by omega) (by omega) (by omega)
        have h3 : MS w o G3 (mSet A 0 0) D := h1.step hS (h1.2.2.new h1.1 o7)
        obtain ⟨G4, b1, b2, b3, b4⟩ := m_sortL (K := fun G59 x56 x57 x58 => gOb G59 x56 6 fun o61 => bI (f_M_rowOf zDp G59 x56 x57) fun v64 G63 => gOb G63 x56 6 fun o66 => bI (f_M_endParts G63 x56 v64 x57) fun v69 G68 => gOb G68 x56 6 fun o71 => bI (f_M_rowOf zDp G68 x56 x57) fun v74 G73 => gOb G73 x56 6 fun o76 => bV (f_M_endCursors G73 x56 v74) fun G78 => rI x58 G78) (A := mSet A 0 0) (src := so) hW.1 hv hr hfit h31 hol hap (fun t ht => by
          have := ((hI.2.2.1 r hr2).2 t (sSeg_mem ht)).2
          have := hI.2.2.2.2.2
          omega) (mLen A p) zFu 0 0 G3 (by show 0 + mLen A p = mLen A p; omega) (by unfold zFu; omega) (by
          show MS w o G3 (mRows (mSet A 0 0) r (sSpl (A.1 r) s [])) D
          rw [sSpl_0, show mRows (mSet A 0 0) r (A.1 r) = mSet A 0 0 from mRows_self (A := mSet A 0 0)]
          exact h3) o2 o3
        obtain ⟨G5, G6, D5, D6, r5, h5, r6, r7, h7, s7⟩ := s_ard b2 hIB hvB hrB
        refine ⟨_, D6, G6, m, ?_, h7, z2, z3, Nat.le_succ m, z4, (((s1.trans hS).trans b4).trans s7).mono (by omega) (by omega)⟩
        unfold f_M_sort
        rw [r1, (s_isIn G1 4 (by omega) _).1 hy', bI_rI, if_neg (by decide), r_ref0 h1 rfl, gOb_of h1.2.2.1 rfl, a1, bA_rA, o1, bV_rV, b1, gOb_of b2.2.2.1 rfl, s_rowOf b2 hIB.1 hvB hrB, bI_rI, gOb_of b2.2.2.1 rfl, r5, bI_rI, gOb_of h5.2.2.1 rfl, r6, bI_rI, gOb_of h5.2.2.1 rfl, r7, bV_rV, Nat.zero_add]
        rfl
    · refine Sim.no hR hI 2 (by decide) (by decide) ?_ (fun G D h => ?_)
      · unfold f_X_sort
        simp only [x_needList hX hW hL, c_ob_0, c_fa_0_0, c_fa_0_1, c_fi_0_2, c_put_0_2, c_fi_0_3, c_put_0_3, c_fi_0_4, c_put_0_4, c_ob_1, c_fa_1_0, c_fa_1_1, c_fa_1_2, c_fa_1_3, c_fa_1_4, c_fa_1_5, c_fi_1_6, c_put_1_6, c_ob_2, c_fa_2_0, c_ob_4, c_fa_4_0, c_ob_6, c_fa_6_0, c_ob_8, c_fa_8_0, c_ob_10, c_fa_10_0, c_ob_12, c_fa_12_0, c_ob_14, c_fa_14_0, c_fa_14_1, c_fa_14_2, c_fa_14_3, c_fi_14_4, c_put_14_4, c_ob_15, c_fa_15_0, c_ob_17, c_fa_17_0, c_ob_19, c_fa_19_0, c_ob_21, c_fa_21_0, c_len_0, c_ld_0, c_st_0, c_rd_0, c_wr_0, c_len_1, c_ld_1, c_st_1, c_rd_1, c_wr_1, c_len_2, c_ld_2, c_st_2, c_rd_2, c_wr_2, c_len_3, c_ld_3, c_st_3, c_rd_3, c_wr_3, c_len_4, c_ld_4, c_st_4, c_rd_4, c_wr_4, c_len_5, c_ld_5, c_st_5, c_rd_5, c_wr_5, c_len_6, c_ld_6, c_st_6, c_rd_6, c_wr_6, c_len_7, c_ld_7, c_st_7, c_rd_7, c_wr_7, c_len_8, c_ld_8, c_st_8, c_rd_8, c_wr_8, c_len_9, c_ld_9, c_st_9, c_rd_9, c_wr_9, bI_rI, bL_rL, bA_rA, bV_rV, bI_th, bL_th, bA_th, bV_th, rZ_0, rZ_1]
        by_cases h0 : y < 0
        · rw [if_pos h0]; rfl
        · rw [if_neg h0, if_neg (fun q => hy (by
            obtain ⟨i, hi, e⟩ := (nI_plc (L := 5) (by omega)).mpr ⟨h0, q⟩
            exact ⟨i, by omega, e⟩))]; rfl
      · obtain ⟨G1, r1, h1, s1⟩ := r_list1 h hL
        obtain ⟨G2, r2, h2, s2⟩ := r_no1 (c := 2) h1 (by decide)
        refine ⟨G2, ?_, h2, (s1.trans s2).mono (by omega) (by omega)⟩
        unfold f_M_sort
        rw [r1, (s_isIn G1 4 (by omega) _).2 hy, bI_rI, if_pos rfl, r2]
        rfl
  · refine Sim.no hR hI 1 (by decide) (by decide) ?_ (fun G D h => ?_)
    · unfold f_X_sort
      simp only [x_needList_no hX (hI.w 0) hx, c_ob_0, c_fa_0_0, c_fa_0_1, c_fi_0_2, c_put_0_2, c_fi_0_3, c_put_0_3, c_fi_0_4, c_put_0_4, c_ob_1, c_fa_1_0, c_fa_1_1, c_fa_1_2, c_fa_1_3, c_fa_1_4, c_fa_1_5, c_fi_1_6, c_put_1_6, c_ob_2, c_fa_2_0, c_ob_4, c_fa_4_0, c_ob_6, c_fa_6_0, c_ob_8, c_fa_8_0, c_ob_10, c_fa_10_0, c_ob_12, c_fa_12_0, c_ob_14, c_fa_14_0, c_fa_14_1, c_fa_14_2, c_fa_14_3, c_fi_14_4, c_put_14_4, c_ob_15, c_fa_15_0, c_ob_17, c_fa_17_0, c_ob_19, c_fa_19_0, c_ob_21, c_fa_21_0, c_len_0, c_ld_0, c_st_0, c_rd_0, c_wr_0, c_len_1, c_ld_1, c_st_1, c_rd_1, c_wr_1, c_len_2, c_ld_2, c_st_2, c_rd_2, c_wr_2, c_len_3, c_ld_3, c_st_3, c_rd_3, c_wr_3, c_len_4, c_ld_4, c_st_4, c_rd_4, c_wr_4, c_len_5, c_ld_5, c_st_5, c_rd_5, c_wr_5, c_len_6, c_ld_6, c_st_6, c_rd_6, c_wr_6, c_len_7, c_ld_7, c_st_7, c_rd_7, c_wr_7, c_len_8, c_ld_8, c_st_8, c_rd_8, c_wr_8, c_len_9, c_ld_9, c_st_9, c_rd_9, c_wr_9, bI_rI, bL_rL, bA_rA, bV_rV, bI_th, bL_th, bA_th, bV_th, rZ_0, rZ_1]
      rfl
    · obtain ⟨G1, r1, h1, s1⟩ := r_list0 h hx
      refine ⟨G1, ?_, h1, s1⟩
      unfold f_M_sort
      rw [r1]
      rfl
end Srt
