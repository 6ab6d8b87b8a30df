section Knk
variable {w : Nat → Nat} {b o m : Nat} {A : mS} {σ : cS} {H : gH}
theorem x_knock (hR : CRep σ A) : f_X_knock (cPut b σ H) b = rI (A.2.2.2 5 + nI 1) (cPut b (cSetI σ 4 (A.2.2.2 5 + nI 1)) H) ∧ CRep (cSetI σ 4 (A.2.2.2 5 + nI 1)) (mSet A 5 (A.2.2.2 5 + nI 1)) := by
  have e : σ.2 4 = A.2.2.2 5 := (CRepx.of (exc := -1) hR).2.2.2.2.2.2.2.2.2.2
  refine ⟨?_, (CRepx.of (exc := -1) hR).int (Or.inr (Or.inr ⟨rfl, rfl⟩))⟩
  unfold f_X_knock
  simp only [c_ob_0, c_fa_0_0, c_fa_0_1, c_fi_0_2, c_put_0_2, c_fi_0_3, c_put_0_3, c_fi_0_4, c_put_0_4, c_ob_1, c_fa_1_0, c_fa_1_1, c_fa_1_2, c_fa_1_3, c_fa_1_4, c_fa_1_5, c_fi_1_6, c_put_1_6, c_ob_2, c_fa_2_0, c_ob_4, c_fa_4_0, c_ob_6, c_fa_6_0, c_ob_8, c_fa_8_0, c_ob_10, c_fa_10_0, c_ob_12, c_fa_12_0, c_ob_14, c_fa_14_0, c_fa_14_1, c_fa_14_2, c_fa_14_3, c_fi_14_4, c_put_14_4, c_ob_15, c_fa_15_0, c_ob_17, c_fa_17_0, c_ob_19, c_fa_19_0, c_ob_21, c_fa_21_0, c_len_0, c_ld_0, c_st_0, c_rd_0, c_wr_0, c_len_1, c_ld_1, c_st_1, c_rd_1, c_wr_1, c_len_2, c_ld_2, c_st_2, c_rd_2, c_wr_2, c_len_3, c_ld_3, c_st_3, c_rd_3, c_wr_3, c_len_4, c_ld_4, c_st_4, c_rd_4, c_wr_4, c_len_5, c_ld_5, c_st_5, c_rd_5, c_wr_5, c_len_6, c_ld_6, c_st_6, c_rd_6, c_wr_6, c_len_7, c_ld_7, c_st_7, c_rd_7, c_wr_7, c_len_8, c_ld_8, c_st_8, c_rd_8, c_wr_8, c_len_9, c_ld_9, c_st_9, c_rd_9, c_wr_9, bI_rI, bL_rL, bA_rA, bV_rV, bI_th, bL_th, bA_th, bV_th, rZ_0, rZ_1, e]
  rfl
theorem s_knock {G : gH} {D : mD} (h : MS w o G A D) : ∃ G', f_M_knock G o = rI (A.2.2.2 5 + nI 1) G' ∧ MS w o G' (mSet (mSet A 0 0) 5 (A.2.2.2 5 + nI 1)) D ∧ mSt 0 0 G G' := by
  obtain ⟨h1, s1⟩ := h.set 0 (nI 0)
  obtain ⟨h2, s2⟩ := h1.set 5 (A.2.2.2 5 + nI 1)
  refine ⟨_, ?_, h2, (s1.trans s2).mono (by omega) (by omega)⟩
  unfold f_M_knock
  rw [m_put (j := 0) (i := 0) h.2.2 (by omega) rfl, m_int (j := 5) (i := 8) h1.2.2 (by omega) rfl]
  rw [show (mSet A 0 (nI 0)).2.2.2 5 = A.2.2.2 5 from rfl, m_put (j := 5) (i := 8) h1.2.2 (by omega) rfl, m_int (j := 5) (i := 8) h2.2.2 (by omega) rfl]
  rfl
theorem sim_knock (hR : CRep σ A) (hI : mInv m A) : SimOp w b o A m σ H xI1 (f_X_knock (cPut b σ H) b) (fun G => f_M_knock G o) := by
  obtain ⟨y1, y2⟩ := x_knock (b := b) (H := H) hR
  refine Sim.yes (A.2.2.2 5 + nI 1) _ y1 (fun G D h => ?_)
  obtain ⟨G1, r1, h1, s1⟩ := s_knock h
  exact ⟨_, D, G1, m, r1, h1, ((CRepx.of (exc := -1) hR).thr 0).int (Or.inr (Or.inr ⟨rfl, rfl⟩)), hI, Nat.le_succ m, rfl, s1.mono (by omega) (by omega)⟩
end Knk
