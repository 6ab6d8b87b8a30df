-- removeIf, pack, turn
section If
variable {w : Nat → Nat} {b o m : Nat} {A : mS} {σ : cS} {H : gH}
theorem y_remL {K : gH → Nat → Int32 → Int32 → gR} {G : gH} {x0 by' rest : Nat} {x1 : Int32} (hb : 0 < by') (hb9 : by' < 100) (hre : rest < 100) : ∀ (d n j : Nat) (v : Int32), j + d = 31 → d < n →
    ∃ v', f_X_removeIf_L51 K n G x0 x1 (nI by') (nI rest) v (nI j) = K G x0 x1 v' ∧ ∀ k, k < 31 → v'.toBitVec.getLsbD k = (v.toBitVec.getLsbD k || (decide (j ≤ k) && decide (k % by' = rest)))
  | _, 0, _, _, _, h => absurd h (Nat.not_lt_zero _)
  | 0, n + 1, j, v, hj, _ => by
    refine ⟨v, ?_, fun k hk => ?_⟩
    · unfold f_X_removeIf_L51
      rw [if_pos (nI_le (by omega) (by omega))]
    · rw [decide_eq_false (by omega : ¬ j ≤ k), Bool.false_and, Bool.or_false]
  | d + 1, n + 1, j, v, hj, hn => by
    have hm : j % by' < by' := Nat.mod_lt _ hb
    by_cases hx : j % by' = rest
    · obtain ⟨v', z1, z2⟩ := y_remL (K := K) (G := G) (x0 := x0) (x1 := x1) hb hb9 hre d n (j + 1) (v ||| (nI 1 <<< (nI j &&& 31))) (by omega) (by omega)
      refine ⟨v', ?_, fun k hk => ?_⟩
      · unfold f_X_removeIf_L51
        rw [if_neg (nI_ge (by omega) (by omega)), gRem_of (by omega) (by omega) hb, if_pos (by rw [hx]), nI_add, z1]
      · rw [z2 k hk, bit_or, bit_1 j (by omega) k hk]
        by_cases e : k = j
        · subst e
          rw [decide_eq_true (rfl : k = k), decide_eq_true (Nat.le_refl k), decide_eq_true hx]; simp
        · rw [decide_eq_false e, Bool.or_false]
          by_cases e2 : j ≤ k
          · rw [decide_eq_true e2, decide_eq_true (by omega : j + 1 ≤ k)]
          · rw [decide_eq_false e2, decide_eq_false (by omega : ¬ j + 1 ≤ k)]
    · obtain ⟨v', z1, z2⟩ := y_remL (K := K) (G := G) (x0 := x0) (x1 := x1) hb hb9 hre d n (j + 1) (v ||| (nI 0)) (by omega) (by omega)
      refine ⟨v', ?_, fun k hk => ?_⟩
      · unfold f_X_removeIf_L51
        rw [if_neg (nI_ge (by omega) (by omega)), gRem_of (by omega) (by omega) hb, if_neg (fun z => hx (nI_eq31 (by omega) (by omega) z)), nI_add, z1]
      · rw [z2 k hk, bit_or, bit_0 k hk, Bool.or_false]
        by_cases e : k = j
        · subst e
          rw [decide_eq_false hx, Bool.and_false, Bool.and_false]
        · by_cases e2 : j ≤ k
          · rw [decide_eq_true e2, decide_eq_true (by omega : j + 1 ≤ k)]
          · rw [decide_eq_false e2, decide_eq_false (by omega : ¬ j + 1 ≤ k)]
theorem nI_up {x : Int32} {n : Nat} (h0 : ¬ x < 0) (h : x ≤ nI n) (hn : n < 2 ^ 31) : ∃ i, i ≤ n ∧ x = nI i := (nI_gap hn).mpr ⟨h0, h⟩
theorem sim_removeIf (hR : CRep σ A) (hI : mInv m A) (x y z : Int32) : SimOp w b o A m σ H xIG (f_X_removeIf (cPut b σ H) b x y z) (fun G => f_M_removeIf G o x y z) := by
  have hX := CRepx.of (exc := -1) hR
  by_cases hx : mIsL A x
  · have hL := hx
    obtain ⟨p, hp, rfl, hv⟩ := hx
    have hv : mV A p := hv
    obtain ⟨r, s, hr, hr2, hfit, h31, hp6, hro⟩ := hI.pl hv
    have hW := hI.w p
    have hWt : mInw (-1) p (mSet A 0 0) := (hI.thr 0).w p
    by_cases hy : ¬ y < nI 1 ∧ ¬ nI 9 < y
    · obtain ⟨g, hg9, rfl⟩ : ∃ i, i ≤ 9 ∧ y = nI i := nI_up (fun q => hy.1 (Int32.lt_trans q (by decide))) (Int32.not_lt.mp hy.2) (by omega)
      have hg1 : 1 ≤ g := by
        rcases Nat.eq_zero_or_pos g with e | e
        · subst e; exact absurd (by decide : nI 0 < nI 1) hy.1
        · exact e
      have r0 : ∀ G : gH, f_M_isIn G (nI g) (nI 1) (nI 9) = rI 1 G := fun G => by
        rw [m_isIn, decide_eq_true hy]; exact rZ_1
      have e1 : ∀ z : Int32, (mIsG (g - 1) z ↔ mIsP g z) := fun z => ⟨fun ⟨i, hi, e⟩ => ⟨i, by omega, e⟩, fun ⟨i, hi, e⟩ => ⟨i, by omega, e⟩⟩
      have r3 : ∀ G : gH, nI g - nI 1 = nI (g - 1) := fun _ => nI_sub hg1
      by_cases hz : mIsP g z
      · have hz' := hz
        obtain ⟨t, htg, rfl⟩ := hz
        have hin : ∀ G : gH, f_M_isIn G (nI t) (nI 0) (nI g - nI 1) = rI 1 G := fun G => by
          rw [r3 G]; exact (s_isIn G (g - 1) (by omega) _).1 ((e1 _).mpr hz')
        obtain ⟨v, x1, x2⟩ := y_remL (K := fun G11 x8 x9 x10 => gOb G11 x8 3 fun o13 => bI (f_X_takeOutAll G11 x8 x9 x10) fun v16 G15 => rI v16 G15) (G := cPut b σ H) (x0 := b) (x1 := nI p) (by' := g) (rest := t) (by omega) (by omega) (by omega) 31 zFu 0 (nI 0) (by omega) (by unfold zFu; omega)
        obtain ⟨σ', y1, y2, y3, y4⟩ := b_rm (b := b) (H := H) (goers := v) (g := fun k => decide (k % g = t)) hR hI hv hr (gBit_of (fun k hk => by rw [x2 k hk, bit_0 k hk, decide_eq_true (Nat.zero_le k), Bool.false_or, Bool.true_and]))
        refine Sim.yes (nI ((A.1 r).length - (sLeft (fun k => decide (k % g = t)) (A.1 r) s (mLen A p)).length)) σ' ?_ (fun G D h => ?_)
        · unfold f_X_removeIf
          simp only [x_needList hX hW hL, c_ob_0, c_fa_0_0, c_fa_0_1, c_fi_0_2, c_put_0_2, c_fi_0_3, c_put_0_3, c_fi_0_4, c_put_0_4, c_ob_1, c_fa_1_0, c_fa_1_1, c_fa_1_2, c_fa_1_3, c_fa_1_4, c_fa_1_5, c_fi_1_6, c_put_1_6, c_ob_2, c_fa_2_0, c_ob_4, c_fa_4_0, c_ob_6, c_fa_6_0, c_ob_8, c_fa_8_0, c_ob_10, c_fa_10_0, c_ob_12, c_fa_12_0, c_ob_14, c_fa_14_0, c_fa_14_1, c_fa_14_2, c_fa_14_3, c_fi_14_4, c_put_14_4, c_ob_15, c_fa_15_0, c_ob_17, c_fa_17_0, c_ob_19, c_fa_19_0, c_ob_21, c_fa_21_0, c_len_0, c_ld_0, c_st_0, c_rd_0, c_wr_0, c_len_1, c_ld_1, c_st_1, c_rd_1, c_wr_1, c_len_2, c_ld_2, c_st_2, c_rd_2, c_wr_2, c_len_3, c_ld_3, c_st_3, c_rd_3, c_wr_3, c_len_4, c_ld_4, c_st_4, c_rd_4, c_wr_4, c_len_5, c_ld_5, c_st_5, c_rd_5, c_wr_5, c_len_6, c_ld_6, c_st_6, c_rd_6, c_wr_6, c_len_7, c_ld_7, c_st_7, c_rd_7, c_wr_7, c_len_8, c_ld_8, c_st_8, c_rd_8, c_wr_8, c_len_9, c_ld_9, c_st_9, c_rd_9, c_wr_9, bI_rI, bL_rL, bA_rA, bV_rV, bI_th, bL_th, bA_th, bV_th, rZ_0, rZ_1]
          rw [if_neg hy.1, if_pos (Int32.not_lt.mp hy.2), if_neg ((nI_plc (by omega)).mp hz').1, if_pos ((nI_plc (by omega)).mp hz').2, x1, c_ob_0, y1, bI_rI]
        · obtain ⟨G1, r1, h1, s1⟩ := r_list1 h hL
          obtain ⟨G2, q1, q2, q3, q4, q5, q6⟩ := m_remIfL (K := fun G29 x26 x27 x28 => gOb G29 x26 6 fun o31 => bI (f_M_takeAll G29 x26 x27 x28) fun v34 G33 => rI v34 G33) (o := o) (p := p) (q := G1.2.1) (by' := g) (rest := t) (by omega) (by omega) (by omega) 31 zFu 0 (gNew G1 31 (zI 102 31 (fun _ => 0))) (fun _ => 0) (by omega) (by unfold zFu; omega) h1.1.new (Nat.lt_succ_self _) gNew_at (fun k hk => by omega)
          have u1 : (gNew G1 31 (zI 102 31 (fun _ => 0))).2.1 = G1.2.1 + 1 := rfl
          have u2 : (gNew G1 31 (zI 102 31 (fun _ => 0))).1 = G1.1 + 31 := rfl
          have hB : gB G1.2.1 G1 G2 := fun q hq => by rw [q6 q (by omega), gNew_ne (by omega)]
          have hS := mSt.gB (k := 1) (n := 31) h1.1 hB q2 (by omega) (by omega) (by omega) (by omega)
          have h2 : MS w o G2 (mSet A 0 0) D := h1.step hS (h1.2.2.new h1.1 hB)
          obtain ⟨G3, D3, r4, h3, s3⟩ := s_takeAll h2 hWt hv hr (hI.kk hr2) q5
          refine ⟨_, D3, G3, m, ?_, h3, y2, y3, Nat.le_succ m, y4, ((s1.trans hS).trans s3).mono (by omega) (by omega)⟩
          unfold f_M_removeIf
          rw [r1, r0, bI_rI, if_neg (by decide), hin, bI_rI, if_neg (by decide), r_ref0 h1 rfl, gNewK_of (by omega), q1, gOb_of h2.2.2.1 rfl, r4, bI_rI]
          rfl
      · refine Sim.no hR hI 2 (by decide) (by decide) ?_ (fun G D h => ?_)
        · unfold f_X_removeIf
          simp only [x_needList hX hW hL, c_ob_0, c_fa_0_0, c_fa_0_1, c_fi_0_2, c_put_0_2, c_fi_0_3, c_put_0_3, c_fi_0_4, c_put_0_4, c_ob_1, c_fa_1_0, c_fa_1_1, c_fa_1_2, c_fa_1_3, c_fa_1_4, c_fa_1_5, c_fi_1_6, c_put_1_6, c_ob_2, c_fa_2_0, c_ob_4, c_fa_4_0, c_ob_6, c_fa_6_0, c_ob_8, c_fa_8_0, c_ob_10, c_fa_10_0, c_ob_12, c_fa_12_0, c_ob_14, c_fa_14_0, c_fa_14_1, c_fa_14_2, c_fa_14_3, c_fi_14_4, c_put_14_4, c_ob_15, c_fa_15_0, c_ob_17, c_fa_17_0, c_ob_19, c_fa_19_0, c_ob_21, c_fa_21_0, c_len_0, c_ld_0, c_st_0, c_rd_0, c_wr_0, c_len_1, c_ld_1, c_st_1, c_rd_1, c_wr_1, c_len_2, c_ld_2, c_st_2, c_rd_2, c_wr_2, c_len_3, c_ld_3, c_st_3, c_rd_3, c_wr_3, c_len_4, c_ld_4, c_st_4, c_rd_4, c_wr_4, c_len_5, c_ld_5, c_st_5, c_rd_5, c_wr_5, c_len_6, c_ld_6, c_st_6, c_rd_6, c_wr_6, c_len_7, c_ld_7, c_st_7, c_rd_7, c_wr_7, c_len_8, c_ld_8, c_st_8, c_rd_8, c_wr_8, c_len_9, c_ld_9, c_st_9, c_rd_9, c_wr_9, bI_rI, bL_rL, bA_rA, bV_rV, bI_th, bL_th, bA_th, bV_th, rZ_0, rZ_1]
          rw [if_neg hy.1, if_pos (Int32.not_lt.mp hy.2)]
          by_cases h0 : z < 0
          · rw [if_pos h0]; rfl
          · rw [if_neg h0, if_neg (fun q => hz ((nI_plc (by omega)).mpr ⟨h0, q⟩))]; rfl
        · obtain ⟨G1, r1, h1, s1⟩ := r_list1 h hL
          obtain ⟨G2, r2, h2, s2⟩ := r_no1 (c := 2) h1 (by decide)
          refine ⟨G2, ?_, h2, (s1.trans s2).mono (by omega) (by omega)⟩
          unfold f_M_removeIf
          rw [r1, r0, bI_rI, if_neg (by decide), r3 G1, (s_isIn G1 (g - 1) (by omega) _).2 (fun q => hz ((e1 _).mp q)), bI_rI, if_pos rfl, r2]
          rfl
    · refine Sim.no hR hI 2 (by decide) (by decide) ?_ (fun G D h => ?_)
      · unfold f_X_removeIf
        simp only [x_needList hX hW hL, c_ob_0, c_fa_0_0, c_fa_0_1, c_fi_0_2, c_put_0_2, c_fi_0_3, c_put_0_3, c_fi_0_4, c_put_0_4, c_ob_1, c_fa_1_0, c_fa_1_1, c_fa_1_2, c_fa_1_3, c_fa_1_4, c_fa_1_5, c_fi_1_6, c_put_1_6, c_ob_2, c_fa_2_0, c_ob_4, c_fa_4_0, c_ob_6, c_fa_6_0, c_ob_8, c_fa_8_0, c_ob_10, c_fa_10_0, c_ob_12, c_fa_12_0, c_ob_14, c_fa_14_0, c_fa_14_1, c_fa_14_2, c_fa_14_3, c_fi_14_4, c_put_14_4, c_ob_15, c_fa_15_0, c_ob_17, c_fa_17_0, c_ob_19, c_fa_19_0, c_ob_21, c_fa_21_0, c_len_0, c_ld_0, c_st_0, c_rd_0, c_wr_0, c_len_1, c_ld_1, c_st_1, c_rd_1, c_wr_1, c_len_2, c_ld_2, c_st_2, c_rd_2, c_wr_2, c_len_3, c_ld_3, c_st_3, c_rd_3, c_wr_3, c_len_4, c_ld_4, c_st_4, c_rd_4, c_wr_4, c_len_5, c_ld_5, c_st_5, c_rd_5, c_wr_5, c_len_6, c_ld_6, c_st_6, c_rd_6, c_wr_6, c_len_7, c_ld_7, c_st_7, c_rd_7, c_wr_7, c_len_8, c_ld_8, c_st_8, c_rd_8, c_wr_8, c_len_9, c_ld_9, c_st_9, c_rd_9, c_wr_9, bI_rI, bL_rL, bA_rA, bV_rV, bI_th, bL_th, bA_th, bV_th, rZ_0, rZ_1]
        by_cases h0 : y < nI 1
        · rw [if_pos h0]; rfl
        · rw [if_neg h0, if_neg (fun q => hy ⟨h0, Int32.not_lt.mpr q⟩)]; rfl
      · obtain ⟨G1, r1, h1, s1⟩ := r_list1 h hL
        obtain ⟨G2, r2, h2, s2⟩ := r_no1 (c := 2) h1 (by decide)
        refine ⟨G2, ?_, h2, (s1.trans s2).mono (by omega) (by omega)⟩
        unfold f_M_removeIf
        rw [r1, m_isIn, decide_eq_false hy, show rZ (mB false) G1 = rI 0 G1 from rZ_0, bI_rI, if_pos rfl, r2]
        rfl
  · refine Sim.no hR hI 1 (by decide) (by decide) ?_ (fun G D h => ?_)
    · unfold f_X_removeIf
      simp only [x_needList_no hX (hI.w 0) hx, c_ob_0, c_fa_0_0, c_fa_0_1, c_fi_0_2, c_put_0_2, c_fi_0_3, c_put_0_3, c_fi_0_4, c_put_0_4, c_ob_1, c_fa_1_0, c_fa_1_1, c_fa_1_2, c_fa_1_3, c_fa_1_4, c_fa_1_5, c_fi_1_6, c_put_1_6, c_ob_2, c_fa_2_0, c_ob_4, c_fa_4_0, c_ob_6, c_fa_6_0, c_ob_8, c_fa_8_0, c_ob_10, c_fa_10_0, c_ob_12, c_fa_12_0, c_ob_14, c_fa_14_0, c_fa_14_1, c_fa_14_2, c_fa_14_3, c_fi_14_4, c_put_14_4, c_ob_15, c_fa_15_0, c_ob_17, c_fa_17_0, c_ob_19, c_fa_19_0, c_ob_21, c_fa_21_0, c_len_0, c_ld_0, c_st_0, c_rd_0, c_wr_0, c_len_1, c_ld_1, c_st_1, c_rd_1, c_wr_1, c_len_2, c_ld_2, c_st_2, c_rd_2, c_wr_2, c_len_3, c_ld_3, c_st_3, c_rd_3, c_wr_3, c_len_4, c_ld_4, c_st_4, c_rd_4, c_wr_4, c_len_5, c_ld_5, c_st_5, c_rd_5, c_wr_5, c_len_6, c_ld_6, c_st_6, c_rd_6, c_wr_6, c_len_7, c_ld_7, c_st_7, c_rd_7, c_wr_7, c_len_8, c_ld_8, c_st_8, c_rd_8, c_wr_8, c_len_9, c_ld_9, c_st_9, c_rd_9, c_wr_9, bI_rI, bL_rL, bA_rA, bV_rV, bI_th, bL_th, bA_th, bV_th, rZ_0, rZ_1]
      rfl
    · obtain ⟨G1, r1, h1, s1⟩ := r_list0 h hx
      refine ⟨G1, ?_, h1, s1⟩
      unfold f_M_removeIf
      rw [r1]
      rfl
end If
