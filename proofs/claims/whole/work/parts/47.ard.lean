-- all that ends around a list; pack, turn, sort
section Ard
variable {w : Nat → Nat} {b o m : Nat} {B : mS} {σ : cS} {H : gH} {p r s : Nat}
theorem mInv.l100 (hI : mInv m B) : ∀ q x, B.2.1 q = some x → x.2.2 < 100 := by
  intro q x hx
  have hq : mV B q := Or.inr (by rw [hx]; exact Option.some_ne_none _)
  obtain ⟨r1, s1, h1, -, a1, a2, -⟩ := hI.pl hq
  have a3 := mLen_part (A := B) (p := q) (by have := (hI.1.1 q x hx).1; omega) hx
  omega
theorem x_ard (hR : CRep σ B) (hI : mInv m B) (hv : mV B p) (hr : mRw B.2.1 zDp p = some (r, s)) :
    (∃ σ', f_X_endAround (cPut b σ H) b (nI p) = rI (nI (mES B r p).2) (cPut b σ' H) ∧ CRep σ' (mAround B r p)) ∧ mInv m (mAround B r p) ∧ (mAround B r p).1 = B.1 ∧ (mAround B r p).2.2.2 0 = B.2.2.2 0 ∧ mV (mAround B r p) p ∧ mLen (mAround B r p) p = mLen B p ∧ (mAround B r p).2.2.2 1 = B.2.2.2 1 := by
  obtain ⟨hd, hok⟩ := mArd.of (r := r) hI.1 hv (fun c x hx => ⟨(hI.2.2.2.1 c x hx).1, (hI.2.2.2.1 c x hx).2.2.1⟩)
  refine ⟨x_endAround hR hI.1 hI.l100 (fun c x hx => ⟨(hI.2.2.2.1 c x hx).2.1, (hI.2.2.2.1 c x hx).2.2.1⟩) hv hr hd, hI.ard hd hok, hd.1, hd.2.2.2.2.2.1 0 (by omega) (by omega), ?_, ?_, hd.2.2.2.2.2.1 1 (by omega) (by omega)⟩
  · rcases hv with h2 | h2
    · exact Or.inl h2
    · cases hx : B.2.1 p with
      | none => exact absurd hx h2
      | some x =>
        have := hd.2.2.1 p x hx
        rw [if_neg (fun q => by rw [mAb_refl] at q; cases q.2)] at this
        exact Or.inr (by rw [this]; exact Option.some_ne_none _)
  · by_cases h2 : p < 2
    · rw [mLen_row h2, mLen_row h2, hd.1]
    · rcases hv with h3 | h3
      · omega
      · cases hx : B.2.1 p with
        | none => exact absurd hx h3
        | some x =>
          have := hd.2.2.1 p x hx
          rw [if_neg (fun q => by rw [mAb_refl] at q; cases q.2)] at this
          rw [mLen_part h2 this, mLen_part h2 hx]
theorem s_ard {G : gH} {D : mD} (h : MS w o G B D) (hI : mInv m B) (hv : mV B p) (hr : mRw B.2.1 zDp p = some (r, s)) :
    ∃ (G1 G2 : gH) (D1 D2 : mD), f_M_endParts G o (nI r) (nI p) = rI (nI (mES B r p).2) G1 ∧ MS w o G1 (mES B r p).1 D1 ∧ f_M_rowOf zDp G1 o (nI p) = rI (nI r) G1 ∧ f_M_endCursors G1 o (nI r) = rV G2 ∧ MS w o G2 (mAround B r p) D2 ∧ mSt 0 0 G G2 := by
  have hr2 := mRw_lt _ _ _ _ hr
  obtain ⟨G1, G2, F1, F2, a1, a2, a3, a4, a5, a6, a7⟩ := s_around h hI.1 hv hr2 (fun c x hx => ⟨(hI.2.2.2.1 c x hx).1, (hI.2.2.2.1 c x hx).2.2.1⟩)
  have hk := (mES_char (r := r) hI.1 hv).2.1
  refine ⟨G1, G2, _, _, a1, a2, ?_, a4, a5, (a3.st.trans a6.st).mono (by omega) (by omega)⟩
  have hv1 : mV (mES B r p).1 p := by
    rcases hv with h2 | h2
    · exact Or.inl h2
    · by_cases h3 : p < 2
      · exact Or.inl h3
      · exact Or.inr (by rw [a7 p (mAb_refl _ _) (by omega)]; exact h2)
  exact s_rowOf a2 hk hv1 (((mAb.congr zDp p a7).2).trans hr)
end Ard
section Ard2
variable {w : Nat → Nat} {b o m : Nat} {A : mS} {σ : cS} {H : gH}
theorem mRw_r {P : mP} {r : Nat} (h : r < 2) : mRw P zDp r = some (r, 0) := by
  show mRw P (7 + 1) r = _
  unfold mRw; rw [if_pos h]
theorem sim_pack (hR : CRep σ A) (hI : mInv m A) (x y : Int32) : SimOp w b o A m σ H xI1 (f_X_pack (cPut b σ H) b x y) (fun G => f_M_pack G o x y) := by
  by_cases hx : mIsP 2 x
  · have hx' := hx
    obtain ⟨p, hp, rfl⟩ := hx
    have hr : mRw (mSet A 0 0).2.1 zDp p = some (p, 0) := mRw_r hp
    obtain ⟨⟨σ', y1, y2⟩, y3, -, y4, -⟩ := x_ard (b := b) (H := H) (B := mSet A 0 0) (σ := σ) ((CRepx.of (exc := -1) hR).thr 0) (hI.thr 0) (Or.inl hp) hr
    refine Sim.yes (nI (mES (mSet A 0 0) p p).2) σ' ?_ (fun G D h => ?_)
    · unfold f_X_pack
      simp only [x_needRow.1 hx', y1, c_ob_0, c_fa_0_0, c_fa_0_1, c_fi_0_2, c_put_0_2, c_fi_0_3, c_put_0_3, c_fi_0_4, c_put_0_4, c_ob_1, c_fa_1_0, c_fa_1_1, c_fa_1_2, c_fa_1_3, c_fa_1_4, c_fa_1_5, c_fi_1_6, c_put_1_6, c_ob_2, c_fa_2_0, c_ob_4, c_fa_4_0, c_ob_6, c_fa_6_0, c_ob_8, c_fa_8_0, c_ob_10, c_fa_10_0, c_ob_12, c_fa_12_0, c_ob_14, c_fa_14_0, c_fa_14_1, c_fa_14_2, c_fa_14_3, c_fi_14_4, c_put_14_4, c_ob_15, c_fa_15_0, c_ob_17, c_fa_17_0, c_ob_19, c_fa_19_0, c_ob_21, c_fa_21_0, c_len_0, c_ld_0, c_st_0, c_rd_0, c_wr_0, c_len_1, c_ld_1, c_st_1, c_rd_1, c_wr_1, c_len_2, c_ld_2, c_st_2, c_rd_2, c_wr_2, c_len_3, c_ld_3, c_st_3, c_rd_3, c_wr_3, c_len_4, c_ld_4, c_st_4, c_rd_4, c_wr_4, c_len_5, c_ld_5, c_st_5, c_rd_5, c_wr_5, c_len_6, c_ld_6, c_st_6, c_rd_6, c_wr_6, c_len_7, c_ld_7, c_st_7, c_rd_7, c_wr_7, c_len_8, c_ld_8, c_st_8, c_rd_8, c_wr_8, c_len_9, c_ld_9, c_st_9, c_rd_9, c_wr_9, bI_rI, bL_rL, bA_rA, bV_rV, bI_th, bL_th, bA_th, bV_th, rZ_0, rZ_1]
    · obtain ⟨G1, r1, h1, s1⟩ := s_go h
      obtain ⟨G2, G3, D2, D3, r2, h2, -, r3, h3, s3⟩ := s_ard h1 (hI.thr 0) (Or.inl hp) hr
      refine ⟨_, D3, G3, m, ?_, h3, y2, y3, Nat.le_succ m, y4, (s1.trans s3).mono (by omega) (by omega)⟩
      unfold f_M_pack
      rw [show f_M_isIn G (nI p) (nI 0) (nI 1) = rI 1 G from (s_isIn G 1 (by omega) _).1 ⟨p, by omega, rfl⟩, bI_rI, if_neg (by decide), gOb_of h.2.2.1 rfl, r1, bI_rI, if_pos rfl, gOb_of h1.2.2.1 rfl, r2, bI_rI, gOb_of h2.2.2.1 rfl, r3, bV_rV]
  · refine Sim.no hR hI 1 (by decide) (by decide) ?_ (fun G D h => ?_)
    · unfold f_X_pack
      simp only [x_needRow.2 hx, c_ob_0, c_fa_0_0, c_fa_0_1, c_fi_0_2, c_put_0_2, c_fi_0_3, c_put_0_3, c_fi_0_4, c_put_0_4, c_ob_1, c_fa_1_0, c_fa_1_1, c_fa_1_2, c_fa_1_3, c_fa_1_4, c_fa_1_5, c_fi_1_6, c_put_1_6, c_ob_2, c_fa_2_0, c_ob_4, c_fa_4_0, c_ob_6, c_fa_6_0, c_ob_8, c_fa_8_0, c_ob_10, c_fa_10_0, c_ob_12, c_fa_12_0, c_ob_14, c_fa_14_0, c_fa_14_1, c_fa_14_2, c_fa_14_3, c_fi_14_4, c_put_14_4, c_ob_15, c_fa_15_0, c_ob_17, c_fa_17_0, c_ob_19, c_fa_19_0, c_ob_21, c_fa_21_0, c_len_0, c_ld_0, c_st_0, c_rd_0, c_wr_0, c_len_1, c_ld_1, c_st_1, c_rd_1, c_wr_1, c_len_2, c_ld_2, c_st_2, c_rd_2, c_wr_2, c_len_3, c_ld_3, c_st_3, c_rd_3, c_wr_3, c_len_4, c_ld_4, c_st_4, c_rd_4, c_wr_4, c_len_5, c_ld_5, c_st_5, c_rd_5, c_wr_5, c_len_6, c_ld_6, c_st_6, c_rd_6, c_wr_6, c_len_7, c_ld_7, c_st_7, c_rd_7, c_wr_7, c_len_8, c_ld_8, c_st_8, c_rd_8, c_wr_8, c_len_9, c_ld_9, c_st_9, c_rd_9, c_wr_9, bI_rI, bL_rL, bA_rA, bV_rV, bI_th, bL_th, bA_th, bV_th, rZ_0, rZ_1]
      rfl
    · obtain ⟨G1, r1, h1, s1⟩ := s_halt1 h
      refine ⟨G1, ?_, h1, s1⟩
      unfold f_M_pack
      rw [show f_M_isIn G x (nI 0) (nI 1) = rI 0 G from (s_isIn G 1 (by omega) _).2 (fun ⟨i, hi, e⟩ => hx ⟨i, by omega, e⟩), bI_rI, if_pos rfl, gOb_of h.2.2.1 rfl, r1, bI_rI, if_neg (by decide)]
      rfl
theorem sim_turn (hR : CRep σ A) (hI : mInv m A) (x : Int32) : SimOp w b o A m σ H xI1 (f_X_turn (cPut b σ H) b x) (fun G => f_M_turn w G o x) := by
  have hX := CRepx.of (exc := -1) hR
  by_cases hx : mIsL A x
  · have hL := hx
    obtain ⟨p, hp, rfl, hv⟩ := hx
    have hv : mV A p := hv
    obtain ⟨r, s, hr, hr2, hfit, h31, hp6, hro⟩ := hI.pl hv
    have hW := hI.w p
    have hsl : (sSeg A r s (mLen A p)).length = mLen A p := sSeg_len hfit
    obtain ⟨σ', y1, y2⟩ := x_turn (b := b) (G := H) (K := fun G19 x18 => rI x18 G19) (hX.thr 0) ((hI.thr 0).w p) hv hr
    have y1' : f_X_turn_L16 (fun G19 x18 => rI x18 G19) zFu (cPut b σ H) b (nI p) (nI (mLen A p)) (nI 0) = rI (nI (mLen A p)) (cPut b σ' H) := y1
    refine Sim.yes (nI (mLen A p)) σ' ?_ (fun G D h => ?_)
    · unfold f_X_turn
      simp only [x_needList hX hW hL, x_len hX hW.1 hv, y1', c_ob_0, c_fa_0_0, c_fa_0_1, c_fi_0_2, c_put_0_2, c_fi_0_3, c_put_0_3, c_fi_0_4, c_put_0_4, c_ob_1, c_fa_1_0, c_fa_1_1, c_fa_1_2, c_fa_1_3, c_fa_1_4, c_fa_1_5, c_fi_1_6, c_put_1_6, c_ob_2, c_fa_2_0, c_ob_4, c_fa_4_0, c_ob_6, c_fa_6_0, c_ob_8, c_fa_8_0, c_ob_10, c_fa_10_0, c_ob_12, c_fa_12_0, c_ob_14, c_fa_14_0, c_fa_14_1, c_fa_14_2, c_fa_14_3, c_fi_14_4, c_put_14_4, c_ob_15, c_fa_15_0, c_ob_17, c_fa_17_0, c_ob_19, c_fa_19_0, c_ob_21, c_fa_21_0, c_len_0, c_ld_0, c_st_0, c_rd_0, c_wr_0, c_len_1, c_ld_1, c_st_1, c_rd_1, c_wr_1, c_len_2, c_ld_2, c_st_2, c_rd_2, c_wr_2, c_len_3, c_ld_3, c_st_3, c_rd_3, c_wr_3, c_len_4, c_ld_4, c_st_4, c_rd_4, c_wr_4, c_len_5, c_ld_5, c_st_5, c_rd_5, c_wr_5, c_len_6, c_ld_6, c_st_6, c_rd_6, c_wr_6, c_len_7, c_ld_7, c_st_7, c_rd_7, c_wr_7, c_len_8, c_ld_8, c_st_8, c_rd_8, c_wr_8, c_len_9, c_ld_9, c_st_9, c_rd_9, c_wr_9, bI_rI, bL_rL, bA_rA, bV_rV, bI_th, bL_th, bA_th, bV_th, rZ_0, rZ_1]
    · obtain ⟨G1, r1, h1, s1⟩ := r_list1 h hL
      obtain ⟨G2, e, cap, a1, a2, a3, a4, -, a6, a7⟩ := s_copy h1 hW.1 hv hr hfit h31
      have hap : mAp w D G1.2.1 e := mAp.fresh (G' := G2) h1 rfl a4
      obtain ⟨G3, b1, b2, b3, b4⟩ := m_turnL (K := fun G38 x37 => gOb G38 x37 9 fun o40 => bI (f_AL_size G38 x37) fun v43 G42 => rI v43 G42) (A := mSet A 0 0) (src := sSeg A r s (mLen A p)) hW.1 hv hr hfit h31 hsl hap (mLen A p) zFu 0 G2 (by show 0 + mLen A p = mLen A p; omega) (by unfold zFu; omega) (by
        have e : sSpl (A.1 r) s ((sSeg A r s (mLen A p)).reverse.take 0) = A.1 r := by
          unfold sSpl; rw [List.take_zero, List.nil_append, List.length_nil, Nat.add_zero, List.take_append_drop]
        show MS w o G2 (mRows (mSet A 0 0) r (sSpl (A.1 r) s ((sSeg A r s (mLen A p)).reverse.take 0))) D
        rw [e, show mRows (mSet A 0 0) r (A.1 r) = mSet A 0 0 from mRows_self (A := mSet A 0 0)]
        exact a6) a2 ((h1.ts (s := s) (n := mLen A p) hr2 (hI.2.2.1 r hr2).2 hI.2.2.2.2.2).st h1.1 a7)
      obtain ⟨m1, κ1, f1, u1, -⟩ := id b3
      refine ⟨_, D, G3, m, ?_, b2, y2, (hI.thr 0).rows (sSpl_len (by rw [List.length_reverse, hsl]; exact hfit)) (fun t ht => ?_), Nat.le_succ m, rfl, ((s1.trans a7).trans b4).mono (by omega) (by omega)⟩
      · unfold f_M_turn
        rw [r1, gOb_of h1.2.2.1 rfl, a1, bA_rA, b1, gOb_of u1 rfl, al_size b3.al, bI_rI, List.length_map, hsl]
      · rcases sSpl_mem ht with q | q
        · exact (hI.2.2.1 r hr2).2 t q
        · exact (hI.2.2.1 r hr2).2 t (sSeg_mem (List.mem_reverse.mp q))
  · refine Sim.no hR hI 1 (by decide) (by decide) ?_ (fun G D h => ?_)
    · unfold f_X_turn
      simp only [x_needList_no hX (hI.w 0) hx, c_ob_0, c_fa_0_0, c_fa_0_1, c_fi_0_2, c_put_0_2, c_fi_0_3, c_put_0_3, c_fi_0_4, c_put_0_4, c_ob_1, c_fa_1_0, c_fa_1_1, c_fa_1_2, c_fa_1_3, c_fa_1_4, c_fa_1_5, c_fi_1_6, c_put_1_6, c_ob_2, c_fa_2_0, c_ob_4, c_fa_4_0, c_ob_6, c_fa_6_0, c_ob_8, c_fa_8_0, c_ob_10, c_fa_10_0, c_ob_12, c_fa_12_0, c_ob_14, c_fa_14_0, c_fa_14_1, c_fa_14_2, c_fa_14_3, c_fi_14_4, c_put_14_4, c_ob_15, c_fa_15_0, c_ob_17, c_fa_17_0, c_ob_19, c_fa_19_0, c_ob_21, c_fa_21_0, c_len_0, c_ld_0, c_st_0, c_rd_0, c_wr_0, c_len_1, c_ld_1, c_st_1, c_rd_1, c_wr_1, c_len_2, c_ld_2, c_st_2, c_rd_2, c_wr_2, c_len_3, c_ld_3, c_st_3, c_rd_3, c_wr_3, c_len_4, c_ld_4, c_st_4, c_rd_4, c_wr_4, c_len_5, c_ld_5, c_st_5, c_rd_5, c_wr_5, c_len_6, c_ld_6, c_st_6, c_rd_6, c_wr_6, c_len_7, c_ld_7, c_st_7, c_rd_7, c_wr_7, c_len_8, c_ld_8, c_st_8, c_rd_8, c_wr_8, c_len_9, c_ld_9, c_st_9, c_rd_9, c_wr_9, bI_rI, bL_rL, bA_rA, bV_rV, bI_th, bL_th, bA_th, bV_th, rZ_0, rZ_1]
      rfl
    · obtain ⟨G1, r1, h1, s1⟩ := r_list0 h hx
      refine ⟨G1, ?_, h1, s1⟩
      unfold f_M_turn
      rw [r1]
      rfl
end Ard2
