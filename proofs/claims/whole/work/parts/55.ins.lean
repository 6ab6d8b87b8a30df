-- drop, insert, run, end
section Ins
variable {w : Nat → Nat} {b o m : Nat} {A : mS} {σ : cS} {H : gH}
theorem nx3 {c c' : Nat} (h : c < 3) (h' : c' < 3) (e : nI c' = nI c) : c' = c := nI_eq31 (by omega) (by omega) e
theorem mInw.setC {c : Nat} {y : Nat × Nat × Int32 × Int32} (hI : mInv m A) (hc : c < 3) (h6 : y.1 < 6) (hv : mV A y.1) : mInw (nI c) y.1 (mSetC A c y) := by
  refine ⟨hI.1, hI.2.1, fun r hr => (hI.2.2.1 r hr).1, fun c' x hx => ?_⟩
  have hx' : va_up A.2.2.1 c (some y) c' = some x := hx
  by_cases e : c' = c
  · rw [e, va_up_self] at hx'
    cases hx'
    rw [e]
    exact ⟨hc, h6, hv, fun _ => rfl⟩
  · rw [va_up_ne _ _ e] at hx'
    obtain ⟨z1, z2, z3, -⟩ := hI.2.2.2.1 c' x hx'
    exact ⟨z1, z2, z3, fun q => absurd (nx3 hc z1 q) e⟩
/-- the cursor that changes a length stays as it was set -/
theorem mChg_cur {c r s p : Nat} {z : Int} {B : mS} {y : Nat × Nat × Int32 × Int32} {ts : List (Nat × Nat × Nat)} (hW : mInw (nI c) p (mSetC B c y)) (hc : c < 3) (hv : mV (mSetC B c y) p) (hr : mRw (mSetC B c y).2.1 zDp p = some (r, s)) (hz : z ≠ 0) : (mChange (mRows (mSetC B c y) r ts) p z (nI c)).2.2.1 c = some y := by
  have e := (mChd.of (ts := ts) hW hv hr hz).2.2.2.2.1 c hc
  rw [e]
  unfold mCf
  rw [if_pos rfl]
  exact mSetC_at
theorem mChg_inv {c r s p : Nat} {z : Int} {B : mS} {y : Nat × Nat × Int32 × Int32} {ts : List (Nat × Nat × Nat)} (hI : mInv m B) (hc : c < 3) (hy : y.1 = p) (h6 : p < 6) (hv : mV B p) (hr : mRw B.2.1 zDp p = some (r, s)) (hz : z ≠ 0) (hl : (ts.length : Int) = (B.1 r).length + z) (hl31 : ts.length ≤ 31) (hpos : 0 ≤ (mLen B p : Int) + z) (ht : ∀ t, t ∈ ts → mTok m t) (hy0 : y.2.2.2 = 0) (hy1 : (y.2.1 : Int) ≤ mLen B p + z) (hy2 : y.2.2.1 = -1) : mInv m (mChange (mRows (mSetC B c y) r ts) p z (nI c)) := by
  refine mInv.chg (exc := nI c) (A := mSetC B c y) (by rw [← hy]; exact mInw.setC hI hc (by omega) (by rw [hy]; exact hv)) hv hr hz hl hl31 hpos ht (fun r' t hr' => (hI.2.2.1 r' hr').2 t) hI.2.2.2.2.1 hI.2.2.2.2.2 (fun c' x hx => ?_)
  have hx' : va_up B.2.2.1 c (some y) c' = some x := hx
  by_cases e : c' = c
  · rw [e, va_up_self] at hx'
    cases hx'
    rw [if_pos (by rw [e])]
    exact ⟨hy0, hy1, hy2⟩
  · rw [va_up_ne _ _ e] at hx'
    obtain ⟨z1, z2⟩ := hI.2.2.2.1 c' x hx'
    rw [if_neg (fun q => e (nx3 hc z1 q))]
    exact z2
theorem sim_drop (hR : CRep σ A) (hI : mInv m A) (x : Int32) : SimOp w b o A m σ H xI1 (f_X_drop (cPut b σ H) b x) (fun G => f_M_drop G o x) := by
  have hX := CRepx.of (exc := -1) hR
  by_cases hx : mIsC A x
  · have hC := hx
    obtain ⟨c, hc3, rfl, hcn⟩ := hx
    cases hcx : A.2.2.1 c with
    | none => exact absurd hcx hcn
    | some y =>
      have hIt : mInv m (mSet A 0 0) := hI.thr 0
      obtain ⟨-, hy6, hv, hok⟩ := hI.2.2.2.1 c y hcx
      have hl31 := hI.l31 hv
      have hW := hI.w y.1
      obtain ⟨r, s, hr, hr2, hfit, h31, -, -⟩ := hI.pl hv
      have hq0 : ∀ (G : gH) (D : mD), MS w o G A D → ∃ q, D.2.2.2.2.2 c = some q := fun G D h => by
        obtain ⟨q, e, -⟩ := s_curq h hc3 hcx
        exact ⟨q, e⟩
      by_cases hs : y.2.2.2 = 0
      · rcases hok with ⟨-, hn, hla⟩ | ⟨hs1, -⟩
        · rcases hla with hl | ⟨j, hj, hl⟩
          · refine sim_fault hR hI (-7) ?_ (fun G D h => ?_)
            · unfold f_X_drop
              simp only [(x_needCursor hR).1 hC, x_isStale hR hc3 hcx, x_lastOf hR hc3 hcx, c_ob_0, c_fa_0_0, c_fa_0_1, c_fi_0_2, c_put_0_2, c_fi_0_3, c_put_0_3, c_fi_0_4, c_put_0_4, c_ob_1, c_fa_1_0, c_fa_1_1, c_fa_1_2, c_fa_1_3, c_fa_1_4, c_fa_1_5, c_fi_1_6, c_put_1_6, c_ob_2, c_fa_2_0, c_ob_4, c_fa_4_0, c_ob_6, c_fa_6_0, c_ob_8, c_fa_8_0, c_ob_10, c_fa_10_0, c_ob_12, c_fa_12_0, c_ob_14, c_fa_14_0, c_fa_14_1, c_fa_14_2, c_fa_14_3, c_fi_14_4, c_put_14_4, c_ob_15, c_fa_15_0, c_ob_17, c_fa_17_0, c_ob_19, c_fa_19_0, c_ob_21, c_fa_21_0, c_len_0, c_ld_0, c_st_0, c_rd_0, c_wr_0, c_len_1, c_ld_1, c_st_1, c_rd_1, c_wr_1, c_len_2, c_ld_2, c_st_2, c_rd_2, c_wr_2, c_len_3, c_ld_3, c_st_3, c_rd_3, c_wr_3, c_len_4, c_ld_4, c_st_4, c_rd_4, c_wr_4, c_len_5, c_ld_5, c_st_5, c_rd_5, c_wr_5, c_len_6, c_ld_6, c_st_6, c_rd_6, c_wr_6, c_len_7, c_ld_7, c_st_7, c_rd_7, c_wr_7, c_len_8, c_ld_8, c_st_8, c_rd_8, c_wr_8, c_len_9, c_ld_9, c_st_9, c_rd_9, c_wr_9, bI_rI, bL_rL, bA_rA, bV_rV, bI_th, bL_th, bA_th, bV_th, rZ_0, rZ_1]
              rw [mB_if, if_neg (by simp [hs]), if_pos hl]
              rw [(x_fail (b := b) (H := H) hX (-7)).1, bI_rI]
            · obtain ⟨G1, r1, h1, s1⟩ := r_cur1 h hC
              obtain ⟨q, hq⟩ := hq0 G D h
              obtain ⟨f0, f1, f2, f3⟩ := s_fi h1 hc3 hcx hq
              obtain ⟨G2, r2, h2, s2⟩ := s_fault h1 (-7)
              refine ⟨G1, ?_, h1, s1⟩
              show f_M_drop G o (nI c) = _
              unfold f_M_drop
              rw [r1, s_ldC h1 hc3 hq, f3, if_pos hs, f2, if_pos hl, gOb_of h1.2.2.1 rfl, r2, bI_rI]
          · have hne : ¬ nI j = -1 := nI_ne1 (by omega)
            have ht := List.getElem?_eq_getElem (show s + j < (A.1 r).length by omega)
            generalize (A.1 r)[s + j] = t at ht
            have hWB : mInw (nI c) y.1 (mSetC (mSet A 0 0) c (y.1, j, -1, y.2.2.2)) := mInw.setC hIt hc3 hy6 hv
            have hXB : CRepx (nI c) σ (mSetC (mSet A 0 0) c (y.1, j, -1, y.2.2.2)) := CRepx.setC (A := mSet A 0 0) (hX.thr 0) hcx rfl rfl
            have hel : ((A.1 r).eraseIdx (s + j)).length = (A.1 r).length - 1 := List.length_eraseIdx_of_lt (by omega)
            have hvB : mV (mSetC (mSet A 0 0) c (y.1, j, -1, y.2.2.2)) y.1 := hv
            have hrB : mRw (mSetC (mSet A 0 0) c (y.1, j, -1, y.2.2.2)).2.1 zDp y.1 = some (r, s) := hr
            obtain ⟨σ1, z1, z2, -, -⟩ := x_takeOut (b := b) (G := H) (i := j) hXB hWB hvB hrB hj ht
            have z1' : f_X_takeOut (cPut b σ H) b (nI y.1) (nI j) (nI c) = rI (cE t) (cPut b σ1 H) := z1
            obtain ⟨g1, g2, g3, g4, g5⟩ := mChg_at (exc := nI c) (ts := (A.1 r).eraseIdx (s + j)) (z := -1) hWB hvB hrB (by omega) (by rw [hel]; show _ = ((A.1 r).length : Int) + _; omega) (by show 0 ≤ (mLen A y.1 : Int) + _; omega)
            have hcA := mChg_cur (ts := (A.1 r).eraseIdx (s + j)) (z := -1) hWB hc3 hvB hrB (by omega)
            have hIA : mInv m (mChange (mRows (mSetC (mSet A 0 0) c (y.1, j, -1, y.2.2.2)) r ((A.1 r).eraseIdx (s + j))) y.1 (-1) (nI c)) := mChg_inv (B := mSet A 0 0) hIt hc3 rfl hy6 hv hr (by omega) (by rw [hel]; show _ = ((A.1 r).length : Int) + _; omega) (by omega) (by show 0 ≤ (mLen A y.1 : Int) + _; omega) (fun u hu => (hI.2.2.1 r hr2).2 u (er_mem _ _ hu)) hs (by show (j : Int) ≤ (mLen A y.1 : Int) + _; omega) rfl
            have z2' : CRepx (nI c) σ1 (mChange (mRows (mSetC (mSet A 0 0) c (y.1, j, -1, y.2.2.2)) r ((A.1 r).eraseIdx (s + j))) y.1 (-1) (nI c)) := z2
            have hch : ∀ (G : gH) (D : mD), MS w o G (mRows (mSetC (mSet A 0 0) c (y.1, j, -1, y.2.2.2)) r ((A.1 r).eraseIdx (s + j))) D → ∃ (G' : gH) (D' : (Nat → Option Nat) × (Nat → Option Nat)), f_M_change G o (nI y.1) (-1) (nI c) = rV G' ∧ MS w o G' (mChange (mRows (mSetC (mSet A 0 0) c (y.1, j, -1, y.2.2.2)) r ((A.1 r).eraseIdx (s + j))) y.1 (-1) (nI c)) (dS D D') ∧ mSq 0 0 G G' := fun G D h => by
              have k := s_change (z := -1) (exc := nI c) h hWB hvB hrB (by omega) (by show 0 ≤ (mLen A y.1 : Int) + _; omega) (by show ((A.1 r).length : Int) + _ ≤ 31; omega)
              rw [ofInt_m1] at k
              exact k
            generalize hAe : mChange (mRows (mSetC (mSet A 0 0) c (y.1, j, -1, y.2.2.2)) r ((A.1 r).eraseIdx (s + j))) y.1 (-1) (nI c) = A' at z2' g1 g2 g3 g5 hcA hIA hch
            obtain ⟨σ2, w1, w2⟩ := x_stand (b := b) (G := H) z2' hc3 hcA
            have w1' : f_U_stand (cPut b σ1 H) (b + 14) (nI c) (nI j) (-1) = rV (cPut b σ2 H) := w1
            have x3 := x_len (b := b) (G := H) (CRepx.of (exc := -1) w2) g1 g2
            refine Sim.yes (nI (mLen A' y.1)) σ2 ?_ (fun G D h => ?_)
            · unfold f_X_drop
              simp only [(x_needCursor hR).1 hC, x_isStale hR hc3 hcx, x_lastOf hR hc3 hcx, x_listOf hR hc3 hcx, hl, c_ob_0, c_fa_0_0, c_fa_0_1, c_fi_0_2, c_put_0_2, c_fi_0_3, c_put_0_3, c_fi_0_4, c_put_0_4, c_ob_1, c_fa_1_0, c_fa_1_1, c_fa_1_2, c_fa_1_3, c_fa_1_4, c_fa_1_5, c_fi_1_6, c_put_1_6, c_ob_2, c_fa_2_0, c_ob_4, c_fa_4_0, c_ob_6, c_fa_6_0, c_ob_8, c_fa_8_0, c_ob_10, c_fa_10_0, c_ob_12, c_fa_12_0, c_ob_14, c_fa_14_0, c_fa_14_1, c_fa_14_2, c_fa_14_3, c_fi_14_4, c_put_14_4, c_ob_15, c_fa_15_0, c_ob_17, c_fa_17_0, c_ob_19, c_fa_19_0, c_ob_21, c_fa_21_0, c_len_0, c_ld_0, c_st_0, c_rd_0, c_wr_0, c_len_1, c_ld_1, c_st_1, c_rd_1, c_wr_1, c_len_2, c_ld_2, c_st_2, c_rd_2, c_wr_2, c_len_3, c_ld_3, c_st_3, c_rd_3, c_wr_3, c_len_4, c_ld_4, c_st_4, c_rd_4, c_wr_4, c_len_5, c_ld_5, c_st_5, c_rd_5, c_wr_5, c_len_6, c_ld_6, c_st_6, c_rd_6, c_wr_6, c_len_7, c_ld_7, c_st_7, c_rd_7, c_wr_7, c_len_8, c_ld_8, c_st_8, c_rd_8, c_wr_8, c_len_9, c_ld_9, c_st_9, c_rd_9, c_wr_9, bI_rI, bL_rL, bA_rA, bV_rV, bI_th, bL_th, bA_th, bV_th, rZ_0, rZ_1]
              rw [mB_if, if_neg (by simp [hs]), if_neg hne]
              simp only [z1', w1', x3, c_ob_0, c_fa_0_0, c_fa_0_1, c_fi_0_2, c_put_0_2, c_fi_0_3, c_put_0_3, c_fi_0_4, c_put_0_4, c_ob_1, c_fa_1_0, c_fa_1_1, c_fa_1_2, c_fa_1_3, c_fa_1_4, c_fa_1_5, c_fi_1_6, c_put_1_6, c_ob_2, c_fa_2_0, c_ob_4, c_fa_4_0, c_ob_6, c_fa_6_0, c_ob_8, c_fa_8_0, c_ob_10, c_fa_10_0, c_ob_12, c_fa_12_0, c_ob_14, c_fa_14_0, c_fa_14_1, c_fa_14_2, c_fa_14_3, c_fi_14_4, c_put_14_4, c_ob_15, c_fa_15_0, c_ob_17, c_fa_17_0, c_ob_19, c_fa_19_0, c_ob_21, c_fa_21_0, c_len_0, c_ld_0, c_st_0, c_rd_0, c_wr_0, c_len_1, c_ld_1, c_st_1, c_rd_1, c_wr_1, c_len_2, c_ld_2, c_st_2, c_rd_2, c_wr_2, c_len_3, c_ld_3, c_st_3, c_rd_3, c_wr_3, c_len_4, c_ld_4, c_st_4, c_rd_4, c_wr_4, c_len_5, c_ld_5, c_st_5, c_rd_5, c_wr_5, c_len_6, c_ld_6, c_st_6, c_rd_6, c_wr_6, c_len_7, c_ld_7, c_st_7, c_rd_7, c_wr_7, c_len_8, c_ld_8, c_st_8, c_rd_8, c_wr_8, c_len_9, c_ld_9, c_st_9, c_rd_9, c_wr_9, bI_rI, bL_rL, bA_rA, bV_rV, bI_th, bL_th, bA_th, bV_th, rZ_0, rZ_1]
            · obtain ⟨G1, r1, h1, s1⟩ := r_cur1 h hC
              obtain ⟨q, hq⟩ := hq0 G D h
              obtain ⟨f0, f1, f2, f3⟩ := s_fi h1 hc3 hcx hq
              obtain ⟨G2, r2, h2, s2, -, -⟩ := s_take (i := j) h1 hW.1 hv hr ht
              obtain ⟨e0, e1, e2, e3⟩ := s_fi h2 hc3 hcx hq
              obtain ⟨G3, r3, h3, s3⟩ := s_put1 (n := j) h2 hc3 hcx hq (by omega)
              obtain ⟨G4, r4, h4, s4⟩ := s_put2 (v := -1) h3 hc3 mSetC_at hq
              rw [mSetC_mSetC] at h4
              have h4' : MS w o G4 (mRows (mSetC (mSet A 0 0) c (y.1, j, -1, y.2.2.2)) r ((A.1 r).eraseIdx (s + j))) D := h4
              obtain ⟨k0, -, -, -⟩ := s_fi h4' hc3 mSetC_at hq
              obtain ⟨G5, F, r5, h5, s5⟩ := hch G4 D h4'
              -- the list of the cursor is the same
              have hk4 : kC q (.int (nI y.1)) G4 := by
                obtain ⟨q', u1, -, -, u4⟩ := s_curq h4' hc3 mSetC_at
                cases u1.symm.trans hq
                exact ⟨_, u4, rfl⟩
              have hk5 : kC q (.int (nI y.1)) G5 := kp_change hk4 _ _ r5
              have l0 : ∀ k : Int32 → gR, gFI G5 q 4 0 k = k (nI y.1) := fun k => by
                obtain ⟨fs, u1, u2⟩ := hk5
                exact gFI_of u1 rfl u2
              refine ⟨_, _, G5, m, ?_, h5, w2, hIA, Nat.le_succ m, (g5 0 (by omega) (by omega)).trans rfl, ((((s1.trans s2).trans s3).trans s4).trans s5.st).mono (by omega) (by omega)⟩
              unfold f_M_drop
              rw [r1, s_ldC h1 hc3 hq, f3, if_pos hs, f2, hl, if_neg hne, f0, f2, hl, gOb_of h1.2.2.1 rfl, r2, bA_rA, e2, hl, r3, r4, k0, gOb_of h4'.2.2.1 rfl, r5, bV_rV, l0, gOb_of h5.2.2.1 rfl, s_len h5 g1 g2, bI_rI]
        · exact absurd (hs1.symm.trans hs) (by decide)
      · refine sim_fault hR hI (-9) ?_ (fun G D h => ?_)
        · unfold f_X_drop
          simp only [(x_needCursor hR).1 hC, x_isStale hR hc3 hcx, c_ob_0, c_fa_0_0, c_fa_0_1, c_fi_0_2, c_put_0_2, c_fi_0_3, c_put_0_3, c_fi_0_4, c_put_0_4, c_ob_1, c_fa_1_0, c_fa_1_1, c_fa_1_2, c_fa_1_3, c_fa_1_4, c_fa_1_5, c_fi_1_6, c_put_1_6, c_ob_2, c_fa_2_0, c_ob_4, c_fa_4_0, c_ob_6, c_fa_6_0, c_ob_8, c_fa_8_0, c_ob_10, c_fa_10_0, c_ob_12, c_fa_12_0, c_ob_14, c_fa_14_0, c_fa_14_1, c_fa_14_2, c_fa_14_3, c_fi_14_4, c_put_14_4, c_ob_15, c_fa_15_0, c_ob_17, c_fa_17_0, c_ob_19, c_fa_19_0, c_ob_21, c_fa_21_0, c_len_0, c_ld_0, c_st_0, c_rd_0, c_wr_0, c_len_1, c_ld_1, c_st_1, c_rd_1, c_wr_1, c_len_2, c_ld_2, c_st_2, c_rd_2, c_wr_2, c_len_3, c_ld_3, c_st_3, c_rd_3, c_wr_3, c_len_4, c_ld_4, c_st_4, c_rd_4, c_wr_4, c_len_5, c_ld_5, c_st_5, c_rd_5, c_wr_5, c_len_6, c_ld_6, c_st_6, c_rd_6, c_wr_6, c_len_7, c_ld_7, c_st_7, c_rd_7, c_wr_7, c_len_8, c_ld_8, c_st_8, c_rd_8, c_wr_8, c_len_9, c_ld_9, c_st_9, c_rd_9, c_wr_9, bI_rI, bL_rL, bA_rA, bV_rV, bI_th, bL_th, bA_th, bV_th, rZ_0, rZ_1]
          rw [mB_if, if_pos (by simp [hs])]
          rw [(x_fail (b := b) (H := H) hX (-9)).1, bI_rI]
        · obtain ⟨G1, r1, h1, s1⟩ := r_cur1 h hC
          obtain ⟨q, hq⟩ := hq0 G D h
          obtain ⟨f0, f1, f2, f3⟩ := s_fi h1 hc3 hcx hq
          obtain ⟨G2, r2, h2, s2⟩ := s_fault h1 (-9)
          refine ⟨G1, ?_, h1, s1⟩
          show f_M_drop G o (nI c) = _
          unfold f_M_drop
          rw [r1, s_ldC h1 hc3 hq, f3, if_neg hs, gOb_of h1.2.2.1 rfl, r2, bI_rI]
  · refine Sim.no hR hI 1 (by decide) (by decide) ?_ (fun G D h => ?_)
    · unfold f_X_drop
      simp only [(x_needCursor hR).2 hx, c_ob_0, c_fa_0_0, c_fa_0_1, c_fi_0_2, c_put_0_2, c_fi_0_3, c_put_0_3, c_fi_0_4, c_put_0_4, c_ob_1, c_fa_1_0, c_fa_1_1, c_fa_1_2, c_fa_1_3, c_fa_1_4, c_fa_1_5, c_fi_1_6, c_put_1_6, c_ob_2, c_fa_2_0, c_ob_4, c_fa_4_0, c_ob_6, c_fa_6_0, c_ob_8, c_fa_8_0, c_ob_10, c_fa_10_0, c_ob_12, c_fa_12_0, c_ob_14, c_fa_14_0, c_fa_14_1, c_fa_14_2, c_fa_14_3, c_fi_14_4, c_put_14_4, c_ob_15, c_fa_15_0, c_ob_17, c_fa_17_0, c_ob_19, c_fa_19_0, c_ob_21, c_fa_21_0, c_len_0, c_ld_0, c_st_0, c_rd_0, c_wr_0, c_len_1, c_ld_1, c_st_1, c_rd_1, c_wr_1, c_len_2, c_ld_2, c_st_2, c_rd_2, c_wr_2, c_len_3, c_ld_3, c_st_3, c_rd_3, c_wr_3, c_len_4, c_ld_4, c_st_4, c_rd_4, c_wr_4, c_len_5, c_ld_5, c_st_5, c_rd_5, c_wr_5, c_len_6, c_ld_6, c_st_6, c_rd_6, c_wr_6, c_len_7, c_ld_7, c_st_7, c_rd_7, c_wr_7, c_len_8, c_ld_8, c_st_8, c_rd_8, c_wr_8, c_len_9, c_ld_9, c_st_9, c_rd_9, c_wr_9, bI_rI, bL_rL, bA_rA, bV_rV, bI_th, bL_th, bA_th, bV_th, rZ_0, rZ_1]
      rfl
    · obtain ⟨G1, r1, h1, s1⟩ := r_cur0 h hx
      refine ⟨G1, ?_, h1, s1⟩
      unfold f_M_drop
      rw [r1]
      rfl
theorem sim_insert (hR : CRep σ A) (hI : mInv m A) (hm : m < 600) (x k : Int32) : SimOp w b o A m σ H xIAS (f_X_insert (cPut b σ H) b x k) (fun G => f_M_insert w G o x k) := by
  have hX := CRepx.of (exc := -1) hR
  by_cases hx : mIsC A x
  · have hC := hx
    obtain ⟨c, hc3, rfl, hcn⟩ := hx
    by_cases hk : mIsP 31 k
    · have hK := hk
      obtain ⟨k, hk31, rfl⟩ := hk
      cases hcx : A.2.2.1 c with
      | none => exact absurd hcx hcn
      | some y =>
        have hIt : mInv m (mSet A 0 0) := hI.thr 0
        obtain ⟨-, hy6, hv, hok⟩ := hI.2.2.2.1 c y hcx
        have hl31 := hI.l31 hv
        have hW := hI.w y.1
        obtain ⟨r, s, hr, hr2, hfit, h31, -, -⟩ := hI.pl hv
        have hq0 : ∀ (G : gH) (D : mD), MS w o G A D → ∃ q, D.2.2.2.2.2 c = some q := fun G D h => by
          obtain ⟨q, e, -⟩ := s_curq h hc3 hcx
          exact ⟨q, e⟩
        by_cases hf : (A.1 r).length + 1 ≤ 31
        · by_cases hs : y.2.2.2 = 0
          · rcases hok with ⟨-, hn, hla⟩ | ⟨hs1, -⟩
            · obtain ⟨hXt, hXM, hIM⟩ := b_made hR hI hm
              have hcM : (mSet (mSet A 0 0) 1 (nI (m + 1))).2.2.1 c = some y := hcx
              generalize hM : mSet (mSet A 0 0) 1 (nI (m + 1)) = M at hXM hIM hcM
              have hvM : mV M y.1 := by rw [← hM]; exact hv
              have hrM : mRw M.2.1 zDp y.1 = some (r, s) := by rw [← hM]; exact hr
              have hM1 : M.1 = A.1 := by rw [← hM]; rfl
              have hlM : mLen M y.1 = mLen A y.1 := by rw [← hM]; rfl
              have hM0 : M.2.2.2 0 = 0 := by rw [← hM]; rfl
              have hMm : M.2.2.2 1 = nI (m + 1) := hIM.2.2.2.2.1
              have hWB : mInw (nI c) y.1 (mSetC M c (y.1, y.2.1 + 1, -1, y.2.2.2)) := mInw.setC hIM hc3 hy6 hvM
              have hXB : CRepx (nI c) (cSetI σ 2 (nI (m + 1))) (mSetC M c (y.1, y.2.1 + 1, -1, y.2.2.2)) := CRepx.setC hXM hcM rfl rfl
              have hvB : mV (mSetC M c (y.1, y.2.1 + 1, -1, y.2.2.2)) y.1 := hvM
              have hrB : mRw (mSetC M c (y.1, y.2.1 + 1, -1, y.2.2.2)).2.1 zDp y.1 = some (r, s) := hrM
              have hlB : mLen (mSetC M c (y.1, y.2.1 + 1, -1, y.2.2.2)) y.1 = mLen A y.1 := hlM
              have hB1 : (mSetC M c (y.1, y.2.1 + 1, -1, y.2.2.2)).1 = A.1 := hM1
              have hil : ∀ a : Nat, ((A.1 r).insertIdx (s + y.2.1) (a, k, m)).length = (A.1 r).length + 1 := fun a => List.length_insertIdx_of_le_length (by omega) _
              obtain ⟨σ1, z1, z2, -, -⟩ := x_bringIn (b := b) (G := H) (i := y.2.1) (t := (0, k, m)) hXB hWB hvB hrB (by rw [hlB]; exact hn) (by rw [hB1]; omega)
              have z1' : f_X_bringIn (cPut b (cSetI σ 2 (nI (m + 1))) H) b (nI y.1) (nI y.2.1) (nI (32 * m + k)) (nI c) = rV (cPut b σ1 H) := z1
              rw [hB1] at z2
              have hA : ∀ a : Nat, _ := fun a => mChg_at (exc := nI c) (ts := (A.1 r).insertIdx (s + y.2.1) (a, k, m)) (z := 1) hWB hvB hrB (by omega) (by rw [hil a, hB1]; rfl) (by omega)
              have hcA : ∀ a : Nat, _ := fun a => mChg_cur (ts := (A.1 r).insertIdx (s + y.2.1) (a, k, m)) (z := 1) hWB hc3 hvB hrB (by omega)
              obtain ⟨σ2, w1, w2⟩ := x_stand (b := b) (G := H) z2 hc3 (hcA 0)
              have w1' : f_U_stand (cPut b σ1 H) (b + 14) (nI c) (nI (y.2.1 + 1)) (-1) = rV (cPut b σ2 H) := w1
              refine Sim.yes (nI m) σ2 ?_ (fun G D h => ?_)
              · unfold f_X_insert
                simp only [(x_needCursor hR).1 hC, x_needKey.1 hK, x_isStale hR hc3 hcx, x_listOf hR hc3 hcx, x_nextOf hR hc3 hcx, (x_needRoom (n := 1) hX hW.1 hv hr h31 (by omega)).1 hf, c_ob_0, c_fa_0_0, c_fa_0_1, c_fi_0_2, c_put_0_2, c_fi_0_3, c_put_0_3, c_fi_0_4, c_put_0_4, c_ob_1, c_fa_1_0, c_fa_1_1, c_fa_1_2, c_fa_1_3, c_fa_1_4, c_fa_1_5, c_fi_1_6, c_put_1_6, c_ob_2, c_fa_2_0, c_ob_4, c_fa_4_0, c_ob_6, c_fa_6_0, c_ob_8, c_fa_8_0, c_ob_10, c_fa_10_0, c_ob_12, c_fa_12_0, c_ob_14, c_fa_14_0, c_fa_14_1, c_fa_14_2, c_fa_14_3, c_fi_14_4, c_put_14_4, c_ob_15, c_fa_15_0, c_ob_17, c_fa_17_0, c_ob_19, c_fa_19_0, c_ob_21, c_fa_21_0, c_len_0, c_ld_0, c_st_0, c_rd_0, c_wr_0, c_len_1, c_ld_1, c_st_1, c_rd_1, c_wr_1, c_len_2, c_ld_2, c_st_2, c_rd_2, c_wr_2, c_len_3, c_ld_3, c_st_3, c_rd_3, c_wr_3, c_len_4, c_ld_4, c_st_4, c_rd_4, c_wr_4, c_len_5, c_ld_5, c_st_5, c_rd_5, c_wr_5, c_len_6, c_ld_6, c_st_6, c_rd_6, c_wr_6, c_len_7, c_ld_7, c_st_7, c_rd_7, c_wr_7, c_len_8, c_ld_8, c_st_8, c_rd_8, c_wr_8, c_len_9, c_ld_9, c_st_9, c_rd_9, c_wr_9, bI_rI, bL_rL, bA_rA, bV_rV, bI_th, bL_th, bA_th, bV_th, rZ_0, rZ_1]
                rw [mB_if, if_neg (by simp [hs]), nI_add]
                simp only [x_make hX hI.2.2.2.2.1 (show k < 32 by omega), z1', w1', x_tagOf (show k < 32 by omega) (show m ≤ 1000 by omega), c_ob_0, c_fa_0_0, c_fa_0_1, c_fi_0_2, c_put_0_2, c_fi_0_3, c_put_0_3, c_fi_0_4, c_put_0_4, c_ob_1, c_fa_1_0, c_fa_1_1, c_fa_1_2, c_fa_1_3, c_fa_1_4, c_fa_1_5, c_fi_1_6, c_put_1_6, c_ob_2, c_fa_2_0, c_ob_4, c_fa_4_0, c_ob_6, c_fa_6_0, c_ob_8, c_fa_8_0, c_ob_10, c_fa_10_0, c_ob_12, c_fa_12_0, c_ob_14, c_fa_14_0, c_fa_14_1, c_fa_14_2, c_fa_14_3, c_fi_14_4, c_put_14_4, c_ob_15, c_fa_15_0, c_ob_17, c_fa_17_0, c_ob_19, c_fa_19_0, c_ob_21, c_fa_21_0, c_len_0, c_ld_0, c_st_0, c_rd_0, c_wr_0, c_len_1, c_ld_1, c_st_1, c_rd_1, c_wr_1, c_len_2, c_ld_2, c_st_2, c_rd_2, c_wr_2, c_len_3, c_ld_3, c_st_3, c_rd_3, c_wr_3, c_len_4, c_ld_4, c_st_4, c_rd_4, c_wr_4, c_len_5, c_ld_5, c_st_5, c_rd_5, c_wr_5, c_len_6, c_ld_6, c_st_6, c_rd_6, c_wr_6, c_len_7, c_ld_7, c_st_7, c_rd_7, c_wr_7, c_len_8, c_ld_8, c_st_8, c_rd_8, c_wr_8, c_len_9, c_ld_9, c_st_9, c_rd_9, c_wr_9, bI_rI, bL_rL, bA_rA, bV_rV, bI_th, bL_th, bA_th, bV_th, rZ_0, rZ_1]
              · obtain ⟨G1, r1, h1, s1⟩ := r_cur1 h hC
                obtain ⟨q, hq⟩ := hq0 G D h
                obtain ⟨f0, f1, f2, f3⟩ := s_fi h1 hc3 hcx hq
                obtain ⟨G2, r2, h2, s2, t2⟩ := s_make (k := k) h1 (show (mSet A 0 0).2.2.2 1 = nI m from hI.2.2.2.2.1)
                rw [hM] at h2
                obtain ⟨G3, e', r3, h3, s3, -, -⟩ := s_come (i := y.2.1) (t := (G1.2.1, k, m)) h2 hIM.1 hvM hrM (by rw [hM1]; omega) (by rw [hM1]; omega) t2
                have r3' : f_M_come w G2 o (nI y.1) (nI y.2.1) G1.2.1 = rV G3 := r3
                have hq3 : (dRow D r e').2.2.2.2.2 c = some q := hq
                obtain ⟨e0, e1, e2, e3⟩ := s_fi h3 hc3 hcM hq3
                obtain ⟨G4, r4, h4, s4⟩ := s_put1 (n := y.2.1 + 1) h3 hc3 hcM hq3 (by omega)
                obtain ⟨G5, r5, h5, s5⟩ := s_put2 (v := -1) h4 hc3 mSetC_at hq3
                rw [mSetC_mSetC, hM1] at h5
                have h5' : MS w o G5 (mRows (mSetC M c (y.1, y.2.1 + 1, -1, y.2.2.2)) r ((A.1 r).insertIdx (s + y.2.1) (G1.2.1, k, m))) (dRow D r e') := h5
                obtain ⟨k0, -, -, -⟩ := s_fi h5' hc3 mSetC_at hq3
                obtain ⟨G6, F, r6, h6, s6⟩ := s_change (z := 1) (exc := nI c) h5' hWB hvB hrB (by omega) (by omega) (by rw [hB1]; omega)
                rw [ofInt_1] at r6
                obtain ⟨g1, g2, g3, g4, g5⟩ := hA G1.2.1
                refine ⟨_, _, G6, m + 1, ?_, h6, CRepx.ts (exc := -1) w2 ((hA 0).2.2.2.1) g4 (by rw [ins_map, ins_map]), mChg_inv (B := M) hIM hc3 rfl hy6 hvM hrM (by omega) (by rw [hil, hM1]; rfl) (by rw [hil]; omega) (by omega) (fun u hu => ?_) hs (by rw [hlM]; show ((y.2.1 + 1 : Nat) : Int) ≤ (mLen A y.1 : Int) + 1; omega) rfl, Nat.le_refl _, (g5 0 (by omega) (by omega)).trans hM0, (((((s1.trans s2).trans s3).trans s4).trans s5).trans s6.st).mono (by omega) (by omega)⟩
                · unfold f_M_insert
                  rw [r1, gOb_of h1.2.2.1 rfl, (s_noKey G1 o _).1 hK, bI_rI, r_ref0b h1 rfl, s_ldC h1 hc3 hq, f0, gOb_of h1.2.2.1 rfl, (s_isFull (n := 1) h1 hW.1 hv hr (by omega)).1 hf, bI_rI, r_ref0b h1 rfl, s_ldC h1 hc3 hq, f3, if_pos hs, f0, f1, gOb_of h1.2.2.1 rfl, r2, bA_rA, gOb_of h2.2.2.1 rfl, r3', bV_rV, e1, nI_add, r4, r5, k0, gOb_of h5'.2.2.1 rfl, r6, bV_rV, m_int h6.2.2 (j := 1) (i := 4) (by omega) rfl, g5 1 (by omega) (by omega)]
                  show rI (M.2.2.2 1 - nI 1) G6 = rI (nI m) G6
                  rw [hMm, nI_sub (by omega)]; rfl
                · rcases ins_mem _ _ hu with rfl | q
                  · exact ⟨hk31, Nat.lt_succ_self m⟩
                  · exact ⟨((hI.2.2.1 r hr2).2 u q).1, Nat.lt_succ_of_lt ((hI.2.2.1 r hr2).2 u q).2⟩
            · exact absurd (hs1.symm.trans hs) (by decide)
          · refine sim_fault hR hI (-9) ?_ (fun G D h => ?_)
            · unfold f_X_insert
              simp only [(x_needCursor hR).1 hC, x_needKey.1 hK, x_isStale hR hc3 hcx, x_listOf hR hc3 hcx, (x_needRoom (n := 1) hX hW.1 hv hr h31 (by omega)).1 hf, c_ob_0, c_fa_0_0, c_fa_0_1, c_fi_0_2, c_put_0_2, c_fi_0_3, c_put_0_3, c_fi_0_4, c_put_0_4, c_ob_1, c_fa_1_0, c_fa_1_1, c_fa_1_2, c_fa_1_3, c_fa_1_4, c_fa_1_5, c_fi_1_6, c_put_1_6, c_ob_2, c_fa_2_0, c_ob_4, c_fa_4_0, c_ob_6, c_fa_6_0, c_ob_8, c_fa_8_0, c_ob_10, c_fa_10_0, c_ob_12, c_fa_12_0, c_ob_14, c_fa_14_0, c_fa_14_1, c_fa_14_2, c_fa_14_3, c_fi_14_4, c_put_14_4, c_ob_15, c_fa_15_0, c_ob_17, c_fa_17_0, c_ob_19, c_fa_19_0, c_ob_21, c_fa_21_0, c_len_0, c_ld_0, c_st_0, c_rd_0, c_wr_0, c_len_1, c_ld_1, c_st_1, c_rd_1, c_wr_1, c_len_2, c_ld_2, c_st_2, c_rd_2, c_wr_2, c_len_3, c_ld_3, c_st_3, c_rd_3, c_wr_3, c_len_4, c_ld_4, c_st_4, c_rd_4, c_wr_4, c_len_5, c_ld_5, c_st_5, c_rd_5, c_wr_5, c_len_6, c_ld_6, c_st_6, c_rd_6, c_wr_6, c_len_7, c_ld_7, c_st_7, c_rd_7, c_wr_7, c_len_8, c_ld_8, c_st_8, c_rd_8, c_wr_8, c_len_9, c_ld_9, c_st_9, c_rd_9, c_wr_9, bI_rI, bL_rL, bA_rA, bV_rV, bI_th, bL_th, bA_th, bV_th, rZ_0, rZ_1]
              rw [mB_if, if_pos (by simp [hs])]
              rw [(x_fail (b := b) (H := H) hX (-9)).1, bI_rI]
            · obtain ⟨G1, r1, h1, s1⟩ := r_cur1 h hC
              obtain ⟨q, hq⟩ := hq0 G D h
              obtain ⟨f0, f1, f2, f3⟩ := s_fi h1 hc3 hcx hq
              obtain ⟨G2, r2, h2, s2⟩ := s_fault h1 (-9)
              refine ⟨G1, ?_, h1, s1⟩
              show f_M_insert w G o (nI c) (nI k) = _
              unfold f_M_insert
              rw [r1, gOb_of h1.2.2.1 rfl, (s_noKey G1 o _).1 hK, bI_rI, r_ref0b h1 rfl, s_ldC h1 hc3 hq, f0, gOb_of h1.2.2.1 rfl, (s_isFull (n := 1) h1 hW.1 hv hr (by omega)).1 hf, bI_rI, r_ref0b h1 rfl, s_ldC h1 hc3 hq, f3, if_neg hs, gOb_of h1.2.2.1 rfl, r2, bI_rI]
        · refine Sim.no hR hI 3 (by decide) (by decide) ?_ (fun G D h => ?_)
          · unfold f_X_insert
            simp only [(x_needCursor hR).1 hC, x_needKey.1 hK, x_listOf hR hc3 hcx, (x_needRoom (n := 1) hX hW.1 hv hr h31 (by omega)).2 (by omega), c_ob_0, c_fa_0_0, c_fa_0_1, c_fi_0_2, c_put_0_2, c_fi_0_3, c_put_0_3, c_fi_0_4, c_put_0_4, c_ob_1, c_fa_1_0, c_fa_1_1, c_fa_1_2, c_fa_1_3, c_fa_1_4, c_fa_1_5, c_fi_1_6, c_put_1_6, c_ob_2, c_fa_2_0, c_ob_4, c_fa_4_0, c_ob_6, c_fa_6_0, c_ob_8, c_fa_8_0, c_ob_10, c_fa_10_0, c_ob_12, c_fa_12_0, c_ob_14, c_fa_14_0, c_fa_14_1, c_fa_14_2, c_fa_14_3, c_fi_14_4, c_put_14_4, c_ob_15, c_fa_15_0, c_ob_17, c_fa_17_0, c_ob_19, c_fa_19_0, c_ob_21, c_fa_21_0, c_len_0, c_ld_0, c_st_0, c_rd_0, c_wr_0, c_len_1, c_ld_1, c_st_1, c_rd_1, c_wr_1, c_len_2, c_ld_2, c_st_2, c_rd_2, c_wr_2, c_len_3, c_ld_3, c_st_3, c_rd_3, c_wr_3, c_len_4, c_ld_4, c_st_4, c_rd_4, c_wr_4, c_len_5, c_ld_5, c_st_5, c_rd_5, c_wr_5, c_len_6, c_ld_6, c_st_6, c_rd_6, c_wr_6, c_len_7, c_ld_7, c_st_7, c_rd_7, c_wr_7, c_len_8, c_ld_8, c_st_8, c_rd_8, c_wr_8, c_len_9, c_ld_9, c_st_9, c_rd_9, c_wr_9, bI_rI, bL_rL, bA_rA, bV_rV, bI_th, bL_th, bA_th, bV_th, rZ_0, rZ_1]
            rfl
          · obtain ⟨G1, r1, h1, s1⟩ := r_cur1 h hC
            obtain ⟨q, hq⟩ := hq0 G D h
            obtain ⟨f0, f1, f2, f3⟩ := s_fi h1 hc3 hcx hq
            obtain ⟨G2, r2, h2, s2⟩ := r_no1b (c := 3) h1 (by decide)
            refine ⟨G2, ?_, h2, (s1.trans s2).mono (by omega) (by omega)⟩
            unfold f_M_insert
            rw [r1, gOb_of h1.2.2.1 rfl, (s_noKey G1 o _).1 hK, bI_rI, r_ref0b h1 rfl, s_ldC h1 hc3 hq, f0, gOb_of h1.2.2.1 rfl, (s_isFull (n := 1) h1 hW.1 hv hr (by omega)).2 (by show 31 < (A.1 r).length + 1; omega), bI_rI, r2]
            rfl
    · refine Sim.no hR hI 2 (by decide) (by decide) ?_ (fun G D h => ?_)
      · unfold f_X_insert
        simp only [(x_needCursor hR).1 hC, x_needKey.2 hk, c_ob_0, c_fa_0_0, c_fa_0_1, c_fi_0_2, c_put_0_2, c_fi_0_3, c_put_0_3, c_fi_0_4, c_put_0_4, c_ob_1, c_fa_1_0, c_fa_1_1, c_fa_1_2, c_fa_1_3, c_fa_1_4, c_fa_1_5, c_fi_1_6, c_put_1_6, c_ob_2, c_fa_2_0, c_ob_4, c_fa_4_0, c_ob_6, c_fa_6_0, c_ob_8, c_fa_8_0, c_ob_10, c_fa_10_0, c_ob_12, c_fa_12_0, c_ob_14, c_fa_14_0, c_fa_14_1, c_fa_14_2, c_fa_14_3, c_fi_14_4, c_put_14_4, c_ob_15, c_fa_15_0, c_ob_17, c_fa_17_0, c_ob_19, c_fa_19_0, c_ob_21, c_fa_21_0, c_len_0, c_ld_0, c_st_0, c_rd_0, c_wr_0, c_len_1, c_ld_1, c_st_1, c_rd_1, c_wr_1, c_len_2, c_ld_2, c_st_2, c_rd_2, c_wr_2, c_len_3, c_ld_3, c_st_3, c_rd_3, c_wr_3, c_len_4, c_ld_4, c_st_4, c_rd_4, c_wr_4, c_len_5, c_ld_5, c_st_5, c_rd_5, c_wr_5, c_len_6, c_ld_6, c_st_6, c_rd_6, c_wr_6, c_len_7, c_ld_7, c_st_7, c_rd_7, c_wr_7, c_len_8, c_ld_8, c_st_8, c_rd_8, c_wr_8, c_len_9, c_ld_9, c_st_9, c_rd_9, c_wr_9, bI_rI, bL_rL, bA_rA, bV_rV, bI_th, bL_th, bA_th, bV_th, rZ_0, rZ_1]
        rfl
      · obtain ⟨G1, r1, h1, s1⟩ := r_cur1 h hC
        obtain ⟨G2, r2, h2, s2⟩ := r_no1b (c := 2) h1 (by decide)
        refine ⟨G2, ?_, h2, (s1.trans s2).mono (by omega) (by omega)⟩
        unfold f_M_insert
        rw [r1, gOb_of h1.2.2.1 rfl, (s_noKey G1 o _).2 hk, bI_rI, r2]
        rfl
  · refine Sim.no hR hI 1 (by decide) (by decide) ?_ (fun G D h => ?_)
    · unfold f_X_insert
      simp only [(x_needCursor hR).2 hx, c_ob_0, c_fa_0_0, c_fa_0_1, c_fi_0_2, c_put_0_2, c_fi_0_3, c_put_0_3, c_fi_0_4, c_put_0_4, c_ob_1, c_fa_1_0, c_fa_1_1, c_fa_1_2, c_fa_1_3, c_fa_1_4, c_fa_1_5, c_fi_1_6, c_put_1_6, c_ob_2, c_fa_2_0, c_ob_4, c_fa_4_0, c_ob_6, c_fa_6_0, c_ob_8, c_fa_8_0, c_ob_10, c_fa_10_0, c_ob_12, c_fa_12_0, c_ob_14, c_fa_14_0, c_fa_14_1, c_fa_14_2, c_fa_14_3, c_fi_14_4, c_put_14_4, c_ob_15, c_fa_15_0, c_ob_17, c_fa_17_0, c_ob_19, c_fa_19_0, c_ob_21, c_fa_21_0, c_len_0, c_ld_0, c_st_0, c_rd_0, c_wr_0, c_len_1, c_ld_1, c_st_1, c_rd_1, c_wr_1, c_len_2, c_ld_2, c_st_2, c_rd_2, c_wr_2, c_len_3, c_ld_3, c_st_3, c_rd_3, c_wr_3, c_len_4, c_ld_4, c_st_4, c_rd_4, c_wr_4, c_len_5, c_ld_5, c_st_5, c_rd_5, c_wr_5, c_len_6, c_ld_6, c_st_6, c_rd_6, c_wr_6, c_len_7, c_ld_7, c_st_7, c_rd_7, c_wr_7, c_len_8, c_ld_8, c_st_8, c_rd_8, c_wr_8, c_len_9, c_ld_9, c_st_9, c_rd_9, c_wr_9, bI_rI, bL_rL, bA_rA, bV_rV, bI_th, bL_th, bA_th, bV_th, rZ_0, rZ_1]
      rfl
    · obtain ⟨G1, r1, h1, s1⟩ := r_cur0 h hx
      refine ⟨G1, ?_, h1, s1⟩
      unfold f_M_insert
      rw [r1]
      rfl
theorem sim_end (hR : CRep σ A) (hI : mInv m A) (x : Int32) : SimOp w b o A m σ H xI1 (f_X_end (cPut b σ H) b x) (fun G => f_M_end G o x) := by
  by_cases hx : mIsC A x
  · have hC := hx
    obtain ⟨c, hc3, rfl, hcn⟩ := hx
    cases hcx : A.2.2.1 c with
    | none => exact absurd hcx hcn
    | some y =>
      obtain ⟨σ', y1, y2⟩ := x_finishC (b := b) (G := H) hR hc3
      have hst : rZ y.2.2.2 = rI (mB (decide (¬ y.2.2.2 = 0))) := by
        funext G
        by_cases hs : y.2.2.2 = 0
        · rw [hs]; exact rZ_0
        · rw [stale_of hI hcx hs]; exact rZ_1
      have hIe : mInv m (mEndC A c) := by
        obtain ⟨a1, a2, a3, a4, a5, a6⟩ := hI
        refine ⟨a1, a2, a3, fun c' x hx => ?_, a5, a6⟩
        have hx' : va_up A.2.2.1 c none c' = some x := hx
        by_cases e : c' = c
        · rw [e, va_up_self] at hx'; cases hx'
        · rw [va_up_ne _ _ e] at hx'
          exact a4 c' x hx'
      refine Sim.yes (mB (decide (¬ y.2.2.2 = 0))) σ' ?_ (fun G D h => ?_)
      · unfold f_X_end
        simp only [(x_needCursor hR).1 hC, x_isStale hR hc3 hcx, y1, c_ob_0, c_fa_0_0, c_fa_0_1, c_fi_0_2, c_put_0_2, c_fi_0_3, c_put_0_3, c_fi_0_4, c_put_0_4, c_ob_1, c_fa_1_0, c_fa_1_1, c_fa_1_2, c_fa_1_3, c_fa_1_4, c_fa_1_5, c_fi_1_6, c_put_1_6, c_ob_2, c_fa_2_0, c_ob_4, c_fa_4_0, c_ob_6, c_fa_6_0, c_ob_8, c_fa_8_0, c_ob_10, c_fa_10_0, c_ob_12, c_fa_12_0, c_ob_14, c_fa_14_0, c_fa_14_1, c_fa_14_2, c_fa_14_3, c_fi_14_4, c_put_14_4, c_ob_15, c_fa_15_0, c_ob_17, c_fa_17_0, c_ob_19, c_fa_19_0, c_ob_21, c_fa_21_0, c_len_0, c_ld_0, c_st_0, c_rd_0, c_wr_0, c_len_1, c_ld_1, c_st_1, c_rd_1, c_wr_1, c_len_2, c_ld_2, c_st_2, c_rd_2, c_wr_2, c_len_3, c_ld_3, c_st_3, c_rd_3, c_wr_3, c_len_4, c_ld_4, c_st_4, c_rd_4, c_wr_4, c_len_5, c_ld_5, c_st_5, c_rd_5, c_wr_5, c_len_6, c_ld_6, c_st_6, c_rd_6, c_wr_6, c_len_7, c_ld_7, c_st_7, c_rd_7, c_wr_7, c_len_8, c_ld_8, c_st_8, c_rd_8, c_wr_8, c_len_9, c_ld_9, c_st_9, c_rd_9, c_wr_9, bI_rI, bL_rL, bA_rA, bV_rV, bI_th, bL_th, bA_th, bV_th, rZ_0, rZ_1]
        by_cases hs : y.2.2.2 = 0
        · simp only [hs]; exact rZ_0
        · simp only [hs]; exact rZ_1
      · obtain ⟨G1, r1, h1, s1⟩ := r_cur1 h hC
        obtain ⟨q, hq, -⟩ := s_curq h hc3 hcx
        obtain ⟨f0, f1, f2, f3⟩ := s_fi h1 hc3 hcx hq
        obtain ⟨G2, r2, h2, s2⟩ := m_endCursor h1.1 h1.2.2 hc3
        refine ⟨_, _, G2, m, ?_, h1.step s2.st h2, (CRepx.of (exc := -1) y2).thr 0, hIe, Nat.le_succ m, rfl, (s1.trans s2.st).mono (by omega) (by omega)⟩
        unfold f_M_end
        rw [r1, s_ldC h1 hc3 hq, f3, gOb_of h1.2.2.1 rfl, r2, bV_rV, hst]
  · refine Sim.no hR hI 1 (by decide) (by decide) ?_ (fun G D h => ?_)
    · unfold f_X_end
      simp only [(x_needCursor hR).2 hx, c_ob_0, c_fa_0_0, c_fa_0_1, c_fi_0_2, c_put_0_2, c_fi_0_3, c_put_0_3, c_fi_0_4, c_put_0_4, c_ob_1, c_fa_1_0, c_fa_1_1, c_fa_1_2, c_fa_1_3, c_fa_1_4, c_fa_1_5, c_fi_1_6, c_put_1_6, c_ob_2, c_fa_2_0, c_ob_4, c_fa_4_0, c_ob_6, c_fa_6_0, c_ob_8, c_fa_8_0, c_ob_10, c_fa_10_0, c_ob_12, c_fa_12_0, c_ob_14, c_fa_14_0, c_fa_14_1, c_fa_14_2, c_fa_14_3, c_fi_14_4, c_put_14_4, c_ob_15, c_fa_15_0, c_ob_17, c_fa_17_0, c_ob_19, c_fa_19_0, c_ob_21, c_fa_21_0, c_len_0, c_ld_0, c_st_0, c_rd_0, c_wr_0, c_len_1, c_ld_1, c_st_1, c_rd_1, c_wr_1, c_len_2, c_ld_2, c_st_2, c_rd_2, c_wr_2, c_len_3, c_ld_3, c_st_3, c_rd_3, c_wr_3, c_len_4, c_ld_4, c_st_4, c_rd_4, c_wr_4, c_len_5, c_ld_5, c_st_5, c_rd_5, c_wr_5, c_len_6, c_ld_6, c_st_6, c_rd_6, c_wr_6, c_len_7, c_ld_7, c_st_7, c_rd_7, c_wr_7, c_len_8, c_ld_8, c_st_8, c_rd_8, c_wr_8, c_len_9, c_ld_9, c_st_9, c_rd_9, c_wr_9, bI_rI, bL_rL, bA_rA, bV_rV, bI_th, bL_th, bA_th, bV_th, rZ_0, rZ_1]
      rfl
    · obtain ⟨G1, r1, h1, s1⟩ := r_cur0 h hx
      refine ⟨G1, ?_, h1, s1⟩
      unfold f_M_end
      rw [r1, rZ_0]
theorem sim_run (hR : CRep σ A) (hI : mInv m A) (x z : Int32) : SimOp w b o A m σ H xI1 (f_X_run (cPut b σ H) b x z) (fun G => f_M_run G o x z) := by
  have hX := CRepx.of (exc := -1) hR
  by_cases hx : mIsC A x
  · have hC := hx
    obtain ⟨c, hc3, rfl, hcn⟩ := hx
    cases hcx : A.2.2.1 c with
    | none => exact absurd hcx hcn
    | some y =>
      have hIt : mInv m (mSet A 0 0) := hI.thr 0
      obtain ⟨-, hy6, hv, hok⟩ := hI.2.2.2.1 c y hcx
      have hl31 := hI.l31 hv
      have hW := hI.w y.1
      have hq0 : ∀ (G : gH) (D : mD), MS w o G A D → ∃ q, D.2.2.2.2.2 c = some q := fun G D h => by
        obtain ⟨q, e, -⟩ := s_curq h hc3 hcx
        exact ⟨q, e⟩
      by_cases hs : y.2.2.2 = 0
      · rcases hok with ⟨-, hn, -⟩ | ⟨hs1, -⟩
        · by_cases hz : z = 0
          · have e1 : nI (mLen A y.1) - nI y.2.1 = nI (mLen A y.1 - y.2.1) := nI_sub hn
            by_cases hl : mLen A y.1 - y.2.1 = 0
            · -- there is none behind it
              have hl' : y.2.1 = mLen A y.1 := by omega
              refine Sim.yes 0 σ ?_ (fun G D h => ?_)
              · unfold f_X_run
                simp only [(x_needCursor hR).1 hC, x_isStale hR hc3 hcx, x_nextOf hR hc3 hcx, x_listOf hR hc3 hcx, x_len hX hW.1 hv, e1, hl, c_ob_0, c_fa_0_0, c_fa_0_1, c_fi_0_2, c_put_0_2, c_fi_0_3, c_put_0_3, c_fi_0_4, c_put_0_4, c_ob_1, c_fa_1_0, c_fa_1_1, c_fa_1_2, c_fa_1_3, c_fa_1_4, c_fa_1_5, c_fi_1_6, c_put_1_6, c_ob_2, c_fa_2_0, c_ob_4, c_fa_4_0, c_ob_6, c_fa_6_0, c_ob_8, c_fa_8_0, c_ob_10, c_fa_10_0, c_ob_12, c_fa_12_0, c_ob_14, c_fa_14_0, c_fa_14_1, c_fa_14_2, c_fa_14_3, c_fi_14_4, c_put_14_4, c_ob_15, c_fa_15_0, c_ob_17, c_fa_17_0, c_ob_19, c_fa_19_0, c_ob_21, c_fa_21_0, c_len_0, c_ld_0, c_st_0, c_rd_0, c_wr_0, c_len_1, c_ld_1, c_st_1, c_rd_1, c_wr_1, c_len_2, c_ld_2, c_st_2, c_rd_2, c_wr_2, c_len_3, c_ld_3, c_st_3, c_rd_3, c_wr_3, c_len_4, c_ld_4, c_st_4, c_rd_4, c_wr_4, c_len_5, c_ld_5, c_st_5, c_rd_5, c_wr_5, c_len_6, c_ld_6, c_st_6, c_rd_6, c_wr_6, c_len_7, c_ld_7, c_st_7, c_rd_7, c_wr_7, c_len_8, c_ld_8, c_st_8, c_rd_8, c_wr_8, c_len_9, c_ld_9, c_st_9, c_rd_9, c_wr_9, bI_rI, bL_rL, bA_rA, bV_rV, bI_th, bL_th, bA_th, bV_th, rZ_0, rZ_1]
                rw [mB_if, if_neg (by simp [hs]), if_pos hz, if_pos (by decide), if_pos (by decide)]
                rfl
              · obtain ⟨G1, r1, h1, s1⟩ := r_cur1 h hC
                obtain ⟨q, hq⟩ := hq0 G D h
                obtain ⟨f0, f1, f2, f3⟩ := s_fi h1 hc3 hcx hq
                obtain ⟨G2, r2, h2, s2⟩ := s_put1 (n := mLen A y.1) h1 hc3 hcx hq (by omega)
                have h2' : MS w o G2 (mSet A 0 0) D := by
                  have e : mSetC (mSet A 0 0) c (y.1, mLen A y.1, y.2.2) = mSet A 0 0 := by
                    rw [← hl']; exact mSetC_id hcx
                  rw [e] at h2; exact h2
                refine ⟨_, D, G2, m, ?_, h2', hX.thr 0, hIt, Nat.le_succ m, rfl, (s1.trans s2).mono (by omega) (by omega)⟩
                unfold f_M_run
                rw [r1, s_ldC h1 hc3 hq, f3, if_pos hs, if_pos hz, f0, gOb_of h1.2.2.1 rfl, s_len h1 hW.1 hv, bI_rI, f1, show nI (mLen (mSet A 0 0) y.1) - nI y.2.1 = nI 0 from by rw [← hl]; exact e1, if_pos (by decide), if_pos hz, f0, gOb_of h1.2.2.1 rfl, s_len h1 hW.1 hv, bI_rI]
                rw [show (∀ k : gH → gR, gPut G1 q 4 1 (.int (nI (mLen (mSet A 0 0) y.1))) k = k G2) from r2]
                rfl
            · have hpos : 0 < mLen A y.1 - y.2.1 := by omega
              have hnl : ¬ nI (mLen A y.1 - y.2.1) ≤ 0 := nI_ge (a := 0) hpos (by omega)
              have e2 : nI (mLen A y.1) - nI 1 = nI (mLen A y.1 - 1) := nI_sub (by omega)
              have hXs := CRepx.setC (y := (y.1, mLen A y.1, nI (mLen A y.1 - 1), y.2.2.2)) (A := mSet A 0 0) (hX.thr 0) hcx rfl rfl
              have hIs : mInv m (mSetC (mSet A 0 0) c (y.1, mLen A y.1, nI (mLen A y.1 - 1), y.2.2.2)) := hIt.setC hc3 ⟨hy6, hv, Or.inl ⟨hs, Nat.le_refl _, Or.inr ⟨mLen A y.1 - 1, show mLen A y.1 - 1 < mLen A y.1 by omega, rfl⟩⟩⟩
              obtain ⟨σ', y1, y2⟩ := x_stand (b := b) (G := H) hXs hc3 mSetC_at
              have y1' : f_U_stand (cPut b σ H) (b + 14) (nI c) (nI (mLen A y.1)) (nI (mLen A y.1 - 1)) = rV (cPut b σ' H) := y1
              refine Sim.yes (nI (mLen A y.1 - y.2.1)) σ' ?_ (fun G D h => ?_)
              · unfold f_X_run
                simp only [(x_needCursor hR).1 hC, x_isStale hR hc3 hcx, x_nextOf hR hc3 hcx, x_listOf hR hc3 hcx, x_len hX hW.1 hv, e1, e2, c_ob_0, c_fa_0_0, c_fa_0_1, c_fi_0_2, c_put_0_2, c_fi_0_3, c_put_0_3, c_fi_0_4, c_put_0_4, c_ob_1, c_fa_1_0, c_fa_1_1, c_fa_1_2, c_fa_1_3, c_fa_1_4, c_fa_1_5, c_fi_1_6, c_put_1_6, c_ob_2, c_fa_2_0, c_ob_4, c_fa_4_0, c_ob_6, c_fa_6_0, c_ob_8, c_fa_8_0, c_ob_10, c_fa_10_0, c_ob_12, c_fa_12_0, c_ob_14, c_fa_14_0, c_fa_14_1, c_fa_14_2, c_fa_14_3, c_fi_14_4, c_put_14_4, c_ob_15, c_fa_15_0, c_ob_17, c_fa_17_0, c_ob_19, c_fa_19_0, c_ob_21, c_fa_21_0, c_len_0, c_ld_0, c_st_0, c_rd_0, c_wr_0, c_len_1, c_ld_1, c_st_1, c_rd_1, c_wr_1, c_len_2, c_ld_2, c_st_2, c_rd_2, c_wr_2, c_len_3, c_ld_3, c_st_3, c_rd_3, c_wr_3, c_len_4, c_ld_4, c_st_4, c_rd_4, c_wr_4, c_len_5, c_ld_5, c_st_5, c_rd_5, c_wr_5, c_len_6, c_ld_6, c_st_6, c_rd_6, c_wr_6, c_len_7, c_ld_7, c_st_7, c_rd_7, c_wr_7, c_len_8, c_ld_8, c_st_8, c_rd_8, c_wr_8, c_len_9, c_ld_9, c_st_9, c_rd_9, c_wr_9, bI_rI, bL_rL, bA_rA, bV_rV, bI_th, bL_th, bA_th, bV_th, rZ_0, rZ_1]
                rw [mB_if, if_neg (by simp [hs]), if_pos hz, if_neg hnl, if_pos hz, if_neg hnl]
                simp only [y1', c_ob_0, c_fa_0_0, c_fa_0_1, c_fi_0_2, c_put_0_2, c_fi_0_3, c_put_0_3, c_fi_0_4, c_put_0_4, c_ob_1, c_fa_1_0, c_fa_1_1, c_fa_1_2, c_fa_1_3, c_fa_1_4, c_fa_1_5, c_fi_1_6, c_put_1_6, c_ob_2, c_fa_2_0, c_ob_4, c_fa_4_0, c_ob_6, c_fa_6_0, c_ob_8, c_fa_8_0, c_ob_10, c_fa_10_0, c_ob_12, c_fa_12_0, c_ob_14, c_fa_14_0, c_fa_14_1, c_fa_14_2, c_fa_14_3, c_fi_14_4, c_put_14_4, c_ob_15, c_fa_15_0, c_ob_17, c_fa_17_0, c_ob_19, c_fa_19_0, c_ob_21, c_fa_21_0, c_len_0, c_ld_0, c_st_0, c_rd_0, c_wr_0, c_len_1, c_ld_1, c_st_1, c_rd_1, c_wr_1, c_len_2, c_ld_2, c_st_2, c_rd_2, c_wr_2, c_len_3, c_ld_3, c_st_3, c_rd_3, c_wr_3, c_len_4, c_ld_4, c_st_4, c_rd_4, c_wr_4, c_len_5, c_ld_5, c_st_5, c_rd_5, c_wr_5, c_len_6, c_ld_6, c_st_6, c_rd_6, c_wr_6, c_len_7, c_ld_7, c_st_7, c_rd_7, c_wr_7, c_len_8, c_ld_8, c_st_8, c_rd_8, c_wr_8, c_len_9, c_ld_9, c_st_9, c_rd_9, c_wr_9, bI_rI, bL_rL, bA_rA, bV_rV, bI_th, bL_th, bA_th, bV_th, rZ_0, rZ_1]
              · obtain ⟨G1, r1, h1, s1⟩ := r_cur1 h hC
                obtain ⟨q, hq⟩ := hq0 G D h
                obtain ⟨f0, f1, f2, f3⟩ := s_fi h1 hc3 hcx hq
                obtain ⟨G2, r2, h2, s2⟩ := s_put2 (v := nI (mLen A y.1 - 1)) h1 hc3 hcx hq
                obtain ⟨g0, g1, g2, g3⟩ := s_fi h2 hc3 mSetC_at hq
                obtain ⟨G3, r3, h3, s3⟩ := s_put1 (n := mLen A y.1) h2 hc3 mSetC_at hq (by omega)
                rw [mSetC_mSetC] at h3
                have h3' : MS w o G3 (mSetC (mSet A 0 0) c (y.1, mLen A y.1, nI (mLen A y.1 - 1), y.2.2.2)) D := h3
                have l1 : f_M_length G1 o (nI y.1) = rI (nI (mLen A y.1)) G1 := s_len h1 hW.1 hv
                have l2 : f_M_length G2 o (nI y.1) = rI (nI (mLen A y.1)) G2 := s_len h2 hW.1 hv
                refine ⟨_, D, G3, m, ?_, h3', y2, hIs, Nat.le_succ m, rfl, ((s1.trans s2).trans s3).mono (by omega) (by omega)⟩
                unfold f_M_run
                rw [r1, s_ldC h1 hc3 hq, f3, if_pos hs, if_pos hz, f0, gOb_of h1.2.2.1 rfl, l1, bI_rI, f1, e1, if_neg hnl, if_pos hz, f0, gOb_of h1.2.2.1 rfl, l1, bI_rI, e2, r2, if_pos hz, g0, gOb_of h2.2.2.1 rfl, l2, bI_rI, r3]
          · by_cases hl : y.2.1 = 0
            · refine Sim.yes 0 σ ?_ (fun G D h => ?_)
              · unfold f_X_run
                simp only [(x_needCursor hR).1 hC, x_isStale hR hc3 hcx, x_nextOf hR hc3 hcx, x_listOf hR hc3 hcx, x_len hX hW.1 hv, hl, c_ob_0, c_fa_0_0, c_fa_0_1, c_fi_0_2, c_put_0_2, c_fi_0_3, c_put_0_3, c_fi_0_4, c_put_0_4, c_ob_1, c_fa_1_0, c_fa_1_1, c_fa_1_2, c_fa_1_3, c_fa_1_4, c_fa_1_5, c_fi_1_6, c_put_1_6, c_ob_2, c_fa_2_0, c_ob_4, c_fa_4_0, c_ob_6, c_fa_6_0, c_ob_8, c_fa_8_0, c_ob_10, c_fa_10_0, c_ob_12, c_fa_12_0, c_ob_14, c_fa_14_0, c_fa_14_1, c_fa_14_2, c_fa_14_3, c_fi_14_4, c_put_14_4, c_ob_15, c_fa_15_0, c_ob_17, c_fa_17_0, c_ob_19, c_fa_19_0, c_ob_21, c_fa_21_0, c_len_0, c_ld_0, c_st_0, c_rd_0, c_wr_0, c_len_1, c_ld_1, c_st_1, c_rd_1, c_wr_1, c_len_2, c_ld_2, c_st_2, c_rd_2, c_wr_2, c_len_3, c_ld_3, c_st_3, c_rd_3, c_wr_3, c_len_4, c_ld_4, c_st_4, c_rd_4, c_wr_4, c_len_5, c_ld_5, c_st_5, c_rd_5, c_wr_5, c_len_6, c_ld_6, c_st_6, c_rd_6, c_wr_6, c_len_7, c_ld_7, c_st_7, c_rd_7, c_wr_7, c_len_8, c_ld_8, c_st_8, c_rd_8, c_wr_8, c_len_9, c_ld_9, c_st_9, c_rd_9, c_wr_9, bI_rI, bL_rL, bA_rA, bV_rV, bI_th, bL_th, bA_th, bV_th, rZ_0, rZ_1]
                rw [mB_if, if_neg (by simp [hs]), if_neg hz, if_pos (by decide), if_pos (by decide)]
                rfl
              · obtain ⟨G1, r1, h1, s1⟩ := r_cur1 h hC
                obtain ⟨q, hq⟩ := hq0 G D h
                obtain ⟨f0, f1, f2, f3⟩ := s_fi h1 hc3 hcx hq
                obtain ⟨G2, r2, h2, s2⟩ := s_put1 (n := 0) h1 hc3 hcx hq (by omega)
                have h2' : MS w o G2 (mSet A 0 0) D := by
                  have e : mSetC (mSet A 0 0) c (y.1, 0, y.2.2) = mSet A 0 0 := by
                    rw [← hl]; exact mSetC_id hcx
                  rw [e] at h2; exact h2
                refine ⟨_, D, G2, m, ?_, h2', hX.thr 0, hIt, Nat.le_succ m, rfl, (s1.trans s2).mono (by omega) (by omega)⟩
                unfold f_M_run
                rw [r1, s_ldC h1 hc3 hq, f3, if_pos hs, if_neg hz, f1, hl, if_pos (by decide), if_neg hz, r2]
                rfl
            · have hnl : ¬ nI y.2.1 ≤ 0 := nI_ge (a := 0) (by omega) (by omega)
              have hXs := CRepx.setC (y := (y.1, 0, nI 0, y.2.2.2)) (A := mSet A 0 0) (hX.thr 0) hcx rfl rfl
              have hIs : mInv m (mSetC (mSet A 0 0) c (y.1, 0, nI 0, y.2.2.2)) := hIt.setC hc3 ⟨hy6, hv, Or.inl ⟨hs, Nat.zero_le _, Or.inr ⟨0, show 0 < mLen A y.1 by omega, rfl⟩⟩⟩
              obtain ⟨σ', y1, y2⟩ := x_stand (b := b) (G := H) hXs hc3 mSetC_at
              have y1' : f_U_stand (cPut b σ H) (b + 14) (nI c) (nI 0) (nI 0) = rV (cPut b σ' H) := y1
              refine Sim.yes (nI y.2.1) σ' ?_ (fun G D h => ?_)
              · unfold f_X_run
                simp only [(x_needCursor hR).1 hC, x_isStale hR hc3 hcx, x_nextOf hR hc3 hcx, x_listOf hR hc3 hcx, x_len hX hW.1 hv, c_ob_0, c_fa_0_0, c_fa_0_1, c_fi_0_2, c_put_0_2, c_fi_0_3, c_put_0_3, c_fi_0_4, c_put_0_4, c_ob_1, c_fa_1_0, c_fa_1_1, c_fa_1_2, c_fa_1_3, c_fa_1_4, c_fa_1_5, c_fi_1_6, c_put_1_6, c_ob_2, c_fa_2_0, c_ob_4, c_fa_4_0, c_ob_6, c_fa_6_0, c_ob_8, c_fa_8_0, c_ob_10, c_fa_10_0, c_ob_12, c_fa_12_0, c_ob_14, c_fa_14_0, c_fa_14_1, c_fa_14_2, c_fa_14_3, c_fi_14_4, c_put_14_4, c_ob_15, c_fa_15_0, c_ob_17, c_fa_17_0, c_ob_19, c_fa_19_0, c_ob_21, c_fa_21_0, c_len_0, c_ld_0, c_st_0, c_rd_0, c_wr_0, c_len_1, c_ld_1, c_st_1, c_rd_1, c_wr_1, c_len_2, c_ld_2, c_st_2, c_rd_2, c_wr_2, c_len_3, c_ld_3, c_st_3, c_rd_3, c_wr_3, c_len_4, c_ld_4, c_st_4, c_rd_4, c_wr_4, c_len_5, c_ld_5, c_st_5, c_rd_5, c_wr_5, c_len_6, c_ld_6, c_st_6, c_rd_6, c_wr_6, c_len_7, c_ld_7, c_st_7, c_rd_7, c_wr_7, c_len_8, c_ld_8, c_st_8, c_rd_8, c_wr_8, c_len_9, c_ld_9, c_st_9, c_rd_9, c_wr_9, bI_rI, bL_rL, bA_rA, bV_rV, bI_th, bL_th, bA_th, bV_th, rZ_0, rZ_1]
                rw [mB_if, if_neg (by simp [hs]), if_neg hz, if_neg hnl, if_neg hz]
                simp only [y1', c_ob_0, c_fa_0_0, c_fa_0_1, c_fi_0_2, c_put_0_2, c_fi_0_3, c_put_0_3, c_fi_0_4, c_put_0_4, c_ob_1, c_fa_1_0, c_fa_1_1, c_fa_1_2, c_fa_1_3, c_fa_1_4, c_fa_1_5, c_fi_1_6, c_put_1_6, c_ob_2, c_fa_2_0, c_ob_4, c_fa_4_0, c_ob_6, c_fa_6_0, c_ob_8, c_fa_8_0, c_ob_10, c_fa_10_0, c_ob_12, c_fa_12_0, c_ob_14, c_fa_14_0, c_fa_14_1, c_fa_14_2, c_fa_14_3, c_fi_14_4, c_put_14_4, c_ob_15, c_fa_15_0, c_ob_17, c_fa_17_0, c_ob_19, c_fa_19_0, c_ob_21, c_fa_21_0, c_len_0, c_ld_0, c_st_0, c_rd_0, c_wr_0, c_len_1, c_ld_1, c_st_1, c_rd_1, c_wr_1, c_len_2, c_ld_2, c_st_2, c_rd_2, c_wr_2, c_len_3, c_ld_3, c_st_3, c_rd_3, c_wr_3, c_len_4, c_ld_4, c_st_4, c_rd_4, c_wr_4, c_len_5, c_ld_5, c_st_5, c_rd_5, c_wr_5, c_len_6, c_ld_6, c_st_6, c_rd_6, c_wr_6, c_len_7, c_ld_7, c_st_7, c_rd_7, c_wr_7, c_len_8, c_ld_8, c_st_8, c_rd_8, c_wr_8, c_len_9, c_ld_9, c_st_9, c_rd_9, c_wr_9, bI_rI, bL_rL, bA_rA, bV_rV, bI_th, bL_th, bA_th, bV_th, rZ_0, rZ_1]
              · obtain ⟨G1, r1, h1, s1⟩ := r_cur1 h hC
                obtain ⟨q, hq⟩ := hq0 G D h
                obtain ⟨f0, f1, f2, f3⟩ := s_fi h1 hc3 hcx hq
                obtain ⟨G2, r2, h2, s2⟩ := s_put2 (v := nI 0) h1 hc3 hcx hq
                obtain ⟨G3, r3, h3, s3⟩ := s_put1 (n := 0) h2 hc3 mSetC_at hq (by omega)
                rw [mSetC_mSetC] at h3
                have h3' : MS w o G3 (mSetC (mSet A 0 0) c (y.1, 0, nI 0, y.2.2.2)) D := h3
                refine ⟨_, D, G3, m, ?_, h3', y2, hIs, Nat.le_succ m, rfl, ((s1.trans s2).trans s3).mono (by omega) (by omega)⟩
                unfold f_M_run
                rw [r1, s_ldC h1 hc3 hq, f3, if_pos hs, if_neg hz, f1, if_neg hnl, if_neg hz, r2, if_neg hz, r3]
        · exact absurd (hs1.symm.trans hs) (by decide)
      · refine sim_fault hR hI (-9) ?_ (fun G D h => ?_)
        · unfold f_X_run
          simp only [(x_needCursor hR).1 hC, x_isStale hR hc3 hcx, c_ob_0, c_fa_0_0, c_fa_0_1, c_fi_0_2, c_put_0_2, c_fi_0_3, c_put_0_3, c_fi_0_4, c_put_0_4, c_ob_1, c_fa_1_0, c_fa_1_1, c_fa_1_2, c_fa_1_3, c_fa_1_4, c_fa_1_5, c_fi_1_6, c_put_1_6, c_ob_2, c_fa_2_0, c_ob_4, c_fa_4_0, c_ob_6, c_fa_6_0, c_ob_8, c_fa_8_0, c_ob_10, c_fa_10_0, c_ob_12, c_fa_12_0, c_ob_14, c_fa_14_0, c_fa_14_1, c_fa_14_2, c_fa_14_3, c_fi_14_4, c_put_14_4, c_ob_15, c_fa_15_0, c_ob_17, c_fa_17_0, c_ob_19, c_fa_19_0, c_ob_21, c_fa_21_0, c_len_0, c_ld_0, c_st_0, c_rd_0, c_wr_0, c_len_1, c_ld_1, c_st_1, c_rd_1, c_wr_1, c_len_2, c_ld_2, c_st_2, c_rd_2, c_wr_2, c_len_3, c_ld_3, c_st_3, c_rd_3, c_wr_3, c_len_4, c_ld_4, c_st_4, c_rd_4, c_wr_4, c_len_5, c_ld_5, c_st_5, c_rd_5, c_wr_5, c_len_6, c_ld_6, c_st_6, c_rd_6, c_wr_6, c_len_7, c_ld_7, c_st_7, c_rd_7, c_wr_7, c_len_8, c_ld_8, c_st_8, c_rd_8, c_wr_8, c_len_9, c_ld_9, c_st_9, c_rd_9, c_wr_9, bI_rI, bL_rL, bA_rA, bV_rV, bI_th, bL_th, bA_th, bV_th, rZ_0, rZ_1]
          rw [mB_if, if_pos (by simp [hs])]
          rw [(x_fail (b := b) (H := H) hX (-9)).1, bI_rI]
        · obtain ⟨G1, r1, h1, s1⟩ := r_cur1 h hC
          obtain ⟨q, hq⟩ := hq0 G D h
          obtain ⟨f0, f1, f2, f3⟩ := s_fi h1 hc3 hcx hq
          obtain ⟨G2, r2, h2, s2⟩ := s_fault h1 (-9)
          refine ⟨G1, ?_, h1, s1⟩
          show f_M_run G o (nI c) z = _
          unfold f_M_run
          rw [r1, s_ldC h1 hc3 hq, f3, if_neg hs, gOb_of h1.2.2.1 rfl, r2, bI_rI]
  · refine Sim.no hR hI 1 (by decide) (by decide) ?_ (fun G D h => ?_)
    · unfold f_X_run
      simp only [(x_needCursor hR).2 hx, c_ob_0, c_fa_0_0, c_fa_0_1, c_fi_0_2, c_put_0_2, c_fi_0_3, c_put_0_3, c_fi_0_4, c_put_0_4, c_ob_1, c_fa_1_0, c_fa_1_1, c_fa_1_2, c_fa_1_3, c_fa_1_4, c_fa_1_5, c_fi_1_6, c_put_1_6, c_ob_2, c_fa_2_0, c_ob_4, c_fa_4_0, c_ob_6, c_fa_6_0, c_ob_8, c_fa_8_0, c_ob_10, c_fa_10_0, c_ob_12, c_fa_12_0, c_ob_14, c_fa_14_0, c_fa_14_1, c_fa_14_2, c_fa_14_3, c_fi_14_4, c_put_14_4, c_ob_15, c_fa_15_0, c_ob_17, c_fa_17_0, c_ob_19, c_fa_19_0, c_ob_21, c_fa_21_0, c_len_0, c_ld_0, c_st_0, c_rd_0, c_wr_0, c_len_1, c_ld_1, c_st_1, c_rd_1, c_wr_1, c_len_2, c_ld_2, c_st_2, c_rd_2, c_wr_2, c_len_3, c_ld_3, c_st_3, c_rd_3, c_wr_3, c_len_4, c_ld_4, c_st_4, c_rd_4, c_wr_4, c_len_5, c_ld_5, c_st_5, c_rd_5, c_wr_5, c_len_6, c_ld_6, c_st_6, c_rd_6, c_wr_6, c_len_7, c_ld_7, c_st_7, c_rd_7, c_wr_7, c_len_8, c_ld_8, c_st_8, c_rd_8, c_wr_8, c_len_9, c_ld_9, c_st_9, c_rd_9, c_wr_9, bI_rI, bL_rL, bA_rA, bV_rV, bI_th, bL_th, bA_th, bV_th, rZ_0, rZ_1]
      rfl
    · obtain ⟨G1, r1, h1, s1⟩ := r_cur0 h hx
      refine ⟨G1, ?_, h1, s1⟩
      unfold f_M_run
      rw [r1]
      rfl
end Ins
