-- cursor, next, previous, put
section Csr
variable {w : Nat → Nat} {b o m : Nat} {A : mS} {σ : cS} {H : gH}
theorem mSetC_at {A : mS} {c : Nat} {y : Nat × Nat × Int32 × Int32} : (mSetC A c y).2.2.1 c = some y := va_up_self _ _ _
theorem mSetC_mSetC {A : mS} {c : Nat} {x y : Nat × Nat × Int32 × Int32} : mSetC (mSetC A c x) c y = mSetC A c y := by
  unfold mSetC
  refine congrArg (fun f => (A.1, A.2.1, f, A.2.2.2)) ?_
  funext j
  simp only [va_up]
  split <;> rfl
theorem mSetC_id {A : mS} {c : Nat} {x : Nat × Nat × Int32 × Int32} (h : A.2.2.1 c = some x) : mSetC A c x = A := by
  unfold mSetC
  rw [← h, va_up_id]
theorem mInv.setC {c : Nat} {y : Nat × Nat × Int32 × Int32} (hI : mInv m A) (hc : c < 3) (hy : mCok A y) : mInv m (mSetC A c y) := by
  obtain ⟨a1, a2, a3, a4, a5, a6⟩ := hI
  refine ⟨a1, a2, a3, fun c' x hx => ?_, a5, a6⟩
  have hx' : va_up A.2.2.1 c (some y) c' = some x := hx
  by_cases e : c' = c
  · rw [e, va_up_self] at hx'
    cases hx'
    rw [e]
    exact ⟨hc, hy⟩
  · rw [va_up_ne _ _ e] at hx'
    exact a4 c' x hx'
/-- a new cursor -/
theorem s_newC {G : gH} {D : mD} (h : MS w o G A D) {c p n : Nat} (h3 : c < 3) (hc : A.2.2.1 c = none) (hp : p < 6) (hn : n < 100) :
    ∃ G', (gFA G o 6 3 fun v1 => gNewO G 4 4 [.int 0, .int 0, .int 0, .int 0] fun q1 G1 => bV (f_MC_init G1 q1) fun G2 => gStq G2 v1 105 4 (nI c) q1 fun G3 => gFA G3 o 6 3 fun v2 => gLdq G3 v2 105 (nI c) (none) fun v3 => gPut G3 v3 4 0 (.int (nI p)) fun G4 => gFA G4 o 6 3 fun v4 => gLdq G4 v4 105 (nI c) (none) fun v5 => gPut G4 v5 4 1 (.int (nI n)) fun G5 => rI (nI c) G5) = rI (nI c) G' ∧
      MS w o G' (mSetC A c (p, n, -1, 0)) (dCur D (va_up D.2.2.2.2.2 c (some G.2.1))) ∧ mSt 1 4 G G' := by
  obtain ⟨hw, hw0, hr⟩ := h
  have hlt := hr.lt hw
  have ho := hr.1
  have hp5 := hr.2.2.2.2.1
  have lo := hw _ _ ho
  have lp := hw _ _ hp5
  have c0 : ∀ z, z < G.2.1 → (gNew G 4 (.inr (4, [.int 0, .int 0, .int 0, .int 0]))).2.2 z = G.2.2 z := fun z hz => gNew_ne (by omega)
  have n0 : (gNew G 4 (.inr (4, [.int 0, .int 0, .int 0, .int 0]))).2.2 G.2.1 = some (.inr (4, [.int 0, .int 0, .int 0, .int 0])) := gNew_at
  have w0 : gWf (gNew G 4 (.inr (4, [.int 0, .int 0, .int 0, .int 0]))) := hw.new
  have s0 : (gNew G 4 (.inr (4, [.int 0, .int 0, .int 0, .int 0]))).2.1 = G.2.1 + 1 ∧ (gNew G 4 (.inr (4, [.int 0, .int 0, .int 0, .int 0]))).1 = G.1 + 4 := ⟨rfl, rfl⟩
  generalize hG1 : gNew G 4 (.inr (4, [.int 0, .int 0, .int 0, .int 0])) = G1 at c0 n0 w0 s0
  have hone : D.1.2.2.2 ≠ o := fun e => by rw [e, ho] at hp5; cases hp5
  -- the first field, set when it is made
  have n1 : (gUp G1 G.2.1 (.inr (4, [.int 0, .int 0, .int (-1), .int 0]))).2.2 G.2.1 = some (.inr (4, [.int 0, .int 0, .int (-1), .int 0])) := gUp_at
  have c1 : ∀ z, z < G.2.1 → (gUp G1 G.2.1 (.inr (4, [.int 0, .int 0, .int (-1), .int 0]))).2.2 z = G.2.2 z := fun z hz => by rw [gUp_ne (by omega)]; exact c0 z hz
  have w1 : gWf (gUp G1 G.2.1 (.inr (4, [.int 0, .int 0, .int (-1), .int 0]))) := w0.up (by omega)
  have s1 : (gUp G1 G.2.1 (.inr (4, [.int 0, .int 0, .int (-1), .int 0]))).2.1 = G.2.1 + 1 ∧ (gUp G1 G.2.1 (.inr (4, [.int 0, .int 0, .int (-1), .int 0]))).1 = G.1 + 4 := s0
  generalize hG2 : gUp G1 G.2.1 (.inr (4, [.int 0, .int 0, .int (-1), .int 0])) = G2 at n1 c1 w1 s1
  have n2 : (gUp G2 D.1.2.2.2 (zQ 105 3 (va_up D.2.2.2.2.2 c (some G.2.1)))).2.2 G.2.1 = some (.inr (4, [.int 0, .int 0, .int (-1), .int 0])) := by rw [gUp_ne (by omega)]; exact n1
  have a2 : (gUp G2 D.1.2.2.2 (zQ 105 3 (va_up D.2.2.2.2.2 c (some G.2.1)))).2.2 D.1.2.2.2 = some (zQ 105 3 (va_up D.2.2.2.2.2 c (some G.2.1))) := gUp_at
  have c2 : ∀ z, z ≠ D.1.2.2.2 → z < G.2.1 → (gUp G2 D.1.2.2.2 (zQ 105 3 (va_up D.2.2.2.2.2 c (some G.2.1)))).2.2 z = G.2.2 z := fun z hn hz => by rw [gUp_ne hn]; exact c1 z hz
  have w2 : gWf (gUp G2 D.1.2.2.2 (zQ 105 3 (va_up D.2.2.2.2.2 c (some G.2.1)))) := w1.up (by omega)
  have s2 : (gUp G2 D.1.2.2.2 (zQ 105 3 (va_up D.2.2.2.2.2 c (some G.2.1)))).2.1 = G.2.1 + 1 ∧ (gUp G2 D.1.2.2.2 (zQ 105 3 (va_up D.2.2.2.2.2 c (some G.2.1)))).1 = G.1 + 4 := s1
  generalize hG3 : gUp G2 D.1.2.2.2 (zQ 105 3 (va_up D.2.2.2.2.2 c (some G.2.1))) = G3 at n2 a2 c2 w2 s2
  have step : ∀ (G2 : gH) (fs' : List Value), G2.2.2 D.1.2.2.2 = some (zQ 105 3 (va_up D.2.2.2.2.2 c (some G.2.1))) → (∀ z, z ≠ D.1.2.2.2 → z < G.2.1 → G2.2.2 z = G.2.2 z) → (gUp G2 G.2.1 (.inr (4, fs'))).2.2 D.1.2.2.2 = some (zQ 105 3 (va_up D.2.2.2.2.2 c (some G.2.1))) ∧ (∀ z, z ≠ D.1.2.2.2 → z < G.2.1 → (gUp G2 G.2.1 (.inr (4, fs'))).2.2 z = G.2.2 z) ∧ (gUp G2 G.2.1 (.inr (4, fs'))).2.2 G.2.1 = some (.inr (4, fs')) := fun G2 fs' z1 z2 =>
    ⟨by rw [gUp_ne (by omega)]; exact z1, fun z hn hz => by rw [gUp_ne (by omega)]; exact z2 z hn hz, gUp_at⟩
  have at' : va_up D.2.2.2.2.2 c (some G.2.1) c = some G.2.1 := va_up_self _ _ _
  obtain ⟨p1, p2, p3⟩ := step G3 [.int (nI p), .int 0, .int (-1), .int 0] a2 c2
  obtain ⟨r1, r2, r3⟩ := step _ [.int (nI p), .int (nI n), .int (-1), .int 0] p1 p2
  have hwf : gWf (gUp (gUp G3 G.2.1 (.inr (4, [.int (nI p), .int 0, .int (-1), .int 0]))) G.2.1 (.inr (4, [.int (nI p), .int (nI n), .int (-1), .int 0]))) := by
    refine gWf.up (w2.up ?_) ?_ <;> (show G.2.1 < G3.2.1; omega)
  have hsz : (gUp (gUp G3 G.2.1 (.inr (4, [.int (nI p), .int 0, .int (-1), .int 0]))) G.2.1 (.inr (4, [.int (nI p), .int (nI n), .int (-1), .int 0]))).2.1 = G.2.1 + 1 ∧ (gUp (gUp G3 G.2.1 (.inr (4, [.int (nI p), .int 0, .int (-1), .int 0]))) G.2.1 (.inr (4, [.int (nI p), .int (nI n), .int (-1), .int 0]))).1 = G.1 + 4 := s2
  refine ⟨gUp (gUp G3 G.2.1 (.inr (4, [.int (nI p), .int 0, .int (-1), .int 0]))) G.2.1 (.inr (4, [.int (nI p), .int (nI n), .int (-1), .int 0])), ?_, ?_⟩
  · rw [gFA_of ho rfl rfl]
    unfold gNewO f_MC_init
    dsimp only
    rw [hG1, gPut_of n0 (by decide)]
    rw [show ([.int 0, .int 0, .int 0, .int 0] : List Value).set 2 (.int (-1)) = [.int 0, .int 0, .int (-1), .int 0] from rfl, hG2, bV_rV, gStq_of ((c1 _ lp).trans hp5) h3 (by omega) n1 (by omega), hG3, gFA_of ((c2 _ (fun e => hone e.symm) lo).trans ho) rfl rfl, gLdq_of a2 rfl h3 (by omega) at', gPut_of n2 (by decide)]
    rw [show ([.int 0, .int 0, .int (-1), .int 0] : List Value).set 0 (.int (nI p)) = [.int (nI p), .int 0, .int (-1), .int 0] from rfl, gFA_of ((p2 _ (fun e => hone e.symm) lo).trans ho) rfl rfl, gLdq_of p1 rfl h3 (by omega) at', gPut_of p3 (show 1 < 4 by decide)]
    rfl
  · generalize gUp (gUp G3 G.2.1 (.inr (4, [.int (nI p), .int 0, .int (-1), .int 0]))) G.2.1 (.inr (4, [.int (nI p), .int (nI n), .int (-1), .int 0])) = G' at r1 r2 r3 hsz hwf
    have hsm : gSm (fun z => ∀ n f, z ≠ zQ 105 n f) G G' := fun z x hz hx => (r2 z (fun e => by rw [e, hp5] at hz; exact hx _ _ (Option.some.inj hz).symm) (hw _ _ hz)).trans hz
    have hk : gKeep G G' := fun y hy => by
      rcases hy with ⟨fs, e⟩ | ⟨mm, g, e⟩
      · exact Or.inl ⟨fs, (r2 _ (fun q => by rw [q, hp5] at e; cases e) (hw _ _ e)).trans e⟩
      · exact Or.inr ⟨mm, g, (r2 _ (fun q => by rw [q, hp5] at e; cases e) (hw _ _ e)).trans e⟩
    have hfr : gFr (mOwn G) 1 4 G G' := by
      exact ⟨by omega, by omega, by omega, by omega, fun _ => hwf, fun z hz hn => r2 z (fun e => hn (by rw [e]; exact ⟨_, hp5, Or.inr ⟨_, _, _, rfl, by decide⟩⟩)) hz⟩
    have hS : mSt 1 4 G G' := ⟨hfr, hk⟩
    obtain ⟨k1, k2, k3, k4, k5, k6, k7, k8, k9, k10⟩ := hr
    have hN : mN3 (fun z => ∀ n f, z ≠ zQ 105 n f) := ⟨fun fs n f q => (by cases q), fun c n f hc n' f' q => (by have := (zQ_inj (congrArg some q)).1; omega), fun g n f q => (by cases q)⟩
    refine ⟨⟨hwf, hS.w0 hw hw0, hsm _ _ k1 (fun n f q => by cases q), k2.tr hN hsm hk, fun i hi => (k3 i hi).tr hN hsm hk, hsm _ _ k4 (fun n f q => by have := (zQ_inj (congrArg some q)).1; omega), r1, fun i hi t ht => (k6 i hi t ht).tr hN hsm, fun p hp => (k7 p hp).tr (fun fs n f q => by cases q) hsm, fun c' hc' => ?_, ⟨k9.1, k9.2.1, k9.2.2.1, k9.2.2.2.1, k9.2.2.2.2.put (fun j hj e => ?_)⟩, k10⟩, hS⟩
    · show mCu G' (va_up A.2.2.1 c (some (p, n, -1, 0)) c') (va_up D.2.2.2.2.2 c (some G.2.1) c')
      by_cases e : c' = c
      · rw [e, va_up_self, va_up_self]
        exact ⟨hp, hn, r3⟩
      · rw [va_up_ne _ _ e, va_up_ne _ _ e]
        exact (k8 c' hc').tr (fun fs n f q => by cases q) hsm
    · exact Nat.lt_irrefl _ (hlt.2 j _ hj e)
theorem sim_cursor (hR : CRep σ A) (hI : mInv m A) (x y : Int32) : SimOp w b o A m σ H xIS (f_X_cursor (cPut b σ H) b x y) (fun G => f_M_cursor G o x y) := by
  have hX := CRepx.of (exc := -1) hR
  by_cases hx : mIsL A x
  · have hL := hx
    obtain ⟨p, hp, rfl, hv⟩ := hx
    have hv : mV A p := hv
    have hp6 := hp
    have hW := hI.w p
    have hIt : mInv m (mSet A 0 0) := hI.thr 0
    have hl31 := hI.l31 hv
    by_cases hy : mIsG (mLen A p) y
    · have hy' := hy
      obtain ⟨f, hf, rfl⟩ := hy
      have inF : ∀ G : gH, f_M_isIn G (nI f) (nI 0) (nI (mLen A p)) = rI 1 G := fun G => (s_isIn G (mLen A p) (by omega) _).1 hy'
      have fp := x_freeCursor (b := b) (G := H) hR
      have fm : ∀ (G : gH) (D : mD), MS w o G (mSet A 0 0) D → f_M_freeCursor G o = rI (sNo (sFree (fun c => (A.2.2.1 c).isNone) 0 3)) G := fun G D h => s_freeCursor (A := mSet A 0 0) h
      cases hq : sFree (fun c => (A.2.2.1 c).isNone) 0 3 with
      | none =>
        rw [hq] at fp fm
        refine Sim.no hR hI 2 (by decide) (by decide) ?_ (fun G D h => ?_)
        · unfold f_X_cursor
          simp only [x_needList hX hW hL, (x_needGap hX hW.1 hv (show mLen A p < 100 by omega)).1 hy', fp, c_ob_0, c_fa_0_0, c_fa_0_1, c_fi_0_2, c_put_0_2, c_fi_0_3, c_put_0_3, c_fi_0_4, c_put_0_4, c_ob_1, c_fa_1_0, c_fa_1_1, c_fa_1_2, c_fa_1_3, c_fa_1_4, c_fa_1_5, c_fi_1_6, c_put_1_6, c_ob_2, c_fa_2_0, c_ob_4, c_fa_4_0, c_ob_6, c_fa_6_0, c_ob_8, c_fa_8_0, c_ob_10, c_fa_10_0, c_ob_12, c_fa_12_0, c_ob_14, c_fa_14_0, c_fa_14_1, c_fa_14_2, c_fa_14_3, c_fi_14_4, c_put_14_4, c_ob_15, c_fa_15_0, c_ob_17, c_fa_17_0, c_ob_19, c_fa_19_0, c_ob_21, c_fa_21_0, c_len_0, c_ld_0, c_st_0, c_rd_0, c_wr_0, c_len_1, c_ld_1, c_st_1, c_rd_1, c_wr_1, c_len_2, c_ld_2, c_st_2, c_rd_2, c_wr_2, c_len_3, c_ld_3, c_st_3, c_rd_3, c_wr_3, c_len_4, c_ld_4, c_st_4, c_rd_4, c_wr_4, c_len_5, c_ld_5, c_st_5, c_rd_5, c_wr_5, c_len_6, c_ld_6, c_st_6, c_rd_6, c_wr_6, c_len_7, c_ld_7, c_st_7, c_rd_7, c_wr_7, c_len_8, c_ld_8, c_st_8, c_rd_8, c_wr_8, c_len_9, c_ld_9, c_st_9, c_rd_9, c_wr_9, bI_rI, bL_rL, bA_rA, bV_rV, bI_th, bL_th, bA_th, bV_th, rZ_0, rZ_1]
          rw [show sNo none = -1 from rfl, if_pos rfl]
          rfl
        · obtain ⟨G1, r1, h1, s1⟩ := r_list1 h hL
          obtain ⟨G2, r2, h2, s2⟩ := r_no1 (c := 2) h1 (by decide)
          refine ⟨G2, ?_, h2, (s1.trans s2).mono (by omega) (by omega)⟩
          unfold f_M_cursor
          rw [r1, gOb_of h1.2.2.1 rfl, s_len h1 hW.1 hv, bI_rI, show f_M_isIn G1 (nI f) (nI 0) (nI (mLen (mSet A 0 0) p)) = _ from inF G1, bI_rI, if_neg (by decide), r_ref0 h1 rfl, gOb_of h1.2.2.1 rfl, fm G1 D h1, bI_rI, show sNo none = -1 from rfl, if_pos rfl, r2]
          rfl
      | some c =>
        rw [hq] at fp fm
        obtain ⟨q1, -, q3⟩ := sFree_some _ _ _ hq
        have hcn : A.2.2.1 c = none := Option.isNone_iff_eq_none.mp q1
        have hne : ¬ nI c = -1 := nI_ne1 (by omega)
        obtain ⟨σ', y1, y2⟩ := x_start (b := b) (G := H) (c := c) (i := p) (n := f) hR (by omega)
        refine Sim.yes (nI c) σ' ?_ (fun G D h => ?_)
        · unfold f_X_cursor
          simp only [x_needList hX hW hL, (x_needGap hX hW.1 hv (show mLen A p < 100 by omega)).1 hy', fp, c_ob_0, c_fa_0_0, c_fa_0_1, c_fi_0_2, c_put_0_2, c_fi_0_3, c_put_0_3, c_fi_0_4, c_put_0_4, c_ob_1, c_fa_1_0, c_fa_1_1, c_fa_1_2, c_fa_1_3, c_fa_1_4, c_fa_1_5, c_fi_1_6, c_put_1_6, c_ob_2, c_fa_2_0, c_ob_4, c_fa_4_0, c_ob_6, c_fa_6_0, c_ob_8, c_fa_8_0, c_ob_10, c_fa_10_0, c_ob_12, c_fa_12_0, c_ob_14, c_fa_14_0, c_fa_14_1, c_fa_14_2, c_fa_14_3, c_fi_14_4, c_put_14_4, c_ob_15, c_fa_15_0, c_ob_17, c_fa_17_0, c_ob_19, c_fa_19_0, c_ob_21, c_fa_21_0, c_len_0, c_ld_0, c_st_0, c_rd_0, c_wr_0, c_len_1, c_ld_1, c_st_1, c_rd_1, c_wr_1, c_len_2, c_ld_2, c_st_2, c_rd_2, c_wr_2, c_len_3, c_ld_3, c_st_3, c_rd_3, c_wr_3, c_len_4, c_ld_4, c_st_4, c_rd_4, c_wr_4, c_len_5, c_ld_5, c_st_5, c_rd_5, c_wr_5, c_len_6, c_ld_6, c_st_6, c_rd_6, c_wr_6, c_len_7, c_ld_7, c_st_7, c_rd_7, c_wr_7, c_len_8, c_ld_8, c_st_8, c_rd_8, c_wr_8, c_len_9, c_ld_9, c_st_9, c_rd_9, c_wr_9, bI_rI, bL_rL, bA_rA, bV_rV, bI_th, bL_th, bA_th, bV_th, rZ_0, rZ_1]
          rw [show sNo (some c) = nI c from rfl, if_neg hne, y1, bV_rV]
        · obtain ⟨G1, r1, h1, s1⟩ := r_list1 h hL
          obtain ⟨G2, r2, h2, s2⟩ := s_newC (c := c) (p := p) (n := f) h1 (by omega) hcn hp6 (by omega)
          refine ⟨_, _, G2, m, ?_, h2, (CRepx.of (exc := -1) y2).thr 0, hIt.setC (by omega) ⟨hp6, hv, Or.inl ⟨rfl, hf, Or.inl rfl⟩⟩, Nat.le_succ m, rfl, (s1.trans s2).mono (by omega) (by omega)⟩
          unfold f_M_cursor
          rw [r1, gOb_of h1.2.2.1 rfl, s_len h1 hW.1 hv, bI_rI, show f_M_isIn G1 (nI f) (nI 0) (nI (mLen (mSet A 0 0) p)) = _ from inF G1, bI_rI, if_neg (by decide), r_ref0 h1 rfl, gOb_of h1.2.2.1 rfl, fm G1 D h1, bI_rI, show sNo (some c) = nI c from rfl, if_neg hne, r_ref0 h1 rfl, gOb_of h1.2.2.1 rfl, fm G1 D h1, bI_rI]
          exact r2
    · refine Sim.no hR hI 1 (by decide) (by decide) ?_ (fun G D h => ?_)
      · unfold f_X_cursor
        simp only [x_needList hX hW hL, (x_needGap hX hW.1 hv (show mLen A p < 100 by omega)).2 hy, c_ob_0, c_fa_0_0, c_fa_0_1, c_fi_0_2, c_put_0_2, c_fi_0_3, c_put_0_3, c_fi_0_4, c_put_0_4, c_ob_1, c_fa_1_0, c_fa_1_1, c_fa_1_2, c_fa_1_3, c_fa_1_4, c_fa_1_5, c_fi_1_6, c_put_1_6, c_ob_2, c_fa_2_0, c_ob_4, c_fa_4_0, c_ob_6, c_fa_6_0, c_ob_8, c_fa_8_0, c_ob_10, c_fa_10_0, c_ob_12, c_fa_12_0, c_ob_14, c_fa_14_0, c_fa_14_1, c_fa_14_2, c_fa_14_3, c_fi_14_4, c_put_14_4, c_ob_15, c_fa_15_0, c_ob_17, c_fa_17_0, c_ob_19, c_fa_19_0, c_ob_21, c_fa_21_0, c_len_0, c_ld_0, c_st_0, c_rd_0, c_wr_0, c_len_1, c_ld_1, c_st_1, c_rd_1, c_wr_1, c_len_2, c_ld_2, c_st_2, c_rd_2, c_wr_2, c_len_3, c_ld_3, c_st_3, c_rd_3, c_wr_3, c_len_4, c_ld_4, c_st_4, c_rd_4, c_wr_4, c_len_5, c_ld_5, c_st_5, c_rd_5, c_wr_5, c_len_6, c_ld_6, c_st_6, c_rd_6, c_wr_6, c_len_7, c_ld_7, c_st_7, c_rd_7, c_wr_7, c_len_8, c_ld_8, c_st_8, c_rd_8, c_wr_8, c_len_9, c_ld_9, c_st_9, c_rd_9, c_wr_9, bI_rI, bL_rL, bA_rA, bV_rV, bI_th, bL_th, bA_th, bV_th, rZ_0, rZ_1]
        rfl
      · obtain ⟨G1, r1, h1, s1⟩ := r_list1 h hL
        obtain ⟨G2, r2, h2, s2⟩ := r_no1 (c := 1) h1 (by decide)
        refine ⟨G2, ?_, h2, (s1.trans s2).mono (by omega) (by omega)⟩
        unfold f_M_cursor
        rw [r1, gOb_of h1.2.2.1 rfl, s_len h1 hW.1 hv, bI_rI, show f_M_isIn G1 y (nI 0) (nI (mLen (mSet A 0 0) p)) = rI 0 G1 from (s_isIn G1 (mLen A p) (by omega) _).2 hy, bI_rI, if_pos rfl, r2]
        rfl
  · refine Sim.no hR hI 1 (by decide) (by decide) ?_ (fun G D h => ?_)
    · unfold f_X_cursor
      simp only [x_needList_no hX (hI.w 0) hx, c_ob_0, c_fa_0_0, c_fa_0_1, c_fi_0_2, c_put_0_2, c_fi_0_3, c_put_0_3, c_fi_0_4, c_put_0_4, c_ob_1, c_fa_1_0, c_fa_1_1, c_fa_1_2, c_fa_1_3, c_fa_1_4, c_fa_1_5, c_fi_1_6, c_put_1_6, c_ob_2, c_fa_2_0, c_ob_4, c_fa_4_0, c_ob_6, c_fa_6_0, c_ob_8, c_fa_8_0, c_ob_10, c_fa_10_0, c_ob_12, c_fa_12_0, c_ob_14, c_fa_14_0, c_fa_14_1, c_fa_14_2, c_fa_14_3, c_fi_14_4, c_put_14_4, c_ob_15, c_fa_15_0, c_ob_17, c_fa_17_0, c_ob_19, c_fa_19_0, c_ob_21, c_fa_21_0, c_len_0, c_ld_0, c_st_0, c_rd_0, c_wr_0, c_len_1, c_ld_1, c_st_1, c_rd_1, c_wr_1, c_len_2, c_ld_2, c_st_2, c_rd_2, c_wr_2, c_len_3, c_ld_3, c_st_3, c_rd_3, c_wr_3, c_len_4, c_ld_4, c_st_4, c_rd_4, c_wr_4, c_len_5, c_ld_5, c_st_5, c_rd_5, c_wr_5, c_len_6, c_ld_6, c_st_6, c_rd_6, c_wr_6, c_len_7, c_ld_7, c_st_7, c_rd_7, c_wr_7, c_len_8, c_ld_8, c_st_8, c_rd_8, c_wr_8, c_len_9, c_ld_9, c_st_9, c_rd_9, c_wr_9, bI_rI, bL_rL, bA_rA, bV_rV, bI_th, bL_th, bA_th, bV_th, rZ_0, rZ_1]
      rfl
    · obtain ⟨G1, r1, h1, s1⟩ := r_list0 h hx
      refine ⟨G1, ?_, h1, s1⟩
      unfold f_M_cursor
      rw [r1]
      rfl
/-- the fields of a cursor, read and written -/
theorem s_fi {G : gH} {D : mD} (h : MS w o G A D) {c q : Nat} {x : Nat × Nat × Int32 × Int32} (hc : c < 3) (hx : A.2.2.1 c = some x) (hq : D.2.2.2.2.2 c = some q) :
    (∀ k : Int32 → gR, gFI G q 4 0 k = k (nI x.1)) ∧ (∀ k : Int32 → gR, gFI G q 4 1 k = k (nI x.2.1)) ∧ (∀ k : Int32 → gR, gFI G q 4 2 k = k x.2.2.1) ∧ (∀ k : Int32 → gR, gFI G q 4 3 k = k x.2.2.2) := by
  obtain ⟨q', e1, e2, e3, e4⟩ := s_curq h hc hx
  cases e1.symm.trans hq
  exact ⟨fun k => gFI_of e4 rfl rfl, fun k => gFI_of e4 rfl rfl, fun k => gFI_of e4 rfl rfl, fun k => gFI_of e4 rfl rfl⟩
theorem s_put1 {G : gH} {D : mD} (h : MS w o G A D) {c q n : Nat} {x : Nat × Nat × Int32 × Int32} (hc : c < 3) (hx : A.2.2.1 c = some x) (hq : D.2.2.2.2.2 c = some q) (hn : n < 100) :
    ∃ G', (∀ k : gH → gR, gPut G q 4 1 (.int (nI n)) k = k G') ∧ MS w o G' (mSetC A c (x.1, n, x.2.2)) D ∧ mSt 0 0 G G' := by
  obtain ⟨q', e1, e2, e3, e4⟩ := s_curq h hc hx
  cases e1.symm.trans hq
  obtain ⟨a1, a2⟩ := h.putC (y := (x.1, n, x.2.2)) hc hx hq e2 hn
  exact ⟨_, fun k => gPut_of e4 (by decide : 1 < 4), a1, a2.st⟩
theorem s_put2 {G : gH} {D : mD} (h : MS w o G A D) {c q : Nat} {v : Int32} {x : Nat × Nat × Int32 × Int32} (hc : c < 3) (hx : A.2.2.1 c = some x) (hq : D.2.2.2.2.2 c = some q) :
    ∃ G', (∀ k : gH → gR, gPut G q 4 2 (.int v) k = k G') ∧ MS w o G' (mSetC A c (x.1, x.2.1, v, x.2.2.2)) D ∧ mSt 0 0 G G' := by
  obtain ⟨q', e1, e2, e3, e4⟩ := s_curq h hc hx
  cases e1.symm.trans hq
  obtain ⟨a1, a2⟩ := h.putC (y := (x.1, x.2.1, v, x.2.2.2)) hc hx hq e2 e3
  exact ⟨_, fun k => gPut_of e4 (by decide : 2 < 4), a1, a2.st⟩
theorem x_fail (hX : CRepx (-1) σ A) (v : Int32) : f_X_failWith (cPut b σ H) b v = rI v (cPut b (cSetI σ 3 (A.2.2.2 4 + nI 1)) H) ∧ CRepx (-1) (cSetI σ 3 (A.2.2.2 4 + nI 1)) (mSet A 4 (A.2.2.2 4 + nI 1)) := by
  have e : σ.2 3 = A.2.2.2 4 := hX.2.2.2.2.2.2.2.2.2.1
  refine ⟨?_, hX.int (Or.inr (Or.inl ⟨rfl, rfl⟩))⟩
  unfold f_X_failWith
  simp only [c_ob_0, c_fa_0_0, c_fa_0_1, c_fi_0_2, c_put_0_2, c_fi_0_3, c_put_0_3, c_fi_0_4, c_put_0_4, c_ob_1, c_fa_1_0, c_fa_1_1, c_fa_1_2, c_fa_1_3, c_fa_1_4, c_fa_1_5, c_fi_1_6, c_put_1_6, c_ob_2, c_fa_2_0, c_ob_4, c_fa_4_0, c_ob_6, c_fa_6_0, c_ob_8, c_fa_8_0, c_ob_10, c_fa_10_0, c_ob_12, c_fa_12_0, c_ob_14, c_fa_14_0, c_fa_14_1, c_fa_14_2, c_fa_14_3, c_fi_14_4, c_put_14_4, c_ob_15, c_fa_15_0, c_ob_17, c_fa_17_0, c_ob_19, c_fa_19_0, c_ob_21, c_fa_21_0, c_len_0, c_ld_0, c_st_0, c_rd_0, c_wr_0, c_len_1, c_ld_1, c_st_1, c_rd_1, c_wr_1, c_len_2, c_ld_2, c_st_2, c_rd_2, c_wr_2, c_len_3, c_ld_3, c_st_3, c_rd_3, c_wr_3, c_len_4, c_ld_4, c_st_4, c_rd_4, c_wr_4, c_len_5, c_ld_5, c_st_5, c_rd_5, c_wr_5, c_len_6, c_ld_6, c_st_6, c_rd_6, c_wr_6, c_len_7, c_ld_7, c_st_7, c_rd_7, c_wr_7, c_len_8, c_ld_8, c_st_8, c_rd_8, c_wr_8, c_len_9, c_ld_9, c_st_9, c_rd_9, c_wr_9, bI_rI, bL_rL, bA_rA, bV_rV, bI_th, bL_th, bA_th, bV_th, rZ_0, rZ_1, e]
theorem stale_of (hI : mInv m A) {c : Nat} {x : Nat × Nat × Int32 × Int32} (hx : A.2.2.1 c = some x) (h : ¬ x.2.2.2 = 0) : x.2.2.2 = nI 1 := by
  rcases (hI.2.2.2.1 c x hx).2.2.2 with ⟨z, -⟩ | ⟨z, -⟩
  · exact absurd z h
  · exact z
/-- it can't do that: a fault on both sides -/
theorem sim_fault {E : Nat × (Nat → String)} {F : gR} {R : gH → gR} (hR : CRep σ A) (hI : mInv m A) (v : Int32) (hF : F = f_X_failWith (cPut b σ H) b v) (hM : ∀ (G : gH) (D : mD), MS w o G A D → ∃ G1, R G = f_M_fault G1 o v ∧ MS w o G1 (mSet A 0 0) D ∧ mSt 0 0 G G1) : SimOp w b o A m σ H E F R := by
  obtain ⟨y1, y2⟩ := x_fail (b := b) (H := H) ((CRepx.of (exc := -1) hR).thr 0) v
  refine Sim.yes v _ (hF.trans y1) (fun G D h => ?_)
  obtain ⟨G1, r1, h1, s1⟩ := hM G D h
  obtain ⟨G2, r2, h2, s2⟩ := s_fault h1 v
  exact ⟨_, D, G2, m, r1.trans r2, h2, y2, hI, Nat.le_succ m, rfl, (s1.trans s2).mono (by omega) (by omega)⟩
theorem sim_next (hR : CRep σ A) (hI : mInv m A) (x : Int32) : SimOp w b o A m σ H xI1 (f_X_next (cPut b σ H) b x) (fun G => f_M_next G o x) := by
  have hX := CRepx.of (exc := -1) hR
  by_cases hx : mIsC A x
  · have hC := hx
    obtain ⟨c, hc3, rfl, hcn⟩ := hx
    cases hcx : A.2.2.1 c with
    | none => exact absurd hcx hcn
    | some y =>
      have hIt : mInv m (mSet A 0 0) := hI.thr 0
      obtain ⟨-, hy6, hv, hok⟩ := hI.2.2.2.1 c y hcx
      have hl31 := hI.l31 hv
      have hW := hI.w y.1
      obtain ⟨r, s, hr, hr2, hfit, h31, -, -⟩ := hI.pl hv
      have hq0 : ∀ (G : gH) (D : mD), MS w o G A D → ∃ q, D.2.2.2.2.2 c = some q := fun G D h => by
        obtain ⟨q, e, -⟩ := s_curq h hc3 hcx
        exact ⟨q, e⟩
      by_cases hs : y.2.2.2 = 0
      · rcases hok with ⟨-, hn, -⟩ | ⟨hs1, -⟩
        · by_cases he : y.2.1 < mLen A y.1
          · have ht := List.getElem?_eq_getElem (show s + y.2.1 < (A.1 r).length by omega)
            generalize (A.1 r)[s + y.2.1] = t at ht
            have hto := (hI.2.2.1 r hr2).2 t (List.mem_of_getElem? ht)
            have h600 := hI.2.2.2.2.2
            have hXs := CRepx.setC (y := (y.1, y.2.1 + 1, nI y.2.1, y.2.2.2)) (A := mSet A 0 0) (hX.thr 0) hcx rfl rfl
            have hIs : mInv m (mSetC (mSet A 0 0) c (y.1, y.2.1 + 1, nI y.2.1, y.2.2.2)) := hIt.setC hc3 ⟨hy6, hv, Or.inl ⟨hs, he, Or.inr ⟨y.2.1, he, rfl⟩⟩⟩
            obtain ⟨σ', y1, y2⟩ := x_stand (b := b) (G := H) hXs hc3 mSetC_at
            have y1' : f_U_stand (cPut b σ H) (b + 14) (nI c) (nI (y.2.1 + 1)) (nI y.2.1) = rV (cPut b σ' H) := y1
            have x1 : f_I_thingAt (cPut b σ' H) (b + 1) (nI y.1) (nI y.2.1) = rI (nI (32 * t.2.2 + t.2.1)) (cPut b σ' H) := x_at (CRepx.of (exc := -1) y2) (hIs.w y.1) hv hr ht
            refine Sim.yes (nI t.2.2) σ' ?_ (fun G D h => ?_)
            · unfold f_X_next
              simp only [(x_needCursor hR).1 hC, x_isStale hR hc3 hcx, x_listOf hR hc3 hcx, x_nextOf hR hc3 hcx, x_len hX hW.1 hv, c_ob_0, c_fa_0_0, c_fa_0_1, c_fi_0_2, c_put_0_2, c_fi_0_3, c_put_0_3, c_fi_0_4, c_put_0_4, c_ob_1, c_fa_1_0, c_fa_1_1, c_fa_1_2, c_fa_1_3, c_fa_1_4, c_fa_1_5, c_fi_1_6, c_put_1_6, c_ob_2, c_fa_2_0, c_ob_4, c_fa_4_0, c_ob_6, c_fa_6_0, c_ob_8, c_fa_8_0, c_ob_10, c_fa_10_0, c_ob_12, c_fa_12_0, c_ob_14, c_fa_14_0, c_fa_14_1, c_fa_14_2, c_fa_14_3, c_fi_14_4, c_put_14_4, c_ob_15, c_fa_15_0, c_ob_17, c_fa_17_0, c_ob_19, c_fa_19_0, c_ob_21, c_fa_21_0, c_len_0, c_ld_0, c_st_0, c_rd_0, c_wr_0, c_len_1, c_ld_1, c_st_1, c_rd_1, c_wr_1, c_len_2, c_ld_2, c_st_2, c_rd_2, c_wr_2, c_len_3, c_ld_3, c_st_3, c_rd_3, c_wr_3, c_len_4, c_ld_4, c_st_4, c_rd_4, c_wr_4, c_len_5, c_ld_5, c_st_5, c_rd_5, c_wr_5, c_len_6, c_ld_6, c_st_6, c_rd_6, c_wr_6, c_len_7, c_ld_7, c_st_7, c_rd_7, c_wr_7, c_len_8, c_ld_8, c_st_8, c_rd_8, c_wr_8, c_len_9, c_ld_9, c_st_9, c_rd_9, c_wr_9, bI_rI, bL_rL, bA_rA, bV_rV, bI_th, bL_th, bA_th, bV_th, rZ_0, rZ_1]
              rw [mB_if, if_neg (by simp [hs]), if_pos (nI_lt he (by omega)), nI_add]
              simp only [y1', x1, x_tagOf (show t.2.1 < 32 by have := hto.1; omega) (show t.2.2 ≤ 1000 by have := hto.2; omega), c_ob_0, c_fa_0_0, c_fa_0_1, c_fi_0_2, c_put_0_2, c_fi_0_3, c_put_0_3, c_fi_0_4, c_put_0_4, c_ob_1, c_fa_1_0, c_fa_1_1, c_fa_1_2, c_fa_1_3, c_fa_1_4, c_fa_1_5, c_fi_1_6, c_put_1_6, c_ob_2, c_fa_2_0, c_ob_4, c_fa_4_0, c_ob_6, c_fa_6_0, c_ob_8, c_fa_8_0, c_ob_10, c_fa_10_0, c_ob_12, c_fa_12_0, c_ob_14, c_fa_14_0, c_fa_14_1, c_fa_14_2, c_fa_14_3, c_fi_14_4, c_put_14_4, c_ob_15, c_fa_15_0, c_ob_17, c_fa_17_0, c_ob_19, c_fa_19_0, c_ob_21, c_fa_21_0, c_len_0, c_ld_0, c_st_0, c_rd_0, c_wr_0, c_len_1, c_ld_1, c_st_1, c_rd_1, c_wr_1, c_len_2, c_ld_2, c_st_2, c_rd_2, c_wr_2, c_len_3, c_ld_3, c_st_3, c_rd_3, c_wr_3, c_len_4, c_ld_4, c_st_4, c_rd_4, c_wr_4, c_len_5, c_ld_5, c_st_5, c_rd_5, c_wr_5, c_len_6, c_ld_6, c_st_6, c_rd_6, c_wr_6, c_len_7, c_ld_7, c_st_7, c_rd_7, c_wr_7, c_len_8, c_ld_8, c_st_8, c_rd_8, c_wr_8, c_len_9, c_ld_9, c_st_9, c_rd_9, c_wr_9, bI_rI, bL_rL, bA_rA, bV_rV, bI_th, bL_th, bA_th, bV_th, rZ_0, rZ_1]
            · obtain ⟨G1, r1, h1, s1⟩ := r_cur1 h hC
              obtain ⟨q, hq⟩ := hq0 G D h
              obtain ⟨f0, f1, f2, f3⟩ := s_fi h1 hc3 hcx hq
              obtain ⟨G2, r2, h2, s2⟩ := s_put2 (v := nI y.2.1) h1 hc3 hcx hq
              obtain ⟨g0, g1, g2, g3⟩ := s_fi h2 hc3 mSetC_at hq
              obtain ⟨G3, r3, h3, s3⟩ := s_put1 (n := y.2.1 + 1) h2 hc3 mSetC_at hq (by omega)
              rw [mSetC_mSetC] at h3
              have h3' : MS w o G3 (mSetC (mSet A 0 0) c (y.1, y.2.1 + 1, nI y.2.1, y.2.2.2)) D := h3
              obtain ⟨k0, k1, k2, k3⟩ := s_fi h3' hc3 mSetC_at hq
              refine ⟨_, D, G3, m, ?_, h3', y2, hIs, Nat.le_succ m, rfl, ((s1.trans s2).trans s3).mono (by omega) (by omega)⟩
              unfold f_M_next
              rw [r1, s_ldC h1 hc3 hq, f3, if_pos hs, f1, f0, gOb_of h1.2.2.1 rfl, s_len h1 hW.1 hv, bI_rI, if_neg (fun z => absurd (nI_eq31 (by omega) (by have : mLen (mSet A 0 0) y.1 ≤ 31 := hl31; omega) z) (by have : y.2.1 < mLen (mSet A 0 0) y.1 := he; omega)), f1, r2, g1, nI_add, r3, k0, k2, gOb_of h3'.2.2.1 rfl, s_at h3' hIs.1 hv hr ht, bA_rA, (s_th h3' hr2 ht).tag]
          · have he' : y.2.1 = mLen A y.1 := by omega
            refine sim_fault hR hI (-8) ?_ (fun G D h => ?_)
            · unfold f_X_next
              simp only [(x_needCursor hR).1 hC, x_isStale hR hc3 hcx, x_listOf hR hc3 hcx, x_nextOf hR hc3 hcx, x_len hX hW.1 hv, c_ob_0, c_fa_0_0, c_fa_0_1, c_fi_0_2, c_put_0_2, c_fi_0_3, c_put_0_3, c_fi_0_4, c_put_0_4, c_ob_1, c_fa_1_0, c_fa_1_1, c_fa_1_2, c_fa_1_3, c_fa_1_4, c_fa_1_5, c_fi_1_6, c_put_1_6, c_ob_2, c_fa_2_0, c_ob_4, c_fa_4_0, c_ob_6, c_fa_6_0, c_ob_8, c_fa_8_0, c_ob_10, c_fa_10_0, c_ob_12, c_fa_12_0, c_ob_14, c_fa_14_0, c_fa_14_1, c_fa_14_2, c_fa_14_3, c_fi_14_4, c_put_14_4, c_ob_15, c_fa_15_0, c_ob_17, c_fa_17_0, c_ob_19, c_fa_19_0, c_ob_21, c_fa_21_0, c_len_0, c_ld_0, c_st_0, c_rd_0, c_wr_0, c_len_1, c_ld_1, c_st_1, c_rd_1, c_wr_1, c_len_2, c_ld_2, c_st_2, c_rd_2, c_wr_2, c_len_3, c_ld_3, c_st_3, c_rd_3, c_wr_3, c_len_4, c_ld_4, c_st_4, c_rd_4, c_wr_4, c_len_5, c_ld_5, c_st_5, c_rd_5, c_wr_5, c_len_6, c_ld_6, c_st_6, c_rd_6, c_wr_6, c_len_7, c_ld_7, c_st_7, c_rd_7, c_wr_7, c_len_8, c_ld_8, c_st_8, c_rd_8, c_wr_8, c_len_9, c_ld_9, c_st_9, c_rd_9, c_wr_9, bI_rI, bL_rL, bA_rA, bV_rV, bI_th, bL_th, bA_th, bV_th, rZ_0, rZ_1]
              rw [mB_if, if_neg (by simp [hs]), if_neg (nI_nlt (by omega) (by omega))]
              rw [(x_fail (b := b) (H := H) hX (-8)).1, bI_rI]
            · obtain ⟨G1, r1, h1, s1⟩ := r_cur1 h hC
              obtain ⟨q, hq⟩ := hq0 G D h
              obtain ⟨f0, f1, f2, f3⟩ := s_fi h1 hc3 hcx hq
              obtain ⟨G2, r2, h2, s2⟩ := s_fault h1 (-8)
              refine ⟨G1, ?_, h1, s1⟩
              show f_M_next G o (nI c) = _
              unfold f_M_next
              rw [r1, s_ldC h1 hc3 hq, f3, if_pos hs, f1, f0, gOb_of h1.2.2.1 rfl, s_len h1 hW.1 hv, bI_rI, if_pos (by rw [he']; rfl), gOb_of h1.2.2.1 rfl, r2, bI_rI]
        · exact absurd (hs1.symm.trans hs) (by decide)
      · refine sim_fault hR hI (-9) ?_ (fun G D h => ?_)
        · unfold f_X_next
          simp only [(x_needCursor hR).1 hC, x_isStale hR hc3 hcx, c_ob_0, c_fa_0_0, c_fa_0_1, c_fi_0_2, c_put_0_2, c_fi_0_3, c_put_0_3, c_fi_0_4, c_put_0_4, c_ob_1, c_fa_1_0, c_fa_1_1, c_fa_1_2, c_fa_1_3, c_fa_1_4, c_fa_1_5, c_fi_1_6, c_put_1_6, c_ob_2, c_fa_2_0, c_ob_4, c_fa_4_0, c_ob_6, c_fa_6_0, c_ob_8, c_fa_8_0, c_ob_10, c_fa_10_0, c_ob_12, c_fa_12_0, c_ob_14, c_fa_14_0, c_fa_14_1, c_fa_14_2, c_fa_14_3, c_fi_14_4, c_put_14_4, c_ob_15, c_fa_15_0, c_ob_17, c_fa_17_0, c_ob_19, c_fa_19_0, c_ob_21, c_fa_21_0, c_len_0, c_ld_0, c_st_0, c_rd_0, c_wr_0, c_len_1, c_ld_1, c_st_1, c_rd_1, c_wr_1, c_len_2, c_ld_2, c_st_2, c_rd_2, c_wr_2, c_len_3, c_ld_3, c_st_3, c_rd_3, c_wr_3, c_len_4, c_ld_4, c_st_4, c_rd_4, c_wr_4, c_len_5, c_ld_5, c_st_5, c_rd_5, c_wr_5, c_len_6, c_ld_6, c_st_6, c_rd_6, c_wr_6, c_len_7, c_ld_7, c_st_7, c_rd_7, c_wr_7, c_len_8, c_ld_8, c_st_8, c_rd_8, c_wr_8, c_len_9, c_ld_9, c_st_9, c_rd_9, c_wr_9, bI_rI, bL_rL, bA_rA, bV_rV, bI_th, bL_th, bA_th, bV_th, rZ_0, rZ_1]
          rw [mB_if, if_pos (by simp [hs])]
          rw [(x_fail (b := b) (H := H) hX (-9)).1, bI_rI]
        · obtain ⟨G1, r1, h1, s1⟩ := r_cur1 h hC
          obtain ⟨q, hq⟩ := hq0 G D h
          obtain ⟨f0, f1, f2, f3⟩ := s_fi h1 hc3 hcx hq
          obtain ⟨G2, r2, h2, s2⟩ := s_fault h1 (-9)
          refine ⟨G1, ?_, h1, s1⟩
          show f_M_next G o (nI c) = _
          unfold f_M_next
          rw [r1, s_ldC h1 hc3 hq, f3, if_neg hs, gOb_of h1.2.2.1 rfl, r2, bI_rI]
  · refine Sim.no hR hI 1 (by decide) (by decide) ?_ (fun G D h => ?_)
    · unfold f_X_next
      simp only [(x_needCursor hR).2 hx, c_ob_0, c_fa_0_0, c_fa_0_1, c_fi_0_2, c_put_0_2, c_fi_0_3, c_put_0_3, c_fi_0_4, c_put_0_4, c_ob_1, c_fa_1_0, c_fa_1_1, c_fa_1_2, c_fa_1_3, c_fa_1_4, c_fa_1_5, c_fi_1_6, c_put_1_6, c_ob_2, c_fa_2_0, c_ob_4, c_fa_4_0, c_ob_6, c_fa_6_0, c_ob_8, c_fa_8_0, c_ob_10, c_fa_10_0, c_ob_12, c_fa_12_0, c_ob_14, c_fa_14_0, c_fa_14_1, c_fa_14_2, c_fa_14_3, c_fi_14_4, c_put_14_4, c_ob_15, c_fa_15_0, c_ob_17, c_fa_17_0, c_ob_19, c_fa_19_0, c_ob_21, c_fa_21_0, c_len_0, c_ld_0, c_st_0, c_rd_0, c_wr_0, c_len_1, c_ld_1, c_st_1, c_rd_1, c_wr_1, c_len_2, c_ld_2, c_st_2, c_rd_2, c_wr_2, c_len_3, c_ld_3, c_st_3, c_rd_3, c_wr_3, c_len_4, c_ld_4, c_st_4, c_rd_4, c_wr_4, c_len_5, c_ld_5, c_st_5, c_rd_5, c_wr_5, c_len_6, c_ld_6, c_st_6, c_rd_6, c_wr_6, c_len_7, c_ld_7, c_st_7, c_rd_7, c_wr_7, c_len_8, c_ld_8, c_st_8, c_rd_8, c_wr_8, c_len_9, c_ld_9, c_st_9, c_rd_9, c_wr_9, bI_rI, bL_rL, bA_rA, bV_rV, bI_th, bL_th, bA_th, bV_th, rZ_0, rZ_1]
      rfl
    · obtain ⟨G1, r1, h1, s1⟩ := r_cur0 h hx
      refine ⟨G1, ?_, h1, s1⟩
      unfold f_M_next
      rw [r1]
      rfl
end Csr
