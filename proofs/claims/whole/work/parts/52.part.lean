-- part, close
section Prt
variable {w : Nat → Nat} {b o m : Nat} {A : mS} {σ : cS} {H : gH}
theorem in_of {G : gH} {x a c : Int32} : (¬ x < a ∧ ¬ c < x → f_M_isIn G x a c = rI 1 G) ∧ (¬ (¬ x < a ∧ ¬ c < x) → f_M_isIn G x a c = rI 0 G) := by
  refine ⟨fun k => ?_, fun k => ?_⟩
  · rw [m_isIn, decide_eq_true k]; exact rZ_1
  · rw [m_isIn, decide_eq_false k]; exact rZ_0
theorem mOpen_ne {A : mS} {q p : Nat} {y : Nat × Nat × Nat} (h : p ≠ q) : mLen (mOpen A q y) p = mLen A p := by
  unfold mLen
  by_cases h2 : p < 2
  · rw [if_pos h2, if_pos h2]; rfl
  · rw [if_neg h2, if_neg h2]
    show (match va_up A.2.1 q (some y) p with | none => 0 | some (_, _, l) => l) = _
    rw [va_up_ne _ _ h]; rfl
theorem mV.opn {A : mS} {q p : Nat} {y : Nat × Nat × Nat} (h : mV A p) : mV (mOpen A q y) p := by
  rcases h with h | h
  · exact Or.inl h
  · refine Or.inr ?_
    show va_up A.2.1 q (some y) p ≠ none
    by_cases e : p = q
    · rw [e, va_up_self]; exact Option.some_ne_none _
    · rw [va_up_ne _ _ e]; exact h
theorem mInv.opn {q p f l : Nat} (hI : mInv m A) (h2 : 2 ≤ q) (h6 : q < 6) (hq : A.2.1 q = none) (hv : mV A p) (hl : f + l ≤ mLen A p) : mInv m (mOpen A q (p, f, l)) := by
  have hne : ∀ x, mV A x → x ≠ q := by
    intro x hx e
    rcases hx with h | h
    · omega
    · rw [e, hq] at h; exact h rfl
  obtain ⟨a1, a2, a3, a4, a5, a6⟩ := hI
  refine ⟨a1.opn h2 h6 hq hv, fun q' x hx => ?_, a3, fun c x hx => ?_, a5, a6⟩
  · have hx' : va_up A.2.1 q (some (p, f, l)) q' = some x := hx
    by_cases e : q' = q
    · rw [e, va_up_self] at hx'
      cases hx'
      rw [mOpen_ne (hne p hv)]
      exact hl
    · rw [va_up_ne _ _ e] at hx'
      rw [mOpen_ne (hne x.1 (a1.cl q' x hx'))]
      exact a2 q' x hx'
  · obtain ⟨z1, z2, z3, z4⟩ := a4 c x hx
    refine ⟨z1, z2, z3.opn, ?_⟩
    rw [mOpen_ne (hne x.1 z3)]
    exact z4
theorem gSm.n104 {G G' : gH} {o : Nat} {D : mD} {B : mS} (h : MRep w G o B D) (hk : gSm (fun z => ∀ n f, z ≠ zQ 104 n f) G G') (hel : gKeep G G') :
    G'.2.2 o = some (.inr (6, mOb B D)) ∧ isAL w G' D.1.1 D.1.2.1 [D.2.1 0, D.2.1 1] ∧ (∀ i, i < 2 → isAL w G' (D.2.1 i) (D.2.2.1 i) ((B.1 i).map fun t => t.1)) ∧ G'.2.2 D.1.2.2.2 = some (zQ 105 3 D.2.2.2.2.2) ∧ (∀ i, i < 2 → ∀ t, t ∈ B.1 i → mTh G' t.1 t.2) ∧ (∀ p, p < 6 → mPt G' (B.2.1 p) (D.2.2.2.2.1 p)) ∧ (∀ c, c < 3 → mCu G' (B.2.2.1 c) (D.2.2.2.2.2 c)) := by
  obtain ⟨k1, k2, k3, k4, k5, k6, k7, k8, k9, k10⟩ := h
  have hN : mN3 (fun z => ∀ n f, z ≠ zQ 104 n f) := ⟨fun fs n f q => (by cases q), fun c n f hc n' f' q => (by have := (zQ_inj (congrArg some q)).1; omega), fun g n f q => (by cases q)⟩
  exact ⟨hk _ _ k1 (fun n f q => by cases q), k2.tr hN hk hel, fun i hi => (k3 i hi).tr hN hk hel, hk _ _ k5 (fun n f q => by have := (zQ_inj (congrArg some q)).1; omega), fun i hi t ht => (k6 i hi t ht).tr hN hk, fun p hp => (k7 p hp).tr (fun fs n f q => by cases q) hk, fun c hc => (k8 c hc).tr (fun fs n f q => by cases q) hk⟩
/-- a new part -/
theorem s_open {G : gH} {D : mD} (h : MS w o G A D) {p q f l : Nat} (h6 : q < 6) (hq : A.2.1 q = none) (hp : p < 6) (hf : f < 100) (hl : l < 100) :
    ∃ G', (gFA G o 6 2 fun v1 => gNewO G 5 3 [.int 0, .int 0, .int 0] fun q1 G1 => bV (f_MP_init G1 q1) fun G2 => gStq G2 v1 104 5 (nI q) q1 fun G3 => gFA G3 o 6 2 fun v2 => gLdq G3 v2 104 (nI q) (none) fun v3 => gPut G3 v3 5 0 (.int (nI p)) fun G4 => gFA G4 o 6 2 fun v4 => gLdq G4 v4 104 (nI q) (none) fun v5 => gPut G4 v5 5 1 (.int (nI f)) fun G5 => gFA G5 o 6 2 fun v6 => gLdq G5 v6 104 (nI q) (none) fun v7 => gPut G5 v7 5 2 (.int (nI l)) fun G6 => rI (nI q) G6) = rI (nI q) G' ∧
      MS w o G' (mOpen A q (p, f, l)) (dPart D (va_up D.2.2.2.2.1 q (some G.2.1))) ∧ mSt 1 3 G G' := by
  obtain ⟨hw, hw0, hr⟩ := h
  have hlt := hr.lt hw
  have ho := hr.1
  have hp4 := hr.2.2.2.1
  have lo := hw _ _ ho
  have lp := hw _ _ hp4
  -- the heaps, one by one
  have c0 : ∀ z, z < G.2.1 → (gNew G 3 (.inr (5, [.int 0, .int 0, .int 0]))).2.2 z = G.2.2 z := fun z hz => gNew_ne (by omega)
  have n0 : (gNew G 3 (.inr (5, [.int 0, .int 0, .int 0]))).2.2 G.2.1 = some (.inr (5, [.int 0, .int 0, .int 0])) := gNew_at
  generalize hG1 : gNew G 3 (.inr (5, [.int 0, .int 0, .int 0])) = G1 at c0 n0
  have n1 : (gUp G1 D.1.2.2.1 (zQ 104 6 (va_up D.2.2.2.2.1 q (some G.2.1)))).2.2 G.2.1 = some (.inr (5, [.int 0, .int 0, .int 0])) := by rw [gUp_ne (by omega)]; exact n0
  have a1 : (gUp G1 D.1.2.2.1 (zQ 104 6 (va_up D.2.2.2.2.1 q (some G.2.1)))).2.2 D.1.2.2.1 = some (zQ 104 6 (va_up D.2.2.2.2.1 q (some G.2.1))) := gUp_at
  have c1 : ∀ z, z ≠ D.1.2.2.1 → z < G.2.1 → (gUp G1 D.1.2.2.1 (zQ 104 6 (va_up D.2.2.2.2.1 q (some G.2.1)))).2.2 z = G.2.2 z := fun z hn hz => by rw [gUp_ne hn]; exact c0 z hz
  have hone : D.1.2.2.1 ≠ o := fun e => by rw [e, ho] at hp4; cases hp4
  generalize hG2 : gUp G1 D.1.2.2.1 (zQ 104 6 (va_up D.2.2.2.2.1 q (some G.2.1))) = G2 at n1 a1 c1
  -- the three fields
  have step : ∀ (G2 : gH) (fs fs' : List Value), G2.2.2 D.1.2.2.1 = some (zQ 104 6 (va_up D.2.2.2.2.1 q (some G.2.1))) → (∀ z, z ≠ D.1.2.2.1 → z < G.2.1 → G2.2.2 z = G.2.2 z) → G2.2.2 G.2.1 = some (.inr (5, fs)) → (gUp G2 G.2.1 (.inr (5, fs'))).2.2 D.1.2.2.1 = some (zQ 104 6 (va_up D.2.2.2.2.1 q (some G.2.1))) ∧ (∀ z, z ≠ D.1.2.2.1 → z < G.2.1 → (gUp G2 G.2.1 (.inr (5, fs'))).2.2 z = G.2.2 z) ∧ (gUp G2 G.2.1 (.inr (5, fs'))).2.2 G.2.1 = some (.inr (5, fs')) := fun G2 fs fs' z1 z2 z3 =>
    ⟨by rw [gUp_ne (by omega)]; exact z1, fun z hn hz => by rw [gUp_ne (by omega)]; exact z2 z hn hz, gUp_at⟩
  have at' : va_up D.2.2.2.2.1 q (some G.2.1) q = some G.2.1 := va_up_self _ _ _
  obtain ⟨p1, p2, p3⟩ := step G2 _ [.int (nI p), .int 0, .int 0] a1 c1 n1
  obtain ⟨q1, q2, q3⟩ := step _ _ [.int (nI p), .int (nI f), .int 0] p1 p2 p3
  obtain ⟨r1, r2, r3⟩ := step _ _ [.int (nI p), .int (nI f), .int (nI l)] q1 q2 q3
  have hsz : (gUp (gUp (gUp G2 G.2.1 (.inr (5, [.int (nI p), .int 0, .int 0]))) G.2.1 (.inr (5, [.int (nI p), .int (nI f), .int 0]))) G.2.1 (.inr (5, [.int (nI p), .int (nI f), .int (nI l)]))).2.1 = G.2.1 + 1 ∧ (gUp (gUp (gUp G2 G.2.1 (.inr (5, [.int (nI p), .int 0, .int 0]))) G.2.1 (.inr (5, [.int (nI p), .int (nI f), .int 0]))) G.2.1 (.inr (5, [.int (nI p), .int (nI f), .int (nI l)]))).1 = G.1 + 3 := by
    rw [← hG2, ← hG1]; exact ⟨rfl, rfl⟩
  have hwf : gWf (gUp (gUp (gUp G2 G.2.1 (.inr (5, [.int (nI p), .int 0, .int 0]))) G.2.1 (.inr (5, [.int (nI p), .int (nI f), .int 0]))) G.2.1 (.inr (5, [.int (nI p), .int (nI f), .int (nI l)]))) := by
    have w1 : gWf G1 := by rw [← hG1]; exact hw.new
    have s1 : G1.2.1 = G.2.1 + 1 := by rw [← hG1]; rfl
    have w2 : gWf G2 := by rw [← hG2]; exact w1.up (by omega)
    have s2 : G2.2.1 = G.2.1 + 1 := by rw [← hG2]; exact s1
    refine gWf.up (gWf.up (w2.up ?_) ?_) ?_ <;> (show G.2.1 < G2.2.1; omega)
  refine ⟨gUp (gUp (gUp G2 G.2.1 (.inr (5, [.int (nI p), .int 0, .int 0]))) G.2.1 (.inr (5, [.int (nI p), .int (nI f), .int 0]))) G.2.1 (.inr (5, [.int (nI p), .int (nI f), .int (nI l)])), ?_, ?_⟩
  · rw [gFA_of ho rfl rfl]
    unfold gNewO f_MP_init
    dsimp only
    rw [hG1, bV_rV, gStq_of ((c0 _ lp).trans hp4) h6 (by omega) n0 (by omega), hG2, gFA_of ((c1 _ (fun e => hone e.symm) lo).trans ho) rfl rfl, gLdq_of a1 rfl h6 (by omega) at', gPut_of n1 (by decide)]
    rw [show ([.int 0, .int 0, .int 0] : List Value).set 0 (.int (nI p)) = [.int (nI p), .int 0, .int 0] from rfl, gFA_of ((p2 _ (fun e => hone e.symm) lo).trans ho) rfl rfl, gLdq_of p1 rfl h6 (by omega) at', gPut_of p3 (show 1 < 3 by decide)]
    rw [show ([.int (nI p), .int 0, .int 0] : List Value).set 1 (.int (nI f)) = [.int (nI p), .int (nI f), .int 0] from rfl, gFA_of ((q2 _ (fun e => hone e.symm) lo).trans ho) rfl rfl, gLdq_of q1 rfl h6 (by omega) at', gPut_of q3 (show 2 < 3 by decide)]
    rfl
  · generalize gUp (gUp (gUp G2 G.2.1 (.inr (5, [.int (nI p), .int 0, .int 0]))) G.2.1 (.inr (5, [.int (nI p), .int (nI f), .int 0]))) G.2.1 (.inr (5, [.int (nI p), .int (nI f), .int (nI l)])) = G' at r1 r2 r3 hsz hwf
    have hsm : gSm (fun z => ∀ n f, z ≠ zQ 104 n f) G G' := fun z x hz hx => (r2 z (fun e => by rw [e, hp4] at hz; exact hx _ _ (Option.some.inj hz).symm) (hw _ _ hz)).trans hz
    have hk : gKeep G G' := fun y hy => by
      rcases hy with ⟨fs, e⟩ | ⟨mm, g, e⟩
      · exact Or.inl ⟨fs, (r2 _ (fun q => by rw [q, hp4] at e; cases e) (hw _ _ e)).trans e⟩
      · exact Or.inr ⟨mm, g, (r2 _ (fun q => by rw [q, hp4] at e; cases e) (hw _ _ e)).trans e⟩
    have hfr : gFr (mOwn G) 1 3 G G' := by
      exact ⟨by omega, by omega, by omega, by omega, fun _ => hwf, fun z hz hn => r2 z (fun e => hn (by rw [e]; exact ⟨_, hp4, Or.inr ⟨_, _, _, rfl, by decide⟩⟩)) hz⟩
    have hS : mSt 1 3 G G' := ⟨hfr, hk⟩
    obtain ⟨k1, k2, k3, k5, k6, k7, k8⟩ := gSm.n104 hr hsm hk
    obtain ⟨-, -, -, -, -, -, -, -, k9, k10⟩ := hr
    refine ⟨⟨hwf, hS.w0 hw hw0, k1, k2, k3, r1, k5, k6, fun p' hp' => ?_, k8, ⟨k9.1, k9.2.1, k9.2.2.1, k9.2.2.2.1.put (fun j hj e => ?_), k9.2.2.2.2⟩, k10⟩, hS⟩
    · show mPt G' (va_up A.2.1 q (some (p, f, l)) p') (va_up D.2.2.2.2.1 q (some G.2.1) p')
      by_cases e : p' = q
      · rw [e, va_up_self, va_up_self]
        exact ⟨hp, hf, hl, r3⟩
      · rw [va_up_ne _ _ e, va_up_ne _ _ e]
        exact k7 p' hp'
    · exact Nat.lt_irrefl _ (hlt.1 j _ hj e)
theorem mInv.l31 (hI : mInv m A) {p : Nat} (hv : mV A p) : mLen A p ≤ 31 := by
  obtain ⟨r, s, -, -, a1, a2, -⟩ := hI.pl hv
  omega
theorem sim_part (hR : CRep σ A) (hI : mInv m A) (x y z : Int32) : SimOp w b o A m σ H xIS (f_X_part (cPut b σ H) b x y z) (fun G => f_M_part G o x y z) := by
  have hX := CRepx.of (exc := -1) hR
  by_cases hx : mIsL A x
  · have hL := hx
    obtain ⟨p, hp, rfl, hv⟩ := hx
    have hv : mV A p := hv
    obtain ⟨r, s, hr, hr2, hfit, h31, hp6, hro⟩ := hI.pl hv
    have hW := hI.w p
    have hIt : mInv m (mSet A 0 0) := hI.thr 0
    have hl31 := hI.l31 hv
    by_cases hy : mIsG (mLen A p) y
    · have hy' := hy
      obtain ⟨f, hf, rfl⟩ := hy
      have inF : ∀ G : gH, f_M_isIn G (nI f) (nI 0) (nI (mLen A p)) = rI 1 G := fun G => (s_isIn G (mLen A p) (by omega) _).1 hy'
      by_cases hz : ¬ z < nI f ∧ ¬ nI (mLen A p) < z
      · have hz' : mIsG (mLen A p) z := (nI_gap (by omega)).mpr ⟨fun q => hz.1 (Int32.lt_of_lt_of_le q (nI_pos' (by omega))), Int32.not_lt.mp hz.2⟩
        obtain ⟨t, ht, rfl⟩ := hz'
        have hft : f ≤ t := by
          rcases Nat.lt_or_ge t f with q | q
          · exact absurd (nI_lt q (by omega)) hz.1
          · exact q
        have fp := x_freePart (b := b) (G := H) hR (hI.w 0)
        have fm : ∀ (G : gH) (D : mD), MS w o G (mSet A 0 0) D → f_M_freePart G o = rI (sNo (sFree (fun c => (A.2.1 c).isNone) 2 4)) G := fun G D h => s_freePart (A := mSet A 0 0) h
        cases hq : sFree (fun c => (A.2.1 c).isNone) 2 4 with
        | none =>
          rw [hq] at fp fm
          refine Sim.no hR hI 2 (by decide) (by decide) ?_ (fun G D h => ?_)
          · unfold f_X_part
            simp only [x_needList hX hW hL, (x_needGap hX hW.1 hv (show mLen A p < 100 by omega)).1 hy', x_len hX hW.1 hv, fp, c_ob_0, c_fa_0_0, c_fa_0_1, c_fi_0_2, c_put_0_2, c_fi_0_3, c_put_0_3, c_fi_0_4, c_put_0_4, c_ob_1, c_fa_1_0, c_fa_1_1, c_fa_1_2, c_fa_1_3, c_fa_1_4, c_fa_1_5, c_fi_1_6, c_put_1_6, c_ob_2, c_fa_2_0, c_ob_4, c_fa_4_0, c_ob_6, c_fa_6_0, c_ob_8, c_fa_8_0, c_ob_10, c_fa_10_0, c_ob_12, c_fa_12_0, c_ob_14, c_fa_14_0, c_fa_14_1, c_fa_14_2, c_fa_14_3, c_fi_14_4, c_put_14_4, c_ob_15, c_fa_15_0, c_ob_17, c_fa_17_0, c_ob_19, c_fa_19_0, c_ob_21, c_fa_21_0, c_len_0, c_ld_0, c_st_0, c_rd_0, c_wr_0, c_len_1, c_ld_1, c_st_1, c_rd_1, c_wr_1, c_len_2, c_ld_2, c_st_2, c_rd_2, c_wr_2, c_len_3, c_ld_3, c_st_3, c_rd_3, c_wr_3, c_len_4, c_ld_4, c_st_4, c_rd_4, c_wr_4, c_len_5, c_ld_5, c_st_5, c_rd_5, c_wr_5, c_len_6, c_ld_6, c_st_6, c_rd_6, c_wr_6, c_len_7, c_ld_7, c_st_7, c_rd_7, c_wr_7, c_len_8, c_ld_8, c_st_8, c_rd_8, c_wr_8, c_len_9, c_ld_9, c_st_9, c_rd_9, c_wr_9, bI_rI, bL_rL, bA_rA, bV_rV, bI_th, bL_th, bA_th, bV_th, rZ_0, rZ_1]
            rw [if_neg hz.1, if_pos (Int32.not_lt.mp hz.2), show sNo none = -1 from rfl, if_pos rfl]
            rfl
          · obtain ⟨G1, r1, h1, s1⟩ := r_list1 h hL
            obtain ⟨G2, r2, h2, s2⟩ := r_no1 (c := 2) h1 (by decide)
            refine ⟨G2, ?_, h2, (s1.trans s2).mono (by omega) (by omega)⟩
            unfold f_M_part
            rw [r1, gOb_of h1.2.2.1 rfl, s_len h1 hW.1 hv, bI_rI, show f_M_isIn G1 (nI f) (nI 0) (nI (mLen (mSet A 0 0) p)) = _ from inF G1, bI_rI, if_neg (by decide), gOb_of h1.2.2.1 rfl, s_len h1 hW.1 hv, bI_rI, show f_M_isIn G1 (nI t) (nI f) (nI (mLen (mSet A 0 0) p)) = _ from in_of.1 hz, bI_rI, if_neg (by decide), r_ref0 h1 rfl, gOb_of h1.2.2.1 rfl, fm G1 D h1, bI_rI, show sNo none = -1 from rfl, if_pos rfl, r2]
            rfl
        | some q =>
          rw [hq] at fp fm
          obtain ⟨q1, q2, q6⟩ := sFree_some _ _ _ hq
          have hqn : A.2.1 q = none := Option.isNone_iff_eq_none.mp q1
          have hne : ¬ nI q = -1 := nI_ne1 (by omega)
          obtain ⟨σ', y1, y2⟩ := x_open (b := b) (G := H) (f := f) (l := t - f) hR hI.1 hv hr q2 q6 hqn
          refine Sim.yes (nI q) σ' ?_ (fun G D h => ?_)
          · unfold f_X_part
            simp only [x_needList hX hW hL, (x_needGap hX hW.1 hv (show mLen A p < 100 by omega)).1 hy', x_len hX hW.1 hv, fp, c_ob_0, c_fa_0_0, c_fa_0_1, c_fi_0_2, c_put_0_2, c_fi_0_3, c_put_0_3, c_fi_0_4, c_put_0_4, c_ob_1, c_fa_1_0, c_fa_1_1, c_fa_1_2, c_fa_1_3, c_fa_1_4, c_fa_1_5, c_fi_1_6, c_put_1_6, c_ob_2, c_fa_2_0, c_ob_4, c_fa_4_0, c_ob_6, c_fa_6_0, c_ob_8, c_fa_8_0, c_ob_10, c_fa_10_0, c_ob_12, c_fa_12_0, c_ob_14, c_fa_14_0, c_fa_14_1, c_fa_14_2, c_fa_14_3, c_fi_14_4, c_put_14_4, c_ob_15, c_fa_15_0, c_ob_17, c_fa_17_0, c_ob_19, c_fa_19_0, c_ob_21, c_fa_21_0, c_len_0, c_ld_0, c_st_0, c_rd_0, c_wr_0, c_len_1, c_ld_1, c_st_1, c_rd_1, c_wr_1, c_len_2, c_ld_2, c_st_2, c_rd_2, c_wr_2, c_len_3, c_ld_3, c_st_3, c_rd_3, c_wr_3, c_len_4, c_ld_4, c_st_4, c_rd_4, c_wr_4, c_len_5, c_ld_5, c_st_5, c_rd_5, c_wr_5, c_len_6, c_ld_6, c_st_6, c_rd_6, c_wr_6, c_len_7, c_ld_7, c_st_7, c_rd_7, c_wr_7, c_len_8, c_ld_8, c_st_8, c_rd_8, c_wr_8, c_len_9, c_ld_9, c_st_9, c_rd_9, c_wr_9, bI_rI, bL_rL, bA_rA, bV_rV, bI_th, bL_th, bA_th, bV_th, rZ_0, rZ_1]
            rw [if_neg hz.1, if_pos (Int32.not_lt.mp hz.2), show sNo (some q) = nI q from rfl, if_neg hne, nI_sub hft, y1, bV_rV]
          · obtain ⟨G1, r1, h1, s1⟩ := r_list1 h hL
            obtain ⟨G2, r2, h2, s2⟩ := s_open (p := p) (f := f) (l := t - f) h1 q6 hqn hp6 (by omega) (by omega)
            refine ⟨_, _, G2, m, ?_, h2, (CRepx.of (exc := -1) y2).thr 0, hIt.opn q2 q6 hqn hv (show f + (t - f) ≤ mLen A p by omega), Nat.le_succ m, rfl, (s1.trans s2).mono (by omega) (by omega)⟩
            unfold f_M_part
            rw [r1, gOb_of h1.2.2.1 rfl, s_len h1 hW.1 hv, bI_rI, show f_M_isIn G1 (nI f) (nI 0) (nI (mLen (mSet A 0 0) p)) = _ from inF G1, bI_rI, if_neg (by decide), gOb_of h1.2.2.1 rfl, s_len h1 hW.1 hv, bI_rI, show f_M_isIn G1 (nI t) (nI f) (nI (mLen (mSet A 0 0) p)) = _ from in_of.1 hz, bI_rI, if_neg (by decide), r_ref0 h1 rfl, gOb_of h1.2.2.1 rfl, fm G1 D h1, bI_rI, show sNo (some q) = nI q from rfl, if_neg hne, r_ref0 h1 rfl, gOb_of h1.2.2.1 rfl, fm G1 D h1, bI_rI, nI_sub hft]
            exact r2
      · refine Sim.no hR hI 1 (by decide) (by decide) ?_ (fun G D h => ?_)
        · unfold f_X_part
          simp only [x_needList hX hW hL, (x_needGap hX hW.1 hv (show mLen A p < 100 by omega)).1 hy', x_len hX hW.1 hv, c_ob_0, c_fa_0_0, c_fa_0_1, c_fi_0_2, c_put_0_2, c_fi_0_3, c_put_0_3, c_fi_0_4, c_put_0_4, c_ob_1, c_fa_1_0, c_fa_1_1, c_fa_1_2, c_fa_1_3, c_fa_1_4, c_fa_1_5, c_fi_1_6, c_put_1_6, c_ob_2, c_fa_2_0, c_ob_4, c_fa_4_0, c_ob_6, c_fa_6_0, c_ob_8, c_fa_8_0, c_ob_10, c_fa_10_0, c_ob_12, c_fa_12_0, c_ob_14, c_fa_14_0, c_fa_14_1, c_fa_14_2, c_fa_14_3, c_fi_14_4, c_put_14_4, c_ob_15, c_fa_15_0, c_ob_17, c_fa_17_0, c_ob_19, c_fa_19_0, c_ob_21, c_fa_21_0, c_len_0, c_ld_0, c_st_0, c_rd_0, c_wr_0, c_len_1, c_ld_1, c_st_1, c_rd_1, c_wr_1, c_len_2, c_ld_2, c_st_2, c_rd_2, c_wr_2, c_len_3, c_ld_3, c_st_3, c_rd_3, c_wr_3, c_len_4, c_ld_4, c_st_4, c_rd_4, c_wr_4, c_len_5, c_ld_5, c_st_5, c_rd_5, c_wr_5, c_len_6, c_ld_6, c_st_6, c_rd_6, c_wr_6, c_len_7, c_ld_7, c_st_7, c_rd_7, c_wr_7, c_len_8, c_ld_8, c_st_8, c_rd_8, c_wr_8, c_len_9, c_ld_9, c_st_9, c_rd_9, c_wr_9, bI_rI, bL_rL, bA_rA, bV_rV, bI_th, bL_th, bA_th, bV_th, rZ_0, rZ_1]
          by_cases h0 : z < nI f
          · rw [if_pos h0]; rfl
          · rw [if_neg h0, if_neg (fun q => hz ⟨h0, Int32.not_lt.mpr q⟩)]; rfl
        · obtain ⟨G1, r1, h1, s1⟩ := r_list1 h hL
          obtain ⟨G2, r2, h2, s2⟩ := r_no1 (c := 1) h1 (by decide)
          refine ⟨G2, ?_, h2, (s1.trans s2).mono (by omega) (by omega)⟩
          unfold f_M_part
          rw [r1, gOb_of h1.2.2.1 rfl, s_len h1 hW.1 hv, bI_rI, show f_M_isIn G1 (nI f) (nI 0) (nI (mLen (mSet A 0 0) p)) = _ from inF G1, bI_rI, if_neg (by decide), gOb_of h1.2.2.1 rfl, s_len h1 hW.1 hv, bI_rI, show f_M_isIn G1 z (nI f) (nI (mLen (mSet A 0 0) p)) = _ from in_of.2 hz, bI_rI, if_pos rfl, r2]
          rfl
    · refine Sim.no hR hI 1 (by decide) (by decide) ?_ (fun G D h => ?_)
      · unfold f_X_part
        simp only [x_needList hX hW hL, (x_needGap hX hW.1 hv (show mLen A p < 100 by omega)).2 hy, c_ob_0, c_fa_0_0, c_fa_0_1, c_fi_0_2, c_put_0_2, c_fi_0_3, c_put_0_3, c_fi_0_4, c_put_0_4, c_ob_1, c_fa_1_0, c_fa_1_1, c_fa_1_2, c_fa_1_3, c_fa_1_4, c_fa_1_5, c_fi_1_6, c_put_1_6, c_ob_2, c_fa_2_0, c_ob_4, c_fa_4_0, c_ob_6, c_fa_6_0, c_ob_8, c_fa_8_0, c_ob_10, c_fa_10_0, c_ob_12, c_fa_12_0, c_ob_14, c_fa_14_0, c_fa_14_1, c_fa_14_2, c_fa_14_3, c_fi_14_4, c_put_14_4, c_ob_15, c_fa_15_0, c_ob_17, c_fa_17_0, c_ob_19, c_fa_19_0, c_ob_21, c_fa_21_0, c_len_0, c_ld_0, c_st_0, c_rd_0, c_wr_0, c_len_1, c_ld_1, c_st_1, c_rd_1, c_wr_1, c_len_2, c_ld_2, c_st_2, c_rd_2, c_wr_2, c_len_3, c_ld_3, c_st_3, c_rd_3, c_wr_3, c_len_4, c_ld_4, c_st_4, c_rd_4, c_wr_4, c_len_5, c_ld_5, c_st_5, c_rd_5, c_wr_5, c_len_6, c_ld_6, c_st_6, c_rd_6, c_wr_6, c_len_7, c_ld_7, c_st_7, c_rd_7, c_wr_7, c_len_8, c_ld_8, c_st_8, c_rd_8, c_wr_8, c_len_9, c_ld_9, c_st_9, c_rd_9, c_wr_9, bI_rI, bL_rL, bA_rA, bV_rV, bI_th, bL_th, bA_th, bV_th, rZ_0, rZ_1]
        rfl
      · obtain ⟨G1, r1, h1, s1⟩ := r_list1 h hL
        obtain ⟨G2, r2, h2, s2⟩ := r_no1 (c := 1) h1 (by decide)
        refine ⟨G2, ?_, h2, (s1.trans s2).mono (by omega) (by omega)⟩
        unfold f_M_part
        rw [r1, gOb_of h1.2.2.1 rfl, s_len h1 hW.1 hv, bI_rI, show f_M_isIn G1 y (nI 0) (nI (mLen (mSet A 0 0) p)) = rI 0 G1 from (s_isIn G1 (mLen A p) (by omega) _).2 hy, bI_rI, if_pos rfl, r2]
        rfl
  · refine Sim.no hR hI 1 (by decide) (by decide) ?_ (fun G D h => ?_)
    · unfold f_X_part
      simp only [x_needList_no hX (hI.w 0) hx, c_ob_0, c_fa_0_0, c_fa_0_1, c_fi_0_2, c_put_0_2, c_fi_0_3, c_put_0_3, c_fi_0_4, c_put_0_4, c_ob_1, c_fa_1_0, c_fa_1_1, c_fa_1_2, c_fa_1_3, c_fa_1_4, c_fa_1_5, c_fi_1_6, c_put_1_6, c_ob_2, c_fa_2_0, c_ob_4, c_fa_4_0, c_ob_6, c_fa_6_0, c_ob_8, c_fa_8_0, c_ob_10, c_fa_10_0, c_ob_12, c_fa_12_0, c_ob_14, c_fa_14_0, c_fa_14_1, c_fa_14_2, c_fa_14_3, c_fi_14_4, c_put_14_4, c_ob_15, c_fa_15_0, c_ob_17, c_fa_17_0, c_ob_19, c_fa_19_0, c_ob_21, c_fa_21_0, c_len_0, c_ld_0, c_st_0, c_rd_0, c_wr_0, c_len_1, c_ld_1, c_st_1, c_rd_1, c_wr_1, c_len_2, c_ld_2, c_st_2, c_rd_2, c_wr_2, c_len_3, c_ld_3, c_st_3, c_rd_3, c_wr_3, c_len_4, c_ld_4, c_st_4, c_rd_4, c_wr_4, c_len_5, c_ld_5, c_st_5, c_rd_5, c_wr_5, c_len_6, c_ld_6, c_st_6, c_rd_6, c_wr_6, c_len_7, c_ld_7, c_st_7, c_rd_7, c_wr_7, c_len_8, c_ld_8, c_st_8, c_rd_8, c_wr_8, c_len_9, c_ld_9, c_st_9, c_rd_9, c_wr_9, bI_rI, bL_rL, bA_rA, bV_rV, bI_th, bL_th, bA_th, bV_th, rZ_0, rZ_1]
      rfl
    · obtain ⟨G1, r1, h1, s1⟩ := r_list0 h hx
      refine ⟨G1, ?_, h1, s1⟩
      unfold f_M_part
      rw [r1]
      rfl
/-- a part that is there -/
def mIsQ (A : mS) (x : Int32) : Prop := ∃ p, 2 ≤ p ∧ p < 6 ∧ x = nI p ∧ A.2.1 p ≠ none
theorem in25 {x : Int32} : (¬ x < nI 2 ∧ ¬ nI 5 < x) ↔ ∃ p, 2 ≤ p ∧ p < 6 ∧ x = nI p := by
  refine ⟨fun ⟨h1, h2⟩ => ?_, ?_⟩
  · have hg : mIsG 5 x := (nI_gap (by omega)).mpr ⟨fun q => h1 (Int32.lt_of_lt_of_le q (nI_pos' (by omega))), Int32.not_lt.mp h2⟩
    obtain ⟨i, hi, rfl⟩ := hg
    refine ⟨i, ?_, by omega, rfl⟩
    rcases Nat.lt_or_ge i 2 with q | q
    · exact absurd (nI_lt q (by omega)) h1
    · exact q
  · rintro ⟨p, h2, h6, rfl⟩
    exact ⟨nI_nlt h2 (by omega), nI_nlt (by omega) (by omega)⟩
theorem s_noPart {G : gH} {D : mD} (h : MS w o G A D) (x : Int32) : (mIsQ A x → f_M_isNoPart G o x = rI 0 G) ∧ (¬ mIsQ A x → f_M_isNoPart G o x = rI 1 G) := by
  unfold f_M_isNoPart
  refine ⟨?_, fun k => ?_⟩
  · rintro ⟨p, h2, h6, rfl, hx⟩
    cases hy : A.2.1 p with
    | none => exact absurd hy hx
    | some y =>
      obtain ⟨q, e1, -⟩ := h.2.2.part h6 hy
      rw [in_of.1 (in25.mpr ⟨p, h2, h6, rfl⟩), bI_rI, if_neg (by decide), gFA_of h.2.2.1 rfl rfl, gLdq_of h.2.2.2.2.2.1 rfl h6 (by omega) e1]
      exact rZ_0
  · by_cases hh : ¬ x < nI 2 ∧ ¬ nI 5 < x
    · have hh' := hh
      obtain ⟨p, h2, h6, rfl⟩ := in25.mp hh
      have hx : A.2.1 p = none := by
        cases hy : A.2.1 p with
        | none => rfl
        | some y => exact absurd ⟨p, h2, h6, rfl, by rw [hy]; exact Option.some_ne_none _⟩ k
      rw [in_of.1 hh', bI_rI, if_neg (by decide), gFA_of h.2.2.1 rfl rfl, gLdq_no h.2.2.2.2.2.1 rfl h6 (by omega) (h.2.2.nopart h6 hx)]
      exact rZ_1
    · rw [in_of.2 hh, bI_rI, if_pos rfl]
      exact rZ_1
theorem x_needPart {exc : Int32} {p : Nat} (hX : CRepx exc σ A) (hW : mInw exc p A) {x : Int32} : (mIsQ A x → f_X_needPart (cPut b σ H) b x = rV (cPut b σ H)) ∧ (¬ mIsQ A x → f_X_needPart (cPut b σ H) b x = gThrow "java/lang/IndexOutOfBoundsException" (cPut b σ H)) := by
  have key := CRepx.there hX hW (x := x)
  unfold f_X_needPart
  refine ⟨?_, fun k => ?_⟩
  · rintro ⟨q, h2, h6, rfl, hq⟩
    rw [if_neg (nI_nlt h2 (by omega)), c_fa_0_0, c_ob_1, y_isThere (t := true) ⟨fun z => absurd ⟨q, h6, rfl, Or.inr hq⟩ (key.mp z), fun z => (by cases z)⟩, bI_rI, mB_if, if_pos rfl]
  · by_cases h2 : x < nI 2
    · rw [if_pos h2]
    · rw [if_neg h2, c_fa_0_0, c_ob_1, y_isThere (t := false) ⟨fun _ => rfl, fun _ => key.mpr (fun ⟨q, h6, e, hq⟩ => by
        rcases hq with h | h
        · exact h2 (by rw [e]; exact nI_lt h (by omega))
        · rcases Nat.lt_or_ge q 2 with z | z
          · exact h2 (by rw [e]; exact nI_lt z (by omega))
          · exact k ⟨q, z, h6, e, h⟩)⟩, bI_rI, mB_if, if_neg (by decide)]
theorem sim_close (hR : CRep σ A) (hI : mInv m A) (x : Int32) : SimOp w b o A m σ H xI1 (f_X_close (cPut b σ H) b x) (fun G => f_M_close G o x) := by
  have hX := CRepx.of (exc := -1) hR
  by_cases hx : mIsQ A x
  · have hQ := hx
    obtain ⟨p, h2, h6, rfl, hp⟩ := hx
    have hIt : mInv m (mSet A 0 0) := hI.thr 0
    obtain ⟨hE, hok, hch⟩ := mEP_char (A := mSet A 0 0) (p := p) hI.1 hp
    obtain ⟨σ', y1, y2⟩ := x_close (b := b) (G := H) (A := mSet A 0 0) (hX.thr 0) (hIt.w p) h2 hp hE hch
    refine Sim.yes _ σ' y1 (fun G D h => ?_)
    obtain ⟨G1, r1, h1, s1⟩ := s_go h
    obtain ⟨G2, F, r2, h2', s2, -⟩ := m_endPart zDp G1 (mSet A 0 0) D p h1.1 h1.2.2 h2 h6 (hI.1.deep h2)
    refine ⟨_, _, G2, m, ?_, h1.step s2.st h2', y2, hIt.ends hE hok, Nat.le_succ m, hE.2.2.2.2.1 0 (by omega) (by omega), (s1.trans s2.st).mono (by omega) (by omega)⟩
    unfold f_M_close
    rw [gOb_of h.2.2.1 rfl, (s_noPart h _).1 hQ, bI_rI, gOb_of h.2.2.1 rfl]
    rw [show f_M_start G o 0 (nI 1) = _ from r1 (nI 1), bI_rI, if_pos rfl, gOb_of h1.2.2.1 rfl, r2, bI_rI]
  · refine Sim.no hR hI 1 (by decide) (by decide) ?_ (fun G D h => ?_)
    · unfold f_X_close
      simp only [(x_needPart hX (hI.w 0)).2 hx, c_ob_0, c_fa_0_0, c_fa_0_1, c_fi_0_2, c_put_0_2, c_fi_0_3, c_put_0_3, c_fi_0_4, c_put_0_4, c_ob_1, c_fa_1_0, c_fa_1_1, c_fa_1_2, c_fa_1_3, c_fa_1_4, c_fa_1_5, c_fi_1_6, c_put_1_6, c_ob_2, c_fa_2_0, c_ob_4, c_fa_4_0, c_ob_6, c_fa_6_0, c_ob_8, c_fa_8_0, c_ob_10, c_fa_10_0, c_ob_12, c_fa_12_0, c_ob_14, c_fa_14_0, c_fa_14_1, c_fa_14_2, c_fa_14_3, c_fi_14_4, c_put_14_4, c_ob_15, c_fa_15_0, c_ob_17, c_fa_17_0, c_ob_19, c_fa_19_0, c_ob_21, c_fa_21_0, c_len_0, c_ld_0, c_st_0, c_rd_0, c_wr_0, c_len_1, c_ld_1, c_st_1, c_rd_1, c_wr_1, c_len_2, c_ld_2, c_st_2, c_rd_2, c_wr_2, c_len_3, c_ld_3, c_st_3, c_rd_3, c_wr_3, c_len_4, c_ld_4, c_st_4, c_rd_4, c_wr_4, c_len_5, c_ld_5, c_st_5, c_rd_5, c_wr_5, c_len_6, c_ld_6, c_st_6, c_rd_6, c_wr_6, c_len_7, c_ld_7, c_st_7, c_rd_7, c_wr_7, c_len_8, c_ld_8, c_st_8, c_rd_8, c_wr_8, c_len_9, c_ld_9, c_st_9, c_rd_9, c_wr_9, bI_rI, bL_rL, bA_rA, bV_rV, bI_th, bL_th, bA_th, bV_th, rZ_0, rZ_1]
      rfl
    · obtain ⟨G1, r1, h1, s1⟩ := s_halt1 h
      refine ⟨G1, ?_, h1, s1⟩
      unfold f_M_close
      rw [gOb_of h.2.2.1 rfl, (s_noPart h _).2 hx, bI_rI, gOb_of h.2.2.1 rfl]
      rw [show f_M_start G o 1 (nI 1) = _ from r1, bI_rI, if_neg (by decide)]
      rfl
end Prt
