-- the calls that put things in
theorem nI0 : nI 0 = (0 : Int32) := rfl
theorem nI1 : nI 1 = (1 : Int32) := rfl
theorem mChg_at {exc : Int32} {A : mS} {p r s : Nat} {z : Int} {ts : List (Nat × Nat × Nat)} (h : mInw exc p A) (hv : mV A p) (hrw : mRw A.2.1 zDp p = some (r, s)) (hz : z ≠ 0) (hl : (ts.length : Int) = (A.1 r).length + z) (hpos : 0 ≤ (mLen A p : Int) + z) :
    mOk (mChange (mRows A r ts) p z exc).2.1 ∧ mV (mChange (mRows A r ts) p z exc) p ∧ mLen (mChange (mRows A r ts) p z exc) p = ((mLen A p : Int) + z).toNat ∧ (mChange (mRows A r ts) p z exc).1 = (mRows A r ts).1 ∧ ∀ j, j ≠ 2 → j ≠ 3 → (mChange (mRows A r ts) p z exc).2.2.2 j = A.2.2.2 j := by
  obtain ⟨d1, d2, d3, d4, d5, d6, d7, -, -⟩ := mChd.of (ts := ts) h hv hrw hz
  generalize mChange (mRows A r ts) p z exc = A' at d1 d2 d3 d4 d5 d6 d7 ⊢
  by_cases h2 : p < 2
  · have e : r = p := by
      have : mRw A.2.1 (7 + 1) p = some (r, s) := hrw
      unfold mRw at this
      rw [if_pos h2] at this
      cases this; rfl
    subst e
    refine ⟨d2, Or.inl h2, ?_, d1, d7⟩
    rw [mLen_row h2] at hpos ⊢
    rw [mLen_row h2, d1, mRows_at]
    omega
  · rcases hv with w1 | w1
    · omega
    · cases hx : A.2.1 p with
      | none => exact absurd hx w1
      | some x =>
        have e := d4 p x hx
        have e' : A'.2.1 p = some (x.1, x.2.1, ((x.2.2 : Int) + z).toNat) := by
          rw [e]; exact if_pos (mAb_refl _ _)
        refine ⟨d2, Or.inr (by rw [e']; exact Option.some_ne_none _), ?_, d1, d7⟩
        rw [mLen_part h2 e', mLen_part h2 hx]
theorem mInv.thr {m : Nat} {A : mS} (h : mInv m A) (v : Int32) : mInv m (mSet A 0 v) := h
theorem mInv.made {m m' : Nat} {A : mS} (h : mInv m A) (hm : m ≤ m') (h6 : m' ≤ 600) : mInv m' (mSet A 1 (nI m')) := by
  obtain ⟨a1, a2, a3, a4, a5, a6⟩ := h
  exact ⟨a1, a2, fun r hr => ⟨(a3 r hr).1, fun t ht => ⟨((a3 r hr).2 t ht).1, Nat.lt_of_lt_of_le ((a3 r hr).2 t ht).2 hm⟩⟩, a4, rfl, h6⟩
theorem mInv.chg2 {m : Nat} {A : mS} {p r s : Nat} {z : Int} {ts : List (Nat × Nat × Nat)} (h : mInv m A) (hv : mV A p) (hrw : mRw A.2.1 zDp p = some (r, s)) (hz : z ≠ 0) (hl : (ts.length : Int) = (A.1 r).length + z) (hl31 : ts.length ≤ 31) (hpos : 0 ≤ (mLen A p : Int) + z)
    (ht : ∀ t, t ∈ ts → mTok m t) : mInv m (mChange (mRows A r ts) p z (-1)) :=
  mInv.chg (h.w p) hv hrw hz hl hl31 hpos ht (fun r' t hr' => (h.2.2.1 r' hr').2 t) h.2.2.2.2.1 h.2.2.2.2.2 (fun c x hx => by
    rw [if_neg (nI_nx (h.2.2.2.1 c x hx).1)]
    exact (h.2.2.2.1 c x hx).2)
theorem CRepx.ts {exc e2 : Int32} {σ : cS} {A : mS} {p r : Nat} {z : Int} {ts us : List (Nat × Nat × Nat)} (h : CRepx exc σ (mChange (mRows A r ts) p z e2)) (h1 : (mChange (mRows A r ts) p z e2).1 = (mRows A r ts).1) (h2 : (mChange (mRows A r us) p z e2).1 = (mRows A r us).1) (he : ts.map Prod.snd = us.map Prod.snd) : CRepx exc σ (mChange (mRows A r us) p z e2) := by
  refine h.cong (fun i _ => ?_) (qRel.change (show qRel (mRows A r ts) (mRows A r us) from rfl) p z e2)
  rw [h1, h2]
  show (if i = r then ts else A.1 i).map Prod.snd = (if i = r then us else A.1 i).map Prod.snd
  split
  · exact he
  · rfl
theorem CRepx.rowsC {exc : Int32} {σ : cS} {A : mS} {r : Nat} {ts us : List (Nat × Nat × Nat)} (h : CRepx exc σ (mRows A r ts)) (he : ts.map Prod.snd = us.map Prod.snd) : CRepx exc σ (mRows A r us) := by
  refine h.cong (fun i _ => ?_) (show qRel (mRows A r ts) (mRows A r us) from rfl)
  show (if i = r then ts else A.1 i).map Prod.snd = (if i = r then us else A.1 i).map Prod.snd
  split
  · exact he
  · rfl
section Pre2
variable {w : Nat → Nat} {G : gH} {o : Nat} {A : mS} {D : mD}
theorem s_go (h : MS w o G A D) : ∃ G', (∀ code, f_M_start G o (nI 0) code = rI 0 G') ∧ MS w o G' (mSet A 0 0) D ∧ mSt 0 0 G G' := by
  obtain ⟨G', a1, a2, a3⟩ := s_start0 h (nI 1)
  refine ⟨G', fun code => ?_, a2, a3⟩
  rw [← a1]
  rfl
theorem s_halt (h : MS w o G A D) {c : Nat} (hc : ¬ nI c ≤ 0) : ∃ G', f_M_start G o (nI 1) (nI c) = rI 1 G' ∧ MS w o G' (mSet A 0 (nI c)) D ∧ mSt 0 0 G G' := s_start1 h hc
theorem s_halt1 (h : MS w o G A D) : ∃ G', f_M_start G o (nI 1) (nI 1) = rI 1 G' ∧ MS w o G' (mSet A 0 (nI 1)) D ∧ mSt 0 0 G G' := s_halt h (by decide)
theorem r_no1 (h : MS w o G (mSet A 0 0) D) {c : Nat} (hc : ¬ nI c ≤ 0) : ∃ G', (∀ X Y : gH → gR, (gOb G o 6 fun o2 => bI (f_M_refuse G o (nI 1) (nI c)) fun v10 G9 => if v10 = 0 then X G9 else Y G9) = Y G') ∧ MS w o G' (mSet A 0 (nI c)) D ∧ mSt 0 0 G G' := by
  obtain ⟨G', a1, a2, a3⟩ := r_ref1 h rfl hc
  rw [mSet_mSet] at a2
  exact ⟨G', a1, a2, a3⟩
theorem r_no1b (h : MS w o G (mSet A 0 0) D) {c : Nat} (hc : ¬ nI c ≤ 0) : ∃ G', (∀ X Y : gH → gR, (gOb G o 6 fun o2 => bI (f_M_refuse G o 1 (nI c)) fun v10 G9 => if v10 = 0 then X G9 else Y G9) = Y G') ∧ MS w o G' (mSet A 0 (nI c)) D ∧ mSt 0 0 G G' := by
  obtain ⟨G', a1, a2, a3⟩ := r_ref1b h rfl hc
  rw [mSet_mSet] at a2
  exact ⟨G', a1, a2, a3⟩
end Pre2
section Add
variable {w : Nat → Nat} {b o m : Nat} {A : mS} {σ : cS} {H : gH}
/-- one thing comes in, on both sides -/
theorem b_in {B : mS} {M p r s i k t : Nat} (hX : CRepx (-1) σ B) (hI : mInv M B) (h0 : B.2.2.2 0 = 0) (hv : mV B p) (hr : mRw B.2.1 zDp p = some (r, s)) (hi : i ≤ mLen B p) (hl : (B.1 r).length ≤ 30) (hk : k < 31) (ht : t < M) :
    ∃ σ', f_X_bringIn (cPut b σ H) b (nI p) (nI i) (nI (32 * t + k)) (-1) = rV (cPut b σ' H) ∧ f_I_lengthOf (cPut b σ' H) (b + 1) (nI p) = rI (nI (mLen B p + 1)) (cPut b σ' H) ∧
      ∀ (G : gH) (D : mD) (a : Nat), MS w o G B D → mTh G a (k, t) → ∃ (G3 G4 : gH) (B3 A' : mS) (D3 D' : mD), f_M_come w G o (nI p) (nI i) a = rV G3 ∧ MS w o G3 B3 D3 ∧ f_M_change G3 o (nI p) (nI 1) (-1) = rV G4 ∧ MS w o G4 A' D' ∧ f_M_length G4 o (nI p) = rI (nI (mLen B p + 1)) G4 ∧ A'.2.2.2 1 = B.2.2.2 1 ∧ CRep σ' A' ∧ mInv M A' ∧ A'.2.2.2 0 = 0 ∧ mSt 1 61 G G4 := by
  obtain ⟨r', s', hr', hr2, hfit, h31, -, -⟩ := hI.pl hv
  rw [hr] at hr'
  cases hr'
  have hW := hI.w p
  have hl1 : ∀ a : Nat, ((B.1 r).insertIdx (s + i) (a, k, t)).length = (B.1 r).length + 1 := fun a => List.length_insertIdx_of_le_length (by omega) _
  obtain ⟨σ', y1, y2, -, -⟩ := x_bringIn (b := b) (G := H) (i := i) (t := (0, k, t)) hX hW hv hr hi (by omega)
  have hc : ∀ a : Nat, _ := fun a => mChg_at (ts := (B.1 r).insertIdx (s + i) (a, k, t)) (z := 1) hW hv hr (by omega) (by rw [hl1 a]; rfl) (by omega)
  have e1 : ((mLen B p : Int) + 1).toNat = mLen B p + 1 := by omega
  obtain ⟨c1, c2, c3, c4, -⟩ := hc 0
  refine ⟨σ', y1, ?_, fun G D a h ta => ?_⟩
  · rw [x_len y2 c1 c2, c3, e1]
  · obtain ⟨G3, e', r3, h3, s3, -, -⟩ := s_come (i := i) (t := (a, k, t)) h hW.1 hv hr (by omega) hl ta
    obtain ⟨G4, F, r4, h4, s4⟩ := s_change (z := 1) (exc := -1) h3 hW hv hr (by omega) (by omega) (by omega)
    rw [ofInt_1] at r4
    obtain ⟨g1, g2, g3, g4, g5⟩ := hc a
    refine ⟨G3, G4, _, _, _, _, r3, h3, r4, h4, ?_, g5 1 (by omega) (by omega), y2.ts c4 g4 (by rw [ins_map, ins_map]), hI.chg2 hv hr (by omega) (by rw [hl1 a]; rfl) (by rw [hl1 a]; omega) (by omega) (fun u hu => ?_), (g5 0 (by omega) (by omega)).trans h0, (s3.trans s4.st).mono (by omega) (by omega)⟩
    · rw [s_len h4 g1 g2, g3, e1]
    · rcases ins_mem _ _ hu with rfl | q
      · exact ⟨hk, ht⟩
      · exact (hI.2.2.1 r hr2).2 u q
/-- before a thing is made, and when it is made -/
theorem b_made (hR : CRep σ A) (hI : mInv m A) (hm : m < 600) : CRepx (-1) σ (mSet A 0 0) ∧ CRepx (-1) (cSetI σ 2 (nI (m + 1))) (mSet (mSet A 0 0) 1 (nI (m + 1))) ∧ mInv (m + 1) (mSet (mSet A 0 0) 1 (nI (m + 1))) := by
  have hXt : CRepx (-1) σ (mSet A 0 0) := (CRepx.of (exc := -1) hR).thr 0
  exact ⟨hXt, hXt.int (Or.inl ⟨rfl, rfl⟩), (hI.thr 0).made (Nat.le_succ m) (by omega)⟩
theorem sim_add (hR : CRep σ A) (hI : mInv m A) (hm : m < 600) (x k : Int32) : SimOp w b o A m σ H xIAS (f_X_add (cPut b σ H) b x k) (fun G => f_M_add1 w G o x k) := by
  have hX := CRepx.of (exc := -1) hR
  by_cases hx : mIsL A x
  · have hL := hx
    obtain ⟨p, hp, rfl, hv⟩ := hx
    have hv : mV A p := hv
    obtain ⟨r, s, hr, hr2, hfit, h31, hp6, hro⟩ := hI.pl hv
    have hW := hI.w p
    by_cases hk : mIsP 31 k
    · have hK := hk
      obtain ⟨k, hk31, rfl⟩ := hk
      by_cases hf : (A.1 r).length + 1 ≤ 31
      · obtain ⟨-, hXB, hIB⟩ := b_made hR hI hm
        obtain ⟨σ', y1, y2, yR⟩ := b_in (w := w) (b := b) (o := o) (H := H) (k := k) (i := mLen A p) hXB hIB rfl hv hr (Nat.le_refl _) (by show (A.1 r).length ≤ 30; omega) hk31 (Nat.lt_succ_self m)
        refine Sim.yes (nI (mLen A p + 1)) σ' ?_ (fun G D h => ?_)
        · unfold f_X_add
          simp only [x_needList hX hW hL, x_needKey.1 hK, (x_needRoom (n := 1) hX hW.1 hv hr h31 (by omega)).1 hf, x_len hX hW.1 hv, x_make hX hI.2.2.2.2.1 (show k < 32 by omega), y1, y2, c_ob_0, c_fa_0_0, c_fa_0_1, c_fi_0_2, c_put_0_2, c_fi_0_3, c_put_0_3, c_fi_0_4, c_put_0_4, c_ob_1, c_fa_1_0, c_fa_1_1, c_fa_1_2, c_fa_1_3, c_fa_1_4, c_fa_1_5, c_fi_1_6, c_put_1_6, c_ob_2, c_fa_2_0, c_ob_4, c_fa_4_0, c_ob_6, c_fa_6_0, c_ob_8, c_fa_8_0, c_ob_10, c_fa_10_0, c_ob_12, c_fa_12_0, c_ob_14, c_fa_14_0, c_fa_14_1, c_fa_14_2, c_fa_14_3, c_fi_14_4, c_put_14_4, c_ob_15, c_fa_15_0, c_ob_17, c_fa_17_0, c_ob_19, c_fa_19_0, c_ob_21, c_fa_21_0, c_len_0, c_ld_0, c_st_0, c_rd_0, c_wr_0, c_len_1, c_ld_1, c_st_1, c_rd_1, c_wr_1, c_len_2, c_ld_2, c_st_2, c_rd_2, c_wr_2, c_len_3, c_ld_3, c_st_3, c_rd_3, c_wr_3, c_len_4, c_ld_4, c_st_4, c_rd_4, c_wr_4, c_len_5, c_ld_5, c_st_5, c_rd_5, c_wr_5, c_len_6, c_ld_6, c_st_6, c_rd_6, c_wr_6, c_len_7, c_ld_7, c_st_7, c_rd_7, c_wr_7, c_len_8, c_ld_8, c_st_8, c_rd_8, c_wr_8, c_len_9, c_ld_9, c_st_9, c_rd_9, c_wr_9, bI_rI, bL_rL, bA_rA, bV_rV, bI_th, bL_th, bA_th, bV_th, rZ_0, rZ_1]
          rfl
        · obtain ⟨G1, r1, h1, s1⟩ := r_list1 h hL
          obtain ⟨G2, r2, h2, s2, t2⟩ := s_make (k := k) h1 (show (mSet A 0 0).2.2.2 1 = nI m from hI.2.2.2.2.1)
          obtain ⟨G3, G4, B3, A', D3, D', r3, h3, r4, h4, r5, -, c1, c2, c3, s4⟩ := yR G2 D G1.2.1 h2 t2
          refine ⟨A', D', G4, m + 1, ?_, h4, c1, c2, Nat.le_refl _, c3, ((s1.trans s2).trans s4).mono (by omega) (by omega)⟩
          unfold f_M_add1
          rw [r1, (s_inK G1 _).1 hK, bI_rI, if_neg (by decide), r_ref0 h1 rfl, gOb_of h1.2.2.1 rfl, (s_isFull (n := 1) h1 hW.1 hv hr (by omega)).1 hf, bI_rI, r_ref0b h1 rfl, gOb_of h1.2.2.1 rfl, s_len h1 hW.1 hv, bI_rI, gOb_of h1.2.2.1 rfl, r2, bA_rA, gOb_of h2.2.2.1 rfl]
          rw [show f_M_come w G2 o (nI p) (nI (mLen (mSet A 0 0) p)) G1.2.1 = rV G3 from r3, bV_rV, gOb_of h3.2.2.1 rfl, r4, bV_rV, gOb_of h4.2.2.1 rfl, r5, bI_rI]
          rfl
      · refine Sim.no hR hI 3 (by decide) (by decide) ?_ (fun G D h => ?_)
        · unfold f_X_add
          simp only [x_needList hX hW hL, x_needKey.1 hK, (x_needRoom (n := 1) hX hW.1 hv hr h31 (by omega)).2 (by omega), c_ob_0, c_fa_0_0, c_fa_0_1, c_fi_0_2, c_put_0_2, c_fi_0_3, c_put_0_3, c_fi_0_4, c_put_0_4, c_ob_1, c_fa_1_0, c_fa_1_1, c_fa_1_2, c_fa_1_3, c_fa_1_4, c_fa_1_5, c_fi_1_6, c_put_1_6, c_ob_2, c_fa_2_0, c_ob_4, c_fa_4_0, c_ob_6, c_fa_6_0, c_ob_8, c_fa_8_0, c_ob_10, c_fa_10_0, c_ob_12, c_fa_12_0, c_ob_14, c_fa_14_0, c_fa_14_1, c_fa_14_2, c_fa_14_3, c_fi_14_4, c_put_14_4, c_ob_15, c_fa_15_0, c_ob_17, c_fa_17_0, c_ob_19, c_fa_19_0, c_ob_21, c_fa_21_0, c_len_0, c_ld_0, c_st_0, c_rd_0, c_wr_0, c_len_1, c_ld_1, c_st_1, c_rd_1, c_wr_1, c_len_2, c_ld_2, c_st_2, c_rd_2, c_wr_2, c_len_3, c_ld_3, c_st_3, c_rd_3, c_wr_3, c_len_4, c_ld_4, c_st_4, c_rd_4, c_wr_4, c_len_5, c_ld_5, c_st_5, c_rd_5, c_wr_5, c_len_6, c_ld_6, c_st_6, c_rd_6, c_wr_6, c_len_7, c_ld_7, c_st_7, c_rd_7, c_wr_7, c_len_8, c_ld_8, c_st_8, c_rd_8, c_wr_8, c_len_9, c_ld_9, c_st_9, c_rd_9, c_wr_9, bI_rI, bL_rL, bA_rA, bV_rV, bI_th, bL_th, bA_th, bV_th, rZ_0, rZ_1]
          rfl
        · obtain ⟨G1, r1, h1, s1⟩ := r_list1 h hL
          obtain ⟨G2, r2, h2, s2⟩ := r_no1b (c := 3) h1 (by decide)
          refine ⟨G2, ?_, h2, (s1.trans s2).mono (by omega) (by omega)⟩
          unfold f_M_add1
          rw [r1, (s_inK G1 _).1 hK, bI_rI, if_neg (by decide), r_ref0 h1 rfl, gOb_of h1.2.2.1 rfl, (s_isFull (n := 1) h1 hW.1 hv hr (by omega)).2 (by show 31 < (A.1 r).length + 1; omega), bI_rI, r2]
          rfl
    · refine Sim.no hR hI 2 (by decide) (by decide) ?_ (fun G D h => ?_)
      · unfold f_X_add
        simp only [x_needList hX hW hL, x_needKey.2 hk, c_ob_0, c_fa_0_0, c_fa_0_1, c_fi_0_2, c_put_0_2, c_fi_0_3, c_put_0_3, c_fi_0_4, c_put_0_4, c_ob_1, c_fa_1_0, c_fa_1_1, c_fa_1_2, c_fa_1_3, c_fa_1_4, c_fa_1_5, c_fi_1_6, c_put_1_6, c_ob_2, c_fa_2_0, c_ob_4, c_fa_4_0, c_ob_6, c_fa_6_0, c_ob_8, c_fa_8_0, c_ob_10, c_fa_10_0, c_ob_12, c_fa_12_0, c_ob_14, c_fa_14_0, c_fa_14_1, c_fa_14_2, c_fa_14_3, c_fi_14_4, c_put_14_4, c_ob_15, c_fa_15_0, c_ob_17, c_fa_17_0, c_ob_19, c_fa_19_0, c_ob_21, c_fa_21_0, c_len_0, c_ld_0, c_st_0, c_rd_0, c_wr_0, c_len_1, c_ld_1, c_st_1, c_rd_1, c_wr_1, c_len_2, c_ld_2, c_st_2, c_rd_2, c_wr_2, c_len_3, c_ld_3, c_st_3, c_rd_3, c_wr_3, c_len_4, c_ld_4, c_st_4, c_rd_4, c_wr_4, c_len_5, c_ld_5, c_st_5, c_rd_5, c_wr_5, c_len_6, c_ld_6, c_st_6, c_rd_6, c_wr_6, c_len_7, c_ld_7, c_st_7, c_rd_7, c_wr_7, c_len_8, c_ld_8, c_st_8, c_rd_8, c_wr_8, c_len_9, c_ld_9, c_st_9, c_rd_9, c_wr_9, bI_rI, bL_rL, bA_rA, bV_rV, bI_th, bL_th, bA_th, bV_th, rZ_0, rZ_1]
        rfl
      · obtain ⟨G1, r1, h1, s1⟩ := r_list1 h hL
        obtain ⟨G2, r2, h2, s2⟩ := r_no1 (c := 2) h1 (by decide)
        refine ⟨G2, ?_, h2, (s1.trans s2).mono (by omega) (by omega)⟩
        unfold f_M_add1
        rw [r1, (s_inK G1 _).2 hk, bI_rI, if_pos rfl, r2]
        rfl
  · refine Sim.no hR hI 1 (by decide) (by decide) ?_ (fun G D h => ?_)
    · unfold f_X_add
      simp only [x_needList_no hX (hI.w 0) hx, c_ob_0, c_fa_0_0, c_fa_0_1, c_fi_0_2, c_put_0_2, c_fi_0_3, c_put_0_3, c_fi_0_4, c_put_0_4, c_ob_1, c_fa_1_0, c_fa_1_1, c_fa_1_2, c_fa_1_3, c_fa_1_4, c_fa_1_5, c_fi_1_6, c_put_1_6, c_ob_2, c_fa_2_0, c_ob_4, c_fa_4_0, c_ob_6, c_fa_6_0, c_ob_8, c_fa_8_0, c_ob_10, c_fa_10_0, c_ob_12, c_fa_12_0, c_ob_14, c_fa_14_0, c_fa_14_1, c_fa_14_2, c_fa_14_3, c_fi_14_4, c_put_14_4, c_ob_15, c_fa_15_0, c_ob_17, c_fa_17_0, c_ob_19, c_fa_19_0, c_ob_21, c_fa_21_0, c_len_0, c_ld_0, c_st_0, c_rd_0, c_wr_0, c_len_1, c_ld_1, c_st_1, c_rd_1, c_wr_1, c_len_2, c_ld_2, c_st_2, c_rd_2, c_wr_2, c_len_3, c_ld_3, c_st_3, c_rd_3, c_wr_3, c_len_4, c_ld_4, c_st_4, c_rd_4, c_wr_4, c_len_5, c_ld_5, c_st_5, c_rd_5, c_wr_5, c_len_6, c_ld_6, c_st_6, c_rd_6, c_wr_6, c_len_7, c_ld_7, c_st_7, c_rd_7, c_wr_7, c_len_8, c_ld_8, c_st_8, c_rd_8, c_wr_8, c_len_9, c_ld_9, c_st_9, c_rd_9, c_wr_9, bI_rI, bL_rL, bA_rA, bV_rV, bI_th, bL_th, bA_th, bV_th, rZ_0, rZ_1]
      rfl
    · obtain ⟨G1, r1, h1, s1⟩ := r_list0 h hx
      refine ⟨G1, ?_, h1, s1⟩
      unfold f_M_add1
      rw [r1]
      rfl
end Add
