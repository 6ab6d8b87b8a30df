section
-- the calls that put things in
theorem nI0 : nI 0 = (0 : Int32) := rfl
theorem nI1 : nI 1 = (1 : Int32) := rfl
theorem mChg_at {exc : Int32} {A : mS} {p r s : Nat} {z : Int} {ts : List (Nat × Nat × Nat)} (h : mInw exc p A) (hv : mV A p) (hrw : mRw A.2.1 zDp p = some (r, s)) (hz : z ≠ 0) (hl : (ts.length : Int) = (A.1 r).length + z) (hpos : 0 ≤ (mLen A p : Int) + z) :
    mOk (mChange (mRows A r ts) p z exc).2.1 ∧ mV (mChange (mRows A r ts) p z exc) p ∧ mLen (mChange (mRows A r ts) p z exc) p = ((mLen A p : Int) + z).toNat ∧ (mChange (mRows A r ts) p z exc).1 = (mRows A r ts).1 ∧ ∀ j, j ≠ 2 → j ≠ 3 → (mChange (mRows A r ts) p z exc).2.2.2 j = A.2.2.2 j := by
  obtain ⟨d1, d2, d3, d4, d5, d6, d7, -, -⟩ := mChd.of (ts := ts) h hv hrw hz
  generalize mChange (mRows A r ts) p z exc = A' at d1 d2 d3 d4 d5 d6 d7 ⊢
  by_cases h2 : p < 2
  · have e : r = p := by
      have : mRw A.2.1 (7 + 1) p = some (r, s) := hrw
      unfold mRw at this
      rw [if_pos h2] at this
      cases this; rfl
    subst e
    refine ⟨d2, Or.inl h2, ?_, d1, d7⟩
    rw [mLen_row h2] at hpos ⊢
    rw [mLen_row h2, d1, mRows_at]
    omega
  · rcases hv with w1 | w1
    · omega
    · cases hx : A.2.1 p with
      | none => exact absurd hx w1
      | some x =>
        have e := d4 p x hx
        have e' : A'.2.1 p = some (x.1, x.2.1, ((x.2.2 : Int) + z).toNat) := by
          rw [e]; exact if_pos (mAb_refl _ _)
        refine ⟨d2, Or.inr (by rw [e']; exact Option.some_ne_none _), ?_, d1, d7⟩
        rw [mLen_part h2 e', mLen_part h2 hx]
theorem mInv.thr {m : Nat} {A : mS} (h : mInv m A) (v : Int32) : mInv m (mSet A 0 v) := h
theorem mInv.made {m m' : Nat} {A : mS} (h : mInv m A) (hm : m ≤ m') (h6 : m' ≤ 600) : mInv m' (mSet A 1 (nI m')) := by
  obtain ⟨a1, a2, a3, a4, a5, a6⟩ := h
  exact ⟨a1, a2, fun r hr => ⟨(a3 r hr).1, fun t ht => ⟨((a3 r hr).2 t ht).1, Nat.lt_of_lt_of_le ((a3 r hr).2 t ht).2 hm⟩⟩, a4, rfl, h6⟩
theorem mInv.chg2 {m : Nat} {A : mS} {p r s : Nat} {z : Int} {ts : List (Nat × Nat × Nat)} (h : mInv m A) (hv : mV A p) (hrw : mRw A.2.1 zDp p = some (r, s)) (hz : z ≠ 0) (hl : (ts.length : Int) = (A.1 r).length + z) (hl31 : ts.length ≤ 31) (hpos : 0 ≤ (mLen A p : Int) + z)
    (ht : ∀ t, t ∈ ts → mTok m t) : mInv m (mChange (mRows A r ts) p z (-1)) :=
  mInv.chg (h.w p) hv hrw hz hl hl31 hpos ht (fun r' t hr' => (h.2.2.1 r' hr').2 t) h.2.2.2.2.1 h.2.2.2.2.2 (fun c x hx => by
    rw [if_neg (nI_nx (h.2.2.2.1 c x hx).1)]
    exact (h.2.2.2.1 c x hx).2)
theorem CRepx.ts {exc e2 : Int32} {σ : cS} {A : mS} {p r : Nat} {z : Int} {ts us : List (Nat × Nat × Nat)} (h : CRepx exc σ (mChange (mRows A r ts) p z e2)) (h1 : (mChange (mRows A r ts) p z e2).1 = (mRows A r ts).1) (h2 : (mChange (mRows A r us) p z e2).1 = (mRows A r us).1) (he : ts.map Prod.snd = us.map Prod.snd) : CRepx exc σ (mChange (mRows A r us) p z e2) := by
  refine h.cong (fun i _ => ?_) (qRel.change (show qRel (mRows A r ts) (mRows A r us) from rfl) p z e2)
  rw [h1, h2]
  show (if i = r then ts else A.1 i).map Prod.snd = (if i = r then us else A.1 i).map Prod.snd
  split
  · exact he
  · rfl
theorem CRepx.rowsC {exc : Int32} {σ : cS} {A : mS} {r : Nat} {ts us : List (Nat × Nat × Nat)} (h : CRepx exc σ (mRows A r ts)) (he : ts.map Prod.snd = us.map Prod.snd) : CRepx exc σ (mRows A r us) := by
  refine h.cong (fun i _ => ?_) (show qRel (mRows A r ts) (mRows A r us) from rfl)
  show (if i = r then ts else A.1 i).map Prod.snd = (if i = r then us else A.1 i).map Prod.snd
  split
  · exact he
  · rfl
section Pre2
variable {w : Nat → Nat} {G : gH} {o : Nat} {A : mS} {D : mD}
theorem s_go (h : MS w o G A D) : ∃ G', (∀ code, f_M_start G o (nI 0) code = rI 0 G') ∧ MS w o G' (mSet A 0 0) D ∧ mSt 0 0 G G' := by
  obtain ⟨G', a1, a2, a3⟩ := s_start0 h (nI 1)
  refine ⟨G', fun code => ?_, a2, a3⟩
  rw [← a1]
  rfl
theorem s_halt (h : MS w o G A D) {c : Nat} (hc : ¬ nI c ≤ 0) : ∃ G', f_M_start G o (nI 1) (nI c) = rI 1 G' ∧ MS w o G' (mSet A 0 (nI c)) D ∧ mSt 0 0 G G' := s_start1 h hc
theorem s_halt1 (h : MS w o G A D) : ∃ G', f_M_start G o (nI 1) (nI 1) = rI 1 G' ∧ MS w o G' (mSet A 0 (nI 1)) D ∧ mSt 0 0 G G' := s_halt h (by decide)
theorem r_no1 (h : MS w o G (mSet A 0 0) D) {c : Nat} (hc : ¬ nI c ≤ 0) : ∃ G', (∀ X Y : gH → gR, (gOb G o 6 fun o2 => bI (f_M_refuse G o (nI 1) (nI c)) fun v10 G9 => if v10 = 0 then X G9 else Y G9) = Y G') ∧ MS w o G' (mSet A 0 (nI c)) D ∧ mSt 0 0 G G' := by
  obtain ⟨G', a1, a2, a3⟩ := r_ref1 h rfl hc
  rw [mSet_mSet] at a2
  exact ⟨G', a1, a2, a3⟩
theorem r_no1b (h : MS w o G (mSet A 0 0) D) {c : Nat} (hc : ¬ nI c ≤ 0) : ∃ G', (∀ X Y : gH → gR, (gOb G o 6 fun o2 => bI (f_M_refuse G o 1 (nI c)) fun v10 G9 => if v10 = 0 then X G9 else Y G9) = Y G') ∧ MS w o G' (mSet A 0 (nI c)) D ∧ mSt 0 0 G G' := by
  obtain ⟨G', a1, a2, a3⟩ := r_ref1b h rfl hc
  rw [mSet_mSet] at a2
  exact ⟨G', a1, a2, a3⟩
end Pre2
section Add
variable {w : Nat → Nat} {b o m : Nat} {A : mS} {σ : cS} {H : gH}
/-- one thing comes in, on both sides -/
theorem b_in {B : mS} {M p r s i k t : Nat} (hX : CRepx (-1) σ B) (hI : mInv M B) (h0 : B.2.2.2 0 = 0) (hv : mV B p) (hr : mRw B.2.1 zDp p = some (r, s)) (hi : i ≤ mLen B p) (hl : (B.1 r).length ≤ 30) (hk : k < 31) (ht : t < M) :
    ∃ σ', f_X_bringIn (cPut b σ H) b (nI p) (nI i) (nI (32 * t + k)) (-1) = rV (cPut b σ' H) ∧ f_I_lengthOf (cPut b σ' H) (b + 1) (nI p) = rI (nI (mLen B p + 1)) (cPut b σ' H) ∧
      ∀ (G : gH) (D : mD) (a : Nat), MS w o G B D → mTh G a (k, t) → ∃ (G3 G4 : gH) (B3 A' : mS) (D3 D' : mD), f_M_come w G o (nI p) (nI i) a = rV G3 ∧ MS w o G3 B3 D3 ∧ f_M_change G3 o (nI p) (nI 1) (-1) = rV G4 ∧ MS w o G4 A' D' ∧ f_M_length G4 o (nI p) = rI (nI (mLen B p + 1)) G4 ∧ A'.2.2.2 1 = B.2.2.2 1 ∧ CRep σ' A' ∧ mInv M A' ∧ A'.2.2.2 0 = 0 ∧ mSt 1 61 G G4 := by
  obtain ⟨r', s', hr', hr2, hfit, h31, -, -⟩ := hI.pl hv
  rw [hr] at hr'
  cases hr'
  have hW := hI.w p
  have hl1 : ∀ a : Nat, ((B.1 r).insertIdx (s + i) (a, k, t)).length = (B.1 r).length + 1 := fun a => List.length_insertIdx_of_le_length (by omega) _
  obtain ⟨σ', y1, y2, -, -⟩ := x_bringIn (b := b) (G := H) (i := i) (t := (0, k, t)) hX hW hv hr hi (by omega)
  have hc : ∀ a : Nat, _ := fun a => mChg_at (ts := (B.1 r).insertIdx (s + i) (a, k, t)) (z := 1) hW hv hr (by omega) (by rw [hl1 a]; rfl) (by omega)
  have e1 : ((mLen B p : Int) + 1).toNat = mLen B p + 1 := by omega
  obtain ⟨c1, c2, c3, c4, -⟩ := hc 0
  refine ⟨σ', y1, ?_, fun G D a h ta => ?_⟩
  · rw [x_len y2 c1 c2, c3, e1]
  · obtain ⟨G3, e', r3, h3, s3, -, -⟩ := s_come (i := i) (t := (a, k, t)) h hW.1 hv hr (by omega) hl ta
    obtain ⟨G4, F, r4, h4, s4⟩ := s_change (z := 1) (exc := -1) h3 hW hv hr (by omega) (by omega) (by omega)
    rw [ofInt_1] at r4
    obtain ⟨g1, g2, g3, g4, g5⟩ := hc a
    refine ⟨G3, G4, _, _, _, _, r3, h3, r4, h4, ?_, g5 1 (by omega) (by omega), y2.ts c4 g4 (by rw [ins_map, ins_map]), hI.chg2 hv hr (by omega) (by rw [hl1 a]; rfl) (by rw [hl1 a]; omega) (by omega) (fun u hu => ?_), (g5 0 (by omega) (by omega)).trans h0, (s3.trans s4.st).mono (by omega) (by omega)⟩
    · rw [s_len h4 g1 g2, g3, e1]
    · rcases ins_mem _ _ hu with rfl | q
      · exact ⟨hk, ht⟩
      · exact (hI.2.2.1 r hr2).2 u q
/-- before a thing is made, and when it is made -/
theorem b_made (hR : CRep σ A) (hI : mInv m A) (hm : m < 600) : CRepx (-1) σ (mSet A 0 0) ∧ CRepx (-1) (cSetI σ 2 (nI (m + 1))) (mSet (mSet A 0 0) 1 (nI (m + 1))) ∧ mInv (m + 1) (mSet (mSet A 0 0) 1 (nI (m + 1))) := by
  have hXt : CRepx (-1) σ (mSet A 0 0) := (CRepx.of (exc := -1) hR).thr 0
  exact ⟨hXt, hXt.int (Or.inl ⟨rfl, rfl⟩), (hI.thr 0).made (Nat.le_succ m) (by omega)⟩
theorem sim_add (hR : CRep σ A) (hI : mInv m A) (hm : m < 600) (x k : Int32) : SimOp w b o A m σ H xIAS (f_X_add (cPut b σ H) b x k) (fun G => f_M_add1 w G o x k) := by
  have hX := CRepx.of (exc := -1) hR
  by_cases hx : mIsL A x
  · have hL := hx
    obtain ⟨p, hp, rfl, hv⟩ := hx
    have hv : mV A p := hv
    obtain ⟨r, s, hr, hr2, hfit, h31, hp6, hro⟩ := hI.pl hv
    have hW := hI.w p
    by_cases hk : mIsP 31 k
    · have hK := hk
      obtain ⟨k, hk31, rfl⟩ := hk
      by_cases hf : (A.1 r).length + 1 ≤ 31
      · obtain ⟨-, hXB, hIB⟩ := b_made hR hI hm
        obtain ⟨σ', y1, y2, yR⟩ := b_in (w := w) (b := b) (o := o) (H := H) (k := k) (i := mLen A p) hXB hIB rfl hv hr (Nat.le_refl _) (by show (A.1 r).length ≤ 30; omega) hk31 (Nat.lt_succ_self m)
        refine Sim.yes (nI (mLen A p + 1)) σ' ?_ (fun G D h => ?_)
        · unfold f_X_add
          simp only [x_needList hX hW hL, x_needKey.1 hK, (x_needRoom (n := 1) hX hW.1 hv hr h31 (by omega)).1 hf, x_len hX hW.1 hv, x_make hX hI.2.2.2.2.1 (show k < 32 by omega), y1, y2, c_ob_0, c_fa_0_0, c_fa_0_1, c_fi_0_2, c_put_0_2, c_fi_0_3, c_put_0_3, c_fi_0_4, c_put_0_4, c_ob_1, c_fa_1_0, c_fa_1_1, c_fa_1_2, c_fa_1_3, c_fa_1_4, c_fa_1_5, c_fi_1_6, c_put_1_6, c_ob_2, c_fa_2_0, c_ob_4, c_fa_4_0, c_ob_6, c_fa_6_0, c_ob_8, c_fa_8_0, c_ob_10, c_fa_10_0, c_ob_12, c_fa_12_0, c_ob_14, c_fa_14_0, c_fa_14_1, c_fa_14_2, c_fa_14_3, c_fi_14_4, c_put_14_4, c_ob_15, c_fa_15_0, c_ob_17, c_fa_17_0, c_ob_19, c_fa_19_0, c_ob_21, c_fa_21_0, c_len_0, c_ld_0, c_st_0, c_rd_0, c_wr_0, c_len_1, c_ld_1, c_st_1, c_rd_1, c_wr_1, c_len_2, c_ld_2, c_st_2, c_rd_2, c_wr_2, c_len_3, c_ld_3, c_st_3, c_rd_3, c_wr_3, c_len_4, c_ld_4, c_st_4, c_rd_4, c_wr_4, c_len_5, c_ld_5, c_st_5, c_rd_5, c_wr_5, c_len_6, c_ld_6, c_st_6, c_rd_6, c_wr_6, c_len_7, c_ld_7, c_st_7, c_rd_7, c_wr_7, c_len_8, c_ld_8, c_st_8, c_rd_8, c_wr_8, c_len_9, c_ld_9, c_st_9, c_rd_9, c_wr_9, bI_rI, bL_rL, bA_rA, bV_rV, bI_th, bL_th, bA_th, bV_th, rZ_0, rZ_1]
          rfl
        · obtain ⟨G1, r1, h1, s1⟩ := r_list1 h hL
          obtain ⟨G2, r2, h2, s2, t2⟩ := s_make (k := k) h1 (show (mSet A 0 0).2.2.2 1 = nI m from hI.2.2.2.2.1)
          obtain ⟨G3, G4, B3, A', D3, D', r3, h3, r4, h4, r5, -, c1, c2, c3, s4⟩ := yR G2 D G1.2.1 h2 t2
          refine ⟨A', D', G4, m + 1, ?_, h4, c1, c2, Nat.le_refl _, c3, ((s1.trans s2).trans s4).mono (by omega) (by omega)⟩
          unfold f_M_add1
          rw [r1, (s_inK G1 _).1 hK, bI_rI, if_neg (by decide), r_ref0 h1 rfl, gOb_of h1.2.2.1 rfl, (s_isFull (n := 1) h1 hW.1 hv hr (by omega)).1 hf, bI_rI, r_ref0b h1 rfl, gOb_of h1.2.2.1 rfl, s_len h1 hW.1 hv, bI_rI, gOb_of h1.2.2.1 rfl, r2, bA_rA, gOb_of h2.2.2.1 rfl]
          rw [show f_M_come w G2 o (nI p) (nI (mLen (mSet A 0 0) p)) G1.2.1 = rV G3 from r3, bV_rV, gOb_of h3.2.2.1 rfl, r4, bV_rV, gOb_of h4.2.2.1 rfl, r5, bI_rI]
          rfl
      · refine Sim.no hR hI 3 (by decide) (by decide) ?_ (fun G D h => ?_)
        · unfold f_X_add
          simp only [x_needList hX hW hL, x_needKey.1 hK, (x_needRoom (n := 1) hX hW.1 hv hr h31 (by omega)).2 (by omega), c_ob_0, c_fa_0_0, c_fa_0_1, c_fi_0_2, c_put_0_2, c_fi_0_3, c_put_0_3, c_fi_0_4, c_put_0_4, c_ob_1, c_fa_1_0, c_fa_1_1, c_fa_1_2, c_fa_1_3, c_fa_1_4, c_fa_1_5, c_fi_1_6, c_put_1_6, c_ob_2, c_fa_2_0, c_ob_4, c_fa_4_0, c_ob_6, c_fa_6_0, c_ob_8, c_fa_8_0, c_ob_10, c_fa_10_0, c_ob_12, c_fa_12_0, c_ob_14, c_fa_14_0, c_fa_14_1, c_fa_14_2, c_fa_14_3, c_fi_14_4, c_put_14_4, c_ob_15, c_fa_15_0, c_ob_17, c_fa_17_0, c_ob_19, c_fa_19_0, c_ob_21, c_fa_21_0, c_len_0, c_ld_0, c_st_0, c_rd_0, c_wr_0, c_len_1, c_ld_1, c_st_1, c_rd_1, c_wr_1, c_len_2, c_ld_2, c_st_2, c_rd_2, c_wr_2, c_len_3, c_ld_3, c_st_3, c_rd_3, c_wr_3, c_len_4, c_ld_4, c_st_4, c_rd_4, c_wr_4, c_len_5, c_ld_5, c_st_5, c_rd_5, c_wr_5, c_len_6, c_ld_6, c_st_6, c_rd_6, c_wr_6, c_len_7, c_ld_7, c_st_7, c_rd_7, c_wr_7, c_len_8, c_ld_8, c_st_8, c_rd_8, c_wr_8, c_len_9, c_ld_9, c_st_9, c_rd_9, c_wr_9, bI_rI, bL_rL, bA_rA, bV_rV, bI_th, bL_th, bA_th, bV_th, rZ_0, rZ_1]
          rfl
        · obtain ⟨G1, r1, h1, s1⟩ := r_list1 h hL
          obtain ⟨G2, r2, h2, s2⟩ := r_no1b (c := 3) h1 (by decide)
          refine ⟨G2, ?_, h2, (s1.trans s2).mono (by omega) (by omega)⟩
          unfold f_M_add1
          rw [r1, (s_inK G1 _).1 hK, bI_rI, if_neg (by decide), r_ref0 h1 rfl, gOb_of h1.2.2.1 rfl, (s_isFull (n := 1) h1 hW.1 hv hr (by omega)).2 (by show 31 < (A.1 r).length + 1; omega), bI_rI, r2]
          rfl
    · refine Sim.no hR hI 2 (by decide) (by decide) ?_ (fun G D h => ?_)
      · unfold f_X_add
        simp only [x_needList hX hW hL, x_needKey.2 hk, c_ob_0, c_fa_0_0, c_fa_0_1, c_fi_0_2, c_put_0_2, c_fi_0_3, c_put_0_3, c_fi_0_4, c_put_0_4, c_ob_1, c_fa_1_0, c_fa_1_1, c_fa_1_2, c_fa_1_3, c_fa_1_4, c_fa_1_5, c_fi_1_6, c_put_1_6, c_ob_2, c_fa_2_0, c_ob_4, c_fa_4_0, c_ob_6, c_fa_6_0, c_ob_8, c_fa_8_0, c_ob_10, c_fa_10_0, c_ob_12, c_fa_12_0, c_ob_14, c_fa_14_0, c_fa_14_1, c_fa_14_2, c_fa_14_3, c_fi_14_4, c_put_14_4, c_ob_15, c_fa_15_0, c_ob_17, c_fa_17_0, c_ob_19, c_fa_19_0, c_ob_21, c_fa_21_0, c_len_0, c_ld_0, c_st_0, c_rd_0, c_wr_0, c_len_1, c_ld_1, c_st_1, c_rd_1, c_wr_1, c_len_2, c_ld_2, c_st_2, c_rd_2, c_wr_2, c_len_3, c_ld_3, c_st_3, c_rd_3, c_wr_3, c_len_4, c_ld_4, c_st_4, c_rd_4, c_wr_4, c_len_5, c_ld_5, c_st_5, c_rd_5, c_wr_5, c_len_6, c_ld_6, c_st_6, c_rd_6, c_wr_6, c_len_7, c_ld_7, c_st_7, c_rd_7, c_wr_7, c_len_8, c_ld_8, c_st_8, c_rd_8, c_wr_8, c_len_9, c_ld_9, c_st_9, c_rd_9, c_wr_9, bI_rI, bL_rL, bA_rA, bV_rV, bI_th, bL_th, bA_th, bV_th, rZ_0, rZ_1]
        rfl
      · obtain ⟨G1, r1, h1, s1⟩ := r_list1 h hL
        obtain ⟨G2, r2, h2, s2⟩ := r_no1 (c := 2) h1 (by decide)
        refine ⟨G2, ?_, h2, (s1.trans s2).mono (by omega) (by omega)⟩
        unfold f_M_add1
        rw [r1, (s_inK G1 _).2 hk, bI_rI, if_pos rfl, r2]
        rfl
  · refine Sim.no hR hI 1 (by decide) (by decide) ?_ (fun G D h => ?_)
    · unfold f_X_add
      simp only [x_needList_no hX (hI.w 0) hx, c_ob_0, c_fa_0_0, c_fa_0_1, c_fi_0_2, c_put_0_2, c_fi_0_3, c_put_0_3, c_fi_0_4, c_put_0_4, c_ob_1, c_fa_1_0, c_fa_1_1, c_fa_1_2, c_fa_1_3, c_fa_1_4, c_fa_1_5, c_fi_1_6, c_put_1_6, c_ob_2, c_fa_2_0, c_ob_4, c_fa_4_0, c_ob_6, c_fa_6_0, c_ob_8, c_fa_8_0, c_ob_10, c_fa_10_0, c_ob_12, c_fa_12_0, c_ob_14, c_fa_14_0, c_fa_14_1, c_fa_14_2, c_fa_14_3, c_fi_14_4, c_put_14_4, c_ob_15, c_fa_15_0, c_ob_17, c_fa_17_0, c_ob_19, c_fa_19_0, c_ob_21, c_fa_21_0, c_len_0, c_ld_0, c_st_0, c_rd_0, c_wr_0, c_len_1, c_ld_1, c_st_1, c_rd_1, c_wr_1, c_len_2, c_ld_2, c_st_2, c_rd_2, c_wr_2, c_len_3, c_ld_3, c_st_3, c_rd_3, c_wr_3, c_len_4, c_ld_4, c_st_4, c_rd_4, c_wr_4, c_len_5, c_ld_5, c_st_5, c_rd_5, c_wr_5, c_len_6, c_ld_6, c_st_6, c_rd_6, c_wr_6, c_len_7, c_ld_7, c_st_7, c_rd_7, c_wr_7, c_len_8, c_ld_8, c_st_8, c_rd_8, c_wr_8, c_len_9, c_ld_9, c_st_9, c_rd_9, c_wr_9, bI_rI, bL_rL, bA_rA, bV_rV, bI_th, bL_th, bA_th, bV_th, rZ_0, rZ_1]
      rfl
    · obtain ⟨G1, r1, h1, s1⟩ := r_list0 h hx
      refine ⟨G1, ?_, h1, s1⟩
      unfold f_M_add1
      rw [r1]
      rfl
end Add
end
section
-- keys as bits, the first place of a key, one list brought into another
theorem nI_eq31 {a c : Nat} (ha : a < 2 ^ 31) (hc : c < 2 ^ 31) (h : nI a = nI c) : a = c := (nI_eq ha hc).mp h
theorem bit_k : ∀ k : Nat, k < 31 → ((nI k &&& 31).toBitVec.smod 32).toNat = k := by decide +kernel
theorem bit_1 : ∀ t : Nat, t < 31 → ∀ k : Nat, k < 31 → (nI 1 <<< (nI t &&& 31)).toBitVec.getLsbD k = decide (k = t) := by decide +kernel
theorem bit_0 : ∀ k : Nat, k < 31 → (nI 0).toBitVec.getLsbD k = false := by decide +kernel
theorem bit_m1 : ∀ k : Nat, k < 31 → (-1 : Int32).toBitVec.getLsbD k = true := by decide +kernel
theorem bit_and1 (x : Int32) : (x &&& nI 1 = nI 1) ↔ x.toBitVec.getLsbD 0 = true := by
  have e : (nI 1).toBitVec = 1#32 := by decide
  constructor
  · intro h
    have h2 := congrArg (fun y : Int32 => y.toBitVec.getLsbD 0) h
    simp only [Int32.toBitVec_and, BitVec.getLsbD_and, e] at h2
    simpa using h2
  · intro h
    apply Int32.toBitVec_inj.mp
    rw [Int32.toBitVec_and, e]
    apply BitVec.eq_of_getLsbD_eq
    intro i hi
    rw [BitVec.getLsbD_and]
    by_cases h0 : i = 0
    · subst h0; rw [h]; rfl
    · have : (1#32).getLsbD i = false := by
        rw [BitVec.getLsbD_one]; simp [h0]
      rw [this, Bool.and_false]
theorem bit_sh (v : Int32) {k : Nat} (hk : k < 31) : ((v >>> (nI k &&& 31)) &&& nI 1 = nI 1) ↔ v.toBitVec.getLsbD k = true := by
  rw [bit_and1, Int32.toBitVec_shiftRight, BitVec.sshiftRight', bit_k k hk, BitVec.getLsbD_sshiftRight]
  simp only [Nat.add_zero]
  rw [if_pos (by omega)]
  simp
theorem gBit_of {v : Int32} {g : Nat → Bool} (h : ∀ k, k < 31 → v.toBitVec.getLsbD k = g k) : gBit v g := fun k hk => by
  rw [bit_sh v hk, h k hk]
theorem bit_or {v u : Int32} {k : Nat} : (v ||| u).toBitVec.getLsbD k = (v.toBitVec.getLsbD k || u.toBitVec.getLsbD k) := by
  rw [Int32.toBitVec_or, BitVec.getLsbD_or]
theorem bit_xor {v u : Int32} {k : Nat} : (v ^^^ u).toBitVec.getLsbD k = (v.toBitVec.getLsbD k ^^ u.toBitVec.getLsbD k) := by
  rw [Int32.toBitVec_xor, BitVec.getLsbD_xor]
theorem sFi_is {k : Nat} : ∀ (l : List (Nat × Nat × Nat)) (i j : Nat), (sFi k l i).isSome = (sFi k l j).isSome
  | [], _, _ => rfl
  | t :: ts, i, j => by
    unfold sFi
    by_cases e : t.2.1 = k
    · rw [if_pos e, if_pos e]; rfl
    · rw [if_neg e, if_neg e]; exact sFi_is ts _ _
section Key
variable {b : Nat} {H : gH} {exc : Int32} {A : mS} {σ : cS} {p r s : Nat}
theorem y_firstL {K1 : gH → Int32 → gR} {K2 : gH → gR} {k : Nat} (h : CRepx exc σ A) (hw : mInw exc p A) (hv : mV A p) (hr : mRw A.2.1 zDp p = some (r, s)) (hkk : ∀ t, t ∈ A.1 r → t.2.1 < 31) (hk : k < 31) : ∀ (l : List (Nat × Nat × Nat)) (n j : Nat), (sSeg A r s (mLen A p)).drop j = l → j ≤ mLen A p → l.length < n →
    f_I_firstOf_L9 K1 K2 n (cPut b σ H) (b + 1) (nI p) (nI k) (nI (mLen A p)) (nI j) = match sFi k l j with
      | some i => K1 (cPut b σ H) (nI i)
      | none => K2 (cPut b σ H)
  | _, 0, _, _, _, h => absurd h (Nat.not_lt_zero _)
  | [], n + 1, j, hd, hj, _ => by
    have hfit := hw.2.1.rw _ _ _ _ hr
    have h31 := hw.2.2.1 r (mRw_lt _ _ _ _ hr)
    have hsl := sSeg_len hfit
    have : mLen A p ≤ j := by
      have := congrArg List.length hd
      rw [List.length_drop, hsl] at this
      simp at this; omega
    unfold f_I_firstOf_L9
    rw [if_pos (nI_le this (by omega))]; rfl
  | t :: ts, n + 1, j, hd, hj, hn => by
    have hfit := hw.2.1.rw _ _ _ _ hr
    have h31 := hw.2.2.1 r (mRw_lt _ _ _ _ hr)
    have hsl := sSeg_len hfit
    have hs : (sSeg A r s (mLen A p))[j]? = some t := by
      have : ((sSeg A r s (mLen A p)).drop j)[0]? = some t := by rw [hd]; rfl
      rw [List.getElem?_drop] at this; exact this
    have hjl : j < mLen A p := by
      have := (List.getElem?_eq_some_iff.mp hs).1
      omega
    rw [sSeg_at hjl] at hs
    have hd' : (sSeg A r s (mLen A p)).drop (j + 1) = ts := by rw [← List.drop_drop, hd]; rfl
    have hkt := hkk t (List.mem_of_getElem? hs)
    unfold f_I_firstOf_L9
    rw [if_neg (nI_ge hjl (by omega)), c_ob_1, x_keyAt h hw hv hr hs (by omega), bI_rI]
    unfold sFi
    by_cases e : t.2.1 = k
    · rw [if_pos (by rw [e]), if_pos e]
    · rw [if_neg (fun q => e ((nI_eq (by omega) (by omega)).mp q)), if_neg e, nI_add]
      exact y_firstL h hw hv hr hkk hk ts n (j + 1) hd' (by omega) (by simp at hn; omega)
theorem x_first {k : Nat} (h : CRepx exc σ A) (hw : mInw exc p A) (hv : mV A p) (hr : mRw A.2.1 zDp p = some (r, s)) (hkk : ∀ t, t ∈ A.1 r → t.2.1 < 31) (hk : k < 31) :
    f_I_firstOf (cPut b σ H) (b + 1) (nI p) (nI k) = rI (sNo (sFi k (sSeg A r s (mLen A p)) 0)) (cPut b σ H) := by
  have hfit := hw.2.1.rw _ _ _ _ hr
  have h31 := hw.2.2.1 r (mRw_lt _ _ _ _ hr)
  unfold f_I_firstOf
  rw [c_ob_1, x_len h hw.1 hv, bI_rI, y_firstL h hw hv hr hkk hk _ zFu 0 (List.drop_zero ..) (Nat.zero_le _) (by rw [sSeg_len hfit]; unfold zFu; omega)]
  cases sFi k (sSeg A r s (mLen A p)) 0 <;> rfl
theorem y_keysL {K : gH → Int32 → gR} (h : CRepx exc σ A) (hw : mInw exc p A) (hv : mV A p) (hr : mRw A.2.1 zDp p = some (r, s)) (hkk : ∀ t, t ∈ A.1 r → t.2.1 < 31) : ∀ (l : List (Nat × Nat × Nat)) (n j : Nat) (v : Int32), (sSeg A r s (mLen A p)).drop j = l → j ≤ mLen A p → l.length < n →
    ∃ v', f_I_keysOf_L11 K n (cPut b σ H) (b + 1) (nI p) (nI (mLen A p)) v (nI j) = K (cPut b σ H) v' ∧ ∀ k, k < 31 → v'.toBitVec.getLsbD k = (v.toBitVec.getLsbD k || (sFi k l 0).isSome)
  | _, 0, _, _, _, _, h => absurd h (Nat.not_lt_zero _)
  | [], n + 1, j, v, hd, hj, _ => by
    have hfit := hw.2.1.rw _ _ _ _ hr
    have h31 := hw.2.2.1 r (mRw_lt _ _ _ _ hr)
    have hsl := sSeg_len hfit
    have : mLen A p ≤ j := by
      have := congrArg List.length hd
      rw [List.length_drop, hsl] at this
      simp at this; omega
    refine ⟨v, ?_, fun k _ => by simp [sFi]⟩
    unfold f_I_keysOf_L11
    rw [if_pos (nI_le this (by omega))]
  | t :: ts, n + 1, j, v, hd, hj, hn => by
    have hfit := hw.2.1.rw _ _ _ _ hr
    have h31 := hw.2.2.1 r (mRw_lt _ _ _ _ hr)
    have hsl := sSeg_len hfit
    have hs : (sSeg A r s (mLen A p))[j]? = some t := by
      have : ((sSeg A r s (mLen A p)).drop j)[0]? = some t := by rw [hd]; rfl
      rw [List.getElem?_drop] at this; exact this
    have hjl : j < mLen A p := by
      have := (List.getElem?_eq_some_iff.mp hs).1
      omega
    rw [sSeg_at hjl] at hs
    have hd' : (sSeg A r s (mLen A p)).drop (j + 1) = ts := by rw [← List.drop_drop, hd]; rfl
    have hkt := hkk t (List.mem_of_getElem? hs)
    obtain ⟨v', z1, z2⟩ := y_keysL (K := K) h hw hv hr hkk ts n (j + 1) (v ||| (nI 1 <<< (nI t.2.1 &&& 31))) hd' (by omega) (by simp at hn; omega)
    refine ⟨v', ?_, fun k hk => ?_⟩
    · unfold f_I_keysOf_L11
      rw [if_neg (nI_ge hjl (by omega)), c_ob_1, x_keyAt h hw hv hr hs (by omega), bI_rI, nI_add, z1]
    · rw [z2 k hk, bit_or, bit_1 _ hkt k hk, show sFi k (t :: ts) 0 = (if t.2.1 = k then some 0 else sFi k ts 1) from rfl]
      by_cases e : t.2.1 = k
      · rw [if_pos e, decide_eq_true e.symm]; simp
      · rw [if_neg e, decide_eq_false (fun q => e q.symm), Bool.or_false, sFi_is ts 1 0]
theorem x_keys (h : CRepx exc σ A) (hw : mInw exc p A) (hv : mV A p) (hr : mRw A.2.1 zDp p = some (r, s)) (hkk : ∀ t, t ∈ A.1 r → t.2.1 < 31) :
    ∃ v, f_I_keysOf (cPut b σ H) (b + 1) (nI p) = rI v (cPut b σ H) ∧ ∀ k, k < 31 → v.toBitVec.getLsbD k = gK (sSeg A r s (mLen A p)) k := by
  have hfit := hw.2.1.rw _ _ _ _ hr
  have h31 := hw.2.2.1 r (mRw_lt _ _ _ _ hr)
  obtain ⟨v, z1, z2⟩ := y_keysL (b := b) (H := H) (K := fun G13 x12 => rI x12 G13) h hw hv hr hkk _ zFu 0 (nI 0) (List.drop_zero ..) (Nat.zero_le _) (by rw [sSeg_len hfit]; unfold zFu; omega)
  refine ⟨v, ?_, fun k hk => ?_⟩
  · unfold f_I_keysOf
    rw [c_ob_1, x_len h hw.1 hv, bI_rI, z1]
  · rw [z2 k hk, bit_0 k hk, Bool.false_or]; rfl
end Key
section Chg0
theorem mChg_all {m : Nat} {A : mS} {p r s : Nat} {z : Int} {ts : List (Nat × Nat × Nat)} (hI : mInv m A) (hv : mV A p) (hrw : mRw A.2.1 zDp p = some (r, s)) (hl : (ts.length : Int) = (A.1 r).length + z) (hl31 : ts.length ≤ 31) (hpos : 0 ≤ (mLen A p : Int) + z) (hz0 : z = 0 → ts = A.1 r) (ht : ∀ t, t ∈ ts → mTok m t) :
    mInv m (mChange (mRows A r ts) p z (-1)) ∧ mV (mChange (mRows A r ts) p z (-1)) p ∧ mLen (mChange (mRows A r ts) p z (-1)) p = ((mLen A p : Int) + z).toNat ∧ (mChange (mRows A r ts) p z (-1)).1 = (mRows A r ts).1 ∧ ∀ j, j ≠ 2 → j ≠ 3 → (mChange (mRows A r ts) p z (-1)).2.2.2 j = A.2.2.2 j := by
  by_cases hz : z = 0
  · rw [hz0 hz, mChange_0 hz, mRows_self]
    exact ⟨hI, hv, by omega, rfl, fun _ _ _ => rfl⟩
  · obtain ⟨-, c2, c3, c4, c5⟩ := mChg_at (ts := ts) (hI.w p) hv hrw hz hl hpos
    exact ⟨hI.chg2 hv hrw hz hl hl31 hpos ht, c2, c3, c4, c5⟩
theorem sIns_nil {L : List (Nat × Nat × Nat)} {i : Nat} : sIns L [] i = L := by
  unfold sIns
  rw [List.nil_append, List.take_append_drop]
theorem sIns_mem {L M : List (Nat × Nat × Nat)} {i : Nat} {t : Nat × Nat × Nat} (h : t ∈ sIns L M i) : t ∈ L ∨ t ∈ M := by
  unfold sIns at h
  rcases List.mem_append.mp h with q | q
  · exact Or.inl (List.mem_of_mem_take q)
  · rcases List.mem_append.mp q with q | q
    · exact Or.inr q
    · exact Or.inl (List.mem_of_mem_drop q)
variable {w : Nat → Nat} {G : gH} {o : Nat} {A : mS} {D : mD}
theorem mAp.fresh {G' : gH} {a e : Nat} (h : MS w o G A D) (ha : a = G.2.1) (he : G.2.1 ≤ e ∨ e = w 0) : mAp w D a e := by
  intro i hi
  obtain ⟨m, κ, cap, f, q1, q2, -⟩ := h.2.2.2.2.1 i hi
  have l1 := h.1 _ _ q1
  have l2 := h.1 _ _ q2
  refine ⟨by omega, ?_⟩
  rcases he with e1 | e1
  · exact Or.inl (by omega)
  · exact Or.inr e1
theorem s_bring {p r s i q r2 s2 m : Nat} (h : MS w o G A D) (hI : mInv m A) (hv : mV A p) (hr : mRw A.2.1 zDp p = some (r, s)) (hq : mV A q) (hrq : mRw A.2.1 zDp q = some (r2, s2)) (hne : r ≠ r2) (hi : i ≤ mLen A p) (hl : (A.1 r).length + mLen A q ≤ 31) :
    ∃ (G' : gH) (D' : mD), f_M_bring w G o (nI p) (nI i) (nI q) = rI (nI (mLen A q)) G' ∧ MS w o G' (mChange (mRows A r (sIns (A.1 r) (sSeg A r2 s2 (mLen A q)) (s + i))) p (mLen A q : Int) (-1)) D' ∧ mSt 36 1974 G G' := by
  have hW := hI.w p
  have hr1 := mRw_lt _ _ _ _ hr
  have hr2 := mRw_lt _ _ _ _ hrq
  have hfit := hW.2.1.rw _ _ _ _ hr
  have hfitq := hW.2.1.rw _ _ _ _ hrq
  have h31 := hW.2.2.1 r2 hr2
  have hM := sSeg_len hfitq
  obtain ⟨G1, e, cap, a1, a2, a3, a4, -, a6, a7⟩ := s_copy h hW.1 hq hrq hfitq h31
  have hap : mAp w D G.2.1 e := mAp.fresh (G' := G1) h rfl a4
  obtain ⟨G2, D2, b1, b2, b3, b4⟩ := m_bringL (K := fun G24 x21 x22 x23 => gOb G24 x23 9 fun o26 => bI (f_AL_size G24 x23) fun v29 G28 => gOb G28 x21 6 fun o31 => bV (f_M_change G28 x21 x22 v29 (-1)) fun G33 => gOb G33 x23 9 fun o35 => bI (f_AL_size G33 x23) fun v38 G37 => rI v38 G37) (i := i) hW.1 hv hr (M := sSeg A r2 s2 (mLen A q)) (by omega) (by rw [hM]; exact hl) hr2 (fun z => hne z.symm) (fun t ht => sSeg_mem ht) (sSeg A r2 s2 (mLen A q)).length zFu 0 G1 D (by omega) (by rw [hM]; unfold zFu; omega) (by rw [List.take_zero, sIns_nil, mRows_self]; exact a6) a2 hap
  obtain ⟨G3, F, c1, c2, c3⟩ := s_change (exc := -1) (z := (mLen A q : Int)) b2 hW hv hr (by omega) (by omega) (by omega)
  rw [ofInt_nI] at c1
  have b5 := c3.loc b2.1 b3
  obtain ⟨m1, κ1, f1, u1, -⟩ := id b3
  obtain ⟨m2, κ2, f2, u2, -⟩ := id b5
  refine ⟨G3, _, ?_, c2, ((a7.trans b4).trans c3.st).mono (by rw [hM]; omega) (by rw [hM]; omega)⟩
  unfold f_M_bring
  rw [gOb_of h.2.2.1 rfl, a1, bA_rA]
  rw [b1, gOb_of u1 rfl, al_size b3.al, bI_rI, gOb_of b2.2.2.1 rfl, List.length_map, hM, c1, bV_rV, gOb_of u2 rfl, al_size b5.al, bI_rI, List.length_map, hM]
end Chg0
end
section
theorem s_ldI {w : Nat → Nat} {G : gH} {o : Nat} {A : mS} {D : mD} (h : MS w o G A D) {j i : Nat} {k : Int32 → gR} (hj : j < 6) (hi : i = mFd j) : gFI G o 6 i k = k (A.2.2.2 j) := by
  rw [hi]
  exact gFI_of h.2.2.1 rfl (mOb_int hj)
section Put
variable {w : Nat → Nat} {b o m : Nat} {A : mS} {σ : cS} {H : gH}
theorem sim_addAt (hR : CRep σ A) (hI : mInv m A) (hm : m < 600) (x i k : Int32) : SimOp w b o A m σ H xIAS (f_X_addAt (cPut b σ H) b x i k) (fun G => f_M_addAt w G o x i k) := by
  have hX := CRepx.of (exc := -1) hR
  by_cases hx : mIsL A x
  · have hL := hx
    obtain ⟨p, hp, rfl, hv⟩ := hx
    have hv : mV A p := hv
    obtain ⟨r, s, hr, hr2, hfit, h31, hp6, hro⟩ := hI.pl hv
    have hW := hI.w p
    by_cases hi : mIsG (mLen A p) i
    · have hi' := hi
      obtain ⟨i, hip, rfl⟩ := hi
      by_cases hk : mIsP 31 k
      · have hK := hk
        obtain ⟨k, hk31, rfl⟩ := hk
        by_cases hf : (A.1 r).length + 1 ≤ 31
        · obtain ⟨-, hXB, hIB⟩ := b_made hR hI hm
          obtain ⟨σ', y1, y2, yR⟩ := b_in (w := w) (b := b) (o := o) (H := H) (k := k) (i := i) hXB hIB rfl hv hr hip (by show (A.1 r).length ≤ 30; omega) hk31 (Nat.lt_succ_self m)
          refine Sim.yes (nI m) σ' ?_ (fun G D h => ?_)
          · unfold f_X_addAt
            simp only [x_needList hX hW hL, (x_needGap hX hW.1 hv (show mLen A p < 100 by omega)).1 hi', x_needKey.1 hK, (x_needRoom (n := 1) hX hW.1 hv hr h31 (by omega)).1 hf, x_make hX hI.2.2.2.2.1 (show k < 32 by omega), y1, x_tagOf (show k < 32 by omega) (show m ≤ 1000 by omega), c_ob_0, c_fa_0_0, c_fa_0_1, c_fi_0_2, c_put_0_2, c_fi_0_3, c_put_0_3, c_fi_0_4, c_put_0_4, c_ob_1, c_fa_1_0, c_fa_1_1, c_fa_1_2, c_fa_1_3, c_fa_1_4, c_fa_1_5, c_fi_1_6, c_put_1_6, c_ob_2, c_fa_2_0, c_ob_4, c_fa_4_0, c_ob_6, c_fa_6_0, c_ob_8, c_fa_8_0, c_ob_10, c_fa_10_0, c_ob_12, c_fa_12_0, c_ob_14, c_fa_14_0, c_fa_14_1, c_fa_14_2, c_fa_14_3, c_fi_14_4, c_put_14_4, c_ob_15, c_fa_15_0, c_ob_17, c_fa_17_0, c_ob_19, c_fa_19_0, c_ob_21, c_fa_21_0, c_len_0, c_ld_0, c_st_0, c_rd_0, c_wr_0, c_len_1, c_ld_1, c_st_1, c_rd_1, c_wr_1, c_len_2, c_ld_2, c_st_2, c_rd_2, c_wr_2, c_len_3, c_ld_3, c_st_3, c_rd_3, c_wr_3, c_len_4, c_ld_4, c_st_4, c_rd_4, c_wr_4, c_len_5, c_ld_5, c_st_5, c_rd_5, c_wr_5, c_len_6, c_ld_6, c_st_6, c_rd_6, c_wr_6, c_len_7, c_ld_7, c_st_7, c_rd_7, c_wr_7, c_len_8, c_ld_8, c_st_8, c_rd_8, c_wr_8, c_len_9, c_ld_9, c_st_9, c_rd_9, c_wr_9, bI_rI, bL_rL, bA_rA, bV_rV, bI_th, bL_th, bA_th, bV_th, rZ_0, rZ_1]
          · obtain ⟨G1, r1, h1, s1⟩ := r_list1 h hL
            obtain ⟨G2, r2, h2, s2, t2⟩ := s_make (k := k) h1 (show (mSet A 0 0).2.2.2 1 = nI m from hI.2.2.2.2.1)
            obtain ⟨G3, G4, B3, A', D3, D', r3, h3, r4, h4, -, c0, c1, c2, c3, s4⟩ := yR G2 D G1.2.1 h2 t2
            refine ⟨A', D', G4, m + 1, ?_, h4, c1, c2, Nat.le_refl _, c3, ((s1.trans s2).trans s4).mono (by omega) (by omega)⟩
            unfold f_M_addAt
            rw [r1, gOb_of h1.2.2.1 rfl, s_len h1 hW.1 hv, bI_rI]
            rw [show f_M_isIn G1 (nI i) (nI 0) (nI (mLen (mSet A 0 0) p)) = rI 1 G1 from (s_isIn G1 (mLen A p) (by omega) _).1 hi', bI_rI, if_neg (by decide), r_ref0 h1 rfl, (s_inK G1 _).1 hK, bI_rI, if_neg (by decide), r_ref0 h1 rfl, gOb_of h1.2.2.1 rfl, (s_isFull (n := 1) h1 hW.1 hv hr (by omega)).1 hf, bI_rI, r_ref0b h1 rfl, gOb_of h1.2.2.1 rfl, r2, bA_rA, gOb_of h2.2.2.1 rfl, r3, bV_rV, gOb_of h3.2.2.1 rfl, r4, bV_rV, s_ldI (j := 1) (i := 4) h4 (by omega) rfl, c0]
            rw [show (mSet (mSet A 0 0) 1 (nI (m + 1))).2.2.2 1 = nI (m + 1) from rfl, nI_sub (by omega)]
            rfl
        · refine Sim.no hR hI 3 (by decide) (by decide) ?_ (fun G D h => ?_)
          · unfold f_X_addAt
            simp only [x_needList hX hW hL, (x_needGap hX hW.1 hv (show mLen A p < 100 by omega)).1 hi', x_needKey.1 hK, (x_needRoom (n := 1) hX hW.1 hv hr h31 (by omega)).2 (by omega), c_ob_0, c_fa_0_0, c_fa_0_1, c_fi_0_2, c_put_0_2, c_fi_0_3, c_put_0_3, c_fi_0_4, c_put_0_4, c_ob_1, c_fa_1_0, c_fa_1_1, c_fa_1_2, c_fa_1_3, c_fa_1_4, c_fa_1_5, c_fi_1_6, c_put_1_6, c_ob_2, c_fa_2_0, c_ob_4, c_fa_4_0, c_ob_6, c_fa_6_0, c_ob_8, c_fa_8_0, c_ob_10, c_fa_10_0, c_ob_12, c_fa_12_0, c_ob_14, c_fa_14_0, c_fa_14_1, c_fa_14_2, c_fa_14_3, c_fi_14_4, c_put_14_4, c_ob_15, c_fa_15_0, c_ob_17, c_fa_17_0, c_ob_19, c_fa_19_0, c_ob_21, c_fa_21_0, c_len_0, c_ld_0, c_st_0, c_rd_0, c_wr_0, c_len_1, c_ld_1, c_st_1, c_rd_1, c_wr_1, c_len_2, c_ld_2, c_st_2, c_rd_2, c_wr_2, c_len_3, c_ld_3, c_st_3, c_rd_3, c_wr_3, c_len_4, c_ld_4, c_st_4, c_rd_4, c_wr_4, c_len_5, c_ld_5, c_st_5, c_rd_5, c_wr_5, c_len_6, c_ld_6, c_st_6, c_rd_6, c_wr_6, c_len_7, c_ld_7, c_st_7, c_rd_7, c_wr_7, c_len_8, c_ld_8, c_st_8, c_rd_8, c_wr_8, c_len_9, c_ld_9, c_st_9, c_rd_9, c_wr_9, bI_rI, bL_rL, bA_rA, bV_rV, bI_th, bL_th, bA_th, bV_th, rZ_0, rZ_1]
            rfl
          · obtain ⟨G1, r1, h1, s1⟩ := r_list1 h hL
            obtain ⟨G2, r2, h2, s2⟩ := r_no1b (c := 3) h1 (by decide)
            refine ⟨G2, ?_, h2, (s1.trans s2).mono (by omega) (by omega)⟩
            unfold f_M_addAt
            rw [r1, gOb_of h1.2.2.1 rfl, s_len h1 hW.1 hv, bI_rI]
            rw [show f_M_isIn G1 (nI i) (nI 0) (nI (mLen (mSet A 0 0) p)) = rI 1 G1 from (s_isIn G1 (mLen A p) (by omega) _).1 hi', bI_rI, if_neg (by decide), r_ref0 h1 rfl, (s_inK G1 _).1 hK, bI_rI, if_neg (by decide), r_ref0 h1 rfl, gOb_of h1.2.2.1 rfl, (s_isFull (n := 1) h1 hW.1 hv hr (by omega)).2 (by show 31 < (A.1 r).length + 1; omega), bI_rI, r2]
            rfl
      · refine Sim.no hR hI 2 (by decide) (by decide) ?_ (fun G D h => ?_)
        · unfold f_X_addAt
          simp only [x_needList hX hW hL, (x_needGap hX hW.1 hv (show mLen A p < 100 by omega)).1 hi', x_needKey.2 hk, c_ob_0, c_fa_0_0, c_fa_0_1, c_fi_0_2, c_put_0_2, c_fi_0_3, c_put_0_3, c_fi_0_4, c_put_0_4, c_ob_1, c_fa_1_0, c_fa_1_1, c_fa_1_2, c_fa_1_3, c_fa_1_4, c_fa_1_5, c_fi_1_6, c_put_1_6, c_ob_2, c_fa_2_0, c_ob_4, c_fa_4_0, c_ob_6, c_fa_6_0, c_ob_8, c_fa_8_0, c_ob_10, c_fa_10_0, c_ob_12, c_fa_12_0, c_ob_14, c_fa_14_0, c_fa_14_1, c_fa_14_2, c_fa_14_3, c_fi_14_4, c_put_14_4, c_ob_15, c_fa_15_0, c_ob_17, c_fa_17_0, c_ob_19, c_fa_19_0, c_ob_21, c_fa_21_0, c_len_0, c_ld_0, c_st_0, c_rd_0, c_wr_0, c_len_1, c_ld_1, c_st_1, c_rd_1, c_wr_1, c_len_2, c_ld_2, c_st_2, c_rd_2, c_wr_2, c_len_3, c_ld_3, c_st_3, c_rd_3, c_wr_3, c_len_4, c_ld_4, c_st_4, c_rd_4, c_wr_4, c_len_5, c_ld_5, c_st_5, c_rd_5, c_wr_5, c_len_6, c_ld_6, c_st_6, c_rd_6, c_wr_6, c_len_7, c_ld_7, c_st_7, c_rd_7, c_wr_7, c_len_8, c_ld_8, c_st_8, c_rd_8, c_wr_8, c_len_9, c_ld_9, c_st_9, c_rd_9, c_wr_9, bI_rI, bL_rL, bA_rA, bV_rV, bI_th, bL_th, bA_th, bV_th, rZ_0, rZ_1]
          rfl
        · obtain ⟨G1, r1, h1, s1⟩ := r_list1 h hL
          obtain ⟨G2, r2, h2, s2⟩ := r_no1 (c := 2) h1 (by decide)
          refine ⟨G2, ?_, h2, (s1.trans s2).mono (by omega) (by omega)⟩
          unfold f_M_addAt
          rw [r1, gOb_of h1.2.2.1 rfl, s_len h1 hW.1 hv, bI_rI]
          rw [show f_M_isIn G1 (nI i) (nI 0) (nI (mLen (mSet A 0 0) p)) = rI 1 G1 from (s_isIn G1 (mLen A p) (by omega) _).1 hi', bI_rI, if_neg (by decide), r_ref0 h1 rfl, (s_inK G1 _).2 hk, bI_rI, if_pos rfl, r2]
          rfl
    · refine Sim.no hR hI 1 (by decide) (by decide) ?_ (fun G D h => ?_)
      · unfold f_X_addAt
        simp only [x_needList hX hW hL, (x_needGap hX hW.1 hv (show mLen A p < 100 by omega)).2 hi, c_ob_0, c_fa_0_0, c_fa_0_1, c_fi_0_2, c_put_0_2, c_fi_0_3, c_put_0_3, c_fi_0_4, c_put_0_4, c_ob_1, c_fa_1_0, c_fa_1_1, c_fa_1_2, c_fa_1_3, c_fa_1_4, c_fa_1_5, c_fi_1_6, c_put_1_6, c_ob_2, c_fa_2_0, c_ob_4, c_fa_4_0, c_ob_6, c_fa_6_0, c_ob_8, c_fa_8_0, c_ob_10, c_fa_10_0, c_ob_12, c_fa_12_0, c_ob_14, c_fa_14_0, c_fa_14_1, c_fa_14_2, c_fa_14_3, c_fi_14_4, c_put_14_4, c_ob_15, c_fa_15_0, c_ob_17, c_fa_17_0, c_ob_19, c_fa_19_0, c_ob_21, c_fa_21_0, c_len_0, c_ld_0, c_st_0, c_rd_0, c_wr_0, c_len_1, c_ld_1, c_st_1, c_rd_1, c_wr_1, c_len_2, c_ld_2, c_st_2, c_rd_2, c_wr_2, c_len_3, c_ld_3, c_st_3, c_rd_3, c_wr_3, c_len_4, c_ld_4, c_st_4, c_rd_4, c_wr_4, c_len_5, c_ld_5, c_st_5, c_rd_5, c_wr_5, c_len_6, c_ld_6, c_st_6, c_rd_6, c_wr_6, c_len_7, c_ld_7, c_st_7, c_rd_7, c_wr_7, c_len_8, c_ld_8, c_st_8, c_rd_8, c_wr_8, c_len_9, c_ld_9, c_st_9, c_rd_9, c_wr_9, bI_rI, bL_rL, bA_rA, bV_rV, bI_th, bL_th, bA_th, bV_th, rZ_0, rZ_1]
        rfl
      · obtain ⟨G1, r1, h1, s1⟩ := r_list1 h hL
        obtain ⟨G2, r2, h2, s2⟩ := r_no1 (c := 1) h1 (by decide)
        refine ⟨G2, ?_, h2, (s1.trans s2).mono (by omega) (by omega)⟩
        unfold f_M_addAt
        rw [r1, gOb_of h1.2.2.1 rfl, s_len h1 hW.1 hv, bI_rI]
        rw [show f_M_isIn G1 i (nI 0) (nI (mLen (mSet A 0 0) p)) = rI 0 G1 from (s_isIn G1 (mLen A p) (by omega) _).2 hi, bI_rI, if_pos rfl, r2]
        rfl
  · refine Sim.no hR hI 1 (by decide) (by decide) ?_ (fun G D h => ?_)
    · unfold f_X_addAt
      simp only [x_needList_no hX (hI.w 0) hx, c_ob_0, c_fa_0_0, c_fa_0_1, c_fi_0_2, c_put_0_2, c_fi_0_3, c_put_0_3, c_fi_0_4, c_put_0_4, c_ob_1, c_fa_1_0, c_fa_1_1, c_fa_1_2, c_fa_1_3, c_fa_1_4, c_fa_1_5, c_fi_1_6, c_put_1_6, c_ob_2, c_fa_2_0, c_ob_4, c_fa_4_0, c_ob_6, c_fa_6_0, c_ob_8, c_fa_8_0, c_ob_10, c_fa_10_0, c_ob_12, c_fa_12_0, c_ob_14, c_fa_14_0, c_fa_14_1, c_fa_14_2, c_fa_14_3, c_fi_14_4, c_put_14_4, c_ob_15, c_fa_15_0, c_ob_17, c_fa_17_0, c_ob_19, c_fa_19_0, c_ob_21, c_fa_21_0, c_len_0, c_ld_0, c_st_0, c_rd_0, c_wr_0, c_len_1, c_ld_1, c_st_1, c_rd_1, c_wr_1, c_len_2, c_ld_2, c_st_2, c_rd_2, c_wr_2, c_len_3, c_ld_3, c_st_3, c_rd_3, c_wr_3, c_len_4, c_ld_4, c_st_4, c_rd_4, c_wr_4, c_len_5, c_ld_5, c_st_5, c_rd_5, c_wr_5, c_len_6, c_ld_6, c_st_6, c_rd_6, c_wr_6, c_len_7, c_ld_7, c_st_7, c_rd_7, c_wr_7, c_len_8, c_ld_8, c_st_8, c_rd_8, c_wr_8, c_len_9, c_ld_9, c_st_9, c_rd_9, c_wr_9, bI_rI, bL_rL, bA_rA, bV_rV, bI_th, bL_th, bA_th, bV_th, rZ_0, rZ_1]
      rfl
    · obtain ⟨G1, r1, h1, s1⟩ := r_list0 h hx
      refine ⟨G1, ?_, h1, s1⟩
      unfold f_M_addAt
      rw [r1]
      rfl
/-- one list comes into another, on both sides -/
theorem b_all (hR : CRep σ A) (hI : mInv m A) {p r s i q r2 s2 : Nat} (hv : mV A p) (hr : mRw A.2.1 zDp p = some (r, s)) (hq : mV A q) (hrq : mRw A.2.1 zDp q = some (r2, s2)) (hne : r ≠ r2) (hi : i ≤ mLen A p) (hl : (A.1 r).length + mLen A q ≤ 31) :
    ∃ σ', f_X_bringAll (cPut b σ H) b (nI p) (nI i) (nI q) = rI (nI (mLen A q)) (cPut b σ' H) ∧ f_I_lengthOf (cPut b σ' H) (b + 1) (nI p) = rI (nI (mLen A p + mLen A q)) (cPut b σ' H) ∧
      ∀ (G : gH) (D : mD), MS w o G (mSet A 0 0) D → ∃ (G' : gH) (A' : mS) (D' : mD), f_M_bring w G o (nI p) (nI i) (nI q) = rI (nI (mLen A q)) G' ∧ MS w o G' A' D' ∧ f_M_length G' o (nI p) = rI (nI (mLen A p + mLen A q)) G' ∧ CRep σ' A' ∧ mInv m A' ∧ A'.2.2.2 0 = 0 ∧ mSt 36 1974 G G' := by
  have hr1 := mRw_lt _ _ _ _ hr
  have hr2 := mRw_lt _ _ _ _ hrq
  have hX : CRepx (-1) σ (mSet A 0 0) := (CRepx.of (exc := -1) hR).thr 0
  have hIt : mInv m (mSet A 0 0) := hI.thr 0
  have hW := hIt.w p
  have hfitq := hW.2.1.rw _ _ _ _ hrq
  have hM : (sSeg A r2 s2 (mLen A q)).length = mLen A q := sSeg_len hfitq
  obtain ⟨σ', y1, y2⟩ := x_bringAll (b := b) (G := H) hX hW hv hr hq hrq hne hi hl
  obtain ⟨c1, c2, c3, c4, c5⟩ := mChg_all (z := (mLen A q : Int)) (ts := sIns (A.1 r) (sSeg A r2 s2 (mLen A q)) (s + i)) hIt hv hr (by rw [sIns_len, hM]; show ((A.1 r).length + mLen A q : Nat) = ((A.1 r).length : Int) + _; omega) (by rw [sIns_len, hM]; exact hl) (by omega) (fun z => by
    have : mLen A q = 0 := by omega
    rw [this]
    show sIns (A.1 r) (((A.1 r2).drop s2).take 0) (s + i) = _
    rw [List.take_zero]; exact sIns_nil) (fun t ht => by
    rcases sIns_mem ht with u | u
    · exact (hI.2.2.1 r hr1).2 t u
    · exact (hI.2.2.1 r2 hr2).2 t (sSeg_mem u))
  have e1 : ((mLen (mSet A 0 0) p : Int) + (mLen A q : Int)).toNat = mLen A p + mLen A q := by show ((mLen A p : Int) + (mLen A q : Int)).toNat = _; omega
  rw [e1] at c3
  refine ⟨σ', y1, ?_, fun G D h => ?_⟩
  · rw [x_len y2 c1.1 c2]
    exact congrArg (fun n => rI (nI n) (cPut b σ' H)) c3
  · obtain ⟨G', D', r1, h1, s1⟩ := s_bring (p := p) (i := i) (q := q) h hIt hv hr hq hrq hne hi hl
    refine ⟨G', _, D', r1, h1, ?_, y2, c1, c5 0 (by omega) (by omega), s1⟩
    rw [s_len h1 c1.1 c2]
    exact congrArg (fun n => rI (nI n) G') c3
end Put
section Two
variable {w : Nat → Nat} {G : gH} {o : Nat} {A : mS} {D : mD}
/-- isNoList x || isNoList y, in front of start: all is well, or the first refusal -/
theorem r_two1 (h : MS w o G A D) {x y : Int32} (hx : mIsL A x) (hy : mIsL A y) : ∃ G', (∀ X Y Z : gH → gR, (gOb G o 6 fun o2 => bI (f_M_isNoList G o x) fun v5 G4 => if v5 = 0 then (gOb G4 o 6 fun o7 => bI (f_M_isNoList G4 o y) fun v10 G9 => if v10 = 0 then (gOb G9 o 6 fun o12 => bI (f_M_start G9 o (nI 0) (nI 1)) fun v15 G14 => X G14 ) else Y G9) else Z G4) = X G') ∧ MS w o G' (mSet A 0 0) D ∧ mSt 0 0 G G' := by
  obtain ⟨G', a1, a2, a3⟩ := s_go h
  refine ⟨G', fun X Y Z => ?_, a2, a3⟩
  rw [gOb_of h.2.2.1 rfl, (s_noList h x).1 hx, bI_rI, if_pos rfl, gOb_of h.2.2.1 rfl, (s_noList h y).1 hy, bI_rI, if_pos rfl, gOb_of h.2.2.1 rfl, a1, bI_rI]
end Two
end
section
-- calls over two lists
theorem sLeft_t {L : List (Nat × Nat × Nat)} {s len : Nat} {g : Nat → Bool} {t : Nat × Nat × Nat} (h : t ∈ sLeft g L s len) : t ∈ L := by
  unfold sLeft at h
  rcases List.mem_append.mp h with q | q
  · exact List.mem_of_mem_take q
  · exact List.mem_of_mem_drop (sSw_mem q)
theorem sSw_t : ∀ (n : Nat) (l : List (Nat × Nat × Nat)), (sSw (fun _ => true) n l).length = l.length - n
  | 0, l => rfl
  | n + 1, [] => by unfold sSw; simp
  | n + 1, t :: l => by
    unfold sSw
    rw [if_pos rfl, sSw_t n l]
    simp
theorem sLeft_true {L : List (Nat × Nat × Nat)} {s len : Nat} (h : s + len ≤ L.length) : (sLeft (fun _ => true) L s len).length = L.length - len := by
  unfold sLeft
  rw [List.length_append, sSw_t, List.length_take, List.length_drop]
  omega
section Two
variable {w : Nat → Nat} {b o m : Nat} {A : mS} {σ : cS} {H : gH}
theorem sim_addAll (hR : CRep σ A) (hI : mInv m A) (x i y : Int32) : SimOp w b o A m σ H xIS (f_X_addAll (cPut b σ H) b x i y) (fun G => f_M_addAll w G o x i y) := by
  have hX := CRepx.of (exc := -1) hR
  by_cases hx : mIsL A x
  · have hL := hx
    obtain ⟨p, hp, rfl, hv⟩ := hx
    have hv : mV A p := hv
    obtain ⟨r, s, hr, hr2, hfit, h31, hp6, hro⟩ := hI.pl hv
    have hW := hI.w p
    by_cases hy : mIsL A y
    · have hY := hy
      obtain ⟨q, hq, rfl, hqv⟩ := hy
      have hqv : mV A q := hqv
      obtain ⟨r', s', hr', hr2', hfit', h31', hp6', hro'⟩ := hI.pl hqv
      by_cases hi : mIsG (mLen A p) i
      · have hi' := hi
        obtain ⟨i, hip, rfl⟩ := hi
        have hin : ∀ G1 : gH, f_M_isIn G1 (nI i) (nI 0) (nI (mLen (mSet A 0 0) p)) = rI 1 G1 := fun G1 => (s_isIn G1 (mLen A p) (by omega) _).1 hi'
        by_cases he : r = r'
        · subst he
          refine Sim.no hR hI 2 (by decide) (by decide) ?_ (fun G D h => ?_)
          · unfold f_X_addAll
            simp only [x_needList hX hW hL, x_needList hX hW hY, (x_needGap hX hW.1 hv (show mLen A p < 100 by omega)).1 hi', (x_needOther hX hW.1 hv hr hqv hr').2 rfl, c_ob_0, c_fa_0_0, c_fa_0_1, c_fi_0_2, c_put_0_2, c_fi_0_3, c_put_0_3, c_fi_0_4, c_put_0_4, c_ob_1, c_fa_1_0, c_fa_1_1, c_fa_1_2, c_fa_1_3, c_fa_1_4, c_fa_1_5, c_fi_1_6, c_put_1_6, c_ob_2, c_fa_2_0, c_ob_4, c_fa_4_0, c_ob_6, c_fa_6_0, c_ob_8, c_fa_8_0, c_ob_10, c_fa_10_0, c_ob_12, c_fa_12_0, c_ob_14, c_fa_14_0, c_fa_14_1, c_fa_14_2, c_fa_14_3, c_fi_14_4, c_put_14_4, c_ob_15, c_fa_15_0, c_ob_17, c_fa_17_0, c_ob_19, c_fa_19_0, c_ob_21, c_fa_21_0, c_len_0, c_ld_0, c_st_0, c_rd_0, c_wr_0, c_len_1, c_ld_1, c_st_1, c_rd_1, c_wr_1, c_len_2, c_ld_2, c_st_2, c_rd_2, c_wr_2, c_len_3, c_ld_3, c_st_3, c_rd_3, c_wr_3, c_len_4, c_ld_4, c_st_4, c_rd_4, c_wr_4, c_len_5, c_ld_5, c_st_5, c_rd_5, c_wr_5, c_len_6, c_ld_6, c_st_6, c_rd_6, c_wr_6, c_len_7, c_ld_7, c_st_7, c_rd_7, c_wr_7, c_len_8, c_ld_8, c_st_8, c_rd_8, c_wr_8, c_len_9, c_ld_9, c_st_9, c_rd_9, c_wr_9, bI_rI, bL_rL, bA_rA, bV_rV, bI_th, bL_th, bA_th, bV_th, rZ_0, rZ_1]
            rfl
          · obtain ⟨G1, r1, h1, s1⟩ := s_go h
            obtain ⟨G2, r2, h2, s2⟩ := r_no1 (c := 2) h1 (by decide)
            refine ⟨G2, ?_, h2, (s1.trans s2).mono (by omega) (by omega)⟩
            unfold f_M_addAll
            rw [gOb_of h.2.2.1 rfl, (s_noList h _).1 hL, bI_rI, if_pos rfl, gOb_of h.2.2.1 rfl, (s_noList h _).1 hY, bI_rI, if_pos rfl, gOb_of h.2.2.1 rfl, r1, bI_rI, if_pos rfl, gOb_of h1.2.2.1 rfl, s_len h1 hW.1 hv, bI_rI]
            rw [hin, bI_rI, if_neg (by decide), r_ref0 h1 rfl, gOb_of h1.2.2.1 rfl, s_rowOf h1 hW.1 hv hr, bI_rI, gOb_of h1.2.2.1 rfl, s_rowOf h1 hW.1 hqv hr', bI_rI, if_pos rfl, r2]
            rfl
        · have hne : ¬ nI r = nI r' := fun z => he (nI_eq31 (by omega) (by omega) z)
          by_cases hf : (A.1 r).length + mLen A q ≤ 31
          · obtain ⟨σ', y1, y2, yR⟩ := b_all (w := w) (b := b) (o := o) (H := H) hR hI hv hr hqv hr' he hip hf
            refine Sim.yes (nI (mLen A q)) σ' ?_ (fun G D h => ?_)
            · unfold f_X_addAll
              simp only [x_needList hX hW hL, x_needList hX hW hY, (x_needGap hX hW.1 hv (show mLen A p < 100 by omega)).1 hi', (x_needOther hX hW.1 hv hr hqv hr').1 he, x_len hX hW.1 hqv, (x_needRoom (n := mLen A q) hX hW.1 hv hr h31 (by omega)).1 hf, y1, c_ob_0, c_fa_0_0, c_fa_0_1, c_fi_0_2, c_put_0_2, c_fi_0_3, c_put_0_3, c_fi_0_4, c_put_0_4, c_ob_1, c_fa_1_0, c_fa_1_1, c_fa_1_2, c_fa_1_3, c_fa_1_4, c_fa_1_5, c_fi_1_6, c_put_1_6, c_ob_2, c_fa_2_0, c_ob_4, c_fa_4_0, c_ob_6, c_fa_6_0, c_ob_8, c_fa_8_0, c_ob_10, c_fa_10_0, c_ob_12, c_fa_12_0, c_ob_14, c_fa_14_0, c_fa_14_1, c_fa_14_2, c_fa_14_3, c_fi_14_4, c_put_14_4, c_ob_15, c_fa_15_0, c_ob_17, c_fa_17_0, c_ob_19, c_fa_19_0, c_ob_21, c_fa_21_0, c_len_0, c_ld_0, c_st_0, c_rd_0, c_wr_0, c_len_1, c_ld_1, c_st_1, c_rd_1, c_wr_1, c_len_2, c_ld_2, c_st_2, c_rd_2, c_wr_2, c_len_3, c_ld_3, c_st_3, c_rd_3, c_wr_3, c_len_4, c_ld_4, c_st_4, c_rd_4, c_wr_4, c_len_5, c_ld_5, c_st_5, c_rd_5, c_wr_5, c_len_6, c_ld_6, c_st_6, c_rd_6, c_wr_6, c_len_7, c_ld_7, c_st_7, c_rd_7, c_wr_7, c_len_8, c_ld_8, c_st_8, c_rd_8, c_wr_8, c_len_9, c_ld_9, c_st_9, c_rd_9, c_wr_9, bI_rI, bL_rL, bA_rA, bV_rV, bI_th, bL_th, bA_th, bV_th, rZ_0, rZ_1]
            · obtain ⟨G1, r1, h1, s1⟩ := s_go h
              obtain ⟨G2, A', D', r2, h2, -, c1, c2, c3, s2⟩ := yR G1 D h1
              refine ⟨A', D', G2, m, ?_, h2, c1, c2, Nat.le_succ m, c3, (s1.trans s2).mono (by omega) (by omega)⟩
              unfold f_M_addAll
              rw [gOb_of h.2.2.1 rfl, (s_noList h _).1 hL, bI_rI, if_pos rfl, gOb_of h.2.2.1 rfl, (s_noList h _).1 hY, bI_rI, if_pos rfl, gOb_of h.2.2.1 rfl, r1, bI_rI, if_pos rfl, gOb_of h1.2.2.1 rfl, s_len h1 hW.1 hv, bI_rI]
              rw [hin, bI_rI, if_neg (by decide), r_ref0 h1 rfl, gOb_of h1.2.2.1 rfl, s_rowOf h1 hW.1 hv hr, bI_rI, gOb_of h1.2.2.1 rfl, s_rowOf h1 hW.1 hqv hr', bI_rI, if_neg hne, gOb_of h1.2.2.1 rfl, s_len h1 hW.1 hqv, bI_rI, gOb_of h1.2.2.1 rfl, (s_isFull (n := mLen (mSet A 0 0) q) h1 hW.1 hv hr (by show mLen A q < 100; omega)).1 hf, bI_rI, if_pos rfl, r_ref0 h1 rfl, gOb_of h1.2.2.1 rfl, r2, bI_rI]
          · refine Sim.no hR hI 2 (by decide) (by decide) ?_ (fun G D h => ?_)
            · unfold f_X_addAll
              simp only [x_needList hX hW hL, x_needList hX hW hY, (x_needGap hX hW.1 hv (show mLen A p < 100 by omega)).1 hi', (x_needOther hX hW.1 hv hr hqv hr').1 he, x_len hX hW.1 hqv, (x_needRoom (n := mLen A q) hX hW.1 hv hr h31 (by omega)).2 (by omega), c_ob_0, c_fa_0_0, c_fa_0_1, c_fi_0_2, c_put_0_2, c_fi_0_3, c_put_0_3, c_fi_0_4, c_put_0_4, c_ob_1, c_fa_1_0, c_fa_1_1, c_fa_1_2, c_fa_1_3, c_fa_1_4, c_fa_1_5, c_fi_1_6, c_put_1_6, c_ob_2, c_fa_2_0, c_ob_4, c_fa_4_0, c_ob_6, c_fa_6_0, c_ob_8, c_fa_8_0, c_ob_10, c_fa_10_0, c_ob_12, c_fa_12_0, c_ob_14, c_fa_14_0, c_fa_14_1, c_fa_14_2, c_fa_14_3, c_fi_14_4, c_put_14_4, c_ob_15, c_fa_15_0, c_ob_17, c_fa_17_0, c_ob_19, c_fa_19_0, c_ob_21, c_fa_21_0, c_len_0, c_ld_0, c_st_0, c_rd_0, c_wr_0, c_len_1, c_ld_1, c_st_1, c_rd_1, c_wr_1, c_len_2, c_ld_2, c_st_2, c_rd_2, c_wr_2, c_len_3, c_ld_3, c_st_3, c_rd_3, c_wr_3, c_len_4, c_ld_4, c_st_4, c_rd_4, c_wr_4, c_len_5, c_ld_5, c_st_5, c_rd_5, c_wr_5, c_len_6, c_ld_6, c_st_6, c_rd_6, c_wr_6, c_len_7, c_ld_7, c_st_7, c_rd_7, c_wr_7, c_len_8, c_ld_8, c_st_8, c_rd_8, c_wr_8, c_len_9, c_ld_9, c_st_9, c_rd_9, c_wr_9, bI_rI, bL_rL, bA_rA, bV_rV, bI_th, bL_th, bA_th, bV_th, rZ_0, rZ_1]
              rfl
            · obtain ⟨G1, r1, h1, s1⟩ := s_go h
              obtain ⟨G2, r2, h2, s2⟩ := r_no1 (c := 2) h1 (by decide)
              refine ⟨G2, ?_, h2, (s1.trans s2).mono (by omega) (by omega)⟩
              unfold f_M_addAll
              rw [gOb_of h.2.2.1 rfl, (s_noList h _).1 hL, bI_rI, if_pos rfl, gOb_of h.2.2.1 rfl, (s_noList h _).1 hY, bI_rI, if_pos rfl, gOb_of h.2.2.1 rfl, r1, bI_rI, if_pos rfl, gOb_of h1.2.2.1 rfl, s_len h1 hW.1 hv, bI_rI]
              rw [hin, bI_rI, if_neg (by decide), r_ref0 h1 rfl, gOb_of h1.2.2.1 rfl, s_rowOf h1 hW.1 hv hr, bI_rI, gOb_of h1.2.2.1 rfl, s_rowOf h1 hW.1 hqv hr', bI_rI, if_neg hne, gOb_of h1.2.2.1 rfl, s_len h1 hW.1 hqv, bI_rI, gOb_of h1.2.2.1 rfl, (s_isFull (n := mLen (mSet A 0 0) q) h1 hW.1 hv hr (by show mLen A q < 100; omega)).2 (by show 31 < (A.1 r).length + mLen A q; omega), bI_rI, if_neg (by decide), r2]
              rfl
      · refine Sim.no hR hI 1 (by decide) (by decide) ?_ (fun G D h => ?_)
        · unfold f_X_addAll
          simp only [x_needList hX hW hL, x_needList hX hW hY, (x_needGap hX hW.1 hv (show mLen A p < 100 by omega)).2 hi, c_ob_0, c_fa_0_0, c_fa_0_1, c_fi_0_2, c_put_0_2, c_fi_0_3, c_put_0_3, c_fi_0_4, c_put_0_4, c_ob_1, c_fa_1_0, c_fa_1_1, c_fa_1_2, c_fa_1_3, c_fa_1_4, c_fa_1_5, c_fi_1_6, c_put_1_6, c_ob_2, c_fa_2_0, c_ob_4, c_fa_4_0, c_ob_6, c_fa_6_0, c_ob_8, c_fa_8_0, c_ob_10, c_fa_10_0, c_ob_12, c_fa_12_0, c_ob_14, c_fa_14_0, c_fa_14_1, c_fa_14_2, c_fa_14_3, c_fi_14_4, c_put_14_4, c_ob_15, c_fa_15_0, c_ob_17, c_fa_17_0, c_ob_19, c_fa_19_0, c_ob_21, c_fa_21_0, c_len_0, c_ld_0, c_st_0, c_rd_0, c_wr_0, c_len_1, c_ld_1, c_st_1, c_rd_1, c_wr_1, c_len_2, c_ld_2, c_st_2, c_rd_2, c_wr_2, c_len_3, c_ld_3, c_st_3, c_rd_3, c_wr_3, c_len_4, c_ld_4, c_st_4, c_rd_4, c_wr_4, c_len_5, c_ld_5, c_st_5, c_rd_5, c_wr_5, c_len_6, c_ld_6, c_st_6, c_rd_6, c_wr_6, c_len_7, c_ld_7, c_st_7, c_rd_7, c_wr_7, c_len_8, c_ld_8, c_st_8, c_rd_8, c_wr_8, c_len_9, c_ld_9, c_st_9, c_rd_9, c_wr_9, bI_rI, bL_rL, bA_rA, bV_rV, bI_th, bL_th, bA_th, bV_th, rZ_0, rZ_1]
          rfl
        · obtain ⟨G1, r1, h1, s1⟩ := s_go h
          obtain ⟨G2, r2, h2, s2⟩ := r_no1 (c := 1) h1 (by decide)
          refine ⟨G2, ?_, h2, (s1.trans s2).mono (by omega) (by omega)⟩
          unfold f_M_addAll
          rw [gOb_of h.2.2.1 rfl, (s_noList h _).1 hL, bI_rI, if_pos rfl, gOb_of h.2.2.1 rfl, (s_noList h _).1 hY, bI_rI, if_pos rfl, gOb_of h.2.2.1 rfl, r1, bI_rI, if_pos rfl, gOb_of h1.2.2.1 rfl, s_len h1 hW.1 hv, bI_rI]
          rw [show f_M_isIn G1 i (nI 0) (nI (mLen (mSet A 0 0) p)) = rI 0 G1 from (s_isIn G1 (mLen A p) (by omega) _).2 hi, bI_rI, if_pos rfl, r2]
          rfl
    · refine Sim.no hR hI 1 (by decide) (by decide) ?_ (fun G D h => ?_)
      · unfold f_X_addAll
        simp only [x_needList hX hW hL, x_needList_no hX hW hy, c_ob_0, c_fa_0_0, c_fa_0_1, c_fi_0_2, c_put_0_2, c_fi_0_3, c_put_0_3, c_fi_0_4, c_put_0_4, c_ob_1, c_fa_1_0, c_fa_1_1, c_fa_1_2, c_fa_1_3, c_fa_1_4, c_fa_1_5, c_fi_1_6, c_put_1_6, c_ob_2, c_fa_2_0, c_ob_4, c_fa_4_0, c_ob_6, c_fa_6_0, c_ob_8, c_fa_8_0, c_ob_10, c_fa_10_0, c_ob_12, c_fa_12_0, c_ob_14, c_fa_14_0, c_fa_14_1, c_fa_14_2, c_fa_14_3, c_fi_14_4, c_put_14_4, c_ob_15, c_fa_15_0, c_ob_17, c_fa_17_0, c_ob_19, c_fa_19_0, c_ob_21, c_fa_21_0, c_len_0, c_ld_0, c_st_0, c_rd_0, c_wr_0, c_len_1, c_ld_1, c_st_1, c_rd_1, c_wr_1, c_len_2, c_ld_2, c_st_2, c_rd_2, c_wr_2, c_len_3, c_ld_3, c_st_3, c_rd_3, c_wr_3, c_len_4, c_ld_4, c_st_4, c_rd_4, c_wr_4, c_len_5, c_ld_5, c_st_5, c_rd_5, c_wr_5, c_len_6, c_ld_6, c_st_6, c_rd_6, c_wr_6, c_len_7, c_ld_7, c_st_7, c_rd_7, c_wr_7, c_len_8, c_ld_8, c_st_8, c_rd_8, c_wr_8, c_len_9, c_ld_9, c_st_9, c_rd_9, c_wr_9, bI_rI, bL_rL, bA_rA, bV_rV, bI_th, bL_th, bA_th, bV_th, rZ_0, rZ_1]
        rfl
      · obtain ⟨G1, r1, h1, s1⟩ := s_halt1 h
        refine ⟨G1, ?_, h1, s1⟩
        unfold f_M_addAll
        rw [gOb_of h.2.2.1 rfl, (s_noList h _).1 hL, bI_rI, if_pos rfl, gOb_of h.2.2.1 rfl, (s_noList h _).2 hy, bI_rI, if_neg (by decide), gOb_of h.2.2.1 rfl, r1, bI_rI, if_neg (by decide)]
        rfl
  · refine Sim.no hR hI 1 (by decide) (by decide) ?_ (fun G D h => ?_)
    · unfold f_X_addAll
      simp only [x_needList_no hX (hI.w 0) hx, c_ob_0, c_fa_0_0, c_fa_0_1, c_fi_0_2, c_put_0_2, c_fi_0_3, c_put_0_3, c_fi_0_4, c_put_0_4, c_ob_1, c_fa_1_0, c_fa_1_1, c_fa_1_2, c_fa_1_3, c_fa_1_4, c_fa_1_5, c_fi_1_6, c_put_1_6, c_ob_2, c_fa_2_0, c_ob_4, c_fa_4_0, c_ob_6, c_fa_6_0, c_ob_8, c_fa_8_0, c_ob_10, c_fa_10_0, c_ob_12, c_fa_12_0, c_ob_14, c_fa_14_0, c_fa_14_1, c_fa_14_2, c_fa_14_3, c_fi_14_4, c_put_14_4, c_ob_15, c_fa_15_0, c_ob_17, c_fa_17_0, c_ob_19, c_fa_19_0, c_ob_21, c_fa_21_0, c_len_0, c_ld_0, c_st_0, c_rd_0, c_wr_0, c_len_1, c_ld_1, c_st_1, c_rd_1, c_wr_1, c_len_2, c_ld_2, c_st_2, c_rd_2, c_wr_2, c_len_3, c_ld_3, c_st_3, c_rd_3, c_wr_3, c_len_4, c_ld_4, c_st_4, c_rd_4, c_wr_4, c_len_5, c_ld_5, c_st_5, c_rd_5, c_wr_5, c_len_6, c_ld_6, c_st_6, c_rd_6, c_wr_6, c_len_7, c_ld_7, c_st_7, c_rd_7, c_wr_7, c_len_8, c_ld_8, c_st_8, c_rd_8, c_wr_8, c_len_9, c_ld_9, c_st_9, c_rd_9, c_wr_9, bI_rI, bL_rL, bA_rA, bV_rV, bI_th, bL_th, bA_th, bV_th, rZ_0, rZ_1]
      rfl
    · obtain ⟨G1, r1, h1, s1⟩ := s_halt1 h
      refine ⟨G1, ?_, h1, s1⟩
      unfold f_M_addAll
      rw [gOb_of h.2.2.1 rfl, (s_noList h _).2 hx, bI_rI, if_neg (by decide), gOb_of h.2.2.1 rfl, r1, bI_rI, if_neg (by decide)]
      rfl
theorem sim_append (hR : CRep σ A) (hI : mInv m A) (x y : Int32) : SimOp w b o A m σ H xIS (f_X_append (cPut b σ H) b x y) (fun G => f_M_append w G o x y) := by
  have hX := CRepx.of (exc := -1) hR
  by_cases hx : mIsL A x
  · have hL := hx
    obtain ⟨p, hp, rfl, hv⟩ := hx
    have hv : mV A p := hv
    obtain ⟨r, s, hr, hr2, hfit, h31, hp6, hro⟩ := hI.pl hv
    have hW := hI.w p
    by_cases hy : mIsL A y
    · have hY := hy
      obtain ⟨q, hq, rfl, hqv⟩ := hy
      have hqv : mV A q := hqv
      obtain ⟨r', s', hr', hr2', hfit', h31', hp6', hro'⟩ := hI.pl hqv
      by_cases he : r = r'
      · subst he
        refine Sim.no hR hI 2 (by decide) (by decide) ?_ (fun G D h => ?_)
        · unfold f_X_append
          simp only [x_needList hX hW hL, x_needList hX hW hY, (x_needOther hX hW.1 hv hr hqv hr').2 rfl, c_ob_0, c_fa_0_0, c_fa_0_1, c_fi_0_2, c_put_0_2, c_fi_0_3, c_put_0_3, c_fi_0_4, c_put_0_4, c_ob_1, c_fa_1_0, c_fa_1_1, c_fa_1_2, c_fa_1_3, c_fa_1_4, c_fa_1_5, c_fi_1_6, c_put_1_6, c_ob_2, c_fa_2_0, c_ob_4, c_fa_4_0, c_ob_6, c_fa_6_0, c_ob_8, c_fa_8_0, c_ob_10, c_fa_10_0, c_ob_12, c_fa_12_0, c_ob_14, c_fa_14_0, c_fa_14_1, c_fa_14_2, c_fa_14_3, c_fi_14_4, c_put_14_4, c_ob_15, c_fa_15_0, c_ob_17, c_fa_17_0, c_ob_19, c_fa_19_0, c_ob_21, c_fa_21_0, c_len_0, c_ld_0, c_st_0, c_rd_0, c_wr_0, c_len_1, c_ld_1, c_st_1, c_rd_1, c_wr_1, c_len_2, c_ld_2, c_st_2, c_rd_2, c_wr_2, c_len_3, c_ld_3, c_st_3, c_rd_3, c_wr_3, c_len_4, c_ld_4, c_st_4, c_rd_4, c_wr_4, c_len_5, c_ld_5, c_st_5, c_rd_5, c_wr_5, c_len_6, c_ld_6, c_st_6, c_rd_6, c_wr_6, c_len_7, c_ld_7, c_st_7, c_rd_7, c_wr_7, c_len_8, c_ld_8, c_st_8, c_rd_8, c_wr_8, c_len_9, c_ld_9, c_st_9, c_rd_9, c_wr_9, bI_rI, bL_rL, bA_rA, bV_rV, bI_th, bL_th, bA_th, bV_th, rZ_0, rZ_1]
          rfl
        · obtain ⟨G1, r1, h1, s1⟩ := s_go h
          obtain ⟨G2, r2, h2, s2⟩ := r_no1 (c := 2) h1 (by decide)
          refine ⟨G2, ?_, h2, (s1.trans s2).mono (by omega) (by omega)⟩
          unfold f_M_append
          rw [gOb_of h.2.2.1 rfl, (s_noList h _).1 hL, bI_rI, if_pos rfl, gOb_of h.2.2.1 rfl, (s_noList h _).1 hY, bI_rI, if_pos rfl, gOb_of h.2.2.1 rfl, r1, bI_rI, if_pos rfl, gOb_of h1.2.2.1 rfl, s_rowOf h1 hW.1 hv hr, bI_rI, gOb_of h1.2.2.1 rfl, s_rowOf h1 hW.1 hqv hr', bI_rI, if_pos rfl, r2]
          rfl
      · have hne : ¬ nI r = nI r' := fun z => he (nI_eq31 (by omega) (by omega) z)
        by_cases hf : (A.1 r).length + mLen A q ≤ 31
        · obtain ⟨σ', y1, y2, yR⟩ := b_all (w := w) (b := b) (o := o) (H := H) hR hI hv hr hqv hr' he (Nat.le_refl _) hf
          refine Sim.yes (nI (mLen A p + mLen A q)) σ' ?_ (fun G D h => ?_)
          · unfold f_X_append
            simp only [x_needList hX hW hL, x_needList hX hW hY, (x_needOther hX hW.1 hv hr hqv hr').1 he, x_len hX hW.1 hqv, x_len hX hW.1 hv, (x_needRoom (n := mLen A q) hX hW.1 hv hr h31 (by omega)).1 hf, y1, y2, c_ob_0, c_fa_0_0, c_fa_0_1, c_fi_0_2, c_put_0_2, c_fi_0_3, c_put_0_3, c_fi_0_4, c_put_0_4, c_ob_1, c_fa_1_0, c_fa_1_1, c_fa_1_2, c_fa_1_3, c_fa_1_4, c_fa_1_5, c_fi_1_6, c_put_1_6, c_ob_2, c_fa_2_0, c_ob_4, c_fa_4_0, c_ob_6, c_fa_6_0, c_ob_8, c_fa_8_0, c_ob_10, c_fa_10_0, c_ob_12, c_fa_12_0, c_ob_14, c_fa_14_0, c_fa_14_1, c_fa_14_2, c_fa_14_3, c_fi_14_4, c_put_14_4, c_ob_15, c_fa_15_0, c_ob_17, c_fa_17_0, c_ob_19, c_fa_19_0, c_ob_21, c_fa_21_0, c_len_0, c_ld_0, c_st_0, c_rd_0, c_wr_0, c_len_1, c_ld_1, c_st_1, c_rd_1, c_wr_1, c_len_2, c_ld_2, c_st_2, c_rd_2, c_wr_2, c_len_3, c_ld_3, c_st_3, c_rd_3, c_wr_3, c_len_4, c_ld_4, c_st_4, c_rd_4, c_wr_4, c_len_5, c_ld_5, c_st_5, c_rd_5, c_wr_5, c_len_6, c_ld_6, c_st_6, c_rd_6, c_wr_6, c_len_7, c_ld_7, c_st_7, c_rd_7, c_wr_7, c_len_8, c_ld_8, c_st_8, c_rd_8, c_wr_8, c_len_9, c_ld_9, c_st_9, c_rd_9, c_wr_9, bI_rI, bL_rL, bA_rA, bV_rV, bI_th, bL_th, bA_th, bV_th, rZ_0, rZ_1]
          · obtain ⟨G1, r1, h1, s1⟩ := s_go h
            obtain ⟨G2, A', D', r2, h2, r3, c1, c2, c3, s2⟩ := yR G1 D h1
            refine ⟨A', D', G2, m, ?_, h2, c1, c2, Nat.le_succ m, c3, (s1.trans s2).mono (by omega) (by omega)⟩
            unfold f_M_append
            rw [gOb_of h.2.2.1 rfl, (s_noList h _).1 hL, bI_rI, if_pos rfl, gOb_of h.2.2.1 rfl, (s_noList h _).1 hY, bI_rI, if_pos rfl, gOb_of h.2.2.1 rfl, r1, bI_rI, if_pos rfl, gOb_of h1.2.2.1 rfl, s_rowOf h1 hW.1 hv hr, bI_rI, gOb_of h1.2.2.1 rfl, s_rowOf h1 hW.1 hqv hr', bI_rI, if_neg hne, gOb_of h1.2.2.1 rfl, s_len h1 hW.1 hqv, bI_rI, gOb_of h1.2.2.1 rfl, (s_isFull (n := mLen (mSet A 0 0) q) h1 hW.1 hv hr (by show mLen A q < 100; omega)).1 hf, bI_rI, if_pos rfl, r_ref0 h1 rfl, gOb_of h1.2.2.1 rfl, s_len h1 hW.1 hv, bI_rI, gOb_of h1.2.2.1 rfl]
            rw [show f_M_bring w G1 o (nI p) (nI (mLen (mSet A 0 0) p)) (nI q) = _ from r2, bI_rI, gOb_of h2.2.2.1 rfl, r3, bI_rI]
        · refine Sim.no hR hI 2 (by decide) (by decide) ?_ (fun G D h => ?_)
          · unfold f_X_append
            simp only [x_needList hX hW hL, x_needList hX hW hY, (x_needOther hX hW.1 hv hr hqv hr').1 he, x_len hX hW.1 hqv, (x_needRoom (n := mLen A q) hX hW.1 hv hr h31 (by omega)).2 (by omega), c_ob_0, c_fa_0_0, c_fa_0_1, c_fi_0_2, c_put_0_2, c_fi_0_3, c_put_0_3, c_fi_0_4, c_put_0_4, c_ob_1, c_fa_1_0, c_fa_1_1, c_fa_1_2, c_fa_1_3, c_fa_1_4, c_fa_1_5, c_fi_1_6, c_put_1_6, c_ob_2, c_fa_2_0, c_ob_4, c_fa_4_0, c_ob_6, c_fa_6_0, c_ob_8, c_fa_8_0, c_ob_10, c_fa_10_0, c_ob_12, c_fa_12_0, c_ob_14, c_fa_14_0, c_fa_14_1, c_fa_14_2, c_fa_14_3, c_fi_14_4, c_put_14_4, c_ob_15, c_fa_15_0, c_ob_17, c_fa_17_0, c_ob_19, c_fa_19_0, c_ob_21, c_fa_21_0, c_len_0, c_ld_0, c_st_0, c_rd_0, c_wr_0, c_len_1, c_ld_1, c_st_1, c_rd_1, c_wr_1, c_len_2, c_ld_2, c_st_2, c_rd_2, c_wr_2, c_len_3, c_ld_3, c_st_3, c_rd_3, c_wr_3, c_len_4, c_ld_4, c_st_4, c_rd_4, c_wr_4, c_len_5, c_ld_5, c_st_5, c_rd_5, c_wr_5, c_len_6, c_ld_6, c_st_6, c_rd_6, c_wr_6, c_len_7, c_ld_7, c_st_7, c_rd_7, c_wr_7, c_len_8, c_ld_8, c_st_8, c_rd_8, c_wr_8, c_len_9, c_ld_9, c_st_9, c_rd_9, c_wr_9, bI_rI, bL_rL, bA_rA, bV_rV, bI_th, bL_th, bA_th, bV_th, rZ_0, rZ_1]
            rfl
          · obtain ⟨G1, r1, h1, s1⟩ := s_go h
            obtain ⟨G2, r2, h2, s2⟩ := r_no1 (c := 2) h1 (by decide)
            refine ⟨G2, ?_, h2, (s1.trans s2).mono (by omega) (by omega)⟩
            unfold f_M_append
            rw [gOb_of h.2.2.1 rfl, (s_noList h _).1 hL, bI_rI, if_pos rfl, gOb_of h.2.2.1 rfl, (s_noList h _).1 hY, bI_rI, if_pos rfl, gOb_of h.2.2.1 rfl, r1, bI_rI, if_pos rfl, gOb_of h1.2.2.1 rfl, s_rowOf h1 hW.1 hv hr, bI_rI, gOb_of h1.2.2.1 rfl, s_rowOf h1 hW.1 hqv hr', bI_rI, if_neg hne, gOb_of h1.2.2.1 rfl, s_len h1 hW.1 hqv, bI_rI, gOb_of h1.2.2.1 rfl, (s_isFull (n := mLen (mSet A 0 0) q) h1 hW.1 hv hr (by show mLen A q < 100; omega)).2 (by show 31 < (A.1 r).length + mLen A q; omega), bI_rI, if_neg (by decide), r2]
            rfl
    · refine Sim.no hR hI 1 (by decide) (by decide) ?_ (fun G D h => ?_)
      · unfold f_X_append
        simp only [x_needList hX hW hL, x_needList_no hX hW hy, c_ob_0, c_fa_0_0, c_fa_0_1, c_fi_0_2, c_put_0_2, c_fi_0_3, c_put_0_3, c_fi_0_4, c_put_0_4, c_ob_1, c_fa_1_0, c_fa_1_1, c_fa_1_2, c_fa_1_3, c_fa_1_4, c_fa_1_5, c_fi_1_6, c_put_1_6, c_ob_2, c_fa_2_0, c_ob_4, c_fa_4_0, c_ob_6, c_fa_6_0, c_ob_8, c_fa_8_0, c_ob_10, c_fa_10_0, c_ob_12, c_fa_12_0, c_ob_14, c_fa_14_0, c_fa_14_1, c_fa_14_2, c_fa_14_3, c_fi_14_4, c_put_14_4, c_ob_15, c_fa_15_0, c_ob_17, c_fa_17_0, c_ob_19, c_fa_19_0, c_ob_21, c_fa_21_0, c_len_0, c_ld_0, c_st_0, c_rd_0, c_wr_0, c_len_1, c_ld_1, c_st_1, c_rd_1, c_wr_1, c_len_2, c_ld_2, c_st_2, c_rd_2, c_wr_2, c_len_3, c_ld_3, c_st_3, c_rd_3, c_wr_3, c_len_4, c_ld_4, c_st_4, c_rd_4, c_wr_4, c_len_5, c_ld_5, c_st_5, c_rd_5, c_wr_5, c_len_6, c_ld_6, c_st_6, c_rd_6, c_wr_6, c_len_7, c_ld_7, c_st_7, c_rd_7, c_wr_7, c_len_8, c_ld_8, c_st_8, c_rd_8, c_wr_8, c_len_9, c_ld_9, c_st_9, c_rd_9, c_wr_9, bI_rI, bL_rL, bA_rA, bV_rV, bI_th, bL_th, bA_th, bV_th, rZ_0, rZ_1]
        rfl
      · obtain ⟨G1, r1, h1, s1⟩ := s_halt1 h
        refine ⟨G1, ?_, h1, s1⟩
        unfold f_M_append
        rw [gOb_of h.2.2.1 rfl, (s_noList h _).1 hL, bI_rI, if_pos rfl, gOb_of h.2.2.1 rfl, (s_noList h _).2 hy, bI_rI, if_neg (by decide), gOb_of h.2.2.1 rfl, r1, bI_rI, if_neg (by decide)]
        rfl
  · refine Sim.no hR hI 1 (by decide) (by decide) ?_ (fun G D h => ?_)
    · unfold f_X_append
      simp only [x_needList_no hX (hI.w 0) hx, c_ob_0, c_fa_0_0, c_fa_0_1, c_fi_0_2, c_put_0_2, c_fi_0_3, c_put_0_3, c_fi_0_4, c_put_0_4, c_ob_1, c_fa_1_0, c_fa_1_1, c_fa_1_2, c_fa_1_3, c_fa_1_4, c_fa_1_5, c_fi_1_6, c_put_1_6, c_ob_2, c_fa_2_0, c_ob_4, c_fa_4_0, c_ob_6, c_fa_6_0, c_ob_8, c_fa_8_0, c_ob_10, c_fa_10_0, c_ob_12, c_fa_12_0, c_ob_14, c_fa_14_0, c_fa_14_1, c_fa_14_2, c_fa_14_3, c_fi_14_4, c_put_14_4, c_ob_15, c_fa_15_0, c_ob_17, c_fa_17_0, c_ob_19, c_fa_19_0, c_ob_21, c_fa_21_0, c_len_0, c_ld_0, c_st_0, c_rd_0, c_wr_0, c_len_1, c_ld_1, c_st_1, c_rd_1, c_wr_1, c_len_2, c_ld_2, c_st_2, c_rd_2, c_wr_2, c_len_3, c_ld_3, c_st_3, c_rd_3, c_wr_3, c_len_4, c_ld_4, c_st_4, c_rd_4, c_wr_4, c_len_5, c_ld_5, c_st_5, c_rd_5, c_wr_5, c_len_6, c_ld_6, c_st_6, c_rd_6, c_wr_6, c_len_7, c_ld_7, c_st_7, c_rd_7, c_wr_7, c_len_8, c_ld_8, c_st_8, c_rd_8, c_wr_8, c_len_9, c_ld_9, c_st_9, c_rd_9, c_wr_9, bI_rI, bL_rL, bA_rA, bV_rV, bI_th, bL_th, bA_th, bV_th, rZ_0, rZ_1]
      rfl
    · obtain ⟨G1, r1, h1, s1⟩ := s_halt1 h
      refine ⟨G1, ?_, h1, s1⟩
      unfold f_M_append
      rw [gOb_of h.2.2.1 rfl, (s_noList h _).2 hx, bI_rI, if_neg (by decide), gOb_of h.2.2.1 rfl, r1, bI_rI, if_neg (by decide)]
      rfl
/-- all of some keys go, on both sides -/
theorem b_rm (hR : CRep σ A) (hI : mInv m A) {p r s : Nat} {goers : Int32} {g : Nat → Bool} (hv : mV A p) (hr : mRw A.2.1 zDp p = some (r, s)) (hg : gBit goers g) :
    ∃ σ', f_X_takeOutAll (cPut b σ H) b (nI p) goers = rI (nI ((A.1 r).length - (sLeft g (A.1 r) s (mLen A p)).length)) (cPut b σ' H) ∧ CRep σ' (mChange (mRows (mSet A 0 0) r (sLeft g (A.1 r) s (mLen A p))) p (((sLeft g (A.1 r) s (mLen A p)).length : Int) - ((A.1 r).length : Int)) (-1)) ∧
      mInv m (mChange (mRows (mSet A 0 0) r (sLeft g (A.1 r) s (mLen A p))) p (((sLeft g (A.1 r) s (mLen A p)).length : Int) - ((A.1 r).length : Int)) (-1)) ∧ (mChange (mRows (mSet A 0 0) r (sLeft g (A.1 r) s (mLen A p))) p (((sLeft g (A.1 r) s (mLen A p)).length : Int) - ((A.1 r).length : Int)) (-1)).2.2.2 0 = 0 := by
  have hr1 := mRw_lt _ _ _ _ hr
  have hX : CRepx (-1) σ (mSet A 0 0) := (CRepx.of (exc := -1) hR).thr 0
  have hIt : mInv m (mSet A 0 0) := hI.thr 0
  have hW := hIt.w p
  have hfit : s + mLen A p ≤ (A.1 r).length := hW.2.1.rw _ _ _ _ hr
  have h31 : (A.1 r).length ≤ 31 := hW.2.2.1 r hr1
  have hsl := sLeft_len g (A.1 r) hfit
  obtain ⟨σ', y1, y2⟩ := x_takeOutAll (b := b) (G := H) hX hW hv hr hg (fun t ht => ((hI.2.2.1 r hr1).2 t ht).1)
  obtain ⟨c1, -, -, -, c5⟩ := mChg_all (z := ((sLeft g (A.1 r) s (mLen A p)).length : Int) - ((A.1 r).length : Int)) (ts := sLeft g (A.1 r) s (mLen A p)) hIt hv hr (by show ((sLeft g (A.1 r) s (mLen A p)).length : Int) = ((A.1 r).length : Int) + _; omega) (by omega) (by show 0 ≤ (mLen A p : Int) + _; omega) (fun z => sLeft_all (by omega)) (fun t ht => (hI.2.2.1 r hr1).2 t (sLeft_t ht))
  exact ⟨σ', y1, y2, c1, c5 0 (by omega) (by omega)⟩
theorem s_areOne {G : gH} {D : mD} (h : MS w o G A D) (hI : mInv m A) {p r s q r' s' : Nat} (hv : mV A p) (hr : mRw A.2.1 zDp p = some (r, s)) (hqv : mV A q) (hr' : mRw A.2.1 zDp q = some (r', s')) (hL : mIsL A (nI p)) (hY : mIsL A (nI q)) :
    (r ≠ r' → ∃ G', f_M_areOne G o (nI p) (nI q) = rI 0 G' ∧ MS w o G' (mSet A 0 0) D ∧ mSt 0 0 G G') ∧ (r = r' → ∃ G', f_M_areOne G o (nI p) (nI q) = rI 1 G' ∧ MS w o G' (mSet A 0 (nI 2)) D ∧ mSt 0 0 G G') := by
  have hr1 := mRw_lt _ _ _ _ hr
  have hr2 := mRw_lt _ _ _ _ hr'
  obtain ⟨G1, r1, h1, s1⟩ := s_go h
  refine ⟨fun he => ?_, fun he => ?_⟩
  · have hne : ¬ nI r = nI r' := fun z => he (nI_eq31 (by omega) (by omega) z)
    refine ⟨G1, ?_, h1, s1⟩
    unfold f_M_areOne
    rw [gOb_of h.2.2.1 rfl, (s_noList h _).1 hL, bI_rI, if_pos rfl, gOb_of h.2.2.1 rfl, (s_noList h _).1 hY, bI_rI, if_pos rfl, gOb_of h.2.2.1 rfl, r1, bI_rI, if_pos rfl, gOb_of h1.2.2.1 rfl, s_rowOf h1 hI.1 hv hr, bI_rI, gOb_of h1.2.2.1 rfl, s_rowOf h1 hI.1 hqv hr', bI_rI, if_neg hne, r_ref0 h1 rfl, rZ_0]
  · obtain ⟨G2, r2, h2, s2⟩ := r_no1 (c := 2) h1 (by decide)
    refine ⟨G2, ?_, h2, (s1.trans s2).mono (by omega) (by omega)⟩
    unfold f_M_areOne
    rw [gOb_of h.2.2.1 rfl, (s_noList h _).1 hL, bI_rI, if_pos rfl, gOb_of h.2.2.1 rfl, (s_noList h _).1 hY, bI_rI, if_pos rfl, gOb_of h.2.2.1 rfl, r1, bI_rI, if_pos rfl, gOb_of h1.2.2.1 rfl, s_rowOf h1 hI.1 hv hr, bI_rI, gOb_of h1.2.2.1 rfl, s_rowOf h1 hI.1 hqv hr', bI_rI, if_pos (by rw [he]), r2, rZ_1]
theorem s_areOne_x {G : gH} {D : mD} (h : MS w o G A D) {x y : Int32} (hx : ¬ (mIsL A x ∧ mIsL A y)) : ∃ G', f_M_areOne G o x y = rI 1 G' ∧ MS w o G' (mSet A 0 (nI 1)) D ∧ mSt 0 0 G G' := by
  obtain ⟨G1, r1, h1, s1⟩ := s_halt1 h
  refine ⟨G1, ?_, h1, s1⟩
  unfold f_M_areOne
  by_cases h2 : mIsL A x
  · rw [gOb_of h.2.2.1 rfl, (s_noList h _).1 h2, bI_rI, if_pos rfl, gOb_of h.2.2.1 rfl, (s_noList h _).2 (fun k => hx ⟨h2, k⟩), bI_rI, if_neg (by decide), gOb_of h.2.2.1 rfl, r1, bI_rI, if_neg (by decide), rZ_1]
  · rw [gOb_of h.2.2.1 rfl, (s_noList h _).2 h2, bI_rI, if_neg (by decide), gOb_of h.2.2.1 rfl, r1, bI_rI, if_neg (by decide), rZ_1]
end Two
end
section
-- calls that take things out
section Rm
variable {w : Nat → Nat} {b o m : Nat} {A : mS} {σ : cS} {H : gH}
theorem mInv.kk (hI : mInv m A) {r : Nat} (hr : r < 2) : ∀ t, t ∈ A.1 r → t.2.1 < 31 := fun t ht => ((hI.2.2.1 r hr).2 t ht).1
theorem mB_1 : mB true = nI 1 := rfl
theorem mB_0 : mB false = nI 0 := rfl
theorem sim_removeAll (hR : CRep σ A) (hI : mInv m A) (x y : Int32) : SimOp w b o A m σ H xIS (f_X_removeAll (cPut b σ H) b x y) (fun G => f_M_removeAll G o x y) := by
  have hX := CRepx.of (exc := -1) hR
  by_cases hx : mIsL A x
  · have hL := hx
    obtain ⟨p, hp, rfl, hv⟩ := hx
    have hv : mV A p := hv
    obtain ⟨r, s, hr, hr2, hfit, h31, hp6, hro⟩ := hI.pl hv
    have hW := hI.w p
    by_cases hy : mIsL A y
    · have hY := hy
      obtain ⟨q, hq, rfl, hqv⟩ := hy
      have hqv : mV A q := hqv
      obtain ⟨r', s', hr', hr2', hfit', h31', hp6', hro'⟩ := hI.pl hqv
      by_cases he : r = r'
      · subst he
        refine Sim.no hR hI 2 (by decide) (by decide) ?_ (fun G D h => ?_)
        · unfold f_X_removeAll
          simp only [x_needList hX hW hL, x_needList hX hW hY, (x_needOther hX hW.1 hv hr hqv hr').2 rfl, c_ob_0, c_fa_0_0, c_fa_0_1, c_fi_0_2, c_put_0_2, c_fi_0_3, c_put_0_3, c_fi_0_4, c_put_0_4, c_ob_1, c_fa_1_0, c_fa_1_1, c_fa_1_2, c_fa_1_3, c_fa_1_4, c_fa_1_5, c_fi_1_6, c_put_1_6, c_ob_2, c_fa_2_0, c_ob_4, c_fa_4_0, c_ob_6, c_fa_6_0, c_ob_8, c_fa_8_0, c_ob_10, c_fa_10_0, c_ob_12, c_fa_12_0, c_ob_14, c_fa_14_0, c_fa_14_1, c_fa_14_2, c_fa_14_3, c_fi_14_4, c_put_14_4, c_ob_15, c_fa_15_0, c_ob_17, c_fa_17_0, c_ob_19, c_fa_19_0, c_ob_21, c_fa_21_0, c_len_0, c_ld_0, c_st_0, c_rd_0, c_wr_0, c_len_1, c_ld_1, c_st_1, c_rd_1, c_wr_1, c_len_2, c_ld_2, c_st_2, c_rd_2, c_wr_2, c_len_3, c_ld_3, c_st_3, c_rd_3, c_wr_3, c_len_4, c_ld_4, c_st_4, c_rd_4, c_wr_4, c_len_5, c_ld_5, c_st_5, c_rd_5, c_wr_5, c_len_6, c_ld_6, c_st_6, c_rd_6, c_wr_6, c_len_7, c_ld_7, c_st_7, c_rd_7, c_wr_7, c_len_8, c_ld_8, c_st_8, c_rd_8, c_wr_8, c_len_9, c_ld_9, c_st_9, c_rd_9, c_wr_9, bI_rI, bL_rL, bA_rA, bV_rV, bI_th, bL_th, bA_th, bV_th, rZ_0, rZ_1]
          rfl
        · obtain ⟨G1, r1, h1, s1⟩ := (s_areOne h hI hv hr hqv hr' hL hY).2 rfl
          refine ⟨G1, ?_, h1, s1⟩
          unfold f_M_removeAll
          rw [gOb_of h.2.2.1 rfl, r1, bI_rI, if_neg (by decide)]
          rfl
      · obtain ⟨v, x1, x2⟩ := x_keys (b := b) (H := H) hX (hI.w q) hqv hr' (hI.kk hr2')
        obtain ⟨σ', y1, y2, y3, y4⟩ := b_rm (b := b) (H := H) (goers := v) (g := fun k => true == gK (sSeg A r' s' (mLen A q)) k) hR hI hv hr (gBit_of (fun k hk => by rw [x2 k hk]; simp))
        refine Sim.yes (nI ((A.1 r).length - (sLeft (fun k => true == gK (sSeg A r' s' (mLen A q)) k) (A.1 r) s (mLen A p)).length)) σ' ?_ (fun G D h => ?_)
        · unfold f_X_removeAll
          simp only [x_needList hX hW hL, x_needList hX hW hY, (x_needOther hX hW.1 hv hr hqv hr').1 he, x1, y1, c_ob_0, c_fa_0_0, c_fa_0_1, c_fi_0_2, c_put_0_2, c_fi_0_3, c_put_0_3, c_fi_0_4, c_put_0_4, c_ob_1, c_fa_1_0, c_fa_1_1, c_fa_1_2, c_fa_1_3, c_fa_1_4, c_fa_1_5, c_fi_1_6, c_put_1_6, c_ob_2, c_fa_2_0, c_ob_4, c_fa_4_0, c_ob_6, c_fa_6_0, c_ob_8, c_fa_8_0, c_ob_10, c_fa_10_0, c_ob_12, c_fa_12_0, c_ob_14, c_fa_14_0, c_fa_14_1, c_fa_14_2, c_fa_14_3, c_fi_14_4, c_put_14_4, c_ob_15, c_fa_15_0, c_ob_17, c_fa_17_0, c_ob_19, c_fa_19_0, c_ob_21, c_fa_21_0, c_len_0, c_ld_0, c_st_0, c_rd_0, c_wr_0, c_len_1, c_ld_1, c_st_1, c_rd_1, c_wr_1, c_len_2, c_ld_2, c_st_2, c_rd_2, c_wr_2, c_len_3, c_ld_3, c_st_3, c_rd_3, c_wr_3, c_len_4, c_ld_4, c_st_4, c_rd_4, c_wr_4, c_len_5, c_ld_5, c_st_5, c_rd_5, c_wr_5, c_len_6, c_ld_6, c_st_6, c_rd_6, c_wr_6, c_len_7, c_ld_7, c_st_7, c_rd_7, c_wr_7, c_len_8, c_ld_8, c_st_8, c_rd_8, c_wr_8, c_len_9, c_ld_9, c_st_9, c_rd_9, c_wr_9, bI_rI, bL_rL, bA_rA, bV_rV, bI_th, bL_th, bA_th, bV_th, rZ_0, rZ_1]
        · obtain ⟨G1, r1, h1, s1⟩ := (s_areOne h hI hv hr hqv hr' hL hY).1 he
          obtain ⟨G2, r2, q2, h2, s2⟩ := s_keys (is := true) h1 hW.1 hqv hr' hfit' h31' (hI.kk hr2')
          obtain ⟨G3, D3, r3, h3, s3⟩ := s_takeAll h2 (hI.thr 0 |>.w p) hv hr (hI.kk hr2) q2
          refine ⟨_, D3, G3, m, ?_, h3, y2, y3, Nat.le_succ m, y4, ((s1.trans s2).trans s3).mono (by omega) (by omega)⟩
          unfold f_M_removeAll
          rw [gOb_of h.2.2.1 rfl, r1, bI_rI, if_pos rfl, gOb_of h1.2.2.1 rfl, ← mB_1, r2, bA_rA, gOb_of h2.2.2.1 rfl, r3, bI_rI]
          rfl
    · refine Sim.no hR hI 1 (by decide) (by decide) ?_ (fun G D h => ?_)
      · unfold f_X_removeAll
        simp only [x_needList hX hW hL, x_needList_no hX hW hy, c_ob_0, c_fa_0_0, c_fa_0_1, c_fi_0_2, c_put_0_2, c_fi_0_3, c_put_0_3, c_fi_0_4, c_put_0_4, c_ob_1, c_fa_1_0, c_fa_1_1, c_fa_1_2, c_fa_1_3, c_fa_1_4, c_fa_1_5, c_fi_1_6, c_put_1_6, c_ob_2, c_fa_2_0, c_ob_4, c_fa_4_0, c_ob_6, c_fa_6_0, c_ob_8, c_fa_8_0, c_ob_10, c_fa_10_0, c_ob_12, c_fa_12_0, c_ob_14, c_fa_14_0, c_fa_14_1, c_fa_14_2, c_fa_14_3, c_fi_14_4, c_put_14_4, c_ob_15, c_fa_15_0, c_ob_17, c_fa_17_0, c_ob_19, c_fa_19_0, c_ob_21, c_fa_21_0, c_len_0, c_ld_0, c_st_0, c_rd_0, c_wr_0, c_len_1, c_ld_1, c_st_1, c_rd_1, c_wr_1, c_len_2, c_ld_2, c_st_2, c_rd_2, c_wr_2, c_len_3, c_ld_3, c_st_3, c_rd_3, c_wr_3, c_len_4, c_ld_4, c_st_4, c_rd_4, c_wr_4, c_len_5, c_ld_5, c_st_5, c_rd_5, c_wr_5, c_len_6, c_ld_6, c_st_6, c_rd_6, c_wr_6, c_len_7, c_ld_7, c_st_7, c_rd_7, c_wr_7, c_len_8, c_ld_8, c_st_8, c_rd_8, c_wr_8, c_len_9, c_ld_9, c_st_9, c_rd_9, c_wr_9, bI_rI, bL_rL, bA_rA, bV_rV, bI_th, bL_th, bA_th, bV_th, rZ_0, rZ_1]
        rfl
      · obtain ⟨G1, r1, h1, s1⟩ := s_areOne_x h (fun k => hy k.2)
        refine ⟨G1, ?_, h1, s1⟩
        unfold f_M_removeAll
        rw [gOb_of h.2.2.1 rfl, r1, bI_rI, if_neg (by decide)]
        rfl
  · refine Sim.no hR hI 1 (by decide) (by decide) ?_ (fun G D h => ?_)
    · unfold f_X_removeAll
      simp only [x_needList_no hX (hI.w 0) hx, c_ob_0, c_fa_0_0, c_fa_0_1, c_fi_0_2, c_put_0_2, c_fi_0_3, c_put_0_3, c_fi_0_4, c_put_0_4, c_ob_1, c_fa_1_0, c_fa_1_1, c_fa_1_2, c_fa_1_3, c_fa_1_4, c_fa_1_5, c_fi_1_6, c_put_1_6, c_ob_2, c_fa_2_0, c_ob_4, c_fa_4_0, c_ob_6, c_fa_6_0, c_ob_8, c_fa_8_0, c_ob_10, c_fa_10_0, c_ob_12, c_fa_12_0, c_ob_14, c_fa_14_0, c_fa_14_1, c_fa_14_2, c_fa_14_3, c_fi_14_4, c_put_14_4, c_ob_15, c_fa_15_0, c_ob_17, c_fa_17_0, c_ob_19, c_fa_19_0, c_ob_21, c_fa_21_0, c_len_0, c_ld_0, c_st_0, c_rd_0, c_wr_0, c_len_1, c_ld_1, c_st_1, c_rd_1, c_wr_1, c_len_2, c_ld_2, c_st_2, c_rd_2, c_wr_2, c_len_3, c_ld_3, c_st_3, c_rd_3, c_wr_3, c_len_4, c_ld_4, c_st_4, c_rd_4, c_wr_4, c_len_5, c_ld_5, c_st_5, c_rd_5, c_wr_5, c_len_6, c_ld_6, c_st_6, c_rd_6, c_wr_6, c_len_7, c_ld_7, c_st_7, c_rd_7, c_wr_7, c_len_8, c_ld_8, c_st_8, c_rd_8, c_wr_8, c_len_9, c_ld_9, c_st_9, c_rd_9, c_wr_9, bI_rI, bL_rL, bA_rA, bV_rV, bI_th, bL_th, bA_th, bV_th, rZ_0, rZ_1]
      rfl
    · obtain ⟨G1, r1, h1, s1⟩ := s_areOne_x (y := y) h (fun k => hx k.1)
      refine ⟨G1, ?_, h1, s1⟩
      unfold f_M_removeAll
      rw [gOb_of h.2.2.1 rfl, r1, bI_rI, if_neg (by decide)]
      rfl
theorem sim_retainAll (hR : CRep σ A) (hI : mInv m A) (x y : Int32) : SimOp w b o A m σ H xIS (f_X_retainAll (cPut b σ H) b x y) (fun G => f_M_retainAll G o x y) := by
  have hX := CRepx.of (exc := -1) hR
  by_cases hx : mIsL A x
  · have hL := hx
    obtain ⟨p, hp, rfl, hv⟩ := hx
    have hv : mV A p := hv
    obtain ⟨r, s, hr, hr2, hfit, h31, hp6, hro⟩ := hI.pl hv
    have hW := hI.w p
    by_cases hy : mIsL A y
    · have hY := hy
      obtain ⟨q, hq, rfl, hqv⟩ := hy
      have hqv : mV A q := hqv
      obtain ⟨r', s', hr', hr2', hfit', h31', hp6', hro'⟩ := hI.pl hqv
      by_cases he : r = r'
      · subst he
        refine Sim.no hR hI 2 (by decide) (by decide) ?_ (fun G D h => ?_)
        · unfold f_X_retainAll
          simp only [x_needList hX hW hL, x_needList hX hW hY, (x_needOther hX hW.1 hv hr hqv hr').2 rfl, c_ob_0, c_fa_0_0, c_fa_0_1, c_fi_0_2, c_put_0_2, c_fi_0_3, c_put_0_3, c_fi_0_4, c_put_0_4, c_ob_1, c_fa_1_0, c_fa_1_1, c_fa_1_2, c_fa_1_3, c_fa_1_4, c_fa_1_5, c_fi_1_6, c_put_1_6, c_ob_2, c_fa_2_0, c_ob_4, c_fa_4_0, c_ob_6, c_fa_6_0, c_ob_8, c_fa_8_0, c_ob_10, c_fa_10_0, c_ob_12, c_fa_12_0, c_ob_14, c_fa_14_0, c_fa_14_1, c_fa_14_2, c_fa_14_3, c_fi_14_4, c_put_14_4, c_ob_15, c_fa_15_0, c_ob_17, c_fa_17_0, c_ob_19, c_fa_19_0, c_ob_21, c_fa_21_0, c_len_0, c_ld_0, c_st_0, c_rd_0, c_wr_0, c_len_1, c_ld_1, c_st_1, c_rd_1, c_wr_1, c_len_2, c_ld_2, c_st_2, c_rd_2, c_wr_2, c_len_3, c_ld_3, c_st_3, c_rd_3, c_wr_3, c_len_4, c_ld_4, c_st_4, c_rd_4, c_wr_4, c_len_5, c_ld_5, c_st_5, c_rd_5, c_wr_5, c_len_6, c_ld_6, c_st_6, c_rd_6, c_wr_6, c_len_7, c_ld_7, c_st_7, c_rd_7, c_wr_7, c_len_8, c_ld_8, c_st_8, c_rd_8, c_wr_8, c_len_9, c_ld_9, c_st_9, c_rd_9, c_wr_9, bI_rI, bL_rL, bA_rA, bV_rV, bI_th, bL_th, bA_th, bV_th, rZ_0, rZ_1]
          rfl
        · obtain ⟨G1, r1, h1, s1⟩ := (s_areOne h hI hv hr hqv hr' hL hY).2 rfl
          refine ⟨G1, ?_, h1, s1⟩
          unfold f_M_retainAll
          rw [gOb_of h.2.2.1 rfl, r1, bI_rI, if_neg (by decide)]
          rfl
      · obtain ⟨v, x1, x2⟩ := x_keys (b := b) (H := H) hX (hI.w q) hqv hr' (hI.kk hr2')
        obtain ⟨σ', y1, y2, y3, y4⟩ := b_rm (b := b) (H := H) (goers := v ^^^ (-1)) (g := fun k => false == gK (sSeg A r' s' (mLen A q)) k) hR hI hv hr (gBit_of (fun k hk => by rw [bit_xor, x2 k hk, bit_m1 k hk]; cases gK (sSeg A r' s' (mLen A q)) k <;> rfl))
        refine Sim.yes (nI ((A.1 r).length - (sLeft (fun k => false == gK (sSeg A r' s' (mLen A q)) k) (A.1 r) s (mLen A p)).length)) σ' ?_ (fun G D h => ?_)
        · unfold f_X_retainAll
          simp only [x_needList hX hW hL, x_needList hX hW hY, (x_needOther hX hW.1 hv hr hqv hr').1 he, x1, y1, c_ob_0, c_fa_0_0, c_fa_0_1, c_fi_0_2, c_put_0_2, c_fi_0_3, c_put_0_3, c_fi_0_4, c_put_0_4, c_ob_1, c_fa_1_0, c_fa_1_1, c_fa_1_2, c_fa_1_3, c_fa_1_4, c_fa_1_5, c_fi_1_6, c_put_1_6, c_ob_2, c_fa_2_0, c_ob_4, c_fa_4_0, c_ob_6, c_fa_6_0, c_ob_8, c_fa_8_0, c_ob_10, c_fa_10_0, c_ob_12, c_fa_12_0, c_ob_14, c_fa_14_0, c_fa_14_1, c_fa_14_2, c_fa_14_3, c_fi_14_4, c_put_14_4, c_ob_15, c_fa_15_0, c_ob_17, c_fa_17_0, c_ob_19, c_fa_19_0, c_ob_21, c_fa_21_0, c_len_0, c_ld_0, c_st_0, c_rd_0, c_wr_0, c_len_1, c_ld_1, c_st_1, c_rd_1, c_wr_1, c_len_2, c_ld_2, c_st_2, c_rd_2, c_wr_2, c_len_3, c_ld_3, c_st_3, c_rd_3, c_wr_3, c_len_4, c_ld_4, c_st_4, c_rd_4, c_wr_4, c_len_5, c_ld_5, c_st_5, c_rd_5, c_wr_5, c_len_6, c_ld_6, c_st_6, c_rd_6, c_wr_6, c_len_7, c_ld_7, c_st_7, c_rd_7, c_wr_7, c_len_8, c_ld_8, c_st_8, c_rd_8, c_wr_8, c_len_9, c_ld_9, c_st_9, c_rd_9, c_wr_9, bI_rI, bL_rL, bA_rA, bV_rV, bI_th, bL_th, bA_th, bV_th, rZ_0, rZ_1]
        · obtain ⟨G1, r1, h1, s1⟩ := (s_areOne h hI hv hr hqv hr' hL hY).1 he
          obtain ⟨G2, r2, q2, h2, s2⟩ := s_keys (is := false) h1 hW.1 hqv hr' hfit' h31' (hI.kk hr2')
          obtain ⟨G3, D3, r3, h3, s3⟩ := s_takeAll h2 (hI.thr 0 |>.w p) hv hr (hI.kk hr2) q2
          refine ⟨_, D3, G3, m, ?_, h3, y2, y3, Nat.le_succ m, y4, ((s1.trans s2).trans s3).mono (by omega) (by omega)⟩
          unfold f_M_retainAll
          rw [gOb_of h.2.2.1 rfl, r1, bI_rI, if_pos rfl, gOb_of h1.2.2.1 rfl, ← mB_0, r2, bA_rA, gOb_of h2.2.2.1 rfl, r3, bI_rI]
          rfl
    · refine Sim.no hR hI 1 (by decide) (by decide) ?_ (fun G D h => ?_)
      · unfold f_X_retainAll
        simp only [x_needList hX hW hL, x_needList_no hX hW hy, c_ob_0, c_fa_0_0, c_fa_0_1, c_fi_0_2, c_put_0_2, c_fi_0_3, c_put_0_3, c_fi_0_4, c_put_0_4, c_ob_1, c_fa_1_0, c_fa_1_1, c_fa_1_2, c_fa_1_3, c_fa_1_4, c_fa_1_5, c_fi_1_6, c_put_1_6, c_ob_2, c_fa_2_0, c_ob_4, c_fa_4_0, c_ob_6, c_fa_6_0, c_ob_8, c_fa_8_0, c_ob_10, c_fa_10_0, c_ob_12, c_fa_12_0, c_ob_14, c_fa_14_0, c_fa_14_1, c_fa_14_2, c_fa_14_3, c_fi_14_4, c_put_14_4, c_ob_15, c_fa_15_0, c_ob_17, c_fa_17_0, c_ob_19, c_fa_19_0, c_ob_21, c_fa_21_0, c_len_0, c_ld_0, c_st_0, c_rd_0, c_wr_0, c_len_1, c_ld_1, c_st_1, c_rd_1, c_wr_1, c_len_2, c_ld_2, c_st_2, c_rd_2, c_wr_2, c_len_3, c_ld_3, c_st_3, c_rd_3, c_wr_3, c_len_4, c_ld_4, c_st_4, c_rd_4, c_wr_4, c_len_5, c_ld_5, c_st_5, c_rd_5, c_wr_5, c_len_6, c_ld_6, c_st_6, c_rd_6, c_wr_6, c_len_7, c_ld_7, c_st_7, c_rd_7, c_wr_7, c_len_8, c_ld_8, c_st_8, c_rd_8, c_wr_8, c_len_9, c_ld_9, c_st_9, c_rd_9, c_wr_9, bI_rI, bL_rL, bA_rA, bV_rV, bI_th, bL_th, bA_th, bV_th, rZ_0, rZ_1]
        rfl
      · obtain ⟨G1, r1, h1, s1⟩ := s_areOne_x h (fun k => hy k.2)
        refine ⟨G1, ?_, h1, s1⟩
        unfold f_M_retainAll
        rw [gOb_of h.2.2.1 rfl, r1, bI_rI, if_neg (by decide)]
        rfl
  · refine Sim.no hR hI 1 (by decide) (by decide) ?_ (fun G D h => ?_)
    · unfold f_X_retainAll
      simp only [x_needList_no hX (hI.w 0) hx, c_ob_0, c_fa_0_0, c_fa_0_1, c_fi_0_2, c_put_0_2, c_fi_0_3, c_put_0_3, c_fi_0_4, c_put_0_4, c_ob_1, c_fa_1_0, c_fa_1_1, c_fa_1_2, c_fa_1_3, c_fa_1_4, c_fa_1_5, c_fi_1_6, c_put_1_6, c_ob_2, c_fa_2_0, c_ob_4, c_fa_4_0, c_ob_6, c_fa_6_0, c_ob_8, c_fa_8_0, c_ob_10, c_fa_10_0, c_ob_12, c_fa_12_0, c_ob_14, c_fa_14_0, c_fa_14_1, c_fa_14_2, c_fa_14_3, c_fi_14_4, c_put_14_4, c_ob_15, c_fa_15_0, c_ob_17, c_fa_17_0, c_ob_19, c_fa_19_0, c_ob_21, c_fa_21_0, c_len_0, c_ld_0, c_st_0, c_rd_0, c_wr_0, c_len_1, c_ld_1, c_st_1, c_rd_1, c_wr_1, c_len_2, c_ld_2, c_st_2, c_rd_2, c_wr_2, c_len_3, c_ld_3, c_st_3, c_rd_3, c_wr_3, c_len_4, c_ld_4, c_st_4, c_rd_4, c_wr_4, c_len_5, c_ld_5, c_st_5, c_rd_5, c_wr_5, c_len_6, c_ld_6, c_st_6, c_rd_6, c_wr_6, c_len_7, c_ld_7, c_st_7, c_rd_7, c_wr_7, c_len_8, c_ld_8, c_st_8, c_rd_8, c_wr_8, c_len_9, c_ld_9, c_st_9, c_rd_9, c_wr_9, bI_rI, bL_rL, bA_rA, bV_rV, bI_th, bL_th, bA_th, bV_th, rZ_0, rZ_1]
      rfl
    · obtain ⟨G1, r1, h1, s1⟩ := s_areOne_x (y := y) h (fun k => hx k.1)
      refine ⟨G1, ?_, h1, s1⟩
      unfold f_M_retainAll
      rw [gOb_of h.2.2.1 rfl, r1, bI_rI, if_neg (by decide)]
      rfl
theorem sim_clear (hR : CRep σ A) (hI : mInv m A) (x : Int32) : SimOp w b o A m σ H xI1 (f_X_clear (cPut b σ H) b x) (fun G => f_M_clear G o x) := by
  have hX := CRepx.of (exc := -1) hR
  by_cases hx : mIsL A x
  · have hL := hx
    obtain ⟨p, hp, rfl, hv⟩ := hx
    have hv : mV A p := hv
    obtain ⟨r, s, hr, hr2, hfit, h31, hp6, hro⟩ := hI.pl hv
    have hW := hI.w p
    have hWt : mInw (-1) p (mSet A 0 0) := (hI.thr 0).w p
    obtain ⟨σ', y1, y2, y3, y4⟩ := b_rm (b := b) (H := H) (goers := -1) (g := fun _ => true) hR hI hv hr (gBit_of (fun k hk => bit_m1 k hk))
    have hlt := sLeft_true hfit
    refine Sim.yes (nI (mLen A p)) σ' ?_ (fun G D h => ?_)
    · unfold f_X_clear
      simp only [x_needList hX hW hL, y1, c_ob_0, c_fa_0_0, c_fa_0_1, c_fi_0_2, c_put_0_2, c_fi_0_3, c_put_0_3, c_fi_0_4, c_put_0_4, c_ob_1, c_fa_1_0, c_fa_1_1, c_fa_1_2, c_fa_1_3, c_fa_1_4, c_fa_1_5, c_fi_1_6, c_put_1_6, c_ob_2, c_fa_2_0, c_ob_4, c_fa_4_0, c_ob_6, c_fa_6_0, c_ob_8, c_fa_8_0, c_ob_10, c_fa_10_0, c_ob_12, c_fa_12_0, c_ob_14, c_fa_14_0, c_fa_14_1, c_fa_14_2, c_fa_14_3, c_fi_14_4, c_put_14_4, c_ob_15, c_fa_15_0, c_ob_17, c_fa_17_0, c_ob_19, c_fa_19_0, c_ob_21, c_fa_21_0, c_len_0, c_ld_0, c_st_0, c_rd_0, c_wr_0, c_len_1, c_ld_1, c_st_1, c_rd_1, c_wr_1, c_len_2, c_ld_2, c_st_2, c_rd_2, c_wr_2, c_len_3, c_ld_3, c_st_3, c_rd_3, c_wr_3, c_len_4, c_ld_4, c_st_4, c_rd_4, c_wr_4, c_len_5, c_ld_5, c_st_5, c_rd_5, c_wr_5, c_len_6, c_ld_6, c_st_6, c_rd_6, c_wr_6, c_len_7, c_ld_7, c_st_7, c_rd_7, c_wr_7, c_len_8, c_ld_8, c_st_8, c_rd_8, c_wr_8, c_len_9, c_ld_9, c_st_9, c_rd_9, c_wr_9, bI_rI, bL_rL, bA_rA, bV_rV, bI_th, bL_th, bA_th, bV_th, rZ_0, rZ_1]
      rw [show (A.1 r).length - (sLeft (fun _ => true) (A.1 r) s (mLen A p)).length = mLen A p by omega]
    · obtain ⟨G1, r1, h1, s1⟩ := r_list1 h hL
      obtain ⟨G2, r2, h2, s2⟩ := m_clearL (K := fun G25 x22 x23 x24 => gOb G25 x22 6 fun o27 => bV (f_M_change G25 x22 x23 (-x24) (-1)) fun G29 => rI x24 G29) (x2 := nI (mLen A p)) hWt.1 hv hr hfit h31 (mLen A p) zFu G1 (Nat.le_refl _) (by unfold zFu; omega) (by
        show MS w o G1 (mRows (mSet A 0 0) r (sRj (fun _ => true) (A.1 r) s (mLen A p) (mLen A p))) D
        rw [sRj_top hfit, show mRows (mSet A 0 0) r (A.1 r) = mSet A 0 0 from mRows_self (A := mSet A 0 0)]
        exact h1)
      obtain ⟨G3, F, r3, h3, s3⟩ := s_change (A := mSet A 0 0) (z := ((sLeft (fun _ => true) (A.1 r) s (mLen A p)).length : Int) - ((A.1 r).length : Int)) (exc := -1) h2 hWt hv hr (by omega) (by show 0 ≤ (mLen A p : Int) + _; omega) (by show ((A.1 r).length : Int) + _ ≤ 31; omega)
      have r3' : f_M_change G2 o (nI p) (-(nI (mLen A p))) (-1) = rV G3 := by
        rw [neg_nI, show -((mLen A p : Nat) : Int) = ((sLeft (fun _ => true) (A.1 r) s (mLen A p)).length : Int) - ((A.1 r).length : Int) by omega]
        exact r3
      refine ⟨_, _, G3, m, ?_, h3, y2, y3, Nat.le_succ m, y4, ((s1.trans s2).trans s3.st).mono (by omega) (by omega)⟩
      unfold f_M_clear
      rw [r1, gOb_of h1.2.2.1 rfl, s_len h1 hW.1 hv, bI_rI, nI_s1]
      rw [show f_M_clear_L25 (fun G25 x22 x23 x24 => gOb G25 x22 6 fun o27 => bV (f_M_change G25 x22 x23 (-x24) (-1)) fun G29 => rI x24 G29) zFu G1 o (nI p) (nI (mLen (mSet A 0 0) p)) (nI (mLen (mSet A 0 0) p) + (-1)) = _ from r2, gOb_of h2.2.2.1 rfl, r3', bV_rV]
  · refine Sim.no hR hI 1 (by decide) (by decide) ?_ (fun G D h => ?_)
    · unfold f_X_clear
      simp only [x_needList_no hX (hI.w 0) hx, c_ob_0, c_fa_0_0, c_fa_0_1, c_fi_0_2, c_put_0_2, c_fi_0_3, c_put_0_3, c_fi_0_4, c_put_0_4, c_ob_1, c_fa_1_0, c_fa_1_1, c_fa_1_2, c_fa_1_3, c_fa_1_4, c_fa_1_5, c_fi_1_6, c_put_1_6, c_ob_2, c_fa_2_0, c_ob_4, c_fa_4_0, c_ob_6, c_fa_6_0, c_ob_8, c_fa_8_0, c_ob_10, c_fa_10_0, c_ob_12, c_fa_12_0, c_ob_14, c_fa_14_0, c_fa_14_1, c_fa_14_2, c_fa_14_3, c_fi_14_4, c_put_14_4, c_ob_15, c_fa_15_0, c_ob_17, c_fa_17_0, c_ob_19, c_fa_19_0, c_ob_21, c_fa_21_0, c_len_0, c_ld_0, c_st_0, c_rd_0, c_wr_0, c_len_1, c_ld_1, c_st_1, c_rd_1, c_wr_1, c_len_2, c_ld_2, c_st_2, c_rd_2, c_wr_2, c_len_3, c_ld_3, c_st_3, c_rd_3, c_wr_3, c_len_4, c_ld_4, c_st_4, c_rd_4, c_wr_4, c_len_5, c_ld_5, c_st_5, c_rd_5, c_wr_5, c_len_6, c_ld_6, c_st_6, c_rd_6, c_wr_6, c_len_7, c_ld_7, c_st_7, c_rd_7, c_wr_7, c_len_8, c_ld_8, c_st_8, c_rd_8, c_wr_8, c_len_9, c_ld_9, c_st_9, c_rd_9, c_wr_9, bI_rI, bL_rL, bA_rA, bV_rV, bI_th, bL_th, bA_th, bV_th, rZ_0, rZ_1]
      rfl
    · obtain ⟨G1, r1, h1, s1⟩ := r_list0 h hx
      refine ⟨G1, ?_, h1, s1⟩
      unfold f_M_clear
      rw [r1]
      rfl
theorem sim_removeAt (hR : CRep σ A) (hI : mInv m A) (x i : Int32) : SimOp w b o A m σ H xI1 (f_X_removeAt (cPut b σ H) b x i) (fun G => f_M_removeAt G o x i) := by
  have hX := CRepx.of (exc := -1) hR
  by_cases hx : mIsL A x
  · have hL := hx
    obtain ⟨p, hp, rfl, hv⟩ := hx
    have hv : mV A p := hv
    obtain ⟨r, s, hr, hr2, hfit, h31, hp6, hro⟩ := hI.pl hv
    have hW := hI.w p
    have hWt : mInw (-1) p (mSet A 0 0) := (hI.thr 0).w p
    have hl100 : mLen A p < 100 := by omega
    by_cases hi : mIsP (mLen A p) i
    · have hi' := hi
      obtain ⟨i, hip, rfl⟩ := hi
      have ht := List.getElem?_eq_getElem (show s + i < (A.1 r).length by omega)
      generalize (A.1 r)[s + i] = t at ht
      have hto := (hI.2.2.1 r hr2).2 t (List.mem_of_getElem? ht)
      have hXt : CRepx (-1) σ (mSet A 0 0) := hX.thr 0
      obtain ⟨σ', y1, y2, -, -⟩ := x_takeOut (b := b) (G := H) (i := i) hXt hWt hv hr hip ht
      have hel : ((A.1 r).eraseIdx (s + i)).length = (A.1 r).length - 1 := List.length_eraseIdx_of_lt (by omega)
      obtain ⟨c1, -, -, -, c5⟩ := mChg_all (z := -1) (ts := (A.1 r).eraseIdx (s + i)) (hI.thr 0) hv hr (by rw [hel]; show _ = ((A.1 r).length : Int) + _; omega) (by omega) (by show 0 ≤ (mLen A p : Int) + _; omega) (fun z => by omega) (fun t ht => (hI.2.2.1 r hr2).2 t (er_mem _ _ ht))
      refine Sim.yes (nI t.2.2) σ' ?_ (fun G D h => ?_)
      · unfold f_X_removeAt
        simp only [x_needList hX hW hL, (x_needPlace hX hW.1 hv hl100).1 hi', y1, c_ob_0, c_fa_0_0, c_fa_0_1, c_fi_0_2, c_put_0_2, c_fi_0_3, c_put_0_3, c_fi_0_4, c_put_0_4, c_ob_1, c_fa_1_0, c_fa_1_1, c_fa_1_2, c_fa_1_3, c_fa_1_4, c_fa_1_5, c_fi_1_6, c_put_1_6, c_ob_2, c_fa_2_0, c_ob_4, c_fa_4_0, c_ob_6, c_fa_6_0, c_ob_8, c_fa_8_0, c_ob_10, c_fa_10_0, c_ob_12, c_fa_12_0, c_ob_14, c_fa_14_0, c_fa_14_1, c_fa_14_2, c_fa_14_3, c_fi_14_4, c_put_14_4, c_ob_15, c_fa_15_0, c_ob_17, c_fa_17_0, c_ob_19, c_fa_19_0, c_ob_21, c_fa_21_0, c_len_0, c_ld_0, c_st_0, c_rd_0, c_wr_0, c_len_1, c_ld_1, c_st_1, c_rd_1, c_wr_1, c_len_2, c_ld_2, c_st_2, c_rd_2, c_wr_2, c_len_3, c_ld_3, c_st_3, c_rd_3, c_wr_3, c_len_4, c_ld_4, c_st_4, c_rd_4, c_wr_4, c_len_5, c_ld_5, c_st_5, c_rd_5, c_wr_5, c_len_6, c_ld_6, c_st_6, c_rd_6, c_wr_6, c_len_7, c_ld_7, c_st_7, c_rd_7, c_wr_7, c_len_8, c_ld_8, c_st_8, c_rd_8, c_wr_8, c_len_9, c_ld_9, c_st_9, c_rd_9, c_wr_9, bI_rI, bL_rL, bA_rA, bV_rV, bI_th, bL_th, bA_th, bV_th, rZ_0, rZ_1]
        rw [show cE t = nI (32 * t.2.2 + t.2.1) from rfl, x_tagOf (by have := hto.1; omega) (by have := hto.2; have := hI.2.2.2.2.2; omega), bI_rI]
      · obtain ⟨G1, r1, h1, s1⟩ := s_go h
        obtain ⟨G2, r2, h2, s2, t2, -⟩ := s_take (i := i) h1 hW.1 hv hr ht
        obtain ⟨G3, F, r3, h3, s3⟩ := s_change (z := -1) (exc := -1) h2 hWt hv hr (by omega) (by show 0 ≤ (mLen A p : Int) + _; omega) (by show ((A.1 r).length : Int) + _ ≤ 31; omega)
        rw [ofInt_m1] at r3
        refine ⟨_, _, G3, m, ?_, h3, y2, c1, Nat.le_succ m, c5 0 (by omega) (by omega), ((s1.trans s2).trans s3.st).mono (by omega) (by omega)⟩
        unfold f_M_removeAt
        rw [gOb_of h.2.2.1 rfl, (s_noList h _).1 hL, bI_rI, if_pos rfl, gOb_of h.2.2.1 rfl, (s_noPlace h hW.1 hv hl100 _).1 hi', bI_rI, if_pos rfl, gOb_of h.2.2.1 rfl, r1, bI_rI, if_pos rfl, gOb_of h1.2.2.1 rfl, r2, bA_rA, t2.tag, gOb_of h2.2.2.1 rfl, r3, bV_rV]
    · refine Sim.no hR hI 1 (by decide) (by decide) ?_ (fun G D h => ?_)
      · unfold f_X_removeAt
        simp only [x_needList hX hW hL, (x_needPlace hX hW.1 hv hl100).2 hi, c_ob_0, c_fa_0_0, c_fa_0_1, c_fi_0_2, c_put_0_2, c_fi_0_3, c_put_0_3, c_fi_0_4, c_put_0_4, c_ob_1, c_fa_1_0, c_fa_1_1, c_fa_1_2, c_fa_1_3, c_fa_1_4, c_fa_1_5, c_fi_1_6, c_put_1_6, c_ob_2, c_fa_2_0, c_ob_4, c_fa_4_0, c_ob_6, c_fa_6_0, c_ob_8, c_fa_8_0, c_ob_10, c_fa_10_0, c_ob_12, c_fa_12_0, c_ob_14, c_fa_14_0, c_fa_14_1, c_fa_14_2, c_fa_14_3, c_fi_14_4, c_put_14_4, c_ob_15, c_fa_15_0, c_ob_17, c_fa_17_0, c_ob_19, c_fa_19_0, c_ob_21, c_fa_21_0, c_len_0, c_ld_0, c_st_0, c_rd_0, c_wr_0, c_len_1, c_ld_1, c_st_1, c_rd_1, c_wr_1, c_len_2, c_ld_2, c_st_2, c_rd_2, c_wr_2, c_len_3, c_ld_3, c_st_3, c_rd_3, c_wr_3, c_len_4, c_ld_4, c_st_4, c_rd_4, c_wr_4, c_len_5, c_ld_5, c_st_5, c_rd_5, c_wr_5, c_len_6, c_ld_6, c_st_6, c_rd_6, c_wr_6, c_len_7, c_ld_7, c_st_7, c_rd_7, c_wr_7, c_len_8, c_ld_8, c_st_8, c_rd_8, c_wr_8, c_len_9, c_ld_9, c_st_9, c_rd_9, c_wr_9, bI_rI, bL_rL, bA_rA, bV_rV, bI_th, bL_th, bA_th, bV_th, rZ_0, rZ_1]
        rfl
      · obtain ⟨G1, r1, h1, s1⟩ := s_halt1 h
        refine ⟨G1, ?_, h1, s1⟩
        unfold f_M_removeAt
        rw [gOb_of h.2.2.1 rfl, (s_noList h _).1 hL, bI_rI, if_pos rfl, gOb_of h.2.2.1 rfl, (s_noPlace h hW.1 hv hl100 _).2 hi, bI_rI, if_neg (by decide), gOb_of h.2.2.1 rfl, r1, bI_rI, if_neg (by decide)]
        rfl
  · refine Sim.no hR hI 1 (by decide) (by decide) ?_ (fun G D h => ?_)
    · unfold f_X_removeAt
      simp only [x_needList_no hX (hI.w 0) hx, c_ob_0, c_fa_0_0, c_fa_0_1, c_fi_0_2, c_put_0_2, c_fi_0_3, c_put_0_3, c_fi_0_4, c_put_0_4, c_ob_1, c_fa_1_0, c_fa_1_1, c_fa_1_2, c_fa_1_3, c_fa_1_4, c_fa_1_5, c_fi_1_6, c_put_1_6, c_ob_2, c_fa_2_0, c_ob_4, c_fa_4_0, c_ob_6, c_fa_6_0, c_ob_8, c_fa_8_0, c_ob_10, c_fa_10_0, c_ob_12, c_fa_12_0, c_ob_14, c_fa_14_0, c_fa_14_1, c_fa_14_2, c_fa_14_3, c_fi_14_4, c_put_14_4, c_ob_15, c_fa_15_0, c_ob_17, c_fa_17_0, c_ob_19, c_fa_19_0, c_ob_21, c_fa_21_0, c_len_0, c_ld_0, c_st_0, c_rd_0, c_wr_0, c_len_1, c_ld_1, c_st_1, c_rd_1, c_wr_1, c_len_2, c_ld_2, c_st_2, c_rd_2, c_wr_2, c_len_3, c_ld_3, c_st_3, c_rd_3, c_wr_3, c_len_4, c_ld_4, c_st_4, c_rd_4, c_wr_4, c_len_5, c_ld_5, c_st_5, c_rd_5, c_wr_5, c_len_6, c_ld_6, c_st_6, c_rd_6, c_wr_6, c_len_7, c_ld_7, c_st_7, c_rd_7, c_wr_7, c_len_8, c_ld_8, c_st_8, c_rd_8, c_wr_8, c_len_9, c_ld_9, c_st_9, c_rd_9, c_wr_9, bI_rI, bL_rL, bA_rA, bV_rV, bI_th, bL_th, bA_th, bV_th, rZ_0, rZ_1]
      rfl
    · obtain ⟨G1, r1, h1, s1⟩ := s_halt1 h
      refine ⟨G1, ?_, h1, s1⟩
      unfold f_M_removeAt
      rw [gOb_of h.2.2.1 rfl, (s_noList h _).2 hx, bI_rI, if_neg (by decide), gOb_of h.2.2.1 rfl, r1, bI_rI, if_neg (by decide)]
      rfl
end Rm
end
section
-- set, remove, removeIf
section One
variable {w : Nat → Nat} {b o m : Nat} {A : mS} {σ : cS} {H : gH}
theorem sim_set (hR : CRep σ A) (hI : mInv m A) (hm : m < 600) (x i k : Int32) : SimOp w b o A m σ H xIG (f_X_set (cPut b σ H) b x i k) (fun G => f_M_set G o x i k) := by
  have hX := CRepx.of (exc := -1) hR
  by_cases hx : mIsL A x
  · have hL := hx
    obtain ⟨p, hp, rfl, hv⟩ := hx
    have hv : mV A p := hv
    obtain ⟨r, s, hr, hr2, hfit, h31, hp6, hro⟩ := hI.pl hv
    have hW := hI.w p
    have hl100 : mLen A p < 100 := by omega
    by_cases hi : mIsP (mLen A p) i
    · have hi' := hi
      obtain ⟨i, hip, rfl⟩ := hi
      by_cases hk : mIsP 31 k
      · have hK := hk
        obtain ⟨k, hk31, rfl⟩ := hk
        have ht := List.getElem?_eq_getElem (show s + i < (A.1 r).length by omega)
        generalize (A.1 r)[s + i] = t at ht
        have hto := (hI.2.2.1 r hr2).2 t (List.mem_of_getElem? ht)
        obtain ⟨hXt, hXB, hIB⟩ := b_made hR hI hm
        have hWB := hIB.w p
        obtain ⟨y1, y2⟩ := x_write (b := b) (G := H) (i := i) hXB hWB.1 hWB.2.1 hWB.2.2.1 hv hr hip (0, k, m)
        have y1' : f_I_write (cPut b (cSetI σ 2 (nI (m + 1))) H) (b + 1) (nI p) (nI i) (nI (32 * m + k)) = _ := y1
        refine Sim.yes (nI t.2.1) (cArr (cSetI σ 2 (nI (m + 1))) 0 (upd ((cSetI σ 2 (nI (m + 1))).1 0) (31 * r + (s + i)) (cE (0, k, m)))) ?_ (fun G D h => ?_)
        · unfold f_X_set
          simp only [x_needList hX hW hL, (x_needPlace hX hW.1 hv hl100).1 hi', x_needKey.1 hK, x_keyAt hX hW hv hr ht (show t.2.1 < 32 from Nat.lt_succ_of_lt hto.1), x_make hX hI.2.2.2.2.1 (show k < 32 by omega), y1', c_ob_0, c_fa_0_0, c_fa_0_1, c_fi_0_2, c_put_0_2, c_fi_0_3, c_put_0_3, c_fi_0_4, c_put_0_4, c_ob_1, c_fa_1_0, c_fa_1_1, c_fa_1_2, c_fa_1_3, c_fa_1_4, c_fa_1_5, c_fi_1_6, c_put_1_6, c_ob_2, c_fa_2_0, c_ob_4, c_fa_4_0, c_ob_6, c_fa_6_0, c_ob_8, c_fa_8_0, c_ob_10, c_fa_10_0, c_ob_12, c_fa_12_0, c_ob_14, c_fa_14_0, c_fa_14_1, c_fa_14_2, c_fa_14_3, c_fi_14_4, c_put_14_4, c_ob_15, c_fa_15_0, c_ob_17, c_fa_17_0, c_ob_19, c_fa_19_0, c_ob_21, c_fa_21_0, c_len_0, c_ld_0, c_st_0, c_rd_0, c_wr_0, c_len_1, c_ld_1, c_st_1, c_rd_1, c_wr_1, c_len_2, c_ld_2, c_st_2, c_rd_2, c_wr_2, c_len_3, c_ld_3, c_st_3, c_rd_3, c_wr_3, c_len_4, c_ld_4, c_st_4, c_rd_4, c_wr_4, c_len_5, c_ld_5, c_st_5, c_rd_5, c_wr_5, c_len_6, c_ld_6, c_st_6, c_rd_6, c_wr_6, c_len_7, c_ld_7, c_st_7, c_rd_7, c_wr_7, c_len_8, c_ld_8, c_st_8, c_rd_8, c_wr_8, c_len_9, c_ld_9, c_st_9, c_rd_9, c_wr_9, bI_rI, bL_rL, bA_rA, bV_rV, bI_th, bL_th, bA_th, bV_th, rZ_0, rZ_1]
        · obtain ⟨G1, r1, h1, s1⟩ := s_go h
          obtain ⟨G2, r2, h2, s2, t2⟩ := s_make (k := k) h1 (show (mSet A 0 0).2.2.2 1 = nI m from hI.2.2.2.2.1)
          obtain ⟨G3, r3, h3, s3, t3, -⟩ := s_write (i := i) (u := (G1.2.1, k, m)) h2 hWB.1 hv hr ht t2
          have r3' : f_M_write G2 o (nI p) (nI i) G1.2.1 = rA t.1 G3 := r3
          refine ⟨_, D, G3, m + 1, ?_, h3, (CRepx.rowsC (exc := -1) y2 (us := (A.1 r).set (s + i) (G1.2.1, k, m)) ?_), hIB.rows ?_ ?_, Nat.le_refl _, rfl, ((s1.trans s2).trans s3).mono (by omega) (by omega)⟩
          · unfold f_M_set
            rw [gOb_of h.2.2.1 rfl, (s_noList h _).1 hL, bI_rI, if_pos rfl, gOb_of h.2.2.1 rfl, (s_noPlace h hW.1 hv hl100 _).1 hi', bI_rI, if_pos rfl, gOb_of h.2.2.1 rfl, r1, bI_rI, if_pos rfl, (s_inK G1 _).1 hK, bI_rI, if_neg (by decide), r_ref0 h1 rfl, gOb_of h1.2.2.1 rfl, r2, bA_rA, gOb_of h2.2.2.1 rfl, r3', bA_rA, t3.key]
          · show ((A.1 r).set (s + i) (0, k, m)).map Prod.snd = _
            rw [List.map_set, List.map_set]
          · exact List.length_set
          · intro u hu
            rcases set_mem hu with q | q
            · exact (hIB.2.2.1 r hr2).2 u q
            · rw [q]; exact ⟨hk31, Nat.lt_succ_self m⟩
      · refine Sim.no hR hI 2 (by decide) (by decide) ?_ (fun G D h => ?_)
        · unfold f_X_set
          simp only [x_needList hX hW hL, (x_needPlace hX hW.1 hv hl100).1 hi', x_needKey.2 hk, c_ob_0, c_fa_0_0, c_fa_0_1, c_fi_0_2, c_put_0_2, c_fi_0_3, c_put_0_3, c_fi_0_4, c_put_0_4, c_ob_1, c_fa_1_0, c_fa_1_1, c_fa_1_2, c_fa_1_3, c_fa_1_4, c_fa_1_5, c_fi_1_6, c_put_1_6, c_ob_2, c_fa_2_0, c_ob_4, c_fa_4_0, c_ob_6, c_fa_6_0, c_ob_8, c_fa_8_0, c_ob_10, c_fa_10_0, c_ob_12, c_fa_12_0, c_ob_14, c_fa_14_0, c_fa_14_1, c_fa_14_2, c_fa_14_3, c_fi_14_4, c_put_14_4, c_ob_15, c_fa_15_0, c_ob_17, c_fa_17_0, c_ob_19, c_fa_19_0, c_ob_21, c_fa_21_0, c_len_0, c_ld_0, c_st_0, c_rd_0, c_wr_0, c_len_1, c_ld_1, c_st_1, c_rd_1, c_wr_1, c_len_2, c_ld_2, c_st_2, c_rd_2, c_wr_2, c_len_3, c_ld_3, c_st_3, c_rd_3, c_wr_3, c_len_4, c_ld_4, c_st_4, c_rd_4, c_wr_4, c_len_5, c_ld_5, c_st_5, c_rd_5, c_wr_5, c_len_6, c_ld_6, c_st_6, c_rd_6, c_wr_6, c_len_7, c_ld_7, c_st_7, c_rd_7, c_wr_7, c_len_8, c_ld_8, c_st_8, c_rd_8, c_wr_8, c_len_9, c_ld_9, c_st_9, c_rd_9, c_wr_9, bI_rI, bL_rL, bA_rA, bV_rV, bI_th, bL_th, bA_th, bV_th, rZ_0, rZ_1]
          rfl
        · obtain ⟨G1, r1, h1, s1⟩ := s_go h
          obtain ⟨G2, r2, h2, s2⟩ := r_no1 (c := 2) h1 (by decide)
          refine ⟨G2, ?_, h2, (s1.trans s2).mono (by omega) (by omega)⟩
          unfold f_M_set
          rw [gOb_of h.2.2.1 rfl, (s_noList h _).1 hL, bI_rI, if_pos rfl, gOb_of h.2.2.1 rfl, (s_noPlace h hW.1 hv hl100 _).1 hi', bI_rI, if_pos rfl, gOb_of h.2.2.1 rfl, r1, bI_rI, if_pos rfl, (s_inK G1 _).2 hk, bI_rI, if_pos rfl, r2]
          rfl
    · refine Sim.no hR hI 1 (by decide) (by decide) ?_ (fun G D h => ?_)
      · unfold f_X_set
        simp only [x_needList hX hW hL, (x_needPlace hX hW.1 hv hl100).2 hi, c_ob_0, c_fa_0_0, c_fa_0_1, c_fi_0_2, c_put_0_2, c_fi_0_3, c_put_0_3, c_fi_0_4, c_put_0_4, c_ob_1, c_fa_1_0, c_fa_1_1, c_fa_1_2, c_fa_1_3, c_fa_1_4, c_fa_1_5, c_fi_1_6, c_put_1_6, c_ob_2, c_fa_2_0, c_ob_4, c_fa_4_0, c_ob_6, c_fa_6_0, c_ob_8, c_fa_8_0, c_ob_10, c_fa_10_0, c_ob_12, c_fa_12_0, c_ob_14, c_fa_14_0, c_fa_14_1, c_fa_14_2, c_fa_14_3, c_fi_14_4, c_put_14_4, c_ob_15, c_fa_15_0, c_ob_17, c_fa_17_0, c_ob_19, c_fa_19_0, c_ob_21, c_fa_21_0, c_len_0, c_ld_0, c_st_0, c_rd_0, c_wr_0, c_len_1, c_ld_1, c_st_1, c_rd_1, c_wr_1, c_len_2, c_ld_2, c_st_2, c_rd_2, c_wr_2, c_len_3, c_ld_3, c_st_3, c_rd_3, c_wr_3, c_len_4, c_ld_4, c_st_4, c_rd_4, c_wr_4, c_len_5, c_ld_5, c_st_5, c_rd_5, c_wr_5, c_len_6, c_ld_6, c_st_6, c_rd_6, c_wr_6, c_len_7, c_ld_7, c_st_7, c_rd_7, c_wr_7, c_len_8, c_ld_8, c_st_8, c_rd_8, c_wr_8, c_len_9, c_ld_9, c_st_9, c_rd_9, c_wr_9, bI_rI, bL_rL, bA_rA, bV_rV, bI_th, bL_th, bA_th, bV_th, rZ_0, rZ_1]
        rfl
      · obtain ⟨G1, r1, h1, s1⟩ := s_halt1 h
        refine ⟨G1, ?_, h1, s1⟩
        unfold f_M_set
        rw [gOb_of h.2.2.1 rfl, (s_noList h _).1 hL, bI_rI, if_pos rfl, gOb_of h.2.2.1 rfl, (s_noPlace h hW.1 hv hl100 _).2 hi, bI_rI, if_neg (by decide), gOb_of h.2.2.1 rfl, r1, bI_rI, if_neg (by decide)]
        rfl
  · refine Sim.no hR hI 1 (by decide) (by decide) ?_ (fun G D h => ?_)
    · unfold f_X_set
      simp only [x_needList_no hX (hI.w 0) hx, c_ob_0, c_fa_0_0, c_fa_0_1, c_fi_0_2, c_put_0_2, c_fi_0_3, c_put_0_3, c_fi_0_4, c_put_0_4, c_ob_1, c_fa_1_0, c_fa_1_1, c_fa_1_2, c_fa_1_3, c_fa_1_4, c_fa_1_5, c_fi_1_6, c_put_1_6, c_ob_2, c_fa_2_0, c_ob_4, c_fa_4_0, c_ob_6, c_fa_6_0, c_ob_8, c_fa_8_0, c_ob_10, c_fa_10_0, c_ob_12, c_fa_12_0, c_ob_14, c_fa_14_0, c_fa_14_1, c_fa_14_2, c_fa_14_3, c_fi_14_4, c_put_14_4, c_ob_15, c_fa_15_0, c_ob_17, c_fa_17_0, c_ob_19, c_fa_19_0, c_ob_21, c_fa_21_0, c_len_0, c_ld_0, c_st_0, c_rd_0, c_wr_0, c_len_1, c_ld_1, c_st_1, c_rd_1, c_wr_1, c_len_2, c_ld_2, c_st_2, c_rd_2, c_wr_2, c_len_3, c_ld_3, c_st_3, c_rd_3, c_wr_3, c_len_4, c_ld_4, c_st_4, c_rd_4, c_wr_4, c_len_5, c_ld_5, c_st_5, c_rd_5, c_wr_5, c_len_6, c_ld_6, c_st_6, c_rd_6, c_wr_6, c_len_7, c_ld_7, c_st_7, c_rd_7, c_wr_7, c_len_8, c_ld_8, c_st_8, c_rd_8, c_wr_8, c_len_9, c_ld_9, c_st_9, c_rd_9, c_wr_9, bI_rI, bL_rL, bA_rA, bV_rV, bI_th, bL_th, bA_th, bV_th, rZ_0, rZ_1]
      rfl
    · obtain ⟨G1, r1, h1, s1⟩ := s_halt1 h
      refine ⟨G1, ?_, h1, s1⟩
      unfold f_M_set
      rw [gOb_of h.2.2.1 rfl, (s_noList h _).2 hx, bI_rI, if_neg (by decide), gOb_of h.2.2.1 rfl, r1, bI_rI, if_neg (by decide)]
      rfl
/-- one thing goes, on both sides -/
theorem b_out (hR : CRep σ A) (hI : mInv m A) {p r s i : Nat} {t : Nat × Nat × Nat} (hv : mV A p) (hr : mRw A.2.1 zDp p = some (r, s)) (hip : i < mLen A p) (ht : (A.1 r)[s + i]? = some t) :
    ∃ σ', f_X_takeOut (cPut b σ H) b (nI p) (nI i) (-1) = rI (nI (32 * t.2.2 + t.2.1)) (cPut b σ' H) ∧
      ∀ (G : gH) (D : mD), MS w o G (mSet A 0 0) D → ∃ (G1 G2 : gH) (B A' : mS) (D1 D' : mD), f_M_take G o (nI p) (nI i) = rA t.1 G1 ∧ MS w o G1 B D1 ∧ mTh G1 t.1 t.2 ∧ f_M_change G1 o (nI p) (-1) (-1) = rV G2 ∧ MS w o G2 A' D' ∧ CRep σ' A' ∧ mInv m A' ∧ A'.2.2.2 0 = 0 ∧ mSt 0 0 G G2 := by
  obtain ⟨r', s', hr', hr2, hfit, h31, -, -⟩ := hI.pl hv
  rw [hr] at hr'
  cases hr'
  have hWt : mInw (-1) p (mSet A 0 0) := (hI.thr 0).w p
  have hXt : CRepx (-1) σ (mSet A 0 0) := (CRepx.of (exc := -1) hR).thr 0
  obtain ⟨σ', y1, y2, -, -⟩ := x_takeOut (b := b) (G := H) (i := i) hXt hWt hv hr hip ht
  have hel : ((A.1 r).eraseIdx (s + i)).length = (A.1 r).length - 1 := List.length_eraseIdx_of_lt (by omega)
  obtain ⟨c1, -, -, -, c5⟩ := mChg_all (z := -1) (ts := (A.1 r).eraseIdx (s + i)) (hI.thr 0) hv hr (by rw [hel]; show _ = ((A.1 r).length : Int) + _; omega) (by omega) (by show 0 ≤ (mLen A p : Int) + _; omega) (fun z => by omega) (fun t ht => (hI.2.2.1 r hr2).2 t (er_mem _ _ ht))
  refine ⟨σ', y1, fun G D h => ?_⟩
  obtain ⟨G2, r2, h2, s2, t2, -⟩ := s_take (i := i) h hWt.1 hv hr ht
  obtain ⟨G3, F, r3, h3, s3⟩ := s_change (z := -1) (exc := -1) h2 hWt hv hr (by omega) (by show 0 ≤ (mLen A p : Int) + _; omega) (by show ((A.1 r).length : Int) + _ ≤ 31; omega)
  rw [ofInt_m1] at r3
  exact ⟨G2, G3, _, _, _, _, r2, h2, t2, r3, h3, y2, c1, c5 0 (by omega) (by omega), (s2.trans s3.st).mono (by omega) (by omega)⟩
theorem r_ref0v {G : gH} {D : mD} (h : MS w o G A D) (h0 : A.2.2.2 0 = 0) {code : Int32} : ∀ X Y : gH → gR, (gOb G o 6 fun o2 => bI (f_M_refuse G o 0 code) fun v10 G9 => if v10 = 0 then X G9 else Y G9) = X G := r_ref0b h h0
theorem sim_remove (hR : CRep σ A) (hI : mInv m A) (x k : Int32) : SimOp w b o A m σ H xIG (f_X_remove (cPut b σ H) b x k) (fun G => f_M_remove G o x k) := by
  have hX := CRepx.of (exc := -1) hR
  by_cases hx : mIsL A x
  · have hL := hx
    obtain ⟨p, hp, rfl, hv⟩ := hx
    have hv : mV A p := hv
    obtain ⟨r, s, hr, hr2, hfit, h31, hp6, hro⟩ := hI.pl hv
    have hW := hI.w p
    by_cases hk : mIsP 31 k
    · have hK := hk
      obtain ⟨k, hk31, rfl⟩ := hk
      have x1 := x_first (b := b) (H := H) hX hW hv hr (hI.kk hr2) hk31
      have m1 : ∀ (G : gH) (D : mD), MS w o G (mSet A 0 0) D → f_M_firstOf G o (nI p) (nI k) = rI (sNo (sFi k (sSeg A r s (mLen A p)) 0)) G := fun G D h => s_first (A := mSet A 0 0) h hW.1 hv hr hfit h31 (fun t ht => by have := hI.kk hr2 t ht; omega) (show k < 100 by omega)
      have hsl : (sSeg A r s (mLen A p)).length = mLen A p := sSeg_len hfit
      cases hf : sFi k (sSeg A r s (mLen A p)) 0 with
      | none =>
        rw [hf] at x1 m1
        refine Sim.yes 0 σ ?_ (fun G D h => ?_)
        · unfold f_X_remove
          simp only [x_needList hX hW hL, x_needKey.1 hK, x1, c_ob_0, c_fa_0_0, c_fa_0_1, c_fi_0_2, c_put_0_2, c_fi_0_3, c_put_0_3, c_fi_0_4, c_put_0_4, c_ob_1, c_fa_1_0, c_fa_1_1, c_fa_1_2, c_fa_1_3, c_fa_1_4, c_fa_1_5, c_fi_1_6, c_put_1_6, c_ob_2, c_fa_2_0, c_ob_4, c_fa_4_0, c_ob_6, c_fa_6_0, c_ob_8, c_fa_8_0, c_ob_10, c_fa_10_0, c_ob_12, c_fa_12_0, c_ob_14, c_fa_14_0, c_fa_14_1, c_fa_14_2, c_fa_14_3, c_fi_14_4, c_put_14_4, c_ob_15, c_fa_15_0, c_ob_17, c_fa_17_0, c_ob_19, c_fa_19_0, c_ob_21, c_fa_21_0, c_len_0, c_ld_0, c_st_0, c_rd_0, c_wr_0, c_len_1, c_ld_1, c_st_1, c_rd_1, c_wr_1, c_len_2, c_ld_2, c_st_2, c_rd_2, c_wr_2, c_len_3, c_ld_3, c_st_3, c_rd_3, c_wr_3, c_len_4, c_ld_4, c_st_4, c_rd_4, c_wr_4, c_len_5, c_ld_5, c_st_5, c_rd_5, c_wr_5, c_len_6, c_ld_6, c_st_6, c_rd_6, c_wr_6, c_len_7, c_ld_7, c_st_7, c_rd_7, c_wr_7, c_len_8, c_ld_8, c_st_8, c_rd_8, c_wr_8, c_len_9, c_ld_9, c_st_9, c_rd_9, c_wr_9, bI_rI, bL_rL, bA_rA, bV_rV, bI_th, bL_th, bA_th, bV_th, rZ_0, rZ_1]
          rw [show sNo none = -1 from rfl, if_pos rfl]
        · obtain ⟨G1, r1, h1, s1⟩ := r_list1 h hL
          refine ⟨_, D, G1, m, ?_, h1, hR, hI.thr 0, Nat.le_succ m, rfl, s1.mono (by omega) (by omega)⟩
          unfold f_M_remove
          rw [r1, gOb_of h1.2.2.1 rfl, (s_noKey G1 o _).1 hK, bI_rI, r_ref0b h1 rfl, gOb_of h1.2.2.1 rfl, m1 G1 D h1, bI_rI, show sNo none = -1 from rfl, if_pos rfl, rZ_0]
      | some i =>
        rw [hf] at x1 m1
        have hil := sFi_lt _ _ _ hf
        have hip : i < mLen A p := by omega
        have hne : ¬ nI i = -1 := nI_ne1 (by omega)
        have ht := List.getElem?_eq_getElem (show s + i < (A.1 r).length by omega)
        generalize (A.1 r)[s + i] = t at ht
        obtain ⟨σ', y1, yR⟩ := b_out (w := w) (b := b) (o := o) (H := H) hR hI hv hr hip ht
        refine Sim.yes 1 σ' ?_ (fun G D h => ?_)
        · unfold f_X_remove
          simp only [x_needList hX hW hL, x_needKey.1 hK, x1, c_ob_0, c_fa_0_0, c_fa_0_1, c_fi_0_2, c_put_0_2, c_fi_0_3, c_put_0_3, c_fi_0_4, c_put_0_4, c_ob_1, c_fa_1_0, c_fa_1_1, c_fa_1_2, c_fa_1_3, c_fa_1_4, c_fa_1_5, c_fi_1_6, c_put_1_6, c_ob_2, c_fa_2_0, c_ob_4, c_fa_4_0, c_ob_6, c_fa_6_0, c_ob_8, c_fa_8_0, c_ob_10, c_fa_10_0, c_ob_12, c_fa_12_0, c_ob_14, c_fa_14_0, c_fa_14_1, c_fa_14_2, c_fa_14_3, c_fi_14_4, c_put_14_4, c_ob_15, c_fa_15_0, c_ob_17, c_fa_17_0, c_ob_19, c_fa_19_0, c_ob_21, c_fa_21_0, c_len_0, c_ld_0, c_st_0, c_rd_0, c_wr_0, c_len_1, c_ld_1, c_st_1, c_rd_1, c_wr_1, c_len_2, c_ld_2, c_st_2, c_rd_2, c_wr_2, c_len_3, c_ld_3, c_st_3, c_rd_3, c_wr_3, c_len_4, c_ld_4, c_st_4, c_rd_4, c_wr_4, c_len_5, c_ld_5, c_st_5, c_rd_5, c_wr_5, c_len_6, c_ld_6, c_st_6, c_rd_6, c_wr_6, c_len_7, c_ld_7, c_st_7, c_rd_7, c_wr_7, c_len_8, c_ld_8, c_st_8, c_rd_8, c_wr_8, c_len_9, c_ld_9, c_st_9, c_rd_9, c_wr_9, bI_rI, bL_rL, bA_rA, bV_rV, bI_th, bL_th, bA_th, bV_th, rZ_0, rZ_1]
          rw [show sNo (some i) = nI i from rfl, if_neg hne, y1, bI_rI]
        · obtain ⟨G1, r1, h1, s1⟩ := r_list1 h hL
          obtain ⟨G2, G3, B, A', D2, D', r2, h2, -, r3, h3, c1, c2, c3, s3⟩ := yR G1 D h1
          refine ⟨A', D', G3, m, ?_, h3, c1, c2, Nat.le_succ m, c3, (s1.trans s3).mono (by omega) (by omega)⟩
          unfold f_M_remove
          rw [r1, gOb_of h1.2.2.1 rfl, (s_noKey G1 o _).1 hK, bI_rI, r_ref0b h1 rfl, gOb_of h1.2.2.1 rfl, m1 G1 D h1, bI_rI, show sNo (some i) = nI i from rfl, if_neg hne, gOb_of h1.2.2.1 rfl, r2, bA_rA, gOb_of h2.2.2.1 rfl, r3, bV_rV, rZ_1]
    · refine Sim.no hR hI 2 (by decide) (by decide) ?_ (fun G D h => ?_)
      · unfold f_X_remove
        simp only [x_needList hX hW hL, x_needKey.2 hk, c_ob_0, c_fa_0_0, c_fa_0_1, c_fi_0_2, c_put_0_2, c_fi_0_3, c_put_0_3, c_fi_0_4, c_put_0_4, c_ob_1, c_fa_1_0, c_fa_1_1, c_fa_1_2, c_fa_1_3, c_fa_1_4, c_fa_1_5, c_fi_1_6, c_put_1_6, c_ob_2, c_fa_2_0, c_ob_4, c_fa_4_0, c_ob_6, c_fa_6_0, c_ob_8, c_fa_8_0, c_ob_10, c_fa_10_0, c_ob_12, c_fa_12_0, c_ob_14, c_fa_14_0, c_fa_14_1, c_fa_14_2, c_fa_14_3, c_fi_14_4, c_put_14_4, c_ob_15, c_fa_15_0, c_ob_17, c_fa_17_0, c_ob_19, c_fa_19_0, c_ob_21, c_fa_21_0, c_len_0, c_ld_0, c_st_0, c_rd_0, c_wr_0, c_len_1, c_ld_1, c_st_1, c_rd_1, c_wr_1, c_len_2, c_ld_2, c_st_2, c_rd_2, c_wr_2, c_len_3, c_ld_3, c_st_3, c_rd_3, c_wr_3, c_len_4, c_ld_4, c_st_4, c_rd_4, c_wr_4, c_len_5, c_ld_5, c_st_5, c_rd_5, c_wr_5, c_len_6, c_ld_6, c_st_6, c_rd_6, c_wr_6, c_len_7, c_ld_7, c_st_7, c_rd_7, c_wr_7, c_len_8, c_ld_8, c_st_8, c_rd_8, c_wr_8, c_len_9, c_ld_9, c_st_9, c_rd_9, c_wr_9, bI_rI, bL_rL, bA_rA, bV_rV, bI_th, bL_th, bA_th, bV_th, rZ_0, rZ_1]
        rfl
      · obtain ⟨G1, r1, h1, s1⟩ := r_list1 h hL
        obtain ⟨G2, r2, h2, s2⟩ := r_no1b (c := 2) h1 (by decide)
        refine ⟨G2, ?_, h2, (s1.trans s2).mono (by omega) (by omega)⟩
        unfold f_M_remove
        rw [r1, gOb_of h1.2.2.1 rfl, (s_noKey G1 o _).2 hk, bI_rI, r2, rZ_0]
  · refine Sim.no hR hI 1 (by decide) (by decide) ?_ (fun G D h => ?_)
    · unfold f_X_remove
      simp only [x_needList_no hX (hI.w 0) hx, c_ob_0, c_fa_0_0, c_fa_0_1, c_fi_0_2, c_put_0_2, c_fi_0_3, c_put_0_3, c_fi_0_4, c_put_0_4, c_ob_1, c_fa_1_0, c_fa_1_1, c_fa_1_2, c_fa_1_3, c_fa_1_4, c_fa_1_5, c_fi_1_6, c_put_1_6, c_ob_2, c_fa_2_0, c_ob_4, c_fa_4_0, c_ob_6, c_fa_6_0, c_ob_8, c_fa_8_0, c_ob_10, c_fa_10_0, c_ob_12, c_fa_12_0, c_ob_14, c_fa_14_0, c_fa_14_1, c_fa_14_2, c_fa_14_3, c_fi_14_4, c_put_14_4, c_ob_15, c_fa_15_0, c_ob_17, c_fa_17_0, c_ob_19, c_fa_19_0, c_ob_21, c_fa_21_0, c_len_0, c_ld_0, c_st_0, c_rd_0, c_wr_0, c_len_1, c_ld_1, c_st_1, c_rd_1, c_wr_1, c_len_2, c_ld_2, c_st_2, c_rd_2, c_wr_2, c_len_3, c_ld_3, c_st_3, c_rd_3, c_wr_3, c_len_4, c_ld_4, c_st_4, c_rd_4, c_wr_4, c_len_5, c_ld_5, c_st_5, c_rd_5, c_wr_5, c_len_6, c_ld_6, c_st_6, c_rd_6, c_wr_6, c_len_7, c_ld_7, c_st_7, c_rd_7, c_wr_7, c_len_8, c_ld_8, c_st_8, c_rd_8, c_wr_8, c_len_9, c_ld_9, c_st_9, c_rd_9, c_wr_9, bI_rI, bL_rL, bA_rA, bV_rV, bI_th, bL_th, bA_th, bV_th, rZ_0, rZ_1]
      rfl
    · obtain ⟨G1, r1, h1, s1⟩ := r_list0 h hx
      refine ⟨G1, ?_, h1, s1⟩
      unfold f_M_remove
      rw [r1, rZ_0]
end One
end
section
-- removeIf, pack, turn
section If
variable {w : Nat → Nat} {b o m : Nat} {A : mS} {σ : cS} {H : gH}
theorem y_remL {K : gH → Nat → Int32 → Int32 → gR} {G : gH} {x0 by' rest : Nat} {x1 : Int32} (hb : 0 < by') (hb9 : by' < 100) (hre : rest < 100) : ∀ (d n j : Nat) (v : Int32), j + d = 31 → d < n →
    ∃ v', f_X_removeIf_L51 K n G x0 x1 (nI by') (nI rest) v (nI j) = K G x0 x1 v' ∧ ∀ k, k < 31 → v'.toBitVec.getLsbD k = (v.toBitVec.getLsbD k || (decide (j ≤ k) && decide (k % by' = rest)))
  | _, 0, _, _, _, h => absurd h (Nat.not_lt_zero _)
  | 0, n + 1, j, v, hj, _ => by
    refine ⟨v, ?_, fun k hk => ?_⟩
    · unfold f_X_removeIf_L51
      rw [if_pos (nI_le (by omega) (by omega))]
    · rw [decide_eq_false (by omega : ¬ j ≤ k), Bool.false_and, Bool.or_false]
  | d + 1, n + 1, j, v, hj, hn => by
    have hm : j % by' < by' := Nat.mod_lt _ hb
    by_cases hx : j % by' = rest
    · obtain ⟨v', z1, z2⟩ := y_remL (K := K) (G := G) (x0 := x0) (x1 := x1) hb hb9 hre d n (j + 1) (v ||| (nI 1 <<< (nI j &&& 31))) (by omega) (by omega)
      refine ⟨v', ?_, fun k hk => ?_⟩
      · unfold f_X_removeIf_L51
        rw [if_neg (nI_ge (by omega) (by omega)), gRem_of (by omega) (by omega) hb, if_pos (by rw [hx]), nI_add, z1]
      · rw [z2 k hk, bit_or, bit_1 j (by omega) k hk]
        by_cases e : k = j
        · subst e
          rw [decide_eq_true (rfl : k = k), decide_eq_true (Nat.le_refl k), decide_eq_true hx]; simp
        · rw [decide_eq_false e, Bool.or_false]
          by_cases e2 : j ≤ k
          · rw [decide_eq_true e2, decide_eq_true (by omega : j + 1 ≤ k)]
          · rw [decide_eq_false e2, decide_eq_false (by omega : ¬ j + 1 ≤ k)]
    · obtain ⟨v', z1, z2⟩ := y_remL (K := K) (G := G) (x0 := x0) (x1 := x1) hb hb9 hre d n (j + 1) (v ||| (nI 0)) (by omega) (by omega)
      refine ⟨v', ?_, fun k hk => ?_⟩
      · unfold f_X_removeIf_L51
        rw [if_neg (nI_ge (by omega) (by omega)), gRem_of (by omega) (by omega) hb, if_neg (fun z => hx (nI_eq31 (by omega) (by omega) z)), nI_add, z1]
      · rw [z2 k hk, bit_or, bit_0 k hk, Bool.or_false]
        by_cases e : k = j
        · subst e
          rw [decide_eq_false hx, Bool.and_false, Bool.and_false]
        · by_cases e2 : j ≤ k
          · rw [decide_eq_true e2, decide_eq_true (by omega : j + 1 ≤ k)]
          · rw [decide_eq_false e2, decide_eq_false (by omega : ¬ j + 1 ≤ k)]
theorem nI_up {x : Int32} {n : Nat} (h0 : ¬ x < 0) (h : x ≤ nI n) (hn : n < 2 ^ 31) : ∃ i, i ≤ n ∧ x = nI i := (nI_gap hn).mpr ⟨h0, h⟩
theorem sim_removeIf (hR : CRep σ A) (hI : mInv m A) (x y z : Int32) : SimOp w b o A m σ H xIG (f_X_removeIf (cPut b σ H) b x y z) (fun G => f_M_removeIf G o x y z) := by
  have hX := CRepx.of (exc := -1) hR
  by_cases hx : mIsL A x
  · have hL := hx
    obtain ⟨p, hp, rfl, hv⟩ := hx
    have hv : mV A p := hv
    obtain ⟨r, s, hr, hr2, hfit, h31, hp6, hro⟩ := hI.pl hv
    have hW := hI.w p
    have hWt : mInw (-1) p (mSet A 0 0) := (hI.thr 0).w p
    by_cases hy : ¬ y < nI 1 ∧ ¬ nI 9 < y
    · obtain ⟨g, hg9, rfl⟩ : ∃ i, i ≤ 9 ∧ y = nI i := nI_up (fun q => hy.1 (Int32.lt_trans q (by decide))) (Int32.not_lt.mp hy.2) (by omega)
      have hg1 : 1 ≤ g := by
        rcases Nat.eq_zero_or_pos g with e | e
        · subst e; exact absurd (by decide : nI 0 < nI 1) hy.1
        · exact e
      have r0 : ∀ G : gH, f_M_isIn G (nI g) (nI 1) (nI 9) = rI 1 G := fun G => by
        rw [m_isIn, decide_eq_true hy]; exact rZ_1
      have e1 : ∀ z : Int32, (mIsG (g - 1) z ↔ mIsP g z) := fun z => ⟨fun ⟨i, hi, e⟩ => ⟨i, by omega, e⟩, fun ⟨i, hi, e⟩ => ⟨i, by omega, e⟩⟩
      have r3 : ∀ G : gH, nI g - nI 1 = nI (g - 1) := fun _ => nI_sub hg1
      by_cases hz : mIsP g z
      · have hz' := hz
        obtain ⟨t, htg, rfl⟩ := hz
        have hin : ∀ G : gH, f_M_isIn G (nI t) (nI 0) (nI g - nI 1) = rI 1 G := fun G => by
          rw [r3 G]; exact (s_isIn G (g - 1) (by omega) _).1 ((e1 _).mpr hz')
        obtain ⟨v, x1, x2⟩ := y_remL (K := fun G11 x8 x9 x10 => gOb G11 x8 3 fun o13 => bI (f_X_takeOutAll G11 x8 x9 x10) fun v16 G15 => rI v16 G15) (G := cPut b σ H) (x0 := b) (x1 := nI p) (by' := g) (rest := t) (by omega) (by omega) (by omega) 31 zFu 0 (nI 0) (by omega) (by unfold zFu; omega)
        obtain ⟨σ', y1, y2, y3, y4⟩ := b_rm (b := b) (H := H) (goers := v) (g := fun k => decide (k % g = t)) hR hI hv hr (gBit_of (fun k hk => by rw [x2 k hk, bit_0 k hk, decide_eq_true (Nat.zero_le k), Bool.false_or, Bool.true_and]))
        refine Sim.yes (nI ((A.1 r).length - (sLeft (fun k => decide (k % g = t)) (A.1 r) s (mLen A p)).length)) σ' ?_ (fun G D h => ?_)
        · unfold f_X_removeIf
          simp only [x_needList hX hW hL, c_ob_0, c_fa_0_0, c_fa_0_1, c_fi_0_2, c_put_0_2, c_fi_0_3, c_put_0_3, c_fi_0_4, c_put_0_4, c_ob_1, c_fa_1_0, c_fa_1_1, c_fa_1_2, c_fa_1_3, c_fa_1_4, c_fa_1_5, c_fi_1_6, c_put_1_6, c_ob_2, c_fa_2_0, c_ob_4, c_fa_4_0, c_ob_6, c_fa_6_0, c_ob_8, c_fa_8_0, c_ob_10, c_fa_10_0, c_ob_12, c_fa_12_0, c_ob_14, c_fa_14_0, c_fa_14_1, c_fa_14_2, c_fa_14_3, c_fi_14_4, c_put_14_4, c_ob_15, c_fa_15_0, c_ob_17, c_fa_17_0, c_ob_19, c_fa_19_0, c_ob_21, c_fa_21_0, c_len_0, c_ld_0, c_st_0, c_rd_0, c_wr_0, c_len_1, c_ld_1, c_st_1, c_rd_1, c_wr_1, c_len_2, c_ld_2, c_st_2, c_rd_2, c_wr_2, c_len_3, c_ld_3, c_st_3, c_rd_3, c_wr_3, c_len_4, c_ld_4, c_st_4, c_rd_4, c_wr_4, c_len_5, c_ld_5, c_st_5, c_rd_5, c_wr_5, c_len_6, c_ld_6, c_st_6, c_rd_6, c_wr_6, c_len_7, c_ld_7, c_st_7, c_rd_7, c_wr_7, c_len_8, c_ld_8, c_st_8, c_rd_8, c_wr_8, c_len_9, c_ld_9, c_st_9, c_rd_9, c_wr_9, bI_rI, bL_rL, bA_rA, bV_rV, bI_th, bL_th, bA_th, bV_th, rZ_0, rZ_1]
          rw [if_neg hy.1, if_pos (Int32.not_lt.mp hy.2), if_neg ((nI_plc (by omega)).mp hz').1, if_pos ((nI_plc (by omega)).mp hz').2, x1, c_ob_0, y1, bI_rI]
        · obtain ⟨G1, r1, h1, s1⟩ := r_list1 h hL
          obtain ⟨G2, q1, q2, q3, q4, q5, q6⟩ := m_remIfL (K := fun G29 x26 x27 x28 => gOb G29 x26 6 fun o31 => bI (f_M_takeAll G29 x26 x27 x28) fun v34 G33 => rI v34 G33) (o := o) (p := p) (q := G1.2.1) (by' := g) (rest := t) (by omega) (by omega) (by omega) 31 zFu 0 (gNew G1 31 (zI 102 31 (fun _ => 0))) (fun _ => 0) (by omega) (by unfold zFu; omega) h1.1.new (Nat.lt_succ_self _) gNew_at (fun k hk => by omega)
          have u1 : (gNew G1 31 (zI 102 31 (fun _ => 0))).2.1 = G1.2.1 + 1 := rfl
          have u2 : (gNew G1 31 (zI 102 31 (fun _ => 0))).1 = G1.1 + 31 := rfl
          have hB : gB G1.2.1 G1 G2 := fun q hq => by rw [q6 q (by omega), gNew_ne (by omega)]
          have hS := mSt.gB (k := 1) (n := 31) h1.1 hB q2 (by omega) (by omega) (by omega) (by omega)
          have h2 : MS w o G2 (mSet A 0 0) D := h1.step hS (h1.2.2.new h1.1 hB)
          obtain ⟨G3, D3, r4, h3, s3⟩ := s_takeAll h2 hWt hv hr (hI.kk hr2) q5
          refine ⟨_, D3, G3, m, ?_, h3, y2, y3, Nat.le_succ m, y4, ((s1.trans hS).trans s3).mono (by omega) (by omega)⟩
          unfold f_M_removeIf
          rw [r1, r0, bI_rI, if_neg (by decide), hin, bI_rI, if_neg (by decide), r_ref0 h1 rfl, gNewK_of (by omega), q1, gOb_of h2.2.2.1 rfl, r4, bI_rI]
          rfl
      · refine Sim.no hR hI 2 (by decide) (by decide) ?_ (fun G D h => ?_)
        · unfold f_X_removeIf
          simp only [x_needList hX hW hL, c_ob_0, c_fa_0_0, c_fa_0_1, c_fi_0_2, c_put_0_2, c_fi_0_3, c_put_0_3, c_fi_0_4, c_put_0_4, c_ob_1, c_fa_1_0, c_fa_1_1, c_fa_1_2, c_fa_1_3, c_fa_1_4, c_fa_1_5, c_fi_1_6, c_put_1_6, c_ob_2, c_fa_2_0, c_ob_4, c_fa_4_0, c_ob_6, c_fa_6_0, c_ob_8, c_fa_8_0, c_ob_10, c_fa_10_0, c_ob_12, c_fa_12_0, c_ob_14, c_fa_14_0, c_fa_14_1, c_fa_14_2, c_fa_14_3, c_fi_14_4, c_put_14_4, c_ob_15, c_fa_15_0, c_ob_17, c_fa_17_0, c_ob_19, c_fa_19_0, c_ob_21, c_fa_21_0, c_len_0, c_ld_0, c_st_0, c_rd_0, c_wr_0, c_len_1, c_ld_1, c_st_1, c_rd_1, c_wr_1, c_len_2, c_ld_2, c_st_2, c_rd_2, c_wr_2, c_len_3, c_ld_3, c_st_3, c_rd_3, c_wr_3, c_len_4, c_ld_4, c_st_4, c_rd_4, c_wr_4, c_len_5, c_ld_5, c_st_5, c_rd_5, c_wr_5, c_len_6, c_ld_6, c_st_6, c_rd_6, c_wr_6, c_len_7, c_ld_7, c_st_7, c_rd_7, c_wr_7, c_len_8, c_ld_8, c_st_8, c_rd_8, c_wr_8, c_len_9, c_ld_9, c_st_9, c_rd_9, c_wr_9, bI_rI, bL_rL, bA_rA, bV_rV, bI_th, bL_th, bA_th, bV_th, rZ_0, rZ_1]
          rw [if_neg hy.1, if_pos (Int32.not_lt.mp hy.2)]
          by_cases h0 : z < 0
          · rw [if_pos h0]; rfl
          · rw [if_neg h0, if_neg (fun q => hz ((nI_plc (by omega)).mpr ⟨h0, q⟩))]; rfl
        · obtain ⟨G1, r1, h1, s1⟩ := r_list1 h hL
          obtain ⟨G2, r2, h2, s2⟩ := r_no1 (c := 2) h1 (by decide)
          refine ⟨G2, ?_, h2, (s1.trans s2).mono (by omega) (by omega)⟩
          unfold f_M_removeIf
          rw [r1, r0, bI_rI, if_neg (by decide), r3 G1, (s_isIn G1 (g - 1) (by omega) _).2 (fun q => hz ((e1 _).mp q)), bI_rI, if_pos rfl, r2]
          rfl
    · refine Sim.no hR hI 2 (by decide) (by decide) ?_ (fun G D h => ?_)
      · unfold f_X_removeIf
        simp only [x_needList hX hW hL, c_ob_0, c_fa_0_0, c_fa_0_1, c_fi_0_2, c_put_0_2, c_fi_0_3, c_put_0_3, c_fi_0_4, c_put_0_4, c_ob_1, c_fa_1_0, c_fa_1_1, c_fa_1_2, c_fa_1_3, c_fa_1_4, c_fa_1_5, c_fi_1_6, c_put_1_6, c_ob_2, c_fa_2_0, c_ob_4, c_fa_4_0, c_ob_6, c_fa_6_0, c_ob_8, c_fa_8_0, c_ob_10, c_fa_10_0, c_ob_12, c_fa_12_0, c_ob_14, c_fa_14_0, c_fa_14_1, c_fa_14_2, c_fa_14_3, c_fi_14_4, c_put_14_4, c_ob_15, c_fa_15_0, c_ob_17, c_fa_17_0, c_ob_19, c_fa_19_0, c_ob_21, c_fa_21_0, c_len_0, c_ld_0, c_st_0, c_rd_0, c_wr_0, c_len_1, c_ld_1, c_st_1, c_rd_1, c_wr_1, c_len_2, c_ld_2, c_st_2, c_rd_2, c_wr_2, c_len_3, c_ld_3, c_st_3, c_rd_3, c_wr_3, c_len_4, c_ld_4, c_st_4, c_rd_4, c_wr_4, c_len_5, c_ld_5, c_st_5, c_rd_5, c_wr_5, c_len_6, c_ld_6, c_st_6, c_rd_6, c_wr_6, c_len_7, c_ld_7, c_st_7, c_rd_7, c_wr_7, c_len_8, c_ld_8, c_st_8, c_rd_8, c_wr_8, c_len_9, c_ld_9, c_st_9, c_rd_9, c_wr_9, bI_rI, bL_rL, bA_rA, bV_rV, bI_th, bL_th, bA_th, bV_th, rZ_0, rZ_1]
        by_cases h0 : y < nI 1
        · rw [if_pos h0]; rfl
        · rw [if_neg h0, if_neg (fun q => hy ⟨h0, Int32.not_lt.mpr q⟩)]; rfl
      · obtain ⟨G1, r1, h1, s1⟩ := r_list1 h hL
        obtain ⟨G2, r2, h2, s2⟩ := r_no1 (c := 2) h1 (by decide)
        refine ⟨G2, ?_, h2, (s1.trans s2).mono (by omega) (by omega)⟩
        unfold f_M_removeIf
        rw [r1, m_isIn, decide_eq_false hy, show rZ (mB false) G1 = rI 0 G1 from rZ_0, bI_rI, if_pos rfl, r2]
        rfl
  · refine Sim.no hR hI 1 (by decide) (by decide) ?_ (fun G D h => ?_)
    · unfold f_X_removeIf
      simp only [x_needList_no hX (hI.w 0) hx, c_ob_0, c_fa_0_0, c_fa_0_1, c_fi_0_2, c_put_0_2, c_fi_0_3, c_put_0_3, c_fi_0_4, c_put_0_4, c_ob_1, c_fa_1_0, c_fa_1_1, c_fa_1_2, c_fa_1_3, c_fa_1_4, c_fa_1_5, c_fi_1_6, c_put_1_6, c_ob_2, c_fa_2_0, c_ob_4, c_fa_4_0, c_ob_6, c_fa_6_0, c_ob_8, c_fa_8_0, c_ob_10, c_fa_10_0, c_ob_12, c_fa_12_0, c_ob_14, c_fa_14_0, c_fa_14_1, c_fa_14_2, c_fa_14_3, c_fi_14_4, c_put_14_4, c_ob_15, c_fa_15_0, c_ob_17, c_fa_17_0, c_ob_19, c_fa_19_0, c_ob_21, c_fa_21_0, c_len_0, c_ld_0, c_st_0, c_rd_0, c_wr_0, c_len_1, c_ld_1, c_st_1, c_rd_1, c_wr_1, c_len_2, c_ld_2, c_st_2, c_rd_2, c_wr_2, c_len_3, c_ld_3, c_st_3, c_rd_3, c_wr_3, c_len_4, c_ld_4, c_st_4, c_rd_4, c_wr_4, c_len_5, c_ld_5, c_st_5, c_rd_5, c_wr_5, c_len_6, c_ld_6, c_st_6, c_rd_6, c_wr_6, c_len_7, c_ld_7, c_st_7, c_rd_7, c_wr_7, c_len_8, c_ld_8, c_st_8, c_rd_8, c_wr_8, c_len_9, c_ld_9, c_st_9, c_rd_9, c_wr_9, bI_rI, bL_rL, bA_rA, bV_rV, bI_th, bL_th, bA_th, bV_th, rZ_0, rZ_1]
      rfl
    · obtain ⟨G1, r1, h1, s1⟩ := r_list0 h hx
      refine ⟨G1, ?_, h1, s1⟩
      unfold f_M_removeIf
      rw [r1]
      rfl
end If
end
section
-- all that ends around a list; pack, turn, sort
section Ard
variable {w : Nat → Nat} {b o m : Nat} {B : mS} {σ : cS} {H : gH} {p r s : Nat}
theorem mInv.l100 (hI : mInv m B) : ∀ q x, B.2.1 q = some x → x.2.2 < 100 := by
  intro q x hx
  have hq : mV B q := Or.inr (by rw [hx]; exact Option.some_ne_none _)
  obtain ⟨r1, s1, h1, -, a1, a2, -⟩ := hI.pl hq
  have a3 := mLen_part (A := B) (p := q) (by have := (hI.1.1 q x hx).1; omega) hx
  omega
theorem x_ard (hR : CRep σ B) (hI : mInv m B) (hv : mV B p) (hr : mRw B.2.1 zDp p = some (r, s)) :
    (∃ σ', f_X_endAround (cPut b σ H) b (nI p) = rI (nI (mES B r p).2) (cPut b σ' H) ∧ CRep σ' (mAround B r p)) ∧ mInv m (mAround B r p) ∧ (mAround B r p).1 = B.1 ∧ (mAround B r p).2.2.2 0 = B.2.2.2 0 ∧ mV (mAround B r p) p ∧ mLen (mAround B r p) p = mLen B p ∧ (mAround B r p).2.2.2 1 = B.2.2.2 1 := by
  obtain ⟨hd, hok⟩ := mArd.of (r := r) hI.1 hv (fun c x hx => ⟨(hI.2.2.2.1 c x hx).1, (hI.2.2.2.1 c x hx).2.2.1⟩)
  refine ⟨x_endAround hR hI.1 hI.l100 (fun c x hx => ⟨(hI.2.2.2.1 c x hx).2.1, (hI.2.2.2.1 c x hx).2.2.1⟩) hv hr hd, hI.ard hd hok, hd.1, hd.2.2.2.2.2.1 0 (by omega) (by omega), ?_, ?_, hd.2.2.2.2.2.1 1 (by omega) (by omega)⟩
  · rcases hv with h2 | h2
    · exact Or.inl h2
    · cases hx : B.2.1 p with
      | none => exact absurd hx h2
      | some x =>
        have := hd.2.2.1 p x hx
        rw [if_neg (fun q => by rw [mAb_refl] at q; cases q.2)] at this
        exact Or.inr (by rw [this]; exact Option.some_ne_none _)
  · by_cases h2 : p < 2
    · rw [mLen_row h2, mLen_row h2, hd.1]
    · rcases hv with h3 | h3
      · omega
      · cases hx : B.2.1 p with
        | none => exact absurd hx h3
        | some x =>
          have := hd.2.2.1 p x hx
          rw [if_neg (fun q => by rw [mAb_refl] at q; cases q.2)] at this
          rw [mLen_part h2 this, mLen_part h2 hx]
theorem s_ard {G : gH} {D : mD} (h : MS w o G B D) (hI : mInv m B) (hv : mV B p) (hr : mRw B.2.1 zDp p = some (r, s)) :
    ∃ (G1 G2 : gH) (D1 D2 : mD), f_M_endParts G o (nI r) (nI p) = rI (nI (mES B r p).2) G1 ∧ MS w o G1 (mES B r p).1 D1 ∧ f_M_rowOf zDp G1 o (nI p) = rI (nI r) G1 ∧ f_M_endCursors G1 o (nI r) = rV G2 ∧ MS w o G2 (mAround B r p) D2 ∧ mSt 0 0 G G2 := by
  have hr2 := mRw_lt _ _ _ _ hr
  obtain ⟨G1, G2, F1, F2, a1, a2, a3, a4, a5, a6, a7⟩ := s_around h hI.1 hv hr2 (fun c x hx => ⟨(hI.2.2.2.1 c x hx).1, (hI.2.2.2.1 c x hx).2.2.1⟩)
  have hk := (mES_char (r := r) hI.1 hv).2.1
  refine ⟨G1, G2, _, _, a1, a2, ?_, a4, a5, (a3.st.trans a6.st).mono (by omega) (by omega)⟩
  have hv1 : mV (mES B r p).1 p := by
    rcases hv with h2 | h2
    · exact Or.inl h2
    · by_cases h3 : p < 2
      · exact Or.inl h3
      · exact Or.inr (by rw [a7 p (mAb_refl _ _) (by omega)]; exact h2)
  exact s_rowOf a2 hk hv1 (((mAb.congr zDp p a7).2).trans hr)
end Ard
section Ard2
variable {w : Nat → Nat} {b o m : Nat} {A : mS} {σ : cS} {H : gH}
theorem mRw_r {P : mP} {r : Nat} (h : r < 2) : mRw P zDp r = some (r, 0) := by
  show mRw P (7 + 1) r = _
  unfold mRw; rw [if_pos h]
theorem sim_pack (hR : CRep σ A) (hI : mInv m A) (x y : Int32) : SimOp w b o A m σ H xI1 (f_X_pack (cPut b σ H) b x y) (fun G => f_M_pack G o x y) := by
  by_cases hx : mIsP 2 x
  · have hx' := hx
    obtain ⟨p, hp, rfl⟩ := hx
    have hr : mRw (mSet A 0 0).2.1 zDp p = some (p, 0) := mRw_r hp
    obtain ⟨⟨σ', y1, y2⟩, y3, -, y4, -⟩ := x_ard (b := b) (H := H) (B := mSet A 0 0) (σ := σ) ((CRepx.of (exc := -1) hR).thr 0) (hI.thr 0) (Or.inl hp) hr
    refine Sim.yes (nI (mES (mSet A 0 0) p p).2) σ' ?_ (fun G D h => ?_)
    · unfold f_X_pack
      simp only [x_needRow.1 hx', y1, c_ob_0, c_fa_0_0, c_fa_0_1, c_fi_0_2, c_put_0_2, c_fi_0_3, c_put_0_3, c_fi_0_4, c_put_0_4, c_ob_1, c_fa_1_0, c_fa_1_1, c_fa_1_2, c_fa_1_3, c_fa_1_4, c_fa_1_5, c_fi_1_6, c_put_1_6, c_ob_2, c_fa_2_0, c_ob_4, c_fa_4_0, c_ob_6, c_fa_6_0, c_ob_8, c_fa_8_0, c_ob_10, c_fa_10_0, c_ob_12, c_fa_12_0, c_ob_14, c_fa_14_0, c_fa_14_1, c_fa_14_2, c_fa_14_3, c_fi_14_4, c_put_14_4, c_ob_15, c_fa_15_0, c_ob_17, c_fa_17_0, c_ob_19, c_fa_19_0, c_ob_21, c_fa_21_0, c_len_0, c_ld_0, c_st_0, c_rd_0, c_wr_0, c_len_1, c_ld_1, c_st_1, c_rd_1, c_wr_1, c_len_2, c_ld_2, c_st_2, c_rd_2, c_wr_2, c_len_3, c_ld_3, c_st_3, c_rd_3, c_wr_3, c_len_4, c_ld_4, c_st_4, c_rd_4, c_wr_4, c_len_5, c_ld_5, c_st_5, c_rd_5, c_wr_5, c_len_6, c_ld_6, c_st_6, c_rd_6, c_wr_6, c_len_7, c_ld_7, c_st_7, c_rd_7, c_wr_7, c_len_8, c_ld_8, c_st_8, c_rd_8, c_wr_8, c_len_9, c_ld_9, c_st_9, c_rd_9, c_wr_9, bI_rI, bL_rL, bA_rA, bV_rV, bI_th, bL_th, bA_th, bV_th, rZ_0, rZ_1]
    · obtain ⟨G1, r1, h1, s1⟩ := s_go h
      obtain ⟨G2, G3, D2, D3, r2, h2, -, r3, h3, s3⟩ := s_ard h1 (hI.thr 0) (Or.inl hp) hr
      refine ⟨_, D3, G3, m, ?_, h3, y2, y3, Nat.le_succ m, y4, (s1.trans s3).mono (by omega) (by omega)⟩
      unfold f_M_pack
      rw [show f_M_isIn G (nI p) (nI 0) (nI 1) = rI 1 G from (s_isIn G 1 (by omega) _).1 ⟨p, by omega, rfl⟩, bI_rI, if_neg (by decide), gOb_of h.2.2.1 rfl, r1, bI_rI, if_pos rfl, gOb_of h1.2.2.1 rfl, r2, bI_rI, gOb_of h2.2.2.1 rfl, r3, bV_rV]
  · refine Sim.no hR hI 1 (by decide) (by decide) ?_ (fun G D h => ?_)
    · unfold f_X_pack
      simp only [x_needRow.2 hx, c_ob_0, c_fa_0_0, c_fa_0_1, c_fi_0_2, c_put_0_2, c_fi_0_3, c_put_0_3, c_fi_0_4, c_put_0_4, c_ob_1, c_fa_1_0, c_fa_1_1, c_fa_1_2, c_fa_1_3, c_fa_1_4, c_fa_1_5, c_fi_1_6, c_put_1_6, c_ob_2, c_fa_2_0, c_ob_4, c_fa_4_0, c_ob_6, c_fa_6_0, c_ob_8, c_fa_8_0, c_ob_10, c_fa_10_0, c_ob_12, c_fa_12_0, c_ob_14, c_fa_14_0, c_fa_14_1, c_fa_14_2, c_fa_14_3, c_fi_14_4, c_put_14_4, c_ob_15, c_fa_15_0, c_ob_17, c_fa_17_0, c_ob_19, c_fa_19_0, c_ob_21, c_fa_21_0, c_len_0, c_ld_0, c_st_0, c_rd_0, c_wr_0, c_len_1, c_ld_1, c_st_1, c_rd_1, c_wr_1, c_len_2, c_ld_2, c_st_2, c_rd_2, c_wr_2, c_len_3, c_ld_3, c_st_3, c_rd_3, c_wr_3, c_len_4, c_ld_4, c_st_4, c_rd_4, c_wr_4, c_len_5, c_ld_5, c_st_5, c_rd_5, c_wr_5, c_len_6, c_ld_6, c_st_6, c_rd_6, c_wr_6, c_len_7, c_ld_7, c_st_7, c_rd_7, c_wr_7, c_len_8, c_ld_8, c_st_8, c_rd_8, c_wr_8, c_len_9, c_ld_9, c_st_9, c_rd_9, c_wr_9, bI_rI, bL_rL, bA_rA, bV_rV, bI_th, bL_th, bA_th, bV_th, rZ_0, rZ_1]
      rfl
    · obtain ⟨G1, r1, h1, s1⟩ := s_halt1 h
      refine ⟨G1, ?_, h1, s1⟩
      unfold f_M_pack
      rw [show f_M_isIn G x (nI 0) (nI 1) = rI 0 G from (s_isIn G 1 (by omega) _).2 (fun ⟨i, hi, e⟩ => hx ⟨i, by omega, e⟩), bI_rI, if_pos rfl, gOb_of h.2.2.1 rfl, r1, bI_rI, if_neg (by decide)]
      rfl
theorem sim_turn (hR : CRep σ A) (hI : mInv m A) (x : Int32) : SimOp w b o A m σ H xI1 (f_X_turn (cPut b σ H) b x) (fun G => f_M_turn w G o x) := by
  have hX := CRepx.of (exc := -1) hR
  by_cases hx : mIsL A x
  · have hL := hx
    obtain ⟨p, hp, rfl, hv⟩ := hx
    have hv : mV A p := hv
    obtain ⟨r, s, hr, hr2, hfit, h31, hp6, hro⟩ := hI.pl hv
    have hW := hI.w p
    have hsl : (sSeg A r s (mLen A p)).length = mLen A p := sSeg_len hfit
    obtain ⟨σ', y1, y2⟩ := x_turn (b := b) (G := H) (K := fun G19 x18 => rI x18 G19) (hX.thr 0) ((hI.thr 0).w p) hv hr
    have y1' : f_X_turn_L16 (fun G19 x18 => rI x18 G19) zFu (cPut b σ H) b (nI p) (nI (mLen A p)) (nI 0) = rI (nI (mLen A p)) (cPut b σ' H) := y1
    refine Sim.yes (nI (mLen A p)) σ' ?_ (fun G D h => ?_)
    · unfold f_X_turn
      simp only [x_needList hX hW hL, x_len hX hW.1 hv, y1', c_ob_0, c_fa_0_0, c_fa_0_1, c_fi_0_2, c_put_0_2, c_fi_0_3, c_put_0_3, c_fi_0_4, c_put_0_4, c_ob_1, c_fa_1_0, c_fa_1_1, c_fa_1_2, c_fa_1_3, c_fa_1_4, c_fa_1_5, c_fi_1_6, c_put_1_6, c_ob_2, c_fa_2_0, c_ob_4, c_fa_4_0, c_ob_6, c_fa_6_0, c_ob_8, c_fa_8_0, c_ob_10, c_fa_10_0, c_ob_12, c_fa_12_0, c_ob_14, c_fa_14_0, c_fa_14_1, c_fa_14_2, c_fa_14_3, c_fi_14_4, c_put_14_4, c_ob_15, c_fa_15_0, c_ob_17, c_fa_17_0, c_ob_19, c_fa_19_0, c_ob_21, c_fa_21_0, c_len_0, c_ld_0, c_st_0, c_rd_0, c_wr_0, c_len_1, c_ld_1, c_st_1, c_rd_1, c_wr_1, c_len_2, c_ld_2, c_st_2, c_rd_2, c_wr_2, c_len_3, c_ld_3, c_st_3, c_rd_3, c_wr_3, c_len_4, c_ld_4, c_st_4, c_rd_4, c_wr_4, c_len_5, c_ld_5, c_st_5, c_rd_5, c_wr_5, c_len_6, c_ld_6, c_st_6, c_rd_6, c_wr_6, c_len_7, c_ld_7, c_st_7, c_rd_7, c_wr_7, c_len_8, c_ld_8, c_st_8, c_rd_8, c_wr_8, c_len_9, c_ld_9, c_st_9, c_rd_9, c_wr_9, bI_rI, bL_rL, bA_rA, bV_rV, bI_th, bL_th, bA_th, bV_th, rZ_0, rZ_1]
    · obtain ⟨G1, r1, h1, s1⟩ := r_list1 h hL
      obtain ⟨G2, e, cap, a1, a2, a3, a4, -, a6, a7⟩ := s_copy h1 hW.1 hv hr hfit h31
      have hap : mAp w D G1.2.1 e := mAp.fresh (G' := G2) h1 rfl a4
      obtain ⟨G3, b1, b2, b3, b4⟩ := m_turnL (K := fun G38 x37 => gOb G38 x37 9 fun o40 => bI (f_AL_size G38 x37) fun v43 G42 => rI v43 G42) (A := mSet A 0 0) (src := sSeg A r s (mLen A p)) hW.1 hv hr hfit h31 hsl hap (mLen A p) zFu 0 G2 (by show 0 + mLen A p = mLen A p; omega) (by unfold zFu; omega) (by
        have e : sSpl (A.1 r) s ((sSeg A r s (mLen A p)).reverse.take 0) = A.1 r := by
          unfold sSpl; rw [List.take_zero, List.nil_append, List.length_nil, Nat.add_zero, List.take_append_drop]
        show MS w o G2 (mRows (mSet A 0 0) r (sSpl (A.1 r) s ((sSeg A r s (mLen A p)).reverse.take 0))) D
        rw [e, show mRows (mSet A 0 0) r (A.1 r) = mSet A 0 0 from mRows_self (A := mSet A 0 0)]
        exact a6) a2 ((h1.ts (s := s) (n := mLen A p) hr2 (hI.2.2.1 r hr2).2 hI.2.2.2.2.2).st h1.1 a7)
      obtain ⟨m1, κ1, f1, u1, -⟩ := id b3
      refine ⟨_, D, G3, m, ?_, b2, y2, (hI.thr 0).rows (sSpl_len (by rw [List.length_reverse, hsl]; exact hfit)) (fun t ht => ?_), Nat.le_succ m, rfl, ((s1.trans a7).trans b4).mono (by omega) (by omega)⟩
      · unfold f_M_turn
        rw [r1, gOb_of h1.2.2.1 rfl, a1, bA_rA, b1, gOb_of u1 rfl, al_size b3.al, bI_rI, List.length_map, hsl]
      · rcases sSpl_mem ht with q | q
        · exact (hI.2.2.1 r hr2).2 t q
        · exact (hI.2.2.1 r hr2).2 t (sSeg_mem (List.mem_reverse.mp q))
  · refine Sim.no hR hI 1 (by decide) (by decide) ?_ (fun G D h => ?_)
    · unfold f_X_turn
      simp only [x_needList_no hX (hI.w 0) hx, c_ob_0, c_fa_0_0, c_fa_0_1, c_fi_0_2, c_put_0_2, c_fi_0_3, c_put_0_3, c_fi_0_4, c_put_0_4, c_ob_1, c_fa_1_0, c_fa_1_1, c_fa_1_2, c_fa_1_3, c_fa_1_4, c_fa_1_5, c_fi_1_6, c_put_1_6, c_ob_2, c_fa_2_0, c_ob_4, c_fa_4_0, c_ob_6, c_fa_6_0, c_ob_8, c_fa_8_0, c_ob_10, c_fa_10_0, c_ob_12, c_fa_12_0, c_ob_14, c_fa_14_0, c_fa_14_1, c_fa_14_2, c_fa_14_3, c_fi_14_4, c_put_14_4, c_ob_15, c_fa_15_0, c_ob_17, c_fa_17_0, c_ob_19, c_fa_19_0, c_ob_21, c_fa_21_0, c_len_0, c_ld_0, c_st_0, c_rd_0, c_wr_0, c_len_1, c_ld_1, c_st_1, c_rd_1, c_wr_1, c_len_2, c_ld_2, c_st_2, c_rd_2, c_wr_2, c_len_3, c_ld_3, c_st_3, c_rd_3, c_wr_3, c_len_4, c_ld_4, c_st_4, c_rd_4, c_wr_4, c_len_5, c_ld_5, c_st_5, c_rd_5, c_wr_5, c_len_6, c_ld_6, c_st_6, c_rd_6, c_wr_6, c_len_7, c_ld_7, c_st_7, c_rd_7, c_wr_7, c_len_8, c_ld_8, c_st_8, c_rd_8, c_wr_8, c_len_9, c_ld_9, c_st_9, c_rd_9, c_wr_9, bI_rI, bL_rL, bA_rA, bV_rV, bI_th, bL_th, bA_th, bV_th, rZ_0, rZ_1]
      rfl
    · obtain ⟨G1, r1, h1, s1⟩ := r_list0 h hx
      refine ⟨G1, ?_, h1, s1⟩
      unfold f_M_turn
      rw [r1]
      rfl
end Ard2
end
section
section Srt
variable {w : Nat → Nat} {b o m : Nat} {A : mS} {σ : cS} {H : gH}
theorem sSpl_0 {L : List (Nat × Nat × Nat)} {s : Nat} : sSpl L s [] = L := by
  unfold sSpl; rw [List.nil_append, List.length_nil, Nat.add_zero, List.take_append_drop]
theorem s_order0 {G : gH} {a e cap : Nat} {v : Int32} (h : isALc w G a e cap []) : f_M_order G a v = rV G := by
  obtain ⟨m, κ, f, u1, -⟩ := id h
  unfold f_M_order
  show f_M_order_L2 _ (5999 + 1) G a v (nI 1) = _
  unfold f_M_order_L2
  rw [gOb_of u1 rfl, al_size h.al, bI_rI, List.length_nil, if_pos (nI_le (Nat.zero_le 1) (by omega))]
theorem sim_sort (hR : CRep σ A) (hI : mInv m A) (x y : Int32) : SimOp w b o A m σ H xIG (f_X_sort (cPut b σ H) b x y) (fun G => f_M_sort w G o x y) := by
  have hX := CRepx.of (exc := -1) hR
  by_cases hx : mIsL A x
  · have hL := hx
    obtain ⟨p, hp, rfl, hv⟩ := hx
    have hv : mV A p := hv
    obtain ⟨r, s, hr, hr2, hfit, h31, hp6, hro⟩ := hI.pl hv
    have hW := hI.w p
    have hIt : mInv m (mSet A 0 0) := hI.thr 0
    have hsl : (sSeg A r s (mLen A p)).length = mLen A p := sSeg_len hfit
    by_cases hy : mIsG 4 y
    · have hy' := hy
      obtain ⟨ord, ho4, rfl⟩ := hy
      have hol : (sSo (tR ord) [] (sSeg A r s (mLen A p))).length = mLen A p := by
        rw [sSo_len, hsl]; simp
      have hnew : (sSo (tR ord) [] (sSeg A r s (mLen A p))).map Prod.snd = sSo (sR ord) [] ((sSeg A r s (mLen A p)).map Prod.snd) := by
        rw [sSo_map (R := tR ord) (S := sR ord) Prod.snd (fun _ _ => rfl)]; rfl
      generalize hso : sSo (tR ord) [] (sSeg A r s (mLen A p)) = so at hol hnew
      obtain ⟨σ1, y1, y2⟩ := x_arrange (b := b) (G := H) (exc := -1) (new := so) (hX.thr 0) (hIt.w p) hv hr (hI.2.2.1 r hr2).2 hI.2.2.2.2.2 (show ord < 5 by omega) hnew
      have hIB : mInv m (mRows (mSet A 0 0) r (sSpl (A.1 r) s so)) := hIt.rows (sSpl_len (by rw [hol]; exact hfit)) (fun t ht => by
        rcases sSpl_mem ht with q | q
        · exact (hI.2.2.1 r hr2).2 t q
        · rw [← hso] at q
          rcases sSo_mem _ _ q with z | z
          · cases z
          · exact (hI.2.2.1 r hr2).2 t (sSeg_mem z))
      have hvB : mV (mRows (mSet A 0 0) r (sSpl (A.1 r) s so)) p := hv
      have hrB : mRw (mRows (mSet A 0 0) r (sSpl (A.1 r) s so)).2.1 zDp p = some (r, s) := hr
      obtain ⟨⟨σ', z1, z2⟩, z3, -, z4, -⟩ := x_ard (b := b) (H := H) y2 hIB hvB hrB
      have y1' : f_I_arrange (cPut b σ H) (b + 1) (nI p) (nI ord) = rI (nI (sDf ((sSeg A r s (mLen A p)).map Prod.snd) (so.map Prod.snd) 0 (mLen A p))) (cPut b σ1 H) := y1
      refine Sim.yes (nI (sDf ((sSeg A r s (mLen A p)).map Prod.snd) (so.map Prod.snd) 0 (mLen A p))) σ' ?_ (fun G D h => ?_)
      · unfold f_X_sort
        simp only [x_needList hX hW hL, y1', z1, c_ob_0, c_fa_0_0, c_fa_0_1, c_fi_0_2, c_put_0_2, c_fi_0_3, c_put_0_3, c_fi_0_4, c_put_0_4, c_ob_1, c_fa_1_0, c_fa_1_1, c_fa_1_2, c_fa_1_3, c_fa_1_4, c_fa_1_5, c_fi_1_6, c_put_1_6, c_ob_2, c_fa_2_0, c_ob_4, c_fa_4_0, c_ob_6, c_fa_6_0, c_ob_8, c_fa_8_0, c_ob_10, c_fa_10_0, c_ob_12, c_fa_12_0, c_ob_14, c_fa_14_0, c_fa_14_1, c_fa_14_2, c_fa_14_3, c_fi_14_4, c_put_14_4, c_ob_15, c_fa_15_0, c_ob_17, c_fa_17_0, c_ob_19, c_fa_19_0, c_ob_21, c_fa_21_0, c_len_0, c_ld_0, c_st_0, c_rd_0, c_wr_0, c_len_1, c_ld_1, c_st_1, c_rd_1, c_wr_1, c_len_2, c_ld_2, c_st_2, c_rd_2, c_wr_2, c_len_3, c_ld_3, c_st_3, c_rd_3, c_wr_3, c_len_4, c_ld_4, c_st_4, c_rd_4, c_wr_4, c_len_5, c_ld_5, c_st_5, c_rd_5, c_wr_5, c_len_6, c_ld_6, c_st_6, c_rd_6, c_wr_6, c_len_7, c_ld_7, c_st_7, c_rd_7, c_wr_7, c_len_8, c_ld_8, c_st_8, c_rd_8, c_wr_8, c_len_9, c_ld_9, c_st_9, c_rd_9, c_wr_9, bI_rI, bL_rL, bA_rA, bV_rV, bI_th, bL_th, bA_th, bV_th, rZ_0, rZ_1]
        rw [if_neg ((nI_gap (by omega)).mp hy').1, if_pos ((nI_plc (L := 5) (by omega)).mp ⟨ord, by omega, rfl⟩).2]
      · obtain ⟨G1, r1, h1, s1⟩ := r_list1 h hL
        obtain ⟨G2, e, cap, a1, a2, a3, a4, a5, a6, a7⟩ := s_copy h1 hW.1 hv hr hfit h31
        have hap : mAp w D G1.2.1 e := mAp.fresh (G' := G2) h1 rfl a4
        have hts := (h1.ts (s := s) (n := mLen A p) hr2 (hI.2.2.1 r hr2).2 hI.2.2.2.2.2).st h1.1 a7
        have hw0 : w 0 < G1.2.1 := by
          obtain ⟨f, hf⟩ := h1.2.1
          exact h1.1 _ _ hf
        have hN : ∃ G3, f_M_order G2 G1.2.1 (nI ord) = rV G3 ∧ isALc w G3 G1.2.1 e cap (so.map fun t => t.1) ∧ mTs G3 so ∧ gWf G3 ∧ G3.2.1 = G2.2.1 ∧ G3.1 = G2.1 ∧ gB G1.2.1 G1 G3 := by
          by_cases hz : mLen A p = 0
          · have e1 : so = [] := List.eq_nil_of_length_eq_zero (by omega)
            have e2 : sSeg (mSet A 0 0) r s (mLen (mSet A 0 0) p) = [] := List.eq_nil_of_length_eq_zero (by rw [show (sSeg (mSet A 0 0) r s (mLen (mSet A 0 0) p)).length = mLen A p from hsl]; exact hz)
            rw [e2] at a2
            rw [e1]
            exact ⟨G2, s_order0 a2, a2, (fun t ht => absurd ht (List.not_mem_nil)), a6.1, rfl, rfl, a5⟩
          · obtain ⟨G3, o1, o2, o3, o4, o5, o6, o7⟩ := s_order (ord := ord) (z := G1.2.1) (by omega) a3 a4 hw0 (by rw [show (sSeg (mSet A 0 0) r s (mLen (mSet A 0 0) p)).length = mLen A p from hsl]; omega) a6.1 a2 hts
            rw [show sSo (tR ord) [] (sSeg (mSet A 0 0) r s (mLen (mSet A 0 0) p)) = so from hso] at o2 o3
            refine ⟨G3, o1, o2, o3, o4, o5, o6, fun q hq => ?_⟩
            by_cases he : q = e
            · have hew : e = w 0 := by
                rcases a4 with k | k
                · omega
                · exact k
              obtain ⟨m1, κ1, f1, u1, u2, u3, u4, -⟩ := id a2
              obtain ⟨f0, hf0⟩ := a6.2.1
              rw [hew, hf0] at u2
              rw [List.length_map, show (sSeg (mSet A 0 0) r s (mLen (mSet A 0 0) p)).length = mLen A p from hsl] at u4
              rcases u3 with ⟨k1, -⟩ | ⟨-, -, k1⟩
              · rw [k1] at u2
                have := Option.some.inj u2
                unfold zQ at this
                cases this
              · omega
            · rw [o7 q he, a5 q hq]
        obtain ⟨G3, o1, o2, o3, o4, o5, o6, o7⟩ := hN
        have l1 : G1.2.1 ≤ G2.2.1 := a7.1.1
        have l2 : G2.2.1 ≤ G1.2.1 + 5 := a7.1.2.1
        have l3 : G1.1 ≤ G2.1 := a7.1.2.2.1
        have l4 : G2.1 ≤ G1.1 + 83 := a7.1.2.2.2.1
        have hS := mSt.gB (k := 5) (n := 83) h1.1 o7 o4 (by omega) (by omega) (by omega) (by omega)
        have h3 : MS w o G3 (mSet A 0 0) D := h1.step hS (h1.2.2.new h1.1 o7)
        obtain ⟨G4, b1, b2, b3, b4⟩ := m_sortL (K := fun G59 x56 x57 x58 => gOb G59 x56 6 fun o61 => bI (f_M_rowOf zDp G59 x56 x57) fun v64 G63 => gOb G63 x56 6 fun o66 => bI (f_M_endParts G63 x56 v64 x57) fun v69 G68 => gOb G68 x56 6 fun o71 => bI (f_M_rowOf zDp G68 x56 x57) fun v74 G73 => gOb G73 x56 6 fun o76 => bV (f_M_endCursors G73 x56 v74) fun G78 => rI x58 G78) (A := mSet A 0 0) (src := so) hW.1 hv hr hfit h31 hol hap (fun t ht => by
          have := ((hI.2.2.1 r hr2).2 t (sSeg_mem ht)).2
          have := hI.2.2.2.2.2
          omega) (mLen A p) zFu 0 0 G3 (by show 0 + mLen A p = mLen A p; omega) (by unfold zFu; omega) (by
          show MS w o G3 (mRows (mSet A 0 0) r (sSpl (A.1 r) s [])) D
          rw [sSpl_0, show mRows (mSet A 0 0) r (A.1 r) = mSet A 0 0 from mRows_self (A := mSet A 0 0)]
          exact h3) o2 o3
        obtain ⟨G5, G6, D5, D6, r5, h5, r6, r7, h7, s7⟩ := s_ard b2 hIB hvB hrB
        refine ⟨_, D6, G6, m, ?_, h7, z2, z3, Nat.le_succ m, z4, (((s1.trans hS).trans b4).trans s7).mono (by omega) (by omega)⟩
        unfold f_M_sort
        rw [r1, (s_isIn G1 4 (by omega) _).1 hy', bI_rI, if_neg (by decide), r_ref0 h1 rfl, gOb_of h1.2.2.1 rfl, a1, bA_rA, o1, bV_rV, b1, gOb_of b2.2.2.1 rfl, s_rowOf b2 hIB.1 hvB hrB, bI_rI, gOb_of b2.2.2.1 rfl, r5, bI_rI, gOb_of h5.2.2.1 rfl, r6, bI_rI, gOb_of h5.2.2.1 rfl, r7, bV_rV, Nat.zero_add]
        rfl
    · refine Sim.no hR hI 2 (by decide) (by decide) ?_ (fun G D h => ?_)
      · unfold f_X_sort
        simp only [x_needList hX hW hL, c_ob_0, c_fa_0_0, c_fa_0_1, c_fi_0_2, c_put_0_2, c_fi_0_3, c_put_0_3, c_fi_0_4, c_put_0_4, c_ob_1, c_fa_1_0, c_fa_1_1, c_fa_1_2, c_fa_1_3, c_fa_1_4, c_fa_1_5, c_fi_1_6, c_put_1_6, c_ob_2, c_fa_2_0, c_ob_4, c_fa_4_0, c_ob_6, c_fa_6_0, c_ob_8, c_fa_8_0, c_ob_10, c_fa_10_0, c_ob_12, c_fa_12_0, c_ob_14, c_fa_14_0, c_fa_14_1, c_fa_14_2, c_fa_14_3, c_fi_14_4, c_put_14_4, c_ob_15, c_fa_15_0, c_ob_17, c_fa_17_0, c_ob_19, c_fa_19_0, c_ob_21, c_fa_21_0, c_len_0, c_ld_0, c_st_0, c_rd_0, c_wr_0, c_len_1, c_ld_1, c_st_1, c_rd_1, c_wr_1, c_len_2, c_ld_2, c_st_2, c_rd_2, c_wr_2, c_len_3, c_ld_3, c_st_3, c_rd_3, c_wr_3, c_len_4, c_ld_4, c_st_4, c_rd_4, c_wr_4, c_len_5, c_ld_5, c_st_5, c_rd_5, c_wr_5, c_len_6, c_ld_6, c_st_6, c_rd_6, c_wr_6, c_len_7, c_ld_7, c_st_7, c_rd_7, c_wr_7, c_len_8, c_ld_8, c_st_8, c_rd_8, c_wr_8, c_len_9, c_ld_9, c_st_9, c_rd_9, c_wr_9, bI_rI, bL_rL, bA_rA, bV_rV, bI_th, bL_th, bA_th, bV_th, rZ_0, rZ_1]
        by_cases h0 : y < 0
        · rw [if_pos h0]; rfl
        · rw [if_neg h0, if_neg (fun q => hy (by
            obtain ⟨i, hi, e⟩ := (nI_plc (L := 5) (by omega)).mpr ⟨h0, q⟩
            exact ⟨i, by omega, e⟩))]; rfl
      · obtain ⟨G1, r1, h1, s1⟩ := r_list1 h hL
        obtain ⟨G2, r2, h2, s2⟩ := r_no1 (c := 2) h1 (by decide)
        refine ⟨G2, ?_, h2, (s1.trans s2).mono (by omega) (by omega)⟩
        unfold f_M_sort
        rw [r1, (s_isIn G1 4 (by omega) _).2 hy, bI_rI, if_pos rfl, r2]
        rfl
  · refine Sim.no hR hI 1 (by decide) (by decide) ?_ (fun G D h => ?_)
    · unfold f_X_sort
      simp only [x_needList_no hX (hI.w 0) hx, c_ob_0, c_fa_0_0, c_fa_0_1, c_fi_0_2, c_put_0_2, c_fi_0_3, c_put_0_3, c_fi_0_4, c_put_0_4, c_ob_1, c_fa_1_0, c_fa_1_1, c_fa_1_2, c_fa_1_3, c_fa_1_4, c_fa_1_5, c_fi_1_6, c_put_1_6, c_ob_2, c_fa_2_0, c_ob_4, c_fa_4_0, c_ob_6, c_fa_6_0, c_ob_8, c_fa_8_0, c_ob_10, c_fa_10_0, c_ob_12, c_fa_12_0, c_ob_14, c_fa_14_0, c_fa_14_1, c_fa_14_2, c_fa_14_3, c_fi_14_4, c_put_14_4, c_ob_15, c_fa_15_0, c_ob_17, c_fa_17_0, c_ob_19, c_fa_19_0, c_ob_21, c_fa_21_0, c_len_0, c_ld_0, c_st_0, c_rd_0, c_wr_0, c_len_1, c_ld_1, c_st_1, c_rd_1, c_wr_1, c_len_2, c_ld_2, c_st_2, c_rd_2, c_wr_2, c_len_3, c_ld_3, c_st_3, c_rd_3, c_wr_3, c_len_4, c_ld_4, c_st_4, c_rd_4, c_wr_4, c_len_5, c_ld_5, c_st_5, c_rd_5, c_wr_5, c_len_6, c_ld_6, c_st_6, c_rd_6, c_wr_6, c_len_7, c_ld_7, c_st_7, c_rd_7, c_wr_7, c_len_8, c_ld_8, c_st_8, c_rd_8, c_wr_8, c_len_9, c_ld_9, c_st_9, c_rd_9, c_wr_9, bI_rI, bL_rL, bA_rA, bV_rV, bI_th, bL_th, bA_th, bV_th, rZ_0, rZ_1]
      rfl
    · obtain ⟨G1, r1, h1, s1⟩ := r_list0 h hx
      refine ⟨G1, ?_, h1, s1⟩
      unfold f_M_sort
      rw [r1]
      rfl
end Srt
end
section
section Mov
variable {w : Nat → Nat} {b o m : Nat} {A : mS} {σ : cS} {H : gH}
theorem by_nat {x : Int32} (h1 : ¬ x < -40) (h2 : x ≤ nI 40) : ∃ z : Nat, z < 81 ∧ x = Int32.ofInt ((z : Int) - 40) := by
  rw [Int32.lt_iff_toInt_lt] at h1
  rw [Int32.le_iff_toInt_le, nI_toInt (by omega)] at h2
  rw [show (-40 : Int32).toInt = -40 by decide] at h1
  refine ⟨(x.toInt + 40).toNat, by omega, ?_⟩
  rw [show (((x.toInt + 40).toNat : Nat) : Int) - 40 = x.toInt by omega, Int32.ofInt_toInt]
theorem ref_in {G : gH} {y : Int32} : (¬ y < -40 ∧ ¬ nI 40 < y → f_M_isIn G y (-40) (nI 40) = rI 1 G) ∧ (¬ (¬ y < -40 ∧ ¬ nI 40 < y) → f_M_isIn G y (-40) (nI 40) = rI 0 G) := by
  refine ⟨fun k => ?_, fun k => ?_⟩
  · rw [m_isIn, decide_eq_true k]; exact rZ_1
  · rw [m_isIn, decide_eq_false k]; exact rZ_0
theorem sim_move (hR : CRep σ A) (hI : mInv m A) (x y : Int32) : SimOp w b o A m σ H xIG (f_X_move (cPut b σ H) b x y) (fun G => f_M_move w G o x y) := by
  have hX := CRepx.of (exc := -1) hR
  by_cases hx : mIsL A x
  · have hL := hx
    obtain ⟨p, hp, rfl, hv⟩ := hx
    have hv : mV A p := hv
    obtain ⟨r, s, hr, hr2, hfit, h31, hp6, hro⟩ := hI.pl hv
    have hW := hI.w p
    have hIt : mInv m (mSet A 0 0) := hI.thr 0
    have hsl : (sSeg A r s (mLen A p)).length = mLen A p := sSeg_len hfit
    by_cases hy : ¬ y < -40 ∧ ¬ nI 40 < y
    · obtain ⟨z, hz, rfl⟩ := by_nat hy.1 (Int32.not_lt.mp hy.2)
      have hts : ∀ (G1 G2 : gH) (D : mD) (k n : Nat), MS w o G1 (mSet A 0 0) D → mSt k n G1 G2 → mTs G2 (sSeg A r s (mLen A p)) := fun G1 G2 D k n h1 a7 => (h1.ts (s := s) (n := mLen A p) hr2 (hI.2.2.1 r hr2).2 hI.2.2.2.2.2).st h1.1 a7
      by_cases h0 : mLen A p = 0
      · refine Sim.yes (-1) σ ?_ (fun G D h => ?_)
        · unfold f_X_move
          simp only [x_needList hX hW hL, x_len hX hW.1 hv, c_ob_0, c_fa_0_0, c_fa_0_1, c_fi_0_2, c_put_0_2, c_fi_0_3, c_put_0_3, c_fi_0_4, c_put_0_4, c_ob_1, c_fa_1_0, c_fa_1_1, c_fa_1_2, c_fa_1_3, c_fa_1_4, c_fa_1_5, c_fi_1_6, c_put_1_6, c_ob_2, c_fa_2_0, c_ob_4, c_fa_4_0, c_ob_6, c_fa_6_0, c_ob_8, c_fa_8_0, c_ob_10, c_fa_10_0, c_ob_12, c_fa_12_0, c_ob_14, c_fa_14_0, c_fa_14_1, c_fa_14_2, c_fa_14_3, c_fi_14_4, c_put_14_4, c_ob_15, c_fa_15_0, c_ob_17, c_fa_17_0, c_ob_19, c_fa_19_0, c_ob_21, c_fa_21_0, c_len_0, c_ld_0, c_st_0, c_rd_0, c_wr_0, c_len_1, c_ld_1, c_st_1, c_rd_1, c_wr_1, c_len_2, c_ld_2, c_st_2, c_rd_2, c_wr_2, c_len_3, c_ld_3, c_st_3, c_rd_3, c_wr_3, c_len_4, c_ld_4, c_st_4, c_rd_4, c_wr_4, c_len_5, c_ld_5, c_st_5, c_rd_5, c_wr_5, c_len_6, c_ld_6, c_st_6, c_rd_6, c_wr_6, c_len_7, c_ld_7, c_st_7, c_rd_7, c_wr_7, c_len_8, c_ld_8, c_st_8, c_rd_8, c_wr_8, c_len_9, c_ld_9, c_st_9, c_rd_9, c_wr_9, bI_rI, bL_rL, bA_rA, bV_rV, bI_th, bL_th, bA_th, bV_th, rZ_0, rZ_1]
          rw [if_neg hy.1, if_pos (Int32.not_lt.mp hy.2), h0, if_pos nI0]
        · obtain ⟨G1, r1, h1, s1⟩ := r_list1 h hL
          obtain ⟨G2, e, cap, a1, a2, a3, a4, -, a6, a7⟩ := s_copy h1 hW.1 hv hr hfit h31
          obtain ⟨m1, κ1, f1, u1, -⟩ := id a2
          have hlen : ((sSeg (mSet A 0 0) r s (mLen (mSet A 0 0) p)).map fun t => t.1).length = 0 := by
            rw [List.length_map]; exact hsl.trans h0
          refine ⟨_, D, G2, m, ?_, a6, hR, hIt, Nat.le_succ m, rfl, (s1.trans a7).mono (by omega) (by omega)⟩
          unfold f_M_move
          rw [r1, ref_in.1 hy, bI_rI, if_neg (by decide), r_ref0 h1 rfl, gOb_of h1.2.2.1 rfl, a1, bA_rA, gOb_of u1 rfl, al_size a2.al, bI_rI, hlen]
          show f_M_move_L54 w _ (5999 + 1) G2 o _ _ _ _ _ = _
          unfold f_M_move_L54
          rw [if_pos (nI_le (Nat.le_refl 0) (by omega)), if_pos nI0]
      · obtain ⟨σ1, y1, y2⟩ := x_moveOn (b := b) (G := H) (exc := -1) (z := z) (hX.thr 0) (hIt.w p) hv hr (hI.2.2.1 r hr2).2 hI.2.2.2.2.2 hz (show 0 < mLen A p by omega)
        have y1' : f_I_moveOn (cPut b σ H) (b + 1) (nI p) (Int32.ofInt ((z : Int) - 40)) = rV (cPut b σ1 H) := y1
        have hlB : (sMv (sFm z (mLen A p)) (sSeg A r s (mLen A p)) s 0 (mLen A p) (A.1 r)).length = (A.1 r).length := sMv_len ..
        have hIB : mInv m (mRows (mSet A 0 0) r (sMv (sFm z (mLen A p)) (sSeg A r s (mLen A p)) s 0 (mLen A p) (A.1 r))) := hIt.rows hlB (fun t ht => by
          rcases sMv_mem _ _ _ ht with q | q
          · exact (hI.2.2.1 r hr2).2 t q
          · exact (hI.2.2.1 r hr2).2 t (sSeg_mem q))
        change CRepx (-1) σ1 (mRows (mSet A 0 0) r (sMv (sFm z (mLen A p)) (sSeg A r s (mLen A p)) s 0 (mLen A p) (A.1 r))) at y2
        generalize hLn : sMv (sFm z (mLen A p)) (sSeg A r s (mLen A p)) s 0 (mLen A p) (A.1 r) = Ln at y2 hlB hIB
        have ht := List.getElem?_eq_getElem (show s + 0 < Ln.length by omega)
        generalize Ln[s + 0] = t at ht
        have hat : ((mRows (mSet A 0 0) r Ln).1 r)[s + 0]? = some t := by rw [mRows_at]; exact ht
        have hvB : mV (mRows (mSet A 0 0) r Ln) p := hv
        have hrB : mRw (mRows (mSet A 0 0) r Ln).2.1 zDp p = some (r, s) := hr
        have hto := (hIB.2.2.1 r hr2).2 t (List.mem_of_getElem? hat)
        have h600 := hI.2.2.2.2.2
        have n0 : ¬ nI (mLen A p) = 0 := fun q => h0 (nI_eq31 (by omega) (by omega) (q.trans nI0.symm))
        have x1 : f_I_thingAt (cPut b σ1 H) (b + 1) (nI p) (nI 0) = rI (nI (32 * t.2.2 + t.2.1)) (cPut b σ1 H) := x_at y2 (hIB.w p) hvB hrB hat
        refine Sim.yes (nI t.2.2) σ1 ?_ (fun G D h => ?_)
        · unfold f_X_move
          simp only [x_needList hX hW hL, x_len hX hW.1 hv, y1', x1, x_tagOf (show t.2.1 < 32 by have := hto.1; omega) (show t.2.2 ≤ 1000 by have := hto.2; omega), c_ob_0, c_fa_0_0, c_fa_0_1, c_fi_0_2, c_put_0_2, c_fi_0_3, c_put_0_3, c_fi_0_4, c_put_0_4, c_ob_1, c_fa_1_0, c_fa_1_1, c_fa_1_2, c_fa_1_3, c_fa_1_4, c_fa_1_5, c_fi_1_6, c_put_1_6, c_ob_2, c_fa_2_0, c_ob_4, c_fa_4_0, c_ob_6, c_fa_6_0, c_ob_8, c_fa_8_0, c_ob_10, c_fa_10_0, c_ob_12, c_fa_12_0, c_ob_14, c_fa_14_0, c_fa_14_1, c_fa_14_2, c_fa_14_3, c_fi_14_4, c_put_14_4, c_ob_15, c_fa_15_0, c_ob_17, c_fa_17_0, c_ob_19, c_fa_19_0, c_ob_21, c_fa_21_0, c_len_0, c_ld_0, c_st_0, c_rd_0, c_wr_0, c_len_1, c_ld_1, c_st_1, c_rd_1, c_wr_1, c_len_2, c_ld_2, c_st_2, c_rd_2, c_wr_2, c_len_3, c_ld_3, c_st_3, c_rd_3, c_wr_3, c_len_4, c_ld_4, c_st_4, c_rd_4, c_wr_4, c_len_5, c_ld_5, c_st_5, c_rd_5, c_wr_5, c_len_6, c_ld_6, c_st_6, c_rd_6, c_wr_6, c_len_7, c_ld_7, c_st_7, c_rd_7, c_wr_7, c_len_8, c_ld_8, c_st_8, c_rd_8, c_wr_8, c_len_9, c_ld_9, c_st_9, c_rd_9, c_wr_9, bI_rI, bL_rL, bA_rA, bV_rV, bI_th, bL_th, bA_th, bV_th, rZ_0, rZ_1]
          rw [if_neg hy.1, if_pos (Int32.not_lt.mp hy.2), if_neg n0]
        · obtain ⟨G1, r1, h1, s1⟩ := r_list1 h hL
          obtain ⟨G2, e, cap, a1, a2, a3, a4, -, a6, a7⟩ := s_copy h1 hW.1 hv hr hfit h31
          have hap : mAp w D G1.2.1 e := mAp.fresh (G' := G2) h1 rfl a4
          obtain ⟨m1, κ1, f1, u1, -⟩ := id a2
          obtain ⟨G3, b1, b2, b3⟩ := m_moveL (K := fun G46 x43 x44 x45 => if x45 = 0 then rI (-1) G46 else gOb G46 x43 6 fun o48 => bA (f_M_at G46 x43 x44 (nI 0)) fun v51 G50 => gLd G50 v51 100 (nI 1) fun v52 => rI v52 G50) (A := mSet A 0 0) (src := sSeg A r s (mLen A p)) (z := z) hW.1 hv hr hfit h31 hsl hap hz (mLen A p) zFu 0 G2 (A.1 r) (by show 0 + mLen A p = mLen A p; omega) (by unfold zFu; omega) rfl (by
            rw [show mRows (mSet A 0 0) r (A.1 r) = mSet A 0 0 from mRows_self (A := mSet A 0 0)]
            exact a6) a2 (hts G1 G2 D 5 83 h1 a7)
          have b2' : MS w o G3 (mRows (mSet A 0 0) r Ln) D := by rw [← hLn]; exact b2
          have hlen : ((sSeg (mSet A 0 0) r s (mLen (mSet A 0 0) p)).map fun t => t.1).length = mLen (mSet A 0 0) p := by
            rw [List.length_map]; exact hsl
          refine ⟨_, D, G3, m, ?_, b2', y2, hIB, Nat.le_succ m, rfl, ((s1.trans a7).trans b3).mono (by omega) (by omega)⟩
          unfold f_M_move
          rw [r1, ref_in.1 hy, bI_rI, if_neg (by decide), r_ref0 h1 rfl, gOb_of h1.2.2.1 rfl, a1, bA_rA, gOb_of u1 rfl, al_size a2.al, bI_rI, hlen, b1, if_neg (show ¬ nI (mLen (mSet A 0 0) p) = 0 from n0), gOb_of b2'.2.2.1 rfl, s_at b2' hIB.1 hvB hrB hat, bA_rA, (s_th b2' hr2 (by rw [mRows_at]; exact ht)).tag]
    · refine Sim.no hR hI 2 (by decide) (by decide) ?_ (fun G D h => ?_)
      · unfold f_X_move
        simp only [x_needList hX hW hL, c_ob_0, c_fa_0_0, c_fa_0_1, c_fi_0_2, c_put_0_2, c_fi_0_3, c_put_0_3, c_fi_0_4, c_put_0_4, c_ob_1, c_fa_1_0, c_fa_1_1, c_fa_1_2, c_fa_1_3, c_fa_1_4, c_fa_1_5, c_fi_1_6, c_put_1_6, c_ob_2, c_fa_2_0, c_ob_4, c_fa_4_0, c_ob_6, c_fa_6_0, c_ob_8, c_fa_8_0, c_ob_10, c_fa_10_0, c_ob_12, c_fa_12_0, c_ob_14, c_fa_14_0, c_fa_14_1, c_fa_14_2, c_fa_14_3, c_fi_14_4, c_put_14_4, c_ob_15, c_fa_15_0, c_ob_17, c_fa_17_0, c_ob_19, c_fa_19_0, c_ob_21, c_fa_21_0, c_len_0, c_ld_0, c_st_0, c_rd_0, c_wr_0, c_len_1, c_ld_1, c_st_1, c_rd_1, c_wr_1, c_len_2, c_ld_2, c_st_2, c_rd_2, c_wr_2, c_len_3, c_ld_3, c_st_3, c_rd_3, c_wr_3, c_len_4, c_ld_4, c_st_4, c_rd_4, c_wr_4, c_len_5, c_ld_5, c_st_5, c_rd_5, c_wr_5, c_len_6, c_ld_6, c_st_6, c_rd_6, c_wr_6, c_len_7, c_ld_7, c_st_7, c_rd_7, c_wr_7, c_len_8, c_ld_8, c_st_8, c_rd_8, c_wr_8, c_len_9, c_ld_9, c_st_9, c_rd_9, c_wr_9, bI_rI, bL_rL, bA_rA, bV_rV, bI_th, bL_th, bA_th, bV_th, rZ_0, rZ_1]
        by_cases h0 : y < -40
        · rw [if_pos h0]; rfl
        · rw [if_neg h0, if_neg (fun q => hy ⟨h0, Int32.not_lt.mpr q⟩)]; rfl
      · obtain ⟨G1, r1, h1, s1⟩ := r_list1 h hL
        obtain ⟨G2, r2, h2, s2⟩ := r_no1 (c := 2) h1 (by decide)
        refine ⟨G2, ?_, h2, (s1.trans s2).mono (by omega) (by omega)⟩
        unfold f_M_move
        rw [r1, ref_in.2 hy, bI_rI, if_pos rfl, r2]
        rfl
  · refine Sim.no hR hI 1 (by decide) (by decide) ?_ (fun G D h => ?_)
    · unfold f_X_move
      simp only [x_needList_no hX (hI.w 0) hx, c_ob_0, c_fa_0_0, c_fa_0_1, c_fi_0_2, c_put_0_2, c_fi_0_3, c_put_0_3, c_fi_0_4, c_put_0_4, c_ob_1, c_fa_1_0, c_fa_1_1, c_fa_1_2, c_fa_1_3, c_fa_1_4, c_fa_1_5, c_fi_1_6, c_put_1_6, c_ob_2, c_fa_2_0, c_ob_4, c_fa_4_0, c_ob_6, c_fa_6_0, c_ob_8, c_fa_8_0, c_ob_10, c_fa_10_0, c_ob_12, c_fa_12_0, c_ob_14, c_fa_14_0, c_fa_14_1, c_fa_14_2, c_fa_14_3, c_fi_14_4, c_put_14_4, c_ob_15, c_fa_15_0, c_ob_17, c_fa_17_0, c_ob_19, c_fa_19_0, c_ob_21, c_fa_21_0, c_len_0, c_ld_0, c_st_0, c_rd_0, c_wr_0, c_len_1, c_ld_1, c_st_1, c_rd_1, c_wr_1, c_len_2, c_ld_2, c_st_2, c_rd_2, c_wr_2, c_len_3, c_ld_3, c_st_3, c_rd_3, c_wr_3, c_len_4, c_ld_4, c_st_4, c_rd_4, c_wr_4, c_len_5, c_ld_5, c_st_5, c_rd_5, c_wr_5, c_len_6, c_ld_6, c_st_6, c_rd_6, c_wr_6, c_len_7, c_ld_7, c_st_7, c_rd_7, c_wr_7, c_len_8, c_ld_8, c_st_8, c_rd_8, c_wr_8, c_len_9, c_ld_9, c_st_9, c_rd_9, c_wr_9, bI_rI, bL_rL, bA_rA, bV_rV, bI_th, bL_th, bA_th, bV_th, rZ_0, rZ_1]
      rfl
    · obtain ⟨G1, r1, h1, s1⟩ := r_list0 h hx
      refine ⟨G1, ?_, h1, s1⟩
      unfold f_M_move
      rw [r1]
      rfl
end Mov
end
