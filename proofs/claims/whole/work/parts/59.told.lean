-- what is asked of parts, cursors and all
section Loc
/-- a row of ints of one's own, at q, beside all that was there in G0 -/
def lA (G0 : gH) (c s q n : Nat) (f : Nat → Int32) (G : gH) : Prop := gB G0.2.1 G0 G ∧ gWf G ∧ G.2.1 = G0.2.1 + c ∧ G.1 = G0.1 + s ∧ G0.2.1 ≤ q ∧ q < G.2.1 ∧ G.2.2 q = some (zI 100 n f)
variable {G0 G : gH} {c s q n : Nat} {f : Nat → Int32}
theorem lA.new (hB : gB G0.2.1 G0 G) (hw : gWf G) (h1 : G.2.1 = G0.2.1 + c) (h2 : G.1 = G0.1 + s) : lA G0 (c + 1) (s + n) G.2.1 n (fun _ => 0) (gNew G n (zI 100 n (fun _ => 0))) :=
  ⟨fun z hz => by rw [gNew_ne (by omega)]; exact hB z hz, hw.new, by show G.2.1 + 1 = _; omega, by show G.1 + n = _; omega, by omega, Nat.lt_succ_self _, gNew_at⟩
theorem lA.st (h : lA G0 c s q n f G) {i : Nat} (hi : i < n) (hn : n < 2 ^ 31) (v : Int32) : ∃ G', (∀ k : gH → gR, gSt G q 100 (nI i) v k = k G') ∧ lA G0 c s q n (upd f i v) G' := by
  obtain ⟨a1, a2, a3, a4, a5, a6, a7⟩ := h
  exact ⟨_, fun k => gStI_of a7 hi hn, fun z hz => by rw [gUp_ne (by omega)]; exact a1 z hz, a2.up a6, a3, a4, a5, a6, gUp_at⟩
theorem lA.ld (h : lA G0 c s q n f G) {i : Nat} (hi : i < n) (hn : n < 2 ^ 31) (k : Int32 → gR) : gLd G q 100 (nI i) k = k (f i) := by
  have e : ∀ K : Int32 → gR, gLd G q 100 (nI i) K = K (f i) := fun K => by
    unfold gLd gAr
    rw [h.2.2.2.2.2.2]
    simp only [zI]
    rw [if_pos (by decide), if_pos (gIn_nI hi hn), nI_clamp (by omega)]
  exact e k
theorem lA.ms {w : Nat → Nat} {o : Nat} {A : mS} {D : mD} (h : lA G0 c s q n f G) (hM : MS w o G0 A D) : MS w o G A D := hM.gB h.1 h.2.1
theorem lA.fin (h : lA G0 c s q n f G) (hw : gWf G0) : mSt c s G0 G := mSt.gB hw h.1 h.2.1 (by have := h.2.2.1; omega) (by have := h.2.2.1; omega) (by have := h.2.2.2.1; omega) (by have := h.2.2.2.1; omega)
theorem upd_at {f : Nat → Int32} {i : Nat} {x : Int32} : upd f i x i = x := by simp [upd]
theorem upd_ne {f : Nat → Int32} {i j : Nat} {x : Int32} (h : j ≠ i) : upd f i x j = f j := by simp [upd, h]
end Loc
section Told
variable {w : Nat → Nat} {b o m : Nat} {A : mS} {σ : cS} {H : gH}
theorem s_ldP {G : gH} {D : mD} (h : MS w o G A D) {p q : Nat} (hp : p < 6) (hq : D.2.2.2.2.1 p = some q) {k0 : gR} {k : Nat → gR} : (gFA G o 6 2 fun v => gLdq G v 104 (nI p) k0 k) = k q := by
  rw [gFA_of h.2.2.1 rfl rfl, gLdq_of h.2.2.2.2.2.1 rfl hp (by omega) hq]
theorem s_fp {G : gH} {D : mD} (h : MS w o G A D) {p : Nat} {x : Nat × Nat × Nat} (hp : p < 6) (hx : A.2.1 p = some x) :
    ∃ q, D.2.2.2.2.1 p = some q ∧ (∀ k : Int32 → gR, gFI G q 5 0 k = k (nI x.1)) ∧ (∀ k : Int32 → gR, gFI G q 5 1 k = k (nI x.2.1)) ∧ (∀ k : Int32 → gR, gFI G q 5 2 k = k (nI x.2.2)) := by
  obtain ⟨q, e1, e2, e3, e4, e5⟩ := h.2.2.part hp hx
  exact ⟨q, e1, fun k => gFI_of e5 rfl rfl, fun k => gFI_of e5 rfl rfl, fun k => gFI_of e5 rfl rfl⟩
def kWp (x : Nat × Nat × Nat) (r s i : Nat) : Int32 := if i = 0 then nI x.1 else if i = 1 then nI x.2.1 else if i = 2 then nI r else nI s
theorem s_base {G : gH} {D : mD} (h : MS w o G A D) (hok : mOk A.2.1) {p r s : Nat} (hv : mV A p) (hr : mRw A.2.1 zDp p = some (r, s)) : f_M_base zDp G o (nI p) = rI (nI s) G := m_base h.2.2 _ _ _ _ (hv.lt hok) hr
theorem s_partTold {G : gH} {D : mD} (h : MS w o G A D) (hI : mInv m A) {p r s i : Nat} {x : Nat × Nat × Nat} (hp : p < 6) (hx : A.2.1 p = some x) (hr : mRw A.2.1 zDp p = some (r, s)) (hi : i < 4) :
    ∃ G', f_M_partTold G o (nI p) (nI i) = rI (kWp x r s i) G' ∧ MS w o G' A D ∧ mSt 1 4 G G' := by
  have hv : mV A p := Or.inr (by rw [hx]; exact Option.some_ne_none _)
  have l0 : lA G 1 4 G.2.1 4 (fun _ => 0) (gNew G 4 (zI 100 4 (fun _ => 0))) := lA.new (c := 0) (s := 0) (n := 4) gB.refl h.1 rfl rfl
  have h0 := l0.ms h
  have e0 : ∀ k : Nat → gH → gR, gNewA G 100 (nI 4) k = k G.2.1 (gNew G 4 (zI 100 4 (fun _ => 0))) := fun k => gNewA_of (by omega)
  generalize gNew G 4 (zI 100 4 (fun _ => 0)) = G1 at l0 h0 e0
  obtain ⟨q, q1, f0, f1, f2⟩ := s_fp h0 hp hx
  obtain ⟨G2, r2, l2⟩ := l0.st (i := 0) (by omega) (by omega) (nI x.1)
  have h2 := l2.ms h
  obtain ⟨q', q1', g0, g1, g2⟩ := s_fp h2 hp hx
  cases q1.symm.trans q1'
  obtain ⟨G3, r3, l3⟩ := l2.st (i := 1) (by omega) (by omega) (nI x.2.1)
  have h3 := l3.ms h
  obtain ⟨G4, r4, l4⟩ := l3.st (i := 2) (by omega) (by omega) (nI r)
  have h4 := l4.ms h
  obtain ⟨G5, r5, l5⟩ := l4.st (i := 3) (by omega) (by omega) (nI s)
  have h5 := l5.ms h
  refine ⟨G5, ?_, h5, l5.fin h.1⟩
  unfold f_M_partTold
  rw [e0, s_ldP h0 hp q1, f0, r2, s_ldP h2 hp q1, g1, r3, gOb_of h3.2.2.1 rfl, s_rowOf h3 hI.1 hv hr, bI_rI, r4, gOb_of h4.2.2.1 rfl, s_base h4 hI.1 hv hr, bI_rI, r5, l5.ld hi (by omega)]
  unfold kWp
  rcases (by omega : i = 0 ∨ i = 1 ∨ i = 2 ∨ i = 3) with rfl | rfl | rfl | rfl
  · rw [upd_ne (by omega), upd_ne (by omega), upd_ne (by omega), upd_at, if_pos rfl]
  · rw [upd_ne (by omega), upd_ne (by omega), upd_at, if_neg (by omega), if_pos rfl]
  · rw [upd_ne (by omega), upd_at, if_neg (by omega), if_neg (by omega), if_pos rfl]
  · rw [upd_at, if_neg (by omega), if_neg (by omega), if_neg (by omega)]
theorem x_worthOf (hX : CRepx (-1) σ A) (hI : mInv m A) {p r s i : Nat} {x : Nat × Nat × Nat} (hp : p < 6) (hx : A.2.1 p = some x) (hr : mRw A.2.1 zDp p = some (r, s)) (hi : i < 4) :
    f_I_worthOf (cPut b σ H) (b + 1) (nI p) (nI i) = rI (kWp x r s i) (cPut b σ H) := by
  have hv : mV A p := Or.inr (by rw [hx]; exact Option.some_ne_none _)
  have ha : σ.1 2 p = nI x.1 := hX.2.2.2.1.2 p x hx
  obtain ⟨b3, b4⟩ := hX.2.2.2.2.1 p r s hp hr
  -- where the list above begins
  have hvo : mV A x.1 := hI.1.cl p x hx
  obtain ⟨ro, so, hro, hro2, hfo, h31o, ho6, -⟩ := hI.pl hvo
  have hrp := mRw_of hI.1 hx hro
  rw [hr] at hrp
  have e1 : r = ro := by cases hrp; rfl
  have e2 : s = x.2.1 + so := by cases hrp; rfl
  obtain ⟨-, b4o⟩ := hX.2.2.2.2.1 x.1 ro so ho6 hro
  have c1 : f_N_read (cPut b σ H) (b + 6) (nI p) = rI (nI x.1) (cPut b σ H) := by rw [c_rd_2, rd_nI hp (by omega), ha]
  have c2 : f_N_read (cPut b σ H) (b + 10) (nI p) = rI (nI s) (cPut b σ H) := by rw [c_rd_4, rd_nI hp (by omega), b4]
  have c3 : f_N_read (cPut b σ H) (b + 10) (nI x.1) = rI (nI so) (cPut b σ H) := by rw [c_rd_4, rd_nI ho6 (by omega), b4o]
  have c4 := x_row (b := b) (G := H) hX hI.1 hv hr
  unfold f_I_worthOf kWp
  rw [c_fa_1_2, c_ob_6, c1, bI_rI, nI_toInt (by omega)]
  rcases (by omega : i = 0 ∨ i = 1 ∨ i = 2 ∨ i = 3) with rfl | rfl | rfl | rfl
  · rw [if_pos (show ((0 : Nat) : Int) = 0 from rfl), if_pos rfl]
  · rw [if_neg (by decide), if_pos (show ((1 : Nat) : Int) = 1 from rfl), if_neg (by omega), if_pos rfl, c_fa_1_4, c_ob_10, c2, bI_rI, c_fa_1_4, c_ob_10, c3, bI_rI, e2, nI_sub (by omega), Nat.add_sub_cancel]
  · rw [if_neg (by decide), if_neg (by decide), if_pos (show ((2 : Nat) : Int) = 2 from rfl), if_neg (by omega), if_neg (by omega), if_pos rfl, c_ob_1, c4, bI_rI]
  · rw [if_neg (by decide), if_neg (by decide), if_neg (by decide), if_neg (by omega), if_neg (by omega), if_neg (by omega), c_fa_1_4, c_ob_10, c2, bI_rI]
theorem sim_ofPart (hR : CRep σ A) (hI : mInv m A) (x y : Int32) : SimOp w b o A m σ H xIG (f_X_ofPart (cPut b σ H) b x y) (fun G => f_M_ofPart G o x y) := by
  have hX := CRepx.of (exc := -1) hR
  by_cases hx : mIsQ A x
  · have hQ := hx
    obtain ⟨p, h2, h6, rfl, hp⟩ := hx
    cases hpx : A.2.1 p with
    | none => exact absurd hpx hp
    | some u =>
      have hv : mV A p := Or.inr hp
      obtain ⟨r, s, hr, -⟩ := hI.pl hv
      by_cases hy : mIsG 3 y
      · have hy' := hy
        obtain ⟨i, hi, rfl⟩ := hy
        refine Sim.ask hR hI (kWp u r s i) ?_ (fun G D h => ?_)
        · unfold f_X_ofPart
          simp only [(x_needPart hX (hI.w 0)).1 hQ, c_ob_0, c_fa_0_0, c_fa_0_1, c_fi_0_2, c_put_0_2, c_fi_0_3, c_put_0_3, c_fi_0_4, c_put_0_4, c_ob_1, c_fa_1_0, c_fa_1_1, c_fa_1_2, c_fa_1_3, c_fa_1_4, c_fa_1_5, c_fi_1_6, c_put_1_6, c_ob_2, c_fa_2_0, c_ob_4, c_fa_4_0, c_ob_6, c_fa_6_0, c_ob_8, c_fa_8_0, c_ob_10, c_fa_10_0, c_ob_12, c_fa_12_0, c_ob_14, c_fa_14_0, c_fa_14_1, c_fa_14_2, c_fa_14_3, c_fi_14_4, c_put_14_4, c_ob_15, c_fa_15_0, c_ob_17, c_fa_17_0, c_ob_19, c_fa_19_0, c_ob_21, c_fa_21_0, c_len_0, c_ld_0, c_st_0, c_rd_0, c_wr_0, c_len_1, c_ld_1, c_st_1, c_rd_1, c_wr_1, c_len_2, c_ld_2, c_st_2, c_rd_2, c_wr_2, c_len_3, c_ld_3, c_st_3, c_rd_3, c_wr_3, c_len_4, c_ld_4, c_st_4, c_rd_4, c_wr_4, c_len_5, c_ld_5, c_st_5, c_rd_5, c_wr_5, c_len_6, c_ld_6, c_st_6, c_rd_6, c_wr_6, c_len_7, c_ld_7, c_st_7, c_rd_7, c_wr_7, c_len_8, c_ld_8, c_st_8, c_rd_8, c_wr_8, c_len_9, c_ld_9, c_st_9, c_rd_9, c_wr_9, bI_rI, bL_rL, bA_rA, bV_rV, bI_th, bL_th, bA_th, bV_th, rZ_0, rZ_1]
          rw [if_neg (nI_pos (by omega)), if_pos (nI_lt (by omega) (by omega)), x_worthOf hX hI h6 hpx hr (by omega), bI_rI]
        · obtain ⟨G1, r1, h1, s1⟩ := s_go h
          obtain ⟨G2, r2, h2', s2⟩ := s_partTold h1 (hI.thr 0) h6 hpx hr (show i < 4 by omega)
          refine ⟨G2, ?_, h2', (s1.trans s2).mono (by omega) (by omega)⟩
          unfold f_M_ofPart
          rw [gOb_of h.2.2.1 rfl, (s_noPart h _).1 hQ, bI_rI, gOb_of h.2.2.1 rfl]
          rw [show f_M_start G o 0 (nI 1) = _ from r1 (nI 1), bI_rI, if_pos rfl, (s_isIn G1 3 (by omega) _).1 hy', bI_rI, if_neg (by decide), r_ref0 h1 rfl, gOb_of h1.2.2.1 rfl, r2, bI_rI]
      · refine Sim.no hR hI 2 (by decide) (by decide) ?_ (fun G D h => ?_)
        · unfold f_X_ofPart
          simp only [(x_needPart hX (hI.w 0)).1 hQ, c_ob_0, c_fa_0_0, c_fa_0_1, c_fi_0_2, c_put_0_2, c_fi_0_3, c_put_0_3, c_fi_0_4, c_put_0_4, c_ob_1, c_fa_1_0, c_fa_1_1, c_fa_1_2, c_fa_1_3, c_fa_1_4, c_fa_1_5, c_fi_1_6, c_put_1_6, c_ob_2, c_fa_2_0, c_ob_4, c_fa_4_0, c_ob_6, c_fa_6_0, c_ob_8, c_fa_8_0, c_ob_10, c_fa_10_0, c_ob_12, c_fa_12_0, c_ob_14, c_fa_14_0, c_fa_14_1, c_fa_14_2, c_fa_14_3, c_fi_14_4, c_put_14_4, c_ob_15, c_fa_15_0, c_ob_17, c_fa_17_0, c_ob_19, c_fa_19_0, c_ob_21, c_fa_21_0, c_len_0, c_ld_0, c_st_0, c_rd_0, c_wr_0, c_len_1, c_ld_1, c_st_1, c_rd_1, c_wr_1, c_len_2, c_ld_2, c_st_2, c_rd_2, c_wr_2, c_len_3, c_ld_3, c_st_3, c_rd_3, c_wr_3, c_len_4, c_ld_4, c_st_4, c_rd_4, c_wr_4, c_len_5, c_ld_5, c_st_5, c_rd_5, c_wr_5, c_len_6, c_ld_6, c_st_6, c_rd_6, c_wr_6, c_len_7, c_ld_7, c_st_7, c_rd_7, c_wr_7, c_len_8, c_ld_8, c_st_8, c_rd_8, c_wr_8, c_len_9, c_ld_9, c_st_9, c_rd_9, c_wr_9, bI_rI, bL_rL, bA_rA, bV_rV, bI_th, bL_th, bA_th, bV_th, rZ_0, rZ_1]
          by_cases h0 : y < 0
          · rw [if_pos h0]; rfl
          · rw [if_neg h0, if_neg (fun q => hy (by
              obtain ⟨i, hi, e⟩ := (nI_plc (L := 4) (by omega)).mpr ⟨h0, q⟩
              exact ⟨i, by omega, e⟩))]; rfl
        · obtain ⟨G1, r1, h1, s1⟩ := s_go h
          obtain ⟨G2, r2, h2', s2⟩ := r_no1 (c := 2) h1 (by decide)
          refine ⟨G2, ?_, h2', (s1.trans s2).mono (by omega) (by omega)⟩
          unfold f_M_ofPart
          rw [gOb_of h.2.2.1 rfl, (s_noPart h _).1 hQ, bI_rI, gOb_of h.2.2.1 rfl]
          rw [show f_M_start G o 0 (nI 1) = _ from r1 (nI 1), bI_rI, if_pos rfl, (s_isIn G1 3 (by omega) _).2 hy, bI_rI, if_pos rfl, r2]
          rfl
  · refine Sim.no hR hI 1 (by decide) (by decide) ?_ (fun G D h => ?_)
    · unfold f_X_ofPart
      simp only [(x_needPart hX (hI.w 0)).2 hx, c_ob_0, c_fa_0_0, c_fa_0_1, c_fi_0_2, c_put_0_2, c_fi_0_3, c_put_0_3, c_fi_0_4, c_put_0_4, c_ob_1, c_fa_1_0, c_fa_1_1, c_fa_1_2, c_fa_1_3, c_fa_1_4, c_fa_1_5, c_fi_1_6, c_put_1_6, c_ob_2, c_fa_2_0, c_ob_4, c_fa_4_0, c_ob_6, c_fa_6_0, c_ob_8, c_fa_8_0, c_ob_10, c_fa_10_0, c_ob_12, c_fa_12_0, c_ob_14, c_fa_14_0, c_fa_14_1, c_fa_14_2, c_fa_14_3, c_fi_14_4, c_put_14_4, c_ob_15, c_fa_15_0, c_ob_17, c_fa_17_0, c_ob_19, c_fa_19_0, c_ob_21, c_fa_21_0, c_len_0, c_ld_0, c_st_0, c_rd_0, c_wr_0, c_len_1, c_ld_1, c_st_1, c_rd_1, c_wr_1, c_len_2, c_ld_2, c_st_2, c_rd_2, c_wr_2, c_len_3, c_ld_3, c_st_3, c_rd_3, c_wr_3, c_len_4, c_ld_4, c_st_4, c_rd_4, c_wr_4, c_len_5, c_ld_5, c_st_5, c_rd_5, c_wr_5, c_len_6, c_ld_6, c_st_6, c_rd_6, c_wr_6, c_len_7, c_ld_7, c_st_7, c_rd_7, c_wr_7, c_len_8, c_ld_8, c_st_8, c_rd_8, c_wr_8, c_len_9, c_ld_9, c_st_9, c_rd_9, c_wr_9, bI_rI, bL_rL, bA_rA, bV_rV, bI_th, bL_th, bA_th, bV_th, rZ_0, rZ_1]
      rfl
    · obtain ⟨G1, r1, h1, s1⟩ := s_halt1 h
      refine ⟨G1, ?_, h1, s1⟩
      unfold f_M_ofPart
      rw [gOb_of h.2.2.1 rfl, (s_noPart h _).2 hx, bI_rI, gOb_of h.2.2.1 rfl]
      rw [show f_M_start G o 1 (nI 1) = _ from r1, bI_rI, if_neg (by decide)]
      rfl
-- cursors
def kWc (A : mS) (c i : Nat) : Int32 := match A.2.2.1 c with
  | none => if i = 0 then nI 0 else -1
  | some x => if i = 0 then (if x.2.2.2 = 0 then nI 1 else nI 2) else if i = 1 then nI x.1 else if x.2.2.2 = 0 then
      (if i = 2 then nI x.2.1 else if i = 3 then nI x.2.1 - nI 1 else if i = 4 then (if mLen A x.1 ≤ x.2.1 then nI 0 else nI 1) else if i = 5 then (if x.2.1 = 0 then nI 0 else nI 1) else x.2.2.1) else -1
section KWc
variable {c i : Nat} {x : Nat × Nat × Int32 × Int32}
theorem kWc_n0 (hx : A.2.2.1 c = none) : kWc A c 0 = nI 0 := by unfold kWc; rw [hx]; rfl
theorem kWc_n (hx : A.2.2.1 c = none) (h0 : ¬ i = 0) : kWc A c i = -1 := by unfold kWc; rw [hx]; exact if_neg h0
theorem kWc_0 (hx : A.2.2.1 c = some x) : kWc A c 0 = if x.2.2.2 = 0 then nI 1 else nI 2 := by unfold kWc; rw [hx]; rfl
theorem kWc_1 (hx : A.2.2.1 c = some x) : kWc A c 1 = nI x.1 := by unfold kWc; rw [hx]; rfl
theorem kWc_s (hx : A.2.2.1 c = some x) (h0 : ¬ i = 0) (h1 : ¬ i = 1) (hs : ¬ x.2.2.2 = 0) : kWc A c i = -1 := by
  unfold kWc; rw [hx]
  show (if i = 0 then _ else if i = 1 then _ else if x.2.2.2 = 0 then _ else (-1 : Int32)) = -1
  rw [if_neg h0, if_neg h1, if_neg hs]
theorem kWc_x (hx : A.2.2.1 c = some x) (h0 : ¬ i = 0) (h1 : ¬ i = 1) (hs : x.2.2.2 = 0) : kWc A c i = (if i = 2 then nI x.2.1 else if i = 3 then nI x.2.1 - nI 1 else if i = 4 then (if mLen A x.1 ≤ x.2.1 then nI 0 else nI 1) else if i = 5 then (if x.2.1 = 0 then nI 0 else nI 1) else x.2.2.1) := by
  unfold kWc; rw [hx]
  show (if i = 0 then _ else if i = 1 then _ else if x.2.2.2 = 0 then _ else (-1 : Int32)) = _
  rw [if_neg h0, if_neg h1, if_pos hs]
theorem kWc_2 (hx : A.2.2.1 c = some x) (hs : x.2.2.2 = 0) : kWc A c 2 = nI x.2.1 := kWc_x hx (by omega) (by omega) hs
theorem kWc_3 (hx : A.2.2.1 c = some x) (hs : x.2.2.2 = 0) : kWc A c 3 = nI x.2.1 - nI 1 := kWc_x hx (by omega) (by omega) hs
theorem kWc_4 (hx : A.2.2.1 c = some x) (hs : x.2.2.2 = 0) : kWc A c 4 = if mLen A x.1 ≤ x.2.1 then nI 0 else nI 1 := kWc_x hx (by omega) (by omega) hs
theorem kWc_5 (hx : A.2.2.1 c = some x) (hs : x.2.2.2 = 0) : kWc A c 5 = if x.2.1 = 0 then nI 0 else nI 1 := kWc_x hx (by omega) (by omega) hs
theorem kWc_6 (hx : A.2.2.1 c = some x) (hs : x.2.2.2 = 0) : kWc A c 6 = x.2.2.1 := kWc_x hx (by omega) (by omega) hs
end KWc
theorem x_worthC (hR : CRep σ A) (hI : mInv m A) {c i : Nat} (hc : c < 3) (hi : i < 7) : f_X_worthOfCursor (cPut b σ H) b (nI c) (nI i) = rI (kWc A c i) (cPut b σ H) := by
  have hX := CRepx.of (exc := -1) hR
  cases hx : A.2.2.1 c with
  | none =>
    have hn : ¬ mIsC A (nI c) := fun ⟨c', h3, e, hz⟩ => hz (by rw [← nI_eq31 (by omega) (by omega) e]; exact hx)
    have h6 : f_U_stateOf (cPut b σ H) (b + 14) (nI c) = rI (nI 0) (cPut b σ H) := by rw [y_state, rd_nI hc (by omega), hX.nocur hc hx]
    have hth : f_U_isThere (cPut b σ H) (b + 14) (nI c) = rI 0 (cPut b σ H) := by
      haveI := Classical.propDecidable (mIsC A (nI c))
      rw [x_cThere hR, decide_eq_false hn]; rfl
    unfold f_X_worthOfCursor
    by_cases h0 : i = 0
    · subst h0
      rw [if_pos (show nI 0 = 0 from nI0), kWc_n0 hx, c_fa_0_1, c_ob_14, h6, bI_rI]
    · rw [if_neg (nI_ne0 (by omega) (by omega)), kWc_n hx h0, c_fa_0_1, c_ob_14, hth, bI_rI, if_pos rfl]
  | some x =>
    have hC : mIsC A (nI c) := ⟨c, hc, rfl, by rw [hx]; exact Option.some_ne_none _⟩
    obtain ⟨c6, c7, -⟩ := hX.cur hc hx
    have h6 : f_U_stateOf (cPut b σ H) (b + 14) (nI c) = rI (if x.2.2.2 = 0 then nI 1 else nI 2) (cPut b σ H) := by rw [y_state, rd_nI hc (by omega), c6]
    have hth : f_U_isThere (cPut b σ H) (b + 14) (nI c) = rI 1 (cPut b σ H) := by
      haveI := Classical.propDecidable (mIsC A (nI c))
      rw [x_cThere hR, decide_eq_true hC]; rfl
    obtain ⟨-, hy6, hv, hok⟩ := hI.2.2.2.1 c x hx
    have hl31 := hI.l31 hv
    have hxl := x_len (b := b) (G := H) hX hI.1 hv
    unfold f_X_worthOfCursor
    by_cases h0 : i = 0
    · subst h0
      rw [if_pos (show nI 0 = 0 from nI0), kWc_0 hx, c_fa_0_1, c_ob_14, h6, bI_rI]
    · rw [if_neg (nI_ne0 (by omega) (by omega)), c_fa_0_1, c_ob_14, hth, bI_rI, if_neg (by decide), c_fa_0_1, c_ob_14, x_listOf hR hc hx, bI_rI]
      by_cases h1 : i = 1
      · subst h1; rw [if_pos rfl, kWc_1 hx]
      · rw [if_neg (fun q => h1 (nI_eq31 (by omega) (by omega) q)), c_fa_0_1, c_ob_14, x_isStale hR hc hx, bI_rI, mB_if]
        by_cases hs : x.2.2.2 = 0
        · have hn : x.2.1 < 2 ^ 20 := by
            rcases hok with ⟨-, hn, -⟩ | ⟨-, -, hn⟩
            · omega
            · omega
          rw [if_neg (by simp [hs]), c_fa_0_1, c_ob_14, x_nextOf hR hc hx, bI_rI, nI_toInt (by omega)]
          have z0 : (nI x.2.1 ≤ 0) ↔ x.2.1 = 0 := by
            by_cases z : x.2.1 = 0
            · rw [z]; exact ⟨fun _ => rfl, fun _ => by decide⟩
            · exact ⟨fun q => absurd q (nI_ge (a := 0) (by omega) (by omega)), fun q => absurd q z⟩
          rcases (by omega : i = 2 ∨ i = 3 ∨ i = 4 ∨ i = 5 ∨ i = 6) with rfl | rfl | rfl | rfl | rfl
          · rw [kWc_2 hx hs, if_pos (show ((2 : Nat) : Int) = 2 from rfl)]
          · rw [kWc_3 hx hs, if_neg (by decide), if_pos (show ((3 : Nat) : Int) = 3 from rfl)]
            by_cases z : x.2.1 = 0
            · rw [if_pos (z0.mpr z), z]; rfl
            · rw [if_neg (fun q => z (z0.mp q))]
          · rw [kWc_4 hx hs, if_neg (by decide), if_neg (by decide), if_pos (show ((4 : Nat) : Int) = 4 from rfl), c_fa_0_0, c_ob_1, hxl, bI_rI]
            by_cases z : mLen A x.1 ≤ x.2.1
            · rw [if_pos (nI_le z (by omega)), if_pos z]
            · rw [if_neg (nI_ge (by omega) (by omega)), if_neg z]
          · rw [kWc_5 hx hs, if_neg (by decide), if_neg (by decide), if_neg (by decide), if_pos (show ((5 : Nat) : Int) = 5 from rfl)]
            by_cases z : x.2.1 = 0
            · rw [if_pos (z0.mpr z), if_pos z]
            · rw [if_neg (fun q => z (z0.mp q)), if_neg z]
          · rw [kWc_6 hx hs, if_neg (by decide), if_neg (by decide), if_neg (by decide), if_neg (by decide), c_fa_0_1, c_ob_14, x_lastOf hR hc hx, bI_rI]
        · rw [if_pos (by simp [hs]), kWc_s hx h0 h1 hs]
theorem s_curTold {G : gH} {D : mD} (h : MS w o G A D) (hI : mInv m A) {c i : Nat} (hc : c < 3) (hi : i < 7) : ∃ G', f_M_cursorTold G o (nI c) (nI i) = rI (kWc A c i) G' ∧ MS w o G' A D ∧ mSt 1 5 G G' := by
  cases hx : A.2.2.1 c with
  | none =>
    refine ⟨G, ?_, h, mSt.refl.mono (by omega) (by omega)⟩
    unfold f_M_cursorTold
    rw [gFA_of h.2.2.1 rfl rfl, gLdq_no h.2.2.2.2.2.2.1 rfl hc (by omega) (h.2.2.nocur hc hx)]
    by_cases h0 : i = 0
    · subst h0; rw [if_pos nI0, kWc_n0 hx]
    · rw [if_neg (nI_ne0 (by omega) (by omega)), kWc_n hx h0]
  | some x =>
    obtain ⟨q, hq, -⟩ := s_curq h hc hx
    obtain ⟨f0, f1, f2, f3⟩ := s_fi h hc hx hq
    obtain ⟨-, hy6, hv, hok⟩ := hI.2.2.2.1 c x hx
    have hl31 := hI.l31 hv
    by_cases h0 : i = 0
    · refine ⟨G, ?_, h, mSt.refl.mono (by omega) (by omega)⟩
      unfold f_M_cursorTold
      subst h0
      rw [s_ldC h hc hq, if_pos nI0, f3, kWc_0 hx]
      by_cases hs : x.2.2.2 = 0
      · rw [if_pos hs, if_pos hs]
      · rw [if_neg hs, if_neg hs]
    · by_cases h1 : i = 1
      · refine ⟨G, ?_, h, mSt.refl.mono (by omega) (by omega)⟩
        unfold f_M_cursorTold
        subst h1
        rw [s_ldC h hc hq, if_neg (nI_ne0 (by omega) (by omega)), if_pos rfl, f0, kWc_1 hx]
      · by_cases hs : x.2.2.2 = 0
        · have hn : x.2.1 < 2 ^ 20 := by
            rcases hok with ⟨-, hn, -⟩ | ⟨-, -, hn⟩
            · omega
            · omega
          have z0 : (nI x.2.1 ≤ 0) ↔ x.2.1 = 0 := by
            by_cases z : x.2.1 = 0
            · rw [z]; exact ⟨fun _ => rfl, fun _ => by decide⟩
            · exact ⟨fun q => absurd q (nI_ge (a := 0) (by omega) (by omega)), fun q => absurd q z⟩
          have l0 : lA G 1 5 G.2.1 5 (fun _ => 0) (gNew G 5 (zI 100 5 (fun _ => 0))) := lA.new (c := 0) (s := 0) (n := 5) gB.refl h.1 rfl rfl
          have e0 : ∀ k : Nat → gH → gR, gNewA G 100 (nI 5) k = k G.2.1 (gNew G 5 (zI 100 5 (fun _ => 0))) := fun k => gNewA_of (by omega)
          generalize gNew G 5 (zI 100 5 (fun _ => 0)) = G1 at l0 e0
          obtain ⟨-, g1, -, -⟩ := s_fi (l0.ms h) hc hx hq
          obtain ⟨G2, r2, l2⟩ := l0.st (i := 0) (by omega) (by omega) (nI x.2.1)
          obtain ⟨-, k1, -, -⟩ := s_fi (l2.ms h) hc hx hq
          obtain ⟨G3, r3, l3⟩ := l2.st (i := 1) (by omega) (by omega) (nI x.2.1 - nI 1)
          have h3 := l3.ms h
          obtain ⟨m0, m1, -, -⟩ := s_fi h3 hc hx hq
          obtain ⟨G4, r4, l4⟩ := l3.st (i := 2) (by omega) (by omega) (if mLen A x.1 ≤ x.2.1 then nI 0 else nI 1)
          obtain ⟨-, n1, -, -⟩ := s_fi (l4.ms h) hc hx hq
          obtain ⟨G5, r5, l5⟩ := l4.st (i := 3) (by omega) (by omega) (if x.2.1 = 0 then nI 0 else nI 1)
          obtain ⟨-, -, u2, -⟩ := s_fi (l5.ms h) hc hx hq
          obtain ⟨G6, r6, l6⟩ := l5.st (i := 4) (by omega) (by omega) x.2.2.1
          have e2 : nI i - nI 2 = nI (i - 2) := nI_sub (by omega)
          have fin := l6.ld (i := i - 2) (by omega) (by omega) (fun v => rI v G6)
          refine ⟨G6, ?_, l6.ms h, l6.fin h.1⟩
          have hval : upd (upd (upd (upd (upd (fun _ => 0) 0 (nI x.2.1)) 1 (nI x.2.1 - nI 1)) 2 (if mLen A x.1 ≤ x.2.1 then nI 0 else nI 1)) 3 (if x.2.1 = 0 then nI 0 else nI 1)) 4 x.2.2.1 (i - 2) = kWc A c i := by
            rcases (by omega : i = 2 ∨ i = 3 ∨ i = 4 ∨ i = 5 ∨ i = 6) with rfl | rfl | rfl | rfl | rfl
            · rw [kWc_2 hx hs, upd_ne (by omega), upd_ne (by omega), upd_ne (by omega), upd_ne (by omega), upd_at]
            · rw [kWc_3 hx hs, upd_ne (by omega), upd_ne (by omega), upd_ne (by omega), upd_at]
            · rw [kWc_4 hx hs, upd_ne (by omega), upd_ne (by omega), upd_at]
            · rw [kWc_5 hx hs, upd_ne (by omega), upd_at]
            · rw [kWc_6 hx hs, upd_at]
          rw [hval] at fin
          unfold f_M_cursorTold
          rw [s_ldC h hc hq, if_neg (nI_ne0 (by omega) (by omega)), if_neg (fun q => h1 (nI_eq31 (by omega) (by omega) q)), f3, if_pos hs, e0, g1, r2, k1, r3, m1, m0, gOb_of h3.2.2.1 rfl, s_len h3 hI.1 hv, bI_rI]
          by_cases y1 : mLen A x.1 ≤ x.2.1
          · rw [if_pos y1] at r4
            rw [if_pos (nI_le y1 (by omega)), m_one0, bI_rI, r4, n1]
            by_cases y2 : x.2.1 = 0
            · rw [if_pos y2] at r5
              rw [if_pos (z0.mpr y2), m_one0, bI_rI, r5, u2, r6, e2]
              exact fin
            · rw [if_neg y2] at r5
              rw [if_neg (fun q => y2 (z0.mp q)), m_one1, bI_rI, r5, u2, r6, e2]
              exact fin
          · rw [if_neg y1] at r4
            rw [if_neg (nI_ge (by omega) (by omega)), m_one1, bI_rI, r4, n1]
            by_cases y2 : x.2.1 = 0
            · rw [if_pos y2] at r5
              rw [if_pos (z0.mpr y2), m_one0, bI_rI, r5, u2, r6, e2]
              exact fin
            · rw [if_neg y2] at r5
              rw [if_neg (fun q => y2 (z0.mp q)), m_one1, bI_rI, r5, u2, r6, e2]
              exact fin
        · refine ⟨G, ?_, h, mSt.refl.mono (by omega) (by omega)⟩
          unfold f_M_cursorTold
          rw [s_ldC h hc hq, if_neg (nI_ne0 (by omega) (by omega)), if_neg (fun q => h1 (nI_eq31 (by omega) (by omega) q)), f3, if_neg hs, kWc_s hx h0 h1 hs]
theorem sim_ofCursor (hR : CRep σ A) (hI : mInv m A) (x y : Int32) : SimOp w b o A m σ H xIG (f_X_ofCursor (cPut b σ H) b x y) (fun G => f_M_ofCursor G o x y) := by
  by_cases hx : mIsG 2 x
  · have hx' := hx
    obtain ⟨c, hc, rfl⟩ := hx
    by_cases hy : mIsG 6 y
    · have hy' := hy
      obtain ⟨i, hi, rfl⟩ := hy
      refine Sim.ask hR hI (kWc A c i) ?_ (fun G D h => ?_)
      · unfold f_X_ofCursor
        rw [if_neg (nI_pos (by omega)), if_pos (nI_lt (by omega) (by omega)), if_neg (nI_pos (by omega)), if_pos (nI_lt (by omega) (by omega)), c_ob_0, x_worthC hR hI (by omega) (by omega), bI_rI]
      · obtain ⟨G1, r1, h1, s1⟩ := s_go h
        obtain ⟨G2, r2, h2, s2⟩ := s_curTold h1 (hI.thr 0) (show c < 3 by omega) (show i < 7 by omega)
        refine ⟨G2, ?_, h2, (s1.trans s2).mono (by omega) (by omega)⟩
        unfold f_M_ofCursor
        rw [(s_isIn G 2 (by omega) _).1 hx', bI_rI, if_neg (by decide), gOb_of h.2.2.1 rfl, r1, bI_rI, if_pos rfl, (s_isIn G1 6 (by omega) _).1 hy', bI_rI, if_neg (by decide), r_ref0 h1 rfl, gOb_of h1.2.2.1 rfl, r2, bI_rI]
        rfl
    · refine Sim.no hR hI 2 (by decide) (by decide) ?_ (fun G D h => ?_)
      · unfold f_X_ofCursor
        rw [if_neg (nI_pos (by omega)), if_pos (nI_lt (by omega) (by omega))]
        by_cases h0 : y < 0
        · rw [if_pos h0]; rfl
        · rw [if_neg h0, if_neg (fun q => hy (by
            obtain ⟨i, hi, e⟩ := (nI_plc (L := 7) (by omega)).mpr ⟨h0, q⟩
            exact ⟨i, by omega, e⟩))]; rfl
      · obtain ⟨G1, r1, h1, s1⟩ := s_go h
        obtain ⟨G2, r2, h2, s2⟩ := r_no1 (c := 2) h1 (by decide)
        refine ⟨G2, ?_, h2, (s1.trans s2).mono (by omega) (by omega)⟩
        unfold f_M_ofCursor
        rw [(s_isIn G 2 (by omega) _).1 hx', bI_rI, if_neg (by decide), gOb_of h.2.2.1 rfl, r1, bI_rI, if_pos rfl, (s_isIn G1 6 (by omega) _).2 hy, bI_rI, if_pos rfl, r2]
        rfl
  · refine Sim.no hR hI 1 (by decide) (by decide) ?_ (fun G D h => ?_)
    · unfold f_X_ofCursor
      by_cases h0 : x < 0
      · rw [if_pos h0]; rfl
      · rw [if_neg h0, if_neg (fun q => hx (by
          obtain ⟨i, hi, e⟩ := (nI_plc (L := 3) (by omega)).mpr ⟨h0, q⟩
          exact ⟨i, by omega, e⟩))]; rfl
    · obtain ⟨G1, r1, h1, s1⟩ := s_halt1 h
      refine ⟨G1, ?_, h1, s1⟩
      unfold f_M_ofCursor
      rw [(s_isIn G 2 (by omega) _).2 hx, bI_rI, if_pos rfl, gOb_of h.2.2.1 rfl, r1, bI_rI, if_neg (by decide)]
      rfl
end Told
