-- previous, put, drop, insert
section Keep4
/-- an object of a cursor's class at q, whose first field is v -/
def kC (q : Nat) (v : Value) (G : gH) : Prop := ∃ fs, G.2.2 q = some (.inr (4, fs)) ∧ fs[0]? = some v
def kP (q : Nat) (v : Value) (r : gR) : Prop := ∀ z G', r = some (z, G') → kC q v G'
variable {q : Nat} {v : Value} {G : gH}
theorem kP_none : kP q v none := fun _ _ h => by cases h
theorem kP_ob {a ci : Nat} {k : List Value → gR} (h : ∀ fs, kP q v (k fs)) : kP q v (gOb G a ci k) := by
  unfold gOb
  split
  · split
    · exact h _
    · exact kP_none
  · exact kP_none
theorem kP_fa {a ci j : Nat} {k : Nat → gR} (h : ∀ x, kP q v (k x)) : kP q v (gFA G a ci j k) := by
  unfold gFA
  refine kP_ob fun fs => ?_
  split
  · exact h _
  · exact kP_none
theorem kP_fi {a ci j : Nat} {k : Int32 → gR} (h : ∀ x, kP q v (k x)) : kP q v (gFI G a ci j k) := by
  unfold gFI
  refine kP_ob fun fs => ?_
  split
  · exact h _
  · exact kP_none
theorem kP_ldq {a ka : Nat} {i : Int32} {k0 : gR} {k1 : Nat → gR} (h0 : kP q v k0) (h1 : ∀ x, kP q v (k1 x)) : kP q v (gLdq G a ka i k0 k1) := by
  unfold gLdq gAq
  split
  · split
    · dsimp only
      split
      · split
        · exact h0
        · exact h1 _
      · exact kP_none
    · exact kP_none
  · exact kP_none
theorem kP_put {a ci j : Nat} {x : Value} {k : gH → gR} (h : kC q v G) (hc : ci ≠ 4 ∨ j ≠ 0) (hk : ∀ G', kC q v G' → kP q v (k G')) : kP q v (gPut G a ci j x k) := by
  unfold gPut gObW
  split
  · rename_i c fs he
    split
    · rename_i hci
      dsimp only
      split
      · refine hk _ ?_
        obtain ⟨f0, z1, z2⟩ := h
        by_cases e : q = a
        · subst e
          rw [z1] at he
          cases he
          refine ⟨_, by rw [← hci]; exact gUp_at, ?_⟩
          rcases hc with w | w
          · exact absurd hci.symm w
          · rw [List.getElem?_set_ne (by omega)]; exact z2
        · exact ⟨f0, by rw [gUp_ne e]; exact z1, z2⟩
      · exact kP_none
    · exact kP_none
  · exact kP_none
theorem kP_stn {a ka : Nat} {i : Int32} {k : gH → gR} (h : kC q v G) (hk : ∀ G', kC q v G' → kP q v (k G')) : kP q v (gStN G a ka i k) := by
  unfold gStN gAqW
  split
  · rename_i c n f he
    split
    · dsimp only
      split
      · refine hk _ ?_
        obtain ⟨f0, z1, z2⟩ := h
        have e : q ≠ a := fun e => by rw [← e, z1] at he; cases he
        exact ⟨f0, by rw [gUp_ne e]; exact z1, z2⟩
      · exact kP_none
    · exact kP_none
  · exact kP_none
theorem kP_bI {r : gR} {k : Int32 → gH → gR} (h : kP q v r) (hk : ∀ x G', kC q v G' → kP q v (k x G')) : kP q v (bI r k) := by
  unfold bI
  split
  · exact hk _ _ (h _ _ rfl)
  · intro z G' e
    cases e
    exact h _ _ rfl
  · exact kP_none
theorem kP_bV {r : gR} {k : gH → gR} (h : kP q v r) (hk : ∀ G', kC q v G' → kP q v (k G')) : kP q v (bV r k) := by
  unfold bV
  split
  · exact hk _ (h _ _ rfl)
  · intro z G' e
    cases e
    exact h _ _ rfl
  · exact kP_none
theorem kP_rI {x : Int32} (h : kC q v G) : kP q v (rI x G) := fun _ _ e => by cases e; exact h
theorem kP_rV (h : kC q v G) : kP q v (rV G) := fun _ _ e => by cases e; exact h
theorem kP_rZ {x : Int32} (h : kC q v G) : kP q v (rZ x G) := by
  unfold rZ
  split
  · intro _ _ e
    cases e; exact h
  · exact kP_none
theorem kp_rowOf : ∀ (d : Nat) (G : gH) (a : Nat) (x : Int32), kC q v G → kP q v (f_M_rowOf d G a x)
  | 0, _, _, _, _ => kP_none
  | d + 1, G, a, x, h => by
    unfold f_M_rowOf f_M_rowOf_B
    split
    · exact kP_fa fun _ => kP_ldq kP_none fun _ => kP_fi fun _ => kP_ob fun _ => kP_bI (kp_rowOf d G a _ h) fun _ _ h => kP_rI h
    · exact kP_rI h
theorem kp_isAbove : ∀ (d : Nat) (G : gH) (a : Nat) (x y : Int32), kC q v G → kP q v (f_M_isAbove d G a x y)
  | 0, _, _, _, _, _ => kP_none
  | d + 1, G, a, x, y, h => by
    unfold f_M_isAbove f_M_isAbove_B
    split
    · exact kP_rZ h
    · split
      · exact kP_rZ h
      · refine kP_fa fun _ => kP_ldq kP_none fun _ => kP_fi fun _ => kP_ob fun _ => kP_bI (kp_isAbove d G a _ _ h) fun x G' h => ?_
        split
        · exact kP_rZ h
        · exact kP_rZ h
theorem kp_endC {a : Nat} {x : Int32} (h : kC q v G) : kP q v (f_M_endCursor G a x) := by
  unfold f_M_endCursor
  exact kP_fa fun _ => kP_stn h fun _ h => kP_fi fun _ => kP_put h (Or.inl (by decide)) fun _ h => kP_rV h
theorem kp_ep4 {rec : gH → Nat → Int32 → gR} {K : gH → Nat → Int32 → Int32 → gR} (hr : ∀ G a x, kC q v G → kP q v (rec G a x)) (hK : ∀ G a x y, kC q v G → kP q v (K G a x y)) : ∀ (n : Nat) (G : gH) (a : Nat) (x y z : Int32), kC q v G → kP q v (f_M_endPart_L4 rec K n G a x y z)
  | 0, _, _, _, _, _, _ => kP_none
  | n + 1, G, a, x, y, z, h => by
    unfold f_M_endPart_L4
    split
    · exact hK _ _ _ _ h
    · refine kP_fa fun _ => kP_ldq (kp_ep4 hr hK n G a _ _ _ h) fun _ => kP_fa fun _ => kP_ldq kP_none fun _ => kP_fi fun _ => ?_
      split
      · exact kP_ob fun _ => kP_bI (hr _ _ _ h) fun _ _ h => kp_ep4 hr hK n _ a _ _ _ h
      · exact kp_ep4 hr hK n G a _ _ _ h
theorem kp_ep48 {rec : gH → Nat → Int32 → gR} {K : gH → Nat → Int32 → Int32 → gR} (hK : ∀ G a x y, kC q v G → kP q v (K G a x y)) : ∀ (n : Nat) (G : gH) (a : Nat) (x y z : Int32), kC q v G → kP q v (f_M_endPart_L48 rec K n G a x y z)
  | 0, _, _, _, _, _, _ => kP_none
  | n + 1, G, a, x, y, z, h => by
    unfold f_M_endPart_L48
    split
    · exact hK _ _ _ _ h
    · refine kP_fa fun _ => kP_ldq (kp_ep48 hK n G a _ _ _ h) fun _ => kP_fa fun _ => kP_ldq kP_none fun _ => kP_fi fun _ => ?_
      split
      · exact kP_ob fun _ => kP_bV (kp_endC h) fun _ h => kp_ep48 hK n _ a _ _ _ h
      · exact kp_ep48 hK n G a _ _ _ h
theorem kp_endPart : ∀ (d : Nat) (G : gH) (a : Nat) (x : Int32), kC q v G → kP q v (f_M_endPart d G a x)
  | 0, _, _, _, _ => kP_none
  | d + 1, G, a, x, h => by
    unfold f_M_endPart f_M_endPart_B
    refine kp_ep4 (fun G a x h => kp_endPart d G a x h) (fun G a x y h => kp_ep48 (fun G a x y h => ?_) _ _ _ _ _ _ h) _ _ _ _ _ _ h
    exact kP_fa fun _ => kP_stn h fun _ h => kP_fi fun _ => kP_put h (Or.inl (by decide)) fun _ h => kP_rI h
theorem kp_eps {K : gH → Int32 → gR} (hK : ∀ G x, kC q v G → kP q v (K G x)) : ∀ (n : Nat) (G : gH) (a : Nat) (x y z u : Int32), kC q v G → kP q v (f_M_endParts_L5 K n G a x y z u)
  | 0, _, _, _, _, _, _, _ => kP_none
  | n + 1, G, a, x, y, z, u, h => by
    unfold f_M_endParts_L5
    split
    · exact hK _ _ h
    · refine kP_fa fun _ => kP_ldq (kp_eps hK n G a _ _ _ _ h) fun _ => kP_ob fun _ => kP_bI (kp_rowOf _ _ _ _ h) fun _ G1 h => ?_
      split
      · refine kP_ob fun _ => kP_bI (kp_isAbove _ _ _ _ _ h) fun _ G2 h => ?_
        split
        · exact kP_ob fun _ => kP_bI (kp_endPart _ _ _ _ h) fun _ _ h => kp_eps hK n _ a _ _ _ _ h
        · exact kp_eps hK n _ a _ _ _ _ h
      · exact kp_eps hK n _ a _ _ _ _ h
theorem kp_endParts {a : Nat} {x y : Int32} (h : kC q v G) : kP q v (f_M_endParts G a x y) := by
  unfold f_M_endParts
  exact kp_eps (fun _ _ h => kP_rI h) _ _ _ _ _ _ _ h
theorem kp_ch8 {K : gH → Nat → Int32 → Int32 → gR} (hK : ∀ G a x y, kC q v G → kP q v (K G a x y)) : ∀ (n : Nat) (G : gH) (a : Nat) (x y z u : Int32), kC q v G → kP q v (f_M_change_L8 K n G a x y z u)
  | 0, _, _, _, _, _, _, _ => kP_none
  | n + 1, G, a, x, y, z, u, h => by
    unfold f_M_change_L8
    split
    · exact hK _ _ _ _ h
    · exact kP_fa fun _ => kP_ldq kP_none fun _ => kP_fi fun _ => kP_put h (Or.inl (by decide)) fun _ h => kP_fa fun _ => kP_ldq kP_none fun _ => kP_fi fun _ => kp_ch8 hK n _ a _ _ _ _ h
theorem kp_ch55 {K : gH → Nat → Int32 → Int32 → gR} (hK : ∀ G a x y, kC q v G → kP q v (K G a x y)) : ∀ (n : Nat) (G : gH) (a : Nat) (x y z u : Int32), kC q v G → kP q v (f_M_change_L55 K n G a x y z u)
  | 0, _, _, _, _, _, _, _ => kP_none
  | n + 1, G, a, x, y, z, u, h => by
    unfold f_M_change_L55
    split
    · exact hK _ _ _ _ h
    · split
      · exact kp_ch55 hK n _ a _ _ _ _ h
      · refine kP_fa fun _ => kP_ldq (kp_ch55 hK n _ a _ _ _ _ h) fun _ => kP_fa fun _ => kP_ldq kP_none fun _ => kP_fi fun _ => kP_ob fun _ => kP_bI (kp_rowOf _ _ _ _ h) fun _ G1 h => ?_
        split
        · refine kP_fa fun _ => kP_ldq kP_none fun _ => kP_fi fun _ => ?_
          split
          · exact kP_fa fun _ => kP_ldq kP_none fun _ => kP_put h (Or.inr (by decide)) fun _ h => kp_ch55 hK n _ a _ _ _ _ h
          · exact kP_ob fun _ => kP_bV (kp_endC h) fun _ h => kp_ch55 hK n _ a _ _ _ _ h
        · exact kp_ch55 hK n _ a _ _ _ _ h
theorem kp_change {a : Nat} {x y z : Int32} (h : kC q v G) : kP q v (f_M_change G a x y z) := by
  unfold f_M_change
  split
  · exact kP_rV h
  · refine kp_ch8 (fun G a x y h => kP_ob fun _ => kP_bI (kp_rowOf _ _ _ _ h) fun _ G1 h => kp_ch55 (fun G a x y h => ?_) _ _ _ _ _ _ _ h) _ _ _ _ _ _ _ h
    exact kP_ob fun _ => kP_bI (kp_endParts h) fun _ _ h => kP_rV h
end Keep4
section Drp
variable {w : Nat → Nat} {b o m : Nat} {A : mS} {σ : cS} {H : gH}
theorem sim_previous (hR : CRep σ A) (hI : mInv m A) (x : Int32) : SimOp w b o A m σ H xI1 (f_X_previous (cPut b σ H) b x) (fun G => f_M_previous G o x) := by
  have hX := CRepx.of (exc := -1) hR
  by_cases hx : mIsC A x
  · have hC := hx
    obtain ⟨c, hc3, rfl, hcn⟩ := hx
    cases hcx : A.2.2.1 c with
    | none => exact absurd hcx hcn
    | some y =>
      have hIt : mInv m (mSet A 0 0) := hI.thr 0
      obtain ⟨-, hy6, hv, hok⟩ := hI.2.2.2.1 c y hcx
      have hl31 := hI.l31 hv
      have hW := hI.w y.1
      obtain ⟨r, s, hr, hr2, hfit, h31, -, -⟩ := hI.pl hv
      have hq0 : ∀ (G : gH) (D : mD), MS w o G A D → ∃ q, D.2.2.2.2.2 c = some q := fun G D h => by
        obtain ⟨q, e, -⟩ := s_curq h hc3 hcx
        exact ⟨q, e⟩
      by_cases hs : y.2.2.2 = 0
      · rcases hok with ⟨-, hn, -⟩ | ⟨hs1, -⟩
        · by_cases h0 : y.2.1 = 0
          · refine sim_fault hR hI (-8) ?_ (fun G D h => ?_)
            · unfold f_X_previous
              simp only [(x_needCursor hR).1 hC, x_isStale hR hc3 hcx, x_nextOf hR hc3 hcx, c_ob_0, c_fa_0_0, c_fa_0_1, c_fi_0_2, c_put_0_2, c_fi_0_3, c_put_0_3, c_fi_0_4, c_put_0_4, c_ob_1, c_fa_1_0, c_fa_1_1, c_fa_1_2, c_fa_1_3, c_fa_1_4, c_fa_1_5, c_fi_1_6, c_put_1_6, c_ob_2, c_fa_2_0, c_ob_4, c_fa_4_0, c_ob_6, c_fa_6_0, c_ob_8, c_fa_8_0, c_ob_10, c_fa_10_0, c_ob_12, c_fa_12_0, c_ob_14, c_fa_14_0, c_fa_14_1, c_fa_14_2, c_fa_14_3, c_fi_14_4, c_put_14_4, c_ob_15, c_fa_15_0, c_ob_17, c_fa_17_0, c_ob_19, c_fa_19_0, c_ob_21, c_fa_21_0, c_len_0, c_ld_0, c_st_0, c_rd_0, c_wr_0, c_len_1, c_ld_1, c_st_1, c_rd_1, c_wr_1, c_len_2, c_ld_2, c_st_2, c_rd_2, c_wr_2, c_len_3, c_ld_3, c_st_3, c_rd_3, c_wr_3, c_len_4, c_ld_4, c_st_4, c_rd_4, c_wr_4, c_len_5, c_ld_5, c_st_5, c_rd_5, c_wr_5, c_len_6, c_ld_6, c_st_6, c_rd_6, c_wr_6, c_len_7, c_ld_7, c_st_7, c_rd_7, c_wr_7, c_len_8, c_ld_8, c_st_8, c_rd_8, c_wr_8, c_len_9, c_ld_9, c_st_9, c_rd_9, c_wr_9, bI_rI, bL_rL, bA_rA, bV_rV, bI_th, bL_th, bA_th, bV_th, rZ_0, rZ_1]
              rw [mB_if, if_neg (by simp [hs]), h0, if_neg (by decide)]
              rw [(x_fail (b := b) (H := H) hX (-8)).1, bI_rI]
            · obtain ⟨G1, r1, h1, s1⟩ := r_cur1 h hC
              obtain ⟨q, hq⟩ := hq0 G D h
              obtain ⟨f0, f1, f2, f3⟩ := s_fi h1 hc3 hcx hq
              obtain ⟨G2, r2, h2, s2⟩ := s_fault h1 (-8)
              refine ⟨G1, ?_, h1, s1⟩
              show f_M_previous G o (nI c) = _
              unfold f_M_previous
              rw [r1, s_ldC h1 hc3 hq, f3, if_pos hs, f1, h0, if_pos nI0, gOb_of h1.2.2.1 rfl, r2, bI_rI]
          · obtain ⟨n, hn1⟩ : ∃ n, y.2.1 = n + 1 := ⟨y.2.1 - 1, by omega⟩
            have e1 : nI (n + 1) - nI 1 = nI n := by rw [nI_sub (by omega)]; rfl
            have ht := List.getElem?_eq_getElem (show s + n < (A.1 r).length by omega)
            generalize (A.1 r)[s + n] = t at ht
            have hto := (hI.2.2.1 r hr2).2 t (List.mem_of_getElem? ht)
            have h600 := hI.2.2.2.2.2
            have hXs := CRepx.setC (y := (y.1, n, nI n, y.2.2.2)) (A := mSet A 0 0) (hX.thr 0) hcx rfl rfl
            have hIs : mInv m (mSetC (mSet A 0 0) c (y.1, n, nI n, y.2.2.2)) := hIt.setC hc3 ⟨hy6, hv, Or.inl ⟨hs, show n ≤ mLen A y.1 by omega, Or.inr ⟨n, show n < mLen A y.1 by omega, rfl⟩⟩⟩
            obtain ⟨σ', y1, y2⟩ := x_stand (b := b) (G := H) hXs hc3 mSetC_at
            have y1' : f_U_stand (cPut b σ H) (b + 14) (nI c) (nI n) (nI n) = rV (cPut b σ' H) := y1
            have x1 : f_I_thingAt (cPut b σ' H) (b + 1) (nI y.1) (nI n) = rI (nI (32 * t.2.2 + t.2.1)) (cPut b σ' H) := x_at (CRepx.of (exc := -1) y2) (hIs.w y.1) hv hr ht
            have x2 : f_U_listOf (cPut b σ' H) (b + 14) (nI c) = rI (nI y.1) (cPut b σ' H) := x_listOf (x := (y.1, n, nI n, y.2.2.2)) y2 hc3 mSetC_at
            refine Sim.yes (nI t.2.2) σ' ?_ (fun G D h => ?_)
            · unfold f_X_previous
              simp only [(x_needCursor hR).1 hC, x_isStale hR hc3 hcx, x_nextOf hR hc3 hcx, hn1, e1, c_ob_0, c_fa_0_0, c_fa_0_1, c_fi_0_2, c_put_0_2, c_fi_0_3, c_put_0_3, c_fi_0_4, c_put_0_4, c_ob_1, c_fa_1_0, c_fa_1_1, c_fa_1_2, c_fa_1_3, c_fa_1_4, c_fa_1_5, c_fi_1_6, c_put_1_6, c_ob_2, c_fa_2_0, c_ob_4, c_fa_4_0, c_ob_6, c_fa_6_0, c_ob_8, c_fa_8_0, c_ob_10, c_fa_10_0, c_ob_12, c_fa_12_0, c_ob_14, c_fa_14_0, c_fa_14_1, c_fa_14_2, c_fa_14_3, c_fi_14_4, c_put_14_4, c_ob_15, c_fa_15_0, c_ob_17, c_fa_17_0, c_ob_19, c_fa_19_0, c_ob_21, c_fa_21_0, c_len_0, c_ld_0, c_st_0, c_rd_0, c_wr_0, c_len_1, c_ld_1, c_st_1, c_rd_1, c_wr_1, c_len_2, c_ld_2, c_st_2, c_rd_2, c_wr_2, c_len_3, c_ld_3, c_st_3, c_rd_3, c_wr_3, c_len_4, c_ld_4, c_st_4, c_rd_4, c_wr_4, c_len_5, c_ld_5, c_st_5, c_rd_5, c_wr_5, c_len_6, c_ld_6, c_st_6, c_rd_6, c_wr_6, c_len_7, c_ld_7, c_st_7, c_rd_7, c_wr_7, c_len_8, c_ld_8, c_st_8, c_rd_8, c_wr_8, c_len_9, c_ld_9, c_st_9, c_rd_9, c_wr_9, bI_rI, bL_rL, bA_rA, bV_rV, bI_th, bL_th, bA_th, bV_th, rZ_0, rZ_1]
              rw [mB_if, if_neg (by simp [hs]), if_pos (nI_pos' (by omega))]
              simp only [y1', x1, x2, x_tagOf (show t.2.1 < 32 by have := hto.1; omega) (show t.2.2 ≤ 1000 by have := hto.2; omega), c_ob_0, c_fa_0_0, c_fa_0_1, c_fi_0_2, c_put_0_2, c_fi_0_3, c_put_0_3, c_fi_0_4, c_put_0_4, c_ob_1, c_fa_1_0, c_fa_1_1, c_fa_1_2, c_fa_1_3, c_fa_1_4, c_fa_1_5, c_fi_1_6, c_put_1_6, c_ob_2, c_fa_2_0, c_ob_4, c_fa_4_0, c_ob_6, c_fa_6_0, c_ob_8, c_fa_8_0, c_ob_10, c_fa_10_0, c_ob_12, c_fa_12_0, c_ob_14, c_fa_14_0, c_fa_14_1, c_fa_14_2, c_fa_14_3, c_fi_14_4, c_put_14_4, c_ob_15, c_fa_15_0, c_ob_17, c_fa_17_0, c_ob_19, c_fa_19_0, c_ob_21, c_fa_21_0, c_len_0, c_ld_0, c_st_0, c_rd_0, c_wr_0, c_len_1, c_ld_1, c_st_1, c_rd_1, c_wr_1, c_len_2, c_ld_2, c_st_2, c_rd_2, c_wr_2, c_len_3, c_ld_3, c_st_3, c_rd_3, c_wr_3, c_len_4, c_ld_4, c_st_4, c_rd_4, c_wr_4, c_len_5, c_ld_5, c_st_5, c_rd_5, c_wr_5, c_len_6, c_ld_6, c_st_6, c_rd_6, c_wr_6, c_len_7, c_ld_7, c_st_7, c_rd_7, c_wr_7, c_len_8, c_ld_8, c_st_8, c_rd_8, c_wr_8, c_len_9, c_ld_9, c_st_9, c_rd_9, c_wr_9, bI_rI, bL_rL, bA_rA, bV_rV, bI_th, bL_th, bA_th, bV_th, rZ_0, rZ_1]
            · obtain ⟨G1, r1, h1, s1⟩ := r_cur1 h hC
              obtain ⟨q, hq⟩ := hq0 G D h
              obtain ⟨f0, f1, f2, f3⟩ := s_fi h1 hc3 hcx hq
              obtain ⟨G2, r2, h2, s2⟩ := s_put1 (n := n) h1 hc3 hcx hq (by omega)
              obtain ⟨g0, g1, g2, g3⟩ := s_fi h2 hc3 mSetC_at hq
              obtain ⟨G3, r3, h3, s3⟩ := s_put2 (v := nI n) h2 hc3 mSetC_at hq
              rw [mSetC_mSetC] at h3
              have h3' : MS w o G3 (mSetC (mSet A 0 0) c (y.1, n, nI n, y.2.2.2)) D := h3
              obtain ⟨k0, k1, k2, k3⟩ := s_fi h3' hc3 mSetC_at hq
              refine ⟨_, D, G3, m, ?_, h3', y2, hIs, Nat.le_succ m, rfl, ((s1.trans s2).trans s3).mono (by omega) (by omega)⟩
              unfold f_M_previous
              rw [r1, s_ldC h1 hc3 hq, f3, if_pos hs, f1, hn1, if_neg (nI_ne0 (by omega) (by omega)), f1, hn1, e1, r2, g1, r3, k0, k2, gOb_of h3'.2.2.1 rfl, s_at h3' hIs.1 hv hr ht, bA_rA, (s_th h3' hr2 ht).tag]
        · exact absurd (hs1.symm.trans hs) (by decide)
      · refine sim_fault hR hI (-9) ?_ (fun G D h => ?_)
        · unfold f_X_previous
          simp only [(x_needCursor hR).1 hC, x_isStale hR hc3 hcx, c_ob_0, c_fa_0_0, c_fa_0_1, c_fi_0_2, c_put_0_2, c_fi_0_3, c_put_0_3, c_fi_0_4, c_put_0_4, c_ob_1, c_fa_1_0, c_fa_1_1, c_fa_1_2, c_fa_1_3, c_fa_1_4, c_fa_1_5, c_fi_1_6, c_put_1_6, c_ob_2, c_fa_2_0, c_ob_4, c_fa_4_0, c_ob_6, c_fa_6_0, c_ob_8, c_fa_8_0, c_ob_10, c_fa_10_0, c_ob_12, c_fa_12_0, c_ob_14, c_fa_14_0, c_fa_14_1, c_fa_14_2, c_fa_14_3, c_fi_14_4, c_put_14_4, c_ob_15, c_fa_15_0, c_ob_17, c_fa_17_0, c_ob_19, c_fa_19_0, c_ob_21, c_fa_21_0, c_len_0, c_ld_0, c_st_0, c_rd_0, c_wr_0, c_len_1, c_ld_1, c_st_1, c_rd_1, c_wr_1, c_len_2, c_ld_2, c_st_2, c_rd_2, c_wr_2, c_len_3, c_ld_3, c_st_3, c_rd_3, c_wr_3, c_len_4, c_ld_4, c_st_4, c_rd_4, c_wr_4, c_len_5, c_ld_5, c_st_5, c_rd_5, c_wr_5, c_len_6, c_ld_6, c_st_6, c_rd_6, c_wr_6, c_len_7, c_ld_7, c_st_7, c_rd_7, c_wr_7, c_len_8, c_ld_8, c_st_8, c_rd_8, c_wr_8, c_len_9, c_ld_9, c_st_9, c_rd_9, c_wr_9, bI_rI, bL_rL, bA_rA, bV_rV, bI_th, bL_th, bA_th, bV_th, rZ_0, rZ_1]
          rw [mB_if, if_pos (by simp [hs])]
          rw [(x_fail (b := b) (H := H) hX (-9)).1, bI_rI]
        · obtain ⟨G1, r1, h1, s1⟩ := r_cur1 h hC
          obtain ⟨q, hq⟩ := hq0 G D h
          obtain ⟨f0, f1, f2, f3⟩ := s_fi h1 hc3 hcx hq
          obtain ⟨G2, r2, h2, s2⟩ := s_fault h1 (-9)
          refine ⟨G1, ?_, h1, s1⟩
          show f_M_previous G o (nI c) = _
          unfold f_M_previous
          rw [r1, s_ldC h1 hc3 hq, f3, if_neg hs, gOb_of h1.2.2.1 rfl, r2, bI_rI]
  · refine Sim.no hR hI 1 (by decide) (by decide) ?_ (fun G D h => ?_)
    · unfold f_X_previous
      simp only [(x_needCursor hR).2 hx, c_ob_0, c_fa_0_0, c_fa_0_1, c_fi_0_2, c_put_0_2, c_fi_0_3, c_put_0_3, c_fi_0_4, c_put_0_4, c_ob_1, c_fa_1_0, c_fa_1_1, c_fa_1_2, c_fa_1_3, c_fa_1_4, c_fa_1_5, c_fi_1_6, c_put_1_6, c_ob_2, c_fa_2_0, c_ob_4, c_fa_4_0, c_ob_6, c_fa_6_0, c_ob_8, c_fa_8_0, c_ob_10, c_fa_10_0, c_ob_12, c_fa_12_0, c_ob_14, c_fa_14_0, c_fa_14_1, c_fa_14_2, c_fa_14_3, c_fi_14_4, c_put_14_4, c_ob_15, c_fa_15_0, c_ob_17, c_fa_17_0, c_ob_19, c_fa_19_0, c_ob_21, c_fa_21_0, c_len_0, c_ld_0, c_st_0, c_rd_0, c_wr_0, c_len_1, c_ld_1, c_st_1, c_rd_1, c_wr_1, c_len_2, c_ld_2, c_st_2, c_rd_2, c_wr_2, c_len_3, c_ld_3, c_st_3, c_rd_3, c_wr_3, c_len_4, c_ld_4, c_st_4, c_rd_4, c_wr_4, c_len_5, c_ld_5, c_st_5, c_rd_5, c_wr_5, c_len_6, c_ld_6, c_st_6, c_rd_6, c_wr_6, c_len_7, c_ld_7, c_st_7, c_rd_7, c_wr_7, c_len_8, c_ld_8, c_st_8, c_rd_8, c_wr_8, c_len_9, c_ld_9, c_st_9, c_rd_9, c_wr_9, bI_rI, bL_rL, bA_rA, bV_rV, bI_th, bL_th, bA_th, bV_th, rZ_0, rZ_1]
      rfl
    · obtain ⟨G1, r1, h1, s1⟩ := r_cur0 h hx
      refine ⟨G1, ?_, h1, s1⟩
      unfold f_M_previous
      rw [r1]
      rfl
theorem sim_put (hR : CRep σ A) (hI : mInv m A) (hm : m < 600) (x k : Int32) : SimOp w b o A m σ H xIG (f_X_put (cPut b σ H) b x k) (fun G => f_M_put G o x k) := by
  have hX := CRepx.of (exc := -1) hR
  by_cases hx : mIsC A x
  · have hC := hx
    obtain ⟨c, hc3, rfl, hcn⟩ := hx
    by_cases hk : mIsP 31 k
    · have hK := hk
      obtain ⟨k, hk31, rfl⟩ := hk
      cases hcx : A.2.2.1 c with
      | none => exact absurd hcx hcn
      | some y =>
        have hIt : mInv m (mSet A 0 0) := hI.thr 0
        obtain ⟨-, hy6, hv, hok⟩ := hI.2.2.2.1 c y hcx
        have hl31 := hI.l31 hv
        have hW := hI.w y.1
        obtain ⟨r, s, hr, hr2, hfit, h31, -, -⟩ := hI.pl hv
        have hq0 : ∀ (G : gH) (D : mD), MS w o G A D → ∃ q, D.2.2.2.2.2 c = some q := fun G D h => by
          obtain ⟨q, e, -⟩ := s_curq h hc3 hcx
          exact ⟨q, e⟩
        by_cases hs : y.2.2.2 = 0
        · rcases hok with ⟨-, hn, hla⟩ | ⟨hs1, -⟩
          · rcases hla with hl | ⟨j, hj, hl⟩
            · refine sim_fault hR hI (-7) ?_ (fun G D h => ?_)
              · unfold f_X_put
                simp only [(x_needCursor hR).1 hC, x_needKey.1 hK, x_isStale hR hc3 hcx, x_lastOf hR hc3 hcx, c_ob_0, c_fa_0_0, c_fa_0_1, c_fi_0_2, c_put_0_2, c_fi_0_3, c_put_0_3, c_fi_0_4, c_put_0_4, c_ob_1, c_fa_1_0, c_fa_1_1, c_fa_1_2, c_fa_1_3, c_fa_1_4, c_fa_1_5, c_fi_1_6, c_put_1_6, c_ob_2, c_fa_2_0, c_ob_4, c_fa_4_0, c_ob_6, c_fa_6_0, c_ob_8, c_fa_8_0, c_ob_10, c_fa_10_0, c_ob_12, c_fa_12_0, c_ob_14, c_fa_14_0, c_fa_14_1, c_fa_14_2, c_fa_14_3, c_fi_14_4, c_put_14_4, c_ob_15, c_fa_15_0, c_ob_17, c_fa_17_0, c_ob_19, c_fa_19_0, c_ob_21, c_fa_21_0, c_len_0, c_ld_0, c_st_0, c_rd_0, c_wr_0, c_len_1, c_ld_1, c_st_1, c_rd_1, c_wr_1, c_len_2, c_ld_2, c_st_2, c_rd_2, c_wr_2, c_len_3, c_ld_3, c_st_3, c_rd_3, c_wr_3, c_len_4, c_ld_4, c_st_4, c_rd_4, c_wr_4, c_len_5, c_ld_5, c_st_5, c_rd_5, c_wr_5, c_len_6, c_ld_6, c_st_6, c_rd_6, c_wr_6, c_len_7, c_ld_7, c_st_7, c_rd_7, c_wr_7, c_len_8, c_ld_8, c_st_8, c_rd_8, c_wr_8, c_len_9, c_ld_9, c_st_9, c_rd_9, c_wr_9, bI_rI, bL_rL, bA_rA, bV_rV, bI_th, bL_th, bA_th, bV_th, rZ_0, rZ_1]
                rw [mB_if, if_neg (by simp [hs]), if_pos hl]
                rw [(x_fail (b := b) (H := H) hX (-7)).1, bI_rI]
              · obtain ⟨G1, r1, h1, s1⟩ := r_cur1 h hC
                obtain ⟨q, hq⟩ := hq0 G D h
                obtain ⟨f0, f1, f2, f3⟩ := s_fi h1 hc3 hcx hq
                obtain ⟨G2, r2, h2, s2⟩ := s_fault h1 (-7)
                refine ⟨G1, ?_, h1, s1⟩
                show f_M_put G o (nI c) (nI k) = _
                unfold f_M_put
                rw [r1, gOb_of h1.2.2.1 rfl, (s_noKey G1 o _).1 hK, bI_rI, r_ref0b h1 rfl, s_ldC h1 hc3 hq, f3, if_pos hs, f2, if_pos hl, gOb_of h1.2.2.1 rfl, r2, bI_rI]
            · have ht := List.getElem?_eq_getElem (show s + j < (A.1 r).length by omega)
              generalize (A.1 r)[s + j] = t at ht
              obtain ⟨hXt, hXB, hIB⟩ := b_made hR hI hm
              have hWB := hIB.w y.1
              obtain ⟨y1, y2⟩ := x_write (b := b) (G := H) (i := j) hXB hWB.1 hWB.2.1 hWB.2.2.1 hv hr hj (0, k, m)
              have y1' : f_I_write (cPut b (cSetI σ 2 (nI (m + 1))) H) (b + 1) (nI y.1) (nI j) (nI (32 * m + k)) = _ := y1
              have x2 : f_U_listOf (cPut b (cSetI σ 2 (nI (m + 1))) H) (b + 14) (nI c) = rI (nI y.1) (cPut b (cSetI σ 2 (nI (m + 1))) H) := x_listOf (A := mSet (mSet A 0 0) 1 (nI (m + 1))) hXB hc3 hcx
              have hne : ¬ nI j = -1 := nI_ne1 (by omega)
              refine Sim.yes (nI m) (cArr (cSetI σ 2 (nI (m + 1))) 0 (upd ((cSetI σ 2 (nI (m + 1))).1 0) (31 * r + (s + j)) (cE (0, k, m)))) ?_ (fun G D h => ?_)
              · unfold f_X_put
                simp only [(x_needCursor hR).1 hC, x_needKey.1 hK, x_isStale hR hc3 hcx, x_lastOf hR hc3 hcx, hl, c_ob_0, c_fa_0_0, c_fa_0_1, c_fi_0_2, c_put_0_2, c_fi_0_3, c_put_0_3, c_fi_0_4, c_put_0_4, c_ob_1, c_fa_1_0, c_fa_1_1, c_fa_1_2, c_fa_1_3, c_fa_1_4, c_fa_1_5, c_fi_1_6, c_put_1_6, c_ob_2, c_fa_2_0, c_ob_4, c_fa_4_0, c_ob_6, c_fa_6_0, c_ob_8, c_fa_8_0, c_ob_10, c_fa_10_0, c_ob_12, c_fa_12_0, c_ob_14, c_fa_14_0, c_fa_14_1, c_fa_14_2, c_fa_14_3, c_fi_14_4, c_put_14_4, c_ob_15, c_fa_15_0, c_ob_17, c_fa_17_0, c_ob_19, c_fa_19_0, c_ob_21, c_fa_21_0, c_len_0, c_ld_0, c_st_0, c_rd_0, c_wr_0, c_len_1, c_ld_1, c_st_1, c_rd_1, c_wr_1, c_len_2, c_ld_2, c_st_2, c_rd_2, c_wr_2, c_len_3, c_ld_3, c_st_3, c_rd_3, c_wr_3, c_len_4, c_ld_4, c_st_4, c_rd_4, c_wr_4, c_len_5, c_ld_5, c_st_5, c_rd_5, c_wr_5, c_len_6, c_ld_6, c_st_6, c_rd_6, c_wr_6, c_len_7, c_ld_7, c_st_7, c_rd_7, c_wr_7, c_len_8, c_ld_8, c_st_8, c_rd_8, c_wr_8, c_len_9, c_ld_9, c_st_9, c_rd_9, c_wr_9, bI_rI, bL_rL, bA_rA, bV_rV, bI_th, bL_th, bA_th, bV_th, rZ_0, rZ_1]
                rw [mB_if, if_neg (by simp [hs]), if_neg hne]
                simp only [x_make hX hI.2.2.2.2.1 (show k < 32 by omega), x2, y1', x_tagOf (show k < 32 by omega) (show m ≤ 1000 by omega), c_ob_0, c_fa_0_0, c_fa_0_1, c_fi_0_2, c_put_0_2, c_fi_0_3, c_put_0_3, c_fi_0_4, c_put_0_4, c_ob_1, c_fa_1_0, c_fa_1_1, c_fa_1_2, c_fa_1_3, c_fa_1_4, c_fa_1_5, c_fi_1_6, c_put_1_6, c_ob_2, c_fa_2_0, c_ob_4, c_fa_4_0, c_ob_6, c_fa_6_0, c_ob_8, c_fa_8_0, c_ob_10, c_fa_10_0, c_ob_12, c_fa_12_0, c_ob_14, c_fa_14_0, c_fa_14_1, c_fa_14_2, c_fa_14_3, c_fi_14_4, c_put_14_4, c_ob_15, c_fa_15_0, c_ob_17, c_fa_17_0, c_ob_19, c_fa_19_0, c_ob_21, c_fa_21_0, c_len_0, c_ld_0, c_st_0, c_rd_0, c_wr_0, c_len_1, c_ld_1, c_st_1, c_rd_1, c_wr_1, c_len_2, c_ld_2, c_st_2, c_rd_2, c_wr_2, c_len_3, c_ld_3, c_st_3, c_rd_3, c_wr_3, c_len_4, c_ld_4, c_st_4, c_rd_4, c_wr_4, c_len_5, c_ld_5, c_st_5, c_rd_5, c_wr_5, c_len_6, c_ld_6, c_st_6, c_rd_6, c_wr_6, c_len_7, c_ld_7, c_st_7, c_rd_7, c_wr_7, c_len_8, c_ld_8, c_st_8, c_rd_8, c_wr_8, c_len_9, c_ld_9, c_st_9, c_rd_9, c_wr_9, bI_rI, bL_rL, bA_rA, bV_rV, bI_th, bL_th, bA_th, bV_th, rZ_0, rZ_1]
              · obtain ⟨G1, r1, h1, s1⟩ := r_cur1 h hC
                obtain ⟨q, hq⟩ := hq0 G D h
                obtain ⟨f0, f1, f2, f3⟩ := s_fi h1 hc3 hcx hq
                obtain ⟨G2, r2, h2, s2, t2⟩ := s_make (k := k) h1 (show (mSet A 0 0).2.2.2 1 = nI m from hI.2.2.2.2.1)
                obtain ⟨G3, r3, h3, s3, t3, -⟩ := s_write (i := j) (u := (G1.2.1, k, m)) h2 hWB.1 hv hr ht t2
                have r3' : f_M_write G2 o (nI y.1) (nI j) G1.2.1 = rA t.1 G3 := r3
                refine ⟨_, D, G3, m + 1, ?_, h3, (CRepx.rowsC (exc := -1) y2 (us := (A.1 r).set (s + j) (G1.2.1, k, m)) ?_), hIB.rows ?_ ?_, Nat.le_refl _, rfl, ((s1.trans s2).trans s3).mono (by omega) (by omega)⟩
                · unfold f_M_put
                  rw [r1, gOb_of h1.2.2.1 rfl, (s_noKey G1 o _).1 hK, bI_rI, r_ref0b h1 rfl, s_ldC h1 hc3 hq, f3, if_pos hs, f2, hl, if_neg hne, f0, f2, hl, gOb_of h1.2.2.1 rfl, r2, bA_rA, gOb_of h2.2.2.1 rfl, r3', bA_rA, m_int h3.2.2 (j := 1) (i := 4) (by omega) rfl]
                  show rI (nI (m + 1) - nI 1) G3 = rI (nI m) G3
                  rw [nI_sub (by omega)]; rfl
                · show ((A.1 r).set (s + j) (0, k, m)).map Prod.snd = _
                  rw [List.map_set, List.map_set]
                · exact List.length_set
                · intro u hu
                  rcases set_mem hu with q | q
                  · exact (hIB.2.2.1 r hr2).2 u q
                  · rw [q]; exact ⟨hk31, Nat.lt_succ_self m⟩
          · exact absurd (hs1.symm.trans hs) (by decide)
        · refine sim_fault hR hI (-9) ?_ (fun G D h => ?_)
          · unfold f_X_put
            simp only [(x_needCursor hR).1 hC, x_needKey.1 hK, x_isStale hR hc3 hcx, c_ob_0, c_fa_0_0, c_fa_0_1, c_fi_0_2, c_put_0_2, c_fi_0_3, c_put_0_3, c_fi_0_4, c_put_0_4, c_ob_1, c_fa_1_0, c_fa_1_1, c_fa_1_2, c_fa_1_3, c_fa_1_4, c_fa_1_5, c_fi_1_6, c_put_1_6, c_ob_2, c_fa_2_0, c_ob_4, c_fa_4_0, c_ob_6, c_fa_6_0, c_ob_8, c_fa_8_0, c_ob_10, c_fa_10_0, c_ob_12, c_fa_12_0, c_ob_14, c_fa_14_0, c_fa_14_1, c_fa_14_2, c_fa_14_3, c_fi_14_4, c_put_14_4, c_ob_15, c_fa_15_0, c_ob_17, c_fa_17_0, c_ob_19, c_fa_19_0, c_ob_21, c_fa_21_0, c_len_0, c_ld_0, c_st_0, c_rd_0, c_wr_0, c_len_1, c_ld_1, c_st_1, c_rd_1, c_wr_1, c_len_2, c_ld_2, c_st_2, c_rd_2, c_wr_2, c_len_3, c_ld_3, c_st_3, c_rd_3, c_wr_3, c_len_4, c_ld_4, c_st_4, c_rd_4, c_wr_4, c_len_5, c_ld_5, c_st_5, c_rd_5, c_wr_5, c_len_6, c_ld_6, c_st_6, c_rd_6, c_wr_6, c_len_7, c_ld_7, c_st_7, c_rd_7, c_wr_7, c_len_8, c_ld_8, c_st_8, c_rd_8, c_wr_8, c_len_9, c_ld_9, c_st_9, c_rd_9, c_wr_9, bI_rI, bL_rL, bA_rA, bV_rV, bI_th, bL_th, bA_th, bV_th, rZ_0, rZ_1]
            rw [mB_if, if_pos (by simp [hs])]
            rw [(x_fail (b := b) (H := H) hX (-9)).1, bI_rI]
          · obtain ⟨G1, r1, h1, s1⟩ := r_cur1 h hC
            obtain ⟨q, hq⟩ := hq0 G D h
            obtain ⟨f0, f1, f2, f3⟩ := s_fi h1 hc3 hcx hq
            obtain ⟨G2, r2, h2, s2⟩ := s_fault h1 (-9)
            refine ⟨G1, ?_, h1, s1⟩
            show f_M_put G o (nI c) (nI k) = _
            unfold f_M_put
            rw [r1, gOb_of h1.2.2.1 rfl, (s_noKey G1 o _).1 hK, bI_rI, r_ref0b h1 rfl, s_ldC h1 hc3 hq, f3, if_neg hs, gOb_of h1.2.2.1 rfl, r2, bI_rI]
    · refine Sim.no hR hI 2 (by decide) (by decide) ?_ (fun G D h => ?_)
      · unfold f_X_put
        simp only [(x_needCursor hR).1 hC, x_needKey.2 hk, c_ob_0, c_fa_0_0, c_fa_0_1, c_fi_0_2, c_put_0_2, c_fi_0_3, c_put_0_3, c_fi_0_4, c_put_0_4, c_ob_1, c_fa_1_0, c_fa_1_1, c_fa_1_2, c_fa_1_3, c_fa_1_4, c_fa_1_5, c_fi_1_6, c_put_1_6, c_ob_2, c_fa_2_0, c_ob_4, c_fa_4_0, c_ob_6, c_fa_6_0, c_ob_8, c_fa_8_0, c_ob_10, c_fa_10_0, c_ob_12, c_fa_12_0, c_ob_14, c_fa_14_0, c_fa_14_1, c_fa_14_2, c_fa_14_3, c_fi_14_4, c_put_14_4, c_ob_15, c_fa_15_0, c_ob_17, c_fa_17_0, c_ob_19, c_fa_19_0, c_ob_21, c_fa_21_0, c_len_0, c_ld_0, c_st_0, c_rd_0, c_wr_0, c_len_1, c_ld_1, c_st_1, c_rd_1, c_wr_1, c_len_2, c_ld_2, c_st_2, c_rd_2, c_wr_2, c_len_3, c_ld_3, c_st_3, c_rd_3, c_wr_3, c_len_4, c_ld_4, c_st_4, c_rd_4, c_wr_4, c_len_5, c_ld_5, c_st_5, c_rd_5, c_wr_5, c_len_6, c_ld_6, c_st_6, c_rd_6, c_wr_6, c_len_7, c_ld_7, c_st_7, c_rd_7, c_wr_7, c_len_8, c_ld_8, c_st_8, c_rd_8, c_wr_8, c_len_9, c_ld_9, c_st_9, c_rd_9, c_wr_9, bI_rI, bL_rL, bA_rA, bV_rV, bI_th, bL_th, bA_th, bV_th, rZ_0, rZ_1]
        rfl
      · obtain ⟨G1, r1, h1, s1⟩ := r_cur1 h hC
        obtain ⟨G2, r2, h2, s2⟩ := r_no1b (c := 2) h1 (by decide)
        refine ⟨G2, ?_, h2, (s1.trans s2).mono (by omega) (by omega)⟩
        unfold f_M_put
        rw [r1, gOb_of h1.2.2.1 rfl, (s_noKey G1 o _).2 hk, bI_rI, r2]
        rfl
  · refine Sim.no hR hI 1 (by decide) (by decide) ?_ (fun G D h => ?_)
    · unfold f_X_put
      simp only [(x_needCursor hR).2 hx, c_ob_0, c_fa_0_0, c_fa_0_1, c_fi_0_2, c_put_0_2, c_fi_0_3, c_put_0_3, c_fi_0_4, c_put_0_4, c_ob_1, c_fa_1_0, c_fa_1_1, c_fa_1_2, c_fa_1_3, c_fa_1_4, c_fa_1_5, c_fi_1_6, c_put_1_6, c_ob_2, c_fa_2_0, c_ob_4, c_fa_4_0, c_ob_6, c_fa_6_0, c_ob_8, c_fa_8_0, c_ob_10, c_fa_10_0, c_ob_12, c_fa_12_0, c_ob_14, c_fa_14_0, c_fa_14_1, c_fa_14_2, c_fa_14_3, c_fi_14_4, c_put_14_4, c_ob_15, c_fa_15_0, c_ob_17, c_fa_17_0, c_ob_19, c_fa_19_0, c_ob_21, c_fa_21_0, c_len_0, c_ld_0, c_st_0, c_rd_0, c_wr_0, c_len_1, c_ld_1, c_st_1, c_rd_1, c_wr_1, c_len_2, c_ld_2, c_st_2, c_rd_2, c_wr_2, c_len_3, c_ld_3, c_st_3, c_rd_3, c_wr_3, c_len_4, c_ld_4, c_st_4, c_rd_4, c_wr_4, c_len_5, c_ld_5, c_st_5, c_rd_5, c_wr_5, c_len_6, c_ld_6, c_st_6, c_rd_6, c_wr_6, c_len_7, c_ld_7, c_st_7, c_rd_7, c_wr_7, c_len_8, c_ld_8, c_st_8, c_rd_8, c_wr_8, c_len_9, c_ld_9, c_st_9, c_rd_9, c_wr_9, bI_rI, bL_rL, bA_rA, bV_rV, bI_th, bL_th, bA_th, bV_th, rZ_0, rZ_1]
      rfl
    · obtain ⟨G1, r1, h1, s1⟩ := r_cur0 h hx
      refine ⟨G1, ?_, h1, s1⟩
      unfold f_M_put
      rw [r1]
      rfl
end Drp
