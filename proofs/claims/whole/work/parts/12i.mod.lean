def f_L1_canEncode (G : gH) (a0 : Int32) : gR :=
  if (nI 255) < a0 then rZ (nI 0) G
  else rZ (nI 1) G
theorem k_L1_canEncode {l : Launch} {D : va_G} {B : Nat} {O : State → Heap → Prop} (hV : zG l D B O) (G : gH) (a0 : Int32) : gMet (zVm l D B O) m_L1_canEncode 2 [.int a0] G (f_L1_canEncode G a0) := by
  have hdd : lSa m_L1_canEncode 0 [(.iload_n 0, 0), (.sipush 255, nI 255)] = true ∧ lIa m_L1_canEncode 4 (.if_icmp .gt 7) 3 = true ∧ lSa m_L1_canEncode 11 [(.iconst 0, nI 0)] = true ∧ lIa m_L1_canEncode 12 (.ireturn) 1 = true ∧ lSa m_L1_canEncode 7 [(.iconst 1, nI 1)] = true ∧ lIa m_L1_canEncode 8 (.goto 4) 3 = true := by decide +kernel
  obtain ⟨dd0, dd1, dd2, dd3, dd4, dd5⟩ := hdd
  refine gMet.of (by decide +kernel) (Nat.le_of_ble_eq_true rfl) [some (.int a0)] (fun ls h => zEn_ok (n := 1) h) ?_
  intro o Gf h
  unfold f_L1_canEncode at h
  refine Y.blk (pc' := 4) (L' := [some (.int a0)]) (st' := [.int (nI 255), .int a0]) (sg := [(.iload_n 0, 0), (.sipush 255, nI 255)]) (lSa_ok dd0) rfl ?_
  refine Y.ic_gt (off := 7) (tgt := 11) (lIa_ok dd1) (by decide) h (fun c1 h => ?_) (fun c1 h => ?_)
  · refine Y.blk (pc' := 12) (L' := [some (.int a0)]) (st' := [.int (nI 0)]) (sg := [(.iconst 0, nI 0)]) (lSa_ok dd2) rfl ?_
    exact Y.zret rfl (lIa_ok dd3) h
  · refine Y.blk (pc' := 8) (L' := [some (.int a0)]) (st' := [.int (nI 1)]) (sg := [(.iconst 1, nI 1)]) (lSa_ok dd4) rfl ?_
    refine Y.goto (off := 4) (tgt := 12) (lIa_ok dd5) (by decide) ?_
    exact Y.zret rfl (lIa_ok dd3) h

def f_AB_append1 (w : Nat → Nat) (G : gH) (a0 : Nat) (a1 : Int32) : gR :=
  gFI G a0 10 3 fun v1 => gOb G a0 10 fun o3 => bV (f_AB_ensureCapacityInternal G a0 (v1 + (nI 1))) fun G5 => gOb G5 a0 10 fun o7 => bI (f_AB_isLatin1 w G5 a0) fun v10 G9 => if v10 = 0 then (gOb G9 a0 10 fun o12 => bI (f_AB_isLatin1 w G9 a0) fun v15 G14 => if v15 = 0 then gFA G14 a0 10 0 fun v16 => gFI G14 a0 10 3 fun v17 => gPut G14 a0 10 3 (.int (v17 + (nI 1))) fun G18 => none
    else none)
  else bI (f_L1_canEncode G9 a1) fun v22 G21 => if v22 = 0 then (gOb G21 a0 10 fun o24 => bI (f_AB_isLatin1 w G21 a0) fun v27 G26 => if v27 = 0 then gFA G26 a0 10 0 fun v28 => gFI G26 a0 10 3 fun v29 => gPut G26 a0 10 3 (.int (v29 + (nI 1))) fun G30 => none
      else none)
    else gFA G21 a0 10 0 fun v32 => gFI G21 a0 10 3 fun v33 => gPut G21 a0 10 3 (.int (v33 + (nI 1))) fun G34 => gSt G34 v32 101 v33 (vp_nar .byte a1.toInt8.toInt32) fun G35 => rA a0 G35
theorem k_AB_append1 {l : Launch} {D : va_G} {B : Nat} {O : State → Heap → Prop} {w : Nat → Nat} (hV : zGw l D B O w) (G : gH) (a0 : Nat) (a1 : Int32) : gMet (zVm l D B O) m_AB_append1 5 [.ref a0, .int a1] G (f_AB_append1 w G a0 a1) := by
  have hdd : lSa m_AB_append1 0 [(.aload_n 0, 0), (.aload_n 0, 0)] = true ∧ lIa m_AB_append1 2 (.getfield 79) 3 = true ∧ lSa m_AB_append1 5 [(.iconst 1, nI 1), (.iadd, 0)] = true ∧ lIa m_AB_append1 7 (.invokevirtual 100) 3 = true ∧ lSa m_AB_append1 10 [(.aload_n 0, 0)] = true ∧ lIa m_AB_append1 11 (.invokevirtual 83) 3 = true ∧ lIa m_AB_append1 14 (.ifCond .eq 31) 3 = true ∧ lSa m_AB_append1 45 [(.aload_n 0, 0)] = true ∧ lIa m_AB_append1 46 (.invokevirtual 83) 3 = true ∧ lIa m_AB_append1 49 (.ifCond .eq 7) 3 = true ∧ lSa m_AB_append1 56 [(.aload_n 0, 0)] = true ∧ lIa m_AB_append1 57 (.getfield 15) 3 = true ∧ lSa m_AB_append1 60 [(.aload_n 0, 0), (.dup, 0)] = true ∧ lIa m_AB_append1 62 (.getfield 79) 3 = true ∧ lSa m_AB_append1 65 [(.dup_x1, 0), (.iconst 1, nI 1), (.iadd, 0)] = true ∧ lIa m_AB_append1 68 (.putfield 79) 3 = true ∧ lSa m_AB_append1 71 [(.iload_n 1, 0)] = true ∧ lSa m_AB_append1 52 [(.aload_n 0, 0)] = true ∧ lSa m_AB_append1 17 [(.iload_n 1, 0)] = true ∧ lIa m_AB_append1 18 (.invokestatic 191) 3 = true ∧ lIa m_AB_append1 21 (.ifCond .eq 24) 3 = true ∧ lSa m_AB_append1 24 [(.aload_n 0, 0)] = true ∧ lIa m_AB_append1 25 (.getfield 15) 3 = true ∧ lSa m_AB_append1 28 [(.aload_n 0, 0), (.dup, 0)] = true ∧ lIa m_AB_append1 30 (.getfield 79) 3 = true ∧ lSa m_AB_append1 33 [(.dup_x1, 0), (.iconst 1, nI 1), (.iadd, 0)] = true ∧ lIa m_AB_append1 36 (.putfield 79) 3 = true ∧ lSa m_AB_append1 39 [(.iload_n 1, 0), (.i2b, 0)] = true ∧ lIa m_AB_append1 41 (.bastore) 1 = true ∧ lIa m_AB_append1 42 (.goto 33) 3 = true ∧ lSa m_AB_append1 75 [(.aload_n 0, 0)] = true ∧ lIa m_AB_append1 76 (.areturn) 1 = true := by decide +kernel
  refine lA8 hdd (fun dd0 dd1 dd2 dd3 dd4 dd5 dd6 dd7 hdd => ?_)
  refine lA8 hdd (fun dd8 dd9 dd10 dd11 dd12 dd13 dd14 dd15 hdd => ?_)
  refine lA8 hdd (fun dd16 dd17 dd18 dd19 dd20 dd21 dd22 dd23 hdd => ?_)
  obtain ⟨dd24, dd25, dd26, dd27, dd28, dd29, dd30, dd31⟩ := hdd
  refine gMet.of (by decide +kernel) (Nat.le_of_ble_eq_true rfl) [some (.ref a0), some (.int a1)] (fun ls h => zEn_ok (n := 2) h) ?_
  intro o Gf h
  unfold f_AB_append1 at h
  refine Y.blk (pc' := 2) (L' := [some (.ref a0), some (.int a1)]) (st' := [.ref a0, .ref a0]) (sg := [(.aload_n 0, 0), (.aload_n 0, 0)]) (lSa_ok dd0) rfl ?_
  refine Y.getI fl_AB_79 (lIa_ok dd1) h (fun v1 h => ?_)
  refine Y.blk (pc' := 7) (L' := [some (.ref a0), some (.int a1)]) (st' := [.int (v1 + (nI 1)), .ref a0]) (sg := [(.iconst 1, nI 1), (.iadd, 0)]) (lSa_ok dd2) rfl ?_
  obtain ⟨_, o3, e2, m4, h⟩ := gOb_inv h
  refine Y.callN (yC.Vi (b := a0) (As := [.int (v1 + (nI 1))]) (st := []) (r := ("java/lang/StringBuilder", T_SB, 4)) hV.1.1 cb_AB_ensureCapacityInternal lk_AB_100 in_AB_ensureCapacityInternal rfl seSB_AB_ensureCapacityInternal (lIa_ok dd3) rfl rfl (Nat.le_of_ble_eq_true rfl) (by decide) e2 m4) (k_AB_ensureCapacityInternal hV.1 G a0 (v1 + (nI 1))) h (fun G5 _ h => ?_)
  refine Y.blk (pc' := 11) (L' := [some (.ref a0), some (.int a1)]) (st' := [.ref a0]) (sg := [(.aload_n 0, 0)]) (lSa_ok dd4) rfl ?_
  obtain ⟨_, o7, e6, m8, h⟩ := gOb_inv h
  refine Y.callI (yC.Vi (b := a0) (As := []) (st := []) (r := ("java/lang/StringBuilder", T_SB, 4)) hV.1.1 cb_AB_isLatin1 lk_AB_83 in_AB_isLatin1 rfl seSB_AB_isLatin1 (lIa_ok dd5) rfl rfl (Nat.le_of_ble_eq_true rfl) (by decide) e6 m8) (k_AB_isLatin1 hV G5 a0) h (fun v10 G9 _ h => ?_)
  refine Y.if_eq (off := 31) (tgt := 45) (lIa_ok dd6) (by decide) h (fun c37 h => ?_) (fun c37 h => ?_)
  · refine Y.blk (pc' := 46) (L' := [some (.ref a0), some (.int a1)]) (st' := [.ref a0]) (sg := [(.aload_n 0, 0)]) (lSa_ok dd7) rfl ?_
    obtain ⟨_, o12, e11, m13, h⟩ := gOb_inv h
    refine Y.callI (yC.Vi (b := a0) (As := []) (st := []) (r := ("java/lang/StringBuilder", T_SB, 4)) hV.1.1 cb_AB_isLatin1 lk_AB_83 in_AB_isLatin1 rfl seSB_AB_isLatin1 (lIa_ok dd8) rfl rfl (Nat.le_of_ble_eq_true rfl) (by decide) e11 m13) (k_AB_isLatin1 hV G9 a0) h (fun v15 G14 _ h => ?_)
    refine Y.if_eq (off := 7) (tgt := 56) (lIa_ok dd9) (by decide) h (fun c19 h => ?_) (fun c19 h => ?_)
    · refine Y.blk (pc' := 57) (L' := [some (.ref a0), some (.int a1)]) (st' := [.ref a0]) (sg := [(.aload_n 0, 0)]) (lSa_ok dd10) rfl ?_
      refine Y.getA fl_AB_15 (lIa_ok dd11) h (fun v16 h => ?_)
      refine Y.blk (pc' := 62) (L' := [some (.ref a0), some (.int a1)]) (st' := [.ref a0, .ref a0, .ref v16]) (sg := [(.aload_n 0, 0), (.dup, 0)]) (lSa_ok dd12) rfl ?_
      refine Y.getI fl_AB_79 (lIa_ok dd13) h (fun v17 h => ?_)
      refine Y.blk (pc' := 68) (L' := [some (.ref a0), some (.int a1)]) (st' := [.int (v17 + (nI 1)), .ref a0, .int v17, .ref v16]) (sg := [(.dup_x1, 0), (.iconst 1, nI 1), (.iadd, 0)]) (lSa_ok dd14) rfl ?_
      refine Y.putf fl_AB_79 (by decide) rfl rfl (lIa_ok dd15) h (fun G18 _ _ h => ?_)
      refine Y.blk (pc' := 72) (L' := [some (.ref a0), some (.int a1)]) (st' := [.int a1, .int v17, .ref v16]) (sg := [(.iload_n 1, 0)]) (lSa_ok dd16) rfl ?_
      cases h
    · refine Y.blk (pc' := 53) (L' := [some (.ref a0), some (.int a1)]) (st' := [.ref a0]) (sg := [(.aload_n 0, 0)]) (lSa_ok dd17) rfl ?_
      cases h
  · refine Y.blk (pc' := 18) (L' := [some (.ref a0), some (.int a1)]) (st' := [.int a1]) (sg := [(.iload_n 1, 0)]) (lSa_ok dd18) rfl ?_
    refine Y.callI (yC.S (As := [.int a1]) (st := []) hV.1.1 cb_L1_canEncode lk_AB_191 st_L1_canEncode (lIa_ok dd19) rfl rfl (Nat.le_of_ble_eq_true rfl) (by decide)) (k_L1_canEncode hV.1 G9 a1) h (fun v22 G21 _ h => ?_)
    refine Y.if_eq (off := 24) (tgt := 45) (lIa_ok dd20) (by decide) h (fun c36 h => ?_) (fun c36 h => ?_)
    · refine Y.blk (pc' := 46) (L' := [some (.ref a0), some (.int a1)]) (st' := [.ref a0]) (sg := [(.aload_n 0, 0)]) (lSa_ok dd7) rfl ?_
      obtain ⟨_, o24, e23, m25, h⟩ := gOb_inv h
      refine Y.callI (yC.Vi (b := a0) (As := []) (st := []) (r := ("java/lang/StringBuilder", T_SB, 4)) hV.1.1 cb_AB_isLatin1 lk_AB_83 in_AB_isLatin1 rfl seSB_AB_isLatin1 (lIa_ok dd8) rfl rfl (Nat.le_of_ble_eq_true rfl) (by decide) e23 m25) (k_AB_isLatin1 hV G21 a0) h (fun v27 G26 _ h => ?_)
      refine Y.if_eq (off := 7) (tgt := 56) (lIa_ok dd9) (by decide) h (fun c31 h => ?_) (fun c31 h => ?_)
      · refine Y.blk (pc' := 57) (L' := [some (.ref a0), some (.int a1)]) (st' := [.ref a0]) (sg := [(.aload_n 0, 0)]) (lSa_ok dd10) rfl ?_
        refine Y.getA fl_AB_15 (lIa_ok dd11) h (fun v28 h => ?_)
        refine Y.blk (pc' := 62) (L' := [some (.ref a0), some (.int a1)]) (st' := [.ref a0, .ref a0, .ref v28]) (sg := [(.aload_n 0, 0), (.dup, 0)]) (lSa_ok dd12) rfl ?_
        refine Y.getI fl_AB_79 (lIa_ok dd13) h (fun v29 h => ?_)
        refine Y.blk (pc' := 68) (L' := [some (.ref a0), some (.int a1)]) (st' := [.int (v29 + (nI 1)), .ref a0, .int v29, .ref v28]) (sg := [(.dup_x1, 0), (.iconst 1, nI 1), (.iadd, 0)]) (lSa_ok dd14) rfl ?_
        refine Y.putf fl_AB_79 (by decide) rfl rfl (lIa_ok dd15) h (fun G30 _ _ h => ?_)
        refine Y.blk (pc' := 72) (L' := [some (.ref a0), some (.int a1)]) (st' := [.int a1, .int v29, .ref v28]) (sg := [(.iload_n 1, 0)]) (lSa_ok dd16) rfl ?_
        cases h
      · refine Y.blk (pc' := 53) (L' := [some (.ref a0), some (.int a1)]) (st' := [.ref a0]) (sg := [(.aload_n 0, 0)]) (lSa_ok dd17) rfl ?_
        cases h
    · refine Y.blk (pc' := 25) (L' := [some (.ref a0), some (.int a1)]) (st' := [.ref a0]) (sg := [(.aload_n 0, 0)]) (lSa_ok dd21) rfl ?_
      refine Y.getA fl_AB_15 (lIa_ok dd22) h (fun v32 h => ?_)
      refine Y.blk (pc' := 30) (L' := [some (.ref a0), some (.int a1)]) (st' := [.ref a0, .ref a0, .ref v32]) (sg := [(.aload_n 0, 0), (.dup, 0)]) (lSa_ok dd23) rfl ?_
      refine Y.getI fl_AB_79 (lIa_ok dd24) h (fun v33 h => ?_)
      refine Y.blk (pc' := 36) (L' := [some (.ref a0), some (.int a1)]) (st' := [.int (v33 + (nI 1)), .ref a0, .int v33, .ref v32]) (sg := [(.dup_x1, 0), (.iconst 1, nI 1), (.iadd, 0)]) (lSa_ok dd25) rfl ?_
      refine Y.putf fl_AB_79 (by decide) rfl rfl (lIa_ok dd26) h (fun G34 _ _ h => ?_)
      refine Y.blk (pc' := 41) (L' := [some (.ref a0), some (.int a1)]) (st' := [.int a1.toInt8.toInt32, .int v33, .ref v32]) (sg := [(.iload_n 1, 0), (.i2b, 0)]) (lSa_ok dd27) rfl ?_
      refine Y.bast (t0 := 1) (lIa_ok dd28) rfl (by decide) h (fun G35 _ _ h => ?_)
      refine Y.goto (off := 33) (tgt := 75) (lIa_ok dd29) (by decide) ?_
      refine Y.blk (pc' := 76) (L' := [some (.ref a0), some (.int a1)]) (st' := [.ref a0]) (sg := [(.aload_n 0, 0)]) (lSa_ok dd30) rfl ?_
      exact Y.aret rfl (by first | exact Or.inl ⟨_, rfl⟩ | exact Or.inr ⟨_, rfl⟩) (lIa_ok dd31) h

def f_SB_append1 (w : Nat → Nat) (G : gH) (a0 : Nat) (a1 : Int32) : gR :=
  gOb G a0 10 fun o2 => bA (f_AB_append1 w G a0 a1) fun v5 G4 => rA a0 G4
theorem k_SB_append1 {l : Launch} {D : va_G} {B : Nat} {O : State → Heap → Prop} {w : Nat → Nat} (hV : zGw l D B O w) (G : gH) (a0 : Nat) (a1 : Int32) : gMet (zVm l D B O) m_SB_append1 6 [.ref a0, .int a1] G (f_SB_append1 w G a0 a1) := by
  have hdd : lSa m_SB_append1 0 [(.aload_n 0, 0), (.iload_n 1, 0)] = true ∧ lIa m_SB_append1 2 (.invokespecial 50) 3 = true ∧ lSa m_SB_append1 5 [(.pop, 0), (.aload_n 0, 0)] = true ∧ lIa m_SB_append1 7 (.areturn) 1 = true := by decide +kernel
  obtain ⟨dd0, dd1, dd2, dd3⟩ := hdd
  refine gMet.of (by decide +kernel) (Nat.le_of_ble_eq_true rfl) [some (.ref a0), some (.int a1)] (fun ls h => zEn_ok (n := 2) h) ?_
  intro o Gf h
  unfold f_SB_append1 at h
  refine Y.blk (pc' := 2) (L' := [some (.ref a0), some (.int a1)]) (st' := [.int a1, .ref a0]) (sg := [(.aload_n 0, 0), (.iload_n 1, 0)]) (lSa_ok dd0) rfl ?_
  obtain ⟨_, o2, e1, m3, h⟩ := gOb_inv h
  refine Y.callA (yC.SU (b := a0) (As := [.int a1]) (st := []) (r := ("java/lang/StringBuilder", T_SB, 4)) hV.1.1 cb_AB_append1 lk_SB_50 sm_AB_append1 su_SB_AB in_AB_append1 (by decide) rfl (lIa_ok dd1) rfl rfl (Nat.le_of_ble_eq_true rfl) (by decide) e1 m3) (k_AB_append1 hV G a0 a1) h (fun v5 G4 _ h => ?_)
  refine Y.blk (pc' := 7) (L' := [some (.ref a0), some (.int a1)]) (st' := [.ref a0]) (sg := [(.pop, 0), (.aload_n 0, 0)]) (lSa_ok dd2) rfl ?_
  exact Y.aret rfl (by first | exact Or.inl ⟨_, rfl⟩ | exact Or.inr ⟨_, rfl⟩) (lIa_ok dd3) h

def f_IN_getChars_L22 (w : Nat → Nat) (K72 : gH → Int32 → Nat → Int32 → Int32 → gR) : Nat → gH → Int32 → Nat → Int32 → Int32 → gR
  | 0, _, _, _, _, _ => none
  | n + 1, G, x0, x2, x5, x6 =>
    if (-100) < x0 then K72 G x0 x2 x5 x6
    else gDiv x0 (nI 100) fun v1 => gLd G (w 1) 101 ((v1 * (nI 100)) - x0) fun v2 => gSt G x2 101 (x5 + (-1)) (vp_nar .byte v2) fun G3 => gLd G3 (w 2) 101 ((v1 * (nI 100)) - x0) fun v4 => gSt G3 x2 101 ((x5 + (-1)) + (-1)) (vp_nar .byte v4) fun G5 => f_IN_getChars_L22 w K72 n G5 v1 x2 ((x5 + (-1)) + (-1)) x6
def f_IN_getChars (w : Nat → Nat) (G : gH) (a0 : Int32) (a1 : Int32) (a2 : Nat) : gR :=
  if 0 ≤ a0 then (if (nI 0) = 0 then (f_IN_getChars_L22 w (fun G11 x7 x8 x9 x10 => gLd G11 (w 1) 101 (-x7) fun v12 => gSt G11 x8 101 (x9 + (-1)) (vp_nar .byte v12) fun G13 => if (-9) ≤ x7 then (if x10 = 0 then rI (x9 + (-1)) G13
          else gSt G13 x8 101 ((x9 + (-1)) + (-1)) (vp_nar .byte (nI 45)) fun G14 => rI ((x9 + (-1)) + (-1)) G14)
        else gLd G13 (w 2) 101 (-x7) fun v16 => gSt G13 x8 101 ((x9 + (-1)) + (-1)) (vp_nar .byte v16) fun G17 => if x10 = 0 then rI ((x9 + (-1)) + (-1)) G17
          else gSt G17 x8 101 (((x9 + (-1)) + (-1)) + (-1)) (vp_nar .byte (nI 45)) fun G18 => rI (((x9 + (-1)) + (-1)) + (-1)) G18) zFu G (-a0) a2 a1 (nI 0))
    else f_IN_getChars_L22 w (fun G25 x21 x22 x23 x24 => gLd G25 (w 1) 101 (-x21) fun v26 => gSt G25 x22 101 (x23 + (-1)) (vp_nar .byte v26) fun G27 => if (-9) ≤ x21 then (if x24 = 0 then rI (x23 + (-1)) G27
          else gSt G27 x22 101 ((x23 + (-1)) + (-1)) (vp_nar .byte (nI 45)) fun G28 => rI ((x23 + (-1)) + (-1)) G28)
        else gLd G27 (w 2) 101 (-x21) fun v30 => gSt G27 x22 101 ((x23 + (-1)) + (-1)) (vp_nar .byte v30) fun G31 => if x24 = 0 then rI ((x23 + (-1)) + (-1)) G31
          else gSt G31 x22 101 (((x23 + (-1)) + (-1)) + (-1)) (vp_nar .byte (nI 45)) fun G32 => rI (((x23 + (-1)) + (-1)) + (-1)) G32) zFu G a0 a2 a1 (nI 0))
  else if (nI 1) = 0 then (f_IN_getChars_L22 w (fun G40 x36 x37 x38 x39 => gLd G40 (w 1) 101 (-x36) fun v41 => gSt G40 x37 101 (x38 + (-1)) (vp_nar .byte v41) fun G42 => if (-9) ≤ x36 then (if x39 = 0 then rI (x38 + (-1)) G42
          else gSt G42 x37 101 ((x38 + (-1)) + (-1)) (vp_nar .byte (nI 45)) fun G43 => rI ((x38 + (-1)) + (-1)) G43)
        else gLd G42 (w 2) 101 (-x36) fun v45 => gSt G42 x37 101 ((x38 + (-1)) + (-1)) (vp_nar .byte v45) fun G46 => if x39 = 0 then rI ((x38 + (-1)) + (-1)) G46
          else gSt G46 x37 101 (((x38 + (-1)) + (-1)) + (-1)) (vp_nar .byte (nI 45)) fun G47 => rI (((x38 + (-1)) + (-1)) + (-1)) G47) zFu G (-a0) a2 a1 (nI 1))
    else f_IN_getChars_L22 w (fun G54 x50 x51 x52 x53 => gLd G54 (w 1) 101 (-x50) fun v55 => gSt G54 x51 101 (x52 + (-1)) (vp_nar .byte v55) fun G56 => if (-9) ≤ x50 then (if x53 = 0 then rI (x52 + (-1)) G56
          else gSt G56 x51 101 ((x52 + (-1)) + (-1)) (vp_nar .byte (nI 45)) fun G57 => rI ((x52 + (-1)) + (-1)) G57)
        else gLd G56 (w 2) 101 (-x50) fun v59 => gSt G56 x51 101 ((x52 + (-1)) + (-1)) (vp_nar .byte v59) fun G60 => if x53 = 0 then rI ((x52 + (-1)) + (-1)) G60
          else gSt G60 x51 101 (((x52 + (-1)) + (-1)) + (-1)) (vp_nar .byte (nI 45)) fun G61 => rI (((x52 + (-1)) + (-1)) + (-1)) G61) zFu G a0 a2 a1 (nI 1)
theorem k_IN_getChars_L22 {l : Launch} {D : va_G} {B : Nat} {O : State → Heap → Prop} {w : Nat → Nat} (hV : zGw l D B O w) {o : gO} {Gf : gH} (K72 : gH → Int32 → Nat → Int32 → Int32 → gR) (hK72 : ∀ (G : gH) (x0 : Int32) (x2 : Nat) (x5 : Int32) (x6 : Int32), K72 G x0 x2 x5 x6 = some (o, Gf) → Y (zVm l D B O) m_IN_getChars 2 o Gf 72 [some (.int x0), none, some (.ref x2), none, none, some (.int x5), some (.int x6)] [] G) : ∀ (n : Nat) (G : gH) (x0 : Int32) (x2 : Nat) (x5 : Int32) (x6 : Int32), f_IN_getChars_L22 w K72 n G x0 x2 x5 x6 = some (o, Gf) → Y (zVm l D B O) m_IN_getChars 2 o Gf 22 [some (.int x0), none, some (.ref x2), none, none, some (.int x5), some (.int x6)] [] G := by
  have hdd : lSa m_IN_getChars 22 [(.iload_n 0, 0), (.bipush (-100), -100)] = true ∧ lIa m_IN_getChars 25 (.if_icmp .gt 47) 3 = true ∧ lSa m_IN_getChars 28 [(.iload_n 0, 0), (.bipush 100, nI 100)] = true ∧ lIa m_IN_getChars 31 (.idiv) 1 = true ∧ lSa m_IN_getChars 32 [(.istore_n 3, 0), (.iload_n 3, 0), (.bipush 100, nI 100), (.imul, 0), (.iload_n 0, 0), (.isub, 0), (.istore 4, 0), (.iload_n 3, 0), (.istore_n 0, 0), (.aload_n 2, 0), (.iinc 5 (-1), -1), (.iload 5, 0)] = true ∧ lIa m_IN_getChars 49 (.getstatic 83) 3 = true ∧ lSa m_IN_getChars 52 [(.iload 4, 0)] = true ∧ lIa m_IN_getChars 54 (.baload) 1 = true ∧ lIa m_IN_getChars 55 (.bastore) 1 = true ∧ lSa m_IN_getChars 56 [(.aload_n 2, 0), (.iinc 5 (-1), -1), (.iload 5, 0)] = true ∧ lIa m_IN_getChars 62 (.getstatic 87) 3 = true ∧ lSa m_IN_getChars 65 [(.iload 4, 0)] = true ∧ lIa m_IN_getChars 67 (.baload) 1 = true ∧ lIa m_IN_getChars 68 (.bastore) 1 = true ∧ lIa m_IN_getChars 69 (.goto (-47)) 3 = true := by decide +kernel
  refine lA8 hdd (fun dd0 dd1 dd2 dd3 dd4 dd5 dd6 dd7 hdd => ?_)
  obtain ⟨dd8, dd9, dd10, dd11, dd12, dd13, dd14⟩ := hdd
  intro n
  induction n with
  | zero => intro G x0 x2 x5 x6 h; cases h
  | succ n ih =>
    intro G x0 x2 x5 x6 h
    unfold f_IN_getChars_L22 at h
    refine Y.blk (pc' := 25) (L' := [some (.int x0), none, some (.ref x2), none, none, some (.int x5), some (.int x6)]) (st' := [.int (-100), .int x0]) (sg := [(.iload_n 0, 0), (.bipush (-100), -100)]) (lSa_ok dd0) rfl ?_
    refine Y.ic_gt (off := 47) (tgt := 72) (lIa_ok dd1) (by decide) h (fun c6 h => ?_) (fun c6 h => ?_)
    · exact hK72 G x0 x2 x5 x6 h
    · refine Y.blk (pc' := 31) (L' := [some (.int x0), none, some (.ref x2), none, none, some (.int x5), some (.int x6)]) (st' := [.int (nI 100), .int x0]) (sg := [(.iload_n 0, 0), (.bipush 100, nI 100)]) (lSa_ok dd2) rfl ?_
      refine Y.idiv (lIa_ok dd3) h (fun v1 h => ?_)
      refine Y.blk (pc' := 49) (L' := [some (.int v1), none, some (.ref x2), some (.int v1), some (.int ((v1 * (nI 100)) - x0)), some (.int (x5 + (-1))), some (.int x6)]) (st' := [.int (x5 + (-1)), .ref x2]) (sg := [(.istore_n 3, 0), (.iload_n 3, 0), (.bipush 100, nI 100), (.imul, 0), (.iload_n 0, 0), (.isub, 0), (.istore 4, 0), (.iload_n 3, 0), (.istore_n 0, 0), (.aload_n 2, 0), (.iinc 5 (-1), -1), (.iload 5, 0)]) (lSa_ok dd4) rfl ?_
      refine Y.gets (v := .ref (w 1)) (fun U H h => (hV.2 U H h).2.1) sf_IN_83 (lIa_ok dd5) ?_
      refine Y.blk (pc' := 54) (L' := [some (.int v1), none, some (.ref x2), some (.int v1), some (.int ((v1 * (nI 100)) - x0)), some (.int (x5 + (-1))), some (.int x6)]) (st' := [.int ((v1 * (nI 100)) - x0), .ref (w 1), .int (x5 + (-1)), .ref x2]) (sg := [(.iload 4, 0)]) (lSa_ok dd6) rfl ?_
      refine Y.bald (t0 := 1) (lIa_ok dd7) rfl h (fun v2 h => ?_)
      refine Y.bast (t0 := 1) (lIa_ok dd8) rfl (by decide) h (fun G3 _ _ h => ?_)
      refine Y.blk (pc' := 62) (L' := [some (.int v1), none, some (.ref x2), some (.int v1), some (.int ((v1 * (nI 100)) - x0)), some (.int ((x5 + (-1)) + (-1))), some (.int x6)]) (st' := [.int ((x5 + (-1)) + (-1)), .ref x2]) (sg := [(.aload_n 2, 0), (.iinc 5 (-1), -1), (.iload 5, 0)]) (lSa_ok dd9) rfl ?_
      refine Y.gets (v := .ref (w 2)) (fun U H h => (hV.2 U H h).2.2.1) sf_IN_87 (lIa_ok dd10) ?_
      refine Y.blk (pc' := 67) (L' := [some (.int v1), none, some (.ref x2), some (.int v1), some (.int ((v1 * (nI 100)) - x0)), some (.int ((x5 + (-1)) + (-1))), some (.int x6)]) (st' := [.int ((v1 * (nI 100)) - x0), .ref (w 2), .int ((x5 + (-1)) + (-1)), .ref x2]) (sg := [(.iload 4, 0)]) (lSa_ok dd11) rfl ?_
      refine Y.bald (t0 := 1) (lIa_ok dd12) rfl h (fun v4 h => ?_)
      refine Y.bast (t0 := 1) (lIa_ok dd13) rfl (by decide) h (fun G5 _ _ h => ?_)
      refine Y.goto (off := -47) (tgt := 22) (lIa_ok dd14) (by decide) ?_
      refine Y.less (L' := [some (.int v1), none, some (.ref x2), none, none, some (.int ((x5 + (-1)) + (-1))), some (.int x6)]) (zLe_some (zLe_some (zLe_some (zLe_none (zLe_none (zLe_some (zLe_some (zLe_nil)))))))) ?_
      exact ih G5 v1 x2 ((x5 + (-1)) + (-1)) x6 h
theorem k_IN_getChars {l : Launch} {D : va_G} {B : Nat} {O : State → Heap → Prop} {w : Nat → Nat} (hV : zGw l D B O w) (G : gH) (a0 : Int32) (a1 : Int32) (a2 : Nat) : gMet (zVm l D B O) m_IN_getChars 2 [.int a0, .int a1, .ref a2] G (f_IN_getChars w G a0 a1 a2) := by
  have hdd : lSa m_IN_getChars 0 [(.iload_n 1, 0), (.istore 5, 0), (.iload_n 0, 0)] = true ∧ lIa m_IN_getChars 4 (.ifCond .ge 7) 3 = true ∧ lSa m_IN_getChars 11 [(.iconst 0, nI 0), (.istore 6, 0), (.iload 6, 0)] = true ∧ lIa m_IN_getChars 16 (.ifCond .ne 6) 3 = true ∧ lSa m_IN_getChars 19 [(.iload_n 0, 0), (.ineg, 0), (.istore_n 0, 0)] = true ∧ lSa m_IN_getChars 72 [(.aload_n 2, 0), (.iinc 5 (-1), -1), (.iload 5, 0)] = true ∧ lIa m_IN_getChars 78 (.getstatic 83) 3 = true ∧ lSa m_IN_getChars 81 [(.iload_n 0, 0), (.ineg, 0)] = true ∧ lIa m_IN_getChars 83 (.baload) 1 = true ∧ lIa m_IN_getChars 84 (.bastore) 1 = true ∧ lSa m_IN_getChars 85 [(.iload_n 0, 0), (.bipush (-9), -9)] = true ∧ lIa m_IN_getChars 88 (.if_icmp .ge 16) 3 = true ∧ lSa m_IN_getChars 104 [(.iload 6, 0)] = true ∧ lIa m_IN_getChars 106 (.ifCond .eq 12) 3 = true ∧ lSa m_IN_getChars 118 [(.iload 5, 0)] = true ∧ lIa m_IN_getChars 120 (.ireturn) 1 = true ∧ lSa m_IN_getChars 109 [(.aload_n 2, 0), (.iinc 5 (-1), -1), (.iload 5, 0), (.bipush 45, nI 45)] = true ∧ lIa m_IN_getChars 117 (.bastore) 1 = true ∧ lSa m_IN_getChars 91 [(.aload_n 2, 0), (.iinc 5 (-1), -1), (.iload 5, 0)] = true ∧ lIa m_IN_getChars 97 (.getstatic 87) 3 = true ∧ lSa m_IN_getChars 100 [(.iload_n 0, 0), (.ineg, 0)] = true ∧ lIa m_IN_getChars 102 (.baload) 1 = true ∧ lIa m_IN_getChars 103 (.bastore) 1 = true ∧ lSa m_IN_getChars 7 [(.iconst 1, nI 1)] = true ∧ lIa m_IN_getChars 8 (.goto 4) 3 = true ∧ lSa m_IN_getChars 12 [(.istore 6, 0), (.iload 6, 0)] = true := by decide +kernel
  refine lA8 hdd (fun dd0 dd1 dd2 dd3 dd4 dd5 dd6 dd7 hdd => ?_)
  refine lA8 hdd (fun dd8 dd9 dd10 dd11 dd12 dd13 dd14 dd15 hdd => ?_)
  refine lA8 hdd (fun dd16 dd17 dd18 dd19 dd20 dd21 dd22 dd23 hdd => ?_)
  obtain ⟨dd24, dd25⟩ := hdd
  refine gMet.of (by decide +kernel) (Nat.le_of_ble_eq_true rfl) [some (.int a0), some (.int a1), some (.ref a2), none, none, none, none] (fun ls h => zEn_ok (n := 7) h) ?_
  intro o Gf h
  unfold f_IN_getChars at h
  refine Y.blk (pc' := 4) (L' := [some (.int a0), some (.int a1), some (.ref a2), none, none, some (.int a1), none]) (st' := [.int a0]) (sg := [(.iload_n 1, 0), (.istore 5, 0), (.iload_n 0, 0)]) (lSa_ok dd0) rfl ?_
  refine Y.if_ge (off := 7) (tgt := 11) (lIa_ok dd1) (by decide) h (fun c65 h => ?_) (fun c65 h => ?_)
  · refine Y.blk (pc' := 16) (L' := [some (.int a0), some (.int a1), some (.ref a2), none, none, some (.int a1), some (.int (nI 0))]) (st' := [.int (nI 0)]) (sg := [(.iconst 0, nI 0), (.istore 6, 0), (.iload 6, 0)]) (lSa_ok dd2) rfl ?_
    refine Y.if_ne (off := 6) (tgt := 22) (lIa_ok dd3) (by decide) h (fun c35 h => ?_) (fun c35 h => ?_)
    · refine Y.blk (pc' := 22) (L' := [some (.int (-a0)), some (.int a1), some (.ref a2), none, none, some (.int a1), some (.int (nI 0))]) (st' := []) (sg := [(.iload_n 0, 0), (.ineg, 0), (.istore_n 0, 0)]) (lSa_ok dd4) rfl ?_
      refine Y.less (L' := [some (.int (-a0)), none, some (.ref a2), none, none, some (.int a1), some (.int (nI 0))]) (zLe_some (zLe_none (zLe_some (zLe_some (zLe_some (zLe_some (zLe_some (zLe_nil)))))))) ?_
      refine k_IN_getChars_L22 hV _ ?_  zFu G (-a0) a2 a1 (nI 0) h
      · intro G11 x7 x8 x9 x10 h
        refine Y.blk (pc' := 78) (L' := [some (.int x7), none, some (.ref x8), none, none, some (.int (x9 + (-1))), some (.int x10)]) (st' := [.int (x9 + (-1)), .ref x8]) (sg := [(.aload_n 2, 0), (.iinc 5 (-1), -1), (.iload 5, 0)]) (lSa_ok dd5) rfl ?_
        refine Y.gets (v := .ref (w 1)) (fun U H h => (hV.2 U H h).2.1) sf_IN_83 (lIa_ok dd6) ?_
        refine Y.blk (pc' := 83) (L' := [some (.int x7), none, some (.ref x8), none, none, some (.int (x9 + (-1))), some (.int x10)]) (st' := [.int (-x7), .ref (w 1), .int (x9 + (-1)), .ref x8]) (sg := [(.iload_n 0, 0), (.ineg, 0)]) (lSa_ok dd7) rfl ?_
        refine Y.bald (t0 := 1) (lIa_ok dd8) rfl h (fun v12 h => ?_)
        refine Y.bast (t0 := 1) (lIa_ok dd9) rfl (by decide) h (fun G13 _ _ h => ?_)
        refine Y.blk (pc' := 88) (L' := [some (.int x7), none, some (.ref x8), none, none, some (.int (x9 + (-1))), some (.int x10)]) (st' := [.int (-9), .int x7]) (sg := [(.iload_n 0, 0), (.bipush (-9), -9)]) (lSa_ok dd10) rfl ?_
        refine Y.ic_ge (off := 16) (tgt := 104) (lIa_ok dd11) (by decide) h (fun c20 h => ?_) (fun c20 h => ?_)
        · refine Y.blk (pc' := 106) (L' := [some (.int x7), none, some (.ref x8), none, none, some (.int (x9 + (-1))), some (.int x10)]) (st' := [.int x10]) (sg := [(.iload 6, 0)]) (lSa_ok dd12) rfl ?_
          refine Y.if_eq (off := 12) (tgt := 118) (lIa_ok dd13) (by decide) h (fun c15 h => ?_) (fun c15 h => ?_)
          · refine Y.blk (pc' := 120) (L' := [some (.int x7), none, some (.ref x8), none, none, some (.int (x9 + (-1))), some (.int x10)]) (st' := [.int (x9 + (-1))]) (sg := [(.iload 5, 0)]) (lSa_ok dd14) rfl ?_
            exact Y.iret rfl (lIa_ok dd15) h
          · refine Y.blk (pc' := 117) (L' := [some (.int x7), none, some (.ref x8), none, none, some (.int ((x9 + (-1)) + (-1))), some (.int x10)]) (st' := [.int (nI 45), .int ((x9 + (-1)) + (-1)), .ref x8]) (sg := [(.aload_n 2, 0), (.iinc 5 (-1), -1), (.iload 5, 0), (.bipush 45, nI 45)]) (lSa_ok dd16) rfl ?_
            refine Y.bast (t0 := 1) (lIa_ok dd17) rfl (by decide) h (fun G14 _ _ h => ?_)
            refine Y.blk (pc' := 120) (L' := [some (.int x7), none, some (.ref x8), none, none, some (.int ((x9 + (-1)) + (-1))), some (.int x10)]) (st' := [.int ((x9 + (-1)) + (-1))]) (sg := [(.iload 5, 0)]) (lSa_ok dd14) rfl ?_
            exact Y.iret rfl (lIa_ok dd15) h
        · refine Y.blk (pc' := 97) (L' := [some (.int x7), none, some (.ref x8), none, none, some (.int ((x9 + (-1)) + (-1))), some (.int x10)]) (st' := [.int ((x9 + (-1)) + (-1)), .ref x8]) (sg := [(.aload_n 2, 0), (.iinc 5 (-1), -1), (.iload 5, 0)]) (lSa_ok dd18) rfl ?_
          refine Y.gets (v := .ref (w 2)) (fun U H h => (hV.2 U H h).2.2.1) sf_IN_87 (lIa_ok dd19) ?_
          refine Y.blk (pc' := 102) (L' := [some (.int x7), none, some (.ref x8), none, none, some (.int ((x9 + (-1)) + (-1))), some (.int x10)]) (st' := [.int (-x7), .ref (w 2), .int ((x9 + (-1)) + (-1)), .ref x8]) (sg := [(.iload_n 0, 0), (.ineg, 0)]) (lSa_ok dd20) rfl ?_
          refine Y.bald (t0 := 1) (lIa_ok dd21) rfl h (fun v16 h => ?_)
          refine Y.bast (t0 := 1) (lIa_ok dd22) rfl (by decide) h (fun G17 _ _ h => ?_)
          refine Y.blk (pc' := 106) (L' := [some (.int x7), none, some (.ref x8), none, none, some (.int ((x9 + (-1)) + (-1))), some (.int x10)]) (st' := [.int x10]) (sg := [(.iload 6, 0)]) (lSa_ok dd12) rfl ?_
          refine Y.if_eq (off := 12) (tgt := 118) (lIa_ok dd13) (by decide) h (fun c19 h => ?_) (fun c19 h => ?_)
          · refine Y.blk (pc' := 120) (L' := [some (.int x7), none, some (.ref x8), none, none, some (.int ((x9 + (-1)) + (-1))), some (.int x10)]) (st' := [.int ((x9 + (-1)) + (-1))]) (sg := [(.iload 5, 0)]) (lSa_ok dd14) rfl ?_
            exact Y.iret rfl (lIa_ok dd15) h
          · refine Y.blk (pc' := 117) (L' := [some (.int x7), none, some (.ref x8), none, none, some (.int (((x9 + (-1)) + (-1)) + (-1))), some (.int x10)]) (st' := [.int (nI 45), .int (((x9 + (-1)) + (-1)) + (-1)), .ref x8]) (sg := [(.aload_n 2, 0), (.iinc 5 (-1), -1), (.iload 5, 0), (.bipush 45, nI 45)]) (lSa_ok dd16) rfl ?_
            refine Y.bast (t0 := 1) (lIa_ok dd17) rfl (by decide) h (fun G18 _ _ h => ?_)
            refine Y.blk (pc' := 120) (L' := [some (.int x7), none, some (.ref x8), none, none, some (.int (((x9 + (-1)) + (-1)) + (-1))), some (.int x10)]) (st' := [.int (((x9 + (-1)) + (-1)) + (-1))]) (sg := [(.iload 5, 0)]) (lSa_ok dd14) rfl ?_
            exact Y.iret rfl (lIa_ok dd15) h
    · refine Y.less (L' := [some (.int a0), none, some (.ref a2), none, none, some (.int a1), some (.int (nI 0))]) (zLe_some (zLe_none (zLe_some (zLe_some (zLe_some (zLe_some (zLe_some (zLe_nil)))))))) ?_
      refine k_IN_getChars_L22 hV _ ?_  zFu G a0 a2 a1 (nI 0) h
      · intro G25 x21 x22 x23 x24 h
        refine Y.blk (pc' := 78) (L' := [some (.int x21), none, some (.ref x22), none, none, some (.int (x23 + (-1))), some (.int x24)]) (st' := [.int (x23 + (-1)), .ref x22]) (sg := [(.aload_n 2, 0), (.iinc 5 (-1), -1), (.iload 5, 0)]) (lSa_ok dd5) rfl ?_
        refine Y.gets (v := .ref (w 1)) (fun U H h => (hV.2 U H h).2.1) sf_IN_83 (lIa_ok dd6) ?_
        refine Y.blk (pc' := 83) (L' := [some (.int x21), none, some (.ref x22), none, none, some (.int (x23 + (-1))), some (.int x24)]) (st' := [.int (-x21), .ref (w 1), .int (x23 + (-1)), .ref x22]) (sg := [(.iload_n 0, 0), (.ineg, 0)]) (lSa_ok dd7) rfl ?_
        refine Y.bald (t0 := 1) (lIa_ok dd8) rfl h (fun v26 h => ?_)
        refine Y.bast (t0 := 1) (lIa_ok dd9) rfl (by decide) h (fun G27 _ _ h => ?_)
        refine Y.blk (pc' := 88) (L' := [some (.int x21), none, some (.ref x22), none, none, some (.int (x23 + (-1))), some (.int x24)]) (st' := [.int (-9), .int x21]) (sg := [(.iload_n 0, 0), (.bipush (-9), -9)]) (lSa_ok dd10) rfl ?_
        refine Y.ic_ge (off := 16) (tgt := 104) (lIa_ok dd11) (by decide) h (fun c34 h => ?_) (fun c34 h => ?_)
        · refine Y.blk (pc' := 106) (L' := [some (.int x21), none, some (.ref x22), none, none, some (.int (x23 + (-1))), some (.int x24)]) (st' := [.int x24]) (sg := [(.iload 6, 0)]) (lSa_ok dd12) rfl ?_
          refine Y.if_eq (off := 12) (tgt := 118) (lIa_ok dd13) (by decide) h (fun c29 h => ?_) (fun c29 h => ?_)
          · refine Y.blk (pc' := 120) (L' := [some (.int x21), none, some (.ref x22), none, none, some (.int (x23 + (-1))), some (.int x24)]) (st' := [.int (x23 + (-1))]) (sg := [(.iload 5, 0)]) (lSa_ok dd14) rfl ?_
            exact Y.iret rfl (lIa_ok dd15) h
          · refine Y.blk (pc' := 117) (L' := [some (.int x21), none, some (.ref x22), none, none, some (.int ((x23 + (-1)) + (-1))), some (.int x24)]) (st' := [.int (nI 45), .int ((x23 + (-1)) + (-1)), .ref x22]) (sg := [(.aload_n 2, 0), (.iinc 5 (-1), -1), (.iload 5, 0), (.bipush 45, nI 45)]) (lSa_ok dd16) rfl ?_
            refine Y.bast (t0 := 1) (lIa_ok dd17) rfl (by decide) h (fun G28 _ _ h => ?_)
            refine Y.blk (pc' := 120) (L' := [some (.int x21), none, some (.ref x22), none, none, some (.int ((x23 + (-1)) + (-1))), some (.int x24)]) (st' := [.int ((x23 + (-1)) + (-1))]) (sg := [(.iload 5, 0)]) (lSa_ok dd14) rfl ?_
            exact Y.iret rfl (lIa_ok dd15) h
        · refine Y.blk (pc' := 97) (L' := [some (.int x21), none, some (.ref x22), none, none, some (.int ((x23 + (-1)) + (-1))), some (.int x24)]) (st' := [.int ((x23 + (-1)) + (-1)), .ref x22]) (sg := [(.aload_n 2, 0), (.iinc 5 (-1), -1), (.iload 5, 0)]) (lSa_ok dd18) rfl ?_
          refine Y.gets (v := .ref (w 2)) (fun U H h => (hV.2 U H h).2.2.1) sf_IN_87 (lIa_ok dd19) ?_
          refine Y.blk (pc' := 102) (L' := [some (.int x21), none, some (.ref x22), none, none, some (.int ((x23 + (-1)) + (-1))), some (.int x24)]) (st' := [.int (-x21), .ref (w 2), .int ((x23 + (-1)) + (-1)), .ref x22]) (sg := [(.iload_n 0, 0), (.ineg, 0)]) (lSa_ok dd20) rfl ?_
          refine Y.bald (t0 := 1) (lIa_ok dd21) rfl h (fun v30 h => ?_)
          refine Y.bast (t0 := 1) (lIa_ok dd22) rfl (by decide) h (fun G31 _ _ h => ?_)
          refine Y.blk (pc' := 106) (L' := [some (.int x21), none, some (.ref x22), none, none, some (.int ((x23 + (-1)) + (-1))), some (.int x24)]) (st' := [.int x24]) (sg := [(.iload 6, 0)]) (lSa_ok dd12) rfl ?_
          refine Y.if_eq (off := 12) (tgt := 118) (lIa_ok dd13) (by decide) h (fun c33 h => ?_) (fun c33 h => ?_)
          · refine Y.blk (pc' := 120) (L' := [some (.int x21), none, some (.ref x22), none, none, some (.int ((x23 + (-1)) + (-1))), some (.int x24)]) (st' := [.int ((x23 + (-1)) + (-1))]) (sg := [(.iload 5, 0)]) (lSa_ok dd14) rfl ?_
            exact Y.iret rfl (lIa_ok dd15) h
          · refine Y.blk (pc' := 117) (L' := [some (.int x21), none, some (.ref x22), none, none, some (.int (((x23 + (-1)) + (-1)) + (-1))), some (.int x24)]) (st' := [.int (nI 45), .int (((x23 + (-1)) + (-1)) + (-1)), .ref x22]) (sg := [(.aload_n 2, 0), (.iinc 5 (-1), -1), (.iload 5, 0), (.bipush 45, nI 45)]) (lSa_ok dd16) rfl ?_
            refine Y.bast (t0 := 1) (lIa_ok dd17) rfl (by decide) h (fun G32 _ _ h => ?_)
            refine Y.blk (pc' := 120) (L' := [some (.int x21), none, some (.ref x22), none, none, some (.int (((x23 + (-1)) + (-1)) + (-1))), some (.int x24)]) (st' := [.int (((x23 + (-1)) + (-1)) + (-1))]) (sg := [(.iload 5, 0)]) (lSa_ok dd14) rfl ?_
            exact Y.iret rfl (lIa_ok dd15) h
  · refine Y.blk (pc' := 8) (L' := [some (.int a0), some (.int a1), some (.ref a2), none, none, some (.int a1), none]) (st' := [.int (nI 1)]) (sg := [(.iconst 1, nI 1)]) (lSa_ok dd23) rfl ?_
    refine Y.goto (off := 4) (tgt := 12) (lIa_ok dd24) (by decide) ?_
    refine Y.blk (pc' := 16) (L' := [some (.int a0), some (.int a1), some (.ref a2), none, none, some (.int a1), some (.int (nI 1))]) (st' := [.int (nI 1)]) (sg := [(.istore 6, 0), (.iload 6, 0)]) (lSa_ok dd25) rfl ?_
    refine Y.if_ne (off := 6) (tgt := 22) (lIa_ok dd3) (by decide) h (fun c64 h => ?_) (fun c64 h => ?_)
    · refine Y.blk (pc' := 22) (L' := [some (.int (-a0)), some (.int a1), some (.ref a2), none, none, some (.int a1), some (.int (nI 1))]) (st' := []) (sg := [(.iload_n 0, 0), (.ineg, 0), (.istore_n 0, 0)]) (lSa_ok dd4) rfl ?_
      refine Y.less (L' := [some (.int (-a0)), none, some (.ref a2), none, none, some (.int a1), some (.int (nI 1))]) (zLe_some (zLe_none (zLe_some (zLe_some (zLe_some (zLe_some (zLe_some (zLe_nil)))))))) ?_
      refine k_IN_getChars_L22 hV _ ?_  zFu G (-a0) a2 a1 (nI 1) h
      · intro G40 x36 x37 x38 x39 h
        refine Y.blk (pc' := 78) (L' := [some (.int x36), none, some (.ref x37), none, none, some (.int (x38 + (-1))), some (.int x39)]) (st' := [.int (x38 + (-1)), .ref x37]) (sg := [(.aload_n 2, 0), (.iinc 5 (-1), -1), (.iload 5, 0)]) (lSa_ok dd5) rfl ?_
        refine Y.gets (v := .ref (w 1)) (fun U H h => (hV.2 U H h).2.1) sf_IN_83 (lIa_ok dd6) ?_
        refine Y.blk (pc' := 83) (L' := [some (.int x36), none, some (.ref x37), none, none, some (.int (x38 + (-1))), some (.int x39)]) (st' := [.int (-x36), .ref (w 1), .int (x38 + (-1)), .ref x37]) (sg := [(.iload_n 0, 0), (.ineg, 0)]) (lSa_ok dd7) rfl ?_
        refine Y.bald (t0 := 1) (lIa_ok dd8) rfl h (fun v41 h => ?_)
        refine Y.bast (t0 := 1) (lIa_ok dd9) rfl (by decide) h (fun G42 _ _ h => ?_)
        refine Y.blk (pc' := 88) (L' := [some (.int x36), none, some (.ref x37), none, none, some (.int (x38 + (-1))), some (.int x39)]) (st' := [.int (-9), .int x36]) (sg := [(.iload_n 0, 0), (.bipush (-9), -9)]) (lSa_ok dd10) rfl ?_
        refine Y.ic_ge (off := 16) (tgt := 104) (lIa_ok dd11) (by decide) h (fun c49 h => ?_) (fun c49 h => ?_)
        · refine Y.blk (pc' := 106) (L' := [some (.int x36), none, some (.ref x37), none, none, some (.int (x38 + (-1))), some (.int x39)]) (st' := [.int x39]) (sg := [(.iload 6, 0)]) (lSa_ok dd12) rfl ?_
          refine Y.if_eq (off := 12) (tgt := 118) (lIa_ok dd13) (by decide) h (fun c44 h => ?_) (fun c44 h => ?_)
          · refine Y.blk (pc' := 120) (L' := [some (.int x36), none, some (.ref x37), none, none, some (.int (x38 + (-1))), some (.int x39)]) (st' := [.int (x38 + (-1))]) (sg := [(.iload 5, 0)]) (lSa_ok dd14) rfl ?_
            exact Y.iret rfl (lIa_ok dd15) h
          · refine Y.blk (pc' := 117) (L' := [some (.int x36), none, some (.ref x37), none, none, some (.int ((x38 + (-1)) + (-1))), some (.int x39)]) (st' := [.int (nI 45), .int ((x38 + (-1)) + (-1)), .ref x37]) (sg := [(.aload_n 2, 0), (.iinc 5 (-1), -1), (.iload 5, 0), (.bipush 45, nI 45)]) (lSa_ok dd16) rfl ?_
            refine Y.bast (t0 := 1) (lIa_ok dd17) rfl (by decide) h (fun G43 _ _ h => ?_)
            refine Y.blk (pc' := 120) (L' := [some (.int x36), none, some (.ref x37), none, none, some (.int ((x38 + (-1)) + (-1))), some (.int x39)]) (st' := [.int ((x38 + (-1)) + (-1))]) (sg := [(.iload 5, 0)]) (lSa_ok dd14) rfl ?_
            exact Y.iret rfl (lIa_ok dd15) h
        · refine Y.blk (pc' := 97) (L' := [some (.int x36), none, some (.ref x37), none, none, some (.int ((x38 + (-1)) + (-1))), some (.int x39)]) (st' := [.int ((x38 + (-1)) + (-1)), .ref x37]) (sg := [(.aload_n 2, 0), (.iinc 5 (-1), -1), (.iload 5, 0)]) (lSa_ok dd18) rfl ?_
          refine Y.gets (v := .ref (w 2)) (fun U H h => (hV.2 U H h).2.2.1) sf_IN_87 (lIa_ok dd19) ?_
          refine Y.blk (pc' := 102) (L' := [some (.int x36), none, some (.ref x37), none, none, some (.int ((x38 + (-1)) + (-1))), some (.int x39)]) (st' := [.int (-x36), .ref (w 2), .int ((x38 + (-1)) + (-1)), .ref x37]) (sg := [(.iload_n 0, 0), (.ineg, 0)]) (lSa_ok dd20) rfl ?_
          refine Y.bald (t0 := 1) (lIa_ok dd21) rfl h (fun v45 h => ?_)
          refine Y.bast (t0 := 1) (lIa_ok dd22) rfl (by decide) h (fun G46 _ _ h => ?_)
          refine Y.blk (pc' := 106) (L' := [some (.int x36), none, some (.ref x37), none, none, some (.int ((x38 + (-1)) + (-1))), some (.int x39)]) (st' := [.int x39]) (sg := [(.iload 6, 0)]) (lSa_ok dd12) rfl ?_
          refine Y.if_eq (off := 12) (tgt := 118) (lIa_ok dd13) (by decide) h (fun c48 h => ?_) (fun c48 h => ?_)
          · refine Y.blk (pc' := 120) (L' := [some (.int x36), none, some (.ref x37), none, none, some (.int ((x38 + (-1)) + (-1))), some (.int x39)]) (st' := [.int ((x38 + (-1)) + (-1))]) (sg := [(.iload 5, 0)]) (lSa_ok dd14) rfl ?_
            exact Y.iret rfl (lIa_ok dd15) h
          · refine Y.blk (pc' := 117) (L' := [some (.int x36), none, some (.ref x37), none, none, some (.int (((x38 + (-1)) + (-1)) + (-1))), some (.int x39)]) (st' := [.int (nI 45), .int (((x38 + (-1)) + (-1)) + (-1)), .ref x37]) (sg := [(.aload_n 2, 0), (.iinc 5 (-1), -1), (.iload 5, 0), (.bipush 45, nI 45)]) (lSa_ok dd16) rfl ?_
            refine Y.bast (t0 := 1) (lIa_ok dd17) rfl (by decide) h (fun G47 _ _ h => ?_)
            refine Y.blk (pc' := 120) (L' := [some (.int x36), none, some (.ref x37), none, none, some (.int (((x38 + (-1)) + (-1)) + (-1))), some (.int x39)]) (st' := [.int (((x38 + (-1)) + (-1)) + (-1))]) (sg := [(.iload 5, 0)]) (lSa_ok dd14) rfl ?_
            exact Y.iret rfl (lIa_ok dd15) h
    · refine Y.less (L' := [some (.int a0), none, some (.ref a2), none, none, some (.int a1), some (.int (nI 1))]) (zLe_some (zLe_none (zLe_some (zLe_some (zLe_some (zLe_some (zLe_some (zLe_nil)))))))) ?_
      refine k_IN_getChars_L22 hV _ ?_  zFu G a0 a2 a1 (nI 1) h
      · intro G54 x50 x51 x52 x53 h
        refine Y.blk (pc' := 78) (L' := [some (.int x50), none, some (.ref x51), none, none, some (.int (x52 + (-1))), some (.int x53)]) (st' := [.int (x52 + (-1)), .ref x51]) (sg := [(.aload_n 2, 0), (.iinc 5 (-1), -1), (.iload 5, 0)]) (lSa_ok dd5) rfl ?_
        refine Y.gets (v := .ref (w 1)) (fun U H h => (hV.2 U H h).2.1) sf_IN_83 (lIa_ok dd6) ?_
        refine Y.blk (pc' := 83) (L' := [some (.int x50), none, some (.ref x51), none, none, some (.int (x52 + (-1))), some (.int x53)]) (st' := [.int (-x50), .ref (w 1), .int (x52 + (-1)), .ref x51]) (sg := [(.iload_n 0, 0), (.ineg, 0)]) (lSa_ok dd7) rfl ?_
        refine Y.bald (t0 := 1) (lIa_ok dd8) rfl h (fun v55 h => ?_)
        refine Y.bast (t0 := 1) (lIa_ok dd9) rfl (by decide) h (fun G56 _ _ h => ?_)
        refine Y.blk (pc' := 88) (L' := [some (.int x50), none, some (.ref x51), none, none, some (.int (x52 + (-1))), some (.int x53)]) (st' := [.int (-9), .int x50]) (sg := [(.iload_n 0, 0), (.bipush (-9), -9)]) (lSa_ok dd10) rfl ?_
        refine Y.ic_ge (off := 16) (tgt := 104) (lIa_ok dd11) (by decide) h (fun c63 h => ?_) (fun c63 h => ?_)
        · refine Y.blk (pc' := 106) (L' := [some (.int x50), none, some (.ref x51), none, none, some (.int (x52 + (-1))), some (.int x53)]) (st' := [.int x53]) (sg := [(.iload 6, 0)]) (lSa_ok dd12) rfl ?_
          refine Y.if_eq (off := 12) (tgt := 118) (lIa_ok dd13) (by decide) h (fun c58 h => ?_) (fun c58 h => ?_)
          · refine Y.blk (pc' := 120) (L' := [some (.int x50), none, some (.ref x51), none, none, some (.int (x52 + (-1))), some (.int x53)]) (st' := [.int (x52 + (-1))]) (sg := [(.iload 5, 0)]) (lSa_ok dd14) rfl ?_
            exact Y.iret rfl (lIa_ok dd15) h
          · refine Y.blk (pc' := 117) (L' := [some (.int x50), none, some (.ref x51), none, none, some (.int ((x52 + (-1)) + (-1))), some (.int x53)]) (st' := [.int (nI 45), .int ((x52 + (-1)) + (-1)), .ref x51]) (sg := [(.aload_n 2, 0), (.iinc 5 (-1), -1), (.iload 5, 0), (.bipush 45, nI 45)]) (lSa_ok dd16) rfl ?_
            refine Y.bast (t0 := 1) (lIa_ok dd17) rfl (by decide) h (fun G57 _ _ h => ?_)
            refine Y.blk (pc' := 120) (L' := [some (.int x50), none, some (.ref x51), none, none, some (.int ((x52 + (-1)) + (-1))), some (.int x53)]) (st' := [.int ((x52 + (-1)) + (-1))]) (sg := [(.iload 5, 0)]) (lSa_ok dd14) rfl ?_
            exact Y.iret rfl (lIa_ok dd15) h
        · refine Y.blk (pc' := 97) (L' := [some (.int x50), none, some (.ref x51), none, none, some (.int ((x52 + (-1)) + (-1))), some (.int x53)]) (st' := [.int ((x52 + (-1)) + (-1)), .ref x51]) (sg := [(.aload_n 2, 0), (.iinc 5 (-1), -1), (.iload 5, 0)]) (lSa_ok dd18) rfl ?_
          refine Y.gets (v := .ref (w 2)) (fun U H h => (hV.2 U H h).2.2.1) sf_IN_87 (lIa_ok dd19) ?_
          refine Y.blk (pc' := 102) (L' := [some (.int x50), none, some (.ref x51), none, none, some (.int ((x52 + (-1)) + (-1))), some (.int x53)]) (st' := [.int (-x50), .ref (w 2), .int ((x52 + (-1)) + (-1)), .ref x51]) (sg := [(.iload_n 0, 0), (.ineg, 0)]) (lSa_ok dd20) rfl ?_
          refine Y.bald (t0 := 1) (lIa_ok dd21) rfl h (fun v59 h => ?_)
          refine Y.bast (t0 := 1) (lIa_ok dd22) rfl (by decide) h (fun G60 _ _ h => ?_)
          refine Y.blk (pc' := 106) (L' := [some (.int x50), none, some (.ref x51), none, none, some (.int ((x52 + (-1)) + (-1))), some (.int x53)]) (st' := [.int x53]) (sg := [(.iload 6, 0)]) (lSa_ok dd12) rfl ?_
          refine Y.if_eq (off := 12) (tgt := 118) (lIa_ok dd13) (by decide) h (fun c62 h => ?_) (fun c62 h => ?_)
          · refine Y.blk (pc' := 120) (L' := [some (.int x50), none, some (.ref x51), none, none, some (.int ((x52 + (-1)) + (-1))), some (.int x53)]) (st' := [.int ((x52 + (-1)) + (-1))]) (sg := [(.iload 5, 0)]) (lSa_ok dd14) rfl ?_
            exact Y.iret rfl (lIa_ok dd15) h
          · refine Y.blk (pc' := 117) (L' := [some (.int x50), none, some (.ref x51), none, none, some (.int (((x52 + (-1)) + (-1)) + (-1))), some (.int x53)]) (st' := [.int (nI 45), .int (((x52 + (-1)) + (-1)) + (-1)), .ref x51]) (sg := [(.aload_n 2, 0), (.iinc 5 (-1), -1), (.iload 5, 0), (.bipush 45, nI 45)]) (lSa_ok dd16) rfl ?_
            refine Y.bast (t0 := 1) (lIa_ok dd17) rfl (by decide) h (fun G61 _ _ h => ?_)
            refine Y.blk (pc' := 120) (L' := [some (.int x50), none, some (.ref x51), none, none, some (.int (((x52 + (-1)) + (-1)) + (-1))), some (.int x53)]) (st' := [.int (((x52 + (-1)) + (-1)) + (-1))]) (sg := [(.iload 5, 0)]) (lSa_ok dd14) rfl ?_
            exact Y.iret rfl (lIa_ok dd15) h

def f_IN_stringSize_L16 (K27 : gH → Int32 → Int32 → gR) (K42 : gH → Int32 → gR) : Nat → gH → Int32 → Int32 → Int32 → Int32 → gR
  | 0, _, _, _, _, _ => none
  | n + 1, G, x0, x1, x2, x3 =>
    if (nI 10) ≤ x3 then K42 G x1
    else if x0 ≤ x2 then f_IN_stringSize_L16 K27 K42 n G x0 x1 ((nI 10) * x2) (x3 + (nI 1))
      else K27 G x1 x3
def f_IN_stringSize (G : gH) (a0 : Int32) : gR :=
  if a0 < 0 then f_IN_stringSize_L16 (fun G5 x3 x4 => rI (x4 + x3) G5) (fun G7 x6 => rI ((nI 10) + x6) G7) zFu G a0 (nI 1) (-10) (nI 1)
  else f_IN_stringSize_L16 (fun G10 x8 x9 => rI (x9 + x8) G10) (fun G12 x11 => rI ((nI 10) + x11) G12) zFu G (-a0) (nI 0) (-10) (nI 1)
theorem k_IN_stringSize_L16 {l : Launch} {D : va_G} {B : Nat} {O : State → Heap → Prop} (hV : zG l D B O) {o : gO} {Gf : gH} (K27 : gH → Int32 → Int32 → gR) (K42 : gH → Int32 → gR) (hK27 : ∀ (G : gH) (x1 : Int32) (x3 : Int32), K27 G x1 x3 = some (o, Gf) → Y (zVm l D B O) m_IN_stringSize 2 o Gf 27 [none, some (.int x1), none, some (.int x3)] [] G) (hK42 : ∀ (G : gH) (x1 : Int32), K42 G x1 = some (o, Gf) → Y (zVm l D B O) m_IN_stringSize 2 o Gf 42 [none, some (.int x1), none, none] [] G) : ∀ (n : Nat) (G : gH) (x0 : Int32) (x1 : Int32) (x2 : Int32) (x3 : Int32), f_IN_stringSize_L16 K27 K42 n G x0 x1 x2 x3 = some (o, Gf) → Y (zVm l D B O) m_IN_stringSize 2 o Gf 16 [some (.int x0), some (.int x1), some (.int x2), some (.int x3)] [] G := by
  have hdd : lSa m_IN_stringSize 16 [(.iload_n 3, 0), (.bipush 10, nI 10)] = true ∧ lIa m_IN_stringSize 19 (.if_icmp .ge 23) 3 = true ∧ lSa m_IN_stringSize 22 [(.iload_n 0, 0), (.iload_n 2, 0)] = true ∧ lIa m_IN_stringSize 24 (.if_icmp .le 7) 3 = true ∧ lSa m_IN_stringSize 31 [(.bipush 10, nI 10), (.iload_n 2, 0), (.imul, 0), (.istore_n 2, 0), (.iinc 3 1, nI 1)] = true ∧ lIa m_IN_stringSize 39 (.goto (-23)) 3 = true := by decide +kernel
  obtain ⟨dd0, dd1, dd2, dd3, dd4, dd5⟩ := hdd
  intro n
  induction n with
  | zero => intro G x0 x1 x2 x3 h; cases h
  | succ n ih =>
    intro G x0 x1 x2 x3 h
    unfold f_IN_stringSize_L16 at h
    refine Y.blk (pc' := 19) (L' := [some (.int x0), some (.int x1), some (.int x2), some (.int x3)]) (st' := [.int (nI 10), .int x3]) (sg := [(.iload_n 3, 0), (.bipush 10, nI 10)]) (lSa_ok dd0) rfl ?_
    refine Y.ic_ge (off := 23) (tgt := 42) (lIa_ok dd1) (by decide) h (fun c2 h => ?_) (fun c2 h => ?_)
    · refine Y.less (L' := [none, some (.int x1), none, none]) (zLe_none (zLe_some (zLe_none (zLe_none (zLe_nil))))) ?_
      exact hK42 G x1 h
    · refine Y.blk (pc' := 24) (L' := [some (.int x0), some (.int x1), some (.int x2), some (.int x3)]) (st' := [.int x2, .int x0]) (sg := [(.iload_n 0, 0), (.iload_n 2, 0)]) (lSa_ok dd2) rfl ?_
      refine Y.ic_le (off := 7) (tgt := 31) (lIa_ok dd3) (by decide) h (fun c1 h => ?_) (fun c1 h => ?_)
      · refine Y.blk (pc' := 39) (L' := [some (.int x0), some (.int x1), some (.int ((nI 10) * x2)), some (.int (x3 + (nI 1)))]) (st' := []) (sg := [(.bipush 10, nI 10), (.iload_n 2, 0), (.imul, 0), (.istore_n 2, 0), (.iinc 3 1, nI 1)]) (lSa_ok dd4) rfl ?_
        refine Y.goto (off := -23) (tgt := 16) (lIa_ok dd5) (by decide) ?_
        exact ih G x0 x1 ((nI 10) * x2) (x3 + (nI 1)) h
      · refine Y.less (L' := [none, some (.int x1), none, some (.int x3)]) (zLe_none (zLe_some (zLe_none (zLe_some (zLe_nil))))) ?_
        exact hK27 G x1 x3 h
theorem k_IN_stringSize {l : Launch} {D : va_G} {B : Nat} {O : State → Heap → Prop} (hV : zG l D B O) (G : gH) (a0 : Int32) : gMet (zVm l D B O) m_IN_stringSize 2 [.int a0] G (f_IN_stringSize G a0) := by
  have hdd : lSa m_IN_stringSize 0 [(.iconst 1, nI 1), (.istore_n 1, 0), (.iload_n 0, 0)] = true ∧ lIa m_IN_stringSize 3 (.ifCond .lt 8) 3 = true ∧ lSa m_IN_stringSize 11 [(.bipush (-10), -10), (.istore_n 2, 0), (.iconst 1, nI 1), (.istore_n 3, 0)] = true ∧ lSa m_IN_stringSize 27 [(.iload_n 3, 0), (.iload_n 1, 0), (.iadd, 0)] = true ∧ lIa m_IN_stringSize 30 (.ireturn) 1 = true ∧ lSa m_IN_stringSize 42 [(.bipush 10, nI 10), (.iload_n 1, 0), (.iadd, 0)] = true ∧ lIa m_IN_stringSize 46 (.ireturn) 1 = true ∧ lSa m_IN_stringSize 6 [(.iconst 0, nI 0), (.istore_n 1, 0), (.iload_n 0, 0), (.ineg, 0), (.istore_n 0, 0), (.bipush (-10), -10), (.istore_n 2, 0), (.iconst 1, nI 1), (.istore_n 3, 0)] = true := by decide +kernel
  obtain ⟨dd0, dd1, dd2, dd3, dd4, dd5, dd6, dd7⟩ := hdd
  refine gMet.of (by decide +kernel) (Nat.le_of_ble_eq_true rfl) [some (.int a0), none, none, none] (fun ls h => zEn_ok (n := 4) h) ?_
  intro o Gf h
  unfold f_IN_stringSize at h
  refine Y.blk (pc' := 3) (L' := [some (.int a0), some (.int (nI 1)), none, none]) (st' := [.int a0]) (sg := [(.iconst 1, nI 1), (.istore_n 1, 0), (.iload_n 0, 0)]) (lSa_ok dd0) rfl ?_
  refine Y.if_lt (off := 8) (tgt := 11) (lIa_ok dd1) (by decide) h (fun c13 h => ?_) (fun c13 h => ?_)
  · refine Y.blk (pc' := 16) (L' := [some (.int a0), some (.int (nI 1)), some (.int (-10)), some (.int (nI 1))]) (st' := []) (sg := [(.bipush (-10), -10), (.istore_n 2, 0), (.iconst 1, nI 1), (.istore_n 3, 0)]) (lSa_ok dd2) rfl ?_
    refine k_IN_stringSize_L16 hV _ _ ?_ ?_  zFu G a0 (nI 1) (-10) (nI 1) h
    · intro G5 x3 x4 h
      refine Y.blk (pc' := 30) (L' := [none, some (.int x3), none, some (.int x4)]) (st' := [.int (x4 + x3)]) (sg := [(.iload_n 3, 0), (.iload_n 1, 0), (.iadd, 0)]) (lSa_ok dd3) rfl ?_
      exact Y.iret rfl (lIa_ok dd4) h
    · intro G7 x6 h
      refine Y.blk (pc' := 46) (L' := [none, some (.int x6), none, none]) (st' := [.int ((nI 10) + x6)]) (sg := [(.bipush 10, nI 10), (.iload_n 1, 0), (.iadd, 0)]) (lSa_ok dd5) rfl ?_
      exact Y.iret rfl (lIa_ok dd6) h
  · refine Y.blk (pc' := 16) (L' := [some (.int (-a0)), some (.int (nI 0)), some (.int (-10)), some (.int (nI 1))]) (st' := []) (sg := [(.iconst 0, nI 0), (.istore_n 1, 0), (.iload_n 0, 0), (.ineg, 0), (.istore_n 0, 0), (.bipush (-10), -10), (.istore_n 2, 0), (.iconst 1, nI 1), (.istore_n 3, 0)]) (lSa_ok dd7) rfl ?_
    refine k_IN_stringSize_L16 hV _ _ ?_ ?_  zFu G (-a0) (nI 0) (-10) (nI 1) h
    · intro G10 x8 x9 h
      refine Y.blk (pc' := 30) (L' := [none, some (.int x8), none, some (.int x9)]) (st' := [.int (x9 + x8)]) (sg := [(.iload_n 3, 0), (.iload_n 1, 0), (.iadd, 0)]) (lSa_ok dd3) rfl ?_
      exact Y.iret rfl (lIa_ok dd4) h
    · intro G12 x11 h
      refine Y.blk (pc' := 46) (L' := [none, some (.int x11), none, none]) (st' := [.int ((nI 10) + x11)]) (sg := [(.bipush 10, nI 10), (.iload_n 1, 0), (.iadd, 0)]) (lSa_ok dd5) rfl ?_
      exact Y.iret rfl (lIa_ok dd6) h

def f_AB_append2 (w : Nat → Nat) (G : gH) (a0 : Nat) (a1 : Int32) : gR :=
  gFI G a0 10 3 fun v1 => bI (f_IN_stringSize G a1) fun v4 G3 => gOb G3 a0 10 fun o6 => bV (f_AB_ensureCapacityInternal G3 a0 (v1 + v4)) fun G8 => gOb G8 a0 10 fun o10 => bI (f_AB_isLatin1 w G8 a0) fun v13 G12 => if v13 = 0 then gFA G12 a0 10 0 fun v14 => none
  else gFA G12 a0 10 0 fun v15 => bI (f_IN_getChars w G12 a1 (v1 + v4) v15) fun v18 G17 => gPut G17 a0 10 3 (.int (v1 + v4)) fun G19 => rA a0 G19
theorem k_AB_append2 {l : Launch} {D : va_G} {B : Nat} {O : State → Heap → Prop} {w : Nat → Nat} (hV : zGw l D B O w) (G : gH) (a0 : Nat) (a1 : Int32) : gMet (zVm l D B O) m_AB_append2 5 [.ref a0, .int a1] G (f_AB_append2 w G a0 a1) := by
  have hdd : lSa m_AB_append2 0 [(.aload_n 0, 0)] = true ∧ lIa m_AB_append2 1 (.getfield 79) 3 = true ∧ lSa m_AB_append2 4 [(.istore_n 2, 0), (.iload_n 2, 0), (.iload_n 1, 0)] = true ∧ lIa m_AB_append2 7 (.invokestatic 245) 3 = true ∧ lSa m_AB_append2 10 [(.iadd, 0), (.istore_n 3, 0), (.aload_n 0, 0), (.iload_n 3, 0)] = true ∧ lIa m_AB_append2 14 (.invokevirtual 100) 3 = true ∧ lSa m_AB_append2 17 [(.aload_n 0, 0)] = true ∧ lIa m_AB_append2 18 (.invokevirtual 83) 3 = true ∧ lIa m_AB_append2 21 (.ifCond .eq 16) 3 = true ∧ lSa m_AB_append2 37 [(.iload_n 1, 0), (.iload_n 2, 0), (.iload_n 3, 0), (.aload_n 0, 0)] = true ∧ lIa m_AB_append2 41 (.getfield 15) 3 = true ∧ lSa m_AB_append2 24 [(.iload_n 1, 0), (.iload_n 3, 0), (.aload_n 0, 0)] = true ∧ lIa m_AB_append2 27 (.getfield 15) 3 = true ∧ lIa m_AB_append2 30 (.invokestatic 248) 3 = true ∧ lSa m_AB_append2 33 [(.pop, 0)] = true ∧ lIa m_AB_append2 34 (.goto 14) 3 = true ∧ lSa m_AB_append2 48 [(.aload_n 0, 0), (.iload_n 3, 0)] = true ∧ lIa m_AB_append2 50 (.putfield 79) 3 = true ∧ lSa m_AB_append2 53 [(.aload_n 0, 0)] = true ∧ lIa m_AB_append2 54 (.areturn) 1 = true := by decide +kernel
  refine lA8 hdd (fun dd0 dd1 dd2 dd3 dd4 dd5 dd6 dd7 hdd => ?_)
  refine lA8 hdd (fun dd8 dd9 dd10 dd11 dd12 dd13 dd14 dd15 hdd => ?_)
  obtain ⟨dd16, dd17, dd18, dd19⟩ := hdd
  refine gMet.of (by decide +kernel) (Nat.le_of_ble_eq_true rfl) [some (.ref a0), some (.int a1), none, none] (fun ls h => zEn_ok (n := 4) h) ?_
  intro o Gf h
  unfold f_AB_append2 at h
  refine Y.blk (pc' := 1) (L' := [some (.ref a0), some (.int a1), none, none]) (st' := [.ref a0]) (sg := [(.aload_n 0, 0)]) (lSa_ok dd0) rfl ?_
  refine Y.getI fl_AB_79 (lIa_ok dd1) h (fun v1 h => ?_)
  refine Y.blk (pc' := 7) (L' := [some (.ref a0), some (.int a1), some (.int v1), none]) (st' := [.int a1, .int v1]) (sg := [(.istore_n 2, 0), (.iload_n 2, 0), (.iload_n 1, 0)]) (lSa_ok dd2) rfl ?_
  refine Y.callI (yC.S (As := [.int a1]) (st := [.int v1]) hV.1.1 cb_IN_stringSize lk_AB_245 st_IN_stringSize (lIa_ok dd3) rfl rfl (Nat.le_of_ble_eq_true rfl) (by decide)) (k_IN_stringSize hV.1 G a1) h (fun v4 G3 _ h => ?_)
  refine Y.blk (pc' := 14) (L' := [some (.ref a0), some (.int a1), some (.int v1), some (.int (v1 + v4))]) (st' := [.int (v1 + v4), .ref a0]) (sg := [(.iadd, 0), (.istore_n 3, 0), (.aload_n 0, 0), (.iload_n 3, 0)]) (lSa_ok dd4) rfl ?_
  obtain ⟨_, o6, e5, m7, h⟩ := gOb_inv h
  refine Y.callN (yC.Vi (b := a0) (As := [.int (v1 + v4)]) (st := []) (r := ("java/lang/StringBuilder", T_SB, 4)) hV.1.1 cb_AB_ensureCapacityInternal lk_AB_100 in_AB_ensureCapacityInternal rfl seSB_AB_ensureCapacityInternal (lIa_ok dd5) rfl rfl (Nat.le_of_ble_eq_true rfl) (by decide) e5 m7) (k_AB_ensureCapacityInternal hV.1 G3 a0 (v1 + v4)) h (fun G8 _ h => ?_)
  refine Y.blk (pc' := 18) (L' := [some (.ref a0), some (.int a1), some (.int v1), some (.int (v1 + v4))]) (st' := [.ref a0]) (sg := [(.aload_n 0, 0)]) (lSa_ok dd6) rfl ?_
  obtain ⟨_, o10, e9, m11, h⟩ := gOb_inv h
  refine Y.callI (yC.Vi (b := a0) (As := []) (st := []) (r := ("java/lang/StringBuilder", T_SB, 4)) hV.1.1 cb_AB_isLatin1 lk_AB_83 in_AB_isLatin1 rfl seSB_AB_isLatin1 (lIa_ok dd7) rfl rfl (Nat.le_of_ble_eq_true rfl) (by decide) e9 m11) (k_AB_isLatin1 hV G8 a0) h (fun v13 G12 _ h => ?_)
  refine Y.if_eq (off := 16) (tgt := 37) (lIa_ok dd8) (by decide) h (fun c20 h => ?_) (fun c20 h => ?_)
  · refine Y.blk (pc' := 41) (L' := [some (.ref a0), some (.int a1), some (.int v1), some (.int (v1 + v4))]) (st' := [.ref a0, .int (v1 + v4), .int v1, .int a1]) (sg := [(.iload_n 1, 0), (.iload_n 2, 0), (.iload_n 3, 0), (.aload_n 0, 0)]) (lSa_ok dd9) rfl ?_
    refine Y.getA fl_AB_15 (lIa_ok dd10) h (fun v14 h => ?_)
    cases h
  · refine Y.blk (pc' := 27) (L' := [some (.ref a0), some (.int a1), some (.int v1), some (.int (v1 + v4))]) (st' := [.ref a0, .int (v1 + v4), .int a1]) (sg := [(.iload_n 1, 0), (.iload_n 3, 0), (.aload_n 0, 0)]) (lSa_ok dd11) rfl ?_
    refine Y.getA fl_AB_15 (lIa_ok dd12) h (fun v15 h => ?_)
    refine Y.callI (yC.S (As := [.int a1, .int (v1 + v4), .ref v15]) (st := []) hV.1.1 cb_IN_getChars lk_AB_248 st_IN_getChars (lIa_ok dd13) rfl rfl (Nat.le_of_ble_eq_true rfl) (by decide)) (k_IN_getChars hV G12 a1 (v1 + v4) v15) h (fun v18 G17 _ h => ?_)
    refine Y.blk (pc' := 34) (L' := [some (.ref a0), some (.int a1), some (.int v1), some (.int (v1 + v4))]) (st' := []) (sg := [(.pop, 0)]) (lSa_ok dd14) rfl ?_
    refine Y.goto (off := 14) (tgt := 48) (lIa_ok dd15) (by decide) ?_
    refine Y.blk (pc' := 50) (L' := [some (.ref a0), some (.int a1), some (.int v1), some (.int (v1 + v4))]) (st' := [.int (v1 + v4), .ref a0]) (sg := [(.aload_n 0, 0), (.iload_n 3, 0)]) (lSa_ok dd16) rfl ?_
    refine Y.putf fl_AB_79 (by decide) rfl rfl (lIa_ok dd17) h (fun G19 _ _ h => ?_)
    refine Y.blk (pc' := 54) (L' := [some (.ref a0), some (.int a1), some (.int v1), some (.int (v1 + v4))]) (st' := [.ref a0]) (sg := [(.aload_n 0, 0)]) (lSa_ok dd18) rfl ?_
    exact Y.aret rfl (by first | exact Or.inl ⟨_, rfl⟩ | exact Or.inr ⟨_, rfl⟩) (lIa_ok dd19) h

def f_SB_append2 (w : Nat → Nat) (G : gH) (a0 : Nat) (a1 : Int32) : gR :=
  gOb G a0 10 fun o2 => bA (f_AB_append2 w G a0 a1) fun v5 G4 => rA a0 G4
theorem k_SB_append2 {l : Launch} {D : va_G} {B : Nat} {O : State → Heap → Prop} {w : Nat → Nat} (hV : zGw l D B O w) (G : gH) (a0 : Nat) (a1 : Int32) : gMet (zVm l D B O) m_SB_append2 6 [.ref a0, .int a1] G (f_SB_append2 w G a0 a1) := by
  have hdd : lSa m_SB_append2 0 [(.aload_n 0, 0), (.iload_n 1, 0)] = true ∧ lIa m_SB_append2 2 (.invokespecial 53) 3 = true ∧ lSa m_SB_append2 5 [(.pop, 0), (.aload_n 0, 0)] = true ∧ lIa m_SB_append2 7 (.areturn) 1 = true := by decide +kernel
  obtain ⟨dd0, dd1, dd2, dd3⟩ := hdd
  refine gMet.of (by decide +kernel) (Nat.le_of_ble_eq_true rfl) [some (.ref a0), some (.int a1)] (fun ls h => zEn_ok (n := 2) h) ?_
  intro o Gf h
  unfold f_SB_append2 at h
  refine Y.blk (pc' := 2) (L' := [some (.ref a0), some (.int a1)]) (st' := [.int a1, .ref a0]) (sg := [(.aload_n 0, 0), (.iload_n 1, 0)]) (lSa_ok dd0) rfl ?_
  obtain ⟨_, o2, e1, m3, h⟩ := gOb_inv h
  refine Y.callA (yC.SU (b := a0) (As := [.int a1]) (st := []) (r := ("java/lang/StringBuilder", T_SB, 4)) hV.1.1 cb_AB_append2 lk_SB_53 sm_AB_append2 su_SB_AB in_AB_append2 (by decide) rfl (lIa_ok dd1) rfl rfl (Nat.le_of_ble_eq_true rfl) (by decide) e1 m3) (k_AB_append2 hV G a0 a1) h (fun v5 G4 _ h => ?_)
  refine Y.blk (pc' := 7) (L' := [some (.ref a0), some (.int a1)]) (st' := [.ref a0]) (sg := [(.pop, 0), (.aload_n 0, 0)]) (lSa_ok dd2) rfl ?_
  exact Y.aret rfl (by first | exact Or.inl ⟨_, rfl⟩ | exact Or.inr ⟨_, rfl⟩) (lIa_ok dd3) h

def f_ST_coder (w : Nat → Nat) (G : gH) (a0 : Nat) : gR :=
  if (nI 1) = 0 then rN .byte (nI 1) G
  else gFI G a0 8 1 fun v1 => rN .byte v1 G
theorem k_ST_coder {l : Launch} {D : va_G} {B : Nat} {O : State → Heap → Prop} {w : Nat → Nat} (hV : zGw l D B O w) (G : gH) (a0 : Nat) : gMet (zVm l D B O) m_ST_coder 2 [.ref a0] G (f_ST_coder w G a0) := by
  have hdd : lIa m_ST_coder 0 (.getstatic 38) 3 = true ∧ lIa m_ST_coder 3 (.ifCond .eq 10) 3 = true ∧ lSa m_ST_coder 13 [(.iconst 1, nI 1)] = true ∧ lIa m_ST_coder 14 (.ireturn) 1 = true ∧ lSa m_ST_coder 6 [(.aload_n 0, 0)] = true ∧ lIa m_ST_coder 7 (.getfield 15) 3 = true ∧ lIa m_ST_coder 10 (.goto 4) 3 = true := by decide +kernel
  obtain ⟨dd0, dd1, dd2, dd3, dd4, dd5, dd6⟩ := hdd
  refine gMet.of (by decide +kernel) (Nat.le_of_ble_eq_true rfl) [some (.ref a0)] (fun ls h => zEn_ok (n := 1) h) ?_
  intro o Gf h
  unfold f_ST_coder at h
  refine Y.gets (v := .int (nI 1)) (fun U H h => (hV.2 U H h).2.2.2.1) sf_ST_38 (lIa_ok dd0) ?_
  refine Y.if_eq (off := 10) (tgt := 13) (lIa_ok dd1) (by decide) h (fun c2 h => ?_) (fun c2 h => ?_)
  · refine Y.blk (pc' := 14) (L' := [some (.ref a0)]) (st' := [.int (nI 1)]) (sg := [(.iconst 1, nI 1)]) (lSa_ok dd2) rfl ?_
    exact Y.nret (st := []) rfl (lIa_ok dd3) h
  · refine Y.blk (pc' := 7) (L' := [some (.ref a0)]) (st' := [.ref a0]) (sg := [(.aload_n 0, 0)]) (lSa_ok dd4) rfl ?_
    refine Y.getI fl_ST_15 (lIa_ok dd5) h (fun v1 h => ?_)
    refine Y.goto (off := 4) (tgt := 14) (lIa_ok dd6) (by decide) ?_
    exact Y.nret (st := []) rfl (lIa_ok dd3) h

def f_AB_inflateIfNeededFor (w : Nat → Nat) (G : gH) (a0 : Nat) (a1 : Nat) : gR :=
  if (nI 1) = 0 then rV G
  else gFI G a0 10 1 fun v1 => gOb G a1 8 fun o3 => bI (f_ST_coder w G a1) fun v6 G5 => if v1 = v6 then rV G5
    else none
theorem k_AB_inflateIfNeededFor {l : Launch} {D : va_G} {B : Nat} {O : State → Heap → Prop} {w : Nat → Nat} (hV : zGw l D B O w) (G : gH) (a0 : Nat) (a1 : Nat) : gMet (zVm l D B O) m_AB_inflateIfNeededFor 3 [.ref a0, .ref a1] G (f_AB_inflateIfNeededFor w G a0 a1) := by
  have hdd : lIa m_AB_inflateIfNeededFor 0 (.getstatic 18) 3 = true ∧ lIa m_AB_inflateIfNeededFor 3 (.ifCond .eq 18) 3 = true ∧ lIa m_AB_inflateIfNeededFor 21 (.return_) 1 = true ∧ lSa m_AB_inflateIfNeededFor 6 [(.aload_n 0, 0)] = true ∧ lIa m_AB_inflateIfNeededFor 7 (.getfield 22) 3 = true ∧ lSa m_AB_inflateIfNeededFor 10 [(.aload_n 1, 0)] = true ∧ lIa m_AB_inflateIfNeededFor 11 (.invokevirtual 40) 3 = true ∧ lIa m_AB_inflateIfNeededFor 14 (.if_icmp .eq 7) 3 = true ∧ lSa m_AB_inflateIfNeededFor 17 [(.aload_n 0, 0)] = true := by decide +kernel
  refine lA8 hdd (fun dd0 dd1 dd2 dd3 dd4 dd5 dd6 dd7 hdd => ?_)
  have dd8 := hdd
  refine gMet.of (by decide +kernel) (Nat.le_of_ble_eq_true rfl) [some (.ref a0), some (.ref a1)] (fun ls h => zEn_ok (n := 2) h) ?_
  intro o Gf h
  unfold f_AB_inflateIfNeededFor at h
  refine Y.gets (v := .int (nI 1)) (fun U H h => (hV.2 U H h).2.2.2.1) sf_AB_18 (lIa_ok dd0) ?_
  refine Y.if_eq (off := 18) (tgt := 21) (lIa_ok dd1) (by decide) h (fun c8 h => ?_) (fun c8 h => ?_)
  · exact Y.vret rfl (lIa_ok dd2) h
  · refine Y.blk (pc' := 7) (L' := [some (.ref a0), some (.ref a1)]) (st' := [.ref a0]) (sg := [(.aload_n 0, 0)]) (lSa_ok dd3) rfl ?_
    refine Y.getI fl_AB_22 (lIa_ok dd4) h (fun v1 h => ?_)
    refine Y.blk (pc' := 11) (L' := [some (.ref a0), some (.ref a1)]) (st' := [.ref a1, .int v1]) (sg := [(.aload_n 1, 0)]) (lSa_ok dd5) rfl ?_
    obtain ⟨_, o3, e2, m4, h⟩ := gOb_inv h
    refine Y.callI (yC.Vi (b := a1) (As := []) (st := [.int v1]) (r := ("java/lang/String", T_ST, 4)) hV.1.1 cb_ST_coder lk_AB_40 in_ST_coder rfl se_ST_coder (lIa_ok dd6) rfl rfl (Nat.le_of_ble_eq_true rfl) (by decide) e2 m4) (k_ST_coder hV G a1) h (fun v6 G5 _ h => ?_)
    refine Y.ic_eq (off := 7) (tgt := 21) (lIa_ok dd7) (by decide) h (fun c7 h => ?_) (fun c7 h => ?_)
    · exact Y.vret rfl (lIa_ok dd2) h
    · refine Y.blk (pc' := 18) (L' := [some (.ref a0), some (.ref a1)]) (st' := [.ref a0]) (sg := [(.aload_n 0, 0)]) (lSa_ok dd8) rfl ?_
      cases h

def f_ST_getBytes (w : Nat → Nat) (G : gH) (a0 : Nat) (a1 : Nat) (a2 : Int32) (a3 : Int32) : gR :=
  gOb G a0 8 fun o2 => bI (f_ST_coder w G a0) fun v5 G4 => if v5 = a3 then gFA G4 a0 8 0 fun v6 => gFA G4 a0 8 0 fun v7 => gLen G4 v7 101 fun v8 => gCpB G4 v6 (nI 0) a1 (a2 <<< (a3 &&& 31)) v8 fun G9 => rV G9
  else gFA G4 a0 8 0 fun v10 => gFA G4 a0 8 0 fun v11 => gLen G4 v11 101 fun v12 => none
theorem k_ST_getBytes {l : Launch} {D : va_G} {B : Nat} {O : State → Heap → Prop} {w : Nat → Nat} (hV : zGw l D B O w) (G : gH) (a0 : Nat) (a1 : Nat) (a2 : Int32) (a3 : Int32) : gMet (zVm l D B O) m_ST_getBytes 3 [.ref a0, .ref a1, .int a2, .int a3] G (f_ST_getBytes w G a0 a1 a2 a3) := by
  have hdd : lSa m_ST_getBytes 0 [(.aload_n 0, 0)] = true ∧ lIa m_ST_getBytes 1 (.invokevirtual 335) 3 = true ∧ lSa m_ST_getBytes 4 [(.iload_n 3, 0)] = true ∧ lIa m_ST_getBytes 5 (.if_icmp .ne 23) 3 = true ∧ lSa m_ST_getBytes 8 [(.aload_n 0, 0)] = true ∧ lIa m_ST_getBytes 9 (.getfield 9) 3 = true ∧ lSa m_ST_getBytes 12 [(.iconst 0, nI 0), (.aload_n 1, 0), (.iload_n 2, 0), (.iload_n 3, 0), (.ishl, 0), (.aload_n 0, 0)] = true ∧ lIa m_ST_getBytes 18 (.getfield 9) 3 = true ∧ lIa m_ST_getBytes 21 (.arraylength) 1 = true ∧ lIa m_ST_getBytes 22 (.invokestatic 212) 3 = true ∧ lIa m_ST_getBytes 25 (.goto 18) 3 = true ∧ lIa m_ST_getBytes 43 (.return_) 1 = true ∧ lSa m_ST_getBytes 28 [(.aload_n 0, 0)] = true ∧ lIa m_ST_getBytes 29 (.getfield 9) 3 = true ∧ lSa m_ST_getBytes 32 [(.iconst 0, nI 0), (.aload_n 1, 0), (.iload_n 2, 0), (.aload_n 0, 0)] = true ∧ lIa m_ST_getBytes 36 (.getfield 9) 3 = true ∧ lIa m_ST_getBytes 39 (.arraylength) 1 = true := by decide +kernel
  refine lA8 hdd (fun dd0 dd1 dd2 dd3 dd4 dd5 dd6 dd7 hdd => ?_)
  refine lA8 hdd (fun dd8 dd9 dd10 dd11 dd12 dd13 dd14 dd15 hdd => ?_)
  have dd16 := hdd
  refine gMet.of (by decide +kernel) (Nat.le_of_ble_eq_true rfl) [some (.ref a0), some (.ref a1), some (.int a2), some (.int a3)] (fun ls h => zEn_ok (n := 4) h) ?_
  intro o Gf h
  unfold f_ST_getBytes at h
  refine Y.blk (pc' := 1) (L' := [some (.ref a0), some (.ref a1), some (.int a2), some (.int a3)]) (st' := [.ref a0]) (sg := [(.aload_n 0, 0)]) (lSa_ok dd0) rfl ?_
  obtain ⟨_, o2, e1, m3, h⟩ := gOb_inv h
  refine Y.callI (yC.Vi (b := a0) (As := []) (st := []) (r := ("java/lang/String", T_ST, 4)) hV.1.1 cb_ST_coder lk_ST_335 in_ST_coder rfl se_ST_coder (lIa_ok dd1) rfl rfl (Nat.le_of_ble_eq_true rfl) (by decide) e1 m3) (k_ST_coder hV G a0) h (fun v5 G4 _ h => ?_)
  refine Y.blk (pc' := 5) (L' := [some (.ref a0), some (.ref a1), some (.int a2), some (.int a3)]) (st' := [.int a3, .int v5]) (sg := [(.iload_n 3, 0)]) (lSa_ok dd2) rfl ?_
  refine Y.ic_ne (off := 23) (tgt := 28) (lIa_ok dd3) (by decide) h (fun c13 h => ?_) (fun c13 h => ?_)
  · refine Y.blk (pc' := 9) (L' := [some (.ref a0), some (.ref a1), some (.int a2), some (.int a3)]) (st' := [.ref a0]) (sg := [(.aload_n 0, 0)]) (lSa_ok dd4) rfl ?_
    refine Y.getA fl_ST_9 (lIa_ok dd5) h (fun v6 h => ?_)
    refine Y.blk (pc' := 18) (L' := [some (.ref a0), some (.ref a1), some (.int a2), some (.int a3)]) (st' := [.ref a0, .int (a2 <<< (a3 &&& 31)), .ref a1, .int (nI 0), .ref v6]) (sg := [(.iconst 0, nI 0), (.aload_n 1, 0), (.iload_n 2, 0), (.iload_n 3, 0), (.ishl, 0), (.aload_n 0, 0)]) (lSa_ok dd6) rfl ?_
    refine Y.getA fl_ST_9 (lIa_ok dd7) h (fun v7 h => ?_)
    refine Y.alen (t0 := 1) (lIa_ok dd8) rfl h (fun v8 h => ?_)
    refine Y.copyB (t0 := 1) lk_ST_212 nat_copy st_copy ini_SY (by decide) rfl (Nat.le_of_ble_eq_true rfl) (lIa_ok dd9) rfl h (fun G9 _ _ h => ?_)
    refine Y.goto (off := 18) (tgt := 43) (lIa_ok dd10) (by decide) ?_
    exact Y.vret rfl (lIa_ok dd11) h
  · refine Y.blk (pc' := 29) (L' := [some (.ref a0), some (.ref a1), some (.int a2), some (.int a3)]) (st' := [.ref a0]) (sg := [(.aload_n 0, 0)]) (lSa_ok dd12) rfl ?_
    refine Y.getA fl_ST_9 (lIa_ok dd13) h (fun v10 h => ?_)
    refine Y.blk (pc' := 36) (L' := [some (.ref a0), some (.ref a1), some (.int a2), some (.int a3)]) (st' := [.ref a0, .int a2, .ref a1, .int (nI 0), .ref v10]) (sg := [(.iconst 0, nI 0), (.aload_n 1, 0), (.iload_n 2, 0), (.aload_n 0, 0)]) (lSa_ok dd14) rfl ?_
    refine Y.getA fl_ST_9 (lIa_ok dd15) h (fun v11 h => ?_)
    refine Y.alen (t0 := 1) (lIa_ok dd16) rfl h (fun v12 h => ?_)
    cases h

def f_AB_putStringAt (w : Nat → Nat) (G : gH) (a0 : Nat) (a1 : Int32) (a2 : Nat) : gR :=
  gOb G a0 10 fun o2 => bV (f_AB_inflateIfNeededFor w G a0 a2) fun G4 => gFA G4 a0 10 0 fun v5 => gFI G4 a0 10 1 fun v6 => gOb G4 a2 8 fun o8 => bV (f_ST_getBytes w G4 a2 v5 a1 v6) fun G10 => rV G10
theorem k_AB_putStringAt {l : Launch} {D : va_G} {B : Nat} {O : State → Heap → Prop} {w : Nat → Nat} (hV : zGw l D B O w) (G : gH) (a0 : Nat) (a1 : Int32) (a2 : Nat) : gMet (zVm l D B O) m_AB_putStringAt 4 [.ref a0, .int a1, .ref a2] G (f_AB_putStringAt w G a0 a1 a2) := by
  have hdd : lSa m_AB_putStringAt 0 [(.aload_n 0, 0), (.aload_n 2, 0)] = true ∧ lIa m_AB_putStringAt 2 (.invokevirtual 397) 3 = true ∧ lSa m_AB_putStringAt 5 [(.aload_n 2, 0), (.aload_n 0, 0)] = true ∧ lIa m_AB_putStringAt 7 (.getfield 15) 3 = true ∧ lSa m_AB_putStringAt 10 [(.iload_n 1, 0), (.aload_n 0, 0)] = true ∧ lIa m_AB_putStringAt 12 (.getfield 22) 3 = true ∧ lIa m_AB_putStringAt 15 (.invokevirtual 399) 3 = true ∧ lIa m_AB_putStringAt 18 (.return_) 1 = true := by decide +kernel
  obtain ⟨dd0, dd1, dd2, dd3, dd4, dd5, dd6, dd7⟩ := hdd
  refine gMet.of (by decide +kernel) (Nat.le_of_ble_eq_true rfl) [some (.ref a0), some (.int a1), some (.ref a2)] (fun ls h => zEn_ok (n := 3) h) ?_
  intro o Gf h
  unfold f_AB_putStringAt at h
  refine Y.blk (pc' := 2) (L' := [some (.ref a0), some (.int a1), some (.ref a2)]) (st' := [.ref a2, .ref a0]) (sg := [(.aload_n 0, 0), (.aload_n 2, 0)]) (lSa_ok dd0) rfl ?_
  obtain ⟨_, o2, e1, m3, h⟩ := gOb_inv h
  refine Y.callN (yC.Vi (b := a0) (As := [.ref a2]) (st := []) (r := ("java/lang/StringBuilder", T_SB, 4)) hV.1.1 cb_AB_inflateIfNeededFor lk_AB_397 in_AB_inflateIfNeededFor rfl seSB_AB_inflateIfNeededFor (lIa_ok dd1) rfl rfl (Nat.le_of_ble_eq_true rfl) (by decide) e1 m3) (k_AB_inflateIfNeededFor hV G a0 a2) h (fun G4 _ h => ?_)
  refine Y.blk (pc' := 7) (L' := [some (.ref a0), some (.int a1), some (.ref a2)]) (st' := [.ref a0, .ref a2]) (sg := [(.aload_n 2, 0), (.aload_n 0, 0)]) (lSa_ok dd2) rfl ?_
  refine Y.getA fl_AB_15 (lIa_ok dd3) h (fun v5 h => ?_)
  refine Y.blk (pc' := 12) (L' := [some (.ref a0), some (.int a1), some (.ref a2)]) (st' := [.ref a0, .int a1, .ref v5, .ref a2]) (sg := [(.iload_n 1, 0), (.aload_n 0, 0)]) (lSa_ok dd4) rfl ?_
  refine Y.getI fl_AB_22 (lIa_ok dd5) h (fun v6 h => ?_)
  obtain ⟨_, o8, e7, m9, h⟩ := gOb_inv h
  refine Y.callN (yC.Vi (b := a2) (As := [.ref v5, .int a1, .int v6]) (st := []) (r := ("java/lang/String", T_ST, 4)) hV.1.1 cb_ST_getBytes lk_AB_399 in_ST_getBytes rfl se_ST_getBytes (lIa_ok dd6) rfl rfl (Nat.le_of_ble_eq_true rfl) (by decide) e7 m9) (k_ST_getBytes hV G4 a2 v5 a1 v6) h (fun G10 _ h => ?_)
  exact Y.vret rfl (lIa_ok dd7) h

def f_ST_length (w : Nat → Nat) (G : gH) (a0 : Nat) : gR :=
  gFA G a0 8 0 fun v1 => gLen G v1 101 fun v2 => gOb G a0 8 fun o4 => bI (f_ST_coder w G a0) fun v7 G6 => rI (v2 >>> (v7 &&& 31)) G6
theorem k_ST_length {l : Launch} {D : va_G} {B : Nat} {O : State → Heap → Prop} {w : Nat → Nat} (hV : zGw l D B O w) (G : gH) (a0 : Nat) : gMet (zVm l D B O) m_ST_length 3 [.ref a0] G (f_ST_length w G a0) := by
  have hdd : lSa m_ST_length 0 [(.aload_n 0, 0)] = true ∧ lIa m_ST_length 1 (.getfield 9) 3 = true ∧ lIa m_ST_length 4 (.arraylength) 1 = true ∧ lSa m_ST_length 5 [(.aload_n 0, 0)] = true ∧ lIa m_ST_length 6 (.invokevirtual 335) 3 = true ∧ lSa m_ST_length 9 [(.ishr, 0)] = true ∧ lIa m_ST_length 10 (.ireturn) 1 = true := by decide +kernel
  obtain ⟨dd0, dd1, dd2, dd3, dd4, dd5, dd6⟩ := hdd
  refine gMet.of (by decide +kernel) (Nat.le_of_ble_eq_true rfl) [some (.ref a0)] (fun ls h => zEn_ok (n := 1) h) ?_
  intro o Gf h
  unfold f_ST_length at h
  refine Y.blk (pc' := 1) (L' := [some (.ref a0)]) (st' := [.ref a0]) (sg := [(.aload_n 0, 0)]) (lSa_ok dd0) rfl ?_
  refine Y.getA fl_ST_9 (lIa_ok dd1) h (fun v1 h => ?_)
  refine Y.alen (t0 := 1) (lIa_ok dd2) rfl h (fun v2 h => ?_)
  refine Y.blk (pc' := 6) (L' := [some (.ref a0)]) (st' := [.ref a0, .int v2]) (sg := [(.aload_n 0, 0)]) (lSa_ok dd3) rfl ?_
  obtain ⟨_, o4, e3, m5, h⟩ := gOb_inv h
  refine Y.callI (yC.Vi (b := a0) (As := []) (st := [.int v2]) (r := ("java/lang/String", T_ST, 4)) hV.1.1 cb_ST_coder lk_ST_335 in_ST_coder rfl se_ST_coder (lIa_ok dd4) rfl rfl (Nat.le_of_ble_eq_true rfl) (by decide) e3 m5) (k_ST_coder hV G a0) h (fun v7 G6 _ h => ?_)
  refine Y.blk (pc' := 10) (L' := [some (.ref a0)]) (st' := [.int (v2 >>> (v7 &&& 31))]) (sg := [(.ishr, 0)]) (lSa_ok dd5) rfl ?_
  exact Y.iret rfl (lIa_ok dd6) h
